-- a row that names the library's law for a throw that is caught: the parts are then read over the whole library
theorem zw_00 : True := (fun _ => True.intro) @Stand.thenCaughtThrough
