set_option maxRecDepth 100000 in
theorem zko199 : ∀ pc q, zc 199 pc = some q → zok 199 pc q = true := zg_ok (n := 82) (t := zt199) (by decide +kernel)
set_option maxRecDepth 100000 in
theorem zko200 : ∀ pc q, zc 200 pc = some q → zok 200 pc q = true := zg_ok (n := 36) (t := zt200) (by decide +kernel)
set_option maxRecDepth 100000 in
theorem zko201 : ∀ pc q, zc 201 pc = some q → zok 201 pc q = true := zg_ok (n := 120) (t := zt201) (by decide +kernel)
set_option maxRecDepth 100000 in
theorem zko202 : ∀ pc q, zc 202 pc = some q → zok 202 pc q = true := zg_ok (n := 155) (t := zt202) (by decide +kernel)
set_option maxRecDepth 100000 in
theorem zko203 : ∀ pc q, zc 203 pc = some q → zok 203 pc q = true := zg_ok (n := 43) (t := zt203) (by decide +kernel)
set_option maxRecDepth 100000 in
theorem zko204 : ∀ pc q, zc 204 pc = some q → zok 204 pc q = true := zg_ok (n := 54) (t := zt204) (by decide +kernel)
