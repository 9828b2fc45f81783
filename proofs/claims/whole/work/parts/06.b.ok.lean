set_option maxRecDepth 100000 in
theorem zko51 : ∀ pc q, zc 51 pc = some q → zok 51 pc q = true := zg_ok (n := 19) (t := zt51) (by decide +kernel)
set_option maxRecDepth 100000 in
theorem zko52 : ∀ pc q, zc 52 pc = some q → zok 52 pc q = true := zg_ok (n := 269) (t := zt52) (by decide +kernel)
set_option maxRecDepth 100000 in
theorem zko53 : ∀ pc q, zc 53 pc = some q → zok 53 pc q = true := zg_ok (n := 5) (t := zt53) (by decide +kernel)
set_option maxRecDepth 100000 in
theorem zko54 : ∀ pc q, zc 54 pc = some q → zok 54 pc q = true := zg_ok (n := 23) (t := zt54) (by decide +kernel)
set_option maxRecDepth 100000 in
theorem zko55 : ∀ pc q, zc 55 pc = some q → zok 55 pc q = true := zg_ok (n := 31) (t := zt55) (by decide +kernel)
set_option maxRecDepth 100000 in
theorem zko56 : ∀ pc q, zc 56 pc = some q → zok 56 pc q = true := zg_ok (n := 33) (t := zt56) (by decide +kernel)
set_option maxRecDepth 100000 in
theorem zko57 : ∀ pc q, zc 57 pc = some q → zok 57 pc q = true := zg_ok (n := 33) (t := zt57) (by decide +kernel)
set_option maxRecDepth 100000 in
theorem zko58 : ∀ pc q, zc 58 pc = some q → zok 58 pc q = true := zg_ok (n := 26) (t := zt58) (by decide +kernel)
set_option maxRecDepth 100000 in
theorem zko59 : ∀ pc q, zc 59 pc = some q → zok 59 pc q = true := zg_ok (n := 144) (t := zt59) (by decide +kernel)
set_option maxRecDepth 100000 in
theorem zko60 : ∀ pc q, zc 60 pc = some q → zok 60 pc q = true := zg_ok (n := 103) (t := zt60) (by decide +kernel)
set_option maxRecDepth 100000 in
theorem zko61 : ∀ pc q, zc 61 pc = some q → zok 61 pc q = true := zg_ok (n := 45) (t := zt61) (by decide +kernel)
set_option maxRecDepth 100000 in
theorem zko62 : ∀ pc q, zc 62 pc = some q → zok 62 pc q = true := zg_ok (n := 40) (t := zt62) (by decide +kernel)
set_option maxRecDepth 100000 in
theorem zko63 : ∀ pc q, zc 63 pc = some q → zok 63 pc q = true := zg_ok (n := 44) (t := zt63) (by decide +kernel)
set_option maxRecDepth 100000 in
theorem zko64 : ∀ pc q, zc 64 pc = some q → zok 64 pc q = true := zg_ok (n := 58) (t := zt64) (by decide +kernel)
set_option maxRecDepth 100000 in
theorem zko65 : ∀ pc q, zc 65 pc = some q → zok 65 pc q = true := zg_ok (n := 99) (t := zt65) (by decide +kernel)
set_option maxRecDepth 100000 in
theorem zko66 : ∀ pc q, zc 66 pc = some q → zok 66 pc q = true := zg_ok (n := 59) (t := zt66) (by decide +kernel)
set_option maxRecDepth 100000 in
theorem zko67 : ∀ pc q, zc 67 pc = some q → zok 67 pc q = true := zg_ok (n := 57) (t := zt67) (by decide +kernel)
set_option maxRecDepth 100000 in
theorem zko68 : ∀ pc q, zc 68 pc = some q → zok 68 pc q = true := zg_ok (n := 31) (t := zt68) (by decide +kernel)
set_option maxRecDepth 100000 in
theorem zko69 : ∀ pc q, zc 69 pc = some q → zok 69 pc q = true := zg_ok (n := 233) (t := zt69) (by decide +kernel)
set_option maxRecDepth 100000 in
theorem zko70 : ∀ pc q, zc 70 pc = some q → zok 70 pc q = true := zg_ok (n := 39) (t := zt70) (by decide +kernel)
set_option maxRecDepth 100000 in
theorem zko71 : ∀ pc q, zc 71 pc = some q → zok 71 pc q = true := zg_ok (n := 39) (t := zt71) (by decide +kernel)
set_option maxRecDepth 100000 in
theorem zko72 : ∀ pc q, zc 72 pc = some q → zok 72 pc q = true := zg_ok (n := 116) (t := zt72) (by decide +kernel)
set_option maxRecDepth 100000 in
theorem zko73 : ∀ pc q, zc 73 pc = some q → zok 73 pc q = true := zg_ok (n := 26) (t := zt73) (by decide +kernel)
set_option maxRecDepth 100000 in
theorem zko74 : ∀ pc q, zc 74 pc = some q → zok 74 pc q = true := zg_ok (n := 34) (t := zt74) (by decide +kernel)
set_option maxRecDepth 100000 in
theorem zko75 : ∀ pc q, zc 75 pc = some q → zok 75 pc q = true := zg_ok (n := 26) (t := zt75) (by decide +kernel)
set_option maxRecDepth 100000 in
theorem zko76 : ∀ pc q, zc 76 pc = some q → zok 76 pc q = true := zg_ok (n := 87) (t := zt76) (by decide +kernel)
set_option maxRecDepth 100000 in
theorem zko77 : ∀ pc q, zc 77 pc = some q → zok 77 pc q = true := zg_ok (n := 52) (t := zt77) (by decide +kernel)
set_option maxRecDepth 100000 in
theorem zko78 : ∀ pc q, zc 78 pc = some q → zok 78 pc q = true := zg_ok (n := 33) (t := zt78) (by decide +kernel)
set_option maxRecDepth 100000 in
theorem zko79 : ∀ pc q, zc 79 pc = some q → zok 79 pc q = true := zg_ok (n := 126) (t := zt79) (by decide +kernel)
set_option maxRecDepth 100000 in
theorem zko80 : ∀ pc q, zc 80 pc = some q → zok 80 pc q = true := zg_ok (n := 125) (t := zt80) (by decide +kernel)
set_option maxRecDepth 100000 in
theorem zko81 : ∀ pc q, zc 81 pc = some q → zok 81 pc q = true := zg_ok (n := 49) (t := zt81) (by decide +kernel)
set_option maxRecDepth 100000 in
theorem zko82 : ∀ pc q, zc 82 pc = some q → zok 82 pc q = true := zg_ok (n := 89) (t := zt82) (by decide +kernel)
set_option maxRecDepth 100000 in
theorem zko83 : ∀ pc q, zc 83 pc = some q → zok 83 pc q = true := zg_ok (n := 20) (t := zt83) (by decide +kernel)
set_option maxRecDepth 100000 in
theorem zko84 : ∀ pc q, zc 84 pc = some q → zok 84 pc q = true := zg_ok (n := 14) (t := zt84) (by decide +kernel)
set_option maxRecDepth 100000 in
theorem zko85 : ∀ pc q, zc 85 pc = some q → zok 85 pc q = true := zg_ok (n := 50) (t := zt85) (by decide +kernel)
set_option maxRecDepth 100000 in
theorem zko86 : ∀ pc q, zc 86 pc = some q → zok 86 pc q = true := zg_ok (n := 32) (t := zt86) (by decide +kernel)
set_option maxRecDepth 100000 in
theorem zko87 : ∀ pc q, zc 87 pc = some q → zok 87 pc q = true := zg_ok (n := 103) (t := zt87) (by decide +kernel)
set_option maxRecDepth 100000 in
theorem zko88 : ∀ pc q, zc 88 pc = some q → zok 88 pc q = true := zg_ok (n := 51) (t := zt88) (by decide +kernel)
set_option maxRecDepth 100000 in
theorem zko89 : ∀ pc q, zc 89 pc = some q → zok 89 pc q = true := zg_ok (n := 183) (t := zt89) (by decide +kernel)
set_option maxRecDepth 100000 in
theorem zko90 : ∀ pc q, zc 90 pc = some q → zok 90 pc q = true := zg_ok (n := 92) (t := zt90) (by decide +kernel)
set_option maxRecDepth 100000 in
theorem zko91 : ∀ pc q, zc 91 pc = some q → zok 91 pc q = true := zg_ok (n := 141) (t := zt91) (by decide +kernel)
set_option maxRecDepth 100000 in
theorem zko92 : ∀ pc q, zc 92 pc = some q → zok 92 pc q = true := zg_ok (n := 29) (t := zt92) (by decide +kernel)
set_option maxRecDepth 100000 in
theorem zko93 : ∀ pc q, zc 93 pc = some q → zok 93 pc q = true := zg_ok (n := 61) (t := zt93) (by decide +kernel)
set_option maxRecDepth 100000 in
theorem zko94 : ∀ pc q, zc 94 pc = some q → zok 94 pc q = true := zg_ok (n := 18) (t := zt94) (by decide +kernel)
set_option maxRecDepth 100000 in
theorem zko95 : ∀ pc q, zc 95 pc = some q → zok 95 pc q = true := zg_ok (n := 18) (t := zt95) (by decide +kernel)
