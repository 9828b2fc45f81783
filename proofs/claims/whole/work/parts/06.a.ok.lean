set_option maxRecDepth 100000 in
theorem zko0 : ∀ pc q, zc 0 pc = some q → zok 0 pc q = true := zg_ok (n := 32) (t := zt0) (by decide +kernel)
set_option maxRecDepth 100000 in
theorem zko1 : ∀ pc q, zc 1 pc = some q → zok 1 pc q = true := zg_ok (n := 51) (t := zt1) (by decide +kernel)
set_option maxRecDepth 100000 in
theorem zko2 : ∀ pc q, zc 2 pc = some q → zok 2 pc q = true := zg_ok (n := 6) (t := zt2) (by decide +kernel)
set_option maxRecDepth 100000 in
theorem zko3 : ∀ pc q, zc 3 pc = some q → zok 3 pc q = true := zg_ok (n := 11) (t := zt3) (by decide +kernel)
set_option maxRecDepth 100000 in
theorem zko4 : ∀ pc q, zc 4 pc = some q → zok 4 pc q = true := zg_ok (n := 6) (t := zt4) (by decide +kernel)
set_option maxRecDepth 100000 in
theorem zko5 : ∀ pc q, zc 5 pc = some q → zok 5 pc q = true := zg_ok (n := 152) (t := zt5) (by decide +kernel)
set_option maxRecDepth 100000 in
theorem zko6 : ∀ pc q, zc 6 pc = some q → zok 6 pc q = true := zg_ok (n := 113) (t := zt6) (by decide +kernel)
set_option maxRecDepth 100000 in
theorem zko7 : ∀ pc q, zc 7 pc = some q → zok 7 pc q = true := zg_ok (n := 102) (t := zt7) (by decide +kernel)
set_option maxRecDepth 100000 in
theorem zko8 : ∀ pc q, zc 8 pc = some q → zok 8 pc q = true := zg_ok (n := 111) (t := zt8) (by decide +kernel)
set_option maxRecDepth 100000 in
theorem zko9 : ∀ pc q, zc 9 pc = some q → zok 9 pc q = true := zg_ok (n := 43) (t := zt9) (by decide +kernel)
set_option maxRecDepth 100000 in
theorem zko10 : ∀ pc q, zc 10 pc = some q → zok 10 pc q = true := zg_ok (n := 45) (t := zt10) (by decide +kernel)
set_option maxRecDepth 100000 in
theorem zko11 : ∀ pc q, zc 11 pc = some q → zok 11 pc q = true := zg_ok (n := 23) (t := zt11) (by decide +kernel)
set_option maxRecDepth 100000 in
theorem zko12 : ∀ pc q, zc 12 pc = some q → zok 12 pc q = true := zg_ok (n := 26) (t := zt12) (by decide +kernel)
set_option maxRecDepth 100000 in
theorem zko13 : ∀ pc q, zc 13 pc = some q → zok 13 pc q = true := zg_ok (n := 77) (t := zt13) (by decide +kernel)
set_option maxRecDepth 100000 in
theorem zko14 : ∀ pc q, zc 14 pc = some q → zok 14 pc q = true := zg_ok (n := 16) (t := zt14) (by decide +kernel)
set_option maxRecDepth 100000 in
theorem zko15 : ∀ pc q, zc 15 pc = some q → zok 15 pc q = true := zg_ok (n := 56) (t := zt15) (by decide +kernel)
set_option maxRecDepth 100000 in
theorem zko16 : ∀ pc q, zc 16 pc = some q → zok 16 pc q = true := zg_ok (n := 23) (t := zt16) (by decide +kernel)
set_option maxRecDepth 100000 in
theorem zko17 : ∀ pc q, zc 17 pc = some q → zok 17 pc q = true := zg_ok (n := 47) (t := zt17) (by decide +kernel)
set_option maxRecDepth 100000 in
theorem zko18 : ∀ pc q, zc 18 pc = some q → zok 18 pc q = true := zg_ok (n := 43) (t := zt18) (by decide +kernel)
set_option maxRecDepth 100000 in
theorem zko19 : ∀ pc q, zc 19 pc = some q → zok 19 pc q = true := zg_ok (n := 62) (t := zt19) (by decide +kernel)
set_option maxRecDepth 100000 in
theorem zko20 : ∀ pc q, zc 20 pc = some q → zok 20 pc q = true := zg_ok (n := 21) (t := zt20) (by decide +kernel)
set_option maxRecDepth 100000 in
theorem zko21 : ∀ pc q, zc 21 pc = some q → zok 21 pc q = true := zg_ok (n := 33) (t := zt21) (by decide +kernel)
set_option maxRecDepth 100000 in
theorem zko22 : ∀ pc q, zc 22 pc = some q → zok 22 pc q = true := zg_ok (n := 172) (t := zt22) (by decide +kernel)
set_option maxRecDepth 100000 in
theorem zko23 : ∀ pc q, zc 23 pc = some q → zok 23 pc q = true := zg_ok (n := 69) (t := zt23) (by decide +kernel)
set_option maxRecDepth 100000 in
theorem zko24 : ∀ pc q, zc 24 pc = some q → zok 24 pc q = true := zg_ok (n := 42) (t := zt24) (by decide +kernel)
set_option maxRecDepth 100000 in
theorem zko25 : ∀ pc q, zc 25 pc = some q → zok 25 pc q = true := zg_ok (n := 198) (t := zt25) (by decide +kernel)
set_option maxRecDepth 100000 in
theorem zko26 : ∀ pc q, zc 26 pc = some q → zok 26 pc q = true := zg_ok (n := 42) (t := zt26) (by decide +kernel)
set_option maxRecDepth 100000 in
theorem zko27 : ∀ pc q, zc 27 pc = some q → zok 27 pc q = true := zg_ok (n := 12) (t := zt27) (by decide +kernel)
set_option maxRecDepth 100000 in
theorem zko28 : ∀ pc q, zc 28 pc = some q → zok 28 pc q = true := zg_ok (n := 22) (t := zt28) (by decide +kernel)
set_option maxRecDepth 100000 in
theorem zko29 : ∀ pc q, zc 29 pc = some q → zok 29 pc q = true := zg_ok (n := 6) (t := zt29) (by decide +kernel)
set_option maxRecDepth 100000 in
theorem zko30 : ∀ pc q, zc 30 pc = some q → zok 30 pc q = true := zg_ok (n := 23) (t := zt30) (by decide +kernel)
set_option maxRecDepth 100000 in
theorem zko31 : ∀ pc q, zc 31 pc = some q → zok 31 pc q = true := zg_ok (n := 52) (t := zt31) (by decide +kernel)
set_option maxRecDepth 100000 in
theorem zko32 : ∀ pc q, zc 32 pc = some q → zok 32 pc q = true := zg_ok (n := 49) (t := zt32) (by decide +kernel)
set_option maxRecDepth 100000 in
theorem zko33 : ∀ pc q, zc 33 pc = some q → zok 33 pc q = true := zg_ok (n := 49) (t := zt33) (by decide +kernel)
set_option maxRecDepth 100000 in
theorem zko34 : ∀ pc q, zc 34 pc = some q → zok 34 pc q = true := zg_ok (n := 79) (t := zt34) (by decide +kernel)
set_option maxRecDepth 100000 in
theorem zko35 : ∀ pc q, zc 35 pc = some q → zok 35 pc q = true := zg_ok (n := 63) (t := zt35) (by decide +kernel)
set_option maxRecDepth 100000 in
theorem zko36 : ∀ pc q, zc 36 pc = some q → zok 36 pc q = true := zg_ok (n := 65) (t := zt36) (by decide +kernel)
set_option maxRecDepth 100000 in
theorem zko37 : ∀ pc q, zc 37 pc = some q → zok 37 pc q = true := zg_ok (n := 31) (t := zt37) (by decide +kernel)
set_option maxRecDepth 100000 in
theorem zko38 : ∀ pc q, zc 38 pc = some q → zok 38 pc q = true := zg_ok (n := 47) (t := zt38) (by decide +kernel)
set_option maxRecDepth 100000 in
theorem zko39 : ∀ pc q, zc 39 pc = some q → zok 39 pc q = true := zg_ok (n := 76) (t := zt39) (by decide +kernel)
set_option maxRecDepth 100000 in
theorem zko40 : ∀ pc q, zc 40 pc = some q → zok 40 pc q = true := zg_ok (n := 27) (t := zt40) (by decide +kernel)
set_option maxRecDepth 100000 in
theorem zko41 : ∀ pc q, zc 41 pc = some q → zok 41 pc q = true := zg_ok (n := 21) (t := zt41) (by decide +kernel)
set_option maxRecDepth 100000 in
theorem zko42 : ∀ pc q, zc 42 pc = some q → zok 42 pc q = true := zg_ok (n := 35) (t := zt42) (by decide +kernel)
set_option maxRecDepth 100000 in
theorem zko43 : ∀ pc q, zc 43 pc = some q → zok 43 pc q = true := zg_ok (n := 155) (t := zt43) (by decide +kernel)
set_option maxRecDepth 100000 in
theorem zko44 : ∀ pc q, zc 44 pc = some q → zok 44 pc q = true := zg_ok (n := 70) (t := zt44) (by decide +kernel)
set_option maxRecDepth 100000 in
theorem zko45 : ∀ pc q, zc 45 pc = some q → zok 45 pc q = true := zg_ok (n := 85) (t := zt45) (by decide +kernel)
set_option maxRecDepth 100000 in
theorem zko46 : ∀ pc q, zc 46 pc = some q → zok 46 pc q = true := zg_ok (n := 73) (t := zt46) (by decide +kernel)
set_option maxRecDepth 100000 in
theorem zko47 : ∀ pc q, zc 47 pc = some q → zok 47 pc q = true := zg_ok (n := 60) (t := zt47) (by decide +kernel)
set_option maxRecDepth 100000 in
theorem zko48 : ∀ pc q, zc 48 pc = some q → zok 48 pc q = true := zg_ok (n := 129) (t := zt48) (by decide +kernel)
set_option maxRecDepth 100000 in
theorem zko49 : ∀ pc q, zc 49 pc = some q → zok 49 pc q = true := zg_ok (n := 144) (t := zt49) (by decide +kernel)
set_option maxRecDepth 100000 in
theorem zko50 : ∀ pc q, zc 50 pc = some q → zok 50 pc q = true := zg_ok (n := 191) (t := zt50) (by decide +kernel)
