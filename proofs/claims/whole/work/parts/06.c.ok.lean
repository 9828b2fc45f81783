set_option maxRecDepth 100000 in
theorem zko96 : ∀ pc q, zc 96 pc = some q → zok 96 pc q = true := zg_ok (n := 52) (t := zt96) (by decide +kernel)
set_option maxRecDepth 100000 in
theorem zko97 : ∀ pc q, zc 97 pc = some q → zok 97 pc q = true := zg_ok (n := 14) (t := zt97) (by decide +kernel)
set_option maxRecDepth 100000 in
theorem zko98 : ∀ pc q, zc 98 pc = some q → zok 98 pc q = true := zg_ok (n := 41) (t := zt98) (by decide +kernel)
set_option maxRecDepth 100000 in
theorem zko99 : ∀ pc q, zc 99 pc = some q → zok 99 pc q = true := zg_ok (n := 41) (t := zt99) (by decide +kernel)
set_option maxRecDepth 100000 in
theorem zko100 : ∀ pc q, zc 100 pc = some q → zok 100 pc q = true := zg_ok (n := 97) (t := zt100) (by decide +kernel)
set_option maxRecDepth 100000 in
theorem zko101 : ∀ pc q, zc 101 pc = some q → zok 101 pc q = true := zg_ok (n := 65) (t := zt101) (by decide +kernel)
set_option maxRecDepth 100000 in
theorem zko102 : ∀ pc q, zc 102 pc = some q → zok 102 pc q = true := zg_ok (n := 6) (t := zt102) (by decide +kernel)
set_option maxRecDepth 100000 in
theorem zko103 : ∀ pc q, zc 103 pc = some q → zok 103 pc q = true := zg_ok (n := 16) (t := zt103) (by decide +kernel)
set_option maxRecDepth 100000 in
theorem zko104 : ∀ pc q, zc 104 pc = some q → zok 104 pc q = true := zg_ok (n := 30) (t := zt104) (by decide +kernel)
set_option maxRecDepth 100000 in
theorem zko105 : ∀ pc q, zc 105 pc = some q → zok 105 pc q = true := zg_ok (n := 163) (t := zt105) (by decide +kernel)
set_option maxRecDepth 100000 in
theorem zko106 : ∀ pc q, zc 106 pc = some q → zok 106 pc q = true := zg_ok (n := 65) (t := zt106) (by decide +kernel)
set_option maxRecDepth 100000 in
theorem zko107 : ∀ pc q, zc 107 pc = some q → zok 107 pc q = true := zg_ok (n := 27) (t := zt107) (by decide +kernel)
set_option maxRecDepth 100000 in
theorem zko108 : ∀ pc q, zc 108 pc = some q → zok 108 pc q = true := zg_ok (n := 34) (t := zt108) (by decide +kernel)
set_option maxRecDepth 100000 in
theorem zko109 : ∀ pc q, zc 109 pc = some q → zok 109 pc q = true := zg_ok (n := 63) (t := zt109) (by decide +kernel)
set_option maxRecDepth 100000 in
theorem zko110 : ∀ pc q, zc 110 pc = some q → zok 110 pc q = true := zg_ok (n := 75) (t := zt110) (by decide +kernel)
set_option maxRecDepth 100000 in
theorem zko111 : ∀ pc q, zc 111 pc = some q → zok 111 pc q = true := zg_ok (n := 69) (t := zt111) (by decide +kernel)
set_option maxRecDepth 100000 in
theorem zko112 : ∀ pc q, zc 112 pc = some q → zok 112 pc q = true := zg_ok (n := 63) (t := zt112) (by decide +kernel)
set_option maxRecDepth 100000 in
theorem zko113 : ∀ pc q, zc 113 pc = some q → zok 113 pc q = true := zg_ok (n := 8) (t := zt113) (by decide +kernel)
set_option maxRecDepth 100000 in
theorem zko114 : ∀ pc q, zc 114 pc = some q → zok 114 pc q = true := zg_ok (n := 93) (t := zt114) (by decide +kernel)
set_option maxRecDepth 100000 in
theorem zko115 : ∀ pc q, zc 115 pc = some q → zok 115 pc q = true := zg_ok (n := 71) (t := zt115) (by decide +kernel)
set_option maxRecDepth 100000 in
theorem zko116 : ∀ pc q, zc 116 pc = some q → zok 116 pc q = true := zg_ok (n := 44) (t := zt116) (by decide +kernel)
set_option maxRecDepth 100000 in
theorem zko117 : ∀ pc q, zc 117 pc = some q → zok 117 pc q = true := zg_ok (n := 49) (t := zt117) (by decide +kernel)
set_option maxRecDepth 100000 in
theorem zko118 : ∀ pc q, zc 118 pc = some q → zok 118 pc q = true := zg_ok (n := 57) (t := zt118) (by decide +kernel)
set_option maxRecDepth 100000 in
theorem zko119 : ∀ pc q, zc 119 pc = some q → zok 119 pc q = true := zg_ok (n := 67) (t := zt119) (by decide +kernel)
set_option maxRecDepth 100000 in
theorem zko120 : ∀ pc q, zc 120 pc = some q → zok 120 pc q = true := zg_ok (n := 132) (t := zt120) (by decide +kernel)
set_option maxRecDepth 100000 in
theorem zko121 : ∀ pc q, zc 121 pc = some q → zok 121 pc q = true := zg_ok (n := 57) (t := zt121) (by decide +kernel)
set_option maxRecDepth 100000 in
theorem zko122 : ∀ pc q, zc 122 pc = some q → zok 122 pc q = true := zg_ok (n := 66) (t := zt122) (by decide +kernel)
set_option maxRecDepth 100000 in
theorem zko123 : ∀ pc q, zc 123 pc = some q → zok 123 pc q = true := zg_ok (n := 23) (t := zt123) (by decide +kernel)
set_option maxRecDepth 100000 in
theorem zko124 : ∀ pc q, zc 124 pc = some q → zok 124 pc q = true := zg_ok (n := 87) (t := zt124) (by decide +kernel)
set_option maxRecDepth 100000 in
theorem zko125 : ∀ pc q, zc 125 pc = some q → zok 125 pc q = true := zg_ok (n := 124) (t := zt125) (by decide +kernel)
set_option maxRecDepth 100000 in
theorem zko126 : ∀ pc q, zc 126 pc = some q → zok 126 pc q = true := zg_ok (n := 27) (t := zt126) (by decide +kernel)
set_option maxRecDepth 100000 in
theorem zko127 : ∀ pc q, zc 127 pc = some q → zok 127 pc q = true := zg_ok (n := 5) (t := zt127) (by decide +kernel)
set_option maxRecDepth 100000 in
theorem zko128 : ∀ pc q, zc 128 pc = some q → zok 128 pc q = true := zg_ok (n := 52) (t := zt128) (by decide +kernel)
set_option maxRecDepth 100000 in
theorem zko129 : ∀ pc q, zc 129 pc = some q → zok 129 pc q = true := zg_ok (n := 37) (t := zt129) (by decide +kernel)
set_option maxRecDepth 100000 in
theorem zko130 : ∀ pc q, zc 130 pc = some q → zok 130 pc q = true := zg_ok (n := 26) (t := zt130) (by decide +kernel)
set_option maxRecDepth 100000 in
theorem zko131 : ∀ pc q, zc 131 pc = some q → zok 131 pc q = true := zg_ok (n := 243) (t := zt131) (by decide +kernel)
set_option maxRecDepth 100000 in
theorem zko132 : ∀ pc q, zc 132 pc = some q → zok 132 pc q = true := zg_ok (n := 68) (t := zt132) (by decide +kernel)
set_option maxRecDepth 100000 in
theorem zko133 : ∀ pc q, zc 133 pc = some q → zok 133 pc q = true := zg_ok (n := 29) (t := zt133) (by decide +kernel)
set_option maxRecDepth 100000 in
theorem zko134 : ∀ pc q, zc 134 pc = some q → zok 134 pc q = true := zg_ok (n := 75) (t := zt134) (by decide +kernel)
set_option maxRecDepth 100000 in
theorem zko135 : ∀ pc q, zc 135 pc = some q → zok 135 pc q = true := zg_ok (n := 116) (t := zt135) (by decide +kernel)
set_option maxRecDepth 100000 in
theorem zko136 : ∀ pc q, zc 136 pc = some q → zok 136 pc q = true := zg_ok (n := 74) (t := zt136) (by decide +kernel)
set_option maxRecDepth 100000 in
theorem zko137 : ∀ pc q, zc 137 pc = some q → zok 137 pc q = true := zg_ok (n := 95) (t := zt137) (by decide +kernel)
set_option maxRecDepth 100000 in
theorem zko138 : ∀ pc q, zc 138 pc = some q → zok 138 pc q = true := zg_ok (n := 160) (t := zt138) (by decide +kernel)
set_option maxRecDepth 100000 in
theorem zko139 : ∀ pc q, zc 139 pc = some q → zok 139 pc q = true := zg_ok (n := 29) (t := zt139) (by decide +kernel)
set_option maxRecDepth 100000 in
theorem zko140 : ∀ pc q, zc 140 pc = some q → zok 140 pc q = true := zg_ok (n := 18) (t := zt140) (by decide +kernel)
set_option maxRecDepth 100000 in
theorem zko141 : ∀ pc q, zc 141 pc = some q → zok 141 pc q = true := zg_ok (n := 18) (t := zt141) (by decide +kernel)
set_option maxRecDepth 100000 in
theorem zko142 : ∀ pc q, zc 142 pc = some q → zok 142 pc q = true := zg_ok (n := 227) (t := zt142) (by decide +kernel)
