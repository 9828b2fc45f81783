set_option maxRecDepth 100000 in
theorem zko143 : ∀ pc q, zc 143 pc = some q → zok 143 pc q = true := zg_ok (n := 158) (t := zt143) (by decide +kernel)
set_option maxRecDepth 100000 in
theorem zko144 : ∀ pc q, zc 144 pc = some q → zok 144 pc q = true := zg_ok (n := 12) (t := zt144) (by decide +kernel)
set_option maxRecDepth 100000 in
theorem zko145 : ∀ pc q, zc 145 pc = some q → zok 145 pc q = true := zg_ok (n := 22) (t := zt145) (by decide +kernel)
set_option maxRecDepth 100000 in
theorem zko146 : ∀ pc q, zc 146 pc = some q → zok 146 pc q = true := zg_ok (n := 22) (t := zt146) (by decide +kernel)
set_option maxRecDepth 100000 in
theorem zko147 : ∀ pc q, zc 147 pc = some q → zok 147 pc q = true := zg_ok (n := 19) (t := zt147) (by decide +kernel)
set_option maxRecDepth 100000 in
theorem zko148 : ∀ pc q, zc 148 pc = some q → zok 148 pc q = true := zg_ok (n := 23) (t := zt148) (by decide +kernel)
set_option maxRecDepth 100000 in
theorem zko149 : ∀ pc q, zc 149 pc = some q → zok 149 pc q = true := zg_ok (n := 19) (t := zt149) (by decide +kernel)
set_option maxRecDepth 100000 in
theorem zko150 : ∀ pc q, zc 150 pc = some q → zok 150 pc q = true := zg_ok (n := 53) (t := zt150) (by decide +kernel)
set_option maxRecDepth 100000 in
theorem zko151 : ∀ pc q, zc 151 pc = some q → zok 151 pc q = true := zg_ok (n := 53) (t := zt151) (by decide +kernel)
set_option maxRecDepth 100000 in
theorem zko152 : ∀ pc q, zc 152 pc = some q → zok 152 pc q = true := zg_ok (n := 173) (t := zt152) (by decide +kernel)
set_option maxRecDepth 100000 in
theorem zko153 : ∀ pc q, zc 153 pc = some q → zok 153 pc q = true := zg_ok (n := 20) (t := zt153) (by decide +kernel)
set_option maxRecDepth 100000 in
theorem zko154 : ∀ pc q, zc 154 pc = some q → zok 154 pc q = true := zg_ok (n := 136) (t := zt154) (by decide +kernel)
set_option maxRecDepth 100000 in
theorem zko155 : ∀ pc q, zc 155 pc = some q → zok 155 pc q = true := zg_ok (n := 537) (t := zt155) (by decide +kernel)
set_option maxRecDepth 100000 in
theorem zko156 : ∀ pc q, zc 156 pc = some q → zok 156 pc q = true := zg_ok (n := 58) (t := zt156) (by decide +kernel)
set_option maxRecDepth 100000 in
theorem zko157 : ∀ pc q, zc 157 pc = some q → zok 157 pc q = true := zg_ok (n := 79) (t := zt157) (by decide +kernel)
set_option maxRecDepth 100000 in
theorem zko158 : ∀ pc q, zc 158 pc = some q → zok 158 pc q = true := zg_ok (n := 138) (t := zt158) (by decide +kernel)
set_option maxRecDepth 100000 in
theorem zko159 : ∀ pc q, zc 159 pc = some q → zok 159 pc q = true := zg_ok (n := 174) (t := zt159) (by decide +kernel)
set_option maxRecDepth 100000 in
theorem zko160 : ∀ pc q, zc 160 pc = some q → zok 160 pc q = true := zg_ok (n := 58) (t := zt160) (by decide +kernel)
set_option maxRecDepth 100000 in
theorem zko161 : ∀ pc q, zc 161 pc = some q → zok 161 pc q = true := zg_ok (n := 10) (t := zt161) (by decide +kernel)
set_option maxRecDepth 100000 in
theorem zko162 : ∀ pc q, zc 162 pc = some q → zok 162 pc q = true := zg_ok (n := 50) (t := zt162) (by decide +kernel)
set_option maxRecDepth 100000 in
theorem zko163 : ∀ pc q, zc 163 pc = some q → zok 163 pc q = true := zg_ok (n := 50) (t := zt163) (by decide +kernel)
set_option maxRecDepth 100000 in
theorem zko164 : ∀ pc q, zc 164 pc = some q → zok 164 pc q = true := zg_ok (n := 381) (t := zt164) (by decide +kernel)
set_option maxRecDepth 100000 in
theorem zko165 : ∀ pc q, zc 165 pc = some q → zok 165 pc q = true := zg_ok (n := 63) (t := zt165) (by decide +kernel)
set_option maxRecDepth 100000 in
theorem zko166 : ∀ pc q, zc 166 pc = some q → zok 166 pc q = true := zg_ok (n := 221) (t := zt166) (by decide +kernel)
set_option maxRecDepth 100000 in
theorem zko167 : ∀ pc q, zc 167 pc = some q → zok 167 pc q = true := zg_ok (n := 101) (t := zt167) (by decide +kernel)
set_option maxRecDepth 100000 in
theorem zko168 : ∀ pc q, zc 168 pc = some q → zok 168 pc q = true := zg_ok (n := 10) (t := zt168) (by decide +kernel)
set_option maxRecDepth 100000 in
theorem zko169 : ∀ pc q, zc 169 pc = some q → zok 169 pc q = true := zg_ok (n := 34) (t := zt169) (by decide +kernel)
set_option maxRecDepth 100000 in
theorem zko170 : ∀ pc q, zc 170 pc = some q → zok 170 pc q = true := zg_ok (n := 15) (t := zt170) (by decide +kernel)
set_option maxRecDepth 100000 in
theorem zko171 : ∀ pc q, zc 171 pc = some q → zok 171 pc q = true := zg_ok (n := 226) (t := zt171) (by decide +kernel)
set_option maxRecDepth 100000 in
theorem zko172 : ∀ pc q, zc 172 pc = some q → zok 172 pc q = true := zg_ok (n := 534) (t := zt172) (by decide +kernel)
