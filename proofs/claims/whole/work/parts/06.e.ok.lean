set_option maxRecDepth 100000 in
theorem zko173 : ∀ pc q, zc 173 pc = some q → zok 173 pc q = true := zg_ok (n := 24) (t := zt173) (by decide +kernel)
set_option maxRecDepth 100000 in
theorem zko174 : ∀ pc q, zc 174 pc = some q → zok 174 pc q = true := zg_ok (n := 31) (t := zt174) (by decide +kernel)
set_option maxRecDepth 100000 in
theorem zko175 : ∀ pc q, zc 175 pc = some q → zok 175 pc q = true := zg_ok (n := 145) (t := zt175) (by decide +kernel)
set_option maxRecDepth 100000 in
theorem zko176 : ∀ pc q, zc 176 pc = some q → zok 176 pc q = true := zg_ok (n := 84) (t := zt176) (by decide +kernel)
set_option maxRecDepth 100000 in
theorem zko177 : ∀ pc q, zc 177 pc = some q → zok 177 pc q = true := zg_ok (n := 95) (t := zt177) (by decide +kernel)
set_option maxRecDepth 100000 in
theorem zko178 : ∀ pc q, zc 178 pc = some q → zok 178 pc q = true := zg_ok (n := 58) (t := zt178) (by decide +kernel)
set_option maxRecDepth 100000 in
theorem zko179 : ∀ pc q, zc 179 pc = some q → zok 179 pc q = true := zg_ok (n := 448) (t := zt179) (by decide +kernel)
set_option maxRecDepth 100000 in
theorem zko180 : ∀ pc q, zc 180 pc = some q → zok 180 pc q = true := zg_ok (n := 89) (t := zt180) (by decide +kernel)
set_option maxRecDepth 100000 in
theorem zko181 : ∀ pc q, zc 181 pc = some q → zok 181 pc q = true := zg_ok (n := 86) (t := zt181) (by decide +kernel)
set_option maxRecDepth 100000 in
theorem zko182 : ∀ pc q, zc 182 pc = some q → zok 182 pc q = true := zg_ok (n := 276) (t := zt182) (by decide +kernel)
set_option maxRecDepth 100000 in
theorem zko183 : ∀ pc q, zc 183 pc = some q → zok 183 pc q = true := zg_ok (n := 38) (t := zt183) (by decide +kernel)
set_option maxRecDepth 100000 in
theorem zko184 : ∀ pc q, zc 184 pc = some q → zok 184 pc q = true := zg_ok (n := 11) (t := zt184) (by decide +kernel)
set_option maxRecDepth 100000 in
theorem zko185 : ∀ pc q, zc 185 pc = some q → zok 185 pc q = true := zg_ok (n := 208) (t := zt185) (by decide +kernel)
set_option maxRecDepth 100000 in
theorem zko186 : ∀ pc q, zc 186 pc = some q → zok 186 pc q = true := zg_ok (n := 30) (t := zt186) (by decide +kernel)
set_option maxRecDepth 100000 in
theorem zko187 : ∀ pc q, zc 187 pc = some q → zok 187 pc q = true := zg_ok (n := 221) (t := zt187) (by decide +kernel)
set_option maxRecDepth 100000 in
theorem zko188 : ∀ pc q, zc 188 pc = some q → zok 188 pc q = true := zg_ok (n := 148) (t := zt188) (by decide +kernel)
set_option maxRecDepth 100000 in
theorem zko189 : ∀ pc q, zc 189 pc = some q → zok 189 pc q = true := zg_ok (n := 79) (t := zt189) (by decide +kernel)
set_option maxRecDepth 100000 in
theorem zko190 : ∀ pc q, zc 190 pc = some q → zok 190 pc q = true := zg_ok (n := 154) (t := zt190) (by decide +kernel)
set_option maxRecDepth 100000 in
theorem zko191 : ∀ pc q, zc 191 pc = some q → zok 191 pc q = true := zg_ok (n := 129) (t := zt191) (by decide +kernel)
set_option maxRecDepth 100000 in
theorem zko192 : ∀ pc q, zc 192 pc = some q → zok 192 pc q = true := zg_ok (n := 164) (t := zt192) (by decide +kernel)
set_option maxRecDepth 100000 in
theorem zko193 : ∀ pc q, zc 193 pc = some q → zok 193 pc q = true := zg_ok (n := 51) (t := zt193) (by decide +kernel)
set_option maxRecDepth 100000 in
theorem zko194 : ∀ pc q, zc 194 pc = some q → zok 194 pc q = true := zg_ok (n := 34) (t := zt194) (by decide +kernel)
set_option maxRecDepth 100000 in
theorem zko195 : ∀ pc q, zc 195 pc = some q → zok 195 pc q = true := zg_ok (n := 67) (t := zt195) (by decide +kernel)
set_option maxRecDepth 100000 in
theorem zko196 : ∀ pc q, zc 196 pc = some q → zok 196 pc q = true := zg_ok (n := 58) (t := zt196) (by decide +kernel)
set_option maxRecDepth 100000 in
theorem zko197 : ∀ pc q, zc 197 pc = some q → zok 197 pc q = true := zg_ok (n := 84) (t := zt197) (by decide +kernel)
set_option maxRecDepth 100000 in
theorem zko198 : ∀ pc q, zc 198 pc = some q → zok 198 pc q = true := zg_ok (n := 295) (t := zt198) (by decide +kernel)
