/-! the checks, one by one, and all of them -/
theorem am_ck130 : am_ckc 130 0 am_o130 = true := by decide +kernel
theorem am_ck131 : am_ckc 131 0 am_o131 = true := by decide +kernel
theorem am_ck132 : am_ckc 132 0 am_o132 = true := by decide +kernel
theorem am_ck133 : am_ckc 133 0 am_o133 = true := by decide +kernel
theorem am_ck134 : am_ckc 134 0 am_o134 = true := by decide +kernel
theorem am_ck135 : am_ckc 135 0 am_o135 = true := by decide +kernel
theorem am_ck136 : am_ckc 136 0 am_o136 = true := by decide +kernel
theorem am_ck137 : am_ckc 137 0 am_o137 = true := by decide +kernel
theorem am_ck138 : am_ckc 138 0 am_o138 = true := by decide +kernel
theorem am_ck139 : am_ckc 139 0 am_o139 = true := by decide +kernel
theorem am_ck140 : am_ckc 140 0 am_o140 = true := by decide +kernel
theorem am_ck141 : am_ckc 141 0 am_o141 = true := by decide +kernel
theorem am_ck142 : am_ckc 142 0 am_o142 = true := by decide +kernel
theorem am_ck143 : am_ckc 143 0 am_o143 = true := by decide +kernel
theorem am_ck144 : am_ckc 144 0 am_o144 = true := by decide +kernel
theorem am_ck145 : am_ckc 145 0 am_o145 = true := by decide +kernel
theorem am_ck146 : am_ckc 146 0 am_o146 = true := by decide +kernel
theorem am_ck147 : am_ckc 147 0 am_o147 = true := by decide +kernel
theorem am_ck148 : am_ckc 148 0 am_o148 = true := by decide +kernel
theorem am_ck149 : am_ckc 149 0 am_o149 = true := by decide +kernel
theorem am_ck150 : am_ckc 150 0 am_o150 = true := by decide +kernel
theorem am_ck151 : am_ckc 151 0 am_o151 = true := by decide +kernel
theorem am_ck152 : am_ckc 152 0 am_o152 = true := by decide +kernel
theorem am_ck153 : am_ckc 153 0 am_o153 = true := by decide +kernel
theorem am_ck154 : am_ckc 154 0 am_o154 = true := by decide +kernel
theorem am_ck155 : am_ckc 155 0 am_o155 = true := by decide +kernel
theorem am_ck156 : am_ckc 156 0 am_o156 = true := by decide +kernel
theorem am_ck157 : am_ckc 157 0 am_o157 = true := by decide +kernel
theorem am_ck158 : am_ckc 158 0 am_o158 = true := by decide +kernel
theorem am_ck159 : am_ckc 159 0 am_o159 = true := by decide +kernel
theorem am_ck160 : am_ckc 160 0 am_o160 = true := by decide +kernel
theorem am_ck161 : am_ckc 161 0 am_o161 = true := by decide +kernel
theorem am_ck162 : am_ckc 162 0 am_o162 = true := by decide +kernel
theorem am_ck163 : am_ckc 163 0 am_o163 = true := by decide +kernel
theorem am_ck164 : am_ckc 164 0 am_o164 = true := by decide +kernel
theorem am_ck165 : am_ckc 165 0 am_o165 = true := by decide +kernel
theorem am_ck166 : am_ckc 166 0 am_o166 = true := by decide +kernel
theorem am_ck167 : am_ckc 167 0 am_o167 = true := by decide +kernel
theorem am_ck168 : am_ckc 168 0 am_o168 = true := by decide +kernel
theorem am_ck169 : am_ckc 169 0 am_o169 = true := by decide +kernel
theorem am_ck170 : am_ckc 170 0 am_o170 = true := by decide +kernel
theorem am_ck171 : am_ckc 171 0 am_o171 = true := by decide +kernel
theorem am_ck172 : am_ckc 172 0 am_o172 = true := by decide +kernel
theorem am_ck173 : am_ckc 173 0 am_o173 = true := by decide +kernel
theorem am_ck174 : am_ckc 174 0 am_o174 = true := by decide +kernel
theorem am_ck175 : am_ckc 175 0 am_o175 = true := by decide +kernel
theorem am_ck176 : am_ckc 176 0 am_o176 = true := by decide +kernel
theorem am_ck177 : am_ckc 177 0 am_o177 = true := by decide +kernel
theorem am_ck178 : am_ckc 178 0 am_o178 = true := by decide +kernel
theorem am_ck179 : am_ckc 179 0 am_o179 = true := by decide +kernel
theorem am_ck180 : am_ckc 180 0 am_o180 = true := by decide +kernel
theorem am_ck181 : am_ckc 181 0 am_o181 = true := by decide +kernel
theorem am_ck182 : am_ckc 182 0 am_o182 = true := by decide +kernel
theorem am_ck183 : am_ckc 183 0 am_o183 = true := by decide +kernel
theorem am_ck184 : am_ckc 184 0 am_o184 = true := by decide +kernel
theorem am_ck185 : am_ckc 185 0 am_o185 = true := by decide +kernel
theorem am_ck186 : am_ckc 186 0 am_o186 = true := by decide +kernel
theorem am_ck187 : am_ckc 187 0 am_o187 = true := by decide +kernel
theorem am_ck188 : am_ckc 188 0 am_o188 = true := by decide +kernel
theorem am_ck189 : am_ckc 189 0 am_o189 = true := by decide +kernel
theorem am_ck190 : am_ckc 190 0 am_o190 = true := by decide +kernel
theorem am_ck191 : am_ckc 191 0 am_o191 = true := by decide +kernel
theorem am_ck192 : am_ckc 192 0 am_o192 = true := by decide +kernel
theorem am_ck193 : am_ckc 193 0 am_o193 = true := by decide +kernel
theorem am_ck194 : am_ckc 194 0 am_o194 = true := by decide +kernel
theorem am_ck195 : am_ckc 195 0 am_o195 = true := by decide +kernel
theorem am_ck196 : am_ckc 196 0 am_o196 = true := by decide +kernel
theorem am_ck197 : am_ckc 197 0 am_o197 = true := by decide +kernel
theorem am_ck198 : am_ckc 198 0 am_o198 = true := by decide +kernel
theorem am_ck199 : am_ckc 199 0 am_o199 = true := by decide +kernel
theorem am_ck200 : am_ckc 200 0 am_o200 = true := by decide +kernel
theorem am_ck201 : am_ckc 201 0 am_o201 = true := by decide +kernel
theorem am_ck202 : am_ckc 202 0 am_o202 = true := by decide +kernel
theorem am_ck203 : am_ckc 203 0 am_o203 = true := by decide +kernel
theorem am_ck204 : am_ckc 204 0 am_o204 = true := by decide +kernel
theorem am_ck205 : am_ckc 205 0 am_o205 = true := by decide +kernel
theorem am_ck206 : am_ckc 206 0 am_o206 = true := by decide +kernel
theorem am_ck207 : am_ckc 207 0 am_o207 = true := by decide +kernel
theorem am_ck208 : am_ckc 208 0 am_o208 = true := by decide +kernel
theorem am_ck209 : am_ckc 209 0 am_o209 = true := by decide +kernel
theorem am_ck210 : am_ckc 210 0 am_o210 = true := by decide +kernel
theorem am_ck211 : am_ckc 211 0 am_o211 = true := by decide +kernel
theorem am_ck212 : am_ckc 212 0 am_o212 = true := by decide +kernel
theorem am_ck213 : am_ckc 213 0 am_o213 = true := by decide +kernel
theorem am_ck214 : am_ckc 214 0 am_o214 = true := by decide +kernel
theorem am_ck215 : am_ckc 215 0 am_o215 = true := by decide +kernel
theorem am_ck216 : am_ckc 216 0 am_o216 = true := by decide +kernel
theorem am_ck217 : am_ckc 217 0 am_o217 = true := by decide +kernel
theorem am_ck218 : am_ckc 218 0 am_o218 = true := by decide +kernel
theorem am_ck219 : am_ckc 219 0 am_o219 = true := by decide +kernel
theorem am_ck220 : am_ckc 220 0 am_o220 = true := by decide +kernel
theorem am_ck221 : am_ckc 221 0 am_o221 = true := by decide +kernel
theorem am_ck222 : am_ckc 222 0 am_o222 = true := by decide +kernel
theorem am_ck223 : am_ckc 223 0 am_o223 = true := by decide +kernel
theorem am_ck224 : am_ckc 224 0 am_o224 = true := by decide +kernel
theorem am_ck225 : am_ckc 225 0 am_o225 = true := by decide +kernel
theorem am_ck226 : am_ckc 226 0 am_o226 = true := by decide +kernel
theorem am_ck227 : am_ckc 227 0 am_o227 = true := by decide +kernel
theorem am_ck228 : am_ckc 228 0 am_o228 = true := by decide +kernel
theorem am_ck229 : am_ckc 229 0 am_o229 = true := by decide +kernel
theorem am_ck230 : am_ckc 230 0 am_o230 = true := by decide +kernel
theorem am_ck231 : am_ckc 231 0 am_o231 = true := by decide +kernel
theorem am_ck232 : am_ckc 232 0 am_o232 = true := by decide +kernel
theorem am_ck233 : am_ckc 233 0 am_o233 = true := by decide +kernel
theorem am_ck234 : am_ckc 234 0 am_o234 = true := by decide +kernel
theorem am_ck235 : am_ckc 235 0 am_o235 = true := by decide +kernel
theorem am_ck236 : am_ckc 236 0 am_o236 = true := by decide +kernel
theorem am_ck237 : am_ckc 237 0 am_o237 = true := by decide +kernel
theorem am_ck238 : am_ckc 238 0 am_o238 = true := by decide +kernel
theorem am_ck239 : am_ckc 239 0 am_o239 = true := by decide +kernel
theorem am_ck240 : am_ckc 240 0 am_o240 = true := by decide +kernel
theorem am_ck241 : am_ckc 241 0 am_o241 = true := by decide +kernel
theorem am_ck242 : am_ckc 242 0 am_o242 = true := by decide +kernel
theorem am_ck243 : am_ckc 243 0 am_o243 = true := by decide +kernel
theorem am_ck244 : am_ckc 244 0 am_o244 = true := by decide +kernel
theorem am_ck245 : am_ckc 245 0 am_o245 = true := by decide +kernel
theorem am_ck246 : am_ckc 246 0 am_o246 = true := by decide +kernel
theorem am_ck247 : am_ckc 247 0 am_o247 = true := by decide +kernel
theorem am_cq0 : am_ckq 0 [am_o0, am_o1, am_o2, am_o3, am_o4, am_o5, am_o6, am_o7, am_o8, am_o9, am_o10, am_o11, am_o12, am_o13, am_o14, am_o15] = true := by simp only [am_ckq, Nat.reduceAdd, am_ck0, am_ck1, am_ck2, am_ck3, am_ck4, am_ck5, am_ck6, am_ck7, am_ck8, am_ck9, am_ck10, am_ck11, am_ck12, am_ck13, am_ck14, am_ck15, Bool.and_self]
theorem am_cq1 : am_ckq 16 [am_o16, am_o17, am_o18, am_o19, am_o20, am_o21, am_o22, am_o23, am_o24, am_o25, am_o26, am_o27, am_o28, am_o29, am_o30, am_o31] = true := by simp only [am_ckq, Nat.reduceAdd, am_ck16, am_ck17, am_ck18, am_ck19, am_ck20, am_ck21, am_ck22, am_ck23, am_ck24, am_ck25, am_ck26, am_ck27, am_ck28, am_ck29, am_ck30, am_ck31, Bool.and_self]
theorem am_cq2 : am_ckq 32 [am_o32, am_o33, am_o34, am_o35, am_o36, am_o37, am_o38, am_o39, am_o40, am_o41, am_o42, am_o43, am_o44, am_o45, am_o46, am_o47] = true := by simp only [am_ckq, Nat.reduceAdd, am_ck32, am_ck33, am_ck34, am_ck35, am_ck36, am_ck37, am_ck38, am_ck39, am_ck40, am_ck41, am_ck42, am_ck43, am_ck44, am_ck45, am_ck46, am_ck47, Bool.and_self]
theorem am_cq3 : am_ckq 48 [am_o48, am_o49, am_o50, am_o51, am_o52, am_o53, am_o54, am_o55, am_o56, am_o57, am_o58, am_o59, am_o60, am_o61, am_o62, am_o63] = true := by simp only [am_ckq, Nat.reduceAdd, am_ck48, am_ck49, am_ck50, am_ck51, am_ck52, am_ck53, am_ck54, am_ck55, am_ck56, am_ck57, am_ck58, am_ck59, am_ck60, am_ck61, am_ck62, am_ck63, Bool.and_self]
theorem am_cq4 : am_ckq 64 [am_o64, am_o65, am_o66, am_o67, am_o68, am_o69, am_o70, am_o71, am_o72, am_o73, am_o74, am_o75, am_o76, am_o77, am_o78, am_o79] = true := by simp only [am_ckq, Nat.reduceAdd, am_ck64, am_ck65, am_ck66, am_ck67, am_ck68, am_ck69, am_ck70, am_ck71, am_ck72, am_ck73, am_ck74, am_ck75, am_ck76, am_ck77, am_ck78, am_ck79, Bool.and_self]
theorem am_cq5 : am_ckq 80 [am_o80, am_o81, am_o82, am_o83, am_o84, am_o85, am_o86, am_o87, am_o88, am_o89, am_o90, am_o91, am_o92, am_o93, am_o94, am_o95] = true := by simp only [am_ckq, Nat.reduceAdd, am_ck80, am_ck81, am_ck82, am_ck83, am_ck84, am_ck85, am_ck86, am_ck87, am_ck88, am_ck89, am_ck90, am_ck91, am_ck92, am_ck93, am_ck94, am_ck95, Bool.and_self]
theorem am_cq6 : am_ckq 96 [am_o96, am_o97, am_o98, am_o99, am_o100, am_o101, am_o102, am_o103, am_o104, am_o105, am_o106, am_o107, am_o108, am_o109, am_o110, am_o111] = true := by simp only [am_ckq, Nat.reduceAdd, am_ck96, am_ck97, am_ck98, am_ck99, am_ck100, am_ck101, am_ck102, am_ck103, am_ck104, am_ck105, am_ck106, am_ck107, am_ck108, am_ck109, am_ck110, am_ck111, Bool.and_self]
theorem am_cq7 : am_ckq 112 [am_o112, am_o113, am_o114, am_o115, am_o116, am_o117, am_o118, am_o119, am_o120, am_o121, am_o122, am_o123, am_o124, am_o125, am_o126, am_o127] = true := by simp only [am_ckq, Nat.reduceAdd, am_ck112, am_ck113, am_ck114, am_ck115, am_ck116, am_ck117, am_ck118, am_ck119, am_ck120, am_ck121, am_ck122, am_ck123, am_ck124, am_ck125, am_ck126, am_ck127, Bool.and_self]
theorem am_cq8 : am_ckq 128 [am_o128, am_o129, am_o130, am_o131, am_o132, am_o133, am_o134, am_o135, am_o136, am_o137, am_o138, am_o139, am_o140, am_o141, am_o142, am_o143] = true := by simp only [am_ckq, Nat.reduceAdd, am_ck128, am_ck129, am_ck130, am_ck131, am_ck132, am_ck133, am_ck134, am_ck135, am_ck136, am_ck137, am_ck138, am_ck139, am_ck140, am_ck141, am_ck142, am_ck143, Bool.and_self]
theorem am_cq9 : am_ckq 144 [am_o144, am_o145, am_o146, am_o147, am_o148, am_o149, am_o150, am_o151, am_o152, am_o153, am_o154, am_o155, am_o156, am_o157, am_o158, am_o159] = true := by simp only [am_ckq, Nat.reduceAdd, am_ck144, am_ck145, am_ck146, am_ck147, am_ck148, am_ck149, am_ck150, am_ck151, am_ck152, am_ck153, am_ck154, am_ck155, am_ck156, am_ck157, am_ck158, am_ck159, Bool.and_self]
theorem am_cq10 : am_ckq 160 [am_o160, am_o161, am_o162, am_o163, am_o164, am_o165, am_o166, am_o167, am_o168, am_o169, am_o170, am_o171, am_o172, am_o173, am_o174, am_o175] = true := by simp only [am_ckq, Nat.reduceAdd, am_ck160, am_ck161, am_ck162, am_ck163, am_ck164, am_ck165, am_ck166, am_ck167, am_ck168, am_ck169, am_ck170, am_ck171, am_ck172, am_ck173, am_ck174, am_ck175, Bool.and_self]
theorem am_cq11 : am_ckq 176 [am_o176, am_o177, am_o178, am_o179, am_o180, am_o181, am_o182, am_o183, am_o184, am_o185, am_o186, am_o187, am_o188, am_o189, am_o190, am_o191] = true := by simp only [am_ckq, Nat.reduceAdd, am_ck176, am_ck177, am_ck178, am_ck179, am_ck180, am_ck181, am_ck182, am_ck183, am_ck184, am_ck185, am_ck186, am_ck187, am_ck188, am_ck189, am_ck190, am_ck191, Bool.and_self]
theorem am_cq12 : am_ckq 192 [am_o192, am_o193, am_o194, am_o195, am_o196, am_o197, am_o198, am_o199, am_o200, am_o201, am_o202, am_o203, am_o204, am_o205, am_o206, am_o207] = true := by simp only [am_ckq, Nat.reduceAdd, am_ck192, am_ck193, am_ck194, am_ck195, am_ck196, am_ck197, am_ck198, am_ck199, am_ck200, am_ck201, am_ck202, am_ck203, am_ck204, am_ck205, am_ck206, am_ck207, Bool.and_self]
theorem am_cq13 : am_ckq 208 [am_o208, am_o209, am_o210, am_o211, am_o212, am_o213, am_o214, am_o215, am_o216, am_o217, am_o218, am_o219, am_o220, am_o221, am_o222, am_o223] = true := by simp only [am_ckq, Nat.reduceAdd, am_ck208, am_ck209, am_ck210, am_ck211, am_ck212, am_ck213, am_ck214, am_ck215, am_ck216, am_ck217, am_ck218, am_ck219, am_ck220, am_ck221, am_ck222, am_ck223, Bool.and_self]
theorem am_cq14 : am_ckq 224 [am_o224, am_o225, am_o226, am_o227, am_o228, am_o229, am_o230, am_o231, am_o232, am_o233, am_o234, am_o235, am_o236, am_o237, am_o238, am_o239] = true := by simp only [am_ckq, Nat.reduceAdd, am_ck224, am_ck225, am_ck226, am_ck227, am_ck228, am_ck229, am_ck230, am_ck231, am_ck232, am_ck233, am_ck234, am_ck235, am_ck236, am_ck237, am_ck238, am_ck239, Bool.and_self]
theorem am_cq15 : am_ckq 240 [am_o240, am_o241, am_o242, am_o243, am_o244, am_o245, am_o246, am_o247] = true := by simp only [am_ckq, Nat.reduceAdd, am_ck240, am_ck241, am_ck242, am_ck243, am_ck244, am_ck245, am_ck246, am_ck247, Bool.and_self]
theorem am_ck_all : am_cka 0 am_oL = true := by
  simp only [am_oL, am_cka, Nat.reduceAdd, Nat.reduceMul, am_cq0, am_cq1, am_cq2, am_cq3, am_cq4, am_cq5, am_cq6, am_cq7, am_cq8, am_cq9, am_cq10, am_cq11, am_cq12, am_cq13, am_cq14, am_cq15, Bool.and_self]
theorem am_ok_op {m pc : Nat} {op : am_Op} (h : am_op m pc = some op) : am_okop m pc op = true := by
  have h2 := am_cka_at am_oL 0 (m / 16) am_ck_all h
  rwa [show 16 * (0 + m / 16) + m % 16 = m by omega, show 16 * (pc / 16) + pc % 16 = pc by omega] at h2
theorem am_good : lw_tbl.all goodWord = true := by decide +kernel
