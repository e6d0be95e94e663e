/-! the checks, one by one, and all of them -/
theorem am_ck90 : am_ckc 90 0 am_o90 = true := by decide +kernel
theorem am_ck91 : am_ckc 91 0 am_o91 = true := by decide +kernel
theorem am_ck92 : am_ckc 92 0 am_o92 = true := by decide +kernel
theorem am_ck93 : am_ckc 93 0 am_o93 = true := by decide +kernel
theorem am_ck94 : am_ckc 94 0 am_o94 = true := by decide +kernel
theorem am_ck95 : am_ckc 95 0 am_o95 = true := by decide +kernel
theorem am_ck96 : am_ckc 96 0 am_o96 = true := by decide +kernel
theorem am_ck97 : am_ckc 97 0 am_o97 = true := by decide +kernel
theorem am_ck98 : am_ckc 98 0 am_o98 = true := by decide +kernel
theorem am_ck99 : am_ckc 99 0 am_o99 = true := by decide +kernel
theorem am_ck100 : am_ckc 100 0 am_o100 = true := by decide +kernel
theorem am_ck101 : am_ckc 101 0 am_o101 = true := by decide +kernel
theorem am_ck102 : am_ckc 102 0 am_o102 = true := by decide +kernel
theorem am_ck103 : am_ckc 103 0 am_o103 = true := by decide +kernel
theorem am_ck104 : am_ckc 104 0 am_o104 = true := by decide +kernel
theorem am_ck105 : am_ckc 105 0 am_o105 = true := by decide +kernel
theorem am_ck106 : am_ckc 106 0 am_o106 = true := by decide +kernel
theorem am_ck107 : am_ckc 107 0 am_o107 = true := by decide +kernel
theorem am_ck108 : am_ckc 108 0 am_o108 = true := by decide +kernel
theorem am_ck109 : am_ckc 109 0 am_o109 = true := by decide +kernel
theorem am_ck110 : am_ckc 110 0 am_o110 = true := by decide +kernel
theorem am_ck111 : am_ckc 111 0 am_o111 = true := by decide +kernel
theorem am_ck112 : am_ckc 112 0 am_o112 = true := by decide +kernel
theorem am_ck113 : am_ckc 113 0 am_o113 = true := by decide +kernel
theorem am_ck114 : am_ckc 114 0 am_o114 = true := by decide +kernel
theorem am_ck115 : am_ckc 115 0 am_o115 = true := by decide +kernel
theorem am_ck116 : am_ckc 116 0 am_o116 = true := by decide +kernel
theorem am_ck117 : am_ckc 117 0 am_o117 = true := by decide +kernel
theorem am_ck118 : am_ckc 118 0 am_o118 = true := by decide +kernel
theorem am_ck119 : am_ckc 119 0 am_o119 = true := by decide +kernel
theorem am_ck120 : am_ckc 120 0 am_o120 = true := by decide +kernel
theorem am_ck121 : am_ckc 121 0 am_o121 = true := by decide +kernel
theorem am_ck122 : am_ckc 122 0 am_o122 = true := by decide +kernel
theorem am_ck123 : am_ckc 123 0 am_o123 = true := by decide +kernel
theorem am_ck124 : am_ckc 124 0 am_o124 = true := by decide +kernel
theorem am_ck125 : am_ckc 125 0 am_o125 = true := by decide +kernel
theorem am_ck126 : am_ckc 126 0 am_o126 = true := by decide +kernel
theorem am_ck127 : am_ckc 127 0 am_o127 = true := by decide +kernel
theorem am_ck128 : am_ckc 128 0 am_o128 = true := by decide +kernel
theorem am_ck129 : am_ckc 129 0 am_o129 = true := by decide +kernel
theorem am_ck130 : am_ckc 130 0 am_o130 = true := by decide +kernel
theorem am_ck131 : am_ckc 131 0 am_o131 = true := by decide +kernel
theorem am_ck132 : am_ckc 132 0 am_o132 = true := by decide +kernel
theorem am_ck133 : am_ckc 133 0 am_o133 = true := by decide +kernel
theorem am_ck134 : am_ckc 134 0 am_o134 = true := by decide +kernel
theorem am_ck135 : am_ckc 135 0 am_o135 = true := by decide +kernel
theorem am_ck136 : am_ckc 136 0 am_o136 = true := by decide +kernel
theorem am_ck137 : am_ckc 137 0 am_o137 = true := by decide +kernel
theorem am_ck138 : am_ckc 138 0 am_o138 = true := by decide +kernel
theorem am_ck139 : am_ckc 139 0 am_o139 = true := by decide +kernel
theorem am_ck140 : am_ckc 140 0 am_o140 = true := by decide +kernel
theorem am_ck141 : am_ckc 141 0 am_o141 = true := by decide +kernel
theorem am_ck142 : am_ckc 142 0 am_o142 = true := by decide +kernel
theorem am_ck143 : am_ckc 143 0 am_o143 = true := by decide +kernel
theorem am_ck144 : am_ckc 144 0 am_o144 = true := by decide +kernel
theorem am_ck145 : am_ckc 145 0 am_o145 = true := by decide +kernel
theorem am_ck146 : am_ckc 146 0 am_o146 = true := by decide +kernel
theorem am_ck147 : am_ckc 147 0 am_o147 = true := by decide +kernel
theorem am_ck148 : am_ckc 148 0 am_o148 = true := by decide +kernel
theorem am_ck149 : am_ckc 149 0 am_o149 = true := by decide +kernel
theorem am_ck150 : am_ckc 150 0 am_o150 = true := by decide +kernel
theorem am_ck151 : am_ckc 151 0 am_o151 = true := by decide +kernel
theorem am_ck152 : am_ckc 152 0 am_o152 = true := by decide +kernel
theorem am_ck153 : am_ckc 153 0 am_o153 = true := by decide +kernel
theorem am_ck154 : am_ckc 154 0 am_o154 = true := by decide +kernel
theorem am_ck155 : am_ckc 155 0 am_o155 = true := by decide +kernel
theorem am_ck156 : am_ckc 156 0 am_o156 = true := by decide +kernel
theorem am_ck157 : am_ckc 157 0 am_o157 = true := by decide +kernel
theorem am_ck158 : am_ckc 158 0 am_o158 = true := by decide +kernel
theorem am_ck159 : am_ckc 159 0 am_o159 = true := by decide +kernel
theorem am_ck160 : am_ckc 160 0 am_o160 = true := by decide +kernel
theorem am_ck161 : am_ckc 161 0 am_o161 = true := by decide +kernel
theorem am_ck162 : am_ckc 162 0 am_o162 = true := by decide +kernel
theorem am_ck163 : am_ckc 163 0 am_o163 = true := by decide +kernel
theorem am_ck164 : am_ckc 164 0 am_o164 = true := by decide +kernel
theorem am_ck165 : am_ckc 165 0 am_o165 = true := by decide +kernel
theorem am_ck166 : am_ckc 166 0 am_o166 = true := by decide +kernel
theorem am_ck167 : am_ckc 167 0 am_o167 = true := by decide +kernel
theorem am_ck168 : am_ckc 168 0 am_o168 = true := by decide +kernel
theorem am_ck169 : am_ckc 169 0 am_o169 = true := by decide +kernel
theorem am_ck170 : am_ckc 170 0 am_o170 = true := by decide +kernel
theorem am_ck171 : am_ckc 171 0 am_o171 = true := by decide +kernel
theorem am_ck172 : am_ckc 172 0 am_o172 = true := by decide +kernel
theorem am_ck173 : am_ckc 173 0 am_o173 = true := by decide +kernel
theorem am_ck174 : am_ckc 174 0 am_o174 = true := by decide +kernel
theorem am_ck175 : am_ckc 175 0 am_o175 = true := by decide +kernel
theorem am_ck176 : am_ckc 176 0 am_o176 = true := by decide +kernel
theorem am_ck177 : am_ckc 177 0 am_o177 = true := by decide +kernel
theorem am_ck178 : am_ckc 178 0 am_o178 = true := by decide +kernel
theorem am_ck179 : am_ckc 179 0 am_o179 = true := by decide +kernel
theorem am_ck180 : am_ckc 180 0 am_o180 = true := by decide +kernel
theorem am_ck181 : am_ckc 181 0 am_o181 = true := by decide +kernel
theorem am_ck182 : am_ckc 182 0 am_o182 = true := by decide +kernel
theorem am_ck183 : am_ckc 183 0 am_o183 = true := by decide +kernel
theorem am_ck184 : am_ckc 184 0 am_o184 = true := by decide +kernel
theorem am_ck185 : am_ckc 185 0 am_o185 = true := by decide +kernel
theorem am_ck186 : am_ckc 186 0 am_o186 = true := by decide +kernel
theorem am_ck187 : am_ckc 187 0 am_o187 = true := by decide +kernel
theorem am_ck188 : am_ckc 188 0 am_o188 = true := by decide +kernel
theorem am_ck189 : am_ckc 189 0 am_o189 = true := by decide +kernel
theorem am_ck190 : am_ckc 190 0 am_o190 = true := by decide +kernel
theorem am_ck191 : am_ckc 191 0 am_o191 = true := by decide +kernel
theorem am_ck192 : am_ckc 192 0 am_o192 = true := by decide +kernel
theorem am_ck193 : am_ckc 193 0 am_o193 = true := by decide +kernel
theorem am_ck194 : am_ckc 194 0 am_o194 = true := by decide +kernel
theorem am_ck195 : am_ckc 195 0 am_o195 = true := by decide +kernel
theorem am_ck196 : am_ckc 196 0 am_o196 = true := by decide +kernel
theorem am_ck197 : am_ckc 197 0 am_o197 = true := by decide +kernel
theorem am_ck198 : am_ckc 198 0 am_o198 = true := by decide +kernel
theorem am_ck199 : am_ckc 199 0 am_o199 = true := by decide +kernel
theorem am_ck200 : am_ckc 200 0 am_o200 = true := by decide +kernel
theorem am_ck201 : am_ckc 201 0 am_o201 = true := by decide +kernel
theorem am_ck202 : am_ckc 202 0 am_o202 = true := by decide +kernel
theorem am_ck203 : am_ckc 203 0 am_o203 = true := by decide +kernel
theorem am_ck204 : am_ckc 204 0 am_o204 = true := by decide +kernel
theorem am_ck205 : am_ckc 205 0 am_o205 = true := by decide +kernel
theorem am_ck206 : am_ckc 206 0 am_o206 = true := by decide +kernel
theorem am_ck207 : am_ckc 207 0 am_o207 = true := by decide +kernel
theorem am_ck208 : am_ckc 208 0 am_o208 = true := by decide +kernel
theorem am_ck209 : am_ckc 209 0 am_o209 = true := by decide +kernel
theorem am_ck210 : am_ckc 210 0 am_o210 = true := by decide +kernel
theorem am_ck211 : am_ckc 211 0 am_o211 = true := by decide +kernel
theorem am_ck212 : am_ckc 212 0 am_o212 = true := by decide +kernel
theorem am_ck213 : am_ckc 213 0 am_o213 = true := by decide +kernel
theorem am_ck214 : am_ckc 214 0 am_o214 = true := by decide +kernel
theorem am_ck215 : am_ckc 215 0 am_o215 = true := by decide +kernel
theorem am_ck216 : am_ckc 216 0 am_o216 = true := by decide +kernel
theorem am_ck217 : am_ckc 217 0 am_o217 = true := by decide +kernel
theorem am_ck218 : am_ckc 218 0 am_o218 = true := by decide +kernel
theorem am_ck219 : am_ckc 219 0 am_o219 = true := by decide +kernel
theorem am_ck220 : am_ckc 220 0 am_o220 = true := by decide +kernel
theorem am_ck221 : am_ckc 221 0 am_o221 = true := by decide +kernel
theorem am_ck222 : am_ckc 222 0 am_o222 = true := by decide +kernel
theorem am_ck223 : am_ckc 223 0 am_o223 = true := by decide +kernel
theorem am_ck224 : am_ckc 224 0 am_o224 = true := by decide +kernel
theorem am_ck225 : am_ckc 225 0 am_o225 = true := by decide +kernel
theorem am_ck226 : am_ckc 226 0 am_o226 = true := by decide +kernel
theorem am_ck227 : am_ckc 227 0 am_o227 = true := by decide +kernel
theorem am_ck228 : am_ckc 228 0 am_o228 = true := by decide +kernel
theorem am_ck229 : am_ckc 229 0 am_o229 = true := by decide +kernel
theorem am_ck230 : am_ckc 230 0 am_o230 = true := by decide +kernel
theorem am_ck231 : am_ckc 231 0 am_o231 = true := by decide +kernel
theorem am_ck232 : am_ckc 232 0 am_o232 = true := by decide +kernel
theorem am_ck233 : am_ckc 233 0 am_o233 = true := by decide +kernel
theorem am_ck234 : am_ckc 234 0 am_o234 = true := by decide +kernel
theorem am_ck235 : am_ckc 235 0 am_o235 = true := by decide +kernel
theorem am_ck236 : am_ckc 236 0 am_o236 = true := by decide +kernel
theorem am_ck237 : am_ckc 237 0 am_o237 = true := by decide +kernel
theorem am_ck238 : am_ckc 238 0 am_o238 = true := by decide +kernel
theorem am_ck239 : am_ckc 239 0 am_o239 = true := by decide +kernel
theorem am_ck240 : am_ckc 240 0 am_o240 = true := by decide +kernel
theorem am_ck241 : am_ckc 241 0 am_o241 = true := by decide +kernel
theorem am_ck242 : am_ckc 242 0 am_o242 = true := by decide +kernel
theorem am_ck243 : am_ckc 243 0 am_o243 = true := by decide +kernel
theorem am_ck244 : am_ckc 244 0 am_o244 = true := by decide +kernel
theorem am_ck245 : am_ckc 245 0 am_o245 = true := by decide +kernel
theorem am_ck246 : am_ckc 246 0 am_o246 = true := by decide +kernel
theorem am_ck247 : am_ckc 247 0 am_o247 = true := by decide +kernel
theorem am_cq0 : am_ckq 0 [am_o0, am_o1, am_o2, am_o3, am_o4, am_o5, am_o6, am_o7, am_o8, am_o9, am_o10, am_o11, am_o12, am_o13, am_o14, am_o15] = true := by simp only [am_ckq, Nat.reduceAdd, am_ck0, am_ck1, am_ck2, am_ck3, am_ck4, am_ck5, am_ck6, am_ck7, am_ck8, am_ck9, am_ck10, am_ck11, am_ck12, am_ck13, am_ck14, am_ck15, Bool.and_self]
theorem am_cq1 : am_ckq 16 [am_o16, am_o17, am_o18, am_o19, am_o20, am_o21, am_o22, am_o23, am_o24, am_o25, am_o26, am_o27, am_o28, am_o29, am_o30, am_o31] = true := by simp only [am_ckq, Nat.reduceAdd, am_ck16, am_ck17, am_ck18, am_ck19, am_ck20, am_ck21, am_ck22, am_ck23, am_ck24, am_ck25, am_ck26, am_ck27, am_ck28, am_ck29, am_ck30, am_ck31, Bool.and_self]
theorem am_cq2 : am_ckq 32 [am_o32, am_o33, am_o34, am_o35, am_o36, am_o37, am_o38, am_o39, am_o40, am_o41, am_o42, am_o43, am_o44, am_o45, am_o46, am_o47] = true := by simp only [am_ckq, Nat.reduceAdd, am_ck32, am_ck33, am_ck34, am_ck35, am_ck36, am_ck37, am_ck38, am_ck39, am_ck40, am_ck41, am_ck42, am_ck43, am_ck44, am_ck45, am_ck46, am_ck47, Bool.and_self]
theorem am_cq3 : am_ckq 48 [am_o48, am_o49, am_o50, am_o51, am_o52, am_o53, am_o54, am_o55, am_o56, am_o57, am_o58, am_o59, am_o60, am_o61, am_o62, am_o63] = true := by simp only [am_ckq, Nat.reduceAdd, am_ck48, am_ck49, am_ck50, am_ck51, am_ck52, am_ck53, am_ck54, am_ck55, am_ck56, am_ck57, am_ck58, am_ck59, am_ck60, am_ck61, am_ck62, am_ck63, Bool.and_self]
theorem am_cq4 : am_ckq 64 [am_o64, am_o65, am_o66, am_o67, am_o68, am_o69, am_o70, am_o71, am_o72, am_o73, am_o74, am_o75, am_o76, am_o77, am_o78, am_o79] = true := by simp only [am_ckq, Nat.reduceAdd, am_ck64, am_ck65, am_ck66, am_ck67, am_ck68, am_ck69, am_ck70, am_ck71, am_ck72, am_ck73, am_ck74, am_ck75, am_ck76, am_ck77, am_ck78, am_ck79, Bool.and_self]
theorem am_cq5 : am_ckq 80 [am_o80, am_o81, am_o82, am_o83, am_o84, am_o85, am_o86, am_o87, am_o88, am_o89, am_o90, am_o91, am_o92, am_o93, am_o94, am_o95] = true := by simp only [am_ckq, Nat.reduceAdd, am_ck80, am_ck81, am_ck82, am_ck83, am_ck84, am_ck85, am_ck86, am_ck87, am_ck88, am_ck89, am_ck90, am_ck91, am_ck92, am_ck93, am_ck94, am_ck95, Bool.and_self]
theorem am_cq6 : am_ckq 96 [am_o96, am_o97, am_o98, am_o99, am_o100, am_o101, am_o102, am_o103, am_o104, am_o105, am_o106, am_o107, am_o108, am_o109, am_o110, am_o111] = true := by simp only [am_ckq, Nat.reduceAdd, am_ck96, am_ck97, am_ck98, am_ck99, am_ck100, am_ck101, am_ck102, am_ck103, am_ck104, am_ck105, am_ck106, am_ck107, am_ck108, am_ck109, am_ck110, am_ck111, Bool.and_self]
theorem am_cq7 : am_ckq 112 [am_o112, am_o113, am_o114, am_o115, am_o116, am_o117, am_o118, am_o119, am_o120, am_o121, am_o122, am_o123, am_o124, am_o125, am_o126, am_o127] = true := by simp only [am_ckq, Nat.reduceAdd, am_ck112, am_ck113, am_ck114, am_ck115, am_ck116, am_ck117, am_ck118, am_ck119, am_ck120, am_ck121, am_ck122, am_ck123, am_ck124, am_ck125, am_ck126, am_ck127, Bool.and_self]
theorem am_cq8 : am_ckq 128 [am_o128, am_o129, am_o130, am_o131, am_o132, am_o133, am_o134, am_o135, am_o136, am_o137, am_o138, am_o139, am_o140, am_o141, am_o142, am_o143] = true := by simp only [am_ckq, Nat.reduceAdd, am_ck128, am_ck129, am_ck130, am_ck131, am_ck132, am_ck133, am_ck134, am_ck135, am_ck136, am_ck137, am_ck138, am_ck139, am_ck140, am_ck141, am_ck142, am_ck143, Bool.and_self]
theorem am_cq9 : am_ckq 144 [am_o144, am_o145, am_o146, am_o147, am_o148, am_o149, am_o150, am_o151, am_o152, am_o153, am_o154, am_o155, am_o156, am_o157, am_o158, am_o159] = true := by simp only [am_ckq, Nat.reduceAdd, am_ck144, am_ck145, am_ck146, am_ck147, am_ck148, am_ck149, am_ck150, am_ck151, am_ck152, am_ck153, am_ck154, am_ck155, am_ck156, am_ck157, am_ck158, am_ck159, Bool.and_self]
theorem am_cq10 : am_ckq 160 [am_o160, am_o161, am_o162, am_o163, am_o164, am_o165, am_o166, am_o167, am_o168, am_o169, am_o170, am_o171, am_o172, am_o173, am_o174, am_o175] = true := by simp only [am_ckq, Nat.reduceAdd, am_ck160, am_ck161, am_ck162, am_ck163, am_ck164, am_ck165, am_ck166, am_ck167, am_ck168, am_ck169, am_ck170, am_ck171, am_ck172, am_ck173, am_ck174, am_ck175, Bool.and_self]
theorem am_cq11 : am_ckq 176 [am_o176, am_o177, am_o178, am_o179, am_o180, am_o181, am_o182, am_o183, am_o184, am_o185, am_o186, am_o187, am_o188, am_o189, am_o190, am_o191] = true := by simp only [am_ckq, Nat.reduceAdd, am_ck176, am_ck177, am_ck178, am_ck179, am_ck180, am_ck181, am_ck182, am_ck183, am_ck184, am_ck185, am_ck186, am_ck187, am_ck188, am_ck189, am_ck190, am_ck191, Bool.and_self]
theorem am_cq12 : am_ckq 192 [am_o192, am_o193, am_o194, am_o195, am_o196, am_o197, am_o198, am_o199, am_o200, am_o201, am_o202, am_o203, am_o204, am_o205, am_o206, am_o207] = true := by simp only [am_ckq, Nat.reduceAdd, am_ck192, am_ck193, am_ck194, am_ck195, am_ck196, am_ck197, am_ck198, am_ck199, am_ck200, am_ck201, am_ck202, am_ck203, am_ck204, am_ck205, am_ck206, am_ck207, Bool.and_self]
theorem am_cq13 : am_ckq 208 [am_o208, am_o209, am_o210, am_o211, am_o212, am_o213, am_o214, am_o215, am_o216, am_o217, am_o218, am_o219, am_o220, am_o221, am_o222, am_o223] = true := by simp only [am_ckq, Nat.reduceAdd, am_ck208, am_ck209, am_ck210, am_ck211, am_ck212, am_ck213, am_ck214, am_ck215, am_ck216, am_ck217, am_ck218, am_ck219, am_ck220, am_ck221, am_ck222, am_ck223, Bool.and_self]
theorem am_cq14 : am_ckq 224 [am_o224, am_o225, am_o226, am_o227, am_o228, am_o229, am_o230, am_o231, am_o232, am_o233, am_o234, am_o235, am_o236, am_o237, am_o238, am_o239] = true := by simp only [am_ckq, Nat.reduceAdd, am_ck224, am_ck225, am_ck226, am_ck227, am_ck228, am_ck229, am_ck230, am_ck231, am_ck232, am_ck233, am_ck234, am_ck235, am_ck236, am_ck237, am_ck238, am_ck239, Bool.and_self]
theorem am_cq15 : am_ckq 240 [am_o240, am_o241, am_o242, am_o243, am_o244, am_o245, am_o246, am_o247] = true := by simp only [am_ckq, Nat.reduceAdd, am_ck240, am_ck241, am_ck242, am_ck243, am_ck244, am_ck245, am_ck246, am_ck247, Bool.and_self]
theorem am_ck_all : am_cka 0 am_oL = true := by
  simp only [am_oL, am_cka, Nat.reduceAdd, Nat.reduceMul, am_cq0, am_cq1, am_cq2, am_cq3, am_cq4, am_cq5, am_cq6, am_cq7, am_cq8, am_cq9, am_cq10, am_cq11, am_cq12, am_cq13, am_cq14, am_cq15, Bool.and_self]
theorem am_ok_op {m pc : Nat} {op : am_Op} (h : am_op m pc = some op) : am_okop m pc op = true := by
  have h2 := am_cka_at am_oL 0 (m / 16) am_ck_all h
  rwa [show 16 * (0 + m / 16) + m % 16 = m by omega, show 16 * (pc / 16) + pc % 16 = pc by omega] at h2
theorem am_okm1 : am_okm 1 = true := by decide +kernel
theorem am_okm2 : am_okm 2 = true := by decide +kernel
theorem am_okm3 : am_okm 3 = true := by decide +kernel
theorem am_okm4 : am_okm 4 = true := by decide +kernel
theorem am_okm5 : am_okm 5 = true := by decide +kernel
theorem am_okm6 : am_okm 6 = true := by decide +kernel
theorem am_okm7 : am_okm 7 = true := by decide +kernel
theorem am_okm8 : am_okm 8 = true := by decide +kernel
theorem am_okm9 : am_okm 9 = true := by decide +kernel
theorem am_okm10 : am_okm 10 = true := by decide +kernel
theorem am_okm11 : am_okm 11 = true := by decide +kernel
theorem am_okm12 : am_okm 12 = true := by decide +kernel
theorem am_okm13 : am_okm 13 = true := by decide +kernel
theorem am_okm14 : am_okm 14 = true := by decide +kernel
theorem am_okm15 : am_okm 15 = true := by decide +kernel
theorem am_okm16 : am_okm 16 = true := by decide +kernel
theorem am_okm17 : am_okm 17 = true := by decide +kernel
theorem am_okm18 : am_okm 18 = true := by decide +kernel
theorem am_okm19 : am_okm 19 = true := by decide +kernel
theorem am_okm20 : am_okm 20 = true := by decide +kernel
theorem am_okm21 : am_okm 21 = true := by decide +kernel
theorem am_okm22 : am_okm 22 = true := by decide +kernel
theorem am_okm23 : am_okm 23 = true := by decide +kernel
theorem am_okm24 : am_okm 24 = true := by decide +kernel
theorem am_okm25 : am_okm 25 = true := by decide +kernel
theorem am_okm26 : am_okm 26 = true := by decide +kernel
theorem am_okm27 : am_okm 27 = true := by decide +kernel
theorem am_okm28 : am_okm 28 = true := by decide +kernel
theorem am_okm29 : am_okm 29 = true := by decide +kernel
theorem am_okm30 : am_okm 30 = true := by decide +kernel
theorem am_okm31 : am_okm 31 = true := by decide +kernel
theorem am_okm32 : am_okm 32 = true := by decide +kernel
theorem am_okm33 : am_okm 33 = true := by decide +kernel
theorem am_okm34 : am_okm 34 = true := by decide +kernel
theorem am_okm35 : am_okm 35 = true := by decide +kernel
theorem am_okm36 : am_okm 36 = true := by decide +kernel
theorem am_okm37 : am_okm 37 = true := by decide +kernel
theorem am_okm38 : am_okm 38 = true := by decide +kernel
theorem am_okm39 : am_okm 39 = true := by decide +kernel
theorem am_okm40 : am_okm 40 = true := by decide +kernel
theorem am_okm41 : am_okm 41 = true := by decide +kernel
theorem am_okm42 : am_okm 42 = true := by decide +kernel
theorem am_okm43 : am_okm 43 = true := by decide +kernel
theorem am_okm44 : am_okm 44 = true := by decide +kernel
theorem am_okm45 : am_okm 45 = true := by decide +kernel
theorem am_okm46 : am_okm 46 = true := by decide +kernel
theorem am_okm47 : am_okm 47 = true := by decide +kernel
theorem am_okm48 : am_okm 48 = true := by decide +kernel
theorem am_okm49 : am_okm 49 = true := by decide +kernel
theorem am_okm50 : am_okm 50 = true := by decide +kernel
theorem am_okm51 : am_okm 51 = true := by decide +kernel
theorem am_okm52 : am_okm 52 = true := by decide +kernel
theorem am_okm53 : am_okm 53 = true := by decide +kernel
theorem am_okm54 : am_okm 54 = true := by decide +kernel
theorem am_okm55 : am_okm 55 = true := by decide +kernel
theorem am_okm56 : am_okm 56 = true := by decide +kernel
theorem am_okm57 : am_okm 57 = true := by decide +kernel
theorem am_okm58 : am_okm 58 = true := by decide +kernel
theorem am_okm59 : am_okm 59 = true := by decide +kernel
theorem am_okm60 : am_okm 60 = true := by decide +kernel
theorem am_okm61 : am_okm 61 = true := by decide +kernel
theorem am_okm62 : am_okm 62 = true := by decide +kernel
theorem am_okm63 : am_okm 63 = true := by decide +kernel
theorem am_okm64 : am_okm 64 = true := by decide +kernel
theorem am_okm65 : am_okm 65 = true := by decide +kernel
theorem am_okm66 : am_okm 66 = true := by decide +kernel
theorem am_okm67 : am_okm 67 = true := by decide +kernel
theorem am_okm68 : am_okm 68 = true := by decide +kernel
theorem am_okm69 : am_okm 69 = true := by decide +kernel
theorem am_okm70 : am_okm 70 = true := by decide +kernel
theorem am_okm71 : am_okm 71 = true := by decide +kernel
theorem am_okm72 : am_okm 72 = true := by decide +kernel
theorem am_okm73 : am_okm 73 = true := by decide +kernel
theorem am_okm74 : am_okm 74 = true := by decide +kernel
theorem am_okm75 : am_okm 75 = true := by decide +kernel
theorem am_okm76 : am_okm 76 = true := by decide +kernel
theorem am_okm77 : am_okm 77 = true := by decide +kernel
theorem am_okm78 : am_okm 78 = true := by decide +kernel
theorem am_okm79 : am_okm 79 = true := by decide +kernel
theorem am_okm80 : am_okm 80 = true := by decide +kernel
theorem am_okm81 : am_okm 81 = true := by decide +kernel
theorem am_okm82 : am_okm 82 = true := by decide +kernel
theorem am_okm83 : am_okm 83 = true := by decide +kernel
theorem am_okm84 : am_okm 84 = true := by decide +kernel
theorem am_okm85 : am_okm 85 = true := by decide +kernel
theorem am_okm86 : am_okm 86 = true := by decide +kernel
theorem am_okm87 : am_okm 87 = true := by decide +kernel
theorem am_okm88 : am_okm 88 = true := by decide +kernel
theorem am_okm89 : am_okm 89 = true := by decide +kernel
theorem am_okm90 : am_okm 90 = true := by decide +kernel
theorem am_okm91 : am_okm 91 = true := by decide +kernel
theorem am_okm92 : am_okm 92 = true := by decide +kernel
theorem am_okm93 : am_okm 93 = true := by decide +kernel
theorem am_okm94 : am_okm 94 = true := by decide +kernel
theorem am_okm95 : am_okm 95 = true := by decide +kernel
theorem am_okm96 : am_okm 96 = true := by decide +kernel
theorem am_okm97 : am_okm 97 = true := by decide +kernel
theorem am_okm98 : am_okm 98 = true := by decide +kernel
theorem am_okm99 : am_okm 99 = true := by decide +kernel
theorem am_okm100 : am_okm 100 = true := by decide +kernel
theorem am_okm101 : am_okm 101 = true := by decide +kernel
theorem am_okm102 : am_okm 102 = true := by decide +kernel
theorem am_okm103 : am_okm 103 = true := by decide +kernel
theorem am_okm104 : am_okm 104 = true := by decide +kernel
theorem am_okm105 : am_okm 105 = true := by decide +kernel
theorem am_okm106 : am_okm 106 = true := by decide +kernel
theorem am_okm107 : am_okm 107 = true := by decide +kernel
theorem am_okm108 : am_okm 108 = true := by decide +kernel
theorem am_okm109 : am_okm 109 = true := by decide +kernel
theorem am_okm110 : am_okm 110 = true := by decide +kernel
theorem am_okm111 : am_okm 111 = true := by decide +kernel
theorem am_okm112 : am_okm 112 = true := by decide +kernel
theorem am_okm113 : am_okm 113 = true := by decide +kernel
theorem am_okm114 : am_okm 114 = true := by decide +kernel
theorem am_okm115 : am_okm 115 = true := by decide +kernel
theorem am_okm116 : am_okm 116 = true := by decide +kernel
theorem am_okm117 : am_okm 117 = true := by decide +kernel
theorem am_okm118 : am_okm 118 = true := by decide +kernel
theorem am_okm119 : am_okm 119 = true := by decide +kernel
theorem am_okm120 : am_okm 120 = true := by decide +kernel
theorem am_okm121 : am_okm 121 = true := by decide +kernel
theorem am_okm122 : am_okm 122 = true := by decide +kernel
theorem am_okm123 : am_okm 123 = true := by decide +kernel
theorem am_okm124 : am_okm 124 = true := by decide +kernel
theorem am_okm125 : am_okm 125 = true := by decide +kernel
theorem am_okm126 : am_okm 126 = true := by decide +kernel
theorem am_okm127 : am_okm 127 = true := by decide +kernel
theorem am_okm128 : am_okm 128 = true := by decide +kernel
theorem am_okm129 : am_okm 129 = true := by decide +kernel
theorem am_okm130 : am_okm 130 = true := by decide +kernel
theorem am_okm131 : am_okm 131 = true := by decide +kernel
theorem am_okm132 : am_okm 132 = true := by decide +kernel
theorem am_okm133 : am_okm 133 = true := by decide +kernel
theorem am_okm134 : am_okm 134 = true := by decide +kernel
theorem am_okm135 : am_okm 135 = true := by decide +kernel
theorem am_okm136 : am_okm 136 = true := by decide +kernel
theorem am_okm137 : am_okm 137 = true := by decide +kernel
theorem am_okm138 : am_okm 138 = true := by decide +kernel
theorem am_okm139 : am_okm 139 = true := by decide +kernel
theorem am_okm140 : am_okm 140 = true := by decide +kernel
theorem am_okm141 : am_okm 141 = true := by decide +kernel
theorem am_okm142 : am_okm 142 = true := by decide +kernel
theorem am_okm143 : am_okm 143 = true := by decide +kernel
theorem am_okm144 : am_okm 144 = true := by decide +kernel
theorem am_okm145 : am_okm 145 = true := by decide +kernel
theorem am_okm146 : am_okm 146 = true := by decide +kernel
theorem am_okm147 : am_okm 147 = true := by decide +kernel
theorem am_okm148 : am_okm 148 = true := by decide +kernel
theorem am_okm149 : am_okm 149 = true := by decide +kernel
theorem am_okm150 : am_okm 150 = true := by decide +kernel
theorem am_okm151 : am_okm 151 = true := by decide +kernel
theorem am_okm152 : am_okm 152 = true := by decide +kernel
theorem am_okm153 : am_okm 153 = true := by decide +kernel
theorem am_okm154 : am_okm 154 = true := by decide +kernel
theorem am_okm155 : am_okm 155 = true := by decide +kernel
theorem am_okm156 : am_okm 156 = true := by decide +kernel
theorem am_okm157 : am_okm 157 = true := by decide +kernel
theorem am_okm158 : am_okm 158 = true := by decide +kernel
theorem am_okm159 : am_okm 159 = true := by decide +kernel
theorem am_okm160 : am_okm 160 = true := by decide +kernel
theorem am_okm161 : am_okm 161 = true := by decide +kernel
theorem am_okm162 : am_okm 162 = true := by decide +kernel
theorem am_okm163 : am_okm 163 = true := by decide +kernel
theorem am_okm164 : am_okm 164 = true := by decide +kernel
theorem am_okm165 : am_okm 165 = true := by decide +kernel
theorem am_okm166 : am_okm 166 = true := by decide +kernel
theorem am_okm167 : am_okm 167 = true := by decide +kernel
theorem am_okm168 : am_okm 168 = true := by decide +kernel
theorem am_okm169 : am_okm 169 = true := by decide +kernel
theorem am_okm170 : am_okm 170 = true := by decide +kernel
theorem am_okm171 : am_okm 171 = true := by decide +kernel
theorem am_okm172 : am_okm 172 = true := by decide +kernel
theorem am_okm173 : am_okm 173 = true := by decide +kernel
theorem am_okm174 : am_okm 174 = true := by decide +kernel
theorem am_okm175 : am_okm 175 = true := by decide +kernel
theorem am_okm176 : am_okm 176 = true := by decide +kernel
theorem am_okm177 : am_okm 177 = true := by decide +kernel
theorem am_okm178 : am_okm 178 = true := by decide +kernel
theorem am_okm179 : am_okm 179 = true := by decide +kernel
theorem am_okm180 : am_okm 180 = true := by decide +kernel
theorem am_okm181 : am_okm 181 = true := by decide +kernel
theorem am_okm182 : am_okm 182 = true := by decide +kernel
theorem am_okm183 : am_okm 183 = true := by decide +kernel
theorem am_okm184 : am_okm 184 = true := by decide +kernel
theorem am_okm185 : am_okm 185 = true := by decide +kernel
theorem am_okm186 : am_okm 186 = true := by decide +kernel
theorem am_okm187 : am_okm 187 = true := by decide +kernel
theorem am_okm188 : am_okm 188 = true := by decide +kernel
theorem am_okm189 : am_okm 189 = true := by decide +kernel
theorem am_okm190 : am_okm 190 = true := by decide +kernel
theorem am_okm191 : am_okm 191 = true := by decide +kernel
theorem am_okm192 : am_okm 192 = true := by decide +kernel
theorem am_okm193 : am_okm 193 = true := by decide +kernel
theorem am_okm194 : am_okm 194 = true := by decide +kernel
theorem am_okm195 : am_okm 195 = true := by decide +kernel
theorem am_okm196 : am_okm 196 = true := by decide +kernel
theorem am_okm197 : am_okm 197 = true := by decide +kernel
theorem am_okm198 : am_okm 198 = true := by decide +kernel
theorem am_okm199 : am_okm 199 = true := by decide +kernel
theorem am_okm200 : am_okm 200 = true := by decide +kernel
theorem am_okm201 : am_okm 201 = true := by decide +kernel
theorem am_okm202 : am_okm 202 = true := by decide +kernel
theorem am_okm203 : am_okm 203 = true := by decide +kernel
theorem am_okm204 : am_okm 204 = true := by decide +kernel
theorem am_okm205 : am_okm 205 = true := by decide +kernel
theorem am_okm206 : am_okm 206 = true := by decide +kernel
theorem am_okm207 : am_okm 207 = true := by decide +kernel
theorem am_okm208 : am_okm 208 = true := by decide +kernel
theorem am_okm209 : am_okm 209 = true := by decide +kernel
theorem am_okm210 : am_okm 210 = true := by decide +kernel
theorem am_okm211 : am_okm 211 = true := by decide +kernel
theorem am_okm212 : am_okm 212 = true := by decide +kernel
theorem am_okm213 : am_okm 213 = true := by decide +kernel
theorem am_okm214 : am_okm 214 = true := by decide +kernel
theorem am_okm215 : am_okm 215 = true := by decide +kernel
theorem am_okm216 : am_okm 216 = true := by decide +kernel
theorem am_okm217 : am_okm 217 = true := by decide +kernel
theorem am_okm218 : am_okm 218 = true := by decide +kernel
theorem am_okm219 : am_okm 219 = true := by decide +kernel
theorem am_okm220 : am_okm 220 = true := by decide +kernel
theorem am_okm221 : am_okm 221 = true := by decide +kernel
theorem am_okm222 : am_okm 222 = true := by decide +kernel
theorem am_okm223 : am_okm 223 = true := by decide +kernel
theorem am_okm224 : am_okm 224 = true := by decide +kernel
theorem am_okm225 : am_okm 225 = true := by decide +kernel
theorem am_okm226 : am_okm 226 = true := by decide +kernel
theorem am_okm227 : am_okm 227 = true := by decide +kernel
theorem am_okm228 : am_okm 228 = true := by decide +kernel
theorem am_okm229 : am_okm 229 = true := by decide +kernel
theorem am_okm230 : am_okm 230 = true := by decide +kernel
theorem am_okm231 : am_okm 231 = true := by decide +kernel
theorem am_okm232 : am_okm 232 = true := by decide +kernel
theorem am_okm233 : am_okm 233 = true := by decide +kernel
theorem am_okm234 : am_okm 234 = true := by decide +kernel
theorem am_okm235 : am_okm 235 = true := by decide +kernel
theorem am_okm236 : am_okm 236 = true := by decide +kernel
theorem am_okm237 : am_okm 237 = true := by decide +kernel
theorem am_okm238 : am_okm 238 = true := by decide +kernel
theorem am_okm239 : am_okm 239 = true := by decide +kernel
theorem am_okm240 : am_okm 240 = true := by decide +kernel
theorem am_okm241 : am_okm 241 = true := by decide +kernel
theorem am_okm242 : am_okm 242 = true := by decide +kernel
theorem am_okm243 : am_okm 243 = true := by decide +kernel
theorem am_okm244 : am_okm 244 = true := by decide +kernel
theorem am_okm245 : am_okm 245 = true := by decide +kernel
/-- all methods up to a number -/
noncomputable def am_okl : Nat → Bool
  | 0 => true
  | m + 1 => am_okl m && am_okm (m + 1)
theorem am_okl_at : ∀ n m, am_okl n = true → 0 < m → m ≤ n → am_okm m = true
  | 0, m, _, h1, h2 => by omega
  | n + 1, m, h, h1, h2 => by
    simp only [am_okl, Bool.and_eq_true] at h
    rcases Nat.lt_or_ge m (n + 1) with q | q
    · exact am_okl_at n m h.1 h1 (by omega)
    · rw [show m = n + 1 by omega]; exact h.2
theorem am_okl_0 : am_okl 0 = true := rfl
theorem am_okl_1 : am_okl 1 = true := by rw [am_okl, am_okl_0, am_okm1]; rfl
theorem am_okl_2 : am_okl 2 = true := by rw [am_okl, am_okl_1, am_okm2]; rfl
theorem am_okl_3 : am_okl 3 = true := by rw [am_okl, am_okl_2, am_okm3]; rfl
theorem am_okl_4 : am_okl 4 = true := by rw [am_okl, am_okl_3, am_okm4]; rfl
theorem am_okl_5 : am_okl 5 = true := by rw [am_okl, am_okl_4, am_okm5]; rfl
theorem am_okl_6 : am_okl 6 = true := by rw [am_okl, am_okl_5, am_okm6]; rfl
theorem am_okl_7 : am_okl 7 = true := by rw [am_okl, am_okl_6, am_okm7]; rfl
theorem am_okl_8 : am_okl 8 = true := by rw [am_okl, am_okl_7, am_okm8]; rfl
theorem am_okl_9 : am_okl 9 = true := by rw [am_okl, am_okl_8, am_okm9]; rfl
theorem am_okl_10 : am_okl 10 = true := by rw [am_okl, am_okl_9, am_okm10]; rfl
theorem am_okl_11 : am_okl 11 = true := by rw [am_okl, am_okl_10, am_okm11]; rfl
theorem am_okl_12 : am_okl 12 = true := by rw [am_okl, am_okl_11, am_okm12]; rfl
theorem am_okl_13 : am_okl 13 = true := by rw [am_okl, am_okl_12, am_okm13]; rfl
theorem am_okl_14 : am_okl 14 = true := by rw [am_okl, am_okl_13, am_okm14]; rfl
theorem am_okl_15 : am_okl 15 = true := by rw [am_okl, am_okl_14, am_okm15]; rfl
theorem am_okl_16 : am_okl 16 = true := by rw [am_okl, am_okl_15, am_okm16]; rfl
theorem am_okl_17 : am_okl 17 = true := by rw [am_okl, am_okl_16, am_okm17]; rfl
theorem am_okl_18 : am_okl 18 = true := by rw [am_okl, am_okl_17, am_okm18]; rfl
theorem am_okl_19 : am_okl 19 = true := by rw [am_okl, am_okl_18, am_okm19]; rfl
theorem am_okl_20 : am_okl 20 = true := by rw [am_okl, am_okl_19, am_okm20]; rfl
theorem am_okl_21 : am_okl 21 = true := by rw [am_okl, am_okl_20, am_okm21]; rfl
theorem am_okl_22 : am_okl 22 = true := by rw [am_okl, am_okl_21, am_okm22]; rfl
theorem am_okl_23 : am_okl 23 = true := by rw [am_okl, am_okl_22, am_okm23]; rfl
theorem am_okl_24 : am_okl 24 = true := by rw [am_okl, am_okl_23, am_okm24]; rfl
theorem am_okl_25 : am_okl 25 = true := by rw [am_okl, am_okl_24, am_okm25]; rfl
theorem am_okl_26 : am_okl 26 = true := by rw [am_okl, am_okl_25, am_okm26]; rfl
theorem am_okl_27 : am_okl 27 = true := by rw [am_okl, am_okl_26, am_okm27]; rfl
theorem am_okl_28 : am_okl 28 = true := by rw [am_okl, am_okl_27, am_okm28]; rfl
theorem am_okl_29 : am_okl 29 = true := by rw [am_okl, am_okl_28, am_okm29]; rfl
theorem am_okl_30 : am_okl 30 = true := by rw [am_okl, am_okl_29, am_okm30]; rfl
theorem am_okl_31 : am_okl 31 = true := by rw [am_okl, am_okl_30, am_okm31]; rfl
theorem am_okl_32 : am_okl 32 = true := by rw [am_okl, am_okl_31, am_okm32]; rfl
theorem am_okl_33 : am_okl 33 = true := by rw [am_okl, am_okl_32, am_okm33]; rfl
theorem am_okl_34 : am_okl 34 = true := by rw [am_okl, am_okl_33, am_okm34]; rfl
theorem am_okl_35 : am_okl 35 = true := by rw [am_okl, am_okl_34, am_okm35]; rfl
theorem am_okl_36 : am_okl 36 = true := by rw [am_okl, am_okl_35, am_okm36]; rfl
theorem am_okl_37 : am_okl 37 = true := by rw [am_okl, am_okl_36, am_okm37]; rfl
theorem am_okl_38 : am_okl 38 = true := by rw [am_okl, am_okl_37, am_okm38]; rfl
theorem am_okl_39 : am_okl 39 = true := by rw [am_okl, am_okl_38, am_okm39]; rfl
theorem am_okl_40 : am_okl 40 = true := by rw [am_okl, am_okl_39, am_okm40]; rfl
theorem am_okl_41 : am_okl 41 = true := by rw [am_okl, am_okl_40, am_okm41]; rfl
theorem am_okl_42 : am_okl 42 = true := by rw [am_okl, am_okl_41, am_okm42]; rfl
theorem am_okl_43 : am_okl 43 = true := by rw [am_okl, am_okl_42, am_okm43]; rfl
theorem am_okl_44 : am_okl 44 = true := by rw [am_okl, am_okl_43, am_okm44]; rfl
theorem am_okl_45 : am_okl 45 = true := by rw [am_okl, am_okl_44, am_okm45]; rfl
theorem am_okl_46 : am_okl 46 = true := by rw [am_okl, am_okl_45, am_okm46]; rfl
theorem am_okl_47 : am_okl 47 = true := by rw [am_okl, am_okl_46, am_okm47]; rfl
theorem am_okl_48 : am_okl 48 = true := by rw [am_okl, am_okl_47, am_okm48]; rfl
theorem am_okl_49 : am_okl 49 = true := by rw [am_okl, am_okl_48, am_okm49]; rfl
theorem am_okl_50 : am_okl 50 = true := by rw [am_okl, am_okl_49, am_okm50]; rfl
theorem am_okl_51 : am_okl 51 = true := by rw [am_okl, am_okl_50, am_okm51]; rfl
theorem am_okl_52 : am_okl 52 = true := by rw [am_okl, am_okl_51, am_okm52]; rfl
theorem am_okl_53 : am_okl 53 = true := by rw [am_okl, am_okl_52, am_okm53]; rfl
theorem am_okl_54 : am_okl 54 = true := by rw [am_okl, am_okl_53, am_okm54]; rfl
theorem am_okl_55 : am_okl 55 = true := by rw [am_okl, am_okl_54, am_okm55]; rfl
theorem am_okl_56 : am_okl 56 = true := by rw [am_okl, am_okl_55, am_okm56]; rfl
theorem am_okl_57 : am_okl 57 = true := by rw [am_okl, am_okl_56, am_okm57]; rfl
theorem am_okl_58 : am_okl 58 = true := by rw [am_okl, am_okl_57, am_okm58]; rfl
theorem am_okl_59 : am_okl 59 = true := by rw [am_okl, am_okl_58, am_okm59]; rfl
theorem am_okl_60 : am_okl 60 = true := by rw [am_okl, am_okl_59, am_okm60]; rfl
theorem am_okl_61 : am_okl 61 = true := by rw [am_okl, am_okl_60, am_okm61]; rfl
theorem am_okl_62 : am_okl 62 = true := by rw [am_okl, am_okl_61, am_okm62]; rfl
theorem am_okl_63 : am_okl 63 = true := by rw [am_okl, am_okl_62, am_okm63]; rfl
theorem am_okl_64 : am_okl 64 = true := by rw [am_okl, am_okl_63, am_okm64]; rfl
theorem am_okl_65 : am_okl 65 = true := by rw [am_okl, am_okl_64, am_okm65]; rfl
theorem am_okl_66 : am_okl 66 = true := by rw [am_okl, am_okl_65, am_okm66]; rfl
theorem am_okl_67 : am_okl 67 = true := by rw [am_okl, am_okl_66, am_okm67]; rfl
theorem am_okl_68 : am_okl 68 = true := by rw [am_okl, am_okl_67, am_okm68]; rfl
theorem am_okl_69 : am_okl 69 = true := by rw [am_okl, am_okl_68, am_okm69]; rfl
theorem am_okl_70 : am_okl 70 = true := by rw [am_okl, am_okl_69, am_okm70]; rfl
theorem am_okl_71 : am_okl 71 = true := by rw [am_okl, am_okl_70, am_okm71]; rfl
theorem am_okl_72 : am_okl 72 = true := by rw [am_okl, am_okl_71, am_okm72]; rfl
theorem am_okl_73 : am_okl 73 = true := by rw [am_okl, am_okl_72, am_okm73]; rfl
theorem am_okl_74 : am_okl 74 = true := by rw [am_okl, am_okl_73, am_okm74]; rfl
theorem am_okl_75 : am_okl 75 = true := by rw [am_okl, am_okl_74, am_okm75]; rfl
theorem am_okl_76 : am_okl 76 = true := by rw [am_okl, am_okl_75, am_okm76]; rfl
theorem am_okl_77 : am_okl 77 = true := by rw [am_okl, am_okl_76, am_okm77]; rfl
theorem am_okl_78 : am_okl 78 = true := by rw [am_okl, am_okl_77, am_okm78]; rfl
theorem am_okl_79 : am_okl 79 = true := by rw [am_okl, am_okl_78, am_okm79]; rfl
theorem am_okl_80 : am_okl 80 = true := by rw [am_okl, am_okl_79, am_okm80]; rfl
theorem am_okl_81 : am_okl 81 = true := by rw [am_okl, am_okl_80, am_okm81]; rfl
theorem am_okl_82 : am_okl 82 = true := by rw [am_okl, am_okl_81, am_okm82]; rfl
theorem am_okl_83 : am_okl 83 = true := by rw [am_okl, am_okl_82, am_okm83]; rfl
theorem am_okl_84 : am_okl 84 = true := by rw [am_okl, am_okl_83, am_okm84]; rfl
theorem am_okl_85 : am_okl 85 = true := by rw [am_okl, am_okl_84, am_okm85]; rfl
theorem am_okl_86 : am_okl 86 = true := by rw [am_okl, am_okl_85, am_okm86]; rfl
theorem am_okl_87 : am_okl 87 = true := by rw [am_okl, am_okl_86, am_okm87]; rfl
theorem am_okl_88 : am_okl 88 = true := by rw [am_okl, am_okl_87, am_okm88]; rfl
theorem am_okl_89 : am_okl 89 = true := by rw [am_okl, am_okl_88, am_okm89]; rfl
theorem am_okl_90 : am_okl 90 = true := by rw [am_okl, am_okl_89, am_okm90]; rfl
theorem am_okl_91 : am_okl 91 = true := by rw [am_okl, am_okl_90, am_okm91]; rfl
theorem am_okl_92 : am_okl 92 = true := by rw [am_okl, am_okl_91, am_okm92]; rfl
theorem am_okl_93 : am_okl 93 = true := by rw [am_okl, am_okl_92, am_okm93]; rfl
theorem am_okl_94 : am_okl 94 = true := by rw [am_okl, am_okl_93, am_okm94]; rfl
theorem am_okl_95 : am_okl 95 = true := by rw [am_okl, am_okl_94, am_okm95]; rfl
theorem am_okl_96 : am_okl 96 = true := by rw [am_okl, am_okl_95, am_okm96]; rfl
theorem am_okl_97 : am_okl 97 = true := by rw [am_okl, am_okl_96, am_okm97]; rfl
theorem am_okl_98 : am_okl 98 = true := by rw [am_okl, am_okl_97, am_okm98]; rfl
theorem am_okl_99 : am_okl 99 = true := by rw [am_okl, am_okl_98, am_okm99]; rfl
theorem am_okl_100 : am_okl 100 = true := by rw [am_okl, am_okl_99, am_okm100]; rfl
theorem am_okl_101 : am_okl 101 = true := by rw [am_okl, am_okl_100, am_okm101]; rfl
theorem am_okl_102 : am_okl 102 = true := by rw [am_okl, am_okl_101, am_okm102]; rfl
theorem am_okl_103 : am_okl 103 = true := by rw [am_okl, am_okl_102, am_okm103]; rfl
theorem am_okl_104 : am_okl 104 = true := by rw [am_okl, am_okl_103, am_okm104]; rfl
theorem am_okl_105 : am_okl 105 = true := by rw [am_okl, am_okl_104, am_okm105]; rfl
theorem am_okl_106 : am_okl 106 = true := by rw [am_okl, am_okl_105, am_okm106]; rfl
theorem am_okl_107 : am_okl 107 = true := by rw [am_okl, am_okl_106, am_okm107]; rfl
theorem am_okl_108 : am_okl 108 = true := by rw [am_okl, am_okl_107, am_okm108]; rfl
theorem am_okl_109 : am_okl 109 = true := by rw [am_okl, am_okl_108, am_okm109]; rfl
theorem am_okl_110 : am_okl 110 = true := by rw [am_okl, am_okl_109, am_okm110]; rfl
theorem am_okl_111 : am_okl 111 = true := by rw [am_okl, am_okl_110, am_okm111]; rfl
theorem am_okl_112 : am_okl 112 = true := by rw [am_okl, am_okl_111, am_okm112]; rfl
theorem am_okl_113 : am_okl 113 = true := by rw [am_okl, am_okl_112, am_okm113]; rfl
theorem am_okl_114 : am_okl 114 = true := by rw [am_okl, am_okl_113, am_okm114]; rfl
theorem am_okl_115 : am_okl 115 = true := by rw [am_okl, am_okl_114, am_okm115]; rfl
theorem am_okl_116 : am_okl 116 = true := by rw [am_okl, am_okl_115, am_okm116]; rfl
theorem am_okl_117 : am_okl 117 = true := by rw [am_okl, am_okl_116, am_okm117]; rfl
theorem am_okl_118 : am_okl 118 = true := by rw [am_okl, am_okl_117, am_okm118]; rfl
theorem am_okl_119 : am_okl 119 = true := by rw [am_okl, am_okl_118, am_okm119]; rfl
theorem am_okl_120 : am_okl 120 = true := by rw [am_okl, am_okl_119, am_okm120]; rfl
theorem am_okl_121 : am_okl 121 = true := by rw [am_okl, am_okl_120, am_okm121]; rfl
theorem am_okl_122 : am_okl 122 = true := by rw [am_okl, am_okl_121, am_okm122]; rfl
theorem am_okl_123 : am_okl 123 = true := by rw [am_okl, am_okl_122, am_okm123]; rfl
theorem am_okl_124 : am_okl 124 = true := by rw [am_okl, am_okl_123, am_okm124]; rfl
theorem am_okl_125 : am_okl 125 = true := by rw [am_okl, am_okl_124, am_okm125]; rfl
theorem am_okl_126 : am_okl 126 = true := by rw [am_okl, am_okl_125, am_okm126]; rfl
theorem am_okl_127 : am_okl 127 = true := by rw [am_okl, am_okl_126, am_okm127]; rfl
theorem am_okl_128 : am_okl 128 = true := by rw [am_okl, am_okl_127, am_okm128]; rfl
theorem am_okl_129 : am_okl 129 = true := by rw [am_okl, am_okl_128, am_okm129]; rfl
theorem am_okl_130 : am_okl 130 = true := by rw [am_okl, am_okl_129, am_okm130]; rfl
theorem am_okl_131 : am_okl 131 = true := by rw [am_okl, am_okl_130, am_okm131]; rfl
theorem am_okl_132 : am_okl 132 = true := by rw [am_okl, am_okl_131, am_okm132]; rfl
theorem am_okl_133 : am_okl 133 = true := by rw [am_okl, am_okl_132, am_okm133]; rfl
theorem am_okl_134 : am_okl 134 = true := by rw [am_okl, am_okl_133, am_okm134]; rfl
theorem am_okl_135 : am_okl 135 = true := by rw [am_okl, am_okl_134, am_okm135]; rfl
theorem am_okl_136 : am_okl 136 = true := by rw [am_okl, am_okl_135, am_okm136]; rfl
theorem am_okl_137 : am_okl 137 = true := by rw [am_okl, am_okl_136, am_okm137]; rfl
theorem am_okl_138 : am_okl 138 = true := by rw [am_okl, am_okl_137, am_okm138]; rfl
theorem am_okl_139 : am_okl 139 = true := by rw [am_okl, am_okl_138, am_okm139]; rfl
theorem am_okl_140 : am_okl 140 = true := by rw [am_okl, am_okl_139, am_okm140]; rfl
theorem am_okl_141 : am_okl 141 = true := by rw [am_okl, am_okl_140, am_okm141]; rfl
theorem am_okl_142 : am_okl 142 = true := by rw [am_okl, am_okl_141, am_okm142]; rfl
theorem am_okl_143 : am_okl 143 = true := by rw [am_okl, am_okl_142, am_okm143]; rfl
theorem am_okl_144 : am_okl 144 = true := by rw [am_okl, am_okl_143, am_okm144]; rfl
theorem am_okl_145 : am_okl 145 = true := by rw [am_okl, am_okl_144, am_okm145]; rfl
theorem am_okl_146 : am_okl 146 = true := by rw [am_okl, am_okl_145, am_okm146]; rfl
theorem am_okl_147 : am_okl 147 = true := by rw [am_okl, am_okl_146, am_okm147]; rfl
theorem am_okl_148 : am_okl 148 = true := by rw [am_okl, am_okl_147, am_okm148]; rfl
theorem am_okl_149 : am_okl 149 = true := by rw [am_okl, am_okl_148, am_okm149]; rfl
theorem am_okl_150 : am_okl 150 = true := by rw [am_okl, am_okl_149, am_okm150]; rfl
theorem am_okl_151 : am_okl 151 = true := by rw [am_okl, am_okl_150, am_okm151]; rfl
theorem am_okl_152 : am_okl 152 = true := by rw [am_okl, am_okl_151, am_okm152]; rfl
theorem am_okl_153 : am_okl 153 = true := by rw [am_okl, am_okl_152, am_okm153]; rfl
theorem am_okl_154 : am_okl 154 = true := by rw [am_okl, am_okl_153, am_okm154]; rfl
theorem am_okl_155 : am_okl 155 = true := by rw [am_okl, am_okl_154, am_okm155]; rfl
theorem am_okl_156 : am_okl 156 = true := by rw [am_okl, am_okl_155, am_okm156]; rfl
theorem am_okl_157 : am_okl 157 = true := by rw [am_okl, am_okl_156, am_okm157]; rfl
theorem am_okl_158 : am_okl 158 = true := by rw [am_okl, am_okl_157, am_okm158]; rfl
theorem am_okl_159 : am_okl 159 = true := by rw [am_okl, am_okl_158, am_okm159]; rfl
theorem am_okl_160 : am_okl 160 = true := by rw [am_okl, am_okl_159, am_okm160]; rfl
theorem am_okl_161 : am_okl 161 = true := by rw [am_okl, am_okl_160, am_okm161]; rfl
theorem am_okl_162 : am_okl 162 = true := by rw [am_okl, am_okl_161, am_okm162]; rfl
theorem am_okl_163 : am_okl 163 = true := by rw [am_okl, am_okl_162, am_okm163]; rfl
theorem am_okl_164 : am_okl 164 = true := by rw [am_okl, am_okl_163, am_okm164]; rfl
theorem am_okl_165 : am_okl 165 = true := by rw [am_okl, am_okl_164, am_okm165]; rfl
theorem am_okl_166 : am_okl 166 = true := by rw [am_okl, am_okl_165, am_okm166]; rfl
theorem am_okl_167 : am_okl 167 = true := by rw [am_okl, am_okl_166, am_okm167]; rfl
theorem am_okl_168 : am_okl 168 = true := by rw [am_okl, am_okl_167, am_okm168]; rfl
theorem am_okl_169 : am_okl 169 = true := by rw [am_okl, am_okl_168, am_okm169]; rfl
theorem am_okl_170 : am_okl 170 = true := by rw [am_okl, am_okl_169, am_okm170]; rfl
theorem am_okl_171 : am_okl 171 = true := by rw [am_okl, am_okl_170, am_okm171]; rfl
theorem am_okl_172 : am_okl 172 = true := by rw [am_okl, am_okl_171, am_okm172]; rfl
theorem am_okl_173 : am_okl 173 = true := by rw [am_okl, am_okl_172, am_okm173]; rfl
theorem am_okl_174 : am_okl 174 = true := by rw [am_okl, am_okl_173, am_okm174]; rfl
theorem am_okl_175 : am_okl 175 = true := by rw [am_okl, am_okl_174, am_okm175]; rfl
theorem am_okl_176 : am_okl 176 = true := by rw [am_okl, am_okl_175, am_okm176]; rfl
theorem am_okl_177 : am_okl 177 = true := by rw [am_okl, am_okl_176, am_okm177]; rfl
theorem am_okl_178 : am_okl 178 = true := by rw [am_okl, am_okl_177, am_okm178]; rfl
theorem am_okl_179 : am_okl 179 = true := by rw [am_okl, am_okl_178, am_okm179]; rfl
theorem am_okl_180 : am_okl 180 = true := by rw [am_okl, am_okl_179, am_okm180]; rfl
theorem am_okl_181 : am_okl 181 = true := by rw [am_okl, am_okl_180, am_okm181]; rfl
theorem am_okl_182 : am_okl 182 = true := by rw [am_okl, am_okl_181, am_okm182]; rfl
theorem am_okl_183 : am_okl 183 = true := by rw [am_okl, am_okl_182, am_okm183]; rfl
theorem am_okl_184 : am_okl 184 = true := by rw [am_okl, am_okl_183, am_okm184]; rfl
theorem am_okl_185 : am_okl 185 = true := by rw [am_okl, am_okl_184, am_okm185]; rfl
theorem am_okl_186 : am_okl 186 = true := by rw [am_okl, am_okl_185, am_okm186]; rfl
theorem am_okl_187 : am_okl 187 = true := by rw [am_okl, am_okl_186, am_okm187]; rfl
theorem am_okl_188 : am_okl 188 = true := by rw [am_okl, am_okl_187, am_okm188]; rfl
theorem am_okl_189 : am_okl 189 = true := by rw [am_okl, am_okl_188, am_okm189]; rfl
theorem am_okl_190 : am_okl 190 = true := by rw [am_okl, am_okl_189, am_okm190]; rfl
theorem am_okl_191 : am_okl 191 = true := by rw [am_okl, am_okl_190, am_okm191]; rfl
theorem am_okl_192 : am_okl 192 = true := by rw [am_okl, am_okl_191, am_okm192]; rfl
theorem am_okl_193 : am_okl 193 = true := by rw [am_okl, am_okl_192, am_okm193]; rfl
theorem am_okl_194 : am_okl 194 = true := by rw [am_okl, am_okl_193, am_okm194]; rfl
theorem am_okl_195 : am_okl 195 = true := by rw [am_okl, am_okl_194, am_okm195]; rfl
theorem am_okl_196 : am_okl 196 = true := by rw [am_okl, am_okl_195, am_okm196]; rfl
theorem am_okl_197 : am_okl 197 = true := by rw [am_okl, am_okl_196, am_okm197]; rfl
theorem am_okl_198 : am_okl 198 = true := by rw [am_okl, am_okl_197, am_okm198]; rfl
theorem am_okl_199 : am_okl 199 = true := by rw [am_okl, am_okl_198, am_okm199]; rfl
theorem am_okl_200 : am_okl 200 = true := by rw [am_okl, am_okl_199, am_okm200]; rfl
theorem am_okl_201 : am_okl 201 = true := by rw [am_okl, am_okl_200, am_okm201]; rfl
theorem am_okl_202 : am_okl 202 = true := by rw [am_okl, am_okl_201, am_okm202]; rfl
theorem am_okl_203 : am_okl 203 = true := by rw [am_okl, am_okl_202, am_okm203]; rfl
theorem am_okl_204 : am_okl 204 = true := by rw [am_okl, am_okl_203, am_okm204]; rfl
theorem am_okl_205 : am_okl 205 = true := by rw [am_okl, am_okl_204, am_okm205]; rfl
theorem am_okl_206 : am_okl 206 = true := by rw [am_okl, am_okl_205, am_okm206]; rfl
theorem am_okl_207 : am_okl 207 = true := by rw [am_okl, am_okl_206, am_okm207]; rfl
theorem am_okl_208 : am_okl 208 = true := by rw [am_okl, am_okl_207, am_okm208]; rfl
theorem am_okl_209 : am_okl 209 = true := by rw [am_okl, am_okl_208, am_okm209]; rfl
theorem am_okl_210 : am_okl 210 = true := by rw [am_okl, am_okl_209, am_okm210]; rfl
theorem am_okl_211 : am_okl 211 = true := by rw [am_okl, am_okl_210, am_okm211]; rfl
theorem am_okl_212 : am_okl 212 = true := by rw [am_okl, am_okl_211, am_okm212]; rfl
theorem am_okl_213 : am_okl 213 = true := by rw [am_okl, am_okl_212, am_okm213]; rfl
theorem am_okl_214 : am_okl 214 = true := by rw [am_okl, am_okl_213, am_okm214]; rfl
theorem am_okl_215 : am_okl 215 = true := by rw [am_okl, am_okl_214, am_okm215]; rfl
theorem am_okl_216 : am_okl 216 = true := by rw [am_okl, am_okl_215, am_okm216]; rfl
theorem am_okl_217 : am_okl 217 = true := by rw [am_okl, am_okl_216, am_okm217]; rfl
theorem am_okl_218 : am_okl 218 = true := by rw [am_okl, am_okl_217, am_okm218]; rfl
theorem am_okl_219 : am_okl 219 = true := by rw [am_okl, am_okl_218, am_okm219]; rfl
theorem am_okl_220 : am_okl 220 = true := by rw [am_okl, am_okl_219, am_okm220]; rfl
theorem am_okl_221 : am_okl 221 = true := by rw [am_okl, am_okl_220, am_okm221]; rfl
theorem am_okl_222 : am_okl 222 = true := by rw [am_okl, am_okl_221, am_okm222]; rfl
theorem am_okl_223 : am_okl 223 = true := by rw [am_okl, am_okl_222, am_okm223]; rfl
theorem am_okl_224 : am_okl 224 = true := by rw [am_okl, am_okl_223, am_okm224]; rfl
theorem am_okl_225 : am_okl 225 = true := by rw [am_okl, am_okl_224, am_okm225]; rfl
theorem am_okl_226 : am_okl 226 = true := by rw [am_okl, am_okl_225, am_okm226]; rfl
theorem am_okl_227 : am_okl 227 = true := by rw [am_okl, am_okl_226, am_okm227]; rfl
theorem am_okl_228 : am_okl 228 = true := by rw [am_okl, am_okl_227, am_okm228]; rfl
theorem am_okl_229 : am_okl 229 = true := by rw [am_okl, am_okl_228, am_okm229]; rfl
theorem am_okl_230 : am_okl 230 = true := by rw [am_okl, am_okl_229, am_okm230]; rfl
theorem am_okl_231 : am_okl 231 = true := by rw [am_okl, am_okl_230, am_okm231]; rfl
theorem am_okl_232 : am_okl 232 = true := by rw [am_okl, am_okl_231, am_okm232]; rfl
theorem am_okl_233 : am_okl 233 = true := by rw [am_okl, am_okl_232, am_okm233]; rfl
theorem am_okl_234 : am_okl 234 = true := by rw [am_okl, am_okl_233, am_okm234]; rfl
theorem am_okl_235 : am_okl 235 = true := by rw [am_okl, am_okl_234, am_okm235]; rfl
theorem am_okl_236 : am_okl 236 = true := by rw [am_okl, am_okl_235, am_okm236]; rfl
theorem am_okl_237 : am_okl 237 = true := by rw [am_okl, am_okl_236, am_okm237]; rfl
theorem am_okl_238 : am_okl 238 = true := by rw [am_okl, am_okl_237, am_okm238]; rfl
theorem am_okl_239 : am_okl 239 = true := by rw [am_okl, am_okl_238, am_okm239]; rfl
theorem am_okl_240 : am_okl 240 = true := by rw [am_okl, am_okl_239, am_okm240]; rfl
theorem am_okl_241 : am_okl 241 = true := by rw [am_okl, am_okl_240, am_okm241]; rfl
theorem am_okl_242 : am_okl 242 = true := by rw [am_okl, am_okl_241, am_okm242]; rfl
theorem am_okl_243 : am_okl 243 = true := by rw [am_okl, am_okl_242, am_okm243]; rfl
theorem am_okl_244 : am_okl 244 = true := by rw [am_okl, am_okl_243, am_okm244]; rfl
theorem am_okl_245 : am_okl 245 = true := by rw [am_okl, am_okl_244, am_okm245]; rfl
theorem am_ok_m {m : Nat} (h1 : 0 < m) (h2 : m < 246) : am_okm m = true := am_okl_at 245 m am_okl_245 h1 (by omega)
