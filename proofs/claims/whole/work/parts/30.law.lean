/-! THE LAW (by program) -/
set_option maxRecDepth 100000 in
noncomputable def Lx_law_1424 (b Ln : Nat) (xs : Nat → Int32) (q1 : Nat) (q6 : Nat) (kb18 : Int32 → Mu → Ly → Option (Int32 × Mm))  (v3 : Int32)  (μ : Mu) (y : Ly) : Option (Int32 × Mm) := kb18 (v3 + 6) μ y
set_option maxRecDepth 100000 in
noncomputable def Lx_law_1393 (b Ln : Nat) (xs : Nat → Int32) (q1 : Nat) (q6 : Nat) (kb18 : Int32 → Mu → Ly → Option (Int32 × Mm))  (v3 : Int32) (s0 : Int32) (s2 : Int32) (μ : Mu) (y : Ly) : Option (Int32 × Mm) := ckP (LyMo y q6) (cl (Mo_image q6 s0 μ) (fun x3 μ2 => (if s2 = x3 then Lx_law_1424 b Ln xs q1 q6 kb18 v3 μ2 y else some (0, (μ2, y)))))
set_option maxRecDepth 100000 in
noncomputable def Lx_law_1376 (b Ln : Nat) (xs : Nat → Int32) (q1 : Nat) (q6 : Nat) (kb18 : Int32 → Mu → Ly → Option (Int32 × Mm))  (v3 : Int32) (s0 : Int32) (μ : Mu) (y : Ly) : Option (Int32 × Mm) := ckP (y.2[q1]? = some (11, 9)) (clm y (Sf_image q1 s0 μ y) (fun x3 μ1 y2 => ldS xs Ln (v3 + 1) (fun x5 => (if x5 = 0 then Lx_law_1393 b Ln xs q1 q6 kb18 v3 0 x3 μ1 y2 else Lx_law_1393 b Ln xs q1 q6 kb18 v3 1 x3 μ1 y2))))
set_option maxRecDepth 100000 in
noncomputable def Lx_law_18b (b Ln : Nat) (xs : Nat → Int32) (q1 : Nat) (q6 : Nat)  (kb18 : Int32 → Mu → Ly → Option (Int32 × Mm))  (v3 : Int32)  (μ : Mu) (y : Ly) : Option (Int32 × Mm) := (if ((Int32.ofNat Ln) - 6) < v3 then some (1, (μ, y)) else ldS xs Ln v3 (fun x1 => (if (x1 &&& 63) = 0 then ldS xs Ln (v3 + 1) (fun x2 => ckP (LySf y q1) (cl (Sf_state q1 x2 μ) (fun x5 μ4 => ldS xs Ln (v3 + 1) (fun x6 => ckP (LyMo y q6) (cl (Mo_state q6 x6 μ4) (fun x9 μ8 => (if x5 = x9 then Lx_law_1424 b Ln xs q1 q6 kb18 v3 μ8 y else some (0, (μ8, y))))))))) else (if (x1 &&& 63) = 1 then ldS xs Ln (v3 + 1) (fun x10 => ckP (LySf y q1) (cl (Sf_person q1 x10 μ) (fun x13 μ12 => ldS xs Ln (v3 + 1) (fun x14 => ckP (LyMo y q6) (cl (Mo_person q6 x14 μ12) (fun x17 μ16 => (if x13 = x17 then Lx_law_1424 b Ln xs q1 q6 kb18 v3 μ16 y else some (0, (μ16, y))))))))) else (if (x1 &&& 63) = 2 then ldS xs Ln (v3 + 1) (fun x18 => ldS xs Ln (v3 + 2) (fun x19 => ldS xs Ln (v3 + 3) (fun x20 => ckP (LySf y q1) (cl (Sf_set q1 x18 x19 x20 μ) (fun x23 μ22 => ldS xs Ln (v3 + 1) (fun x24 => ldS xs Ln (v3 + 2) (fun x25 => ldS xs Ln (v3 + 3) (fun x26 => ckP (LyMo y q6) (cl (Mo_set q6 x24 x25 x26 μ22) (fun x29 μ28 => (if x23 = x29 then Lx_law_1424 b Ln xs q1 q6 kb18 v3 μ28 y else some (0, (μ28, y))))))))))))) else (if (x1 &&& 63) = 3 then ldS xs Ln (v3 + 1) (fun x30 => ldS xs Ln (v3 + 2) (fun x31 => ldS xs Ln (v3 + 3) (fun x32 => ckP (y.2[q1]? = some (11, 9)) (clm y (Sf_act q1 x30 x31 x32 μ y) (fun x35 μ33 y34 => ldS xs Ln (v3 + 1) (fun x37 => ldS xs Ln (v3 + 2) (fun x38 => ldS xs Ln (v3 + 3) (fun x39 => ckP (LyMo y34 q6) (cl (Mo_act q6 x37 x38 x39 μ33) (fun x42 μ41 => (if x35 = x42 then Lx_law_1424 b Ln xs q1 q6 kb18 v3 μ41 y34 else some (0, (μ41, y34))))))))))))) else (if (x1 &&& 63) = 4 then ldS xs Ln (v3 + 1) (fun x43 => ckP (y.2[q1]? = some (11, 9)) (clm y (Sf_days q1 x43 μ y) (fun x46 μ44 y45 => ldS xs Ln (v3 + 1) (fun x48 => ckP (LyMo y45 q6) (cl (Mo_days q6 x48 μ44) (fun x51 μ50 => (if x46 = x51 then Lx_law_1424 b Ln xs q1 q6 kb18 v3 μ50 y45 else some (0, (μ50, y45))))))))) else (if (x1 &&& 63) = 5 then ldS xs Ln (v3 + 1) (fun x52 => ldS xs Ln (v3 + 2) (fun x53 => ldS xs Ln (v3 + 3) (fun x54 => ldS xs Ln (v3 + 4) (fun x55 => ldS xs Ln (v3 + 5) (fun x56 => ckP (LySf y q1) (cl (Sf_feed q1 x52 x53 x54 x55 x56 μ) (fun x59 μ58 => ldS xs Ln (v3 + 1) (fun x60 => ldS xs Ln (v3 + 2) (fun x61 => ldS xs Ln (v3 + 3) (fun x62 => ldS xs Ln (v3 + 4) (fun x63 => ldS xs Ln (v3 + 5) (fun x64 => ckP (LyMo y q6) (cl (Mo_feed q6 x60 x61 x62 x63 x64 μ58) (fun x67 μ66 => (if x59 = x67 then Lx_law_1424 b Ln xs q1 q6 kb18 v3 μ66 y else some (0, (μ66, y))))))))))))))))) else (if (x1 &&& 63) = 6 then ldS xs Ln (v3 + 1) (fun x68 => ckP (LySf y q1) (cl (Sf_end q1 x68 μ) (fun x71 μ70 => ldS xs Ln (v3 + 1) (fun x72 => ckP (LyMo y q6) (cl (Mo_end q6 x72 μ70) (fun x75 μ74 => (if x71 = x75 then Lx_law_1424 b Ln xs q1 q6 kb18 v3 μ74 y else some (0, (μ74, y))))))))) else (if (x1 &&& 63) = 7 then ldS xs Ln (v3 + 1) (fun x76 => ckP (LySf y q1) (cl (Sf_text q1 x76 μ) (fun x79 μ78 => ldS xs Ln (v3 + 1) (fun x80 => ckP (LyMo y q6) (cl (Mo_text q6 x80 μ78) (fun x83 μ82 => (if x79 = x83 then Lx_law_1424 b Ln xs q1 q6 kb18 v3 μ82 y else some (0, (μ82, y))))))))) else (if (x1 &&& 63) = 8 then ldS xs Ln (v3 + 1) (fun x84 => ckP (LySf y q1) (cl (Sf_fault q1 x84 μ) (fun x87 μ86 => ldS xs Ln (v3 + 1) (fun x88 => ckP (LyMo y q6) (cl (Mo_fault q6 x88 μ86) (fun x91 μ90 => (if x87 = x91 then Lx_law_1424 b Ln xs q1 q6 kb18 v3 μ90 y else some (0, (μ90, y))))))))) else (if (x1 &&& 63) = 9 then ldS xs Ln (v3 + 1) (fun x92 => ldS xs Ln (v3 + 2) (fun x93 => ckP (LySf y q1) (cl (Sf_of q1 x92 x93 μ) (fun x96 μ95 => ldS xs Ln (v3 + 1) (fun x97 => ldS xs Ln (v3 + 2) (fun x98 => ckP (LyMo y q6) (cl (Mo_of q6 x97 x98 μ95) (fun x101 μ100 => (if x96 = x101 then Lx_law_1424 b Ln xs q1 q6 kb18 v3 μ100 y else some (0, (μ100, y))))))))))) else (if (x1 &&& 63) = 10 then ldS xs Ln (v3 + 1) (fun x102 => ldS xs Ln (v3 + 2) (fun x103 => ckP (LySf y q1) (cl (Sf_book q1 x102 x103 μ) (fun x106 μ105 => ldS xs Ln (v3 + 1) (fun x107 => ldS xs Ln (v3 + 2) (fun x108 => ckP (LyMo y q6) (cl (Mo_book q6 x107 x108 μ105) (fun x111 μ110 => (if x106 = x111 then Lx_law_1424 b Ln xs q1 q6 kb18 v3 μ110 y else some (0, (μ110, y))))))))))) else (if (x1 &&& 63) = 11 then ldS xs Ln (v3 + 1) (fun x112 => ldS xs Ln (v3 + 2) (fun x113 => ckP (LySf y q1) (cl (Sf_goes q1 x112 x113 μ) (fun x116 μ115 => ldS xs Ln (v3 + 1) (fun x117 => ldS xs Ln (v3 + 2) (fun x118 => ckP (LyMo y q6) (cl (Mo_goes q6 x117 x118 μ115) (fun x121 μ120 => (if x116 = x121 then Lx_law_1424 b Ln xs q1 q6 kb18 v3 μ120 y else some (0, (μ120, y))))))))))) else (if (x1 &&& 63) = 12 then ldS xs Ln (v3 + 1) (fun x122 => ldS xs Ln (v3 + 2) (fun x123 => ckP (LySf y q1) (cl (Sf_high q1 x122 x123 μ) (fun x126 μ125 => ldS xs Ln (v3 + 1) (fun x127 => ldS xs Ln (v3 + 2) (fun x128 => ckP (LyMo y q6) (cl (Mo_high q6 x127 x128 μ125) (fun x131 μ130 => (if x126 = x131 then Lx_law_1424 b Ln xs q1 q6 kb18 v3 μ130 y else some (0, (μ130, y))))))))))) else (if (x1 &&& 63) = 13 then ldS xs Ln (v3 + 1) (fun x132 => ckP (LySf y q1) (cl (Sf_door q1 x132 μ) (fun x135 μ134 => ldS xs Ln (v3 + 1) (fun x136 => ckP (LyMo y q6) (cl (Mo_door q6 x136 μ134) (fun x139 μ138 => (if x135 = x139 then Lx_law_1424 b Ln xs q1 q6 kb18 v3 μ138 y else some (0, (μ138, y))))))))) else (if (x1 &&& 63) = 14 then ldS xs Ln (v3 + 1) (fun x140 => ldS xs Ln (v3 + 2) (fun x141 => ldS xs Ln (v3 + 3) (fun x142 => ckP (LySf y q1) (cl (Sf_date q1 x140 x141 x142 μ) (fun x145 μ144 => ldS xs Ln (v3 + 1) (fun x146 => ldS xs Ln (v3 + 2) (fun x147 => ldS xs Ln (v3 + 3) (fun x148 => ckP (LyMo y q6) (cl (Mo_date q6 x146 x147 x148 μ144) (fun x151 μ150 => (if x145 = x151 then Lx_law_1424 b Ln xs q1 q6 kb18 v3 μ150 y else some (0, (μ150, y))))))))))))) else (if (x1 &&& 63) = 15 then ldS xs Ln (v3 + 1) (fun x152 => ldS xs Ln (v3 + 2) (fun x153 => ldS xs Ln (v3 + 3) (fun x154 => ldS xs Ln (v3 + 4) (fun x155 => ckP (LySf y q1) (cl (Sf_week q1 x152 x153 x154 x155 μ) (fun x158 μ157 => ldS xs Ln (v3 + 1) (fun x159 => ldS xs Ln (v3 + 2) (fun x160 => ldS xs Ln (v3 + 3) (fun x161 => ldS xs Ln (v3 + 4) (fun x162 => ckP (LyMo y q6) (cl (Mo_week q6 x159 x160 x161 x162 μ157) (fun x165 μ164 => (if x158 = x165 then Lx_law_1424 b Ln xs q1 q6 kb18 v3 μ164 y else some (0, (μ164, y))))))))))))))) else (if (x1 &&& 63) = 16 then ldS xs Ln (v3 + 1) (fun x166 => ldS xs Ln (v3 + 2) (fun x167 => ckP (LySf y q1) (cl (Sf_point q1 x166 x167 μ) (fun x170 μ169 => ldS xs Ln (v3 + 1) (fun x171 => ldS xs Ln (v3 + 2) (fun x172 => ckP (LyMo y q6) (cl (Mo_point q6 x171 x172 μ169) (fun x175 μ174 => (if x170 = x175 then Lx_law_1424 b Ln xs q1 q6 kb18 v3 μ174 y else some (0, (μ174, y))))))))))) else (if (x1 &&& 63) = 17 then ldS xs Ln (v3 + 1) (fun x176 => ldS xs Ln (v3 + 2) (fun x177 => ldS xs Ln (v3 + 3) (fun x178 => ckP (LySf y q1) (cl (Sf_side q1 x176 x177 x178 μ) (fun x181 μ180 => ldS xs Ln (v3 + 1) (fun x182 => ldS xs Ln (v3 + 2) (fun x183 => ldS xs Ln (v3 + 3) (fun x184 => ckP (LyMo y q6) (cl (Mo_side q6 x182 x183 x184 μ180) (fun x187 μ186 => (if x181 = x187 then Lx_law_1424 b Ln xs q1 q6 kb18 v3 μ186 y else some (0, (μ186, y))))))))))))) else (if (x1 &&& 63) = 18 then ldS xs Ln (v3 + 1) (fun x188 => ckP (LySf y q1) (cl (Sf_hull q1 x188 μ) (fun x191 μ190 => ldS xs Ln (v3 + 1) (fun x192 => ckP (LyMo y q6) (cl (Mo_hull q6 x192 μ190) (fun x195 μ194 => (if x191 = x195 then Lx_law_1424 b Ln xs q1 q6 kb18 v3 μ194 y else some (0, (μ194, y))))))))) else (if (x1 &&& 63) = 19 then ldS xs Ln (v3 + 1) (fun x196 => ldS xs Ln (v3 + 2) (fun x197 => ckP (LySf y q1) (cl (Sf_turned q1 x196 x197 μ) (fun x200 μ199 => ldS xs Ln (v3 + 1) (fun x201 => ldS xs Ln (v3 + 2) (fun x202 => ckP (LyMo y q6) (cl (Mo_turned q6 x201 x202 μ199) (fun x205 μ204 => (if x200 = x205 then Lx_law_1424 b Ln xs q1 q6 kb18 v3 μ204 y else some (0, (μ204, y))))))))))) else (if (x1 &&& 63) = 20 then ldS xs Ln (v3 + 1) (fun x206 => ckP (LySf y q1) (cl (Sf_weight q1 x206 μ) (fun x209 μ208 => ldS xs Ln (v3 + 1) (fun x210 => ckP (LyMo y q6) (cl (Mo_weight q6 x210 μ208) (fun x213 μ212 => (if x209 = x213 then Lx_law_1424 b Ln xs q1 q6 kb18 v3 μ212 y else some (0, (μ212, y))))))))) else (if (x1 &&& 63) = 21 then ldS xs Ln (v3 + 1) (fun x214 => ckP (LySf y q1) (cl (Sf_weighs q1 x214 μ) (fun x217 μ216 => ldS xs Ln (v3 + 1) (fun x218 => ckP (LyMo y q6) (cl (Mo_weighs q6 x218 μ216) (fun x221 μ220 => (if x217 = x221 then Lx_law_1424 b Ln xs q1 q6 kb18 v3 μ220 y else some (0, (μ220, y))))))))) else (if (x1 &&& 63) = 22 then ldS xs Ln (v3 + 1) (fun x222 => ldS xs Ln (v3 + 2) (fun x223 => ckP (LySf y q1) (cl (Sf_coins q1 x222 x223 μ) (fun x226 μ225 => ldS xs Ln (v3 + 1) (fun x227 => ldS xs Ln (v3 + 2) (fun x228 => ckP (LyMo y q6) (cl (Mo_coins q6 x227 x228 μ225) (fun x231 μ230 => (if x226 = x231 then Lx_law_1424 b Ln xs q1 q6 kb18 v3 μ230 y else some (0, (μ230, y))))))))))) else (if (x1 &&& 63) = 23 then ldS xs Ln (v3 + 1) (fun x232 => ckP (LySf y q1) (cl (Sf_slabs q1 x232 μ) (fun x235 μ234 => ldS xs Ln (v3 + 1) (fun x236 => ckP (LyMo y q6) (cl (Mo_slabs q6 x236 μ234) (fun x239 μ238 => (if x235 = x239 then Lx_law_1424 b Ln xs q1 q6 kb18 v3 μ238 y else some (0, (μ238, y))))))))) else (if (x1 &&& 63) = 24 then ldS xs Ln (v3 + 1) (fun x240 => ldS xs Ln (v3 + 2) (fun x241 => ckP (LySf y q1) (cl (Sf_row q1 x240 x241 μ) (fun x244 μ243 => ldS xs Ln (v3 + 1) (fun x245 => ldS xs Ln (v3 + 2) (fun x246 => ckP (LyMo y q6) (cl (Mo_row q6 x245 x246 μ243) (fun x249 μ248 => (if x244 = x249 then Lx_law_1424 b Ln xs q1 q6 kb18 v3 μ248 y else some (0, (μ248, y))))))))))) else (if (x1 &&& 63) = 25 then ldS xs Ln (v3 + 1) (fun x250 => ckP (LySf y q1) (cl (Sf_shadow q1 x250 μ) (fun x253 μ252 => ldS xs Ln (v3 + 1) (fun x254 => ckP (LyMo y q6) (cl (Mo_shadow q6 x254 μ252) (fun x257 μ256 => (if x253 = x257 then Lx_law_1424 b Ln xs q1 q6 kb18 v3 μ256 y else some (0, (μ256, y))))))))) else (if (x1 &&& 63) = 26 then ldS xs Ln (v3 + 1) (fun x258 => ckP (LySf y q1) (cl (Sf_drip q1 x258 μ) (fun x261 μ260 => ldS xs Ln (v3 + 1) (fun x262 => ckP (LyMo y q6) (cl (Mo_drip q6 x262 μ260) (fun x265 μ264 => (if x261 = x265 then Lx_law_1424 b Ln xs q1 q6 kb18 v3 μ264 y else some (0, (μ264, y))))))))) else (if (x1 &&& 63) = 27 then ldS xs Ln (v3 + 1) (fun x266 => ckP (LySf y q1) (cl (Sf_drips q1 x266 μ) (fun x269 μ268 => ldS xs Ln (v3 + 1) (fun x270 => ckP (LyMo y q6) (cl (Mo_drips q6 x270 μ268) (fun x273 μ272 => (if x269 = x273 then Lx_law_1424 b Ln xs q1 q6 kb18 v3 μ272 y else some (0, (μ272, y))))))))) else (if (x1 &&& 63) = 28 then ldS xs Ln (v3 + 1) (fun x274 => ckP (LySf y q1) (cl (Sf_told q1 x274 μ) (fun x277 μ276 => ldS xs Ln (v3 + 1) (fun x278 => ckP (LyMo y q6) (cl (Mo_told q6 x278 μ276) (fun x281 μ280 => (if x277 = x281 then Lx_law_1424 b Ln xs q1 q6 kb18 v3 μ280 y else some (0, (μ280, y))))))))) else (if (x1 &&& 63) = 29 then ldS xs Ln (v3 + 1) (fun x282 => ldS xs Ln (v3 + 2) (fun x283 => ckP (LySf y q1) (cl (Sf_switches q1 x282 x283 μ) (fun x286 μ285 => ldS xs Ln (v3 + 1) (fun x287 => ldS xs Ln (v3 + 2) (fun x288 => ckP (LyMo y q6) (cl (Mo_switches q6 x287 x288 μ285) (fun x291 μ290 => (if x286 = x291 then Lx_law_1424 b Ln xs q1 q6 kb18 v3 μ290 y else some (0, (μ290, y))))))))))) else (if (x1 &&& 63) = 30 then ldS xs Ln (v3 + 1) (fun x292 => ckP (LySf y q1) (cl (Sf_stage q1 x292 μ) (fun x295 μ294 => ldS xs Ln (v3 + 1) (fun x296 => ckP (LyMo y q6) (cl (Mo_stage q6 x296 μ294) (fun x299 μ298 => (if x295 = x299 then Lx_law_1424 b Ln xs q1 q6 kb18 v3 μ298 y else some (0, (μ298, y))))))))) else (if (x1 &&& 63) = 31 then ldS xs Ln (v3 + 1) (fun x300 => ldS xs Ln (v3 + 2) (fun x301 => ckP (LySf y q1) (cl (Sf_voyage q1 x300 x301 μ) (fun x304 μ303 => ldS xs Ln (v3 + 1) (fun x305 => ldS xs Ln (v3 + 2) (fun x306 => ckP (LyMo y q6) (cl (Mo_voyage q6 x305 x306 μ303) (fun x309 μ308 => (if x304 = x309 then Lx_law_1424 b Ln xs q1 q6 kb18 v3 μ308 y else some (0, (μ308, y))))))))))) else (if (x1 &&& 63) = 32 then ldS xs Ln (v3 + 1) (fun x310 => ldS xs Ln (v3 + 2) (fun x311 => ckP (LySf y q1) (cl (Sf_post q1 x310 x311 μ) (fun x314 μ313 => ldS xs Ln (v3 + 1) (fun x315 => ldS xs Ln (v3 + 2) (fun x316 => ckP (LyMo y q6) (cl (Mo_post q6 x315 x316 μ313) (fun x319 μ318 => (if x314 = x319 then Lx_law_1424 b Ln xs q1 q6 kb18 v3 μ318 y else some (0, (μ318, y))))))))))) else (if (x1 &&& 63) = 33 then ldS xs Ln (v3 + 1) (fun x320 => ldS xs Ln (v3 + 2) (fun x321 => ldS xs Ln (v3 + 3) (fun x322 => ckP (LySf y q1) (cl (Sf_light q1 x320 x321 x322 μ) (fun x325 μ324 => ldS xs Ln (v3 + 1) (fun x326 => ldS xs Ln (v3 + 2) (fun x327 => ldS xs Ln (v3 + 3) (fun x328 => ckP (LyMo y q6) (cl (Mo_light q6 x326 x327 x328 μ324) (fun x331 μ330 => (if x325 = x331 then Lx_law_1424 b Ln xs q1 q6 kb18 v3 μ330 y else some (0, (μ330, y))))))))))))) else (if (x1 &&& 63) = 34 then ldS xs Ln (v3 + 1) (fun x332 => ckP (LySf y q1) (cl (Sf_heap q1 x332 μ) (fun x335 μ334 => ldS xs Ln (v3 + 1) (fun x336 => ckP (LyMo y q6) (cl (Mo_heap q6 x336 μ334) (fun x339 μ338 => (if x335 = x339 then Lx_law_1424 b Ln xs q1 q6 kb18 v3 μ338 y else some (0, (μ338, y))))))))) else (if (x1 &&& 63) = 35 then ldS xs Ln (v3 + 1) (fun x340 => ckP (LySf y q1) (cl (Sf_heaped q1 x340 μ) (fun x343 μ342 => ldS xs Ln (v3 + 1) (fun x344 => ckP (LyMo y q6) (cl (Mo_heaped q6 x344 μ342) (fun x347 μ346 => (if x343 = x347 then Lx_law_1424 b Ln xs q1 q6 kb18 v3 μ346 y else some (0, (μ346, y))))))))) else (if (x1 &&& 63) = 36 then ldS xs Ln (v3 + 1) (fun x348 => ldS xs Ln (v3 + 2) (fun x349 => ckP (LySf y q1) (cl (Sf_game q1 x348 x349 μ) (fun x352 μ351 => ldS xs Ln (v3 + 1) (fun x353 => ldS xs Ln (v3 + 2) (fun x354 => ckP (LyMo y q6) (cl (Mo_game q6 x353 x354 μ351) (fun x357 μ356 => (if x352 = x357 then Lx_law_1424 b Ln xs q1 q6 kb18 v3 μ356 y else some (0, (μ356, y))))))))))) else (if (x1 &&& 63) = 37 then ckP (y.2[q1]? = some (11, 9)) (clm y (Sf_undo q1 μ y) (fun x360 μ358 y359 => ckP (LyMo y359 q6) (cl (Mo_undo q6 μ358) (fun x364 μ363 => (if x360 = x364 then Lx_law_1424 b Ln xs q1 q6 kb18 v3 μ363 y359 else some (0, (μ363, y359))))))) else (if (x1 &&& 63) = 38 then ldS xs Ln (v3 + 1) (fun x365 => (if x365 = 0 then Lx_law_1376 b Ln xs q1 q6 kb18 v3 0 μ y else Lx_law_1376 b Ln xs q1 q6 kb18 v3 1 μ y)) else (if (x1 &&& 63) = 39 then ldS xs Ln (v3 + 1) (fun x366 => ckP (LySf y q1) (cl (Sf_look q1 x366 μ) (fun x369 μ368 => ldS xs Ln (v3 + 1) (fun x370 => ckP (LyMo y q6) (cl (Mo_look q6 x370 μ368) (fun x373 μ372 => (if x369 = x373 then Lx_law_1424 b Ln xs q1 q6 kb18 v3 μ372 y else some (0, (μ372, y))))))))) else Lx_law_1424 b Ln xs q1 q6 kb18 v3 μ y))))))))))))))))))))))))))))))))))))))))))
set_option maxRecDepth 100000 in
noncomputable def Lx_law_18 (b Ln : Nat) (xs : Nat → Int32) (q1 : Nat) (q6 : Nat)   (fu : Nat) : Int32 → Mu → Ly → Option (Int32 × Mm) := lp (fun kb => Lx_law_18b b Ln xs q1 q6  kb ) (fun _ _ _ => none) fu
set_option maxRecDepth 100000 in
noncomputable def Lx_law (b Ln : Nat) (xs : Nat → Int32)  (μ : Mu) (y : Ly) : Option (Int32 × Mm) := nwK μ y 11 9 (fun q1 μ2 y3 => clm y3 (Sf_init q1 μ2 y3) (fun _ μ4 y5 => nwK μ4 y5 12 69 (fun q6 μ7 y8 => clm y8 (Mo_init q6 μ7 y8) (fun _ μ9 y10 => Lx_law_18 b Ln xs q1 q6 FU 0 μ9 y10))))
set_option maxRecDepth 100000 in
set_option maxHeartbeats 4000000 in
theorem jLx_law_1424 {X : Cx} {l : Launch} {G : Gx} {y0 : Ly} {b Ln : Nat} {xs : Nat → Int32} (hsc : Sc X G b Ln xs) (hX : Ok X l G code 4 (some .boolean) "SaltFiguresLaw")  (q1 : Nat) (q6 : Nat)  (v3 : Int32)  {kb18 : Int32 → Mu → Ly → Option (Int32 × Mm)} (hk18 : ∀ (v3 : Int32) (μ : Mu) (y : Ly), J X G 4 103 y0 id rvI tpT 18 [(0, .ref b), (1, .ref (G.1 + q1)), (2, .ref (G.1 + q6)), (3, .int v3)] [] (μ, y) (kb18 v3 μ y)) (μ : Mu) (y : Ly) : J X G 4 103 y0 id rvI tpT 1424 [(0, .ref b), (1, .ref (G.1 + q1)), (2, .ref (G.1 + q6)), (3, .int v3)] [] (μ, y) (Lx_law_1424 b Ln xs q1 q6 kb18  v3  μ y) := by
  unfold Lx_law_1424
  refine J_iinc (pc := 1424) (n := 6) 3 [(3, .int (v3 + 6)), (0, .ref b), (1, .ref (G.1 + q1)), (2, .ref (G.1 + q6))] hX (by decide +kernel) rfl rfl (by decide) rfl ?_
  refine J_goto (pc := 1427) (off := -1409) (tgt := 18) hX (by decide +kernel) (by decide +kernel) ?_
  exact J_sub [1, 2, 3, 0] _ rfl (hk18 (v3 + 6) μ y)
set_option maxRecDepth 100000 in
set_option maxHeartbeats 4000000 in
theorem jLx_law_1393 {X : Cx} {l : Launch} {G : Gx} {y0 : Ly} {b Ln : Nat} {xs : Nat → Int32} (hsc : Sc X G b Ln xs) (hX : Ok X l G code 4 (some .boolean) "SaltFiguresLaw")  (q1 : Nat) (q6 : Nat)  (v3 : Int32) (s0 : Int32) (s2 : Int32) {kb18 : Int32 → Mu → Ly → Option (Int32 × Mm)} (hk18 : ∀ (v3 : Int32) (μ : Mu) (y : Ly), J X G 4 103 y0 id rvI tpT 18 [(0, .ref b), (1, .ref (G.1 + q1)), (2, .ref (G.1 + q6)), (3, .int v3)] [] (μ, y) (kb18 v3 μ y)) (μ : Mu) (y : Ly) : J X G 4 103 y0 id rvI tpT 1393 [(0, .ref b), (1, .ref (G.1 + q1)), (2, .ref (G.1 + q6)), (3, .int v3)] [.int s0, .ref (G.1 + q6), .int s2] (μ, y) (Lx_law_1393 b Ln xs q1 q6 kb18  v3 s0 s2 μ y) := by
  unfold Lx_law_1393
  refine J_ckP (fun h1 => ?_)
  refine J_cVi (pc := 1393) (idx := 177) [.int s0] hX (by decide +kernel) (mq mt_9 5 (by decide +kernel)) mv_Mo_image h1.1 rfl rfl (Nat.le_of_ble_eq_true rfl) (Nat.le_of_ble_eq_true rfl) (c_Mo_image h1 s0 μ) (fun x3 μ2 => ?_)
  refine J_icmp_eq (pc := 1396) (off := 28) (tgt := 1424) hX (by decide +kernel) (by decide +kernel) (fun _ => ?_) (fun _ => ?_)
  · exact J_sub [0, 1, 2, 3] _ rfl (jLx_law_1424 hsc hX q1 q6 v3 hk18 μ2 y)
  · refine J_iconst (pc := 1399) (n := 0) (v := 0) hX (by decide +kernel) (by decide +kernel) ?_
    exact J_zret (pc := 1400) hX (by decide +kernel) rfl (by decide +kernel) trivial
set_option maxRecDepth 100000 in
set_option maxHeartbeats 4000000 in
theorem jLx_law_1376 {X : Cx} {l : Launch} {G : Gx} {y0 : Ly} {b Ln : Nat} {xs : Nat → Int32} (hsc : Sc X G b Ln xs) (hX : Ok X l G code 4 (some .boolean) "SaltFiguresLaw")  (q1 : Nat) (q6 : Nat)  (v3 : Int32) (s0 : Int32) {kb18 : Int32 → Mu → Ly → Option (Int32 × Mm)} (hk18 : ∀ (v3 : Int32) (μ : Mu) (y : Ly), J X G 4 103 y0 id rvI tpT 18 [(0, .ref b), (1, .ref (G.1 + q1)), (2, .ref (G.1 + q6)), (3, .int v3)] [] (μ, y) (kb18 v3 μ y)) (μ : Mu) (y : Ly) : J X G 4 103 y0 id rvI tpT 1376 [(0, .ref b), (1, .ref (G.1 + q1)), (2, .ref (G.1 + q6)), (3, .int v3)] [.int s0, .ref (G.1 + q1)] (μ, y) (Lx_law_1376 b Ln xs q1 q6 kb18  v3 s0 μ y) := by
  unfold Lx_law_1376
  refine J_ckP (fun h4 => ?_)
  refine J_cVm (pc := 1376) (idx := 173) [.int s0] hX (by decide +kernel) (mq mt_5 205 (by decide +kernel)) mv_Sf_image h4 rfl rfl (Nat.le_of_ble_eq_true rfl) (Nat.le_of_ble_eq_true rfl) (c_Sf_image q1 s0 μ y) (fun x3 μ1 y2 => ?_)
  refine J_aload_n (k0 := 2) (pc := 1379) 2 hX (by decide +kernel) rfl rfl ?_
  refine J_aload_n (k0 := 0) (pc := 1380) 0 hX (by decide +kernel) rfl rfl ?_
  refine J_iload_n (k0 := 3) (pc := 1381) 3 hX (by decide +kernel) rfl rfl ?_
  refine J_iconst (pc := 1382) (n := 1) (v := 1) hX (by decide +kernel) (by decide +kernel) ?_
  refine J_iadd (pc := 1383) hX (by decide +kernel) ?_
  refine J_sld (pc := 1384) hX hsc (by decide +kernel) (fun x5 => ?_)
  refine J_if_eq (pc := 1385) (off := 7) (tgt := 1392) hX (by decide +kernel) (by decide +kernel) (fun _ => ?_) (fun _ => ?_)
  · refine J_iconst (pc := 1392) (n := 0) (v := 0) hX (by decide +kernel) (by decide +kernel) ?_
    exact J_sub [0, 1, 2, 3] _ rfl (jLx_law_1393 hsc hX q1 q6 v3 0 x3 hk18 μ1 y2)
  · refine J_iconst (pc := 1388) (n := 1) (v := 1) hX (by decide +kernel) (by decide +kernel) ?_
    refine J_goto (pc := 1389) (off := 4) (tgt := 1393) hX (by decide +kernel) (by decide +kernel) ?_
    exact J_sub [0, 1, 2, 3] _ rfl (jLx_law_1393 hsc hX q1 q6 v3 1 x3 hk18 μ1 y2)
set_option maxRecDepth 100000 in
set_option maxHeartbeats 4000000 in
theorem jLx_law_18b {X : Cx} {l : Launch} {G : Gx} {y0 : Ly} {b Ln : Nat} {xs : Nat → Int32} (hsc : Sc X G b Ln xs) (hX : Ok X l G code 4 (some .boolean) "SaltFiguresLaw")  (q1 : Nat) (q6 : Nat)   {kb18 : Int32 → Mu → Ly → Option (Int32 × Mm)}  (hk18 : ∀ (v3 : Int32) (μ : Mu) (y : Ly), J X G 4 103 y0 id rvI tpT 18 [(0, .ref b), (1, .ref (G.1 + q1)), (2, .ref (G.1 + q6)), (3, .int v3)] [] (μ, y) (kb18 v3 μ y)) (v3 : Int32)  (μ : Mu) (y : Ly) : J X G 4 103 y0 id rvI tpT 18 [(0, .ref b), (1, .ref (G.1 + q1)), (2, .ref (G.1 + q6)), (3, .int v3)] [] (μ, y) (Lx_law_18b b Ln xs q1 q6  kb18  v3  μ y) := by
  unfold Lx_law_18b
  refine J_iload_n (k0 := 3) (pc := 18) 3 hX (by decide +kernel) rfl rfl ?_
  refine J_aload_n (k0 := 0) (pc := 19) 0 hX (by decide +kernel) rfl rfl ?_
  refine J_sln (pc := 20) hX hsc (by decide +kernel) ?_
  refine J_bipush (pc := 21) (n := 6) (v := 6) hX (by decide +kernel) (by decide +kernel) ?_
  refine J_isub (pc := 23) hX (by decide +kernel) ?_
  refine J_icmp_gt (pc := 24) (off := 1406) (tgt := 1430) hX (by decide +kernel) (by decide +kernel) (fun _ => ?_) (fun _ => ?_)
  · refine J_iconst (pc := 1430) (n := 1) (v := 1) hX (by decide +kernel) (by decide +kernel) ?_
    exact J_zret (pc := 1431) hX (by decide +kernel) rfl (by decide +kernel) trivial
  · refine J_aload_n (k0 := 0) (pc := 27) 0 hX (by decide +kernel) rfl rfl ?_
    refine J_iload_n (k0 := 3) (pc := 28) 3 hX (by decide +kernel) rfl rfl ?_
    refine J_sld (pc := 29) hX hsc (by decide +kernel) (fun x1 => ?_)
    refine J_bipush (pc := 30) (n := 63) (v := 63) hX (by decide +kernel) (by decide +kernel) ?_
    refine J_iand (pc := 32) hX (by decide +kernel) ?_
    refine J_ite _ (fun hc0 => ?_) (fun hc0 => ?_)
    · refine J_tsIn (pc := 33) (dflt := 1391) (lo := 0) (hi := 39) (offs := #[175, 198, 221, 264, 307, 330, 393, 416, 439, 462, 495, 528, 561, 594, 617, 660, 713, 746, 789, 812, 845, 868, 891, 924, 947, 980, 1003, 1026, 1049, 1072, 1105, 1128, 1161, 1194, 1237, 1260, 1283, 1316, 1329, 1368]) (len := 175) (off := 175) (tgt := 208) 0 hc0 hX (by decide +kernel) (by decide +kernel) (by decide +kernel) (by decide +kernel) (by decide +kernel) ?_
      refine J_aload_n (k0 := 1) (pc := 208) 1 hX (by decide +kernel) rfl rfl ?_
      refine J_aload_n (k0 := 0) (pc := 209) 0 hX (by decide +kernel) rfl rfl ?_
      refine J_iload_n (k0 := 3) (pc := 210) 3 hX (by decide +kernel) rfl rfl ?_
      refine J_iconst (pc := 211) (n := 1) (v := 1) hX (by decide +kernel) (by decide +kernel) ?_
      refine J_iadd (pc := 212) hX (by decide +kernel) ?_
      refine J_sld (pc := 213) hX hsc (by decide +kernel) (fun x2 => ?_)
      refine J_ckP (fun h3 => ?_)
      refine J_cVi (pc := 214) (idx := 13) [.int x2] hX (by decide +kernel) (mq mt_2 136 (by decide +kernel)) mv_Sf_state h3.1 rfl rfl (Nat.le_of_ble_eq_true rfl) (Nat.le_of_ble_eq_true rfl) (c_Sf_state h3 x2 μ) (fun x5 μ4 => ?_)
      refine J_aload_n (k0 := 2) (pc := 217) 2 hX (by decide +kernel) rfl rfl ?_
      refine J_aload_n (k0 := 0) (pc := 218) 0 hX (by decide +kernel) rfl rfl ?_
      refine J_iload_n (k0 := 3) (pc := 219) 3 hX (by decide +kernel) rfl rfl ?_
      refine J_iconst (pc := 220) (n := 1) (v := 1) hX (by decide +kernel) (by decide +kernel) ?_
      refine J_iadd (pc := 221) hX (by decide +kernel) ?_
      refine J_sld (pc := 222) hX hsc (by decide +kernel) (fun x6 => ?_)
      refine J_ckP (fun h7 => ?_)
      refine J_cVi (pc := 223) (idx := 17) [.int x6] hX (by decide +kernel) (mq mt_6 218 (by decide +kernel)) mv_Mo_state h7.1 rfl rfl (Nat.le_of_ble_eq_true rfl) (Nat.le_of_ble_eq_true rfl) (c_Mo_state h7 x6 μ4) (fun x9 μ8 => ?_)
      refine J_icmp_eq (pc := 226) (off := 1198) (tgt := 1424) hX (by decide +kernel) (by decide +kernel) (fun _ => ?_) (fun _ => ?_)
      · exact J_sub [0, 1, 2, 3] _ rfl (jLx_law_1424 hsc hX q1 q6 v3 hk18 μ8 y)
      · refine J_iconst (pc := 229) (n := 0) (v := 0) hX (by decide +kernel) (by decide +kernel) ?_
        exact J_zret (pc := 230) hX (by decide +kernel) rfl (by decide +kernel) trivial
    · refine J_ite _ (fun hc1 => ?_) (fun hc1 => ?_)
      · refine J_tsIn (pc := 33) (dflt := 1391) (lo := 0) (hi := 39) (offs := #[175, 198, 221, 264, 307, 330, 393, 416, 439, 462, 495, 528, 561, 594, 617, 660, 713, 746, 789, 812, 845, 868, 891, 924, 947, 980, 1003, 1026, 1049, 1072, 1105, 1128, 1161, 1194, 1237, 1260, 1283, 1316, 1329, 1368]) (len := 175) (off := 198) (tgt := 231) 1 hc1 hX (by decide +kernel) (by decide +kernel) (by decide +kernel) (by decide +kernel) (by decide +kernel) ?_
        refine J_aload_n (k0 := 1) (pc := 231) 1 hX (by decide +kernel) rfl rfl ?_
        refine J_aload_n (k0 := 0) (pc := 232) 0 hX (by decide +kernel) rfl rfl ?_
        refine J_iload_n (k0 := 3) (pc := 233) 3 hX (by decide +kernel) rfl rfl ?_
        refine J_iconst (pc := 234) (n := 1) (v := 1) hX (by decide +kernel) (by decide +kernel) ?_
        refine J_iadd (pc := 235) hX (by decide +kernel) ?_
        refine J_sld (pc := 236) hX hsc (by decide +kernel) (fun x10 => ?_)
        refine J_ckP (fun h11 => ?_)
        refine J_cVi (pc := 237) (idx := 18) [.int x10] hX (by decide +kernel) (mq mt_2 144 (by decide +kernel)) mv_Sf_person h11.1 rfl rfl (Nat.le_of_ble_eq_true rfl) (Nat.le_of_ble_eq_true rfl) (c_Sf_person h11 x10 μ) (fun x13 μ12 => ?_)
        refine J_aload_n (k0 := 2) (pc := 240) 2 hX (by decide +kernel) rfl rfl ?_
        refine J_aload_n (k0 := 0) (pc := 241) 0 hX (by decide +kernel) rfl rfl ?_
        refine J_iload_n (k0 := 3) (pc := 242) 3 hX (by decide +kernel) rfl rfl ?_
        refine J_iconst (pc := 243) (n := 1) (v := 1) hX (by decide +kernel) (by decide +kernel) ?_
        refine J_iadd (pc := 244) hX (by decide +kernel) ?_
        refine J_sld (pc := 245) hX hsc (by decide +kernel) (fun x14 => ?_)
        refine J_ckP (fun h15 => ?_)
        refine J_cVi (pc := 246) (idx := 21) [.int x14] hX (by decide +kernel) (mq mt_6 222 (by decide +kernel)) mv_Mo_person h15.1 rfl rfl (Nat.le_of_ble_eq_true rfl) (Nat.le_of_ble_eq_true rfl) (c_Mo_person h15 x14 μ12) (fun x17 μ16 => ?_)
        refine J_icmp_eq (pc := 249) (off := 1175) (tgt := 1424) hX (by decide +kernel) (by decide +kernel) (fun _ => ?_) (fun _ => ?_)
        · exact J_sub [0, 1, 2, 3] _ rfl (jLx_law_1424 hsc hX q1 q6 v3 hk18 μ16 y)
        · refine J_iconst (pc := 252) (n := 0) (v := 0) hX (by decide +kernel) (by decide +kernel) ?_
          exact J_zret (pc := 253) hX (by decide +kernel) rfl (by decide +kernel) trivial
      · refine J_ite _ (fun hc2 => ?_) (fun hc2 => ?_)
        · refine J_tsIn (pc := 33) (dflt := 1391) (lo := 0) (hi := 39) (offs := #[175, 198, 221, 264, 307, 330, 393, 416, 439, 462, 495, 528, 561, 594, 617, 660, 713, 746, 789, 812, 845, 868, 891, 924, 947, 980, 1003, 1026, 1049, 1072, 1105, 1128, 1161, 1194, 1237, 1260, 1283, 1316, 1329, 1368]) (len := 175) (off := 221) (tgt := 254) 2 hc2 hX (by decide +kernel) (by decide +kernel) (by decide +kernel) (by decide +kernel) (by decide +kernel) ?_
          refine J_aload_n (k0 := 1) (pc := 254) 1 hX (by decide +kernel) rfl rfl ?_
          refine J_aload_n (k0 := 0) (pc := 255) 0 hX (by decide +kernel) rfl rfl ?_
          refine J_iload_n (k0 := 3) (pc := 256) 3 hX (by decide +kernel) rfl rfl ?_
          refine J_iconst (pc := 257) (n := 1) (v := 1) hX (by decide +kernel) (by decide +kernel) ?_
          refine J_iadd (pc := 258) hX (by decide +kernel) ?_
          refine J_sld (pc := 259) hX hsc (by decide +kernel) (fun x18 => ?_)
          refine J_aload_n (k0 := 0) (pc := 260) 0 hX (by decide +kernel) rfl rfl ?_
          refine J_iload_n (k0 := 3) (pc := 261) 3 hX (by decide +kernel) rfl rfl ?_
          refine J_iconst (pc := 262) (n := 2) (v := 2) hX (by decide +kernel) (by decide +kernel) ?_
          refine J_iadd (pc := 263) hX (by decide +kernel) ?_
          refine J_sld (pc := 264) hX hsc (by decide +kernel) (fun x19 => ?_)
          refine J_aload_n (k0 := 0) (pc := 265) 0 hX (by decide +kernel) rfl rfl ?_
          refine J_iload_n (k0 := 3) (pc := 266) 3 hX (by decide +kernel) rfl rfl ?_
          refine J_iconst (pc := 267) (n := 3) (v := 3) hX (by decide +kernel) (by decide +kernel) ?_
          refine J_iadd (pc := 268) hX (by decide +kernel) ?_
          refine J_sld (pc := 269) hX hsc (by decide +kernel) (fun x20 => ?_)
          refine J_ckP (fun h21 => ?_)
          refine J_cVi (pc := 270) (idx := 22) [.int x18, .int x19, .int x20] hX (by decide +kernel) (mq mt_2 159 (by decide +kernel)) mv_Sf_set h21.1 rfl rfl (Nat.le_of_ble_eq_true rfl) (Nat.le_of_ble_eq_true rfl) (c_Sf_set h21 x18 x19 x20 μ) (fun x23 μ22 => ?_)
          refine J_aload_n (k0 := 2) (pc := 273) 2 hX (by decide +kernel) rfl rfl ?_
          refine J_aload_n (k0 := 0) (pc := 274) 0 hX (by decide +kernel) rfl rfl ?_
          refine J_iload_n (k0 := 3) (pc := 275) 3 hX (by decide +kernel) rfl rfl ?_
          refine J_iconst (pc := 276) (n := 1) (v := 1) hX (by decide +kernel) (by decide +kernel) ?_
          refine J_iadd (pc := 277) hX (by decide +kernel) ?_
          refine J_sld (pc := 278) hX hsc (by decide +kernel) (fun x24 => ?_)
          refine J_aload_n (k0 := 0) (pc := 279) 0 hX (by decide +kernel) rfl rfl ?_
          refine J_iload_n (k0 := 3) (pc := 280) 3 hX (by decide +kernel) rfl rfl ?_
          refine J_iconst (pc := 281) (n := 2) (v := 2) hX (by decide +kernel) (by decide +kernel) ?_
          refine J_iadd (pc := 282) hX (by decide +kernel) ?_
          refine J_sld (pc := 283) hX hsc (by decide +kernel) (fun x25 => ?_)
          refine J_aload_n (k0 := 0) (pc := 284) 0 hX (by decide +kernel) rfl rfl ?_
          refine J_iload_n (k0 := 3) (pc := 285) 3 hX (by decide +kernel) rfl rfl ?_
          refine J_iconst (pc := 286) (n := 3) (v := 3) hX (by decide +kernel) (by decide +kernel) ?_
          refine J_iadd (pc := 287) hX (by decide +kernel) ?_
          refine J_sld (pc := 288) hX hsc (by decide +kernel) (fun x26 => ?_)
          refine J_ckP (fun h27 => ?_)
          refine J_cVi (pc := 289) (idx := 26) [.int x24, .int x25, .int x26] hX (by decide +kernel) (mq mt_6 230 (by decide +kernel)) mv_Mo_set h27.1 rfl rfl (Nat.le_of_ble_eq_true rfl) (Nat.le_of_ble_eq_true rfl) (c_Mo_set h27 x24 x25 x26 μ22) (fun x29 μ28 => ?_)
          refine J_icmp_eq (pc := 292) (off := 1132) (tgt := 1424) hX (by decide +kernel) (by decide +kernel) (fun _ => ?_) (fun _ => ?_)
          · exact J_sub [0, 1, 2, 3] _ rfl (jLx_law_1424 hsc hX q1 q6 v3 hk18 μ28 y)
          · refine J_iconst (pc := 295) (n := 0) (v := 0) hX (by decide +kernel) (by decide +kernel) ?_
            exact J_zret (pc := 296) hX (by decide +kernel) rfl (by decide +kernel) trivial
        · refine J_ite _ (fun hc3 => ?_) (fun hc3 => ?_)
          · refine J_tsIn (pc := 33) (dflt := 1391) (lo := 0) (hi := 39) (offs := #[175, 198, 221, 264, 307, 330, 393, 416, 439, 462, 495, 528, 561, 594, 617, 660, 713, 746, 789, 812, 845, 868, 891, 924, 947, 980, 1003, 1026, 1049, 1072, 1105, 1128, 1161, 1194, 1237, 1260, 1283, 1316, 1329, 1368]) (len := 175) (off := 264) (tgt := 297) 3 hc3 hX (by decide +kernel) (by decide +kernel) (by decide +kernel) (by decide +kernel) (by decide +kernel) ?_
            refine J_aload_n (k0 := 1) (pc := 297) 1 hX (by decide +kernel) rfl rfl ?_
            refine J_aload_n (k0 := 0) (pc := 298) 0 hX (by decide +kernel) rfl rfl ?_
            refine J_iload_n (k0 := 3) (pc := 299) 3 hX (by decide +kernel) rfl rfl ?_
            refine J_iconst (pc := 300) (n := 1) (v := 1) hX (by decide +kernel) (by decide +kernel) ?_
            refine J_iadd (pc := 301) hX (by decide +kernel) ?_
            refine J_sld (pc := 302) hX hsc (by decide +kernel) (fun x30 => ?_)
            refine J_aload_n (k0 := 0) (pc := 303) 0 hX (by decide +kernel) rfl rfl ?_
            refine J_iload_n (k0 := 3) (pc := 304) 3 hX (by decide +kernel) rfl rfl ?_
            refine J_iconst (pc := 305) (n := 2) (v := 2) hX (by decide +kernel) (by decide +kernel) ?_
            refine J_iadd (pc := 306) hX (by decide +kernel) ?_
            refine J_sld (pc := 307) hX hsc (by decide +kernel) (fun x31 => ?_)
            refine J_aload_n (k0 := 0) (pc := 308) 0 hX (by decide +kernel) rfl rfl ?_
            refine J_iload_n (k0 := 3) (pc := 309) 3 hX (by decide +kernel) rfl rfl ?_
            refine J_iconst (pc := 310) (n := 3) (v := 3) hX (by decide +kernel) (by decide +kernel) ?_
            refine J_iadd (pc := 311) hX (by decide +kernel) ?_
            refine J_sld (pc := 312) hX hsc (by decide +kernel) (fun x32 => ?_)
            refine J_ckP (fun h36 => ?_)
            refine J_cVm (pc := 313) (idx := 27) [.int x30, .int x31, .int x32] hX (by decide +kernel) (mq mt_2 172 (by decide +kernel)) mv_Sf_act h36 rfl rfl (Nat.le_of_ble_eq_true rfl) (Nat.le_of_ble_eq_true rfl) (c_Sf_act q1 x30 x31 x32 μ y) (fun x35 μ33 y34 => ?_)
            refine J_aload_n (k0 := 2) (pc := 316) 2 hX (by decide +kernel) rfl rfl ?_
            refine J_aload_n (k0 := 0) (pc := 317) 0 hX (by decide +kernel) rfl rfl ?_
            refine J_iload_n (k0 := 3) (pc := 318) 3 hX (by decide +kernel) rfl rfl ?_
            refine J_iconst (pc := 319) (n := 1) (v := 1) hX (by decide +kernel) (by decide +kernel) ?_
            refine J_iadd (pc := 320) hX (by decide +kernel) ?_
            refine J_sld (pc := 321) hX hsc (by decide +kernel) (fun x37 => ?_)
            refine J_aload_n (k0 := 0) (pc := 322) 0 hX (by decide +kernel) rfl rfl ?_
            refine J_iload_n (k0 := 3) (pc := 323) 3 hX (by decide +kernel) rfl rfl ?_
            refine J_iconst (pc := 324) (n := 2) (v := 2) hX (by decide +kernel) (by decide +kernel) ?_
            refine J_iadd (pc := 325) hX (by decide +kernel) ?_
            refine J_sld (pc := 326) hX hsc (by decide +kernel) (fun x38 => ?_)
            refine J_aload_n (k0 := 0) (pc := 327) 0 hX (by decide +kernel) rfl rfl ?_
            refine J_iload_n (k0 := 3) (pc := 328) 3 hX (by decide +kernel) rfl rfl ?_
            refine J_iconst (pc := 329) (n := 3) (v := 3) hX (by decide +kernel) (by decide +kernel) ?_
            refine J_iadd (pc := 330) hX (by decide +kernel) ?_
            refine J_sld (pc := 331) hX hsc (by decide +kernel) (fun x39 => ?_)
            refine J_ckP (fun h40 => ?_)
            refine J_cVi (pc := 332) (idx := 30) [.int x37, .int x38, .int x39] hX (by decide +kernel) (mq mt_7 162 (by decide +kernel)) mv_Mo_act h40.1 rfl rfl (Nat.le_of_ble_eq_true rfl) (Nat.le_of_ble_eq_true rfl) (c_Mo_act h40 x37 x38 x39 μ33) (fun x42 μ41 => ?_)
            refine J_icmp_eq (pc := 335) (off := 1089) (tgt := 1424) hX (by decide +kernel) (by decide +kernel) (fun _ => ?_) (fun _ => ?_)
            · exact J_sub [0, 1, 2, 3] _ rfl (jLx_law_1424 hsc hX q1 q6 v3 hk18 μ41 y34)
            · refine J_iconst (pc := 338) (n := 0) (v := 0) hX (by decide +kernel) (by decide +kernel) ?_
              exact J_zret (pc := 339) hX (by decide +kernel) rfl (by decide +kernel) trivial
          · refine J_ite _ (fun hc4 => ?_) (fun hc4 => ?_)
            · refine J_tsIn (pc := 33) (dflt := 1391) (lo := 0) (hi := 39) (offs := #[175, 198, 221, 264, 307, 330, 393, 416, 439, 462, 495, 528, 561, 594, 617, 660, 713, 746, 789, 812, 845, 868, 891, 924, 947, 980, 1003, 1026, 1049, 1072, 1105, 1128, 1161, 1194, 1237, 1260, 1283, 1316, 1329, 1368]) (len := 175) (off := 307) (tgt := 340) 4 hc4 hX (by decide +kernel) (by decide +kernel) (by decide +kernel) (by decide +kernel) (by decide +kernel) ?_
              refine J_aload_n (k0 := 1) (pc := 340) 1 hX (by decide +kernel) rfl rfl ?_
              refine J_aload_n (k0 := 0) (pc := 341) 0 hX (by decide +kernel) rfl rfl ?_
              refine J_iload_n (k0 := 3) (pc := 342) 3 hX (by decide +kernel) rfl rfl ?_
              refine J_iconst (pc := 343) (n := 1) (v := 1) hX (by decide +kernel) (by decide +kernel) ?_
              refine J_iadd (pc := 344) hX (by decide +kernel) ?_
              refine J_sld (pc := 345) hX hsc (by decide +kernel) (fun x43 => ?_)
              refine J_ckP (fun h47 => ?_)
              refine J_cVm (pc := 346) (idx := 31) [.int x43] hX (by decide +kernel) (mq mt_3 35 (by decide +kernel)) mv_Sf_days h47 rfl rfl (Nat.le_of_ble_eq_true rfl) (Nat.le_of_ble_eq_true rfl) (c_Sf_days q1 x43 μ y) (fun x46 μ44 y45 => ?_)
              refine J_aload_n (k0 := 2) (pc := 349) 2 hX (by decide +kernel) rfl rfl ?_
              refine J_aload_n (k0 := 0) (pc := 350) 0 hX (by decide +kernel) rfl rfl ?_
              refine J_iload_n (k0 := 3) (pc := 351) 3 hX (by decide +kernel) rfl rfl ?_
              refine J_iconst (pc := 352) (n := 1) (v := 1) hX (by decide +kernel) (by decide +kernel) ?_
              refine J_iadd (pc := 353) hX (by decide +kernel) ?_
              refine J_sld (pc := 354) hX hsc (by decide +kernel) (fun x48 => ?_)
              refine J_ckP (fun h49 => ?_)
              refine J_cVi (pc := 355) (idx := 34) [.int x48] hX (by decide +kernel) (mq mt_7 234 (by decide +kernel)) mv_Mo_days h49.1 rfl rfl (Nat.le_of_ble_eq_true rfl) (Nat.le_of_ble_eq_true rfl) (c_Mo_days h49 x48 μ44) (fun x51 μ50 => ?_)
              refine J_icmp_eq (pc := 358) (off := 1066) (tgt := 1424) hX (by decide +kernel) (by decide +kernel) (fun _ => ?_) (fun _ => ?_)
              · exact J_sub [0, 1, 2, 3] _ rfl (jLx_law_1424 hsc hX q1 q6 v3 hk18 μ50 y45)
              · refine J_iconst (pc := 361) (n := 0) (v := 0) hX (by decide +kernel) (by decide +kernel) ?_
                exact J_zret (pc := 362) hX (by decide +kernel) rfl (by decide +kernel) trivial
            · refine J_ite _ (fun hc5 => ?_) (fun hc5 => ?_)
              · refine J_tsIn (pc := 33) (dflt := 1391) (lo := 0) (hi := 39) (offs := #[175, 198, 221, 264, 307, 330, 393, 416, 439, 462, 495, 528, 561, 594, 617, 660, 713, 746, 789, 812, 845, 868, 891, 924, 947, 980, 1003, 1026, 1049, 1072, 1105, 1128, 1161, 1194, 1237, 1260, 1283, 1316, 1329, 1368]) (len := 175) (off := 330) (tgt := 363) 5 hc5 hX (by decide +kernel) (by decide +kernel) (by decide +kernel) (by decide +kernel) (by decide +kernel) ?_
                refine J_aload_n (k0 := 1) (pc := 363) 1 hX (by decide +kernel) rfl rfl ?_
                refine J_aload_n (k0 := 0) (pc := 364) 0 hX (by decide +kernel) rfl rfl ?_
                refine J_iload_n (k0 := 3) (pc := 365) 3 hX (by decide +kernel) rfl rfl ?_
                refine J_iconst (pc := 366) (n := 1) (v := 1) hX (by decide +kernel) (by decide +kernel) ?_
                refine J_iadd (pc := 367) hX (by decide +kernel) ?_
                refine J_sld (pc := 368) hX hsc (by decide +kernel) (fun x52 => ?_)
                refine J_aload_n (k0 := 0) (pc := 369) 0 hX (by decide +kernel) rfl rfl ?_
                refine J_iload_n (k0 := 3) (pc := 370) 3 hX (by decide +kernel) rfl rfl ?_
                refine J_iconst (pc := 371) (n := 2) (v := 2) hX (by decide +kernel) (by decide +kernel) ?_
                refine J_iadd (pc := 372) hX (by decide +kernel) ?_
                refine J_sld (pc := 373) hX hsc (by decide +kernel) (fun x53 => ?_)
                refine J_aload_n (k0 := 0) (pc := 374) 0 hX (by decide +kernel) rfl rfl ?_
                refine J_iload_n (k0 := 3) (pc := 375) 3 hX (by decide +kernel) rfl rfl ?_
                refine J_iconst (pc := 376) (n := 3) (v := 3) hX (by decide +kernel) (by decide +kernel) ?_
                refine J_iadd (pc := 377) hX (by decide +kernel) ?_
                refine J_sld (pc := 378) hX hsc (by decide +kernel) (fun x54 => ?_)
                refine J_aload_n (k0 := 0) (pc := 379) 0 hX (by decide +kernel) rfl rfl ?_
                refine J_iload_n (k0 := 3) (pc := 380) 3 hX (by decide +kernel) rfl rfl ?_
                refine J_iconst (pc := 381) (n := 4) (v := 4) hX (by decide +kernel) (by decide +kernel) ?_
                refine J_iadd (pc := 382) hX (by decide +kernel) ?_
                refine J_sld (pc := 383) hX hsc (by decide +kernel) (fun x55 => ?_)
                refine J_aload_n (k0 := 0) (pc := 384) 0 hX (by decide +kernel) rfl rfl ?_
                refine J_iload_n (k0 := 3) (pc := 385) 3 hX (by decide +kernel) rfl rfl ?_
                refine J_iconst (pc := 386) (n := 5) (v := 5) hX (by decide +kernel) (by decide +kernel) ?_
                refine J_iadd (pc := 387) hX (by decide +kernel) ?_
                refine J_sld (pc := 388) hX hsc (by decide +kernel) (fun x56 => ?_)
                refine J_ckP (fun h57 => ?_)
                refine J_cVi (pc := 389) (idx := 35) [.int x52, .int x53, .int x54, .int x55, .int x56] hX (by decide +kernel) (mq mt_3 89 (by decide +kernel)) mv_Sf_feed h57.1 rfl rfl (Nat.le_of_ble_eq_true rfl) (Nat.le_of_ble_eq_true rfl) (c_Sf_feed h57 x52 x53 x54 x55 x56 μ) (fun x59 μ58 => ?_)
                refine J_aload_n (k0 := 2) (pc := 392) 2 hX (by decide +kernel) rfl rfl ?_
                refine J_aload_n (k0 := 0) (pc := 393) 0 hX (by decide +kernel) rfl rfl ?_
                refine J_iload_n (k0 := 3) (pc := 394) 3 hX (by decide +kernel) rfl rfl ?_
                refine J_iconst (pc := 395) (n := 1) (v := 1) hX (by decide +kernel) (by decide +kernel) ?_
                refine J_iadd (pc := 396) hX (by decide +kernel) ?_
                refine J_sld (pc := 397) hX hsc (by decide +kernel) (fun x60 => ?_)
                refine J_aload_n (k0 := 0) (pc := 398) 0 hX (by decide +kernel) rfl rfl ?_
                refine J_iload_n (k0 := 3) (pc := 399) 3 hX (by decide +kernel) rfl rfl ?_
                refine J_iconst (pc := 400) (n := 2) (v := 2) hX (by decide +kernel) (by decide +kernel) ?_
                refine J_iadd (pc := 401) hX (by decide +kernel) ?_
                refine J_sld (pc := 402) hX hsc (by decide +kernel) (fun x61 => ?_)
                refine J_aload_n (k0 := 0) (pc := 403) 0 hX (by decide +kernel) rfl rfl ?_
                refine J_iload_n (k0 := 3) (pc := 404) 3 hX (by decide +kernel) rfl rfl ?_
                refine J_iconst (pc := 405) (n := 3) (v := 3) hX (by decide +kernel) (by decide +kernel) ?_
                refine J_iadd (pc := 406) hX (by decide +kernel) ?_
                refine J_sld (pc := 407) hX hsc (by decide +kernel) (fun x62 => ?_)
                refine J_aload_n (k0 := 0) (pc := 408) 0 hX (by decide +kernel) rfl rfl ?_
                refine J_iload_n (k0 := 3) (pc := 409) 3 hX (by decide +kernel) rfl rfl ?_
                refine J_iconst (pc := 410) (n := 4) (v := 4) hX (by decide +kernel) (by decide +kernel) ?_
                refine J_iadd (pc := 411) hX (by decide +kernel) ?_
                refine J_sld (pc := 412) hX hsc (by decide +kernel) (fun x63 => ?_)
                refine J_aload_n (k0 := 0) (pc := 413) 0 hX (by decide +kernel) rfl rfl ?_
                refine J_iload_n (k0 := 3) (pc := 414) 3 hX (by decide +kernel) rfl rfl ?_
                refine J_iconst (pc := 415) (n := 5) (v := 5) hX (by decide +kernel) (by decide +kernel) ?_
                refine J_iadd (pc := 416) hX (by decide +kernel) ?_
                refine J_sld (pc := 417) hX hsc (by decide +kernel) (fun x64 => ?_)
                refine J_ckP (fun h65 => ?_)
                refine J_cVi (pc := 418) (idx := 39) [.int x60, .int x61, .int x62, .int x63, .int x64] hX (by decide +kernel) (mq mt_7 2 (by decide +kernel)) mv_Mo_feed h65.1 rfl rfl (Nat.le_of_ble_eq_true rfl) (Nat.le_of_ble_eq_true rfl) (c_Mo_feed h65 x60 x61 x62 x63 x64 μ58) (fun x67 μ66 => ?_)
                refine J_icmp_eq (pc := 421) (off := 1003) (tgt := 1424) hX (by decide +kernel) (by decide +kernel) (fun _ => ?_) (fun _ => ?_)
                · exact J_sub [0, 1, 2, 3] _ rfl (jLx_law_1424 hsc hX q1 q6 v3 hk18 μ66 y)
                · refine J_iconst (pc := 424) (n := 0) (v := 0) hX (by decide +kernel) (by decide +kernel) ?_
                  exact J_zret (pc := 425) hX (by decide +kernel) rfl (by decide +kernel) trivial
              · refine J_ite _ (fun hc6 => ?_) (fun hc6 => ?_)
                · refine J_tsIn (pc := 33) (dflt := 1391) (lo := 0) (hi := 39) (offs := #[175, 198, 221, 264, 307, 330, 393, 416, 439, 462, 495, 528, 561, 594, 617, 660, 713, 746, 789, 812, 845, 868, 891, 924, 947, 980, 1003, 1026, 1049, 1072, 1105, 1128, 1161, 1194, 1237, 1260, 1283, 1316, 1329, 1368]) (len := 175) (off := 393) (tgt := 426) 6 hc6 hX (by decide +kernel) (by decide +kernel) (by decide +kernel) (by decide +kernel) (by decide +kernel) ?_
                  refine J_aload_n (k0 := 1) (pc := 426) 1 hX (by decide +kernel) rfl rfl ?_
                  refine J_aload_n (k0 := 0) (pc := 427) 0 hX (by decide +kernel) rfl rfl ?_
                  refine J_iload_n (k0 := 3) (pc := 428) 3 hX (by decide +kernel) rfl rfl ?_
                  refine J_iconst (pc := 429) (n := 1) (v := 1) hX (by decide +kernel) (by decide +kernel) ?_
                  refine J_iadd (pc := 430) hX (by decide +kernel) ?_
                  refine J_sld (pc := 431) hX hsc (by decide +kernel) (fun x68 => ?_)
                  refine J_ckP (fun h69 => ?_)
                  refine J_cVi (pc := 432) (idx := 40) [.int x68] hX (by decide +kernel) (mq mt_3 101 (by decide +kernel)) mv_Sf_end h69.1 rfl rfl (Nat.le_of_ble_eq_true rfl) (Nat.le_of_ble_eq_true rfl) (c_Sf_end h69 x68 μ) (fun x71 μ70 => ?_)
                  refine J_aload_n (k0 := 2) (pc := 435) 2 hX (by decide +kernel) rfl rfl ?_
                  refine J_aload_n (k0 := 0) (pc := 436) 0 hX (by decide +kernel) rfl rfl ?_
                  refine J_iload_n (k0 := 3) (pc := 437) 3 hX (by decide +kernel) rfl rfl ?_
                  refine J_iconst (pc := 438) (n := 1) (v := 1) hX (by decide +kernel) (by decide +kernel) ?_
                  refine J_iadd (pc := 439) hX (by decide +kernel) ?_
                  refine J_sld (pc := 440) hX hsc (by decide +kernel) (fun x72 => ?_)
                  refine J_ckP (fun h73 => ?_)
                  refine J_cVi (pc := 441) (idx := 44) [.int x72] hX (by decide +kernel) (mq mt_7 10 (by decide +kernel)) mv_Mo_end h73.1 rfl rfl (Nat.le_of_ble_eq_true rfl) (Nat.le_of_ble_eq_true rfl) (c_Mo_end h73 x72 μ70) (fun x75 μ74 => ?_)
                  refine J_icmp_eq (pc := 444) (off := 980) (tgt := 1424) hX (by decide +kernel) (by decide +kernel) (fun _ => ?_) (fun _ => ?_)
                  · exact J_sub [0, 1, 2, 3] _ rfl (jLx_law_1424 hsc hX q1 q6 v3 hk18 μ74 y)
                  · refine J_iconst (pc := 447) (n := 0) (v := 0) hX (by decide +kernel) (by decide +kernel) ?_
                    exact J_zret (pc := 448) hX (by decide +kernel) rfl (by decide +kernel) trivial
                · refine J_ite _ (fun hc7 => ?_) (fun hc7 => ?_)
                  · refine J_tsIn (pc := 33) (dflt := 1391) (lo := 0) (hi := 39) (offs := #[175, 198, 221, 264, 307, 330, 393, 416, 439, 462, 495, 528, 561, 594, 617, 660, 713, 746, 789, 812, 845, 868, 891, 924, 947, 980, 1003, 1026, 1049, 1072, 1105, 1128, 1161, 1194, 1237, 1260, 1283, 1316, 1329, 1368]) (len := 175) (off := 416) (tgt := 449) 7 hc7 hX (by decide +kernel) (by decide +kernel) (by decide +kernel) (by decide +kernel) (by decide +kernel) ?_
                    refine J_aload_n (k0 := 1) (pc := 449) 1 hX (by decide +kernel) rfl rfl ?_
                    refine J_aload_n (k0 := 0) (pc := 450) 0 hX (by decide +kernel) rfl rfl ?_
                    refine J_iload_n (k0 := 3) (pc := 451) 3 hX (by decide +kernel) rfl rfl ?_
                    refine J_iconst (pc := 452) (n := 1) (v := 1) hX (by decide +kernel) (by decide +kernel) ?_
                    refine J_iadd (pc := 453) hX (by decide +kernel) ?_
                    refine J_sld (pc := 454) hX hsc (by decide +kernel) (fun x76 => ?_)
                    refine J_ckP (fun h77 => ?_)
                    refine J_cVi (pc := 455) (idx := 45) [.int x76] hX (by decide +kernel) (mq mt_3 109 (by decide +kernel)) mv_Sf_text h77.1 rfl rfl (Nat.le_of_ble_eq_true rfl) (Nat.le_of_ble_eq_true rfl) (c_Sf_text h77 x76 μ) (fun x79 μ78 => ?_)
                    refine J_aload_n (k0 := 2) (pc := 458) 2 hX (by decide +kernel) rfl rfl ?_
                    refine J_aload_n (k0 := 0) (pc := 459) 0 hX (by decide +kernel) rfl rfl ?_
                    refine J_iload_n (k0 := 3) (pc := 460) 3 hX (by decide +kernel) rfl rfl ?_
                    refine J_iconst (pc := 461) (n := 1) (v := 1) hX (by decide +kernel) (by decide +kernel) ?_
                    refine J_iadd (pc := 462) hX (by decide +kernel) ?_
                    refine J_sld (pc := 463) hX hsc (by decide +kernel) (fun x80 => ?_)
                    refine J_ckP (fun h81 => ?_)
                    refine J_cVi (pc := 464) (idx := 48) [.int x80] hX (by decide +kernel) (mq mt_7 14 (by decide +kernel)) mv_Mo_text h81.1 rfl rfl (Nat.le_of_ble_eq_true rfl) (Nat.le_of_ble_eq_true rfl) (c_Mo_text h81 x80 μ78) (fun x83 μ82 => ?_)
                    refine J_icmp_eq (pc := 467) (off := 957) (tgt := 1424) hX (by decide +kernel) (by decide +kernel) (fun _ => ?_) (fun _ => ?_)
                    · exact J_sub [0, 1, 2, 3] _ rfl (jLx_law_1424 hsc hX q1 q6 v3 hk18 μ82 y)
                    · refine J_iconst (pc := 470) (n := 0) (v := 0) hX (by decide +kernel) (by decide +kernel) ?_
                      exact J_zret (pc := 471) hX (by decide +kernel) rfl (by decide +kernel) trivial
                  · refine J_ite _ (fun hc8 => ?_) (fun hc8 => ?_)
                    · refine J_tsIn (pc := 33) (dflt := 1391) (lo := 0) (hi := 39) (offs := #[175, 198, 221, 264, 307, 330, 393, 416, 439, 462, 495, 528, 561, 594, 617, 660, 713, 746, 789, 812, 845, 868, 891, 924, 947, 980, 1003, 1026, 1049, 1072, 1105, 1128, 1161, 1194, 1237, 1260, 1283, 1316, 1329, 1368]) (len := 175) (off := 439) (tgt := 472) 8 hc8 hX (by decide +kernel) (by decide +kernel) (by decide +kernel) (by decide +kernel) (by decide +kernel) ?_
                      refine J_aload_n (k0 := 1) (pc := 472) 1 hX (by decide +kernel) rfl rfl ?_
                      refine J_aload_n (k0 := 0) (pc := 473) 0 hX (by decide +kernel) rfl rfl ?_
                      refine J_iload_n (k0 := 3) (pc := 474) 3 hX (by decide +kernel) rfl rfl ?_
                      refine J_iconst (pc := 475) (n := 1) (v := 1) hX (by decide +kernel) (by decide +kernel) ?_
                      refine J_iadd (pc := 476) hX (by decide +kernel) ?_
                      refine J_sld (pc := 477) hX hsc (by decide +kernel) (fun x84 => ?_)
                      refine J_ckP (fun h85 => ?_)
                      refine J_cVi (pc := 478) (idx := 49) [.int x84] hX (by decide +kernel) (mq mt_4 103 (by decide +kernel)) mv_Sf_fault h85.1 rfl rfl (Nat.le_of_ble_eq_true rfl) (Nat.le_of_ble_eq_true rfl) (c_Sf_fault h85 x84 μ) (fun x87 μ86 => ?_)
                      refine J_aload_n (k0 := 2) (pc := 481) 2 hX (by decide +kernel) rfl rfl ?_
                      refine J_aload_n (k0 := 0) (pc := 482) 0 hX (by decide +kernel) rfl rfl ?_
                      refine J_iload_n (k0 := 3) (pc := 483) 3 hX (by decide +kernel) rfl rfl ?_
                      refine J_iconst (pc := 484) (n := 1) (v := 1) hX (by decide +kernel) (by decide +kernel) ?_
                      refine J_iadd (pc := 485) hX (by decide +kernel) ?_
                      refine J_sld (pc := 486) hX hsc (by decide +kernel) (fun x88 => ?_)
                      refine J_ckP (fun h89 => ?_)
                      refine J_cVi (pc := 487) (idx := 52) [.int x88] hX (by decide +kernel) (mq mt_7 158 (by decide +kernel)) mv_Mo_fault h89.1 rfl rfl (Nat.le_of_ble_eq_true rfl) (Nat.le_of_ble_eq_true rfl) (c_Mo_fault h89 x88 μ86) (fun x91 μ90 => ?_)
                      refine J_icmp_eq (pc := 490) (off := 934) (tgt := 1424) hX (by decide +kernel) (by decide +kernel) (fun _ => ?_) (fun _ => ?_)
                      · exact J_sub [0, 1, 2, 3] _ rfl (jLx_law_1424 hsc hX q1 q6 v3 hk18 μ90 y)
                      · refine J_iconst (pc := 493) (n := 0) (v := 0) hX (by decide +kernel) (by decide +kernel) ?_
                        exact J_zret (pc := 494) hX (by decide +kernel) rfl (by decide +kernel) trivial
                    · refine J_ite _ (fun hc9 => ?_) (fun hc9 => ?_)
                      · refine J_tsIn (pc := 33) (dflt := 1391) (lo := 0) (hi := 39) (offs := #[175, 198, 221, 264, 307, 330, 393, 416, 439, 462, 495, 528, 561, 594, 617, 660, 713, 746, 789, 812, 845, 868, 891, 924, 947, 980, 1003, 1026, 1049, 1072, 1105, 1128, 1161, 1194, 1237, 1260, 1283, 1316, 1329, 1368]) (len := 175) (off := 462) (tgt := 495) 9 hc9 hX (by decide +kernel) (by decide +kernel) (by decide +kernel) (by decide +kernel) (by decide +kernel) ?_
                        refine J_aload_n (k0 := 1) (pc := 495) 1 hX (by decide +kernel) rfl rfl ?_
                        refine J_aload_n (k0 := 0) (pc := 496) 0 hX (by decide +kernel) rfl rfl ?_
                        refine J_iload_n (k0 := 3) (pc := 497) 3 hX (by decide +kernel) rfl rfl ?_
                        refine J_iconst (pc := 498) (n := 1) (v := 1) hX (by decide +kernel) (by decide +kernel) ?_
                        refine J_iadd (pc := 499) hX (by decide +kernel) ?_
                        refine J_sld (pc := 500) hX hsc (by decide +kernel) (fun x92 => ?_)
                        refine J_aload_n (k0 := 0) (pc := 501) 0 hX (by decide +kernel) rfl rfl ?_
                        refine J_iload_n (k0 := 3) (pc := 502) 3 hX (by decide +kernel) rfl rfl ?_
                        refine J_iconst (pc := 503) (n := 2) (v := 2) hX (by decide +kernel) (by decide +kernel) ?_
                        refine J_iadd (pc := 504) hX (by decide +kernel) ?_
                        refine J_sld (pc := 505) hX hsc (by decide +kernel) (fun x93 => ?_)
                        refine J_ckP (fun h94 => ?_)
                        refine J_cVi (pc := 506) (idx := 53) [.int x92, .int x93] hX (by decide +kernel) (mq mt_4 107 (by decide +kernel)) mv_Sf_of h94.1 rfl rfl (Nat.le_of_ble_eq_true rfl) (Nat.le_of_ble_eq_true rfl) (c_Sf_of h94 x92 x93 μ) (fun x96 μ95 => ?_)
                        refine J_aload_n (k0 := 2) (pc := 509) 2 hX (by decide +kernel) rfl rfl ?_
                        refine J_aload_n (k0 := 0) (pc := 510) 0 hX (by decide +kernel) rfl rfl ?_
                        refine J_iload_n (k0 := 3) (pc := 511) 3 hX (by decide +kernel) rfl rfl ?_
                        refine J_iconst (pc := 512) (n := 1) (v := 1) hX (by decide +kernel) (by decide +kernel) ?_
                        refine J_iadd (pc := 513) hX (by decide +kernel) ?_
                        refine J_sld (pc := 514) hX hsc (by decide +kernel) (fun x97 => ?_)
                        refine J_aload_n (k0 := 0) (pc := 515) 0 hX (by decide +kernel) rfl rfl ?_
                        refine J_iload_n (k0 := 3) (pc := 516) 3 hX (by decide +kernel) rfl rfl ?_
                        refine J_iconst (pc := 517) (n := 2) (v := 2) hX (by decide +kernel) (by decide +kernel) ?_
                        refine J_iadd (pc := 518) hX (by decide +kernel) ?_
                        refine J_sld (pc := 519) hX hsc (by decide +kernel) (fun x98 => ?_)
                        refine J_ckP (fun h99 => ?_)
                        refine J_cVi (pc := 520) (idx := 57) [.int x97, .int x98] hX (by decide +kernel) (mq mt_8 40 (by decide +kernel)) mv_Mo_of h99.1 rfl rfl (Nat.le_of_ble_eq_true rfl) (Nat.le_of_ble_eq_true rfl) (c_Mo_of h99 x97 x98 μ95) (fun x101 μ100 => ?_)
                        refine J_icmp_eq (pc := 523) (off := 901) (tgt := 1424) hX (by decide +kernel) (by decide +kernel) (fun _ => ?_) (fun _ => ?_)
                        · exact J_sub [0, 1, 2, 3] _ rfl (jLx_law_1424 hsc hX q1 q6 v3 hk18 μ100 y)
                        · refine J_iconst (pc := 526) (n := 0) (v := 0) hX (by decide +kernel) (by decide +kernel) ?_
                          exact J_zret (pc := 527) hX (by decide +kernel) rfl (by decide +kernel) trivial
                      · refine J_ite _ (fun hc10 => ?_) (fun hc10 => ?_)
                        · refine J_tsIn (pc := 33) (dflt := 1391) (lo := 0) (hi := 39) (offs := #[175, 198, 221, 264, 307, 330, 393, 416, 439, 462, 495, 528, 561, 594, 617, 660, 713, 746, 789, 812, 845, 868, 891, 924, 947, 980, 1003, 1026, 1049, 1072, 1105, 1128, 1161, 1194, 1237, 1260, 1283, 1316, 1329, 1368]) (len := 175) (off := 495) (tgt := 528) 10 hc10 hX (by decide +kernel) (by decide +kernel) (by decide +kernel) (by decide +kernel) (by decide +kernel) ?_
                          refine J_aload_n (k0 := 1) (pc := 528) 1 hX (by decide +kernel) rfl rfl ?_
                          refine J_aload_n (k0 := 0) (pc := 529) 0 hX (by decide +kernel) rfl rfl ?_
                          refine J_iload_n (k0 := 3) (pc := 530) 3 hX (by decide +kernel) rfl rfl ?_
                          refine J_iconst (pc := 531) (n := 1) (v := 1) hX (by decide +kernel) (by decide +kernel) ?_
                          refine J_iadd (pc := 532) hX (by decide +kernel) ?_
                          refine J_sld (pc := 533) hX hsc (by decide +kernel) (fun x102 => ?_)
                          refine J_aload_n (k0 := 0) (pc := 534) 0 hX (by decide +kernel) rfl rfl ?_
                          refine J_iload_n (k0 := 3) (pc := 535) 3 hX (by decide +kernel) rfl rfl ?_
                          refine J_iconst (pc := 536) (n := 2) (v := 2) hX (by decide +kernel) (by decide +kernel) ?_
                          refine J_iadd (pc := 537) hX (by decide +kernel) ?_
                          refine J_sld (pc := 538) hX hsc (by decide +kernel) (fun x103 => ?_)
                          refine J_ckP (fun h104 => ?_)
                          refine J_cVi (pc := 539) (idx := 58) [.int x102, .int x103] hX (by decide +kernel) (mq mt_4 117 (by decide +kernel)) mv_Sf_book h104.1 rfl rfl (Nat.le_of_ble_eq_true rfl) (Nat.le_of_ble_eq_true rfl) (c_Sf_book h104 x102 x103 μ) (fun x106 μ105 => ?_)
                          refine J_aload_n (k0 := 2) (pc := 542) 2 hX (by decide +kernel) rfl rfl ?_
                          refine J_aload_n (k0 := 0) (pc := 543) 0 hX (by decide +kernel) rfl rfl ?_
                          refine J_iload_n (k0 := 3) (pc := 544) 3 hX (by decide +kernel) rfl rfl ?_
                          refine J_iconst (pc := 545) (n := 1) (v := 1) hX (by decide +kernel) (by decide +kernel) ?_
                          refine J_iadd (pc := 546) hX (by decide +kernel) ?_
                          refine J_sld (pc := 547) hX hsc (by decide +kernel) (fun x107 => ?_)
                          refine J_aload_n (k0 := 0) (pc := 548) 0 hX (by decide +kernel) rfl rfl ?_
                          refine J_iload_n (k0 := 3) (pc := 549) 3 hX (by decide +kernel) rfl rfl ?_
                          refine J_iconst (pc := 550) (n := 2) (v := 2) hX (by decide +kernel) (by decide +kernel) ?_
                          refine J_iadd (pc := 551) hX (by decide +kernel) ?_
                          refine J_sld (pc := 552) hX hsc (by decide +kernel) (fun x108 => ?_)
                          refine J_ckP (fun h109 => ?_)
                          refine J_cVi (pc := 553) (idx := 61) [.int x107, .int x108] hX (by decide +kernel) (mq mt_8 44 (by decide +kernel)) mv_Mo_book h109.1 rfl rfl (Nat.le_of_ble_eq_true rfl) (Nat.le_of_ble_eq_true rfl) (c_Mo_book h109 x107 x108 μ105) (fun x111 μ110 => ?_)
                          refine J_icmp_eq (pc := 556) (off := 868) (tgt := 1424) hX (by decide +kernel) (by decide +kernel) (fun _ => ?_) (fun _ => ?_)
                          · exact J_sub [0, 1, 2, 3] _ rfl (jLx_law_1424 hsc hX q1 q6 v3 hk18 μ110 y)
                          · refine J_iconst (pc := 559) (n := 0) (v := 0) hX (by decide +kernel) (by decide +kernel) ?_
                            exact J_zret (pc := 560) hX (by decide +kernel) rfl (by decide +kernel) trivial
                        · refine J_ite _ (fun hc11 => ?_) (fun hc11 => ?_)
                          · refine J_tsIn (pc := 33) (dflt := 1391) (lo := 0) (hi := 39) (offs := #[175, 198, 221, 264, 307, 330, 393, 416, 439, 462, 495, 528, 561, 594, 617, 660, 713, 746, 789, 812, 845, 868, 891, 924, 947, 980, 1003, 1026, 1049, 1072, 1105, 1128, 1161, 1194, 1237, 1260, 1283, 1316, 1329, 1368]) (len := 175) (off := 528) (tgt := 561) 11 hc11 hX (by decide +kernel) (by decide +kernel) (by decide +kernel) (by decide +kernel) (by decide +kernel) ?_
                            refine J_aload_n (k0 := 1) (pc := 561) 1 hX (by decide +kernel) rfl rfl ?_
                            refine J_aload_n (k0 := 0) (pc := 562) 0 hX (by decide +kernel) rfl rfl ?_
                            refine J_iload_n (k0 := 3) (pc := 563) 3 hX (by decide +kernel) rfl rfl ?_
                            refine J_iconst (pc := 564) (n := 1) (v := 1) hX (by decide +kernel) (by decide +kernel) ?_
                            refine J_iadd (pc := 565) hX (by decide +kernel) ?_
                            refine J_sld (pc := 566) hX hsc (by decide +kernel) (fun x112 => ?_)
                            refine J_aload_n (k0 := 0) (pc := 567) 0 hX (by decide +kernel) rfl rfl ?_
                            refine J_iload_n (k0 := 3) (pc := 568) 3 hX (by decide +kernel) rfl rfl ?_
                            refine J_iconst (pc := 569) (n := 2) (v := 2) hX (by decide +kernel) (by decide +kernel) ?_
                            refine J_iadd (pc := 570) hX (by decide +kernel) ?_
                            refine J_sld (pc := 571) hX hsc (by decide +kernel) (fun x113 => ?_)
                            refine J_ckP (fun h114 => ?_)
                            refine J_cVi (pc := 572) (idx := 62) [.int x112, .int x113] hX (by decide +kernel) (mq mt_4 125 (by decide +kernel)) mv_Sf_goes h114.1 rfl rfl (Nat.le_of_ble_eq_true rfl) (Nat.le_of_ble_eq_true rfl) (c_Sf_goes h114 x112 x113 μ) (fun x116 μ115 => ?_)
                            refine J_aload_n (k0 := 2) (pc := 575) 2 hX (by decide +kernel) rfl rfl ?_
                            refine J_aload_n (k0 := 0) (pc := 576) 0 hX (by decide +kernel) rfl rfl ?_
                            refine J_iload_n (k0 := 3) (pc := 577) 3 hX (by decide +kernel) rfl rfl ?_
                            refine J_iconst (pc := 578) (n := 1) (v := 1) hX (by decide +kernel) (by decide +kernel) ?_
                            refine J_iadd (pc := 579) hX (by decide +kernel) ?_
                            refine J_sld (pc := 580) hX hsc (by decide +kernel) (fun x117 => ?_)
                            refine J_aload_n (k0 := 0) (pc := 581) 0 hX (by decide +kernel) rfl rfl ?_
                            refine J_iload_n (k0 := 3) (pc := 582) 3 hX (by decide +kernel) rfl rfl ?_
                            refine J_iconst (pc := 583) (n := 2) (v := 2) hX (by decide +kernel) (by decide +kernel) ?_
                            refine J_iadd (pc := 584) hX (by decide +kernel) ?_
                            refine J_sld (pc := 585) hX hsc (by decide +kernel) (fun x118 => ?_)
                            refine J_ckP (fun h119 => ?_)
                            refine J_cVi (pc := 586) (idx := 65) [.int x117, .int x118] hX (by decide +kernel) (mq mt_8 48 (by decide +kernel)) mv_Mo_goes h119.1 rfl rfl (Nat.le_of_ble_eq_true rfl) (Nat.le_of_ble_eq_true rfl) (c_Mo_goes h119 x117 x118 μ115) (fun x121 μ120 => ?_)
                            refine J_icmp_eq (pc := 589) (off := 835) (tgt := 1424) hX (by decide +kernel) (by decide +kernel) (fun _ => ?_) (fun _ => ?_)
                            · exact J_sub [0, 1, 2, 3] _ rfl (jLx_law_1424 hsc hX q1 q6 v3 hk18 μ120 y)
                            · refine J_iconst (pc := 592) (n := 0) (v := 0) hX (by decide +kernel) (by decide +kernel) ?_
                              exact J_zret (pc := 593) hX (by decide +kernel) rfl (by decide +kernel) trivial
                          · refine J_ite _ (fun hc12 => ?_) (fun hc12 => ?_)
                            · refine J_tsIn (pc := 33) (dflt := 1391) (lo := 0) (hi := 39) (offs := #[175, 198, 221, 264, 307, 330, 393, 416, 439, 462, 495, 528, 561, 594, 617, 660, 713, 746, 789, 812, 845, 868, 891, 924, 947, 980, 1003, 1026, 1049, 1072, 1105, 1128, 1161, 1194, 1237, 1260, 1283, 1316, 1329, 1368]) (len := 175) (off := 561) (tgt := 594) 12 hc12 hX (by decide +kernel) (by decide +kernel) (by decide +kernel) (by decide +kernel) (by decide +kernel) ?_
                              refine J_aload_n (k0 := 1) (pc := 594) 1 hX (by decide +kernel) rfl rfl ?_
                              refine J_aload_n (k0 := 0) (pc := 595) 0 hX (by decide +kernel) rfl rfl ?_
                              refine J_iload_n (k0 := 3) (pc := 596) 3 hX (by decide +kernel) rfl rfl ?_
                              refine J_iconst (pc := 597) (n := 1) (v := 1) hX (by decide +kernel) (by decide +kernel) ?_
                              refine J_iadd (pc := 598) hX (by decide +kernel) ?_
                              refine J_sld (pc := 599) hX hsc (by decide +kernel) (fun x122 => ?_)
                              refine J_aload_n (k0 := 0) (pc := 600) 0 hX (by decide +kernel) rfl rfl ?_
                              refine J_iload_n (k0 := 3) (pc := 601) 3 hX (by decide +kernel) rfl rfl ?_
                              refine J_iconst (pc := 602) (n := 2) (v := 2) hX (by decide +kernel) (by decide +kernel) ?_
                              refine J_iadd (pc := 603) hX (by decide +kernel) ?_
                              refine J_sld (pc := 604) hX hsc (by decide +kernel) (fun x123 => ?_)
                              refine J_ckP (fun h124 => ?_)
                              refine J_cVi (pc := 605) (idx := 66) [.int x122, .int x123] hX (by decide +kernel) (mq mt_4 133 (by decide +kernel)) mv_Sf_high h124.1 rfl rfl (Nat.le_of_ble_eq_true rfl) (Nat.le_of_ble_eq_true rfl) (c_Sf_high h124 x122 x123 μ) (fun x126 μ125 => ?_)
                              refine J_aload_n (k0 := 2) (pc := 608) 2 hX (by decide +kernel) rfl rfl ?_
                              refine J_aload_n (k0 := 0) (pc := 609) 0 hX (by decide +kernel) rfl rfl ?_
                              refine J_iload_n (k0 := 3) (pc := 610) 3 hX (by decide +kernel) rfl rfl ?_
                              refine J_iconst (pc := 611) (n := 1) (v := 1) hX (by decide +kernel) (by decide +kernel) ?_
                              refine J_iadd (pc := 612) hX (by decide +kernel) ?_
                              refine J_sld (pc := 613) hX hsc (by decide +kernel) (fun x127 => ?_)
                              refine J_aload_n (k0 := 0) (pc := 614) 0 hX (by decide +kernel) rfl rfl ?_
                              refine J_iload_n (k0 := 3) (pc := 615) 3 hX (by decide +kernel) rfl rfl ?_
                              refine J_iconst (pc := 616) (n := 2) (v := 2) hX (by decide +kernel) (by decide +kernel) ?_
                              refine J_iadd (pc := 617) hX (by decide +kernel) ?_
                              refine J_sld (pc := 618) hX hsc (by decide +kernel) (fun x128 => ?_)
                              refine J_ckP (fun h129 => ?_)
                              refine J_cVi (pc := 619) (idx := 69) [.int x127, .int x128] hX (by decide +kernel) (mq mt_8 64 (by decide +kernel)) mv_Mo_high h129.1 rfl rfl (Nat.le_of_ble_eq_true rfl) (Nat.le_of_ble_eq_true rfl) (c_Mo_high h129 x127 x128 μ125) (fun x131 μ130 => ?_)
                              refine J_icmp_eq (pc := 622) (off := 802) (tgt := 1424) hX (by decide +kernel) (by decide +kernel) (fun _ => ?_) (fun _ => ?_)
                              · exact J_sub [0, 1, 2, 3] _ rfl (jLx_law_1424 hsc hX q1 q6 v3 hk18 μ130 y)
                              · refine J_iconst (pc := 625) (n := 0) (v := 0) hX (by decide +kernel) (by decide +kernel) ?_
                                exact J_zret (pc := 626) hX (by decide +kernel) rfl (by decide +kernel) trivial
                            · refine J_ite _ (fun hc13 => ?_) (fun hc13 => ?_)
                              · refine J_tsIn (pc := 33) (dflt := 1391) (lo := 0) (hi := 39) (offs := #[175, 198, 221, 264, 307, 330, 393, 416, 439, 462, 495, 528, 561, 594, 617, 660, 713, 746, 789, 812, 845, 868, 891, 924, 947, 980, 1003, 1026, 1049, 1072, 1105, 1128, 1161, 1194, 1237, 1260, 1283, 1316, 1329, 1368]) (len := 175) (off := 594) (tgt := 627) 13 hc13 hX (by decide +kernel) (by decide +kernel) (by decide +kernel) (by decide +kernel) (by decide +kernel) ?_
                                refine J_aload_n (k0 := 1) (pc := 627) 1 hX (by decide +kernel) rfl rfl ?_
                                refine J_aload_n (k0 := 0) (pc := 628) 0 hX (by decide +kernel) rfl rfl ?_
                                refine J_iload_n (k0 := 3) (pc := 629) 3 hX (by decide +kernel) rfl rfl ?_
                                refine J_iconst (pc := 630) (n := 1) (v := 1) hX (by decide +kernel) (by decide +kernel) ?_
                                refine J_iadd (pc := 631) hX (by decide +kernel) ?_
                                refine J_sld (pc := 632) hX hsc (by decide +kernel) (fun x132 => ?_)
                                refine J_ckP (fun h133 => ?_)
                                refine J_cVi (pc := 633) (idx := 70) [.int x132] hX (by decide +kernel) (mq mt_4 137 (by decide +kernel)) mv_Sf_door h133.1 rfl rfl (Nat.le_of_ble_eq_true rfl) (Nat.le_of_ble_eq_true rfl) (c_Sf_door h133 x132 μ) (fun x135 μ134 => ?_)
                                refine J_aload_n (k0 := 2) (pc := 636) 2 hX (by decide +kernel) rfl rfl ?_
                                refine J_aload_n (k0 := 0) (pc := 637) 0 hX (by decide +kernel) rfl rfl ?_
                                refine J_iload_n (k0 := 3) (pc := 638) 3 hX (by decide +kernel) rfl rfl ?_
                                refine J_iconst (pc := 639) (n := 1) (v := 1) hX (by decide +kernel) (by decide +kernel) ?_
                                refine J_iadd (pc := 640) hX (by decide +kernel) ?_
                                refine J_sld (pc := 641) hX hsc (by decide +kernel) (fun x136 => ?_)
                                refine J_ckP (fun h137 => ?_)
                                refine J_cVi (pc := 642) (idx := 73) [.int x136] hX (by decide +kernel) (mq mt_8 68 (by decide +kernel)) mv_Mo_door h137.1 rfl rfl (Nat.le_of_ble_eq_true rfl) (Nat.le_of_ble_eq_true rfl) (c_Mo_door h137 x136 μ134) (fun x139 μ138 => ?_)
                                refine J_icmp_eq (pc := 645) (off := 779) (tgt := 1424) hX (by decide +kernel) (by decide +kernel) (fun _ => ?_) (fun _ => ?_)
                                · exact J_sub [0, 1, 2, 3] _ rfl (jLx_law_1424 hsc hX q1 q6 v3 hk18 μ138 y)
                                · refine J_iconst (pc := 648) (n := 0) (v := 0) hX (by decide +kernel) (by decide +kernel) ?_
                                  exact J_zret (pc := 649) hX (by decide +kernel) rfl (by decide +kernel) trivial
                              · refine J_ite _ (fun hc14 => ?_) (fun hc14 => ?_)
                                · refine J_tsIn (pc := 33) (dflt := 1391) (lo := 0) (hi := 39) (offs := #[175, 198, 221, 264, 307, 330, 393, 416, 439, 462, 495, 528, 561, 594, 617, 660, 713, 746, 789, 812, 845, 868, 891, 924, 947, 980, 1003, 1026, 1049, 1072, 1105, 1128, 1161, 1194, 1237, 1260, 1283, 1316, 1329, 1368]) (len := 175) (off := 617) (tgt := 650) 14 hc14 hX (by decide +kernel) (by decide +kernel) (by decide +kernel) (by decide +kernel) (by decide +kernel) ?_
                                  refine J_aload_n (k0 := 1) (pc := 650) 1 hX (by decide +kernel) rfl rfl ?_
                                  refine J_aload_n (k0 := 0) (pc := 651) 0 hX (by decide +kernel) rfl rfl ?_
                                  refine J_iload_n (k0 := 3) (pc := 652) 3 hX (by decide +kernel) rfl rfl ?_
                                  refine J_iconst (pc := 653) (n := 1) (v := 1) hX (by decide +kernel) (by decide +kernel) ?_
                                  refine J_iadd (pc := 654) hX (by decide +kernel) ?_
                                  refine J_sld (pc := 655) hX hsc (by decide +kernel) (fun x140 => ?_)
                                  refine J_aload_n (k0 := 0) (pc := 656) 0 hX (by decide +kernel) rfl rfl ?_
                                  refine J_iload_n (k0 := 3) (pc := 657) 3 hX (by decide +kernel) rfl rfl ?_
                                  refine J_iconst (pc := 658) (n := 2) (v := 2) hX (by decide +kernel) (by decide +kernel) ?_
                                  refine J_iadd (pc := 659) hX (by decide +kernel) ?_
                                  refine J_sld (pc := 660) hX hsc (by decide +kernel) (fun x141 => ?_)
                                  refine J_aload_n (k0 := 0) (pc := 661) 0 hX (by decide +kernel) rfl rfl ?_
                                  refine J_iload_n (k0 := 3) (pc := 662) 3 hX (by decide +kernel) rfl rfl ?_
                                  refine J_iconst (pc := 663) (n := 3) (v := 3) hX (by decide +kernel) (by decide +kernel) ?_
                                  refine J_iadd (pc := 664) hX (by decide +kernel) ?_
                                  refine J_sld (pc := 665) hX hsc (by decide +kernel) (fun x142 => ?_)
                                  refine J_ckP (fun h143 => ?_)
                                  refine J_cVi (pc := 666) (idx := 74) [.int x140, .int x141, .int x142] hX (by decide +kernel) (mq mt_4 145 (by decide +kernel)) mv_Sf_date h143.1 rfl rfl (Nat.le_of_ble_eq_true rfl) (Nat.le_of_ble_eq_true rfl) (c_Sf_date h143 x140 x141 x142 μ) (fun x145 μ144 => ?_)
                                  refine J_aload_n (k0 := 2) (pc := 669) 2 hX (by decide +kernel) rfl rfl ?_
                                  refine J_aload_n (k0 := 0) (pc := 670) 0 hX (by decide +kernel) rfl rfl ?_
                                  refine J_iload_n (k0 := 3) (pc := 671) 3 hX (by decide +kernel) rfl rfl ?_
                                  refine J_iconst (pc := 672) (n := 1) (v := 1) hX (by decide +kernel) (by decide +kernel) ?_
                                  refine J_iadd (pc := 673) hX (by decide +kernel) ?_
                                  refine J_sld (pc := 674) hX hsc (by decide +kernel) (fun x146 => ?_)
                                  refine J_aload_n (k0 := 0) (pc := 675) 0 hX (by decide +kernel) rfl rfl ?_
                                  refine J_iload_n (k0 := 3) (pc := 676) 3 hX (by decide +kernel) rfl rfl ?_
                                  refine J_iconst (pc := 677) (n := 2) (v := 2) hX (by decide +kernel) (by decide +kernel) ?_
                                  refine J_iadd (pc := 678) hX (by decide +kernel) ?_
                                  refine J_sld (pc := 679) hX hsc (by decide +kernel) (fun x147 => ?_)
                                  refine J_aload_n (k0 := 0) (pc := 680) 0 hX (by decide +kernel) rfl rfl ?_
                                  refine J_iload_n (k0 := 3) (pc := 681) 3 hX (by decide +kernel) rfl rfl ?_
                                  refine J_iconst (pc := 682) (n := 3) (v := 3) hX (by decide +kernel) (by decide +kernel) ?_
                                  refine J_iadd (pc := 683) hX (by decide +kernel) ?_
                                  refine J_sld (pc := 684) hX hsc (by decide +kernel) (fun x148 => ?_)
                                  refine J_ckP (fun h149 => ?_)
                                  refine J_cVi (pc := 685) (idx := 77) [.int x146, .int x147, .int x148] hX (by decide +kernel) (mq mt_8 77 (by decide +kernel)) mv_Mo_date h149.1 rfl rfl (Nat.le_of_ble_eq_true rfl) (Nat.le_of_ble_eq_true rfl) (c_Mo_date h149 x146 x147 x148 μ144) (fun x151 μ150 => ?_)
                                  refine J_icmp_eq (pc := 688) (off := 736) (tgt := 1424) hX (by decide +kernel) (by decide +kernel) (fun _ => ?_) (fun _ => ?_)
                                  · exact J_sub [0, 1, 2, 3] _ rfl (jLx_law_1424 hsc hX q1 q6 v3 hk18 μ150 y)
                                  · refine J_iconst (pc := 691) (n := 0) (v := 0) hX (by decide +kernel) (by decide +kernel) ?_
                                    exact J_zret (pc := 692) hX (by decide +kernel) rfl (by decide +kernel) trivial
                                · refine J_ite _ (fun hc15 => ?_) (fun hc15 => ?_)
                                  · refine J_tsIn (pc := 33) (dflt := 1391) (lo := 0) (hi := 39) (offs := #[175, 198, 221, 264, 307, 330, 393, 416, 439, 462, 495, 528, 561, 594, 617, 660, 713, 746, 789, 812, 845, 868, 891, 924, 947, 980, 1003, 1026, 1049, 1072, 1105, 1128, 1161, 1194, 1237, 1260, 1283, 1316, 1329, 1368]) (len := 175) (off := 660) (tgt := 693) 15 hc15 hX (by decide +kernel) (by decide +kernel) (by decide +kernel) (by decide +kernel) (by decide +kernel) ?_
                                    refine J_aload_n (k0 := 1) (pc := 693) 1 hX (by decide +kernel) rfl rfl ?_
                                    refine J_aload_n (k0 := 0) (pc := 694) 0 hX (by decide +kernel) rfl rfl ?_
                                    refine J_iload_n (k0 := 3) (pc := 695) 3 hX (by decide +kernel) rfl rfl ?_
                                    refine J_iconst (pc := 696) (n := 1) (v := 1) hX (by decide +kernel) (by decide +kernel) ?_
                                    refine J_iadd (pc := 697) hX (by decide +kernel) ?_
                                    refine J_sld (pc := 698) hX hsc (by decide +kernel) (fun x152 => ?_)
                                    refine J_aload_n (k0 := 0) (pc := 699) 0 hX (by decide +kernel) rfl rfl ?_
                                    refine J_iload_n (k0 := 3) (pc := 700) 3 hX (by decide +kernel) rfl rfl ?_
                                    refine J_iconst (pc := 701) (n := 2) (v := 2) hX (by decide +kernel) (by decide +kernel) ?_
                                    refine J_iadd (pc := 702) hX (by decide +kernel) ?_
                                    refine J_sld (pc := 703) hX hsc (by decide +kernel) (fun x153 => ?_)
                                    refine J_aload_n (k0 := 0) (pc := 704) 0 hX (by decide +kernel) rfl rfl ?_
                                    refine J_iload_n (k0 := 3) (pc := 705) 3 hX (by decide +kernel) rfl rfl ?_
                                    refine J_iconst (pc := 706) (n := 3) (v := 3) hX (by decide +kernel) (by decide +kernel) ?_
                                    refine J_iadd (pc := 707) hX (by decide +kernel) ?_
                                    refine J_sld (pc := 708) hX hsc (by decide +kernel) (fun x154 => ?_)
                                    refine J_aload_n (k0 := 0) (pc := 709) 0 hX (by decide +kernel) rfl rfl ?_
                                    refine J_iload_n (k0 := 3) (pc := 710) 3 hX (by decide +kernel) rfl rfl ?_
                                    refine J_iconst (pc := 711) (n := 4) (v := 4) hX (by decide +kernel) (by decide +kernel) ?_
                                    refine J_iadd (pc := 712) hX (by decide +kernel) ?_
                                    refine J_sld (pc := 713) hX hsc (by decide +kernel) (fun x155 => ?_)
                                    refine J_ckP (fun h156 => ?_)
                                    refine J_cVi (pc := 714) (idx := 78) [.int x152, .int x153, .int x154, .int x155] hX (by decide +kernel) (mq mt_4 163 (by decide +kernel)) mv_Sf_week h156.1 rfl rfl (Nat.le_of_ble_eq_true rfl) (Nat.le_of_ble_eq_true rfl) (c_Sf_week h156 x152 x153 x154 x155 μ) (fun x158 μ157 => ?_)
                                    refine J_aload_n (k0 := 2) (pc := 717) 2 hX (by decide +kernel) rfl rfl ?_
                                    refine J_aload_n (k0 := 0) (pc := 718) 0 hX (by decide +kernel) rfl rfl ?_
                                    refine J_iload_n (k0 := 3) (pc := 719) 3 hX (by decide +kernel) rfl rfl ?_
                                    refine J_iconst (pc := 720) (n := 1) (v := 1) hX (by decide +kernel) (by decide +kernel) ?_
                                    refine J_iadd (pc := 721) hX (by decide +kernel) ?_
                                    refine J_sld (pc := 722) hX hsc (by decide +kernel) (fun x159 => ?_)
                                    refine J_aload_n (k0 := 0) (pc := 723) 0 hX (by decide +kernel) rfl rfl ?_
                                    refine J_iload_n (k0 := 3) (pc := 724) 3 hX (by decide +kernel) rfl rfl ?_
                                    refine J_iconst (pc := 725) (n := 2) (v := 2) hX (by decide +kernel) (by decide +kernel) ?_
                                    refine J_iadd (pc := 726) hX (by decide +kernel) ?_
                                    refine J_sld (pc := 727) hX hsc (by decide +kernel) (fun x160 => ?_)
                                    refine J_aload_n (k0 := 0) (pc := 728) 0 hX (by decide +kernel) rfl rfl ?_
                                    refine J_iload_n (k0 := 3) (pc := 729) 3 hX (by decide +kernel) rfl rfl ?_
                                    refine J_iconst (pc := 730) (n := 3) (v := 3) hX (by decide +kernel) (by decide +kernel) ?_
                                    refine J_iadd (pc := 731) hX (by decide +kernel) ?_
                                    refine J_sld (pc := 732) hX hsc (by decide +kernel) (fun x161 => ?_)
                                    refine J_aload_n (k0 := 0) (pc := 733) 0 hX (by decide +kernel) rfl rfl ?_
                                    refine J_iload_n (k0 := 3) (pc := 734) 3 hX (by decide +kernel) rfl rfl ?_
                                    refine J_iconst (pc := 735) (n := 4) (v := 4) hX (by decide +kernel) (by decide +kernel) ?_
                                    refine J_iadd (pc := 736) hX (by decide +kernel) ?_
                                    refine J_sld (pc := 737) hX hsc (by decide +kernel) (fun x162 => ?_)
                                    refine J_ckP (fun h163 => ?_)
                                    refine J_cVi (pc := 738) (idx := 82) [.int x159, .int x160, .int x161, .int x162] hX (by decide +kernel) (mq mt_8 97 (by decide +kernel)) mv_Mo_week h163.1 rfl rfl (Nat.le_of_ble_eq_true rfl) (Nat.le_of_ble_eq_true rfl) (c_Mo_week h163 x159 x160 x161 x162 μ157) (fun x165 μ164 => ?_)
                                    refine J_icmp_eq (pc := 741) (off := 683) (tgt := 1424) hX (by decide +kernel) (by decide +kernel) (fun _ => ?_) (fun _ => ?_)
                                    · exact J_sub [0, 1, 2, 3] _ rfl (jLx_law_1424 hsc hX q1 q6 v3 hk18 μ164 y)
                                    · refine J_iconst (pc := 744) (n := 0) (v := 0) hX (by decide +kernel) (by decide +kernel) ?_
                                      exact J_zret (pc := 745) hX (by decide +kernel) rfl (by decide +kernel) trivial
                                  · refine J_ite _ (fun hc16 => ?_) (fun hc16 => ?_)
                                    · refine J_tsIn (pc := 33) (dflt := 1391) (lo := 0) (hi := 39) (offs := #[175, 198, 221, 264, 307, 330, 393, 416, 439, 462, 495, 528, 561, 594, 617, 660, 713, 746, 789, 812, 845, 868, 891, 924, 947, 980, 1003, 1026, 1049, 1072, 1105, 1128, 1161, 1194, 1237, 1260, 1283, 1316, 1329, 1368]) (len := 175) (off := 713) (tgt := 746) 16 hc16 hX (by decide +kernel) (by decide +kernel) (by decide +kernel) (by decide +kernel) (by decide +kernel) ?_
                                      refine J_aload_n (k0 := 1) (pc := 746) 1 hX (by decide +kernel) rfl rfl ?_
                                      refine J_aload_n (k0 := 0) (pc := 747) 0 hX (by decide +kernel) rfl rfl ?_
                                      refine J_iload_n (k0 := 3) (pc := 748) 3 hX (by decide +kernel) rfl rfl ?_
                                      refine J_iconst (pc := 749) (n := 1) (v := 1) hX (by decide +kernel) (by decide +kernel) ?_
                                      refine J_iadd (pc := 750) hX (by decide +kernel) ?_
                                      refine J_sld (pc := 751) hX hsc (by decide +kernel) (fun x166 => ?_)
                                      refine J_aload_n (k0 := 0) (pc := 752) 0 hX (by decide +kernel) rfl rfl ?_
                                      refine J_iload_n (k0 := 3) (pc := 753) 3 hX (by decide +kernel) rfl rfl ?_
                                      refine J_iconst (pc := 754) (n := 2) (v := 2) hX (by decide +kernel) (by decide +kernel) ?_
                                      refine J_iadd (pc := 755) hX (by decide +kernel) ?_
                                      refine J_sld (pc := 756) hX hsc (by decide +kernel) (fun x167 => ?_)
                                      refine J_ckP (fun h168 => ?_)
                                      refine J_cVi (pc := 757) (idx := 83) [.int x166, .int x167] hX (by decide +kernel) (mq mt_4 179 (by decide +kernel)) mv_Sf_point h168.1 rfl rfl (Nat.le_of_ble_eq_true rfl) (Nat.le_of_ble_eq_true rfl) (c_Sf_point h168 x166 x167 μ) (fun x170 μ169 => ?_)
                                      refine J_aload_n (k0 := 2) (pc := 760) 2 hX (by decide +kernel) rfl rfl ?_
                                      refine J_aload_n (k0 := 0) (pc := 761) 0 hX (by decide +kernel) rfl rfl ?_
                                      refine J_iload_n (k0 := 3) (pc := 762) 3 hX (by decide +kernel) rfl rfl ?_
                                      refine J_iconst (pc := 763) (n := 1) (v := 1) hX (by decide +kernel) (by decide +kernel) ?_
                                      refine J_iadd (pc := 764) hX (by decide +kernel) ?_
                                      refine J_sld (pc := 765) hX hsc (by decide +kernel) (fun x171 => ?_)
                                      refine J_aload_n (k0 := 0) (pc := 766) 0 hX (by decide +kernel) rfl rfl ?_
                                      refine J_iload_n (k0 := 3) (pc := 767) 3 hX (by decide +kernel) rfl rfl ?_
                                      refine J_iconst (pc := 768) (n := 2) (v := 2) hX (by decide +kernel) (by decide +kernel) ?_
                                      refine J_iadd (pc := 769) hX (by decide +kernel) ?_
                                      refine J_sld (pc := 770) hX hsc (by decide +kernel) (fun x172 => ?_)
                                      refine J_ckP (fun h173 => ?_)
                                      refine J_cVi (pc := 771) (idx := 86) [.int x171, .int x172] hX (by decide +kernel) (mq mt_8 106 (by decide +kernel)) mv_Mo_point h173.1 rfl rfl (Nat.le_of_ble_eq_true rfl) (Nat.le_of_ble_eq_true rfl) (c_Mo_point h173 x171 x172 μ169) (fun x175 μ174 => ?_)
                                      refine J_icmp_eq (pc := 774) (off := 650) (tgt := 1424) hX (by decide +kernel) (by decide +kernel) (fun _ => ?_) (fun _ => ?_)
                                      · exact J_sub [0, 1, 2, 3] _ rfl (jLx_law_1424 hsc hX q1 q6 v3 hk18 μ174 y)
                                      · refine J_iconst (pc := 777) (n := 0) (v := 0) hX (by decide +kernel) (by decide +kernel) ?_
                                        exact J_zret (pc := 778) hX (by decide +kernel) rfl (by decide +kernel) trivial
                                    · refine J_ite _ (fun hc17 => ?_) (fun hc17 => ?_)
                                      · refine J_tsIn (pc := 33) (dflt := 1391) (lo := 0) (hi := 39) (offs := #[175, 198, 221, 264, 307, 330, 393, 416, 439, 462, 495, 528, 561, 594, 617, 660, 713, 746, 789, 812, 845, 868, 891, 924, 947, 980, 1003, 1026, 1049, 1072, 1105, 1128, 1161, 1194, 1237, 1260, 1283, 1316, 1329, 1368]) (len := 175) (off := 746) (tgt := 779) 17 hc17 hX (by decide +kernel) (by decide +kernel) (by decide +kernel) (by decide +kernel) (by decide +kernel) ?_
                                        refine J_aload_n (k0 := 1) (pc := 779) 1 hX (by decide +kernel) rfl rfl ?_
                                        refine J_aload_n (k0 := 0) (pc := 780) 0 hX (by decide +kernel) rfl rfl ?_
                                        refine J_iload_n (k0 := 3) (pc := 781) 3 hX (by decide +kernel) rfl rfl ?_
                                        refine J_iconst (pc := 782) (n := 1) (v := 1) hX (by decide +kernel) (by decide +kernel) ?_
                                        refine J_iadd (pc := 783) hX (by decide +kernel) ?_
                                        refine J_sld (pc := 784) hX hsc (by decide +kernel) (fun x176 => ?_)
                                        refine J_aload_n (k0 := 0) (pc := 785) 0 hX (by decide +kernel) rfl rfl ?_
                                        refine J_iload_n (k0 := 3) (pc := 786) 3 hX (by decide +kernel) rfl rfl ?_
                                        refine J_iconst (pc := 787) (n := 2) (v := 2) hX (by decide +kernel) (by decide +kernel) ?_
                                        refine J_iadd (pc := 788) hX (by decide +kernel) ?_
                                        refine J_sld (pc := 789) hX hsc (by decide +kernel) (fun x177 => ?_)
                                        refine J_aload_n (k0 := 0) (pc := 790) 0 hX (by decide +kernel) rfl rfl ?_
                                        refine J_iload_n (k0 := 3) (pc := 791) 3 hX (by decide +kernel) rfl rfl ?_
                                        refine J_iconst (pc := 792) (n := 3) (v := 3) hX (by decide +kernel) (by decide +kernel) ?_
                                        refine J_iadd (pc := 793) hX (by decide +kernel) ?_
                                        refine J_sld (pc := 794) hX hsc (by decide +kernel) (fun x178 => ?_)
                                        refine J_ckP (fun h179 => ?_)
                                        refine J_cVi (pc := 795) (idx := 87) [.int x176, .int x177, .int x178] hX (by decide +kernel) (mq mt_4 206 (by decide +kernel)) mv_Sf_side h179.1 rfl rfl (Nat.le_of_ble_eq_true rfl) (Nat.le_of_ble_eq_true rfl) (c_Sf_side h179 x176 x177 x178 μ) (fun x181 μ180 => ?_)
                                        refine J_aload_n (k0 := 2) (pc := 798) 2 hX (by decide +kernel) rfl rfl ?_
                                        refine J_aload_n (k0 := 0) (pc := 799) 0 hX (by decide +kernel) rfl rfl ?_
                                        refine J_iload_n (k0 := 3) (pc := 800) 3 hX (by decide +kernel) rfl rfl ?_
                                        refine J_iconst (pc := 801) (n := 1) (v := 1) hX (by decide +kernel) (by decide +kernel) ?_
                                        refine J_iadd (pc := 802) hX (by decide +kernel) ?_
                                        refine J_sld (pc := 803) hX hsc (by decide +kernel) (fun x182 => ?_)
                                        refine J_aload_n (k0 := 0) (pc := 804) 0 hX (by decide +kernel) rfl rfl ?_
                                        refine J_iload_n (k0 := 3) (pc := 805) 3 hX (by decide +kernel) rfl rfl ?_
                                        refine J_iconst (pc := 806) (n := 2) (v := 2) hX (by decide +kernel) (by decide +kernel) ?_
                                        refine J_iadd (pc := 807) hX (by decide +kernel) ?_
                                        refine J_sld (pc := 808) hX hsc (by decide +kernel) (fun x183 => ?_)
                                        refine J_aload_n (k0 := 0) (pc := 809) 0 hX (by decide +kernel) rfl rfl ?_
                                        refine J_iload_n (k0 := 3) (pc := 810) 3 hX (by decide +kernel) rfl rfl ?_
                                        refine J_iconst (pc := 811) (n := 3) (v := 3) hX (by decide +kernel) (by decide +kernel) ?_
                                        refine J_iadd (pc := 812) hX (by decide +kernel) ?_
                                        refine J_sld (pc := 813) hX hsc (by decide +kernel) (fun x184 => ?_)
                                        refine J_ckP (fun h185 => ?_)
                                        refine J_cVi (pc := 814) (idx := 91) [.int x182, .int x183, .int x184] hX (by decide +kernel) (mq mt_8 110 (by decide +kernel)) mv_Mo_side h185.1 rfl rfl (Nat.le_of_ble_eq_true rfl) (Nat.le_of_ble_eq_true rfl) (c_Mo_side h185 x182 x183 x184 μ180) (fun x187 μ186 => ?_)
                                        refine J_icmp_eq (pc := 817) (off := 607) (tgt := 1424) hX (by decide +kernel) (by decide +kernel) (fun _ => ?_) (fun _ => ?_)
                                        · exact J_sub [0, 1, 2, 3] _ rfl (jLx_law_1424 hsc hX q1 q6 v3 hk18 μ186 y)
                                        · refine J_iconst (pc := 820) (n := 0) (v := 0) hX (by decide +kernel) (by decide +kernel) ?_
                                          exact J_zret (pc := 821) hX (by decide +kernel) rfl (by decide +kernel) trivial
                                      · refine J_ite _ (fun hc18 => ?_) (fun hc18 => ?_)
                                        · refine J_tsIn (pc := 33) (dflt := 1391) (lo := 0) (hi := 39) (offs := #[175, 198, 221, 264, 307, 330, 393, 416, 439, 462, 495, 528, 561, 594, 617, 660, 713, 746, 789, 812, 845, 868, 891, 924, 947, 980, 1003, 1026, 1049, 1072, 1105, 1128, 1161, 1194, 1237, 1260, 1283, 1316, 1329, 1368]) (len := 175) (off := 789) (tgt := 822) 18 hc18 hX (by decide +kernel) (by decide +kernel) (by decide +kernel) (by decide +kernel) (by decide +kernel) ?_
                                          refine J_aload_n (k0 := 1) (pc := 822) 1 hX (by decide +kernel) rfl rfl ?_
                                          refine J_aload_n (k0 := 0) (pc := 823) 0 hX (by decide +kernel) rfl rfl ?_
                                          refine J_iload_n (k0 := 3) (pc := 824) 3 hX (by decide +kernel) rfl rfl ?_
                                          refine J_iconst (pc := 825) (n := 1) (v := 1) hX (by decide +kernel) (by decide +kernel) ?_
                                          refine J_iadd (pc := 826) hX (by decide +kernel) ?_
                                          refine J_sld (pc := 827) hX hsc (by decide +kernel) (fun x188 => ?_)
                                          refine J_ckP (fun h189 => ?_)
                                          refine J_cVi (pc := 828) (idx := 92) [.int x188] hX (by decide +kernel) (mq mt_4 221 (by decide +kernel)) mv_Sf_hull h189.1 rfl rfl (Nat.le_of_ble_eq_true rfl) (Nat.le_of_ble_eq_true rfl) (c_Sf_hull h189 x188 μ) (fun x191 μ190 => ?_)
                                          refine J_aload_n (k0 := 2) (pc := 831) 2 hX (by decide +kernel) rfl rfl ?_
                                          refine J_aload_n (k0 := 0) (pc := 832) 0 hX (by decide +kernel) rfl rfl ?_
                                          refine J_iload_n (k0 := 3) (pc := 833) 3 hX (by decide +kernel) rfl rfl ?_
                                          refine J_iconst (pc := 834) (n := 1) (v := 1) hX (by decide +kernel) (by decide +kernel) ?_
                                          refine J_iadd (pc := 835) hX (by decide +kernel) ?_
                                          refine J_sld (pc := 836) hX hsc (by decide +kernel) (fun x192 => ?_)
                                          refine J_ckP (fun h193 => ?_)
                                          refine J_cVi (pc := 837) (idx := 95) [.int x192] hX (by decide +kernel) (mq mt_8 118 (by decide +kernel)) mv_Mo_hull h193.1 rfl rfl (Nat.le_of_ble_eq_true rfl) (Nat.le_of_ble_eq_true rfl) (c_Mo_hull h193 x192 μ190) (fun x195 μ194 => ?_)
                                          refine J_icmp_eq (pc := 840) (off := 584) (tgt := 1424) hX (by decide +kernel) (by decide +kernel) (fun _ => ?_) (fun _ => ?_)
                                          · exact J_sub [0, 1, 2, 3] _ rfl (jLx_law_1424 hsc hX q1 q6 v3 hk18 μ194 y)
                                          · refine J_iconst (pc := 843) (n := 0) (v := 0) hX (by decide +kernel) (by decide +kernel) ?_
                                            exact J_zret (pc := 844) hX (by decide +kernel) rfl (by decide +kernel) trivial
                                        · refine J_ite _ (fun hc19 => ?_) (fun hc19 => ?_)
                                          · refine J_tsIn (pc := 33) (dflt := 1391) (lo := 0) (hi := 39) (offs := #[175, 198, 221, 264, 307, 330, 393, 416, 439, 462, 495, 528, 561, 594, 617, 660, 713, 746, 789, 812, 845, 868, 891, 924, 947, 980, 1003, 1026, 1049, 1072, 1105, 1128, 1161, 1194, 1237, 1260, 1283, 1316, 1329, 1368]) (len := 175) (off := 812) (tgt := 845) 19 hc19 hX (by decide +kernel) (by decide +kernel) (by decide +kernel) (by decide +kernel) (by decide +kernel) ?_
                                            refine J_aload_n (k0 := 1) (pc := 845) 1 hX (by decide +kernel) rfl rfl ?_
                                            refine J_aload_n (k0 := 0) (pc := 846) 0 hX (by decide +kernel) rfl rfl ?_
                                            refine J_iload_n (k0 := 3) (pc := 847) 3 hX (by decide +kernel) rfl rfl ?_
                                            refine J_iconst (pc := 848) (n := 1) (v := 1) hX (by decide +kernel) (by decide +kernel) ?_
                                            refine J_iadd (pc := 849) hX (by decide +kernel) ?_
                                            refine J_sld (pc := 850) hX hsc (by decide +kernel) (fun x196 => ?_)
                                            refine J_aload_n (k0 := 0) (pc := 851) 0 hX (by decide +kernel) rfl rfl ?_
                                            refine J_iload_n (k0 := 3) (pc := 852) 3 hX (by decide +kernel) rfl rfl ?_
                                            refine J_iconst (pc := 853) (n := 2) (v := 2) hX (by decide +kernel) (by decide +kernel) ?_
                                            refine J_iadd (pc := 854) hX (by decide +kernel) ?_
                                            refine J_sld (pc := 855) hX hsc (by decide +kernel) (fun x197 => ?_)
                                            refine J_ckP (fun h198 => ?_)
                                            refine J_cVi (pc := 856) (idx := 96) [.int x196, .int x197] hX (by decide +kernel) (mq mt_5 2 (by decide +kernel)) mv_Sf_turned h198.1 rfl rfl (Nat.le_of_ble_eq_true rfl) (Nat.le_of_ble_eq_true rfl) (c_Sf_turned h198 x196 x197 μ) (fun x200 μ199 => ?_)
                                            refine J_aload_n (k0 := 2) (pc := 859) 2 hX (by decide +kernel) rfl rfl ?_
                                            refine J_aload_n (k0 := 0) (pc := 860) 0 hX (by decide +kernel) rfl rfl ?_
                                            refine J_iload_n (k0 := 3) (pc := 861) 3 hX (by decide +kernel) rfl rfl ?_
                                            refine J_iconst (pc := 862) (n := 1) (v := 1) hX (by decide +kernel) (by decide +kernel) ?_
                                            refine J_iadd (pc := 863) hX (by decide +kernel) ?_
                                            refine J_sld (pc := 864) hX hsc (by decide +kernel) (fun x201 => ?_)
                                            refine J_aload_n (k0 := 0) (pc := 865) 0 hX (by decide +kernel) rfl rfl ?_
                                            refine J_iload_n (k0 := 3) (pc := 866) 3 hX (by decide +kernel) rfl rfl ?_
                                            refine J_iconst (pc := 867) (n := 2) (v := 2) hX (by decide +kernel) (by decide +kernel) ?_
                                            refine J_iadd (pc := 868) hX (by decide +kernel) ?_
                                            refine J_sld (pc := 869) hX hsc (by decide +kernel) (fun x202 => ?_)
                                            refine J_ckP (fun h203 => ?_)
                                            refine J_cVi (pc := 870) (idx := 99) [.int x201, .int x202] hX (by decide +kernel) (mq mt_8 130 (by decide +kernel)) mv_Mo_turned h203.1 rfl rfl (Nat.le_of_ble_eq_true rfl) (Nat.le_of_ble_eq_true rfl) (c_Mo_turned h203 x201 x202 μ199) (fun x205 μ204 => ?_)
                                            refine J_icmp_eq (pc := 873) (off := 551) (tgt := 1424) hX (by decide +kernel) (by decide +kernel) (fun _ => ?_) (fun _ => ?_)
                                            · exact J_sub [0, 1, 2, 3] _ rfl (jLx_law_1424 hsc hX q1 q6 v3 hk18 μ204 y)
                                            · refine J_iconst (pc := 876) (n := 0) (v := 0) hX (by decide +kernel) (by decide +kernel) ?_
                                              exact J_zret (pc := 877) hX (by decide +kernel) rfl (by decide +kernel) trivial
                                          · refine J_ite _ (fun hc20 => ?_) (fun hc20 => ?_)
                                            · refine J_tsIn (pc := 33) (dflt := 1391) (lo := 0) (hi := 39) (offs := #[175, 198, 221, 264, 307, 330, 393, 416, 439, 462, 495, 528, 561, 594, 617, 660, 713, 746, 789, 812, 845, 868, 891, 924, 947, 980, 1003, 1026, 1049, 1072, 1105, 1128, 1161, 1194, 1237, 1260, 1283, 1316, 1329, 1368]) (len := 175) (off := 845) (tgt := 878) 20 hc20 hX (by decide +kernel) (by decide +kernel) (by decide +kernel) (by decide +kernel) (by decide +kernel) ?_
                                              refine J_aload_n (k0 := 1) (pc := 878) 1 hX (by decide +kernel) rfl rfl ?_
                                              refine J_aload_n (k0 := 0) (pc := 879) 0 hX (by decide +kernel) rfl rfl ?_
                                              refine J_iload_n (k0 := 3) (pc := 880) 3 hX (by decide +kernel) rfl rfl ?_
                                              refine J_iconst (pc := 881) (n := 1) (v := 1) hX (by decide +kernel) (by decide +kernel) ?_
                                              refine J_iadd (pc := 882) hX (by decide +kernel) ?_
                                              refine J_sld (pc := 883) hX hsc (by decide +kernel) (fun x206 => ?_)
                                              refine J_ckP (fun h207 => ?_)
                                              refine J_cVi (pc := 884) (idx := 100) [.int x206] hX (by decide +kernel) (mq mt_5 14 (by decide +kernel)) mv_Sf_weight h207.1 rfl rfl (Nat.le_of_ble_eq_true rfl) (Nat.le_of_ble_eq_true rfl) (c_Sf_weight h207 x206 μ) (fun x209 μ208 => ?_)
                                              refine J_aload_n (k0 := 2) (pc := 887) 2 hX (by decide +kernel) rfl rfl ?_
                                              refine J_aload_n (k0 := 0) (pc := 888) 0 hX (by decide +kernel) rfl rfl ?_
                                              refine J_iload_n (k0 := 3) (pc := 889) 3 hX (by decide +kernel) rfl rfl ?_
                                              refine J_iconst (pc := 890) (n := 1) (v := 1) hX (by decide +kernel) (by decide +kernel) ?_
                                              refine J_iadd (pc := 891) hX (by decide +kernel) ?_
                                              refine J_sld (pc := 892) hX hsc (by decide +kernel) (fun x210 => ?_)
                                              refine J_ckP (fun h211 => ?_)
                                              refine J_cVi (pc := 893) (idx := 103) [.int x210] hX (by decide +kernel) (mq mt_8 140 (by decide +kernel)) mv_Mo_weight h211.1 rfl rfl (Nat.le_of_ble_eq_true rfl) (Nat.le_of_ble_eq_true rfl) (c_Mo_weight h211 x210 μ208) (fun x213 μ212 => ?_)
                                              refine J_icmp_eq (pc := 896) (off := 528) (tgt := 1424) hX (by decide +kernel) (by decide +kernel) (fun _ => ?_) (fun _ => ?_)
                                              · exact J_sub [0, 1, 2, 3] _ rfl (jLx_law_1424 hsc hX q1 q6 v3 hk18 μ212 y)
                                              · refine J_iconst (pc := 899) (n := 0) (v := 0) hX (by decide +kernel) (by decide +kernel) ?_
                                                exact J_zret (pc := 900) hX (by decide +kernel) rfl (by decide +kernel) trivial
                                            · refine J_ite _ (fun hc21 => ?_) (fun hc21 => ?_)
                                              · refine J_tsIn (pc := 33) (dflt := 1391) (lo := 0) (hi := 39) (offs := #[175, 198, 221, 264, 307, 330, 393, 416, 439, 462, 495, 528, 561, 594, 617, 660, 713, 746, 789, 812, 845, 868, 891, 924, 947, 980, 1003, 1026, 1049, 1072, 1105, 1128, 1161, 1194, 1237, 1260, 1283, 1316, 1329, 1368]) (len := 175) (off := 868) (tgt := 901) 21 hc21 hX (by decide +kernel) (by decide +kernel) (by decide +kernel) (by decide +kernel) (by decide +kernel) ?_
                                                refine J_aload_n (k0 := 1) (pc := 901) 1 hX (by decide +kernel) rfl rfl ?_
                                                refine J_aload_n (k0 := 0) (pc := 902) 0 hX (by decide +kernel) rfl rfl ?_
                                                refine J_iload_n (k0 := 3) (pc := 903) 3 hX (by decide +kernel) rfl rfl ?_
                                                refine J_iconst (pc := 904) (n := 1) (v := 1) hX (by decide +kernel) (by decide +kernel) ?_
                                                refine J_iadd (pc := 905) hX (by decide +kernel) ?_
                                                refine J_sld (pc := 906) hX hsc (by decide +kernel) (fun x214 => ?_)
                                                refine J_ckP (fun h215 => ?_)
                                                refine J_cVi (pc := 907) (idx := 104) [.int x214] hX (by decide +kernel) (mq mt_5 24 (by decide +kernel)) mv_Sf_weighs h215.1 rfl rfl (Nat.le_of_ble_eq_true rfl) (Nat.le_of_ble_eq_true rfl) (c_Sf_weighs h215 x214 μ) (fun x217 μ216 => ?_)
                                                refine J_aload_n (k0 := 2) (pc := 910) 2 hX (by decide +kernel) rfl rfl ?_
                                                refine J_aload_n (k0 := 0) (pc := 911) 0 hX (by decide +kernel) rfl rfl ?_
                                                refine J_iload_n (k0 := 3) (pc := 912) 3 hX (by decide +kernel) rfl rfl ?_
                                                refine J_iconst (pc := 913) (n := 1) (v := 1) hX (by decide +kernel) (by decide +kernel) ?_
                                                refine J_iadd (pc := 914) hX (by decide +kernel) ?_
                                                refine J_sld (pc := 915) hX hsc (by decide +kernel) (fun x218 => ?_)
                                                refine J_ckP (fun h219 => ?_)
                                                refine J_cVi (pc := 916) (idx := 107) [.int x218] hX (by decide +kernel) (mq mt_8 144 (by decide +kernel)) mv_Mo_weighs h219.1 rfl rfl (Nat.le_of_ble_eq_true rfl) (Nat.le_of_ble_eq_true rfl) (c_Mo_weighs h219 x218 μ216) (fun x221 μ220 => ?_)
                                                refine J_icmp_eq (pc := 919) (off := 505) (tgt := 1424) hX (by decide +kernel) (by decide +kernel) (fun _ => ?_) (fun _ => ?_)
                                                · exact J_sub [0, 1, 2, 3] _ rfl (jLx_law_1424 hsc hX q1 q6 v3 hk18 μ220 y)
                                                · refine J_iconst (pc := 922) (n := 0) (v := 0) hX (by decide +kernel) (by decide +kernel) ?_
                                                  exact J_zret (pc := 923) hX (by decide +kernel) rfl (by decide +kernel) trivial
                                              · refine J_ite _ (fun hc22 => ?_) (fun hc22 => ?_)
                                                · refine J_tsIn (pc := 33) (dflt := 1391) (lo := 0) (hi := 39) (offs := #[175, 198, 221, 264, 307, 330, 393, 416, 439, 462, 495, 528, 561, 594, 617, 660, 713, 746, 789, 812, 845, 868, 891, 924, 947, 980, 1003, 1026, 1049, 1072, 1105, 1128, 1161, 1194, 1237, 1260, 1283, 1316, 1329, 1368]) (len := 175) (off := 891) (tgt := 924) 22 hc22 hX (by decide +kernel) (by decide +kernel) (by decide +kernel) (by decide +kernel) (by decide +kernel) ?_
                                                  refine J_aload_n (k0 := 1) (pc := 924) 1 hX (by decide +kernel) rfl rfl ?_
                                                  refine J_aload_n (k0 := 0) (pc := 925) 0 hX (by decide +kernel) rfl rfl ?_
                                                  refine J_iload_n (k0 := 3) (pc := 926) 3 hX (by decide +kernel) rfl rfl ?_
                                                  refine J_iconst (pc := 927) (n := 1) (v := 1) hX (by decide +kernel) (by decide +kernel) ?_
                                                  refine J_iadd (pc := 928) hX (by decide +kernel) ?_
                                                  refine J_sld (pc := 929) hX hsc (by decide +kernel) (fun x222 => ?_)
                                                  refine J_aload_n (k0 := 0) (pc := 930) 0 hX (by decide +kernel) rfl rfl ?_
                                                  refine J_iload_n (k0 := 3) (pc := 931) 3 hX (by decide +kernel) rfl rfl ?_
                                                  refine J_iconst (pc := 932) (n := 2) (v := 2) hX (by decide +kernel) (by decide +kernel) ?_
                                                  refine J_iadd (pc := 933) hX (by decide +kernel) ?_
                                                  refine J_sld (pc := 934) hX hsc (by decide +kernel) (fun x223 => ?_)
                                                  refine J_ckP (fun h224 => ?_)
                                                  refine J_cVi (pc := 935) (idx := 108) [.int x222, .int x223] hX (by decide +kernel) (mq mt_5 45 (by decide +kernel)) mv_Sf_coins h224.1 rfl rfl (Nat.le_of_ble_eq_true rfl) (Nat.le_of_ble_eq_true rfl) (c_Sf_coins h224 x222 x223 μ) (fun x226 μ225 => ?_)
                                                  refine J_aload_n (k0 := 2) (pc := 938) 2 hX (by decide +kernel) rfl rfl ?_
                                                  refine J_aload_n (k0 := 0) (pc := 939) 0 hX (by decide +kernel) rfl rfl ?_
                                                  refine J_iload_n (k0 := 3) (pc := 940) 3 hX (by decide +kernel) rfl rfl ?_
                                                  refine J_iconst (pc := 941) (n := 1) (v := 1) hX (by decide +kernel) (by decide +kernel) ?_
                                                  refine J_iadd (pc := 942) hX (by decide +kernel) ?_
                                                  refine J_sld (pc := 943) hX hsc (by decide +kernel) (fun x227 => ?_)
                                                  refine J_aload_n (k0 := 0) (pc := 944) 0 hX (by decide +kernel) rfl rfl ?_
                                                  refine J_iload_n (k0 := 3) (pc := 945) 3 hX (by decide +kernel) rfl rfl ?_
                                                  refine J_iconst (pc := 946) (n := 2) (v := 2) hX (by decide +kernel) (by decide +kernel) ?_
                                                  refine J_iadd (pc := 947) hX (by decide +kernel) ?_
                                                  refine J_sld (pc := 948) hX hsc (by decide +kernel) (fun x228 => ?_)
                                                  refine J_ckP (fun h229 => ?_)
                                                  refine J_cVi (pc := 949) (idx := 111) [.int x227, .int x228] hX (by decide +kernel) (mq mt_8 152 (by decide +kernel)) mv_Mo_coins h229.1 rfl rfl (Nat.le_of_ble_eq_true rfl) (Nat.le_of_ble_eq_true rfl) (c_Mo_coins h229 x227 x228 μ225) (fun x231 μ230 => ?_)
                                                  refine J_icmp_eq (pc := 952) (off := 472) (tgt := 1424) hX (by decide +kernel) (by decide +kernel) (fun _ => ?_) (fun _ => ?_)
                                                  · exact J_sub [0, 1, 2, 3] _ rfl (jLx_law_1424 hsc hX q1 q6 v3 hk18 μ230 y)
                                                  · refine J_iconst (pc := 955) (n := 0) (v := 0) hX (by decide +kernel) (by decide +kernel) ?_
                                                    exact J_zret (pc := 956) hX (by decide +kernel) rfl (by decide +kernel) trivial
                                                · refine J_ite _ (fun hc23 => ?_) (fun hc23 => ?_)
                                                  · refine J_tsIn (pc := 33) (dflt := 1391) (lo := 0) (hi := 39) (offs := #[175, 198, 221, 264, 307, 330, 393, 416, 439, 462, 495, 528, 561, 594, 617, 660, 713, 746, 789, 812, 845, 868, 891, 924, 947, 980, 1003, 1026, 1049, 1072, 1105, 1128, 1161, 1194, 1237, 1260, 1283, 1316, 1329, 1368]) (len := 175) (off := 924) (tgt := 957) 23 hc23 hX (by decide +kernel) (by decide +kernel) (by decide +kernel) (by decide +kernel) (by decide +kernel) ?_
                                                    refine J_aload_n (k0 := 1) (pc := 957) 1 hX (by decide +kernel) rfl rfl ?_
                                                    refine J_aload_n (k0 := 0) (pc := 958) 0 hX (by decide +kernel) rfl rfl ?_
                                                    refine J_iload_n (k0 := 3) (pc := 959) 3 hX (by decide +kernel) rfl rfl ?_
                                                    refine J_iconst (pc := 960) (n := 1) (v := 1) hX (by decide +kernel) (by decide +kernel) ?_
                                                    refine J_iadd (pc := 961) hX (by decide +kernel) ?_
                                                    refine J_sld (pc := 962) hX hsc (by decide +kernel) (fun x232 => ?_)
                                                    refine J_ckP (fun h233 => ?_)
                                                    refine J_cVi (pc := 963) (idx := 112) [.int x232] hX (by decide +kernel) (mq mt_5 52 (by decide +kernel)) mv_Sf_slabs h233.1 rfl rfl (Nat.le_of_ble_eq_true rfl) (Nat.le_of_ble_eq_true rfl) (c_Sf_slabs h233 x232 μ) (fun x235 μ234 => ?_)
                                                    refine J_aload_n (k0 := 2) (pc := 966) 2 hX (by decide +kernel) rfl rfl ?_
                                                    refine J_aload_n (k0 := 0) (pc := 967) 0 hX (by decide +kernel) rfl rfl ?_
                                                    refine J_iload_n (k0 := 3) (pc := 968) 3 hX (by decide +kernel) rfl rfl ?_
                                                    refine J_iconst (pc := 969) (n := 1) (v := 1) hX (by decide +kernel) (by decide +kernel) ?_
                                                    refine J_iadd (pc := 970) hX (by decide +kernel) ?_
                                                    refine J_sld (pc := 971) hX hsc (by decide +kernel) (fun x236 => ?_)
                                                    refine J_ckP (fun h237 => ?_)
                                                    refine J_cVi (pc := 972) (idx := 115) [.int x236] hX (by decide +kernel) (mq mt_8 156 (by decide +kernel)) mv_Mo_slabs h237.1 rfl rfl (Nat.le_of_ble_eq_true rfl) (Nat.le_of_ble_eq_true rfl) (c_Mo_slabs h237 x236 μ234) (fun x239 μ238 => ?_)
                                                    refine J_icmp_eq (pc := 975) (off := 449) (tgt := 1424) hX (by decide +kernel) (by decide +kernel) (fun _ => ?_) (fun _ => ?_)
                                                    · exact J_sub [0, 1, 2, 3] _ rfl (jLx_law_1424 hsc hX q1 q6 v3 hk18 μ238 y)
                                                    · refine J_iconst (pc := 978) (n := 0) (v := 0) hX (by decide +kernel) (by decide +kernel) ?_
                                                      exact J_zret (pc := 979) hX (by decide +kernel) rfl (by decide +kernel) trivial
                                                  · refine J_ite _ (fun hc24 => ?_) (fun hc24 => ?_)
                                                    · refine J_tsIn (pc := 33) (dflt := 1391) (lo := 0) (hi := 39) (offs := #[175, 198, 221, 264, 307, 330, 393, 416, 439, 462, 495, 528, 561, 594, 617, 660, 713, 746, 789, 812, 845, 868, 891, 924, 947, 980, 1003, 1026, 1049, 1072, 1105, 1128, 1161, 1194, 1237, 1260, 1283, 1316, 1329, 1368]) (len := 175) (off := 947) (tgt := 980) 24 hc24 hX (by decide +kernel) (by decide +kernel) (by decide +kernel) (by decide +kernel) (by decide +kernel) ?_
                                                      refine J_aload_n (k0 := 1) (pc := 980) 1 hX (by decide +kernel) rfl rfl ?_
                                                      refine J_aload_n (k0 := 0) (pc := 981) 0 hX (by decide +kernel) rfl rfl ?_
                                                      refine J_iload_n (k0 := 3) (pc := 982) 3 hX (by decide +kernel) rfl rfl ?_
                                                      refine J_iconst (pc := 983) (n := 1) (v := 1) hX (by decide +kernel) (by decide +kernel) ?_
                                                      refine J_iadd (pc := 984) hX (by decide +kernel) ?_
                                                      refine J_sld (pc := 985) hX hsc (by decide +kernel) (fun x240 => ?_)
                                                      refine J_aload_n (k0 := 0) (pc := 986) 0 hX (by decide +kernel) rfl rfl ?_
                                                      refine J_iload_n (k0 := 3) (pc := 987) 3 hX (by decide +kernel) rfl rfl ?_
                                                      refine J_iconst (pc := 988) (n := 2) (v := 2) hX (by decide +kernel) (by decide +kernel) ?_
                                                      refine J_iadd (pc := 989) hX (by decide +kernel) ?_
                                                      refine J_sld (pc := 990) hX hsc (by decide +kernel) (fun x241 => ?_)
                                                      refine J_ckP (fun h242 => ?_)
                                                      refine J_cVi (pc := 991) (idx := 116) [.int x240, .int x241] hX (by decide +kernel) (mq mt_5 64 (by decide +kernel)) mv_Sf_row h242.1 rfl rfl (Nat.le_of_ble_eq_true rfl) (Nat.le_of_ble_eq_true rfl) (c_Sf_row h242 x240 x241 μ) (fun x244 μ243 => ?_)
                                                      refine J_aload_n (k0 := 2) (pc := 994) 2 hX (by decide +kernel) rfl rfl ?_
                                                      refine J_aload_n (k0 := 0) (pc := 995) 0 hX (by decide +kernel) rfl rfl ?_
                                                      refine J_iload_n (k0 := 3) (pc := 996) 3 hX (by decide +kernel) rfl rfl ?_
                                                      refine J_iconst (pc := 997) (n := 1) (v := 1) hX (by decide +kernel) (by decide +kernel) ?_
                                                      refine J_iadd (pc := 998) hX (by decide +kernel) ?_
                                                      refine J_sld (pc := 999) hX hsc (by decide +kernel) (fun x245 => ?_)
                                                      refine J_aload_n (k0 := 0) (pc := 1000) 0 hX (by decide +kernel) rfl rfl ?_
                                                      refine J_iload_n (k0 := 3) (pc := 1001) 3 hX (by decide +kernel) rfl rfl ?_
                                                      refine J_iconst (pc := 1002) (n := 2) (v := 2) hX (by decide +kernel) (by decide +kernel) ?_
                                                      refine J_iadd (pc := 1003) hX (by decide +kernel) ?_
                                                      refine J_sld (pc := 1004) hX hsc (by decide +kernel) (fun x246 => ?_)
                                                      refine J_ckP (fun h247 => ?_)
                                                      refine J_cVi (pc := 1005) (idx := 119) [.int x245, .int x246] hX (by decide +kernel) (mq mt_8 165 (by decide +kernel)) mv_Mo_row h247.1 rfl rfl (Nat.le_of_ble_eq_true rfl) (Nat.le_of_ble_eq_true rfl) (c_Mo_row h247 x245 x246 μ243) (fun x249 μ248 => ?_)
                                                      refine J_icmp_eq (pc := 1008) (off := 416) (tgt := 1424) hX (by decide +kernel) (by decide +kernel) (fun _ => ?_) (fun _ => ?_)
                                                      · exact J_sub [0, 1, 2, 3] _ rfl (jLx_law_1424 hsc hX q1 q6 v3 hk18 μ248 y)
                                                      · refine J_iconst (pc := 1011) (n := 0) (v := 0) hX (by decide +kernel) (by decide +kernel) ?_
                                                        exact J_zret (pc := 1012) hX (by decide +kernel) rfl (by decide +kernel) trivial
                                                    · refine J_ite _ (fun hc25 => ?_) (fun hc25 => ?_)
                                                      · refine J_tsIn (pc := 33) (dflt := 1391) (lo := 0) (hi := 39) (offs := #[175, 198, 221, 264, 307, 330, 393, 416, 439, 462, 495, 528, 561, 594, 617, 660, 713, 746, 789, 812, 845, 868, 891, 924, 947, 980, 1003, 1026, 1049, 1072, 1105, 1128, 1161, 1194, 1237, 1260, 1283, 1316, 1329, 1368]) (len := 175) (off := 980) (tgt := 1013) 25 hc25 hX (by decide +kernel) (by decide +kernel) (by decide +kernel) (by decide +kernel) (by decide +kernel) ?_
                                                        refine J_aload_n (k0 := 1) (pc := 1013) 1 hX (by decide +kernel) rfl rfl ?_
                                                        refine J_aload_n (k0 := 0) (pc := 1014) 0 hX (by decide +kernel) rfl rfl ?_
                                                        refine J_iload_n (k0 := 3) (pc := 1015) 3 hX (by decide +kernel) rfl rfl ?_
                                                        refine J_iconst (pc := 1016) (n := 1) (v := 1) hX (by decide +kernel) (by decide +kernel) ?_
                                                        refine J_iadd (pc := 1017) hX (by decide +kernel) ?_
                                                        refine J_sld (pc := 1018) hX hsc (by decide +kernel) (fun x250 => ?_)
                                                        refine J_ckP (fun h251 => ?_)
                                                        refine J_cVi (pc := 1019) (idx := 120) [.int x250] hX (by decide +kernel) (mq mt_5 68 (by decide +kernel)) mv_Sf_shadow h251.1 rfl rfl (Nat.le_of_ble_eq_true rfl) (Nat.le_of_ble_eq_true rfl) (c_Sf_shadow h251 x250 μ) (fun x253 μ252 => ?_)
                                                        refine J_aload_n (k0 := 2) (pc := 1022) 2 hX (by decide +kernel) rfl rfl ?_
                                                        refine J_aload_n (k0 := 0) (pc := 1023) 0 hX (by decide +kernel) rfl rfl ?_
                                                        refine J_iload_n (k0 := 3) (pc := 1024) 3 hX (by decide +kernel) rfl rfl ?_
                                                        refine J_iconst (pc := 1025) (n := 1) (v := 1) hX (by decide +kernel) (by decide +kernel) ?_
                                                        refine J_iadd (pc := 1026) hX (by decide +kernel) ?_
                                                        refine J_sld (pc := 1027) hX hsc (by decide +kernel) (fun x254 => ?_)
                                                        refine J_ckP (fun h255 => ?_)
                                                        refine J_cVi (pc := 1028) (idx := 123) [.int x254] hX (by decide +kernel) (mq mt_8 169 (by decide +kernel)) mv_Mo_shadow h255.1 rfl rfl (Nat.le_of_ble_eq_true rfl) (Nat.le_of_ble_eq_true rfl) (c_Mo_shadow h255 x254 μ252) (fun x257 μ256 => ?_)
                                                        refine J_icmp_eq (pc := 1031) (off := 393) (tgt := 1424) hX (by decide +kernel) (by decide +kernel) (fun _ => ?_) (fun _ => ?_)
                                                        · exact J_sub [0, 1, 2, 3] _ rfl (jLx_law_1424 hsc hX q1 q6 v3 hk18 μ256 y)
                                                        · refine J_iconst (pc := 1034) (n := 0) (v := 0) hX (by decide +kernel) (by decide +kernel) ?_
                                                          exact J_zret (pc := 1035) hX (by decide +kernel) rfl (by decide +kernel) trivial
                                                      · refine J_ite _ (fun hc26 => ?_) (fun hc26 => ?_)
                                                        · refine J_tsIn (pc := 33) (dflt := 1391) (lo := 0) (hi := 39) (offs := #[175, 198, 221, 264, 307, 330, 393, 416, 439, 462, 495, 528, 561, 594, 617, 660, 713, 746, 789, 812, 845, 868, 891, 924, 947, 980, 1003, 1026, 1049, 1072, 1105, 1128, 1161, 1194, 1237, 1260, 1283, 1316, 1329, 1368]) (len := 175) (off := 1003) (tgt := 1036) 26 hc26 hX (by decide +kernel) (by decide +kernel) (by decide +kernel) (by decide +kernel) (by decide +kernel) ?_
                                                          refine J_aload_n (k0 := 1) (pc := 1036) 1 hX (by decide +kernel) rfl rfl ?_
                                                          refine J_aload_n (k0 := 0) (pc := 1037) 0 hX (by decide +kernel) rfl rfl ?_
                                                          refine J_iload_n (k0 := 3) (pc := 1038) 3 hX (by decide +kernel) rfl rfl ?_
                                                          refine J_iconst (pc := 1039) (n := 1) (v := 1) hX (by decide +kernel) (by decide +kernel) ?_
                                                          refine J_iadd (pc := 1040) hX (by decide +kernel) ?_
                                                          refine J_sld (pc := 1041) hX hsc (by decide +kernel) (fun x258 => ?_)
                                                          refine J_ckP (fun h259 => ?_)
                                                          refine J_cVi (pc := 1042) (idx := 124) [.int x258] hX (by decide +kernel) (mq mt_5 76 (by decide +kernel)) mv_Sf_drip h259.1 rfl rfl (Nat.le_of_ble_eq_true rfl) (Nat.le_of_ble_eq_true rfl) (c_Sf_drip h259 x258 μ) (fun x261 μ260 => ?_)
                                                          refine J_aload_n (k0 := 2) (pc := 1045) 2 hX (by decide +kernel) rfl rfl ?_
                                                          refine J_aload_n (k0 := 0) (pc := 1046) 0 hX (by decide +kernel) rfl rfl ?_
                                                          refine J_iload_n (k0 := 3) (pc := 1047) 3 hX (by decide +kernel) rfl rfl ?_
                                                          refine J_iconst (pc := 1048) (n := 1) (v := 1) hX (by decide +kernel) (by decide +kernel) ?_
                                                          refine J_iadd (pc := 1049) hX (by decide +kernel) ?_
                                                          refine J_sld (pc := 1050) hX hsc (by decide +kernel) (fun x262 => ?_)
                                                          refine J_ckP (fun h263 => ?_)
                                                          refine J_cVi (pc := 1051) (idx := 127) [.int x262] hX (by decide +kernel) (mq mt_8 173 (by decide +kernel)) mv_Mo_drip h263.1 rfl rfl (Nat.le_of_ble_eq_true rfl) (Nat.le_of_ble_eq_true rfl) (c_Mo_drip h263 x262 μ260) (fun x265 μ264 => ?_)
                                                          refine J_icmp_eq (pc := 1054) (off := 370) (tgt := 1424) hX (by decide +kernel) (by decide +kernel) (fun _ => ?_) (fun _ => ?_)
                                                          · exact J_sub [0, 1, 2, 3] _ rfl (jLx_law_1424 hsc hX q1 q6 v3 hk18 μ264 y)
                                                          · refine J_iconst (pc := 1057) (n := 0) (v := 0) hX (by decide +kernel) (by decide +kernel) ?_
                                                            exact J_zret (pc := 1058) hX (by decide +kernel) rfl (by decide +kernel) trivial
                                                        · refine J_ite _ (fun hc27 => ?_) (fun hc27 => ?_)
                                                          · refine J_tsIn (pc := 33) (dflt := 1391) (lo := 0) (hi := 39) (offs := #[175, 198, 221, 264, 307, 330, 393, 416, 439, 462, 495, 528, 561, 594, 617, 660, 713, 746, 789, 812, 845, 868, 891, 924, 947, 980, 1003, 1026, 1049, 1072, 1105, 1128, 1161, 1194, 1237, 1260, 1283, 1316, 1329, 1368]) (len := 175) (off := 1026) (tgt := 1059) 27 hc27 hX (by decide +kernel) (by decide +kernel) (by decide +kernel) (by decide +kernel) (by decide +kernel) ?_
                                                            refine J_aload_n (k0 := 1) (pc := 1059) 1 hX (by decide +kernel) rfl rfl ?_
                                                            refine J_aload_n (k0 := 0) (pc := 1060) 0 hX (by decide +kernel) rfl rfl ?_
                                                            refine J_iload_n (k0 := 3) (pc := 1061) 3 hX (by decide +kernel) rfl rfl ?_
                                                            refine J_iconst (pc := 1062) (n := 1) (v := 1) hX (by decide +kernel) (by decide +kernel) ?_
                                                            refine J_iadd (pc := 1063) hX (by decide +kernel) ?_
                                                            refine J_sld (pc := 1064) hX hsc (by decide +kernel) (fun x266 => ?_)
                                                            refine J_ckP (fun h267 => ?_)
                                                            refine J_cVi (pc := 1065) (idx := 128) [.int x266] hX (by decide +kernel) (mq mt_5 80 (by decide +kernel)) mv_Sf_drips h267.1 rfl rfl (Nat.le_of_ble_eq_true rfl) (Nat.le_of_ble_eq_true rfl) (c_Sf_drips h267 x266 μ) (fun x269 μ268 => ?_)
                                                            refine J_aload_n (k0 := 2) (pc := 1068) 2 hX (by decide +kernel) rfl rfl ?_
                                                            refine J_aload_n (k0 := 0) (pc := 1069) 0 hX (by decide +kernel) rfl rfl ?_
                                                            refine J_iload_n (k0 := 3) (pc := 1070) 3 hX (by decide +kernel) rfl rfl ?_
                                                            refine J_iconst (pc := 1071) (n := 1) (v := 1) hX (by decide +kernel) (by decide +kernel) ?_
                                                            refine J_iadd (pc := 1072) hX (by decide +kernel) ?_
                                                            refine J_sld (pc := 1073) hX hsc (by decide +kernel) (fun x270 => ?_)
                                                            refine J_ckP (fun h271 => ?_)
                                                            refine J_cVi (pc := 1074) (idx := 131) [.int x270] hX (by decide +kernel) (mq mt_8 177 (by decide +kernel)) mv_Mo_drips h271.1 rfl rfl (Nat.le_of_ble_eq_true rfl) (Nat.le_of_ble_eq_true rfl) (c_Mo_drips h271 x270 μ268) (fun x273 μ272 => ?_)
                                                            refine J_icmp_eq (pc := 1077) (off := 347) (tgt := 1424) hX (by decide +kernel) (by decide +kernel) (fun _ => ?_) (fun _ => ?_)
                                                            · exact J_sub [0, 1, 2, 3] _ rfl (jLx_law_1424 hsc hX q1 q6 v3 hk18 μ272 y)
                                                            · refine J_iconst (pc := 1080) (n := 0) (v := 0) hX (by decide +kernel) (by decide +kernel) ?_
                                                              exact J_zret (pc := 1081) hX (by decide +kernel) rfl (by decide +kernel) trivial
                                                          · refine J_ite _ (fun hc28 => ?_) (fun hc28 => ?_)
                                                            · refine J_tsIn (pc := 33) (dflt := 1391) (lo := 0) (hi := 39) (offs := #[175, 198, 221, 264, 307, 330, 393, 416, 439, 462, 495, 528, 561, 594, 617, 660, 713, 746, 789, 812, 845, 868, 891, 924, 947, 980, 1003, 1026, 1049, 1072, 1105, 1128, 1161, 1194, 1237, 1260, 1283, 1316, 1329, 1368]) (len := 175) (off := 1049) (tgt := 1082) 28 hc28 hX (by decide +kernel) (by decide +kernel) (by decide +kernel) (by decide +kernel) (by decide +kernel) ?_
                                                              refine J_aload_n (k0 := 1) (pc := 1082) 1 hX (by decide +kernel) rfl rfl ?_
                                                              refine J_aload_n (k0 := 0) (pc := 1083) 0 hX (by decide +kernel) rfl rfl ?_
                                                              refine J_iload_n (k0 := 3) (pc := 1084) 3 hX (by decide +kernel) rfl rfl ?_
                                                              refine J_iconst (pc := 1085) (n := 1) (v := 1) hX (by decide +kernel) (by decide +kernel) ?_
                                                              refine J_iadd (pc := 1086) hX (by decide +kernel) ?_
                                                              refine J_sld (pc := 1087) hX hsc (by decide +kernel) (fun x274 => ?_)
                                                              refine J_ckP (fun h275 => ?_)
                                                              refine J_cVi (pc := 1088) (idx := 132) [.int x274] hX (by decide +kernel) (mq mt_5 106 (by decide +kernel)) mv_Sf_told h275.1 rfl rfl (Nat.le_of_ble_eq_true rfl) (Nat.le_of_ble_eq_true rfl) (c_Sf_told h275 x274 μ) (fun x277 μ276 => ?_)
                                                              refine J_aload_n (k0 := 2) (pc := 1091) 2 hX (by decide +kernel) rfl rfl ?_
                                                              refine J_aload_n (k0 := 0) (pc := 1092) 0 hX (by decide +kernel) rfl rfl ?_
                                                              refine J_iload_n (k0 := 3) (pc := 1093) 3 hX (by decide +kernel) rfl rfl ?_
                                                              refine J_iconst (pc := 1094) (n := 1) (v := 1) hX (by decide +kernel) (by decide +kernel) ?_
                                                              refine J_iadd (pc := 1095) hX (by decide +kernel) ?_
                                                              refine J_sld (pc := 1096) hX hsc (by decide +kernel) (fun x278 => ?_)
                                                              refine J_ckP (fun h279 => ?_)
                                                              refine J_cVi (pc := 1097) (idx := 135) [.int x278] hX (by decide +kernel) (mq mt_8 189 (by decide +kernel)) mv_Mo_told h279.1 rfl rfl (Nat.le_of_ble_eq_true rfl) (Nat.le_of_ble_eq_true rfl) (c_Mo_told h279 x278 μ276) (fun x281 μ280 => ?_)
                                                              refine J_icmp_eq (pc := 1100) (off := 324) (tgt := 1424) hX (by decide +kernel) (by decide +kernel) (fun _ => ?_) (fun _ => ?_)
                                                              · exact J_sub [0, 1, 2, 3] _ rfl (jLx_law_1424 hsc hX q1 q6 v3 hk18 μ280 y)
                                                              · refine J_iconst (pc := 1103) (n := 0) (v := 0) hX (by decide +kernel) (by decide +kernel) ?_
                                                                exact J_zret (pc := 1104) hX (by decide +kernel) rfl (by decide +kernel) trivial
                                                            · refine J_ite _ (fun hc29 => ?_) (fun hc29 => ?_)
                                                              · refine J_tsIn (pc := 33) (dflt := 1391) (lo := 0) (hi := 39) (offs := #[175, 198, 221, 264, 307, 330, 393, 416, 439, 462, 495, 528, 561, 594, 617, 660, 713, 746, 789, 812, 845, 868, 891, 924, 947, 980, 1003, 1026, 1049, 1072, 1105, 1128, 1161, 1194, 1237, 1260, 1283, 1316, 1329, 1368]) (len := 175) (off := 1072) (tgt := 1105) 29 hc29 hX (by decide +kernel) (by decide +kernel) (by decide +kernel) (by decide +kernel) (by decide +kernel) ?_
                                                                refine J_aload_n (k0 := 1) (pc := 1105) 1 hX (by decide +kernel) rfl rfl ?_
                                                                refine J_aload_n (k0 := 0) (pc := 1106) 0 hX (by decide +kernel) rfl rfl ?_
                                                                refine J_iload_n (k0 := 3) (pc := 1107) 3 hX (by decide +kernel) rfl rfl ?_
                                                                refine J_iconst (pc := 1108) (n := 1) (v := 1) hX (by decide +kernel) (by decide +kernel) ?_
                                                                refine J_iadd (pc := 1109) hX (by decide +kernel) ?_
                                                                refine J_sld (pc := 1110) hX hsc (by decide +kernel) (fun x282 => ?_)
                                                                refine J_aload_n (k0 := 0) (pc := 1111) 0 hX (by decide +kernel) rfl rfl ?_
                                                                refine J_iload_n (k0 := 3) (pc := 1112) 3 hX (by decide +kernel) rfl rfl ?_
                                                                refine J_iconst (pc := 1113) (n := 2) (v := 2) hX (by decide +kernel) (by decide +kernel) ?_
                                                                refine J_iadd (pc := 1114) hX (by decide +kernel) ?_
                                                                refine J_sld (pc := 1115) hX hsc (by decide +kernel) (fun x283 => ?_)
                                                                refine J_ckP (fun h284 => ?_)
                                                                refine J_cVi (pc := 1116) (idx := 136) [.int x282, .int x283] hX (by decide +kernel) (mq mt_5 128 (by decide +kernel)) mv_Sf_switches h284.1 rfl rfl (Nat.le_of_ble_eq_true rfl) (Nat.le_of_ble_eq_true rfl) (c_Sf_switches h284 x282 x283 μ) (fun x286 μ285 => ?_)
                                                                refine J_aload_n (k0 := 2) (pc := 1119) 2 hX (by decide +kernel) rfl rfl ?_
                                                                refine J_aload_n (k0 := 0) (pc := 1120) 0 hX (by decide +kernel) rfl rfl ?_
                                                                refine J_iload_n (k0 := 3) (pc := 1121) 3 hX (by decide +kernel) rfl rfl ?_
                                                                refine J_iconst (pc := 1122) (n := 1) (v := 1) hX (by decide +kernel) (by decide +kernel) ?_
                                                                refine J_iadd (pc := 1123) hX (by decide +kernel) ?_
                                                                refine J_sld (pc := 1124) hX hsc (by decide +kernel) (fun x287 => ?_)
                                                                refine J_aload_n (k0 := 0) (pc := 1125) 0 hX (by decide +kernel) rfl rfl ?_
                                                                refine J_iload_n (k0 := 3) (pc := 1126) 3 hX (by decide +kernel) rfl rfl ?_
                                                                refine J_iconst (pc := 1127) (n := 2) (v := 2) hX (by decide +kernel) (by decide +kernel) ?_
                                                                refine J_iadd (pc := 1128) hX (by decide +kernel) ?_
                                                                refine J_sld (pc := 1129) hX hsc (by decide +kernel) (fun x288 => ?_)
                                                                refine J_ckP (fun h289 => ?_)
                                                                refine J_cVi (pc := 1130) (idx := 139) [.int x287, .int x288] hX (by decide +kernel) (mq mt_8 201 (by decide +kernel)) mv_Mo_switches h289.1 rfl rfl (Nat.le_of_ble_eq_true rfl) (Nat.le_of_ble_eq_true rfl) (c_Mo_switches h289 x287 x288 μ285) (fun x291 μ290 => ?_)
                                                                refine J_icmp_eq (pc := 1133) (off := 291) (tgt := 1424) hX (by decide +kernel) (by decide +kernel) (fun _ => ?_) (fun _ => ?_)
                                                                · exact J_sub [0, 1, 2, 3] _ rfl (jLx_law_1424 hsc hX q1 q6 v3 hk18 μ290 y)
                                                                · refine J_iconst (pc := 1136) (n := 0) (v := 0) hX (by decide +kernel) (by decide +kernel) ?_
                                                                  exact J_zret (pc := 1137) hX (by decide +kernel) rfl (by decide +kernel) trivial
                                                              · refine J_ite _ (fun hc30 => ?_) (fun hc30 => ?_)
                                                                · refine J_tsIn (pc := 33) (dflt := 1391) (lo := 0) (hi := 39) (offs := #[175, 198, 221, 264, 307, 330, 393, 416, 439, 462, 495, 528, 561, 594, 617, 660, 713, 746, 789, 812, 845, 868, 891, 924, 947, 980, 1003, 1026, 1049, 1072, 1105, 1128, 1161, 1194, 1237, 1260, 1283, 1316, 1329, 1368]) (len := 175) (off := 1105) (tgt := 1138) 30 hc30 hX (by decide +kernel) (by decide +kernel) (by decide +kernel) (by decide +kernel) (by decide +kernel) ?_
                                                                  refine J_aload_n (k0 := 1) (pc := 1138) 1 hX (by decide +kernel) rfl rfl ?_
                                                                  refine J_aload_n (k0 := 0) (pc := 1139) 0 hX (by decide +kernel) rfl rfl ?_
                                                                  refine J_iload_n (k0 := 3) (pc := 1140) 3 hX (by decide +kernel) rfl rfl ?_
                                                                  refine J_iconst (pc := 1141) (n := 1) (v := 1) hX (by decide +kernel) (by decide +kernel) ?_
                                                                  refine J_iadd (pc := 1142) hX (by decide +kernel) ?_
                                                                  refine J_sld (pc := 1143) hX hsc (by decide +kernel) (fun x292 => ?_)
                                                                  refine J_ckP (fun h293 => ?_)
                                                                  refine J_cVi (pc := 1144) (idx := 140) [.int x292] hX (by decide +kernel) (mq mt_5 135 (by decide +kernel)) mv_Sf_stage h293.1 rfl rfl (Nat.le_of_ble_eq_true rfl) (Nat.le_of_ble_eq_true rfl) (c_Sf_stage h293 x292 μ) (fun x295 μ294 => ?_)
                                                                  refine J_aload_n (k0 := 2) (pc := 1147) 2 hX (by decide +kernel) rfl rfl ?_
                                                                  refine J_aload_n (k0 := 0) (pc := 1148) 0 hX (by decide +kernel) rfl rfl ?_
                                                                  refine J_iload_n (k0 := 3) (pc := 1149) 3 hX (by decide +kernel) rfl rfl ?_
                                                                  refine J_iconst (pc := 1150) (n := 1) (v := 1) hX (by decide +kernel) (by decide +kernel) ?_
                                                                  refine J_iadd (pc := 1151) hX (by decide +kernel) ?_
                                                                  refine J_sld (pc := 1152) hX hsc (by decide +kernel) (fun x296 => ?_)
                                                                  refine J_ckP (fun h297 => ?_)
                                                                  refine J_cVi (pc := 1153) (idx := 143) [.int x296] hX (by decide +kernel) (mq mt_8 205 (by decide +kernel)) mv_Mo_stage h297.1 rfl rfl (Nat.le_of_ble_eq_true rfl) (Nat.le_of_ble_eq_true rfl) (c_Mo_stage h297 x296 μ294) (fun x299 μ298 => ?_)
                                                                  refine J_icmp_eq (pc := 1156) (off := 268) (tgt := 1424) hX (by decide +kernel) (by decide +kernel) (fun _ => ?_) (fun _ => ?_)
                                                                  · exact J_sub [0, 1, 2, 3] _ rfl (jLx_law_1424 hsc hX q1 q6 v3 hk18 μ298 y)
                                                                  · refine J_iconst (pc := 1159) (n := 0) (v := 0) hX (by decide +kernel) (by decide +kernel) ?_
                                                                    exact J_zret (pc := 1160) hX (by decide +kernel) rfl (by decide +kernel) trivial
                                                                · refine J_ite _ (fun hc31 => ?_) (fun hc31 => ?_)
                                                                  · refine J_tsIn (pc := 33) (dflt := 1391) (lo := 0) (hi := 39) (offs := #[175, 198, 221, 264, 307, 330, 393, 416, 439, 462, 495, 528, 561, 594, 617, 660, 713, 746, 789, 812, 845, 868, 891, 924, 947, 980, 1003, 1026, 1049, 1072, 1105, 1128, 1161, 1194, 1237, 1260, 1283, 1316, 1329, 1368]) (len := 175) (off := 1128) (tgt := 1161) 31 hc31 hX (by decide +kernel) (by decide +kernel) (by decide +kernel) (by decide +kernel) (by decide +kernel) ?_
                                                                    refine J_aload_n (k0 := 1) (pc := 1161) 1 hX (by decide +kernel) rfl rfl ?_
                                                                    refine J_aload_n (k0 := 0) (pc := 1162) 0 hX (by decide +kernel) rfl rfl ?_
                                                                    refine J_iload_n (k0 := 3) (pc := 1163) 3 hX (by decide +kernel) rfl rfl ?_
                                                                    refine J_iconst (pc := 1164) (n := 1) (v := 1) hX (by decide +kernel) (by decide +kernel) ?_
                                                                    refine J_iadd (pc := 1165) hX (by decide +kernel) ?_
                                                                    refine J_sld (pc := 1166) hX hsc (by decide +kernel) (fun x300 => ?_)
                                                                    refine J_aload_n (k0 := 0) (pc := 1167) 0 hX (by decide +kernel) rfl rfl ?_
                                                                    refine J_iload_n (k0 := 3) (pc := 1168) 3 hX (by decide +kernel) rfl rfl ?_
                                                                    refine J_iconst (pc := 1169) (n := 2) (v := 2) hX (by decide +kernel) (by decide +kernel) ?_
                                                                    refine J_iadd (pc := 1170) hX (by decide +kernel) ?_
                                                                    refine J_sld (pc := 1171) hX hsc (by decide +kernel) (fun x301 => ?_)
                                                                    refine J_ckP (fun h302 => ?_)
                                                                    refine J_cVi (pc := 1172) (idx := 144) [.int x300, .int x301] hX (by decide +kernel) (mq mt_5 144 (by decide +kernel)) mv_Sf_voyage h302.1 rfl rfl (Nat.le_of_ble_eq_true rfl) (Nat.le_of_ble_eq_true rfl) (c_Sf_voyage h302 x300 x301 μ) (fun x304 μ303 => ?_)
                                                                    refine J_aload_n (k0 := 2) (pc := 1175) 2 hX (by decide +kernel) rfl rfl ?_
                                                                    refine J_aload_n (k0 := 0) (pc := 1176) 0 hX (by decide +kernel) rfl rfl ?_
                                                                    refine J_iload_n (k0 := 3) (pc := 1177) 3 hX (by decide +kernel) rfl rfl ?_
                                                                    refine J_iconst (pc := 1178) (n := 1) (v := 1) hX (by decide +kernel) (by decide +kernel) ?_
                                                                    refine J_iadd (pc := 1179) hX (by decide +kernel) ?_
                                                                    refine J_sld (pc := 1180) hX hsc (by decide +kernel) (fun x305 => ?_)
                                                                    refine J_aload_n (k0 := 0) (pc := 1181) 0 hX (by decide +kernel) rfl rfl ?_
                                                                    refine J_iload_n (k0 := 3) (pc := 1182) 3 hX (by decide +kernel) rfl rfl ?_
                                                                    refine J_iconst (pc := 1183) (n := 2) (v := 2) hX (by decide +kernel) (by decide +kernel) ?_
                                                                    refine J_iadd (pc := 1184) hX (by decide +kernel) ?_
                                                                    refine J_sld (pc := 1185) hX hsc (by decide +kernel) (fun x306 => ?_)
                                                                    refine J_ckP (fun h307 => ?_)
                                                                    refine J_cVi (pc := 1186) (idx := 147) [.int x305, .int x306] hX (by decide +kernel) (mq mt_8 209 (by decide +kernel)) mv_Mo_voyage h307.1 rfl rfl (Nat.le_of_ble_eq_true rfl) (Nat.le_of_ble_eq_true rfl) (c_Mo_voyage h307 x305 x306 μ303) (fun x309 μ308 => ?_)
                                                                    refine J_icmp_eq (pc := 1189) (off := 235) (tgt := 1424) hX (by decide +kernel) (by decide +kernel) (fun _ => ?_) (fun _ => ?_)
                                                                    · exact J_sub [0, 1, 2, 3] _ rfl (jLx_law_1424 hsc hX q1 q6 v3 hk18 μ308 y)
                                                                    · refine J_iconst (pc := 1192) (n := 0) (v := 0) hX (by decide +kernel) (by decide +kernel) ?_
                                                                      exact J_zret (pc := 1193) hX (by decide +kernel) rfl (by decide +kernel) trivial
                                                                  · refine J_ite _ (fun hc32 => ?_) (fun hc32 => ?_)
                                                                    · refine J_tsIn (pc := 33) (dflt := 1391) (lo := 0) (hi := 39) (offs := #[175, 198, 221, 264, 307, 330, 393, 416, 439, 462, 495, 528, 561, 594, 617, 660, 713, 746, 789, 812, 845, 868, 891, 924, 947, 980, 1003, 1026, 1049, 1072, 1105, 1128, 1161, 1194, 1237, 1260, 1283, 1316, 1329, 1368]) (len := 175) (off := 1161) (tgt := 1194) 32 hc32 hX (by decide +kernel) (by decide +kernel) (by decide +kernel) (by decide +kernel) (by decide +kernel) ?_
                                                                      refine J_aload_n (k0 := 1) (pc := 1194) 1 hX (by decide +kernel) rfl rfl ?_
                                                                      refine J_aload_n (k0 := 0) (pc := 1195) 0 hX (by decide +kernel) rfl rfl ?_
                                                                      refine J_iload_n (k0 := 3) (pc := 1196) 3 hX (by decide +kernel) rfl rfl ?_
                                                                      refine J_iconst (pc := 1197) (n := 1) (v := 1) hX (by decide +kernel) (by decide +kernel) ?_
                                                                      refine J_iadd (pc := 1198) hX (by decide +kernel) ?_
                                                                      refine J_sld (pc := 1199) hX hsc (by decide +kernel) (fun x310 => ?_)
                                                                      refine J_aload_n (k0 := 0) (pc := 1200) 0 hX (by decide +kernel) rfl rfl ?_
                                                                      refine J_iload_n (k0 := 3) (pc := 1201) 3 hX (by decide +kernel) rfl rfl ?_
                                                                      refine J_iconst (pc := 1202) (n := 2) (v := 2) hX (by decide +kernel) (by decide +kernel) ?_
                                                                      refine J_iadd (pc := 1203) hX (by decide +kernel) ?_
                                                                      refine J_sld (pc := 1204) hX hsc (by decide +kernel) (fun x311 => ?_)
                                                                      refine J_ckP (fun h312 => ?_)
                                                                      refine J_cVi (pc := 1205) (idx := 148) [.int x310, .int x311] hX (by decide +kernel) (mq mt_5 157 (by decide +kernel)) mv_Sf_post h312.1 rfl rfl (Nat.le_of_ble_eq_true rfl) (Nat.le_of_ble_eq_true rfl) (c_Sf_post h312 x310 x311 μ) (fun x314 μ313 => ?_)
                                                                      refine J_aload_n (k0 := 2) (pc := 1208) 2 hX (by decide +kernel) rfl rfl ?_
                                                                      refine J_aload_n (k0 := 0) (pc := 1209) 0 hX (by decide +kernel) rfl rfl ?_
                                                                      refine J_iload_n (k0 := 3) (pc := 1210) 3 hX (by decide +kernel) rfl rfl ?_
                                                                      refine J_iconst (pc := 1211) (n := 1) (v := 1) hX (by decide +kernel) (by decide +kernel) ?_
                                                                      refine J_iadd (pc := 1212) hX (by decide +kernel) ?_
                                                                      refine J_sld (pc := 1213) hX hsc (by decide +kernel) (fun x315 => ?_)
                                                                      refine J_aload_n (k0 := 0) (pc := 1214) 0 hX (by decide +kernel) rfl rfl ?_
                                                                      refine J_iload_n (k0 := 3) (pc := 1215) 3 hX (by decide +kernel) rfl rfl ?_
                                                                      refine J_iconst (pc := 1216) (n := 2) (v := 2) hX (by decide +kernel) (by decide +kernel) ?_
                                                                      refine J_iadd (pc := 1217) hX (by decide +kernel) ?_
                                                                      refine J_sld (pc := 1218) hX hsc (by decide +kernel) (fun x316 => ?_)
                                                                      refine J_ckP (fun h317 => ?_)
                                                                      refine J_cVi (pc := 1219) (idx := 151) [.int x315, .int x316] hX (by decide +kernel) (mq mt_8 213 (by decide +kernel)) mv_Mo_post h317.1 rfl rfl (Nat.le_of_ble_eq_true rfl) (Nat.le_of_ble_eq_true rfl) (c_Mo_post h317 x315 x316 μ313) (fun x319 μ318 => ?_)
                                                                      refine J_icmp_eq (pc := 1222) (off := 202) (tgt := 1424) hX (by decide +kernel) (by decide +kernel) (fun _ => ?_) (fun _ => ?_)
                                                                      · exact J_sub [0, 1, 2, 3] _ rfl (jLx_law_1424 hsc hX q1 q6 v3 hk18 μ318 y)
                                                                      · refine J_iconst (pc := 1225) (n := 0) (v := 0) hX (by decide +kernel) (by decide +kernel) ?_
                                                                        exact J_zret (pc := 1226) hX (by decide +kernel) rfl (by decide +kernel) trivial
                                                                    · refine J_ite _ (fun hc33 => ?_) (fun hc33 => ?_)
                                                                      · refine J_tsIn (pc := 33) (dflt := 1391) (lo := 0) (hi := 39) (offs := #[175, 198, 221, 264, 307, 330, 393, 416, 439, 462, 495, 528, 561, 594, 617, 660, 713, 746, 789, 812, 845, 868, 891, 924, 947, 980, 1003, 1026, 1049, 1072, 1105, 1128, 1161, 1194, 1237, 1260, 1283, 1316, 1329, 1368]) (len := 175) (off := 1194) (tgt := 1227) 33 hc33 hX (by decide +kernel) (by decide +kernel) (by decide +kernel) (by decide +kernel) (by decide +kernel) ?_
                                                                        refine J_aload_n (k0 := 1) (pc := 1227) 1 hX (by decide +kernel) rfl rfl ?_
                                                                        refine J_aload_n (k0 := 0) (pc := 1228) 0 hX (by decide +kernel) rfl rfl ?_
                                                                        refine J_iload_n (k0 := 3) (pc := 1229) 3 hX (by decide +kernel) rfl rfl ?_
                                                                        refine J_iconst (pc := 1230) (n := 1) (v := 1) hX (by decide +kernel) (by decide +kernel) ?_
                                                                        refine J_iadd (pc := 1231) hX (by decide +kernel) ?_
                                                                        refine J_sld (pc := 1232) hX hsc (by decide +kernel) (fun x320 => ?_)
                                                                        refine J_aload_n (k0 := 0) (pc := 1233) 0 hX (by decide +kernel) rfl rfl ?_
                                                                        refine J_iload_n (k0 := 3) (pc := 1234) 3 hX (by decide +kernel) rfl rfl ?_
                                                                        refine J_iconst (pc := 1235) (n := 2) (v := 2) hX (by decide +kernel) (by decide +kernel) ?_
                                                                        refine J_iadd (pc := 1236) hX (by decide +kernel) ?_
                                                                        refine J_sld (pc := 1237) hX hsc (by decide +kernel) (fun x321 => ?_)
                                                                        refine J_aload_n (k0 := 0) (pc := 1238) 0 hX (by decide +kernel) rfl rfl ?_
                                                                        refine J_iload_n (k0 := 3) (pc := 1239) 3 hX (by decide +kernel) rfl rfl ?_
                                                                        refine J_iconst (pc := 1240) (n := 3) (v := 3) hX (by decide +kernel) (by decide +kernel) ?_
                                                                        refine J_iadd (pc := 1241) hX (by decide +kernel) ?_
                                                                        refine J_sld (pc := 1242) hX hsc (by decide +kernel) (fun x322 => ?_)
                                                                        refine J_ckP (fun h323 => ?_)
                                                                        refine J_cVi (pc := 1243) (idx := 152) [.int x320, .int x321, .int x322] hX (by decide +kernel) (mq mt_5 165 (by decide +kernel)) mv_Sf_light h323.1 rfl rfl (Nat.le_of_ble_eq_true rfl) (Nat.le_of_ble_eq_true rfl) (c_Sf_light h323 x320 x321 x322 μ) (fun x325 μ324 => ?_)
                                                                        refine J_aload_n (k0 := 2) (pc := 1246) 2 hX (by decide +kernel) rfl rfl ?_
                                                                        refine J_aload_n (k0 := 0) (pc := 1247) 0 hX (by decide +kernel) rfl rfl ?_
                                                                        refine J_iload_n (k0 := 3) (pc := 1248) 3 hX (by decide +kernel) rfl rfl ?_
                                                                        refine J_iconst (pc := 1249) (n := 1) (v := 1) hX (by decide +kernel) (by decide +kernel) ?_
                                                                        refine J_iadd (pc := 1250) hX (by decide +kernel) ?_
                                                                        refine J_sld (pc := 1251) hX hsc (by decide +kernel) (fun x326 => ?_)
                                                                        refine J_aload_n (k0 := 0) (pc := 1252) 0 hX (by decide +kernel) rfl rfl ?_
                                                                        refine J_iload_n (k0 := 3) (pc := 1253) 3 hX (by decide +kernel) rfl rfl ?_
                                                                        refine J_iconst (pc := 1254) (n := 2) (v := 2) hX (by decide +kernel) (by decide +kernel) ?_
                                                                        refine J_iadd (pc := 1255) hX (by decide +kernel) ?_
                                                                        refine J_sld (pc := 1256) hX hsc (by decide +kernel) (fun x327 => ?_)
                                                                        refine J_aload_n (k0 := 0) (pc := 1257) 0 hX (by decide +kernel) rfl rfl ?_
                                                                        refine J_iload_n (k0 := 3) (pc := 1258) 3 hX (by decide +kernel) rfl rfl ?_
                                                                        refine J_iconst (pc := 1259) (n := 3) (v := 3) hX (by decide +kernel) (by decide +kernel) ?_
                                                                        refine J_iadd (pc := 1260) hX (by decide +kernel) ?_
                                                                        refine J_sld (pc := 1261) hX hsc (by decide +kernel) (fun x328 => ?_)
                                                                        refine J_ckP (fun h329 => ?_)
                                                                        refine J_cVi (pc := 1262) (idx := 155) [.int x326, .int x327, .int x328] hX (by decide +kernel) (mq mt_8 217 (by decide +kernel)) mv_Mo_light h329.1 rfl rfl (Nat.le_of_ble_eq_true rfl) (Nat.le_of_ble_eq_true rfl) (c_Mo_light h329 x326 x327 x328 μ324) (fun x331 μ330 => ?_)
                                                                        refine J_icmp_eq (pc := 1265) (off := 159) (tgt := 1424) hX (by decide +kernel) (by decide +kernel) (fun _ => ?_) (fun _ => ?_)
                                                                        · exact J_sub [0, 1, 2, 3] _ rfl (jLx_law_1424 hsc hX q1 q6 v3 hk18 μ330 y)
                                                                        · refine J_iconst (pc := 1268) (n := 0) (v := 0) hX (by decide +kernel) (by decide +kernel) ?_
                                                                          exact J_zret (pc := 1269) hX (by decide +kernel) rfl (by decide +kernel) trivial
                                                                      · refine J_ite _ (fun hc34 => ?_) (fun hc34 => ?_)
                                                                        · refine J_tsIn (pc := 33) (dflt := 1391) (lo := 0) (hi := 39) (offs := #[175, 198, 221, 264, 307, 330, 393, 416, 439, 462, 495, 528, 561, 594, 617, 660, 713, 746, 789, 812, 845, 868, 891, 924, 947, 980, 1003, 1026, 1049, 1072, 1105, 1128, 1161, 1194, 1237, 1260, 1283, 1316, 1329, 1368]) (len := 175) (off := 1237) (tgt := 1270) 34 hc34 hX (by decide +kernel) (by decide +kernel) (by decide +kernel) (by decide +kernel) (by decide +kernel) ?_
                                                                          refine J_aload_n (k0 := 1) (pc := 1270) 1 hX (by decide +kernel) rfl rfl ?_
                                                                          refine J_aload_n (k0 := 0) (pc := 1271) 0 hX (by decide +kernel) rfl rfl ?_
                                                                          refine J_iload_n (k0 := 3) (pc := 1272) 3 hX (by decide +kernel) rfl rfl ?_
                                                                          refine J_iconst (pc := 1273) (n := 1) (v := 1) hX (by decide +kernel) (by decide +kernel) ?_
                                                                          refine J_iadd (pc := 1274) hX (by decide +kernel) ?_
                                                                          refine J_sld (pc := 1275) hX hsc (by decide +kernel) (fun x332 => ?_)
                                                                          refine J_ckP (fun h333 => ?_)
                                                                          refine J_cVi (pc := 1276) (idx := 156) [.int x332] hX (by decide +kernel) (mq mt_5 181 (by decide +kernel)) mv_Sf_heap h333.1 rfl rfl (Nat.le_of_ble_eq_true rfl) (Nat.le_of_ble_eq_true rfl) (c_Sf_heap h333 x332 μ) (fun x335 μ334 => ?_)
                                                                          refine J_aload_n (k0 := 2) (pc := 1279) 2 hX (by decide +kernel) rfl rfl ?_
                                                                          refine J_aload_n (k0 := 0) (pc := 1280) 0 hX (by decide +kernel) rfl rfl ?_
                                                                          refine J_iload_n (k0 := 3) (pc := 1281) 3 hX (by decide +kernel) rfl rfl ?_
                                                                          refine J_iconst (pc := 1282) (n := 1) (v := 1) hX (by decide +kernel) (by decide +kernel) ?_
                                                                          refine J_iadd (pc := 1283) hX (by decide +kernel) ?_
                                                                          refine J_sld (pc := 1284) hX hsc (by decide +kernel) (fun x336 => ?_)
                                                                          refine J_ckP (fun h337 => ?_)
                                                                          refine J_cVi (pc := 1285) (idx := 159) [.int x336] hX (by decide +kernel) (mq mt_8 225 (by decide +kernel)) mv_Mo_heap h337.1 rfl rfl (Nat.le_of_ble_eq_true rfl) (Nat.le_of_ble_eq_true rfl) (c_Mo_heap h337 x336 μ334) (fun x339 μ338 => ?_)
                                                                          refine J_icmp_eq (pc := 1288) (off := 136) (tgt := 1424) hX (by decide +kernel) (by decide +kernel) (fun _ => ?_) (fun _ => ?_)
                                                                          · exact J_sub [0, 1, 2, 3] _ rfl (jLx_law_1424 hsc hX q1 q6 v3 hk18 μ338 y)
                                                                          · refine J_iconst (pc := 1291) (n := 0) (v := 0) hX (by decide +kernel) (by decide +kernel) ?_
                                                                            exact J_zret (pc := 1292) hX (by decide +kernel) rfl (by decide +kernel) trivial
                                                                        · refine J_ite _ (fun hc35 => ?_) (fun hc35 => ?_)
                                                                          · refine J_tsIn (pc := 33) (dflt := 1391) (lo := 0) (hi := 39) (offs := #[175, 198, 221, 264, 307, 330, 393, 416, 439, 462, 495, 528, 561, 594, 617, 660, 713, 746, 789, 812, 845, 868, 891, 924, 947, 980, 1003, 1026, 1049, 1072, 1105, 1128, 1161, 1194, 1237, 1260, 1283, 1316, 1329, 1368]) (len := 175) (off := 1260) (tgt := 1293) 35 hc35 hX (by decide +kernel) (by decide +kernel) (by decide +kernel) (by decide +kernel) (by decide +kernel) ?_
                                                                            refine J_aload_n (k0 := 1) (pc := 1293) 1 hX (by decide +kernel) rfl rfl ?_
                                                                            refine J_aload_n (k0 := 0) (pc := 1294) 0 hX (by decide +kernel) rfl rfl ?_
                                                                            refine J_iload_n (k0 := 3) (pc := 1295) 3 hX (by decide +kernel) rfl rfl ?_
                                                                            refine J_iconst (pc := 1296) (n := 1) (v := 1) hX (by decide +kernel) (by decide +kernel) ?_
                                                                            refine J_iadd (pc := 1297) hX (by decide +kernel) ?_
                                                                            refine J_sld (pc := 1298) hX hsc (by decide +kernel) (fun x340 => ?_)
                                                                            refine J_ckP (fun h341 => ?_)
                                                                            refine J_cVi (pc := 1299) (idx := 160) [.int x340] hX (by decide +kernel) (mq mt_5 185 (by decide +kernel)) mv_Sf_heaped h341.1 rfl rfl (Nat.le_of_ble_eq_true rfl) (Nat.le_of_ble_eq_true rfl) (c_Sf_heaped h341 x340 μ) (fun x343 μ342 => ?_)
                                                                            refine J_aload_n (k0 := 2) (pc := 1302) 2 hX (by decide +kernel) rfl rfl ?_
                                                                            refine J_aload_n (k0 := 0) (pc := 1303) 0 hX (by decide +kernel) rfl rfl ?_
                                                                            refine J_iload_n (k0 := 3) (pc := 1304) 3 hX (by decide +kernel) rfl rfl ?_
                                                                            refine J_iconst (pc := 1305) (n := 1) (v := 1) hX (by decide +kernel) (by decide +kernel) ?_
                                                                            refine J_iadd (pc := 1306) hX (by decide +kernel) ?_
                                                                            refine J_sld (pc := 1307) hX hsc (by decide +kernel) (fun x344 => ?_)
                                                                            refine J_ckP (fun h345 => ?_)
                                                                            refine J_cVi (pc := 1308) (idx := 163) [.int x344] hX (by decide +kernel) (mq mt_8 229 (by decide +kernel)) mv_Mo_heaped h345.1 rfl rfl (Nat.le_of_ble_eq_true rfl) (Nat.le_of_ble_eq_true rfl) (c_Mo_heaped h345 x344 μ342) (fun x347 μ346 => ?_)
                                                                            refine J_icmp_eq (pc := 1311) (off := 113) (tgt := 1424) hX (by decide +kernel) (by decide +kernel) (fun _ => ?_) (fun _ => ?_)
                                                                            · exact J_sub [0, 1, 2, 3] _ rfl (jLx_law_1424 hsc hX q1 q6 v3 hk18 μ346 y)
                                                                            · refine J_iconst (pc := 1314) (n := 0) (v := 0) hX (by decide +kernel) (by decide +kernel) ?_
                                                                              exact J_zret (pc := 1315) hX (by decide +kernel) rfl (by decide +kernel) trivial
                                                                          · refine J_ite _ (fun hc36 => ?_) (fun hc36 => ?_)
                                                                            · refine J_tsIn (pc := 33) (dflt := 1391) (lo := 0) (hi := 39) (offs := #[175, 198, 221, 264, 307, 330, 393, 416, 439, 462, 495, 528, 561, 594, 617, 660, 713, 746, 789, 812, 845, 868, 891, 924, 947, 980, 1003, 1026, 1049, 1072, 1105, 1128, 1161, 1194, 1237, 1260, 1283, 1316, 1329, 1368]) (len := 175) (off := 1283) (tgt := 1316) 36 hc36 hX (by decide +kernel) (by decide +kernel) (by decide +kernel) (by decide +kernel) (by decide +kernel) ?_
                                                                              refine J_aload_n (k0 := 1) (pc := 1316) 1 hX (by decide +kernel) rfl rfl ?_
                                                                              refine J_aload_n (k0 := 0) (pc := 1317) 0 hX (by decide +kernel) rfl rfl ?_
                                                                              refine J_iload_n (k0 := 3) (pc := 1318) 3 hX (by decide +kernel) rfl rfl ?_
                                                                              refine J_iconst (pc := 1319) (n := 1) (v := 1) hX (by decide +kernel) (by decide +kernel) ?_
                                                                              refine J_iadd (pc := 1320) hX (by decide +kernel) ?_
                                                                              refine J_sld (pc := 1321) hX hsc (by decide +kernel) (fun x348 => ?_)
                                                                              refine J_aload_n (k0 := 0) (pc := 1322) 0 hX (by decide +kernel) rfl rfl ?_
                                                                              refine J_iload_n (k0 := 3) (pc := 1323) 3 hX (by decide +kernel) rfl rfl ?_
                                                                              refine J_iconst (pc := 1324) (n := 2) (v := 2) hX (by decide +kernel) (by decide +kernel) ?_
                                                                              refine J_iadd (pc := 1325) hX (by decide +kernel) ?_
                                                                              refine J_sld (pc := 1326) hX hsc (by decide +kernel) (fun x349 => ?_)
                                                                              refine J_ckP (fun h350 => ?_)
                                                                              refine J_cVi (pc := 1327) (idx := 164) [.int x348, .int x349] hX (by decide +kernel) (mq mt_5 197 (by decide +kernel)) mv_Sf_game h350.1 rfl rfl (Nat.le_of_ble_eq_true rfl) (Nat.le_of_ble_eq_true rfl) (c_Sf_game h350 x348 x349 μ) (fun x352 μ351 => ?_)
                                                                              refine J_aload_n (k0 := 2) (pc := 1330) 2 hX (by decide +kernel) rfl rfl ?_
                                                                              refine J_aload_n (k0 := 0) (pc := 1331) 0 hX (by decide +kernel) rfl rfl ?_
                                                                              refine J_iload_n (k0 := 3) (pc := 1332) 3 hX (by decide +kernel) rfl rfl ?_
                                                                              refine J_iconst (pc := 1333) (n := 1) (v := 1) hX (by decide +kernel) (by decide +kernel) ?_
                                                                              refine J_iadd (pc := 1334) hX (by decide +kernel) ?_
                                                                              refine J_sld (pc := 1335) hX hsc (by decide +kernel) (fun x353 => ?_)
                                                                              refine J_aload_n (k0 := 0) (pc := 1336) 0 hX (by decide +kernel) rfl rfl ?_
                                                                              refine J_iload_n (k0 := 3) (pc := 1337) 3 hX (by decide +kernel) rfl rfl ?_
                                                                              refine J_iconst (pc := 1338) (n := 2) (v := 2) hX (by decide +kernel) (by decide +kernel) ?_
                                                                              refine J_iadd (pc := 1339) hX (by decide +kernel) ?_
                                                                              refine J_sld (pc := 1340) hX hsc (by decide +kernel) (fun x354 => ?_)
                                                                              refine J_ckP (fun h355 => ?_)
                                                                              refine J_cVi (pc := 1341) (idx := 167) [.int x353, .int x354] hX (by decide +kernel) (mq mt_8 237 (by decide +kernel)) mv_Mo_game h355.1 rfl rfl (Nat.le_of_ble_eq_true rfl) (Nat.le_of_ble_eq_true rfl) (c_Mo_game h355 x353 x354 μ351) (fun x357 μ356 => ?_)
                                                                              refine J_icmp_eq (pc := 1344) (off := 80) (tgt := 1424) hX (by decide +kernel) (by decide +kernel) (fun _ => ?_) (fun _ => ?_)
                                                                              · exact J_sub [0, 1, 2, 3] _ rfl (jLx_law_1424 hsc hX q1 q6 v3 hk18 μ356 y)
                                                                              · refine J_iconst (pc := 1347) (n := 0) (v := 0) hX (by decide +kernel) (by decide +kernel) ?_
                                                                                exact J_zret (pc := 1348) hX (by decide +kernel) rfl (by decide +kernel) trivial
                                                                            · refine J_ite _ (fun hc37 => ?_) (fun hc37 => ?_)
                                                                              · refine J_tsIn (pc := 33) (dflt := 1391) (lo := 0) (hi := 39) (offs := #[175, 198, 221, 264, 307, 330, 393, 416, 439, 462, 495, 528, 561, 594, 617, 660, 713, 746, 789, 812, 845, 868, 891, 924, 947, 980, 1003, 1026, 1049, 1072, 1105, 1128, 1161, 1194, 1237, 1260, 1283, 1316, 1329, 1368]) (len := 175) (off := 1316) (tgt := 1349) 37 hc37 hX (by decide +kernel) (by decide +kernel) (by decide +kernel) (by decide +kernel) (by decide +kernel) ?_
                                                                                refine J_aload_n (k0 := 1) (pc := 1349) 1 hX (by decide +kernel) rfl rfl ?_
                                                                                refine J_ckP (fun h361 => ?_)
                                                                                refine J_cVm (pc := 1350) (idx := 168) [] hX (by decide +kernel) (mq mt_5 201 (by decide +kernel)) mv_Sf_undo h361 rfl rfl (Nat.le_of_ble_eq_true rfl) (Nat.le_of_ble_eq_true rfl) (c_Sf_undo q1 μ y) (fun x360 μ358 y359 => ?_)
                                                                                refine J_aload_n (k0 := 2) (pc := 1353) 2 hX (by decide +kernel) rfl rfl ?_
                                                                                refine J_ckP (fun h362 => ?_)
                                                                                refine J_cVi (pc := 1354) (idx := 172) [] hX (by decide +kernel) (mq mt_6 214 (by decide +kernel)) mv_Mo_undo h362.1 rfl rfl (Nat.le_of_ble_eq_true rfl) (Nat.le_of_ble_eq_true rfl) (c_Mo_undo h362 μ358) (fun x364 μ363 => ?_)
                                                                                refine J_icmp_eq (pc := 1357) (off := 67) (tgt := 1424) hX (by decide +kernel) (by decide +kernel) (fun _ => ?_) (fun _ => ?_)
                                                                                · exact J_sub [0, 1, 2, 3] _ rfl (jLx_law_1424 hsc hX q1 q6 v3 hk18 μ363 y359)
                                                                                · refine J_iconst (pc := 1360) (n := 0) (v := 0) hX (by decide +kernel) (by decide +kernel) ?_
                                                                                  exact J_zret (pc := 1361) hX (by decide +kernel) rfl (by decide +kernel) trivial
                                                                              · refine J_ite _ (fun hc38 => ?_) (fun hc38 => ?_)
                                                                                · refine J_tsIn (pc := 33) (dflt := 1391) (lo := 0) (hi := 39) (offs := #[175, 198, 221, 264, 307, 330, 393, 416, 439, 462, 495, 528, 561, 594, 617, 660, 713, 746, 789, 812, 845, 868, 891, 924, 947, 980, 1003, 1026, 1049, 1072, 1105, 1128, 1161, 1194, 1237, 1260, 1283, 1316, 1329, 1368]) (len := 175) (off := 1329) (tgt := 1362) 38 hc38 hX (by decide +kernel) (by decide +kernel) (by decide +kernel) (by decide +kernel) (by decide +kernel) ?_
                                                                                  refine J_aload_n (k0 := 1) (pc := 1362) 1 hX (by decide +kernel) rfl rfl ?_
                                                                                  refine J_aload_n (k0 := 0) (pc := 1363) 0 hX (by decide +kernel) rfl rfl ?_
                                                                                  refine J_iload_n (k0 := 3) (pc := 1364) 3 hX (by decide +kernel) rfl rfl ?_
                                                                                  refine J_iconst (pc := 1365) (n := 1) (v := 1) hX (by decide +kernel) (by decide +kernel) ?_
                                                                                  refine J_iadd (pc := 1366) hX (by decide +kernel) ?_
                                                                                  refine J_sld (pc := 1367) hX hsc (by decide +kernel) (fun x365 => ?_)
                                                                                  refine J_if_eq (pc := 1368) (off := 7) (tgt := 1375) hX (by decide +kernel) (by decide +kernel) (fun _ => ?_) (fun _ => ?_)
                                                                                  · refine J_iconst (pc := 1375) (n := 0) (v := 0) hX (by decide +kernel) (by decide +kernel) ?_
                                                                                    exact J_sub [0, 1, 2, 3] _ rfl (jLx_law_1376 hsc hX q1 q6 v3 0 hk18 μ y)
                                                                                  · refine J_iconst (pc := 1371) (n := 1) (v := 1) hX (by decide +kernel) (by decide +kernel) ?_
                                                                                    refine J_goto (pc := 1372) (off := 4) (tgt := 1376) hX (by decide +kernel) (by decide +kernel) ?_
                                                                                    exact J_sub [0, 1, 2, 3] _ rfl (jLx_law_1376 hsc hX q1 q6 v3 1 hk18 μ y)
                                                                                · refine J_ite _ (fun hc39 => ?_) (fun hc39 => ?_)
                                                                                  · refine J_tsIn (pc := 33) (dflt := 1391) (lo := 0) (hi := 39) (offs := #[175, 198, 221, 264, 307, 330, 393, 416, 439, 462, 495, 528, 561, 594, 617, 660, 713, 746, 789, 812, 845, 868, 891, 924, 947, 980, 1003, 1026, 1049, 1072, 1105, 1128, 1161, 1194, 1237, 1260, 1283, 1316, 1329, 1368]) (len := 175) (off := 1368) (tgt := 1401) 39 hc39 hX (by decide +kernel) (by decide +kernel) (by decide +kernel) (by decide +kernel) (by decide +kernel) ?_
                                                                                    refine J_aload_n (k0 := 1) (pc := 1401) 1 hX (by decide +kernel) rfl rfl ?_
                                                                                    refine J_aload_n (k0 := 0) (pc := 1402) 0 hX (by decide +kernel) rfl rfl ?_
                                                                                    refine J_iload_n (k0 := 3) (pc := 1403) 3 hX (by decide +kernel) rfl rfl ?_
                                                                                    refine J_iconst (pc := 1404) (n := 1) (v := 1) hX (by decide +kernel) (by decide +kernel) ?_
                                                                                    refine J_iadd (pc := 1405) hX (by decide +kernel) ?_
                                                                                    refine J_sld (pc := 1406) hX hsc (by decide +kernel) (fun x366 => ?_)
                                                                                    refine J_ckP (fun h367 => ?_)
                                                                                    refine J_cVi (pc := 1407) (idx := 178) [.int x366] hX (by decide +kernel) (mq mt_5 229 (by decide +kernel)) mv_Sf_look h367.1 rfl rfl (Nat.le_of_ble_eq_true rfl) (Nat.le_of_ble_eq_true rfl) (c_Sf_look h367 x366 μ) (fun x369 μ368 => ?_)
                                                                                    refine J_aload_n (k0 := 2) (pc := 1410) 2 hX (by decide +kernel) rfl rfl ?_
                                                                                    refine J_aload_n (k0 := 0) (pc := 1411) 0 hX (by decide +kernel) rfl rfl ?_
                                                                                    refine J_iload_n (k0 := 3) (pc := 1412) 3 hX (by decide +kernel) rfl rfl ?_
                                                                                    refine J_iconst (pc := 1413) (n := 1) (v := 1) hX (by decide +kernel) (by decide +kernel) ?_
                                                                                    refine J_iadd (pc := 1414) hX (by decide +kernel) ?_
                                                                                    refine J_sld (pc := 1415) hX hsc (by decide +kernel) (fun x370 => ?_)
                                                                                    refine J_ckP (fun h371 => ?_)
                                                                                    refine J_cVi (pc := 1416) (idx := 181) [.int x370] hX (by decide +kernel) (mq mt_9 21 (by decide +kernel)) mv_Mo_look h371.1 rfl rfl (Nat.le_of_ble_eq_true rfl) (Nat.le_of_ble_eq_true rfl) (c_Mo_look h371 x370 μ368) (fun x373 μ372 => ?_)
                                                                                    refine J_icmp_eq (pc := 1419) (off := 5) (tgt := 1424) hX (by decide +kernel) (by decide +kernel) (fun _ => ?_) (fun _ => ?_)
                                                                                    · exact J_sub [0, 1, 2, 3] _ rfl (jLx_law_1424 hsc hX q1 q6 v3 hk18 μ372 y)
                                                                                    · refine J_iconst (pc := 1422) (n := 0) (v := 0) hX (by decide +kernel) (by decide +kernel) ?_
                                                                                      exact J_zret (pc := 1423) hX (by decide +kernel) rfl (by decide +kernel) trivial
                                                                                  · refine J_tsOut (pc := 33) (dflt := 1391) (lo := 0) (hi := 39) (offs := #[175, 198, 221, 264, 307, 330, 393, 416, 439, 462, 495, 528, 561, 594, 617, 660, 713, 746, 789, 812, 845, 868, 891, 924, 947, 980, 1003, 1026, 1049, 1072, 1105, 1128, 1161, 1194, 1237, 1260, 1283, 1316, 1329, 1368]) (len := 175) (tgt := 1424) hX (by decide +kernel) (by simp only [i32_eq] at hc0 hc1 hc2 hc3 hc4 hc5 hc6 hc7 hc8 hc9 hc10 hc11 hc12 hc13 hc14 hc15 hc16 hc17 hc18 hc19 hc20 hc21 hc22 hc23 hc24 hc25 hc26 hc27 hc28 hc29 hc30 hc31 hc32 hc33 hc34 hc35 hc36 hc37 hc38 hc39; have q0 : ((0 : Int32)).toInt = 0 := (by decide +kernel) ; have q1 : ((1 : Int32)).toInt = 1 := (by decide +kernel) ; have q2 : ((2 : Int32)).toInt = 2 := (by decide +kernel) ; have q3 : ((3 : Int32)).toInt = 3 := (by decide +kernel) ; have q4 : ((4 : Int32)).toInt = 4 := (by decide +kernel) ; have q5 : ((5 : Int32)).toInt = 5 := (by decide +kernel) ; have q6 : ((6 : Int32)).toInt = 6 := (by decide +kernel) ; have q7 : ((7 : Int32)).toInt = 7 := (by decide +kernel) ; have q8 : ((8 : Int32)).toInt = 8 := (by decide +kernel) ; have q9 : ((9 : Int32)).toInt = 9 := (by decide +kernel) ; have q10 : ((10 : Int32)).toInt = 10 := (by decide +kernel) ; have q11 : ((11 : Int32)).toInt = 11 := (by decide +kernel) ; have q12 : ((12 : Int32)).toInt = 12 := (by decide +kernel) ; have q13 : ((13 : Int32)).toInt = 13 := (by decide +kernel) ; have q14 : ((14 : Int32)).toInt = 14 := (by decide +kernel) ; have q15 : ((15 : Int32)).toInt = 15 := (by decide +kernel) ; have q16 : ((16 : Int32)).toInt = 16 := (by decide +kernel) ; have q17 : ((17 : Int32)).toInt = 17 := (by decide +kernel) ; have q18 : ((18 : Int32)).toInt = 18 := (by decide +kernel) ; have q19 : ((19 : Int32)).toInt = 19 := (by decide +kernel) ; have q20 : ((20 : Int32)).toInt = 20 := (by decide +kernel) ; have q21 : ((21 : Int32)).toInt = 21 := (by decide +kernel) ; have q22 : ((22 : Int32)).toInt = 22 := (by decide +kernel) ; have q23 : ((23 : Int32)).toInt = 23 := (by decide +kernel) ; have q24 : ((24 : Int32)).toInt = 24 := (by decide +kernel) ; have q25 : ((25 : Int32)).toInt = 25 := (by decide +kernel) ; have q26 : ((26 : Int32)).toInt = 26 := (by decide +kernel) ; have q27 : ((27 : Int32)).toInt = 27 := (by decide +kernel) ; have q28 : ((28 : Int32)).toInt = 28 := (by decide +kernel) ; have q29 : ((29 : Int32)).toInt = 29 := (by decide +kernel) ; have q30 : ((30 : Int32)).toInt = 30 := (by decide +kernel) ; have q31 : ((31 : Int32)).toInt = 31 := (by decide +kernel) ; have q32 : ((32 : Int32)).toInt = 32 := (by decide +kernel) ; have q33 : ((33 : Int32)).toInt = 33 := (by decide +kernel) ; have q34 : ((34 : Int32)).toInt = 34 := (by decide +kernel) ; have q35 : ((35 : Int32)).toInt = 35 := (by decide +kernel) ; have q36 : ((36 : Int32)).toInt = 36 := (by decide +kernel) ; have q37 : ((37 : Int32)).toInt = 37 := (by decide +kernel) ; have q38 : ((38 : Int32)).toInt = 38 := (by decide +kernel) ; have q39 : ((39 : Int32)).toInt = 39 := (by decide +kernel); omega) (by decide +kernel) ?_
                                                                                    exact J_sub [0, 1, 2, 3] _ rfl (jLx_law_1424 hsc hX q1 q6 v3 hk18 μ y)
set_option maxRecDepth 100000 in
set_option maxHeartbeats 4000000 in
theorem jLx_law_18 {X : Cx} {l : Launch} {G : Gx} {y0 : Ly} {b Ln : Nat} {xs : Nat → Int32} (hsc : Sc X G b Ln xs) (hX : Ok X l G code 4 (some .boolean) "SaltFiguresLaw")  (q1 : Nat) (q6 : Nat)    : ∀ (fu : Nat) (v3 : Int32) (μ : Mu) (y : Ly), J X G 4 103 y0 id rvI tpT 18 [(0, .ref b), (1, .ref (G.1 + q1)), (2, .ref (G.1 + q6)), (3, .int v3)] [] (μ, y) (Lx_law_18 b Ln xs q1 q6   fu v3 μ y) := by
  intro fu
  induction fu with
  | zero => intros; exact J_none
  | succ fu ih => intro v3 μ y; exact jLx_law_18b hsc hX  q1 q6   ih v3 μ y
set_option maxRecDepth 100000 in
set_option maxHeartbeats 4000000 in
theorem jLx_law {X : Cx} {l : Launch} {G : Gx} {y0 : Ly} {b Ln : Nat} {xs : Nat → Int32} (hsc : Sc X G b Ln xs) (hX : Ok X l G code 4 (some .boolean) "SaltFiguresLaw")   (μ : Mu) (y : Ly) : J X G 4 103 y0 id rvI tpT 0 [(0, .ref b)] [] (μ, y) (Lx_law b Ln xs  μ y) := by
  unfold Lx_law
  refine J_nwC (pc := 0) (idx := 7) (ci := 9) (C := "SaltFigures") (T := TX10) (N := 9) hX (by decide +kernel) (mq mt_1 22 (by decide +kernel)) (mq mt_1 23 (by decide +kernel)) (mq mt_1 1 (by decide +kernel)) rfl df_Sf (fun q1 μ2 y3 => ?_)
  refine J_dup (pc := 3) hX (by decide +kernel) rfl ?_
  refine J_cIm (pc := 4) (idx := 9) [] hX (by decide +kernel) (Or.inl (mq mt_1 24 (by decide +kernel))) mc_Sf_init rfl rfl (Nat.le_of_ble_eq_true rfl) (Nat.le_of_ble_eq_true rfl) (c_Sf_init q1 μ2 y3) (fun μ4 y5 => ?_)
  refine J_astore_n (k0 := 1) (pc := 7) [(1, .ref (G.1 + q1)), (0, .ref b)] hX (by decide +kernel) rfl (by decide) rfl ?_
  refine J_nwC (pc := 8) (idx := 10) (ci := 10) (C := "SaltFiguresModel") (T := TX11) (N := 69) hX (by decide +kernel) (mq mt_6 0 (by decide +kernel)) (mq mt_6 1 (by decide +kernel)) (mq mt_1 13 (by decide +kernel)) rfl df_Mo (fun q6 μ7 y8 => ?_)
  refine J_dup (pc := 11) hX (by decide +kernel) rfl ?_
  refine J_cIm (pc := 12) (idx := 12) [] hX (by decide +kernel) (Or.inl (mq mt_6 2 (by decide +kernel))) mc_Mo_init rfl rfl (Nat.le_of_ble_eq_true rfl) (Nat.le_of_ble_eq_true rfl) (c_Mo_init q6 μ7 y8) (fun μ9 y10 => ?_)
  refine J_astore_n (k0 := 2) (pc := 15) [(2, .ref (G.1 + q6)), (1, .ref (G.1 + q1)), (0, .ref b)] hX (by decide +kernel) rfl (by decide) rfl ?_
  refine J_iconst (pc := 16) (n := 0) (v := 0) hX (by decide +kernel) (by decide +kernel) ?_
  refine J_istore_n (k0 := 3) (pc := 17) [(3, .int 0), (2, .ref (G.1 + q6)), (1, .ref (G.1 + q1)), (0, .ref b)] hX (by decide +kernel) rfl (by decide) rfl ?_
  exact J_sub [3, 2, 1, 0] _ rfl (jLx_law_18 hsc hX q1 q6 FU 0 μ9 y10)
