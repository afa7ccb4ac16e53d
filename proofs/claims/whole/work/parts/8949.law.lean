/-! ===== the law's loop: an invariant, and a step for each call ===== -/
def isI (v : Option Value) : Prop := ∃ r : Int32, v = some (.int r)
def isJ (v : Option Value) : Prop := ∃ r : Int64, v = some (.long r)
/-- one call on both: they answer alike, and the invariant holds behind it -/
def Stp2 (G : GT) (b : Nat) (I : Hp → Nat → Prop) (Q : Option Value → Prop) (yx : MethodName) (cx : ByteArray) (nx : Nat) (rt : Option FieldType) (dx mc ms : Nat) (ym : MethodName) (cm : ByteArray) (nm dm : Nat) (args : List Value) : Prop := ∀ c n, I c n → ∃ d', d' ≤ dx ∧ ∃ Px, e_C G b yx cx nx rt d' mc ms (.ref (b + 0) :: args) c n Px ∧ ∀ v c1 n1, Px v c1 n1 → (79 < n1 ∧ ∃ fs, c1 79 = .inr (12, fs)) ∧ Q v ∧ ∃ Pm, e_C G b ym cm nm rt dm 0 0 (.ref (b + 79) :: args) c1 n1 Pm ∧ ∀ v2 c2 n2, Pm v2 c2 n2 → v2 = v ∧ I c2 n2
def e_I0 (I : Hp → Nat → Prop) : Prop := ∀ c n, I c n → 0 < n ∧ ∃ fs, c 0 = .inr (11, fs)
theorem E.goalS {G : GT} {b : Nat} {y : MethodName} {cc : ByteArray} {nL : Nat} {ret0 : Option FieldType} {R : Room} {Ex : e_XT} {Z : e_ZT} {pc : Nat} {lv : List (Nat × Value)} {st st' : List Value} {c : Hp} {n kc ks : Nat} (h : st = st') (k : E G b y cc nL ret0 R Ex Z pc lv st' c n kc ks) : E G b y cc nL ret0 R Ex Z pc lv st c n kc ks := h ▸ k
def S0 (G : GT) (b : Nat) (I : Hp → Nat → Prop) : Prop := ∀ a1 a2 a3 a4 a5 : Int32, Stp2 G b I isI yX11_beast cX11_beast 8 (some .int) 2 0 0 yX12_beast cX12_beast 8 2 [.int a1, .int a2, .int a3, .int a4, .int a5]
set_option maxHeartbeats 4000000 in
set_option maxRecDepth 100000 in
theorem law_c0 {G : GT} {b bs L : Nat} {xs : Nat → Int32} {I : Hp → Nat → Prop} (hI0 : e_I0 I) (hS : S0 G b I) {x3 : Int32} (g1 : vp_in (x3 + 1) L) (g2 : vp_in (x3 + 2) L) (g3 : vp_in (x3 + 3) L) (g4 : vp_in (x3 + 4) L) (g5 : vp_in (x3 + 5) L) {c : Hp} {n kc ks : Nat} (hI : I c n) (hkc : kc + 5 ≤ 600000) (hks : ks + 1604 ≤ 7302250) (hnext : ∀ c2 n2, I c2 n2 → E G b x code 4 ret room_1 (e_XL b bs L xs) e_ZL 1486 [(0, .ref bs), (1, .ref (b + 0)), (2, .ref (b + 79)), (3, .int x3)] [] c2 n2 (kc + 5) (ks + 1604)) : E G b x code 4 ret room_1 (e_XL b bs L xs) e_ZL 220 [(0, .ref bs), (1, .ref (b + 0)), (2, .ref (b + 79)), (3, .int x3)] [] c n kc ks := by
  obtain ⟨dd, hdd, Px, hCx, hx⟩ := hS (xs (x3 + 1).toNatClampNeg) (xs (x3 + 2).toNatClampNeg) (xs (x3 + 3).toNatClampNeg) (xs (x3 + 4).toNatClampNeg) (xs (x3 + 5).toNatClampNeg) c n hI
  obtain ⟨h0n, fs0, h0c⟩ := hI0 c n hI
  refine E.aload_n 1 dL_law_220 rfl ?_
  refine E.aload_n 0 dL_law_221 rfl ?_
  refine E.iload_n 3 dL_law_222 rfl ?_
  refine E.iconst (v := 1) dL_law_223 (by decide) ?_
  refine E.iadd dL_law_224 ?_
  refine E.sld dL_law_225 g1 ?_
  refine E.aload_n 0 dL_law_226 rfl ?_
  refine E.iload_n 3 dL_law_227 rfl ?_
  refine E.iconst (v := 2) dL_law_228 (by decide) ?_
  refine E.iadd dL_law_229 ?_
  refine E.sld dL_law_230 g2 ?_
  refine E.aload_n 0 dL_law_231 rfl ?_
  refine E.iload_n 3 dL_law_232 rfl ?_
  refine E.iconst (v := 3) dL_law_233 (by decide) ?_
  refine E.iadd dL_law_234 ?_
  refine E.sld dL_law_235 g3 ?_
  refine E.aload_n 0 dL_law_236 rfl ?_
  refine E.iload_n 3 dL_law_237 rfl ?_
  refine E.iconst (v := 4) dL_law_238 (by decide) ?_
  refine E.iadd dL_law_239 ?_
  refine E.sld dL_law_240 g4 ?_
  refine E.aload_n 0 dL_law_241 rfl ?_
  refine E.iload_n 3 dL_law_242 rfl ?_
  refine E.iconst (v := 5) dL_law_243 (by decide) ?_
  refine E.iadd dL_law_244 ?_
  refine E.sld dL_law_245 g5 ?_
  refine E.callV (As := [.int (xs (x3 + 1).toNatClampNeg), .int (xs (x3 + 2).toNatClampNeg), .int (xs (x3 + 3).toNatClampNeg), .int (xs (x3 + 4).toNatClampNeg), .int (xs (x3 + 5).toNatClampNeg)]) (rest := []) dL_law_246 mlL_13 ⟨h0n, h0c⟩ rfl rfl hCx ⟨Nat.le_trans (Nat.succ_le_succ hdd) (Nat.le_of_ble_eq_true rfl), Nat.le_trans (show 64 * dd + 51 ≤ 64 * 2 + 51 by omega) (Nat.le_of_ble_eq_true rfl)⟩ rfl rfl (Nat.le_of_ble_eq_true rfl) ⟨by show kc + 0 ≤ 600000; omega, by show ks + 0 ≤ 7302250; omega⟩ (fun v c1 n1 hp => ?_)
  obtain ⟨⟨h79n, fs1, h79c⟩, ⟨r, rfl⟩, Pm, hCm, hm⟩ := hx v c1 n1 hp
  refine E.goalS (st' := [.int r]) rfl ?_
  refine E.aload_n 2 dL_law_249 rfl ?_
  refine E.aload_n 0 dL_law_250 rfl ?_
  refine E.iload_n 3 dL_law_251 rfl ?_
  refine E.iconst (v := 1) dL_law_252 (by decide) ?_
  refine E.iadd dL_law_253 ?_
  refine E.sld dL_law_254 g1 ?_
  refine E.aload_n 0 dL_law_255 rfl ?_
  refine E.iload_n 3 dL_law_256 rfl ?_
  refine E.iconst (v := 2) dL_law_257 (by decide) ?_
  refine E.iadd dL_law_258 ?_
  refine E.sld dL_law_259 g2 ?_
  refine E.aload_n 0 dL_law_260 rfl ?_
  refine E.iload_n 3 dL_law_261 rfl ?_
  refine E.iconst (v := 3) dL_law_262 (by decide) ?_
  refine E.iadd dL_law_263 ?_
  refine E.sld dL_law_264 g3 ?_
  refine E.aload_n 0 dL_law_265 rfl ?_
  refine E.iload_n 3 dL_law_266 rfl ?_
  refine E.iconst (v := 4) dL_law_267 (by decide) ?_
  refine E.iadd dL_law_268 ?_
  refine E.sld dL_law_269 g4 ?_
  refine E.aload_n 0 dL_law_270 rfl ?_
  refine E.iload_n 3 dL_law_271 rfl ?_
  refine E.iconst (v := 5) dL_law_272 (by decide) ?_
  refine E.iadd dL_law_273 ?_
  refine E.sld dL_law_274 g5 ?_
  refine E.callV (As := [.int (xs (x3 + 1).toNatClampNeg), .int (xs (x3 + 2).toNatClampNeg), .int (xs (x3 + 3).toNatClampNeg), .int (xs (x3 + 4).toNatClampNeg), .int (xs (x3 + 5).toNatClampNeg)]) (rest := [.int r]) dL_law_275 mlL_17 ⟨h79n, h79c⟩ rfl rfl hCm ⟨Nat.le_of_ble_eq_true rfl, Nat.le_of_ble_eq_true rfl⟩ rfl rfl (Nat.le_of_ble_eq_true rfl) ⟨by show kc + 0 + 0 ≤ 600000; omega, by show ks + 0 + 0 ≤ 7302250; omega⟩ (fun v2 c2 n2 hp2 => ?_)
  obtain ⟨rfl, hI2⟩ := hm v2 c2 n2 hp2
  refine E.goalS (st' := [.int r, .int r]) rfl ?_
  refine E.icmp_eq dL_law_278 (fun h => ?_) (fun h => absurd rfl h)
  refine E.widen (kc' := kc + 5) (ks' := ks + 1604) (by omega) (by omega) ?_
  exact hnext c2 n2 hI2
def S1 (G : GT) (b : Nat) (I : Hp → Nat → Prop) : Prop := ∀ a1 a2 a3 : Int32, Stp2 G b I isI yX11_put cX11_put 5 (some .int) 2 0 0 yX12_put cX12_put 4 2 [.int a1, .int a2, .int a3]
set_option maxHeartbeats 4000000 in
set_option maxRecDepth 100000 in
theorem law_c1 {G : GT} {b bs L : Nat} {xs : Nat → Int32} {I : Hp → Nat → Prop} (hI0 : e_I0 I) (hS : S1 G b I) {x3 : Int32} (g1 : vp_in (x3 + 1) L) (g2 : vp_in (x3 + 2) L) (g3 : vp_in (x3 + 3) L) {c : Hp} {n kc ks : Nat} (hI : I c n) (hkc : kc + 5 ≤ 600000) (hks : ks + 1604 ≤ 7302250) (hnext : ∀ c2 n2, I c2 n2 → E G b x code 4 ret room_1 (e_XL b bs L xs) e_ZL 1486 [(0, .ref bs), (1, .ref (b + 0)), (2, .ref (b + 79)), (3, .int x3)] [] c2 n2 (kc + 5) (ks + 1604)) : E G b x code 4 ret room_1 (e_XL b bs L xs) e_ZL 283 [(0, .ref bs), (1, .ref (b + 0)), (2, .ref (b + 79)), (3, .int x3)] [] c n kc ks := by
  obtain ⟨dd, hdd, Px, hCx, hx⟩ := hS (xs (x3 + 1).toNatClampNeg) (xs (x3 + 2).toNatClampNeg) (xs (x3 + 3).toNatClampNeg) c n hI
  obtain ⟨h0n, fs0, h0c⟩ := hI0 c n hI
  refine E.aload_n 1 dL_law_283 rfl ?_
  refine E.aload_n 0 dL_law_284 rfl ?_
  refine E.iload_n 3 dL_law_285 rfl ?_
  refine E.iconst (v := 1) dL_law_286 (by decide) ?_
  refine E.iadd dL_law_287 ?_
  refine E.sld dL_law_288 g1 ?_
  refine E.aload_n 0 dL_law_289 rfl ?_
  refine E.iload_n 3 dL_law_290 rfl ?_
  refine E.iconst (v := 2) dL_law_291 (by decide) ?_
  refine E.iadd dL_law_292 ?_
  refine E.sld dL_law_293 g2 ?_
  refine E.aload_n 0 dL_law_294 rfl ?_
  refine E.iload_n 3 dL_law_295 rfl ?_
  refine E.iconst (v := 3) dL_law_296 (by decide) ?_
  refine E.iadd dL_law_297 ?_
  refine E.sld dL_law_298 g3 ?_
  refine E.callV (As := [.int (xs (x3 + 1).toNatClampNeg), .int (xs (x3 + 2).toNatClampNeg), .int (xs (x3 + 3).toNatClampNeg)]) (rest := []) dL_law_299 mlL_18 ⟨h0n, h0c⟩ rfl rfl hCx ⟨Nat.le_trans (Nat.succ_le_succ hdd) (Nat.le_of_ble_eq_true rfl), Nat.le_trans (show 64 * dd + 51 ≤ 64 * 2 + 51 by omega) (Nat.le_of_ble_eq_true rfl)⟩ rfl rfl (Nat.le_of_ble_eq_true rfl) ⟨by show kc + 0 ≤ 600000; omega, by show ks + 0 ≤ 7302250; omega⟩ (fun v c1 n1 hp => ?_)
  obtain ⟨⟨h79n, fs1, h79c⟩, ⟨r, rfl⟩, Pm, hCm, hm⟩ := hx v c1 n1 hp
  refine E.goalS (st' := [.int r]) rfl ?_
  refine E.aload_n 2 dL_law_302 rfl ?_
  refine E.aload_n 0 dL_law_303 rfl ?_
  refine E.iload_n 3 dL_law_304 rfl ?_
  refine E.iconst (v := 1) dL_law_305 (by decide) ?_
  refine E.iadd dL_law_306 ?_
  refine E.sld dL_law_307 g1 ?_
  refine E.aload_n 0 dL_law_308 rfl ?_
  refine E.iload_n 3 dL_law_309 rfl ?_
  refine E.iconst (v := 2) dL_law_310 (by decide) ?_
  refine E.iadd dL_law_311 ?_
  refine E.sld dL_law_312 g2 ?_
  refine E.aload_n 0 dL_law_313 rfl ?_
  refine E.iload_n 3 dL_law_314 rfl ?_
  refine E.iconst (v := 3) dL_law_315 (by decide) ?_
  refine E.iadd dL_law_316 ?_
  refine E.sld dL_law_317 g3 ?_
  refine E.callV (As := [.int (xs (x3 + 1).toNatClampNeg), .int (xs (x3 + 2).toNatClampNeg), .int (xs (x3 + 3).toNatClampNeg)]) (rest := [.int r]) dL_law_318 mlL_22 ⟨h79n, h79c⟩ rfl rfl hCm ⟨Nat.le_of_ble_eq_true rfl, Nat.le_of_ble_eq_true rfl⟩ rfl rfl (Nat.le_of_ble_eq_true rfl) ⟨by show kc + 0 + 0 ≤ 600000; omega, by show ks + 0 + 0 ≤ 7302250; omega⟩ (fun v2 c2 n2 hp2 => ?_)
  obtain ⟨rfl, hI2⟩ := hm v2 c2 n2 hp2
  refine E.goalS (st' := [.int r, .int r]) rfl ?_
  refine E.icmp_eq dL_law_321 (fun h => ?_) (fun h => absurd rfl h)
  refine E.widen (kc' := kc + 5) (ks' := ks + 1604) (by omega) (by omega) ?_
  exact hnext c2 n2 hI2
def S2 (G : GT) (b : Nat) (I : Hp → Nat → Prop) : Prop := ∀ a1 a2 : Int32, Stp2 G b I isI yX11_of cX11_of 3 (some .int) 1 0 0 yX12_of cX12_of 3 2 [.int a1, .int a2]
set_option maxHeartbeats 4000000 in
set_option maxRecDepth 100000 in
theorem law_c2 {G : GT} {b bs L : Nat} {xs : Nat → Int32} {I : Hp → Nat → Prop} (hI0 : e_I0 I) (hS : S2 G b I) {x3 : Int32} (g1 : vp_in (x3 + 1) L) (g2 : vp_in (x3 + 2) L) {c : Hp} {n kc ks : Nat} (hI : I c n) (hkc : kc + 5 ≤ 600000) (hks : ks + 1604 ≤ 7302250) (hnext : ∀ c2 n2, I c2 n2 → E G b x code 4 ret room_1 (e_XL b bs L xs) e_ZL 1486 [(0, .ref bs), (1, .ref (b + 0)), (2, .ref (b + 79)), (3, .int x3)] [] c2 n2 (kc + 5) (ks + 1604)) : E G b x code 4 ret room_1 (e_XL b bs L xs) e_ZL 326 [(0, .ref bs), (1, .ref (b + 0)), (2, .ref (b + 79)), (3, .int x3)] [] c n kc ks := by
  obtain ⟨dd, hdd, Px, hCx, hx⟩ := hS (xs (x3 + 1).toNatClampNeg) (xs (x3 + 2).toNatClampNeg) c n hI
  obtain ⟨h0n, fs0, h0c⟩ := hI0 c n hI
  refine E.aload_n 1 dL_law_326 rfl ?_
  refine E.aload_n 0 dL_law_327 rfl ?_
  refine E.iload_n 3 dL_law_328 rfl ?_
  refine E.iconst (v := 1) dL_law_329 (by decide) ?_
  refine E.iadd dL_law_330 ?_
  refine E.sld dL_law_331 g1 ?_
  refine E.aload_n 0 dL_law_332 rfl ?_
  refine E.iload_n 3 dL_law_333 rfl ?_
  refine E.iconst (v := 2) dL_law_334 (by decide) ?_
  refine E.iadd dL_law_335 ?_
  refine E.sld dL_law_336 g2 ?_
  refine E.callV (As := [.int (xs (x3 + 1).toNatClampNeg), .int (xs (x3 + 2).toNatClampNeg)]) (rest := []) dL_law_337 mlL_23 ⟨h0n, h0c⟩ rfl rfl hCx ⟨Nat.le_trans (Nat.succ_le_succ hdd) (Nat.le_of_ble_eq_true rfl), Nat.le_trans (show 64 * dd + 51 ≤ 64 * 1 + 51 by omega) (Nat.le_of_ble_eq_true rfl)⟩ rfl rfl (Nat.le_of_ble_eq_true rfl) ⟨by show kc + 0 ≤ 600000; omega, by show ks + 0 ≤ 7302250; omega⟩ (fun v c1 n1 hp => ?_)
  obtain ⟨⟨h79n, fs1, h79c⟩, ⟨r, rfl⟩, Pm, hCm, hm⟩ := hx v c1 n1 hp
  refine E.goalS (st' := [.int r]) rfl ?_
  refine E.aload_n 2 dL_law_340 rfl ?_
  refine E.aload_n 0 dL_law_341 rfl ?_
  refine E.iload_n 3 dL_law_342 rfl ?_
  refine E.iconst (v := 1) dL_law_343 (by decide) ?_
  refine E.iadd dL_law_344 ?_
  refine E.sld dL_law_345 g1 ?_
  refine E.aload_n 0 dL_law_346 rfl ?_
  refine E.iload_n 3 dL_law_347 rfl ?_
  refine E.iconst (v := 2) dL_law_348 (by decide) ?_
  refine E.iadd dL_law_349 ?_
  refine E.sld dL_law_350 g2 ?_
  refine E.callV (As := [.int (xs (x3 + 1).toNatClampNeg), .int (xs (x3 + 2).toNatClampNeg)]) (rest := [.int r]) dL_law_351 mlL_27 ⟨h79n, h79c⟩ rfl rfl hCm ⟨Nat.le_of_ble_eq_true rfl, Nat.le_of_ble_eq_true rfl⟩ rfl rfl (Nat.le_of_ble_eq_true rfl) ⟨by show kc + 0 + 0 ≤ 600000; omega, by show ks + 0 + 0 ≤ 7302250; omega⟩ (fun v2 c2 n2 hp2 => ?_)
  obtain ⟨rfl, hI2⟩ := hm v2 c2 n2 hp2
  refine E.goalS (st' := [.int r, .int r]) rfl ?_
  refine E.icmp_eq dL_law_354 (fun h => ?_) (fun h => absurd rfl h)
  refine E.widen (kc' := kc + 5) (ks' := ks + 1604) (by omega) (by omega) ?_
  exact hnext c2 n2 hI2
def S3 (G : GT) (b : Nat) (I : Hp → Nat → Prop) : Prop := ∀ a1 a2 : Int32, Stp2 G b I isI yX11_meal cX11_meal 3 (some .int) 2 0 0 yX12_meal cX12_meal 4 2 [.int a1, .int a2]
set_option maxHeartbeats 4000000 in
set_option maxRecDepth 100000 in
theorem law_c3 {G : GT} {b bs L : Nat} {xs : Nat → Int32} {I : Hp → Nat → Prop} (hI0 : e_I0 I) (hS : S3 G b I) {x3 : Int32} (g1 : vp_in (x3 + 1) L) (g2 : vp_in (x3 + 2) L) {c : Hp} {n kc ks : Nat} (hI : I c n) (hkc : kc + 5 ≤ 600000) (hks : ks + 1604 ≤ 7302250) (hnext : ∀ c2 n2, I c2 n2 → E G b x code 4 ret room_1 (e_XL b bs L xs) e_ZL 1486 [(0, .ref bs), (1, .ref (b + 0)), (2, .ref (b + 79)), (3, .int x3)] [] c2 n2 (kc + 5) (ks + 1604)) : E G b x code 4 ret room_1 (e_XL b bs L xs) e_ZL 359 [(0, .ref bs), (1, .ref (b + 0)), (2, .ref (b + 79)), (3, .int x3)] [] c n kc ks := by
  obtain ⟨dd, hdd, Px, hCx, hx⟩ := hS (xs (x3 + 1).toNatClampNeg) (xs (x3 + 2).toNatClampNeg) c n hI
  obtain ⟨h0n, fs0, h0c⟩ := hI0 c n hI
  refine E.aload_n 1 dL_law_359 rfl ?_
  refine E.aload_n 0 dL_law_360 rfl ?_
  refine E.iload_n 3 dL_law_361 rfl ?_
  refine E.iconst (v := 1) dL_law_362 (by decide) ?_
  refine E.iadd dL_law_363 ?_
  refine E.sld dL_law_364 g1 ?_
  refine E.aload_n 0 dL_law_365 rfl ?_
  refine E.iload_n 3 dL_law_366 rfl ?_
  refine E.iconst (v := 2) dL_law_367 (by decide) ?_
  refine E.iadd dL_law_368 ?_
  refine E.sld dL_law_369 g2 ?_
  refine E.callV (As := [.int (xs (x3 + 1).toNatClampNeg), .int (xs (x3 + 2).toNatClampNeg)]) (rest := []) dL_law_370 mlL_28 ⟨h0n, h0c⟩ rfl rfl hCx ⟨Nat.le_trans (Nat.succ_le_succ hdd) (Nat.le_of_ble_eq_true rfl), Nat.le_trans (show 64 * dd + 51 ≤ 64 * 2 + 51 by omega) (Nat.le_of_ble_eq_true rfl)⟩ rfl rfl (Nat.le_of_ble_eq_true rfl) ⟨by show kc + 0 ≤ 600000; omega, by show ks + 0 ≤ 7302250; omega⟩ (fun v c1 n1 hp => ?_)
  obtain ⟨⟨h79n, fs1, h79c⟩, ⟨r, rfl⟩, Pm, hCm, hm⟩ := hx v c1 n1 hp
  refine E.goalS (st' := [.int r]) rfl ?_
  refine E.aload_n 2 dL_law_373 rfl ?_
  refine E.aload_n 0 dL_law_374 rfl ?_
  refine E.iload_n 3 dL_law_375 rfl ?_
  refine E.iconst (v := 1) dL_law_376 (by decide) ?_
  refine E.iadd dL_law_377 ?_
  refine E.sld dL_law_378 g1 ?_
  refine E.aload_n 0 dL_law_379 rfl ?_
  refine E.iload_n 3 dL_law_380 rfl ?_
  refine E.iconst (v := 2) dL_law_381 (by decide) ?_
  refine E.iadd dL_law_382 ?_
  refine E.sld dL_law_383 g2 ?_
  refine E.callV (As := [.int (xs (x3 + 1).toNatClampNeg), .int (xs (x3 + 2).toNatClampNeg)]) (rest := [.int r]) dL_law_384 mlL_31 ⟨h79n, h79c⟩ rfl rfl hCm ⟨Nat.le_of_ble_eq_true rfl, Nat.le_of_ble_eq_true rfl⟩ rfl rfl (Nat.le_of_ble_eq_true rfl) ⟨by show kc + 0 + 0 ≤ 600000; omega, by show ks + 0 + 0 ≤ 7302250; omega⟩ (fun v2 c2 n2 hp2 => ?_)
  obtain ⟨rfl, hI2⟩ := hm v2 c2 n2 hp2
  refine E.goalS (st' := [.int r, .int r]) rfl ?_
  refine E.icmp_eq dL_law_387 (fun h => ?_) (fun h => absurd rfl h)
  refine E.widen (kc' := kc + 5) (ks' := ks + 1604) (by omega) (by omega) ?_
  exact hnext c2 n2 hI2
def S4 (G : GT) (b : Nat) (I : Hp → Nat → Prop) : Prop := Stp2 G b I isI yX11_fast cX11_fast 2 (some .int) 1 0 0 yX12_fast cX12_fast 2 0 []
set_option maxHeartbeats 4000000 in
set_option maxRecDepth 100000 in
theorem law_c4 {G : GT} {b bs L : Nat} {xs : Nat → Int32} {I : Hp → Nat → Prop} (hI0 : e_I0 I) (hS : S4 G b I) {x3 : Int32} {c : Hp} {n kc ks : Nat} (hI : I c n) (hkc : kc + 5 ≤ 600000) (hks : ks + 1604 ≤ 7302250) (hnext : ∀ c2 n2, I c2 n2 → E G b x code 4 ret room_1 (e_XL b bs L xs) e_ZL 1486 [(0, .ref bs), (1, .ref (b + 0)), (2, .ref (b + 79)), (3, .int x3)] [] c2 n2 (kc + 5) (ks + 1604)) : E G b x code 4 ret room_1 (e_XL b bs L xs) e_ZL 392 [(0, .ref bs), (1, .ref (b + 0)), (2, .ref (b + 79)), (3, .int x3)] [] c n kc ks := by
  obtain ⟨dd, hdd, Px, hCx, hx⟩ := hS  c n hI
  obtain ⟨h0n, fs0, h0c⟩ := hI0 c n hI
  refine E.aload_n 1 dL_law_392 rfl ?_
  refine E.callV (As := []) (rest := []) dL_law_393 mlL_32 ⟨h0n, h0c⟩ rfl rfl hCx ⟨Nat.le_trans (Nat.succ_le_succ hdd) (Nat.le_of_ble_eq_true rfl), Nat.le_trans (show 64 * dd + 51 ≤ 64 * 1 + 51 by omega) (Nat.le_of_ble_eq_true rfl)⟩ rfl rfl (Nat.le_of_ble_eq_true rfl) ⟨by show kc + 0 ≤ 600000; omega, by show ks + 0 ≤ 7302250; omega⟩ (fun v c1 n1 hp => ?_)
  obtain ⟨⟨h79n, fs1, h79c⟩, ⟨r, rfl⟩, Pm, hCm, hm⟩ := hx v c1 n1 hp
  refine E.goalS (st' := [.int r]) rfl ?_
  refine E.aload_n 2 dL_law_396 rfl ?_
  refine E.callV (As := []) (rest := [.int r]) dL_law_397 mlL_36 ⟨h79n, h79c⟩ rfl rfl hCm ⟨Nat.le_of_ble_eq_true rfl, Nat.le_of_ble_eq_true rfl⟩ rfl rfl (Nat.le_of_ble_eq_true rfl) ⟨by show kc + 0 + 0 ≤ 600000; omega, by show ks + 0 + 0 ≤ 7302250; omega⟩ (fun v2 c2 n2 hp2 => ?_)
  obtain ⟨rfl, hI2⟩ := hm v2 c2 n2 hp2
  refine E.goalS (st' := [.int r, .int r]) rfl ?_
  refine E.icmp_eq dL_law_400 (fun h => ?_) (fun h => absurd rfl h)
  refine E.widen (kc' := kc + 5) (ks' := ks + 1604) (by omega) (by omega) ?_
  exact hnext c2 n2 hI2
def S5 (G : GT) (b : Nat) (I : Hp → Nat → Prop) : Prop := ∀ a1 a2 : Int32, Stp2 G b I isI yX11_hunger cX11_hunger 3 (some .int) 2 0 0 yX12_hunger cX12_hunger 3 2 [.int a1, .int a2]
set_option maxHeartbeats 4000000 in
set_option maxRecDepth 100000 in
theorem law_c5 {G : GT} {b bs L : Nat} {xs : Nat → Int32} {I : Hp → Nat → Prop} (hI0 : e_I0 I) (hS : S5 G b I) {x3 : Int32} (g1 : vp_in (x3 + 1) L) (g2 : vp_in (x3 + 2) L) {c : Hp} {n kc ks : Nat} (hI : I c n) (hkc : kc + 5 ≤ 600000) (hks : ks + 1604 ≤ 7302250) (hnext : ∀ c2 n2, I c2 n2 → E G b x code 4 ret room_1 (e_XL b bs L xs) e_ZL 1486 [(0, .ref bs), (1, .ref (b + 0)), (2, .ref (b + 79)), (3, .int x3)] [] c2 n2 (kc + 5) (ks + 1604)) : E G b x code 4 ret room_1 (e_XL b bs L xs) e_ZL 405 [(0, .ref bs), (1, .ref (b + 0)), (2, .ref (b + 79)), (3, .int x3)] [] c n kc ks := by
  obtain ⟨dd, hdd, Px, hCx, hx⟩ := hS (xs (x3 + 1).toNatClampNeg) (xs (x3 + 2).toNatClampNeg) c n hI
  obtain ⟨h0n, fs0, h0c⟩ := hI0 c n hI
  refine E.aload_n 1 dL_law_405 rfl ?_
  refine E.aload_n 0 dL_law_406 rfl ?_
  refine E.iload_n 3 dL_law_407 rfl ?_
  refine E.iconst (v := 1) dL_law_408 (by decide) ?_
  refine E.iadd dL_law_409 ?_
  refine E.sld dL_law_410 g1 ?_
  refine E.aload_n 0 dL_law_411 rfl ?_
  refine E.iload_n 3 dL_law_412 rfl ?_
  refine E.iconst (v := 2) dL_law_413 (by decide) ?_
  refine E.iadd dL_law_414 ?_
  refine E.sld dL_law_415 g2 ?_
  refine E.callV (As := [.int (xs (x3 + 1).toNatClampNeg), .int (xs (x3 + 2).toNatClampNeg)]) (rest := []) dL_law_416 mlL_37 ⟨h0n, h0c⟩ rfl rfl hCx ⟨Nat.le_trans (Nat.succ_le_succ hdd) (Nat.le_of_ble_eq_true rfl), Nat.le_trans (show 64 * dd + 51 ≤ 64 * 2 + 51 by omega) (Nat.le_of_ble_eq_true rfl)⟩ rfl rfl (Nat.le_of_ble_eq_true rfl) ⟨by show kc + 0 ≤ 600000; omega, by show ks + 0 ≤ 7302250; omega⟩ (fun v c1 n1 hp => ?_)
  obtain ⟨⟨h79n, fs1, h79c⟩, ⟨r, rfl⟩, Pm, hCm, hm⟩ := hx v c1 n1 hp
  refine E.goalS (st' := [.int r]) rfl ?_
  refine E.aload_n 2 dL_law_419 rfl ?_
  refine E.aload_n 0 dL_law_420 rfl ?_
  refine E.iload_n 3 dL_law_421 rfl ?_
  refine E.iconst (v := 1) dL_law_422 (by decide) ?_
  refine E.iadd dL_law_423 ?_
  refine E.sld dL_law_424 g1 ?_
  refine E.aload_n 0 dL_law_425 rfl ?_
  refine E.iload_n 3 dL_law_426 rfl ?_
  refine E.iconst (v := 2) dL_law_427 (by decide) ?_
  refine E.iadd dL_law_428 ?_
  refine E.sld dL_law_429 g2 ?_
  refine E.callV (As := [.int (xs (x3 + 1).toNatClampNeg), .int (xs (x3 + 2).toNatClampNeg)]) (rest := [.int r]) dL_law_430 mlL_40 ⟨h79n, h79c⟩ rfl rfl hCm ⟨Nat.le_of_ble_eq_true rfl, Nat.le_of_ble_eq_true rfl⟩ rfl rfl (Nat.le_of_ble_eq_true rfl) ⟨by show kc + 0 + 0 ≤ 600000; omega, by show ks + 0 + 0 ≤ 7302250; omega⟩ (fun v2 c2 n2 hp2 => ?_)
  obtain ⟨rfl, hI2⟩ := hm v2 c2 n2 hp2
  refine E.goalS (st' := [.int r, .int r]) rfl ?_
  refine E.icmp_eq dL_law_433 (fun h => ?_) (fun h => absurd rfl h)
  refine E.widen (kc' := kc + 5) (ks' := ks + 1604) (by omega) (by omega) ?_
  exact hnext c2 n2 hI2
def S6 (G : GT) (b : Nat) (I : Hp → Nat → Prop) : Prop := ∀ a1 : Int32, Stp2 G b I isI yX11_bench cX11_bench 3 (some .int) 2 0 0 yX12_bench cX12_bench 2 2 [.int a1]
set_option maxHeartbeats 4000000 in
set_option maxRecDepth 100000 in
theorem law_c6 {G : GT} {b bs L : Nat} {xs : Nat → Int32} {I : Hp → Nat → Prop} (hI0 : e_I0 I) (hS : S6 G b I) {x3 : Int32} (g1 : vp_in (x3 + 1) L) {c : Hp} {n kc ks : Nat} (hI : I c n) (hkc : kc + 5 ≤ 600000) (hks : ks + 1604 ≤ 7302250) (hnext : ∀ c2 n2, I c2 n2 → E G b x code 4 ret room_1 (e_XL b bs L xs) e_ZL 1486 [(0, .ref bs), (1, .ref (b + 0)), (2, .ref (b + 79)), (3, .int x3)] [] c2 n2 (kc + 5) (ks + 1604)) : E G b x code 4 ret room_1 (e_XL b bs L xs) e_ZL 438 [(0, .ref bs), (1, .ref (b + 0)), (2, .ref (b + 79)), (3, .int x3)] [] c n kc ks := by
  obtain ⟨dd, hdd, Px, hCx, hx⟩ := hS (xs (x3 + 1).toNatClampNeg) c n hI
  obtain ⟨h0n, fs0, h0c⟩ := hI0 c n hI
  refine E.aload_n 1 dL_law_438 rfl ?_
  refine E.aload_n 0 dL_law_439 rfl ?_
  refine E.iload_n 3 dL_law_440 rfl ?_
  refine E.iconst (v := 1) dL_law_441 (by decide) ?_
  refine E.iadd dL_law_442 ?_
  refine E.sld dL_law_443 g1 ?_
  refine E.callV (As := [.int (xs (x3 + 1).toNatClampNeg)]) (rest := []) dL_law_444 mlL_41 ⟨h0n, h0c⟩ rfl rfl hCx ⟨Nat.le_trans (Nat.succ_le_succ hdd) (Nat.le_of_ble_eq_true rfl), Nat.le_trans (show 64 * dd + 51 ≤ 64 * 2 + 51 by omega) (Nat.le_of_ble_eq_true rfl)⟩ rfl rfl (Nat.le_of_ble_eq_true rfl) ⟨by show kc + 0 ≤ 600000; omega, by show ks + 0 ≤ 7302250; omega⟩ (fun v c1 n1 hp => ?_)
  obtain ⟨⟨h79n, fs1, h79c⟩, ⟨r, rfl⟩, Pm, hCm, hm⟩ := hx v c1 n1 hp
  refine E.goalS (st' := [.int r]) rfl ?_
  refine E.aload_n 2 dL_law_447 rfl ?_
  refine E.aload_n 0 dL_law_448 rfl ?_
  refine E.iload_n 3 dL_law_449 rfl ?_
  refine E.iconst (v := 1) dL_law_450 (by decide) ?_
  refine E.iadd dL_law_451 ?_
  refine E.sld dL_law_452 g1 ?_
  refine E.callV (As := [.int (xs (x3 + 1).toNatClampNeg)]) (rest := [.int r]) dL_law_453 mlL_45 ⟨h79n, h79c⟩ rfl rfl hCm ⟨Nat.le_of_ble_eq_true rfl, Nat.le_of_ble_eq_true rfl⟩ rfl rfl (Nat.le_of_ble_eq_true rfl) ⟨by show kc + 0 + 0 ≤ 600000; omega, by show ks + 0 + 0 ≤ 7302250; omega⟩ (fun v2 c2 n2 hp2 => ?_)
  obtain ⟨rfl, hI2⟩ := hm v2 c2 n2 hp2
  refine E.goalS (st' := [.int r, .int r]) rfl ?_
  refine E.icmp_eq dL_law_456 (fun h => ?_) (fun h => absurd rfl h)
  refine E.widen (kc' := kc + 5) (ks' := ks + 1604) (by omega) (by omega) ?_
  exact hnext c2 n2 hI2
def S7 (G : GT) (b : Nat) (I : Hp → Nat → Prop) : Prop := ∀ a1 a2 : Int32, Stp2 G b I isI yX11_terms cX11_terms 4 (some .int) 2 0 0 yX12_terms cX12_terms 3 3 [.int a1, .int a2]
set_option maxHeartbeats 4000000 in
set_option maxRecDepth 100000 in
theorem law_c7 {G : GT} {b bs L : Nat} {xs : Nat → Int32} {I : Hp → Nat → Prop} (hI0 : e_I0 I) (hS : S7 G b I) {x3 : Int32} (g1 : vp_in (x3 + 1) L) (g2 : vp_in (x3 + 2) L) {c : Hp} {n kc ks : Nat} (hI : I c n) (hkc : kc + 5 ≤ 600000) (hks : ks + 1604 ≤ 7302250) (hnext : ∀ c2 n2, I c2 n2 → E G b x code 4 ret room_1 (e_XL b bs L xs) e_ZL 1486 [(0, .ref bs), (1, .ref (b + 0)), (2, .ref (b + 79)), (3, .int x3)] [] c2 n2 (kc + 5) (ks + 1604)) : E G b x code 4 ret room_1 (e_XL b bs L xs) e_ZL 461 [(0, .ref bs), (1, .ref (b + 0)), (2, .ref (b + 79)), (3, .int x3)] [] c n kc ks := by
  obtain ⟨dd, hdd, Px, hCx, hx⟩ := hS (xs (x3 + 1).toNatClampNeg) (xs (x3 + 2).toNatClampNeg) c n hI
  obtain ⟨h0n, fs0, h0c⟩ := hI0 c n hI
  refine E.aload_n 1 dL_law_461 rfl ?_
  refine E.aload_n 0 dL_law_462 rfl ?_
  refine E.iload_n 3 dL_law_463 rfl ?_
  refine E.iconst (v := 1) dL_law_464 (by decide) ?_
  refine E.iadd dL_law_465 ?_
  refine E.sld dL_law_466 g1 ?_
  refine E.aload_n 0 dL_law_467 rfl ?_
  refine E.iload_n 3 dL_law_468 rfl ?_
  refine E.iconst (v := 2) dL_law_469 (by decide) ?_
  refine E.iadd dL_law_470 ?_
  refine E.sld dL_law_471 g2 ?_
  refine E.callV (As := [.int (xs (x3 + 1).toNatClampNeg), .int (xs (x3 + 2).toNatClampNeg)]) (rest := []) dL_law_472 mlL_46 ⟨h0n, h0c⟩ rfl rfl hCx ⟨Nat.le_trans (Nat.succ_le_succ hdd) (Nat.le_of_ble_eq_true rfl), Nat.le_trans (show 64 * dd + 51 ≤ 64 * 2 + 51 by omega) (Nat.le_of_ble_eq_true rfl)⟩ rfl rfl (Nat.le_of_ble_eq_true rfl) ⟨by show kc + 0 ≤ 600000; omega, by show ks + 0 ≤ 7302250; omega⟩ (fun v c1 n1 hp => ?_)
  obtain ⟨⟨h79n, fs1, h79c⟩, ⟨r, rfl⟩, Pm, hCm, hm⟩ := hx v c1 n1 hp
  refine E.goalS (st' := [.int r]) rfl ?_
  refine E.aload_n 2 dL_law_475 rfl ?_
  refine E.aload_n 0 dL_law_476 rfl ?_
  refine E.iload_n 3 dL_law_477 rfl ?_
  refine E.iconst (v := 1) dL_law_478 (by decide) ?_
  refine E.iadd dL_law_479 ?_
  refine E.sld dL_law_480 g1 ?_
  refine E.aload_n 0 dL_law_481 rfl ?_
  refine E.iload_n 3 dL_law_482 rfl ?_
  refine E.iconst (v := 2) dL_law_483 (by decide) ?_
  refine E.iadd dL_law_484 ?_
  refine E.sld dL_law_485 g2 ?_
  refine E.callV (As := [.int (xs (x3 + 1).toNatClampNeg), .int (xs (x3 + 2).toNatClampNeg)]) (rest := [.int r]) dL_law_486 mlL_49 ⟨h79n, h79c⟩ rfl rfl hCm ⟨Nat.le_of_ble_eq_true rfl, Nat.le_of_ble_eq_true rfl⟩ rfl rfl (Nat.le_of_ble_eq_true rfl) ⟨by show kc + 0 + 0 ≤ 600000; omega, by show ks + 0 + 0 ≤ 7302250; omega⟩ (fun v2 c2 n2 hp2 => ?_)
  obtain ⟨rfl, hI2⟩ := hm v2 c2 n2 hp2
  refine E.goalS (st' := [.int r, .int r]) rfl ?_
  refine E.icmp_eq dL_law_489 (fun h => ?_) (fun h => absurd rfl h)
  refine E.widen (kc' := kc + 5) (ks' := ks + 1604) (by omega) (by omega) ?_
  exact hnext c2 n2 hI2
def S8 (G : GT) (b : Nat) (I : Hp → Nat → Prop) : Prop := ∀ a1 a2 a3 a4 a5 : Int32, Stp2 G b I isI yX11_feed cX11_feed 6 (some .int) 1 0 0 yX12_feed cX12_feed 6 1 [.int a1, .int a2, .int a3, .int a4, .int a5]
set_option maxHeartbeats 4000000 in
set_option maxRecDepth 100000 in
theorem law_c8 {G : GT} {b bs L : Nat} {xs : Nat → Int32} {I : Hp → Nat → Prop} (hI0 : e_I0 I) (hS : S8 G b I) {x3 : Int32} (g1 : vp_in (x3 + 1) L) (g2 : vp_in (x3 + 2) L) (g3 : vp_in (x3 + 3) L) (g4 : vp_in (x3 + 4) L) (g5 : vp_in (x3 + 5) L) {c : Hp} {n kc ks : Nat} (hI : I c n) (hkc : kc + 5 ≤ 600000) (hks : ks + 1604 ≤ 7302250) (hnext : ∀ c2 n2, I c2 n2 → E G b x code 4 ret room_1 (e_XL b bs L xs) e_ZL 1486 [(0, .ref bs), (1, .ref (b + 0)), (2, .ref (b + 79)), (3, .int x3)] [] c2 n2 (kc + 5) (ks + 1604)) : E G b x code 4 ret room_1 (e_XL b bs L xs) e_ZL 494 [(0, .ref bs), (1, .ref (b + 0)), (2, .ref (b + 79)), (3, .int x3)] [] c n kc ks := by
  obtain ⟨dd, hdd, Px, hCx, hx⟩ := hS (xs (x3 + 1).toNatClampNeg) (xs (x3 + 2).toNatClampNeg) (xs (x3 + 3).toNatClampNeg) (xs (x3 + 4).toNatClampNeg) (xs (x3 + 5).toNatClampNeg) c n hI
  obtain ⟨h0n, fs0, h0c⟩ := hI0 c n hI
  refine E.aload_n 1 dL_law_494 rfl ?_
  refine E.aload_n 0 dL_law_495 rfl ?_
  refine E.iload_n 3 dL_law_496 rfl ?_
  refine E.iconst (v := 1) dL_law_497 (by decide) ?_
  refine E.iadd dL_law_498 ?_
  refine E.sld dL_law_499 g1 ?_
  refine E.aload_n 0 dL_law_500 rfl ?_
  refine E.iload_n 3 dL_law_501 rfl ?_
  refine E.iconst (v := 2) dL_law_502 (by decide) ?_
  refine E.iadd dL_law_503 ?_
  refine E.sld dL_law_504 g2 ?_
  refine E.aload_n 0 dL_law_505 rfl ?_
  refine E.iload_n 3 dL_law_506 rfl ?_
  refine E.iconst (v := 3) dL_law_507 (by decide) ?_
  refine E.iadd dL_law_508 ?_
  refine E.sld dL_law_509 g3 ?_
  refine E.aload_n 0 dL_law_510 rfl ?_
  refine E.iload_n 3 dL_law_511 rfl ?_
  refine E.iconst (v := 4) dL_law_512 (by decide) ?_
  refine E.iadd dL_law_513 ?_
  refine E.sld dL_law_514 g4 ?_
  refine E.aload_n 0 dL_law_515 rfl ?_
  refine E.iload_n 3 dL_law_516 rfl ?_
  refine E.iconst (v := 5) dL_law_517 (by decide) ?_
  refine E.iadd dL_law_518 ?_
  refine E.sld dL_law_519 g5 ?_
  refine E.callV (As := [.int (xs (x3 + 1).toNatClampNeg), .int (xs (x3 + 2).toNatClampNeg), .int (xs (x3 + 3).toNatClampNeg), .int (xs (x3 + 4).toNatClampNeg), .int (xs (x3 + 5).toNatClampNeg)]) (rest := []) dL_law_520 mlL_50 ⟨h0n, h0c⟩ rfl rfl hCx ⟨Nat.le_trans (Nat.succ_le_succ hdd) (Nat.le_of_ble_eq_true rfl), Nat.le_trans (show 64 * dd + 51 ≤ 64 * 1 + 51 by omega) (Nat.le_of_ble_eq_true rfl)⟩ rfl rfl (Nat.le_of_ble_eq_true rfl) ⟨by show kc + 0 ≤ 600000; omega, by show ks + 0 ≤ 7302250; omega⟩ (fun v c1 n1 hp => ?_)
  obtain ⟨⟨h79n, fs1, h79c⟩, ⟨r, rfl⟩, Pm, hCm, hm⟩ := hx v c1 n1 hp
  refine E.goalS (st' := [.int r]) rfl ?_
  refine E.aload_n 2 dL_law_523 rfl ?_
  refine E.aload_n 0 dL_law_524 rfl ?_
  refine E.iload_n 3 dL_law_525 rfl ?_
  refine E.iconst (v := 1) dL_law_526 (by decide) ?_
  refine E.iadd dL_law_527 ?_
  refine E.sld dL_law_528 g1 ?_
  refine E.aload_n 0 dL_law_529 rfl ?_
  refine E.iload_n 3 dL_law_530 rfl ?_
  refine E.iconst (v := 2) dL_law_531 (by decide) ?_
  refine E.iadd dL_law_532 ?_
  refine E.sld dL_law_533 g2 ?_
  refine E.aload_n 0 dL_law_534 rfl ?_
  refine E.iload_n 3 dL_law_535 rfl ?_
  refine E.iconst (v := 3) dL_law_536 (by decide) ?_
  refine E.iadd dL_law_537 ?_
  refine E.sld dL_law_538 g3 ?_
  refine E.aload_n 0 dL_law_539 rfl ?_
  refine E.iload_n 3 dL_law_540 rfl ?_
  refine E.iconst (v := 4) dL_law_541 (by decide) ?_
  refine E.iadd dL_law_542 ?_
  refine E.sld dL_law_543 g4 ?_
  refine E.aload_n 0 dL_law_544 rfl ?_
  refine E.iload_n 3 dL_law_545 rfl ?_
  refine E.iconst (v := 5) dL_law_546 (by decide) ?_
  refine E.iadd dL_law_547 ?_
  refine E.sld dL_law_548 g5 ?_
  refine E.callV (As := [.int (xs (x3 + 1).toNatClampNeg), .int (xs (x3 + 2).toNatClampNeg), .int (xs (x3 + 3).toNatClampNeg), .int (xs (x3 + 4).toNatClampNeg), .int (xs (x3 + 5).toNatClampNeg)]) (rest := [.int r]) dL_law_549 mlL_53 ⟨h79n, h79c⟩ rfl rfl hCm ⟨Nat.le_of_ble_eq_true rfl, Nat.le_of_ble_eq_true rfl⟩ rfl rfl (Nat.le_of_ble_eq_true rfl) ⟨by show kc + 0 + 0 ≤ 600000; omega, by show ks + 0 + 0 ≤ 7302250; omega⟩ (fun v2 c2 n2 hp2 => ?_)
  obtain ⟨rfl, hI2⟩ := hm v2 c2 n2 hp2
  refine E.goalS (st' := [.int r, .int r]) rfl ?_
  refine E.icmp_eq dL_law_552 (fun h => ?_) (fun h => absurd rfl h)
  refine E.widen (kc' := kc + 5) (ks' := ks + 1604) (by omega) (by omega) ?_
  exact hnext c2 n2 hI2
def S9 (G : GT) (b : Nat) (I : Hp → Nat → Prop) : Prop := ∀ a1 : Int32, Stp2 G b I isI yX11_end cX11_end 2 (some .int) 0 0 0 yX12_end cX12_end 2 0 [.int a1]
set_option maxHeartbeats 4000000 in
set_option maxRecDepth 100000 in
theorem law_c9 {G : GT} {b bs L : Nat} {xs : Nat → Int32} {I : Hp → Nat → Prop} (hI0 : e_I0 I) (hS : S9 G b I) {x3 : Int32} (g1 : vp_in (x3 + 1) L) {c : Hp} {n kc ks : Nat} (hI : I c n) (hkc : kc + 5 ≤ 600000) (hks : ks + 1604 ≤ 7302250) (hnext : ∀ c2 n2, I c2 n2 → E G b x code 4 ret room_1 (e_XL b bs L xs) e_ZL 1486 [(0, .ref bs), (1, .ref (b + 0)), (2, .ref (b + 79)), (3, .int x3)] [] c2 n2 (kc + 5) (ks + 1604)) : E G b x code 4 ret room_1 (e_XL b bs L xs) e_ZL 557 [(0, .ref bs), (1, .ref (b + 0)), (2, .ref (b + 79)), (3, .int x3)] [] c n kc ks := by
  obtain ⟨dd, hdd, Px, hCx, hx⟩ := hS (xs (x3 + 1).toNatClampNeg) c n hI
  obtain ⟨h0n, fs0, h0c⟩ := hI0 c n hI
  refine E.aload_n 1 dL_law_557 rfl ?_
  refine E.aload_n 0 dL_law_558 rfl ?_
  refine E.iload_n 3 dL_law_559 rfl ?_
  refine E.iconst (v := 1) dL_law_560 (by decide) ?_
  refine E.iadd dL_law_561 ?_
  refine E.sld dL_law_562 g1 ?_
  refine E.callV (As := [.int (xs (x3 + 1).toNatClampNeg)]) (rest := []) dL_law_563 mlL_54 ⟨h0n, h0c⟩ rfl rfl hCx ⟨Nat.le_trans (Nat.succ_le_succ hdd) (Nat.le_of_ble_eq_true rfl), Nat.le_trans (show 64 * dd + 51 ≤ 64 * 0 + 51 by omega) (Nat.le_of_ble_eq_true rfl)⟩ rfl rfl (Nat.le_of_ble_eq_true rfl) ⟨by show kc + 0 ≤ 600000; omega, by show ks + 0 ≤ 7302250; omega⟩ (fun v c1 n1 hp => ?_)
  obtain ⟨⟨h79n, fs1, h79c⟩, ⟨r, rfl⟩, Pm, hCm, hm⟩ := hx v c1 n1 hp
  refine E.goalS (st' := [.int r]) rfl ?_
  refine E.aload_n 2 dL_law_566 rfl ?_
  refine E.aload_n 0 dL_law_567 rfl ?_
  refine E.iload_n 3 dL_law_568 rfl ?_
  refine E.iconst (v := 1) dL_law_569 (by decide) ?_
  refine E.iadd dL_law_570 ?_
  refine E.sld dL_law_571 g1 ?_
  refine E.callV (As := [.int (xs (x3 + 1).toNatClampNeg)]) (rest := [.int r]) dL_law_572 mlL_57 ⟨h79n, h79c⟩ rfl rfl hCm ⟨Nat.le_of_ble_eq_true rfl, Nat.le_of_ble_eq_true rfl⟩ rfl rfl (Nat.le_of_ble_eq_true rfl) ⟨by show kc + 0 + 0 ≤ 600000; omega, by show ks + 0 + 0 ≤ 7302250; omega⟩ (fun v2 c2 n2 hp2 => ?_)
  obtain ⟨rfl, hI2⟩ := hm v2 c2 n2 hp2
  refine E.goalS (st' := [.int r, .int r]) rfl ?_
  refine E.icmp_eq dL_law_575 (fun h => ?_) (fun h => absurd rfl h)
  refine E.widen (kc' := kc + 5) (ks' := ks + 1604) (by omega) (by omega) ?_
  exact hnext c2 n2 hI2
def S10 (G : GT) (b : Nat) (I : Hp → Nat → Prop) : Prop := Stp2 G b I isI yX11_row cX11_row 4 (some .int) 2 0 0 yX12_row cX12_row 5 3 []
set_option maxHeartbeats 4000000 in
set_option maxRecDepth 100000 in
theorem law_c10 {G : GT} {b bs L : Nat} {xs : Nat → Int32} {I : Hp → Nat → Prop} (hI0 : e_I0 I) (hS : S10 G b I) {x3 : Int32} {c : Hp} {n kc ks : Nat} (hI : I c n) (hkc : kc + 5 ≤ 600000) (hks : ks + 1604 ≤ 7302250) (hnext : ∀ c2 n2, I c2 n2 → E G b x code 4 ret room_1 (e_XL b bs L xs) e_ZL 1486 [(0, .ref bs), (1, .ref (b + 0)), (2, .ref (b + 79)), (3, .int x3)] [] c2 n2 (kc + 5) (ks + 1604)) : E G b x code 4 ret room_1 (e_XL b bs L xs) e_ZL 580 [(0, .ref bs), (1, .ref (b + 0)), (2, .ref (b + 79)), (3, .int x3)] [] c n kc ks := by
  obtain ⟨dd, hdd, Px, hCx, hx⟩ := hS  c n hI
  obtain ⟨h0n, fs0, h0c⟩ := hI0 c n hI
  refine E.aload_n 1 dL_law_580 rfl ?_
  refine E.callV (As := []) (rest := []) dL_law_581 mlL_58 ⟨h0n, h0c⟩ rfl rfl hCx ⟨Nat.le_trans (Nat.succ_le_succ hdd) (Nat.le_of_ble_eq_true rfl), Nat.le_trans (show 64 * dd + 51 ≤ 64 * 2 + 51 by omega) (Nat.le_of_ble_eq_true rfl)⟩ rfl rfl (Nat.le_of_ble_eq_true rfl) ⟨by show kc + 0 ≤ 600000; omega, by show ks + 0 ≤ 7302250; omega⟩ (fun v c1 n1 hp => ?_)
  obtain ⟨⟨h79n, fs1, h79c⟩, ⟨r, rfl⟩, Pm, hCm, hm⟩ := hx v c1 n1 hp
  refine E.goalS (st' := [.int r]) rfl ?_
  refine E.aload_n 2 dL_law_584 rfl ?_
  refine E.callV (As := []) (rest := [.int r]) dL_law_585 mlL_61 ⟨h79n, h79c⟩ rfl rfl hCm ⟨Nat.le_of_ble_eq_true rfl, Nat.le_of_ble_eq_true rfl⟩ rfl rfl (Nat.le_of_ble_eq_true rfl) ⟨by show kc + 0 + 0 ≤ 600000; omega, by show ks + 0 + 0 ≤ 7302250; omega⟩ (fun v2 c2 n2 hp2 => ?_)
  obtain ⟨rfl, hI2⟩ := hm v2 c2 n2 hp2
  refine E.goalS (st' := [.int r, .int r]) rfl ?_
  refine E.icmp_eq dL_law_588 (fun h => ?_) (fun h => absurd rfl h)
  refine E.widen (kc' := kc + 5) (ks' := ks + 1604) (by omega) (by omega) ?_
  exact hnext c2 n2 hI2
def S11 (G : GT) (b : Nat) (I : Hp → Nat → Prop) : Prop := Stp2 G b I isI yX11_quashed cX11_quashed 1 (some .int) 0 0 0 yX12_quashed cX12_quashed 1 0 []
set_option maxHeartbeats 4000000 in
set_option maxRecDepth 100000 in
theorem law_c11 {G : GT} {b bs L : Nat} {xs : Nat → Int32} {I : Hp → Nat → Prop} (hI0 : e_I0 I) (hS : S11 G b I) {x3 : Int32} {c : Hp} {n kc ks : Nat} (hI : I c n) (hkc : kc + 5 ≤ 600000) (hks : ks + 1604 ≤ 7302250) (hnext : ∀ c2 n2, I c2 n2 → E G b x code 4 ret room_1 (e_XL b bs L xs) e_ZL 1486 [(0, .ref bs), (1, .ref (b + 0)), (2, .ref (b + 79)), (3, .int x3)] [] c2 n2 (kc + 5) (ks + 1604)) : E G b x code 4 ret room_1 (e_XL b bs L xs) e_ZL 593 [(0, .ref bs), (1, .ref (b + 0)), (2, .ref (b + 79)), (3, .int x3)] [] c n kc ks := by
  obtain ⟨dd, hdd, Px, hCx, hx⟩ := hS  c n hI
  obtain ⟨h0n, fs0, h0c⟩ := hI0 c n hI
  refine E.aload_n 1 dL_law_593 rfl ?_
  refine E.callV (As := []) (rest := []) dL_law_594 mlL_62 ⟨h0n, h0c⟩ rfl rfl hCx ⟨Nat.le_trans (Nat.succ_le_succ hdd) (Nat.le_of_ble_eq_true rfl), Nat.le_trans (show 64 * dd + 51 ≤ 64 * 0 + 51 by omega) (Nat.le_of_ble_eq_true rfl)⟩ rfl rfl (Nat.le_of_ble_eq_true rfl) ⟨by show kc + 0 ≤ 600000; omega, by show ks + 0 ≤ 7302250; omega⟩ (fun v c1 n1 hp => ?_)
  obtain ⟨⟨h79n, fs1, h79c⟩, ⟨r, rfl⟩, Pm, hCm, hm⟩ := hx v c1 n1 hp
  refine E.goalS (st' := [.int r]) rfl ?_
  refine E.aload_n 2 dL_law_597 rfl ?_
  refine E.callV (As := []) (rest := [.int r]) dL_law_598 mlL_65 ⟨h79n, h79c⟩ rfl rfl hCm ⟨Nat.le_of_ble_eq_true rfl, Nat.le_of_ble_eq_true rfl⟩ rfl rfl (Nat.le_of_ble_eq_true rfl) ⟨by show kc + 0 + 0 ≤ 600000; omega, by show ks + 0 + 0 ≤ 7302250; omega⟩ (fun v2 c2 n2 hp2 => ?_)
  obtain ⟨rfl, hI2⟩ := hm v2 c2 n2 hp2
  refine E.goalS (st' := [.int r, .int r]) rfl ?_
  refine E.icmp_eq dL_law_601 (fun h => ?_) (fun h => absurd rfl h)
  refine E.widen (kc' := kc + 5) (ks' := ks + 1604) (by omega) (by omega) ?_
  exact hnext c2 n2 hI2
def S12 (G : GT) (b : Nat) (I : Hp → Nat → Prop) : Prop := Stp2 G b I isI yX11_law cX11_law 2 (some .int) 93 5 1604 yX12_law cX12_law 3 8 []
set_option maxHeartbeats 4000000 in
set_option maxRecDepth 100000 in
theorem law_c12 {G : GT} {b bs L : Nat} {xs : Nat → Int32} {I : Hp → Nat → Prop} (hI0 : e_I0 I) (hS : S12 G b I) {x3 : Int32} {c : Hp} {n kc ks : Nat} (hI : I c n) (hkc : kc + 5 ≤ 600000) (hks : ks + 1604 ≤ 7302250) (hnext : ∀ c2 n2, I c2 n2 → E G b x code 4 ret room_1 (e_XL b bs L xs) e_ZL 1486 [(0, .ref bs), (1, .ref (b + 0)), (2, .ref (b + 79)), (3, .int x3)] [] c2 n2 (kc + 5) (ks + 1604)) : E G b x code 4 ret room_1 (e_XL b bs L xs) e_ZL 606 [(0, .ref bs), (1, .ref (b + 0)), (2, .ref (b + 79)), (3, .int x3)] [] c n kc ks := by
  obtain ⟨dd, hdd, Px, hCx, hx⟩ := hS  c n hI
  obtain ⟨h0n, fs0, h0c⟩ := hI0 c n hI
  refine E.aload_n 1 dL_law_606 rfl ?_
  refine E.callV (As := []) (rest := []) dL_law_607 mlL_66 ⟨h0n, h0c⟩ rfl rfl hCx ⟨Nat.le_trans (Nat.succ_le_succ hdd) (Nat.le_of_ble_eq_true rfl), Nat.le_trans (show 64 * dd + 51 ≤ 64 * 93 + 51 by omega) (Nat.le_of_ble_eq_true rfl)⟩ rfl rfl (Nat.le_of_ble_eq_true rfl) ⟨by show kc + 5 ≤ 600000; omega, by show ks + 1604 ≤ 7302250; omega⟩ (fun v c1 n1 hp => ?_)
  obtain ⟨⟨h79n, fs1, h79c⟩, ⟨r, rfl⟩, Pm, hCm, hm⟩ := hx v c1 n1 hp
  refine E.goalS (st' := [.int r]) rfl ?_
  refine E.aload_n 2 dL_law_610 rfl ?_
  refine E.callV (As := []) (rest := [.int r]) dL_law_611 mlL_69 ⟨h79n, h79c⟩ rfl rfl hCm ⟨Nat.le_of_ble_eq_true rfl, Nat.le_of_ble_eq_true rfl⟩ rfl rfl (Nat.le_of_ble_eq_true rfl) ⟨by show kc + 5 + 0 ≤ 600000; omega, by show ks + 1604 + 0 ≤ 7302250; omega⟩ (fun v2 c2 n2 hp2 => ?_)
  obtain ⟨rfl, hI2⟩ := hm v2 c2 n2 hp2
  refine E.goalS (st' := [.int r, .int r]) rfl ?_
  refine E.icmp_eq dL_law_614 (fun h => ?_) (fun h => absurd rfl h)
  refine E.widen (kc' := kc + 5) (ks' := ks + 1604) (by omega) (by omega) ?_
  exact hnext c2 n2 hI2
def S13 (G : GT) (b : Nat) (I : Hp → Nat → Prop) : Prop := Stp2 G b I isI yX11_fault cX11_fault 1 (some .int) 0 0 0 yX12_fault cX12_fault 1 0 []
set_option maxHeartbeats 4000000 in
set_option maxRecDepth 100000 in
theorem law_c13 {G : GT} {b bs L : Nat} {xs : Nat → Int32} {I : Hp → Nat → Prop} (hI0 : e_I0 I) (hS : S13 G b I) {x3 : Int32} {c : Hp} {n kc ks : Nat} (hI : I c n) (hkc : kc + 5 ≤ 600000) (hks : ks + 1604 ≤ 7302250) (hnext : ∀ c2 n2, I c2 n2 → E G b x code 4 ret room_1 (e_XL b bs L xs) e_ZL 1486 [(0, .ref bs), (1, .ref (b + 0)), (2, .ref (b + 79)), (3, .int x3)] [] c2 n2 (kc + 5) (ks + 1604)) : E G b x code 4 ret room_1 (e_XL b bs L xs) e_ZL 619 [(0, .ref bs), (1, .ref (b + 0)), (2, .ref (b + 79)), (3, .int x3)] [] c n kc ks := by
  obtain ⟨dd, hdd, Px, hCx, hx⟩ := hS  c n hI
  obtain ⟨h0n, fs0, h0c⟩ := hI0 c n hI
  refine E.aload_n 1 dL_law_619 rfl ?_
  refine E.callV (As := []) (rest := []) dL_law_620 mlL_70 ⟨h0n, h0c⟩ rfl rfl hCx ⟨Nat.le_trans (Nat.succ_le_succ hdd) (Nat.le_of_ble_eq_true rfl), Nat.le_trans (show 64 * dd + 51 ≤ 64 * 0 + 51 by omega) (Nat.le_of_ble_eq_true rfl)⟩ rfl rfl (Nat.le_of_ble_eq_true rfl) ⟨by show kc + 0 ≤ 600000; omega, by show ks + 0 ≤ 7302250; omega⟩ (fun v c1 n1 hp => ?_)
  obtain ⟨⟨h79n, fs1, h79c⟩, ⟨r, rfl⟩, Pm, hCm, hm⟩ := hx v c1 n1 hp
  refine E.goalS (st' := [.int r]) rfl ?_
  refine E.aload_n 2 dL_law_623 rfl ?_
  refine E.callV (As := []) (rest := [.int r]) dL_law_624 mlL_73 ⟨h79n, h79c⟩ rfl rfl hCm ⟨Nat.le_of_ble_eq_true rfl, Nat.le_of_ble_eq_true rfl⟩ rfl rfl (Nat.le_of_ble_eq_true rfl) ⟨by show kc + 0 + 0 ≤ 600000; omega, by show ks + 0 + 0 ≤ 7302250; omega⟩ (fun v2 c2 n2 hp2 => ?_)
  obtain ⟨rfl, hI2⟩ := hm v2 c2 n2 hp2
  refine E.goalS (st' := [.int r, .int r]) rfl ?_
  refine E.icmp_eq dL_law_627 (fun h => ?_) (fun h => absurd rfl h)
  refine E.widen (kc' := kc + 5) (ks' := ks + 1604) (by omega) (by omega) ?_
  exact hnext c2 n2 hI2
def S14 (G : GT) (b : Nat) (I : Hp → Nat → Prop) : Prop := ∀ a1 : Int32, Stp2 G b I isI yX11_force cX11_force 3 (some .int) 2 0 0 yX12_force cX12_force 2 2 [.int a1]
set_option maxHeartbeats 4000000 in
set_option maxRecDepth 100000 in
theorem law_c14 {G : GT} {b bs L : Nat} {xs : Nat → Int32} {I : Hp → Nat → Prop} (hI0 : e_I0 I) (hS : S14 G b I) {x3 : Int32} (g1 : vp_in (x3 + 1) L) {c : Hp} {n kc ks : Nat} (hI : I c n) (hkc : kc + 5 ≤ 600000) (hks : ks + 1604 ≤ 7302250) (hnext : ∀ c2 n2, I c2 n2 → E G b x code 4 ret room_1 (e_XL b bs L xs) e_ZL 1486 [(0, .ref bs), (1, .ref (b + 0)), (2, .ref (b + 79)), (3, .int x3)] [] c2 n2 (kc + 5) (ks + 1604)) : E G b x code 4 ret room_1 (e_XL b bs L xs) e_ZL 632 [(0, .ref bs), (1, .ref (b + 0)), (2, .ref (b + 79)), (3, .int x3)] [] c n kc ks := by
  obtain ⟨dd, hdd, Px, hCx, hx⟩ := hS (xs (x3 + 1).toNatClampNeg) c n hI
  obtain ⟨h0n, fs0, h0c⟩ := hI0 c n hI
  refine E.aload_n 1 dL_law_632 rfl ?_
  refine E.aload_n 0 dL_law_633 rfl ?_
  refine E.iload_n 3 dL_law_634 rfl ?_
  refine E.iconst (v := 1) dL_law_635 (by decide) ?_
  refine E.iadd dL_law_636 ?_
  refine E.sld dL_law_637 g1 ?_
  refine E.callV (As := [.int (xs (x3 + 1).toNatClampNeg)]) (rest := []) dL_law_638 mlL_74 ⟨h0n, h0c⟩ rfl rfl hCx ⟨Nat.le_trans (Nat.succ_le_succ hdd) (Nat.le_of_ble_eq_true rfl), Nat.le_trans (show 64 * dd + 51 ≤ 64 * 2 + 51 by omega) (Nat.le_of_ble_eq_true rfl)⟩ rfl rfl (Nat.le_of_ble_eq_true rfl) ⟨by show kc + 0 ≤ 600000; omega, by show ks + 0 ≤ 7302250; omega⟩ (fun v c1 n1 hp => ?_)
  obtain ⟨⟨h79n, fs1, h79c⟩, ⟨r, rfl⟩, Pm, hCm, hm⟩ := hx v c1 n1 hp
  refine E.goalS (st' := [.int r]) rfl ?_
  refine E.aload_n 2 dL_law_641 rfl ?_
  refine E.aload_n 0 dL_law_642 rfl ?_
  refine E.iload_n 3 dL_law_643 rfl ?_
  refine E.iconst (v := 1) dL_law_644 (by decide) ?_
  refine E.iadd dL_law_645 ?_
  refine E.sld dL_law_646 g1 ?_
  refine E.callV (As := [.int (xs (x3 + 1).toNatClampNeg)]) (rest := [.int r]) dL_law_647 mlL_77 ⟨h79n, h79c⟩ rfl rfl hCm ⟨Nat.le_of_ble_eq_true rfl, Nat.le_of_ble_eq_true rfl⟩ rfl rfl (Nat.le_of_ble_eq_true rfl) ⟨by show kc + 0 + 0 ≤ 600000; omega, by show ks + 0 + 0 ≤ 7302250; omega⟩ (fun v2 c2 n2 hp2 => ?_)
  obtain ⟨rfl, hI2⟩ := hm v2 c2 n2 hp2
  refine E.goalS (st' := [.int r, .int r]) rfl ?_
  refine E.icmp_eq dL_law_650 (fun h => ?_) (fun h => absurd rfl h)
  refine E.widen (kc' := kc + 5) (ks' := ks + 1604) (by omega) (by omega) ?_
  exact hnext c2 n2 hI2
def S15 (G : GT) (b : Nat) (I : Hp → Nat → Prop) : Prop := ∀ a1 a2 a3 : Int32, Stp2 G b I isI yX11_chance cX11_chance 4 (some .int) 5 0 0 yX12_chance cX12_chance 4 5 [.int a1, .int a2, .int a3]
set_option maxHeartbeats 4000000 in
set_option maxRecDepth 100000 in
theorem law_c15 {G : GT} {b bs L : Nat} {xs : Nat → Int32} {I : Hp → Nat → Prop} (hI0 : e_I0 I) (hS : S15 G b I) {x3 : Int32} (g1 : vp_in (x3 + 1) L) (g2 : vp_in (x3 + 2) L) (g3 : vp_in (x3 + 3) L) {c : Hp} {n kc ks : Nat} (hI : I c n) (hkc : kc + 5 ≤ 600000) (hks : ks + 1604 ≤ 7302250) (hnext : ∀ c2 n2, I c2 n2 → E G b x code 4 ret room_1 (e_XL b bs L xs) e_ZL 1486 [(0, .ref bs), (1, .ref (b + 0)), (2, .ref (b + 79)), (3, .int x3)] [] c2 n2 (kc + 5) (ks + 1604)) : E G b x code 4 ret room_1 (e_XL b bs L xs) e_ZL 655 [(0, .ref bs), (1, .ref (b + 0)), (2, .ref (b + 79)), (3, .int x3)] [] c n kc ks := by
  obtain ⟨dd, hdd, Px, hCx, hx⟩ := hS (xs (x3 + 1).toNatClampNeg) (xs (x3 + 2).toNatClampNeg) (xs (x3 + 3).toNatClampNeg) c n hI
  obtain ⟨h0n, fs0, h0c⟩ := hI0 c n hI
  refine E.aload_n 1 dL_law_655 rfl ?_
  refine E.aload_n 0 dL_law_656 rfl ?_
  refine E.iload_n 3 dL_law_657 rfl ?_
  refine E.iconst (v := 1) dL_law_658 (by decide) ?_
  refine E.iadd dL_law_659 ?_
  refine E.sld dL_law_660 g1 ?_
  refine E.aload_n 0 dL_law_661 rfl ?_
  refine E.iload_n 3 dL_law_662 rfl ?_
  refine E.iconst (v := 2) dL_law_663 (by decide) ?_
  refine E.iadd dL_law_664 ?_
  refine E.sld dL_law_665 g2 ?_
  refine E.aload_n 0 dL_law_666 rfl ?_
  refine E.iload_n 3 dL_law_667 rfl ?_
  refine E.iconst (v := 3) dL_law_668 (by decide) ?_
  refine E.iadd dL_law_669 ?_
  refine E.sld dL_law_670 g3 ?_
  refine E.callV (As := [.int (xs (x3 + 1).toNatClampNeg), .int (xs (x3 + 2).toNatClampNeg), .int (xs (x3 + 3).toNatClampNeg)]) (rest := []) dL_law_671 mlL_78 ⟨h0n, h0c⟩ rfl rfl hCx ⟨Nat.le_trans (Nat.succ_le_succ hdd) (Nat.le_of_ble_eq_true rfl), Nat.le_trans (show 64 * dd + 51 ≤ 64 * 5 + 51 by omega) (Nat.le_of_ble_eq_true rfl)⟩ rfl rfl (Nat.le_of_ble_eq_true rfl) ⟨by show kc + 0 ≤ 600000; omega, by show ks + 0 ≤ 7302250; omega⟩ (fun v c1 n1 hp => ?_)
  obtain ⟨⟨h79n, fs1, h79c⟩, ⟨r, rfl⟩, Pm, hCm, hm⟩ := hx v c1 n1 hp
  refine E.goalS (st' := [.int r]) rfl ?_
  refine E.aload_n 2 dL_law_674 rfl ?_
  refine E.aload_n 0 dL_law_675 rfl ?_
  refine E.iload_n 3 dL_law_676 rfl ?_
  refine E.iconst (v := 1) dL_law_677 (by decide) ?_
  refine E.iadd dL_law_678 ?_
  refine E.sld dL_law_679 g1 ?_
  refine E.aload_n 0 dL_law_680 rfl ?_
  refine E.iload_n 3 dL_law_681 rfl ?_
  refine E.iconst (v := 2) dL_law_682 (by decide) ?_
  refine E.iadd dL_law_683 ?_
  refine E.sld dL_law_684 g2 ?_
  refine E.aload_n 0 dL_law_685 rfl ?_
  refine E.iload_n 3 dL_law_686 rfl ?_
  refine E.iconst (v := 3) dL_law_687 (by decide) ?_
  refine E.iadd dL_law_688 ?_
  refine E.sld dL_law_689 g3 ?_
  refine E.callV (As := [.int (xs (x3 + 1).toNatClampNeg), .int (xs (x3 + 2).toNatClampNeg), .int (xs (x3 + 3).toNatClampNeg)]) (rest := [.int r]) dL_law_690 mlL_81 ⟨h79n, h79c⟩ rfl rfl hCm ⟨Nat.le_of_ble_eq_true rfl, Nat.le_of_ble_eq_true rfl⟩ rfl rfl (Nat.le_of_ble_eq_true rfl) ⟨by show kc + 0 + 0 ≤ 600000; omega, by show ks + 0 + 0 ≤ 7302250; omega⟩ (fun v2 c2 n2 hp2 => ?_)
  obtain ⟨rfl, hI2⟩ := hm v2 c2 n2 hp2
  refine E.goalS (st' := [.int r, .int r]) rfl ?_
  refine E.icmp_eq dL_law_693 (fun h => ?_) (fun h => absurd rfl h)
  refine E.widen (kc' := kc + 5) (ks' := ks + 1604) (by omega) (by omega) ?_
  exact hnext c2 n2 hI2
def S16 (G : GT) (b : Nat) (I : Hp → Nat → Prop) : Prop := ∀ a1 a2 : Int32, Stp2 G b I isI yX11_price cX11_price 3 (some .int) 5 0 0 yX12_price cX12_price 3 5 [.int a1, .int a2]
set_option maxHeartbeats 4000000 in
set_option maxRecDepth 100000 in
theorem law_c16 {G : GT} {b bs L : Nat} {xs : Nat → Int32} {I : Hp → Nat → Prop} (hI0 : e_I0 I) (hS : S16 G b I) {x3 : Int32} (g1 : vp_in (x3 + 1) L) (g2 : vp_in (x3 + 2) L) {c : Hp} {n kc ks : Nat} (hI : I c n) (hkc : kc + 5 ≤ 600000) (hks : ks + 1604 ≤ 7302250) (hnext : ∀ c2 n2, I c2 n2 → E G b x code 4 ret room_1 (e_XL b bs L xs) e_ZL 1486 [(0, .ref bs), (1, .ref (b + 0)), (2, .ref (b + 79)), (3, .int x3)] [] c2 n2 (kc + 5) (ks + 1604)) : E G b x code 4 ret room_1 (e_XL b bs L xs) e_ZL 698 [(0, .ref bs), (1, .ref (b + 0)), (2, .ref (b + 79)), (3, .int x3)] [] c n kc ks := by
  obtain ⟨dd, hdd, Px, hCx, hx⟩ := hS (xs (x3 + 1).toNatClampNeg) (xs (x3 + 2).toNatClampNeg) c n hI
  obtain ⟨h0n, fs0, h0c⟩ := hI0 c n hI
  refine E.aload_n 1 dL_law_698 rfl ?_
  refine E.aload_n 0 dL_law_699 rfl ?_
  refine E.iload_n 3 dL_law_700 rfl ?_
  refine E.iconst (v := 1) dL_law_701 (by decide) ?_
  refine E.iadd dL_law_702 ?_
  refine E.sld dL_law_703 g1 ?_
  refine E.aload_n 0 dL_law_704 rfl ?_
  refine E.iload_n 3 dL_law_705 rfl ?_
  refine E.iconst (v := 2) dL_law_706 (by decide) ?_
  refine E.iadd dL_law_707 ?_
  refine E.sld dL_law_708 g2 ?_
  refine E.callV (As := [.int (xs (x3 + 1).toNatClampNeg), .int (xs (x3 + 2).toNatClampNeg)]) (rest := []) dL_law_709 mlL_82 ⟨h0n, h0c⟩ rfl rfl hCx ⟨Nat.le_trans (Nat.succ_le_succ hdd) (Nat.le_of_ble_eq_true rfl), Nat.le_trans (show 64 * dd + 51 ≤ 64 * 5 + 51 by omega) (Nat.le_of_ble_eq_true rfl)⟩ rfl rfl (Nat.le_of_ble_eq_true rfl) ⟨by show kc + 0 ≤ 600000; omega, by show ks + 0 ≤ 7302250; omega⟩ (fun v c1 n1 hp => ?_)
  obtain ⟨⟨h79n, fs1, h79c⟩, ⟨r, rfl⟩, Pm, hCm, hm⟩ := hx v c1 n1 hp
  refine E.goalS (st' := [.int r]) rfl ?_
  refine E.aload_n 2 dL_law_712 rfl ?_
  refine E.aload_n 0 dL_law_713 rfl ?_
  refine E.iload_n 3 dL_law_714 rfl ?_
  refine E.iconst (v := 1) dL_law_715 (by decide) ?_
  refine E.iadd dL_law_716 ?_
  refine E.sld dL_law_717 g1 ?_
  refine E.aload_n 0 dL_law_718 rfl ?_
  refine E.iload_n 3 dL_law_719 rfl ?_
  refine E.iconst (v := 2) dL_law_720 (by decide) ?_
  refine E.iadd dL_law_721 ?_
  refine E.sld dL_law_722 g2 ?_
  refine E.callV (As := [.int (xs (x3 + 1).toNatClampNeg), .int (xs (x3 + 2).toNatClampNeg)]) (rest := [.int r]) dL_law_723 mlL_85 ⟨h79n, h79c⟩ rfl rfl hCm ⟨Nat.le_of_ble_eq_true rfl, Nat.le_of_ble_eq_true rfl⟩ rfl rfl (Nat.le_of_ble_eq_true rfl) ⟨by show kc + 0 + 0 ≤ 600000; omega, by show ks + 0 + 0 ≤ 7302250; omega⟩ (fun v2 c2 n2 hp2 => ?_)
  obtain ⟨rfl, hI2⟩ := hm v2 c2 n2 hp2
  refine E.goalS (st' := [.int r, .int r]) rfl ?_
  refine E.icmp_eq dL_law_726 (fun h => ?_) (fun h => absurd rfl h)
  refine E.widen (kc' := kc + 5) (ks' := ks + 1604) (by omega) (by omega) ?_
  exact hnext c2 n2 hI2
def S17 (G : GT) (b : Nat) (I : Hp → Nat → Prop) : Prop := ∀ a1 : Int32, Stp2 G b I isJ yX11_odds cX11_odds 2 (some .long) 6 0 0 yX12_odds cX12_odds 4 7 [.int a1]
set_option maxHeartbeats 4000000 in
set_option maxRecDepth 100000 in
theorem law_c17 {G : GT} {b bs L : Nat} {xs : Nat → Int32} {I : Hp → Nat → Prop} (hI0 : e_I0 I) (hS : S17 G b I) {x3 : Int32} (g1 : vp_in (x3 + 1) L) {c : Hp} {n kc ks : Nat} (hI : I c n) (hkc : kc + 5 ≤ 600000) (hks : ks + 1604 ≤ 7302250) (hnext : ∀ c2 n2, I c2 n2 → E G b x code 4 ret room_1 (e_XL b bs L xs) e_ZL 1486 [(0, .ref bs), (1, .ref (b + 0)), (2, .ref (b + 79)), (3, .int x3)] [] c2 n2 (kc + 5) (ks + 1604)) : E G b x code 4 ret room_1 (e_XL b bs L xs) e_ZL 731 [(0, .ref bs), (1, .ref (b + 0)), (2, .ref (b + 79)), (3, .int x3)] [] c n kc ks := by
  obtain ⟨dd, hdd, Px, hCx, hx⟩ := hS (xs (x3 + 1).toNatClampNeg) c n hI
  obtain ⟨h0n, fs0, h0c⟩ := hI0 c n hI
  refine E.aload_n 1 dL_law_731 rfl ?_
  refine E.aload_n 0 dL_law_732 rfl ?_
  refine E.iload_n 3 dL_law_733 rfl ?_
  refine E.iconst (v := 1) dL_law_734 (by decide) ?_
  refine E.iadd dL_law_735 ?_
  refine E.sld dL_law_736 g1 ?_
  refine E.callV (As := [.int (xs (x3 + 1).toNatClampNeg)]) (rest := []) dL_law_737 mlL_86 ⟨h0n, h0c⟩ rfl rfl hCx ⟨Nat.le_trans (Nat.succ_le_succ hdd) (Nat.le_of_ble_eq_true rfl), Nat.le_trans (show 64 * dd + 51 ≤ 64 * 6 + 51 by omega) (Nat.le_of_ble_eq_true rfl)⟩ rfl rfl (Nat.le_of_ble_eq_true rfl) ⟨by show kc + 0 ≤ 600000; omega, by show ks + 0 ≤ 7302250; omega⟩ (fun v c1 n1 hp => ?_)
  obtain ⟨⟨h79n, fs1, h79c⟩, ⟨r, rfl⟩, Pm, hCm, hm⟩ := hx v c1 n1 hp
  refine E.goalS (st' := [.long r]) rfl ?_
  refine E.aload_n 2 dL_law_740 rfl ?_
  refine E.aload_n 0 dL_law_741 rfl ?_
  refine E.iload_n 3 dL_law_742 rfl ?_
  refine E.iconst (v := 1) dL_law_743 (by decide) ?_
  refine E.iadd dL_law_744 ?_
  refine E.sld dL_law_745 g1 ?_
  refine E.callV (As := [.int (xs (x3 + 1).toNatClampNeg)]) (rest := [.long r]) dL_law_746 mlL_90 ⟨h79n, h79c⟩ rfl rfl hCm ⟨Nat.le_of_ble_eq_true rfl, Nat.le_of_ble_eq_true rfl⟩ rfl rfl (Nat.le_of_ble_eq_true rfl) ⟨by show kc + 0 + 0 ≤ 600000; omega, by show ks + 0 + 0 ≤ 7302250; omega⟩ (fun v2 c2 n2 hp2 => ?_)
  obtain ⟨rfl, hI2⟩ := hm v2 c2 n2 hp2
  refine E.goalS (st' := [.long r, .long r]) rfl ?_
  refine E.lc_eq dL_law_749 dL_law_750 (fun h => ?_) (fun h => absurd rfl h)
  refine E.widen (kc' := kc + 5) (ks' := ks + 1604) (by omega) (by omega) ?_
  exact hnext c2 n2 hI2
def S18 (G : GT) (b : Nat) (I : Hp → Nat → Prop) : Prop := ∀ a1 : Int32, Stp2 G b I isJ yX11_tips cX11_tips 2 (some .long) 6 0 0 yX12_tips cX12_tips 2 7 [.int a1]
set_option maxHeartbeats 4000000 in
set_option maxRecDepth 100000 in
theorem law_c18 {G : GT} {b bs L : Nat} {xs : Nat → Int32} {I : Hp → Nat → Prop} (hI0 : e_I0 I) (hS : S18 G b I) {x3 : Int32} (g1 : vp_in (x3 + 1) L) {c : Hp} {n kc ks : Nat} (hI : I c n) (hkc : kc + 5 ≤ 600000) (hks : ks + 1604 ≤ 7302250) (hnext : ∀ c2 n2, I c2 n2 → E G b x code 4 ret room_1 (e_XL b bs L xs) e_ZL 1486 [(0, .ref bs), (1, .ref (b + 0)), (2, .ref (b + 79)), (3, .int x3)] [] c2 n2 (kc + 5) (ks + 1604)) : E G b x code 4 ret room_1 (e_XL b bs L xs) e_ZL 755 [(0, .ref bs), (1, .ref (b + 0)), (2, .ref (b + 79)), (3, .int x3)] [] c n kc ks := by
  obtain ⟨dd, hdd, Px, hCx, hx⟩ := hS (xs (x3 + 1).toNatClampNeg) c n hI
  obtain ⟨h0n, fs0, h0c⟩ := hI0 c n hI
  refine E.aload_n 1 dL_law_755 rfl ?_
  refine E.aload_n 0 dL_law_756 rfl ?_
  refine E.iload_n 3 dL_law_757 rfl ?_
  refine E.iconst (v := 1) dL_law_758 (by decide) ?_
  refine E.iadd dL_law_759 ?_
  refine E.sld dL_law_760 g1 ?_
  refine E.callV (As := [.int (xs (x3 + 1).toNatClampNeg)]) (rest := []) dL_law_761 mlL_91 ⟨h0n, h0c⟩ rfl rfl hCx ⟨Nat.le_trans (Nat.succ_le_succ hdd) (Nat.le_of_ble_eq_true rfl), Nat.le_trans (show 64 * dd + 51 ≤ 64 * 6 + 51 by omega) (Nat.le_of_ble_eq_true rfl)⟩ rfl rfl (Nat.le_of_ble_eq_true rfl) ⟨by show kc + 0 ≤ 600000; omega, by show ks + 0 ≤ 7302250; omega⟩ (fun v c1 n1 hp => ?_)
  obtain ⟨⟨h79n, fs1, h79c⟩, ⟨r, rfl⟩, Pm, hCm, hm⟩ := hx v c1 n1 hp
  refine E.goalS (st' := [.long r]) rfl ?_
  refine E.aload_n 2 dL_law_764 rfl ?_
  refine E.aload_n 0 dL_law_765 rfl ?_
  refine E.iload_n 3 dL_law_766 rfl ?_
  refine E.iconst (v := 1) dL_law_767 (by decide) ?_
  refine E.iadd dL_law_768 ?_
  refine E.sld dL_law_769 g1 ?_
  refine E.callV (As := [.int (xs (x3 + 1).toNatClampNeg)]) (rest := [.long r]) dL_law_770 mlL_94 ⟨h79n, h79c⟩ rfl rfl hCm ⟨Nat.le_of_ble_eq_true rfl, Nat.le_of_ble_eq_true rfl⟩ rfl rfl (Nat.le_of_ble_eq_true rfl) ⟨by show kc + 0 + 0 ≤ 600000; omega, by show ks + 0 + 0 ≤ 7302250; omega⟩ (fun v2 c2 n2 hp2 => ?_)
  obtain ⟨rfl, hI2⟩ := hm v2 c2 n2 hp2
  refine E.goalS (st' := [.long r, .long r]) rfl ?_
  refine E.lc_eq dL_law_773 dL_law_774 (fun h => ?_) (fun h => absurd rfl h)
  refine E.widen (kc' := kc + 5) (ks' := ks + 1604) (by omega) (by omega) ?_
  exact hnext c2 n2 hI2
def S19 (G : GT) (b : Nat) (I : Hp → Nat → Prop) : Prop := ∀ a1 a2 : Int32, Stp2 G b I isJ yX11_bribed cX11_bribed 3 (some .long) 6 0 0 yX12_bribed cX12_bribed 3 8 [.int a1, .int a2]
set_option maxHeartbeats 4000000 in
set_option maxRecDepth 100000 in
theorem law_c19 {G : GT} {b bs L : Nat} {xs : Nat → Int32} {I : Hp → Nat → Prop} (hI0 : e_I0 I) (hS : S19 G b I) {x3 : Int32} (g1 : vp_in (x3 + 1) L) (g2 : vp_in (x3 + 2) L) {c : Hp} {n kc ks : Nat} (hI : I c n) (hkc : kc + 5 ≤ 600000) (hks : ks + 1604 ≤ 7302250) (hnext : ∀ c2 n2, I c2 n2 → E G b x code 4 ret room_1 (e_XL b bs L xs) e_ZL 1486 [(0, .ref bs), (1, .ref (b + 0)), (2, .ref (b + 79)), (3, .int x3)] [] c2 n2 (kc + 5) (ks + 1604)) : E G b x code 4 ret room_1 (e_XL b bs L xs) e_ZL 779 [(0, .ref bs), (1, .ref (b + 0)), (2, .ref (b + 79)), (3, .int x3)] [] c n kc ks := by
  obtain ⟨dd, hdd, Px, hCx, hx⟩ := hS (xs (x3 + 1).toNatClampNeg) (xs (x3 + 2).toNatClampNeg) c n hI
  obtain ⟨h0n, fs0, h0c⟩ := hI0 c n hI
  refine E.aload_n 1 dL_law_779 rfl ?_
  refine E.aload_n 0 dL_law_780 rfl ?_
  refine E.iload_n 3 dL_law_781 rfl ?_
  refine E.iconst (v := 1) dL_law_782 (by decide) ?_
  refine E.iadd dL_law_783 ?_
  refine E.sld dL_law_784 g1 ?_
  refine E.aload_n 0 dL_law_785 rfl ?_
  refine E.iload_n 3 dL_law_786 rfl ?_
  refine E.iconst (v := 2) dL_law_787 (by decide) ?_
  refine E.iadd dL_law_788 ?_
  refine E.sld dL_law_789 g2 ?_
  refine E.callV (As := [.int (xs (x3 + 1).toNatClampNeg), .int (xs (x3 + 2).toNatClampNeg)]) (rest := []) dL_law_790 mlL_95 ⟨h0n, h0c⟩ rfl rfl hCx ⟨Nat.le_trans (Nat.succ_le_succ hdd) (Nat.le_of_ble_eq_true rfl), Nat.le_trans (show 64 * dd + 51 ≤ 64 * 6 + 51 by omega) (Nat.le_of_ble_eq_true rfl)⟩ rfl rfl (Nat.le_of_ble_eq_true rfl) ⟨by show kc + 0 ≤ 600000; omega, by show ks + 0 ≤ 7302250; omega⟩ (fun v c1 n1 hp => ?_)
  obtain ⟨⟨h79n, fs1, h79c⟩, ⟨r, rfl⟩, Pm, hCm, hm⟩ := hx v c1 n1 hp
  refine E.goalS (st' := [.long r]) rfl ?_
  refine E.aload_n 2 dL_law_793 rfl ?_
  refine E.aload_n 0 dL_law_794 rfl ?_
  refine E.iload_n 3 dL_law_795 rfl ?_
  refine E.iconst (v := 1) dL_law_796 (by decide) ?_
  refine E.iadd dL_law_797 ?_
  refine E.sld dL_law_798 g1 ?_
  refine E.aload_n 0 dL_law_799 rfl ?_
  refine E.iload_n 3 dL_law_800 rfl ?_
  refine E.iconst (v := 2) dL_law_801 (by decide) ?_
  refine E.iadd dL_law_802 ?_
  refine E.sld dL_law_803 g2 ?_
  refine E.callV (As := [.int (xs (x3 + 1).toNatClampNeg), .int (xs (x3 + 2).toNatClampNeg)]) (rest := [.long r]) dL_law_804 mlL_99 ⟨h79n, h79c⟩ rfl rfl hCm ⟨Nat.le_of_ble_eq_true rfl, Nat.le_of_ble_eq_true rfl⟩ rfl rfl (Nat.le_of_ble_eq_true rfl) ⟨by show kc + 0 + 0 ≤ 600000; omega, by show ks + 0 + 0 ≤ 7302250; omega⟩ (fun v2 c2 n2 hp2 => ?_)
  obtain ⟨rfl, hI2⟩ := hm v2 c2 n2 hp2
  refine E.goalS (st' := [.long r, .long r]) rfl ?_
  refine E.lc_eq dL_law_807 dL_law_808 (fun h => ?_) (fun h => absurd rfl h)
  refine E.widen (kc' := kc + 5) (ks' := ks + 1604) (by omega) (by omega) ?_
  exact hnext c2 n2 hI2
def S20 (G : GT) (b : Nat) (I : Hp → Nat → Prop) : Prop := ∀ a1 a2 a3 : Int32, Stp2 G b I isI yX11_reply cX11_reply 4 (some .int) 6 0 0 yX12_reply cX12_reply 5 8 [.int a1, .int a2, .int a3]
set_option maxHeartbeats 4000000 in
set_option maxRecDepth 100000 in
theorem law_c20 {G : GT} {b bs L : Nat} {xs : Nat → Int32} {I : Hp → Nat → Prop} (hI0 : e_I0 I) (hS : S20 G b I) {x3 : Int32} (g1 : vp_in (x3 + 1) L) (g2 : vp_in (x3 + 2) L) (g3 : vp_in (x3 + 3) L) {c : Hp} {n kc ks : Nat} (hI : I c n) (hkc : kc + 5 ≤ 600000) (hks : ks + 1604 ≤ 7302250) (hnext : ∀ c2 n2, I c2 n2 → E G b x code 4 ret room_1 (e_XL b bs L xs) e_ZL 1486 [(0, .ref bs), (1, .ref (b + 0)), (2, .ref (b + 79)), (3, .int x3)] [] c2 n2 (kc + 5) (ks + 1604)) : E G b x code 4 ret room_1 (e_XL b bs L xs) e_ZL 813 [(0, .ref bs), (1, .ref (b + 0)), (2, .ref (b + 79)), (3, .int x3)] [] c n kc ks := by
  obtain ⟨dd, hdd, Px, hCx, hx⟩ := hS (xs (x3 + 1).toNatClampNeg) (xs (x3 + 2).toNatClampNeg) (xs (x3 + 3).toNatClampNeg) c n hI
  obtain ⟨h0n, fs0, h0c⟩ := hI0 c n hI
  refine E.aload_n 1 dL_law_813 rfl ?_
  refine E.aload_n 0 dL_law_814 rfl ?_
  refine E.iload_n 3 dL_law_815 rfl ?_
  refine E.iconst (v := 1) dL_law_816 (by decide) ?_
  refine E.iadd dL_law_817 ?_
  refine E.sld dL_law_818 g1 ?_
  refine E.aload_n 0 dL_law_819 rfl ?_
  refine E.iload_n 3 dL_law_820 rfl ?_
  refine E.iconst (v := 2) dL_law_821 (by decide) ?_
  refine E.iadd dL_law_822 ?_
  refine E.sld dL_law_823 g2 ?_
  refine E.aload_n 0 dL_law_824 rfl ?_
  refine E.iload_n 3 dL_law_825 rfl ?_
  refine E.iconst (v := 3) dL_law_826 (by decide) ?_
  refine E.iadd dL_law_827 ?_
  refine E.sld dL_law_828 g3 ?_
  refine E.callV (As := [.int (xs (x3 + 1).toNatClampNeg), .int (xs (x3 + 2).toNatClampNeg), .int (xs (x3 + 3).toNatClampNeg)]) (rest := []) dL_law_829 mlL_100 ⟨h0n, h0c⟩ rfl rfl hCx ⟨Nat.le_trans (Nat.succ_le_succ hdd) (Nat.le_of_ble_eq_true rfl), Nat.le_trans (show 64 * dd + 51 ≤ 64 * 6 + 51 by omega) (Nat.le_of_ble_eq_true rfl)⟩ rfl rfl (Nat.le_of_ble_eq_true rfl) ⟨by show kc + 0 ≤ 600000; omega, by show ks + 0 ≤ 7302250; omega⟩ (fun v c1 n1 hp => ?_)
  obtain ⟨⟨h79n, fs1, h79c⟩, ⟨r, rfl⟩, Pm, hCm, hm⟩ := hx v c1 n1 hp
  refine E.goalS (st' := [.int r]) rfl ?_
  refine E.aload_n 2 dL_law_832 rfl ?_
  refine E.aload_n 0 dL_law_833 rfl ?_
  refine E.iload_n 3 dL_law_834 rfl ?_
  refine E.iconst (v := 1) dL_law_835 (by decide) ?_
  refine E.iadd dL_law_836 ?_
  refine E.sld dL_law_837 g1 ?_
  refine E.aload_n 0 dL_law_838 rfl ?_
  refine E.iload_n 3 dL_law_839 rfl ?_
  refine E.iconst (v := 2) dL_law_840 (by decide) ?_
  refine E.iadd dL_law_841 ?_
  refine E.sld dL_law_842 g2 ?_
  refine E.aload_n 0 dL_law_843 rfl ?_
  refine E.iload_n 3 dL_law_844 rfl ?_
  refine E.iconst (v := 3) dL_law_845 (by decide) ?_
  refine E.iadd dL_law_846 ?_
  refine E.sld dL_law_847 g3 ?_
  refine E.callV (As := [.int (xs (x3 + 1).toNatClampNeg), .int (xs (x3 + 2).toNatClampNeg), .int (xs (x3 + 3).toNatClampNeg)]) (rest := [.int r]) dL_law_848 mlL_103 ⟨h79n, h79c⟩ rfl rfl hCm ⟨Nat.le_of_ble_eq_true rfl, Nat.le_of_ble_eq_true rfl⟩ rfl rfl (Nat.le_of_ble_eq_true rfl) ⟨by show kc + 0 + 0 ≤ 600000; omega, by show ks + 0 + 0 ≤ 7302250; omega⟩ (fun v2 c2 n2 hp2 => ?_)
  obtain ⟨rfl, hI2⟩ := hm v2 c2 n2 hp2
  refine E.goalS (st' := [.int r, .int r]) rfl ?_
  refine E.icmp_eq dL_law_851 (fun h => ?_) (fun h => absurd rfl h)
  refine E.widen (kc' := kc + 5) (ks' := ks + 1604) (by omega) (by omega) ?_
  exact hnext c2 n2 hI2
def S21 (G : GT) (b : Nat) (I : Hp → Nat → Prop) : Prop := ∀ a1 a2 : Int32, Stp2 G b I isI yX11_sure cX11_sure 3 (some .int) 13 0 0 yX12_sure cX12_sure 4 10 [.int a1, .int a2]
set_option maxHeartbeats 4000000 in
set_option maxRecDepth 100000 in
theorem law_c21 {G : GT} {b bs L : Nat} {xs : Nat → Int32} {I : Hp → Nat → Prop} (hI0 : e_I0 I) (hS : S21 G b I) {x3 : Int32} (g1 : vp_in (x3 + 1) L) (g2 : vp_in (x3 + 2) L) {c : Hp} {n kc ks : Nat} (hI : I c n) (hkc : kc + 5 ≤ 600000) (hks : ks + 1604 ≤ 7302250) (hnext : ∀ c2 n2, I c2 n2 → E G b x code 4 ret room_1 (e_XL b bs L xs) e_ZL 1486 [(0, .ref bs), (1, .ref (b + 0)), (2, .ref (b + 79)), (3, .int x3)] [] c2 n2 (kc + 5) (ks + 1604)) : E G b x code 4 ret room_1 (e_XL b bs L xs) e_ZL 856 [(0, .ref bs), (1, .ref (b + 0)), (2, .ref (b + 79)), (3, .int x3)] [] c n kc ks := by
  obtain ⟨dd, hdd, Px, hCx, hx⟩ := hS (xs (x3 + 1).toNatClampNeg) (xs (x3 + 2).toNatClampNeg) c n hI
  obtain ⟨h0n, fs0, h0c⟩ := hI0 c n hI
  refine E.aload_n 1 dL_law_856 rfl ?_
  refine E.aload_n 0 dL_law_857 rfl ?_
  refine E.iload_n 3 dL_law_858 rfl ?_
  refine E.iconst (v := 1) dL_law_859 (by decide) ?_
  refine E.iadd dL_law_860 ?_
  refine E.sld dL_law_861 g1 ?_
  refine E.aload_n 0 dL_law_862 rfl ?_
  refine E.iload_n 3 dL_law_863 rfl ?_
  refine E.iconst (v := 2) dL_law_864 (by decide) ?_
  refine E.iadd dL_law_865 ?_
  refine E.sld dL_law_866 g2 ?_
  refine E.callV (As := [.int (xs (x3 + 1).toNatClampNeg), .int (xs (x3 + 2).toNatClampNeg)]) (rest := []) dL_law_867 mlL_104 ⟨h0n, h0c⟩ rfl rfl hCx ⟨Nat.le_trans (Nat.succ_le_succ hdd) (Nat.le_of_ble_eq_true rfl), Nat.le_trans (show 64 * dd + 51 ≤ 64 * 13 + 51 by omega) (Nat.le_of_ble_eq_true rfl)⟩ rfl rfl (Nat.le_of_ble_eq_true rfl) ⟨by show kc + 0 ≤ 600000; omega, by show ks + 0 ≤ 7302250; omega⟩ (fun v c1 n1 hp => ?_)
  obtain ⟨⟨h79n, fs1, h79c⟩, ⟨r, rfl⟩, Pm, hCm, hm⟩ := hx v c1 n1 hp
  refine E.goalS (st' := [.int r]) rfl ?_
  refine E.aload_n 2 dL_law_870 rfl ?_
  refine E.aload_n 0 dL_law_871 rfl ?_
  refine E.iload_n 3 dL_law_872 rfl ?_
  refine E.iconst (v := 1) dL_law_873 (by decide) ?_
  refine E.iadd dL_law_874 ?_
  refine E.sld dL_law_875 g1 ?_
  refine E.aload_n 0 dL_law_876 rfl ?_
  refine E.iload_n 3 dL_law_877 rfl ?_
  refine E.iconst (v := 2) dL_law_878 (by decide) ?_
  refine E.iadd dL_law_879 ?_
  refine E.sld dL_law_880 g2 ?_
  refine E.callV (As := [.int (xs (x3 + 1).toNatClampNeg), .int (xs (x3 + 2).toNatClampNeg)]) (rest := [.int r]) dL_law_881 mlL_107 ⟨h79n, h79c⟩ rfl rfl hCm ⟨Nat.le_of_ble_eq_true rfl, Nat.le_of_ble_eq_true rfl⟩ rfl rfl (Nat.le_of_ble_eq_true rfl) ⟨by show kc + 0 + 0 ≤ 600000; omega, by show ks + 0 + 0 ≤ 7302250; omega⟩ (fun v2 c2 n2 hp2 => ?_)
  obtain ⟨rfl, hI2⟩ := hm v2 c2 n2 hp2
  refine E.goalS (st' := [.int r, .int r]) rfl ?_
  refine E.icmp_eq dL_law_884 (fun h => ?_) (fun h => absurd rfl h)
  refine E.widen (kc' := kc + 5) (ks' := ks + 1604) (by omega) (by omega) ?_
  exact hnext c2 n2 hI2
def S22 (G : GT) (b : Nat) (I : Hp → Nat → Prop) : Prop := ∀ a1 : Int32, Stp2 G b I isJ yX11_value cX11_value 2 (some .long) 13 0 0 yX12_value cX12_value 3 10 [.int a1]
set_option maxHeartbeats 4000000 in
set_option maxRecDepth 100000 in
theorem law_c22 {G : GT} {b bs L : Nat} {xs : Nat → Int32} {I : Hp → Nat → Prop} (hI0 : e_I0 I) (hS : S22 G b I) {x3 : Int32} (g1 : vp_in (x3 + 1) L) {c : Hp} {n kc ks : Nat} (hI : I c n) (hkc : kc + 5 ≤ 600000) (hks : ks + 1604 ≤ 7302250) (hnext : ∀ c2 n2, I c2 n2 → E G b x code 4 ret room_1 (e_XL b bs L xs) e_ZL 1486 [(0, .ref bs), (1, .ref (b + 0)), (2, .ref (b + 79)), (3, .int x3)] [] c2 n2 (kc + 5) (ks + 1604)) : E G b x code 4 ret room_1 (e_XL b bs L xs) e_ZL 889 [(0, .ref bs), (1, .ref (b + 0)), (2, .ref (b + 79)), (3, .int x3)] [] c n kc ks := by
  obtain ⟨dd, hdd, Px, hCx, hx⟩ := hS (xs (x3 + 1).toNatClampNeg) c n hI
  obtain ⟨h0n, fs0, h0c⟩ := hI0 c n hI
  refine E.aload_n 1 dL_law_889 rfl ?_
  refine E.aload_n 0 dL_law_890 rfl ?_
  refine E.iload_n 3 dL_law_891 rfl ?_
  refine E.iconst (v := 1) dL_law_892 (by decide) ?_
  refine E.iadd dL_law_893 ?_
  refine E.sld dL_law_894 g1 ?_
  refine E.callV (As := [.int (xs (x3 + 1).toNatClampNeg)]) (rest := []) dL_law_895 mlL_108 ⟨h0n, h0c⟩ rfl rfl hCx ⟨Nat.le_trans (Nat.succ_le_succ hdd) (Nat.le_of_ble_eq_true rfl), Nat.le_trans (show 64 * dd + 51 ≤ 64 * 13 + 51 by omega) (Nat.le_of_ble_eq_true rfl)⟩ rfl rfl (Nat.le_of_ble_eq_true rfl) ⟨by show kc + 0 ≤ 600000; omega, by show ks + 0 ≤ 7302250; omega⟩ (fun v c1 n1 hp => ?_)
  obtain ⟨⟨h79n, fs1, h79c⟩, ⟨r, rfl⟩, Pm, hCm, hm⟩ := hx v c1 n1 hp
  refine E.goalS (st' := [.long r]) rfl ?_
  refine E.aload_n 2 dL_law_898 rfl ?_
  refine E.aload_n 0 dL_law_899 rfl ?_
  refine E.iload_n 3 dL_law_900 rfl ?_
  refine E.iconst (v := 1) dL_law_901 (by decide) ?_
  refine E.iadd dL_law_902 ?_
  refine E.sld dL_law_903 g1 ?_
  refine E.callV (As := [.int (xs (x3 + 1).toNatClampNeg)]) (rest := [.long r]) dL_law_904 mlL_111 ⟨h79n, h79c⟩ rfl rfl hCm ⟨Nat.le_of_ble_eq_true rfl, Nat.le_of_ble_eq_true rfl⟩ rfl rfl (Nat.le_of_ble_eq_true rfl) ⟨by show kc + 0 + 0 ≤ 600000; omega, by show ks + 0 + 0 ≤ 7302250; omega⟩ (fun v2 c2 n2 hp2 => ?_)
  obtain ⟨rfl, hI2⟩ := hm v2 c2 n2 hp2
  refine E.goalS (st' := [.long r, .long r]) rfl ?_
  refine E.lc_eq dL_law_907 dL_law_908 (fun h => ?_) (fun h => absurd rfl h)
  refine E.widen (kc' := kc + 5) (ks' := ks + 1604) (by omega) (by omega) ?_
  exact hnext c2 n2 hI2
def S23 (G : GT) (b : Nat) (I : Hp → Nat → Prop) : Prop := ∀ a1 : Int32, Stp2 G b I isI yX11_saddle cX11_saddle 4 (some .int) 13 0 0 yX12_saddle cX12_saddle 6 9 [.int a1]
set_option maxHeartbeats 4000000 in
set_option maxRecDepth 100000 in
theorem law_c23 {G : GT} {b bs L : Nat} {xs : Nat → Int32} {I : Hp → Nat → Prop} (hI0 : e_I0 I) (hS : S23 G b I) {x3 : Int32} (g1 : vp_in (x3 + 1) L) {c : Hp} {n kc ks : Nat} (hI : I c n) (hkc : kc + 5 ≤ 600000) (hks : ks + 1604 ≤ 7302250) (hnext : ∀ c2 n2, I c2 n2 → E G b x code 4 ret room_1 (e_XL b bs L xs) e_ZL 1486 [(0, .ref bs), (1, .ref (b + 0)), (2, .ref (b + 79)), (3, .int x3)] [] c2 n2 (kc + 5) (ks + 1604)) : E G b x code 4 ret room_1 (e_XL b bs L xs) e_ZL 913 [(0, .ref bs), (1, .ref (b + 0)), (2, .ref (b + 79)), (3, .int x3)] [] c n kc ks := by
  obtain ⟨dd, hdd, Px, hCx, hx⟩ := hS (xs (x3 + 1).toNatClampNeg) c n hI
  obtain ⟨h0n, fs0, h0c⟩ := hI0 c n hI
  refine E.aload_n 1 dL_law_913 rfl ?_
  refine E.aload_n 0 dL_law_914 rfl ?_
  refine E.iload_n 3 dL_law_915 rfl ?_
  refine E.iconst (v := 1) dL_law_916 (by decide) ?_
  refine E.iadd dL_law_917 ?_
  refine E.sld dL_law_918 g1 ?_
  refine E.callV (As := [.int (xs (x3 + 1).toNatClampNeg)]) (rest := []) dL_law_919 mlL_112 ⟨h0n, h0c⟩ rfl rfl hCx ⟨Nat.le_trans (Nat.succ_le_succ hdd) (Nat.le_of_ble_eq_true rfl), Nat.le_trans (show 64 * dd + 51 ≤ 64 * 13 + 51 by omega) (Nat.le_of_ble_eq_true rfl)⟩ rfl rfl (Nat.le_of_ble_eq_true rfl) ⟨by show kc + 0 ≤ 600000; omega, by show ks + 0 ≤ 7302250; omega⟩ (fun v c1 n1 hp => ?_)
  obtain ⟨⟨h79n, fs1, h79c⟩, ⟨r, rfl⟩, Pm, hCm, hm⟩ := hx v c1 n1 hp
  refine E.goalS (st' := [.int r]) rfl ?_
  refine E.aload_n 2 dL_law_922 rfl ?_
  refine E.aload_n 0 dL_law_923 rfl ?_
  refine E.iload_n 3 dL_law_924 rfl ?_
  refine E.iconst (v := 1) dL_law_925 (by decide) ?_
  refine E.iadd dL_law_926 ?_
  refine E.sld dL_law_927 g1 ?_
  refine E.callV (As := [.int (xs (x3 + 1).toNatClampNeg)]) (rest := [.int r]) dL_law_928 mlL_115 ⟨h79n, h79c⟩ rfl rfl hCm ⟨Nat.le_of_ble_eq_true rfl, Nat.le_of_ble_eq_true rfl⟩ rfl rfl (Nat.le_of_ble_eq_true rfl) ⟨by show kc + 0 + 0 ≤ 600000; omega, by show ks + 0 + 0 ≤ 7302250; omega⟩ (fun v2 c2 n2 hp2 => ?_)
  obtain ⟨rfl, hI2⟩ := hm v2 c2 n2 hp2
  refine E.goalS (st' := [.int r, .int r]) rfl ?_
  refine E.icmp_eq dL_law_931 (fun h => ?_) (fun h => absurd rfl h)
  refine E.widen (kc' := kc + 5) (ks' := ks + 1604) (by omega) (by omega) ?_
  exact hnext c2 n2 hI2
def S24 (G : GT) (b : Nat) (I : Hp → Nat → Prop) : Prop := ∀ a1 a2 a3 : Int32, Stp2 G b I isI yX11_enough cX11_enough 4 (some .int) 6 0 0 yX12_enough cX12_enough 10 8 [.int a1, .int a2, .int a3]
set_option maxHeartbeats 4000000 in
set_option maxRecDepth 100000 in
theorem law_c24 {G : GT} {b bs L : Nat} {xs : Nat → Int32} {I : Hp → Nat → Prop} (hI0 : e_I0 I) (hS : S24 G b I) {x3 : Int32} (g1 : vp_in (x3 + 1) L) (g2 : vp_in (x3 + 2) L) (g3 : vp_in (x3 + 3) L) {c : Hp} {n kc ks : Nat} (hI : I c n) (hkc : kc + 5 ≤ 600000) (hks : ks + 1604 ≤ 7302250) (hnext : ∀ c2 n2, I c2 n2 → E G b x code 4 ret room_1 (e_XL b bs L xs) e_ZL 1486 [(0, .ref bs), (1, .ref (b + 0)), (2, .ref (b + 79)), (3, .int x3)] [] c2 n2 (kc + 5) (ks + 1604)) : E G b x code 4 ret room_1 (e_XL b bs L xs) e_ZL 936 [(0, .ref bs), (1, .ref (b + 0)), (2, .ref (b + 79)), (3, .int x3)] [] c n kc ks := by
  obtain ⟨dd, hdd, Px, hCx, hx⟩ := hS (xs (x3 + 1).toNatClampNeg) (xs (x3 + 2).toNatClampNeg) (xs (x3 + 3).toNatClampNeg) c n hI
  obtain ⟨h0n, fs0, h0c⟩ := hI0 c n hI
  refine E.aload_n 1 dL_law_936 rfl ?_
  refine E.aload_n 0 dL_law_937 rfl ?_
  refine E.iload_n 3 dL_law_938 rfl ?_
  refine E.iconst (v := 1) dL_law_939 (by decide) ?_
  refine E.iadd dL_law_940 ?_
  refine E.sld dL_law_941 g1 ?_
  refine E.aload_n 0 dL_law_942 rfl ?_
  refine E.iload_n 3 dL_law_943 rfl ?_
  refine E.iconst (v := 2) dL_law_944 (by decide) ?_
  refine E.iadd dL_law_945 ?_
  refine E.sld dL_law_946 g2 ?_
  refine E.aload_n 0 dL_law_947 rfl ?_
  refine E.iload_n 3 dL_law_948 rfl ?_
  refine E.iconst (v := 3) dL_law_949 (by decide) ?_
  refine E.iadd dL_law_950 ?_
  refine E.sld dL_law_951 g3 ?_
  refine E.callV (As := [.int (xs (x3 + 1).toNatClampNeg), .int (xs (x3 + 2).toNatClampNeg), .int (xs (x3 + 3).toNatClampNeg)]) (rest := []) dL_law_952 mlL_116 ⟨h0n, h0c⟩ rfl rfl hCx ⟨Nat.le_trans (Nat.succ_le_succ hdd) (Nat.le_of_ble_eq_true rfl), Nat.le_trans (show 64 * dd + 51 ≤ 64 * 6 + 51 by omega) (Nat.le_of_ble_eq_true rfl)⟩ rfl rfl (Nat.le_of_ble_eq_true rfl) ⟨by show kc + 0 ≤ 600000; omega, by show ks + 0 ≤ 7302250; omega⟩ (fun v c1 n1 hp => ?_)
  obtain ⟨⟨h79n, fs1, h79c⟩, ⟨r, rfl⟩, Pm, hCm, hm⟩ := hx v c1 n1 hp
  refine E.goalS (st' := [.int r]) rfl ?_
  refine E.aload_n 2 dL_law_955 rfl ?_
  refine E.aload_n 0 dL_law_956 rfl ?_
  refine E.iload_n 3 dL_law_957 rfl ?_
  refine E.iconst (v := 1) dL_law_958 (by decide) ?_
  refine E.iadd dL_law_959 ?_
  refine E.sld dL_law_960 g1 ?_
  refine E.aload_n 0 dL_law_961 rfl ?_
  refine E.iload_n 3 dL_law_962 rfl ?_
  refine E.iconst (v := 2) dL_law_963 (by decide) ?_
  refine E.iadd dL_law_964 ?_
  refine E.sld dL_law_965 g2 ?_
  refine E.aload_n 0 dL_law_966 rfl ?_
  refine E.iload_n 3 dL_law_967 rfl ?_
  refine E.iconst (v := 3) dL_law_968 (by decide) ?_
  refine E.iadd dL_law_969 ?_
  refine E.sld dL_law_970 g3 ?_
  refine E.callV (As := [.int (xs (x3 + 1).toNatClampNeg), .int (xs (x3 + 2).toNatClampNeg), .int (xs (x3 + 3).toNatClampNeg)]) (rest := [.int r]) dL_law_971 mlL_119 ⟨h79n, h79c⟩ rfl rfl hCm ⟨Nat.le_of_ble_eq_true rfl, Nat.le_of_ble_eq_true rfl⟩ rfl rfl (Nat.le_of_ble_eq_true rfl) ⟨by show kc + 0 + 0 ≤ 600000; omega, by show ks + 0 + 0 ≤ 7302250; omega⟩ (fun v2 c2 n2 hp2 => ?_)
  obtain ⟨rfl, hI2⟩ := hm v2 c2 n2 hp2
  refine E.goalS (st' := [.int r, .int r]) rfl ?_
  refine E.icmp_eq dL_law_974 (fun h => ?_) (fun h => absurd rfl h)
  refine E.widen (kc' := kc + 5) (ks' := ks + 1604) (by omega) (by omega) ?_
  exact hnext c2 n2 hI2
def S25 (G : GT) (b : Nat) (I : Hp → Nat → Prop) : Prop := ∀ a1 a2 : Int32, Stp2 G b I isI yX11_bribe cX11_bribe 5 (some .int) 6 0 0 yX12_bribe cX12_bribe 5 6 [.int a1, .int a2]
set_option maxHeartbeats 4000000 in
set_option maxRecDepth 100000 in
theorem law_c25 {G : GT} {b bs L : Nat} {xs : Nat → Int32} {I : Hp → Nat → Prop} (hI0 : e_I0 I) (hS : S25 G b I) {x3 : Int32} (g1 : vp_in (x3 + 1) L) (g2 : vp_in (x3 + 2) L) {c : Hp} {n kc ks : Nat} (hI : I c n) (hkc : kc + 5 ≤ 600000) (hks : ks + 1604 ≤ 7302250) (hnext : ∀ c2 n2, I c2 n2 → E G b x code 4 ret room_1 (e_XL b bs L xs) e_ZL 1486 [(0, .ref bs), (1, .ref (b + 0)), (2, .ref (b + 79)), (3, .int x3)] [] c2 n2 (kc + 5) (ks + 1604)) : E G b x code 4 ret room_1 (e_XL b bs L xs) e_ZL 979 [(0, .ref bs), (1, .ref (b + 0)), (2, .ref (b + 79)), (3, .int x3)] [] c n kc ks := by
  obtain ⟨dd, hdd, Px, hCx, hx⟩ := hS (xs (x3 + 1).toNatClampNeg) (xs (x3 + 2).toNatClampNeg) c n hI
  obtain ⟨h0n, fs0, h0c⟩ := hI0 c n hI
  refine E.aload_n 1 dL_law_979 rfl ?_
  refine E.aload_n 0 dL_law_980 rfl ?_
  refine E.iload_n 3 dL_law_981 rfl ?_
  refine E.iconst (v := 1) dL_law_982 (by decide) ?_
  refine E.iadd dL_law_983 ?_
  refine E.sld dL_law_984 g1 ?_
  refine E.aload_n 0 dL_law_985 rfl ?_
  refine E.iload_n 3 dL_law_986 rfl ?_
  refine E.iconst (v := 2) dL_law_987 (by decide) ?_
  refine E.iadd dL_law_988 ?_
  refine E.sld dL_law_989 g2 ?_
  refine E.callV (As := [.int (xs (x3 + 1).toNatClampNeg), .int (xs (x3 + 2).toNatClampNeg)]) (rest := []) dL_law_990 mlL_120 ⟨h0n, h0c⟩ rfl rfl hCx ⟨Nat.le_trans (Nat.succ_le_succ hdd) (Nat.le_of_ble_eq_true rfl), Nat.le_trans (show 64 * dd + 51 ≤ 64 * 6 + 51 by omega) (Nat.le_of_ble_eq_true rfl)⟩ rfl rfl (Nat.le_of_ble_eq_true rfl) ⟨by show kc + 0 ≤ 600000; omega, by show ks + 0 ≤ 7302250; omega⟩ (fun v c1 n1 hp => ?_)
  obtain ⟨⟨h79n, fs1, h79c⟩, ⟨r, rfl⟩, Pm, hCm, hm⟩ := hx v c1 n1 hp
  refine E.goalS (st' := [.int r]) rfl ?_
  refine E.aload_n 2 dL_law_993 rfl ?_
  refine E.aload_n 0 dL_law_994 rfl ?_
  refine E.iload_n 3 dL_law_995 rfl ?_
  refine E.iconst (v := 1) dL_law_996 (by decide) ?_
  refine E.iadd dL_law_997 ?_
  refine E.sld dL_law_998 g1 ?_
  refine E.aload_n 0 dL_law_999 rfl ?_
  refine E.iload_n 3 dL_law_1000 rfl ?_
  refine E.iconst (v := 2) dL_law_1001 (by decide) ?_
  refine E.iadd dL_law_1002 ?_
  refine E.sld dL_law_1003 g2 ?_
  refine E.callV (As := [.int (xs (x3 + 1).toNatClampNeg), .int (xs (x3 + 2).toNatClampNeg)]) (rest := [.int r]) dL_law_1004 mlL_123 ⟨h79n, h79c⟩ rfl rfl hCm ⟨Nat.le_of_ble_eq_true rfl, Nat.le_of_ble_eq_true rfl⟩ rfl rfl (Nat.le_of_ble_eq_true rfl) ⟨by show kc + 0 + 0 ≤ 600000; omega, by show ks + 0 + 0 ≤ 7302250; omega⟩ (fun v2 c2 n2 hp2 => ?_)
  obtain ⟨rfl, hI2⟩ := hm v2 c2 n2 hp2
  refine E.goalS (st' := [.int r, .int r]) rfl ?_
  refine E.icmp_eq dL_law_1007 (fun h => ?_) (fun h => absurd rfl h)
  refine E.widen (kc' := kc + 5) (ks' := ks + 1604) (by omega) (by omega) ?_
  exact hnext c2 n2 hI2
def S26 (G : GT) (b : Nat) (I : Hp → Nat → Prop) : Prop := ∀ a1 a2 : Int32, Stp2 G b I isI yX11_steady cX11_steady 3 (some .int) 6 0 0 yX12_steady cX12_steady 4 9 [.int a1, .int a2]
set_option maxHeartbeats 4000000 in
set_option maxRecDepth 100000 in
theorem law_c26 {G : GT} {b bs L : Nat} {xs : Nat → Int32} {I : Hp → Nat → Prop} (hI0 : e_I0 I) (hS : S26 G b I) {x3 : Int32} (g1 : vp_in (x3 + 1) L) (g2 : vp_in (x3 + 2) L) {c : Hp} {n kc ks : Nat} (hI : I c n) (hkc : kc + 5 ≤ 600000) (hks : ks + 1604 ≤ 7302250) (hnext : ∀ c2 n2, I c2 n2 → E G b x code 4 ret room_1 (e_XL b bs L xs) e_ZL 1486 [(0, .ref bs), (1, .ref (b + 0)), (2, .ref (b + 79)), (3, .int x3)] [] c2 n2 (kc + 5) (ks + 1604)) : E G b x code 4 ret room_1 (e_XL b bs L xs) e_ZL 1012 [(0, .ref bs), (1, .ref (b + 0)), (2, .ref (b + 79)), (3, .int x3)] [] c n kc ks := by
  obtain ⟨dd, hdd, Px, hCx, hx⟩ := hS (xs (x3 + 1).toNatClampNeg) (xs (x3 + 2).toNatClampNeg) c n hI
  obtain ⟨h0n, fs0, h0c⟩ := hI0 c n hI
  refine E.aload_n 1 dL_law_1012 rfl ?_
  refine E.aload_n 0 dL_law_1013 rfl ?_
  refine E.iload_n 3 dL_law_1014 rfl ?_
  refine E.iconst (v := 1) dL_law_1015 (by decide) ?_
  refine E.iadd dL_law_1016 ?_
  refine E.sld dL_law_1017 g1 ?_
  refine E.aload_n 0 dL_law_1018 rfl ?_
  refine E.iload_n 3 dL_law_1019 rfl ?_
  refine E.iconst (v := 2) dL_law_1020 (by decide) ?_
  refine E.iadd dL_law_1021 ?_
  refine E.sld dL_law_1022 g2 ?_
  refine E.callV (As := [.int (xs (x3 + 1).toNatClampNeg), .int (xs (x3 + 2).toNatClampNeg)]) (rest := []) dL_law_1023 mlL_124 ⟨h0n, h0c⟩ rfl rfl hCx ⟨Nat.le_trans (Nat.succ_le_succ hdd) (Nat.le_of_ble_eq_true rfl), Nat.le_trans (show 64 * dd + 51 ≤ 64 * 6 + 51 by omega) (Nat.le_of_ble_eq_true rfl)⟩ rfl rfl (Nat.le_of_ble_eq_true rfl) ⟨by show kc + 0 ≤ 600000; omega, by show ks + 0 ≤ 7302250; omega⟩ (fun v c1 n1 hp => ?_)
  obtain ⟨⟨h79n, fs1, h79c⟩, ⟨r, rfl⟩, Pm, hCm, hm⟩ := hx v c1 n1 hp
  refine E.goalS (st' := [.int r]) rfl ?_
  refine E.aload_n 2 dL_law_1026 rfl ?_
  refine E.aload_n 0 dL_law_1027 rfl ?_
  refine E.iload_n 3 dL_law_1028 rfl ?_
  refine E.iconst (v := 1) dL_law_1029 (by decide) ?_
  refine E.iadd dL_law_1030 ?_
  refine E.sld dL_law_1031 g1 ?_
  refine E.aload_n 0 dL_law_1032 rfl ?_
  refine E.iload_n 3 dL_law_1033 rfl ?_
  refine E.iconst (v := 2) dL_law_1034 (by decide) ?_
  refine E.iadd dL_law_1035 ?_
  refine E.sld dL_law_1036 g2 ?_
  refine E.callV (As := [.int (xs (x3 + 1).toNatClampNeg), .int (xs (x3 + 2).toNatClampNeg)]) (rest := [.int r]) dL_law_1037 mlL_127 ⟨h79n, h79c⟩ rfl rfl hCm ⟨Nat.le_of_ble_eq_true rfl, Nat.le_of_ble_eq_true rfl⟩ rfl rfl (Nat.le_of_ble_eq_true rfl) ⟨by show kc + 0 + 0 ≤ 600000; omega, by show ks + 0 + 0 ≤ 7302250; omega⟩ (fun v2 c2 n2 hp2 => ?_)
  obtain ⟨rfl, hI2⟩ := hm v2 c2 n2 hp2
  refine E.goalS (st' := [.int r, .int r]) rfl ?_
  refine E.icmp_eq dL_law_1040 (fun h => ?_) (fun h => absurd rfl h)
  refine E.widen (kc' := kc + 5) (ks' := ks + 1604) (by omega) (by omega) ?_
  exact hnext c2 n2 hI2
def S27 (G : GT) (b : Nat) (I : Hp → Nat → Prop) : Prop := ∀ a1 : Int32, Stp2 G b I isJ yX11_swing cX11_swing 2 (some .long) 6 0 0 yX12_swing cX12_swing 3 9 [.int a1]
set_option maxHeartbeats 4000000 in
set_option maxRecDepth 100000 in
theorem law_c27 {G : GT} {b bs L : Nat} {xs : Nat → Int32} {I : Hp → Nat → Prop} (hI0 : e_I0 I) (hS : S27 G b I) {x3 : Int32} (g1 : vp_in (x3 + 1) L) {c : Hp} {n kc ks : Nat} (hI : I c n) (hkc : kc + 5 ≤ 600000) (hks : ks + 1604 ≤ 7302250) (hnext : ∀ c2 n2, I c2 n2 → E G b x code 4 ret room_1 (e_XL b bs L xs) e_ZL 1486 [(0, .ref bs), (1, .ref (b + 0)), (2, .ref (b + 79)), (3, .int x3)] [] c2 n2 (kc + 5) (ks + 1604)) : E G b x code 4 ret room_1 (e_XL b bs L xs) e_ZL 1045 [(0, .ref bs), (1, .ref (b + 0)), (2, .ref (b + 79)), (3, .int x3)] [] c n kc ks := by
  obtain ⟨dd, hdd, Px, hCx, hx⟩ := hS (xs (x3 + 1).toNatClampNeg) c n hI
  obtain ⟨h0n, fs0, h0c⟩ := hI0 c n hI
  refine E.aload_n 1 dL_law_1045 rfl ?_
  refine E.aload_n 0 dL_law_1046 rfl ?_
  refine E.iload_n 3 dL_law_1047 rfl ?_
  refine E.iconst (v := 1) dL_law_1048 (by decide) ?_
  refine E.iadd dL_law_1049 ?_
  refine E.sld dL_law_1050 g1 ?_
  refine E.callV (As := [.int (xs (x3 + 1).toNatClampNeg)]) (rest := []) dL_law_1051 mlL_128 ⟨h0n, h0c⟩ rfl rfl hCx ⟨Nat.le_trans (Nat.succ_le_succ hdd) (Nat.le_of_ble_eq_true rfl), Nat.le_trans (show 64 * dd + 51 ≤ 64 * 6 + 51 by omega) (Nat.le_of_ble_eq_true rfl)⟩ rfl rfl (Nat.le_of_ble_eq_true rfl) ⟨by show kc + 0 ≤ 600000; omega, by show ks + 0 ≤ 7302250; omega⟩ (fun v c1 n1 hp => ?_)
  obtain ⟨⟨h79n, fs1, h79c⟩, ⟨r, rfl⟩, Pm, hCm, hm⟩ := hx v c1 n1 hp
  refine E.goalS (st' := [.long r]) rfl ?_
  refine E.aload_n 2 dL_law_1054 rfl ?_
  refine E.aload_n 0 dL_law_1055 rfl ?_
  refine E.iload_n 3 dL_law_1056 rfl ?_
  refine E.iconst (v := 1) dL_law_1057 (by decide) ?_
  refine E.iadd dL_law_1058 ?_
  refine E.sld dL_law_1059 g1 ?_
  refine E.callV (As := [.int (xs (x3 + 1).toNatClampNeg)]) (rest := [.long r]) dL_law_1060 mlL_131 ⟨h79n, h79c⟩ rfl rfl hCm ⟨Nat.le_of_ble_eq_true rfl, Nat.le_of_ble_eq_true rfl⟩ rfl rfl (Nat.le_of_ble_eq_true rfl) ⟨by show kc + 0 + 0 ≤ 600000; omega, by show ks + 0 + 0 ≤ 7302250; omega⟩ (fun v2 c2 n2 hp2 => ?_)
  obtain ⟨rfl, hI2⟩ := hm v2 c2 n2 hp2
  refine E.goalS (st' := [.long r, .long r]) rfl ?_
  refine E.lc_eq dL_law_1063 dL_law_1064 (fun h => ?_) (fun h => absurd rfl h)
  refine E.widen (kc' := kc + 5) (ks' := ks + 1604) (by omega) (by omega) ?_
  exact hnext c2 n2 hI2
def S28 (G : GT) (b : Nat) (I : Hp → Nat → Prop) : Prop := Stp2 G b I isI yX11_fairest cX11_fairest 9 (some .int) 6 0 0 yX12_fairest cX12_fairest 9 6 []
set_option maxHeartbeats 4000000 in
set_option maxRecDepth 100000 in
theorem law_c28 {G : GT} {b bs L : Nat} {xs : Nat → Int32} {I : Hp → Nat → Prop} (hI0 : e_I0 I) (hS : S28 G b I) {x3 : Int32} {c : Hp} {n kc ks : Nat} (hI : I c n) (hkc : kc + 5 ≤ 600000) (hks : ks + 1604 ≤ 7302250) (hnext : ∀ c2 n2, I c2 n2 → E G b x code 4 ret room_1 (e_XL b bs L xs) e_ZL 1486 [(0, .ref bs), (1, .ref (b + 0)), (2, .ref (b + 79)), (3, .int x3)] [] c2 n2 (kc + 5) (ks + 1604)) : E G b x code 4 ret room_1 (e_XL b bs L xs) e_ZL 1069 [(0, .ref bs), (1, .ref (b + 0)), (2, .ref (b + 79)), (3, .int x3)] [] c n kc ks := by
  obtain ⟨dd, hdd, Px, hCx, hx⟩ := hS  c n hI
  obtain ⟨h0n, fs0, h0c⟩ := hI0 c n hI
  refine E.aload_n 1 dL_law_1069 rfl ?_
  refine E.callV (As := []) (rest := []) dL_law_1070 mlL_132 ⟨h0n, h0c⟩ rfl rfl hCx ⟨Nat.le_trans (Nat.succ_le_succ hdd) (Nat.le_of_ble_eq_true rfl), Nat.le_trans (show 64 * dd + 51 ≤ 64 * 6 + 51 by omega) (Nat.le_of_ble_eq_true rfl)⟩ rfl rfl (Nat.le_of_ble_eq_true rfl) ⟨by show kc + 0 ≤ 600000; omega, by show ks + 0 ≤ 7302250; omega⟩ (fun v c1 n1 hp => ?_)
  obtain ⟨⟨h79n, fs1, h79c⟩, ⟨r, rfl⟩, Pm, hCm, hm⟩ := hx v c1 n1 hp
  refine E.goalS (st' := [.int r]) rfl ?_
  refine E.aload_n 2 dL_law_1073 rfl ?_
  refine E.callV (As := []) (rest := [.int r]) dL_law_1074 mlL_135 ⟨h79n, h79c⟩ rfl rfl hCm ⟨Nat.le_of_ble_eq_true rfl, Nat.le_of_ble_eq_true rfl⟩ rfl rfl (Nat.le_of_ble_eq_true rfl) ⟨by show kc + 0 + 0 ≤ 600000; omega, by show ks + 0 + 0 ≤ 7302250; omega⟩ (fun v2 c2 n2 hp2 => ?_)
  obtain ⟨rfl, hI2⟩ := hm v2 c2 n2 hp2
  refine E.goalS (st' := [.int r, .int r]) rfl ?_
  refine E.icmp_eq dL_law_1077 (fun h => ?_) (fun h => absurd rfl h)
  refine E.widen (kc' := kc + 5) (ks' := ks + 1604) (by omega) (by omega) ?_
  exact hnext c2 n2 hI2
def S29 (G : GT) (b : Nat) (I : Hp → Nat → Prop) : Prop := ∀ a1 a2 a3 : Int32, Stp2 G b I isI yX11_judged cX11_judged 4 (some .int) 2 0 0 yX12_judged cX12_judged 4 3 [.int a1, .int a2, .int a3]
set_option maxHeartbeats 4000000 in
set_option maxRecDepth 100000 in
theorem law_c29 {G : GT} {b bs L : Nat} {xs : Nat → Int32} {I : Hp → Nat → Prop} (hI0 : e_I0 I) (hS : S29 G b I) {x3 : Int32} (g1 : vp_in (x3 + 1) L) (g2 : vp_in (x3 + 2) L) (g3 : vp_in (x3 + 3) L) {c : Hp} {n kc ks : Nat} (hI : I c n) (hkc : kc + 5 ≤ 600000) (hks : ks + 1604 ≤ 7302250) (hnext : ∀ c2 n2, I c2 n2 → E G b x code 4 ret room_1 (e_XL b bs L xs) e_ZL 1486 [(0, .ref bs), (1, .ref (b + 0)), (2, .ref (b + 79)), (3, .int x3)] [] c2 n2 (kc + 5) (ks + 1604)) : E G b x code 4 ret room_1 (e_XL b bs L xs) e_ZL 1082 [(0, .ref bs), (1, .ref (b + 0)), (2, .ref (b + 79)), (3, .int x3)] [] c n kc ks := by
  obtain ⟨dd, hdd, Px, hCx, hx⟩ := hS (xs (x3 + 1).toNatClampNeg) (xs (x3 + 2).toNatClampNeg) (xs (x3 + 3).toNatClampNeg) c n hI
  obtain ⟨h0n, fs0, h0c⟩ := hI0 c n hI
  refine E.aload_n 1 dL_law_1082 rfl ?_
  refine E.aload_n 0 dL_law_1083 rfl ?_
  refine E.iload_n 3 dL_law_1084 rfl ?_
  refine E.iconst (v := 1) dL_law_1085 (by decide) ?_
  refine E.iadd dL_law_1086 ?_
  refine E.sld dL_law_1087 g1 ?_
  refine E.aload_n 0 dL_law_1088 rfl ?_
  refine E.iload_n 3 dL_law_1089 rfl ?_
  refine E.iconst (v := 2) dL_law_1090 (by decide) ?_
  refine E.iadd dL_law_1091 ?_
  refine E.sld dL_law_1092 g2 ?_
  refine E.aload_n 0 dL_law_1093 rfl ?_
  refine E.iload_n 3 dL_law_1094 rfl ?_
  refine E.iconst (v := 3) dL_law_1095 (by decide) ?_
  refine E.iadd dL_law_1096 ?_
  refine E.sld dL_law_1097 g3 ?_
  refine E.callV (As := [.int (xs (x3 + 1).toNatClampNeg), .int (xs (x3 + 2).toNatClampNeg), .int (xs (x3 + 3).toNatClampNeg)]) (rest := []) dL_law_1098 mlL_136 ⟨h0n, h0c⟩ rfl rfl hCx ⟨Nat.le_trans (Nat.succ_le_succ hdd) (Nat.le_of_ble_eq_true rfl), Nat.le_trans (show 64 * dd + 51 ≤ 64 * 2 + 51 by omega) (Nat.le_of_ble_eq_true rfl)⟩ rfl rfl (Nat.le_of_ble_eq_true rfl) ⟨by show kc + 0 ≤ 600000; omega, by show ks + 0 ≤ 7302250; omega⟩ (fun v c1 n1 hp => ?_)
  obtain ⟨⟨h79n, fs1, h79c⟩, ⟨r, rfl⟩, Pm, hCm, hm⟩ := hx v c1 n1 hp
  refine E.goalS (st' := [.int r]) rfl ?_
  refine E.aload_n 2 dL_law_1101 rfl ?_
  refine E.aload_n 0 dL_law_1102 rfl ?_
  refine E.iload_n 3 dL_law_1103 rfl ?_
  refine E.iconst (v := 1) dL_law_1104 (by decide) ?_
  refine E.iadd dL_law_1105 ?_
  refine E.sld dL_law_1106 g1 ?_
  refine E.aload_n 0 dL_law_1107 rfl ?_
  refine E.iload_n 3 dL_law_1108 rfl ?_
  refine E.iconst (v := 2) dL_law_1109 (by decide) ?_
  refine E.iadd dL_law_1110 ?_
  refine E.sld dL_law_1111 g2 ?_
  refine E.aload_n 0 dL_law_1112 rfl ?_
  refine E.iload_n 3 dL_law_1113 rfl ?_
  refine E.iconst (v := 3) dL_law_1114 (by decide) ?_
  refine E.iadd dL_law_1115 ?_
  refine E.sld dL_law_1116 g3 ?_
  refine E.callV (As := [.int (xs (x3 + 1).toNatClampNeg), .int (xs (x3 + 2).toNatClampNeg), .int (xs (x3 + 3).toNatClampNeg)]) (rest := [.int r]) dL_law_1117 mlL_139 ⟨h79n, h79c⟩ rfl rfl hCm ⟨Nat.le_of_ble_eq_true rfl, Nat.le_of_ble_eq_true rfl⟩ rfl rfl (Nat.le_of_ble_eq_true rfl) ⟨by show kc + 0 + 0 ≤ 600000; omega, by show ks + 0 + 0 ≤ 7302250; omega⟩ (fun v2 c2 n2 hp2 => ?_)
  obtain ⟨rfl, hI2⟩ := hm v2 c2 n2 hp2
  refine E.goalS (st' := [.int r, .int r]) rfl ?_
  refine E.icmp_eq dL_law_1120 (fun h => ?_) (fun h => absurd rfl h)
  refine E.widen (kc' := kc + 5) (ks' := ks + 1604) (by omega) (by omega) ?_
  exact hnext c2 n2 hI2
def S30 (G : GT) (b : Nat) (I : Hp → Nat → Prop) : Prop := ∀ a1 : Int32, Stp2 G b I isI yX11_annul cX11_annul 2 (some .int) 2 0 0 yX12_annul cX12_annul 3 1 [.int a1]
set_option maxHeartbeats 4000000 in
set_option maxRecDepth 100000 in
theorem law_c30 {G : GT} {b bs L : Nat} {xs : Nat → Int32} {I : Hp → Nat → Prop} (hI0 : e_I0 I) (hS : S30 G b I) {x3 : Int32} (g1 : vp_in (x3 + 1) L) {c : Hp} {n kc ks : Nat} (hI : I c n) (hkc : kc + 5 ≤ 600000) (hks : ks + 1604 ≤ 7302250) (hnext : ∀ c2 n2, I c2 n2 → E G b x code 4 ret room_1 (e_XL b bs L xs) e_ZL 1486 [(0, .ref bs), (1, .ref (b + 0)), (2, .ref (b + 79)), (3, .int x3)] [] c2 n2 (kc + 5) (ks + 1604)) : E G b x code 4 ret room_1 (e_XL b bs L xs) e_ZL 1125 [(0, .ref bs), (1, .ref (b + 0)), (2, .ref (b + 79)), (3, .int x3)] [] c n kc ks := by
  obtain ⟨dd, hdd, Px, hCx, hx⟩ := hS (xs (x3 + 1).toNatClampNeg) c n hI
  obtain ⟨h0n, fs0, h0c⟩ := hI0 c n hI
  refine E.aload_n 1 dL_law_1125 rfl ?_
  refine E.aload_n 0 dL_law_1126 rfl ?_
  refine E.iload_n 3 dL_law_1127 rfl ?_
  refine E.iconst (v := 1) dL_law_1128 (by decide) ?_
  refine E.iadd dL_law_1129 ?_
  refine E.sld dL_law_1130 g1 ?_
  refine E.callV (As := [.int (xs (x3 + 1).toNatClampNeg)]) (rest := []) dL_law_1131 mlL_140 ⟨h0n, h0c⟩ rfl rfl hCx ⟨Nat.le_trans (Nat.succ_le_succ hdd) (Nat.le_of_ble_eq_true rfl), Nat.le_trans (show 64 * dd + 51 ≤ 64 * 2 + 51 by omega) (Nat.le_of_ble_eq_true rfl)⟩ rfl rfl (Nat.le_of_ble_eq_true rfl) ⟨by show kc + 0 ≤ 600000; omega, by show ks + 0 ≤ 7302250; omega⟩ (fun v c1 n1 hp => ?_)
  obtain ⟨⟨h79n, fs1, h79c⟩, ⟨r, rfl⟩, Pm, hCm, hm⟩ := hx v c1 n1 hp
  refine E.goalS (st' := [.int r]) rfl ?_
  refine E.aload_n 2 dL_law_1134 rfl ?_
  refine E.aload_n 0 dL_law_1135 rfl ?_
  refine E.iload_n 3 dL_law_1136 rfl ?_
  refine E.iconst (v := 1) dL_law_1137 (by decide) ?_
  refine E.iadd dL_law_1138 ?_
  refine E.sld dL_law_1139 g1 ?_
  refine E.callV (As := [.int (xs (x3 + 1).toNatClampNeg)]) (rest := [.int r]) dL_law_1140 mlL_143 ⟨h79n, h79c⟩ rfl rfl hCm ⟨Nat.le_of_ble_eq_true rfl, Nat.le_of_ble_eq_true rfl⟩ rfl rfl (Nat.le_of_ble_eq_true rfl) ⟨by show kc + 0 + 0 ≤ 600000; omega, by show ks + 0 + 0 ≤ 7302250; omega⟩ (fun v2 c2 n2 hp2 => ?_)
  obtain ⟨rfl, hI2⟩ := hm v2 c2 n2 hp2
  refine E.goalS (st' := [.int r, .int r]) rfl ?_
  refine E.icmp_eq dL_law_1143 (fun h => ?_) (fun h => absurd rfl h)
  refine E.widen (kc' := kc + 5) (ks' := ks + 1604) (by omega) (by omega) ?_
  exact hnext c2 n2 hI2
def S31 (G : GT) (b : Nat) (I : Hp → Nat → Prop) : Prop := ∀ a1 a2 : Int32, Stp2 G b I isI yX11_right cX11_right 3 (some .int) 2 0 0 yX12_right cX12_right 5 2 [.int a1, .int a2]
set_option maxHeartbeats 4000000 in
set_option maxRecDepth 100000 in
theorem law_c31 {G : GT} {b bs L : Nat} {xs : Nat → Int32} {I : Hp → Nat → Prop} (hI0 : e_I0 I) (hS : S31 G b I) {x3 : Int32} (g1 : vp_in (x3 + 1) L) (g2 : vp_in (x3 + 2) L) {c : Hp} {n kc ks : Nat} (hI : I c n) (hkc : kc + 5 ≤ 600000) (hks : ks + 1604 ≤ 7302250) (hnext : ∀ c2 n2, I c2 n2 → E G b x code 4 ret room_1 (e_XL b bs L xs) e_ZL 1486 [(0, .ref bs), (1, .ref (b + 0)), (2, .ref (b + 79)), (3, .int x3)] [] c2 n2 (kc + 5) (ks + 1604)) : E G b x code 4 ret room_1 (e_XL b bs L xs) e_ZL 1148 [(0, .ref bs), (1, .ref (b + 0)), (2, .ref (b + 79)), (3, .int x3)] [] c n kc ks := by
  obtain ⟨dd, hdd, Px, hCx, hx⟩ := hS (xs (x3 + 1).toNatClampNeg) (xs (x3 + 2).toNatClampNeg) c n hI
  obtain ⟨h0n, fs0, h0c⟩ := hI0 c n hI
  refine E.aload_n 1 dL_law_1148 rfl ?_
  refine E.aload_n 0 dL_law_1149 rfl ?_
  refine E.iload_n 3 dL_law_1150 rfl ?_
  refine E.iconst (v := 1) dL_law_1151 (by decide) ?_
  refine E.iadd dL_law_1152 ?_
  refine E.sld dL_law_1153 g1 ?_
  refine E.aload_n 0 dL_law_1154 rfl ?_
  refine E.iload_n 3 dL_law_1155 rfl ?_
  refine E.iconst (v := 2) dL_law_1156 (by decide) ?_
  refine E.iadd dL_law_1157 ?_
  refine E.sld dL_law_1158 g2 ?_
  refine E.callV (As := [.int (xs (x3 + 1).toNatClampNeg), .int (xs (x3 + 2).toNatClampNeg)]) (rest := []) dL_law_1159 mlL_144 ⟨h0n, h0c⟩ rfl rfl hCx ⟨Nat.le_trans (Nat.succ_le_succ hdd) (Nat.le_of_ble_eq_true rfl), Nat.le_trans (show 64 * dd + 51 ≤ 64 * 2 + 51 by omega) (Nat.le_of_ble_eq_true rfl)⟩ rfl rfl (Nat.le_of_ble_eq_true rfl) ⟨by show kc + 0 ≤ 600000; omega, by show ks + 0 ≤ 7302250; omega⟩ (fun v c1 n1 hp => ?_)
  obtain ⟨⟨h79n, fs1, h79c⟩, ⟨r, rfl⟩, Pm, hCm, hm⟩ := hx v c1 n1 hp
  refine E.goalS (st' := [.int r]) rfl ?_
  refine E.aload_n 2 dL_law_1162 rfl ?_
  refine E.aload_n 0 dL_law_1163 rfl ?_
  refine E.iload_n 3 dL_law_1164 rfl ?_
  refine E.iconst (v := 1) dL_law_1165 (by decide) ?_
  refine E.iadd dL_law_1166 ?_
  refine E.sld dL_law_1167 g1 ?_
  refine E.aload_n 0 dL_law_1168 rfl ?_
  refine E.iload_n 3 dL_law_1169 rfl ?_
  refine E.iconst (v := 2) dL_law_1170 (by decide) ?_
  refine E.iadd dL_law_1171 ?_
  refine E.sld dL_law_1172 g2 ?_
  refine E.callV (As := [.int (xs (x3 + 1).toNatClampNeg), .int (xs (x3 + 2).toNatClampNeg)]) (rest := [.int r]) dL_law_1173 mlL_147 ⟨h79n, h79c⟩ rfl rfl hCm ⟨Nat.le_of_ble_eq_true rfl, Nat.le_of_ble_eq_true rfl⟩ rfl rfl (Nat.le_of_ble_eq_true rfl) ⟨by show kc + 0 + 0 ≤ 600000; omega, by show ks + 0 + 0 ≤ 7302250; omega⟩ (fun v2 c2 n2 hp2 => ?_)
  obtain ⟨rfl, hI2⟩ := hm v2 c2 n2 hp2
  refine E.goalS (st' := [.int r, .int r]) rfl ?_
  refine E.icmp_eq dL_law_1176 (fun h => ?_) (fun h => absurd rfl h)
  refine E.widen (kc' := kc + 5) (ks' := ks + 1604) (by omega) (by omega) ?_
  exact hnext c2 n2 hI2
def S32 (G : GT) (b : Nat) (I : Hp → Nat → Prop) : Prop := ∀ a1 a2 a3 : Int32, Stp2 G b I isI yX11_agree cX11_agree 5 (some .int) 1 0 0 yX12_agree cX12_agree 9 1 [.int a1, .int a2, .int a3]
set_option maxHeartbeats 4000000 in
set_option maxRecDepth 100000 in
theorem law_c32 {G : GT} {b bs L : Nat} {xs : Nat → Int32} {I : Hp → Nat → Prop} (hI0 : e_I0 I) (hS : S32 G b I) {x3 : Int32} (g1 : vp_in (x3 + 1) L) (g2 : vp_in (x3 + 2) L) (g3 : vp_in (x3 + 3) L) {c : Hp} {n kc ks : Nat} (hI : I c n) (hkc : kc + 5 ≤ 600000) (hks : ks + 1604 ≤ 7302250) (hnext : ∀ c2 n2, I c2 n2 → E G b x code 4 ret room_1 (e_XL b bs L xs) e_ZL 1486 [(0, .ref bs), (1, .ref (b + 0)), (2, .ref (b + 79)), (3, .int x3)] [] c2 n2 (kc + 5) (ks + 1604)) : E G b x code 4 ret room_1 (e_XL b bs L xs) e_ZL 1181 [(0, .ref bs), (1, .ref (b + 0)), (2, .ref (b + 79)), (3, .int x3)] [] c n kc ks := by
  obtain ⟨dd, hdd, Px, hCx, hx⟩ := hS (xs (x3 + 1).toNatClampNeg) (xs (x3 + 2).toNatClampNeg) (xs (x3 + 3).toNatClampNeg) c n hI
  obtain ⟨h0n, fs0, h0c⟩ := hI0 c n hI
  refine E.aload_n 1 dL_law_1181 rfl ?_
  refine E.aload_n 0 dL_law_1182 rfl ?_
  refine E.iload_n 3 dL_law_1183 rfl ?_
  refine E.iconst (v := 1) dL_law_1184 (by decide) ?_
  refine E.iadd dL_law_1185 ?_
  refine E.sld dL_law_1186 g1 ?_
  refine E.aload_n 0 dL_law_1187 rfl ?_
  refine E.iload_n 3 dL_law_1188 rfl ?_
  refine E.iconst (v := 2) dL_law_1189 (by decide) ?_
  refine E.iadd dL_law_1190 ?_
  refine E.sld dL_law_1191 g2 ?_
  refine E.aload_n 0 dL_law_1192 rfl ?_
  refine E.iload_n 3 dL_law_1193 rfl ?_
  refine E.iconst (v := 3) dL_law_1194 (by decide) ?_
  refine E.iadd dL_law_1195 ?_
  refine E.sld dL_law_1196 g3 ?_
  refine E.callV (As := [.int (xs (x3 + 1).toNatClampNeg), .int (xs (x3 + 2).toNatClampNeg), .int (xs (x3 + 3).toNatClampNeg)]) (rest := []) dL_law_1197 mlL_148 ⟨h0n, h0c⟩ rfl rfl hCx ⟨Nat.le_trans (Nat.succ_le_succ hdd) (Nat.le_of_ble_eq_true rfl), Nat.le_trans (show 64 * dd + 51 ≤ 64 * 1 + 51 by omega) (Nat.le_of_ble_eq_true rfl)⟩ rfl rfl (Nat.le_of_ble_eq_true rfl) ⟨by show kc + 0 ≤ 600000; omega, by show ks + 0 ≤ 7302250; omega⟩ (fun v c1 n1 hp => ?_)
  obtain ⟨⟨h79n, fs1, h79c⟩, ⟨r, rfl⟩, Pm, hCm, hm⟩ := hx v c1 n1 hp
  refine E.goalS (st' := [.int r]) rfl ?_
  refine E.aload_n 2 dL_law_1200 rfl ?_
  refine E.aload_n 0 dL_law_1201 rfl ?_
  refine E.iload_n 3 dL_law_1202 rfl ?_
  refine E.iconst (v := 1) dL_law_1203 (by decide) ?_
  refine E.iadd dL_law_1204 ?_
  refine E.sld dL_law_1205 g1 ?_
  refine E.aload_n 0 dL_law_1206 rfl ?_
  refine E.iload_n 3 dL_law_1207 rfl ?_
  refine E.iconst (v := 2) dL_law_1208 (by decide) ?_
  refine E.iadd dL_law_1209 ?_
  refine E.sld dL_law_1210 g2 ?_
  refine E.aload_n 0 dL_law_1211 rfl ?_
  refine E.iload_n 3 dL_law_1212 rfl ?_
  refine E.iconst (v := 3) dL_law_1213 (by decide) ?_
  refine E.iadd dL_law_1214 ?_
  refine E.sld dL_law_1215 g3 ?_
  refine E.callV (As := [.int (xs (x3 + 1).toNatClampNeg), .int (xs (x3 + 2).toNatClampNeg), .int (xs (x3 + 3).toNatClampNeg)]) (rest := [.int r]) dL_law_1216 mlL_151 ⟨h79n, h79c⟩ rfl rfl hCm ⟨Nat.le_of_ble_eq_true rfl, Nat.le_of_ble_eq_true rfl⟩ rfl rfl (Nat.le_of_ble_eq_true rfl) ⟨by show kc + 0 + 0 ≤ 600000; omega, by show ks + 0 + 0 ≤ 7302250; omega⟩ (fun v2 c2 n2 hp2 => ?_)
  obtain ⟨rfl, hI2⟩ := hm v2 c2 n2 hp2
  refine E.goalS (st' := [.int r, .int r]) rfl ?_
  refine E.icmp_eq dL_law_1219 (fun h => ?_) (fun h => absurd rfl h)
  refine E.widen (kc' := kc + 5) (ks' := ks + 1604) (by omega) (by omega) ?_
  exact hnext c2 n2 hI2
def S33 (G : GT) (b : Nat) (I : Hp → Nat → Prop) : Prop := ∀ a1 a2 : Int32, Stp2 G b I isJ yX11_again cX11_again 3 (some .long) 3 0 0 yX12_again cX12_again 5 3 [.int a1, .int a2]
set_option maxHeartbeats 4000000 in
set_option maxRecDepth 100000 in
theorem law_c33 {G : GT} {b bs L : Nat} {xs : Nat → Int32} {I : Hp → Nat → Prop} (hI0 : e_I0 I) (hS : S33 G b I) {x3 : Int32} (g1 : vp_in (x3 + 1) L) (g2 : vp_in (x3 + 2) L) {c : Hp} {n kc ks : Nat} (hI : I c n) (hkc : kc + 5 ≤ 600000) (hks : ks + 1604 ≤ 7302250) (hnext : ∀ c2 n2, I c2 n2 → E G b x code 4 ret room_1 (e_XL b bs L xs) e_ZL 1486 [(0, .ref bs), (1, .ref (b + 0)), (2, .ref (b + 79)), (3, .int x3)] [] c2 n2 (kc + 5) (ks + 1604)) : E G b x code 4 ret room_1 (e_XL b bs L xs) e_ZL 1224 [(0, .ref bs), (1, .ref (b + 0)), (2, .ref (b + 79)), (3, .int x3)] [] c n kc ks := by
  obtain ⟨dd, hdd, Px, hCx, hx⟩ := hS (xs (x3 + 1).toNatClampNeg) (xs (x3 + 2).toNatClampNeg) c n hI
  obtain ⟨h0n, fs0, h0c⟩ := hI0 c n hI
  refine E.aload_n 1 dL_law_1224 rfl ?_
  refine E.aload_n 0 dL_law_1225 rfl ?_
  refine E.iload_n 3 dL_law_1226 rfl ?_
  refine E.iconst (v := 1) dL_law_1227 (by decide) ?_
  refine E.iadd dL_law_1228 ?_
  refine E.sld dL_law_1229 g1 ?_
  refine E.aload_n 0 dL_law_1230 rfl ?_
  refine E.iload_n 3 dL_law_1231 rfl ?_
  refine E.iconst (v := 2) dL_law_1232 (by decide) ?_
  refine E.iadd dL_law_1233 ?_
  refine E.sld dL_law_1234 g2 ?_
  refine E.callV (As := [.int (xs (x3 + 1).toNatClampNeg), .int (xs (x3 + 2).toNatClampNeg)]) (rest := []) dL_law_1235 mlL_152 ⟨h0n, h0c⟩ rfl rfl hCx ⟨Nat.le_trans (Nat.succ_le_succ hdd) (Nat.le_of_ble_eq_true rfl), Nat.le_trans (show 64 * dd + 51 ≤ 64 * 3 + 51 by omega) (Nat.le_of_ble_eq_true rfl)⟩ rfl rfl (Nat.le_of_ble_eq_true rfl) ⟨by show kc + 0 ≤ 600000; omega, by show ks + 0 ≤ 7302250; omega⟩ (fun v c1 n1 hp => ?_)
  obtain ⟨⟨h79n, fs1, h79c⟩, ⟨r, rfl⟩, Pm, hCm, hm⟩ := hx v c1 n1 hp
  refine E.goalS (st' := [.long r]) rfl ?_
  refine E.aload_n 2 dL_law_1238 rfl ?_
  refine E.aload_n 0 dL_law_1239 rfl ?_
  refine E.iload_n 3 dL_law_1240 rfl ?_
  refine E.iconst (v := 1) dL_law_1241 (by decide) ?_
  refine E.iadd dL_law_1242 ?_
  refine E.sld dL_law_1243 g1 ?_
  refine E.aload_n 0 dL_law_1244 rfl ?_
  refine E.iload_n 3 dL_law_1245 rfl ?_
  refine E.iconst (v := 2) dL_law_1246 (by decide) ?_
  refine E.iadd dL_law_1247 ?_
  refine E.sld dL_law_1248 g2 ?_
  refine E.callV (As := [.int (xs (x3 + 1).toNatClampNeg), .int (xs (x3 + 2).toNatClampNeg)]) (rest := [.long r]) dL_law_1249 mlL_155 ⟨h79n, h79c⟩ rfl rfl hCm ⟨Nat.le_of_ble_eq_true rfl, Nat.le_of_ble_eq_true rfl⟩ rfl rfl (Nat.le_of_ble_eq_true rfl) ⟨by show kc + 0 + 0 ≤ 600000; omega, by show ks + 0 + 0 ≤ 7302250; omega⟩ (fun v2 c2 n2 hp2 => ?_)
  obtain ⟨rfl, hI2⟩ := hm v2 c2 n2 hp2
  refine E.goalS (st' := [.long r, .long r]) rfl ?_
  refine E.lc_eq dL_law_1252 dL_law_1253 (fun h => ?_) (fun h => absurd rfl h)
  refine E.widen (kc' := kc + 5) (ks' := ks + 1604) (by omega) (by omega) ?_
  exact hnext c2 n2 hI2
def S34 (G : GT) (b : Nat) (I : Hp → Nat → Prop) : Prop := ∀ a1 : Int32, Stp2 G b I isI yX11_trusted cX11_trusted 5 (some .int) 3 0 0 yX12_trusted cX12_trusted 5 3 [.int a1]
set_option maxHeartbeats 4000000 in
set_option maxRecDepth 100000 in
theorem law_c34 {G : GT} {b bs L : Nat} {xs : Nat → Int32} {I : Hp → Nat → Prop} (hI0 : e_I0 I) (hS : S34 G b I) {x3 : Int32} (g1 : vp_in (x3 + 1) L) {c : Hp} {n kc ks : Nat} (hI : I c n) (hkc : kc + 5 ≤ 600000) (hks : ks + 1604 ≤ 7302250) (hnext : ∀ c2 n2, I c2 n2 → E G b x code 4 ret room_1 (e_XL b bs L xs) e_ZL 1486 [(0, .ref bs), (1, .ref (b + 0)), (2, .ref (b + 79)), (3, .int x3)] [] c2 n2 (kc + 5) (ks + 1604)) : E G b x code 4 ret room_1 (e_XL b bs L xs) e_ZL 1258 [(0, .ref bs), (1, .ref (b + 0)), (2, .ref (b + 79)), (3, .int x3)] [] c n kc ks := by
  obtain ⟨dd, hdd, Px, hCx, hx⟩ := hS (xs (x3 + 1).toNatClampNeg) c n hI
  obtain ⟨h0n, fs0, h0c⟩ := hI0 c n hI
  refine E.aload_n 1 dL_law_1258 rfl ?_
  refine E.aload_n 0 dL_law_1259 rfl ?_
  refine E.iload_n 3 dL_law_1260 rfl ?_
  refine E.iconst (v := 1) dL_law_1261 (by decide) ?_
  refine E.iadd dL_law_1262 ?_
  refine E.sld dL_law_1263 g1 ?_
  refine E.callV (As := [.int (xs (x3 + 1).toNatClampNeg)]) (rest := []) dL_law_1264 mlL_156 ⟨h0n, h0c⟩ rfl rfl hCx ⟨Nat.le_trans (Nat.succ_le_succ hdd) (Nat.le_of_ble_eq_true rfl), Nat.le_trans (show 64 * dd + 51 ≤ 64 * 3 + 51 by omega) (Nat.le_of_ble_eq_true rfl)⟩ rfl rfl (Nat.le_of_ble_eq_true rfl) ⟨by show kc + 0 ≤ 600000; omega, by show ks + 0 ≤ 7302250; omega⟩ (fun v c1 n1 hp => ?_)
  obtain ⟨⟨h79n, fs1, h79c⟩, ⟨r, rfl⟩, Pm, hCm, hm⟩ := hx v c1 n1 hp
  refine E.goalS (st' := [.int r]) rfl ?_
  refine E.aload_n 2 dL_law_1267 rfl ?_
  refine E.aload_n 0 dL_law_1268 rfl ?_
  refine E.iload_n 3 dL_law_1269 rfl ?_
  refine E.iconst (v := 1) dL_law_1270 (by decide) ?_
  refine E.iadd dL_law_1271 ?_
  refine E.sld dL_law_1272 g1 ?_
  refine E.callV (As := [.int (xs (x3 + 1).toNatClampNeg)]) (rest := [.int r]) dL_law_1273 mlL_159 ⟨h79n, h79c⟩ rfl rfl hCm ⟨Nat.le_of_ble_eq_true rfl, Nat.le_of_ble_eq_true rfl⟩ rfl rfl (Nat.le_of_ble_eq_true rfl) ⟨by show kc + 0 + 0 ≤ 600000; omega, by show ks + 0 + 0 ≤ 7302250; omega⟩ (fun v2 c2 n2 hp2 => ?_)
  obtain ⟨rfl, hI2⟩ := hm v2 c2 n2 hp2
  refine E.goalS (st' := [.int r, .int r]) rfl ?_
  refine E.icmp_eq dL_law_1276 (fun h => ?_) (fun h => absurd rfl h)
  refine E.widen (kc' := kc + 5) (ks' := ks + 1604) (by omega) (by omega) ?_
  exact hnext c2 n2 hI2
def S35 (G : GT) (b : Nat) (I : Hp → Nat → Prop) : Prop := ∀ a1 a2 a3 : Int32, Stp2 G b I isJ yX11_proof cX11_proof 4 (some .long) 3 0 0 yX12_proof cX12_proof 4 3 [.int a1, .int a2, .int a3]
set_option maxHeartbeats 4000000 in
set_option maxRecDepth 100000 in
theorem law_c35 {G : GT} {b bs L : Nat} {xs : Nat → Int32} {I : Hp → Nat → Prop} (hI0 : e_I0 I) (hS : S35 G b I) {x3 : Int32} (g1 : vp_in (x3 + 1) L) (g2 : vp_in (x3 + 2) L) (g3 : vp_in (x3 + 3) L) {c : Hp} {n kc ks : Nat} (hI : I c n) (hkc : kc + 5 ≤ 600000) (hks : ks + 1604 ≤ 7302250) (hnext : ∀ c2 n2, I c2 n2 → E G b x code 4 ret room_1 (e_XL b bs L xs) e_ZL 1486 [(0, .ref bs), (1, .ref (b + 0)), (2, .ref (b + 79)), (3, .int x3)] [] c2 n2 (kc + 5) (ks + 1604)) : E G b x code 4 ret room_1 (e_XL b bs L xs) e_ZL 1281 [(0, .ref bs), (1, .ref (b + 0)), (2, .ref (b + 79)), (3, .int x3)] [] c n kc ks := by
  obtain ⟨dd, hdd, Px, hCx, hx⟩ := hS (xs (x3 + 1).toNatClampNeg) (xs (x3 + 2).toNatClampNeg) (xs (x3 + 3).toNatClampNeg) c n hI
  obtain ⟨h0n, fs0, h0c⟩ := hI0 c n hI
  refine E.aload_n 1 dL_law_1281 rfl ?_
  refine E.aload_n 0 dL_law_1282 rfl ?_
  refine E.iload_n 3 dL_law_1283 rfl ?_
  refine E.iconst (v := 1) dL_law_1284 (by decide) ?_
  refine E.iadd dL_law_1285 ?_
  refine E.sld dL_law_1286 g1 ?_
  refine E.aload_n 0 dL_law_1287 rfl ?_
  refine E.iload_n 3 dL_law_1288 rfl ?_
  refine E.iconst (v := 2) dL_law_1289 (by decide) ?_
  refine E.iadd dL_law_1290 ?_
  refine E.sld dL_law_1291 g2 ?_
  refine E.aload_n 0 dL_law_1292 rfl ?_
  refine E.iload_n 3 dL_law_1293 rfl ?_
  refine E.iconst (v := 3) dL_law_1294 (by decide) ?_
  refine E.iadd dL_law_1295 ?_
  refine E.sld dL_law_1296 g3 ?_
  refine E.callV (As := [.int (xs (x3 + 1).toNatClampNeg), .int (xs (x3 + 2).toNatClampNeg), .int (xs (x3 + 3).toNatClampNeg)]) (rest := []) dL_law_1297 mlL_160 ⟨h0n, h0c⟩ rfl rfl hCx ⟨Nat.le_trans (Nat.succ_le_succ hdd) (Nat.le_of_ble_eq_true rfl), Nat.le_trans (show 64 * dd + 51 ≤ 64 * 3 + 51 by omega) (Nat.le_of_ble_eq_true rfl)⟩ rfl rfl (Nat.le_of_ble_eq_true rfl) ⟨by show kc + 0 ≤ 600000; omega, by show ks + 0 ≤ 7302250; omega⟩ (fun v c1 n1 hp => ?_)
  obtain ⟨⟨h79n, fs1, h79c⟩, ⟨r, rfl⟩, Pm, hCm, hm⟩ := hx v c1 n1 hp
  refine E.goalS (st' := [.long r]) rfl ?_
  refine E.aload_n 2 dL_law_1300 rfl ?_
  refine E.aload_n 0 dL_law_1301 rfl ?_
  refine E.iload_n 3 dL_law_1302 rfl ?_
  refine E.iconst (v := 1) dL_law_1303 (by decide) ?_
  refine E.iadd dL_law_1304 ?_
  refine E.sld dL_law_1305 g1 ?_
  refine E.aload_n 0 dL_law_1306 rfl ?_
  refine E.iload_n 3 dL_law_1307 rfl ?_
  refine E.iconst (v := 2) dL_law_1308 (by decide) ?_
  refine E.iadd dL_law_1309 ?_
  refine E.sld dL_law_1310 g2 ?_
  refine E.aload_n 0 dL_law_1311 rfl ?_
  refine E.iload_n 3 dL_law_1312 rfl ?_
  refine E.iconst (v := 3) dL_law_1313 (by decide) ?_
  refine E.iadd dL_law_1314 ?_
  refine E.sld dL_law_1315 g3 ?_
  refine E.callV (As := [.int (xs (x3 + 1).toNatClampNeg), .int (xs (x3 + 2).toNatClampNeg), .int (xs (x3 + 3).toNatClampNeg)]) (rest := [.long r]) dL_law_1316 mlL_164 ⟨h79n, h79c⟩ rfl rfl hCm ⟨Nat.le_of_ble_eq_true rfl, Nat.le_of_ble_eq_true rfl⟩ rfl rfl (Nat.le_of_ble_eq_true rfl) ⟨by show kc + 0 + 0 ≤ 600000; omega, by show ks + 0 + 0 ≤ 7302250; omega⟩ (fun v2 c2 n2 hp2 => ?_)
  obtain ⟨rfl, hI2⟩ := hm v2 c2 n2 hp2
  refine E.goalS (st' := [.long r, .long r]) rfl ?_
  refine E.lc_eq dL_law_1319 dL_law_1320 (fun h => ?_) (fun h => absurd rfl h)
  refine E.widen (kc' := kc + 5) (ks' := ks + 1604) (by omega) (by omega) ?_
  exact hnext c2 n2 hI2
def S36 (G : GT) (b : Nat) (I : Hp → Nat → Prop) : Prop := ∀ a1 : Int32, Stp2 G b I isI yX11_appeal cX11_appeal 9 (some .int) 6 0 0 yX12_appeal cX12_appeal 11 7 [.int a1]
set_option maxHeartbeats 4000000 in
set_option maxRecDepth 100000 in
theorem law_c36 {G : GT} {b bs L : Nat} {xs : Nat → Int32} {I : Hp → Nat → Prop} (hI0 : e_I0 I) (hS : S36 G b I) {x3 : Int32} (g1 : vp_in (x3 + 1) L) {c : Hp} {n kc ks : Nat} (hI : I c n) (hkc : kc + 5 ≤ 600000) (hks : ks + 1604 ≤ 7302250) (hnext : ∀ c2 n2, I c2 n2 → E G b x code 4 ret room_1 (e_XL b bs L xs) e_ZL 1486 [(0, .ref bs), (1, .ref (b + 0)), (2, .ref (b + 79)), (3, .int x3)] [] c2 n2 (kc + 5) (ks + 1604)) : E G b x code 4 ret room_1 (e_XL b bs L xs) e_ZL 1325 [(0, .ref bs), (1, .ref (b + 0)), (2, .ref (b + 79)), (3, .int x3)] [] c n kc ks := by
  obtain ⟨dd, hdd, Px, hCx, hx⟩ := hS (xs (x3 + 1).toNatClampNeg) c n hI
  obtain ⟨h0n, fs0, h0c⟩ := hI0 c n hI
  refine E.aload_n 1 dL_law_1325 rfl ?_
  refine E.aload_n 0 dL_law_1326 rfl ?_
  refine E.iload_n 3 dL_law_1327 rfl ?_
  refine E.iconst (v := 1) dL_law_1328 (by decide) ?_
  refine E.iadd dL_law_1329 ?_
  refine E.sld dL_law_1330 g1 ?_
  refine E.callV (As := [.int (xs (x3 + 1).toNatClampNeg)]) (rest := []) dL_law_1331 mlL_165 ⟨h0n, h0c⟩ rfl rfl hCx ⟨Nat.le_trans (Nat.succ_le_succ hdd) (Nat.le_of_ble_eq_true rfl), Nat.le_trans (show 64 * dd + 51 ≤ 64 * 6 + 51 by omega) (Nat.le_of_ble_eq_true rfl)⟩ rfl rfl (Nat.le_of_ble_eq_true rfl) ⟨by show kc + 0 ≤ 600000; omega, by show ks + 0 ≤ 7302250; omega⟩ (fun v c1 n1 hp => ?_)
  obtain ⟨⟨h79n, fs1, h79c⟩, ⟨r, rfl⟩, Pm, hCm, hm⟩ := hx v c1 n1 hp
  refine E.goalS (st' := [.int r]) rfl ?_
  refine E.aload_n 2 dL_law_1334 rfl ?_
  refine E.aload_n 0 dL_law_1335 rfl ?_
  refine E.iload_n 3 dL_law_1336 rfl ?_
  refine E.iconst (v := 1) dL_law_1337 (by decide) ?_
  refine E.iadd dL_law_1338 ?_
  refine E.sld dL_law_1339 g1 ?_
  refine E.callV (As := [.int (xs (x3 + 1).toNatClampNeg)]) (rest := [.int r]) dL_law_1340 mlL_168 ⟨h79n, h79c⟩ rfl rfl hCm ⟨Nat.le_of_ble_eq_true rfl, Nat.le_of_ble_eq_true rfl⟩ rfl rfl (Nat.le_of_ble_eq_true rfl) ⟨by show kc + 0 + 0 ≤ 600000; omega, by show ks + 0 + 0 ≤ 7302250; omega⟩ (fun v2 c2 n2 hp2 => ?_)
  obtain ⟨rfl, hI2⟩ := hm v2 c2 n2 hp2
  refine E.goalS (st' := [.int r, .int r]) rfl ?_
  refine E.icmp_eq dL_law_1343 (fun h => ?_) (fun h => absurd rfl h)
  refine E.widen (kc' := kc + 5) (ks' := ks + 1604) (by omega) (by omega) ?_
  exact hnext c2 n2 hI2
def S37 (G : GT) (b : Nat) (I : Hp → Nat → Prop) : Prop := ∀ a1 : Int32, Stp2 G b I isI yX11_sitting cX11_sitting 2 (some .int) 7 0 0 yX12_sitting cX12_sitting 4 6 [.int a1]
set_option maxHeartbeats 4000000 in
set_option maxRecDepth 100000 in
theorem law_c37 {G : GT} {b bs L : Nat} {xs : Nat → Int32} {I : Hp → Nat → Prop} (hI0 : e_I0 I) (hS : S37 G b I) {x3 : Int32} (g1 : vp_in (x3 + 1) L) {c : Hp} {n kc ks : Nat} (hI : I c n) (hkc : kc + 5 ≤ 600000) (hks : ks + 1604 ≤ 7302250) (hnext : ∀ c2 n2, I c2 n2 → E G b x code 4 ret room_1 (e_XL b bs L xs) e_ZL 1486 [(0, .ref bs), (1, .ref (b + 0)), (2, .ref (b + 79)), (3, .int x3)] [] c2 n2 (kc + 5) (ks + 1604)) : E G b x code 4 ret room_1 (e_XL b bs L xs) e_ZL 1348 [(0, .ref bs), (1, .ref (b + 0)), (2, .ref (b + 79)), (3, .int x3)] [] c n kc ks := by
  obtain ⟨dd, hdd, Px, hCx, hx⟩ := hS (xs (x3 + 1).toNatClampNeg) c n hI
  obtain ⟨h0n, fs0, h0c⟩ := hI0 c n hI
  refine E.aload_n 1 dL_law_1348 rfl ?_
  refine E.aload_n 0 dL_law_1349 rfl ?_
  refine E.iload_n 3 dL_law_1350 rfl ?_
  refine E.iconst (v := 1) dL_law_1351 (by decide) ?_
  refine E.iadd dL_law_1352 ?_
  refine E.sld dL_law_1353 g1 ?_
  refine E.callV (As := [.int (xs (x3 + 1).toNatClampNeg)]) (rest := []) dL_law_1354 mlL_169 ⟨h0n, h0c⟩ rfl rfl hCx ⟨Nat.le_trans (Nat.succ_le_succ hdd) (Nat.le_of_ble_eq_true rfl), Nat.le_trans (show 64 * dd + 51 ≤ 64 * 7 + 51 by omega) (Nat.le_of_ble_eq_true rfl)⟩ rfl rfl (Nat.le_of_ble_eq_true rfl) ⟨by show kc + 0 ≤ 600000; omega, by show ks + 0 ≤ 7302250; omega⟩ (fun v c1 n1 hp => ?_)
  obtain ⟨⟨h79n, fs1, h79c⟩, ⟨r, rfl⟩, Pm, hCm, hm⟩ := hx v c1 n1 hp
  refine E.goalS (st' := [.int r]) rfl ?_
  refine E.aload_n 2 dL_law_1357 rfl ?_
  refine E.aload_n 0 dL_law_1358 rfl ?_
  refine E.iload_n 3 dL_law_1359 rfl ?_
  refine E.iconst (v := 1) dL_law_1360 (by decide) ?_
  refine E.iadd dL_law_1361 ?_
  refine E.sld dL_law_1362 g1 ?_
  refine E.callV (As := [.int (xs (x3 + 1).toNatClampNeg)]) (rest := [.int r]) dL_law_1363 mlL_172 ⟨h79n, h79c⟩ rfl rfl hCm ⟨Nat.le_of_ble_eq_true rfl, Nat.le_of_ble_eq_true rfl⟩ rfl rfl (Nat.le_of_ble_eq_true rfl) ⟨by show kc + 0 + 0 ≤ 600000; omega, by show ks + 0 + 0 ≤ 7302250; omega⟩ (fun v2 c2 n2 hp2 => ?_)
  obtain ⟨rfl, hI2⟩ := hm v2 c2 n2 hp2
  refine E.goalS (st' := [.int r, .int r]) rfl ?_
  refine E.icmp_eq dL_law_1366 (fun h => ?_) (fun h => absurd rfl h)
  refine E.widen (kc' := kc + 5) (ks' := ks + 1604) (by omega) (by omega) ?_
  exact hnext c2 n2 hI2
def S38 (G : GT) (b : Nat) (I : Hp → Nat → Prop) : Prop := ∀ a1 a2 : Int32, Stp2 G b I isI yX11_lay cX11_lay 3 (some .int) 1 0 0 yX12_lay cX12_lay 3 1 [.int a1, .int a2]
set_option maxHeartbeats 4000000 in
set_option maxRecDepth 100000 in
theorem law_c38 {G : GT} {b bs L : Nat} {xs : Nat → Int32} {I : Hp → Nat → Prop} (hI0 : e_I0 I) (hS : S38 G b I) {x3 : Int32} (g1 : vp_in (x3 + 1) L) (g2 : vp_in (x3 + 2) L) {c : Hp} {n kc ks : Nat} (hI : I c n) (hkc : kc + 5 ≤ 600000) (hks : ks + 1604 ≤ 7302250) (hnext : ∀ c2 n2, I c2 n2 → E G b x code 4 ret room_1 (e_XL b bs L xs) e_ZL 1486 [(0, .ref bs), (1, .ref (b + 0)), (2, .ref (b + 79)), (3, .int x3)] [] c2 n2 (kc + 5) (ks + 1604)) : E G b x code 4 ret room_1 (e_XL b bs L xs) e_ZL 1371 [(0, .ref bs), (1, .ref (b + 0)), (2, .ref (b + 79)), (3, .int x3)] [] c n kc ks := by
  obtain ⟨dd, hdd, Px, hCx, hx⟩ := hS (xs (x3 + 1).toNatClampNeg) (xs (x3 + 2).toNatClampNeg) c n hI
  obtain ⟨h0n, fs0, h0c⟩ := hI0 c n hI
  refine E.aload_n 1 dL_law_1371 rfl ?_
  refine E.aload_n 0 dL_law_1372 rfl ?_
  refine E.iload_n 3 dL_law_1373 rfl ?_
  refine E.iconst (v := 1) dL_law_1374 (by decide) ?_
  refine E.iadd dL_law_1375 ?_
  refine E.sld dL_law_1376 g1 ?_
  refine E.aload_n 0 dL_law_1377 rfl ?_
  refine E.iload_n 3 dL_law_1378 rfl ?_
  refine E.iconst (v := 2) dL_law_1379 (by decide) ?_
  refine E.iadd dL_law_1380 ?_
  refine E.sld dL_law_1381 g2 ?_
  refine E.callV (As := [.int (xs (x3 + 1).toNatClampNeg), .int (xs (x3 + 2).toNatClampNeg)]) (rest := []) dL_law_1382 mlL_173 ⟨h0n, h0c⟩ rfl rfl hCx ⟨Nat.le_trans (Nat.succ_le_succ hdd) (Nat.le_of_ble_eq_true rfl), Nat.le_trans (show 64 * dd + 51 ≤ 64 * 1 + 51 by omega) (Nat.le_of_ble_eq_true rfl)⟩ rfl rfl (Nat.le_of_ble_eq_true rfl) ⟨by show kc + 0 ≤ 600000; omega, by show ks + 0 ≤ 7302250; omega⟩ (fun v c1 n1 hp => ?_)
  obtain ⟨⟨h79n, fs1, h79c⟩, ⟨r, rfl⟩, Pm, hCm, hm⟩ := hx v c1 n1 hp
  refine E.goalS (st' := [.int r]) rfl ?_
  refine E.aload_n 2 dL_law_1385 rfl ?_
  refine E.aload_n 0 dL_law_1386 rfl ?_
  refine E.iload_n 3 dL_law_1387 rfl ?_
  refine E.iconst (v := 1) dL_law_1388 (by decide) ?_
  refine E.iadd dL_law_1389 ?_
  refine E.sld dL_law_1390 g1 ?_
  refine E.aload_n 0 dL_law_1391 rfl ?_
  refine E.iload_n 3 dL_law_1392 rfl ?_
  refine E.iconst (v := 2) dL_law_1393 (by decide) ?_
  refine E.iadd dL_law_1394 ?_
  refine E.sld dL_law_1395 g2 ?_
  refine E.callV (As := [.int (xs (x3 + 1).toNatClampNeg), .int (xs (x3 + 2).toNatClampNeg)]) (rest := [.int r]) dL_law_1396 mlL_176 ⟨h79n, h79c⟩ rfl rfl hCm ⟨Nat.le_of_ble_eq_true rfl, Nat.le_of_ble_eq_true rfl⟩ rfl rfl (Nat.le_of_ble_eq_true rfl) ⟨by show kc + 0 + 0 ≤ 600000; omega, by show ks + 0 + 0 ≤ 7302250; omega⟩ (fun v2 c2 n2 hp2 => ?_)
  obtain ⟨rfl, hI2⟩ := hm v2 c2 n2 hp2
  refine E.goalS (st' := [.int r, .int r]) rfl ?_
  refine E.icmp_eq dL_law_1399 (fun h => ?_) (fun h => absurd rfl h)
  refine E.widen (kc' := kc + 5) (ks' := ks + 1604) (by omega) (by omega) ?_
  exact hnext c2 n2 hI2
def S39 (G : GT) (b : Nat) (I : Hp → Nat → Prop) : Prop := ∀ a1 : Int32, Stp2 G b I isI yX11_image cX11_image 2 (some .int) 3 0 0 yX12_image cX12_image 3 1 [.int a1]
set_option maxHeartbeats 4000000 in
set_option maxRecDepth 100000 in
theorem law_c39 {G : GT} {b bs L : Nat} {xs : Nat → Int32} {I : Hp → Nat → Prop} (hI0 : e_I0 I) (hS : S39 G b I) {x3 : Int32} (g1 : vp_in (x3 + 1) L) {c : Hp} {n kc ks : Nat} (hI : I c n) (hkc : kc + 5 ≤ 600000) (hks : ks + 1604 ≤ 7302250) (hnext : ∀ c2 n2, I c2 n2 → E G b x code 4 ret room_1 (e_XL b bs L xs) e_ZL 1486 [(0, .ref bs), (1, .ref (b + 0)), (2, .ref (b + 79)), (3, .int x3)] [] c2 n2 (kc + 5) (ks + 1604)) : E G b x code 4 ret room_1 (e_XL b bs L xs) e_ZL 1404 [(0, .ref bs), (1, .ref (b + 0)), (2, .ref (b + 79)), (3, .int x3)] [] c n kc ks := by
  obtain ⟨dd, hdd, Px, hCx, hx⟩ := hS (xs (x3 + 1).toNatClampNeg) c n hI
  obtain ⟨h0n, fs0, h0c⟩ := hI0 c n hI
  refine E.aload_n 1 dL_law_1404 rfl ?_
  refine E.aload_n 0 dL_law_1405 rfl ?_
  refine E.iload_n 3 dL_law_1406 rfl ?_
  refine E.iconst (v := 1) dL_law_1407 (by decide) ?_
  refine E.iadd dL_law_1408 ?_
  refine E.sld dL_law_1409 g1 ?_
  refine E.callV (As := [.int (xs (x3 + 1).toNatClampNeg)]) (rest := []) dL_law_1410 mlL_177 ⟨h0n, h0c⟩ rfl rfl hCx ⟨Nat.le_trans (Nat.succ_le_succ hdd) (Nat.le_of_ble_eq_true rfl), Nat.le_trans (show 64 * dd + 51 ≤ 64 * 3 + 51 by omega) (Nat.le_of_ble_eq_true rfl)⟩ rfl rfl (Nat.le_of_ble_eq_true rfl) ⟨by show kc + 0 ≤ 600000; omega, by show ks + 0 ≤ 7302250; omega⟩ (fun v c1 n1 hp => ?_)
  obtain ⟨⟨h79n, fs1, h79c⟩, ⟨r, rfl⟩, Pm, hCm, hm⟩ := hx v c1 n1 hp
  refine E.goalS (st' := [.int r]) rfl ?_
  refine E.aload_n 2 dL_law_1413 rfl ?_
  refine E.aload_n 0 dL_law_1414 rfl ?_
  refine E.iload_n 3 dL_law_1415 rfl ?_
  refine E.iconst (v := 1) dL_law_1416 (by decide) ?_
  refine E.iadd dL_law_1417 ?_
  refine E.sld dL_law_1418 g1 ?_
  refine E.callV (As := [.int (xs (x3 + 1).toNatClampNeg)]) (rest := [.int r]) dL_law_1419 mlL_180 ⟨h79n, h79c⟩ rfl rfl hCm ⟨Nat.le_of_ble_eq_true rfl, Nat.le_of_ble_eq_true rfl⟩ rfl rfl (Nat.le_of_ble_eq_true rfl) ⟨by show kc + 0 + 0 ≤ 600000; omega, by show ks + 0 + 0 ≤ 7302250; omega⟩ (fun v2 c2 n2 hp2 => ?_)
  obtain ⟨rfl, hI2⟩ := hm v2 c2 n2 hp2
  refine E.goalS (st' := [.int r, .int r]) rfl ?_
  refine E.icmp_eq dL_law_1422 (fun h => ?_) (fun h => absurd rfl h)
  refine E.widen (kc' := kc + 5) (ks' := ks + 1604) (by omega) (by omega) ?_
  exact hnext c2 n2 hI2
def S40 (G : GT) (b : Nat) (I : Hp → Nat → Prop) : Prop := ∀ a1 : Int32, Stp2 G b I isI yX11_back cX11_back 2 (some .int) 3 0 0 yX12_back cX12_back 3 1 [.int a1]
set_option maxHeartbeats 4000000 in
set_option maxRecDepth 100000 in
theorem law_c40 {G : GT} {b bs L : Nat} {xs : Nat → Int32} {I : Hp → Nat → Prop} (hI0 : e_I0 I) (hS : S40 G b I) {x3 : Int32} (g1 : vp_in (x3 + 1) L) {c : Hp} {n kc ks : Nat} (hI : I c n) (hkc : kc + 5 ≤ 600000) (hks : ks + 1604 ≤ 7302250) (hnext : ∀ c2 n2, I c2 n2 → E G b x code 4 ret room_1 (e_XL b bs L xs) e_ZL 1486 [(0, .ref bs), (1, .ref (b + 0)), (2, .ref (b + 79)), (3, .int x3)] [] c2 n2 (kc + 5) (ks + 1604)) : E G b x code 4 ret room_1 (e_XL b bs L xs) e_ZL 1427 [(0, .ref bs), (1, .ref (b + 0)), (2, .ref (b + 79)), (3, .int x3)] [] c n kc ks := by
  obtain ⟨dd, hdd, Px, hCx, hx⟩ := hS (xs (x3 + 1).toNatClampNeg) c n hI
  obtain ⟨h0n, fs0, h0c⟩ := hI0 c n hI
  refine E.aload_n 1 dL_law_1427 rfl ?_
  refine E.aload_n 0 dL_law_1428 rfl ?_
  refine E.iload_n 3 dL_law_1429 rfl ?_
  refine E.iconst (v := 1) dL_law_1430 (by decide) ?_
  refine E.iadd dL_law_1431 ?_
  refine E.sld dL_law_1432 g1 ?_
  refine E.callV (As := [.int (xs (x3 + 1).toNatClampNeg)]) (rest := []) dL_law_1433 mlL_181 ⟨h0n, h0c⟩ rfl rfl hCx ⟨Nat.le_trans (Nat.succ_le_succ hdd) (Nat.le_of_ble_eq_true rfl), Nat.le_trans (show 64 * dd + 51 ≤ 64 * 3 + 51 by omega) (Nat.le_of_ble_eq_true rfl)⟩ rfl rfl (Nat.le_of_ble_eq_true rfl) ⟨by show kc + 0 ≤ 600000; omega, by show ks + 0 ≤ 7302250; omega⟩ (fun v c1 n1 hp => ?_)
  obtain ⟨⟨h79n, fs1, h79c⟩, ⟨r, rfl⟩, Pm, hCm, hm⟩ := hx v c1 n1 hp
  refine E.goalS (st' := [.int r]) rfl ?_
  refine E.aload_n 2 dL_law_1436 rfl ?_
  refine E.aload_n 0 dL_law_1437 rfl ?_
  refine E.iload_n 3 dL_law_1438 rfl ?_
  refine E.iconst (v := 1) dL_law_1439 (by decide) ?_
  refine E.iadd dL_law_1440 ?_
  refine E.sld dL_law_1441 g1 ?_
  refine E.callV (As := [.int (xs (x3 + 1).toNatClampNeg)]) (rest := [.int r]) dL_law_1442 mlL_184 ⟨h79n, h79c⟩ rfl rfl hCm ⟨Nat.le_of_ble_eq_true rfl, Nat.le_of_ble_eq_true rfl⟩ rfl rfl (Nat.le_of_ble_eq_true rfl) ⟨by show kc + 0 + 0 ≤ 600000; omega, by show ks + 0 + 0 ≤ 7302250; omega⟩ (fun v2 c2 n2 hp2 => ?_)
  obtain ⟨rfl, hI2⟩ := hm v2 c2 n2 hp2
  refine E.goalS (st' := [.int r, .int r]) rfl ?_
  refine E.icmp_eq dL_law_1445 (fun h => ?_) (fun h => absurd rfl h)
  refine E.widen (kc' := kc + 5) (ks' := ks + 1604) (by omega) (by omega) ?_
  exact hnext c2 n2 hI2
def S41 (G : GT) (b : Nat) (I : Hp → Nat → Prop) : Prop := ∀ a1 : Int32, Stp2 G b I isI yX11_count cX11_count 2 (some .int) 1 0 0 yX12_count cX12_count 2 1 [.int a1]
set_option maxHeartbeats 4000000 in
set_option maxRecDepth 100000 in
theorem law_c41 {G : GT} {b bs L : Nat} {xs : Nat → Int32} {I : Hp → Nat → Prop} (hI0 : e_I0 I) (hS : S41 G b I) {x3 : Int32} (g1 : vp_in (x3 + 1) L) {c : Hp} {n kc ks : Nat} (hI : I c n) (hkc : kc + 5 ≤ 600000) (hks : ks + 1604 ≤ 7302250) (hnext : ∀ c2 n2, I c2 n2 → E G b x code 4 ret room_1 (e_XL b bs L xs) e_ZL 1486 [(0, .ref bs), (1, .ref (b + 0)), (2, .ref (b + 79)), (3, .int x3)] [] c2 n2 (kc + 5) (ks + 1604)) : E G b x code 4 ret room_1 (e_XL b bs L xs) e_ZL 1450 [(0, .ref bs), (1, .ref (b + 0)), (2, .ref (b + 79)), (3, .int x3)] [] c n kc ks := by
  obtain ⟨dd, hdd, Px, hCx, hx⟩ := hS (xs (x3 + 1).toNatClampNeg) c n hI
  obtain ⟨h0n, fs0, h0c⟩ := hI0 c n hI
  refine E.aload_n 1 dL_law_1450 rfl ?_
  refine E.aload_n 0 dL_law_1451 rfl ?_
  refine E.iload_n 3 dL_law_1452 rfl ?_
  refine E.iconst (v := 1) dL_law_1453 (by decide) ?_
  refine E.iadd dL_law_1454 ?_
  refine E.sld dL_law_1455 g1 ?_
  refine E.callV (As := [.int (xs (x3 + 1).toNatClampNeg)]) (rest := []) dL_law_1456 mlL_185 ⟨h0n, h0c⟩ rfl rfl hCx ⟨Nat.le_trans (Nat.succ_le_succ hdd) (Nat.le_of_ble_eq_true rfl), Nat.le_trans (show 64 * dd + 51 ≤ 64 * 1 + 51 by omega) (Nat.le_of_ble_eq_true rfl)⟩ rfl rfl (Nat.le_of_ble_eq_true rfl) ⟨by show kc + 0 ≤ 600000; omega, by show ks + 0 ≤ 7302250; omega⟩ (fun v c1 n1 hp => ?_)
  obtain ⟨⟨h79n, fs1, h79c⟩, ⟨r, rfl⟩, Pm, hCm, hm⟩ := hx v c1 n1 hp
  refine E.goalS (st' := [.int r]) rfl ?_
  refine E.aload_n 2 dL_law_1459 rfl ?_
  refine E.aload_n 0 dL_law_1460 rfl ?_
  refine E.iload_n 3 dL_law_1461 rfl ?_
  refine E.iconst (v := 1) dL_law_1462 (by decide) ?_
  refine E.iadd dL_law_1463 ?_
  refine E.sld dL_law_1464 g1 ?_
  refine E.callV (As := [.int (xs (x3 + 1).toNatClampNeg)]) (rest := [.int r]) dL_law_1465 mlL_188 ⟨h79n, h79c⟩ rfl rfl hCm ⟨Nat.le_of_ble_eq_true rfl, Nat.le_of_ble_eq_true rfl⟩ rfl rfl (Nat.le_of_ble_eq_true rfl) ⟨by show kc + 0 + 0 ≤ 600000; omega, by show ks + 0 + 0 ≤ 7302250; omega⟩ (fun v2 c2 n2 hp2 => ?_)
  obtain ⟨rfl, hI2⟩ := hm v2 c2 n2 hp2
  refine E.goalS (st' := [.int r, .int r]) rfl ?_
  refine E.icmp_eq dL_law_1468 (fun h => ?_) (fun h => absurd rfl h)
  refine E.widen (kc' := kc + 5) (ks' := ks + 1604) (by omega) (by omega) ?_
  exact hnext c2 n2 hI2
def S42 (G : GT) (b : Nat) (I : Hp → Nat → Prop) : Prop := Stp2 G b I isI yX11_status cX11_status 1 (some .int) 0 0 0 yX12_status cX12_status 1 0 []
set_option maxHeartbeats 4000000 in
set_option maxRecDepth 100000 in
theorem law_c42 {G : GT} {b bs L : Nat} {xs : Nat → Int32} {I : Hp → Nat → Prop} (hI0 : e_I0 I) (hS : S42 G b I) {x3 : Int32} {c : Hp} {n kc ks : Nat} (hI : I c n) (hkc : kc + 5 ≤ 600000) (hks : ks + 1604 ≤ 7302250) (hnext : ∀ c2 n2, I c2 n2 → E G b x code 4 ret room_1 (e_XL b bs L xs) e_ZL 1486 [(0, .ref bs), (1, .ref (b + 0)), (2, .ref (b + 79)), (3, .int x3)] [] c2 n2 (kc + 5) (ks + 1604)) : E G b x code 4 ret room_1 (e_XL b bs L xs) e_ZL 1473 [(0, .ref bs), (1, .ref (b + 0)), (2, .ref (b + 79)), (3, .int x3)] [] c n kc ks := by
  obtain ⟨dd, hdd, Px, hCx, hx⟩ := hS  c n hI
  obtain ⟨h0n, fs0, h0c⟩ := hI0 c n hI
  refine E.aload_n 1 dL_law_1473 rfl ?_
  refine E.callV (As := []) (rest := []) dL_law_1474 mlL_189 ⟨h0n, h0c⟩ rfl rfl hCx ⟨Nat.le_trans (Nat.succ_le_succ hdd) (Nat.le_of_ble_eq_true rfl), Nat.le_trans (show 64 * dd + 51 ≤ 64 * 0 + 51 by omega) (Nat.le_of_ble_eq_true rfl)⟩ rfl rfl (Nat.le_of_ble_eq_true rfl) ⟨by show kc + 0 ≤ 600000; omega, by show ks + 0 ≤ 7302250; omega⟩ (fun v c1 n1 hp => ?_)
  obtain ⟨⟨h79n, fs1, h79c⟩, ⟨r, rfl⟩, Pm, hCm, hm⟩ := hx v c1 n1 hp
  refine E.goalS (st' := [.int r]) rfl ?_
  refine E.aload_n 2 dL_law_1477 rfl ?_
  refine E.callV (As := []) (rest := [.int r]) dL_law_1478 mlL_192 ⟨h79n, h79c⟩ rfl rfl hCm ⟨Nat.le_of_ble_eq_true rfl, Nat.le_of_ble_eq_true rfl⟩ rfl rfl (Nat.le_of_ble_eq_true rfl) ⟨by show kc + 0 + 0 ≤ 600000; omega, by show ks + 0 + 0 ≤ 7302250; omega⟩ (fun v2 c2 n2 hp2 => ?_)
  obtain ⟨rfl, hI2⟩ := hm v2 c2 n2 hp2
  refine E.goalS (st' := [.int r, .int r]) rfl ?_
  refine E.icmp_eq dL_law_1481 (fun h => ?_) (fun h => absurd rfl h)
  refine E.widen (kc' := kc + 5) (ks' := ks + 1604) (by omega) (by omega) ?_
  exact hnext c2 n2 hI2
set_option maxRecDepth 100000 in
theorem law_end {G : GT} {b bs L : Nat} {xs : Nat → Int32} (hL : L ≤ 3072) {i : Nat} (hlt : L < i + 6) {x3 : Int32} (hx : x3 = nI i) (hi : i ≤ 3072) {c : Hp} {n kc ks : Nat} (hkc : kc ≤ 600000) (hks : ks ≤ 7302250) : E G b x code 4 ret room_1 (e_XL b bs L xs) e_ZL 18 [(0, .ref bs), (1, .ref (b + 0)), (2, .ref (b + 79)), (3, .int x3)] [] c n kc ks := by
  refine E.iload_n 3 dL_law_18 rfl ?_
  refine E.aload_n 0 dL_law_19 rfl ?_
  refine E.slenL dL_law_20 ?_
  refine E.bipush (v := 6) dL_law_21 (by decide) ?_
  refine E.isub dL_law_23 ?_
  have e6 : (Int32.ofNat L - 6).toInt = (L : Int) - 6 := pk_sub_toInt (a := L) (b := 6) (by omega) (by decide)
  refine E.icmp_gt dL_law_24 (fun h => ?_) (fun h => absurd ?_ h)
  · refine E.iconst (v := 1) dL_law_1492 (by decide) ?_
    exact E.done dL_law_1493 hkc hks
  · rw [Int32.lt_iff_toInt_lt, e6, hx, nI_toInt (by omega)]
    omega
set_option maxHeartbeats 8000000 in
set_option maxRecDepth 100000 in
theorem law_loop {G : GT} {b bs L : Nat} {xs : Nat → Int32} {I : Hp → Nat → Prop} (hL : L ≤ 3072) (hI0 : e_I0 I) (hS0 : S0 G b I) (hS1 : S1 G b I) (hS2 : S2 G b I) (hS3 : S3 G b I) (hS4 : S4 G b I) (hS5 : S5 G b I) (hS6 : S6 G b I) (hS7 : S7 G b I) (hS8 : S8 G b I) (hS9 : S9 G b I) (hS10 : S10 G b I) (hS11 : S11 G b I) (hS12 : S12 G b I) (hS13 : S13 G b I) (hS14 : S14 G b I) (hS15 : S15 G b I) (hS16 : S16 G b I) (hS17 : S17 G b I) (hS18 : S18 G b I) (hS19 : S19 G b I) (hS20 : S20 G b I) (hS21 : S21 G b I) (hS22 : S22 G b I) (hS23 : S23 G b I) (hS24 : S24 G b I) (hS25 : S25 G b I) (hS26 : S26 G b I) (hS27 : S27 G b I) (hS28 : S28 G b I) (hS29 : S29 G b I) (hS30 : S30 G b I) (hS31 : S31 G b I) (hS32 : S32 G b I) (hS33 : S33 G b I) (hS34 : S34 G b I) (hS35 : S35 G b I) (hS36 : S36 G b I) (hS37 : S37 G b I) (hS38 : S38 G b I) (hS39 : S39 G b I) (hS40 : S40 G b I) (hS41 : S41 G b I) (hS42 : S42 G b I) : ∀ (t i : Nat) (x3 : Int32) (c : Hp) (n kc ks : Nat), x3 = nI i → i ≤ 3072 → L + 6 ≤ i + 6 * t → kc + 5 * t ≤ 600000 → ks + 1604 * t ≤ 7302250 → I c n → E G b x code 4 ret room_1 (e_XL b bs L xs) e_ZL 18 [(0, .ref bs), (1, .ref (b + 0)), (2, .ref (b + 79)), (3, .int x3)] [] c n kc ks := by
  intro t
  induction t with
  | zero =>
    intro i x3 c n kc ks hx hi ht hkc hks hI
    exact law_end hL (by omega) hx hi (by omega) (by omega)
  | succ t ih =>
    intro i x3 c n kc ks hx hi ht hkc hks hI
    by_cases hlt : L < i + 6
    · exact law_end hL hlt hx hi (by omega) (by omega)
    have g : ∀ k : Nat, k < 6 → vp_in (x3 + nI k) L := fun k hk => by rw [hx, nI_add]; exact vp_in_nI (by omega) (by omega)
    have g0 : vp_in x3 L := by rw [hx]; exact vp_in_nI (by omega) (by omega)
    have g1 : vp_in (x3 + 1) L := g 1 (by decide)
    have g2 : vp_in (x3 + 2) L := g 2 (by decide)
    have g3 : vp_in (x3 + 3) L := g 3 (by decide)
    have g4 : vp_in (x3 + 4) L := g 4 (by decide)
    have g5 : vp_in (x3 + 5) L := g 5 (by decide)
    have hnext : ∀ c2 n2, I c2 n2 → E G b x code 4 ret room_1 (e_XL b bs L xs) e_ZL 1486 [(0, .ref bs), (1, .ref (b + 0)), (2, .ref (b + 79)), (3, .int x3)] [] c2 n2 (kc + 5) (ks + 1604) := by
      intro c2 n2 hI2
      refine E.iinc (q := 3) (v := x3 + 6) (lv' := [(3, .int (x3 + 6)), (0, .ref bs), (1, .ref (b + 0)), (2, .ref (b + 79))]) dL_law_1486 rfl rfl (by decide) rfl ?_
      refine E.goto dL_law_1489 ?_
      refine E.locals [1, 2, 3, 0] rfl ?_
      exact ih (i + 6) (x3 + 6) c2 n2 (kc + 5) (ks + 1604) (by rw [hx]; exact nI_add i 6) (by omega) (by omega) (by omega) (by omega) hI2
    refine E.iload_n 3 dL_law_18 rfl ?_
    refine E.aload_n 0 dL_law_19 rfl ?_
    refine E.slenL dL_law_20 ?_
    refine E.bipush (v := 6) dL_law_21 (by decide) ?_
    refine E.isub dL_law_23 ?_
    refine E.icmp_gt dL_law_24 (fun h => ?_) (fun h => ?_)
    · refine absurd h ?_
      rw [Int32.not_lt, Int32.le_iff_toInt_le, hx, nI_toInt (by omega)]
      have e6 : (Int32.ofNat L - 6).toInt = (L : Int) - 6 := pk_sub_toInt (a := L) (b := 6) (by omega) (by decide)
      rw [e6]
      omega
    refine E.aload_n 0 dL_law_27 rfl ?_
    refine E.iload_n 3 dL_law_28 rfl ?_
    refine E.sld dL_law_29 g0 ?_
    refine E.bipush (v := 63) dL_law_30 (by decide) ?_
    refine E.iand dL_law_32 ?_
    generalize hv : (xs x3.toNatClampNeg &&& 63) = v
    by_cases h0 : v = 0
    · refine E.tswI (w := 0) (tgt := 220) dL_law_33 h0 (by decide) (by decide) (o2 := 187) rfl (by decide) ?_
      exact law_c0 hI0 hS0 g1 g2 g3 g4 g5 hI (by omega) (by omega) hnext
    by_cases h1 : v = 1
    · refine E.tswI (w := 1) (tgt := 283) dL_law_33 h1 (by decide) (by decide) (o2 := 250) rfl (by decide) ?_
      exact law_c1 hI0 hS1 g1 g2 g3 hI (by omega) (by omega) hnext
    by_cases h2 : v = 2
    · refine E.tswI (w := 2) (tgt := 326) dL_law_33 h2 (by decide) (by decide) (o2 := 293) rfl (by decide) ?_
      exact law_c2 hI0 hS2 g1 g2 hI (by omega) (by omega) hnext
    by_cases h3 : v = 3
    · refine E.tswI (w := 3) (tgt := 359) dL_law_33 h3 (by decide) (by decide) (o2 := 326) rfl (by decide) ?_
      exact law_c3 hI0 hS3 g1 g2 hI (by omega) (by omega) hnext
    by_cases h4 : v = 4
    · refine E.tswI (w := 4) (tgt := 392) dL_law_33 h4 (by decide) (by decide) (o2 := 359) rfl (by decide) ?_
      exact law_c4 hI0 hS4 hI (by omega) (by omega) hnext
    by_cases h5 : v = 5
    · refine E.tswI (w := 5) (tgt := 405) dL_law_33 h5 (by decide) (by decide) (o2 := 372) rfl (by decide) ?_
      exact law_c5 hI0 hS5 g1 g2 hI (by omega) (by omega) hnext
    by_cases h6 : v = 6
    · refine E.tswI (w := 6) (tgt := 438) dL_law_33 h6 (by decide) (by decide) (o2 := 405) rfl (by decide) ?_
      exact law_c6 hI0 hS6 g1 hI (by omega) (by omega) hnext
    by_cases h7 : v = 7
    · refine E.tswI (w := 7) (tgt := 461) dL_law_33 h7 (by decide) (by decide) (o2 := 428) rfl (by decide) ?_
      exact law_c7 hI0 hS7 g1 g2 hI (by omega) (by omega) hnext
    by_cases h8 : v = 8
    · refine E.tswI (w := 8) (tgt := 494) dL_law_33 h8 (by decide) (by decide) (o2 := 461) rfl (by decide) ?_
      exact law_c8 hI0 hS8 g1 g2 g3 g4 g5 hI (by omega) (by omega) hnext
    by_cases h9 : v = 9
    · refine E.tswI (w := 9) (tgt := 557) dL_law_33 h9 (by decide) (by decide) (o2 := 524) rfl (by decide) ?_
      exact law_c9 hI0 hS9 g1 hI (by omega) (by omega) hnext
    by_cases h10 : v = 10
    · refine E.tswI (w := 10) (tgt := 580) dL_law_33 h10 (by decide) (by decide) (o2 := 547) rfl (by decide) ?_
      exact law_c10 hI0 hS10 hI (by omega) (by omega) hnext
    by_cases h11 : v = 11
    · refine E.tswI (w := 11) (tgt := 593) dL_law_33 h11 (by decide) (by decide) (o2 := 560) rfl (by decide) ?_
      exact law_c11 hI0 hS11 hI (by omega) (by omega) hnext
    by_cases h12 : v = 12
    · refine E.tswI (w := 12) (tgt := 606) dL_law_33 h12 (by decide) (by decide) (o2 := 573) rfl (by decide) ?_
      exact law_c12 hI0 hS12 hI (by omega) (by omega) hnext
    by_cases h13 : v = 13
    · refine E.tswI (w := 13) (tgt := 619) dL_law_33 h13 (by decide) (by decide) (o2 := 586) rfl (by decide) ?_
      exact law_c13 hI0 hS13 hI (by omega) (by omega) hnext
    by_cases h14 : v = 14
    · refine E.tswI (w := 14) (tgt := 632) dL_law_33 h14 (by decide) (by decide) (o2 := 599) rfl (by decide) ?_
      exact law_c14 hI0 hS14 g1 hI (by omega) (by omega) hnext
    by_cases h15 : v = 15
    · refine E.tswI (w := 15) (tgt := 655) dL_law_33 h15 (by decide) (by decide) (o2 := 622) rfl (by decide) ?_
      exact law_c15 hI0 hS15 g1 g2 g3 hI (by omega) (by omega) hnext
    by_cases h16 : v = 16
    · refine E.tswI (w := 16) (tgt := 698) dL_law_33 h16 (by decide) (by decide) (o2 := 665) rfl (by decide) ?_
      exact law_c16 hI0 hS16 g1 g2 hI (by omega) (by omega) hnext
    by_cases h17 : v = 17
    · refine E.tswI (w := 17) (tgt := 731) dL_law_33 h17 (by decide) (by decide) (o2 := 698) rfl (by decide) ?_
      exact law_c17 hI0 hS17 g1 hI (by omega) (by omega) hnext
    by_cases h18 : v = 18
    · refine E.tswI (w := 18) (tgt := 755) dL_law_33 h18 (by decide) (by decide) (o2 := 722) rfl (by decide) ?_
      exact law_c18 hI0 hS18 g1 hI (by omega) (by omega) hnext
    by_cases h19 : v = 19
    · refine E.tswI (w := 19) (tgt := 779) dL_law_33 h19 (by decide) (by decide) (o2 := 746) rfl (by decide) ?_
      exact law_c19 hI0 hS19 g1 g2 hI (by omega) (by omega) hnext
    by_cases h20 : v = 20
    · refine E.tswI (w := 20) (tgt := 813) dL_law_33 h20 (by decide) (by decide) (o2 := 780) rfl (by decide) ?_
      exact law_c20 hI0 hS20 g1 g2 g3 hI (by omega) (by omega) hnext
    by_cases h21 : v = 21
    · refine E.tswI (w := 21) (tgt := 856) dL_law_33 h21 (by decide) (by decide) (o2 := 823) rfl (by decide) ?_
      exact law_c21 hI0 hS21 g1 g2 hI (by omega) (by omega) hnext
    by_cases h22 : v = 22
    · refine E.tswI (w := 22) (tgt := 889) dL_law_33 h22 (by decide) (by decide) (o2 := 856) rfl (by decide) ?_
      exact law_c22 hI0 hS22 g1 hI (by omega) (by omega) hnext
    by_cases h23 : v = 23
    · refine E.tswI (w := 23) (tgt := 913) dL_law_33 h23 (by decide) (by decide) (o2 := 880) rfl (by decide) ?_
      exact law_c23 hI0 hS23 g1 hI (by omega) (by omega) hnext
    by_cases h24 : v = 24
    · refine E.tswI (w := 24) (tgt := 936) dL_law_33 h24 (by decide) (by decide) (o2 := 903) rfl (by decide) ?_
      exact law_c24 hI0 hS24 g1 g2 g3 hI (by omega) (by omega) hnext
    by_cases h25 : v = 25
    · refine E.tswI (w := 25) (tgt := 979) dL_law_33 h25 (by decide) (by decide) (o2 := 946) rfl (by decide) ?_
      exact law_c25 hI0 hS25 g1 g2 hI (by omega) (by omega) hnext
    by_cases h26 : v = 26
    · refine E.tswI (w := 26) (tgt := 1012) dL_law_33 h26 (by decide) (by decide) (o2 := 979) rfl (by decide) ?_
      exact law_c26 hI0 hS26 g1 g2 hI (by omega) (by omega) hnext
    by_cases h27 : v = 27
    · refine E.tswI (w := 27) (tgt := 1045) dL_law_33 h27 (by decide) (by decide) (o2 := 1012) rfl (by decide) ?_
      exact law_c27 hI0 hS27 g1 hI (by omega) (by omega) hnext
    by_cases h28 : v = 28
    · refine E.tswI (w := 28) (tgt := 1069) dL_law_33 h28 (by decide) (by decide) (o2 := 1036) rfl (by decide) ?_
      exact law_c28 hI0 hS28 hI (by omega) (by omega) hnext
    by_cases h29 : v = 29
    · refine E.tswI (w := 29) (tgt := 1082) dL_law_33 h29 (by decide) (by decide) (o2 := 1049) rfl (by decide) ?_
      exact law_c29 hI0 hS29 g1 g2 g3 hI (by omega) (by omega) hnext
    by_cases h30 : v = 30
    · refine E.tswI (w := 30) (tgt := 1125) dL_law_33 h30 (by decide) (by decide) (o2 := 1092) rfl (by decide) ?_
      exact law_c30 hI0 hS30 g1 hI (by omega) (by omega) hnext
    by_cases h31 : v = 31
    · refine E.tswI (w := 31) (tgt := 1148) dL_law_33 h31 (by decide) (by decide) (o2 := 1115) rfl (by decide) ?_
      exact law_c31 hI0 hS31 g1 g2 hI (by omega) (by omega) hnext
    by_cases h32 : v = 32
    · refine E.tswI (w := 32) (tgt := 1181) dL_law_33 h32 (by decide) (by decide) (o2 := 1148) rfl (by decide) ?_
      exact law_c32 hI0 hS32 g1 g2 g3 hI (by omega) (by omega) hnext
    by_cases h33 : v = 33
    · refine E.tswI (w := 33) (tgt := 1224) dL_law_33 h33 (by decide) (by decide) (o2 := 1191) rfl (by decide) ?_
      exact law_c33 hI0 hS33 g1 g2 hI (by omega) (by omega) hnext
    by_cases h34 : v = 34
    · refine E.tswI (w := 34) (tgt := 1258) dL_law_33 h34 (by decide) (by decide) (o2 := 1225) rfl (by decide) ?_
      exact law_c34 hI0 hS34 g1 hI (by omega) (by omega) hnext
    by_cases h35 : v = 35
    · refine E.tswI (w := 35) (tgt := 1281) dL_law_33 h35 (by decide) (by decide) (o2 := 1248) rfl (by decide) ?_
      exact law_c35 hI0 hS35 g1 g2 g3 hI (by omega) (by omega) hnext
    by_cases h36 : v = 36
    · refine E.tswI (w := 36) (tgt := 1325) dL_law_33 h36 (by decide) (by decide) (o2 := 1292) rfl (by decide) ?_
      exact law_c36 hI0 hS36 g1 hI (by omega) (by omega) hnext
    by_cases h37 : v = 37
    · refine E.tswI (w := 37) (tgt := 1348) dL_law_33 h37 (by decide) (by decide) (o2 := 1315) rfl (by decide) ?_
      exact law_c37 hI0 hS37 g1 hI (by omega) (by omega) hnext
    by_cases h38 : v = 38
    · refine E.tswI (w := 38) (tgt := 1371) dL_law_33 h38 (by decide) (by decide) (o2 := 1338) rfl (by decide) ?_
      exact law_c38 hI0 hS38 g1 g2 hI (by omega) (by omega) hnext
    by_cases h39 : v = 39
    · refine E.tswI (w := 39) (tgt := 1404) dL_law_33 h39 (by decide) (by decide) (o2 := 1371) rfl (by decide) ?_
      exact law_c39 hI0 hS39 g1 hI (by omega) (by omega) hnext
    by_cases h40 : v = 40
    · refine E.tswI (w := 40) (tgt := 1427) dL_law_33 h40 (by decide) (by decide) (o2 := 1394) rfl (by decide) ?_
      exact law_c40 hI0 hS40 g1 hI (by omega) (by omega) hnext
    by_cases h41 : v = 41
    · refine E.tswI (w := 41) (tgt := 1450) dL_law_33 h41 (by decide) (by decide) (o2 := 1417) rfl (by decide) ?_
      exact law_c41 hI0 hS41 g1 hI (by omega) (by omega) hnext
    by_cases h42 : v = 42
    · refine E.tswI (w := 42) (tgt := 1473) dL_law_33 h42 (by decide) (by decide) (o2 := 1440) rfl (by decide) ?_
      exact law_c42 hI0 hS42 hI (by omega) (by omega) hnext
    refine E.tswO (tgt := 1486) dL_law_33 (e_tsw_43 (ne_toInt h0 (k := 0) (by decide)) (ne_toInt h1 (k := 1) (by decide)) (ne_toInt h2 (k := 2) (by decide)) (ne_toInt h3 (k := 3) (by decide)) (ne_toInt h4 (k := 4) (by decide)) (ne_toInt h5 (k := 5) (by decide)) (ne_toInt h6 (k := 6) (by decide)) (ne_toInt h7 (k := 7) (by decide)) (ne_toInt h8 (k := 8) (by decide)) (ne_toInt h9 (k := 9) (by decide)) (ne_toInt h10 (k := 10) (by decide)) (ne_toInt h11 (k := 11) (by decide)) (ne_toInt h12 (k := 12) (by decide)) (ne_toInt h13 (k := 13) (by decide)) (ne_toInt h14 (k := 14) (by decide)) (ne_toInt h15 (k := 15) (by decide)) (ne_toInt h16 (k := 16) (by decide)) (ne_toInt h17 (k := 17) (by decide)) (ne_toInt h18 (k := 18) (by decide)) (ne_toInt h19 (k := 19) (by decide)) (ne_toInt h20 (k := 20) (by decide)) (ne_toInt h21 (k := 21) (by decide)) (ne_toInt h22 (k := 22) (by decide)) (ne_toInt h23 (k := 23) (by decide)) (ne_toInt h24 (k := 24) (by decide)) (ne_toInt h25 (k := 25) (by decide)) (ne_toInt h26 (k := 26) (by decide)) (ne_toInt h27 (k := 27) (by decide)) (ne_toInt h28 (k := 28) (by decide)) (ne_toInt h29 (k := 29) (by decide)) (ne_toInt h30 (k := 30) (by decide)) (ne_toInt h31 (k := 31) (by decide)) (ne_toInt h32 (k := 32) (by decide)) (ne_toInt h33 (k := 33) (by decide)) (ne_toInt h34 (k := 34) (by decide)) (ne_toInt h35 (k := 35) (by decide)) (ne_toInt h36 (k := 36) (by decide)) (ne_toInt h37 (k := 37) (by decide)) (ne_toInt h38 (k := 38) (by decide)) (ne_toInt h39 (k := 39) (by decide)) (ne_toInt h40 (k := 40) (by decide)) (ne_toInt h41 (k := 41) (by decide)) (ne_toInt h42 (k := 42) (by decide)) (by decide) (by decide) (by decide) (by decide) (by decide) (by decide) (by decide) (by decide) (by decide) (by decide) (by decide) (by decide) (by decide) (by decide) (by decide) (by decide) (by decide) (by decide) (by decide) (by decide) (by decide) (by decide) (by decide) (by decide) (by decide) (by decide) (by decide) (by decide) (by decide) (by decide) (by decide) (by decide) (by decide) (by decide) (by decide) (by decide) (by decide) (by decide) (by decide) (by decide) (by decide) (by decide) (by decide) (by decide)) (by decide) ?_
    refine E.widen (kc' := kc + 5) (ks' := ks + 1604) (by omega) (by omega) ?_
    exact hnext c n hI
