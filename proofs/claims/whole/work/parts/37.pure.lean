/-! the text: the reference's lines -/
theorem bn6_c {a1 a2 a3 a4 a5 a6 b : Type} {o : Option (a1 × a2 × a3 × a4 × a5 × a6)} {k k' : a1 → a2 → a3 → a4 → a5 → a6 → Option b} (h : ∀ x1 x2 x3 x4 x5 x6, k x1 x2 x3 x4 x5 x6 = k' x1 x2 x3 x4 x5 x6) : bn6 o k = bn6 o k' := by
  have : k = k' := by funext x1 x2 x3 x4 x5 x6; exact h _ _ _ _ _ _
  rw [this]
theorem bn7_c {a1 a2 a3 a4 a5 a6 a7 b : Type} {o : Option (a1 × a2 × a3 × a4 × a5 × a6 × a7)} {k k' : a1 → a2 → a3 → a4 → a5 → a6 → a7 → Option b} (h : ∀ x1 x2 x3 x4 x5 x6 x7, k x1 x2 x3 x4 x5 x6 x7 = k' x1 x2 x3 x4 x5 x6 x7) : bn7 o k = bn7 o k' := by
  have : k = k' := by funext x1 x2 x3 x4 x5 x6 x7; exact h _ _ _ _ _ _ _
  rw [this]
section SHAPES
variable {T br ba sp he to va : Int32} {st tape : Nat → Int32} {r i : Nat}
theorem rR_s (x : Int32) (hs : st 1358 = nI r) (hr : r < 8) : f_X8_readRoutine x T br ba sp he to va st tape = bn6 (f_X8_readsOn T br ba sp he to va tape) (fun br ba sp he to va => bn7 (f_X8_numberRead 0 999 T br ba sp he to va tape) (fun a br ba sp he to va => bn7 (f_X8_numberRead a 999 T br ba sp he to va tape) (fun b br ba sp he to va => some (br, ba, sp, he, to, va, SR st r a b x)))) := by
  unfold f_X8_readRoutine
  rw [ckI (by decide) (by decide), show st ((1358 : Int32)).toNatClampNeg = nI r from hs, if_neg (show ¬ nI r = 8 from fun z => by rw [ei, nT (by omega)] at z; have : (r : Int) = 8 := z; omega)]
  refine bn6_c (fun br ba sp he to va => bn7_c (fun a br ba sp he to va => ?_))
  rw [show (1062 : Int32) + nI r = nI (1062 + r) from nI_add 1062 r, ckN (by omega) (by omega)]
  refine bn7_c (fun b br ba sp he to va => ?_)
  rw [show (1070 : Int32) + nI r = nI (1070 + r) from nI_add 1070 r, show (1078 : Int32) + nI r = nI (1078 + r) from nI_add 1078 r, ckN (by omega) (by omega), ckN (by omega) (by omega), ckI (by decide) (by decide), ckI (by decide) (by decide), nI_clamp (by omega), nI_clamp (by omega), nI_clamp (by omega), show ((1358 : Int32)).toNatClampNeg = 1358 from rfl, pk_un (show 1358 ≠ 1078 + r by omega), pk_un (show 1358 ≠ 1070 + r by omega), pk_un (show 1358 ≠ 1062 + r by omega), hs, nI_1]; rfl
theorem rR_full (x : Int32) (hs : st 1358 = nI 8) : f_X8_readRoutine x T 0 ba sp he to va st tape = some (5, he, sp, he, to, va, st) := by
  unfold f_X8_readRoutine
  rw [ckI (by decide) (by decide), show st ((1358 : Int32)).toNatClampNeg = nI 8 from hs, if_pos (show nI 8 = 8 from rfl)]; rfl
theorem rC_s (hs : st 1361 = nI i) (hi : i < 16) : f_X8_readCall T br ba sp he to va st tape = bn6 (f_X8_readsOn T br ba sp he to va tape) (fun br ba sp he to va => bn7 (f_X8_numberRead 0 999 T br ba sp he to va tape) (fun a br ba sp he to va => bn7 (f_X8_numberRead 0 999 T br ba sp he to va tape) (fun b br ba sp he to va => some (br, ba, sp, he, to, va, SC st i a b)))) := by
  unfold f_X8_readCall
  rw [ckI (by decide) (by decide), show st ((1361 : Int32)).toNatClampNeg = nI i from hs, if_neg (show ¬ nI i = 16 from fun z => by rw [ei, nT (by omega)] at z; have : (i : Int) = 16 := z; omega)]
  refine bn6_c (fun br ba sp he to va => bn7_c (fun a br ba sp he to va => ?_))
  rw [show (1326 : Int32) + 2 * nI i = nI (1326 + 2 * i) from by rw [show (2 : Int32) * nI i = nI (2 * i) from mulN 2 i, show (1326 : Int32) + nI (2 * i) = nI (1326 + 2 * i) from nI_add 1326 (2 * i)], ckN (by omega) (by omega)]
  refine bn7_c (fun b br ba sp he to va => ?_)
  rw [nI_1, ckN (by omega) (by omega), ckI (by decide) (by decide), ckI (by decide) (by decide), nI_clamp (by omega), nI_clamp (by omega), show ((1361 : Int32)).toNatClampNeg = 1361 from rfl, pk_un (show 1361 ≠ 1326 + 2 * i + 1 by omega), pk_un (show 1361 ≠ 1326 + 2 * i by omega), hs, nI_1]; rfl
theorem rC_full (hs : st 1361 = nI 16) : f_X8_readCall T 0 ba sp he to va st tape = some (5, he, sp, he, to, va, st) := by
  unfold f_X8_readCall
  rw [ckI (by decide) (by decide), show st ((1361 : Int32)).toNatClampNeg = nI 16 from hs, if_pos (show nI 16 = 16 from rfl)]; rfl
theorem rL_s (hs : st 1360 = nI i) (hi : i < 16) (hr : st 1358 = nI r) (hr0 : 0 < r) (hr8 : r ≤ 8) : f_X8_readLanding T br ba sp he to va st tape = bn6 (f_X8_readsOn T br ba sp he to va tape) (fun br ba sp he to va => bn7 (f_X8_numberRead 0 999 T br ba sp he to va tape) (fun a br ba sp he to va => bn7 (f_X8_numberRead a 999 T br ba sp he to va tape) (fun b br ba sp he to va => bn7 (f_X8_numberRead 0 10 T br ba sp he to va tape) (fun c br ba sp he to va => bn7 (f_X8_numberRead 0 999 T br ba sp he to va tape) (fun d br ba sp he to va => some (br, ba, sp, he, to, va, SL st i r a b c d)))))) := by
  unfold f_X8_readLanding
  rw [ckI (by decide) (by decide), show st ((1360 : Int32)).toNatClampNeg = nI i from hs, if_neg (show ¬ nI i = 16 from fun z => by rw [ei, nT (by omega)] at z; have : (i : Int) = 16 := z; omega), ckI (by decide) (by decide), show st ((1358 : Int32)).toNatClampNeg = nI r from hr, if_neg (show ¬ nI r = 0 from fun z => by rw [ei, l0, nT (by omega)] at z; omega)]
  have e0 : (1246 : Int32) + 5 * nI i = nI (1246 + 5 * i) := by rw [show (5 : Int32) * nI i = nI (5 * i) from mulN 5 i, show (1246 : Int32) + nI (5 * i) = nI (1246 + 5 * i) from nI_add 1246 (5 * i)]
  have e1 : nI (1246 + 5 * i) + 1 = nI (1246 + 5 * i + 1) := nI_1 _
  have e2 : nI (1246 + 5 * i) + 2 = nI (1246 + 5 * i + 2) := nI_add _ 2
  have e3 : nI (1246 + 5 * i) + 3 = nI (1246 + 5 * i + 3) := nI_add _ 3
  have e4 : nI (1246 + 5 * i) + 4 = nI (1246 + 5 * i + 4) := nI_add _ 4
  refine bn6_c (fun br ba sp he to va => bn7_c (fun a br ba sp he to va => ?_))
  rw [e0, ckN (by omega) (by omega)]
  refine bn7_c (fun b br ba sp he to va => ?_)
  rw [e1, ckN (by omega) (by omega)]
  refine bn7_c (fun c br ba sp he to va => ?_)
  rw [e2, ckN (by omega) (by omega)]
  refine bn7_c (fun d br ba sp he to va => ?_)
  rw [e3, e4, ckN (n := 1246 + 5 * i + 3) (by omega) (by omega), ckI (by decide) (by decide), ckN (n := 1246 + 5 * i + 4) (by omega) (by omega), ckI (by decide) (by decide), ckI (by decide) (by decide), nI_clamp (n := 1246 + 5 * i) (by omega), nI_clamp (n := 1246 + 5 * i + 1) (by omega), nI_clamp (n := 1246 + 5 * i + 2) (by omega), nI_clamp (n := 1246 + 5 * i + 3) (by omega), nI_clamp (n := 1246 + 5 * i + 4) (by omega), show ((1360 : Int32)).toNatClampNeg = 1360 from rfl, show ((1358 : Int32)).toNatClampNeg = 1358 from rfl, pk_un (show 1358 ≠ 1246 + 5 * i + 3 by omega), pk_un (show 1358 ≠ 1246 + 5 * i + 2 by omega), pk_un (show 1358 ≠ 1246 + 5 * i + 1 by omega), pk_un (show 1358 ≠ 1246 + 5 * i by omega), hr, show nI r - 1 = nI (r - 1) from pk_sub (b := 1) hr0, pk_un (show 1360 ≠ 1246 + 5 * i + 4 by omega), pk_un (show 1360 ≠ 1246 + 5 * i + 3 by omega), pk_un (show 1360 ≠ 1246 + 5 * i + 2 by omega), pk_un (show 1360 ≠ 1246 + 5 * i + 1 by omega), pk_un (show 1360 ≠ 1246 + 5 * i by omega), hs, nI_1]; rfl
theorem rL_full (hr : st 1358 = nI r) (hs : st 1360 = nI i) (hi : i ≤ 16) (hr8 : r ≤ 8) (h : i = 16 ∨ r = 0) : f_X8_readLanding T 0 ba sp he to va st tape = some (5, he, sp, he, to, va, st) := by
  unfold f_X8_readLanding f_X8_readLanding_b26
  rw [ckI (by decide) (by decide), show st ((1360 : Int32)).toNatClampNeg = nI i from hs, ckI (by decide) (by decide), show st ((1358 : Int32)).toNatClampNeg = nI r from hr]
  by_cases c : i = 16
  · rw [if_pos (show nI i = 16 by rw [c]; rfl)]; rfl
  · rw [if_neg (show ¬ nI i = 16 from fun z => c (by rw [ei, nT (by omega)] at z; have : (i : Int) = 16 := z; omega)), if_pos (show nI r = 0 by rw [h.resolve_left c]; rfl)]; rfl
theorem rO_full (x : Int32) (hr : st 1358 = nI r) (hs : st 1359 = nI i) (hi : i ≤ 40) (hr8 : r ≤ 8) (h : i = 40 ∨ r = 0) : f_X8_readOp x T 0 ba sp he to va st tape = some (5, he, sp, he, to, va, st) := by
  unfold f_X8_readOp f_X8_readOp_b26
  rw [ckI (by decide) (by decide), show st ((1359 : Int32)).toNatClampNeg = nI i from hs, ckI (by decide) (by decide), show st ((1358 : Int32)).toNatClampNeg = nI r from hr]
  by_cases c : i = 40
  · rw [if_pos (show nI i = 40 by rw [c]; rfl)]; rfl
  · rw [if_neg (show ¬ nI i = 40 from fun z => c (by rw [ei, nT (by omega)] at z; have : (i : Int) = 40 := z; omega)), if_pos (show nI r = 0 by rw [h.resolve_left c]; rfl)]; rfl
theorem b152_s {S : Nat → Int32} {n : Int32} (hs : S 1359 = nI i) (hi : i < 40) (hr : S 1358 = nI r) (hr0 : 0 < r) (hr8 : r ≤ 8) : f_X8_readOp_b152 T tape (nI i) ((1166 : Int32) + nI i) n br ba sp he to va S = some (br, ba, sp, he, to, va, upd (upd (upd S (1166 + i) n) (1206 + i) (nI (r - 1))) 1359 (nI (i + 1))) := by
  unfold f_X8_readOp_b152
  rw [show (1166 : Int32) + nI i = nI (1166 + i) from nI_add 1166 i, show (1206 : Int32) + nI i = nI (1206 + i) from nI_add 1206 i, ckN (n := 1166 + i) (by omega) (by omega), ckI (by decide) (by decide), ckN (n := 1206 + i) (by omega) (by omega), ckI (by decide) (by decide), ckI (by decide) (by decide), nI_clamp (n := 1166 + i) (by omega), nI_clamp (n := 1206 + i) (by omega), show ((1359 : Int32)).toNatClampNeg = 1359 from rfl, show ((1358 : Int32)).toNatClampNeg = 1358 from rfl, pk_un (show 1358 ≠ 1166 + i by omega), hr, show nI r - 1 = nI (r - 1) from pk_sub (b := 1) hr0, pk_un (show 1359 ≠ 1206 + i by omega), pk_un (show 1359 ≠ 1166 + i by omega), hs, nI_1]
theorem rO_pre (x : Int32) (hs : st 1359 = nI i) (hi : i < 40) (hr : st 1358 = nI r) (hr0 : 0 < r) (hr8 : r ≤ 8) : f_X8_readOp x T br ba sp he to va st tape = bn6 (f_X8_readsOn T br ba sp he to va tape) (fun br ba sp he to va => if x = 1 then f_X8_readOp_b55 T tape x (nI i) br ba sp he to va st else bn1 (f_X8_in x.toInt64 3 5) (fun q => if q = 0 then f_X8_readOp_b60 T tape x (nI i) 0 br ba sp he to va st else f_X8_readOp_b55 T tape x (nI i) br ba sp he to va st)) := by
  unfold f_X8_readOp
  rw [ckI (by decide) (by decide), show st ((1359 : Int32)).toNatClampNeg = nI i from hs, if_neg (show ¬ nI i = 40 from fun z => by rw [ei, nT (by omega)] at z; have : (i : Int) = 40 := z; omega), ckI (by decide) (by decide), show st ((1358 : Int32)).toNatClampNeg = nI r from hr, if_neg (show ¬ nI r = 0 from fun z => by rw [ei, l0, nT (by omega)] at z; omega)]
theorem rO0_s (hs : st 1359 = nI i) (hi : i < 40) (hr : st 1358 = nI r) (hr0 : 0 < r) (hr8 : r ≤ 8) : f_X8_readOp 0 T br ba sp he to va st tape = bn6 (f_X8_readsOn T br ba sp he to va tape) (fun br ba sp he to va => bn7 (f_X8_numberRead 0 99 T br ba sp he to va tape) (fun n br ba sp he to va => some (br, ba, sp, he, to, va, SO st i r 0 (-4) n))) := by
  rw [rO_pre 0 hs hi hr hr0 hr8]
  refine bn6_c (fun br ba sp he to va => ?_)
  have u1 : ∀ x : Int32, (upd st (1086 + i) x) 1359 = nI i ∧ (upd st (1086 + i) x) 1358 = nI r := fun x => ⟨by rw [pk_un (by omega)]; exact hs, by rw [pk_un (by omega)]; exact hr⟩
  have u2 : ∀ x y : Int32, (upd (upd st (1086 + i) x) (1126 + i) y) 1359 = nI i ∧ (upd (upd st (1086 + i) x) (1126 + i) y) 1358 = nI r := fun x y => ⟨by rw [pk_un (by omega)]; exact (u1 x).1, by rw [pk_un (by omega)]; exact (u1 x).2⟩
  have a1 : (1086 : Int32) + nI i = nI (1086 + i) := nI_add 1086 i
  have a2 : (1126 : Int32) + nI i = nI (1126 + i) := nI_add 1126 i
  rw [if_neg (by decide), show f_X8_in (0 : Int32).toInt64 3 5 = some 0 from rfl, bq1, if_pos rfl]
  unfold f_X8_readOp_b60
  rw [a1, ckN (by omega) (by omega), nI_clamp (by omega), if_pos rfl]
  unfold f_X8_readOp_b104
  rw [a2, ckN (by omega) (by omega), nI_clamp (by omega)]
  rw [show f_X8_in (0 : Int32).toInt64 0 3 = some 1 from rfl, bq1, if_neg (show ¬ (1 : Int32) = 0 by decide)]
  refine bn7_c (fun n br ba sp he to va => ?_)
  exact b152_s (u2 _ _).1 hi (u2 _ _).2 hr0 hr8
theorem rO1_s (hs : st 1359 = nI i) (hi : i < 40) (hr : st 1358 = nI r) (hr0 : 0 < r) (hr8 : r ≤ 8) : f_X8_readOp 1 T br ba sp he to va st tape = bn6 (f_X8_readsOn T br ba sp he to va tape) (fun br ba sp he to va => bn7 (f_X8_registerRead 5 T br ba sp he to va tape) (fun v br ba sp he to va => bn7 (f_X8_numberRead 0 99 T br ba sp he to va tape) (fun n br ba sp he to va => some (br, ba, sp, he, to, va, SO st i r 1 v n)))) := by
  rw [rO_pre 1 hs hi hr hr0 hr8]
  refine bn6_c (fun br ba sp he to va => ?_)
  have u1 : ∀ x : Int32, (upd st (1086 + i) x) 1359 = nI i ∧ (upd st (1086 + i) x) 1358 = nI r := fun x => ⟨by rw [pk_un (by omega)]; exact hs, by rw [pk_un (by omega)]; exact hr⟩
  have u2 : ∀ x y : Int32, (upd (upd st (1086 + i) x) (1126 + i) y) 1359 = nI i ∧ (upd (upd st (1086 + i) x) (1126 + i) y) 1358 = nI r := fun x y => ⟨by rw [pk_un (by omega)]; exact (u1 x).1, by rw [pk_un (by omega)]; exact (u1 x).2⟩
  have a1 : (1086 : Int32) + nI i = nI (1086 + i) := nI_add 1086 i
  have a2 : (1126 : Int32) + nI i = nI (1126 + i) := nI_add 1126 i
  rw [if_pos rfl]
  unfold f_X8_readOp_b55 f_X8_readOp_b60
  rw [a1, ckN (by omega) (by omega), nI_clamp (by omega), if_neg (show ¬ (1 : Int32) = 0 by decide), if_pos rfl]
  unfold f_X8_readOp_b96
  refine bn7_c (fun v br ba sp he to va => ?_)
  unfold f_X8_readOp_b104
  rw [a2, ckN (by omega) (by omega), nI_clamp (by omega)]
  rw [show f_X8_in (1 : Int32).toInt64 0 3 = some 1 from rfl, bq1, if_neg (show ¬ (1 : Int32) = 0 by decide)]
  refine bn7_c (fun n br ba sp he to va => ?_)
  exact b152_s (u2 _ _).1 hi (u2 _ _).2 hr0 hr8
theorem rO2_s (hs : st 1359 = nI i) (hi : i < 40) (hr : st 1358 = nI r) (hr0 : 0 < r) (hr8 : r ≤ 8) : f_X8_readOp 2 T br ba sp he to va st tape = bn6 (f_X8_readsOn T br ba sp he to va tape) (fun br ba sp he to va => bn7 (f_X8_numberRead 0 99 T br ba sp he to va tape) (fun n br ba sp he to va => some (br, ba, sp, he, to, va, SO st i r 2 (-4) n))) := by
  rw [rO_pre 2 hs hi hr hr0 hr8]
  refine bn6_c (fun br ba sp he to va => ?_)
  have u1 : ∀ x : Int32, (upd st (1086 + i) x) 1359 = nI i ∧ (upd st (1086 + i) x) 1358 = nI r := fun x => ⟨by rw [pk_un (by omega)]; exact hs, by rw [pk_un (by omega)]; exact hr⟩
  have u2 : ∀ x y : Int32, (upd (upd st (1086 + i) x) (1126 + i) y) 1359 = nI i ∧ (upd (upd st (1086 + i) x) (1126 + i) y) 1358 = nI r := fun x y => ⟨by rw [pk_un (by omega)]; exact (u1 x).1, by rw [pk_un (by omega)]; exact (u1 x).2⟩
  have a1 : (1086 : Int32) + nI i = nI (1086 + i) := nI_add 1086 i
  have a2 : (1126 : Int32) + nI i = nI (1126 + i) := nI_add 1126 i
  rw [if_neg (by decide), show f_X8_in (2 : Int32).toInt64 3 5 = some 0 from rfl, bq1, if_pos rfl]
  unfold f_X8_readOp_b60
  rw [a1, ckN (by omega) (by omega), nI_clamp (by omega), if_pos rfl]
  unfold f_X8_readOp_b104
  rw [a2, ckN (by omega) (by omega), nI_clamp (by omega)]
  rw [show f_X8_in (2 : Int32).toInt64 0 3 = some 1 from rfl, bq1, if_neg (show ¬ (1 : Int32) = 0 by decide)]
  refine bn7_c (fun n br ba sp he to va => ?_)
  exact b152_s (u2 _ _).1 hi (u2 _ _).2 hr0 hr8
theorem rO3_s (hs : st 1359 = nI i) (hi : i < 40) (hr : st 1358 = nI r) (hr0 : 0 < r) (hr8 : r ≤ 8) : f_X8_readOp 3 T br ba sp he to va st tape = bn6 (f_X8_readsOn T br ba sp he to va tape) (fun br ba sp he to va => bn7 (f_X8_registerRead 4 T br ba sp he to va tape) (fun v br ba sp he to va => bn7 (f_X8_numberRead 0 99 T br ba sp he to va tape) (fun n br ba sp he to va => some (br, ba, sp, he, to, va, SO st i r 3 v n)))) := by
  rw [rO_pre 3 hs hi hr hr0 hr8]
  refine bn6_c (fun br ba sp he to va => ?_)
  have u1 : ∀ x : Int32, (upd st (1086 + i) x) 1359 = nI i ∧ (upd st (1086 + i) x) 1358 = nI r := fun x => ⟨by rw [pk_un (by omega)]; exact hs, by rw [pk_un (by omega)]; exact hr⟩
  have u2 : ∀ x y : Int32, (upd (upd st (1086 + i) x) (1126 + i) y) 1359 = nI i ∧ (upd (upd st (1086 + i) x) (1126 + i) y) 1358 = nI r := fun x y => ⟨by rw [pk_un (by omega)]; exact (u1 x).1, by rw [pk_un (by omega)]; exact (u1 x).2⟩
  have a1 : (1086 : Int32) + nI i = nI (1086 + i) := nI_add 1086 i
  have a2 : (1126 : Int32) + nI i = nI (1126 + i) := nI_add 1126 i
  rw [if_neg (by decide), show f_X8_in (3 : Int32).toInt64 3 5 = some 1 from rfl, bq1, if_neg (show ¬ (1 : Int32) = 0 by decide)]
  unfold f_X8_readOp_b55 f_X8_readOp_b60
  rw [a1, ckN (by omega) (by omega), nI_clamp (by omega), if_neg (show ¬ (1 : Int32) = 0 by decide), if_neg (by decide)]
  unfold f_X8_readOp_b96
  refine bn7_c (fun v br ba sp he to va => ?_)
  unfold f_X8_readOp_b104
  rw [a2, ckN (by omega) (by omega), nI_clamp (by omega)]
  rw [show f_X8_in (3 : Int32).toInt64 0 3 = some 1 from rfl, bq1, if_neg (show ¬ (1 : Int32) = 0 by decide)]
  refine bn7_c (fun n br ba sp he to va => ?_)
  exact b152_s (u2 _ _).1 hi (u2 _ _).2 hr0 hr8
theorem rO4_s (hs : st 1359 = nI i) (hi : i < 40) (hr : st 1358 = nI r) (hr0 : 0 < r) (hr8 : r ≤ 8) : f_X8_readOp 4 T br ba sp he to va st tape = bn6 (f_X8_readsOn T br ba sp he to va tape) (fun br ba sp he to va => bn7 (f_X8_registerRead 4 T br ba sp he to va tape) (fun v br ba sp he to va => some (br, ba, sp, he, to, va, SO st i r 4 v (-4)))) := by
  rw [rO_pre 4 hs hi hr hr0 hr8]
  refine bn6_c (fun br ba sp he to va => ?_)
  have u1 : ∀ x : Int32, (upd st (1086 + i) x) 1359 = nI i ∧ (upd st (1086 + i) x) 1358 = nI r := fun x => ⟨by rw [pk_un (by omega)]; exact hs, by rw [pk_un (by omega)]; exact hr⟩
  have u2 : ∀ x y : Int32, (upd (upd st (1086 + i) x) (1126 + i) y) 1359 = nI i ∧ (upd (upd st (1086 + i) x) (1126 + i) y) 1358 = nI r := fun x y => ⟨by rw [pk_un (by omega)]; exact (u1 x).1, by rw [pk_un (by omega)]; exact (u1 x).2⟩
  have a1 : (1086 : Int32) + nI i = nI (1086 + i) := nI_add 1086 i
  have a2 : (1126 : Int32) + nI i = nI (1126 + i) := nI_add 1126 i
  rw [if_neg (by decide), show f_X8_in (4 : Int32).toInt64 3 5 = some 1 from rfl, bq1, if_neg (show ¬ (1 : Int32) = 0 by decide)]
  unfold f_X8_readOp_b55 f_X8_readOp_b60
  rw [a1, ckN (by omega) (by omega), nI_clamp (by omega), if_neg (show ¬ (1 : Int32) = 0 by decide), if_neg (by decide)]
  unfold f_X8_readOp_b96
  refine bn7_c (fun v br ba sp he to va => ?_)
  unfold f_X8_readOp_b104
  rw [a2, ckN (by omega) (by omega), nI_clamp (by omega)]
  rw [show f_X8_in (4 : Int32).toInt64 0 3 = some 0 from rfl, bq1, if_pos rfl]
  rw [if_neg (by decide)]
  exact b152_s (u2 _ _).1 hi (u2 _ _).2 hr0 hr8
theorem rO5_s (hs : st 1359 = nI i) (hi : i < 40) (hr : st 1358 = nI r) (hr0 : 0 < r) (hr8 : r ≤ 8) : f_X8_readOp 5 T br ba sp he to va st tape = bn6 (f_X8_readsOn T br ba sp he to va tape) (fun br ba sp he to va => bn7 (f_X8_registerRead 4 T br ba sp he to va tape) (fun v br ba sp he to va => bn7 (f_X8_registerRead (-4) T br ba sp he to va tape) (fun n br ba sp he to va => some (br, ba, sp, he, to, va, SO st i r 5 v n)))) := by
  rw [rO_pre 5 hs hi hr hr0 hr8]
  refine bn6_c (fun br ba sp he to va => ?_)
  have u1 : ∀ x : Int32, (upd st (1086 + i) x) 1359 = nI i ∧ (upd st (1086 + i) x) 1358 = nI r := fun x => ⟨by rw [pk_un (by omega)]; exact hs, by rw [pk_un (by omega)]; exact hr⟩
  have u2 : ∀ x y : Int32, (upd (upd st (1086 + i) x) (1126 + i) y) 1359 = nI i ∧ (upd (upd st (1086 + i) x) (1126 + i) y) 1358 = nI r := fun x y => ⟨by rw [pk_un (by omega)]; exact (u1 x).1, by rw [pk_un (by omega)]; exact (u1 x).2⟩
  have a1 : (1086 : Int32) + nI i = nI (1086 + i) := nI_add 1086 i
  have a2 : (1126 : Int32) + nI i = nI (1126 + i) := nI_add 1126 i
  rw [if_neg (by decide), show f_X8_in (5 : Int32).toInt64 3 5 = some 1 from rfl, bq1, if_neg (show ¬ (1 : Int32) = 0 by decide)]
  unfold f_X8_readOp_b55 f_X8_readOp_b60
  rw [a1, ckN (by omega) (by omega), nI_clamp (by omega), if_neg (show ¬ (1 : Int32) = 0 by decide), if_neg (by decide)]
  unfold f_X8_readOp_b96
  refine bn7_c (fun v br ba sp he to va => ?_)
  unfold f_X8_readOp_b104
  rw [a2, ckN (by omega) (by omega), nI_clamp (by omega)]
  rw [show f_X8_in (5 : Int32).toInt64 0 3 = some 0 from rfl, bq1, if_pos rfl]
  rw [if_pos rfl]
  refine bn7_c (fun n br ba sp he to va => ?_)
  exact b152_s (u2 _ _).1 hi (u2 _ _).2 hr0 hr8
theorem rO6_s (hs : st 1359 = nI i) (hi : i < 40) (hr : st 1358 = nI r) (hr0 : 0 < r) (hr8 : r ≤ 8) : f_X8_readOp 6 T br ba sp he to va st tape = bn6 (f_X8_readsOn T br ba sp he to va tape) (fun br ba sp he to va => some (br, ba, sp, he, to, va, SO st i r 6 (-4) (-4))) := by
  rw [rO_pre 6 hs hi hr hr0 hr8]
  refine bn6_c (fun br ba sp he to va => ?_)
  have u1 : ∀ x : Int32, (upd st (1086 + i) x) 1359 = nI i ∧ (upd st (1086 + i) x) 1358 = nI r := fun x => ⟨by rw [pk_un (by omega)]; exact hs, by rw [pk_un (by omega)]; exact hr⟩
  have u2 : ∀ x y : Int32, (upd (upd st (1086 + i) x) (1126 + i) y) 1359 = nI i ∧ (upd (upd st (1086 + i) x) (1126 + i) y) 1358 = nI r := fun x y => ⟨by rw [pk_un (by omega)]; exact (u1 x).1, by rw [pk_un (by omega)]; exact (u1 x).2⟩
  have a1 : (1086 : Int32) + nI i = nI (1086 + i) := nI_add 1086 i
  have a2 : (1126 : Int32) + nI i = nI (1126 + i) := nI_add 1126 i
  rw [if_neg (by decide), show f_X8_in (6 : Int32).toInt64 3 5 = some 0 from rfl, bq1, if_pos rfl]
  unfold f_X8_readOp_b60
  rw [a1, ckN (by omega) (by omega), nI_clamp (by omega), if_pos rfl]
  unfold f_X8_readOp_b104
  rw [a2, ckN (by omega) (by omega), nI_clamp (by omega)]
  rw [show f_X8_in (6 : Int32).toInt64 0 3 = some 0 from rfl, bq1, if_pos rfl]
  rw [if_neg (by decide)]
  exact b152_s (u2 _ _).1 hi (u2 _ _).2 hr0 hr8
theorem rO7_s (hs : st 1359 = nI i) (hi : i < 40) (hr : st 1358 = nI r) (hr0 : 0 < r) (hr8 : r ≤ 8) : f_X8_readOp 7 T br ba sp he to va st tape = bn6 (f_X8_readsOn T br ba sp he to va tape) (fun br ba sp he to va => some (br, ba, sp, he, to, va, SO st i r 7 (-4) (-4))) := by
  rw [rO_pre 7 hs hi hr hr0 hr8]
  refine bn6_c (fun br ba sp he to va => ?_)
  have u1 : ∀ x : Int32, (upd st (1086 + i) x) 1359 = nI i ∧ (upd st (1086 + i) x) 1358 = nI r := fun x => ⟨by rw [pk_un (by omega)]; exact hs, by rw [pk_un (by omega)]; exact hr⟩
  have u2 : ∀ x y : Int32, (upd (upd st (1086 + i) x) (1126 + i) y) 1359 = nI i ∧ (upd (upd st (1086 + i) x) (1126 + i) y) 1358 = nI r := fun x y => ⟨by rw [pk_un (by omega)]; exact (u1 x).1, by rw [pk_un (by omega)]; exact (u1 x).2⟩
  have a1 : (1086 : Int32) + nI i = nI (1086 + i) := nI_add 1086 i
  have a2 : (1126 : Int32) + nI i = nI (1126 + i) := nI_add 1126 i
  rw [if_neg (by decide), show f_X8_in (7 : Int32).toInt64 3 5 = some 0 from rfl, bq1, if_pos rfl]
  unfold f_X8_readOp_b60
  rw [a1, ckN (by omega) (by omega), nI_clamp (by omega), if_pos rfl]
  unfold f_X8_readOp_b104
  rw [a2, ckN (by omega) (by omega), nI_clamp (by omega)]
  rw [show f_X8_in (7 : Int32).toInt64 0 3 = some 0 from rfl, bq1, if_pos rfl]
  rw [if_neg (by decide)]
  exact b152_s (u2 _ _).1 hi (u2 _ _).2 hr0 hr8
end SHAPES
