/-! the text: tables -/
def WT (nR : Int32) (fR : Nat → Int32) (nO : Int32) (fO : Nat → Int32) (nL : Int32) (fL : Nat → Int32) (nC : Int32) (fC st : Nat → Int32) (kR kO kL kC : Nat) : Prop :=
  (kR ≤ 8 ∧ kO ≤ 40 ∧ kL ≤ 16 ∧ kC ≤ 16) ∧ (nR = nI kR ∧ nO = nI kO ∧ nL = nI kL ∧ nC = nI kC) ∧ (st 1358 = nI kR ∧ st 1359 = nI kO ∧ st 1360 = nI kL ∧ st 1361 = nI kC) ∧
  (∀ r, r < kR → fR (3 * r) = st (1062 + r) ∧ fR (3 * r + 1) = st (1070 + r) ∧ fR (3 * r + 2) = st (1078 + r)) ∧
  (∀ i, i < kO → ∀ c, c < 4 → fO (4 * i + c) = st (1086 + 40 * c + i)) ∧ (∀ i, i < kL → ∀ c, c < 5 → fL (5 * i + c) = st (1246 + 5 * i + c)) ∧ (∀ i, i < kC → ∀ c, c < 2 → fC (2 * i + c) = st (1326 + 2 * i + c)) ∧
  (∀ r, r < kR → 0 ≤ (st (1062 + r)).toInt ∧ (st (1062 + r)).toInt ≤ (st (1070 + r)).toInt ∧ (st (1070 + r)).toInt ≤ 999 ∧ (st (1078 + r) = 0 ∨ st (1078 + r) = 1)) ∧
  (∀ i, i < kO → OpV (st (1086 + i)) (st (1126 + i)) (st (1166 + i)))
def SR (st : Nat → Int32) (r : Nat) (a b x : Int32) : Nat → Int32 := upd (upd (upd (upd st (1062 + r) a) (1070 + r) b) (1078 + r) x) 1358 (nI (r + 1))
def SO (st : Nat → Int32) (i r : Nat) (kd v n : Int32) : Nat → Int32 := upd (upd (upd (upd (upd st (1086 + i) kd) (1126 + i) v) (1166 + i) n) (1206 + i) (nI (r - 1))) 1359 (nI (i + 1))
def SL (st : Nat → Int32) (i r : Nat) (a b c d : Int32) : Nat → Int32 := upd (upd (upd (upd (upd (upd st (1246 + 5 * i) a) (1246 + 5 * i + 1) b) (1246 + 5 * i + 2) c) (1246 + 5 * i + 3) d) (1246 + 5 * i + 4) (nI (r - 1))) 1360 (nI (i + 1))
def SC (st : Nat → Int32) (i : Nat) (a b : Int32) : Nat → Int32 := upd (upd (upd st (1326 + 2 * i) a) (1326 + 2 * i + 1) b) 1361 (nI (i + 1))
theorem full_e {k w N : Nat} (hk : k < 1000) (hw : w < 100) (hN : N < 2000) : f_X3_isFull (nI w) (nI k) N = some (if (k + 1) * w ≤ N then 0 else 1) := by
  unfold f_X3_isFull
  have hb : (k + 1) * w ≤ 1000 * 99 := Nat.mul_le_mul (by omega) (by omega)
  rw [nI_1, mulN, show Int32.ofNat N = nI N from rfl]
  by_cases c : (k + 1) * w ≤ N
  · rw [if_pos (show nI ((k + 1) * w) ≤ nI N by rw [le, nT (by omega), nT (by omega)]; omega), if_pos c]
  · rw [if_neg (show ¬ nI ((k + 1) * w) ≤ nI N by rw [le, nT (by omega), nT (by omega)]; omega), if_neg c]
theorem add1_e {k w N : Nat} (hk : k < 1000) (hw : w < 100) (hN : N < 2000) (h : (k + 1) * w ≤ N) : f_X3_addOne (nI w) (nI k) N = some (nI (k + 1)) := by
  unfold f_X3_addOne
  rw [full_e hk hw hN, if_pos h, bq1, if_pos rfl, nI_1]
section TABLES
variable {nR nO nL nC : Int32} {fR fO fL fC : Nat → Int32} {st ops : Nat → Int32} {kR kO kL kC : Nat}
theorem WT.addR (h : WT nR fR nO fO nL fL nC fC st kR kO kL kC) (hk : kR < 8) {l : Nat} (hl : l = 8 ∨ l = 9) {a b x : Int32} (ha : ops 0 = a) (hb : ops 1 = b) (h1 : 0 ≤ a.toInt) (h2 : a.toInt ≤ b.toInt) (h3 : b.toInt ≤ 999) (hx : x = if l = 9 then 1 else 0) : ∃ fR', f_X4_addLine (nI l) ops 3 nR fR 4 nO fO 5 nL fL 2 nC fC = some (nI (kR + 1), fR', nO, fO, nL, fL, nC, fC) ∧ WT (nI (kR + 1)) fR' nO fO nL fL nC fC (SR st kR a b x) (kR + 1) kO kL kC := by
  obtain ⟨hkk, hn, hs, hr, ho, hl', hc, hv1, hv3⟩ := h
  refine ⟨upd (upd (upd fR (3 * kR) a) (3 * kR + 1) b) (3 * kR + 2) x, ?_, ?_⟩
  · have e39 : f_X4_addLine_b39_routines ops 3 4 5 2 (nI l) (nI kR) (nI (kR + 1)) fR nO fO nL fL nC fC = some (nI (kR + 1), upd (upd (upd fR (3 * kR) a) (3 * kR + 1) b) (3 * kR + 2) x, nO, fO, nL, fL, nC, fC) := by
      unfold f_X4_addLine_b39_routines f_X4_addLine_b80_routines
      have s0 : ∀ (f : Nat → Int32) (y : Int32), f_X3_set (nI kR) (0 : Int32) y (3 : Int32) (nI (kR + 1)) 24 f = some (upd f (3 * kR) y) := fun f y => by
        rw [Nat.mul_comm 3 kR]; exact set_in (w := 3) (c := 0) y (by omega) (by omega) (by omega) (by omega)
      have s1 : ∀ (f : Nat → Int32) (y : Int32), f_X3_set (nI kR) (1 : Int32) y (3 : Int32) (nI (kR + 1)) 24 f = some (upd f (3 * kR + 1) y) := fun f y => by
        rw [Nat.mul_comm 3 kR]; exact set_in (w := 3) (c := 1) y (by omega) (by omega) (by omega) (by omega)
      have s2 : ∀ (f : Nat → Int32) (y : Int32), f_X3_set (nI kR) (2 : Int32) y (3 : Int32) (nI (kR + 1)) 24 f = some (upd f (3 * kR + 2) y) := fun f y => by
        rw [Nat.mul_comm 3 kR]; exact set_in (w := 3) (c := 2) y (by omega) (by omega) (by omega) (by omega)
      rw [ckI (by decide) (by decide), s0, bq1, ckI (by decide) (by decide), s1, bq1, s2, s2, bq1, bq1, show ops ((0 : Int32)).toNatClampNeg = a from ha, show ops ((1 : Int32)).toNatClampNeg = b from hb, hx]
      rcases hl with z | z
      · rw [if_neg (show ¬ nI l = 9 by rw [z]; decide), if_neg (by omega)]
      · rw [if_pos (show nI l = 9 by rw [z]; rfl), if_pos z]
    unfold f_X4_addLine
    rw [if_pos (show nI l = 8 ∨ nI l = 9 from hl.imp (fun z => by rw [z]; rfl) (fun z => by rw [z]; rfl)), hn.1, show f_X3_addOne (3 : Int32) (nI kR) 24 = _ from add1_e (w := 3) (by omega) (by omega) (by omega) (by omega), bq1, e39]
    rcases hl with z | z
    · rw [if_pos (show nI l = 8 by rw [z]; rfl)]
    · rw [if_neg (show ¬ nI l = 8 by rw [z]; decide), if_pos (show nI l = 9 by rw [z]; rfl)]
  · have ne : ∀ j, j ≠ 1062 + kR → j ≠ 1070 + kR → j ≠ 1078 + kR → j ≠ 1358 → SR st kR a b x j = st j := fun j h1 h2 h3 h4 => by
      unfold SR; rw [pk_un h4, pk_un h3, pk_un h2, pk_un h1]
    have e0 : SR st kR a b x (1062 + kR) = a := by unfold SR; rw [pk_un (by omega), pk_un (by omega), pk_un (by omega), pk_us]
    have e1 : SR st kR a b x (1070 + kR) = b := by unfold SR; rw [pk_un (by omega), pk_un (by omega), pk_us]
    have e2 : SR st kR a b x (1078 + kR) = x := by unfold SR; rw [pk_un (by omega), pk_us]
    refine ⟨⟨by omega, hkk.2⟩, ⟨rfl, hn.2⟩, ⟨?_, ?_, ?_, ?_⟩, fun r hr' => ?_, fun i hi c hc' => ?_, fun i hi c hc' => ?_, fun i hi c hc' => ?_, fun r hr' => ?_, fun i hi => ?_⟩
    · unfold SR; rw [pk_us]
    · rw [ne _ (by omega) (by omega) (by omega) (by omega)]; exact hs.2.1
    · rw [ne _ (by omega) (by omega) (by omega) (by omega)]; exact hs.2.2.1
    · rw [ne _ (by omega) (by omega) (by omega) (by omega)]; exact hs.2.2.2
    · by_cases q : r = kR
      · subst q
        rw [e0, e1, e2, pk_un (by omega), pk_un (by omega), pk_us, pk_un (by omega), pk_us, pk_us]; exact ⟨rfl, rfl, rfl⟩
      · rw [pk_un (by omega), pk_un (by omega), pk_un (by omega), pk_un (by omega), pk_un (by omega), pk_un (by omega), pk_un (by omega), pk_un (by omega), pk_un (by omega), ne _ (by omega) (by omega) (by omega) (by omega), ne _ (by omega) (by omega) (by omega) (by omega), ne _ (by omega) (by omega) (by omega) (by omega)]; exact hr r (by omega)
    · rw [ne _ (by omega) (by omega) (by omega) (by omega)]; exact ho i hi c hc'
    · rw [ne _ (by omega) (by omega) (by omega) (by omega)]; exact hl' i hi c hc'
    · rw [ne _ (by omega) (by omega) (by omega) (by omega)]; exact hc i hi c hc'
    · by_cases q : r = kR
      · subst q
        rw [e0, e1, e2]
        refine ⟨h1, h2, h3, ?_⟩
        rw [hx]
        by_cases z : l = 9
        · rw [if_pos z]; exact Or.inr rfl
        · rw [if_neg z]; exact Or.inl rfl
      · rw [ne _ (by omega) (by omega) (by omega) (by omega), ne _ (by omega) (by omega) (by omega) (by omega), ne _ (by omega) (by omega) (by omega) (by omega)]; exact hv1 r (by omega)
    · rw [ne _ (by omega) (by omega) (by omega) (by omega), ne _ (by omega) (by omega) (by omega) (by omega), ne _ (by omega) (by omega) (by omega) (by omega)]; exact hv3 i hi
theorem WT.addO (h : WT nR fR nO fO nL fL nC fC st kR kO kL kC) (hk : kO < 40) (hkR : 0 < kR) {l : Nat} (hl : l < 8) {v n : Int32} (hv : v = if l = 1 ∨ l = 3 ∨ l = 4 ∨ l = 5 then ops 0 else -4) (hn' : n = if l = 4 ∨ l = 6 ∨ l = 7 then -4 else if l = 1 ∨ l = 3 ∨ l = 4 ∨ l = 5 then ops 1 else ops 0) (hop : OpV (nI l) v n) : ∃ fO', f_X4_addLine (nI l) ops 3 nR fR 4 nO fO 5 nL fL 2 nC fC = some (nR, fR, nI (kO + 1), fO', nL, fL, nC, fC) ∧ WT nR fR (nI (kO + 1)) fO' nL fL nC fC (SO st kO kR (nI l) v n) kR (kO + 1) kL kC := by
  obtain ⟨hkk, hn, hs, hr, ho, hl', hc, hv1, hv3⟩ := h
  refine ⟨upd (upd (upd (upd fO (4 * kO) (nI l)) (4 * kO + 1) v) (4 * kO + 2) n) (4 * kO + 3) (nI (kR - 1)), ?_, ?_⟩
  · have s0 : ∀ (f : Nat → Int32) (y : Int32), f_X3_set (nI kO) (0 : Int32) y (4 : Int32) (nI (kO + 1)) 160 f = some (upd f (4 * kO) y) := fun f y => by
      rw [Nat.mul_comm 4 kO]; exact set_in (w := 4) (c := 0) y (by omega) (by omega) (by omega) (by omega)
    have s1 : ∀ (f : Nat → Int32) (y : Int32), f_X3_set (nI kO) (1 : Int32) y (4 : Int32) (nI (kO + 1)) 160 f = some (upd f (4 * kO + 1) y) := fun f y => by
      rw [Nat.mul_comm 4 kO]; exact set_in (w := 4) (c := 1) y (by omega) (by omega) (by omega) (by omega)
    have s2 : ∀ (f : Nat → Int32) (y : Int32), f_X3_set (nI kO) (2 : Int32) y (4 : Int32) (nI (kO + 1)) 160 f = some (upd f (4 * kO + 2) y) := fun f y => by
      rw [Nat.mul_comm 4 kO]; exact set_in (w := 4) (c := 2) y (by omega) (by omega) (by omega) (by omega)
    have s3 : ∀ (f : Nat → Int32) (y : Int32), f_X3_set (nI kO) (3 : Int32) y (4 : Int32) (nI (kO + 1)) 160 f = some (upd f (4 * kO + 3) y) := fun f y => by
      rw [Nat.mul_comm 4 kO]; exact set_in (w := 4) (c := 3) y (by omega) (by omega) (by omega) (by omega)
    have c1 : nI kR - 1 = nI (kR - 1) := pk_sub (b := 1) hkR
    have a1 : f_X3_addOne (4 : Int32) (nI kO) 160 = some (nI (kO + 1)) := add1_e (w := 4) (by omega) (by omega) (by omega) (by omega)
    unfold f_X4_addLine
    rw [hn.1, hn.2.1, a1, bq1]
    match l, hl with
    | 0, _ =>
      have hv' : v = -4 := hv
      have hn'' : n = ops 0 := hn'
      rw [hv', hn'']
      rw [if_neg (show ¬ (nI 0 = 8 ∨ nI 0 = 9) by decide), if_neg (show ¬ nI 0 = 10 by decide), if_neg (show ¬ nI 0 = 11 by decide), if_neg (show ¬ nI 0 = 8 by decide), if_neg (show ¬ nI 0 = 9 by decide), if_neg (show ¬ nI 0 = 11 by decide), if_neg (show ¬ nI 0 = 10 by decide)]
      unfold f_X4_addLine_b189_ops f_X4_addLine_b194_ops f_X4_addLine_b217_ops f_X4_addLine_b218_ops f_X4_addLine_b248_ops f_X4_addLine_b274_ops f_X4_addLine_b280_ops
      simp only [s0, s1, s2, s3, bq1, c1]
      rfl
    | 1, _ =>
      have hv' : v = ops 0 := hv
      have hn'' : n = ops 1 := hn'
      rw [hv', hn'']
      rw [if_neg (show ¬ (nI 1 = 8 ∨ nI 1 = 9) by decide), if_neg (show ¬ nI 1 = 10 by decide), if_neg (show ¬ nI 1 = 11 by decide), if_neg (show ¬ nI 1 = 8 by decide), if_neg (show ¬ nI 1 = 9 by decide), if_neg (show ¬ nI 1 = 11 by decide), if_neg (show ¬ nI 1 = 10 by decide)]
      unfold f_X4_addLine_b189_ops f_X4_addLine_b194_ops f_X4_addLine_b217_ops f_X4_addLine_b218_ops f_X4_addLine_b248_ops f_X4_addLine_b274_ops f_X4_addLine_b280_ops
      simp only [s0, s1, s2, s3, bq1, c1]
      rfl
    | 2, _ =>
      have hv' : v = -4 := hv
      have hn'' : n = ops 0 := hn'
      rw [hv', hn'']
      rw [if_neg (show ¬ (nI 2 = 8 ∨ nI 2 = 9) by decide), if_neg (show ¬ nI 2 = 10 by decide), if_neg (show ¬ nI 2 = 11 by decide), if_neg (show ¬ nI 2 = 8 by decide), if_neg (show ¬ nI 2 = 9 by decide), if_neg (show ¬ nI 2 = 11 by decide), if_neg (show ¬ nI 2 = 10 by decide)]
      unfold f_X4_addLine_b189_ops f_X4_addLine_b194_ops f_X4_addLine_b217_ops f_X4_addLine_b218_ops f_X4_addLine_b248_ops f_X4_addLine_b274_ops f_X4_addLine_b280_ops
      simp only [s0, s1, s2, s3, bq1, c1]
      rfl
    | 3, _ =>
      have hv' : v = ops 0 := hv
      have hn'' : n = ops 1 := hn'
      rw [hv', hn'']
      rw [if_neg (show ¬ (nI 3 = 8 ∨ nI 3 = 9) by decide), if_neg (show ¬ nI 3 = 10 by decide), if_neg (show ¬ nI 3 = 11 by decide), if_neg (show ¬ nI 3 = 8 by decide), if_neg (show ¬ nI 3 = 9 by decide), if_neg (show ¬ nI 3 = 11 by decide), if_neg (show ¬ nI 3 = 10 by decide)]
      unfold f_X4_addLine_b189_ops f_X4_addLine_b194_ops f_X4_addLine_b217_ops f_X4_addLine_b218_ops f_X4_addLine_b248_ops f_X4_addLine_b274_ops f_X4_addLine_b280_ops
      simp only [s0, s1, s2, s3, bq1, c1]
      rfl
    | 4, _ =>
      have hv' : v = ops 0 := hv
      have hn'' : n = -4 := hn'
      rw [hv', hn'']
      rw [if_neg (show ¬ (nI 4 = 8 ∨ nI 4 = 9) by decide), if_neg (show ¬ nI 4 = 10 by decide), if_neg (show ¬ nI 4 = 11 by decide), if_neg (show ¬ nI 4 = 8 by decide), if_neg (show ¬ nI 4 = 9 by decide), if_neg (show ¬ nI 4 = 11 by decide), if_neg (show ¬ nI 4 = 10 by decide)]
      unfold f_X4_addLine_b189_ops f_X4_addLine_b194_ops f_X4_addLine_b217_ops f_X4_addLine_b218_ops f_X4_addLine_b248_ops f_X4_addLine_b274_ops f_X4_addLine_b280_ops
      simp only [s0, s1, s2, s3, bq1, c1]
      rfl
    | 5, _ =>
      have hv' : v = ops 0 := hv
      have hn'' : n = ops 1 := hn'
      rw [hv', hn'']
      rw [if_neg (show ¬ (nI 5 = 8 ∨ nI 5 = 9) by decide), if_neg (show ¬ nI 5 = 10 by decide), if_neg (show ¬ nI 5 = 11 by decide), if_neg (show ¬ nI 5 = 8 by decide), if_neg (show ¬ nI 5 = 9 by decide), if_neg (show ¬ nI 5 = 11 by decide), if_neg (show ¬ nI 5 = 10 by decide)]
      unfold f_X4_addLine_b189_ops f_X4_addLine_b194_ops f_X4_addLine_b217_ops f_X4_addLine_b218_ops f_X4_addLine_b248_ops f_X4_addLine_b274_ops f_X4_addLine_b280_ops
      simp only [s0, s1, s2, s3, bq1, c1]
      rfl
    | 6, _ =>
      have hv' : v = -4 := hv
      have hn'' : n = -4 := hn'
      rw [hv', hn'']
      rw [if_neg (show ¬ (nI 6 = 8 ∨ nI 6 = 9) by decide), if_neg (show ¬ nI 6 = 10 by decide), if_neg (show ¬ nI 6 = 11 by decide), if_neg (show ¬ nI 6 = 8 by decide), if_neg (show ¬ nI 6 = 9 by decide), if_neg (show ¬ nI 6 = 11 by decide), if_neg (show ¬ nI 6 = 10 by decide)]
      unfold f_X4_addLine_b189_ops f_X4_addLine_b194_ops f_X4_addLine_b217_ops f_X4_addLine_b218_ops f_X4_addLine_b248_ops f_X4_addLine_b274_ops f_X4_addLine_b280_ops
      simp only [s0, s1, s2, s3, bq1, c1]
      rfl
    | 7, _ =>
      have hv' : v = -4 := hv
      have hn'' : n = -4 := hn'
      rw [hv', hn'']
      rw [if_neg (show ¬ (nI 7 = 8 ∨ nI 7 = 9) by decide), if_neg (show ¬ nI 7 = 10 by decide), if_neg (show ¬ nI 7 = 11 by decide), if_neg (show ¬ nI 7 = 8 by decide), if_neg (show ¬ nI 7 = 9 by decide), if_neg (show ¬ nI 7 = 11 by decide), if_neg (show ¬ nI 7 = 10 by decide)]
      unfold f_X4_addLine_b189_ops f_X4_addLine_b194_ops f_X4_addLine_b217_ops f_X4_addLine_b218_ops f_X4_addLine_b248_ops f_X4_addLine_b274_ops f_X4_addLine_b280_ops
      simp only [s0, s1, s2, s3, bq1, c1]
      rfl
  · have ne : ∀ j, j ≠ 1086 + kO → j ≠ 1126 + kO → j ≠ 1166 + kO → j ≠ 1206 + kO → j ≠ 1359 → SO st kO kR (nI l) v n j = st j := fun j h1 h2 h3 h4 h5 => by
      unfold SO; rw [pk_un h5, pk_un h4, pk_un h3, pk_un h2, pk_un h1]
    have e0 : SO st kO kR (nI l) v n (1086 + kO) = nI l := by unfold SO; rw [pk_un (by omega), pk_un (by omega), pk_un (by omega), pk_un (by omega), pk_us]
    have e1 : SO st kO kR (nI l) v n (1126 + kO) = v := by unfold SO; rw [pk_un (by omega), pk_un (by omega), pk_un (by omega), pk_us]
    have e2 : SO st kO kR (nI l) v n (1166 + kO) = n := by unfold SO; rw [pk_un (by omega), pk_un (by omega), pk_us]
    have e3 : SO st kO kR (nI l) v n (1206 + kO) = nI (kR - 1) := by unfold SO; rw [pk_un (by omega), pk_us]
    refine ⟨⟨hkk.1, by omega, hkk.2.2⟩, ⟨hn.1, rfl, hn.2.2⟩, ⟨?_, ?_, ?_, ?_⟩, fun r hr' => ?_, fun i hi c hc' => ?_, fun i hi c hc' => ?_, fun i hi c hc' => ?_, fun r hr' => ?_, fun i hi => ?_⟩
    · rw [ne _ (by omega) (by omega) (by omega) (by omega) (by omega)]; exact hs.1
    · unfold SO; rw [pk_us]
    · rw [ne _ (by omega) (by omega) (by omega) (by omega) (by omega)]; exact hs.2.2.1
    · rw [ne _ (by omega) (by omega) (by omega) (by omega) (by omega)]; exact hs.2.2.2
    · rw [ne _ (by omega) (by omega) (by omega) (by omega) (by omega), ne _ (by omega) (by omega) (by omega) (by omega) (by omega), ne _ (by omega) (by omega) (by omega) (by omega) (by omega)]; exact hr r hr'
    · by_cases q : i = kO
      · subst q
        match c, hc' with
        | 0, _ => rw [show 1086 + 40 * 0 + i = 1086 + i by omega, e0, pk_un (by omega), pk_un (by omega), pk_un (by omega)]; exact pk_us
        | 1, _ => rw [show 1086 + 40 * 1 + i = 1126 + i by omega, e1, pk_un (by omega), pk_un (by omega), pk_us]
        | 2, _ => rw [show 1086 + 40 * 2 + i = 1166 + i by omega, e2, pk_un (by omega), pk_us]
        | 3, _ => rw [show 1086 + 40 * 3 + i = 1206 + i by omega, e3, pk_us]
      · rw [pk_un (by omega), pk_un (by omega), pk_un (by omega), pk_un (by omega), ne _ (by omega) (by omega) (by omega) (by omega) (by omega)]; exact ho i (by omega) c hc'
    · rw [ne _ (by omega) (by omega) (by omega) (by omega) (by omega)]; exact hl' i hi c hc'
    · rw [ne _ (by omega) (by omega) (by omega) (by omega) (by omega)]; exact hc i hi c hc'
    · rw [ne _ (by omega) (by omega) (by omega) (by omega) (by omega), ne _ (by omega) (by omega) (by omega) (by omega) (by omega), ne _ (by omega) (by omega) (by omega) (by omega) (by omega)]; exact hv1 r hr'
    · by_cases q : i = kO
      · subst q; rw [e0, e1, e2]; exact hop
      · rw [ne _ (by omega) (by omega) (by omega) (by omega) (by omega), ne _ (by omega) (by omega) (by omega) (by omega) (by omega), ne _ (by omega) (by omega) (by omega) (by omega) (by omega)]; exact hv3 i (by omega)
theorem WT.addL (h : WT nR fR nO fO nL fL nC fC st kR kO kL kC) (hk : kL < 16) (hkR : 0 < kR) : ∃ fL', f_X4_addLine (nI 10) ops 3 nR fR 4 nO fO 5 nL fL 2 nC fC = some (nR, fR, nO, fO, nI (kL + 1), fL', nC, fC) ∧ WT nR fR nO fO (nI (kL + 1)) fL' nC fC (SL st kL kR (ops 0) (ops 1) (ops 2) (ops 3)) kR kO (kL + 1) kC := by
  obtain ⟨hkk, hn, hs, hr, ho, hl', hc, hv1, hv3⟩ := h
  refine ⟨upd (upd (upd (upd (upd fL (5 * kL) (ops 0)) (5 * kL + 1) (ops 1)) (5 * kL + 2) (ops 2)) (5 * kL + 3) (ops 3)) (5 * kL + 4) (nI (kR - 1)), ?_, ?_⟩
  · have sc : ∀ (c : Nat) (f : Nat → Int32) (y : Int32), c < 5 → f_X3_set (nI kL) (nI c) y (5 : Int32) (nI (kL + 1)) 80 f = some (upd f (5 * kL + c) y) := fun c f y hc => by
      rw [Nat.mul_comm 5 kL]; exact set_in (w := 5) y (by omega) hc (by omega) (by omega)
    have c1 : nI kR - 1 = nI (kR - 1) := pk_sub (b := 1) hkR
    have a1 : f_X3_addOne (5 : Int32) (nI kL) 80 = some (nI (kL + 1)) := add1_e (w := 5) (by omega) (by omega) (by omega) (by omega)
    have st1 : ∀ (n c : Nat) (f : Nat → Int32), c < 4 → f_X4_addLine_L130_landings ops 3 4 5 2 (n + 1) (nI kL) (nI (kR - 1)) (nI c) (nI kR) fR (nI kO) fO (nI (kL + 1)) f (nI kC) fC = f_X4_addLine_L130_landings ops 3 4 5 2 n (nI kL) (nI (kR - 1)) (nI (c + 1)) (nI kR) fR (nI kO) fO (nI (kL + 1)) (upd f (5 * kL + c) (ops c)) (nI kC) fC := by
      intro n c f hc
      rw [f_X4_addLine_L130_landings, if_neg (show ¬ (4 : Int32) ≤ nI c from fun z => by rw [le, nT (by omega)] at z; have : (4 : Int) ≤ c := z; omega), ckN (by omega) (by omega), nI_clamp (by omega), sc c f _ (by omega), bq1, nI_1]
    have st4 : ∀ (n : Nat) (f : Nat → Int32), f_X4_addLine_L130_landings ops 3 4 5 2 (n + 1) (nI kL) (nI (kR - 1)) (nI 4) (nI kR) fR (nI kO) fO (nI (kL + 1)) f (nI kC) fC = some (nI kR, fR, nI kO, fO, nI (kL + 1), upd f (5 * kL + 4) (nI (kR - 1)), nI kC, fC) := by
      intro n f
      rw [f_X4_addLine_L130_landings, if_pos (show (4 : Int32) ≤ nI 4 by decide), show ((4 : Int32)) = nI 4 from rfl, sc 4 f _ (by omega), bq1]
    unfold f_X4_addLine
    rw [hn.1, hn.2.1, hn.2.2.1, hn.2.2.2, a1, bq1, if_neg (show ¬ (nI 10 = 8 ∨ nI 10 = 9) by decide), if_pos (show nI 10 = 10 from rfl), if_neg (show ¬ nI 10 = 8 by decide), if_neg (show ¬ nI 10 = 9 by decide), if_neg (show ¬ nI 10 = 11 by decide), if_pos (show nI 10 = 10 from rfl), c1, show FUEL = 4091 + 1 + 1 + 1 + 1 + 1 from rfl, show ((0 : Int32)) = nI 0 from rfl, st1 _ 0 _ (by omega), st1 _ 1 _ (by omega), st1 _ 2 _ (by omega), st1 _ 3 _ (by omega), st4]; rfl
  · have ne : ∀ j, (j < 1246 + 5 * kL ∨ 1246 + 5 * kL + 4 < j) → j ≠ 1360 → SL st kL kR (ops 0) (ops 1) (ops 2) (ops 3) j = st j := fun j h1 h5 => by
      unfold SL; rw [pk_un h5, pk_un (by omega), pk_un (by omega), pk_un (by omega), pk_un (by omega), pk_un (by omega)]
    refine ⟨⟨hkk.1, hkk.2.1, by omega, hkk.2.2.2⟩, ⟨hn.1, hn.2.1, rfl, hn.2.2.2⟩, ⟨?_, ?_, ?_, ?_⟩, fun r hr' => ?_, fun i hi c hc' => ?_, fun i hi c hc' => ?_, fun i hi c hc' => ?_, fun r hr' => ?_, fun i hi => ?_⟩
    · rw [ne _ (by omega) (by omega)]; exact hs.1
    · rw [ne _ (by omega) (by omega)]; exact hs.2.1
    · unfold SL; rw [pk_us]
    · rw [ne _ (by omega) (by omega)]; exact hs.2.2.2
    · rw [ne _ (by omega) (by omega), ne _ (by omega) (by omega), ne _ (by omega) (by omega)]; exact hr r hr'
    · rw [ne _ (by omega) (by omega)]; exact ho i hi c hc'
    · by_cases q : i = kL
      · subst q
        unfold SL
        rw [pk_un (show 1246 + 5 * i + c ≠ 1360 by omega)]
        match c, hc' with
        | 0, _ => rw [show 5 * i + 0 = 5 * i from rfl, show 1246 + 5 * i + 0 = 1246 + 5 * i from rfl, pk_un (by omega), pk_un (by omega), pk_un (by omega), pk_un (by omega), pk_us, pk_un (by omega), pk_un (by omega), pk_un (by omega), pk_un (by omega), pk_us]
        | 1, _ => rw [pk_un (by omega), pk_un (by omega), pk_un (by omega), pk_us, pk_un (by omega), pk_un (by omega), pk_un (by omega), pk_us]
        | 2, _ => rw [pk_un (by omega), pk_un (by omega), pk_us, pk_un (by omega), pk_un (by omega), pk_us]
        | 3, _ => rw [pk_un (by omega), pk_us, pk_un (by omega), pk_us]
        | 4, _ => rw [pk_us, pk_us]
      · rw [pk_un (by omega), pk_un (by omega), pk_un (by omega), pk_un (by omega), pk_un (by omega), ne _ (by omega) (by omega)]; exact hl' i (by omega) c hc'
    · rw [ne _ (by omega) (by omega)]; exact hc i hi c hc'
    · rw [ne _ (by omega) (by omega), ne _ (by omega) (by omega), ne _ (by omega) (by omega)]; exact hv1 r hr'
    · rw [ne _ (by omega) (by omega), ne _ (by omega) (by omega), ne _ (by omega) (by omega)]; exact hv3 i hi
theorem WT.addC (h : WT nR fR nO fO nL fL nC fC st kR kO kL kC) (hk : kC < 16) : ∃ fC', f_X4_addLine (nI 11) ops 3 nR fR 4 nO fO 5 nL fL 2 nC fC = some (nR, fR, nO, fO, nL, fL, nI (kC + 1), fC') ∧ WT nR fR nO fO nL fL (nI (kC + 1)) fC' (SC st kC (ops 0) (ops 1)) kR kO kL (kC + 1) := by
  obtain ⟨hkk, hn, hs, hr, ho, hl', hc, hv1, hv3⟩ := h
  refine ⟨upd (upd fC (2 * kC) (ops 0)) (2 * kC + 1) (ops 1), ?_, ?_⟩
  · have s0 : ∀ (f : Nat → Int32) (y : Int32), f_X3_set (nI kC) (0 : Int32) y (2 : Int32) (nI (kC + 1)) 32 f = some (upd f (2 * kC) y) := fun f y => by
      rw [Nat.mul_comm 2 kC]; exact set_in (w := 2) (c := 0) y (by omega) (by omega) (by omega) (by omega)
    have s1 : ∀ (f : Nat → Int32) (y : Int32), f_X3_set (nI kC) (1 : Int32) y (2 : Int32) (nI (kC + 1)) 32 f = some (upd f (2 * kC + 1) y) := fun f y => by
      rw [Nat.mul_comm 2 kC]; exact set_in (w := 2) (c := 1) y (by omega) (by omega) (by omega) (by omega)
    have a1 : f_X3_addOne (2 : Int32) (nI kC) 32 = some (nI (kC + 1)) := add1_e (w := 2) (by omega) (by omega) (by omega) (by omega)
    unfold f_X4_addLine
    rw [hn.2.2.2, a1, bq1, if_neg (show ¬ (nI 11 = 8 ∨ nI 11 = 9) by decide), if_neg (show ¬ nI 11 = 10 by decide), if_pos (show nI 11 = 11 from rfl), if_neg (show ¬ nI 11 = 8 by decide), if_neg (show ¬ nI 11 = 9 by decide), if_pos (show nI 11 = 11 from rfl), ckI (by decide) (by decide), s0, bq1, ckI (by decide) (by decide), s1, bq1]; rfl
  · have ne : ∀ j, j ≠ 1326 + 2 * kC → j ≠ 1326 + 2 * kC + 1 → j ≠ 1361 → SC st kC (ops 0) (ops 1) j = st j := fun j h1 h2 h5 => by
      unfold SC; rw [pk_un h5, pk_un h2, pk_un h1]
    refine ⟨⟨hkk.1, hkk.2.1, hkk.2.2.1, by omega⟩, ⟨hn.1, hn.2.1, hn.2.2.1, rfl⟩, ⟨?_, ?_, ?_, ?_⟩, fun r hr' => ?_, fun i hi c hc' => ?_, fun i hi c hc' => ?_, fun i hi c hc' => ?_, fun r hr' => ?_, fun i hi => ?_⟩
    · rw [ne _ (by omega) (by omega) (by omega)]; exact hs.1
    · rw [ne _ (by omega) (by omega) (by omega)]; exact hs.2.1
    · rw [ne _ (by omega) (by omega) (by omega)]; exact hs.2.2.1
    · unfold SC; rw [pk_us]
    · rw [ne _ (by omega) (by omega) (by omega), ne _ (by omega) (by omega) (by omega), ne _ (by omega) (by omega) (by omega)]; exact hr r hr'
    · rw [ne _ (by omega) (by omega) (by omega)]; exact ho i hi c hc'
    · rw [ne _ (by omega) (by omega) (by omega)]; exact hl' i hi c hc'
    · by_cases q : i = kC
      · subst q
        unfold SC
        rw [pk_un (show 1326 + 2 * i + c ≠ 1361 by omega)]
        match c, hc' with
        | 0, _ => rw [show 2 * i + 0 = 2 * i from rfl, show 1326 + 2 * i + 0 = 1326 + 2 * i from rfl, pk_un (by omega), pk_us, pk_un (by omega), pk_us]
        | 1, _ => rw [pk_us, pk_us]
      · rw [pk_un (by omega), pk_un (by omega), ne _ (by omega) (by omega) (by omega)]; exact hc i (by omega) c hc'
    · rw [ne _ (by omega) (by omega) (by omega), ne _ (by omega) (by omega) (by omega), ne _ (by omega) (by omega) (by omega)]; exact hv1 r hr'
    · rw [ne _ (by omega) (by omega) (by omega), ne _ (by omega) (by omega) (by omega), ne _ (by omega) (by omega) (by omega)]; exact hv3 i hi
end TABLES
