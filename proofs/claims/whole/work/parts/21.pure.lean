/-- how many of n from i on, beside a -/
def cnt (P : Nat → Bool) : Nat → Nat → Int32 → Int32
  | 0, _, a => a
  | n + 1, i, a => cnt P n (i + 1) (if P i = true then a + 1 else a)
theorem cnt_cong {P Q : Nat → Bool} : ∀ (n i : Nat) (a : Int32), (∀ j, i ≤ j → j < i + n → P j = Q j) → cnt P n i a = cnt Q n i a
  | 0, _, _, _ => rfl
  | n + 1, i, a, h => by
    rw [cnt, cnt, h i (by omega) (by omega), cnt_cong n (i + 1) _ (fun j h1 h2 => h j (by omega) (by omega))]
theorem add0 (a : Int32) : a + 0 = a := Int32.add_zero a
theorem howMany_L {w k c N : Nat} {f : Nat → Int32} (x : Int32) (hc : c < w) (hN : k * w ≤ N) (hB : N < 2147483648) : ∀ (n i : Nat) (a : Int32), i ≤ k → k - i < n → f_X3_howMany_L5 (nI w) (nI k) N f n (nI c) x a (nI i) = some (cnt (fun j => decide (f (j * w + c) = x)) (k - i) i a)
  | 0, i, _, _, h2 => by omega
  | n + 1, i, a, h1, h2 => by
    have hkw : k ≤ k * w := Nat.le_mul_of_pos_right k (by omega)
    rw [f_X3_howMany_L5]
    by_cases hi : i = k
    · subst hi
      rw [if_pos (Int32.le_refl _), Nat.sub_self]; rfl
    · rw [if_neg (by rw [le, nT (by omega), nT (by omega)]; omega), at_in (by omega) hc hN hB, bq1, nI_1]
      obtain ⟨m, hm⟩ : ∃ m, k - i = m + 1 := ⟨k - i - 1, by omega⟩
      rw [hm, cnt]
      by_cases hx : f (i * w + c) = x
      · rw [if_pos hx, if_pos (decide_eq_true hx), howMany_L x hc hN hB n (i + 1) (a + 1) (by omega) (by omega), show k - (i + 1) = m by omega]
      · rw [if_neg hx, if_neg (by simp [hx]), howMany_L x hc hN hB n (i + 1) a (by omega) (by omega), show k - (i + 1) = m by omega]
theorem howMany_e {w k c N : Nat} {f : Nat → Int32} (x : Int32) (hc : c < w) (hN : k * w ≤ N) (hB : N < 4000) : f_X3_howMany (nI c) x (nI w) (nI k) N f = some (cnt (fun j => decide (f (j * w + c) = x)) k 0 0) := by
  have hkw : k ≤ k * w := Nat.le_mul_of_pos_right k (by omega)
  unfold f_X3_howMany
  have e := howMany_L (f := f) x hc hN (by omega) FUEL 0 0 (by omega) (by unfold FUEL; omega)
  rw [Nat.sub_zero] at e
  exact e
theorem cmp_e (x y : Int32) : f_J6_compare_7cf53 x y = some (if x.toInt < y.toInt then -1 else if x.toInt = y.toInt then 0 else 1) := by
  unfold f_J6_compare_7cf53
  by_cases h1 : y.toInt ≤ x.toInt
  · rw [if_pos (show y ≤ x from le.mpr h1), if_neg (show ¬ x.toInt < y.toInt by omega)]
    by_cases h2 : x.toInt = y.toInt
    · rw [if_pos (show x = y from ei.mpr h2), if_pos h2]
    · rw [if_neg (show ¬ x = y from fun z => h2 (ei.mp z)), if_neg h2]
  · rw [if_neg (show ¬ y ≤ x from fun z => h1 (le.mp z)), if_pos (show x.toInt < y.toInt by omega)]
/-- other comes ahead of i -/
def ahd (g : Nat → Int32) (i j : Nat) : Bool := decide ((g j).toInt < (g i).toInt ∨ ((g j).toInt = (g i).toInt ∧ j < i))
theorem ahd_iff {g : Nat → Int32} {i j : Nat} {a b : Int32} (ha : g j = a) (hb : g i = b) : ahd g i j = true ↔ (a.toInt < b.toInt ∨ (a.toInt = b.toInt ∧ j < i)) := by
  subst ha; subst hb; unfold ahd; exact decide_eq_true_iff
theorem rankOf_L {w k c N i : Nat} {f : Nat → Int32} (hc : c < w) (hN : k * w ≤ N) (hB : N < 2147483648) (hi : i < k) : ∀ (n j : Nat) (a : Int32), j ≤ k → k - j < n → f_X3_rankOf_L5 (nI w) (nI k) N f n (nI i) (nI c) a (nI j) = some (cnt (ahd (fun j => f (j * w + c)) i) (k - j) j a)
  | 0, j, _, _, h2 => by omega
  | n + 1, j, a, h1, h2 => by
    have hkw : k ≤ k * w := Nat.le_mul_of_pos_right k (by omega)
    rw [f_X3_rankOf_L5]
    by_cases hj : j = k
    · subst hj
      rw [if_pos (Int32.le_refl _), Nat.sub_self]; rfl
    · rw [if_neg (by rw [le, nT (by omega), nT (by omega)]; omega), at_in (by omega) hc hN hB, bq1, at_in hi hc hN hB, bq1, cmp_e, bq1, nI_1]
      obtain ⟨m, hm⟩ : ∃ m, k - j = m + 1 := ⟨k - j - 1, by omega⟩
      have r1 := rankOf_L (f := f) hc hN hB hi n (j + 1) (a + 1) (by omega) (by omega)
      have r0 := rankOf_L (f := f) hc hN hB hi n (j + 1) a (by omega) (by omega)
      rw [show k - (j + 1) = m by omega] at r1 r0
      rw [hm, cnt]
      by_cases x1 : (f (j * w + c)).toInt < (f (i * w + c)).toInt
      · rw [if_pos x1, if_pos (by decide), if_pos ((ahd_iff (g := fun j => f (j * w + c)) rfl rfl).mpr (Or.inl x1)), r1]
      · rw [if_neg x1]
        by_cases x2 : (f (j * w + c)).toInt = (f (i * w + c)).toInt
        · rw [if_pos x2, if_neg (by decide), if_pos rfl]
          by_cases x3 : i ≤ j
          · rw [if_pos (by rw [le, nT (by omega), nT (by omega)]; omega), if_neg (fun z => by have z := (ahd_iff (g := fun j => f (j * w + c)) rfl rfl).mp z; omega), r0]
          · rw [if_neg (by rw [le, nT (by omega), nT (by omega)]; omega), if_pos ((ahd_iff (g := fun j => f (j * w + c)) rfl rfl).mpr (by omega)), r1]
        · rw [if_neg x2, if_neg (by decide), if_neg (by decide), if_neg (fun z => by have z := (ahd_iff (g := fun j => f (j * w + c)) rfl rfl).mp z; omega), r0]
theorem rankOf_e {w k c N i : Nat} {f : Nat → Int32} (hc : c < w) (hN : k * w ≤ N) (hB : N < 4000) (hi : i < k) : f_X3_rankOf (nI i) (nI c) (nI w) (nI k) N f = some (cnt (ahd (fun j => f (j * w + c)) i) k 0 0) := by
  have hkw : k ≤ k * w := Nat.le_mul_of_pos_right k (by omega)
  unfold f_X3_rankOf
  have e := rankOf_L (f := f) hc hN (by omega) hi FUEL 0 0 (by omega) (by unfold FUEL; omega)
  rw [Nat.sub_zero] at e
  exact e
/-! the reference's counts -/
theorem ofR5 {st : Nat → Int32} {k i : Nat} (hk : k ≤ 8) (hs : st 296 = nI k) (hi : i < k) : ∀ (n j : Nat) (a : Int32), j ≤ k → k - j < n → f_X8_ofRoutine_L109 st n (nI i) 5 a (nI j) = some (cnt (fun j => decide ((st j).toInt < (st i).toInt)) (k - j) j a)
  | 0, j, _, _, h2 => by omega
  | n + 1, j, a, h1, h2 => by
    rw [f_X8_ofRoutine_L109, rou_e, bq1, hs]
    by_cases hj : j = k
    · subst hj
      rw [if_pos (Int32.le_refl _), Nat.sub_self]; rfl
    · rw [if_neg (by rw [le, nT (by omega), nT (by omega)]; omega), if_pos rfl, ckI (by rw [nT (by omega)]; omega) (by rw [nT (by omega)]; omega), ckI (by rw [nT (by omega)]; omega) (by rw [nT (by omega)]; omega), nC (by omega), nC (by omega), nI_1, add0]
      obtain ⟨m, hm⟩ : ∃ m, k - j = m + 1 := ⟨k - j - 1, by omega⟩
      have r1 := ofR5 hk hs hi n (j + 1) (a + 1) (by omega) (by omega)
      have r0 := ofR5 hk hs hi n (j + 1) a (by omega) (by omega)
      rw [show k - (j + 1) = m by omega] at r1 r0
      rw [hm, cnt]
      by_cases x1 : (st i).toInt ≤ (st j).toInt
      · rw [if_pos (by rw [le]; exact x1), if_neg (by rw [decide_eq_true_iff]; omega), r0]
      · rw [if_neg (by rw [le]; exact x1), if_pos (by rw [decide_eq_true_iff]; omega), r1]
theorem ofR5n {st : Nat → Int32} {k : Nat} (w : Int32) (hk : k ≤ 8) (hs : st 296 = nI k) (hw : ¬ w = 5) (i a : Int32) : ∀ (n : Nat), f_X8_ofRoutine_L109 st (n + 1) i w a 0 = some a := by
  intro n
  rw [f_X8_ofRoutine_L109, rou_e, bq1, hs]
  by_cases hj : nI k ≤ 0
  · rw [if_pos hj]
  · rw [if_neg hj, if_neg hw]
theorem ofR4 {st : Nat → Int32} {k kR : Nat} (x : Int32) (hk : k ≤ 16) (hs : st 298 = nI k) (hR : kR ≤ 8) (hs2 : st 296 = nI kR) : ∀ (n j : Nat) (a : Int32), j ≤ k → k - j < n → f_X8_ofRoutine_L55 st n x 4 a (nI j) = some (cnt (fun j => decide (st (184 + 5 * j + 4) = x)) (k - j) j a)
  | 0, j, _, _, h2 => by omega
  | n + 1, j, a, h1, h2 => by
    rw [f_X8_ofRoutine_L55, ckI (by decide) (by decide), show st ((298 : Int32)).toNatClampNeg = nI k from hs]
    by_cases hj : j = k
    · subst hj
      rw [if_pos (Int32.le_refl _), Nat.sub_self]
      exact ofR5n 4 hR hs2 (by decide) x a 4095
    · rw [if_neg (by rw [le, nT (by omega), nT (by omega)]; omega), if_pos rfl, show ((184 : Int32)) = nI 184 from rfl, show ((5 : Int32)) = nI 5 from rfl, show ((4 : Int32)) = nI 4 from rfl, mulN, nI_add, nI_add, ckI (by rw [nT (by omega)]; omega) (by rw [nT (by omega)]; omega), nC (by omega), nI_1, add0]
      obtain ⟨m, hm⟩ : ∃ m, k - j = m + 1 := ⟨k - j - 1, by omega⟩
      have r1 := ofR4 x hk hs hR hs2 n (j + 1) (a + 1) (by omega) (by omega)
      have r0 := ofR4 x hk hs hR hs2 n (j + 1) a (by omega) (by omega)
      rw [show k - (j + 1) = m by omega] at r1 r0
      rw [hm, cnt]
      by_cases x1 : st (184 + 5 * j + 4) = x
      · rw [if_pos x1, if_pos (decide_eq_true x1)]; exact r1
      · rw [if_neg x1, if_neg (by simp [x1])]; exact r0
theorem ofR4n {st : Nat → Int32} {k kR : Nat} (w : Int32) (hs : st 298 = nI k) (hw : ¬ w = 4) (i a : Int32) (n : Nat) : f_X8_ofRoutine_L55 st (n + 1) i w a 0 = f_X8_ofRoutine_L109 st FUEL i w a 0 := by
  rw [f_X8_ofRoutine_L55, ckI (by decide) (by decide), show st ((298 : Int32)).toNatClampNeg = nI k from hs]
  by_cases hj : nI k ≤ 0
  · rw [if_pos hj]
  · rw [if_neg hj, if_neg hw]
theorem ofR3 {st : Nat → Int32} {k kR kL : Nat} (x : Int32) (hk : k ≤ 40) (hs : st 297 = nI k) (hR : kR ≤ 8) (hs2 : st 296 = nI kR) (hs3 : st 298 = nI kL) : ∀ (n j : Nat) (a : Int32), j ≤ k → k - j < n → f_X8_ofRoutine_L5 st n x 3 a (nI j) = some (cnt (fun j => decide (st (144 + j) = x)) (k - j) j a)
  | 0, j, _, _, h2 => by omega
  | n + 1, j, a, h1, h2 => by
    rw [f_X8_ofRoutine_L5, ckI (by decide) (by decide), show st ((297 : Int32)).toNatClampNeg = nI k from hs]
    by_cases hj : j = k
    · subst hj
      rw [if_pos (Int32.le_refl _), Nat.sub_self]
      exact (ofR4n (kR := kR) 3 hs3 (by decide) x a 4095).trans (ofR5n 3 hR hs2 (by decide) x a 4095)
    · rw [if_neg (by rw [le, nT (by omega), nT (by omega)]; omega), if_pos rfl, show ((144 : Int32)) = nI 144 from rfl, nI_add, ckI (by rw [nT (by omega)]; omega) (by rw [nT (by omega)]; omega), nC (by omega), nI_1, add0]
      obtain ⟨m, hm⟩ : ∃ m, k - j = m + 1 := ⟨k - j - 1, by omega⟩
      have r1 := ofR3 x hk hs hR hs2 hs3 n (j + 1) (a + 1) (by omega) (by omega)
      have r0 := ofR3 x hk hs hR hs2 hs3 n (j + 1) a (by omega) (by omega)
      rw [show k - (j + 1) = m by omega] at r1 r0
      rw [hm, cnt]
      by_cases x1 : st (144 + j) = x
      · rw [if_pos x1, if_pos (decide_eq_true x1), r1]
      · rw [if_neg x1, if_neg (by simp [x1]), r0]
theorem ofR3n {st : Nat → Int32} {k : Nat} (w : Int32) (hs : st 297 = nI k) (hw : ¬ w = 3) (i a : Int32) (n : Nat) : f_X8_ofRoutine_L5 st (n + 1) i w a 0 = f_X8_ofRoutine_L55 st FUEL i w a 0 := by
  rw [f_X8_ofRoutine_L5, ckI (by decide) (by decide), show st ((297 : Int32)).toNatClampNeg = nI k from hs]
  by_cases hj : nI k ≤ 0
  · rw [if_pos hj]
  · rw [if_neg hj, if_neg hw]
/-- addresses summed -/
def adr (F T : Nat → Int32) : Nat → Nat → Int32 → Int32
  | 0, _, a => a
  | n + 1, i, a => adr F T n (i + 1) (a + ((T i - F i) + 1))
theorem had_L {k : Nat} {f : Nat → Int32} {F T : Nat → Int32} (hk : k ≤ 8) (h : ∀ r, r < k → f (3 * r) = F r ∧ f (3 * r + 1) = T r) : ∀ (n r : Nat) (a : Int32), r ≤ k → k - r < n → f_X6_addressesHad_L4 3 (nI k) f n a (nI r) = some (adr F T (k - r) r a)
  | 0, r, _, _, h2 => by omega
  | n + 1, r, a, h1, h2 => by
    rw [f_X6_addressesHad_L4]
    by_cases hr : r = k
    · subst hr
      rw [if_pos (Int32.le_refl _), Nat.sub_self]; rfl
    · rw [if_neg (by rw [le, nT (by omega), nT (by omega)]; omega), show f_X3_at (nI r) (1 : Int32) (3 : Int32) (nI k) 24 f = some (f (r * 3 + 1)) from at_in (w := 3) (c := 1) (by omega) (by omega) (by omega) (by omega), bq1, show f_X3_at (nI r) (0 : Int32) (3 : Int32) (nI k) 24 f = some (f (r * 3 + 0)) from at_in (w := 3) (c := 0) (by omega) (by omega) (by omega) (by omega), bq1, nI_1, Nat.mul_comm r 3, Nat.add_zero (3 * r), (h r (by omega)).1, (h r (by omega)).2]
      obtain ⟨m, hm⟩ : ∃ m, k - r = m + 1 := ⟨k - r - 1, by omega⟩
      rw [hm, adr, had_L hk h n (r + 1) _ (by omega) (by omega), show k - (r + 1) = m by omega]
theorem adr_L {st : Nat → Int32} {k : Nat} (hk : k ≤ 8) (hs : st 296 = nI k) : ∀ (n r : Nat) (a : Int32), r ≤ k → k - r < n → f_X8_addresses_L4 st n a (nI r) = some (adr st (fun i => st (8 + i)) (k - r) r a)
  | 0, r, _, _, h2 => by omega
  | n + 1, r, a, h1, h2 => by
    rw [f_X8_addresses_L4, rou_e, bq1, hs]
    by_cases hr : r = k
    · subst hr
      rw [if_pos (Int32.le_refl _), Nat.sub_self]; rfl
    · rw [if_neg (by rw [le, nT (by omega), nT (by omega)]; omega), show ((8 : Int32)) = nI 8 from rfl, nI_add, ckI (by rw [nT (by omega)]; omega) (by rw [nT (by omega)]; omega), ckI (by rw [nT (by omega)]; omega) (by rw [nT (by omega)]; omega), nC (by omega), nC (by omega), nI_1]
      obtain ⟨m, hm⟩ : ∃ m, k - r = m + 1 := ⟨k - r - 1, by omega⟩
      rw [hm, adr, adr_L hk hs n (r + 1) _ (by omega) (by omega), show k - (r + 1) = m by omega]
section WREL3
variable {nR : Int32} {fR : Nat → Int32} {nO : Int32} {fO : Nat → Int32} {nL : Int32} {fL : Nat → Int32} {nC' : Int32} {fC rg wd st : Nat → Int32} {kR kO kL kC : Nat}
theorem WR.isR (h : WR nR fR nO fO nL fL nC' fC rg wd st kR kO kL kC) (x : Int32) : f_X3_has x nR = some (if 0 ≤ x.toInt ∧ x.toInt < kR then 1 else 0) ∧ f_X8_isRoutine x st = some (if 0 ≤ x.toInt ∧ x.toInt < kR then 1 else 0) := by
  obtain ⟨hk, hn, hs, -⟩ := h
  refine ⟨by rw [hn.1]; exact has_e x (by omega), ?_⟩
  unfold f_X8_isRoutine
  rw [rou_e, bq1, hs.1, in_t, bq1, ck01, tt, tt, subI (by rw [nT (by omega)]; show _ ≤ (kR : Int) - 1; omega) (by rw [nT (by omega)]; show (kR : Int) - 1 < _; omega), nT (by omega)]
  by_cases h1 : 0 ≤ x.toInt ∧ x.toInt < kR
  · rw [if_pos h1, if_pos (by show (0 : Int) ≤ _ ∧ _ ≤ (kR : Int) - 1; omega)]
  · rw [if_neg h1, if_neg (by show ¬ ((0 : Int) ≤ _ ∧ _ ≤ (kR : Int) - 1); omega)]
theorem p_routine (h : WR nR fR nO fO nL fL nC' fC rg wd st kR kO kL kC) (x y : Int32) : ∃ r, f_X7_routine x y 3 nR fR 4 nO fO 5 nL fL = some r ∧ f_X8_routine x y st = some r := by
  have hiR := h.isR x
  obtain ⟨hk, hn, hs, hr, ho, hl, hc, hg, hw, hv1, hv2, hv3, hv4, hv5⟩ := h
  unfold f_X7_routine f_X8_routine
  rw [hiR.1, bq1, ite01, hiR.2, bq1, ite01]
  by_cases h1 : 0 ≤ x.toInt ∧ x.toInt < kR
  · rw [if_pos h1, if_pos h1, in_t, bq1, ite01, tt]
    obtain ⟨i, hi, rfl, hiT⟩ := nOf h1.1
    by_cases h2 : (0 : Int64).toInt ≤ y.toInt ∧ y.toInt ≤ (5 : Int64).toInt
    · obtain ⟨c, hc', rfl, hcT⟩ := nOf (x := y) h2.1
      have hc6 : c < 6 := by have := h2.2; rw [hcT] at this; have e : (5 : Int64).toInt = 5 := rfl; omega
      rw [if_pos h2]
      have e8 : f_X8_ofRoutine (nI i) (nI c) st = f_X8_ofRoutine_L5 st FUEL (nI i) (nI c) 0 0 := rfl
      match c, hc6 with
      | 0, _ =>
        rw [if_pos (show nI 0 = 0 from rfl), if_neg (by decide), hn.1, show f_X3_at (nI i) (nI 0) (3 : Int32) (nI kR) 24 fR = some (fR (i * 3 + 0)) from at_in (w := 3) (by omega) (by omega) (by omega) (by omega), bq1, show ((8 : Int32)) = nI 8 from rfl, mulN, nI_add, ckI (by rw [nT (by omega)]; omega) (by rw [nT (by omega)]; omega), nC (by omega), Nat.mul_comm i 3, Nat.add_zero, (hr i (by omega)).1]
        exact ⟨_, rfl, by rw [Nat.mul_zero, Nat.zero_add]⟩
      | 1, _ =>
        rw [if_neg (by decide), if_pos (show nI 1 = 1 from rfl), if_neg (by decide), hn.1, show f_X3_at (nI i) (nI 1) (3 : Int32) (nI kR) 24 fR = some (fR (i * 3 + 1)) from at_in (w := 3) (by omega) (by omega) (by omega) (by omega), bq1, show ((8 : Int32)) = nI 8 from rfl, mulN, nI_add, ckI (by rw [nT (by omega)]; omega) (by rw [nT (by omega)]; omega), nC (by omega), Nat.mul_comm i 3, (hr i (by omega)).2.1]
        exact ⟨_, rfl, rfl⟩
      | 2, _ =>
        rw [if_neg (by decide), if_neg (by decide), if_pos (show nI 2 = 2 from rfl), if_neg (by decide), hn.1, show f_X3_at (nI i) (nI 2) (3 : Int32) (nI kR) 24 fR = some (fR (i * 3 + 2)) from at_in (w := 3) (by omega) (by omega) (by omega) (by omega), bq1, show ((8 : Int32)) = nI 8 from rfl, mulN, nI_add, ckI (by rw [nT (by omega)]; omega) (by rw [nT (by omega)]; omega), nC (by omega), Nat.mul_comm i 3, (hr i (by omega)).2.2]
        exact ⟨_, rfl, rfl⟩
      | 3, _ =>
        rw [if_neg (by decide), if_neg (by decide), if_neg (by decide), if_pos (show nI 3 = 3 from rfl), if_pos (by decide), hn.2.1, show f_X3_howMany (3 : Int32) (nI i) (4 : Int32) (nI kO) 160 fO = _ from howMany_e (w := 4) (c := 3) (nI i) (by omega) (by omega) (by omega), bq1, e8, show f_X8_ofRoutine_L5 st FUEL (nI i) (nI 3) 0 0 = _ from ofR3 (nI i) hk.2.1 hs.2.1 hk.1 hs.1 hs.2.2.1 FUEL 0 0 (by omega) (by unfold FUEL; omega), bq1, Nat.sub_zero]
        exact ⟨_, rfl, congrArg some (cnt_cong _ _ _ (fun j h3 h4 => by show decide (st (144 + j) = nI i) = decide (fO (j * 4 + 3) = nI i); rw [Nat.mul_comm j 4, ho j (by omega) 3 (by omega)]))⟩
      | 4, _ =>
        rw [if_neg (by decide), if_neg (by decide), if_neg (by decide), if_neg (by decide), if_pos (show nI 4 = 4 from rfl), if_pos (by decide), hn.2.2.1, show f_X3_howMany (4 : Int32) (nI i) (5 : Int32) (nI kL) 80 fL = _ from howMany_e (w := 5) (c := 4) (nI i) (by omega) (by omega) (by omega), bq1, e8, show f_X8_ofRoutine_L5 st FUEL (nI i) (nI 4) 0 0 = _ from ofR3n 4 hs.2.1 (by decide) (nI i) 0 4095, show f_X8_ofRoutine_L55 st FUEL (nI i) 4 0 0 = _ from ofR4 (nI i) hk.2.2.1 hs.2.2.1 hk.1 hs.1 FUEL 0 0 (by omega) (by unfold FUEL; omega), bq1, Nat.sub_zero]
        exact ⟨_, rfl, congrArg some (cnt_cong _ _ _ (fun j h3 h4 => by show decide (st (184 + 5 * j + 4) = nI i) = decide (fL (j * 5 + 4) = nI i); rw [Nat.mul_comm j 5, hl j (by omega) 4 (by omega)]))⟩
      | 5, _ =>
        rw [if_neg (by decide), if_neg (by decide), if_neg (by decide), if_neg (by decide), if_neg (by decide), if_pos (show nI 5 = 5 from rfl), if_pos (by decide), hn.1, show f_X3_rankOf (nI i) (0 : Int32) (3 : Int32) (nI kR) 24 fR = _ from rankOf_e (w := 3) (c := 0) (by omega) (by omega) (by omega) (by omega), bq1, e8, show f_X8_ofRoutine_L5 st FUEL (nI i) (nI 5) 0 0 = _ from ofR3n 5 hs.2.1 (by decide) (nI i) 0 4095, show f_X8_ofRoutine_L55 st FUEL (nI i) 5 0 0 = _ from ofR4n (kR := kR) 5 hs.2.2.1 (by decide) (nI i) 0 4095, show f_X8_ofRoutine_L109 st FUEL (nI i) 5 0 0 = _ from ofR5 hk.1 hs.1 (by omega) FUEL 0 0 (by omega) (by unfold FUEL; omega), bq1, Nat.sub_zero]
        refine ⟨_, rfl, congrArg some (cnt_cong _ _ _ (fun j h3 h4 => ?_))⟩
        show decide ((st j).toInt < (st i).toInt) = ahd (fun j => fR (j * 3 + 0)) i j
        unfold ahd
        have ej : fR (j * 3 + 0) = st j := by rw [Nat.mul_comm j 3, Nat.add_zero]; exact (hr j (by omega)).1
        have eI : fR (i * 3 + 0) = st i := by rw [Nat.mul_comm i 3, Nat.add_zero]; exact (hr i (by omega)).1
        simp only [ej, eI]
        have hne : ¬ ((st j).toInt = (st i).toInt ∧ j < i) := by
          rintro ⟨q1, q2⟩
          have a1 := hv2 i (by omega) j q2
          have a2 := hv1 i (by omega)
          have a3 := hv1 j (by omega)
          omega
        by_cases q : (st j).toInt < (st i).toInt
        · rw [decide_eq_true q, decide_eq_true (Or.inl q)]
        · rw [decide_eq_false q, decide_eq_false (fun z => z.elim q hne)]
    · rw [if_neg h2]
      have e0 : (0 : Int64).toInt = 0 := rfl
      have e5 : (5 : Int64).toInt = 5 := rfl
      have ne : ∀ c : Nat, c < 6 → ¬ y = nI c := by
        intro c hc z
        rw [z, nT (by omega)] at h2
        omega
      rw [if_neg (show ¬ y = 0 from ne 0 (by omega)), if_neg (show ¬ y = 1 from ne 1 (by omega)), if_neg (show ¬ y = 2 from ne 2 (by omega)), if_neg (show ¬ y = 3 from ne 3 (by omega)), if_neg (show ¬ y = 4 from ne 4 (by omega)), if_neg (show ¬ y = 5 from ne 5 (by omega))]
      exact ⟨_, rfl, rfl⟩
  · rw [if_neg h1, if_neg h1]
    exact ⟨_, rfl, rfl⟩
end WREL3
/-! rule -/
def TrkR (taken size ended guessed : Int32) (regs owners looked ways : Nat → Int32) (frameMany ending isWalked : Int32) (frames cameBy lookedM ownersM : Nat → Int32) : Prop :=
  (taken = 0 ∧ isWalked = 0 ∧ size = 0) ∨ (taken = 1 ∧ isWalked = 1 ∧ ∃ k : Nat, 1 ≤ k ∧ k ≤ 20 ∧ size = nI k ∧ frameMany = nI k ∧ ended = ending ∧ guessed = cnt (fun j => decide (cameBy j = 2)) k 0 0 ∧ ∀ j, j < k → owners j = ownersM j ∧ looked j = lookedM j ∧ ways j = cameBy j ∧ ∀ v, v < 6 → regs (6 * j + v) = frames (6 * j + v))
theorem gue_L {k : Nat} {cb : Nat → Int32} (hk : k ≤ 21) : ∀ (n j : Nat) (a : Int32), j ≤ k → k - j < n → f_X8_guessed_L4 (nI k) cb n a (nI j) = some (cnt (fun j => decide (cb j = 2)) (k - j) j a)
  | 0, j, _, _, h2 => by omega
  | n + 1, j, a, h1, h2 => by
    rw [f_X8_guessed_L4]
    by_cases hj : j = k
    · subst hj
      rw [if_pos (Int32.le_refl _), Nat.sub_self]; rfl
    · rw [if_neg (by rw [le, nT (by omega), nT (by omega)]; omega), ckI (by rw [nT (by omega)]; omega) (by rw [nT (by omega)]; omega), nC (by omega), nI_1, add0]
      obtain ⟨m, hm⟩ : ∃ m, k - j = m + 1 := ⟨k - j - 1, by omega⟩
      have r1 := gue_L (cb := cb) hk n (j + 1) (a + 1) (by omega) (by omega)
      have r0 := gue_L (cb := cb) hk n (j + 1) a (by omega) (by omega)
      rw [show k - (j + 1) = m by omega] at r1 r0
      rw [hm, cnt]
      by_cases x1 : cb j = 2
      · rw [if_pos x1, if_pos (decide_eq_true x1), r1]
      · rw [if_neg x1, if_neg (by simp [x1]), r0]
section WREL4
variable {nR : Int32} {fR : Nat → Int32} {nO : Int32} {fO : Nat → Int32} {nL : Int32} {fL : Nat → Int32} {nC' : Int32} {fC rg wd st : Nat → Int32} {kR kO kL kC : Nat}
variable {taken size ended guessed : Int32} {regs owners looked ways : Nat → Int32} {frameMany ending isWalked : Int32} {frames cameBy lookedM ownersM : Nat → Int32}
theorem p_rule (h : WR nR fR nO fO nL fL nC' fC rg wd st kR kO kL kC) (ht : TrkR taken size ended guessed regs owners looked ways frameMany ending isWalked frames cameBy lookedM ownersM) (x : Int32) : ∃ r, f_X7_rule x 3 nR fR nO nL nC' taken size ended guessed = some r ∧ f_X8_rule x frameMany ending isWalked st cameBy = some r := by
  obtain ⟨hk, hn, hs, hr, -⟩ := h
  unfold f_X7_rule f_X8_rule
  rw [in_t, bq1, ite01, tt]
  have e4 : (4 : Int64).toInt = 4 := rfl
  have e6 : (6 : Int64).toInt = 6 := rfl
  rw [e4, e6]
  by_cases c0 : x = 0
  · subst c0
    rw [if_pos rfl, if_neg (by decide)]
    unfold f_X8_rule_b24
    rw [if_pos rfl, ckI (by decide) (by decide)]
    exact ⟨_, rfl, congrArg some (by rw [hn.1]; exact hs.1)⟩
  by_cases c1 : x = 1
  · subst c1
    rw [if_neg (by decide), if_pos rfl, if_neg (by decide)]
    unfold f_X8_rule_b24
    rw [if_neg (by decide), if_pos rfl, ckI (by decide) (by decide)]
    exact ⟨_, rfl, congrArg some (by rw [hn.2.1]; exact hs.2.1)⟩
  by_cases c2 : x = 2
  · subst c2
    rw [if_neg (by decide), if_neg (by decide), if_pos rfl, if_neg (by decide)]
    unfold f_X8_rule_b24
    rw [if_neg (by decide), if_neg (by decide), if_pos rfl, ckI (by decide) (by decide)]
    exact ⟨_, rfl, congrArg some (by rw [hn.2.2.1]; exact hs.2.2.1)⟩
  by_cases c3 : x = 3
  · subst c3
    rw [if_neg (by decide), if_neg (by decide), if_neg (by decide), if_pos rfl, if_neg (by decide)]
    unfold f_X8_rule_b24
    rw [if_neg (by decide), if_neg (by decide), if_neg (by decide), if_pos rfl, ckI (by decide) (by decide)]
    exact ⟨_, rfl, congrArg some (by rw [hn.2.2.2]; exact hs.2.2.2)⟩
  rw [if_neg c0, if_neg c1, if_neg c2, if_neg c3]
  by_cases c4 : x = 4
  · subst c4
    rw [if_pos rfl, if_pos (show (4 : Int) ≤ ((4 : Int32)).toInt ∧ ((4 : Int32)).toInt ≤ 6 from by decide)]
    rw [show f_X8_rule_b24 frameMany ending isWalked st cameBy 4 = some frameMany from rfl]
    rcases ht with ⟨t1, t2, t3⟩ | ⟨t1, t2, k, t3, t4, t5, t6, t7, t8, t9⟩
    · rw [t1, t2, if_pos rfl, if_pos rfl]; exact ⟨_, rfl, rfl⟩
    · rw [t1, t2, if_neg (by decide), if_neg (by decide), t5, t6]; exact ⟨_, rfl, rfl⟩
  rw [if_neg c4]
  by_cases c5 : x = 5
  · subst c5
    rw [if_pos rfl, if_pos (show (4 : Int) ≤ ((5 : Int32)).toInt ∧ ((5 : Int32)).toInt ≤ 6 from by decide)]
    rw [show f_X8_rule_b24 frameMany ending isWalked st cameBy 5 = some ending from rfl]
    rcases ht with ⟨t1, t2, t3⟩ | ⟨t1, t2, k, t3, t4, t5, t6, t7, t8, t9⟩
    · rw [t1, t2, if_pos rfl, if_pos rfl]; exact ⟨_, rfl, rfl⟩
    · rw [t1, t2, if_neg (by decide), if_neg (by decide), t7]; exact ⟨_, rfl, rfl⟩
  rw [if_neg c5]
  by_cases c6 : x = 6
  · subst c6
    rw [if_pos rfl, if_pos (show (4 : Int) ≤ ((6 : Int32)).toInt ∧ ((6 : Int32)).toInt ≤ 6 from by decide)]
    rw [show f_X8_rule_b24 frameMany ending isWalked st cameBy 6 = bn1 (f_X8_guessed frameMany cameBy) (fun r => some r) from rfl]
    rcases ht with ⟨t1, t2, t3⟩ | ⟨t1, t2, k, t3, t4, t5, t6, t7, t8, t9⟩
    · rw [t1, t2, if_pos rfl, if_pos rfl]; exact ⟨_, rfl, rfl⟩
    · rw [t1, t2, if_neg (by decide), if_neg (by decide), t6, t8, show f_X8_guessed (nI k) cameBy = _ from gue_L (by omega) FUEL 0 0 (by omega) (by unfold FUEL; omega), bq1, Nat.sub_zero]; exact ⟨_, rfl, rfl⟩
  rw [if_neg c6]
  have hx : ¬ ((4 : Int) ≤ x.toInt ∧ x.toInt ≤ 6) := by
    rintro ⟨q1, q2⟩
    have n4 : ¬ x.toInt = 4 := fun z => c4 (ei.mpr z)
    have n5 : ¬ x.toInt = 5 := fun z => c5 (ei.mpr z)
    have n6 : ¬ x.toInt = 6 := fun z => c6 (ei.mpr z)
    omega
  rw [if_neg hx]
  unfold f_X8_rule_b24
  rw [if_neg c0, if_neg c1, if_neg c2, if_neg c3, if_neg c4, if_neg c5, if_neg c6]
  by_cases c7 : x = 7
  · rw [if_pos c7, if_pos c7, hn.1, show f_X6_addressesHad 3 (nI kR) fR = _ from had_L hk.1 (fun r h => ⟨(hr r h).1, (hr r h).2.1⟩) FUEL 0 0 (by omega) (by unfold FUEL; omega), bq1, show f_X8_addresses st = _ from adr_L hk.1 hs.1 FUEL 0 0 (by omega) (by unfold FUEL; omega), bq1]
    exact ⟨_, rfl, rfl⟩
  · rw [if_neg c7, if_neg c7]
    exact ⟨_, rfl, rfl⟩
/-! frame, came -/
theorem has5_e (x : Int32) {k : Nat} (hk : k < 2147483648) : f_X5_has x (nI k) = some (if 0 ≤ x.toInt ∧ x.toInt < k then 1 else 0) := has_e x hk
theorem fra_e {k : Nat} (x : Int32) (hk : 1 ≤ k) (hk2 : k < 1000) : f_X8_isFrame x (nI k) 1 = some (if 0 ≤ x.toInt ∧ x.toInt < k then 1 else 0) := by
  unfold f_X8_isFrame
  rw [if_neg (by decide), in_t, bq1, ite01, tt, tt, subI (by rw [nT (by omega)]; show _ ≤ (k : Int) - 1; omega) (by rw [nT (by omega)]; show (k : Int) - 1 < _; omega), nT (by omega)]
  by_cases h1 : 0 ≤ x.toInt ∧ x.toInt < k
  · rw [if_pos h1, if_pos (by show (0 : Int) ≤ _ ∧ _ ≤ (k : Int) - 1; omega)]
  · rw [if_neg h1, if_neg (by show ¬ ((0 : Int) ≤ _ ∧ _ ≤ (k : Int) - 1); omega)]
theorem regs_e {k i v : Nat} {f : Nat → Int32} (hi : i < k) (hk : k ≤ 20) (hv : v < 6) : f_X5_register (nI i) (nI v) (nI k) f = some (f (6 * i + v)) := by
  unfold f_X5_register
  rw [has5_e _ (by omega), bq1, ite01, if_pos (by rw [nT (by omega)]; omega), reg_e, bq1, ite01, if_pos (by rw [nT (by omega)]; omega), show ((6 : Int32)) = nI 6 from rfl, mulN, nI_add, ckI (by rw [nT (by omega)]; omega) (by rw [nT (by omega)]; omega), nC (by omega), Nat.mul_comm i 6]
theorem p_frame (ht : TrkR taken size ended guessed regs owners looked ways frameMany ending isWalked frames cameBy lookedM ownersM) (x y : Int32) : ∃ r, f_X7_frame x y size regs = some r ∧ f_X8_frame x y frameMany isWalked frames = some r := by
  unfold f_X7_frame f_X8_frame
  rcases ht with ⟨t1, t2, t3⟩ | ⟨t1, t2, k, t3, t4, t5, t6, t7, t8, t9⟩
  · rw [t3, t2, show f_X5_has x 0 = _ from has5_e (k := 0) x (by omega), bq1, ite01, if_neg (by omega)]
    unfold f_X8_isFrame
    rw [if_pos rfl, bq1, if_pos rfl]
    exact ⟨_, rfl, rfl⟩
  · rw [t5, t6, t2, has5_e x (by omega), bq1, ite01, fra_e x t3 (by omega), bq1, ite01]
    by_cases h1 : 0 ≤ x.toInt ∧ x.toInt < k
    · rw [if_pos h1, if_pos h1, reg_e, bq1, ite01, reg8_e, bq1, ite01]
      by_cases h2 : 0 ≤ y.toInt ∧ y.toInt ≤ 5
      · obtain ⟨i, hi, rfl, hiT⟩ := nOf h1.1
        obtain ⟨v, hv, rfl, hvT⟩ := nOf h2.1
        rw [if_pos h2, if_pos h2, regs_e (by omega) (by omega) (by omega), bq1, show ((6 : Int32)) = nI 6 from rfl, mulN, nI_add, ckI (by rw [nT (by omega)]; omega) (by rw [nT (by omega)]; omega), nC (by omega), (t9 i (by omega)).2.2.2 v (by omega)]
        exact ⟨_, rfl, rfl⟩
      · rw [if_neg h2, if_neg h2]
        exact ⟨_, rfl, rfl⟩
    · rw [if_neg h1, if_neg h1]
      exact ⟨_, rfl, rfl⟩
theorem p_came (ht : TrkR taken size ended guessed regs owners looked ways frameMany ending isWalked frames cameBy lookedM ownersM) (x y : Int32) : ∃ r, f_X7_came x y size owners looked ways = some r ∧ f_X8_came x y frameMany isWalked cameBy lookedM ownersM = some r := by
  unfold f_X7_came f_X8_came
  rcases ht with ⟨t1, t2, t3⟩ | ⟨t1, t2, k, t3, t4, t5, t6, t7, t8, t9⟩
  · rw [t3, t2, show f_X5_has x 0 = _ from has5_e (k := 0) x (by omega), bq1, ite01, if_neg (by omega)]
    unfold f_X8_isFrame
    rw [if_pos rfl, bq1, if_pos rfl]
    exact ⟨_, rfl, rfl⟩
  · rw [t5, t6, t2, has5_e x (by omega), bq1, ite01, fra_e x t3 (by omega), bq1, ite01]
    by_cases h1 : 0 ≤ x.toInt ∧ x.toInt < k
    · obtain ⟨i, hi, rfl, hiT⟩ := nOf h1.1
      rw [if_pos h1, if_pos h1, in_t, bq1, ite01, tt, ckI (by omega) (by omega), ckI (by omega) (by omega), ckI (by omega) (by omega), ckI (by omega) (by omega), ckI (by omega) (by omega), ckI (by omega) (by omega), nC (by omega), (t9 i (by omega)).1, (t9 i (by omega)).2.1, (t9 i (by omega)).2.2.1]
      have e0 : (0 : Int64).toInt = 0 := rfl
      have e2 : (2 : Int64).toInt = 2 := rfl
      rw [e0, e2]
      by_cases h2 : 0 ≤ y.toInt ∧ y.toInt ≤ 2
      · rw [if_pos h2]
        obtain ⟨v, hv, rfl, hvT⟩ := nOf h2.1
        match v, (show v < 3 by omega) with
        | 0, _ => exact ⟨_, rfl, rfl⟩
        | 1, _ => exact ⟨_, rfl, rfl⟩
        | 2, _ => exact ⟨_, rfl, rfl⟩
      · rw [if_neg h2]
        have ne : ∀ c : Nat, c < 3 → ¬ y = nI c := by
          intro c hc z
          rw [z, nT (by omega)] at h2
          omega
        rw [if_neg (show ¬ y = 0 from ne 0 (by omega)), if_neg (show ¬ y = 1 from ne 1 (by omega)), if_neg (show ¬ y = 2 from ne 2 (by omega))]
        exact ⟨_, rfl, rfl⟩
    · rw [if_neg h1, if_neg h1]
      exact ⟨_, rfl, rfl⟩
end WREL4
