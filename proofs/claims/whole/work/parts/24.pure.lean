theorem fb_holes : ∀ (m n : Nat) (f : Nat → Nat), (∀ i, i < n → f i < m) → (∀ i j, i < j → j < n → f i ≠ f j) → n ≤ m := by
  intro m
  induction m with
  | zero =>
    intro n f h1 _
    rcases Nat.eq_zero_or_pos n with h | h
    · omega
    · exact absurd (h1 0 h) (Nat.not_lt_zero _)
  | succ m ih =>
    intro n f h1 h2
    by_cases hx : ∃ i, i < n ∧ f i = m
    · obtain ⟨a, ha, hfa⟩ := hx
      have hg := ih (n - 1) (fun i => if i < a then f i else f (i + 1)) (by
        intro i hi
        by_cases q : i < a
        · simp only [if_pos q]
          have b1 := h1 i (by omega)
          have b2 := h2 i a q ha
          omega
        · simp only [if_neg q]
          have b1 := h1 (i + 1) (by omega)
          have b2 := h2 a (i + 1) (by omega) (by omega)
          omega) (by
        intro i j hij hj
        by_cases q : i < a
        · by_cases r : j < a
          · simp only [if_pos q, if_pos r]
            exact h2 i j hij (by omega)
          · simp only [if_pos q, if_neg r]
            exact h2 i (j + 1) (by omega) (by omega)
        · have r : ¬ j < a := by omega
          simp only [if_neg q, if_neg r]
          exact h2 (i + 1) (j + 1) (by omega) (by omega))
      omega
    · have hg := ih n f (fun i hi => by
        have b1 := h1 i hi
        have b2 : f i ≠ m := fun e => hx ⟨i, hi, e⟩
        omega) h2
      omega
/-- as many as places, none twice: each place is taken -/
theorem fb_onto {n : Nat} {f : Nat → Nat} (h : ∀ i, i < n → f i < n) (h2 : ∀ i j, i < j → j < n → f i ≠ f j) {y : Nat} (hy : y < n) : ∃ i, i < n ∧ f i = y := by
  refine Classical.byContradiction fun hx => ?_
  have hne : ∀ i, i < n → f i ≠ y := fun i hi e => hx ⟨i, hi, e⟩
  have := fb_holes (n - 1) n (fun i => if f i < y then f i else f i - 1) (by
    intro i hi
    have b1 := h i hi
    have b2 := hne i hi
    by_cases q : f i < y
    · simp only [if_pos q]; omega
    · simp only [if_neg q]; omega) (by
    intro i j hij hj
    have b1 := hne i (by omega)
    have b2 := hne j hj
    have b3 := h2 i j hij hj
    by_cases q : f i < y
    · by_cases r : f j < y
      · simp only [if_pos q, if_pos r]; exact b3
      · simp only [if_pos q, if_neg r]; omega
    · by_cases r : f j < y
      · simp only [if_neg q, if_pos r]; omega
      · simp only [if_neg q, if_neg r]; omega)
  omega

/-! call -/
theorem ckN {α : Type} {n N : Nat} {k : Option α} (h : n < N) (hB : N < 2147483648) : cki (nI n) N k = k := ckI (by rw [nT (by omega)]; omega) (by rw [nT (by omega)]; omega)
def cN (P : Nat → Bool) : Nat → Nat → Nat
  | 0, _ => 0
  | n + 1, i => (if P i = true then 1 else 0) + cN P n (i + 1)
theorem cnt_N (P : Nat → Bool) : ∀ (n i a : Nat), cnt P n i (nI a) = nI (a + cN P n i)
  | 0, _, _ => rfl
  | n + 1, i, a => by
    rw [cnt, cN]
    by_cases h : P i = true
    · rw [if_pos h, if_pos h, nI_1, cnt_N P n (i + 1) (a + 1), Nat.add_assoc]
    · rw [if_neg h, if_neg h, cnt_N P n (i + 1) a, Nat.zero_add]
theorem cN_le (P : Nat → Bool) : ∀ (n i : Nat), cN P n i ≤ n
  | 0, _ => Nat.le_refl _
  | n + 1, i => by
    have := cN_le P n (i + 1)
    rw [cN]
    by_cases h : P i = true
    · rw [if_pos h]; omega
    · rw [if_neg h]; omega
theorem cN_mono {P Q : Nat → Bool} : ∀ (n i : Nat), (∀ j, i ≤ j → j < i + n → P j = true → Q j = true) → cN P n i ≤ cN Q n i
  | 0, _, _ => Nat.le_refl _
  | n + 1, i, h => by
    have r := cN_mono n (i + 1) (fun j h1 h2 => h j (by omega) (by omega))
    rw [cN, cN]
    by_cases h1 : P i = true
    · rw [if_pos h1, if_pos (h i (by omega) (by omega) h1)]; omega
    · rw [if_neg h1]
      by_cases h2 : Q i = true
      · rw [if_pos h2]; omega
      · rw [if_neg h2]; omega
theorem cN_lt {P Q : Nat → Bool} {w : Nat} (hw1 : ¬ P w = true) (hw2 : Q w = true) : ∀ (n i : Nat), i ≤ w → w < i + n → (∀ j, i ≤ j → j < i + n → P j = true → Q j = true) → cN P n i < cN Q n i
  | 0, i, h1, h2, _ => by omega
  | n + 1, i, h1, h2, h => by
    rw [cN, cN]
    by_cases e : i = w
    · subst e
      have r := cN_mono (P := P) (Q := Q) n (i + 1) (fun j h1 h2 => h j (by omega) (by omega))
      rw [if_neg hw1, if_pos hw2]; omega
    · have r := cN_lt hw1 hw2 n (i + 1) (by omega) (by omega) (fun j h1 h2 => h j (by omega) (by omega))
      by_cases h3 : P i = true
      · rw [if_pos h3, if_pos (h i (by omega) (by omega) h3)]; omega
      · rw [if_neg h3]
        by_cases h4 : Q i = true
        · rw [if_pos h4]; omega
        · rw [if_neg h4]; omega
theorem ahd_t (g : Nat → Int32) (i j : Nat) : ahd g i j = true ↔ ((g j).toInt < (g i).toInt ∨ ((g j).toInt = (g i).toInt ∧ j < i)) := ahd_iff rfl rfl
def rk (g : Nat → Int32) (k i : Nat) : Nat := cN (ahd g i) k 0
theorem rk_lt (g : Nat → Int32) {k i : Nat} (hi : i < k) : rk g k i < k := by
  have := cN_lt (P := ahd g i) (Q := fun _ => true) (w := i) (by rw [ahd_t]; omega) rfl k 0 (by omega) (by omega) (fun _ _ _ _ => rfl)
  have h2 := cN_le (fun _ => true) k 0
  unfold rk; omega
theorem rk_ne1 (g : Nat → Int32) {k i j : Nat} (hj : j < k) (h : ahd g i j = true) : rk g k j < rk g k i := by
  refine cN_lt (w := j) (by rw [ahd_t]; omega) h k 0 (by omega) (by omega) (fun l _ _ h1 => ?_)
  rw [ahd_t] at h h1 ⊢
  omega
theorem rk_ne (g : Nat → Int32) {k i j : Nat} (hi : i < k) (hj : j < k) (hne : i ≠ j) : rk g k i ≠ rk g k j := by
  by_cases h : ahd g i j = true
  · have := rk_ne1 g hj h; omega
  · have h2 : ahd g j i = true := by
      rw [ahd_t] at h ⊢; omega
    have := rk_ne1 g hi h2; omega
theorem rk_onto (g : Nat → Int32) {k x : Nat} (hx : x < k) : ∃ w, w < k ∧ rk g k w = x ∧ ∀ i, i < k → i ≠ w → rk g k i ≠ x := by
  obtain ⟨w, hw, e⟩ := fb_onto (n := k) (f := rk g k) (fun i hi => rk_lt g hi) (fun i j hij hj => rk_ne g (by omega) hj (by omega)) hx
  exact ⟨w, hw, e, fun i hi hne z => rk_ne g hi hw hne (z.trans e.symm)⟩
theorem rk_cong {g g' : Nat → Int32} {k i : Nat} (hi : i < k) (h : ∀ j, j < k → g j = g' j) : rk g k i = rk g' k i := by
  have aux : ∀ (P Q : Nat → Bool), (∀ j, j < k → P j = Q j) → cN P k 0 = cN Q k 0 := fun P Q hpq => Nat.le_antisymm (cN_mono k 0 (fun j _ hj e => by rw [← hpq j (by omega)]; exact e)) (cN_mono k 0 (fun j _ hj e => by rw [hpq j (by omega)]; exact e))
  refine aux _ _ (fun j hj => ?_)
  unfold ahd
  rw [h j hj, h i hi]
theorem ranked_L {wd k c N w x : Nat} {f : Nat → Int32} (hc : c < wd) (hN : k * wd ≤ N) (hB : N < 4000) (hw : w < k) (e : rk (fun j => f (j * wd + c)) k w = x) (u : ∀ i, i < k → i ≠ w → rk (fun j => f (j * wd + c)) k i ≠ x) : ∀ (n i : Nat), i ≤ w → w - i < n → f_X3_ranked_L2 (nI wd) (nI k) N f n (nI x) (nI c) (nI i) = some (nI w)
  | 0, i, _, h2 => by omega
  | n + 1, i, h1, h2 => by
    have hkw : k ≤ k * wd := Nat.le_mul_of_pos_right k (by omega)
    have hx : x < k := by rw [← e]; exact rk_lt _ hw
    have hi : i < k := by omega
    have er : f_X3_rankOf (nI i) (nI c) (nI wd) (nI k) N f = some (nI (rk (fun j => f (j * wd + c)) k i)) := by
      rw [rankOf_e hc hN hB hi, show ((0 : Int32)) = nI 0 from rfl, cnt_N, Nat.zero_add]; rfl
    rw [f_X3_ranked_L2, if_neg (by rw [le, nT (by omega), nT (by omega)]; omega), er, bq1]
    have hl := rk_lt (fun j => f (j * wd + c)) hi
    by_cases q : i = w
    · subst q
      rw [if_pos (by rw [e])]
    · have := u i hi q
      rw [if_neg (by rw [ei, nT (by omega), nT (by omega)]; omega), nI_1, ranked_L hc hN hB hw e u n (i + 1) (by omega) (by omega)]
theorem ahead_L {st : Nat → Int32} {k i : Nat} (hk : k ≤ 16) (hs : st 299 = nI k) (hi : i < k) : ∀ (n j : Nat) (a : Int32), j ≤ k → k - j < n → f_X8_aheadOf_L4 st n (nI i) a (nI j) = some (cnt (ahd (fun j => st (264 + 2 * j)) i) (k - j) j a)
  | 0, j, _, _, h2 => by omega
  | n + 1, j, a, h1, h2 => by
    rw [f_X8_aheadOf_L4, ckI (by decide) (by decide), show st ((299 : Int32)).toNatClampNeg = nI k from hs]
    by_cases hj : j = k
    · subst hj
      rw [if_pos (Int32.le_refl _), Nat.sub_self]; rfl
    · rw [if_neg (by rw [le, nT (by omega), nT (by omega)]; omega), show ((264 : Int32)) = nI 264 from rfl, show ((2 : Int32)) = nI 2 from rfl, mulN, mulN, nI_add, nI_add, ckN (by omega) (by omega), ckN (by omega) (by omega), nC (by omega), nC (by omega), nI_1, add0]
      obtain ⟨m, hm⟩ : ∃ m, k - j = m + 1 := ⟨k - j - 1, by omega⟩
      have r1 := ahead_L hk hs hi n (j + 1) (a + 1) (by omega) (by omega)
      have r0 := ahead_L hk hs hi n (j + 1) a (by omega) (by omega)
      rw [show k - (j + 1) = m by omega] at r1 r0
      rw [hm, cnt]
      have hd := ahd_t (fun j => st (264 + 2 * j)) i j
      by_cases x1 : (st (264 + 2 * j)).toInt < (st (264 + 2 * i)).toInt
      · rw [if_pos (show st (264 + 2 * j) < st (264 + 2 * i) from li.mpr x1), if_pos (hd.mpr (Or.inl x1))]; exact r1
      · rw [if_neg (show ¬ st (264 + 2 * j) < st (264 + 2 * i) from fun z => x1 (li.mp z))]
        by_cases x2 : (st (264 + 2 * j)).toInt = (st (264 + 2 * i)).toInt
        · rw [if_pos (show st (264 + 2 * j) = st (264 + 2 * i) from ei.mpr x2)]
          by_cases x3 : i ≤ j
          · rw [if_pos (by rw [le, nT (by omega), nT (by omega)]; omega), if_neg (fun z => by have z := hd.mp z; omega)]; exact r0
          · rw [if_neg (by rw [le, nT (by omega), nT (by omega)]; omega), if_pos (hd.mpr (Or.inr ⟨x2, by omega⟩))]; exact r1
        · rw [if_neg (show ¬ st (264 + 2 * j) = st (264 + 2 * i) from fun z => x2 (ei.mp z)), if_neg (fun z => by have z := hd.mp z; omega)]; exact r0
theorem call8_L {st : Nat → Int32} {k w x : Nat} (y : Int32) (hk : k ≤ 16) (hs : st 299 = nI k) (hw : w < k) (e : rk (fun j => st (264 + 2 * j)) k w = x) (u : ∀ i, i < k → i ≠ w → rk (fun j => st (264 + 2 * j)) k i ≠ x) : ∀ (n i : Nat), i ≤ w → w - i < n → f_X8_call_L36 st n (nI x) y (nI i) = (if y = (2 : Int32) then (some (nI w)) else (cki ((nI (264 + 2 * w)) + y) 1416 (some (st ((nI (264 + 2 * w)) + y).toNatClampNeg))))
  | 0, i, _, h2 => by omega
  | n + 1, i, h1, h2 => by
    have hx : x < k := by rw [← e]; exact rk_lt _ hw
    have hi : i < k := by omega
    have hl := rk_lt (fun j => st (264 + 2 * j)) hi
    have er : f_X8_aheadOf (nI i) st = some (nI (rk (fun j => st (264 + 2 * j)) k i)) := by
      unfold f_X8_aheadOf
      have := ahead_L hk hs hi FUEL 0 0 (by omega) (by unfold FUEL; omega)
      rw [show ((0 : Int32)) = nI 0 from rfl] at this ⊢
      rw [this, cnt_N, Nat.zero_add, Nat.sub_zero]; rfl
    rw [f_X8_call_L36, er, bq1]
    by_cases q : i = w
    · subst q
      rw [if_pos (by rw [e]), show ((264 : Int32)) = nI 264 from rfl, show ((2 : Int32)) = nI 2 from rfl, mulN, nI_add]
    · have := u i hi q
      rw [if_neg (by rw [ei, nT (by omega), nT (by omega)]; omega), nI_1, call8_L y hk hs hw e u n (i + 1) (by omega) (by omega)]
section WREL8
variable {nR : Int32} {fR : Nat → Int32} {nO : Int32} {fO : Nat → Int32} {nL : Int32} {fL : Nat → Int32} {nC' : Int32} {fC rg wd st : Nat → Int32} {kR kO kL kC : Nat}
theorem p_call (h : WR nR fR nO fO nL fL nC' fC rg wd st kR kO kL kC) (x y : Int32) : ∃ r, f_X7_call x y 2 nC' fC = some r ∧ f_X8_call x y st = some r := by
  obtain ⟨hk, hn, hs, hr, ho, hl, hc, -⟩ := h
  unfold f_X7_call f_X8_call
  rw [hn.2.2.2, has_e x (by omega), bq1, ite01, has8_e x 299 (by omega) (vin (by decide) (by decide)) hs.2.2.2]
  by_cases h1 : 0 ≤ x.toInt ∧ x.toInt < kC
  · rw [if_pos h1, if_pos h1, in_t, bq1, ite01, tt]
    have e0 : (0 : Int64).toInt = 0 := rfl
    have e2 : (2 : Int64).toInt = 2 := rfl
    rw [e0, e2]
    obtain ⟨j, hj, rfl, hjT⟩ := nOf h1.1
    by_cases h2 : 0 ≤ y.toInt ∧ y.toInt ≤ 2
    · obtain ⟨c, hc', rfl, hcT⟩ := nOf h2.1
      obtain ⟨w, hw, we, wu⟩ := rk_onto (fun j => st (264 + 2 * j)) (k := kC) (x := j) (by omega)
      have hg : ∀ i, i < kC → (fun j => fC (j * 2 + 0)) i = (fun j => st (264 + 2 * j)) i := fun i hi => by
        show fC (i * 2 + 0) = st (264 + 2 * i)
        rw [Nat.mul_comm i 2, hc i hi 0 (by omega), Nat.add_zero]
      have r7 : f_X3_ranked (nI j) 0 2 (nI kC) 32 fC = some (nI w) := by
        have := ranked_L (wd := 2) (c := 0) (N := 32) (f := fC) (k := kC) (by omega) (by omega) (by omega) hw ((rk_cong hw hg).trans we) (fun i hi hne => by rw [rk_cong hi hg]; exact wu i hi hne) FUEL 0 (by omega) (by unfold FUEL; omega)
        exact this
      rw [if_neg (show ¬ nI c < 0 from fun z => by rw [li, l0] at z; omega), if_pos (show nI c ≤ 2 by rw [le]; exact h2.2), r7, bq1, if_pos h2]
      have r8 := call8_L (nI c) hk.2.2.2 hs.2.2.2 hw we wu FUEL 0 (by omega) (by unfold FUEL; omega)
      rw [show f_X8_call_L36 st FUEL (nI j) (nI c) 0 = _ from r8]
      by_cases h3 : c = 2
      · subst h3
        rw [if_pos (show nI 2 = 2 from rfl), if_pos (show nI 2 = 2 from rfl)]
        exact ⟨_, rfl, rfl⟩
      · have ne : ¬ nI c = (2 : Int32) := fun z => by rw [ei, hcT] at z; exact h3 (by have : (c : Int) = 2 := z; omega)
        rw [if_neg ne, if_neg ne, nI_add, ckN (by omega) (by omega), nC (by omega), show f_X3_at (nI w) (nI c) (2 : Int32) (nI kC) 32 fC = some (fC (w * 2 + c)) from at_in (w := 2) hw (by omega) (by omega) (by omega), bq1, Nat.mul_comm w 2, hc w hw c (by omega)]
        exact ⟨_, rfl, rfl⟩
    · rw [if_neg h2]
      refine ⟨-1, ?_, rfl⟩
      by_cases h3 : y.toInt < 0
      · rw [if_pos (show y < 0 by rw [li, l0]; exact h3)]
      · rw [if_neg (show ¬ y < 0 from fun z => h3 (by rw [li, l0] at z; exact z)), if_neg (show ¬ y ≤ 2 from fun z => by rw [le] at z; have : y.toInt ≤ 2 := z; omega)]
  · rw [if_neg h1, if_neg h1]
    exact ⟨_, rfl, rfl⟩
end WREL8
/-! count -/
def smI (f : Nat → Int32) : Nat → Nat → Int32 → Int32
  | 0, _, a => a
  | n + 1, i, a => smI f n (i + 1) (a + f i)
theorem smI_cong {f g : Nat → Int32} : ∀ (n i : Nat) (a : Int32), (∀ j, i ≤ j → j < i + n → f j = g j) → smI f n i a = smI g n i a
  | 0, _, _, _ => rfl
  | n + 1, i, a, h => by
    rw [smI, smI, h i (by omega) (by omega), smI_cong n (i + 1) _ (fun j h1 h2 => h j (by omega) (by omega))]
theorem sum_L {N : Nat} {f : Nat → Int32} (hN : N < 4000) : ∀ (n i : Nat) (a : Int32), i ≤ N → N - i < n → f_X7_sumOf_L10 N f n a (nI N) (nI i) = some (smI f (N - i) i a)
  | 0, i, _, _, h2 => by omega
  | n + 1, i, a, h1, h2 => by
    rw [f_X7_sumOf_L10]
    by_cases hi : i = N
    · subst hi
      rw [if_pos (Int32.le_refl _), Nat.sub_self]; rfl
    · rw [if_neg (by rw [le, nT (by omega), nT (by omega)]; omega), ckN (by omega) (by omega), nC (by omega), nI_1]
      obtain ⟨m, hm⟩ : ∃ m, N - i = m + 1 := ⟨N - i - 1, by omega⟩
      rw [hm, smI, sum_L hN n (i + 1) _ (by omega) (by omega), show N - (i + 1) = m by omega]
theorem cou2_L {tp : Int32} {st kM lanes lengths : Nat → Int32} (x y : Int32) : ∀ (n i : Nat) (a : Int32), i ≤ 48 → 48 - i < n → f_X8_count_L37 tp st kM lanes lengths n x y a (nI i) = f_X8_count_L37 tp st kM lanes lengths 1 x y (smI (fun i => st (306 + i)) (48 - i) i a) 48
  | 0, i, _, _, h2 => by omega
  | n + 1, i, a, h1, h2 => by
    by_cases hi : i = 48
    · subst hi
      rw [Nat.sub_self, smI, f_X8_count_L37, f_X8_count_L37, if_pos (show (48 : Int32) ≤ nI 48 by decide), if_pos (show (48 : Int32) ≤ 48 by decide)]
    · rw [f_X8_count_L37, if_neg (by rw [le, nT (by omega)]; show ¬ (48 : Int) ≤ i; omega), show ((306 : Int32)) = nI 306 from rfl, nI_add, ckN (by omega) (by omega), nC (by omega), nI_1]
      obtain ⟨m, hm⟩ : ∃ m, 48 - i = m + 1 := ⟨48 - i - 1, by omega⟩
      rw [hm, smI, cou2_L x y n (i + 1) _ (by omega) (by omega), show 48 - (i + 1) = m by omega]
theorem cou1_L {tp : Int32} {st kM lanes lengths : Nat → Int32} (x b : Int32) : ∀ (n i : Nat) (a : Int32), i ≤ 6 → 6 - i < n → f_X8_count_L7 tp st kM lanes lengths n x a b (nI i) = f_X8_count_L37 tp st kM lanes lengths FUEL x (smI (fun i => st (300 + i)) (6 - i) i a) b 0
  | 0, i, _, _, h2 => by omega
  | n + 1, i, a, h1, h2 => by
    rw [f_X8_count_L7]
    by_cases hi : i = 6
    · subst hi
      rw [Nat.sub_self, smI, if_pos (show (6 : Int32) ≤ nI 6 by decide)]
    · rw [if_neg (by rw [le, nT (by omega)]; show ¬ (6 : Int) ≤ i; omega), show ((300 : Int32)) = nI 300 from rfl, nI_add, ckN (by omega) (by omega), nC (by omega), nI_1]
      obtain ⟨m, hm⟩ : ∃ m, 6 - i = m + 1 := ⟨6 - i - 1, by omega⟩
      rw [hm, smI, cou1_L x b n (i + 1) _ (by omega) (by omega), show 6 - (i + 1) = m by omega]
/-- a sheet of the class and sheet k of the reference -/
def ShR (k : Nat) (there lane size : Int32) (cells lanes lengths cM : Nat → Int32) : Prop :=
  (there = 0 ∧ lanes k = -4) ∨ (there = 1 ∧ lane = lanes k ∧ size = lengths k ∧ 0 ≤ (lanes k).toInt ∧ (lanes k).toInt ≤ 2 ∧ 0 ≤ (lengths k).toInt ∧ (lengths k).toInt ≤ 40 ∧ ∀ i, i < 40 → cells i = cM (40 * k + i))
theorem p_count {nR : Int32} {fR : Nat → Int32} {nO : Int32} {fO : Nat → Int32} {nL : Int32} {fL : Nat → Int32} {nC' : Int32} {fC rg wd st : Nat → Int32} {kR kO kL kC : Nat} {len taped : Int32} {bytes tape kp kM : Nat → Int32} {th la sz : Int32} {ce lanes lengths cM : Nat → Int32} (h : WR nR fR nO fO nL fL nC' fC rg wd st kR kO kL kC) (ht : TapeR len bytes taped tape) (hkp : ∀ j, j < 2 → kp j = kM j) (hsh : ShR 0 th la sz ce lanes lengths cM) (x : Int32) : ∃ r, f_X7_count x rg wd kp len th sz = some r ∧ f_X8_count x taped st kM lanes lengths = some r := by
  obtain ⟨hk, hn, hs, hr, ho, hl, hc, hg, hw, -⟩ := h
  obtain ⟨k, hk1, hlen, htp, -⟩ := ht
  have e8 : f_X8_count x taped st kM lanes lengths = f_X8_count_L37 taped st kM lanes lengths 1 x (smI (fun i => st (300 + i)) 6 0 0) (smI (fun i => st (306 + i)) 48 0 0) 48 := by
    unfold f_X8_count
    rw [show f_X8_count_L7 taped st kM lanes lengths FUEL x 0 0 0 = _ from cou1_L x 0 FUEL 0 0 (by omega) (by unfold FUEL; omega)]
    exact cou2_L x _ FUEL 0 0 (by omega) (by unfold FUEL; omega)
  rw [e8, f_X8_count_L37, if_pos (show (48 : Int32) ≤ 48 by decide)]
  unfold f_X7_count
  have s6 : f_X7_sumOf 6 rg = some (smI (fun i => st (300 + i)) 6 0 0) := by
    have := sum_L (N := 6) (f := rg) (by omega) FUEL 0 0 (by omega) (by unfold FUEL; omega)
    rw [smI_cong (g := fun i => st (300 + i)) _ _ _ (fun j _ hj => hg j (by omega))] at this
    exact this
  have s48 : f_X7_sumOf 48 wd = some (smI (fun i => st (306 + i)) 48 0 0) := by
    have := sum_L (N := 48) (f := wd) (by omega) FUEL 0 0 (by omega) (by unfold FUEL; omega)
    rw [smI_cong (g := fun i => st (306 + i)) _ _ _ (fun j _ hj => hw j (by omega))] at this
    exact this
  rw [s6, s48, bq1, bq1]
  by_cases c0 : x = 0
  · rw [if_pos c0, if_pos c0, ckI (by decide) (by decide), ckI (by decide) (by decide)]
    unfold f_X7_count_b50 f_X8_count_b114
    rw [ckI (by decide) (by decide), ckI (by decide) (by decide), ckI (by decide) (by decide), ckI (by decide) (by decide)]
    have a0 : kp ((0 : Int32)).toNatClampNeg = kM ((0 : Int32)).toNatClampNeg := hkp 0 (by omega)
    have a1 : kp ((1 : Int32)).toNatClampNeg = kM ((1 : Int32)).toNatClampNeg := hkp 1 (by omega)
    rw [a0, a1]
    by_cases z0 : kM ((0 : Int32)).toNatClampNeg = 0
    · by_cases z1 : kM ((1 : Int32)).toNatClampNeg = 0
      · rw [if_pos z0, if_pos z1]; exact ⟨_, rfl, rfl⟩
      · rw [if_pos z0, if_neg z1]; exact ⟨_, rfl, rfl⟩
    · by_cases z1 : kM ((1 : Int32)).toNatClampNeg = 0
      · rw [if_neg z0, if_pos z1]; exact ⟨_, rfl, rfl⟩
      · rw [if_neg z0, if_neg z1]; exact ⟨_, rfl, rfl⟩
  rw [if_neg c0, if_neg c0]
  by_cases c1 : x = 1
  · rw [if_pos c1, if_pos c1, hlen, htp]; exact ⟨_, rfl, rfl⟩
  rw [if_neg c1, if_neg c1]
  by_cases c2 : x = 2
  · rw [if_pos c2, if_pos c2, ckI (by decide) (by decide), ckI (by decide) (by decide), show lanes ((0 : Int32)).toNatClampNeg = lanes 0 from rfl, show lengths ((0 : Int32)).toNatClampNeg = lengths 0 from rfl]
    rcases hsh with ⟨z1, z2⟩ | ⟨z1, z2, z3, z4, z5, -⟩
    · rw [z1, z2, if_pos rfl, if_pos rfl]; exact ⟨_, rfl, rfl⟩
    · rw [z1, z3, if_neg (by decide), if_neg (show ¬ lanes 0 = -4 from fun z => by rw [z] at z4; exact absurd z4 (by decide))]; exact ⟨_, rfl, rfl⟩
  rw [if_neg c2, if_neg c2]
  by_cases c3 : x = 3
  · rw [if_pos c3]; exact ⟨_, rfl, rfl⟩
  rw [if_neg c3]
  by_cases c4 : x = 4
  · rw [if_pos c4]; exact ⟨_, rfl, rfl⟩
  rw [if_neg c4]; exact ⟨_, rfl, rfl⟩

/-! sheets -/
def bt (x : Int32) (i : Nat) : Bool := x.toBitVec.getLsbD i
theorem b_ext {x y : Int32} (h : ∀ i, i < 32 → bt x i = bt y i) : x = y := Int32.toBitVec_inj.mp (BitVec.eq_of_getLsbD_eq (fun i hi => h i hi))
theorem s_l : ∀ n, n < 32 → ((nI n &&& 31).toBitVec.smod 32).toNat = n := by decide +kernel
theorem b_shl (n : Nat) (hn : n < 32) (x : Int32) {i : Nat} (hi : i < 32) : bt (x <<< (nI n &&& 31)) i = (decide (n ≤ i) && bt x (i - n)) := by
  unfold bt
  rw [Int32.toBitVec_shiftLeft]
  show (x.toBitVec <<< ((nI n &&& 31).toBitVec.smod 32).toNat).getLsbD i = _
  rw [s_l n hn, BitVec.getLsbD_shiftLeft]
  rcases Nat.lt_or_ge i n with h | h
  · simp [h, Nat.not_le.mpr h]
  · simp [hi, h, Nat.not_lt.mpr h]
theorem b_sshr (n : Nat) (hn : n < 32) (x : Int32) {i : Nat} (hi : i < 32) : bt (x >>> (nI n &&& 31)) i = if n + i < 32 then bt x (n + i) else bt x 31 := by
  unfold bt
  rw [Int32.toBitVec_shiftRight]
  show (x.toBitVec.sshiftRight ((nI n &&& 31).toBitVec.smod 32).toNat).getLsbD i = _
  rw [s_l n hn, BitVec.getLsbD_sshiftRight, BitVec.msb_eq_getLsbD_last]
  simp [hi]

theorem byte_e (x : Int32) : (x <<< ((24 : Int32) &&& 31)) >>> ((24 : Int32) &&& 31) = x.toInt8.toInt32 := by
  refine b_ext (fun i hi => ?_)
  rw [show ((24 : Int32)) = nI 24 from rfl, b_sshr 24 (by omega) _ hi]
  show _ = (x.toInt8.toInt32).toBitVec.getLsbD i
  have e : (x.toInt8.toInt32).toBitVec = (x.toBitVec.signExtend 8).signExtend 32 := rfl
  rw [e, BitVec.getLsbD_signExtend, BitVec.msb_signExtend, BitVec.getLsbD_signExtend]
  by_cases h : i < 8
  · rw [if_pos (by omega), b_shl 24 (by omega) x (by omega), if_pos h, if_pos (by omega), show 24 + i - 24 = i by omega]
    unfold bt
    simp [hi, h]
  · rw [if_neg (by omega), b_shl 24 (by omega) x (by omega), if_neg h]
    unfold bt
    simp [hi, BitVec.getMsbD_eq_getLsbD]
theorem short_e (x : Int32) : (x <<< ((16 : Int32) &&& 31)) >>> ((16 : Int32) &&& 31) = x.toInt16.toInt32 := by
  refine b_ext (fun i hi => ?_)
  rw [show ((16 : Int32)) = nI 16 from rfl, b_sshr 16 (by omega) _ hi]
  show _ = (x.toInt16.toInt32).toBitVec.getLsbD i
  have e : (x.toInt16.toInt32).toBitVec = (x.toBitVec.signExtend 16).signExtend 32 := rfl
  rw [e, BitVec.getLsbD_signExtend, BitVec.msb_signExtend, BitVec.getLsbD_signExtend]
  by_cases h : i < 16
  · rw [if_pos (by omega), b_shl 16 (by omega) x (by omega), if_pos h, if_pos (by omega), show 16 + i - 16 = i by omega]
    unfold bt
    simp [hi, h]
  · rw [if_neg (by omega), b_shl 16 (by omega) x (by omega), if_neg h]
    unfold bt
    simp [hi, BitVec.getMsbD_eq_getLsbD]
theorem fill_L {N : Nat} (x : Int32) (hN : N < 4000) : ∀ (n i : Nat) (f : Nat → Int32), i ≤ N → N - i < n → ∃ g, f_J7_fill_53178_L5 N n x (nI i) (nI N) f = some g ∧ (∀ j, i ≤ j → j < N → g j = x) ∧ ∀ j, j < i ∨ N ≤ j → g j = f j
  | 0, i, f, _, h2 => by omega
  | n + 1, i, f, h1, h2 => by
    rw [f_J7_fill_53178_L5]
    by_cases hi : i = N
    · subst hi
      rw [if_pos (Int32.le_refl _)]
      exact ⟨_, rfl, fun j h3 h4 => by omega, fun _ _ => rfl⟩
    · rw [if_neg (by rw [le, nT (by omega), nT (by omega)]; omega), ckN (by omega) (by omega), nC (by omega), nI_1]
      obtain ⟨g, e, g1, g2⟩ := fill_L x hN n (i + 1) (upd f i x) (by omega) (by omega)
      refine ⟨g, e, fun j h3 h4 => ?_, fun j hj => ?_⟩
      · by_cases q : j = i
        · subst q; rw [g2 j (by omega), pk_us]
        · exact g1 j (by omega) h4
      · rw [g2 j (by omega), pk_un (by omega)]
theorem fill_e {N : Nat} (x : Int32) (hN : N < 4000) (f : Nat → Int32) : ∃ g, f_J7_fill_53178 x N f = some g ∧ (∀ j, j < N → g j = x) ∧ ∀ j, N ≤ j → g j = f j := by
  obtain ⟨g, e, g1, g2⟩ := fill_L x hN FUEL 0 f (by omega) (by unfold FUEL; omega)
  exact ⟨g, e, fun j hj => g1 j (by omega) hj, fun j hj => g2 j (Or.inr hj)⟩
theorem new_e (x y a b c : Int32) (f : Nat → Int32) : ∃ g, f_X2_becomeNew x y a b c f = some (1, x, y, g) ∧ ∀ j, j < 40 → g j = 0 := by
  obtain ⟨g, e, g1, -⟩ := fill_e (N := 40) 0 (by omega) f
  refine ⟨g, ?_, g1⟩
  unfold f_X2_becomeNew
  rw [e]; rfl
theorem she8_L {k : Nat} (hk : k < 4) {lanes lengths : Nat → Int32} : ∀ (n i : Nat) (f : Nat → Int32), i ≤ 40 → 40 - i < n → ∃ g, f_X8_sheet_L56 n (nI k) (nI i) lanes lengths f = some (1, lanes, lengths, g) ∧ (∀ j, i ≤ j → j < 40 → g (40 * k + j) = 0) ∧ ∀ j, j < 40 * k + i ∨ 40 * k + 40 ≤ j → g j = f j
  | 0, i, f, _, h2 => by omega
  | n + 1, i, f, h1, h2 => by
    rw [f_X8_sheet_L56]
    by_cases hi : i = 40
    · subst hi
      rw [if_pos (show (40 : Int32) ≤ nI 40 by decide)]
      exact ⟨_, rfl, fun j h3 h4 => by omega, fun _ _ => rfl⟩
    · rw [if_neg (by rw [le, nT (by omega)]; show ¬ (40 : Int) ≤ i; omega), show ((40 : Int32)) = nI 40 from rfl, mulN, nI_add, ckN (by omega) (by omega), nC (by omega), nI_1]
      obtain ⟨g, e, g1, g2⟩ := she8_L hk n (i + 1) (upd f (40 * k + i) 0) (by omega) (by omega)
      refine ⟨g, e, fun j h3 h4 => ?_, fun j hj => ?_⟩
      · by_cases q : j = i
        · subst q; rw [g2 _ (by omega), pk_us]
        · exact g1 j (by omega) h4
      · rw [g2 j (by omega), pk_un (by omega)]
theorem she8_e {k : Nat} (hk : k < 4) (x y : Int32) (hx : 0 ≤ x.toInt ∧ x.toInt ≤ 2) (hy : 0 ≤ y.toInt ∧ y.toInt ≤ 40) (lanes lengths f : Nat → Int32) : ∃ g, f_X8_sheet (nI k) x y lanes lengths f = some (1, upd lanes k x, upd lengths k y, g) ∧ (∀ j, j < 40 → g (40 * k + j) = 0) ∧ ∀ j, j < 40 * k ∨ 40 * k + 40 ≤ j → g j = f j := by
  obtain ⟨g, e, g1, g2⟩ := she8_L hk (lanes := upd lanes k x) (lengths := upd lengths k y) FUEL 0 f (by omega) (by unfold FUEL; omega)
  refine ⟨g, ?_, fun j hj => g1 j (by omega) hj, fun j hj => g2 j (by omega)⟩
  unfold f_X8_sheet
  rw [in_t, bq1, ite01, tt, if_pos (show (0 : Int64).toInt ≤ (nI k).toInt ∧ (nI k).toInt ≤ (3 : Int64).toInt by rw [nT (by omega)]; exact ⟨by show (0 : Int) ≤ k; omega, by show (k : Int) ≤ 3; omega⟩), in_t, bq1, ite01, tt, if_pos (show (0 : Int64).toInt ≤ x.toInt ∧ x.toInt ≤ (2 : Int64).toInt from hx), if_pos (show y ≤ 40 by rw [le]; exact hy.2), if_pos (show 0 ≤ y by rw [le]; exact hy.1), ckN (by omega) (by omega), ckN (by omega) (by omega), nC (by omega)]
  exact e
theorem ShR.new {k : Nat} (hk : k < 4) {x y : Int32} (hx : 0 ≤ x.toInt ∧ x.toInt ≤ 2) (hy : 0 ≤ y.toInt ∧ y.toInt ≤ 40) {c lanes lengths g : Nat → Int32} (h1 : ∀ j, j < 40 → c j = 0) (h2 : ∀ j, j < 40 → g (40 * k + j) = 0) : ShR k 1 x y c (upd lanes k x) (upd lengths k y) g := by
  refine Or.inr ⟨rfl, by rw [pk_us], by rw [pk_us], by rw [pk_us]; exact hx.1, by rw [pk_us]; exact hx.2, by rw [pk_us]; exact hy.1, by rw [pk_us]; exact hy.2, fun i hi => by rw [h1 i hi, h2 i hi]⟩
theorem ShR.frm {k q : Nat} {th la sz : Int32} {c lanes lengths f : Nat → Int32} (h : ShR q th la sz c lanes lengths f) (hq : q ≠ k) {x y : Int32} {g : Nat → Int32} (hg : ∀ j, j < 40 * k ∨ 40 * k + 40 ≤ j → g j = f j) : ShR q th la sz c (upd lanes k x) (upd lengths k y) g := by
  have e1 : upd lanes k x q = lanes q := pk_un hq
  have e2 : upd lengths k y q = lengths q := pk_un hq
  unfold ShR at h ⊢
  rw [e1, e2]
  rcases h with h | ⟨a, b, c', d, e, f', g', i'⟩
  · exact Or.inl h
  · exact Or.inr ⟨a, b, c', d, e, f', g', fun i hi => by rw [i' i hi, hg _ (by omega)]⟩
section SHEETS
variable {th0 la0 sz0 th1 la1 sz1 th2 la2 sz2 th3 la3 sz3 : Int32} {ce0 ce1 ce2 ce3 lanes lengths cM : Nat → Int32}
theorem sh4 {x : Int32} (h : 0 ≤ x.toInt ∧ x.toInt ≤ 3) : x = 0 ∨ x = 1 ∨ x = 2 ∨ x = 3 := by
  simp only [ei]
  have a0 : ((0 : Int32)).toInt = 0 := rfl
  have a1 : ((1 : Int32)).toInt = 1 := rfl
  have a2 : ((2 : Int32)).toInt = 2 := rfl
  have a3 : ((3 : Int32)).toInt = 3 := rfl
  omega
theorem p_sheet (h0 : ShR 0 th0 la0 sz0 ce0 lanes lengths cM) (h1 : ShR 1 th1 la1 sz1 ce1 lanes lengths cM) (h2 : ShR 2 th2 la2 sz2 ce2 lanes lengths cM) (h3 : ShR 3 th3 la3 sz3 ce3 lanes lengths cM) (x y z : Int32) : ∃ r th0' la0' sz0' ce0' th1' la1' sz1' ce1' th2' la2' sz2' ce2' th3' la3' sz3' ce3' lanes' lengths' cM', f_X7_sheet x y z th0 la0 sz0 ce0 th1 la1 sz1 ce1 th2 la2 sz2 ce2 th3 la3 sz3 ce3 = some (r, th0', la0', sz0', ce0', th1', la1', sz1', ce1', th2', la2', sz2', ce2', th3', la3', sz3', ce3') ∧ f_X8_sheet x y z lanes lengths cM = some (r, lanes', lengths', cM') ∧ ShR 0 th0' la0' sz0' ce0' lanes' lengths' cM' ∧ ShR 1 th1' la1' sz1' ce1' lanes' lengths' cM' ∧ ShR 2 th2' la2' sz2' ce2' lanes' lengths' cM' ∧ ShR 3 th3' la3' sz3' ce3' lanes' lengths' cM' := by
  by_cases hx : 0 ≤ x.toInt ∧ x.toInt ≤ 3
  · by_cases hy : 0 ≤ y.toInt ∧ y.toInt ≤ 2
    · by_cases hz : z.toInt ≤ 40
      · by_cases hz2 : 0 ≤ z.toInt
        · unfold f_X7_sheet
          rw [she_e, bq1, ite01, if_pos hx, lan_e, bq1, ite01, if_pos hy, if_pos (show z ≤ 40 by rw [le]; exact hz), if_pos (show 0 ≤ z by rw [le]; exact hz2)]
          rcases sh4 hx with rfl | rfl | rfl | rfl
          · obtain ⟨cg', ec, cg⟩ := new_e y z th0 la0 sz0 ce0
            obtain ⟨g, eg, g1, g2⟩ := she8_e (k := 0) (by omega) y z hy ⟨hz2, hz⟩ lanes lengths cM
            rw [if_pos rfl, ec]
            exact ⟨_, _, _, _, _, _, _, _, _, _, _, _, _, _, _, _, _, _, _, _, rfl, eg, ShR.new (k := 0) (by omega) hy ⟨hz2, hz⟩ cg g1, h1.frm (k := 0) (by omega) (fun j hj => g2 j (by omega)), h2.frm (k := 0) (by omega) (fun j hj => g2 j (by omega)), h3.frm (k := 0) (by omega) (fun j hj => g2 j (by omega))⟩
          · obtain ⟨cg', ec, cg⟩ := new_e y z th1 la1 sz1 ce1
            obtain ⟨g, eg, g1, g2⟩ := she8_e (k := 1) (by omega) y z hy ⟨hz2, hz⟩ lanes lengths cM
            rw [if_neg (by decide), if_pos rfl, ec]
            exact ⟨_, _, _, _, _, _, _, _, _, _, _, _, _, _, _, _, _, _, _, _, rfl, eg, h0.frm (k := 1) (by omega) (fun j hj => g2 j (by omega)), ShR.new (k := 1) (by omega) hy ⟨hz2, hz⟩ cg g1, h2.frm (k := 1) (by omega) (fun j hj => g2 j (by omega)), h3.frm (k := 1) (by omega) (fun j hj => g2 j (by omega))⟩
          · obtain ⟨cg', ec, cg⟩ := new_e y z th2 la2 sz2 ce2
            obtain ⟨g, eg, g1, g2⟩ := she8_e (k := 2) (by omega) y z hy ⟨hz2, hz⟩ lanes lengths cM
            rw [if_neg (by decide), if_neg (by decide), if_pos rfl, ec]
            exact ⟨_, _, _, _, _, _, _, _, _, _, _, _, _, _, _, _, _, _, _, _, rfl, eg, h0.frm (k := 2) (by omega) (fun j hj => g2 j (by omega)), h1.frm (k := 2) (by omega) (fun j hj => g2 j (by omega)), ShR.new (k := 2) (by omega) hy ⟨hz2, hz⟩ cg g1, h3.frm (k := 2) (by omega) (fun j hj => g2 j (by omega))⟩
          · obtain ⟨cg', ec, cg⟩ := new_e y z th3 la3 sz3 ce3
            obtain ⟨g, eg, g1, g2⟩ := she8_e (k := 3) (by omega) y z hy ⟨hz2, hz⟩ lanes lengths cM
            rw [if_neg (by decide), if_neg (by decide), if_neg (by decide), if_pos rfl, ec]
            exact ⟨_, _, _, _, _, _, _, _, _, _, _, _, _, _, _, _, _, _, _, _, rfl, eg, h0.frm (k := 3) (by omega) (fun j hj => g2 j (by omega)), h1.frm (k := 3) (by omega) (fun j hj => g2 j (by omega)), h2.frm (k := 3) (by omega) (fun j hj => g2 j (by omega)), ShR.new (k := 3) (by omega) hy ⟨hz2, hz⟩ cg g1⟩
        · unfold f_X7_sheet f_X8_sheet
          rw [she_e, bq1, ite01, if_pos hx, lan_e, bq1, ite01, if_pos hy, if_pos (show z ≤ 40 by rw [le]; exact hz), if_neg (show ¬ 0 ≤ z from fun q => hz2 (by rw [le] at q; exact q)), in_t, bq1, ite01, tt, if_pos (show (0 : Int64).toInt ≤ x.toInt ∧ x.toInt ≤ (3 : Int64).toInt from hx), in_t, bq1, ite01, tt, if_pos (show (0 : Int64).toInt ≤ y.toInt ∧ y.toInt ≤ (2 : Int64).toInt from hy), if_pos (show z ≤ 40 by rw [le]; exact hz), if_neg (show ¬ 0 ≤ z from fun q => hz2 (by rw [le] at q; exact q))]
          exact ⟨_, _, _, _, _, _, _, _, _, _, _, _, _, _, _, _, _, _, _, _, rfl, rfl, h0, h1, h2, h3⟩
      · unfold f_X7_sheet f_X8_sheet
        rw [she_e, bq1, ite01, if_pos hx, lan_e, bq1, ite01, if_pos hy, if_neg (show ¬ z ≤ 40 from fun q => hz (by rw [le] at q; exact q)), in_t, bq1, ite01, tt, if_pos (show (0 : Int64).toInt ≤ x.toInt ∧ x.toInt ≤ (3 : Int64).toInt from hx), in_t, bq1, ite01, tt, if_pos (show (0 : Int64).toInt ≤ y.toInt ∧ y.toInt ≤ (2 : Int64).toInt from hy), if_neg (show ¬ z ≤ 40 from fun q => hz (by rw [le] at q; exact q))]
        exact ⟨_, _, _, _, _, _, _, _, _, _, _, _, _, _, _, _, _, _, _, _, rfl, rfl, h0, h1, h2, h3⟩
    · unfold f_X7_sheet f_X8_sheet
      rw [she_e, bq1, ite01, if_pos hx, lan_e, bq1, ite01, if_neg hy, in_t, bq1, ite01, tt, if_pos (show (0 : Int64).toInt ≤ x.toInt ∧ x.toInt ≤ (3 : Int64).toInt from hx), in_t, bq1, ite01, tt, if_neg (show ¬ ((0 : Int64).toInt ≤ y.toInt ∧ y.toInt ≤ (2 : Int64).toInt) from hy)]
      exact ⟨_, _, _, _, _, _, _, _, _, _, _, _, _, _, _, _, _, _, _, _, rfl, rfl, h0, h1, h2, h3⟩
  · unfold f_X7_sheet f_X8_sheet
    rw [she_e, bq1, ite01, if_neg hx, in_t, bq1, ite01, tt, if_neg (show ¬ ((0 : Int64).toInt ≤ x.toInt ∧ x.toInt ≤ (3 : Int64).toInt) from hx)]
    exact ⟨_, _, _, _, _, _, _, _, _, _, _, _, _, _, _, _, _, _, _, _, rfl, rfl, h0, h1, h2, h3⟩
/-- what laying a cell does, in a sheet of the class and in the reference -/
theorem lay_e {k : Nat} (hk : k < 4) {th la sz : Int32} {ce : Nat → Int32} (h : ShR k th la sz ce lanes lengths cM) (y z : Int32) : ∃ r c' cM', (bn1 (f_X2_refusal la y th la sz) (fun r => if r = 0 then bn1 (f_X2_become y z la sz ce) (fun m => some ((1 : Int32), m)) else some ((-10 : Int32) - r, ce))) = some (r, c') ∧ f_X8_lay (nI k) y z lanes lengths cM = some (r, cM') ∧ ShR k th la sz c' lanes lengths cM' ∧ ∀ j, j < 40 * k ∨ 40 * k + 40 ≤ j → cM' j = cM j := by
  unfold f_X8_lay f_X2_refusal
  rw [in_t, bq1, ite01, tt, if_pos (show (0 : Int64).toInt ≤ (nI k).toInt ∧ (nI k).toInt ≤ (3 : Int64).toInt by rw [nT (by omega)]; exact ⟨by show (0 : Int) ≤ k; omega, by show (k : Int) ≤ 3; omega⟩), ckN (by omega) (by omega), nC (by omega)]
  rcases h with ⟨z1, z2⟩ | ⟨z1, z2, z3, z4, z5, z6, z7, z8⟩
  · rw [z1, if_pos rfl, bq1, if_neg (by decide), z2, if_pos rfl]
    exact ⟨_, _, _, rfl, rfl, Or.inl ⟨rfl, z2⟩, fun _ _ => rfl⟩
  · have keep : ShR k 1 (lanes k) (lengths k) ce lanes lengths cM := Or.inr ⟨rfl, rfl, rfl, z4, z5, z6, z7, z8⟩
    rw [z1, z2, z3, if_neg (by decide), if_pos rfl, if_neg (show ¬ lanes k = -4 from fun z => by rw [z] at z4; exact absurd z4 (by decide)), ckN (by omega) (by omega), in_t, bq1, ite01, tt, tt, subI (by show _ ≤ (lengths k).toInt - 1; omega) (by show (lengths k).toInt - 1 < _; omega)]
    by_cases q : 0 ≤ y.toInt ∧ y.toInt < (lengths k).toInt
    · obtain ⟨i, hi, rfl, hiT⟩ := nOf q.1
      rw [if_neg (show ¬ nI i < 0 from fun z => by rw [li, l0] at z; omega), if_pos (show nI i < lengths k by rw [li]; exact q.2), bq1, if_pos rfl, if_pos (show (0 : Int64).toInt ≤ (nI i).toInt ∧ (nI i).toInt ≤ (lengths k).toInt - (1 : Int32).toInt from ⟨q.1, by show _ ≤ (lengths k).toInt - 1; omega⟩), ckN (by omega) (by omega)]
      have hb : ∀ v : Int32, ∃ cM', f_X8_lay_b99 lanes lengths ((40 : Int32) * nI k + nI i) v cM = some (1, cM') ∧ ShR k 1 (lanes k) (lengths k) (upd ce i v) lanes lengths cM' ∧ ∀ j, j < 40 * k ∨ 40 * k + 40 ≤ j → cM' j = cM j := by
        intro v
        refine ⟨upd cM (40 * k + i) v, ?_, Or.inr ⟨rfl, rfl, rfl, z4, z5, z6, z7, fun j hj => ?_⟩, fun j hj => pk_un (by omega)⟩
        · unfold f_X8_lay_b99
          rw [show ((40 : Int32)) = nI 40 from rfl, mulN, nI_add, ckN (by omega) (by omega), nC (by omega)]
        · by_cases e : j = i
          · subst e; rw [pk_us, pk_us]
          · rw [pk_un e, pk_un (by omega)]; exact z8 j hj
      unfold f_X2_become
      rw [if_neg (show ¬ nI i < 0 from fun z => by rw [li, l0] at z; omega), if_pos (show nI i < lengths k by rw [li]; exact q.2)]
      by_cases l1 : lanes k = 0
      · obtain ⟨c', e1, e2, e3⟩ := hb (z.toInt8.toInt32)
        rw [if_pos l1, if_pos l1, ckN (by omega) (by omega), nC (by omega), bq1, byte_e]
        exact ⟨_, _, _, rfl, e1, e2, e3⟩
      · rw [if_neg l1, if_neg l1, ckN (by omega) (by omega)]
        by_cases l2 : lanes k = 1
        · obtain ⟨c', e1, e2, e3⟩ := hb (z.toInt16.toInt32)
          rw [if_pos l2, if_pos l2, ckN (by omega) (by omega), nC (by omega), bq1, short_e]
          exact ⟨_, _, _, rfl, e1, e2, e3⟩
        · obtain ⟨c', e1, e2, e3⟩ := hb z
          rw [if_neg l2, if_neg l2, ckN (by omega) (by omega), nC (by omega), bq1, ckN (by omega) (by omega)]
          exact ⟨_, _, _, rfl, e1, e2, e3⟩
    · rw [if_neg (show ¬ ((0 : Int64).toInt ≤ y.toInt ∧ y.toInt ≤ (lengths k).toInt - (1 : Int32).toInt) from fun w => q ⟨w.1, by have : y.toInt ≤ (lengths k).toInt - 1 := w.2; omega⟩)]
      by_cases q1 : y.toInt < 0
      · rw [if_pos (show y < 0 by rw [li, l0]; exact q1), bq1, if_neg (by decide)]
        exact ⟨_, _, _, rfl, rfl, keep, fun _ _ => rfl⟩
      · rw [if_neg (show ¬ y < 0 from fun w => q1 (by rw [li, l0] at w; exact w)), if_neg (show ¬ y < lengths k from fun w => q ⟨by omega, by rw [li] at w; exact w⟩), bq1, if_neg (by decide)]
        exact ⟨_, _, _, rfl, rfl, keep, fun _ _ => rfl⟩
theorem ShR.fr2 {k q : Nat} {th la sz : Int32} {c f : Nat → Int32} (h : ShR q th la sz c lanes lengths f) (hq : q ≠ k) {g : Nat → Int32} (hg : ∀ j, j < 40 * k ∨ 40 * k + 40 ≤ j → g j = f j) : ShR q th la sz c lanes lengths g := by
  rcases h with h | ⟨a, b, c', d, e, f', g', i'⟩
  · exact Or.inl h
  · exact Or.inr ⟨a, b, c', d, e, f', g', fun i hi => by rw [i' i hi, hg _ (by omega)]⟩
theorem p_lay (h0 : ShR 0 th0 la0 sz0 ce0 lanes lengths cM) (h1 : ShR 1 th1 la1 sz1 ce1 lanes lengths cM) (h2 : ShR 2 th2 la2 sz2 ce2 lanes lengths cM) (h3 : ShR 3 th3 la3 sz3 ce3 lanes lengths cM) (x y z : Int32) : ∃ r ce0' ce1' ce2' ce3' cM', f_X7_lay x y z th0 la0 sz0 ce0 th1 la1 sz1 ce1 th2 la2 sz2 ce2 th3 la3 sz3 ce3 = some (r, ce0', ce1', ce2', ce3') ∧ f_X8_lay x y z lanes lengths cM = some (r, cM') ∧ ShR 0 th0 la0 sz0 ce0' lanes lengths cM' ∧ ShR 1 th1 la1 sz1 ce1' lanes lengths cM' ∧ ShR 2 th2 la2 sz2 ce2' lanes lengths cM' ∧ ShR 3 th3 la3 sz3 ce3' lanes lengths cM' := by
  by_cases hx : 0 ≤ x.toInt ∧ x.toInt ≤ 3
  · unfold f_X7_lay
    rw [she_e, bq1, ite01, if_pos hx]
    rcases sh4 hx with rfl | rfl | rfl | rfl
    · obtain ⟨r, c', cM', a1, a2, a3, a4⟩ := lay_e (k := 0) (by omega) h0 y z
      refine ⟨r, c', ce1, ce2, ce3, cM', ?_, a2, a3, h1.fr2 (k := 0) (by omega) a4, h2.fr2 (k := 0) (by omega) a4, h3.fr2 (k := 0) (by omega) a4⟩
      rw [if_pos rfl]
      revert a1
      rcases f_X2_refusal la0 y th0 la0 sz0 with _ | w
      · intro a1; cases a1
      · rw [bq1, bq1]
        by_cases hw : w = 0
        · rw [if_pos hw, if_pos hw]
          rcases f_X2_become y z la0 sz0 ce0 with _ | m
          · intro a1; cases a1
          · rw [bq1, bq1]; intro a1; cases a1; rfl
        · rw [if_neg hw, if_neg hw]; intro a1; have a1 := Option.some.inj a1; rw [Prod.mk.injEq] at a1; rw [a1.1, a1.2]
    · obtain ⟨r, c', cM', a1, a2, a3, a4⟩ := lay_e (k := 1) (by omega) h1 y z
      refine ⟨r, ce0, c', ce2, ce3, cM', ?_, a2, h0.fr2 (k := 1) (by omega) a4, a3, h2.fr2 (k := 1) (by omega) a4, h3.fr2 (k := 1) (by omega) a4⟩
      rw [if_neg (by decide), if_pos rfl]
      revert a1
      rcases f_X2_refusal la1 y th1 la1 sz1 with _ | w
      · intro a1; cases a1
      · rw [bq1, bq1]
        by_cases hw : w = 0
        · rw [if_pos hw, if_pos hw]
          rcases f_X2_become y z la1 sz1 ce1 with _ | m
          · intro a1; cases a1
          · rw [bq1, bq1]; intro a1; cases a1; rfl
        · rw [if_neg hw, if_neg hw]; intro a1; have a1 := Option.some.inj a1; rw [Prod.mk.injEq] at a1; rw [a1.1, a1.2]
    · obtain ⟨r, c', cM', a1, a2, a3, a4⟩ := lay_e (k := 2) (by omega) h2 y z
      refine ⟨r, ce0, ce1, c', ce3, cM', ?_, a2, h0.fr2 (k := 2) (by omega) a4, h1.fr2 (k := 2) (by omega) a4, a3, h3.fr2 (k := 2) (by omega) a4⟩
      rw [if_neg (by decide), if_neg (by decide), if_pos rfl]
      revert a1
      rcases f_X2_refusal la2 y th2 la2 sz2 with _ | w
      · intro a1; cases a1
      · rw [bq1, bq1]
        by_cases hw : w = 0
        · rw [if_pos hw, if_pos hw]
          rcases f_X2_become y z la2 sz2 ce2 with _ | m
          · intro a1; cases a1
          · rw [bq1, bq1]; intro a1; cases a1; rfl
        · rw [if_neg hw, if_neg hw]; intro a1; have a1 := Option.some.inj a1; rw [Prod.mk.injEq] at a1; rw [a1.1, a1.2]
    · obtain ⟨r, c', cM', a1, a2, a3, a4⟩ := lay_e (k := 3) (by omega) h3 y z
      refine ⟨r, ce0, ce1, ce2, c', cM', ?_, a2, h0.fr2 (k := 3) (by omega) a4, h1.fr2 (k := 3) (by omega) a4, h2.fr2 (k := 3) (by omega) a4, a3⟩
      rw [if_neg (by decide), if_neg (by decide), if_neg (by decide), if_pos rfl]
      revert a1
      rcases f_X2_refusal la3 y th3 la3 sz3 with _ | w
      · intro a1; cases a1
      · rw [bq1, bq1]
        by_cases hw : w = 0
        · rw [if_pos hw, if_pos hw]
          rcases f_X2_become y z la3 sz3 ce3 with _ | m
          · intro a1; cases a1
          · rw [bq1, bq1]; intro a1; cases a1; rfl
        · rw [if_neg hw, if_neg hw]; intro a1; have a1 := Option.some.inj a1; rw [Prod.mk.injEq] at a1; rw [a1.1, a1.2]
  · unfold f_X7_lay f_X8_lay
    rw [she_e, bq1, ite01, if_neg hx, in_t, bq1, ite01, tt, if_neg (show ¬ ((0 : Int64).toInt ≤ x.toInt ∧ x.toInt ≤ (3 : Int64).toInt) from hx)]
    exact ⟨_, _, _, _, _, _, rfl, rfl, h0, h1, h2, h3⟩
end SHEETS
