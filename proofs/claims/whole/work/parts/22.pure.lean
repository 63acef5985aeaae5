/-! landings -/
/-- landing l is of the routine ow, and has the address lo -/
def lnd (st : Nat → Int32) (ow lo : Int32) (l : Nat) : Bool := decide (st (184 + 5 * l + 4) = ow ∧ (st (184 + 5 * l)).toInt ≤ lo.toInt ∧ lo.toInt ≤ (st (184 + 5 * l + 1)).toInt)
/-- the first of n from i on -/
def fst1 (P : Nat → Bool) : Nat → Nat → Int32
  | 0, _ => -4
  | n + 1, i => if P i = true then nI i else fst1 P n (i + 1)
theorem fst1_cong {P Q : Nat → Bool} : ∀ (n i : Nat), (∀ j, i ≤ j → j < i + n → P j = Q j) → fst1 P n i = fst1 Q n i
  | 0, _, _ => rfl
  | n + 1, i, h => by
    rw [fst1, fst1, h i (by omega) (by omega), fst1_cong n (i + 1) (fun j h1 h2 => h j (by omega) (by omega))]
theorem fst1_some (P : Nat → Bool) : ∀ (n i : Nat), fst1 P n i = -4 ∨ ∃ j, i ≤ j ∧ j < i + n ∧ fst1 P n i = nI j
  | 0, _ => Or.inl rfl
  | n + 1, i => by
    rw [fst1]
    by_cases h : P i = true
    · rw [if_pos h]; exact Or.inr ⟨i, by omega, by omega, rfl⟩
    · rw [if_neg h]
      rcases fst1_some P n (i + 1) with q | ⟨j, q1, q2, q3⟩
      · exact Or.inl q
      · exact Or.inr ⟨j, by omega, by omega, q3⟩
theorem lands_e {kL k l : Nat} {fL owners looked st : Nat → Int32} (hL : kL ≤ 16) (hk : k < 20) (hl : l < kL) (h : ∀ i, i < kL → ∀ c, c < 5 → fL (5 * i + c) = st (184 + 5 * i + c)) : f_X7_landsIn (nI k) (nI l) 5 (nI kL) fL owners looked = some (if lnd st (owners k) (looked k) l = true then 1 else 0) := by
  unfold f_X7_landsIn
  rw [show f_X3_at (nI l) (4 : Int32) (5 : Int32) (nI kL) 80 fL = some (fL (l * 5 + 4)) from at_in (w := 5) (c := 4) hl (by omega) (by omega) (by omega), bq1, show f_X3_at (nI l) (0 : Int32) (5 : Int32) (nI kL) 80 fL = some (fL (l * 5 + 0)) from at_in (w := 5) (c := 0) hl (by omega) (by omega) (by omega), bq1, show f_X3_at (nI l) (1 : Int32) (5 : Int32) (nI kL) 80 fL = some (fL (l * 5 + 1)) from at_in (w := 5) (c := 1) hl (by omega) (by omega) (by omega), bq1, ckI (by rw [nT (by omega)]; omega) (by rw [nT (by omega)]; omega), ckI (by rw [nT (by omega)]; omega) (by rw [nT (by omega)]; omega), ckI (by rw [nT (by omega)]; omega) (by rw [nT (by omega)]; omega), nC (by omega), Nat.mul_comm l 5, h l hl 4 (by omega), h l hl 0 (by omega), h l hl 1 (by omega), Nat.add_zero]
  unfold lnd
  by_cases c1 : st (184 + 5 * l + 4) = owners k
  · rw [if_pos c1]
    by_cases c2 : (looked k).toInt < (st (184 + 5 * l)).toInt
    · rw [if_pos (by rw [li]; exact c2), if_neg (by rw [decide_eq_true_iff]; omega)]
    · rw [if_neg (by rw [li]; exact c2)]
      by_cases c3 : (st (184 + 5 * l + 1)).toInt < (looked k).toInt
      · rw [if_pos (by rw [li]; exact c3), if_neg (by rw [decide_eq_true_iff]; omega)]
      · rw [if_neg (by rw [li]; exact c3), if_pos (by rw [decide_eq_true_iff]; exact ⟨c1, by omega, by omega⟩)]
  · rw [if_neg c1, if_neg (by rw [decide_eq_true_iff]; exact fun z => c1 z.1)]
theorem isL_e {k l : Nat} {st looked owners : Nat → Int32} (hk : k < 21) (hl : l < 16) : f_X8_isLandingOf (nI k) (nI l) st looked owners = some (if lnd st (owners k) (looked k) l = true then 1 else 0) := by
  unfold f_X8_isLandingOf
  rw [show ((184 : Int32)) = nI 184 from rfl, show ((5 : Int32)) = nI 5 from rfl, show ((4 : Int32)) = nI 4 from rfl, show ((1 : Int32)) = nI 1 from rfl, mulN, nI_add, nI_add, nI_add, ckI (by rw [nT (by omega)]; omega) (by rw [nT (by omega)]; omega), ckI (by rw [nT (by omega)]; omega) (by rw [nT (by omega)]; omega), ckI (by rw [nT (by omega)]; omega) (by rw [nT (by omega)]; omega), ckI (by rw [nT (by omega)]; omega) (by rw [nT (by omega)]; omega), ckI (by rw [nT (by omega)]; omega) (by rw [nT (by omega)]; omega), nC (by omega), nC (by omega), nC (by omega), nC (by omega), in_t, bq1, ite01, tt, tt, tt]
  unfold lnd
  by_cases c1 : st (184 + 5 * l + 4) = owners k
  · rw [if_pos c1]
    by_cases c2 : (st (184 + 5 * l)).toInt ≤ (looked k).toInt ∧ (looked k).toInt ≤ (st (184 + 5 * l + 1)).toInt
    · rw [if_pos c2, if_pos (by rw [decide_eq_true_iff]; exact ⟨c1, c2⟩)]
    · rw [if_neg c2, if_neg (by rw [decide_eq_true_iff]; exact fun z => c2 z.2)]
  · rw [if_neg c1, if_neg (by rw [decide_eq_true_iff]; exact fun z => c1 z.1)]
def cth (st : Nat → Int32) (ow lo x : Int32) (l : Nat) : Bool := lnd st ow lo l && (decide (st (184 + 5 * l + 2) = x) || decide (st (184 + 5 * l + 2) = 10))
theorem catchIn_L {kL k : Nat} {fL owners looked st : Nat → Int32} (x : Int32) (hL : kL ≤ 16) (hk : k < 20) (h : ∀ i, i < kL → ∀ c, c < 5 → fL (5 * i + c) = st (184 + 5 * i + c)) : ∀ (n l : Nat), l ≤ kL → kL - l < n → f_X7_catchIn_L2 5 (nI kL) fL owners looked n (nI k) x (nI l) = some (fst1 (cth st (owners k) (looked k) x) (kL - l) l)
  | 0, l, _, h2 => by omega
  | n + 1, l, h1, h2 => by
    rw [f_X7_catchIn_L2]
    by_cases hl : l = kL
    · subst hl
      rw [if_pos (Int32.le_refl _), Nat.sub_self]; rfl
    · rw [if_neg (by rw [le, nT (by omega), nT (by omega)]; omega), show f_X3_at (nI l) (2 : Int32) (5 : Int32) (nI kL) 80 fL = some (fL (l * 5 + 2)) from at_in (w := 5) (c := 2) (by omega) (by omega) (by omega) (by omega), bq1, lands_e hL hk (by omega) h, bq1, ite01, nI_1, Nat.mul_comm l 5, h l (by omega) 2 (by omega)]
      obtain ⟨m, hm⟩ : ∃ m, kL - l = m + 1 := ⟨kL - l - 1, by omega⟩
      have r0 := catchIn_L (owners := owners) (looked := looked) x hL hk h n (l + 1) (by omega) (by omega)
      rw [show kL - (l + 1) = m by omega] at r0
      rw [hm, fst1, r0]
      unfold cth
      by_cases c1 : lnd st (owners k) (looked k) l = true
      · rw [if_pos c1, c1, Bool.true_and]
        by_cases c2 : st (184 + 5 * l + 2) = x
        · rw [if_pos c2, if_pos (by simp [c2])]
        · rw [if_neg c2]
          by_cases c3 : st (184 + 5 * l + 2) = 10
          · rw [if_pos c3, if_pos (by simp [c3])]
          · rw [if_neg c3, if_neg (by simp [c2, c3])]
      · rw [if_neg c1, if_neg (by simp [c1])]
theorem catches_L {kL k : Nat} {st looked owners : Nat → Int32} (x : Int32) (hL : kL ≤ 16) (hk : k < 21) (hs : st 298 = nI kL) : ∀ (n l : Nat), l ≤ kL → kL - l < n → f_X8_catches_L2 st looked owners n (nI k) x (nI l) = some (fst1 (cth st (owners k) (looked k) x) (kL - l) l)
  | 0, l, _, h2 => by omega
  | n + 1, l, h1, h2 => by
    rw [f_X8_catches_L2, ckI (by decide) (by decide), show st ((298 : Int32)).toNatClampNeg = nI kL from hs]
    by_cases hl : l = kL
    · subst hl
      rw [if_pos (Int32.le_refl _), Nat.sub_self]; rfl
    · rw [if_neg (by rw [le, nT (by omega), nT (by omega)]; omega), show ((184 : Int32)) = nI 184 from rfl, show ((5 : Int32)) = nI 5 from rfl, show ((2 : Int32)) = nI 2 from rfl, mulN, nI_add, nI_add, ckI (by rw [nT (by omega)]; omega) (by rw [nT (by omega)]; omega), nC (by omega), isL_e hk (by omega), bq1, ite01, nI_1]
      obtain ⟨m, hm⟩ : ∃ m, kL - l = m + 1 := ⟨kL - l - 1, by omega⟩
      have r0 := catches_L (looked := looked) (owners := owners) x hL hk hs n (l + 1) (by omega) (by omega)
      rw [show kL - (l + 1) = m by omega] at r0
      rw [hm, fst1, r0]
      unfold cth
      by_cases c1 : lnd st (owners k) (looked k) l = true
      · rw [if_pos c1, c1, Bool.true_and]
        by_cases c2 : st (184 + 5 * l + 2) = x
        · rw [if_pos c2, if_pos (by simp [c2])]
        · rw [if_neg c2]
          by_cases c3 : st (184 + 5 * l + 2) = 10
          · rw [if_pos c3, if_pos (by simp [c3])]
          · rw [if_neg c3, if_neg (by simp [c2, c3])]
      · rw [if_neg c1, if_neg (by simp [c1])]
def ctr (st owners looked : Nat → Int32) (x : Int32) (kL k : Nat) : Bool := !decide (fst1 (cth st (owners k) (looked k) x) kL 0 = -4)
theorem catcher_L {kL K : Nat} {fL owners looked st : Nat → Int32} (x : Int32) (hL : kL ≤ 16) (hK : K ≤ 20) (h : ∀ i, i < kL → ∀ c, c < 5 → fL (5 * i + c) = st (184 + 5 * i + c)) : ∀ (n k : Nat), k ≤ K → K - k < n → f_X7_catcherOf_L2 5 (nI kL) fL (nI K) owners looked n x (nI k) = some (fst1 (ctr st owners looked x kL) (K - k) k)
  | 0, k, _, h2 => by omega
  | n + 1, k, h1, h2 => by
    rw [f_X7_catcherOf_L2]
    by_cases hk : k = K
    · subst hk
      rw [if_pos (Int32.le_refl _), Nat.sub_self]; rfl
    · rw [if_neg (by rw [le, nT (by omega), nT (by omega)]; omega), show f_X7_catchIn (nI k) x 5 (nI kL) fL owners looked = _ from catchIn_L x hL (by omega) h FUEL 0 (by omega) (by unfold FUEL; omega), bq1, nI_1, Nat.sub_zero]
      obtain ⟨m, hm⟩ : ∃ m, K - k = m + 1 := ⟨K - k - 1, by omega⟩
      have r0 := catcher_L (owners := owners) (looked := looked) x hL hK h n (k + 1) (by omega) (by omega)
      rw [show K - (k + 1) = m by omega] at r0
      rw [hm, fst1, r0]
      unfold ctr
      by_cases c1 : fst1 (cth st (owners k) (looked k) x) kL 0 = -4
      · rw [if_pos c1, if_neg (by simp [c1])]
      · rw [if_neg c1, if_pos (by simp [c1])]
theorem catcher8_L {kL K : Nat} {st looked owners : Nat → Int32} (x : Int32) (hL : kL ≤ 16) (hK : K ≤ 20) (hs : st 298 = nI kL) : ∀ (n k : Nat), k ≤ K → K - k < n → f_X8_catcher_L2 (nI K) st looked owners n x (nI k) = some (fst1 (ctr st owners looked x kL) (K - k) k)
  | 0, k, _, h2 => by omega
  | n + 1, k, h1, h2 => by
    rw [f_X8_catcher_L2]
    by_cases hk : k = K
    · subst hk
      rw [if_pos (Int32.le_refl _), Nat.sub_self]; rfl
    · rw [if_neg (by rw [le, nT (by omega), nT (by omega)]; omega), show f_X8_catches (nI k) x st looked owners = _ from catches_L x hL (by omega) hs FUEL 0 (by omega) (by unfold FUEL; omega), bq1, nI_1, Nat.sub_zero]
      obtain ⟨m, hm⟩ : ∃ m, K - k = m + 1 := ⟨K - k - 1, by omega⟩
      have r0 := catcher8_L (looked := looked) (owners := owners) x hL hK hs n (k + 1) (by omega) (by omega)
      rw [show K - (k + 1) = m by omega] at r0
      rw [hm, fst1, r0]
      unfold ctr
      by_cases c1 : fst1 (cth st (owners k) (looked k) x) kL 0 = -4
      · rw [if_pos c1, if_neg (by simp [c1])]
      · rw [if_neg c1, if_pos (by simp [c1])]
theorem ctr_cong {st ow lo ow' lo' : Nat → Int32} {x : Int32} {kL K : Nat} (h : ∀ j, j < K → ow j = ow' j ∧ lo j = lo' j) (k : Nat) (hk : k < K) : ctr st ow lo x kL k = ctr st ow' lo' x kL k := by
  unfold ctr
  rw [(h k hk).1, (h k hk).2]
/-! what is cleaned: i are left -/
def scI (P : Nat → Bool) (v : Nat → Int32) : Nat → Nat → Nat → Sum Nat Int32
  | 0, _, i => .inl i
  | n + 1, l, i => if P l = true then (if i = 0 then .inr (v l) else scI P v n (l + 1) (i - 1)) else scI P v n (l + 1) i
theorem scI_le (P : Nat → Bool) (v : Nat → Int32) : ∀ (n l i j : Nat), scI P v n l i = .inl j → j ≤ i
  | 0, _, i, j, h => by cases h; exact Nat.le_refl _
  | n + 1, l, i, j, h => by
    rw [scI] at h
    by_cases h1 : P l = true
    · rw [if_pos h1] at h
      by_cases h2 : i = 0
      · rw [if_pos h2] at h; cases h
      · rw [if_neg h2] at h
        have := scI_le P v n (l + 1) (i - 1) j h
        omega
    · rw [if_neg h1] at h
      exact scI_le P v n (l + 1) i j h
def scO (P : Nat → Nat → Bool) (v : Nat → Nat → Int32) (kL : Nat) : Nat → Nat → Nat → Int32
  | 0, _, _ => -4
  | n + 1, k, i => match scI (P k) (v k) kL 0 i with
    | .inr r => r
    | .inl i' => scO P v kL n (k + 1) i'
def cln (st : Nat → Int32) (ow lo : Int32) (l : Nat) : Bool := lnd st ow lo l && decide (st (184 + 5 * l + 2) = 0)
theorem cln_t {st : Nat → Int32} {ow lo : Int32} {l : Nat} (h1 : lnd st ow lo l = true) (h2 : st (184 + 5 * l + 2) = 0) : cln st ow lo l = true := by
  unfold cln; rw [h1, Bool.true_and]; exact decide_eq_true h2
theorem cln_f {st : Nat → Int32} {ow lo : Int32} {l : Nat} (h : ¬ (lnd st ow lo l = true ∧ st (184 + 5 * l + 2) = 0)) : ¬ cln st ow lo l = true := by
  intro z; unfold cln at z; rw [Bool.and_eq_true] at z; exact h ⟨z.1, of_decide_eq_true z.2⟩
theorem clI_L {kL k I : Nat} {fL owners looked st : Nat → Int32} {tk sz c : Int32} {K : Int32 → Int32 → Int32 → Int32 → Option Int32} (hL : kL ≤ 16) (hk : k < 20) (hI : I < 2147483648) (h : ∀ i, i < kL → ∀ c, c < 5 → fL (5 * i + c) = st (184 + 5 * i + c)) : ∀ (n l i : Nat), l ≤ kL → kL - l < n → i ≤ I → f_X7_cleaned_L47 5 (nI kL) fL tk sz owners looked K n (nI I) c (nI (I - i)) (nI k) (nI l) = (match scI (cln st (owners k) (looked k)) (fun l => nI 100 * nI k + nI l) (kL - l) l i with
    | .inr r => some r
    | .inl i' => K (nI I) c (nI (I - i')) (nI k + 1))
  | 0, l, _, _, h2, _ => by omega
  | n + 1, l, i, h1, h2, h3 => by
    rw [f_X7_cleaned_L47]
    by_cases hl : l = kL
    · subst hl
      rw [if_pos (Int32.le_refl _), Nat.sub_self]; rfl
    · rw [if_neg (by rw [le, nT (by omega), nT (by omega)]; omega), lands_e hL hk (by omega) h, bq1, ite01, show f_X3_at (nI l) (2 : Int32) (5 : Int32) (nI kL) 80 fL = some (fL (l * 5 + 2)) from at_in (w := 5) (c := 2) (by omega) (by omega) (by omega) (by omega), bq1, Nat.mul_comm l 5, h l (by omega) 2 (by omega)]
      obtain ⟨m, hm⟩ : ∃ m, kL - l = m + 1 := ⟨kL - l - 1, by omega⟩
      have r0 := clI_L (owners := owners) (looked := looked) (tk := tk) (sz := sz) (c := c) (K := K) hL hk hI h n (l + 1) i (by omega) (by omega) h3
      rw [show kL - (l + 1) = m by omega] at r0
      rw [hm, scI]
      rw [nI_1 l]
      by_cases c1 : lnd st (owners k) (looked k) l = true
      · rw [if_pos c1]
        by_cases c2 : st (184 + 5 * l + 2) = 0
        · rw [if_pos c2, if_pos (cln_t c1 c2)]
          by_cases c3 : i = 0
          · subst c3
            rw [if_pos (by rw [Nat.sub_zero]), if_pos rfl]; rfl
          · rw [if_neg (by rw [ei, nT (by omega), nT (by omega)]; omega), if_neg c3, nI_1]
            have r1 := clI_L (owners := owners) (looked := looked) (tk := tk) (sz := sz) (c := c) (K := K) hL hk hI h n (l + 1) (i - 1) (by omega) (by omega) (by omega)
            rw [show kL - (l + 1) = m by omega, show I - (i - 1) = I - i + 1 by omega] at r1
            exact r1
        · rw [if_neg c2, if_neg (cln_f (fun z => c2 z.2))]
          exact r0
      · rw [if_neg c1, if_neg (cln_f (fun z => c1 z.1))]
        exact r0
theorem clI8_L {kL k : Nat} {st looked owners : Nat → Int32} {fm w c : Int32} {K : Int32 → Int32 → Int32 → Option Int32} (hL : kL ≤ 16) (hk : k < 20) (hs : st 298 = nI kL) : ∀ (n l i : Nat), l ≤ kL → kL - l < n → i < 2147483648 → f_X8_cleaned_L49 fm w st looked owners K n c (nI i) (nI k) (nI l) = (match scI (cln st (owners k) (looked k)) (fun l => nI 100 * nI k + nI l) (kL - l) l i with
    | .inr r => some r
    | .inl i' => K c (nI i') (nI k + 1))
  | 0, l, _, _, h2, _ => by omega
  | n + 1, l, i, h1, h2, h3 => by
    rw [f_X8_cleaned_L49, ckI (by decide) (by decide), show st ((298 : Int32)).toNatClampNeg = nI kL from hs]
    by_cases hl : l = kL
    · subst hl
      rw [if_pos (Int32.le_refl _), Nat.sub_self]; rfl
    · rw [if_neg (by rw [le, nT (by omega), nT (by omega)]; omega), isL_e (by omega) (by omega), bq1, ite01, show ((184 : Int32)) = nI 184 from rfl, show ((5 : Int32)) = nI 5 from rfl, show ((2 : Int32)) = nI 2 from rfl, mulN, nI_add, nI_add, ckI (by rw [nT (by omega)]; omega) (by rw [nT (by omega)]; omega), nC (by omega)]
      obtain ⟨m, hm⟩ : ∃ m, kL - l = m + 1 := ⟨kL - l - 1, by omega⟩
      have r0 := clI8_L (looked := looked) (owners := owners) (fm := fm) (w := w) (c := c) (K := K) hL hk hs n (l + 1) i (by omega) (by omega) h3
      rw [show kL - (l + 1) = m by omega] at r0
      rw [hm, scI]
      rw [nI_1 l]
      by_cases c1 : lnd st (owners k) (looked k) l = true
      · rw [if_pos c1]
        by_cases c2 : st (184 + 5 * l + 2) = 0
        · rw [if_pos c2, if_pos (cln_t c1 c2)]
          by_cases c3 : i = 0
          · subst c3
            rw [if_pos (show nI 0 = 0 from rfl), if_pos rfl]; rfl
          · obtain ⟨i', rfl⟩ : ∃ i', i = i' + 1 := ⟨i - 1, by omega⟩
            rw [if_neg (by rw [ei, nT (by omega)]; show ¬ ((i' + 1 : Nat) : Int) = 0; omega), if_neg c3, pk_m1]
            have r1 := clI8_L (looked := looked) (owners := owners) (fm := fm) (w := w) (c := c) (K := K) hL hk hs n (l + 1) i' (by omega) (by omega) (by omega)
            rw [show kL - (l + 1) = m by omega] at r1
            exact r1
        · rw [if_neg c2, if_neg (cln_f (fun z => c2 z.2))]
          exact r0
      · rw [if_neg c1, if_neg (cln_f (fun z => c1 z.1))]
        exact r0
theorem clO_L {kL K I : Nat} {fL owners looked st : Nat → Int32} {tk sz : Int32} (hL : kL ≤ 16) (hK : K ≤ 20) (hI : I < 2147483648) (h : ∀ i, i < kL → ∀ c, c < 5 → fL (5 * i + c) = st (184 + 5 * i + c)) : ∀ (n k i : Nat), k ≤ K → K - k < n → i ≤ I → f_X7_cleaned_L38 5 (nI kL) fL tk sz owners looked n (nI I) (nI K) (nI (I - i)) (nI k) = some (scO (fun k => cln st (owners k) (looked k)) (fun k l => nI 100 * nI k + nI l) kL (K - k) k i)
  | 0, k, _, _, h2, _ => by omega
  | n + 1, k, i, h1, h2, h3 => by
    rw [f_X7_cleaned_L38]
    by_cases hk : k = K
    · subst hk
      rw [if_pos (Int32.le_refl _), Nat.sub_self]; rfl
    · rw [if_neg (by rw [le, nT (by omega), nT (by omega)]; omega), show ((0 : Int32)) = nI 0 from rfl, clI_L hL (by omega) hI h FUEL 0 i (by omega) (by unfold FUEL; omega) h3, Nat.sub_zero]
      obtain ⟨m, hm⟩ : ∃ m, K - k = m + 1 := ⟨K - k - 1, by omega⟩
      rw [hm, scO]
      cases e : scI (cln st (owners k) (looked k)) (fun l => nI 100 * nI k + nI l) kL 0 i with
      | inr r => rfl
      | inl j =>
        have hj := scI_le _ _ _ _ _ _ e
        show f_X7_cleaned_L38 5 (nI kL) fL tk sz owners looked n (nI I) (nI K) (nI (I - j)) (nI k + 1) = _
        rw [nI_1, clO_L hL hK hI h n (k + 1) j (by omega) (by omega) (by omega), show K - (k + 1) = m by omega]
theorem clO8_L {kL K : Nat} {st looked owners : Nat → Int32} {fm w : Int32} (hL : kL ≤ 16) (hK : K ≤ 20) (hs : st 298 = nI kL) : ∀ (n k i : Nat), k ≤ K → K - k < n → i < 2147483648 → f_X8_cleaned_L40 fm w st looked owners n (nI K) (nI i) (nI k) = some (scO (fun k => cln st (owners k) (looked k)) (fun k l => nI 100 * nI k + nI l) kL (K - k) k i)
  | 0, k, _, _, h2, _ => by omega
  | n + 1, k, i, h1, h2, h3 => by
    rw [f_X8_cleaned_L40]
    by_cases hk : k = K
    · subst hk
      rw [if_pos (Int32.le_refl _), Nat.sub_self]; rfl
    · rw [if_neg (by rw [le, nT (by omega), nT (by omega)]; omega), show ((0 : Int32)) = nI 0 from rfl, clI8_L hL (by omega) hs FUEL 0 i (by omega) (by unfold FUEL; omega) h3, Nat.sub_zero]
      obtain ⟨m, hm⟩ : ∃ m, K - k = m + 1 := ⟨K - k - 1, by omega⟩
      rw [hm, scO]
      cases e : scI (cln st (owners k) (looked k)) (fun l => nI 100 * nI k + nI l) kL 0 i with
      | inr r => rfl
      | inl j =>
        have hj := scI_le _ _ _ _ _ _ e
        show f_X8_cleaned_L40 fm w st looked owners n (nI K) (nI j) (nI k + 1) = _
        rw [nI_1, clO8_L hL hK hs n (k + 1) j (by omega) (by omega) (by omega), show K - (k + 1) = m by omega]
theorem scO_cong {P Q : Nat → Nat → Bool} {v : Nat → Nat → Int32} {kL : Nat} : ∀ (n k i : Nat), (∀ j, k ≤ j → j < k + n → P j = Q j) → scO P v kL n k i = scO Q v kL n k i
  | 0, _, _, _ => rfl
  | n + 1, k, i, h => by
    rw [scO, scO, h k (by omega) (by omega)]
    cases scI (Q k) (v k) kL 0 i with
    | inr r => rfl
    | inl j => exact scO_cong n (k + 1) j (fun a h1 h2 => h a (by omega) (by omega))
section WREL6
variable {nR : Int32} {fR : Nat → Int32} {nO : Int32} {fO : Nat → Int32} {nL : Int32} {fL : Nat → Int32} {nC' : Int32} {fC rg wd st : Nat → Int32} {kR kO kL kC : Nat}
variable {taken size ended guessed : Int32} {regs owners looked ways : Nat → Int32} {frameMany ending isWalked : Int32} {frames cameBy lookedM ownersM : Nat → Int32}
theorem p_caught (h : WR nR fR nO fO nL fL nC' fC rg wd st kR kO kL kC) (ht : TrkR taken size ended guessed regs owners looked ways frameMany ending isWalked frames cameBy lookedM ownersM) (x y : Int32) : ∃ r, f_X7_caught x y 5 nL fL taken size owners looked = some r ∧ f_X8_caught x y frameMany isWalked st lookedM ownersM = some r := by
  obtain ⟨hk, hn, hs, hr, ho, hl, -⟩ := h
  unfold f_X7_caught f_X8_caught
  rw [thr_e, bq1, ite01, in_t, bq1, ite01, tt]
  have e1 : (1 : Int64).toInt = 1 := rfl
  have e9 : (9 : Int64).toInt = 9 := rfl
  have e0 : (0 : Int64).toInt = 0 := rfl
  rw [e1, e9]
  by_cases h1 : 1 ≤ x.toInt ∧ x.toInt ≤ 9
  · rw [if_pos h1, if_pos h1, in_t, bq1, ite01, tt, e0, e1]
    by_cases h2 : 0 ≤ y.toInt ∧ y.toInt ≤ 1
    · rw [if_neg (by rw [li, l0]; omega), if_pos (by rw [le]; exact h2.2), if_pos h2]
      rcases ht with ⟨t1, t2, t3⟩ | ⟨t1, t2, k, t3, t4, t5, t6, t7, t8, t9⟩
      · rw [t1, t2, if_pos rfl, if_pos rfl]; exact ⟨_, rfl, rfl⟩
      · rw [t1, t2, if_neg (by decide), if_neg (by decide), t5, t6, hn.2.2.1, show f_X7_catcherOf x 5 (nI kL) fL (nI k) owners looked = _ from catcher_L x hk.2.2.1 t4 hl FUEL 0 (by omega) (by unfold FUEL; omega), bq1, show f_X8_catcher x (nI k) st lookedM ownersM = _ from catcher8_L x hk.2.2.1 t4 hs.2.2.1 FUEL 0 (by omega) (by unfold FUEL; omega), bq1, Nat.sub_zero]
        have ec : fst1 (ctr st owners looked x kL) k 0 = fst1 (ctr st ownersM lookedM x kL) k 0 := fst1_cong k 0 (fun j _ hj => ctr_cong (K := k) (fun i hi => ⟨(t9 i hi).1, (t9 i hi).2.1⟩) j (by omega))
        rw [ec]
        by_cases c1 : fst1 (ctr st ownersM lookedM x kL) k 0 = -4
        · rw [if_pos c1, if_pos c1, c1]; exact ⟨_, rfl, rfl⟩
        · rw [if_neg c1, if_neg c1]
          by_cases c2 : y = 0
          · rw [if_pos c2, if_pos c2]; exact ⟨_, rfl, rfl⟩
          · rw [if_neg c2, if_neg c2]
            rcases fst1_some (ctr st ownersM lookedM x kL) k 0 with q | ⟨j, q1, q2, q3⟩
            · exact absurd q c1
            · rw [q3, show f_X7_catchIn (nI j) x 5 (nI kL) fL owners looked = _ from catchIn_L x hk.2.2.1 (by omega) hl FUEL 0 (by omega) (by unfold FUEL; omega), bq1, show f_X8_catches (nI j) x st lookedM ownersM = _ from catches_L x hk.2.2.1 (by omega) hs.2.2.1 FUEL 0 (by omega) (by unfold FUEL; omega), bq1, Nat.sub_zero, (t9 j (by omega)).1, (t9 j (by omega)).2.1]
              exact ⟨_, rfl, rfl⟩
    · rw [if_neg h2]
      by_cases h3 : y.toInt < 0
      · rw [if_pos (by rw [li, l0]; exact h3)]; exact ⟨_, rfl, rfl⟩
      · rw [if_neg (by rw [li, l0]; exact h3), if_neg (by rw [le]; show ¬ y.toInt ≤ 1; omega)]; exact ⟨_, rfl, rfl⟩
  · rw [if_neg h1, if_neg h1]; exact ⟨_, rfl, rfl⟩
theorem cl_neg7 {kL : Nat} {tk sz i : Int32} : ∀ n, f_X7_cleaned_L38 5 (nI kL) fL tk sz owners looked (n + 1) i (-4) 0 0 = some (-4) := by
  intro n
  rw [f_X7_cleaned_L38, if_pos (by decide)]
theorem cl_neg8 {fm w i : Int32} : ∀ n, f_X8_cleaned_L40 fm w st lookedM ownersM (n + 1) (-4) i 0 = some (-4) := by
  intro n
  rw [f_X8_cleaned_L40, if_pos (by decide)]
theorem p_cleaned (h : WR nR fR nO fO nL fL nC' fC rg wd st kR kO kL kC) (ht : TrkR taken size ended guessed regs owners looked ways frameMany ending isWalked frames cameBy lookedM ownersM) (x y : Int32) : ∃ r, f_X7_cleaned x y 5 nL fL taken size owners looked = some r ∧ f_X8_cleaned x y frameMany isWalked st lookedM ownersM = some r := by
  obtain ⟨hk, hn, hs, hr, ho, hl, -⟩ := h
  unfold f_X7_cleaned f_X8_cleaned
  rw [thr_e, bq1, ite01, in_t, bq1, ite01, tt]
  have e1 : (1 : Int64).toInt = 1 := rfl
  have e9 : (9 : Int64).toInt = 9 := rfl
  rw [e1, e9]
  by_cases h1 : 1 ≤ x.toInt ∧ x.toInt ≤ 9
  · rw [if_pos h1, if_pos h1]
    by_cases h2 : 0 ≤ y.toInt
    · rw [if_pos (show (0 : Int32) ≤ y from le.mpr h2), if_pos (show (0 : Int32) ≤ y from le.mpr h2)]
      rcases ht with ⟨t1, t2, t3⟩ | ⟨t1, t2, k, t3, t4, t5, t6, t7, t8, t9⟩
      · rw [t1, t2, if_pos rfl, if_pos rfl]; exact ⟨_, rfl, rfl⟩
      · rw [t1, t2, if_neg (by decide), if_neg (by decide), t5, t6, hn.2.2.1, show f_X7_catcherOf x 5 (nI kL) fL (nI k) owners looked = _ from catcher_L x hk.2.2.1 t4 hl FUEL 0 (by omega) (by unfold FUEL; omega), bq1, show f_X8_catcher x (nI k) st lookedM ownersM = _ from catcher8_L x hk.2.2.1 t4 hs.2.2.1 FUEL 0 (by omega) (by unfold FUEL; omega), bq1, Nat.sub_zero]
        have ec : fst1 (ctr st owners looked x kL) k 0 = fst1 (ctr st ownersM lookedM x kL) k 0 := fst1_cong k 0 (fun j _ hj => ctr_cong (K := k) (fun i hi => ⟨(t9 i hi).1, (t9 i hi).2.1⟩) j (by omega))
        rw [ec]
        obtain ⟨I, hI, rfl, hIT⟩ := nOf h2
        rcases fst1_some (ctr st ownersM lookedM x kL) k 0 with q | ⟨j, q1, q2, q3⟩
        · rw [q]
          exact ⟨_, cl_neg7 4095, cl_neg8 4095⟩
        · rw [q3]
          have r7 := clO_L (tk := 1) (sz := nI k) (fL := fL) (owners := owners) (looked := looked) (st := st) hk.2.2.1 (K := j) (by omega) hI hl FUEL 0 I (by omega) (by unfold FUEL; omega) (by omega)
          have r8 := clO8_L (fm := nI k) (w := 1) (st := st) (looked := lookedM) (owners := ownersM) hk.2.2.1 (K := j) (by omega) hs.2.2.1 FUEL 0 I (by omega) (by unfold FUEL; omega) hI
          rw [Nat.sub_self] at r7
          have eq : scO (fun k => cln st (owners k) (looked k)) (fun k l => nI 100 * nI k + nI l) kL (j - 0) 0 I = scO (fun k => cln st (ownersM k) (lookedM k)) (fun k l => nI 100 * nI k + nI l) kL (j - 0) 0 I := by
            refine scO_cong _ _ _ (fun a _ ha => ?_)
            show cln st (owners a) (looked a) = cln st (ownersM a) (lookedM a)
            rw [(t9 a (by omega)).1, (t9 a (by omega)).2.1]
          rw [eq] at r7
          exact ⟨_, r7, r8⟩
    · rw [if_neg (show ¬ (0 : Int32) ≤ y from fun z => h2 (le.mp z)), if_neg (show ¬ (0 : Int32) ≤ y from fun z => h2 (le.mp z))]; exact ⟨_, rfl, rfl⟩
  · rw [if_neg h1, if_neg h1]; exact ⟨_, rfl, rfl⟩
end WREL6
/-! alter, move -/
theorem set_in {i c w k N : Nat} {f : Nat → Int32} (x : Int32) (hi : i < k) (hc : c < w) (hN : k * w ≤ N) (hB : N < 2147483648) : f_X3_set (nI i) (nI c) x (nI w) (nI k) N f = some (upd f (i * w + c) x) := by
  have hw : 0 < w := by omega
  have h1 : i * w + c < k * w := by
    have : (i + 1) * w ≤ k * w := Nat.mul_le_mul_right w hi
    rw [Nat.succ_mul] at this
    omega
  have hkw : k ≤ k * w := Nat.le_mul_of_pos_right k hw
  have hww : w ≤ k * w := Nat.le_mul_of_pos_left w (by omega)
  unfold f_X3_set
  rw [if_neg (by rw [li, l0, nT (by omega)]; omega), if_neg (by rw [le, nT (by omega), nT (by omega)]; omega), if_neg (by rw [li, l0, nT (by omega)]; omega), if_neg (by rw [le, nT (by omega), nT (by omega)]; omega), mulN, nI_add, ckI (by rw [nT (by omega)]; omega) (by rw [nT (by omega)]; omega), nC (by omega)]
section WREL7
variable {nR : Int32} {fR : Nat → Int32} {nO : Int32} {fO : Nat → Int32} {nL : Int32} {fL : Nat → Int32} {nC' : Int32} {fC rg wd st : Nat → Int32} {kR kO kL kC : Nat}
theorem WR.alt (h : WR nR fR nO fO nL fL nC' fC rg wd st kR kO kL kC) {i : Nat} (hi : i < kO) (x : Int32) (hx : OpV (st (24 + i)) (st (64 + i)) x) : WR nR fR nO (upd fO (4 * i + 2) x) nL fL nC' fC rg wd (upd st (104 + i) x) kR kO kL kC := by
  obtain ⟨hk, hn, hs, hr, ho, hl, hc, hg, hw, hv1, hv2, hv3, hv4, hv5⟩ := h
  have ne : ∀ j, j ≠ 104 + i → upd st (104 + i) x j = st j := fun j hj => pk_un hj
  refine ⟨hk, hn, ⟨?_, ?_, ?_, ?_⟩, fun r hr' => ?_, fun j hj c hc' => ?_, fun j hj c hc' => ?_, fun j hj c hc' => ?_, fun u hu => ?_, fun u hu => ?_, fun r hr' => ?_, fun r hr' q hq => ?_, fun j hj => ?_, fun u hu => ?_, fun u hu => ?_⟩
  · rw [ne _ (by omega)]; exact hs.1
  · rw [ne _ (by omega)]; exact hs.2.1
  · rw [ne _ (by omega)]; exact hs.2.2.1
  · rw [ne _ (by omega)]; exact hs.2.2.2
  · rw [ne _ (by omega), ne _ (by omega), ne _ (by omega)]; exact hr r hr'
  · by_cases e : j = i ∧ c = 2
    · obtain ⟨rfl, rfl⟩ := e
      rw [pk_us, show 24 + 40 * 2 + j = 104 + j by omega, pk_us]
    · rw [pk_un (by omega), ne _ (by omega)]; exact ho j hj c hc'
  · rw [ne _ (by omega)]; exact hl j hj c hc'
  · rw [ne _ (by omega)]; exact hc j hj c hc'
  · rw [ne _ (by omega)]; exact hg u hu
  · rw [ne _ (by omega)]; exact hw u hu
  · rw [ne _ (by omega), ne _ (by omega), ne _ (by omega)]; exact hv1 r hr'
  · rw [ne _ (by omega), ne _ (by omega), ne _ (by omega), ne _ (by omega)]; exact hv2 r hr' q hq
  · rw [ne (24 + j) (by omega), ne (64 + j) (by omega)]
    by_cases e : j = i
    · subst e; rw [pk_us]; exact hx
    · rw [ne _ (by omega)]; exact hv3 j hj
  · rw [ne _ (by omega)]; exact hv4 u hu
  · rw [ne _ (by omega)]; exact hv5 u hu
theorem p_alter (h : WR nR fR nO fO nL fL nC' fC rg wd st kR kO kL kC) (x y : Int32) : ∃ r fO' st', f_X7_alter x y 4 nO fO = some (r, fO') ∧ f_X8_alter x y st = some (r, st') ∧ (∀ j, 354 ≤ j → st' j = st j) ∧ WR nR fR nO fO' nL fL nC' fC rg wd st' kR kO kL kC := by
  have hW := h
  obtain ⟨hk, hn, hs, hr, ho, hl, hc, hg, hw, hv1, hv2, hv3, hv4, hv5⟩ := h
  rw [hn.2.1] at hW
  unfold f_X7_alter f_X8_alter
  rw [hn.2.1, has_e x (by omega), bq1, ite01, has8_e x 297 (by omega) (vin (by decide) (by decide)) hs.2.1]
  by_cases h1 : 0 ≤ x.toInt ∧ x.toInt < kO
  · rw [if_pos h1, if_pos h1]
    obtain ⟨i, hi, rfl, hiT⟩ := nOf h1.1
    have hi40 : i < kO := by omega
    have ek := ho i hi40 0 (by omega)
    have en := ho i hi40 2 (by omega)
    rw [show 24 + 40 * 0 + i = 24 + i by omega, Nat.add_zero] at ek
    rw [show 24 + 40 * 2 + i = 104 + i by omega] at en
    rw [show f_X3_at (nI i) (0 : Int32) (4 : Int32) (nI kO) 160 fO = some (fO (i * 4 + 0)) from at_in (w := 4) (c := 0) hi40 (by omega) (by omega) (by omega), bq1, Nat.mul_comm i 4, Nat.add_zero, ek, show ((24 : Int32)) = nI 24 from rfl, nI_add, ckI (by rw [nT (by omega)]; omega) (by rw [nT (by omega)]; omega), nC (by omega)]
    have good7 : f_X7_alter_b79 4 (nI kO) (nI i) y 1 fO = some (st (104 + i), upd fO (4 * i + 2) y) := by
      unfold f_X7_alter_b79
      rw [if_neg (by decide), show f_X3_at (nI i) (2 : Int32) (4 : Int32) (nI kO) 160 fO = some (fO (i * 4 + 2)) from at_in (w := 4) (c := 2) hi40 (by omega) (by omega) (by omega), bq1, show f_X3_set (nI i) (2 : Int32) y (4 : Int32) (nI kO) 160 fO = some (upd fO (i * 4 + 2) y) from set_in (w := 4) (c := 2) y hi40 (by omega) (by omega) (by omega), bq1, Nat.mul_comm i 4, en]
    have bad7 : f_X7_alter_b79 4 (nI kO) (nI i) y 0 fO = some (-1, fO) := by
      unfold f_X7_alter_b79
      rw [if_pos rfl]
    have good8 : f_X8_alter_b73 (nI i) y 1 st = some (st (104 + i), upd st (104 + i) y) := by
      unfold f_X8_alter_b73
      rw [if_neg (by decide), show ((104 : Int32)) = nI 104 from rfl, nI_add, ckI (by rw [nT (by omega)]; omega) (by rw [nT (by omega)]; omega), ckI (by rw [nT (by omega)]; omega) (by rw [nT (by omega)]; omega), nC (by omega)]
    have bad8 : f_X8_alter_b73 (nI i) y 0 st = some (-1, st) := by
      unfold f_X8_alter_b73
      rw [if_pos rfl]
    have hv := hv3 i hi40
    by_cases c5 : st (24 + i) = 5
    · rw [if_pos c5, if_pos c5, reg_e, bq1, reg8_e, bq1]
      by_cases h2 : 0 ≤ y.toInt ∧ y.toInt ≤ 5
      · rw [if_pos h2, good7, good8]
        refine ⟨_, _, _, rfl, rfl, fun j hj => pk_un (by omega), hW.alt hi40 y ?_⟩
        unfold OpV at hv ⊢
        rw [c5] at hv ⊢
        rcases hv with z | z | z | z | z | z | z | z
        · exact absurd z.1 (by decide)
        · exact absurd z.1 (by decide)
        · exact absurd z.1 (by decide)
        · exact absurd z.1 (by decide)
        · exact absurd z.1 (by decide)
        · exact Or.inr (Or.inr (Or.inr (Or.inr (Or.inr (Or.inl ⟨rfl, z.2.1, z.2.2.1, z.2.2.2.1, h2.1, h2.2⟩)))))
        · exact absurd z (by decide)
        · exact absurd z (by decide)
      · rw [if_neg h2, bad7, bad8]
        exact ⟨_, _, _, rfl, rfl, fun _ _ => rfl, hW⟩
    · rw [if_neg c5, if_neg c5, in_t, bq1, ite01, tt]
      have e0 : (0 : Int64).toInt = 0 := rfl
      have e3 : (3 : Int64).toInt = 3 := rfl
      have e99 : (99 : Int64).toInt = 99 := rfl
      rw [e0, e3]
      have u76 : f_X7_alter_b76 4 (nI kO) (nI i) y fO = some (-1, fO) := bad7
      have u72 : f_X8_alter_b72 (nI i) y st = some (-1, st) := bad8
      have u62 : f_X7_alter_b62 4 (nI kO) (nI i) y fO = if 0 ≤ y.toInt ∧ y.toInt ≤ 99 then some (st (104 + i), upd fO (4 * i + 2) y) else some (-1, fO) := by
        unfold f_X7_alter_b62
        by_cases q1 : y.toInt < 0
        · rw [if_pos (by rw [li, l0]; exact q1), if_neg (by omega), u76]
        · rw [if_neg (by rw [li, l0]; exact q1)]
          by_cases q2 : y.toInt ≤ 99
          · rw [if_neg (by rw [li]; show ¬ (99 : Int) < y.toInt; omega), if_pos (by omega)]; exact good7
          · rw [if_pos (by rw [li]; show (99 : Int) < y.toInt; omega), if_neg (by omega), u76]
      rw [u76, u62]
      by_cases q0 : 0 ≤ (st (24 + i)).toInt ∧ (st (24 + i)).toInt ≤ 3
      · rw [if_pos q0, in_t, bq1, ite01, tt, e0, e99, u72, show f_X8_alter_b73 (nI i) y (1 : Int32) st = _ from good8]
        have hsel : ∀ (A B : Option (Int32 × (Nat → Int32))), (if st (24 + i) = 0 then A else if st (24 + i) = 1 then A else if st (24 + i) = 2 then A else if st (24 + i) = 3 then A else B) = A := by
          intro A B
          by_cases z0 : st (24 + i) = 0
          · rw [if_pos z0]
          · by_cases z1 : st (24 + i) = 1
            · rw [if_neg z0, if_pos z1]
            · by_cases z2 : st (24 + i) = 2
              · rw [if_neg z0, if_neg z1, if_pos z2]
              · have z3 : st (24 + i) = 3 := by
                  rw [ei] at z0 z1 z2 ⊢
                  have a0 : ((0 : Int32)).toInt = 0 := rfl
                  have a1 : ((1 : Int32)).toInt = 1 := rfl
                  have a2 : ((2 : Int32)).toInt = 2 := rfl
                  have a3 : ((3 : Int32)).toInt = 3 := rfl
                  omega
                rw [if_neg z0, if_neg z1, if_neg z2, if_pos z3]
        rw [hsel]
        by_cases h2 : 0 ≤ y.toInt ∧ y.toInt ≤ 99
        · rw [if_pos h2, if_pos h2]
          refine ⟨_, _, _, rfl, rfl, fun j hj => pk_un (by omega), hW.alt hi40 y ?_⟩
          unfold OpV at hv ⊢
          rcases hv with z | z | z | z | z | z | z | z
          · exact Or.inl ⟨z.1, h2.1, h2.2⟩
          · exact Or.inr (Or.inl ⟨z.1, z.2.1, z.2.2.1, h2.1, h2.2⟩)
          · exact Or.inr (Or.inr (Or.inl ⟨z.1, h2.1, h2.2⟩))
          · exact Or.inr (Or.inr (Or.inr (Or.inl ⟨z.1, z.2.1, z.2.2.1, z.2.2.2.1, h2.1, h2.2⟩)))
          · rw [z.1] at q0; exact absurd q0.2 (by decide)
          · exact absurd z.1 c5
          · rw [z] at q0; exact absurd q0.2 (by decide)
          · rw [z] at q0; exact absurd q0.2 (by decide)
        · rw [if_neg h2, if_neg h2]
          exact ⟨_, _, _, rfl, rfl, fun _ _ => rfl, hW⟩
      · rw [if_neg q0, u72]
        have n0 : ∀ c : Nat, c < 4 → ¬ st (24 + i) = nI c := by
          intro c hc z
          rw [z, nT (by omega)] at q0
          omega
        rw [if_neg (show ¬ st (24 + i) = 0 from n0 0 (by omega)), if_neg (show ¬ st (24 + i) = 1 from n0 1 (by omega)), if_neg (show ¬ st (24 + i) = 2 from n0 2 (by omega)), if_neg (show ¬ st (24 + i) = 3 from n0 3 (by omega))]
        exact ⟨_, _, _, rfl, rfl, fun _ _ => rfl, hW⟩
  · rw [if_neg h1, if_neg h1]
    exact ⟨_, _, _, rfl, rfl, fun _ _ => rfl, hW⟩
end WREL7
