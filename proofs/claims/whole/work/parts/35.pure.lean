/-! the text: names -/
def NL (i t : Nat) : Int32 := (sByt.getD i []).getD t 0
def lnN (i : Nat) : Nat := sLen.getD i 0
def sig12 : List Nat := [8, 9, 0, 1, 2, 3, 4, 5, 6, 7, 10, 11]
def EN : List Nat := [0, 3, 6, 8, 12, 15, 19, 23, 25, 29, 34, 38, 42]
def LEL : List Int32 := [102, 117, 110, 115, 105, 103, 103, 111, 98, 97, 115, 101, 111, 102, 102, 115, 97, 118, 101, 107, 101, 101, 112, 105, 110, 109, 97, 114, 107, 114, 101, 115, 101, 116, 108, 97, 110, 100, 99, 97, 108, 108]
def ElR (ends letters : Nat → Int32) : Prop := (∀ j, j < 13 → ends j = nI (EN.getD j 0)) ∧ ∀ j, j < 42 → letters j = LEL.getD j 0
theorem nl_chr : ∀ i, i < 12 → ∀ t, t < 5 → t < lnN i → sChr i (nI t) = NL i t := by decide +kernel
theorem nl_len : ∀ i, i < 12 → 1 ≤ lnN i ∧ lnN i ≤ 5 := by decide +kernel
theorem nl_en : ∀ m, m < 12 → EN.getD (m + 1) 0 = EN.getD m 0 + lnN (sig12.getD m 0) ∧ EN.getD m 0 + lnN (sig12.getD m 0) ≤ 42 ∧ sig12.getD m 0 < 12 := by decide +kernel
theorem nl_let : ∀ m, m < 12 → ∀ t, t < 5 → t < lnN (sig12.getD m 0) → LEL.getD (EN.getD m 0 + t) 0 = NL (sig12.getD m 0) t := by decide +kernel
theorem nl_un : ∀ i, i < 12 → ∀ j, j < 12 → i ≠ j → lnN i = lnN j → ∃ t, t < 5 ∧ t < lnN i ∧ NL i t ≠ NL j t := by decide +kernel
theorem sig_on : ∀ i, i < 12 → ∃ m, m < 12 ∧ sig12.getD m 0 = i := by decide +kernel
theorem sig_in : ∀ m, m < 12 → ∀ k, k < 12 → sig12.getD m 0 = sig12.getD k 0 → m = k := by decide +kernel
theorem nmI_e : ∀ i, i < 12 → nmI (nI i) = i := by decide +kernel
def eqB (tape : Nat → Int32) (p i : Nat) : Nat → Nat → Bool
  | 0, _ => true
  | n + 1, t => decide (tape (p + t) = NL i t) && eqB tape p i n (t + 1)
theorem eqB_t {tape : Nat → Int32} {p i : Nat} : ∀ {n t : Nat}, eqB tape p i n t = true → ∀ u, t ≤ u → u < t + n → tape (p + u) = NL i u
  | 0, t, _, u, h1, h2 => by omega
  | n + 1, t, h, u, h1, h2 => by
    rw [eqB, Bool.and_eq_true] at h
    by_cases e : u = t
    · subst e; exact of_decide_eq_true h.1
    · exact eqB_t h.2 u (by omega) (by omega)
/-- the token from p to q is name i -/
def mtB (tape : Nat → Int32) (p q i : Nat) : Bool := decide (q - p = lnN i) && eqB tape p i (lnN i) 0
theorem mt_un {tape : Nat → Int32} {p q i j : Nat} (hi : i < 12) (hj : j < 12) (h1 : mtB tape p q i = true) (h2 : mtB tape p q j = true) : i = j := by
  unfold mtB at h1 h2
  rw [Bool.and_eq_true] at h1 h2
  have e1 := of_decide_eq_true h1.1
  have e2 := of_decide_eq_true h2.1
  refine Classical.byContradiction fun hne => ?_
  obtain ⟨t, t1, t2, t3⟩ := nl_un i hi j hj hne (by omega)
  exact t3 ((eqB_t h1.2 t (by omega) (by omega)).symm.trans (eqB_t h2.2 t (by omega) (by omega)))
section NAMES
variable {L : Nat} {bytes tape ends letters : Nat → Int32} {p q : Nat}
theorem isN_L (hT : TpR L bytes tape) {i : Nat} (hi : i < 12) (hp : p + lnN i ≤ L) : ∀ (n t : Nat), t ≤ lnN i → lnN i - t < n → f_X4_isNamed_L28 i 2 (nI p) (nI q) bytes n (nI t) = some (if eqB tape p i (lnN i - t) t = true then 1 else 0)
  | 0, t, _, h2 => by omega
  | n + 1, t, h1, h2 => by
    have hl := nl_len i hi
    have hL := hT.1
    rw [f_X4_isNamed_L28, show nI (sLen.getD i 0) = nI (lnN i) from rfl]
    by_cases ht : t = lnN i
    · rw [ht, if_pos (Int32.le_refl _), Nat.sub_self]; rfl
    · rw [if_neg (show ¬ nI (lnN i) ≤ nI t by rw [le, nT (by omega), nT (by omega)]; omega), nI_add, ckN (by omega) (by omega), nC (n := p + t) (by omega), ck_e (show ¬ nI t < 0 ∧ nI t < nI (lnN i) ∧ ¬ (nI t < 0 ∨ sLen.getD i 0 ≤ (nI t).toNatClampNeg) from ⟨fun z => by rw [li, l0, nT (by omega)] at z; omega, by rw [li, nT (by omega), nT (by omega)]; omega, fun z => by
        rcases z with z | z
        · rw [li, l0, nT (by omega)] at z; omega
        · rw [nC (by omega)] at z
          have : lnN i ≤ t := z
          omega⟩), nl_chr i hi t (by omega) (by omega), (hT.2 (p + t) (by omega)).1, nI_1]
      obtain ⟨m, hm⟩ : ∃ m, lnN i - t = m + 1 := ⟨lnN i - t - 1, by omega⟩
      have r0 := isN_L hT hi hp n (t + 1) (by omega) (by omega)
      rw [show lnN i - (t + 1) = m by omega] at r0
      rw [hm, eqB, r0]
      by_cases c : tape (p + t) = NL i t
      · rw [if_pos c, decide_eq_true c, Bool.true_and]
      · rw [if_neg c, decide_eq_false c, Bool.false_and, if_neg (by decide)]
theorem isN_e (hT : TpR L bytes tape) {i : Nat} (hi : i < 12) (hpq : p ≤ q) (hq : q ≤ L) : f_X4_isNamed (nmI (nI i)) 2 (nI p) (nI q) bytes = some (if mtB tape p q i = true then 1 else 0) := by
  have hl := nl_len i hi
  have hL := hT.1
  unfold f_X4_isNamed mtB
  rw [nmI_e i hi, if_pos rfl, pk_sub hpq, show nI (sLen.getD i 0) = nI (lnN i) from rfl]
  by_cases c : q - p = lnN i
  · rw [if_pos (show nI (q - p) = nI (lnN i) by rw [c]), show f_X4_isNamed_L28 i 2 (nI p) (nI q) bytes FUEL 0 = _ from isN_L hT hi (by omega) FUEL 0 (by omega) (by unfold FUEL; omega), Nat.sub_zero, decide_eq_true c, Bool.true_and]
  · rw [if_neg (show ¬ nI (q - p) = nI (lnN i) from fun z => c (by rw [ei, nT (by omega), nT (by omega)] at z; omega)), decide_eq_false c, Bool.false_and, if_neg (by decide)]
theorem lin_L (hT : TpR L bytes tape) (hpq : p ≤ q) (hq : q ≤ L) {fp : Int32} {i0 : Nat} (h0 : i0 ≤ 12) (hm : i0 < 12 → mtB tape p q i0 = true) (hn : ∀ i, i < i0 → ¬ mtB tape p q i = true) : ∀ (n i : Nat), i ≤ i0 → i0 - i < n → f_X4_lineNamed_L2 2 (nI p) (nI q) bytes n (nI i) 0 fp = f_X4_lineNamed_b25 2 (nI p) (nI q) bytes (nI i0) 0 fp
  | 0, i, _, h2 => by omega
  | n + 1, i, h1, h2 => by
    rw [f_X4_lineNamed_L2]
    by_cases h12 : i = 12
    · rw [if_pos (show (12 : Int32) ≤ nI i by rw [h12]; decide), show i0 = i by omega]
    · rw [if_neg (show ¬ (12 : Int32) ≤ nI i from fun z => by rw [le, nT (by omega)] at z; have : (12 : Int) ≤ i := z; omega), isN_e hT (by omega) hpq hq, bq1, ite01, nI_1]
      by_cases e : i = i0
      · subst e
        rw [if_pos (hm (by omega))]
      · rw [if_neg (hn i (by omega))]
        exact lin_L hT hpq hq h0 hm hn n (i + 1) (by omega) (by omega)
theorem lin_no {tk : Int32} (h : ¬ tk = 2) (tf tt_ fp : Int32) : f_X4_lineNamed 0 fp tk tf tt_ bytes = some (0, 2, tf) := by
  have key : ∀ (n i : Nat), i ≤ 12 → 12 - i < n → f_X4_lineNamed_L2 tk tf tt_ bytes n (nI i) 0 fp = some (0, 2, tf) := by
    intro n
    induction n with
    | zero => intro i _ h2; omega
    | succ n ih =>
      intro i h1 h2
      rw [f_X4_lineNamed_L2]
      by_cases h12 : i = 12
      · rw [if_pos (show (12 : Int32) ≤ nI i by rw [h12]; decide), h12]; rfl
      · rw [if_neg (show ¬ (12 : Int32) ≤ nI i from fun z => by rw [le, nT (by omega)] at z; have : (12 : Int) ≤ i := z; omega)]
        unfold f_X4_isNamed
        rw [if_neg h, bq1, if_pos rfl, nI_1]
        exact ih (i + 1) (by omega) (by omega)
  exact key FUEL 0 (by omega) (by unfold FUEL; omega)
theorem nam_L (hT : TpR L bytes tape) (hE : ElR ends letters) {K : Int32 → Option Int32} {m : Nat} (hm : m < 12) (hpq : p ≤ q) (hq : q ≤ L) (hl : q - p = lnN (sig12.getD m 0)) : ∀ (n t : Nat), t ≤ q - p → q - p - t + 1 < n → f_X8_nameHere_L51 (nI L) (nI q) (nI p) 1 tape ends letters K n (nI m) 1 (nI t) = if eqB tape p (sig12.getD m 0) (q - p - t) t = true then some (nI m) else K (nI m + 1)
  | 0, t, _, h2 => by omega
  | n + 1, t, h1, h2 => by
    have h3 := nl_en m hm
    have h4 := nl_len _ h3.2.2
    have hL := hT.1
    rw [f_X8_nameHere_L51, if_neg (show ¬ (1 : Int32) = 0 by decide), pk_sub hpq]
    by_cases ht : t = q - p
    · subst ht
      rw [if_pos (Int32.le_refl _), Nat.sub_self]
      unfold f_X8_nameHere_b106
      rw [if_neg (show ¬ (1 : Int32) = 0 by decide)]; rfl
    · rw [if_neg (show ¬ nI (q - p) ≤ nI t by rw [le, nT (by omega), nT (by omega)]; omega), nI_add, byt_in hL (by omega), bq1, ckN (by omega) (by omega), nC (by omega), hE.1 m (by omega), nI_add, ckN (by omega) (by omega), nC (by omega), hE.2 _ (by omega), nl_let m hm t (by omega) (by omega), nI_1]
      obtain ⟨k, hk⟩ : ∃ k, q - p - t = k + 1 := ⟨q - p - t - 1, by omega⟩
      have r0 := nam_L hT hE (K := K) hm hpq hq hl n (t + 1) (by omega) (by omega)
      rw [show q - p - (t + 1) = k by omega] at r0
      rw [hk, eqB, r0]
      by_cases c : tape (p + t) = NL (sig12.getD m 0) t
      · rw [if_pos c, decide_eq_true c, Bool.true_and]
      · obtain ⟨n', rfl⟩ : ∃ n', n = n' + 1 := ⟨n - 1, by omega⟩
        rw [if_neg c, decide_eq_false c, Bool.false_and, f_X8_nameHere_L51, if_pos rfl, if_neg (show ¬ false = true by decide)]
        unfold f_X8_nameHere_b106
        rw [if_pos rfl]
theorem her_L (hT : TpR L bytes tape) (hE : ElR ends letters) (hpq : p ≤ q) (hq : q ≤ L) {m0 : Nat} (h0 : m0 ≤ 12) (hm : m0 < 12 → mtB tape p q (sig12.getD m0 0) = true) (hn : ∀ m, m < m0 → ¬ mtB tape p q (sig12.getD m 0) = true) : ∀ (n m : Nat), m ≤ m0 → m0 - m < n → f_X8_nameHere_L2 (nI L) (nI q) (nI p) 1 tape ends letters n (nI m) = some (if m0 < 12 then nI m0 else -4)
  | 0, m, _, h2 => by omega
  | n + 1, m, h1, h2 => by
    have hL := hT.1
    rw [f_X8_nameHere_L2]
    by_cases h12 : m = 12
    · rw [if_pos (show (12 : Int32) ≤ nI m by rw [h12]; decide), if_neg (by omega)]
    · have h3 := nl_en m (by omega)
      rw [if_neg (show ¬ (12 : Int32) ≤ nI m from fun z => by rw [le, nT (by omega)] at z; have : (12 : Int) ≤ m := z; omega), if_pos rfl, nI_1, ckN (by omega) (by omega), ckN (by omega) (by omega), nC (by omega), nC (by omega), hE.1 m (by omega), hE.1 (m + 1) (by omega), pk_sub hpq, pk_sub (by omega), h3.1, Nat.add_sub_cancel_left]
      have h5 := nl_len _ h3.2.2
      by_cases c : q - p = lnN (sig12.getD m 0)
      · rw [if_pos (show nI (q - p) = nI (lnN (sig12.getD m 0)) by rw [c]), show f_X8_nameHere_L51 (nI L) (nI q) (nI p) 1 tape ends letters (f_X8_nameHere_L2 (nI L) (nI q) (nI p) 1 tape ends letters n) FUEL (nI m) 1 0 = _ from nam_L hT hE (by omega) hpq hq c FUEL 0 (by omega) (by unfold FUEL; omega), nI_1]
        have em : mtB tape p q (sig12.getD m 0) = eqB tape p (sig12.getD m 0) (q - p - 0) 0 := by
          unfold mtB; rw [decide_eq_true c, Bool.true_and, Nat.sub_zero, c]
        rw [← em]
        by_cases e : m = m0
        · subst e
          rw [if_pos (hm (by omega)), if_pos (by omega)]
        · rw [if_neg (hn m (by omega))]
          exact her_L hT hE hpq hq h0 hm hn n (m + 1) (by omega) (by omega)
      · have nm : ¬ mtB tape p q (sig12.getD m 0) = true := by unfold mtB; rw [decide_eq_false c, Bool.false_and]; decide
        have e : ¬ m = m0 := fun z => nm (by rw [z]; exact hm (by omega))
        rw [if_neg (show ¬ nI (q - p) = nI (lnN (sig12.getD m 0)) from fun z => c (by rw [ei, nT (by omega), nT (by omega)] at z; omega))]
        rw [show FUEL = 4095 + 1 from rfl, f_X8_nameHere_L51, if_pos rfl]
        unfold f_X8_nameHere_b106
        rw [if_pos rfl, nI_1]
        exact her_L hT hE hpq hq h0 hm hn n (m + 1) (by omega) (by omega)
theorem her_no {to : Int32} (h : ¬ to = 1) (T sp he : Int32) : f_X8_nameHere T sp he to tape ends letters = some (-4) := by
  unfold f_X8_nameHere
  rw [show FUEL = 4095 + 1 from rfl, f_X8_nameHere_L2, if_neg (by decide), if_neg h]
/-- the line that a token names, in both -/
theorem name_e (hT : TpR L bytes tape) (hE : ElR ends letters) {tk tn to va fp : Int32} (hpq : p ≤ q) (hq : q ≤ L) (hk : Tok L tk tn to va p q) : (f_X4_lineNamed 0 fp tk (nI p) (nI q) bytes = some (0, 2, nI p) ∧ f_X8_nameHere (nI L) (nI q) (nI p) to tape ends letters = some (-4)) ∨ (p < q ∧ ∃ m, m < 12 ∧ f_X4_lineNamed 0 fp tk (nI p) (nI q) bytes = some (nI (sig12.getD m 0), 0, fp) ∧ f_X8_nameHere (nI L) (nI q) (nI p) to tape ends letters = some (nI m)) := by
  have other : ¬ tk = 2 → ¬ to = 1 → (f_X4_lineNamed 0 fp tk (nI p) (nI q) bytes = some (0, 2, nI p) ∧ f_X8_nameHere (nI L) (nI q) (nI p) to tape ends letters = some (-4)) ∨ (p < q ∧ ∃ m, m < 12 ∧ f_X4_lineNamed 0 fp tk (nI p) (nI q) bytes = some (nI (sig12.getD m 0), 0, fp) ∧ f_X8_nameHere (nI L) (nI q) (nI p) to tape ends letters = some (nI m)) := fun n2 n1 => Or.inl ⟨lin_no n2 _ _ _, her_no n1 _ _ _⟩
  rcases hk with z | z | z | z
  · exact other (by rw [z.1]; decide) (by rw [z.2.1]; decide)
  · rw [z.1, z.2.1]
    by_cases c : ∃ i, i < 12 ∧ mtB tape p q i = true
    · obtain ⟨i, hi, hm⟩ := c
      obtain ⟨m, h1, h2⟩ := sig_on i hi
      refine Or.inr ⟨z.2.2, m, h1, ?_, ?_⟩
      · unfold f_X4_lineNamed
        rw [h2, show f_X4_lineNamed_L2 2 (nI p) (nI q) bytes FUEL 0 0 fp = _ from lin_L hT hpq hq (i0 := i) (by omega) (fun _ => hm) (fun j hj y => by have := mt_un (by omega) hi y hm; omega) FUEL 0 (by omega) (by unfold FUEL; omega)]
        unfold f_X4_lineNamed_b25 f_X4_lineNamed_b37
        rw [if_neg (show ¬ (12 : Int32) ≤ nI i from fun z => by rw [le, nT (by omega)] at z; have : (12 : Int) ≤ i := z; omega), runl1, bq2, if_neg (show ¬ (12 : Int32) ≤ nI i from fun z => by rw [le, nT (by omega)] at z; have : (12 : Int) ≤ i := z; omega)]
      · unfold f_X8_nameHere
        rw [show f_X8_nameHere_L2 (nI L) (nI q) (nI p) 1 tape ends letters FUEL 0 = _ from her_L hT hE hpq hq (m0 := m) (by omega) (fun _ => by rw [h2]; exact hm) (fun k hk y => by
          have e1 := mt_un (nl_en k (by omega)).2.2 hi y hm
          have := sig_in k (by omega) m h1 (e1.trans h2.symm)
          omega) FUEL 0 (by omega) (by unfold FUEL; omega), if_pos h1]
    · have hn : ∀ i, i < 12 → ¬ mtB tape p q i = true := fun i hi y => c ⟨i, hi, y⟩
      refine Or.inl ⟨?_, ?_⟩
      · unfold f_X4_lineNamed
        rw [show f_X4_lineNamed_L2 2 (nI p) (nI q) bytes FUEL 0 0 fp = _ from lin_L hT hpq hq (i0 := 12) (by omega) (fun y => by omega) (fun j hj => hn j hj) FUEL 0 (by omega) (by unfold FUEL; omega)]; rfl
      · unfold f_X8_nameHere
        rw [show f_X8_nameHere_L2 (nI L) (nI q) (nI p) 1 tape ends letters FUEL 0 = _ from her_L hT hE hpq hq (m0 := 12) (by omega) (fun y => by omega) (fun k hk => hn _ (nl_en k hk).2.2) FUEL 0 (by omega) (by unfold FUEL; omega), if_neg (by omega)]
  · exact other (by rw [z.1]; decide) (by rw [z.2.1]; decide)
  · exact other (by rw [z.1]; decide) (by rw [z.2.1]; decide)
end NAMES
