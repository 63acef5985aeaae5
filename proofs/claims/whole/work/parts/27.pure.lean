/-! guesses: lists of words by their scores -/
def fl (S : Nat → Nat) (s : Nat) : Nat → Nat → List Nat
  | 0, _ => []
  | n + 1, w => if S w = s then w :: fl S s n (w + 1) else fl S s n (w + 1)
def FF (S : Nat → Nat) (a n : Nat) : Nat → List Nat
  | 0 => []
  | s + 1 => fl S (s + 1) n a ++ FF S a n s
def UF (S : Nat → Nat) (a n s : Nat) : Nat → List Nat
  | 0 => []
  | d + 1 => fl S (s + d + 1) n a ++ UF S a n s d
def nthF (g : Nat → Int32) : List Nat → Nat → Int32
  | [], _ => -4
  | x :: _, 0 => g x
  | _ :: t, i + 1 => nthF g t i
theorem nthF_out (g : Nat → Int32) : ∀ (L : List Nat) (i : Nat), L.length ≤ i → nthF g L i = -4
  | [], _, _ => rfl
  | x :: t, 0, h => by simp at h
  | x :: t, i + 1, h => by rw [nthF]; exact nthF_out g t i (by simpa using h)
theorem nthF_lt (g : Nat → Int32) (B : List Nat) : ∀ (A : List Nat) (i : Nat), i < A.length → nthF g (A ++ B) i = nthF g A i
  | [], i, h => by simp at h
  | x :: t, 0, h => rfl
  | x :: t, i + 1, h => by
    show nthF g (t ++ B) i = nthF g t i
    exact nthF_lt g B t i (by simpa using h)
theorem nthF_ge (g : Nat → Int32) (B : List Nat) : ∀ (A : List Nat) (i : Nat), nthF g (A ++ B) (A.length + i) = nthF g B i
  | [], i => by show nthF g B (0 + i) = _; rw [Nat.zero_add]
  | x :: t, i => by
    rw [show (x :: t).length + i = (t.length + i) + 1 by simp; omega]
    exact nthF_ge g B t i
theorem nthF_mem : ∀ (L : List Nat) (i : Nat), i < L.length → ∃ w, w ∈ L ∧ ∀ g, nthF g L i = g w
  | [], i, h => by simp at h
  | x :: t, 0, h => ⟨x, by simp, fun _ => rfl⟩
  | x :: t, i + 1, h => by
    obtain ⟨w, h1, h2⟩ := nthF_mem t i (by simpa using h)
    exact ⟨w, by simp [h1], fun g => h2 g⟩
theorem fl_snoc (S : Nat → Nat) (s : Nat) : ∀ (n w : Nat), fl S s (n + 1) w = fl S s n w ++ (if S (w + n) = s then [w + n] else [])
  | 0, w => by
    by_cases h : S w = s
    · simp [fl, h]
    · simp [fl, h]
  | n + 1, w => by
    rw [fl, fl_snoc S s n (w + 1), show w + 1 + n = w + (n + 1) by omega]
    by_cases h : S w = s
    · rw [if_pos h, show fl S s (n + 1) w = w :: fl S s n (w + 1) by rw [fl, if_pos h]]; rfl
    · rw [if_neg h, show fl S s (n + 1) w = fl S s n (w + 1) by rw [fl, if_neg h]]
theorem fl_mem (S : Nat → Nat) (s : Nat) : ∀ (n w x : Nat), x ∈ fl S s n w → S x = s ∧ w ≤ x ∧ x < w + n
  | 0, w, x, h => by rw [fl] at h; simp at h
  | n + 1, w, x, h => by
    rw [fl] at h
    by_cases hw : S w = s
    · rw [if_pos hw] at h
      rcases List.mem_cons.mp h with e | e
      · subst e; exact ⟨hw, by omega, by omega⟩
      · have := fl_mem S s n (w + 1) x e
        exact ⟨this.1, by omega, by omega⟩
    · rw [if_neg hw] at h
      have := fl_mem S s n (w + 1) x h
      exact ⟨this.1, by omega, by omega⟩
theorem FF_mem (S : Nat → Nat) (a n : Nat) : ∀ (s x : Nat), x ∈ FF S a n s → 1 ≤ S x ∧ S x ≤ s ∧ a ≤ x ∧ x < a + n
  | 0, x, h => by rw [FF] at h; simp at h
  | s + 1, x, h => by
    rw [FF] at h
    rcases List.mem_append.mp h with e | e
    · have := fl_mem S (s + 1) n a x e; omega
    · have := FF_mem S a n s x e; omega
theorem UF_mem (S : Nat → Nat) (a n s : Nat) : ∀ (d x : Nat), x ∈ UF S a n s d → s + 1 ≤ S x
  | 0, x, h => by rw [UF] at h; simp at h
  | d + 1, x, h => by
    rw [UF] at h
    rcases List.mem_append.mp h with e | e
    · have := fl_mem S (s + d + 1) n a x e; omega
    · exact UF_mem S a n s d x e
theorem FF_split (S : Nat → Nat) (a n s : Nat) : ∀ d : Nat, FF S a n (s + d) = UF S a n s d ++ FF S a n s
  | 0 => rfl
  | d + 1 => by
    show FF S a n (s + d + 1) = _
    rw [FF, UF, FF_split S a n s d, List.append_assoc]
theorem fl_no (S : Nat → Nat) {s n a : Nat} (h : ¬ S (a + n) = s) : fl S s (n + 1) a = fl S s n a := by
  rw [fl_snoc, if_neg h, List.append_nil]
theorem FF_no (S : Nat → Nat) {n a : Nat} : ∀ (s : Nat), (S (a + n) = 0 ∨ s < S (a + n)) → FF S a (n + 1) s = FF S a n s
  | 0, _ => rfl
  | s + 1, h => by rw [FF, FF, fl_no S (by omega), FF_no S s (by omega)]
theorem UF_add (S : Nat → Nat) {n a s : Nat} (h : S (a + n) = s + 1) : ∀ d : Nat, UF S a (n + 1) s (d + 1) = UF S a n s (d + 1) ++ [a + n]
  | 0 => by
    rw [UF, UF, UF, UF, fl_snoc, if_pos (by omega), List.append_nil, List.append_nil]
  | d + 1 => by
    rw [UF, UF_add S h d, fl_no S (by omega)]
    rw [show UF S a n s (d + 1 + 1) = fl S (s + (d + 1) + 1) n a ++ UF S a n s (d + 1) from rfl, List.append_assoc]
/-- a further word goes behind those of its score -/
theorem FF_add (S : Nat → Nat) {n a s : Nat} (h : S (a + n) = s + 1) (h7 : s + 1 ≤ 7) : FF S a n 7 = UF S a n s (7 - s) ++ FF S a n s ∧ FF S a (n + 1) 7 = UF S a n s (7 - s) ++ ((a + n) :: FF S a n s) := by
  obtain ⟨d, hd⟩ : ∃ d, 7 - s = d + 1 := ⟨7 - s - 1, by omega⟩
  have e : 7 = s + (d + 1) := by omega
  rw [hd]
  constructor
  · have := FF_split S a n s (d + 1)
    rw [← e] at this; exact this
  · have := FF_split S a (n + 1) s (d + 1)
    rw [← e, UF_add S h d, FF_no S s (by omega), List.append_assoc] at this
    exact this
/-! the class enters a word -/
def HuR (size : Int32) (pl sc : Nat → Int32) (S : Nat → Nat) (L : List Nat) : Prop := size = nI L.length ∧ ∀ j, j < L.length → pl j = nthF nI L j ∧ sc j = nthF (fun w => nI (S w)) L j
theorem ent_L {S : Nat → Nat} {A B : List Nat} {x : Nat} {size : Int32} (hS : ∀ w, S w ≤ 7) (hA : ∀ w, w ∈ A → S x ≤ S w) (hB : ∀ w, w ∈ B → S w < S x) (hc : A.length + B.length < 16) : ∀ (n t : Nat) (P Q : Nat → Int32), t ≤ B.length → t + A.length < n → (∀ j, j < A.length + t → P j = nthF nI (A ++ B) j ∧ Q j = nthF (fun w => nI (S w)) (A ++ B) j) → (∀ j, A.length + t < j → j ≤ A.length + B.length → P j = nthF nI (A ++ x :: B) j ∧ Q j = nthF (fun w => nI (S w)) (A ++ x :: B) j) → ∃ P' Q', f_X0_enter_L10 n (nI x) (nI (S x)) (nI (A.length + t)) size P Q = some ((if (16 : Int32) < size + (1 : Int32) then (16 : Int32) else size + (1 : Int32)), P', Q') ∧ ∀ j, j ≤ A.length + B.length → P' j = nthF nI (A ++ x :: B) j ∧ Q' j = nthF (fun w => nI (S w)) (A ++ x :: B) j
  | 0, t, P, Q, _, h2, _, _ => by omega
  | n + 1, t, P, Q, h1, h2, hp, hq => by
    rw [f_X0_enter_L10]
    have fin : t = 0 → ∃ P' Q', f_X0_enter_b60 (nI x) (nI (S x)) (nI (A.length + t)) size P Q = some ((if (16 : Int32) < size + (1 : Int32) then (16 : Int32) else size + (1 : Int32)), P', Q') ∧ ∀ j, j ≤ A.length + B.length → P' j = nthF nI (A ++ x :: B) j ∧ Q' j = nthF (fun w => nI (S w)) (A ++ x :: B) j := by
      intro ht
      subst ht
      unfold f_X0_enter_b60
      rw [ckN (by omega) (by omega), ckN (by omega) (by omega), nC (by omega), Nat.add_zero]
      refine ⟨_, _, rfl, fun j hj => ?_⟩
      rcases Nat.lt_trichotomy j A.length with q | q | q
      · rw [pk_un (by omega), pk_un (by omega), nthF_lt _ _ _ _ q, nthF_lt _ _ _ _ q]
        have := hp j (by omega)
        rw [nthF_lt _ _ _ _ q, nthF_lt _ _ _ _ q] at this
        exact this
      · subst q
        rw [pk_us, pk_us]
        have e1 := nthF_ge nI (x :: B) A 0
        have e2 := nthF_ge (fun w => nI (S w)) (x :: B) A 0
        rw [Nat.add_zero] at e1 e2
        rw [e1, e2]; exact ⟨rfl, rfl⟩
      · rw [pk_un (by omega), pk_un (by omega)]
        exact hq j (by omega) hj
    by_cases h0 : A.length + t = 0
    · rw [if_pos (show nI (A.length + t) ≤ 0 by rw [h0]; decide)]
      exact fin (by omega)
    · rw [if_neg (show ¬ nI (A.length + t) ≤ 0 from fun z => by rw [le, l0, nT (by omega)] at z; omega), show nI (A.length + t) - 1 = nI (A.length + t - 1) from pk_sub (b := 1) (by omega), ckN (by omega) (by omega), nC (by omega)]
      have hx7 := hS x
      obtain ⟨w, w1, w2⟩ := nthF_mem (A ++ B) (A.length + t - 1) (by rw [List.length_append]; omega)
      have hq1 := hp (A.length + t - 1) (by omega)
      have hw7 := hS w
      have esc : Q (A.length + t - 1) = nI (S w) := by rw [hq1.2, w2]
      rw [esc]
      by_cases ht : t = 0
      · have hwA : w ∈ A := by
          subst ht
          obtain ⟨w', w1', w2'⟩ := nthF_mem A (A.length + 0 - 1) (by omega)
          have e1 := nthF_lt (fun w => nI w) B A (A.length + 0 - 1) (by omega)
          have : S w = S w' := by
            have e3 := nthF_lt (fun w => nI (S w)) B A (A.length + 0 - 1) (by omega)
            rw [w2, w2'] at e3
            have e4 : nI (S w) = nI (S w') := e3
            have b' := hS w'
            rw [ei, nT (by omega), nT (by omega)] at e4
            omega
          exact Classical.byContradiction fun hn => by
            rcases List.mem_append.mp w1 with z | z
            · exact hn z
            · have a1 := hB w z
              have a2 := hA w' w1'
              omega
        rw [if_pos (show nI (S x) ≤ nI (S w) by rw [le, nT (by omega), nT (by omega)]; have := hA w hwA; omega)]
        exact fin ht
      · have hwB : S w < S x := by
          obtain ⟨w', w1', w2'⟩ := nthF_mem B (t - 1) (by omega)
          have e3 := nthF_ge (fun w => nI (S w)) B A (t - 1)
          rw [show A.length + (t - 1) = A.length + t - 1 by omega, w2, w2'] at e3
          have e4 : nI (S w) = nI (S w') := e3
          have b' := hS w'
          rw [ei, nT (by omega), nT (by omega)] at e4
          have := hB w' w1'
          omega
        rw [if_neg (show ¬ nI (S x) ≤ nI (S w) from fun z => by rw [le, nT (by omega), nT (by omega)] at z; omega), ckN (by omega) (by omega), ckN (by omega) (by omega), ckN (by omega) (by omega), ckN (by omega) (by omega), nC (by omega)]
        obtain ⟨k, rfl⟩ : ∃ k, t = k + 1 := ⟨t - 1, by omega⟩
        rw [show A.length + (k + 1) = A.length + k + 1 by omega, pk_m1, show A.length + k + 1 - 1 = A.length + k by omega]
        have eP : ∀ g : Nat → Int32, nthF g (A ++ x :: B) (A.length + k + 1) = nthF g (A ++ B) (A.length + k) := fun g => by
          rw [show A.length + k + 1 = A.length + (k + 1) by omega, nthF_ge, nthF_ge]; rfl
        refine ent_L hS hA hB hc n k _ _ (by omega) (by omega) (fun j hj => ?_) (fun j hj hj2 => ?_)
        · rw [pk_un (by omega), pk_un (by omega)]; exact hp j (by omega)
        · by_cases q : j = A.length + k + 1
          · subst q
            rw [pk_us, pk_us, eP, eP]
            have := hp (A.length + k) (by omega)
            exact ⟨this.1, by rw [← this.2, show A.length + k = A.length + (k + 1) - 1 by omega, esc]⟩
          · rw [pk_un q, pk_un q]; exact hq j (by omega) hj2
theorem ent_e {S : Nat → Nat} {a n : Nat} {size : Int32} {P Q : Nat → Int32} (hS : ∀ w, S w ≤ 7) (h : HuR size P Q S (FF S a n 7)) (h1 : 0 < S (a + n)) (hn : (FF S a n 7).length < 16) : ∃ size' P' Q', f_X0_enter (nI (a + n)) (nI (S (a + n))) size P Q = some (size', P', Q') ∧ HuR size' P' Q' S (FF S a (n + 1) 7) ∧ (FF S a (n + 1) 7).length = (FF S a n 7).length + 1 := by
  obtain ⟨s, hs⟩ : ∃ s, S (a + n) = s + 1 := ⟨S (a + n) - 1, by omega⟩
  have h7 := hS (a + n)
  obtain ⟨e1, e2⟩ := FF_add S hs (by omega)
  obtain ⟨hz, hz2⟩ := h
  rw [e1] at hz hz2 hn
  rw [List.length_append] at hz hn
  obtain ⟨P', Q', r1, r2⟩ := ent_L (S := S) (A := UF S a n s (7 - s)) (B := FF S a n s) (x := a + n) (size := size) hS (fun w hw => by have := UF_mem S a n s _ w hw; omega) (fun w hw => by have := FF_mem S a n s w hw; omega) hn FUEL (FF S a n s).length P Q (Nat.le_refl _) (by unfold FUEL; omega) (fun j hj => hz2 j (by rw [List.length_append]; exact hj)) (fun j hj hj2 => by omega)
  refine ⟨(if (16 : Int32) < size + (1 : Int32) then (16 : Int32) else size + (1 : Int32)), P', Q', ?_, ⟨?_, ?_⟩, ?_⟩
  · unfold f_X0_enter
    rw [if_neg (show ¬ (15 : Int32) < size by rw [hz, li, nT (by omega)]; show ¬ (15 : Int) < _; omega)]
    rw [show size = nI ((UF S a n s (7 - s)).length + (FF S a n s).length) from hz] at r1 ⊢
    exact r1
  · rw [e2, List.length_append, List.length_cons, hz, nI_1, if_neg (show ¬ (16 : Int32) < nI ((UF S a n s (7 - s)).length + (FF S a n s).length + 1) by rw [li, nT (by omega)]; show ¬ (16 : Int) < _; omega)]; rfl
  · intro j hj
    rw [e2] at hj ⊢
    rw [List.length_append, List.length_cons] at hj
    exact r2 j (by omega)
  · rw [e1, e2, List.length_append, List.length_append, List.length_cons]; omega
/-! scores -/
def anB (P : Nat → Bool) : Nat → Nat → Bool
  | 0, _ => false
  | n + 1, i => P i || anB P n (i + 1)
theorem anB_cN (P : Nat → Bool) : ∀ (n i : Nat), anB P n i = true ↔ 0 < cN P n i
  | 0, _ => by rw [anB, cN]; simp
  | n + 1, i => by
    rw [anB, cN, Bool.or_eq_true, anB_cN P n (i + 1)]
    by_cases h : P i = true
    · rw [if_pos h]; simp [h]; omega
    · rw [if_neg h]; simp [h]
theorem anB_cong {P Q : Nat → Bool} : ∀ (n i : Nat), (∀ j, i ≤ j → j < i + n → P j = Q j) → anB P n i = anB Q n i
  | 0, _, _ => rfl
  | n + 1, i, h => by rw [anB, anB, h i (by omega) (by omega), anB_cong n (i + 1) (fun j h1 h2 => h j (by omega) (by omega))]
def clP (st : Nat → Int32) (a : Int32) (k : Nat) : Bool := decide (st (264 + 2 * k) = a)
def ldP (st : Nat → Int32) (a : Int32) (q k : Nat) : Bool := decide (st (264 + 2 * k) = a ∧ (st q).toInt ≤ (st (264 + 2 * k + 1)).toInt ∧ (st (264 + 2 * k + 1)).toInt ≤ (st (8 + q)).toInt)
/-- whether a call at a leads into r (none: no) -/
def ldB (st : Nat → Int32) (kC : Nat) (a r : Int32) : Bool := !decide (r = -4) && anB (ldP st a r.toNatClampNeg) kC 0
def scN (st : Nat → Int32) (kR kC : Nat) (a r : Int32) : Nat := if own st (fun i => st (8 + i)) a kR 0 = -4 then 0 else 1 + (if anB (clP st a) kC 0 = true then 2 else 0) + (if ldB st kC a r = true then 4 else 0)
theorem scN_7 (st : Nat → Int32) (kR kC : Nat) (a r : Int32) : scN st kR kC a r ≤ 7 := by
  unfold scN
  split
  · omega
  · split <;> split <;> omega
theorem into_L {kR kC q : Nat} {fR fC st : Nat → Int32} (a : Int32) (hR : kR ≤ 8) (hC : kC ≤ 16) (hq : q < kR) (hr : ∀ r, r < kR → fR (3 * r) = st r ∧ fR (3 * r + 1) = st (8 + r)) (hc : ∀ i, i < kC → ∀ c, c < 2 → fC (2 * i + c) = st (264 + 2 * i + c)) : ∀ (n i : Nat), i ≤ kC → kC - i < n → f_X6_isCallInto_L2 3 (nI kR) fR 2 (nI kC) fC n a (nI q) (nI i) = some (if anB (ldP st a q) (kC - i) i = true then 1 else 0)
  | 0, i, _, h2 => by omega
  | n + 1, i, h1, h2 => by
    rw [f_X6_isCallInto_L2]
    by_cases hi : i = kC
    · subst hi
      rw [if_pos (Int32.le_refl _), Nat.sub_self]; rfl
    · rw [if_neg (by rw [le, nT (by omega), nT (by omega)]; omega), show f_X3_at (nI i) (1 : Int32) (2 : Int32) (nI kC) 32 fC = some (fC (i * 2 + 1)) from at_in (w := 2) (c := 1) (by omega) (by omega) (by omega) (by omega), bq1, show f_X3_at (nI i) (0 : Int32) (2 : Int32) (nI kC) 32 fC = some (fC (i * 2 + 0)) from at_in (w := 2) (c := 0) (by omega) (by omega) (by omega) (by omega), bq1, Nat.mul_comm i 2, hc i (by omega) 1 (by omega), hc i (by omega) 0 (by omega), Nat.add_zero, nI_1]
      obtain ⟨m, hm⟩ : ∃ m, kC - i = m + 1 := ⟨kC - i - 1, by omega⟩
      have r0 := into_L a hR hC hq hr hc n (i + 1) (by omega) (by omega)
      rw [show kC - (i + 1) = m by omega] at r0
      rw [hm, anB, r0]
      by_cases c1 : st (264 + 2 * i) = a
      · rw [if_pos c1, meets_e _ _ hq hR hr, bq1, ite01]
        by_cases c2 : (st q).toInt ≤ (st (264 + 2 * i + 1)).toInt ∧ (st (264 + 2 * i + 1)).toInt ≤ (st (8 + q)).toInt
        · rw [if_pos c2, show ldP st a q i = true from decide_eq_true ⟨c1, c2⟩]; rfl
        · rw [if_neg c2, show ldP st a q i = false from decide_eq_false (fun z => c2 z.2)]; rfl
      · rw [if_neg c1, show ldP st a q i = false from decide_eq_false (fun z => c1 z.1)]; rfl
section WREL10
variable {nR : Int32} {fR : Nat → Int32} {nO : Int32} {fO : Nat → Int32} {nL : Int32} {fL : Nat → Int32} {nC' : Int32} {fC rg wd st : Nat → Int32} {kR kO kL kC : Nat}
theorem WR.score7 (h : WR nR fR nO fO nL fL nC' fC rg wd st kR kO kL kC) (a r : Int32) (hr : r = -4 ∨ ∃ q, q < kR ∧ r = nI q) : f_X0_scoreOf a r 3 nR fR 2 nC' fC = some (nI (scN st kR kC a r)) := by
  have ho := (h.owner a).1
  obtain ⟨hk, hn, hs, hr', hop, hl, hc, -⟩ := h
  unfold f_X0_scoreOf scN
  rw [ho, bq1]
  by_cases h1 : own st (fun i => st (8 + i)) a kR 0 = -4
  · rw [if_pos h1, if_pos h1]; rfl
  · rw [if_neg h1, if_neg h1]
    have e1 : f_X6_isCallAt a 2 nC' fC = some (if anB (clP st a) kC 0 = true then 1 else 0) := by
      unfold f_X6_isCallAt
      rw [hn.2.2.2, show f_X3_howMany (0 : Int32) a (2 : Int32) (nI kC) 32 fC = _ from howMany_e (w := 2) (c := 0) (N := 32) a (by omega) (by omega) (by omega), bq1, show ((0 : Int32)) = nI 0 from rfl, cnt_N, Nat.zero_add]
      have ec : cN (fun j => decide (fC (j * 2 + 0) = a)) kC 0 = cN (clP st a) kC 0 := by
        have aux : ∀ (P Q : Nat → Bool), (∀ j, j < kC → P j = Q j) → cN P kC 0 = cN Q kC 0 := fun P Q hpq => Nat.le_antisymm (cN_mono kC 0 (fun j _ hj e => by rw [← hpq j (by omega)]; exact e)) (cN_mono kC 0 (fun j _ hj e => by rw [hpq j (by omega)]; exact e))
        refine aux _ _ (fun j hj => ?_)
        show decide (fC (j * 2 + 0) = a) = decide (st (264 + 2 * j) = a)
        rw [Nat.mul_comm j 2, hc j hj 0 (by omega), Nat.add_zero]
      rw [ec]
      have hle := cN_le (clP st a) kC 0
      by_cases z : 0 < cN (clP st a) kC 0
      · rw [if_neg (show ¬ nI (cN (clP st a) kC 0) ≤ nI 0 from fun y => by rw [le, nT (by omega), nT (by omega)] at y; omega), if_pos ((anB_cN _ _ _).mpr z)]
      · rw [if_pos (show nI (cN (clP st a) kC 0) ≤ nI 0 by rw [le, nT (by omega), nT (by omega)]; omega), if_neg (fun y => z ((anB_cN _ _ _).mp y))]
    have e2 : ∀ y : Int32, f_X0_scoreOf_b25 3 nR fR 2 nC' fC a r y = some (if ldB st kC a r = true then y + 4 else y) := by
      intro y
      unfold f_X0_scoreOf_b25 ldB
      rcases hr with e | ⟨q, hq, e⟩
      · rw [if_pos e, e]; rfl
      · have ne : ¬ r = -4 := fun z => by rw [e, ei, nT (by omega)] at z; have : (q : Int) = -4 := z; omega
        have i1 : f_X6_isCallInto a r 3 nR fR 2 nC' fC = some (if anB (ldP st a q) kC 0 = true then 1 else 0) := by
          rw [e, hn.1, hn.2.2.2]
          exact into_L a hk.1 hk.2.2.2 hq (fun r h => ⟨(hr' r h).1, (hr' r h).2.1⟩) hc FUEL 0 (by omega) (by unfold FUEL; omega)
        rw [if_neg ne, i1, bq1, ite01, decide_eq_false ne, Bool.not_false, Bool.true_and, e, nC (by omega)]
        by_cases z : anB (ldP st a q) kC 0 = true
        · rw [if_pos z, if_pos z]
        · rw [if_neg z, if_neg z]
    rw [e1, bq1, ite01, e2, e2]
    by_cases z1 : anB (clP st a) kC 0 = true
    · by_cases z2 : ldB st kC a r = true
      · rw [if_pos z1, if_pos z2, if_pos z1, if_pos z2]; rfl
      · rw [if_pos z1, if_neg z2, if_pos z1, if_neg z2]; rfl
    · by_cases z2 : ldB st kC a r = true
      · rw [if_neg z1, if_pos z2, if_neg z1, if_pos z2]; rfl
      · rw [if_neg z1, if_neg z2, if_neg z1, if_neg z2]; rfl
theorem sc8_L {r : Int32} (hC : kC ≤ 16) (hs : st 299 = nI kC) (a : Int32) (hr : r = -4 ∨ ∃ q, q < 8 ∧ r = nI q) : ∀ (n i : Nat) (b d : Bool), i ≤ kC → kC - i < n → f_X8_scoreOf_L34 st n r a (b01 b) (b01 d) (nI i) = some (nI (1 + (if (b || anB (clP st a) (kC - i) i) = true then 2 else 0) + (if (d || (!decide (r = -4) && anB (ldP st a r.toNatClampNeg) (kC - i) i)) = true then 4 else 0)))
  | 0, i, _, _, _, h2 => by omega
  | n + 1, i, b, d, h1, h2 => by
    rw [f_X8_scoreOf_L34, ckI (by decide) (by decide), show st ((299 : Int32)).toNatClampNeg = nI kC from hs]
    by_cases hi : i = kC
    · subst hi
      rw [if_pos (Int32.le_refl _), Nat.sub_self]
      cases b <;> cases d <;> cases (decide (r = -4)) <;> rfl
    · obtain ⟨m, hm⟩ : ∃ m, kC - i = m + 1 := ⟨kC - i - 1, by omega⟩
      have r0 := fun b d => sc8_L hC hs a hr n (i + 1) b d (by omega) (by omega)
      rw [show kC - (i + 1) = m by omega] at r0
      rw [if_neg (by rw [le, nT (by omega), nT (by omega)]; omega), show ((264 : Int32)) = nI 264 from rfl, show ((2 : Int32)) = nI 2 from rfl, mulN, nI_add, ckN (by omega) (by omega), nC (by omega)]
      have k86 : ∀ (c : Bool) (b' : Bool), c = clP st a i → f_X8_scoreOf_b86 st (f_X8_scoreOf_L34 st n) r a (b01 d) (nI i) (b01 c) (b01 b') = f_X8_scoreOf_L34 st n r a (b01 b') (b01 (d || (!decide (r = -4) && ldP st a r.toNatClampNeg i))) (nI (i + 1)) := by
        intro c b' hcc
        unfold f_X8_scoreOf_b86
        rw [nI_1]
        cases d with
        | true => rw [if_neg (show ¬ b01 true = 0 by decide), Bool.true_or]; rfl
        | false =>
          rw [if_pos (show b01 false = 0 from rfl), Bool.false_or]
          cases c with
          | false =>
            rw [if_pos (show b01 false = 0 from rfl)]
            have : ldP st a r.toNatClampNeg i = false := decide_eq_false (fun z => by
              have h2 : clP st a i = true := decide_eq_true z.1
              rw [← hcc] at h2; cases h2)
            rw [this, Bool.and_false]; rfl
          | true =>
            rw [if_neg (show ¬ b01 true = 0 by decide)]
            rcases hr with e | ⟨q, hq, e⟩
            · rw [if_pos e, decide_eq_true e]; rfl
            · have ne : ¬ r = -4 := fun z => by rw [e, ei, nT (by omega)] at z; have : (q : Int) = -4 := z; omega
              have hca : st (264 + 2 * i) = a := of_decide_eq_true hcc.symm
              rw [if_neg ne, decide_eq_false ne, Bool.not_false, Bool.true_and, show ((264 : Int32)) = nI 264 from rfl, show ((2 : Int32)) = nI 2 from rfl, show ((1 : Int32)) = nI 1 from rfl, mulN, nI_add, nI_add, ckN (by omega) (by omega), nC (by omega), e, isOf_e _ (by omega), bq1, ite01, nC (by omega)]
              by_cases z : (st q).toInt ≤ (st (264 + 2 * i + 1)).toInt ∧ (st (264 + 2 * i + 1)).toInt ≤ (st (8 + q)).toInt
              · rw [if_pos z, show ldP st a q i = true from decide_eq_true ⟨hca, z⟩]; rfl
              · rw [if_neg z, show ldP st a q i = false from decide_eq_false (fun y => z y.2)]; rfl
      have k69 : ∀ c : Bool, c = clP st a i → f_X8_scoreOf_b69 st (f_X8_scoreOf_L34 st n) r a (b01 b) (b01 d) (nI i) (b01 c) = f_X8_scoreOf_L34 st n r a (b01 (b || c)) (b01 (d || (!decide (r = -4) && ldP st a r.toNatClampNeg i))) (nI (i + 1)) := by
        intro c hcc
        unfold f_X8_scoreOf_b69
        cases b with
        | true => rw [if_neg (show ¬ b01 true = 0 by decide)]; exact k86 c true hcc
        | false =>
          rw [if_pos (show b01 false = 0 from rfl)]
          cases c with
          | false => rw [if_pos (show b01 false = 0 from rfl)]; exact k86 false false hcc
          | true => rw [if_neg (show ¬ b01 true = 0 by decide)]; exact k86 true true hcc
      rw [hm, anB, anB]
      have fin : ∀ c : Bool, c = clP st a i → f_X8_scoreOf_b69 st (f_X8_scoreOf_L34 st n) r a (b01 b) (b01 d) (nI i) (b01 c) = some (nI (1 + (if (b || (clP st a i || anB (clP st a) m (i + 1))) = true then 2 else 0) + (if (d || (!decide (r = -4) && (ldP st a r.toNatClampNeg i || anB (ldP st a r.toNatClampNeg) m (i + 1)))) = true then 4 else 0))) := by
        intro c hcc
        rw [k69 c hcc, r0, ← hcc, Bool.or_assoc, Bool.or_assoc, ← Bool.and_or_distrib_left]
      by_cases z : st (264 + 2 * i) = a
      · rw [if_pos z]
        exact fin true (decide_eq_true z).symm
      · rw [if_neg z]
        exact fin false (decide_eq_false z).symm
theorem WR.score8 (h : WR nR fR nO fO nL fL nC' fC rg wd st kR kO kL kC) {w : Nat} (hw : w < 48) (r : Int32) (hr : r = -4 ∨ ∃ q, q < kR ∧ r = nI q) : f_X8_scoreOf (nI w) r st = some (nI (scN st kR kC (st (306 + w) - 1) r)) := by
  have ho := fun a => (h.owner a).2
  obtain ⟨hk, hn, hs, -⟩ := h
  unfold f_X8_scoreOf scN
  rw [show ((306 : Int32)) = nI 306 from rfl, nI_add, ckN (by omega) (by omega), nC (by omega), ho, bq1]
  by_cases h1 : own st (fun i => st (8 + i)) (st (306 + w) - 1) kR 0 = -4
  · rw [if_pos h1, if_pos h1]; rfl
  · rw [if_neg h1, if_neg h1]
    have e := sc8_L (st := st) hk.2.2.2 hs.2.2.2 (st (306 + w) - 1) (r := r) (hr.imp id (fun ⟨q, h1, h2⟩ => ⟨q, by omega, h2⟩)) FUEL 0 false false (by omega) (by unfold FUEL; omega)
    rw [Bool.false_or, Bool.false_or, Nat.sub_zero] at e
    exact e
/-- the score of a word -/
def SW (st : Nat → Int32) (kR kC : Nat) (r : Int32) (w : Nat) : Nat := scN st kR kC (st (306 + w) - 1) r
theorem SW_7 (r : Int32) (w : Nat) : SW st kR kC r w ≤ 7 := scN_7 _ _ _ _ _
/-! looking through, in the class -/
theorem look_L (h : WR nR fR nO fO nL fL nC' fC rg wd st kR kO kL kC) {r : Int32} (hr : r = -4 ∨ ∃ q, q < kR ∧ r = nI q) {a N : Nat} (ha : a < 1000000) (hN : N = min 16 (48 - a)) : ∀ (n j : Nat) (size : Int32) (P Q : Nat → Int32), j ≤ 16 → 16 - j < n → HuR size P Q (SW st kR kC r) (FF (SW st kR kC r) a (min j N) 7) → (FF (SW st kR kC r) a (min j N) 7).length ≤ min j N → ∃ size' P' Q', f_X0_lookThrough_L8 3 nR fR 2 nC' fC wd n (nI a) r (nI j) size P Q = some (size', P', Q') ∧ HuR size' P' Q' (SW st kR kC r) (FF (SW st kR kC r) a N 7) ∧ (FF (SW st kR kC r) a N 7).length ≤ N
  | 0, j, size, P, Q, _, h2, _, _ => by omega
  | n + 1, j, size, P, Q, h1, h2, hu, hl => by
    rw [f_X0_lookThrough_L8]
    by_cases hj : j = 16
    · subst hj
      rw [if_pos (show (16 : Int32) ≤ nI 16 by decide)]
      rw [show min 16 N = N by omega] at hu hl
      exact ⟨_, _, _, rfl, hu, hl⟩
    · rw [if_neg (show ¬ (16 : Int32) ≤ nI j from fun z => by rw [le, nT (by omega)] at z; have : (16 : Int) ≤ j := z; omega), nI_add, word_e, bq1, ite01, nT (by omega), nI_1]
      by_cases c1 : a + j < 48
      · rw [if_pos (by omega), ckN (by omega) (by omega), nC (by omega), h.2.2.2.2.2.2.2.2.1 (a + j) c1, h.score7 _ r hr, bq1]
        have ej : min j N = j := by omega
        have ej1 : min (j + 1) N = j + 1 := by omega
        rw [ej] at hu hl
        have hlt := SW_7 (st := st) (kR := kR) (kC := kC) r (a + j)
        by_cases c2 : SW st kR kC r (a + j) = 0
        · rw [if_pos (show nI (scN st kR kC (st (306 + (a + j)) - 1) r) ≤ 0 by rw [show scN st kR kC (st (306 + (a + j)) - 1) r = 0 from c2]; decide)]
          refine look_L h hr ha hN n (j + 1) size P Q (by omega) (by omega) ?_ ?_
          · rw [ej1, FF_no _ _ (Or.inl c2)]; exact hu
          · rw [ej1, FF_no _ _ (Or.inl c2)]; omega
        · rw [if_neg (show ¬ nI (scN st kR kC (st (306 + (a + j)) - 1) r) ≤ 0 from fun z => by
            rw [le, l0, nT (show scN st kR kC (st (306 + (a + j)) - 1) r < 2147483648 from Nat.lt_of_le_of_lt hlt (by omega))] at z
            have : SW st kR kC r (a + j) = scN st kR kC (st (306 + (a + j)) - 1) r := rfl
            omega)]
          obtain ⟨s', P', Q', e1, e2, e3⟩ := ent_e (S := SW st kR kC r) (fun w => SW_7 r w) hu (by omega) (by omega)
          rw [show f_X0_enter (nI (a + j)) (nI (scN st kR kC (st (306 + (a + j)) - 1) r)) size P Q = _ from e1, bq3]
          refine look_L h hr ha hN n (j + 1) s' P' Q' (by omega) (by omega) ?_ ?_
          · rw [ej1]; exact e2
          · rw [ej1]; omega
      · rw [if_neg (by omega)]
        have e1 : min (j + 1) N = min j N := by omega
        refine look_L h hr ha hN n (j + 1) size P Q (by omega) (by omega) ?_ ?_
        · rw [e1]; exact hu
        · rw [e1]; exact hl
theorem WR.look (h : WR nR fR nO fO nL fL nC' fC rg wd st kR kO kL kC) {r : Int32} (hr : r = -4 ∨ ∃ q, q < kR ∧ r = nI q) {a : Nat} (ha : a < 1000000) (size : Int32) (P Q : Nat → Int32) : ∃ size' P' Q', f_X0_lookThrough (nI a) r size P Q 3 nR fR 2 nC' fC wd = some (size', P', Q') ∧ HuR size' P' Q' (SW st kR kC r) (FF (SW st kR kC r) a (min 16 (48 - a)) 7) ∧ (FF (SW st kR kC r) a (min 16 (48 - a)) 7).length ≤ min 16 (48 - a) := by
  have e0 : FF (SW st kR kC r) a (min 0 (min 16 (48 - a))) 7 = [] := by rw [Nat.zero_min]; rfl
  obtain ⟨s', P', Q', e1, e2, e3⟩ := look_L h hr ha rfl FUEL 0 0 P Q (by omega) (by unfold FUEL; omega) (by rw [e0]; exact ⟨rfl, fun j hj => by simp at hj⟩) (by rw [e0]; simp)
  exact ⟨s', P', Q', e1, e2, e3⟩
/-! the best, in the reference -/
theorem best1_L (h : WR nR fR nO fO nL fL nC' fC rg wd st kR kO kL kC) {r : Int32} (hr : r = -4 ∨ ∃ q, q < kR ∧ r = nI q) {a t : Nat} (ha : a < 1000000) (ht : 1 ≤ t ∧ t ≤ 7) {K : Int32 → Int32 → Int32 → Int32 → Option Int32} : ∀ (n w i : Nat), a ≤ w → w ≤ a + min 16 (48 - a) → (a + min 16 (48 - a)) - w < n → i < 2147483648 → f_X8_bestOf_L15 st K n (nI a) r (nI i) (nI t) (nI w) = if i < (fl (SW st kR kC r) t ((a + min 16 (48 - a)) - w) w).length then some (nthF nI (fl (SW st kR kC r) t ((a + min 16 (48 - a)) - w) w) i) else K (nI a) r (nI (i - (fl (SW st kR kC r) t ((a + min 16 (48 - a)) - w) w).length)) (nI t + (-1))
  | 0, w, i, _, _, h2, _ => by omega
  | n + 1, w, i, h0, h1, h2, h3 => by
    rw [f_X8_bestOf_L15]
    by_cases hw : w = a + min 16 (48 - a)
    · have e0 : fl (SW st kR kC r) t ((a + min 16 (48 - a)) - w) w = [] := by rw [show (a + min 16 (48 - a)) - w = 0 by omega]; rfl
      rw [e0]
      rw [if_neg (show ¬ i < ([] : List Nat).length by simp)]
      show _ = K (nI a) r (nI (i - 0)) (nI t + (-1))
      rw [Nat.sub_zero, show ((16 : Int32)) = nI 16 from rfl, nI_add]
      by_cases c : a + 16 ≤ w
      · rw [if_pos (show nI (a + 16) ≤ nI w by rw [le, nT (by omega), nT (by omega)]; omega)]
      · rw [if_neg (show ¬ nI (a + 16) ≤ nI w by rw [le, nT (by omega), nT (by omega)]; omega), if_pos (show (48 : Int32) ≤ nI w by rw [le, nT (by omega)]; show (48 : Int) ≤ w; omega)]
    · rw [show ((16 : Int32)) = nI 16 from rfl, nI_add, if_neg (show ¬ nI (a + 16) ≤ nI w by rw [le, nT (by omega), nT (by omega)]; omega), if_neg (show ¬ (48 : Int32) ≤ nI w by rw [le, nT (by omega)]; show ¬ (48 : Int) ≤ w; omega), h.score8 (by omega) r hr, bq1]
      obtain ⟨m, hm⟩ : ∃ m, (a + min 16 (48 - a)) - w = m + 1 := ⟨(a + min 16 (48 - a)) - w - 1, by omega⟩
      have hlt := SW_7 (st := st) (kR := kR) (kC := kC) r w
      have r0 := fun i hi => best1_L h hr ha ht (K := K) n (w + 1) i (by omega) (by omega) (by omega) hi
      rw [show (a + min 16 (48 - a)) - (w + 1) = m by omega] at r0
      rw [hm, fl, nI_1]
      by_cases c : SW st kR kC r w = t
      · rw [if_pos (show nI (scN st kR kC (st (306 + w) - 1) r) = nI t from congrArg nI c), if_pos c]
        by_cases ci : i = 0
        · subst ci
          rw [if_pos (show nI 0 = 0 from rfl), if_pos (by simp)]; rfl
        · obtain ⟨k, rfl⟩ : ∃ k, i = k + 1 := ⟨i - 1, by omega⟩
          rw [if_neg (show ¬ nI (k + 1) = 0 from fun z => by rw [ei, l0, nT (by omega)] at z; omega), pk_m1, r0 k (by omega), List.length_cons]
          by_cases q : k < (fl (SW st kR kC r) t m (w + 1)).length
          · rw [if_pos q, if_pos (by omega)]; rfl
          · rw [if_neg q, if_neg (by omega), show k + 1 - ((fl (SW st kR kC r) t m (w + 1)).length + 1) = k - (fl (SW st kR kC r) t m (w + 1)).length by omega]
      · rw [if_neg (show ¬ nI (scN st kR kC (st (306 + w) - 1) r) = nI t from fun z => c (by
          rw [ei, nT (show scN st kR kC (st (306 + w) - 1) r < 2147483648 from Nat.lt_of_le_of_lt hlt (by omega)), nT (by omega)] at z
          have : SW st kR kC r w = scN st kR kC (st (306 + w) - 1) r := rfl
          omega)), if_neg c, r0 i h3]
theorem best2_L (h : WR nR fR nO fO nL fL nC' fC rg wd st kR kO kL kC) {r : Int32} (hr : r = -4 ∨ ∃ q, q < kR ∧ r = nI q) {a : Nat} (ha : a < 1000000) : ∀ (n t i : Nat), t ≤ 7 → t < n → i < 2147483648 → f_X8_bestOf_L7 st n (nI a) r (nI i) (nI t) = some (nthF nI (FF (SW st kR kC r) a (min 16 (48 - a)) t) i)
  | 0, t, i, _, h2, _ => by omega
  | n + 1, t, i, h1, h2, h3 => by
    rw [f_X8_bestOf_L7]
    by_cases ht : t = 0
    · subst ht
      rw [if_pos (show nI 0 ≤ 0 by decide)]; rfl
    · obtain ⟨k, rfl⟩ : ∃ k, t = k + 1 := ⟨t - 1, by omega⟩
      rw [if_neg (show ¬ nI (k + 1) ≤ 0 from fun z => by rw [le, l0, nT (by omega)] at z; omega), best1_L h hr ha (by omega) FUEL a i (by omega) (by omega) (by unfold FUEL; omega) h3, Nat.add_sub_cancel_left, pk_m1, FF]
      by_cases q : i < (fl (SW st kR kC r) (k + 1) (min 16 (48 - a)) a).length
      · rw [if_pos q, nthF_lt _ _ _ _ q]
      · rw [if_neg q, best2_L h hr ha n k _ (by omega) (by omega) (by omega)]
        have := nthF_ge nI (FF (SW st kR kC r) a (min 16 (48 - a)) k) (fl (SW st kR kC r) (k + 1) (min 16 (48 - a)) a) (i - (fl (SW st kR kC r) (k + 1) (min 16 (48 - a)) a).length)
        rw [show (fl (SW st kR kC r) (k + 1) (min 16 (48 - a)) a).length + (i - (fl (SW st kR kC r) (k + 1) (min 16 (48 - a)) a).length) = i by omega] at this
        rw [this]
theorem WR.best (h : WR nR fR nO fO nL fL nC' fC rg wd st kR kO kL kC) {r : Int32} (hr : r = -4 ∨ ∃ q, q < kR ∧ r = nI q) {a i : Nat} (ha : a < 1000000) (hi : i < 2147483648) : f_X8_bestOf (nI a) r (nI i) st = some (nthF nI (FF (SW st kR kC r) a (min 16 (48 - a)) 7) i) := best2_L h hr ha FUEL 7 i (by omega) (by unfold FUEL; omega) hi
theorem p_guess (h : WR nR fR nO fO nL fL nC' fC rg wd st kR kO kL kC) (x y z u : Int32) (size : Int32) (P Q : Nat → Int32) : ∃ r size' P' Q', f_X7_guess x y z u 3 nR fR 2 nC' fC wd size P Q = some (r, size', P', Q') ∧ f_X8_guess x y z u st = some r := by
  have hisR := h.isR y
  unfold f_X7_guess f_X8_guess
  rw [word_e, bq1, ite01, word8_e, bq1, ite01]
  by_cases h1 : 0 ≤ x.toInt ∧ x.toInt ≤ 47
  · rw [if_pos h1, if_pos h1]
    obtain ⟨a, ha, rfl, haT⟩ := nOf h1.1
    have b46 : ∀ (hr : y = -4 ∨ ∃ q, q < kR ∧ y = nI q), ∃ r size' P' Q', (if z < 0 then some (-1, size, P, Q) else if u < 0 then some (-1, size, P, Q) else if u ≤ 1 then f_X7_guess_b46 3 nR fR 2 nC' fC wd (nI a) y z u size P Q else some (-1, size, P, Q)) = some (r, size', P', Q') ∧ f_X8_guess_b21 st (nI a) y z u = some r := by
      intro hr
      unfold f_X8_guess_b21
      by_cases h2 : z.toInt < 0
      · rw [if_pos (show z < 0 by rw [li, l0]; exact h2), if_pos (show z < 0 by rw [li, l0]; exact h2)]
        exact ⟨_, _, _, _, rfl, rfl⟩
      · have nz : ¬ z < 0 := fun q => h2 (by rw [li, l0] at q; exact q)
        rw [if_neg nz, if_neg nz, in_t, bq1, ite01, tt]
        by_cases h3 : 0 ≤ u.toInt ∧ u.toInt ≤ 1
        · rw [if_neg (show ¬ u < 0 from fun q => by rw [li, l0] at q; omega), if_pos (show u ≤ 1 from le.mpr h3.2), if_pos (show (0 : Int64).toInt ≤ u.toInt ∧ u.toInt ≤ (1 : Int64).toInt from h3)]
          obtain ⟨i, hi, rfl, hiT⟩ := nOf (x := z) (by omega)
          unfold f_X7_guess_b46
          obtain ⟨s', P', Q', e1, e2, e3⟩ := h.look hr (show a < 1000000 by omega) size P Q
          rw [e1, bq3, h.best hr (show a < 1000000 by omega) hi, bq1, e2.1]
          by_cases c : i < (FF (SW st kR kC y) a (min 16 (48 - a)) 7).length
          · obtain ⟨w, w1, w2⟩ := nthF_mem _ i c
            have hm := FF_mem _ _ _ _ _ w1
            rw [if_pos (show nI i < nI _ by rw [li, nT (by omega), nT (by omega)]; omega), w2, if_neg (show ¬ nI w = -4 from fun q => by rw [ei, nT (by omega)] at q; have : (w : Int) = -4 := q; omega), h.score8 (by omega) y hr, bq1, ckN (by omega) (by omega), ckN (by omega) (by omega), nC (by omega), (e2.2 i c).1, (e2.2 i c).2, w2, w2]
            by_cases c2 : u = 0
            · rw [if_pos c2, if_pos c2]; exact ⟨_, _, _, _, rfl, rfl⟩
            · rw [if_neg c2, if_neg c2]; exact ⟨_, _, _, _, rfl, rfl⟩
          · rw [if_neg (show ¬ nI i < nI _ from fun q => by rw [li, nT (by omega), nT (by omega)] at q; omega), nthF_out _ _ _ (by omega), if_pos rfl]
            exact ⟨_, _, _, _, rfl, rfl⟩
        · rw [if_neg (show ¬ ((0 : Int64).toInt ≤ u.toInt ∧ u.toInt ≤ (1 : Int64).toInt) from h3)]
          refine ⟨-1, size, P, Q, ?_, rfl⟩
          by_cases h4 : u.toInt < 0
          · rw [if_pos (show u < 0 by rw [li, l0]; exact h4)]
          · rw [if_neg (show ¬ u < 0 from fun q => h4 (by rw [li, l0] at q; exact q)), if_neg (show ¬ u ≤ 1 from fun q => by rw [le] at q; have : u.toInt ≤ 1 := q; omega)]
    by_cases hy : y = -4
    · rw [if_pos hy, if_pos hy]
      exact b46 (Or.inl hy)
    · rw [if_neg hy, if_neg hy, hisR.1, hisR.2, bq1, bq1, ite01, ite01]
      by_cases hy2 : 0 ≤ y.toInt ∧ y.toInt < kR
      · rw [if_pos hy2, if_pos hy2]
        obtain ⟨q, hq, e, hqT⟩ := nOf hy2.1
        exact b46 (Or.inr ⟨q, by omega, e⟩)
      · rw [if_neg hy2, if_neg hy2]
        refine ⟨-1, size, P, Q, ?_, rfl⟩
        split
        · rfl
        · split
          · rfl
          · split <;> rfl
  · rw [if_neg h1, if_neg h1]
    exact ⟨_, _, _, _, rfl, rfl⟩
end WREL10
