/-! apart -/
def b01 (b : Bool) : Int32 := if b = true then 1 else 0
def alB (P : Nat → Bool) : Nat → Nat → Bool
  | 0, _ => true
  | n + 1, i => P i && alB P n (i + 1)
theorem alB_iff {P : Nat → Bool} : ∀ {n i : Nat}, alB P n i = true ↔ ∀ j, i ≤ j → j < i + n → P j = true
  | 0, i => ⟨fun _ j h1 h2 => by omega, fun _ => rfl⟩
  | n + 1, i => by
    rw [alB, Bool.and_eq_true, alB_iff]
    constructor
    · rintro ⟨h1, h2⟩ j h3 h4
      by_cases e : j = i
      · subst e; exact h1
      · exact h2 j (by omega) (by omega)
    · intro h
      exact ⟨h i (by omega) (by omega), fun j h1 h2 => h j (by omega) (by omega)⟩
def apq (F T : Nat → Int32) (r q : Nat) : Bool := decide ((T q).toInt < (F r).toInt ∨ (T r).toInt < (F q).toInt)
theorem apI_L {st : Nat → Int32} {K : Int32 → Int32 → Int32 → Option Int32} {p r : Nat} (hp : p ≤ 1062) (hr : r < 8) : ∀ (n q : Nat) (b : Bool), q ≤ r → r - q < n → f_X8_isApart_L21 st K n (nI p) (b01 b) (nI r) (nI q) = K (nI p) (b01 (b && alB (apq (fun j => st (p + j)) (fun j => st (p + (8 + j))) r) (r - q) q)) (nI r + 1)
  | 0, q, _, _, h2 => by omega
  | n + 1, q, b, h1, h2 => by
    rw [f_X8_isApart_L21]
    by_cases hq : q = r
    · subst hq
      rw [if_pos (Int32.le_refl _), Nat.sub_self, alB, Bool.and_true]
    · obtain ⟨m, hm⟩ : ∃ m, r - q = m + 1 := ⟨r - q - 1, by omega⟩
      have rt := apI_L (st := st) (K := K) hp hr n (q + 1) true (by omega) (by omega)
      have rf := apI_L (st := st) (K := K) hp hr n (q + 1) false (by omega) (by omega)
      rw [show r - (q + 1) = m by omega] at rt rf
      rw [if_neg (by rw [le, nT (by omega), nT (by omega)]; omega), hm, alB, nI_1]
      cases b with
      | false =>
        rw [if_pos (show b01 false = 0 from rfl), show ((0 : Int32)) = b01 false from rfl, rf]; rfl
      | true =>
        rw [if_neg (show ¬ b01 true = 0 by decide), show ((8 : Int32)) = nI 8 from rfl, nI_add, nI_add, nI_add, nI_add, nI_add, ckI (by rw [nT (by omega)]; omega) (by rw [nT (by omega)]; omega), ckI (by rw [nT (by omega)]; omega) (by rw [nT (by omega)]; omega), ckI (by rw [nT (by omega)]; omega) (by rw [nT (by omega)]; omega), ckI (by rw [nT (by omega)]; omega) (by rw [nT (by omega)]; omega), nC (by omega), nC (by omega), nC (by omega), nC (by omega), show ((1 : Int32)) = b01 true from rfl, show ((0 : Int32)) = b01 false from rfl, rt, rf, Bool.true_and, Bool.true_and, Bool.false_and]
        have e : apq (fun j => st (p + j)) (fun j => st (p + (8 + j))) r q = decide ((st (p + 8 + q)).toInt < (st (p + r)).toInt ∨ (st (p + 8 + r)).toInt < (st (p + q)).toInt) := by
          unfold apq
          rw [Nat.add_assoc p 8 q, Nat.add_assoc p 8 r]
        rw [e]
        by_cases c1 : (st (p + 8 + q)).toInt < (st (p + r)).toInt
        · rw [if_pos (show st (p + 8 + q) < st (p + r) from li.mpr c1), decide_eq_true (Or.inl c1), Bool.true_and]; rfl
        · rw [if_neg (show ¬ st (p + 8 + q) < st (p + r) from fun z => c1 (li.mp z))]
          by_cases c2 : (st (p + 8 + r)).toInt < (st (p + q)).toInt
          · rw [if_neg (show ¬ st (p + q) ≤ st (p + 8 + r) from fun z => by have := le.mp z; omega), decide_eq_true (Or.inr c2), Bool.true_and]; rfl
          · rw [if_pos (show st (p + q) ≤ st (p + 8 + r) from le.mpr (by omega)), decide_eq_false (fun z => z.elim c1 c2), Bool.false_and]; rfl
theorem apO_L {st : Nat → Int32} {p k : Nat} (hp : p ≤ 1062) (hk : k ≤ 8) (hs : st (p + 296) = nI k) : ∀ (n r : Nat) (b : Bool), r ≤ k → k - r < n → f_X8_isApart_L4 st n (nI p) (b01 b) (nI r) = some (b01 (b && alB (fun r => alB (apq (fun j => st (p + j)) (fun j => st (p + (8 + j))) r) r 0) (k - r) r))
  | 0, r, _, _, h2 => by omega
  | n + 1, r, b, h1, h2 => by
    rw [f_X8_isApart_L4, show ((296 : Int32)) = nI 296 from rfl, nI_add, ckI (by rw [nT (by omega)]; omega) (by rw [nT (by omega)]; omega), nC (by omega), hs]
    by_cases hr : r = k
    · subst hr
      rw [if_pos (Int32.le_refl _), Nat.sub_self, alB, Bool.and_true, ck_e (by cases b; exact Or.inl rfl; exact Or.inr rfl)]
    · obtain ⟨m, hm⟩ : ∃ m, k - r = m + 1 := ⟨k - r - 1, by omega⟩
      rw [if_neg (by rw [le, nT (by omega), nT (by omega)]; omega), show ((0 : Int32)) = nI 0 from rfl, apI_L hp (by omega) FUEL 0 b (by omega) (by unfold FUEL; omega), nI_1, apO_L hp hk hs n (r + 1) _ (by omega) (by omega), hm, alB, show k - (r + 1) = m by omega, Nat.sub_zero, Bool.and_assoc]
theorem apart_e {st : Nat → Int32} {p k : Nat} (hp : p ≤ 1062) (hk : k ≤ 8) (hs : st (p + 296) = nI k) : f_X8_isApart (nI p) st = some (b01 (alB (fun r => alB (apq (fun j => st (p + j)) (fun j => st (p + (8 + j))) r) r 0) k 0)) := by
  have := apO_L hp hk hs FUEL 0 true (by omega) (by unfold FUEL; omega)
  rw [Nat.sub_zero, Bool.true_and] at this
  exact this
/-- two apart -/
def Apt (F T : Nat → Int32) (k : Nat) : Prop := ∀ r, r < k → ∀ q, q < r → (T q).toInt < (F r).toInt ∨ (T r).toInt < (F q).toInt
theorem apt_iff {F T : Nat → Int32} {k : Nat} : alB (fun r => alB (apq F T r) r 0) k 0 = true ↔ Apt F T k := by
  rw [alB_iff]
  constructor
  · intro h r hr q hq
    have := alB_iff.mp (h r (by omega) (by omega)) q (by omega) (by omega)
    exact of_decide_eq_true this
  · intro h r _ hr
    exact alB_iff.mpr (fun q _ hq => decide_eq_true (h r (by omega) q (by omega)))
/-! move -/
theorem mv_L {k r : Nat} {f F T : Nat → Int32} {x : Int32} {w : Nat} (fr to : Int32) (hk : k ≤ 8) (hr : r < k) (hw : w < 2) (h : ∀ r, r < k → f (3 * r) = F r ∧ f (3 * r + 1) = T r) : ∀ (n o : Nat), o ≤ k → k - o < n → f_X7_move_L93 3 (nI k) n (nI r) (nI w) x fr to (nI o) f = if alB (fun o => decide (o = r ∨ ¬ ((F o).toInt ≤ to.toInt ∧ fr.toInt ≤ (T o).toInt))) (k - o) o = true then some (f (3 * r + w), upd f (3 * r + w) x) else some (-2, f)
  | 0, o, _, h2 => by omega
  | n + 1, o, h1, h2 => by
    rw [f_X7_move_L93]
    by_cases ho : o = k
    · subst ho
      rw [if_pos (Int32.le_refl _), Nat.sub_self, alB, if_pos rfl, show ((3 : Int32)) = nI 3 from rfl, at_in hr (by omega) (by omega) (by omega), bq1, set_in x hr (by omega) (by omega) (by omega), bq1, Nat.mul_comm r 3]
    · obtain ⟨m, hm⟩ : ∃ m, k - o = m + 1 := ⟨k - o - 1, by omega⟩
      have r0 := mv_L (x := x) fr to hk hr hw h n (o + 1) (by omega) (by omega)
      rw [show k - (o + 1) = m by omega] at r0
      rw [if_neg (by rw [le, nT (by omega), nT (by omega)]; omega), hm, alB, nI_1]
      by_cases e : o = r
      · rw [if_pos (show nI o = nI r by rw [e]), r0, decide_eq_true (Or.inl e), Bool.true_and]
      · rw [if_neg (show ¬ nI o = nI r from fun z => e (by rw [ei, nT (by omega), nT (by omega)] at z; omega)), meets_e fr to (by omega) hk h, bq1, ite01]
        by_cases c : (F o).toInt ≤ to.toInt ∧ fr.toInt ≤ (T o).toInt
        · rw [if_pos c, decide_eq_false (fun z => z.elim e (fun q => q c)), Bool.false_and, if_neg (by decide)]
        · rw [if_neg c, r0, decide_eq_true (Or.inr c), Bool.true_and]
theorem upd_back (f : Nat → Int32) (k : Nat) (x : Int32) : upd (upd f k x) k (f k) = f := by
  funext j
  by_cases e : j = k
  · subst e; rw [pk_us]
  · rw [pk_un e, pk_un e]
section WREL8
variable {nR : Int32} {fR : Nat → Int32} {nO : Int32} {fO : Nat → Int32} {nL : Int32} {fL : Nat → Int32} {nC' : Int32} {fC rg wd st : Nat → Int32} {kR kO kL kC : Nat}
theorem WR.mov (h : WR nR fR nO fO nL fL nC' fC rg wd st kR kO kL kC) {i w : Nat} (hi : i < kR) (hw : w < 2) (x : Int32)
    (h1 : 0 ≤ (upd st (8 * w + i) x i).toInt ∧ (upd st (8 * w + i) x i).toInt ≤ (upd st (8 * w + i) x (8 + i)).toInt ∧ (upd st (8 * w + i) x (8 + i)).toInt ≤ 999) (h2 : Apt (fun j => upd st (8 * w + i) x (0 + j)) (fun j => upd st (8 * w + i) x (0 + (8 + j))) kR) : WR nR (upd fR (3 * i + w) x) nO fO nL fL nC' fC rg wd (upd st (8 * w + i) x) kR kO kL kC := by
  obtain ⟨hk, hn, hs, hr, ho, hl, hc, hg, hw', hv1, hv2, hv3, hv4, hv5⟩ := h
  have ne : ∀ j, j ≠ 8 * w + i → upd st (8 * w + i) x j = st j := fun j hj => pk_un hj
  refine ⟨hk, hn, ⟨?_, ?_, ?_, ?_⟩, fun r hr' => ⟨?_, ?_, ?_⟩, fun j hj c hc' => ?_, fun j hj c hc' => ?_, fun j hj c hc' => ?_, fun u hu => ?_, fun u hu => ?_, fun r hr' => ?_, fun r hr' q hq => ?_, fun j hj => ?_, fun u hu => ?_, fun u hu => ?_⟩
  · rw [ne _ (by omega)]; exact hs.1
  · rw [ne _ (by omega)]; exact hs.2.1
  · rw [ne _ (by omega)]; exact hs.2.2.1
  · rw [ne _ (by omega)]; exact hs.2.2.2
  · by_cases e : r = i ∧ w = 0
    · obtain ⟨rfl, rfl⟩ := e
      rw [show 3 * r + 0 = 3 * r by omega, show 8 * 0 + r = r by omega, pk_us, pk_us]
    · rw [pk_un (by omega), ne _ (by omega)]; exact (hr r hr').1
  · by_cases e : r = i ∧ w = 1
    · obtain ⟨rfl, rfl⟩ := e
      rw [pk_us, show 8 * 1 + r = 8 + r by omega, pk_us]
    · rw [pk_un (by omega), ne _ (by omega)]; exact (hr r hr').2.1
  · rw [pk_un (by omega), ne _ (by omega)]; exact (hr r hr').2.2
  · rw [ne _ (by omega)]; exact ho j hj c hc'
  · rw [ne _ (by omega)]; exact hl j hj c hc'
  · rw [ne _ (by omega)]; exact hc j hj c hc'
  · rw [ne _ (by omega)]; exact hg u hu
  · rw [ne _ (by omega)]; exact hw' u hu
  · rw [ne (16 + r) (by omega)]
    by_cases e : r = i
    · subst e
      exact ⟨h1.1, h1.2.1, h1.2.2, (hv1 r hr').2.2.2⟩
    · rw [ne _ (by omega), ne _ (by omega)]; exact hv1 r hr'
  · have := h2 r hr' q hq
    simp only [Nat.zero_add] at this
    exact this
  · rw [ne _ (by omega), ne _ (by omega), ne _ (by omega)]; exact hv3 j hj
  · rw [ne _ (by omega)]; exact hv4 u hu
  · rw [ne _ (by omega)]; exact hv5 u hu
/-- where a move is good: the same in both -/
theorem mv_same {i w : Nat} {x fr to : Int32} (hv2 : Apt st (fun j => st (8 + j)) kR) (hk : kR ≤ 8) (hi : i < kR) (hw : w < 2) (e1 : upd st (8 * w + i) x i = fr) (e2 : upd st (8 * w + i) x (8 + i) = to) : alB (fun r => alB (apq (fun j => upd st (8 * w + i) x (0 + j)) (fun j => upd st (8 * w + i) x (0 + (8 + j))) r) r 0) kR 0 = alB (fun o => decide (o = i ∨ ¬ ((st o).toInt ≤ to.toInt ∧ fr.toInt ≤ (st (8 + o)).toInt))) kR 0 := by
  have ne : ∀ j, j ≠ 8 * w + i → upd st (8 * w + i) x j = st j := fun j hj => pk_un hj
  rw [Bool.eq_iff_iff, apt_iff, alB_iff]
  constructor
  · intro h o _ ho
    refine decide_eq_true ?_
    by_cases e : o = i
    · exact Or.inl e
    · refine Or.inr ?_
      rcases Nat.lt_or_gt_of_ne e with q | q
      · have := h i hi o q
        simp only [Nat.zero_add] at this
        rw [e1, e2, ne o (by omega), ne (8 + o) (by omega)] at this
        omega
      · have := h o (by omega) i q
        simp only [Nat.zero_add] at this
        rw [e1, e2, ne o (by omega), ne (8 + o) (by omega)] at this
        omega
  · intro h r hr q hq
    simp only [Nat.zero_add]
    have hx : ∀ o, o < kR → o ≠ i → ¬ ((st o).toInt ≤ to.toInt ∧ fr.toInt ≤ (st (8 + o)).toInt) := by
      intro o ho e
      rcases of_decide_eq_true (h o (by omega) (by omega)) with z | z
      · exact absurd z e
      · exact z
    by_cases a1 : r = i
    · subst a1
      have := hx q (by omega) (by omega)
      rw [e1, e2, ne q (by omega), ne (8 + q) (by omega)]
      omega
    · by_cases a2 : q = i
      · subst a2
        have := hx r hr a1
        rw [e1, e2, ne r (by omega), ne (8 + r) (by omega)]
        omega
      · rw [ne r (by omega), ne (8 + q) (by omega), ne (8 + r) (by omega), ne q (by omega)]
        exact hv2 r hr q hq
theorem mb8 {i w : Nat} {x : Int32} (hk : kR ≤ 8) (hs : st 296 = nI kR) (hi : i < kR) (hw : w < 2) : f_X8_move_b64 (nI i) (nI w) x st = if alB (fun r => alB (apq (fun j => upd st (8 * w + i) x (0 + j)) (fun j => upd st (8 * w + i) x (0 + (8 + j))) r) r 0) kR 0 = true then some (st (8 * w + i), upd st (8 * w + i) x) else some (-2, st) := by
  unfold f_X8_move_b64
  rw [show ((8 : Int32)) = nI 8 from rfl, mulN, nI_add, ckI (by rw [nT (by omega)]; omega) (by rw [nT (by omega)]; omega), ckI (by rw [nT (by omega)]; omega) (by rw [nT (by omega)]; omega), ckI (by rw [nT (by omega)]; omega) (by rw [nT (by omega)]; omega), nC (by omega), show ((0 : Int32)) = nI 0 from rfl, apart_e (p := 0) (k := kR) (by omega) hk (by rw [pk_un (by omega)]; exact hs), bq1]
  cases alB (fun r => alB (apq (fun j => upd st (8 * w + i) x (0 + j)) (fun j => upd st (8 * w + i) x (0 + (8 + j))) r) r 0) kR 0 with
  | false => rw [if_pos (show b01 false = nI 0 from rfl), if_neg (by decide), upd_back]
  | true => rw [if_neg (show ¬ b01 true = nI 0 by decide), if_pos rfl]
theorem p_move (h : WR nR fR nO fO nL fL nC' fC rg wd st kR kO kL kC) (x y z : Int32) : ∃ r fR' st', f_X7_move x y z 3 nR fR = some (r, fR') ∧ f_X8_move x y z st = some (r, st') ∧ (∀ j, 354 ≤ j → st' j = st j) ∧ WR nR fR' nO fO nL fL nC' fC rg wd st' kR kO kL kC := by
  have hW := h
  have hiR := h.isR x
  obtain ⟨hk, hn, hs, hr, ho, hl, hc, hg, hw, hv1, hv2, hv3, hv4, hv5⟩ := h
  unfold f_X7_move f_X8_move
  rw [hiR.1, bq1, ite01, hiR.2, bq1, ite01]
  by_cases h1 : 0 ≤ x.toInt ∧ x.toInt < kR
  · rw [if_pos h1, if_pos h1, in_t, bq1, ite01, tt]
    obtain ⟨i, hi, rfl, hiT⟩ := nOf h1.1
    have hi8 : i < kR := by omega
    by_cases h2 : 0 ≤ y.toInt ∧ y.toInt ≤ 1
    · obtain ⟨w, hw', rfl, hwT⟩ := nOf h2.1
      rw [if_neg (show ¬ nI w < 0 from fun q => by have := li.mp q; rw [l0] at this; omega), if_neg (show ¬ (1 : Int32) < nI w from fun q => by have : (1 : Int) < (nI w).toInt := li.mp q; omega), if_pos (show ((0 : Int64)).toInt ≤ (nI w).toInt ∧ (nI w).toInt ≤ ((1 : Int64)).toInt from h2), in_t, bq1, ite01, tt]
      by_cases h3 : 0 ≤ z.toInt ∧ z.toInt ≤ 999
      · rw [if_neg (show ¬ z < 0 from fun q => by have := li.mp q; rw [l0] at this; omega), if_pos (show z ≤ (999 : Int32) from le.mpr h3.2), if_pos (show ((0 : Int64)).toInt ≤ z.toInt ∧ z.toInt ≤ ((999 : Int64)).toInt from h3)]
        have hF := (hr i hi8).1
        have hT := (hr i hi8).2.1
        have hv := hv1 i hi8
        have a0 : f_X3_at (nI i) (0 : Int32) (3 : Int32) nR 24 fR = some (st i) := by
          rw [hn.1, show f_X3_at (nI i) (0 : Int32) (3 : Int32) (nI kR) 24 fR = some (fR (i * 3 + 0)) from at_in (w := 3) (c := 0) hi8 (by omega) (by omega) (by omega), Nat.mul_comm i 3, Nat.add_zero (3 * i), hF]
        have a1 : f_X3_at (nI i) (1 : Int32) (3 : Int32) nR 24 fR = some (st (8 + i)) := by
          rw [hn.1, show f_X3_at (nI i) (1 : Int32) (3 : Int32) (nI kR) 24 fR = some (fR (i * 3 + 1)) from at_in (w := 3) (c := 1) hi8 (by omega) (by omega) (by omega), Nat.mul_comm i 3, hT]
        have L : ∀ fr to : Int32, f_X7_move_L93 3 nR FUEL (nI i) (nI w) z fr to 0 fR = if alB (fun o => decide (o = i ∨ ¬ ((st o).toInt ≤ to.toInt ∧ fr.toInt ≤ (st (8 + o)).toInt))) kR 0 = true then some (fR (3 * i + w), upd fR (3 * i + w) z) else some (-2, fR) := by
          intro fr to
          rw [hn.1]
          have := mv_L (f := fR) (F := st) (T := fun o => st (8 + o)) (x := z) fr to hk.1 hi8 (show w < 2 by omega) (fun r h => ⟨(hr r h).1, (hr r h).2.1⟩) FUEL 0 (by omega) (by unfold FUEL; omega)
          rw [Nat.sub_zero] at this
          exact this
        have fin : ∀ fr to : Int32, upd st (8 * w + i) z i = fr → upd st (8 * w + i) z (8 + i) = to → 0 ≤ fr.toInt → fr.toInt ≤ to.toInt → to.toInt ≤ 999 → fR (3 * i + w) = st (8 * w + i) → ∃ r fR' st', f_X7_move_L93 3 nR FUEL (nI i) (nI w) z fr to 0 fR = some (r, fR') ∧ f_X8_move_b64 (nI i) (nI w) z st = some (r, st') ∧ (∀ j, 354 ≤ j → st' j = st j) ∧ WR nR fR' nO fO nL fL nC' fC rg wd st' kR kO kL kC := by
          intro fr to e1 e2 g1 g2 g3 g4
          rw [L, mb8 hk.1 hs.1 hi8 (by omega), mv_same hv2 hk.1 hi8 (by omega) e1 e2]
          by_cases c : alB (fun o => decide (o = i ∨ ¬ ((st o).toInt ≤ to.toInt ∧ fr.toInt ≤ (st (8 + o)).toInt))) kR 0 = true
          · rw [if_pos c, if_pos c, g4]
            refine ⟨_, _, _, rfl, rfl, fun j hj => pk_un (by omega), hW.mov hi8 (by omega) z (by rw [e1, e2]; exact ⟨g1, g2, g3⟩) (apt_iff.mp ((mv_same hv2 hk.1 hi8 (by omega) e1 e2).trans c))⟩
          · rw [if_neg c, if_neg c]
            exact ⟨_, _, _, rfl, rfl, fun _ _ => rfl, hW⟩
        rcases (show w = 0 ∨ w = 1 by omega) with rfl | rfl
        · rw [if_pos (show nI 0 = 0 from rfl), if_pos (show nI 0 = 0 from rfl)]
          unfold f_X7_move_b56
          rw [if_neg (show ¬ nI 0 = 1 by decide), a1, bq1]
          unfold f_X7_move_b79
          rw [show ((8 : Int32)) = nI 8 from rfl, nI_add, ckI (by rw [nT (by omega)]; omega) (by rw [nT (by omega)]; omega), nC (by omega)]
          by_cases c : z.toInt ≤ (st (8 + i)).toInt
          · rw [if_pos (show z ≤ st (8 + i) from le.mpr c), if_pos (show z ≤ st (8 + i) from le.mpr c)]
            exact fin z (st (8 + i)) (by rw [show 8 * 0 + i = i by omega, pk_us]) (by rw [pk_un (by omega)]) h3.1 c hv.2.2.1 (by rw [show 8 * 0 + i = i by omega]; exact hF)
          · rw [if_neg (show ¬ z ≤ st (8 + i) from fun q => c (le.mp q)), if_neg (show ¬ z ≤ st (8 + i) from fun q => c (le.mp q))]
            exact ⟨_, _, _, rfl, rfl, fun _ _ => rfl, hW⟩
        · rw [if_neg (show ¬ nI 1 = 0 by decide), if_neg (show ¬ nI 1 = 0 by decide), a0, bq1]
          unfold f_X7_move_b56
          rw [if_pos (show nI 1 = 1 from rfl)]
          unfold f_X7_move_b79
          rw [ckI (by rw [nT (by omega)]; omega) (by rw [nT (by omega)]; omega), nC (by omega)]
          by_cases c : (st i).toInt ≤ z.toInt
          · rw [if_pos (show st i ≤ z from le.mpr c), if_pos (show st i ≤ z from le.mpr c)]
            exact fin (st i) z (by rw [pk_un (by omega)]) (by rw [show 8 * 1 + i = 8 + i by omega, pk_us]) hv.1 c h3.2 (by rw [show 8 * 1 + i = 8 + i by omega]; exact hT)
          · rw [if_neg (show ¬ st i ≤ z from fun q => c (le.mp q)), if_neg (show ¬ st i ≤ z from fun q => c (le.mp q))]
            exact ⟨_, _, _, rfl, rfl, fun _ _ => rfl, hW⟩
      · rw [if_neg (show ¬ (((0 : Int64)).toInt ≤ z.toInt ∧ z.toInt ≤ ((999 : Int64)).toInt) from h3)]
        by_cases h4 : z.toInt < 0
        · rw [if_pos (show z < 0 from li.mpr h4)]; exact ⟨_, _, _, rfl, rfl, fun _ _ => rfl, hW⟩
        · rw [if_neg (show ¬ z < 0 from fun q => h4 (li.mp q)), if_neg (show ¬ z ≤ (999 : Int32) from fun q => h3 ⟨by omega, le.mp q⟩)]; exact ⟨_, _, _, rfl, rfl, fun _ _ => rfl, hW⟩
    · rw [if_neg (show ¬ (((0 : Int64)).toInt ≤ y.toInt ∧ y.toInt ≤ ((1 : Int64)).toInt) from h2)]
      by_cases h4 : y.toInt < 0
      · rw [if_pos (show y < 0 from li.mpr h4)]; exact ⟨_, _, _, rfl, rfl, fun _ _ => rfl, hW⟩
      · rw [if_neg (show ¬ y < 0 from fun q => h4 (li.mp q)), if_pos (show (1 : Int32) < y from li.mpr (by show (1 : Int) < y.toInt; omega))]; exact ⟨_, _, _, rfl, rfl, fun _ _ => rfl, hW⟩
  · rw [if_neg h1, if_neg h1]; exact ⟨_, _, _, rfl, rfl, fun _ _ => rfl, hW⟩
end WREL8
