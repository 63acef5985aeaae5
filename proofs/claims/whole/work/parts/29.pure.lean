/-! walks: frame after frame -/
def WkR (st : Nat → Int32) (kR k : Nat) (by_ ls gd : Int32) (rs ow lo wy F cb loM owM : Nat → Int32) : Prop :=
  (∀ j, j ≤ k → ∀ v, v < 6 → rs (6 * j + v) = F (6 * j + v) ∧ 0 ≤ (F (6 * j + v)).toInt ∧ (F (6 * j + v)).toInt ≤ 9999 + 100 * j) ∧
  (∀ j, j < k → ow j = owM j ∧ lo j = loM j ∧ wy j = cb j) ∧ wy k = by_ ∧
  ((k = 0 ∧ by_ = 0) ∨ (0 < k ∧ by_ = 2) ∨ (0 < k ∧ by_ = 1 ∧ ∃ q, q < kR ∧ owM (k - 1) = nI q ∧ ls = st (16 + q))) ∧
  gd = cnt (fun j => decide (wy j = 2)) (k + 1) 0 0
theorem ls0 {x : Int32} (h : x = 0 ∨ x = 1) : (if x = 1 then (1 : Int32) else 0) = x := by
  rcases h with h | h
  · rw [h]; rfl
  · rw [h]; rfl
section WALK
variable {nR : Int32} {fR : Nat → Int32} {nO : Int32} {fO : Nat → Int32} {nL : Int32} {fL : Nat → Int32} {nC' : Int32} {fC rg wd st : Nat → Int32} {kR kO kL kC : Nat}
theorem b67_e (h : WR nR fR nO fO nL fL nC' fC rg wd st kR kO kL kC) {k : Nat} (hk : k < 20) (sz x ls : Int32) (rs wy ow lo : Nat → Int32) : ∃ ls', f_X5_lookUp_b67 sz rs wy 3 nR fR (nI k) (nI k) x ls ow lo = some (ls', upd ow k (own st (fun i => st (8 + i)) x kR 0), upd lo k x) ∧ ∀ q, q < kR → own st (fun i => st (8 + i)) x kR 0 = nI q → ls' = st (16 + q) := by
  have ho := (h.owner x).1
  obtain ⟨hkk, hn, hs, hr, -, -, -, -, -, hv1, -⟩ := h
  unfold f_X5_lookUp_b67 f_X5_lookUp_b108
  rw [ckN (by omega) (by omega), ckN (by omega) (by omega), nC (by omega), pk_us, ho, bq1, ckN (by omega) (by omega), ckN (by omega) (by omega), pk_us, hn.1]
  rcases own_some st (fun i => st (8 + i)) x kR 0 with ⟨q, -⟩ | ⟨i, i1, i2, i3, i4, i5⟩
  · rw [q, show f_X3_at (-4 : Int32) (2 : Int32) (3 : Int32) (nI kR) 24 fR = some (-4) from at_out (c := 2) (by omega) (Or.inl (by decide)), bq1, if_neg (by decide), ck_e (Or.inl rfl)]
    exact ⟨_, rfl, fun p hp z => by rw [ei, nT (by omega)] at z; have : (-4 : Int) = p := z; omega⟩
  · have hi : i < kR := by omega
    rw [i3, show f_X3_at (nI i) (2 : Int32) (3 : Int32) (nI kR) 24 fR = some (fR (i * 3 + 2)) from at_in (w := 3) (c := 2) hi (by omega) (by omega) (by omega), bq1, Nat.mul_comm i 3, (hr i hi).2.2]
    refine ⟨st (16 + i), ?_, fun p hp z => ?_⟩
    · rcases (hv1 i hi).2.2.2 with z | z
      · rw [z, if_neg (by decide), ck_e (Or.inl rfl)]
      · rw [z, if_pos rfl, ck_e (Or.inr rfl)]
    · rw [ei, nT (by omega), nT (by omega)] at z
      rw [show p = i by omega]
theorem b71_e (h : WR nR fR nO fO nL fL nC' fC rg wd st kR kO kL kC) {k : Nat} (hk : k < 20) (x : Int32) (F cb ow lo : Nat → Int32) : f_X8_stands_b71 st F (nI k) (nI k) x cb lo ow = some (cb, upd lo k x, upd ow k (own st (fun i => st (8 + i)) x kR 0)) := by
  unfold f_X8_stands_b71
  rw [ckN (by omega) (by omega), ckN (by omega) (by omega), nC (by omega), pk_us, (h.owner x).2, bq1, ckN (by omega) (by omega)]
theorem look_e (h : WR nR fR nO fO nL fL nC' fC rg wd st kR kO kL kC) {k : Nat} (hk : k < 20) {by_ ls gd : Int32} {rs ow lo wy F cb loM owM : Nat → Int32} (hw : WkR st kR k by_ ls gd rs ow lo wy F cb loM owM) : ∃ x ls', f_X5_lookUp (nI k) ls (nI (k + 1)) rs ow lo wy 3 nR fR = some (ls', upd ow k (own st (fun i => st (8 + i)) x kR 0), upd lo k x) ∧ f_X8_stands (nI k) by_ st F cb loM owM = some (upd cb k by_, upd loM k x, upd owM k (own st (fun i => st (8 + i)) x kR 0)) ∧ ∀ q, q < kR → own st (fun i => st (8 + i)) x kR 0 = nI q → ls' = st (16 + q) := by
  obtain ⟨w1, w2, w3, w4, w5⟩ := hw
  have hv1 := h.2.2.2.2.2.2.2.2.2.1
  have h8 := h.1.1
  have e5 := (w1 k (by omega) 5 (by omega)).1
  have s8 : ∀ (b : Bool), f_X8_stands_b45 st F (nI k) by_ (F (6 * k + 5)) (b01 b) cb loM owM = f_X8_stands_b71 st F (nI k) (nI k) (if b = true then F (6 * k + 5) - 1 else F (6 * k + 5)) (upd cb k by_) loM owM := by
    intro b
    unfold f_X8_stands_b45
    rw [ckN (by omega) (by omega), nC (by omega)]
    cases b with
    | true => rw [if_neg (by decide), if_pos rfl]
    | false => rw [if_pos (show b01 false = 0 from rfl), if_neg (by decide)]
  have s7 : ∀ (b : Bool), f_X5_lookUp_b40 (nI (k + 1)) rs wy 3 nR fR (nI k) (b01 (!b)) ls ow lo = f_X5_lookUp_b67 (nI (k + 1)) rs wy 3 nR fR (nI k) (nI k) (if b = true then F (6 * k + 5) - 1 else F (6 * k + 5)) ls ow lo := by
    intro b
    unfold f_X5_lookUp_b40
    rw [show f_X5_register (nI k) (5 : Int32) (nI (k + 1)) rs = some (rs (6 * k + 5)) from regs_e (k := k + 1) (v := 5) (by omega) (by omega) (by omega), bq1, bq1, e5]
    cases b with
    | true => rw [if_pos (show b01 (!true) = 0 from rfl), if_pos rfl]
    | false => rw [if_neg (show ¬ b01 (!false) = 0 by decide), if_neg (by decide)]
  have fin : ∀ b : Bool, (f_X5_lookUp (nI k) ls (nI (k + 1)) rs ow lo wy 3 nR fR = f_X5_lookUp_b40 (nI (k + 1)) rs wy 3 nR fR (nI k) (b01 (!b)) ls ow lo) → (f_X8_stands (nI k) by_ st F cb loM owM = f_X8_stands_b45 st F (nI k) by_ (F (6 * k + 5)) (b01 b) cb loM owM) → ∃ x ls', f_X5_lookUp (nI k) ls (nI (k + 1)) rs ow lo wy 3 nR fR = some (ls', upd ow k (own st (fun i => st (8 + i)) x kR 0), upd lo k x) ∧ f_X8_stands (nI k) by_ st F cb loM owM = some (upd cb k by_, upd loM k x, upd owM k (own st (fun i => st (8 + i)) x kR 0)) ∧ ∀ q, q < kR → own st (fun i => st (8 + i)) x kR 0 = nI q → ls' = st (16 + q) := by
    intro b e1 e2
    obtain ⟨ls', a1, a2⟩ := b67_e h hk (nI (k + 1)) (if b = true then F (6 * k + 5) - 1 else F (6 * k + 5)) ls rs wy ow lo
    exact ⟨_, ls', by rw [e1, s7, a1], by rw [e2, s8, b71_e h hk], a2⟩
  have u7 : f_X5_lookUp (nI k) ls (nI (k + 1)) rs ow lo wy 3 nR fR = if by_ = 0 then f_X5_lookUp_b35 (nI (k + 1)) rs wy 3 nR fR (nI k) ls ow lo else if by_ = 1 then (if ls = 0 then f_X5_lookUp_b39 (nI (k + 1)) rs wy 3 nR fR (nI k) ls ow lo else f_X5_lookUp_b35 (nI (k + 1)) rs wy 3 nR fR (nI k) ls ow lo) else f_X5_lookUp_b39 (nI (k + 1)) rs wy 3 nR fR (nI k) ls ow lo := by
    unfold f_X5_lookUp
    rw [has5_e _ (by omega), bq1, ite01, if_pos (by rw [nT (by omega)]; omega), ckN (by omega) (by omega), ckN (by omega) (by omega), nC (by omega), w3]
  have u8 : f_X8_stands (nI k) by_ st F cb loM owM = if nI k ≤ 0 then f_X8_stands_b44 st F (nI k) by_ (F (6 * k + 5)) cb loM owM else if by_ = 2 then f_X8_stands_b40 st F (nI k) by_ (F (6 * k + 5)) cb loM owM else cki (nI k - 1) 21 (cki (16 + owM (nI k - 1).toNatClampNeg) 1416 (if st (16 + owM (nI k - 1).toNatClampNeg).toNatClampNeg = 0 then f_X8_stands_b40 st F (nI k) by_ (F (6 * k + 5)) cb loM owM else f_X8_stands_b44 st F (nI k) by_ (F (6 * k + 5)) cb loM owM)) := by
    unfold f_X8_stands
    rw [show ((6 : Int32) * nI k) = nI (6 * k) from mulN 6 k, show nI (6 * k) + (5 : Int32) = nI (6 * k + 5) from nI_add (6 * k) 5, ckN (by omega) (by omega), nC (by omega)]
  rcases w4 with ⟨k0, b0⟩ | ⟨k0, b0⟩ | ⟨k0, b0, q, q1, q2, q3⟩
  · refine fin false ?_ ?_
    · rw [u7, if_pos b0]; rfl
    · rw [u8, if_pos (show nI k ≤ 0 by rw [k0]; decide)]; rfl
  · have nk : ¬ nI k ≤ 0 := fun z => by rw [le, l0, nT (by omega)] at z; omega
    refine fin true ?_ ?_
    · rw [u7, if_neg (by rw [b0]; decide), if_neg (by rw [b0]; decide)]; rfl
    · rw [u8, if_neg nk, if_pos b0]; rfl
  · have nk : ¬ nI k ≤ 0 := fun z => by rw [le, l0, nT (by omega)] at z; omega
    have u8' : f_X8_stands (nI k) by_ st F cb loM owM = if st (16 + q) = 0 then f_X8_stands_b40 st F (nI k) by_ (F (6 * k + 5)) cb loM owM else f_X8_stands_b44 st F (nI k) by_ (F (6 * k + 5)) cb loM owM := by
      rw [u8, if_neg nk, if_neg (by rw [b0]; decide), show nI k - 1 = nI (k - 1) from pk_sub (b := 1) (by omega), ckN (by omega) (by omega), nC (by omega), q2, show (16 : Int32) + nI q = nI (16 + q) from nI_add 16 q, ckN (by omega) (by omega), nC (by omega)]
    have u7' : f_X5_lookUp (nI k) ls (nI (k + 1)) rs ow lo wy 3 nR fR = if st (16 + q) = 0 then f_X5_lookUp_b39 (nI (k + 1)) rs wy 3 nR fR (nI k) ls ow lo else f_X5_lookUp_b35 (nI (k + 1)) rs wy 3 nR fR (nI k) ls ow lo := by
      rw [u7, if_neg (by rw [b0]; decide), if_pos b0, q3]
    by_cases z : st (16 + q) = 0
    · refine fin true ?_ ?_
      · rw [u7', if_pos z]; rfl
      · rw [u8', if_pos z]; rfl
    · refine fin false ?_ ?_
      · rw [u7', if_neg z]; rfl
      · rw [u8', if_neg z]; rfl
/-- by what the walk ends at frame k -/
theorem step_e (h : WR nR fR nO fO nL fL nC' fC rg wd st kR kO kL kC) {k : Nat} (hk : k < 20) {rs ow lo F loM owM : Nat → Int32} {x : Int32} (w1 : ∀ v, v < 6 → rs (6 * k + v) = F (6 * k + v) ∧ 0 ≤ (F (6 * k + v)).toInt ∧ (F (6 * k + v)).toInt ≤ 9999 + 100 * k) (ho : ow k = own st (fun i => st (8 + i)) x kR 0) (hoM : owM k = own st (fun i => st (8 + i)) x kR 0) (hl : lo k = x) (hlM : loM k = x) (asz lm : Int32) (c as row la : Nat → Int32) :
    ∃ e w asz' c' as' lm' row' la' F', f_X7_endAt (nI k) 3 nR fR 4 nO fO asz c as (nI (k + 1)) rs ow lo = some (e, asz', c', as') ∧ f_X8_nextOf (nI k) lm st row la F loM owM = some (w, lm', row', la', F') ∧ (∀ j, j < 6 * k + 6 → F' j = F j) ∧
      ((e = 5 ∧ w = -4 ∧ RowR c' row' ∧ (∃ q, q < kR ∧ own st (fun i => st (8 + i)) x kR 0 = nI q) ∧ ∃ b, row' 0 = nI b ∧ b ≤ 4 ∧ (∀ v, v < 6 → bdB row' (F (6 * k + b) + row' 1) v = false) ∧ ∀ v, v < 6 → F' (6 * k + 6 + v) = NX st F row' (F (6 * k + b) + row' 1) k v) ∨ (e = w ∧ (e = 0 ∨ e = 1 ∨ e = 2 ∨ e = 3))) := by
  unfold f_X7_endAt f_X8_nextOf
  have h8 := h.1.1
  rw [show f_X5_register (nI k) (5 : Int32) (nI (k + 1)) rs = some (rs (6 * k + 5)) from regs_e (k := k + 1) (v := 5) (by omega) (by omega) (by omega), bq1, (w1 5 (by omega)).1, show ((6 : Int32) * nI k) = nI (6 * k) from mulN 6 k, show nI (6 * k) + (5 : Int32) = nI (6 * k + 5) from nI_add (6 * k) 5, show nI (6 * k) + (4 : Int32) = nI (6 * k + 4) from nI_add (6 * k) 4, ckN (n := 6 * k + 5) (N := 126) (by omega) (by omega), nC (by omega), nC (by omega)]
  by_cases p0 : F (6 * k + 5) = 0
  · rw [if_pos p0, if_pos p0]
    exact ⟨_, _, _, _, _, _, _, _, _, rfl, rfl, fun _ _ => rfl, Or.inr ⟨rfl, Or.inl rfl⟩⟩
  · rw [if_neg p0, if_neg p0, ckN (by omega) (by omega), ckN (by omega) (by omega), ckN (by omega) (by omega), ckN (by omega) (by omega), ckN (by omega) (by omega), ckN (by omega) (by omega), nC (by omega), ho, hoM, hl, hlM]
    rcases own_some st (fun i => st (8 + i)) x kR 0 with ⟨q, -⟩ | ⟨i, i1, i2, i3, i4, i5⟩
    · rw [q, if_pos rfl, if_pos rfl]
      exact ⟨_, _, _, _, _, _, _, _, _, rfl, rfl, fun _ _ => rfl, Or.inr ⟨rfl, Or.inr (Or.inl rfl)⟩⟩
    · have hi : i < kR := by omega
      have ne : ¬ nI i = (-4 : Int32) := fun z => by rw [ei, nT (by omega)] at z; have : (i : Int) = -4 := z; omega
      obtain ⟨m', c', r', as', la', e1, e2, e3, e4⟩ := h.rows hi i4 asz lm c as row la
      obtain ⟨b, hb, eb, ebT⟩ := nOf e4.1.2.1
      have hb4 : b ≤ 4 := by have := e4.1.2.2; omega
      rw [i3, if_neg ne, if_neg ne, e1, e2, bq3, bq3, top_e hk e4 eb hb4, bq1, show f_X5_register (nI k) (4 : Int32) (nI (k + 1)) rs = some (rs (6 * k + 4)) from regs_e (k := k + 1) (v := 4) (by omega) (by omega) (by omega), bq1, (w1 4 (by omega)).1, (w1 b (by omega)).1, ckI (x := 0) (n := 14) (by decide) (by decide), show r' ((0 : Int32)).toNatClampNeg = nI b from eb, show r' ((1 : Int32)).toNatClampNeg = r' 1 from rfl, nI_add, ckN (n := 6 * k + b) (N := 126) (by omega) (by omega), ckI (x := 1) (n := 14) (by decide) (by decide), ckN (n := 6 * k + 4) (N := 126) (by omega) (by omega), nC (by omega)]
      by_cases ct : F (6 * k + 4) < F (6 * k + b) + r' 1
      · rw [if_pos ct, if_pos ct]
        obtain ⟨F', g1, g2, g3⟩ := nxt_L (st := st) (lo := loM) (ow := owM) hk (lm := nI m') (la := la') (F (6 * k + b) + r' 1) e4 FUEL 0 F (by omega) (by unfold FUEL; omega)
        rw [show f_X7_endAt_L89 3 nR fR 4 nO fO (nI (k + 1)) rs ow lo FUEL (F (6 * k + b) + r' 1) 0 (nI m') c' as' = _ from end_L (F (6 * k + b) + r' 1) e4 FUEL 0 (by omega) (by unfold FUEL; omega), show f_X8_nextOf_L85 st loM owM FUEL (nI (6 * k)) (F (6 * k + b) + r' 1) 0 (nI m') r' la' F = _ from g1]
        by_cases cb : anB (bdB r' (F (6 * k + b) + r' 1)) (6 - 0) 0 = true
        · rw [if_pos cb, if_pos cb]
          exact ⟨_, _, _, _, _, _, _, _, _, rfl, rfl, g2, Or.inr ⟨rfl, Or.inr (Or.inr (Or.inl rfl))⟩⟩
        · rw [if_neg cb, if_neg cb]
          exact ⟨_, _, _, _, _, _, _, _, _, rfl, rfl, g2, Or.inl ⟨rfl, rfl, e4, ⟨i, hi, rfl⟩, b, eb, hb4, fun v hv => anB_no cb v (by omega) (by omega), fun v hv => g3 cb v (by omega) hv⟩⟩
      · rw [if_neg ct, if_neg ct]
        exact ⟨_, _, _, _, _, _, _, _, _, rfl, rfl, fun _ _ => rfl, Or.inr ⟨rfl, Or.inr (Or.inr (Or.inr rfl))⟩⟩
/-- a guess at frame k -/
theorem gues_e (h : WR nR fR nO fO nL fL nC' fC rg wd st kR kO kL kC) {k : Nat} (hk : k < 20) {rs ow F owM : Nat → Int32} {x : Int32} (w1 : ∀ v, v < 6 → rs (6 * k + v) = F (6 * k + v) ∧ 0 ≤ (F (6 * k + v)).toInt ∧ (F (6 * k + v)).toInt ≤ 9999 + 100 * k) (ho : ow k = own st (fun i => st (8 + i)) x kR 0) (hoM : owM k = own st (fun i => st (8 + i)) x kR 0) (hs : Int32) (P Q F1 : Nat → Int32) (hF1 : ∀ j, j < 6 * k + 6 → F1 j = F j) :
    ∃ hs' P' Q' F', f_X7_findGuesses (nI k) 3 nR fR 2 nC' fC wd (nI (k + 1)) rs ow hs P Q = some (hs', hs', P', Q') ∧ (∀ j, j < 6 * k + 6 → F' j = F j) ∧
      ((hs' = 0 ∧ f_X8_isGuessed (nI k) st F1 owM = some (0, F')) ∨ (0 < hs'.toInt ∧ f_X8_isGuessed (nI k) st F1 owM = some (1, F') ∧ ∃ w, w < 48 ∧ f_X0_bestWord hs' P' = some (nI w) ∧ ∀ v, v < 6 → F' (6 * k + 6 + v) = GX st F w k v)) := by
  have h8 := h.1.1
  have hr : own st (fun i => st (8 + i)) x kR 0 = -4 ∨ ∃ q, q < kR ∧ own st (fun i => st (8 + i)) x kR 0 = nI q := by
    rcases own_some st (fun i => st (8 + i)) x kR 0 with ⟨q, -⟩ | ⟨i, i1, i2, i3, -⟩
    · exact Or.inl q
    · exact Or.inr ⟨i, by omega, i3⟩
  obtain ⟨a, ha, ea, eaT⟩ := nOf (w1 4 (by omega)).2.1
  have hab : a < 1000000 := by have := (w1 4 (by omega)).2.2; omega
  unfold f_X7_findGuesses f_X8_isGuessed
  rw [show f_X5_register (nI k) (4 : Int32) (nI (k + 1)) rs = some (rs (6 * k + 4)) from regs_e (k := k + 1) (v := 4) (by omega) (by omega) (by omega), bq1, ckN (by omega) (by omega), nC (by omega), ho, (w1 4 (by omega)).1, ea, show ((6 : Int32) * nI k) = nI (6 * k) from mulN 6 k, show nI (6 * k) + (4 : Int32) = nI (6 * k + 4) from nI_add (6 * k) 4, ckN (by omega) (by omega), ckN (by omega) (by omega), nC (by omega), hoM, hF1 _ (by omega), ea]
  obtain ⟨s', P', Q', e1, e2, e3⟩ := h.look hr hab hs P Q
  rw [e1, bq3, show f_X8_bestOf (nI a) (own st (fun i => st (8 + i)) x kR 0) 0 st = _ from h.best hr (i := 0) hab (by omega), bq1]
  generalize hL : FF (SW st kR kC (own st (fun i => st (8 + i)) x kR 0)) a (min 16 (48 - a)) 7 = L at e2 e3
  by_cases c : 0 < L.length
  · obtain ⟨w, w1', w2'⟩ := nthF_mem L 0 c
    have hm := FF_mem _ _ _ _ _ (hL ▸ w1')
    have hw48 : w < 48 := by omega
    rw [w2', if_neg (show ¬ nI w = -4 from fun q => by rw [ei, nT (by omega)] at q; have : (w : Int) = -4 := q; omega)]
    obtain ⟨F', g1, g2, g3⟩ := gss_L (st := st) (ow := owM) hk hw48 FUEL 0 F1 (by omega) (by unfold FUEL; omega)
    refine ⟨s', P', Q', F', rfl, fun j hj => by rw [g2 j hj, hF1 j hj], Or.inr ⟨?_, g1, w, hw48, ?_, fun v hv => ?_⟩⟩
    · rw [e2.1, nT (by omega)]; omega
    · unfold f_X0_bestWord
      rw [if_neg (show ¬ s' ≤ 0 from fun z => by rw [le, l0, e2.1, nT (by omega)] at z; omega), ckI (by decide) (by decide), show P' ((0 : Int32)).toNatClampNeg = _ from (e2.2 0 c).1, w2']
    · rw [g3 v (by omega) hv]
      unfold GX
      rw [hF1 _ (by omega)]
  · rw [nthF_out _ _ _ (by omega), if_pos rfl]
    refine ⟨s', P', Q', F1, rfl, hF1, Or.inl ⟨?_, rfl⟩⟩
    rw [e2.1, show L.length = 0 by omega]; rfl
end WALK
