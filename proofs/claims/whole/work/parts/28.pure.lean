/-! walks: the values of a frame behind another -/
def CX (st frames row : Nat → Int32) (top : Int32) (k v : Nat) : Int32 := if row (2 + v) = 0 then frames (6 * k + v) else if row (2 + v) = 1 then st (306 + (top - row (8 + v)).toNatClampNeg) else frames (6 * k + (row (8 + v)).toNatClampNeg)
def NX (st frames row : Nat → Int32) (top : Int32) (k v : Nat) : Int32 := if v = 4 then top else CX st frames row top k v
def GX (st frames : Nat → Int32) (w k v : Nat) : Int32 := if v = 5 then st (306 + w) else if v = 4 then nI w + 1 else frames (6 * k + v)
def bdB (row : Nat → Int32) (top : Int32) (v : Nat) : Bool := decide (row (2 + v) = 1 ∧ ¬ (0 ≤ (top - row (8 + v)).toInt ∧ (top - row (8 + v)).toInt ≤ 47))
theorem anB_no {P : Nat → Bool} : ∀ {n i : Nat}, ¬ anB P n i = true → ∀ j, i ≤ j → j < i + n → P j = false
  | 0, i, _, j, h1, h2 => by omega
  | n + 1, i, h, j, h1, h2 => by
    rw [anB, Bool.or_eq_true] at h
    by_cases e : j = i
    · subst e
      cases hp : P j with
      | true => exact absurd (Or.inl hp) h
      | false => rfl
    · exact anB_no (fun z => h (Or.inr z)) j (by omega) (by omega)
theorem end_L {nR : Int32} {fR fO : Nat → Int32} {nO sz : Int32} {rs ow lo : Nat → Int32} {c r : Nat → Int32} {asz : Int32} {as : Nat → Int32} (top : Int32) (h : RowR c r) : ∀ (n i : Nat), i ≤ 6 → 6 - i < n → f_X7_endAt_L89 3 nR fR 4 nO fO sz rs ow lo n top (nI i) asz c as = some (if anB (bdB r top) (6 - i) i = true then 2 else 5, asz, c, as)
  | 0, i, _, h2 => by omega
  | n + 1, i, h1, h2 => by
    rw [f_X7_endAt_L89]
    by_cases hi : i = 6
    · subst hi
      rw [if_pos (show (6 : Int32) ≤ nI 6 by decide)]; rfl
    · rw [if_neg (show ¬ (6 : Int32) ≤ nI i from fun z => by rw [le, nT (by omega)] at z; have : (6 : Int) ≤ i := z; omega), whi_e (by omega), bq1, nmb_e (by omega), bq1, nI_1, word_e, bq1, ite01]
      obtain ⟨m, hm⟩ : ∃ m, 6 - i = m + 1 := ⟨6 - i - 1, by omega⟩
      have r0 := end_L (nR := nR) (fR := fR) (fO := fO) (nO := nO) (sz := sz) (rs := rs) (ow := ow) (lo := lo) (asz := asz) (as := as) top h n (i + 1) (by omega) (by omega)
      rw [show 6 - (i + 1) = m by omega] at r0
      rw [hm, anB, r0]
      rcases h.2.2.1 i (by omega) with q | q | q
      · rw [if_neg (show ¬ c (2 + i) = 1 by rw [q.1]; decide), show bdB r top i = false from decide_eq_false (fun z => by rw [q.2.1] at z; exact absurd z.1 (by decide)), Bool.false_or]
      · rw [if_pos q.1, q.2.2.1]
        by_cases z : 0 ≤ (top - r (8 + i)).toInt ∧ (top - r (8 + i)).toInt ≤ 47
        · rw [if_pos z, show bdB r top i = false from decide_eq_false (fun y => y.2 z), Bool.false_or]
        · rw [if_neg z, show bdB r top i = true from decide_eq_true ⟨q.2.1, z⟩, Bool.true_or, if_pos rfl]
      · rw [if_neg (show ¬ c (2 + i) = 1 by rw [q.1]; decide), show bdB r top i = false from decide_eq_false (fun z => by rw [q.2.1] at z; exact absurd z.1 (by decide)), Bool.false_or]
theorem nxt_L {st lo ow : Nat → Int32} {k : Nat} (hk : k < 20) {lm : Int32} {c r la : Nat → Int32} (top : Int32) (h : RowR c r) : ∀ (n i : Nat) (F : Nat → Int32), i ≤ 6 → 6 - i < n → ∃ F', f_X8_nextOf_L85 st lo ow n (nI (6 * k)) top (nI i) lm r la F = some (if anB (bdB r top) (6 - i) i = true then 2 else -4, lm, r, la, F') ∧ (∀ j, j < 6 * k + 6 + i → F' j = F j) ∧ (¬ anB (bdB r top) (6 - i) i = true → ∀ v, i ≤ v → v < 6 → F' (6 * k + 6 + v) = NX st F r top k v)
  | 0, i, F, _, h2 => by omega
  | n + 1, i, F, h1, h2 => by
    rw [f_X8_nextOf_L85]
    by_cases hi : i = 6
    · subst hi
      rw [if_pos (show (6 : Int32) ≤ nI 6 by decide)]
      exact ⟨F, rfl, fun _ _ => rfl, fun _ v h3 h4 => by omega⟩
    · rw [if_neg (show ¬ (6 : Int32) ≤ nI i from fun z => by rw [le, nT (by omega)] at z; have : (6 : Int) ≤ i := z; omega), show ((8 : Int32)) = nI 8 from rfl, show ((2 : Int32) + nI i) = nI (2 + i) from nI_add 2 i, nI_add, ckN (by omega) (by omega), ckN (by omega) (by omega), nC (by omega), nC (by omega)]
      obtain ⟨m, hm⟩ : ∃ m, 6 - i = m + 1 := ⟨6 - i - 1, by omega⟩
      rw [hm, anB]
      have h4 := h.2.2.2
      have b215 : ∀ x : Int32, x = CX st F r top k i ∨ i = 4 → bdB r top i = false → ∃ F', f_X8_nextOf_b215 st lo ow (f_X8_nextOf_L85 st lo ow n) (nI (6 * k)) top (nI i) x lm r la F = some (if anB (bdB r top) m (i + 1) = true then 2 else -4, lm, r, la, F') ∧ (∀ j, j < 6 * k + 6 + i → F' j = F j) ∧ (¬ anB (bdB r top) m (i + 1) = true → ∀ v, i ≤ v → v < 6 → F' (6 * k + 6 + v) = NX st F r top k v) := by
        intro x hx hb
        have b240 : ∀ y : Int32, y = NX st F r top k i → ∃ F', f_X8_nextOf_b240 st lo ow (f_X8_nextOf_L85 st lo ow n) (nI (6 * k)) top (nI i) (nI (6 * k) + 6 + nI i) y lm r la F = some (if anB (bdB r top) m (i + 1) = true then 2 else -4, lm, r, la, F') ∧ (∀ j, j < 6 * k + 6 + i → F' j = F j) ∧ (¬ anB (bdB r top) m (i + 1) = true → ∀ v, i ≤ v → v < 6 → F' (6 * k + 6 + v) = NX st F r top k v) := by
          intro y hy
          unfold f_X8_nextOf_b240
          rw [show ((6 : Int32)) = nI 6 from rfl, nI_add, nI_add, ckN (by omega) (by omega), nC (by omega), nI_1]
          obtain ⟨g, e, g1, g2⟩ := nxt_L (st := st) (lo := lo) (ow := ow) hk (lm := lm) (la := la) top h n (i + 1) (upd F (6 * k + 6 + i) y) (by omega) (by omega)
          rw [show 6 - (i + 1) = m by omega] at e g2
          refine ⟨g, e, fun j hj => by rw [g1 j (by omega), pk_un (by omega)], fun hn v h5 h6 => ?_⟩
          by_cases q : v = i
          · subst q
            rw [g1 _ (by omega), pk_us, hy]
          · rw [g2 hn v (by omega) h6]
            unfold NX CX
            have hr := h.2.2.1 v h6
            by_cases v4 : v = 4
            · rw [if_pos v4, if_pos v4]
            · rw [if_neg v4, if_neg v4, pk_un (by omega)]
              rcases hr with z | z | z
              · rw [if_pos z.2.1, if_pos z.2.1]
              · have z0 : ¬ r (2 + v) = 0 := by rw [z.2.1]; decide
                rw [if_neg z0, if_pos z.2.1, if_neg z0, if_pos z.2.1]
              · have z0 : ¬ r (2 + v) = 0 := by rw [z.2.1]; decide
                have z1 : ¬ r (2 + v) = 1 := by rw [z.2.1]; decide
                rw [if_neg z0, if_neg z1, if_neg z0, if_neg z1, pk_un (by
                  obtain ⟨u, hu, eu, euT⟩ := nOf z.2.2.2.1
                  rw [eu, nC (by omega)]; omega)]
        unfold f_X8_nextOf_b215
        by_cases q4 : i = 4
        · subst q4
          rw [if_pos (show nI 4 = (4 : Int32) from rfl)]
          exact b240 top (by unfold NX; rw [if_pos rfl])
        · rw [if_neg (show ¬ nI i = (4 : Int32) from fun z => q4 (by rw [ei, nT (by omega)] at z; have : (i : Int) = 4 := z; omega))]
          rcases hx with hx | hx
          · exact b240 x (by unfold NX; rw [if_neg q4]; exact hx)
          · exact absurd hx q4
      have b135 : bdB r top i = false → ∃ F', f_X8_nextOf_b135 st lo ow (f_X8_nextOf_L85 st lo ow n) (nI (6 * k)) top (nI i) (top - r (8 + i)) lm r la F = some (if anB (bdB r top) m (i + 1) = true then 2 else -4, lm, r, la, F') ∧ (∀ j, j < 6 * k + 6 + i → F' j = F j) ∧ (¬ anB (bdB r top) m (i + 1) = true → ∀ v, i ≤ v → v < 6 → F' (6 * k + 6 + v) = NX st F r top k v) := by
        intro hb
        unfold f_X8_nextOf_b135
        rw [show ((2 : Int32) + nI i) = nI (2 + i) from nI_add 2 i, show ((8 : Int32) + nI i) = nI (8 + i) from nI_add 8 i, ckN (by omega) (by omega), nC (by omega), nC (by omega)]
        rcases h.2.2.1 i (by omega) with q | q | q
        · rw [if_pos q.2.1, nI_add, ckN (by omega) (by omega), nC (by omega)]
          exact b215 _ (Or.inl (by unfold CX; rw [if_pos q.2.1])) hb
        · have nb : 0 ≤ (top - r (8 + i)).toInt ∧ (top - r (8 + i)).toInt ≤ 47 := Classical.byContradiction fun z => by
            have := of_decide_eq_false hb
            exact this ⟨q.2.1, z⟩
          rw [if_neg (by rw [q.2.1]; decide), ckN (by omega) (by omega), if_pos q.2.1, word8_e, bq1, ite01, if_pos nb]
          unfold f_X8_nextOf_b193
          obtain ⟨u, hu, eu, euT⟩ := nOf nb.1
          rw [eu, show ((306 : Int32)) = nI 306 from rfl, nI_add, ckN (by omega) (by omega), nC (by omega)]
          exact b215 _ (Or.inl (by unfold CX; rw [if_neg (by rw [q.2.1]; decide), if_pos q.2.1, eu, nC (by omega)])) hb
        · obtain ⟨u, hu, eu, euT⟩ := nOf q.2.2.2.1
          rw [if_neg (by rw [q.2.1]; decide), ckN (by omega) (by omega), if_neg (by rw [q.2.1]; decide), ckN (by omega) (by omega), eu, nI_add, ckN (by omega) (by omega), nC (by omega)]
          exact b215 _ (Or.inl (by unfold CX; rw [if_neg (by rw [q.2.1]; decide), if_neg (by rw [q.2.1]; decide), eu, nC (by omega)])) hb
      by_cases q4 : i = 4
      · subst q4
        have hb : bdB r top 4 = false := decide_eq_false (fun z => by rw [show r (2 + 4) = 0 from h4] at z; exact absurd z.1 (by decide))
        rw [if_pos (show nI 4 = (4 : Int32) from rfl), hb, Bool.false_or]
        exact b135 hb
      · rw [if_neg (show ¬ nI i = (4 : Int32) from fun z => q4 (by rw [ei, nT (by omega)] at z; have : (i : Int) = 4 := z; omega))]
        by_cases q1 : r (2 + i) = 1
        · rw [if_pos q1, word8_e, bq1, ite01]
          by_cases z : 0 ≤ (top - r (8 + i)).toInt ∧ (top - r (8 + i)).toInt ≤ 47
          · have hb : bdB r top i = false := decide_eq_false (fun y => y.2 z)
            rw [if_pos z, hb, Bool.false_or]
            exact b135 hb
          · have hb : bdB r top i = true := decide_eq_true ⟨q1, z⟩
            rw [if_neg z, hb, Bool.true_or, if_pos rfl]
            exact ⟨F, rfl, fun _ _ => rfl, fun y => absurd rfl y⟩
        · have hb : bdB r top i = false := decide_eq_false (fun y => q1 y.1)
          rw [if_neg q1, hb, Bool.false_or]
          exact b135 hb
/-! adding a frame, in the class -/
theorem tadd_e {k : Nat} (hk : k + 1 < 20) (by_ : Int32) (ways : Nat → Int32) : f_X5_add by_ (nI (k + 1)) ways = some (nI (k + 2), upd ways (k + 1) by_) := by
  unfold f_X5_add
  rw [if_neg (show ¬ (20 : Int32) ≤ nI (k + 1) from fun z => by rw [le, nT (by omega)] at z; have : (20 : Int) ≤ ((k + 1 : Nat) : Int) := z; omega), ckN (by omega) (by omega), nC (by omega), nI_1]
theorem top_e {k b : Nat} (hk : k < 20) {rs c r : Nat → Int32} (h : RowR c r) (hb : r 0 = nI b) (hb4 : b ≤ 4) : f_X5_topOf (nI k) (nI (k + 1)) rs c = some (rs (6 * k + b) + r 1) := by
  unfold f_X5_topOf f_X1_base f_X1_off
  rw [ckI (by decide) (by decide), ckI (by decide) (by decide), bq1, show c ((0 : Int32)).toNatClampNeg = nI b from h.1.1.trans hb, regs_e (by omega) (by omega) (by omega), bq1, bq1, show c ((1 : Int32)).toNatClampNeg = r 1 from h.2.1.1]
theorem cal_e {k v b : Nat} (hk : k < 20) (hv : v < 6) {st rs F c r wd : Nat → Int32} (h : RowR c r) (hb : r 0 = nI b) (hb4 : b ≤ 4) (hF : ∀ u, u < 6 → rs (6 * k + u) = F (6 * k + u)) (hw : ∀ i, i < 48 → wd i = st (306 + i)) (hn : bdB r (F (6 * k + b) + r 1) v = false) : f_X5_callers (nI k) (nI v) (nI (k + 1)) rs c 48 wd = some (CX st F r (F (6 * k + b) + r 1) k v) := by
  unfold f_X5_callers CX
  rw [whi_e hv, bq1, nmb_e hv, bq1, bq1, top_e hk h hb hb4, bq1, bq1, regs_e (k := k + 1) (by omega) (by omega) hv, bq1, hF b (by omega), hF v hv]
  rcases h.2.2.1 v hv with q | q | q
  · rw [if_neg (by rw [q.1]; decide), if_neg (by rw [q.1]; decide), if_pos q.2.1]
  · have nb : 0 ≤ (F (6 * k + b) + r 1 - r (8 + v)).toInt ∧ (F (6 * k + b) + r 1 - r (8 + v)).toInt ≤ 47 := Classical.byContradiction fun z => (of_decide_eq_false hn) ⟨q.2.1, z⟩
    obtain ⟨u, hu, eu, euT⟩ := nOf nb.1
    rw [if_neg (by rw [q.1]; decide), if_pos q.1, if_neg (show ¬ r (2 + v) = 0 by rw [q.2.1]; decide), if_pos q.2.1, q.2.2.1, eu, if_neg (show ¬ nI u < 0 from fun z => by rw [li, l0, nT (by omega)] at z; omega), if_neg (show ¬ Int32.ofNat 48 ≤ nI u from fun z => by rw [le, nT (by omega)] at z; have : (48 : Int) ≤ u := z; omega), ckN (by omega) (by omega), nC (by omega), hw u (by omega)]
  · obtain ⟨u, hu, eu, euT⟩ := nOf q.2.2.2.1
    rw [if_pos q.1, if_neg (by rw [q.2.1]; decide), if_neg (by rw [q.2.1]; decide), q.2.2.1, eu, regs_e (k := k + 1) (by omega) (by omega) (by omega), bq1, nC (by omega), hF u (by omega)]
theorem abr_L {k b : Nat} (hk : k + 1 < 20) {st F c r wd ways : Nat → Int32} (h : RowR c r) (hb : r 0 = nI b) (hb4 : b ≤ 4) (hw : ∀ i, i < 48 → wd i = st (306 + i)) (hn : ∀ v, v < 6 → bdB r (F (6 * k + b) + r 1) v = false) : ∀ (n i : Nat) (rs : Nat → Int32), i ≤ 6 → 6 - i < n → (∀ u, u < 6 → rs (6 * k + u) = F (6 * k + u)) → (∀ v, v < i → rs (6 * (k + 1) + v) = CX st F r (F (6 * k + b) + r 1) k v) → ∃ rs', f_X5_addByRow_L30 c 48 wd n (nI k) (nI (6 * (k + 1))) (F (6 * k + b) + r 1) (nI i) (nI (k + 1)) rs ways = some (nI (k + 2), rs', upd ways (k + 1) 1) ∧ (∀ j, j < 6 * (k + 1) → rs' j = rs j) ∧ ∀ v, v < 6 → rs' (6 * (k + 1) + v) = NX st F r (F (6 * k + b) + r 1) k v
  | 0, i, rs, _, h2, _, _ => by omega
  | n + 1, i, rs, h1, h2, hF, hd => by
    rw [f_X5_addByRow_L30]
    by_cases hi : i = 6
    · subst hi
      rw [if_pos (show (6 : Int32) ≤ nI 6 by decide), show ((4 : Int32)) = nI 4 from rfl, nI_add, ckN (by omega) (by omega), nC (by omega), tadd_e hk, bq2]
      refine ⟨_, rfl, fun j hj => pk_un (by omega), fun v hv => ?_⟩
      unfold NX
      by_cases v4 : v = 4
      · subst v4; rw [pk_us, if_pos rfl]
      · rw [pk_un (by omega), if_neg v4]; exact hd v hv
    · rw [if_neg (show ¬ (6 : Int32) ≤ nI i from fun z => by rw [le, nT (by omega)] at z; have : (6 : Int) ≤ i := z; omega), cal_e (by omega) (by omega) h hb hb4 hF hw (hn i (by omega)), bq1, nI_add, ckN (by omega) (by omega), nC (by omega), nI_1]
      obtain ⟨g, e, g1, g2⟩ := abr_L hk h hb hb4 hw hn (ways := ways) n (i + 1) (upd rs (6 * (k + 1) + i) (CX st F r (F (6 * k + b) + r 1) k i)) (by omega) (by omega) (fun u hu => by rw [pk_un (by omega)]; exact hF u hu) (fun v hv => by
        by_cases q : v = i
        · subst q; rw [pk_us]
        · rw [pk_un (by omega)]; exact hd v (by omega))
      exact ⟨g, e, fun j hj => by rw [g1 j hj, pk_un (by omega)], g2⟩
theorem abr_e {k b : Nat} (hk : k + 1 < 20) {st F c r wd ways rs : Nat → Int32} (h : RowR c r) (hb : r 0 = nI b) (hb4 : b ≤ 4) (hw : ∀ i, i < 48 → wd i = st (306 + i)) (hn : ∀ v, v < 6 → bdB r (F (6 * k + b) + r 1) v = false) (hF : ∀ u, u < 6 → rs (6 * k + u) = F (6 * k + u)) : ∃ rs', f_X5_addByRow (nI k) (nI (k + 1)) rs ways c 48 wd = some (nI (k + 2), rs', upd ways (k + 1) 1) ∧ (∀ j, j < 6 * (k + 1) → rs' j = rs j) ∧ ∀ v, v < 6 → rs' (6 * (k + 1) + v) = NX st F r (F (6 * k + b) + r 1) k v := by
  obtain ⟨g, e, g1, g2⟩ := abr_L hk h hb hb4 hw hn (ways := ways) FUEL 0 rs (by omega) (by unfold FUEL; omega) hF (fun v hv => by omega)
  refine ⟨g, ?_, g1, g2⟩
  unfold f_X5_addByRow
  rw [if_pos (show nI (k + 1) < (20 : Int32) by rw [li, nT (by omega)]; show ((k + 1 : Nat) : Int) < 20; omega), top_e (by omega) h hb hb4, bq1, hF b (by omega), show ((6 : Int32)) = nI 6 from rfl, mulN, Nat.mul_comm (k + 1) 6]
  exact e
theorem agu_L {k w : Nat} (hk : k + 1 < 20) {st F ways : Nat → Int32} {gd : Int32} : ∀ (n i : Nat) (rs : Nat → Int32), i ≤ 6 → 6 - i < n → (∀ u, u < 6 → rs (6 * k + u) = F (6 * k + u)) → (∀ v, v < i → rs (6 * (k + 1) + v) = F (6 * k + v)) → ∃ rs', f_X5_addGuessed_L22 n (nI k) (st (306 + w)) (nI w) (nI (6 * (k + 1))) (nI i) (nI (k + 1)) gd rs ways = some (nI (k + 2), gd + 1, rs', upd ways (k + 1) 2) ∧ (∀ j, j < 6 * (k + 1) → rs' j = rs j) ∧ ∀ v, v < 6 → rs' (6 * (k + 1) + v) = GX st F w k v
  | 0, i, rs, _, h2, _, _ => by omega
  | n + 1, i, rs, h1, h2, hF, hd => by
    rw [f_X5_addGuessed_L22]
    by_cases hi : i = 6
    · subst hi
      rw [if_pos (show (6 : Int32) ≤ nI 6 by decide), show ((4 : Int32)) = nI 4 from rfl, show ((5 : Int32)) = nI 5 from rfl, nI_add, nI_add, ckN (by omega) (by omega), ckN (by omega) (by omega), nC (by omega), nC (by omega), tadd_e hk, bq2]
      refine ⟨_, rfl, fun j hj => by rw [pk_un (by omega), pk_un (by omega)], fun v hv => ?_⟩
      unfold GX
      by_cases v5 : v = 5
      · subst v5; rw [pk_us, if_pos rfl]
      · rw [pk_un (by omega), if_neg v5]
        by_cases v4 : v = 4
        · subst v4; rw [pk_us, if_pos rfl]
        · rw [pk_un (by omega), if_neg v4]; exact hd v hv
    · rw [if_neg (show ¬ (6 : Int32) ≤ nI i from fun z => by rw [le, nT (by omega)] at z; have : (6 : Int) ≤ i := z; omega), regs_e (k := k + 1) (by omega) (by omega) (by omega), bq1, nI_add, ckN (by omega) (by omega), nC (by omega), nI_1, hF i (by omega)]
      obtain ⟨g, e, g1, g2⟩ := agu_L hk (st := st) (w := w) (F := F) (ways := ways) (gd := gd) n (i + 1) (upd rs (6 * (k + 1) + i) (F (6 * k + i))) (by omega) (by omega) (fun u hu => by rw [pk_un (by omega)]; exact hF u hu) (fun v hv => by
        by_cases q : v = i
        · subst q; rw [pk_us]
        · rw [pk_un (by omega)]; exact hd v (by omega))
      exact ⟨g, e, fun j hj => by rw [g1 j hj, pk_un (by omega)], g2⟩
theorem agu_e {k w : Nat} (hk : k + 1 < 20) {st F ways rs : Nat → Int32} {gd : Int32} (hF : ∀ u, u < 6 → rs (6 * k + u) = F (6 * k + u)) : ∃ rs', f_X5_addGuessed (nI k) (st (306 + w)) (nI w) (nI (k + 1)) gd rs ways = some (nI (k + 2), gd + 1, rs', upd ways (k + 1) 2) ∧ (∀ j, j < 6 * (k + 1) → rs' j = rs j) ∧ ∀ v, v < 6 → rs' (6 * (k + 1) + v) = GX st F w k v := by
  obtain ⟨g, e, g1, g2⟩ := agu_L hk (st := st) (w := w) (F := F) (ways := ways) (gd := gd) FUEL 0 rs (by omega) (by unfold FUEL; omega) hF (fun v hv => by omega)
  refine ⟨g, ?_, g1, g2⟩
  unfold f_X5_addGuessed
  rw [if_pos (show nI (k + 1) < (20 : Int32) by rw [li, nT (by omega)]; show ((k + 1 : Nat) : Int) < 20; omega), show ((6 : Int32)) = nI 6 from rfl, mulN, Nat.mul_comm (k + 1) 6]
  exact e
theorem gss_L {st ow : Nat → Int32} {k w : Nat} (hk : k < 20) (hw : w < 48) : ∀ (n i : Nat) (F : Nat → Int32), i ≤ 6 → 6 - i < n → ∃ F', f_X8_isGuessed_L36 st ow n (nI (6 * k)) (nI w) (nI i) F = some (1, F') ∧ (∀ j, j < 6 * k + 6 + i → F' j = F j) ∧ ∀ v, i ≤ v → v < 6 → F' (6 * k + 6 + v) = GX st F w k v
  | 0, i, F, _, h2 => by omega
  | n + 1, i, F, h1, h2 => by
    rw [f_X8_isGuessed_L36]
    by_cases hi : i = 6
    · subst hi
      rw [if_pos (show (6 : Int32) ≤ nI 6 by decide)]
      exact ⟨F, rfl, fun _ _ => rfl, fun v h3 h4 => by omega⟩
    · rw [if_neg (show ¬ (6 : Int32) ≤ nI i from fun z => by rw [le, nT (by omega)] at z; have : (6 : Int) ≤ i := z; omega)]
      have b94 : ∀ y : Int32, y = GX st F w k i → ∃ F', f_X8_isGuessed_b94 st ow (f_X8_isGuessed_L36 st ow n) (nI (6 * k)) (nI w) (nI i) (nI (6 * k) + 6 + nI i) y F = some (1, F') ∧ (∀ j, j < 6 * k + 6 + i → F' j = F j) ∧ ∀ v, i ≤ v → v < 6 → F' (6 * k + 6 + v) = GX st F w k v := by
        intro y hy
        unfold f_X8_isGuessed_b94
        rw [show ((6 : Int32)) = nI 6 from rfl, nI_add, nI_add, ckN (by omega) (by omega), nC (by omega), nI_1]
        obtain ⟨g, e, g1, g2⟩ := gss_L (st := st) (ow := ow) hk hw n (i + 1) (upd F (6 * k + 6 + i) y) (by omega) (by omega)
        refine ⟨g, e, fun j hj => by rw [g1 j (by omega), pk_un (by omega)], fun v h5 h6 => ?_⟩
        by_cases q : v = i
        · subst q
          rw [g1 _ (by omega), pk_us, hy]
        · rw [g2 v (by omega) h6]
          unfold GX
          rw [pk_un (by omega)]
      by_cases q5 : i = 5
      · subst q5
        rw [if_pos (show nI 5 = (5 : Int32) from rfl), show ((306 : Int32)) = nI 306 from rfl, nI_add, ckN (by omega) (by omega), nC (by omega)]
        exact b94 _ (by unfold GX; rw [if_pos rfl])
      · rw [if_neg (show ¬ nI i = (5 : Int32) from fun z => q5 (by rw [ei, nT (by omega)] at z; have : (i : Int) = 5 := z; omega))]
        by_cases q4 : i = 4
        · subst q4
          rw [if_pos (show nI 4 = (4 : Int32) from rfl)]
          exact b94 _ (by unfold GX; rw [if_neg (by omega), if_pos rfl])
        · rw [if_neg (show ¬ nI i = (4 : Int32) from fun z => q4 (by rw [ei, nT (by omega)] at z; have : (i : Int) = 4 := z; omega)), nI_add (6 * k) i, ckN (by omega) (by omega), nC (by omega)]
          exact b94 _ (by unfold GX; rw [if_neg q5, if_neg q4])
