/-! rows -/
def RuR (c r cn rn : Int32) : Prop := (c = 0 ∧ r = 0 ∧ rn = -4) ∨ (c = 1 ∧ r = 1 ∧ cn = rn ∧ 0 ≤ rn.toInt ∧ rn.toInt ≤ 99) ∨ (c = 2 ∧ r = 2 ∧ cn = rn ∧ 0 ≤ rn.toInt ∧ rn.toInt ≤ 5)
def RowR (cells row : Nat → Int32) : Prop := (cells 0 = row 0 ∧ 0 ≤ (row 0).toInt ∧ (row 0).toInt ≤ 4) ∧ (cells 1 = row 1 ∧ 0 ≤ (row 1).toInt ∧ (row 1).toInt ≤ 99) ∧ (∀ v, v < 6 → RuR (cells (2 + v)) (row (2 + v)) (cells (8 + v)) (row (8 + v))) ∧ row 6 = 0
def AsR (m : Nat) (aside laid : Nat → Int32) : Prop := ∀ q, q < m → RowR (fun i => aside (14 * q + i)) (fun i => laid (14 * q + i))
theorem RowR.cong {c r c' r' : Nat → Int32} (h : RowR c r) (h1 : ∀ i, i < 14 → c' i = c i) (h2 : ∀ i, i < 14 → r' i = r i) : RowR c' r' := by
  obtain ⟨a, b, d, e⟩ := h
  refine ⟨?_, ?_, fun v hv => ?_, ?_⟩
  · rw [h1 0 (by omega), h2 0 (by omega)]; exact a
  · rw [h1 1 (by omega), h2 1 (by omega)]; exact b
  · rw [h1 _ (by omega), h2 _ (by omega), h1 _ (by omega), h2 _ (by omega)]; exact d v hv
  · rw [h2 _ (by omega)]; exact e
theorem beg_L : ∀ (n i : Nat) (row : Nat → Int32), i ≤ 6 → 6 - i < n → ∃ row', f_X8_begins_L16 n (nI i) row = some row' ∧ (∀ v, i ≤ v → v < 6 → row' (2 + v) = (if v = 5 then 1 else 0) ∧ row' (8 + v) = (if v = 5 then 1 else -4)) ∧ (∀ j, j < 2 + i → row' j = row j) ∧ (∀ j, 8 ≤ j → j < 8 + i → row' j = row j)
  | 0, i, row, _, h2 => by omega
  | n + 1, i, row, h1, h2 => by
    rw [f_X8_begins_L16]
    by_cases hi : i = 6
    · subst hi
      rw [if_pos (show (6 : Int32) ≤ nI 6 by decide)]
      exact ⟨_, rfl, fun v h3 h4 => by omega, fun _ _ => rfl, fun _ _ _ => rfl⟩
    · rw [if_neg (show ¬ (6 : Int32) ≤ nI i from fun z => by rw [le, nT (by omega)] at z; have : (6 : Int) ≤ i := z; omega)]
      have key : ∀ (a b : Int32), (a = if i = 5 then 1 else 0) → (b = if i = 5 then 1 else -4) → ∃ row', f_X8_begins_b59 (f_X8_begins_L16 n) (nI i) (8 + nI i) b (upd row (2 + i) a) = some row' ∧ (∀ v, i ≤ v → v < 6 → row' (2 + v) = (if v = 5 then 1 else 0) ∧ row' (8 + v) = (if v = 5 then 1 else -4)) ∧ (∀ j, j < 2 + i → row' j = row j) ∧ (∀ j, 8 ≤ j → j < 8 + i → row' j = row j) := by
        intro a b ha hb
        unfold f_X8_begins_b59
        rw [show ((8 : Int32)) = nI 8 from rfl, nI_add, ckN (by omega) (by omega), nC (by omega), nI_1]
        obtain ⟨g, e, g1, g2, g3⟩ := beg_L n (i + 1) (upd (upd row (2 + i) a) (8 + i) b) (by omega) (by omega)
        refine ⟨g, e, fun v h3 h4 => ?_, fun j hj => ?_, fun j hj hj2 => ?_⟩
        · by_cases q : v = i
          · subst q
            rw [g2 _ (by omega), pk_un (by omega), pk_us, g3 _ (by omega) (by omega), pk_us]
            exact ⟨ha, hb⟩
          · exact g1 v (by omega) h4
        · rw [g2 j (by omega), pk_un (by omega), pk_un (by omega)]
        · rw [g3 j hj (by omega), pk_un (by omega), pk_un (by omega)]
      by_cases h5 : i = 5
      · subst h5
        rw [if_pos (show nI 5 = (5 : Int32) from rfl)]
        unfold f_X8_begins_b39
        rw [ckI (by decide) (by decide), if_pos (show nI 5 = (5 : Int32) from rfl)]
        exact key 1 1 rfl rfl
      · have ne : ¬ nI i = (5 : Int32) := fun z => h5 (by rw [ei, nT (by omega)] at z; have : (i : Int) = 5 := z; omega)
        rw [if_neg ne]
        unfold f_X8_begins_b39
        rw [show ((2 : Int32)) = nI 2 from rfl, nI_add, ckN (by omega) (by omega), if_neg ne, nC (by omega)]
        exact key 0 (-4) (by rw [if_neg h5]) (by rw [if_neg h5])
theorem bcm_e {v : Nat} (hv : v < 6) (a b : Int32) (c : Nat → Int32) : f_X1_becomes (nI v) a b c = some (upd (upd c (2 + v) a) (8 + v) b) := by
  unfold f_X1_becomes
  rw [reg_e, bq1, ite01, if_pos (by rw [nT (by omega)]; omega), show ((2 : Int32)) = nI 2 from rfl, show ((8 : Int32)) = nI 8 from rfl, nI_add, nI_add, ckN (by omega) (by omega), ckN (by omega) (by omega), nC (by omega), nC (by omega)]
theorem rul_e {v : Nat} (hv : v < 6) (a b : Int32) (c : Nat → Int32) : f_X8_ruled (nI v) a b c = some (upd (upd c (2 + v) a) (8 + v) b) := by
  unfold f_X8_ruled
  rw [show ((2 : Int32)) = nI 2 from rfl, show ((8 : Int32)) = nI 8 from rfl, nI_add, nI_add, ckN (by omega) (by omega), ckN (by omega) (by omega), nC (by omega), nC (by omega)]
theorem first_e (c r : Nat → Int32) : ∃ c' r', f_X1_becomeFirst c = some c' ∧ f_X8_begins r = some r' ∧ RowR c' r' := by
  obtain ⟨g, eg, g1, -⟩ := fill_e (N := 14) 0 (by omega) c
  obtain ⟨q, eq, q1, q2, -⟩ := beg_L FUEL 0 (upd (upd r 0 4) 1 1) (by omega) (by unfold FUEL; omega)
  refine ⟨upd (upd (upd (upd g 0 4) 1 1) (2 + 5) 1) (8 + 5) 1, q, ?_, ?_, ?_⟩
  · unfold f_X1_becomeFirst
    rw [eg, bq1, ckI (by decide) (by decide), ckI (by decide) (by decide), show f_X1_becomes (5 : Int32) (1 : Int32) (1 : Int32) (upd (upd g ((0 : Int32)).toNatClampNeg 4) ((1 : Int32)).toNatClampNeg 1) = _ from bcm_e (v := 5) (by omega) 1 1 _, bq1]; rfl
  · unfold f_X8_begins
    rw [ckI (by decide) (by decide), ckI (by decide) (by decide)]
    exact eq
  · have a0 : q 0 = 4 := by rw [q2 0 (by omega), pk_un (by omega), pk_us]
    have a1 : q 1 = 1 := by rw [q2 1 (by omega), pk_us]
    refine ⟨?_, ?_, fun v hv => ?_, ?_⟩
    · rw [a0, pk_un (by omega), pk_un (by omega), pk_un (by omega), pk_us]; exact ⟨rfl, by decide, by decide⟩
    · rw [a1, pk_un (by omega), pk_un (by omega), pk_us]; exact ⟨rfl, by decide, by decide⟩
    · rw [(q1 v (by omega) hv).1, (q1 v (by omega) hv).2]
      by_cases h5 : v = 5
      · subst h5
        rw [if_pos rfl, if_pos rfl, pk_un (by omega), pk_us, pk_us]
        exact Or.inr (Or.inl ⟨rfl, rfl, rfl, by decide, by decide⟩)
      · rw [if_neg h5, if_neg h5, pk_un (by omega), pk_un (by omega), pk_un (by omega), pk_un (by omega), g1 _ (by omega)]
        exact Or.inl ⟨rfl, rfl, rfl⟩
    · have := (q1 4 (by omega) (by omega)).1
      rw [if_neg (by omega)] at this
      exact this
theorem RowR.set {c r : Nat → Int32} (h : RowR c r) {v : Nat} (hv : v < 6) (h4 : v ≠ 4) {a b d e : Int32} (hr : RuR a b d e) : RowR (upd (upd c (2 + v) a) (8 + v) d) (upd (upd r (2 + v) b) (8 + v) e) := by
  obtain ⟨h0, h1, h2, h3⟩ := h
  refine ⟨?_, ?_, fun w hw => ?_, ?_⟩
  · rw [pk_un (by omega), pk_un (by omega), pk_un (by omega), pk_un (by omega)]; exact h0
  · rw [pk_un (by omega), pk_un (by omega), pk_un (by omega), pk_un (by omega)]; exact h1
  · by_cases q : w = v
    · subst q
      rw [pk_un (by omega), pk_us, pk_un (by omega), pk_us, pk_us, pk_us]; exact hr
    · rw [pk_un (by omega), pk_un (by omega), pk_un (by omega), pk_un (by omega), pk_un (by omega), pk_un (by omega), pk_un (by omega), pk_un (by omega)]; exact h2 w hw
  · rw [pk_un (by omega), pk_un (by omega)]; exact h3
theorem mar_L {m : Nat} (hm : m < 3) {row : Nat → Int32} : ∀ (n i : Nat) (la : Nat → Int32), i ≤ 14 → 14 - i < n → ∃ la', f_X8_marks_L10 row n (nI i) (nI m) la = some (nI (m + 1), la') ∧ (∀ j, i ≤ j → j < 14 → la' (14 * m + j) = row j) ∧ (∀ j, j < 14 * m + i → la' j = la j)
  | 0, i, la, _, h2 => by omega
  | n + 1, i, la, h1, h2 => by
    rw [f_X8_marks_L10]
    by_cases hi : i = 14
    · subst hi
      rw [if_pos (show (14 : Int32) ≤ nI 14 by decide), nI_1]
      exact ⟨_, rfl, fun v h3 h4 => by omega, fun _ _ => rfl⟩
    · rw [if_neg (show ¬ (14 : Int32) ≤ nI i from fun z => by rw [le, nT (by omega)] at z; have : (14 : Int) ≤ i := z; omega), show ((14 : Int32)) = nI 14 from rfl, mulN, nI_add, ckN (by omega) (by omega), ckN (by omega) (by omega), nC (by omega), nC (by omega), nI_1]
      obtain ⟨g, e, g1, g2⟩ := mar_L hm (row := row) n (i + 1) (upd la (14 * m + i) (row i)) (by omega) (by omega)
      refine ⟨g, e, fun j h3 h4 => ?_, fun j hj => ?_⟩
      · by_cases q : j = i
        · subst q; rw [g2 _ (by omega), pk_us]
        · exact g1 j (by omega) h4
      · rw [g2 j (by omega), pk_un (by omega)]
theorem res_L {m : Nat} (hm : m < 3) {la : Nat → Int32} : ∀ (n i : Nat) (row : Nat → Int32), i ≤ 14 → 14 - i < n → ∃ row', f_X8_resets_L24 la n (nI i) (nI m) row = some (nI m, row') ∧ (∀ j, i ≤ j → j < 14 → row' j = la (14 * m + j)) ∧ (∀ j, j < i → row' j = row j)
  | 0, i, row, _, h2 => by omega
  | n + 1, i, row, h1, h2 => by
    rw [f_X8_resets_L24]
    by_cases hi : i = 14
    · subst hi
      rw [if_pos (show (14 : Int32) ≤ nI 14 by decide)]
      exact ⟨_, rfl, fun v h3 h4 => by omega, fun _ _ => rfl⟩
    · rw [if_neg (show ¬ (14 : Int32) ≤ nI i from fun z => by rw [le, nT (by omega)] at z; have : (14 : Int) ≤ i := z; omega), show ((14 : Int32)) = nI 14 from rfl, mulN, nI_add, ckN (by omega) (by omega), ckN (by omega) (by omega), nC (by omega), nC (by omega), nI_1]
      obtain ⟨g, e, g1, g2⟩ := res_L hm (la := la) n (i + 1) (upd row i (la (14 * m + i))) (by omega) (by omega)
      refine ⟨g, e, fun j h3 h4 => ?_, fun j hj => ?_⟩
      · by_cases q : j = i
        · subst q; rw [g2 _ (by omega), pk_us]
        · exact g1 j (by omega) h4
      · rw [g2 j (by omega), pk_un (by omega)]
theorem mar_e {m : Nat} (hm : m ≤ 3) {c r as la : Nat → Int32} (h : RowR c r) (ha : AsR m as la) : ∃ m' as' la', f_X1_layAside (nI m) c as = some (nI m', as') ∧ f_X8_marks (nI m) r la = some (nI m', la') ∧ m' ≤ 3 ∧ AsR m' as' la' := by
  unfold f_X1_layAside f_X8_marks
  by_cases h3 : m = 3
  · subst h3
    rw [if_pos (show (3 : Int32) ≤ nI 3 by decide), if_pos (show (3 : Int32) ≤ nI 3 by decide)]
    exact ⟨3, _, _, rfl, rfl, by omega, ha⟩
  · have ne : ¬ (3 : Int32) ≤ nI m := fun z => by rw [le, nT (by omega)] at z; have : (3 : Int) ≤ m := z; omega
    obtain ⟨g, e, g1, g2⟩ := mar_L (show m < 3 by omega) (row := r) FUEL 0 la (by omega) (by unfold FUEL; omega)
    rw [if_neg ne, if_neg ne, show f_X8_marks_L10 r FUEL 0 (nI m) la = _ from e, show ((14 : Int32)) = nI 14 from rfl, mulN, nC (by omega), nC (by omega), ck_e (show ¬ (0 : Int32) < 0 ∧ ¬ nI (m * 14) < 0 ∧ ¬ nI 14 < 0 ∧ ((0 : Int32)).toNatClampNeg + 14 ≤ 14 ∧ m * 14 + 14 ≤ 42 from ⟨by decide, by rw [li, l0, nT (by omega)]; omega, by decide, by decide, by omega⟩), nI_1]
    refine ⟨m + 1, _, _, rfl, rfl, by omega, fun q hq => ?_⟩
    by_cases e1 : q = m
    · subst e1
      exact h.cong (fun i hi => by show va_cpy c as 0 (q * 14) 14 (14 * q + i) = c i; rw [pk_cpy_in (by omega) (by omega)]; congr 1; omega) (fun i hi => g1 i (by omega) hi)
    · exact (ha q (by omega)).cong (fun i hi => by show va_cpy c as 0 (m * 14) 14 (14 * q + i) = as (14 * q + i); rw [pk_cpy_out (by omega)]) (fun i hi => g2 _ (by omega))
theorem res_e {m : Nat} (hm : m ≤ 3) {c r as la : Nat → Int32} (ha : AsR m as la) : ∃ m' c' r', f_X1_takeBack (nI m) c as = some (nI m', c') ∧ f_X8_resets (nI m) r la = some (nI m', r') ∧ m' ≤ 3 ∧ RowR c' r' ∧ AsR m' as la := by
  unfold f_X1_takeBack f_X8_resets
  by_cases h0 : m = 0
  · subst h0
    obtain ⟨c', r', e1, e2, e3⟩ := first_e c r
    rw [if_pos (show nI 0 ≤ 0 by decide), if_pos (show nI 0 = 0 from rfl), e1, e2, bq1, bq1]
    exact ⟨0, _, _, rfl, rfl, by omega, e3, ha⟩
  · obtain ⟨k, rfl⟩ : ∃ k, m = k + 1 := ⟨m - 1, by omega⟩
    obtain ⟨g, e, g1, g2⟩ := res_L (show k < 3 by omega) (la := la) FUEL 0 r (by omega) (by unfold FUEL; omega)
    have e1 : nI (k + 1) - 1 = nI k := by
      rw [show ((1 : Int32)) = nI 1 from rfl, pk_sub (by omega)]; rfl
    rw [if_neg (show ¬ nI (k + 1) ≤ 0 from fun z => by rw [le, l0, nT (by omega)] at z; omega), if_neg (show ¬ nI (k + 1) = 0 from fun z => by rw [ei, l0, nT (by omega)] at z; omega), e1, show f_X8_resets_L24 la FUEL 0 (nI k) r = _ from e, show ((14 : Int32)) = nI 14 from rfl, mulN, nC (by omega), nC (by omega), ck_e (show ¬ nI (k * 14) < 0 ∧ ¬ (0 : Int32) < 0 ∧ ¬ nI 14 < 0 ∧ k * 14 + 14 ≤ 42 ∧ ((0 : Int32)).toNatClampNeg + 14 ≤ 14 from ⟨by rw [li, l0, nT (by omega)]; omega, by decide, by decide, by omega, by decide⟩)]
    refine ⟨k, _, _, rfl, rfl, by omega, ?_, fun q hq => ha q (by omega)⟩
    exact (ha k (by omega)).cong (fun i hi => by show va_cpy as c (k * 14) 0 14 i = as (14 * k + i); rw [pk_cpy_in (by omega) (by omega)]; congr 1; omega) (fun i hi => g1 i (by omega) hi)
theorem obd_e {i m : Nat} (hi : i < 40) (hm : m ≤ 3) {st c r as la : Nat → Int32} (h : RowR c r) (ha : AsR m as la) (hv : OpV (st (24 + i)) (st (64 + i)) (st (104 + i))) (h0 : ¬ st (24 + i) = 0) : ∃ m' c' r' as' la', f_X1_obey (st (24 + i)) (st (64 + i)) (st (104 + i)) (nI m) c as = some (nI m', c', as') ∧ f_X8_does (nI i) (nI m) st r la = some (nI m', r', la') ∧ m' ≤ 3 ∧ RowR c' r' ∧ AsR m' as' la' := by
  unfold f_X8_does
  rw [show ((64 : Int32)) = nI 64 from rfl, show ((104 : Int32)) = nI 104 from rfl, show ((24 : Int32)) = nI 24 from rfl, nI_add, nI_add, nI_add, ckN (by omega) (by omega), ckN (by omega) (by omega), ckN (by omega) (by omega), nC (by omega), nC (by omega), nC (by omega), if_neg h0]
  unfold f_X1_obey
  obtain ⟨h0', h1', h2', h3'⟩ := h
  rcases hv with z | ⟨z, v1, v2, n1, n2⟩ | ⟨z, n1, n2⟩ | ⟨z, v1, v2, v3, n1, n2⟩ | ⟨z, v1, v2, v3⟩ | ⟨z, v1, v2, v3, n1, n2⟩ | z | z
  · exact absurd z.1 h0
  · rw [z, if_pos rfl, if_pos rfl, ckI (by decide) (by decide), ckI (by decide) (by decide), ckI (by decide) (by decide), ckI (by decide) (by decide)]
    refine ⟨m, _, _, _, _, rfl, rfl, hm, ⟨?_, ?_, fun v hv => ?_, ?_⟩, ha⟩
    · show upd (upd c 0 _) 1 _ 0 = upd (upd r 0 _) 1 _ 0 ∧ 0 ≤ (upd (upd r 0 _) 1 _ 0).toInt ∧ (upd (upd r 0 _) 1 _ 0).toInt ≤ 4
      rw [pk_un (by omega), pk_us, pk_un (by omega), pk_us]; exact ⟨rfl, v1, v2⟩
    · show upd (upd c 0 _) 1 _ 1 = upd (upd r 0 _) 1 _ 1 ∧ 0 ≤ (upd (upd r 0 _) 1 _ 1).toInt ∧ (upd (upd r 0 _) 1 _ 1).toInt ≤ 99
      rw [pk_us, pk_us]; exact ⟨rfl, n1, n2⟩
    · show RuR (upd (upd c 0 _) 1 _ (2 + v)) (upd (upd r 0 _) 1 _ (2 + v)) (upd (upd c 0 _) 1 _ (8 + v)) (upd (upd r 0 _) 1 _ (8 + v))
      rw [pk_un (by omega), pk_un (by omega), pk_un (by omega), pk_un (by omega), pk_un (by omega), pk_un (by omega), pk_un (by omega), pk_un (by omega)]; exact h2' v hv
    · show upd (upd r 0 _) 1 _ 6 = 0
      rw [pk_un (by omega), pk_un (by omega)]; exact h3'
  · rw [z, if_neg (by decide), if_pos rfl, if_neg (by decide), if_pos rfl, ckI (by decide) (by decide), ckI (by decide) (by decide)]
    refine ⟨m, _, _, _, _, rfl, rfl, hm, ⟨?_, ?_, fun v hv => ?_, ?_⟩, ha⟩
    · show upd c 1 _ 0 = upd r 1 _ 0 ∧ 0 ≤ (upd r 1 _ 0).toInt ∧ (upd r 1 _ 0).toInt ≤ 4
      rw [pk_un (by omega), pk_un (by omega)]; exact h0'
    · show upd c 1 _ 1 = upd r 1 _ 1 ∧ 0 ≤ (upd r 1 _ 1).toInt ∧ (upd r 1 _ 1).toInt ≤ 99
      rw [pk_us, pk_us]; exact ⟨rfl, n1, n2⟩
    · show RuR (upd c 1 _ (2 + v)) (upd r 1 _ (2 + v)) (upd c 1 _ (8 + v)) (upd r 1 _ (8 + v))
      rw [pk_un (by omega), pk_un (by omega), pk_un (by omega), pk_un (by omega)]; exact h2' v hv
    · show upd r 1 _ 6 = 0
      rw [pk_un (by omega)]; exact h3'
  · obtain ⟨v, hv, ev, evT⟩ := nOf v1
    rw [z, if_neg (by decide), if_neg (by decide), if_pos rfl, if_neg (by decide), if_neg (by decide), if_pos rfl, ev, bcm_e (by omega), rul_e (by omega), bq1, bq1]
    exact ⟨m, _, _, _, _, rfl, rfl, hm, RowR.set ⟨h0', h1', h2', h3'⟩ (by omega) (by omega) (Or.inr (Or.inl ⟨rfl, rfl, rfl, n1, n2⟩)), ha⟩
  · obtain ⟨v, hv, ev, evT⟩ := nOf v1
    rw [z, if_neg (by decide), if_neg (by decide), if_neg (by decide), if_pos rfl, if_neg (by decide), if_neg (by decide), if_neg (by decide), if_pos rfl, ev, bcm_e (by omega), rul_e (by omega), bq1, bq1]
    exact ⟨m, _, _, _, _, rfl, rfl, hm, RowR.set ⟨h0', h1', h2', h3'⟩ (by omega) (by omega) (Or.inl ⟨rfl, rfl, rfl⟩), ha⟩
  · obtain ⟨v, hv, ev, evT⟩ := nOf v1
    rw [z, if_neg (by decide), if_neg (by decide), if_neg (by decide), if_neg (by decide), if_pos rfl, if_neg (by decide), if_neg (by decide), if_neg (by decide), if_neg (by decide), if_pos rfl, ev, bcm_e (by omega), rul_e (by omega), bq1, bq1]
    exact ⟨m, _, _, _, _, rfl, rfl, hm, RowR.set ⟨h0', h1', h2', h3'⟩ (by omega) (by omega) (Or.inr (Or.inr ⟨rfl, rfl, rfl, n1, n2⟩)), ha⟩
  · obtain ⟨m', as', la', e1, e2, e3, e4⟩ := mar_e hm (c := c) (r := r) ⟨h0', h1', h2', h3'⟩ ha
    rw [z, if_neg (by decide), if_neg (by decide), if_neg (by decide), if_neg (by decide), if_neg (by decide), if_pos rfl, if_neg (by decide), if_neg (by decide), if_neg (by decide), if_neg (by decide), if_neg (by decide), if_pos rfl, e1, e2, bq2, bq2]
    exact ⟨m', _, _, _, _, rfl, rfl, e3, ⟨h0', h1', h2', h3'⟩, e4⟩
  · obtain ⟨m', c', r', e1, e2, e3, e4, e5⟩ := res_e hm (c := c) (r := r) ha
    rw [z, if_neg (by decide), if_neg (by decide), if_neg (by decide), if_neg (by decide), if_neg (by decide), if_neg (by decide), if_pos rfl, if_neg (by decide), if_neg (by decide), if_neg (by decide), if_neg (by decide), if_neg (by decide), if_neg (by decide), e1, e2, bq2, bq2]
    exact ⟨m', _, _, _, _, rfl, rfl, e3, e4, e5⟩
theorem goTo_L {nR : Int32} {fR fO st : Nat → Int32} {kO : Nat} (x a : Int32) (hO : kO ≤ 40) (hs : st 297 = nI kO) (ho : ∀ i, i < kO → ∀ c, c < 4 → fO (4 * i + c) = st (24 + 40 * c + i)) (hv : ∀ i, i < kO → OpV (st (24 + i)) (st (64 + i)) (st (104 + i))) : ∀ (n i m : Nat) (p : Int32) (c r as la : Nat → Int32), i ≤ kO → kO - i < n → m ≤ 3 → p.toInt ≤ a.toInt → RowR c r → AsR m as la → ∃ m' c' r' as' la', f_X1_goTo_L23 3 nR fR 4 (nI kO) fO n x a p (nI i) (nI m) c as = some (nI m', c', as') ∧ f_X8_rows_L19 st n x a p (nI i) (nI m) r la = some (nI m', r', la') ∧ m' ≤ 3 ∧ RowR c' r' ∧ AsR m' as' la'
  | 0, i, m, p, c, r, as, la, _, h2, _, _, _, _ => by omega
  | n + 1, i, m, p, c, r, as, la, h1, h2, hm, hp, h, ha => by
    rw [f_X1_goTo_L23, f_X8_rows_L19, ckI (by decide) (by decide), show st ((297 : Int32)).toNatClampNeg = nI kO from hs]
    by_cases hi : i = kO
    · subst hi
      rw [if_pos (Int32.le_refl _), if_pos (Int32.le_refl _)]
      exact ⟨m, _, _, _, _, rfl, rfl, hm, h, ha⟩
    · have ne : ¬ nI kO ≤ nI i := by rw [le, nT (by omega), nT (by omega)]; omega
      have at_ : ∀ c, c < 4 → f_X3_at (nI i) (nI c) (4 : Int32) (nI kO) 160 fO = some (st (24 + 40 * c + i)) := fun c hc => by
        rw [show f_X3_at (nI i) (nI c) (4 : Int32) (nI kO) 160 fO = some (fO (i * 4 + c)) from at_in (w := 4) (by omega) hc (by omega) (by omega), Nat.mul_comm i 4, ho i (by omega) c hc]
      have a3 : f_X3_at (nI i) (3 : Int32) (4 : Int32) (nI kO) 160 fO = some (st (144 + i)) := at_ 3 (by omega)
      have a0 : f_X3_at (nI i) (0 : Int32) (4 : Int32) (nI kO) 160 fO = some (st (24 + i)) := at_ 0 (by omega)
      have a1 : f_X3_at (nI i) (1 : Int32) (4 : Int32) (nI kO) 160 fO = some (st (64 + i)) := at_ 1 (by omega)
      have a2 : f_X3_at (nI i) (2 : Int32) (4 : Int32) (nI kO) 160 fO = some (st (104 + i)) := at_ 2 (by omega)
      rw [if_neg ne, if_neg ne, a3, bq1, show ((144 : Int32)) = nI 144 from rfl, show ((24 : Int32)) = nI 24 from rfl, show ((104 : Int32)) = nI 104 from rfl, nI_add, nI_add, nI_add, ckN (by omega) (by omega), nC (by omega), nC (by omega), nC (by omega), nI_1]
      by_cases c1 : st (144 + i) = x
      · rw [if_pos c1, if_pos c1, a0, bq1, ckN (by omega) (by omega)]
        by_cases c2 : st (24 + i) = 0
        · rw [if_pos c2, if_pos c2, a2, bq1, ckN (by omega) (by omega)]
          unfold f_X8_rows_b75
          by_cases c3 : p + st (104 + i) ≤ a
          · have e8 : f_X8_does (nI i) (nI m) st r la = some (nI m, r, la) := by
              unfold f_X8_does
              rw [show ((64 : Int32)) = nI 64 from rfl, show ((104 : Int32)) = nI 104 from rfl, show ((24 : Int32)) = nI 24 from rfl, nI_add, nI_add, nI_add, ckN (by omega) (by omega), ckN (by omega) (by omega), ckN (by omega) (by omega), nC (by omega), nC (by omega), nC (by omega), if_pos c2]
            rw [if_pos c3, if_pos c3, e8, bq3, nI_1]
            exact goTo_L x a hO hs ho hv n (i + 1) m _ c r as la (by omega) (by omega) hm (le.mp c3) h ha
          · rw [if_neg c3, if_neg c3]
            exact ⟨m, _, _, _, _, rfl, rfl, hm, h, ha⟩
        · obtain ⟨m', c', r', as', la', e1, e2, e3, e4, e5⟩ := obd_e (i := i) (by omega) hm h ha (hv i (by omega)) c2
          rw [if_neg c2, if_neg c2, a1, bq1, a2, bq1, e1, bq3]
          unfold f_X8_rows_b75
          rw [add0, if_pos (show p ≤ a from le.mpr hp), e2, bq3, nI_1]
          exact goTo_L x a hO hs ho hv n (i + 1) m' p c' r' as' la' (by omega) (by omega) e3 hp e4 e5
      · rw [if_neg c1, if_neg c1]
        exact goTo_L x a hO hs ho hv n (i + 1) m p c r as la (by omega) (by omega) hm hp h ha
section WREL9
variable {nR : Int32} {fR : Nat → Int32} {nO : Int32} {fO : Nat → Int32} {nL : Int32} {fL : Nat → Int32} {nC' : Int32} {fC rg wd st : Nat → Int32} {kR kO kL kC : Nat}
theorem WR.rows (h : WR nR fR nO fO nL fL nC' fC rg wd st kR kO kL kC) {q : Nat} (hq : q < kR) {a : Int32} (ha : (st q).toInt ≤ a.toInt) (asz : Int32) (lm : Int32) (c as row la : Nat → Int32) : ∃ m' c' r' as' la', f_X1_goTo (nI q) a asz c as 3 nR fR 4 nO fO = some (nI m', c', as') ∧ f_X8_rows (nI q) a lm st row la = some (nI m', r', la') ∧ m' ≤ 3 ∧ RowR c' r' := by
  obtain ⟨hk, hn, hs, hr, ho, hl, hc, hg, hw, hv1, hv2, hv3, hv4, hv5⟩ := h
  obtain ⟨c', r', e1, e2, e3⟩ := first_e c row
  obtain ⟨m', c'', r'', as', la', f1, f2, f3, f4, f5⟩ := goTo_L (nR := nI kR) (fR := fR) (nI q) a hk.2.1 hs.2.1 ho hv3 FUEL 0 0 (st q) c' r' as la (by omega) (by unfold FUEL; omega) (by omega) ha e3 (fun q hq => by omega)
  refine ⟨m', c'', r'', as', la', ?_, ?_, f3, f4⟩
  · unfold f_X1_goTo
    rw [e1, bq1, hn.1, hn.2.1, show f_X3_at (nI q) (0 : Int32) (3 : Int32) (nI kR) 24 fR = some (fR (q * 3 + 0)) from at_in (w := 3) (c := 0) hq (by omega) (by omega) (by omega), bq1, Nat.mul_comm q 3, Nat.add_zero, (hr q hq).1]
    exact f1
  · unfold f_X8_rows
    rw [ckN (by omega) (by omega), e2, bq1, nC (by omega)]
    exact f2
theorem p_row (h : WR nR fR nO fO nL fL nC' fC rg wd st kR kO kL kC) (x y : Int32) (asz lm : Int32) (c as row la : Nat → Int32) : ∃ r asz' c' as' lm' row' la', f_X7_row x y 3 nR fR 4 nO fO asz c as = some (r, asz', c', as') ∧ f_X8_row x y lm st row la = some (r, lm', row', la') := by
  have ho := h.owner x
  unfold f_X7_row f_X8_row
  rw [in_t, bq1, ite01, tt]
  by_cases h1 : 0 ≤ y.toInt ∧ y.toInt ≤ 2
  · rw [if_neg (show ¬ y < 0 from fun z => by rw [li, l0] at z; omega), if_pos (show y ≤ 2 from le.mpr h1.2), if_pos (show (0 : Int64).toInt ≤ y.toInt ∧ y.toInt ≤ (2 : Int64).toInt from h1), ho.1, ho.2, bq1, bq1]
    rcases own_some st (fun i => st (8 + i)) x kR 0 with ⟨q, -⟩ | ⟨i, i1, i2, i3, i4, i5⟩
    · rw [q, if_pos rfl, if_pos rfl]; exact ⟨_, _, _, _, _, _, _, rfl, rfl⟩
    · have hi : i < kR := by omega
      have h8 := h.1
      have ne : ¬ nI i = (-4 : Int32) := fun z => by rw [ei, nT (by omega)] at z; have : (i : Int) = -4 := z; omega
      obtain ⟨m', c', r', as', la', e1, e2, e3, e4⟩ := h.rows hi i4 asz lm c as row la
      rw [i3, if_neg ne, if_neg ne, e1, e2, bq3, bq3]
      obtain ⟨v, hv, rfl, hvT⟩ := nOf h1.1
      have b0 : f_X1_base c' = some (r' 0) := by
        unfold f_X1_base; rw [ckI (by decide) (by decide)]; exact congrArg some e4.1.1
      have b1 : f_X1_off c' = some (r' 1) := by
        unfold f_X1_off; rw [ckI (by decide) (by decide)]; exact congrArg some e4.2.1.1
      rw [b0, b1, bq1, bq1]
      match v, (show v < 3 by omega) with
      | 0, _ => exact ⟨_, _, _, _, _, _, _, rfl, rfl⟩
      | 1, _ => exact ⟨_, _, _, _, _, _, _, rfl, rfl⟩
      | 2, _ => exact ⟨_, _, _, _, _, _, _, rfl, rfl⟩
  · rw [if_neg (show ¬ ((0 : Int64).toInt ≤ y.toInt ∧ y.toInt ≤ (2 : Int64).toInt) from h1)]
    refine ⟨-1, asz, c, as, lm, row, la, ?_, rfl⟩
    by_cases h2 : y.toInt < 0
    · rw [if_pos (show y < 0 by rw [li, l0]; exact h2)]
    · rw [if_neg (show ¬ y < 0 from fun z => h2 (by rw [li, l0] at z; exact z)), if_neg (show ¬ y ≤ 2 from fun z => by rw [le] at z; have : y.toInt ≤ 2 := z; omega)]
theorem whi_e {v : Nat} (hv : v < 6) (c : Nat → Int32) : f_X1_which (nI v) c = some (c (2 + v)) := by
  unfold f_X1_which
  rw [reg_e, bq1, ite01, if_pos (by rw [nT (by omega)]; omega), show ((2 : Int32)) = nI 2 from rfl, nI_add, ckN (by omega) (by omega), nC (by omega)]
theorem nmb_e {v : Nat} (hv : v < 6) (c : Nat → Int32) : f_X1_number (nI v) c = some (c (8 + v)) := by
  unfold f_X1_number
  rw [reg_e, bq1, ite01, if_pos (by rw [nT (by omega)]; omega), show ((8 : Int32)) = nI 8 from rfl, nI_add, ckN (by omega) (by omega), nC (by omega)]
theorem p_ruleOf (h : WR nR fR nO fO nL fL nC' fC rg wd st kR kO kL kC) (x y z : Int32) (asz lm : Int32) (c as row la : Nat → Int32) : ∃ r asz' c' as' lm' row' la', f_X7_ruleOf x y z 3 nR fR 4 nO fO asz c as = some (r, asz', c', as') ∧ f_X8_ruleOf x y z lm st row la = some (r, lm', row', la') := by
  have ho := h.owner x
  unfold f_X7_ruleOf f_X8_ruleOf
  rw [reg_e, bq1, ite01, in_t, bq1, ite01, tt]
  by_cases h1 : 0 ≤ y.toInt ∧ y.toInt ≤ 5
  · rw [if_pos h1, if_pos (show (0 : Int64).toInt ≤ y.toInt ∧ y.toInt ≤ (5 : Int64).toInt from h1)]
    by_cases h4 : y = 4
    · rw [if_pos h4, if_pos h4]; exact ⟨_, _, _, _, _, _, _, rfl, rfl⟩
    · rw [if_neg h4, if_neg h4, in_t, bq1, ite01, tt]
      by_cases h2 : 0 ≤ z.toInt ∧ z.toInt ≤ 1
      · rw [if_neg (show ¬ z < 0 from fun q => by rw [li, l0] at q; omega), if_pos (show z ≤ 1 from le.mpr h2.2), if_pos (show (0 : Int64).toInt ≤ z.toInt ∧ z.toInt ≤ (1 : Int64).toInt from h2), ho.1, ho.2, bq1, bq1]
        rcases own_some st (fun i => st (8 + i)) x kR 0 with ⟨q, -⟩ | ⟨i, i1, i2, i3, i4, i5⟩
        · rw [q, if_pos rfl, if_pos rfl]; exact ⟨_, _, _, _, _, _, _, rfl, rfl⟩
        · have hi : i < kR := by omega
          have h8 := h.1
          have ne : ¬ nI i = (-4 : Int32) := fun z => by rw [ei, nT (by omega)] at z; have : (i : Int) = -4 := z; omega
          obtain ⟨m', c', r', as', la', e1, e2, e3, e4⟩ := h.rows hi i4 asz lm c as row la
          rw [i3, if_neg ne, if_neg ne, e1, e2, bq3, bq3]
          obtain ⟨v, hv, rfl, hvT⟩ := nOf h1.1
          have hv6 : v < 6 := by omega
          rw [whi_e hv6, bq1, nmb_e hv6, bq1]
          have hr := e4.2.2.1 v hv6
          rcases im2 h2 with rfl | rfl
          · rw [if_pos rfl, show ((2 : Int32) + 6 * 0 + nI v) = nI (2 + v) from by rw [show ((2 : Int32) + 6 * 0) = nI 2 from rfl, nI_add], ckN (by omega) (by omega), nC (by omega)]
            have e : c' (2 + v) = r' (2 + v) := by
              rcases hr with q | q | q
              · rw [q.1, q.2.1]
              · rw [q.1, q.2.1]
              · rw [q.1, q.2.1]
            rw [e]; exact ⟨_, _, _, _, _, _, _, rfl, rfl⟩
          · rw [if_neg (by decide), show ((2 : Int32) + 6 * 1 + nI v) = nI (8 + v) from by rw [show ((2 : Int32) + 6 * 1) = nI 8 from rfl, nI_add], ckN (by omega) (by omega), nC (by omega)]
            rcases hr with q | q | q
            · rw [q.1, if_pos rfl, q.2.2]; exact ⟨_, _, _, _, _, _, _, rfl, rfl⟩
            · rw [q.1, if_neg (by decide), q.2.2.1]; exact ⟨_, _, _, _, _, _, _, rfl, rfl⟩
            · rw [q.1, if_neg (by decide), q.2.2.1]; exact ⟨_, _, _, _, _, _, _, rfl, rfl⟩
      · rw [if_neg (show ¬ ((0 : Int64).toInt ≤ z.toInt ∧ z.toInt ≤ (1 : Int64).toInt) from h2)]
        refine ⟨-1, asz, c, as, lm, row, la, ?_, rfl⟩
        by_cases h3 : z.toInt < 0
        · rw [if_pos (show z < 0 by rw [li, l0]; exact h3)]
        · rw [if_neg (show ¬ z < 0 from fun q => h3 (by rw [li, l0] at q; exact q)), if_neg (show ¬ z ≤ 1 from fun q => by rw [le] at q; have : z.toInt ≤ 1 := q; omega)]
  · rw [if_neg h1, if_neg (show ¬ ((0 : Int64).toInt ≤ y.toInt ∧ y.toInt ≤ (5 : Int64).toInt) from h1)]
    exact ⟨_, _, _, _, _, _, _, rfl, rfl⟩
end WREL9
