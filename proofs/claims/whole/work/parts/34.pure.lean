/-! the text: operands -/
theorem bq4 {a1 a2 a3 a4 b : Type} (x1 : a1) (x2 : a2) (x3 : a3) (x4 : a4) (k : a1 → a2 → a3 → a4 → Option b) : bn4 (some (x1, x2, x3, x4)) k = k x1 x2 x3 x4 := rfl
theorem bq6 {a1 a2 a3 a4 a5 a6 b : Type} (x1 : a1) (x2 : a2) (x3 : a3) (x4 : a4) (x5 : a5) (x6 : a6) (k : a1 → a2 → a3 → a4 → a5 → a6 → Option b) : bn6 (some (x1, x2, x3, x4, x5, x6)) k = k x1 x2 x3 x4 x5 x6 := rfl
theorem bq7 {a1 a2 a3 a4 a5 a6 a7 b : Type} (x1 : a1) (x2 : a2) (x3 : a3) (x4 : a4) (x5 : a5) (x6 : a6) (x7 : a7) (k : a1 → a2 → a3 → a4 → a5 → a6 → a7 → Option b) : bn7 (some (x1, x2, x3, x4, x5, x6, x7)) k = k x1 x2 x3 x4 x5 x6 x7 := rfl
theorem bq8 {a1 a2 a3 a4 a5 a6 a7 a8 b : Type} (x1 : a1) (x2 : a2) (x3 : a3) (x4 : a4) (x5 : a5) (x6 : a6) (x7 : a7) (x8 : a8) (k : a1 → a2 → a3 → a4 → a5 → a6 → a7 → a8 → Option b) : bn8 (some (x1, x2, x3, x4, x5, x6, x7, x8)) k = k x1 x2 x3 x4 x5 x6 x7 x8 := rfl
theorem gt_ne {x : Int32} (h : 0 < x.toInt) : ¬ x = 0 := fun z => by rw [z, l0] at h; omega
theorem gt_nle {x : Int32} (h : 0 < x.toInt) : ¬ x ≤ 0 := fun z => by rw [le, l0] at z; omega
theorem ro_bad {T br ba sp he to va : Int32} {tape : Nat → Int32} (h : 0 < br.toInt) : f_X8_readsOn T br ba sp he to va tape = some (br, ba, sp, he, to, va) := by
  unfold f_X8_readsOn; rw [if_neg (gt_nle h)]
theorem nr_b47 {T br ba sp he to va lo : Int32} {tape : Nat → Int32} (h : 0 < br.toInt) : f_X8_numberRead_b47 T tape lo br ba sp he to va = some (lo, br, ba, sp, he, to, va) := by
  unfold f_X8_numberRead_b47 f_X8_numberRead_b62
  rw [if_neg (gt_ne h), ro_bad h, bq6]
theorem nr_b20 {T br ba sp he to va lo hi : Int32} {tape : Nat → Int32} (h : 0 < br.toInt) : f_X8_numberRead_b20 T tape lo hi br ba sp he to va = some (lo, br, ba, sp, he, to, va) := by
  unfold f_X8_numberRead_b20
  rw [if_neg (gt_ne h), nr_b47 h]
theorem nr_bad {T br ba sp he to va lo hi : Int32} {tape : Nat → Int32} (h : 0 < br.toInt) : f_X8_numberRead lo hi T br ba sp he to va tape = some (lo, br, ba, sp, he, to, va) := by
  unfold f_X8_numberRead
  rw [if_neg (gt_ne h), nr_b20 h]
theorem refu (x p ff fp : Int32) (h : ¬ ff = 0) : f_X4_refuse x p ff fp = some (ff, fp) := by unfold f_X4_refuse; rw [if_neg h]
theorem refu0 (x p fp : Int32) : f_X4_refuse x p 0 fp = some (x, p) := rfl
theorem runl (x p ff fp : Int32) (h : ¬ ff = 0) : f_X4_refuseUnless x ff fp p = some (ff, fp) := by
  unfold f_X4_refuseUnless
  by_cases hx : x = 0
  · rw [if_pos hx, refu _ _ _ _ h, bq2]
  · rw [if_neg hx]
theorem runl0 (p fp : Int32) : f_X4_refuseUnless 0 0 fp p = some (2, p) := rfl
theorem runl1 (p fp ff : Int32) : f_X4_refuseUnless 1 ff fp p = some (ff, fp) := rfl
section TEXT
variable {L q0 : Nat} {bytes tape : Nat → Int32} {ff fp tk tf tt_ tn br ba sp he to va : Int32}
/-- a number is taken, or refused alike -/
theorem opn_e (hL : L ≤ 320) (h : LxS L q0 ff fp tk tf tt_ tn br ba sp he to va) {j : Nat} (hj : j < 4) {w lo hi : Int32} {ops : Nat → Int32} (h5 : ¬ w = 5) (h6 : ¬ w = 6) (h7 : ¬ w = 7) (hw : ∀ x : Int32, 0 ≤ x.toInt → f_X4_isWithin x (nI j) w ops = some (if lo.toInt ≤ x.toInt ∧ x.toInt ≤ hi.toInt then 1 else 0)) :
    ∃ ff' fp' ops', f_X4_takeOperand (nI j) w ff fp tk tf tt_ tn bytes ops = some (ff', fp', ops') ∧
      ((ff' = 0 ∧ br = 0 ∧ ops' = upd ops j va ∧ lo.toInt ≤ va.toInt ∧ va.toInt ≤ hi.toInt ∧ (∃ q, q0 < q ∧ q ≤ L ∧ tt_ = nI q ∧ sp = nI q) ∧ f_X8_numberRead lo hi (nI L) br ba sp he to va tape = bn6 (f_X8_readsOn (nI L) 0 ba sp he to va tape) (fun a b c d e f => some (va, a, b, c, d, e, f)))
      ∨ (∃ x br' ba', 0 < br'.toInt ∧ ff' = br' ∧ fp' = ba' ∧ (∃ p, p ≤ 320 ∧ he = nI p) ∧ (∃ a, a ≤ 320 ∧ ba' = nI a) ∧ f_X8_numberRead lo hi (nI L) br ba sp he to va tape = some (x, br', ba', sp, he, to, va))) := by
  unfold f_X4_takeOperand f_X4_takeOperand_b22
  rw [if_neg h5, if_neg h6, if_neg h7, if_pos rfl]
  have b137 : ∀ ff fp : Int32, f_X4_takeOperand_b137 tk tf tt_ tn bytes (nI j) ff fp ops = some (ff, fp, upd ops j tn) := by
    intro ff fp
    unfold f_X4_takeOperand_b137
    rw [ckN (by omega) (by omega), nC (by omega)]
  rcases h with ⟨f0, b0, p, q, a1, a2, a3, a4, a5, a6, a7, a8⟩ | ⟨b1, b2, b3, b6, ⟨p, b4, b5⟩, b7⟩
  · have not3 : ¬ tk = 3 → ¬ to = 2 → ∃ ff' fp' ops', (if tk = 3 then f_X4_takeOperand_b105 tk tf tt_ tn bytes (nI j) w 1 ff fp ops else f_X4_takeOperand_b105 tk tf tt_ tn bytes (nI j) w 0 ff fp ops) = some (ff', fp', ops') ∧
      ((ff' = 0 ∧ br = 0 ∧ ops' = upd ops j va ∧ lo.toInt ≤ va.toInt ∧ va.toInt ≤ hi.toInt ∧ (∃ q, q0 < q ∧ q ≤ L ∧ tt_ = nI q ∧ sp = nI q) ∧ f_X8_numberRead lo hi (nI L) br ba sp he to va tape = bn6 (f_X8_readsOn (nI L) 0 ba sp he to va tape) (fun a b c d e f => some (va, a, b, c, d, e, f)))
      ∨ (∃ x br' ba', 0 < br'.toInt ∧ ff' = br' ∧ fp' = ba' ∧ (∃ p, p ≤ 320 ∧ he = nI p) ∧ (∃ a, a ≤ 320 ∧ ba' = nI a) ∧ f_X8_numberRead lo hi (nI L) br ba sp he to va tape = some (x, br', ba', sp, he, to, va))) := by
      intro n3 n2
      rw [if_neg n3]
      unfold f_X4_takeOperand_b105
      rw [f0, runl0, bq2, if_neg (by decide), b137]
      refine ⟨_, _, _, rfl, Or.inr ⟨lo, 2, nI p, by decide, rfl, a4, ⟨p, by omega, a5⟩, ⟨p, by omega, rfl⟩, ?_⟩⟩
      unfold f_X8_numberRead
      rw [b0, if_pos rfl, if_neg n2, a5, show f_X8_fails 2 0 ba (nI p) = some (2, nI p) from rfl, bq2, nr_b20 (by decide)]
    rcases a8 with z | z | z | z
    · exact not3 (by rw [z.1]; decide) (by rw [z.2.1]; decide)
    · exact not3 (by rw [z.1]; decide) (by rw [z.2.1]; decide)
    · obtain ⟨z1, z2, z3, z4, z5, z6⟩ := z
      rw [if_pos z1]
      unfold f_X4_takeOperand_b105
      have b137v := b137
      rw [z4] at b137v
      rw [f0, runl1, bq2, if_pos rfl, z4, hw va z5, bq1, ite01]
      by_cases c : lo.toInt ≤ va.toInt ∧ va.toInt ≤ hi.toInt
      · rw [if_pos c, b137v]
        refine ⟨_, _, _, rfl, Or.inl ⟨rfl, b0, rfl, c.1, c.2, ⟨q, by omega, a3, a6, a7⟩, ?_⟩⟩
        unfold f_X8_numberRead f_X8_numberRead_b20 f_X8_numberRead_b47 f_X8_numberRead_b62
        rw [b0, if_pos rfl, if_pos z2, if_pos rfl, in_t, bq1, ite01, tt, tt, tt, if_pos c, if_pos rfl]
      · rw [if_neg c, refu0, bq2, b137v]
        refine ⟨_, _, _, rfl, Or.inr ⟨lo, 3, nI p, by decide, rfl, a4, ⟨p, by omega, a5⟩, ⟨p, by omega, rfl⟩, ?_⟩⟩
        unfold f_X8_numberRead f_X8_numberRead_b20
        rw [b0, if_pos rfl, if_pos z2, if_pos rfl, in_t, bq1, ite01, tt, tt, tt, if_neg c, a5, show f_X8_fails 3 0 ba (nI p) = some (3, nI p) from rfl, bq2, nr_b47 (by decide)]
    · exact not3 (by rw [z.1]; decide) (by rw [z.2.1]; decide)
  · have hne : ¬ ff = 0 := by rw [b2]; exact gt_ne b1
    have b105 : ∀ k1 : Int32, f_X4_takeOperand_b105 tk tf tt_ tn bytes (nI j) w k1 ff fp ops = some (ff, fp, upd ops j tn) := by
      intro k1
      unfold f_X4_takeOperand_b105
      rw [runl _ _ _ _ hne, bq2, if_neg hne, b137]
    rw [b105, b105]
    refine ⟨ff, fp, upd ops j tn, ?_, Or.inr ⟨lo, br, ba, b1, b2, b3, ⟨p, b4, b5⟩, b7, nr_bad b1⟩⟩
    split <;> rfl
theorem rr_b122 {y : Int32} (h : 0 < br.toInt) : f_X8_registerRead_b122 (nI L) tape y br ba sp he to va = some (0, br, ba, sp, he, to, va) := by
  unfold f_X8_registerRead_b122
  rw [ro_bad h, bq6, if_neg (gt_ne h)]
theorem rr_b102 {o y : Int32} (h : 0 < br.toInt) : f_X8_registerRead_b102 (nI L) tape o y br ba sp he to va = some (0, br, ba, sp, he, to, va) := by
  unfold f_X8_registerRead_b102
  rw [if_neg (gt_ne h), rr_b122 h]
theorem rr_b78 {o y : Int32} (h : 0 < br.toInt) : f_X8_registerRead_b78 (nI L) tape o y br ba sp he to va = some (0, br, ba, sp, he, to, va) := by
  unfold f_X8_registerRead_b78
  rw [rr_b102 h, rr_b102 h, rr_b102 h]
  split
  · rfl
  · split <;> rfl
theorem rr_b61 {o y k : Int32} (h : 0 < br.toInt) : f_X8_registerRead_b61 (nI L) tape o y k br ba sp he to va = some (0, br, ba, sp, he, to, va) := by
  unfold f_X8_registerRead_b61
  rw [if_neg (gt_ne h), rr_b78 h]
theorem rr_60 {o y : Int32} (hb : br = 0) {p : Nat} (hp : he = nI p) : f_X8_registerRead_b60 (nI L) tape o y br ba sp he to va = some (0, 2, nI p, sp, he, to, va) := by
  unfold f_X8_registerRead_b60 f_X8_registerRead_b61
  rw [hb, if_pos rfl, if_pos rfl, hp, show f_X8_fails 2 0 ba (nI p) = some (2, nI p) from rfl, bq2, rr_b78 (by decide)]
theorem rr_bad {o : Int32} (hL : L ≤ 320) {p : Nat} (hp : p ≤ 320) (hh : he = nI p) (h : 0 < br.toInt) : f_X8_registerRead o (nI L) br ba sp he to va tape = some (0, br, ba, sp, he, to, va) := by
  unfold f_X8_registerRead f_X8_registerRead_b56 f_X8_registerRead_b60
  have hby : ∃ x, f_X8_byteAt he (nI L) tape = some x := by
    rw [hh]
    by_cases c : p < L
    · exact ⟨_, byt_in hL c⟩
    · exact ⟨_, byt_out hL (by omega) (by omega)⟩
  obtain ⟨x, hx⟩ := hby
  rw [hx, bq1, in_t, bq1, ite01, rr_b61 h, rr_b61 h]
  split
  · split
    · split
      · rfl
      · split
        · rfl
        · split <;> rfl
    · rfl
  · rfl
theorem rr_56 {o y : Int32} : f_X8_registerRead_b56 (nI L) tape o y 0 ba sp he to va = if y = 115 then f_X8_registerRead_b102 (nI L) tape o 4 0 ba sp he to va else if y = 112 then f_X8_registerRead_b102 (nI L) tape o 5 0 ba sp he to va else f_X8_registerRead_b102 (nI L) tape o (y - 97) 0 ba sp he to va := by
  unfold f_X8_registerRead_b56 f_X8_registerRead_b61 f_X8_registerRead_b78
  rw [if_pos rfl, if_neg (show ¬ (1 : Int32) = 0 by decide)]
/-- the register that a token names, in both -/
theorem regN (hT : TpR L bytes tape) {p q : Nat} (hpq : p ≤ q) (hq : q ≤ L) (hk : Tok L tk tn to va p q) {o : Int32} : ∃ v, f_X4_registerNamed tk (nI p) (nI q) bytes = some v ∧ ((v = -4 ∧ f_X8_registerRead o (nI L) 0 ba (nI q) (nI p) to va tape = some (0, 2, nI p, nI q, nI p, to, va)) ∨ (∃ u, u < 6 ∧ v = nI u ∧ p < q ∧ f_X8_registerRead o (nI L) 0 ba (nI q) (nI p) to va tape = f_X8_registerRead_b102 (nI L) tape o (nI u) 0 ba (nI q) (nI p) to va)) := by
  have hL := hT.1
  unfold f_X4_registerNamed f_X8_registerRead
  have hby : ∃ x, f_X8_byteAt (nI p) (nI L) tape = some x := by
    by_cases c : p < L
    · exact ⟨_, byt_in hL c⟩
    · exact ⟨_, byt_out hL (by omega) (by omega)⟩
  have other : ¬ tk = 2 → ¬ to = 1 → ∃ v, (if tk = 2 then (if nI q - nI p = 1 then cki (nI p) 320 (if bytes (nI p).toNatClampNeg < 97 then f_X4_registerNamed_b51 tk (nI p) (nI q) bytes (bytes (nI p).toNatClampNeg) else if 100 < bytes (nI p).toNatClampNeg then f_X4_registerNamed_b51 tk (nI p) (nI q) bytes (bytes (nI p).toNatClampNeg) else some (bytes (nI p).toNatClampNeg - 97)) else some (-4)) else some (-4)) = some v ∧ ((v = -4 ∧ bn1 (f_X8_byteAt (nI p) (nI L) tape) (fun r_108 => if to = 1 then (if nI q - nI p = 1 then bn1 (f_X8_in r_108.toInt64 97 100) (fun r_111 => if r_111 = 0 then (if r_108 = 115 then f_X8_registerRead_b56 (nI L) tape o r_108 0 ba (nI q) (nI p) to va else if r_108 = 112 then f_X8_registerRead_b56 (nI L) tape o r_108 0 ba (nI q) (nI p) to va else f_X8_registerRead_b60 (nI L) tape o r_108 0 ba (nI q) (nI p) to va) else f_X8_registerRead_b56 (nI L) tape o r_108 0 ba (nI q) (nI p) to va) else f_X8_registerRead_b60 (nI L) tape o r_108 0 ba (nI q) (nI p) to va) else f_X8_registerRead_b60 (nI L) tape o r_108 0 ba (nI q) (nI p) to va) = some (0, 2, nI p, nI q, nI p, to, va)) ∨ (∃ u, u < 6 ∧ v = nI u ∧ p < q ∧ bn1 (f_X8_byteAt (nI p) (nI L) tape) (fun r_108 => if to = 1 then (if nI q - nI p = 1 then bn1 (f_X8_in r_108.toInt64 97 100) (fun r_111 => if r_111 = 0 then (if r_108 = 115 then f_X8_registerRead_b56 (nI L) tape o r_108 0 ba (nI q) (nI p) to va else if r_108 = 112 then f_X8_registerRead_b56 (nI L) tape o r_108 0 ba (nI q) (nI p) to va else f_X8_registerRead_b60 (nI L) tape o r_108 0 ba (nI q) (nI p) to va) else f_X8_registerRead_b56 (nI L) tape o r_108 0 ba (nI q) (nI p) to va) else f_X8_registerRead_b60 (nI L) tape o r_108 0 ba (nI q) (nI p) to va) else f_X8_registerRead_b60 (nI L) tape o r_108 0 ba (nI q) (nI p) to va) = f_X8_registerRead_b102 (nI L) tape o (nI u) 0 ba (nI q) (nI p) to va)) := by
    intro n2 n1
    obtain ⟨x, hx⟩ := hby
    rw [if_neg n2, hx, bq1, if_neg n1, rr_60 rfl rfl]
    exact ⟨_, rfl, Or.inl ⟨rfl, rfl⟩⟩
  rcases hk with z | z | z | z
  · exact other (by rw [z.1]; decide) (by rw [z.2.1]; decide)
  · obtain ⟨z1, z2, z3⟩ := z
    have hp : p < L := by omega
    have hb := hT.2 p hp
    have n4 : nI q - nI p = nI (q - p) := pk_sub hpq
    rw [if_pos z1, byt_in hL hp, bq1, if_pos z2, n4, ckN (by omega) (by omega), nC (by omega), hb.1]
    by_cases c1 : q - p = 1
    · have e1 : nI (q - p) = 1 := by rw [c1]; rfl
      rw [if_pos e1, if_pos e1, in_t, bq1, ite01, tt]
      unfold f_X4_registerNamed_b51
      rw [rr_56]
      by_cases c2 : 97 ≤ (tape p).toInt ∧ (tape p).toInt ≤ 100
      · obtain ⟨d, hd, ed, edT⟩ := nOf hb.2.1
        rw [if_neg (show ¬ tape p < 97 from fun y => by rw [li] at y; have : (tape p).toInt < 97 := y; omega), if_neg (show ¬ (100 : Int32) < tape p from fun y => by rw [li] at y; have : (100 : Int) < (tape p).toInt := y; omega), if_pos (show (97 : Int64).toInt ≤ (tape p).toInt ∧ (tape p).toInt ≤ (100 : Int64).toInt from c2), if_neg (show ¬ tape p = 115 from fun y => by rw [y] at c2; exact absurd c2.2 (by decide)), if_neg (show ¬ tape p = 112 from fun y => by rw [y] at c2; exact absurd c2.2 (by decide)), ed, show nI d - 97 = nI (d - 97) from pk_sub (b := 97) (by omega)]
        exact ⟨_, rfl, Or.inr ⟨d - 97, by omega, rfl, z3, rfl⟩⟩
      · have eb : (if tape p < 97 then (if tape p = 115 then some (4 : Int32) else if tape p = 112 then some 5 else some (-4)) else if 100 < tape p then (if tape p = 115 then some 4 else if tape p = 112 then some 5 else some (-4)) else some (tape p - 97)) = (if tape p = 115 then some 4 else if tape p = 112 then some 5 else some (-4)) := by
          by_cases y1 : (tape p).toInt < 97
          · rw [if_pos (show tape p < 97 by rw [li]; exact y1)]
          · rw [if_neg (show ¬ tape p < 97 from fun y => y1 (by rw [li] at y; exact y)), if_pos (show (100 : Int32) < tape p by rw [li]; show (100 : Int) < (tape p).toInt; omega)]
        rw [eb, if_neg (show ¬ ((97 : Int64).toInt ≤ (tape p).toInt ∧ (tape p).toInt ≤ (100 : Int64).toInt) from c2)]
        by_cases y1 : tape p = 115
        · rw [if_pos y1, if_pos y1, if_pos y1]
          exact ⟨_, rfl, Or.inr ⟨4, by omega, rfl, z3, rfl⟩⟩
        · rw [if_neg y1, if_neg y1, if_neg y1]
          by_cases y2 : tape p = 112
          · rw [if_pos y2, if_pos y2, if_pos y2]
            exact ⟨_, rfl, Or.inr ⟨5, by omega, rfl, z3, rfl⟩⟩
          · rw [if_neg y2, if_neg y2, rr_60 rfl rfl]
            exact ⟨_, rfl, Or.inl ⟨rfl, rfl⟩⟩
    · have e1 : ¬ nI (q - p) = 1 := fun y => by rw [ei, nT (by omega)] at y; have : ((q - p : Nat) : Int) = 1 := y; omega
      rw [if_neg e1, if_neg e1, rr_60 rfl rfl]
      exact ⟨_, rfl, Or.inl ⟨rfl, rfl⟩⟩
  · exact other (by rw [z.1]; decide) (by rw [z.2.1]; decide)
  · exact other (by rw [z.1]; decide) (by rw [z.2.1]; decide)
/-- a register is taken, or refused alike -/
theorem opr_e (hT : TpR L bytes tape) (h : LxS L q0 ff fp tk tf tt_ tn br ba sp he to va) {j : Nat} (hj : j < 4) {w o : Int32} {ops : Nat → Int32} (hw : (w = 5 ∧ o = -4) ∨ (w = 6 ∧ o = 5) ∨ (w = 7 ∧ o = 4)) :
    ∃ ff' fp' ops', f_X4_takeOperand (nI j) w ff fp tk tf tt_ tn bytes ops = some (ff', fp', ops') ∧
      ((ff' = 0 ∧ br = 0 ∧ (∃ q, q0 < q ∧ q ≤ L ∧ tt_ = nI q ∧ sp = nI q) ∧ ∃ u, u < 6 ∧ ¬ nI u = o ∧ ops' = upd ops j (nI u) ∧ f_X8_registerRead o (nI L) br ba sp he to va tape = bn6 (f_X8_readsOn (nI L) 0 ba sp he to va tape) (fun a b c d e f => if a = 0 then some (nI u, a, b, c, d, e, f) else some (0, a, b, c, d, e, f)))
      ∨ (∃ x br' ba', 0 < br'.toInt ∧ ff' = br' ∧ fp' = ba' ∧ (∃ p, p ≤ 320 ∧ he = nI p) ∧ (∃ a, a ≤ 320 ∧ ba' = nI a) ∧ f_X8_registerRead o (nI L) br ba sp he to va tape = some (x, br', ba', sp, he, to, va))) := by
  have hL := hT.1
  have e0 : f_X4_takeOperand (nI j) w ff fp tk tf tt_ tn bytes ops = f_X4_takeOperand_b22 tk tf tt_ tn bytes (nI j) w 1 ff fp ops := by
    unfold f_X4_takeOperand f_X4_takeOperand_b17
    rcases hw with z | z | z
    · rw [if_pos z.1]
    · rw [if_neg (by rw [z.1]; decide), if_pos z.1]
    · rw [if_neg (by rw [z.1]; decide), if_neg (by rw [z.1]; decide), if_pos z.1]
  rw [e0]
  unfold f_X4_takeOperand_b22
  rw [if_neg (by decide)]
  have b82 : ∀ y ff fp : Int32, f_X4_takeOperand_b82 tk tf tt_ tn bytes (nI j) y ff fp ops = some (ff, fp, upd ops j y) := by
    intro y ff fp
    unfold f_X4_takeOperand_b82
    rw [ckN (by omega) (by omega), nC (by omega)]
  -- what is left of the checks
  have b46 : ∀ (y k ff1 fp1 ff2 fp2 : Int32), f_X4_refuseUnless k ff fp tf = some (ff1, fp1) → (if y = o then f_X4_refuse 4 tf ff1 fp1 = some (ff2, fp2) else ff2 = ff1 ∧ fp2 = fp1) → (y = -4 → ¬ w = 5) ∨ ff2 = ff1 ∧ fp2 = fp1 → f_X4_takeOperand_b46 tk tf tt_ tn bytes (nI j) w y k ff fp ops = some (ff2, fp2, upd ops j y) := by
    intro y k ff1 fp1 ff2 fp2 h1 h2 h3
    unfold f_X4_takeOperand_b46 f_X4_takeOperand_b61 f_X4_takeOperand_b73
    rw [h1, bq2]
    rcases hw with z | z | z
    · rw [if_neg (by rw [z.1]; decide), if_neg (by rw [z.1]; decide), b82]
      by_cases c : y = o
      · rcases h3 with h3 | h3
        · exact absurd z.1 (h3 (c.trans z.2))
        · rw [h3.1, h3.2]
      · rw [if_neg c] at h2; rw [h2.1, h2.2]
    · rw [if_pos z.1]
      by_cases c : y = o
      · rw [if_pos c] at h2
        rw [if_pos (c.trans z.2), h2, bq2, b82]
      · rw [if_neg c] at h2
        rw [if_neg (fun q => c (q.trans z.2.symm)), if_neg (by rw [z.1]; decide), b82, h2.1, h2.2]
    · rw [if_neg (by rw [z.1]; decide), if_pos z.1]
      by_cases c : y = o
      · rw [if_pos c] at h2
        rw [if_pos (c.trans z.2), h2, bq2, b82]
      · rw [if_neg c] at h2
        rw [if_neg (fun q => c (q.trans z.2.symm)), b82, h2.1, h2.2]
  rcases h with ⟨f0, b0, p, q, a1, a2, a3, a4, a5, a6, a7, a8⟩ | ⟨b1, b2, b3, b6, ⟨p, b4, b5⟩, b7⟩
  · obtain ⟨v, e1, e2⟩ := regN hT a2 a3 a8 (o := o) (ba := ba)
    rw [a4, a6, e1, bq1, ← a4, ← a6]
    rcases e2 with ⟨v4, e3⟩ | ⟨u, hu, vu, hpq, e3⟩
    · rw [if_pos v4, b46 v 0 2 (nI p) 2 (nI p) (by rw [f0, a4]; rfl) (by
        by_cases c : v = o
        · rw [if_pos c]; rfl
        · rw [if_neg c]; exact ⟨rfl, rfl⟩) (Or.inr ⟨rfl, rfl⟩)]
      exact ⟨_, _, _, rfl, Or.inr ⟨0, 2, nI p, by decide, rfl, rfl, ⟨p, by omega, a5⟩, ⟨p, by omega, rfl⟩, by rw [b0, a5, a7]; exact e3⟩⟩
    · have n4 : ¬ v = -4 := fun y => by rw [vu, ei, nT (by omega)] at y; have : (u : Int) = -4 := y; omega
      rw [if_neg n4]
      by_cases c : v = o
      · rw [b46 v 1 0 fp 4 tf (by rw [f0]; rfl) (by rw [if_pos c]; rfl) (Or.inl (fun y => absurd y n4))]
        refine ⟨_, _, _, rfl, Or.inr ⟨0, 4, nI p, by decide, rfl, a4, ⟨p, by omega, a5⟩, ⟨p, by omega, rfl⟩, ?_⟩⟩
        rw [b0, a5, a7, e3]
        unfold f_X8_registerRead_b102
        rw [if_pos rfl, if_pos (vu.symm.trans c), show f_X8_fails 4 0 ba (nI p) = some (4, nI p) from rfl, bq2, rr_b122 (by decide)]
      · rw [b46 v 1 0 fp 0 fp (by rw [f0]; rfl) (by rw [if_neg c]; exact ⟨rfl, rfl⟩) (Or.inr ⟨rfl, rfl⟩)]
        refine ⟨_, _, _, rfl, Or.inl ⟨rfl, b0, ⟨q, by omega, a3, a6, a7⟩, u, hu, fun y => c (vu.trans y), by rw [vu], ?_⟩⟩
        rw [b0, a5, a7, e3]
        unfold f_X8_registerRead_b102 f_X8_registerRead_b122
        rw [if_pos rfl, if_neg (fun y => c (vu.trans y))]
  · have hne : ¬ ff = 0 := by rw [b2]; exact gt_ne b1
    have e1 : f_X4_registerNamed tk tf tt_ bytes = some (-4) := by
      unfold f_X4_registerNamed
      rw [if_neg (by rw [b6]; decide)]
    rw [e1, bq1, if_pos rfl, b46 (-4) 0 ff fp ff fp (runl _ _ _ _ hne) (by
      by_cases c : (-4 : Int32) = o
      · rw [if_pos c]; exact refu _ _ _ _ hne
      · rw [if_neg c]; exact ⟨rfl, rfl⟩) (Or.inr ⟨rfl, rfl⟩)]
    exact ⟨_, _, _, rfl, Or.inr ⟨0, br, ba, b1, b2, b3, ⟨p, b4, b5⟩, b7, rr_bad hL b4 b5 b1⟩⟩
end TEXT
