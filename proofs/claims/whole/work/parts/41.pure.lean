/-! text -/
theorem bq16 {a1 a2 a3 a4 a5 a6 a7 a8 a9 a10 a11 a12 a13 a14 a15 a16 b : Type} (x1 : a1) (x2 : a2) (x3 : a3) (x4 : a4) (x5 : a5) (x6 : a6) (x7 : a7) (x8 : a8) (x9 : a9) (x10 : a10) (x11 : a11) (x12 : a12) (x13 : a13) (x14 : a14) (x15 : a15) (x16 : a16) (k : a1 → a2 → a3 → a4 → a5 → a6 → a7 → a8 → a9 → a10 → a11 → a12 → a13 → a14 → a15 → a16 → Option b) : bn16 (some (x1, x2, x3, x4, x5, x6, x7, x8, x9, x10, x11, x12, x13, x14, x15, x16)) k = k x1 x2 x3 x4 x5 x6 x7 x8 x9 x10 x11 x12 x13 x14 x15 x16 := rfl
theorem p_text {nR nO nL nC : Int32} {fR fO fL fC : Nat → Int32} {dR dO dL dC : Int32} {eR eO eL eC : Nat → Int32} {rg wd st : Nat → Int32} {kR kO kL kC : Nat} {len taped : Int32} {bytes tape ends letters kp kM ops : Nat → Int32} {flt fpl tk tf tt_ tn fault br ba sp he to va : Int32} {taken size ended guessed : Int32} {regs owners looked ways : Nat → Int32} {fm en iw : Int32} {F cb loM owM : Nat → Int32} (h : WR nR fR nO fO nL fL nC fC rg wd st kR kO kL kC) (ht : TapeR len bytes taped tape) (hE : ElR ends letters) (hkp : ∀ j, j < 2 → kp j = kM j) (htr : TrkR taken size ended guessed regs owners looked ways fm en iw F cb loM owM) :
    ∃ r nR' fR' nO' fO' nL' fL' nC' fC' dR' eR' dO' eO' dL' eL' dC' eC' kp' len' flt' fpl' tk' tf' tt' tn' ops' taken' size' taped' br' ba' sp' he' to' va' iw' st' kM' kR' kO' kL' kC', f_X7_text nR fR nO fO nL fL nC fC 3 dR eR 4 dO eO 5 dL eL 2 dC eC kp len flt fpl tk tf tt_ tn bytes ops taken size = some (r, nR', fR', nO', fO', nL', fL', nC', fC', dR', eR', dO', eO', dL', eL', dC', eC', kp', len', flt', fpl', tk', tf', tt', tn', ops', taken', size') ∧ f_X8_text taped fault br ba sp he to va iw st tape ends letters kM = some (r, taped', flt', br', ba', sp', he', to', va', iw', st', kM') ∧ WR nR' fR' nO' fO' nL' fL' nC' fC' rg wd st' kR' kO' kL' kC' ∧ (∀ j, 300 ≤ j → j < 1062 → st' j = st j) ∧ TapeR len' bytes taped' tape ∧ (∀ j, j < 2 → kp' j = kM' j) ∧ (∀ j, j < 2 → kM' j = 0 ∨ kM' j = kM j) ∧ TrkR taken' size' ended guessed regs owners looked ways fm en iw' F cb loM owM := by
  obtain ⟨L, hL, hlen, htp, hb⟩ := ht
  have hT : TpR L bytes tape := ⟨hL, hb⟩
  have tape0 : TapeR 0 bytes 0 tape := ⟨0, by omega, rfl, rfl, fun j hj => by omega⟩
  obtain ⟨S0, s1, s2, s3⟩ := cl8_L (tape := tape) (ends := ends) (letters := letters) (kM := kM) (flt := fault) (iw := iw) (y := 0) (T := nI L) (ba := ba) (sp := 0) (he := he) (to := to) (va := va) FUEL 0 st (by omega) (by unfold FUEL; omega)
  obtain ⟨ff0, fp0, tk0, tf0, tt0, tn0, br0, ba0, sp0, he0, to0, va0, x1, x2, x3⟩ := lex_e hT (q0 := 0) (by omega) 0 tk tf tn ba he to va
  have W0 : WT 0 eR 0 eO 0 eL 0 eC S0 0 0 0 0 := by
    refine ⟨by omega, ⟨rfl, rfl, rfl, rfl⟩, ⟨s2 296 (by omega) (by omega), s2 297 (by omega) (by omega), s2 298 (by omega) (by omega), s2 299 (by omega) (by omega)⟩, fun r hr => by omega, fun i hi => by omega, fun i hi => by omega, fun i hi => by omega, fun i hi => by omega, fun i hi => by omega⟩
  -- how the reading ends, in both
  have loop : ∃ c' ff' fp' tk' tf' tt' tn' ops' nR' fR' nO' fO' nL' fL' nC' fC' br' ba' sp' he' to' va' st', f_X4_tellAll_L25 (nI L) bytes 3 4 5 2 FUEL 0 ff0 fp0 tk0 tf0 tt0 tn0 ops 0 eR 0 eO 0 eL 0 eC = f_X4_tellAll_b57 (nI L) bytes 3 4 5 2 (nI c') ff' fp' tk' tf' tt' tn' ops' nR' fR' nO' fO' nL' fL' nC' fC' ∧
      f_X8_text_L42 tape ends letters FUEL 0 (nI L) fault br0 ba0 sp0 he0 to0 va0 iw S0 kM = f_X8_text_b66 tape ends letters (nI c') (nI L) fault br' ba' sp' he' to' va' iw st' kM ∧ (∀ j, j < 1062 → st' j = S0 j) ∧ c' ≤ 330 ∧
      ((ff' = 0 ∧ br' = 0 ∧ he' = nI L ∧ ∃ kR kO kL kC, WT nR' fR' nO' fO' nL' fL' nC' fC' st' kR kO kL kC) ∨ (0 < br'.toInt ∧ ff' = br' ∧ fp' = ba' ∧ ∃ a, a ≤ 320 ∧ ba' = nI a)) := by
    rcases x3 with ⟨y1, y2, p, q, y3, y4, y5, y6, y7, y8, y9, y10⟩ | ⟨y1, y2, y3, y4, y5, y6⟩
    · rw [y1, y2, y6, y7, y8, y9]
      exact txt_L hT hE FUEL FUEL 0 p q fp0 tk0 tn0 ba0 to0 va0 ops S0 0 0 0 0 eR eO eL eC 0 0 0 0 (by omega) y4 y5 (by unfold FUEL; omega) (by unfold FUEL; omega) y10 W0
    · have hne : ¬ ff0 = 0 := by rw [y2]; exact gt_ne y1
      rw [show FUEL = 4095 + 1 from rfl, f_X4_tellAll_L25, f_X8_text_L42, if_neg hne, if_neg (gt_ne y1)]
      refine ⟨0, ff0, fp0, tk0, tf0, tt0, tn0, ops, 0, eR, 0, eO, 0, eL, 0, eC, br0, ba0, sp0, he0, to0, va0, S0, ?_, rfl, fun _ _ => rfl, by omega, Or.inr ⟨y1, y2, y3, y6⟩⟩
      split
      · rfl
      · split <;> rfl
  obtain ⟨c', ff', fp', tk', tf', tt', tn', ops', nR', fR', nO', fO', nL', fL', nC', fC', br', ba', sp', he', to', va', S, l1, l2, l3, l4, l5⟩ := loop
  have u8 : f_X8_text taped fault br ba sp he to va iw st tape ends letters kM = f_X8_text_b66 tape ends letters (nI c') (nI L) fault br' ba' sp' he' to' va' iw S kM := by
    unfold f_X8_text
    rw [htp, show f_X8_text_L14 tape ends letters FUEL 0 0 (nI L) fault 0 ba 0 he to va iw st kM = _ from s1, show f_X8_readsOn (nI L) 0 ba 0 he to va tape = _ from x2, bq6]
    exact l2
  have u7 : f_X4_tellAll (nI L) flt fpl tk tf tt_ tn bytes ops 3 dR eR 4 dO eO 5 dL eL 2 dC eC = f_X4_tellAll_b57 (nI L) bytes 3 4 5 2 (nI c') ff' fp' tk' tf' tt' tn' ops' nR' fR' nO' fO' nL' fL' nC' fC' := by
    unfold f_X4_tellAll f_X6_clearTables
    rw [bq4, show f_X4_nextToken (nI L) 0 0 tk tf 0 tn bytes = _ from x1, bq6]
    exact l1
  have hS : ∀ j, j < 1062 → S j = st j := fun j hj => by rw [l3 j hj, s3 j (by omega)]
  unfold f_X7_text
  rw [u8, hlen, u7]
  -- a fault
  have bad : ∀ (e a : Int32) (sp he to va : Int32), 0 < e.toInt → (∃ k, k ≤ 320 ∧ a = nI k) → ∃ r NR' gR' NO' gO' NL' gL' NC' gC' dR' eR' dO' eO' dL' eL' dC' eC' kp' len' flt' fpl' tk'' tf'' tt'' tn'' ops'' taken' size' taped' br'' ba'' sp'' he'' to'' va'' iw' st' kM' kR' kO' kL' kC', bn16 (f_X4_tellAll_b81 (nI L) bytes 3 4 5 2 (nI c') e a tk' tf' tt' tn' ops' nR' fR' nO' fO' nL' fL' nC' fC') (fun r_99 m_100 m_101 m_102 m_103 m_104 m_105 m_106 m_107 m_108 m_109 m_110 m_111 m_112 m_113 m_114 => if r_99 < 0 then some (r_99, nR, fR, nO, fO, nL, fL, nC, fC, m_107, m_108, m_109, m_110, m_111, m_112, m_113, m_114, kp, (0 : Int32), m_100, m_101, m_102, m_103, m_104, m_105, m_106, taken, size) else bn8 (f_X6_takeTables nR fR nO fO nL fL nC fC m_107 m_108 m_109 m_110 m_111 m_112 m_113 m_114) (fun m_116 m_117 m_118 m_119 m_120 m_121 m_122 m_123 => bn2 (f_X5_forget taken size) (fun m_124 m_125 => f_X7_text_L44 3 4 5 2 bytes FUEL r_99 0 m_116 m_117 m_118 m_119 m_120 m_121 m_122 m_123 m_107 m_108 m_109 m_110 m_111 m_112 m_113 m_114 kp 0 m_100 m_101 m_102 m_103 m_104 m_105 m_106 m_124 m_125))) = some (r, NR', gR', NO', gO', NL', gL', NC', gC', dR', eR', dO', eO', dL', eL', dC', eC', kp', len', flt', fpl', tk'', tf'', tt'', tn'', ops'', taken', size') ∧ f_X8_text_b89 tape ends letters (nI c') (nI L) fault e a sp he to va iw S kM = some (r, taped', flt', br'', ba'', sp'', he'', to'', va'', iw', st', kM') ∧ WR NR' gR' NO' gO' NL' gL' NC' gC' rg wd st' kR' kO' kL' kC' ∧ (∀ j, 300 ≤ j → j < 1062 → st' j = st j) ∧ TapeR len' bytes taped' tape ∧ (∀ j, j < 2 → kp' j = kM' j) ∧ (∀ j, j < 2 → kM' j = 0 ∨ kM' j = kM j) ∧ TrkR taken' size' ended guessed regs owners looked ways fm en iw' F cb loM owM := by
    intro e a sp he to va h1 ⟨k, hk, hk2⟩
    unfold f_X4_tellAll_b81 f_X8_text_b89
    have neg : (-10 : Int32) - a < 0 := by
      rw [li, l0, subI (by rw [hk2, nT (by omega)]; show _ ≤ (-10 : Int) - k; omega) (by rw [hk2, nT (by omega)]; show (-10 : Int) - k < _; omega), hk2, nT (by omega)]
      show (-10 : Int) - k < 0; omega
    rw [if_neg (gt_ne h1), bq16, if_pos neg, if_neg (gt_nle h1)]
    exact ⟨_, _, _, _, _, _, _, _, _, _, _, _, _, _, _, _, _, _, _, _, _, _, _, _, _, _, _, _, _, _, _, _, _, _, _, _, _, _, kR, kO, kL, kC, rfl, rfl, h.frm (fun j hj => hS j (by omega)), fun j _ hj => hS j hj, tape0, hkp, fun _ _ => Or.inr rfl, htr⟩
  unfold f_X4_tellAll_b57 f_X8_text_b66
  rcases l5 with ⟨f0, b0, hh, kR1, kO1, kL1, kC1, hW⟩ | ⟨y1, y2, y3, y4⟩
  · have K8 := hW.1.1
    have sh : f_X6_sharesAddresses 3 nR' fR' = some (if alB (fun r => alB (apq (fun j => S (1062 + j)) (fun j => S (1062 + (8 + j))) r) r 0) kR1 0 = true then 0 else 1) := by
      rw [hW.2.1.1]
      have := shO_L (F := fun j => S (1062 + j)) (T := fun j => S (1062 + (8 + j))) K8 (f := fR') (fun r hr => ⟨(hW.2.2.2.1 r hr).1, by show fR' (3 * r + 1) = S (1062 + (8 + r)); rw [show 1062 + (8 + r) = 1070 + r by omega]; exact (hW.2.2.2.1 r hr).2.1⟩) FUEL 0 (by omega) (by unfold FUEL; omega)
      rw [Nat.sub_zero] at this
      exact this
    have ap : f_X8_isApart 1062 S = some (b01 (alB (fun r => alB (apq (fun j => S (1062 + j)) (fun j => S (1062 + (8 + j))) r) r 0) kR1 0)) := apart_e (p := 1062) (by omega) K8 hW.2.2.1.1
    rw [f0, b0, if_pos rfl, if_pos rfl, sh, ap, bq1, bq1]
    by_cases c : alB (fun r => alB (apq (fun j => S (1062 + j)) (fun j => S (1062 + (8 + j))) r) r 0) kR1 0 = true
    · rw [if_pos c, if_pos rfl, c, if_neg (show ¬ b01 true = 0 by decide)]
      unfold f_X4_tellAll_b81 f_X8_text_b89
      obtain ⟨S2, z1, z2, z3⟩ := cp8_L (tape := tape) (ends := ends) (letters := letters) (kM := kM) (iw := iw) (y := nI c') (br := 0) (ba := ba') (sp := sp') (he := he') (to := to') (va := va') (flt' := 0) FUEL 0 S (by omega) (by unfold FUEL; omega)
      rw [if_pos rfl, bq16, if_neg (show ¬ nI c' < 0 from fun y => by rw [li, l0, nT (by omega)] at y; omega), takeT_e, bq8, show f_X5_forget taken size = some (0, 0) from rfl, bq2, if_pos (show (0 : Int32) ≤ 0 by decide), show f_X8_text_L119 tape ends letters FUEL (nI c') 0 0 0 0 ba' sp' he' to' va' iw S kM = _ from z1, show FUEL = 4093 + 1 + 1 + 1 from rfl, f_X7_text_L44, if_neg (by decide), ckI (by decide) (by decide), f_X7_text_L44, if_neg (by decide), ckI (by decide) (by decide), f_X7_text_L44, if_pos (by decide)]
      refine ⟨_, _, _, _, _, _, _, _, _, _, _, _, _, _, _, _, _, _, _, _, _, _, _, _, _, _, _, _, _, _, _, _, _, _, _, _, _, _, kR1, kO1, kL1, kC1, rfl, rfl, hW.now (apt_iff.mp c) h (fun i hi => sb_cpy0 hi) (fun i hi => sb_cpy0 hi) (fun i hi => sb_cpy0 hi) (fun i hi => sb_cpy0 hi) (fun j hj => z2 j (by omega) hj) (fun j h1 h2 => by rw [z3 j (Or.inr h1), hS j (by omega)]), fun j h1 h2 => by rw [z3 j (Or.inr h1), hS j h2], tape0, fun j hj => ?_, fun j hj => ?_, Or.inl ⟨rfl, rfl, rfl⟩⟩
      · show upd (upd kp 0 0) 1 0 j = upd (upd kM 0 0) 1 0 j
        by_cases j1 : j = 1
        · subst j1; rw [pk_us, pk_us]
        · rw [pk_un j1, pk_un j1]
          have j0 : j = 0 := by omega
          subst j0; rw [pk_us, pk_us]
      · refine Or.inl ?_
        by_cases j1 : j = 1
        · subst j1; rw [pk_us]
        · rw [pk_un j1]
          have j0 : j = 0 := by omega
          subst j0; rw [pk_us]
    · rw [if_neg c, if_neg (show ¬ (1 : Int32) = 0 by decide), refu0, bq2, show b01 (alB (fun r => alB (apq (fun j => S (1062 + j)) (fun j => S (1062 + (8 + j))) r) r 0) kR1 0) = 0 from if_neg c, if_pos rfl, hh, show f_X8_fails 6 0 ba' (nI L) = some (6, nI L) from rfl, bq2]
      exact bad 6 (nI L) sp' (nI L) to' va' (by decide) ⟨L, hL, rfl⟩
  · have hne : ¬ ff' = 0 := by rw [y2]; exact gt_ne y1
    rw [if_neg hne, if_neg (gt_ne y1), y2, y3]
    exact bad br' ba' sp' he' to' va' y1 y4
