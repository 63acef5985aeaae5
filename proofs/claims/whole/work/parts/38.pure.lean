/-! the text: a line -/
/-- a line, in both: a next token and tables alike, or a fault alike -/
def OUT (L p : Nat) (st : Nat → Int32) (cls : Option (Int32 × Int32 × Int32 × Int32 × Int32 × Int32 × (Nat → Int32) × Int32 × (Nat → Int32) × Int32 × (Nat → Int32) × Int32 × (Nat → Int32) × Int32 × (Nat → Int32))) (mdl : Option (Int32 × Int32 × Int32 × Int32 × Int32 × Int32 × (Nat → Int32))) : Prop :=
  ∃ ff fp tk tf tt_ tn ops nR fR nO fO nL fL nC fC br ba sp he to va S, cls = some (ff, fp, tk, tf, tt_, tn, ops, nR, fR, nO, fO, nL, fL, nC, fC) ∧ mdl = some (br, ba, sp, he, to, va, S) ∧ (∀ j, j < 1062 → S j = st j) ∧
    ((ff = 0 ∧ br = 0 ∧ (∃ p' q', p + 1 ≤ p' ∧ p' ≤ q' ∧ q' ≤ L ∧ tf = nI p' ∧ he = nI p' ∧ tt_ = nI q' ∧ sp = nI q' ∧ Tok L tk tn to va p' q') ∧ ∃ kR kO kL kC, WT nR fR nO fO nL fL nC fC S kR kO kL kC) ∨ (0 < br.toInt ∧ ff = br ∧ fp = ba ∧ ∃ a, a ≤ 320 ∧ ba = nI a))
theorem SR_f {st : Nat → Int32} {r : Nat} {a b x : Int32} {j : Nat} (h : j < 1062) : SR st r a b x j = st j := by unfold SR; rw [pk_un (by omega), pk_un (by omega), pk_un (by omega), pk_un (by omega)]
theorem SO_f {st : Nat → Int32} {i r : Nat} {a b x : Int32} {j : Nat} (h : j < 1062) : SO st i r a b x j = st j := by unfold SO; rw [pk_un (by omega), pk_un (by omega), pk_un (by omega), pk_un (by omega), pk_un (by omega)]
theorem SL_f {st : Nat → Int32} {i r : Nat} {a b c d : Int32} {j : Nat} (h : j < 1062) : SL st i r a b c d j = st j := by unfold SL; rw [pk_un (by omega), pk_un (by omega), pk_un (by omega), pk_un (by omega), pk_un (by omega), pk_un (by omega)]
theorem SC_f {st : Nat → Int32} {i : Nat} {a b : Int32} {j : Nat} (h : j < 1062) : SC st i a b j = st j := by unfold SC; rw [pk_un (by omega), pk_un (by omega), pk_un (by omega)]
theorem wi1 (j : Nat) (ops : Nat → Int32) (x : Int32) (h : 0 ≤ x.toInt) : f_X4_isWithin x (nI j) 1 ops = some (if (0 : Int32).toInt ≤ x.toInt ∧ x.toInt ≤ (999 : Int32).toInt then 1 else 0) := by
  unfold f_X4_isWithin
  rw [if_neg (by decide), if_neg (by decide), if_neg (by decide)]
  by_cases c : x.toInt ≤ 999
  · rw [if_neg (show ¬ (999 : Int32) < x from fun z => by rw [li] at z; have : (999 : Int) < x.toInt := z; omega), if_pos ⟨h, c⟩]
  · rw [if_pos (show (999 : Int32) < x by rw [li]; show (999 : Int) < x.toInt; omega), if_neg (fun z => c z.2)]
theorem wi3 (j : Nat) (ops : Nat → Int32) (x : Int32) (h : 0 ≤ x.toInt) : f_X4_isWithin x (nI j) 3 ops = some (if (0 : Int32).toInt ≤ x.toInt ∧ x.toInt ≤ (99 : Int32).toInt then 1 else 0) := by
  unfold f_X4_isWithin
  rw [if_neg (by decide), if_pos rfl]
  by_cases c : x.toInt ≤ 99
  · rw [if_neg (show ¬ (99 : Int32) < x from fun z => by rw [li] at z; have : (99 : Int) < x.toInt := z; omega), if_pos ⟨h, c⟩]
  · rw [if_pos (show (99 : Int32) < x by rw [li]; show (99 : Int) < x.toInt; omega), if_neg (fun z => c z.2)]
theorem wi4 (j : Nat) (ops : Nat → Int32) (x : Int32) (h : 0 ≤ x.toInt) : f_X4_isWithin x (nI j) 4 ops = some (if (0 : Int32).toInt ≤ x.toInt ∧ x.toInt ≤ (10 : Int32).toInt then 1 else 0) := by
  unfold f_X4_isWithin
  rw [if_neg (by decide), if_neg (by decide), if_pos rfl]
  by_cases c : x.toInt ≤ 10
  · rw [if_neg (show ¬ (10 : Int32) < x from fun z => by rw [li] at z; have : (10 : Int) < x.toInt := z; omega), if_pos ⟨h, c⟩]
  · rw [if_pos (show (10 : Int32) < x by rw [li]; show (10 : Int) < x.toInt; omega), if_neg (fun z => c z.2)]
theorem wi2 (ops : Nat → Int32) (v x : Int32) : f_X4_isWithin x (nI 1) 2 (upd ops 0 v) = some (if v.toInt ≤ x.toInt ∧ x.toInt ≤ (999 : Int32).toInt then 1 else 0) := by
  unfold f_X4_isWithin
  rw [if_pos rfl, if_neg (show ¬ nI 1 ≤ 0 by decide), ckI (by decide) (by decide), show (upd ops 0 v) ((nI 1 - (1 : Int32)).toNatClampNeg) = v from pk_us]
  by_cases c1 : x.toInt < v.toInt
  · rw [if_pos (show x < v from li.mpr c1), if_neg (by omega)]
  · rw [if_neg (show ¬ x < v from fun z => c1 (li.mp z))]
    by_cases c : x.toInt ≤ 999
    · rw [if_neg (show ¬ (999 : Int32) < x from fun z => by rw [li] at z; have : (999 : Int) < x.toInt := z; omega), if_pos ⟨by omega, c⟩]
    · rw [if_pos (show (999 : Int32) < x by rw [li]; show (999 : Int) < x.toInt; omega), if_neg (fun z => c z.2)]
section LINE
variable {L q0 p : Nat} {bytes tape ends letters st ops : Nat → Int32} {ff fp tk tf tt_ tn br ba sp he to va : Int32} {nR nO nL nC : Int32} {fR fO fL fC : Nat → Int32}
theorem L20_bad (n : Nat) (l j : Int32) (h : ¬ ff = 0) : f_X4_tellLine_L20 (nI L) bytes 3 4 5 2 (n + 1) l j ff fp tk tf tt_ tn ops nR fR nO fO nL fL nC fC = some (ff, fp, tk, tf, tt_, tn, ops, nR, fR, nO, fO, nL, fL, nC, fC) := by
  rw [f_X4_tellLine_L20]
  unfold f_X4_tellLine_b65 f_X4_tellLine_b93
  rw [if_neg h, if_neg h, if_neg h]
  split <;> rfl
theorem L20_op (n : Nat) {l j : Nat} {w : Int32} (hl : l < 12) (hj : j < 4) (hw : opL.getD (l * 4 + j) 0 = w) (hw0 : ¬ w = 0) : f_X4_tellLine_L20 (nI L) bytes 3 4 5 2 (n + 1) (nI l) (nI j) 0 fp tk tf tt_ tn ops nR fR nO fO nL fL nC fC = bn6 (f_X4_nextToken (nI L) 0 fp tk tf tt_ tn bytes) (fun a b c d e f => bn3 (f_X4_takeOperand (nI j) w a b c d e f bytes ops) (fun g h i => f_X4_tellLine_L20 (nI L) bytes 3 4 5 2 n (nI l) (nI (j + 1)) g h c d e f i nR fR nO fO nL fL nC fC)) := by
  rw [f_X4_tellLine_L20, if_neg (show ¬ (4 : Int32) ≤ nI j from fun z => by rw [le, nT (by omega)] at z; have : (4 : Int) ≤ j := z; omega), if_pos rfl, show nI l * 4 + nI j = nI (l * 4 + j) from by rw [show nI l * 4 = nI (l * 4) from mulN l 4, nI_add], ckN (by omega) (by omega), nI_clamp (by omega), hw, if_neg hw0, nI_1]
theorem L20_no (n : Nat) {l j : Nat} (hl : l < 12) (hj : j < 4) (hw : opL.getD (l * 4 + j) 0 = 0) : f_X4_tellLine_L20 (nI L) bytes 3 4 5 2 (n + 1) (nI l) (nI j) 0 fp tk tf tt_ tn ops nR fR nO fO nL fL nC fC = f_X4_tellLine_L20 (nI L) bytes 3 4 5 2 n (nI l) (nI (j + 1)) 0 fp tk tf tt_ tn ops nR fR nO fO nL fL nC fC := by
  rw [f_X4_tellLine_L20, if_neg (show ¬ (4 : Int32) ≤ nI j from fun z => by rw [le, nT (by omega)] at z; have : (4 : Int) ≤ j := z; omega), if_pos rfl, show nI l * 4 + nI j = nI (l * 4 + j) from by rw [show nI l * 4 = nI (l * 4) from mulN l 4, nI_add], ckN (by omega) (by omega), nI_clamp (by omega), hw, if_pos rfl, nI_1]
theorem L20_end (n : Nat) {l : Int32} : f_X4_tellLine_L20 (nI L) bytes 3 4 5 2 (n + 1) l (nI 4) 0 fp tk tf tt_ tn ops nR fR nO fO nL fL nC fC = bn6 (f_X4_nextToken (nI L) 0 fp tk tf tt_ tn bytes) (fun a b c d e f => if c = 4 then f_X4_tellLine_b90 (nI L) bytes 3 4 5 2 l 1 a b c d e f ops nR fR nO fO nL fL nC fC else f_X4_tellLine_b90 (nI L) bytes 3 4 5 2 l 0 a b c d e f ops nR fR nO fO nL fL nC fC) := by
  rw [f_X4_tellLine_L20, if_pos (show (4 : Int32) ≤ nI 4 by decide)]
  unfold f_X4_tellLine_b65
  rw [if_pos rfl]
theorem rl_bad {S : Nat → Int32} (h : 0 < br.toInt) : f_X8_readLine_b77 (nI L) tape ends letters br ba sp he to va S = some (br, ba, sp, he, to, va, S) := by
  unfold f_X8_readLine_b77 f_X8_readLine_b97
  rw [if_neg (gt_ne h), ro_bad h, bq6]
def MM (L : Nat) (tape ends letters : Nat → Int32) (o : Option (Int32 × Int32 × Int32 × Int32 × Int32 × Int32 × (Nat → Int32))) : Option (Int32 × Int32 × Int32 × Int32 × Int32 × Int32 × (Nat → Int32)) := bn7 o (fun a b c d e f s => f_X8_readLine_b77 (nI L) tape ends letters a b c d e f s)
theorem MM_bad {S : Nat → Int32} (h : 0 < br.toInt) : MM L tape ends letters (some (br, ba, sp, he, to, va, S)) = some (br, ba, sp, he, to, va, S) := rl_bad h
theorem OUT.bad {S ops' : Nat → Int32} (h : 0 < br.toInt) (ha : ∃ a, a ≤ 320 ∧ ba = nI a) (hS : ∀ j, j < 1062 → S j = st j) : OUT L p st (some (br, ba, tk, tf, tt_, tn, ops', nR, fR, nO, fO, nL, fL, nC, fC)) (MM L tape ends letters (some (br, ba, sp, he, to, va, S))) :=
  ⟨br, ba, tk, tf, tt_, tn, ops', nR, fR, nO, fO, nL, fL, nC, fC, br, ba, sp, he, to, va, S, rfl, MM_bad h, hS, Or.inr ⟨h, rfl, rfl, ha⟩⟩
/-- the stop behind a line -/
theorem stp_e (hT : TpR L bytes tape) (hx : LxS L q0 ff fp tk tf tt_ tn br ba sp he to va) (hq : p ≤ q0) {l : Int32} {S : Nat → Int32} (hS : ∀ j, j < 1062 → S j = st j) (hA : br = 0 → ∃ nR' fR' nO' fO' nL' fL' nC' fC' kR kO kL kC, f_X4_addLine l ops 3 nR fR 4 nO fO 5 nL fL 2 nC fC = some (nR', fR', nO', fO', nL', fL', nC', fC') ∧ WT nR' fR' nO' fO' nL' fL' nC' fC' S kR kO kL kC) : OUT L p st (if tk = 4 then f_X4_tellLine_b90 (nI L) bytes 3 4 5 2 l 1 ff fp tk tf tt_ tn ops nR fR nO fO nL fL nC fC else f_X4_tellLine_b90 (nI L) bytes 3 4 5 2 l 0 ff fp tk tf tt_ tn ops nR fR nO fO nL fL nC fC) (MM L tape ends letters (some (br, ba, sp, he, to, va, S))) := by
  unfold f_X4_tellLine_b90
  rcases hx with ⟨f0, b0, a, b, a1, a2, a3, a4, a5, a6, a7, a8⟩ | ⟨b1, b2, b3, b6, -, b7⟩
  · have no : ¬ tk = 4 → ¬ to = 3 → OUT L p st (if tk = 4 then bn2 (f_X4_refuseUnless 1 ff fp tf) (fun m_174 m_175 => f_X4_tellLine_b93 (nI L) bytes 3 4 5 2 l m_174 m_175 tk tf tt_ tn ops nR fR nO fO nL fL nC fC) else bn2 (f_X4_refuseUnless 0 ff fp tf) (fun m_174 m_175 => f_X4_tellLine_b93 (nI L) bytes 3 4 5 2 l m_174 m_175 tk tf tt_ tn ops nR fR nO fO nL fL nC fC)) (MM L tape ends letters (some (br, ba, sp, he, to, va, S))) := by
      intro n4 n3
      rw [if_neg n4, f0, runl0, bq2]
      unfold f_X4_tellLine_b93
      rw [if_neg (by decide)]
      refine ⟨_, _, _, _, _, _, _, _, _, _, _, _, _, _, _, 2, he, sp, he, to, va, S, rfl, ?_, hS, Or.inr ⟨by decide, rfl, by rw [a4, a5], a, by have := hT.1; omega, a5⟩⟩
      show f_X8_readLine_b77 (nI L) tape ends letters br ba sp he to va S = _
      unfold f_X8_readLine_b77 f_X8_readLine_b97
      rw [b0, if_pos rfl, if_neg n3, show f_X8_fails 2 0 ba he = some (2, he) from rfl, bq2, ro_bad (by decide), bq6]
    rcases a8 with z | z | z | z
    · exact no (by rw [z.1]; decide) (by rw [z.2.1]; decide)
    · exact no (by rw [z.1]; decide) (by rw [z.2.1]; decide)
    · exact no (by rw [z.1]; decide) (by rw [z.2.1]; decide)
    · obtain ⟨nR', fR', nO', fO', nL', fL', nC', fC', kR, kO, kL, kC, e1, e2⟩ := hA b0
      obtain ⟨ff', fp', tk', tf', tt', tn', br', ba', sp', he', to', va', x1, x2, x3⟩ := lex_e hT a3 fp tk tf tn ba he to va
      rw [if_pos z.1, f0, runl1, bq2]
      unfold f_X4_tellLine_b93
      rw [if_pos rfl, e1, bq8, a6, x1, bq6]
      have m1 : MM L tape ends letters (some (br, ba, sp, he, to, va, S)) = some (br', ba', sp', he', to', va', S) := by
        show f_X8_readLine_b77 (nI L) tape ends letters br ba sp he to va S = _
        unfold f_X8_readLine_b77 f_X8_readLine_b97
        rw [b0, if_pos rfl, if_pos z.2.1, a7, x2, bq6]
      refine ⟨_, _, _, _, _, _, _, _, _, _, _, _, _, _, _, br', ba', sp', he', to', va', S, rfl, m1, hS, ?_⟩
      rcases x3 with ⟨y1, y2, p', q', y3, y4⟩ | ⟨y1, y2, y3, -, -, y7⟩
      · exact Or.inl ⟨y1, y2, ⟨p', q', by omega, y4⟩, kR, kO, kL, kC, e2⟩
      · exact Or.inr ⟨y1, y2, y3, y7⟩
  · have hne : ¬ ff = 0 := by rw [b2]; exact gt_ne b1
    rw [runl _ _ _ _ hne, runl _ _ _ _ hne, bq2]
    unfold f_X4_tellLine_b93
    rw [if_neg hne, b2, b3]
    have : (if tk = 4 then some (br, ba, tk, tf, tt_, tn, ops, nR, fR, nO, fO, nL, fL, nC, fC) else some (br, ba, tk, tf, tt_, tn, ops, nR, fR, nO, fO, nL, fL, nC, fC)) = some (br, ba, tk, tf, tt_, tn, ops, nR, fR, nO, fO, nL, fL, nC, fC) := by split <;> rfl
    rw [this]
    exact OUT.bad b1 b7 hS
/-- a number is read, and on -/
theorem step_n (hT : TpR L bytes tape) (hx : LxS L q0 ff fp tk tf tt_ tn br ba sp he to va) {j : Nat} (hj : j < 4) {w lo hi : Int32} (h5 : ¬ w = 5) (h6 : ¬ w = 6) (h7 : ¬ w = 7) (hw : ∀ x : Int32, 0 ≤ x.toInt → f_X4_isWithin x (nI j) w ops = some (if lo.toInt ≤ x.toInt ∧ x.toInt ≤ hi.toInt then 1 else 0)) {n : Nat} {l j' : Int32} {CONT : (Nat → Int32) → Int32 → Int32 → Int32 → Int32 → Int32 → Int32 → Option (Int32 × Int32 × Int32 × Int32 × Int32 × Int32 × (Nat → Int32) × Int32 × (Nat → Int32) × Int32 × (Nat → Int32) × Int32 × (Nat → Int32) × Int32 × (Nat → Int32))} (hC : ∀ fp tk tf tt_ tn ops', f_X4_tellLine_L20 (nI L) bytes 3 4 5 2 (n + 1) l j' 0 fp tk tf tt_ tn ops' nR fR nO fO nL fL nC fC = bn6 (f_X4_nextToken (nI L) 0 fp tk tf tt_ tn bytes) (fun a b c d e f => CONT ops' a b c d e f)) {KM : Int32 → Int32 → Int32 → Int32 → Int32 → Int32 → Int32 → Option (Int32 × Int32 × Int32 × Int32 × Int32 × Int32 × (Nat → Int32))}
    (hbad : ∀ x br' ba', 0 < br'.toInt → (∃ p, p ≤ 320 ∧ he = nI p) → ∃ S, KM x br' ba' sp he to va = some (br', ba', sp, he, to, va, S) ∧ ∀ j, j < 1062 → S j = st j)
    (hgood : br = 0 → ∀ v ff fp tk tf tt_ tn br ba sp he to va, lo.toInt ≤ v.toInt → v.toInt ≤ hi.toInt → LxS L (q0 + 1) ff fp tk tf tt_ tn br ba sp he to va → OUT L p st (CONT (upd ops j v) ff fp tk tf tt_ tn) (MM L tape ends letters (KM v br ba sp he to va))) :
    OUT L p st (bn3 (f_X4_takeOperand (nI j) w ff fp tk tf tt_ tn bytes ops) (fun g h i => f_X4_tellLine_L20 (nI L) bytes 3 4 5 2 (n + 1) l j' g h tk tf tt_ tn i nR fR nO fO nL fL nC fC)) (MM L tape ends letters (bn7 (f_X8_numberRead lo hi (nI L) br ba sp he to va tape) KM)) := by
  obtain ⟨ff', fp', ops', e1, e2⟩ := opn_e (bytes := bytes) (tape := tape) (ops := ops) hT.1 hx hj h5 h6 h7 hw
  rw [e1, bq3]
  rcases e2 with ⟨f0, b0, o1, v1, v2, ⟨q, q1, q2, q3, q4⟩, e3⟩ | ⟨x, br', ba', y1, y2, y3, y4, ya, e3⟩
  · obtain ⟨ff2, fp2, tk2, tf2, tt2, tn2, br2, ba2, sp2, he2, to2, va2, x1, x2, x3⟩ := lex_e hT q2 fp' tk tf tn ba he to va
    rw [f0, hC, q3, x1, bq6, e3, q4, x2, bq6, bq7, o1]
    refine hgood b0 va ff2 fp2 tk2 tf2 tt2 tn2 br2 ba2 sp2 he2 to2 va2 v1 v2 ?_
    rcases x3 with ⟨z1, z2, p', q', z3, z4⟩ | z
    · exact Or.inl ⟨z1, z2, p', q', by omega, z4⟩
    · exact Or.inr z
  · obtain ⟨S, s1, s2⟩ := hbad x br' ba' y1 y4
    rw [L20_bad n l j' (by rw [y2]; exact gt_ne y1), e3, bq7, s1, y2, y3]
    exact OUT.bad y1 ya s2
/-- a register is read, and on -/
theorem step_r (hT : TpR L bytes tape) (hx : LxS L q0 ff fp tk tf tt_ tn br ba sp he to va) {j : Nat} (hj : j < 4) {w o : Int32} (hw : (w = 5 ∧ o = -4) ∨ (w = 6 ∧ o = 5) ∨ (w = 7 ∧ o = 4)) {n : Nat} {l j' : Int32} {CONT : (Nat → Int32) → Int32 → Int32 → Int32 → Int32 → Int32 → Int32 → Option (Int32 × Int32 × Int32 × Int32 × Int32 × Int32 × (Nat → Int32) × Int32 × (Nat → Int32) × Int32 × (Nat → Int32) × Int32 × (Nat → Int32) × Int32 × (Nat → Int32))} (hC : ∀ fp tk tf tt_ tn ops', f_X4_tellLine_L20 (nI L) bytes 3 4 5 2 (n + 1) l j' 0 fp tk tf tt_ tn ops' nR fR nO fO nL fL nC fC = bn6 (f_X4_nextToken (nI L) 0 fp tk tf tt_ tn bytes) (fun a b c d e f => CONT ops' a b c d e f)) {KM : Int32 → Int32 → Int32 → Int32 → Int32 → Int32 → Int32 → Option (Int32 × Int32 × Int32 × Int32 × Int32 × Int32 × (Nat → Int32))}
    (hbad : ∀ x br' ba', 0 < br'.toInt → (∃ p, p ≤ 320 ∧ he = nI p) → ∃ S, KM x br' ba' sp he to va = some (br', ba', sp, he, to, va, S) ∧ ∀ j, j < 1062 → S j = st j)
    (hgood : br = 0 → ∀ (u : Nat) (v ff fp tk tf tt_ tn br ba sp he to va : Int32), u < 6 → ¬ nI u = o → (br = 0 → v = nI u) → LxS L (q0 + 1) ff fp tk tf tt_ tn br ba sp he to va → OUT L p st (CONT (upd ops j (nI u)) ff fp tk tf tt_ tn) (MM L tape ends letters (KM v br ba sp he to va))) :
    OUT L p st (bn3 (f_X4_takeOperand (nI j) w ff fp tk tf tt_ tn bytes ops) (fun g h i => f_X4_tellLine_L20 (nI L) bytes 3 4 5 2 (n + 1) l j' g h tk tf tt_ tn i nR fR nO fO nL fL nC fC)) (MM L tape ends letters (bn7 (f_X8_registerRead o (nI L) br ba sp he to va tape) KM)) := by
  obtain ⟨ff', fp', ops', e1, e2⟩ := opr_e (ops := ops) hT hx hj hw
  rw [e1, bq3]
  rcases e2 with ⟨f0, b0, ⟨q, q1, q2, q3, q4⟩, u, hu, huo, o1, e3⟩ | ⟨x, br', ba', y1, y2, y3, y4, ya, e3⟩
  · obtain ⟨ff2, fp2, tk2, tf2, tt2, tn2, br2, ba2, sp2, he2, to2, va2, x1, x2, x3⟩ := lex_e hT q2 fp' tk tf tn ba he to va
    have x3' : LxS L (q0 + 1) ff2 fp2 tk2 tf2 tt2 tn2 br2 ba2 sp2 he2 to2 va2 := by
      rcases x3 with ⟨z1, z2, p', q', z3, z4⟩ | z
      · exact Or.inl ⟨z1, z2, p', q', by omega, z4⟩
      · exact Or.inr z
    rw [f0, hC, q3, x1, bq6, e3, q4, x2, bq6, o1]
    by_cases c : br2 = 0
    · rw [if_pos c, bq7]
      exact hgood b0 u (nI u) ff2 fp2 tk2 tf2 tt2 tn2 br2 ba2 sp2 he2 to2 va2 hu huo (fun _ => rfl) x3'
    · rw [if_neg c, bq7]
      exact hgood b0 u 0 ff2 fp2 tk2 tf2 tt2 tn2 br2 ba2 sp2 he2 to2 va2 hu huo (fun z => absurd z c) x3'
  · obtain ⟨S, s1, s2⟩ := hbad x br' ba' y1 y4
    rw [L20_bad n l j' (by rw [y2]; exact gt_ne y1), e3, bq7, s1, y2, y3]
    exact OUT.bad y1 ya s2
/-- the line begins -/
theorem beg_e (hT : TpR L bytes tape) {q : Nat} (hq : q ≤ L) {n : Nat} {l j' : Int32} {CONT : Int32 → Int32 → Int32 → Int32 → Int32 → Int32 → Option (Int32 × Int32 × Int32 × Int32 × Int32 × Int32 × (Nat → Int32) × Int32 × (Nat → Int32) × Int32 × (Nat → Int32) × Int32 × (Nat → Int32) × Int32 × (Nat → Int32))} (hC : f_X4_tellLine_L20 (nI L) bytes 3 4 5 2 n l j' 0 fp tk tf (nI q) tn ops nR fR nO fO nL fL nC fC = bn6 (f_X4_nextToken (nI L) 0 fp tk tf (nI q) tn bytes) (fun a b c d e f => CONT a b c d e f)) {KM : Int32 → Int32 → Int32 → Int32 → Int32 → Int32 → Option (Int32 × Int32 × Int32 × Int32 × Int32 × Int32 × (Nat → Int32))}
    (hgood : ∀ ff fp tk tf tt_ tn br ba sp he to va, LxS L q ff fp tk tf tt_ tn br ba sp he to va → OUT L p st (CONT ff fp tk tf tt_ tn) (MM L tape ends letters (KM br ba sp he to va))) :
    OUT L p st (f_X4_tellLine_L20 (nI L) bytes 3 4 5 2 n l j' 0 fp tk tf (nI q) tn ops nR fR nO fO nL fL nC fC) (MM L tape ends letters (bn6 (f_X8_readsOn (nI L) 0 ba (nI q) he to va tape) KM)) := by
  obtain ⟨ff2, fp2, tk2, tf2, tt2, tn2, br2, ba2, sp2, he2, to2, va2, x1, x2, x3⟩ := lex_e hT hq fp tk tf tn ba he to va
  rw [hC, x1, bq6, x2, bq6]
  exact hgood _ _ _ _ _ _ _ _ _ _ _ _ x3
end LINE
