/-! the text: tokens -/
theorem let_e (x : Int32) : f_X4_isLetter x = some (if 97 ≤ x.toInt ∧ x.toInt ≤ 122 then 1 else 0) := by
  unfold f_X4_isLetter
  by_cases h1 : x.toInt < 97
  · rw [if_pos (show x < 97 by rw [li]; exact h1), if_neg (by omega)]
  · rw [if_neg (show ¬ x < 97 from fun z => h1 (by rw [li] at z; exact z))]
    by_cases h2 : x.toInt ≤ 122
    · rw [if_neg (show ¬ (122 : Int32) < x from fun z => by rw [li] at z; have : (122 : Int) < x.toInt := z; omega), if_pos (by omega)]
    · rw [if_pos (show (122 : Int32) < x by rw [li]; show (122 : Int) < x.toInt; omega), if_neg (by omega)]
theorem fig_e (x : Int32) : f_X4_isFigure x = some (if 48 ≤ x.toInt ∧ x.toInt ≤ 57 then 1 else 0) := by
  unfold f_X4_isFigure
  by_cases h1 : x.toInt < 48
  · rw [if_pos (show x < 48 by rw [li]; exact h1), if_neg (by omega)]
  · rw [if_neg (show ¬ x < 48 from fun z => h1 (by rw [li] at z; exact z))]
    by_cases h2 : x.toInt ≤ 57
    · rw [if_neg (show ¬ (57 : Int32) < x from fun z => by rw [li] at z; have : (57 : Int) < x.toInt := z; omega), if_pos (by omega)]
    · rw [if_pos (show (57 : Int32) < x by rw [li]; show (57 : Int) < x.toInt; omega), if_neg (by omega)]
theorem inl_e (x : Int32) : f_X8_in x.toInt64 97 122 = some (if 97 ≤ x.toInt ∧ x.toInt ≤ 122 then 1 else 0) := by rw [in_t, tt]; rfl
theorem inf_e (x : Int32) : f_X8_in x.toInt64 48 57 = some (if 48 ≤ x.toInt ∧ x.toInt ≤ 57 then 1 else 0) := by rw [in_t, tt]; rfl
/-- the tape as both read it -/
def TpR (L : Nat) (bytes tape : Nat → Int32) : Prop := L ≤ 320 ∧ ∀ j, j < L → bytes j = tape j ∧ 0 ≤ (tape j).toInt ∧ (tape j).toInt < 128
theorem byt_in {L p : Nat} {tape : Nat → Int32} (hL : L ≤ 320) (hp : p < L) : f_X8_byteAt (nI p) (nI L) tape = some (tape p) := by
  unfold f_X8_byteAt
  rw [if_neg (show ¬ nI L ≤ nI p by rw [le, nT (by omega), nT (by omega)]; omega), ckN (by omega) (by omega), nC (by omega)]
theorem byt_out {L p : Nat} {tape : Nat → Int32} (hL : L ≤ 320) (hp : L ≤ p) (hp2 : p ≤ 1000) : f_X8_byteAt (nI p) (nI L) tape = some (-4) := by
  unfold f_X8_byteAt
  rw [if_pos (show nI L ≤ nI p by rw [le, nT (by omega), nT (by omega)]; omega)]
theorem name_L {L : Nat} {bytes tape : Nat → Int32} (h : TpR L bytes tape) {br ba he to va : Int32} : ∀ (n q : Nat), q ≤ L → L - q < n → ∃ q', q ≤ q' ∧ q' ≤ L ∧ f_X4_readName_L5 (nI L) bytes n 2 (nI q) = some (2, nI q') ∧ f_X8_readsOn_L84 (nI L) tape n br ba (nI q) he to va = some (br, ba, nI q', he, 1, va) ∧ (q < L → 97 ≤ (tape q).toInt ∧ (tape q).toInt ≤ 122 → q < q')
  | 0, q, _, h2 => by omega
  | n + 1, q, h1, h2 => by
    have hL := h.1
    rw [f_X4_readName_L5, f_X8_readsOn_L84]
    by_cases hq : q = L
    · subst hq
      rw [if_pos (Int32.le_refl _), byt_out hL (Nat.le_refl _) (by omega), bq1, inl_e, bq1, ite01, if_neg (by decide)]
      exact ⟨q, by omega, by omega, rfl, rfl, fun z => by omega⟩
    · have hb := h.2 q (by omega)
      rw [if_neg (show ¬ nI L ≤ nI q by rw [le, nT (by omega), nT (by omega)]; omega), ckN (by omega) (by omega), nC (by omega), hb.1, let_e, bq1, ite01, byt_in hL (by omega), bq1, inl_e, bq1, ite01, nI_1]
      by_cases c : 97 ≤ (tape q).toInt ∧ (tape q).toInt ≤ 122
      · obtain ⟨q', e1, e2, e3, e4, -⟩ := name_L h (br := br) (ba := ba) (he := he) (to := to) (va := va) n (q + 1) (by omega) (by omega)
        rw [if_pos c, if_pos c]
        exact ⟨q', by omega, e2, e3, e4, fun _ _ => by omega⟩
      · rw [if_neg c, if_neg c]
        exact ⟨q, by omega, by omega, rfl, rfl, fun _ z => absurd z c⟩
theorem num_L {L p : Nat} {bytes tape : Nat → Int32} (h : TpR L bytes tape) {ba to tk : Int32} : ∀ (n q m : Nat), p ≤ q → q ≤ L → L - q < n → (q - p ≤ 3 → m < 10 ^ (q - p)) → m < 1000 → ∃ q' m', q ≤ q' ∧ q' ≤ L ∧ m' < 1000 ∧ f_X4_readNumber_L0 (nI L) (nI p) bytes n tk (nI q) (nI m) = some (if q' - p ≤ 3 then 3 else 1, nI q', nI m') ∧ f_X8_readsOn_L140 (nI L) tape n 0 ba (nI q) (nI p) to (nI m) = some (if q' - p ≤ 3 then 0 else 1, if q' - p ≤ 3 then ba else nI p, nI q', nI p, 2, nI m') ∧ (q < L → 48 ≤ (tape q).toInt ∧ (tape q).toInt ≤ 57 → q < q')
  | 0, q, m, _, _, h2, _, _ => by omega
  | n + 1, q, m, h0, h1, h2, hm, hm2 => by
    have hL := h.1
    have hsub : nI q - nI p = nI (q - p) := pk_sub h0
    have stop7 : f_X4_readNumber_b76 (nI L) (nI p) bytes tk (nI q) (nI m) = some (if q - p ≤ 3 then 3 else 1, nI q, nI m) := by
      unfold f_X4_readNumber_b76 f_X4_readNumber_b95
      rw [hsub]
      by_cases c : q - p ≤ 3
      · rw [if_pos (show nI (q - p) ≤ 3 by rw [le, nT (by omega)]; show ((q - p : Nat) : Int) ≤ 3; omega), if_pos c]
      · rw [if_neg (show ¬ nI (q - p) ≤ 3 from fun z => by rw [le, nT (by omega)] at z; have : ((q - p : Nat) : Int) ≤ 3 := z; omega), if_neg c]
    have stop8 : (if nI q - nI p ≤ (3 : Int32) then some ((0 : Int32), ba, nI q, nI p, (2 : Int32), nI m) else bn2 (f_X8_fails 1 0 ba (nI p)) (fun m_107 m_108 => some (m_107, m_108, nI q, nI p, (2 : Int32), nI m))) = some (if q - p ≤ 3 then 0 else 1, if q - p ≤ 3 then ba else nI p, nI q, nI p, 2, nI m) := by
      rw [hsub]
      by_cases c : q - p ≤ 3
      · rw [if_pos (show nI (q - p) ≤ 3 by rw [le, nT (by omega)]; show ((q - p : Nat) : Int) ≤ 3; omega), if_pos c, if_pos c]
      · rw [if_neg (show ¬ nI (q - p) ≤ 3 from fun z => by rw [le, nT (by omega)] at z; have : ((q - p : Nat) : Int) ≤ 3 := z; omega), if_neg c, if_neg c]; rfl
    rw [f_X4_readNumber_L0, f_X8_readsOn_L140]
    by_cases hq : q = L
    · subst hq
      rw [if_pos (Int32.le_refl _), stop7, byt_out hL (Nat.le_refl _) (by omega), bq1, inf_e, bq1, ite01, if_neg (show ¬ (48 ≤ ((-4 : Int32)).toInt ∧ ((-4 : Int32)).toInt ≤ 57) by decide), stop8]
      exact ⟨q, m, by omega, by omega, hm2, rfl, rfl, fun z => by omega⟩
    · have hb := h.2 q (by omega)
      rw [if_neg (show ¬ nI L ≤ nI q by rw [le, nT (by omega), nT (by omega)]; omega), ckN (by omega) (by omega), nC (by omega), hb.1, fig_e, bq1, ite01, byt_in hL (by omega), bq1, inf_e, bq1, ite01]
      by_cases c : 48 ≤ (tape q).toInt ∧ (tape q).toInt ≤ 57
      · rw [if_pos c, if_pos c, hsub, bq1]
        unfold f_X4_readNumber_b63 f_X8_readsOn_b201
        rw [nI_1]
        by_cases c3 : 3 ≤ q - p
        · rw [if_pos (show (3 : Int32) ≤ nI (q - p) by rw [le, nT (by omega)]; show (3 : Int) ≤ ((q - p : Nat) : Int); omega), if_pos (show (3 : Int32) ≤ nI (q - p) by rw [le, nT (by omega)]; show (3 : Int) ≤ ((q - p : Nat) : Int); omega)]
          obtain ⟨q', m', e1, e2, e3, e4, e5, -⟩ := num_L (p := p) h (ba := ba) (to := to) (tk := tk) n (q + 1) m (by omega) (by omega) (by omega) (fun z => by omega) hm2
          exact ⟨q', m', by omega, e2, e3, e4, e5, fun _ _ => by omega⟩
        · rw [if_neg (show ¬ (3 : Int32) ≤ nI (q - p) from fun z => by rw [le, nT (by omega)] at z; have : (3 : Int) ≤ ((q - p : Nat) : Int) := z; omega), if_neg (show ¬ (3 : Int32) ≤ nI (q - p) from fun z => by rw [le, nT (by omega)] at z; have : (3 : Int) ≤ ((q - p : Nat) : Int) := z; omega), ckN (by omega) (by omega)]
          obtain ⟨d, hd, ed, edT⟩ := nOf (x := tape q) (by omega)
          have hm3 := hm (by omega)
          have hm10 : m < 100 := by
            have h10 : 10 ^ (q - p) ≤ 100 := by
              rcases (show q - p = 0 ∨ q - p = 1 ∨ q - p = 2 by omega) with z | z | z <;> rw [z] <;> decide
            omega
          have v7 : nI m * 10 + (tape q - 48) = nI (m * 10 + (d - 48)) := by
            rw [ed, show ((10 : Int32)) = nI 10 from rfl, show ((48 : Int32)) = nI 48 from rfl, pk_sub (by omega), mulN, nI_add]
          have v8 : 10 * nI m + tape q - 48 = nI (m * 10 + (d - 48)) := by
            rw [ed, show ((10 : Int32)) = nI 10 from rfl, show ((48 : Int32)) = nI 48 from rfl, mulN, nI_add, pk_sub (by omega), show 10 * m + d - 48 = m * 10 + (d - 48) by omega]
          rw [v7, v8]
          obtain ⟨q', m', e1, e2, e3, e4, e5, -⟩ := num_L (p := p) h (ba := ba) (to := to) (tk := tk) n (q + 1) (m * 10 + (d - 48)) (by omega) (by omega) (by omega) (fun z => by
            rw [show q + 1 - p = (q - p) + 1 by omega, Nat.pow_succ]; omega) (by omega)
          exact ⟨q', m', by omega, e2, e3, e4, e5, fun _ _ => by omega⟩
      · rw [if_neg c, if_neg c, stop7, stop8]
        exact ⟨q, m, by omega, by omega, hm2, rfl, rfl, fun _ z => absurd z c⟩
/-- a token, in both -/
def Tok (L : Nat) (tk tn to va : Int32) (p q : Nat) : Prop := (tk = 0 ∧ to = 0 ∧ p = L ∧ q = L) ∨ (tk = 2 ∧ to = 1 ∧ p < q) ∨ (tk = 3 ∧ to = 2 ∧ p < q ∧ tn = va ∧ 0 ≤ va.toInt ∧ va.toInt ≤ 999) ∨ (tk = 4 ∧ to = 3 ∧ p < q)
/-- what has been read, in both: a token from q0 on, or a fault -/
def LxS (L q0 : Nat) (ff fp tk tf tt_ tn br ba sp he to va : Int32) : Prop :=
  (ff = 0 ∧ br = 0 ∧ ∃ p q, q0 ≤ p ∧ p ≤ q ∧ q ≤ L ∧ tf = nI p ∧ he = nI p ∧ tt_ = nI q ∧ sp = nI q ∧ Tok L tk tn to va p q) ∨ (0 < br.toInt ∧ ff = br ∧ fp = ba ∧ tk = 1 ∧ (∃ p, p ≤ 320 ∧ he = nI p) ∧ ∃ a, a ≤ 320 ∧ ba = nI a)
theorem lex_e {L q0 : Nat} {bytes tape : Nat → Int32} (h : TpR L bytes tape) (hq0 : q0 ≤ L) (fp tk tf tn ba he to va : Int32) : ∃ ff' fp' tk' tf' tt' tn' br' ba' sp' he' to' va', f_X4_nextToken (nI L) 0 fp tk tf (nI q0) tn bytes = some (ff', fp', tk', tf', tt', tn') ∧ f_X8_readsOn (nI L) 0 ba (nI q0) he to va tape = some (br', ba', sp', he', to', va') ∧ LxS L q0 ff' fp' tk' tf' tt' tn' br' ba' sp' he' to' va' := by
  have hL := h.1
  have key : ∀ (n p : Nat), q0 ≤ p → p ≤ L → L - p < n → ∃ ff' fp' tk' tf' tt' tn' br' ba' sp' he' to' va', f_X4_nextToken_L5 (nI L) bytes n (nI p) 0 fp tk tf (nI q0) tn = some (ff', fp', tk', tf', tt', tn') ∧ f_X8_readsOn_L8 (nI L) tape n 0 ba (nI p) he to va = some (br', ba', sp', he', to', va') ∧ LxS L q0 ff' fp' tk' tf' tt' tn' br' ba' sp' he' to' va' := by
    intro n
    induction n with
    | zero => intro p _ _ h2; omega
    | succ n ih =>
      intro p h0 h1 h2
      rw [f_X4_nextToken_L5, f_X8_readsOn_L8]
      by_cases hp : p = L
      · subst hp
        rw [if_pos (Int32.le_refl _), byt_out hL (Nat.le_refl _) (by omega), bq1, bq1, if_neg (by decide), if_pos rfl]
        unfold f_X4_nextToken_b30 f_X4_nextToken_b126
        rw [if_neg (show ¬ nI p < nI p by rw [li]; omega), if_neg (by decide)]
        exact ⟨_, _, _, _, _, _, _, _, _, _, _, _, rfl, rfl, Or.inl ⟨rfl, rfl, p, p, h0, by omega, by omega, rfl, rfl, rfl, rfl, Or.inl ⟨rfl, rfl, rfl, rfl⟩⟩⟩
      · have hb := h.2 p (by omega)
        rw [if_neg (show ¬ nI L ≤ nI p by rw [le, nT (by omega), nT (by omega)]; omega), ckN (by omega) (by omega), nC (by omega), hb.1, byt_in hL (by omega), bq1, bq1, nI_1]
        by_cases c32 : tape p = 32
        · rw [if_pos c32, if_pos c32]
          exact ih (p + 1) (by omega) (by omega) (by omega)
        · rw [if_neg c32, if_neg c32, if_neg (show ¬ tape p = -4 from fun z => by rw [z] at hb; exact absurd hb.2.1 (by decide)), inl_e, bq1, ite01, inf_e, bq1, ite01]
          unfold f_X4_nextToken_b30
          rw [if_pos (show nI p < nI L by rw [li, nT (by omega), nT (by omega)]; omega), ckN (by omega) (by omega), nC (by omega), hb.1, let_e, bq1, ite01, fig_e, bq1, ite01, ckN (by omega) (by omega), ckN (by omega) (by omega)]
          by_cases cl : 97 ≤ (tape p).toInt ∧ (tape p).toInt ≤ 122
          · rw [if_pos cl, if_pos cl]
            obtain ⟨q', e1, e2, e3, e4, e5⟩ := name_L h (br := 0) (ba := ba) (he := nI p) (to := to) (va := 0) FUEL p (by omega) (by unfold FUEL; omega)
            unfold f_X4_readName
            rw [e3, e4, bq2]
            unfold f_X4_nextToken_b126
            rw [if_neg (by decide)]
            exact ⟨_, _, _, _, _, _, _, _, _, _, _, _, rfl, rfl, Or.inl ⟨rfl, rfl, p, q', h0, by omega, e2, rfl, rfl, rfl, rfl, Or.inr (Or.inl ⟨rfl, rfl, e5 (by omega) cl⟩)⟩⟩
          · rw [if_neg cl, if_neg cl]
            by_cases cf : 48 ≤ (tape p).toInt ∧ (tape p).toInt ≤ 57
            · rw [if_pos cf, if_pos cf]
              obtain ⟨q', m', e1, e2, e3, e4, e5, e6⟩ := num_L (p := p) h (ba := ba) (to := to) (tk := tk) FUEL p 0 (by omega) (by omega) (by unfold FUEL; omega) (fun _ => by rw [Nat.sub_self]; decide) (by omega)
              unfold f_X4_readNumber
              rw [show f_X4_readNumber_L0 (nI L) (nI p) bytes FUEL tk (nI p) 0 = _ from e4, show f_X8_readsOn_L140 (nI L) tape FUEL 0 ba (nI p) (nI p) to 0 = _ from e5, bq3]
              unfold f_X4_nextToken_b126
              by_cases c3 : q' - p ≤ 3
              · rw [if_pos c3, if_pos c3, if_pos c3, if_neg (by decide)]
                exact ⟨_, _, _, _, _, _, _, _, _, _, _, _, rfl, rfl, Or.inl ⟨rfl, rfl, p, q', h0, by omega, e2, rfl, rfl, rfl, rfl, Or.inr (Or.inr (Or.inl ⟨rfl, rfl, e6 (by omega) cf, rfl, by rw [nT (by omega)]; omega, by rw [nT (by omega)]; omega⟩))⟩⟩
              · rw [if_neg c3, if_neg c3, if_neg c3, if_pos rfl]
                exact ⟨_, _, _, _, _, _, _, _, _, _, _, _, rfl, rfl, Or.inr ⟨by decide, rfl, rfl, rfl, ⟨p, by omega, rfl⟩, p, by omega, rfl⟩⟩
            · rw [if_neg cf, if_neg cf]
              unfold f_X4_nextToken_b116 f_X4_nextToken_b126
              by_cases cs : tape p = 59
              · rw [if_pos cs, if_pos cs, if_neg (by decide), nI_1]
                exact ⟨_, _, _, _, _, _, _, _, _, _, _, _, rfl, rfl, Or.inl ⟨rfl, rfl, p, p + 1, h0, by omega, by omega, rfl, rfl, rfl, rfl, Or.inr (Or.inr (Or.inr ⟨rfl, rfl, by omega⟩))⟩⟩
              · rw [if_neg cs, if_neg cs, if_pos rfl]
                exact ⟨_, _, _, _, _, _, _, _, _, _, _, _, rfl, rfl, Or.inr ⟨by decide, rfl, rfl, rfl, ⟨p, by omega, rfl⟩, p, by omega, rfl⟩⟩
  unfold f_X4_nextToken f_X8_readsOn
  rw [if_pos (show (0 : Int32) ≤ 0 by decide)]
  exact key FUEL q0 (Nat.le_refl _) hq0 (by unfold FUEL; omega)
