/-! the text: all of it -/
theorem shI_L {k r : Nat} {f F T : Nat → Int32} {K : Int32 → Option Int32} (hk : k ≤ 8) (hr : r < k) (h : ∀ r, r < k → f (3 * r) = F r ∧ f (3 * r + 1) = T r) : ∀ (n o : Nat), o ≤ r → r - o < n → f_X6_sharesAddresses_L15 3 (nI k) f K n (nI r) (nI o) = if alB (apq F T r) (r - o) o = true then K (nI r + 1) else some 1
  | 0, o, _, h2 => by omega
  | n + 1, o, h1, h2 => by
    rw [f_X6_sharesAddresses_L15]
    by_cases ho : o = r
    · subst ho
      rw [if_pos (Int32.le_refl _), Nat.sub_self]; rfl
    · rw [if_neg (by rw [le, nT (by omega), nT (by omega)]; omega), show f_X3_at (nI r) (0 : Int32) (3 : Int32) (nI k) 24 f = some (f (r * 3 + 0)) from at_in (w := 3) (c := 0) hr (by omega) (by omega) (by omega), bq1, show f_X3_at (nI r) (1 : Int32) (3 : Int32) (nI k) 24 f = some (f (r * 3 + 1)) from at_in (w := 3) (c := 1) hr (by omega) (by omega) (by omega), bq1, Nat.mul_comm r 3, Nat.add_zero, (h r hr).1, (h r hr).2, meets_e _ _ (show o < k by omega) hk h, bq1, ite01, nI_1 o]
      obtain ⟨m, hm⟩ : ∃ m, r - o = m + 1 := ⟨r - o - 1, by omega⟩
      have r0 := shI_L (K := K) hk hr h n (o + 1) (by omega) (by omega)
      rw [show r - (o + 1) = m by omega] at r0
      rw [hm, alB, r0]
      by_cases c : (F o).toInt ≤ (T r).toInt ∧ (F r).toInt ≤ (T o).toInt
      · rw [if_pos c, show apq F T r o = false from decide_eq_false (by omega), Bool.false_and, if_neg (by decide)]
      · rw [if_neg c, show apq F T r o = true from decide_eq_true (by omega), Bool.true_and]
theorem shO_L {k : Nat} {f F T : Nat → Int32} (hk : k ≤ 8) (h : ∀ r, r < k → f (3 * r) = F r ∧ f (3 * r + 1) = T r) : ∀ (n r : Nat), r ≤ k → k - r < n → f_X6_sharesAddresses_L2 3 (nI k) f n (nI r) = some (if alB (fun r => alB (apq F T r) r 0) (k - r) r = true then 0 else 1)
  | 0, r, _, h2 => by omega
  | n + 1, r, h1, h2 => by
    rw [f_X6_sharesAddresses_L2]
    by_cases hr : r = k
    · subst hr
      rw [if_pos (Int32.le_refl _), Nat.sub_self]; rfl
    · rw [if_neg (by rw [le, nT (by omega), nT (by omega)]; omega), show f_X6_sharesAddresses_L15 3 (nI k) f (f_X6_sharesAddresses_L2 3 (nI k) f n) FUEL (nI r) 0 = _ from shI_L hk (by omega) h FUEL 0 (by omega) (by unfold FUEL; omega), nI_1, Nat.sub_zero]
      obtain ⟨m, hm⟩ : ∃ m, k - r = m + 1 := ⟨k - r - 1, by omega⟩
      have r0 := shO_L hk h n (r + 1) (by omega) (by omega)
      rw [show k - (r + 1) = m by omega] at r0
      rw [hm, alB, r0]
      by_cases c : alB (apq F T r) r 0 = true
      · rw [if_pos c, c, Bool.true_and]
      · rw [if_neg c, Bool.eq_false_iff.mpr c, Bool.false_and, if_neg (by decide)]
section TEXTS
variable {L : Nat} {bytes tape ends letters kM : Nat → Int32} {flt iw : Int32}
theorem txt_L (hT : TpR L bytes tape) (hE : ElR ends letters) : ∀ (n1 n2 c p q : Nat) (fp tk tn ba to va : Int32) (ops st : Nat → Int32) (nR nO nL nC : Int32) (fR fO fL fC : Nat → Int32) (kR kO kL kC : Nat), c ≤ p → p ≤ q → q ≤ L → L - p + 1 < n1 → L - p + 1 < n2 → Tok L tk tn to va p q → WT nR fR nO fO nL fL nC fC st kR kO kL kC →
    ∃ c' ff' fp' tk' tf' tt' tn' ops' nR' fR' nO' fO' nL' fL' nC' fC' br' ba' sp' he' to' va' st', f_X4_tellAll_L25 (nI L) bytes 3 4 5 2 n1 (nI c) 0 fp tk (nI p) (nI q) tn ops nR fR nO fO nL fL nC fC = f_X4_tellAll_b57 (nI L) bytes 3 4 5 2 (nI c') ff' fp' tk' tf' tt' tn' ops' nR' fR' nO' fO' nL' fL' nC' fC' ∧
      f_X8_text_L42 tape ends letters n2 (nI c) (nI L) flt 0 ba (nI q) (nI p) to va iw st kM = f_X8_text_b66 tape ends letters (nI c') (nI L) flt br' ba' sp' he' to' va' iw st' kM ∧ (∀ j, j < 1062 → st' j = st j) ∧ c' ≤ 330 ∧
      ((ff' = 0 ∧ br' = 0 ∧ he' = nI L ∧ ∃ kR kO kL kC, WT nR' fR' nO' fO' nL' fL' nC' fC' st' kR kO kL kC) ∨ (0 < br'.toInt ∧ ff' = br' ∧ fp' = ba' ∧ ∃ a, a ≤ 320 ∧ ba' = nI a))
  | 0, _, c, p, q, _, _, _, _, _, _, _, _, _, _, _, _, _, _, _, _, _, _, _, _, _, _, _, h4, _, _, _ => by omega
  | n1 + 1, 0, c, p, q, _, _, _, _, _, _, _, _, _, _, _, _, _, _, _, _, _, _, _, _, _, _, _, _, h5, _, _ => by omega
  | n1 + 1, n2 + 1, c, p, q, fp, tk, tn, ba, to, va, ops, st, nR, nO, nL, nC, fR, fO, fL, fC, kR, kO, kL, kC, h1, h2, h3, h4, h5, hk, hW => by
    have hL := hT.1
    rw [f_X4_tellAll_L25, f_X8_text_L42, if_pos rfl, if_pos rfl]
    by_cases he : tk = 0
    · have z : to = 0 ∧ p = L ∧ q = L := by
        rcases hk with z | z | z | z
        · exact ⟨z.2.1, z.2.2⟩
        · rw [z.1] at he; exact absurd he (by decide)
        · rw [z.1] at he; exact absurd he (by decide)
        · rw [z.1] at he; exact absurd he (by decide)
      rw [if_pos he, if_pos z.1]
      refine ⟨c, 0, fp, tk, nI p, nI q, tn, ops, nR, fR, nO, fO, nL, fL, nC, fC, 0, ba, nI q, nI p, to, va, st, ?_, rfl, fun _ _ => rfl, by omega, Or.inl ⟨rfl, rfl, by rw [z.2.1], kR, kO, kL, kC, hW⟩⟩
      split <;> rfl
    · have z : ¬ to = 0 ∧ p < L := by
        rcases hk with z | z | z | z
        · exact absurd z.1 he
        · exact ⟨by rw [z.2.1]; decide, by omega⟩
        · exact ⟨by rw [z.2.1]; decide, by omega⟩
        · exact ⟨by rw [z.2.1]; decide, by omega⟩
      rw [if_neg (show ¬ (320 : Int32) ≤ nI c from fun y => by rw [le, nT (by omega)] at y; have : (320 : Int) ≤ c := y; omega), if_neg he, if_neg z.1]
      obtain ⟨ff1, fp1, tk1, tf1, tt1, tn1, ops1, nR1, fR1, nO1, fO1, nL1, fL1, nC1, fC1, br1, ba1, sp1, he1, to1, va1, S, e1, e2, e3, e4⟩ := line_e (fp := fp) (ops := ops) (ba := ba) hT hE hW h2 h3 hk
      rw [e1, e2, bq7]
      show ∃ _, _
      have q15 : ∀ {a1 a2 a3 a4 a5 a6 a7 a8 a9 a10 a11 a12 a13 a14 a15 b : Type} (x1 : a1) (x2 : a2) (x3 : a3) (x4 : a4) (x5 : a5) (x6 : a6) (x7 : a7) (x8 : a8) (x9 : a9) (x10 : a10) (x11 : a11) (x12 : a12) (x13 : a13) (x14 : a14) (x15 : a15) (k : a1 → a2 → a3 → a4 → a5 → a6 → a7 → a8 → a9 → a10 → a11 → a12 → a13 → a14 → a15 → Option b), bn15 (some (x1, x2, x3, x4, x5, x6, x7, x8, x9, x10, x11, x12, x13, x14, x15)) k = k x1 x2 x3 x4 x5 x6 x7 x8 x9 x10 x11 x12 x13 x14 x15 := fun _ _ _ _ _ _ _ _ _ _ _ _ _ _ _ _ => rfl
      rw [q15, nI_1]
      rcases e4 with ⟨y1, y2, ⟨p', q', y3, y4, y5, y6, y7, y8, y9, y10⟩, kR', kO', kL', kC', y11⟩ | ⟨y1, y2, y3, y4⟩
      · rw [y1, y2, y6, y7, y8, y9]
        obtain ⟨c', ff', fp', tk', tf', tt', tn', ops', nR', fR', nO', fO', nL', fL', nC', fC', br', ba', sp', he', to', va', st', g1, g2, g3, g4⟩ := txt_L hT hE n1 n2 (c + 1) p' q' fp1 tk1 tn1 ba1 to1 va1 ops1 S nR1 nO1 nL1 nC1 fR1 fO1 fL1 fC1 kR' kO' kL' kC' (by omega) y4 y5 (by omega) (by omega) y10 y11
        exact ⟨c', ff', fp', tk', tf', tt', tn', ops', nR', fR', nO', fO', nL', fL', nC', fC', br', ba', sp', he', to', va', st', g1, g2, fun j hj => by rw [g3 j hj, e3 j hj], g4⟩
      · have hne : ¬ ff1 = 0 := by rw [y2]; exact gt_ne y1
        obtain ⟨n3, rfl⟩ : ∃ n3, n1 = n3 + 1 := ⟨n1 - 1, by omega⟩
        obtain ⟨n4, rfl⟩ : ∃ n4, n2 = n4 + 1 := ⟨n2 - 1, by omega⟩
        rw [f_X4_tellAll_L25, f_X8_text_L42, if_neg hne, if_neg (gt_ne y1)]
        refine ⟨c + 1, ff1, fp1, tk1, tf1, tt1, tn1, ops1, nR1, fR1, nO1, fO1, nL1, fL1, nC1, fC1, br1, ba1, sp1, he1, to1, va1, S, ?_, rfl, e3, by omega, Or.inr ⟨y1, y2, y3, y4⟩⟩
        split
        · rfl
        · split <;> rfl
theorem cl8_L {y T ba sp he to va : Int32} : ∀ (n i : Nat) (st : Nat → Int32), i ≤ 300 → 300 - i < n → ∃ st', f_X8_text_L14 tape ends letters n y (nI i) T flt 0 ba sp he to va iw st kM = bn6 (f_X8_readsOn T 0 ba sp he to va tape) (fun a b c d e f => f_X8_text_L42 tape ends letters FUEL y T flt a b c d e f iw st' kM) ∧ (∀ j, i ≤ j → j < 300 → st' (1062 + j) = 0) ∧ ∀ j, j < 1062 + i → st' j = st j
  | 0, i, st, _, h2 => by omega
  | n + 1, i, st, h1, h2 => by
    rw [f_X8_text_L14]
    by_cases hi : i = 300
    · subst hi
      rw [if_pos (show (300 : Int32) ≤ nI 300 by decide)]
      exact ⟨st, rfl, fun v h3 h4 => by omega, fun _ _ => rfl⟩
    · rw [if_neg (show ¬ (300 : Int32) ≤ nI i from fun z => by rw [le, nT (by omega)] at z; have : (300 : Int) ≤ i := z; omega), show (1062 : Int32) + nI i = nI (1062 + i) from nI_add 1062 i, ckN (by omega) (by omega), nI_clamp (by omega), nI_1]
      obtain ⟨g, e, g1, g2⟩ := cl8_L (y := y) (T := T) (ba := ba) (sp := sp) (he := he) (to := to) (va := va) n (i + 1) (upd st (1062 + i) 0) (by omega) (by omega)
      refine ⟨g, e, fun v h3 h4 => ?_, fun v hv => by rw [g2 v (by omega), pk_un (by omega)]⟩
      by_cases q : v = i
      · subst q; rw [g2 _ (by omega), pk_us]
      · exact g1 v (by omega) h4
theorem cp8_L {y br ba sp he to va flt' : Int32} : ∀ (n i : Nat) (st : Nat → Int32), i ≤ 300 → 300 - i < n → ∃ st', f_X8_text_L119 tape ends letters n y (nI i) 0 flt' br ba sp he to va iw st kM = some (y, 0, flt', br, ba, sp, he, to, va, 0, st', upd (upd kM 0 0) 1 0) ∧ (∀ j, i ≤ j → j < 300 → st' j = st (1062 + j)) ∧ ∀ j, j < i ∨ 300 ≤ j → st' j = st j
  | 0, i, st, _, h2 => by omega
  | n + 1, i, st, h1, h2 => by
    rw [f_X8_text_L119]
    by_cases hi : i = 300
    · subst hi
      rw [if_pos (show (300 : Int32) ≤ nI 300 by decide), ckI (by decide) (by decide), ckI (by decide) (by decide)]
      exact ⟨st, rfl, fun v h3 h4 => by omega, fun _ _ => rfl⟩
    · rw [if_neg (show ¬ (300 : Int32) ≤ nI i from fun z => by rw [le, nT (by omega)] at z; have : (300 : Int) ≤ i := z; omega), show (1062 : Int32) + nI i = nI (1062 + i) from nI_add 1062 i, ckN (by omega) (by omega), ckN (by omega) (by omega), nI_clamp (by omega), nI_clamp (by omega), nI_1]
      obtain ⟨g, e, g1, g2⟩ := cp8_L (y := y) (br := br) (ba := ba) (sp := sp) (he := he) (to := to) (va := va) (flt' := flt') n (i + 1) (upd st i (st (1062 + i))) (by omega) (by omega)
      refine ⟨g, e, fun v h3 h4 => ?_, fun v hv => by rw [g2 v (by omega), pk_un (by omega)]⟩
      by_cases q : v = i
      · subst q; rw [g2 _ (by omega), pk_us]
      · rw [g1 v (by omega) h4, pk_un (by omega)]
end TEXTS
/-- the tables of a text become those of the world -/
theorem WT.now {dR dO dL dC : Int32} {eR eO eL eC : Nat → Int32} {st S : Nat → Int32} {kR kO kL kC : Nat} (h : WT dR eR dO eO dL eL dC eC S kR kO kL kC) (ha : Apt (fun j => S (1062 + j)) (fun j => S (1062 + (8 + j))) kR) {nR nO nL nC : Int32} {fR fO fL fC : Nat → Int32} {rg wd : Nat → Int32} {kR' kO' kL' kC' : Nat} (h0 : WR nR fR nO fO nL fL nC fC rg wd st kR' kO' kL' kC') {gR gO gL gC st' : Nat → Int32} (g1 : ∀ i, i < 24 → gR i = eR i) (g2 : ∀ i, i < 160 → gO i = eO i) (g3 : ∀ i, i < 80 → gL i = eL i) (g4 : ∀ i, i < 32 → gC i = eC i) (hc : ∀ j, j < 300 → st' j = S (1062 + j)) (ho : ∀ j, 300 ≤ j → j < 354 → st' j = st j) : WR dR gR dO gO dL gL dC gC rg wd st' kR kO kL kC := by
  obtain ⟨hk, hn, hs, hr, hop, hl, hca, hv1, hv3⟩ := h
  obtain ⟨-, -, -, -, -, -, -, hg, hw, -, -, -, hv4, hv5⟩ := h0
  have c : ∀ j a, a = 1062 + j → j < 300 → st' j = S a := fun j a e hj => by rw [e]; exact hc j hj
  refine ⟨hk, hn, ⟨?_, ?_, ?_, ?_⟩, fun r hr' => ?_, fun i hi b hb => ?_, fun i hi b hb => ?_, fun i hi b hb => ?_, fun u hu => ?_, fun i hi => ?_, fun r hr' => ?_, fun r hr' q hq => ?_, fun i hi => ?_, fun u hu => ?_, fun i hi => ?_⟩
  · rw [c 296 1358 rfl (by omega)]; exact hs.1
  · rw [c 297 1359 rfl (by omega)]; exact hs.2.1
  · rw [c 298 1360 rfl (by omega)]; exact hs.2.2.1
  · rw [c 299 1361 rfl (by omega)]; exact hs.2.2.2
  · rw [g1 _ (by omega), g1 _ (by omega), g1 _ (by omega), c r (1062 + r) rfl (by omega), c (8 + r) (1070 + r) (by omega) (by omega), c (16 + r) (1078 + r) (by omega) (by omega)]; exact hr r hr'
  · rw [g2 _ (by omega), c (24 + 40 * b + i) (1086 + 40 * b + i) (by omega) (by omega)]; exact hop i hi b hb
  · rw [g3 _ (by omega), c (184 + 5 * i + b) (1246 + 5 * i + b) (by omega) (by omega)]; exact hl i hi b hb
  · rw [g4 _ (by omega), c (264 + 2 * i + b) (1326 + 2 * i + b) (by omega) (by omega)]; exact hca i hi b hb
  · rw [ho _ (by omega) (by omega)]; exact hg u hu
  · rw [ho _ (by omega) (by omega)]; exact hw i hi
  · rw [c r (1062 + r) rfl (by omega), c (8 + r) (1070 + r) (by omega) (by omega), c (16 + r) (1078 + r) (by omega) (by omega)]; exact hv1 r hr'
  · rw [c (8 + q) (1062 + (8 + q)) rfl (by omega), c r (1062 + r) rfl (by omega), c (8 + r) (1062 + (8 + r)) rfl (by omega), c q (1062 + q) rfl (by omega)]; exact ha r hr' q hq
  · rw [c (24 + i) (1086 + i) (by omega) (by omega), c (64 + i) (1126 + i) (by omega) (by omega), c (104 + i) (1166 + i) (by omega) (by omega)]; exact hv3 i hi
  · rw [ho _ (by omega) (by omega)]; exact hv4 u hu
  · rw [ho _ (by omega) (by omega)]; exact hv5 i hi
