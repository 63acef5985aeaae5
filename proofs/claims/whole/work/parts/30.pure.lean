section WALK2
variable {nR : Int32} {fR : Nat → Int32} {nO : Int32} {fO : Nat → Int32} {nL : Int32} {fL : Nat → Int32} {nC' : Int32} {fC rg wd st : Nat → Int32} {kR kO kL kC : Nat}
theorem cnt_snoc (P : Nat → Bool) : ∀ (n i : Nat) (a : Int32), cnt P (n + 1) i a = if P (i + n) = true then cnt P n i a + 1 else cnt P n i a
  | 0, i, a => by rw [cnt, cnt, cnt, Nat.add_zero]
  | n + 1, i, a => by
    rw [cnt, cnt_snoc P n (i + 1), show i + 1 + n = i + (n + 1) by omega]
    rfl
theorem l59_end {n : Nat} {y lm fm e iw : Int32} {row la F cb lo ow : Nat → Int32} (he : ¬ e = -4) : f_X8_walk_L59 st (n + 1) y lm fm e iw row la F cb lo ow = some (fm, lm, fm, e, 1, row, la, F, cb, lo, ow) := by
  rw [f_X8_walk_L59, if_neg he]
theorem walk_L (h : WR nR fR nO fO nL fL nC' fC rg wd st kR kO kL kC) {y : Int32} (hy : y = 0 ∨ y = 1) {iw : Int32} : ∀ (n1 n2 k : Nat) (by_ ls gd en asz hs lm : Int32) (c as rs ow lo wy P Q row la F cb loM owM : Nat → Int32), k < 20 → 20 - k < n1 → 21 - k < n2 → WkR st kR k by_ ls gd rs ow lo wy F cb loM owM →
    ∃ r asz' c' as' tk' ls' sz' en' gd' rs' ow' lo' wy' hs' P' Q' lm' fm' iw' row' la' F' cb' loM' owM', f_X7_walk_L38 3 nR fR 4 nO fO 2 nC' fC rg wd n1 y (nI k) asz c as 1 ls (nI (k + 1)) en gd rs ow lo wy hs P Q = some (r, asz', c', as', tk', ls', sz', en', gd', rs', ow', lo', wy', hs', P', Q') ∧
      bn3 (f_X8_stands (nI k) by_ st F cb loM owM) (fun a b d => f_X8_walk_L59 st n2 y lm (nI (k + 1)) (-4) iw row la F a b d) = some (r, lm', fm', en', iw', row', la', F', cb', loM', owM') ∧ TrkR tk' sz' en' gd' rs' ow' lo' wy' fm' en' iw' F' cb' loM' owM'
  | 0, _, k, _, _, _, _, _, _, _, _, _, _, _, _, _, _, _, _, _, _, _, _, _, _, h2, _, _ => by omega
  | n1 + 1, 0, k, _, _, _, _, _, _, _, _, _, _, _, _, _, _, _, _, _, _, _, _, _, _, _, h3, _ => by omega
  | n1 + 1, n2 + 1, k, by_, ls, gd, en, asz, hs, lm, c, as, rs, ow, lo, wy, P, Q, row, la, F, cb, loM, owM, hk, h2, h3, hw => by
    obtain ⟨n3, rfl⟩ : ∃ n3, n2 = n3 + 1 := ⟨n2 - 1, by omega⟩
    obtain ⟨x, ls1, e1, e2, e3⟩ := look_e h hk hw
    obtain ⟨w1, w2, w3, w4, w5⟩ := hw
    generalize ho : own st (fun i => st (8 + i)) x kR 0 = o at e1 e2 e3
    rw [f_X7_walk_L38, if_neg (show ¬ (20 : Int32) ≤ nI k from fun z => by rw [le, nT (by omega)] at z; have : (20 : Int) ≤ k := z; omega), e1, bq3, e2, bq3]
    obtain ⟨e, w, asz1, c1, as1, lm1, row1, la1, F1, f1, f2, f3, f4⟩ := step_e h hk (rs := rs) (ow := upd ow k o) (lo := upd lo k x) (F := F) (loM := upd loM k x) (owM := upd owM k o) (x := x) (fun v hv => w1 k (by omega) v hv) (by rw [pk_us]; exact ho.symm) (by rw [pk_us]; exact ho.symm) (by rw [pk_us]) (by rw [pk_us]) asz lm c as row la
    rw [f1, f_X8_walk_L59, if_pos rfl, show nI (k + 1) - 1 = nI k from pk_sub (a := k + 1) (b := 1) (by omega), f2]
    show ∃ _, _
    have q4 : ∀ {α β γ δ ε : Type} (a : α) (b : β) (d : γ) (g : δ) (kk : α → β → γ → δ → Option ε), bn4 (some (a, b, d, g)) kk = kk a b d g := fun _ _ _ _ _ => rfl
    have q5 : ∀ {α β γ δ ε ζ : Type} (a : α) (b : β) (d : γ) (g : δ) (i : ε) (kk : α → β → γ → δ → ε → Option ζ), bn5 (some (a, b, d, g, i)) kk = kk a b d g i := fun _ _ _ _ _ _ => rfl
    rw [q4, q5]
    have TR : ∀ (e : Int32) (F' : Nat → Int32), (∀ j, j < 6 * k + 6 → F' j = F j) → TrkR 1 (nI (k + 1)) e gd rs (upd ow k o) (upd lo k x) wy (nI (k + 1)) e 1 F' (upd cb k by_) (upd loM k x) (upd owM k o) := by
      intro e F' hF'
      have hj : ∀ j, j < k + 1 → wy j = upd cb k by_ j := fun j hj => by
        by_cases q : j = k
        · subst q; rw [pk_us]; exact w3
        · rw [pk_un q]; exact (w2 j (by omega)).2.2
      refine Or.inr ⟨rfl, rfl, k + 1, by omega, by omega, rfl, rfl, rfl, ?_, fun j hj' => ⟨?_, ?_, hj j hj', fun v hv => ?_⟩⟩
      · rw [w5]
        exact cnt_cong _ _ _ (fun j _ hj' => by show decide (wy j = 2) = decide (upd cb k by_ j = 2); rw [hj j (by omega)])
      · by_cases q : j = k
        · subst q; rw [pk_us, pk_us]
        · rw [pk_un q, pk_un q]; exact (w2 j (by omega)).1
      · by_cases q : j = k
        · subst q; rw [pk_us, pk_us]
        · rw [pk_un q, pk_un q]; exact (w2 j (by omega)).2.1
      · rw [hF' _ (by omega)]; exact (w1 j (by omega) v hv).1
    -- the end, in both
    have fin : ∀ (e : Int32) (hs1 : Int32) (P1 Q1 F' : Nat → Int32), ¬ e = 5 → ¬ e = -4 → (∀ j, j < 6 * k + 6 → F' j = F j) →
        ∃ r asz' c' as' tk' ls' sz' en' gd' rs' ow' lo' wy' hs' P' Q' lm' fm' iw' row' la' F'' cb' loM' owM', f_X7_walk_b87 3 nR fR 4 nO fO 2 nC' fC rg wd (f_X7_walk_L38 3 nR fR 4 nO fO 2 nC' fC rg wd n1) y (nI k) e asz1 c1 as1 1 ls1 (nI (k + 1)) en gd rs (upd ow k o) (upd lo k x) wy hs1 P1 Q1 = some (r, asz', c', as', tk', ls', sz', en', gd', rs', ow', lo', wy', hs', P', Q') ∧
          f_X8_walk_b108 st (f_X8_walk_L59 st (n3 + 1)) y e 1 lm1 (nI (k + 1)) (-4) iw row1 la1 F' (upd cb k by_) (upd loM k x) (upd owM k o) = some (r, lm', fm', en', iw', row', la', F'', cb', loM', owM') ∧ TrkR tk' sz' en' gd' rs' ow' lo' wy' fm' en' iw' F'' cb' loM' owM' := by
      intro e hs1 P1 Q1 F' ne5 ne4 hF'
      unfold f_X7_walk_b87 f_X7_walk_b88 f_X8_walk_b108 f_X8_walk_b128 f_X8_walk_b129
      rw [if_neg ne5, if_pos rfl, if_neg ne4, if_neg ne4, l59_end ne4]
      exact ⟨_, _, _, _, _, _, _, _, _, _, _, _, _, _, _, _, _, _, _, _, _, _, _, _, _, rfl, rfl, TR e F' hF'⟩
    -- full, in both
    have full : ∀ (k0 y3 : Int32) (hs1 : Int32) (P1 Q1 F' : Nat → Int32), k + 1 = 20 → (∀ j, j < 6 * k + 6 → F' j = F j) →
        ∃ r asz' c' as' tk' ls' sz' en' gd' rs' ow' lo' wy' hs' P' Q' lm' fm' iw' row' la' F'' cb' loM' owM', f_X7_walk_b113 3 nR fR 4 nO fO 2 nC' fC rg wd (f_X7_walk_L38 3 nR fR 4 nO fO 2 nC' fC rg wd n1) y (nI k) k0 asz1 c1 as1 1 ls1 (nI (k + 1)) en gd rs (upd ow k o) (upd lo k x) wy hs1 P1 Q1 = some (r, asz', c', as', tk', ls', sz', en', gd', rs', ow', lo', wy', hs', P', Q') ∧
          f_X8_walk_b108 st (f_X8_walk_L59 st (n3 + 1)) y (-4) y3 lm1 (nI (k + 1)) (-4) iw row1 la1 F' (upd cb k by_) (upd loM k x) (upd owM k o) = some (r, lm', fm', en', iw', row', la', F'', cb', loM', owM') ∧ TrkR tk' sz' en' gd' rs' ow' lo' wy' fm' en' iw' F'' cb' loM' owM' := by
      intro k0 y3 hs1 P1 Q1 F' h20 hF'
      unfold f_X7_walk_b113 f_X8_walk_b108 f_X8_walk_b129
      rw [nI_1, if_neg (show ¬ nI (k + 1) < 20 from fun z => by rw [h20] at z; exact absurd z (by decide)), if_pos rfl, if_pos (show nI (k + 1) = 20 by rw [h20]; rfl), if_neg (show ¬ (4 : Int32) = -4 by decide), l59_end (by decide)]
      exact ⟨_, _, _, _, _, _, _, _, _, _, _, _, _, _, _, _, _, _, _, _, _, _, _, _, _, rfl, rfl, TR 4 F' hF'⟩
    have go8 : ∀ (y3 : Int32) (F' : Nat → Int32), k + 1 < 20 → f_X8_walk_b108 st (f_X8_walk_L59 st (n3 + 1)) y (-4) y3 lm1 (nI (k + 1)) (-4) iw row1 la1 F' (upd cb k by_) (upd loM k x) (upd owM k o) = bn3 (f_X8_stands (nI (k + 1)) y3 st F' (upd cb k by_) (upd loM k x) (upd owM k o)) (fun a b d => f_X8_walk_L59 st (n3 + 1) y lm1 (nI (k + 1 + 1)) (-4) iw row1 la1 F' a b d) := by
      intro y3 F' h20
      unfold f_X8_walk_b108 f_X8_walk_b128 f_X8_walk_b129
      rw [if_pos rfl, if_neg (show ¬ nI (k + 1) = 20 from fun z => by rw [ei, nT (by omega)] at z; have : ((k + 1 : Nat) : Int) = 20 := z; omega), if_pos rfl, nI_1]
    have gd1 : ∀ (y3 : Int32), cnt (fun j => decide (upd wy (k + 1) y3 j = 2)) (k + 1 + 1) 0 0 = if y3 = 2 then gd + 1 else gd := by
      intro y3
      rw [cnt_snoc, Nat.zero_add, pk_us, cnt_cong (Q := fun j => decide (wy j = 2)) (k + 1) 0 0 (fun j _ hj => by show decide (upd wy (k + 1) y3 j = 2) = decide (wy j = 2); rw [pk_un (by omega)]), ← w5]
      by_cases q : y3 = 2
      · rw [if_pos (decide_eq_true q), if_pos q]
      · rw [if_neg (by simp [q]), if_neg q]
    rcases f4 with ⟨g1, g2, g3, ⟨q, q1, q2⟩, b, g4, g5, g6, g7⟩ | ⟨g1, g2⟩
    · -- on by the row
      subst g1 g2
      rw [if_pos (show (-4 : Int32) ≤ 0 by decide)]
      have e7 : (if y = 0 then f_X7_walk_b87 3 nR fR 4 nO fO 2 nC' fC rg wd (f_X7_walk_L38 3 nR fR 4 nO fO 2 nC' fC rg wd n1) y (nI k) 5 asz1 c1 as1 1 ls1 (nI (k + 1)) en gd rs (upd ow k o) (upd lo k x) wy hs P Q else bn1 (f_X7_isGuessable 5) (fun r_175 => if r_175 = 0 then f_X7_walk_b87 3 nR fR 4 nO fO 2 nC' fC rg wd (f_X7_walk_L38 3 nR fR 4 nO fO 2 nC' fC rg wd n1) y (nI k) 5 asz1 c1 as1 1 ls1 (nI (k + 1)) en gd rs (upd ow k o) (upd lo k x) wy hs P Q else bn4 (f_X7_findGuesses (nI k) 3 nR fR 2 nC' fC wd (nI (k + 1)) rs (upd ow k o) hs P Q) (fun r_177 m_178 m_179 m_180 => if r_177 ≤ 0 then f_X7_walk_b87 3 nR fR 4 nO fO 2 nC' fC rg wd (f_X7_walk_L38 3 nR fR 4 nO fO 2 nC' fC rg wd n1) y (nI k) 5 asz1 c1 as1 1 ls1 (nI (k + 1)) en gd rs (upd ow k o) (upd lo k x) wy m_178 m_179 m_180 else f_X7_walk_b88 3 nR fR 4 nO fO 2 nC' fC rg wd (f_X7_walk_L38 3 nR fR 4 nO fO 2 nC' fC rg wd n1) y (nI k) 5 1 asz1 c1 as1 1 ls1 (nI (k + 1)) en gd rs (upd ow k o) (upd lo k x) wy m_178 m_179 m_180))) = f_X7_walk_b113 3 nR fR 4 nO fO 2 nC' fC rg wd (f_X7_walk_L38 3 nR fR 4 nO fO 2 nC' fC rg wd n1) y (nI k) 0 asz1 c1 as1 1 ls1 (nI (k + 1)) en gd rs (upd ow k o) (upd lo k x) wy hs P Q := by
        by_cases y0 : y = 0
        · rw [if_pos y0]; unfold f_X7_walk_b87 f_X7_walk_b88; rw [if_pos rfl]
        · rw [if_neg y0, show f_X7_isGuessable 5 = some 0 from rfl, bq1, if_pos rfl]; unfold f_X7_walk_b87 f_X7_walk_b88; rw [if_pos rfl]
      rw [e7]
      by_cases h20 : k + 1 = 20
      · exact full 0 1 hs P Q F1 h20 f3
      · rw [go8 1 F1 (by omega)]
        obtain ⟨rs', a1, a2, a3⟩ := abr_e (st := st) (F := F) (wd := wd) (ways := wy) (rs := rs) (show k + 1 < 20 by omega) g3 g4 g5 h.2.2.2.2.2.2.2.2.1 g6 (fun u hu => (w1 k (by omega) u hu).1)
        unfold f_X7_walk_b113
        rw [if_pos (show nI k + 1 < 20 by rw [nI_1, li, nT (by omega)]; show ((k + 1 : Nat) : Int) < 20; omega), if_pos rfl, a1, bq3, nI_1]
        refine walk_L h hy n1 (n3 + 1) (k + 1) 1 ls1 gd en asz1 hs lm1 c1 as1 rs' (upd ow k o) (upd lo k x) (upd wy (k + 1) 1) P Q row1 la1 F1 (upd cb k by_) (upd loM k x) (upd owM k o) (by omega) (by omega) (by omega) ⟨?_, ?_, ?_, ?_, ?_⟩
        · intro j hj v hv
          by_cases qj : j = k + 1
          · subst qj
            rw [a3 v hv, show 6 * (k + 1) + v = 6 * k + 6 + v by omega, g7 v hv]
            refine ⟨rfl, ?_⟩
            unfold NX
            have hb := w1 k (by omega) b (by omega)
            have ht : (F (6 * k + b) + row1 1).toInt = (F (6 * k + b)).toInt + (row1 1).toInt := addI (by have := g3.2.1; omega) (by have := g3.2.1; omega)
            by_cases v4 : v = 4
            · rw [if_pos v4, ht]; have := g3.2.1; omega
            · rw [if_neg v4]
              unfold CX
              rcases g3.2.2.1 v hv with z | z | z
              · rw [if_pos z.2.1]; have := w1 k (by omega) v hv; omega
              · rw [if_neg (by rw [z.2.1]; decide), if_pos z.2.1]
                have nb : 0 ≤ (F (6 * k + b) + row1 1 - row1 (8 + v)).toInt ∧ (F (6 * k + b) + row1 1 - row1 (8 + v)).toInt ≤ 47 := Classical.byContradiction fun y => (of_decide_eq_false (g6 v hv)) ⟨z.2.1, y⟩
                obtain ⟨u, hu, eu, euT⟩ := nOf nb.1
                rw [eu, nC (by omega)]
                have := h.2.2.2.2.2.2.2.2.2.2.2.2.2 u (by omega)
                omega
              · rw [if_neg (by rw [z.2.1]; decide), if_neg (by rw [z.2.1]; decide)]
                obtain ⟨u, hu, eu, euT⟩ := nOf z.2.2.2.1
                rw [eu, nC (by omega)]
                have := w1 k (by omega) u (by omega)
                omega
          · rw [a2 _ (by omega), f3 _ (by omega)]; exact w1 j (by omega) v hv
        · intro j hj
          by_cases qj : j = k
          · subst qj; rw [pk_us, pk_us, pk_us, pk_us, pk_us, pk_un (by omega)]; exact ⟨rfl, rfl, w3⟩
          · rw [pk_un qj, pk_un qj, pk_un qj, pk_un qj, pk_un qj, pk_un (by omega)]; exact w2 j (by omega)
        · rw [pk_us]
        · refine Or.inr (Or.inr ⟨by omega, rfl, q, q1, ?_, ?_⟩)
          · rw [show k + 1 - 1 = k by omega, pk_us, ← ho]; exact q2
          · exact e3 q q1 (ho ▸ q2)
        · rw [gd1 1, if_neg (by decide)]
    · -- it ends, or a guess helps
      subst g1
      have ne5 : ¬ e = 5 := by rcases g2 with z | z | z | z <;> (rw [z]; decide)
      have ne4 : ¬ e = -4 := by rcases g2 with z | z | z | z <;> (rw [z]; decide)
      by_cases z0 : e = 0
      · rw [if_pos (show e ≤ 0 by rw [z0]; decide)]
        by_cases y0 : y = 0
        · rw [if_pos y0]; exact fin e hs P Q F1 ne5 ne4 f3
        · rw [if_neg y0, show f_X7_isGuessable e = some 0 by rw [z0]; rfl, bq1, if_pos rfl]; exact fin e hs P Q F1 ne5 ne4 f3
      · have gs : f_X7_isGuessable e = some 1 := by
          rcases g2 with z | z | z | z
          · exact absurd z z0
          · rw [z]; rfl
          · rw [z]; rfl
          · rw [z]; rfl
        have pos : ¬ e ≤ 0 := by
          rcases g2 with z | z | z | z
          · exact absurd z z0
          · rw [z]; decide
          · rw [z]; decide
          · rw [z]; decide
        rw [if_neg pos]
        by_cases y0 : y = 0
        · rw [if_pos y0, if_neg (show ¬ y = 1 by rw [y0]; decide)]; exact fin e hs P Q F1 ne5 ne4 f3
        · have y1 : y = 1 := hy.resolve_left y0
          obtain ⟨hs', P', Q', F', a1, a2, a3⟩ := gues_e h hk (rs := rs) (ow := upd ow k o) (F := F) (owM := upd owM k o) (x := x) (fun v hv => w1 k (by omega) v hv) (by rw [pk_us]; exact ho.symm) (by rw [pk_us]; exact ho.symm) hs P Q F1 f3
          rw [if_neg y0, if_pos y1, gs, bq1, if_neg (show ¬ (1 : Int32) = 0 by decide), a1, q4]
          rcases a3 with ⟨s1, s2⟩ | ⟨s1, s2, wd', s3, s4, s5⟩
          · rw [if_pos (show hs' ≤ 0 by rw [s1]; decide), s2, bq2, if_pos rfl]
            exact fin e hs' P' Q' F' ne5 ne4 a2
          · rw [if_neg (show ¬ hs' ≤ 0 from fun z => by rw [le, l0] at z; omega), s2, bq2, if_neg (show ¬ (1 : Int32) = 0 by decide)]
            have e7 : f_X7_walk_b88 3 nR fR 4 nO fO 2 nC' fC rg wd (f_X7_walk_L38 3 nR fR 4 nO fO 2 nC' fC rg wd n1) y (nI k) e 1 asz1 c1 as1 1 ls1 (nI (k + 1)) en gd rs (upd ow k o) (upd lo k x) wy hs' P' Q' = f_X7_walk_b113 3 nR fR 4 nO fO 2 nC' fC rg wd (f_X7_walk_L38 3 nR fR 4 nO fO 2 nC' fC rg wd n1) y (nI k) 1 asz1 c1 as1 1 ls1 (nI (k + 1)) en gd rs (upd ow k o) (upd lo k x) wy hs' P' Q' := by
              unfold f_X7_walk_b88; rw [if_neg ne5, if_neg (show ¬ (1 : Int32) = 0 by decide)]
            rw [e7]
            by_cases h20 : k + 1 = 20
            · exact full 1 2 hs' P' Q' F' h20 a2
            · rw [go8 2 F' (by omega)]
              obtain ⟨rs', c1', c2', c3'⟩ := agu_e (st := st) (F := F) (w := wd') (ways := wy) (rs := rs) (gd := gd) (show k + 1 < 20 by omega) (fun u hu => (w1 k (by omega) u hu).1)
              unfold f_X7_walk_b113
              rw [if_pos (show nI k + 1 < 20 by rw [nI_1, li, nT (by omega)]; show ((k + 1 : Nat) : Int) < 20; omega), if_neg (show ¬ (1 : Int32) = 0 by decide), s4, bq1, ckN (by omega) (by omega), bq1, nC (by omega), h.2.2.2.2.2.2.2.2.1 wd' s3, c1', q4, nI_1]
              refine walk_L h hy n1 (n3 + 1) (k + 1) 2 ls1 (gd + 1) en asz1 hs' lm1 c1 as1 rs' (upd ow k o) (upd lo k x) (upd wy (k + 1) 2) P' Q' row1 la1 F' (upd cb k by_) (upd loM k x) (upd owM k o) (by omega) (by omega) (by omega) ⟨?_, ?_, ?_, ?_, ?_⟩
              · intro j hj v hv
                by_cases qj : j = k + 1
                · subst qj
                  rw [c3' v hv, show 6 * (k + 1) + v = 6 * k + 6 + v by omega, s5 v hv]
                  refine ⟨rfl, ?_⟩
                  unfold GX
                  by_cases v5 : v = 5
                  · rw [if_pos v5]
                    have := h.2.2.2.2.2.2.2.2.2.2.2.2.2 wd' s3
                    omega
                  · rw [if_neg v5]
                    by_cases v4 : v = 4
                    · rw [if_pos v4, nI_1, nT (by omega)]; omega
                    · rw [if_neg v4]; have := w1 k (by omega) v hv; omega
                · rw [c2' _ (by omega), a2 _ (by omega)]; exact w1 j (by omega) v hv
              · intro j hj
                by_cases qj : j = k
                · subst qj; rw [pk_us, pk_us, pk_us, pk_us, pk_us, pk_un (by omega)]; exact ⟨rfl, rfl, w3⟩
                · rw [pk_un qj, pk_un qj, pk_un qj, pk_un qj, pk_un qj, pk_un (by omega)]; exact w2 j (by omega)
              · rw [pk_us]
              · exact Or.inr (Or.inl ⟨by omega, rfl⟩)
              · rw [gd1 2, if_pos rfl]
end WALK2
