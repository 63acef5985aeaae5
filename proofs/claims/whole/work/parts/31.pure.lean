section WALK3
variable {nR : Int32} {fR : Nat → Int32} {nO : Int32} {fO : Nat → Int32} {nL : Int32} {fL : Nat → Int32} {nC' : Int32} {fC rg wd st : Nat → Int32} {kR kO kL kC : Nat}
theorem bgn_L {wy : Nat → Int32} : ∀ (n i : Nat) (rs : Nat → Int32), i ≤ 6 → 6 - i < n → ∃ rs', f_X5_begin_L27 6 rg n (nI i) 1 0 0 0 0 rs wy = some (1, 0, 1, 0, 0, rs', upd wy 0 0) ∧ (∀ v, i ≤ v → v < 6 → rs' v = rg v) ∧ ∀ v, v < i → rs' v = rs v
  | 0, i, rs, _, h2 => by omega
  | n + 1, i, rs, h1, h2 => by
    rw [f_X5_begin_L27]
    by_cases hi : i = 6
    · subst hi
      rw [if_pos (show (6 : Int32) ≤ nI 6 by decide)]
      exact ⟨rs, rfl, fun v h3 h4 => by omega, fun _ _ => rfl⟩
    · have ne : ¬ (6 : Int32) ≤ nI i := fun z => by rw [le, nT (by omega)] at z; have : (6 : Int) ≤ i := z; omega
      rw [if_neg ne, if_neg (show ¬ Int32.ofNat 6 ≤ nI i from ne), ckN (by omega) (by omega), ckN (by omega) (by omega), nC (by omega), nI_1]
      obtain ⟨g, e, g1, g2⟩ := bgn_L (wy := wy) n (i + 1) (upd rs i (rg i)) (by omega) (by omega)
      refine ⟨g, e, fun v h3 h4 => ?_, fun v hv => by rw [g2 v (by omega), pk_un (by omega)]⟩
      by_cases q : v = i
      · subst q; rw [g2 _ (by omega), pk_us]
      · exact g1 v (by omega) h4
theorem wk8_L {y lm fm en iw : Int32} {row la cb loM owM : Nat → Int32} : ∀ (n i : Nat) (F : Nat → Int32), i ≤ 6 → 6 - i < n → ∃ F', f_X8_walk_L14 st n y (nI i) lm fm en iw row la F cb loM owM = bn3 (f_X8_stands 0 0 st F' cb loM owM) (fun a b d => f_X8_walk_L59 st FUEL y lm 1 (-4) iw row la F' a b d) ∧ (∀ v, i ≤ v → v < 6 → F' v = st (300 + v)) ∧ ∀ v, v < i → F' v = F v
  | 0, i, F, _, h2 => by omega
  | n + 1, i, F, h1, h2 => by
    rw [f_X8_walk_L14]
    by_cases hi : i = 6
    · subst hi
      rw [if_pos (show (6 : Int32) ≤ nI 6 by decide)]
      exact ⟨F, rfl, fun v h3 h4 => by omega, fun _ _ => rfl⟩
    · rw [if_neg (show ¬ (6 : Int32) ≤ nI i from fun z => by rw [le, nT (by omega)] at z; have : (6 : Int) ≤ i := z; omega), show (300 : Int32) + nI i = nI (300 + i) from nI_add 300 i, ckN (by omega) (by omega), ckN (by omega) (by omega), nC (by omega), nC (by omega), nI_1]
      obtain ⟨g, e, g1, g2⟩ := wk8_L (y := y) (lm := lm) (fm := fm) (en := en) (iw := iw) (row := row) (la := la) (cb := cb) (loM := loM) (owM := owM) n (i + 1) (upd F i (st (300 + i))) (by omega) (by omega)
      refine ⟨g, e, fun v h3 h4 => ?_, fun v hv => by rw [g2 v (by omega), pk_un (by omega)]⟩
      by_cases q : v = i
      · subst q; rw [g2 _ (by omega), pk_us]
      · exact g1 v (by omega) h4
theorem p_walk (h : WR nR fR nO fO nL fL nC' fC rg wd st kR kO kL kC) {taken size ended guessed : Int32} {rs ow lo wy : Nat → Int32} {fm en iw : Int32} {F cb loM owM : Nat → Int32} (ht : TrkR taken size ended guessed rs ow lo wy fm en iw F cb loM owM) (x : Int32) (asz ls hs lm : Int32) (c as P Q row la : Nat → Int32) : ∃ r asz' c' as' tk' ls' sz' ed' gd' rs' ow' lo' wy' hs' P' Q' lm' fm' en' iw' row' la' F' cb' loM' owM', f_X7_walk x 3 nR fR 4 nO fO 2 nC' fC rg wd asz c as taken ls size ended guessed rs ow lo wy hs P Q = some (r, asz', c', as', tk', ls', sz', ed', gd', rs', ow', lo', wy', hs', P', Q') ∧ f_X8_walk x lm fm en iw st row la F cb loM owM = some (r, lm', fm', en', iw', row', la', F', cb', loM', owM') ∧ TrkR tk' sz' ed' gd' rs' ow' lo' wy' fm' en' iw' F' cb' loM' owM' := by
  unfold f_X7_walk f_X8_walk
  rw [in_t, bq1, ite01, tt]
  by_cases hx : 0 ≤ x.toInt ∧ x.toInt ≤ 1
  · rw [if_pos (show (0 : Int64).toInt ≤ x.toInt ∧ x.toInt ≤ (1 : Int64).toInt from hx)]
    have hx01 := im2 hx
    have e7 : (if x = 0 then f_X7_walk_b11 3 nR fR 4 nO fO 2 nC' fC rg wd x asz c as taken ls size ended guessed rs ow lo wy hs P Q else if x = 1 then f_X7_walk_b11 3 nR fR 4 nO fO 2 nC' fC rg wd x asz c as taken ls size ended guessed rs ow lo wy hs P Q else some (-1, asz, c, as, taken, ls, size, ended, guessed, rs, ow, lo, wy, hs, P, Q)) = f_X7_walk_b11 3 nR fR 4 nO fO 2 nC' fC rg wd x asz c as taken ls size ended guessed rs ow lo wy hs P Q := by
      rcases hx01 with z | z
      · rw [if_pos z]
      · rw [if_neg (by rw [z]; decide), if_pos z]
    rw [e7]
    unfold f_X7_walk_b11 f_X5_begin
    obtain ⟨rs1, a1, a2, -⟩ := bgn_L (rg := rg) (wy := wy) FUEL 0 rs (by omega) (by unfold FUEL; omega)
    obtain ⟨F1, b1, b2, -⟩ := wk8_L (st := st) (y := x) (lm := lm) (fm := fm) (en := en) (iw := iw) (row := row) (la := la) (cb := cb) (loM := loM) (owM := owM) FUEL 0 F (by omega) (by unfold FUEL; omega)
    rw [show f_X5_begin_L27 6 rg FUEL 0 1 0 0 0 0 rs wy = _ from a1, show f_X8_walk_L14 st FUEL x 0 lm fm en iw row la F cb loM owM = _ from b1]
    have q7 : ∀ {a1 a2 a3 a4 a5 a6 a7 b : Type} (x1 : a1) (x2 : a2) (x3 : a3) (x4 : a4) (x5 : a5) (x6 : a6) (x7 : a7) (kk : a1 → a2 → a3 → a4 → a5 → a6 → a7 → Option b), bn7 (some (x1, x2, x3, x4, x5, x6, x7)) kk = kk x1 x2 x3 x4 x5 x6 x7 := fun _ _ _ _ _ _ _ _ => rfl
    rw [q7]
    have wk : WkR st kR 0 0 0 0 rs1 ow lo (upd wy 0 0) F1 cb loM owM := by
      refine ⟨fun j hj v hv => ?_, fun j hj => by omega, by rw [pk_us], Or.inl ⟨rfl, rfl⟩, ?_⟩
      · have j0 : j = 0 := by omega
        subst j0
        rw [show 6 * 0 + v = v by omega, a2 v (by omega) hv, b2 v (by omega) hv, h.2.2.2.2.2.2.2.1 v hv]
        have := h.2.2.2.2.2.2.2.2.2.2.2.2.1 v hv
        exact ⟨rfl, this.1, by omega⟩
      · rw [cnt, cnt, pk_us]; rfl
    have e8 : ∀ y : Int32, (y = 0 ∨ y = 1) → x = y → ∃ r asz' c' as' tk' ls' sz' ed' gd' rs' ow' lo' wy' hs' P' Q' lm' fm' en' iw' row' la' F' cb' loM' owM', f_X7_walk_L38 3 nR fR 4 nO fO 2 nC' fC rg wd FUEL y 0 asz c as 1 0 1 0 0 rs1 ow lo (upd wy 0 0) hs P Q = some (r, asz', c', as', tk', ls', sz', ed', gd', rs', ow', lo', wy', hs', P', Q') ∧ bn3 (f_X8_stands 0 0 st F1 cb loM owM) (fun a b d => f_X8_walk_L59 st FUEL x lm 1 (-4) iw row la F1 a b d) = some (r, lm', fm', en', iw', row', la', F', cb', loM', owM') ∧ TrkR tk' sz' ed' gd' rs' ow' lo' wy' fm' en' iw' F' cb' loM' owM' := by
      intro y hy hxy
      subst hxy
      obtain ⟨r, asz', c', as', tk', ls', sz', en', gd', rs', ow', lo', wy', hs', P', Q', lm', fm', iw', row', la', F', cb', loM', owM', k1, k2, k3⟩ := walk_L h hy (iw := iw) FUEL FUEL 0 0 0 0 0 asz hs lm c as rs1 ow lo (upd wy 0 0) P Q row la F1 cb loM owM (by omega) (by unfold FUEL; omega) (by unfold FUEL; omega) wk
      exact ⟨r, asz', c', as', tk', ls', sz', en', gd', rs', ow', lo', wy', hs', P', Q', lm', fm', en', iw', row', la', F', cb', loM', owM', k1, k2, k3⟩
    rcases hx01 with z | z
    · rw [if_neg (show ¬ x = 1 by rw [z]; decide)]
      exact e8 0 (Or.inl rfl) z
    · rw [if_pos z]
      exact e8 1 (Or.inr rfl) z
  · rw [if_neg (show ¬ ((0 : Int64).toInt ≤ x.toInt ∧ x.toInt ≤ (1 : Int64).toInt) from hx), if_neg (show ¬ x = 0 from fun z => hx (by rw [z]; decide)), if_neg (show ¬ x = 1 from fun z => hx (by rw [z]; decide))]
    exact ⟨_, _, _, _, _, _, _, _, _, _, _, _, _, _, _, _, _, _, _, _, _, _, _, _, _, _, rfl, rfl, ht⟩
end WALK3
