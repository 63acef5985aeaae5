/-! read -/
theorem addW (x : Int32) {j : Nat} (hj : j ≤ 1000) : (x + nI j).toInt = x.toInt + j ∨ ((x + nI j).toInt < 0 ∧ 2147483648 ≤ x.toInt + j) := by
  have r := rg x
  by_cases h : x.toInt + j < 2147483648
  · exact Or.inl (by rw [addI (by rw [nT (by omega)]; omega) (by rw [nT (by omega)]; omega), nT (by omega)])
  · refine Or.inr ⟨?_, by omega⟩
    rw [Int32.toInt_add, nT (by omega)]
    simp only [Int.bmod]
    split <;> omega
theorem lgS (x : Int32) {j : Nat} (hj : j ≤ 1000) : (x.toInt64 + (nI j).toInt64).toInt = x.toInt + j := by
  have r := rg x
  rw [Int64.toInt_add, tt, tt, nT (by omega)]
  exact Int.bmod_eq_of_le (by omega) (by omega)
theorem lgT (x y : Int32) : (x.toInt64 + y.toInt64).toInt32 = x + y := by simp
def PS (st : Nat → Int32) (a : Nat) (cg : Nat → Int32) : Nat → Nat → Int32
  | 0 => st
  | t + 1 => upd (PS st a cg t) (306 + (a + t)) (cg t)
def PW (wd : Nat → Int32) (a : Nat) (cg : Nat → Int32) : Nat → Nat → Int32
  | 0 => wd
  | t + 1 => upd (PW wd a cg t) (a + t) (cg t)
theorem PS_cong {st : Nat → Int32} {a : Nat} {cg cg' : Nat → Int32} : ∀ (t : Nat), (∀ j, j < t → cg j = cg' j) → PS st a cg t = PS st a cg' t
  | 0, _ => rfl
  | t + 1, h => by rw [PS, PS, PS_cong t (fun j hj => h j (by omega)), h t (by omega)]
theorem PS_out {st : Nat → Int32} {a : Nat} {cg : Nat → Int32} : ∀ (t j : Nat), a + t ≤ 48 ∨ t = 0 → j < 306 ∨ 354 ≤ j → PS st a cg t j = st j
  | 0, _, _, _ => rfl
  | t + 1, j, h, hj => by rw [PS, pk_un (by omega), PS_out t j (by omega) hj]
theorem asi0_L {st : Nat → Int32} : ∀ (n i : Nat) (as : Nat → Int32), i ≤ 48 → 48 - i < n → ∃ as', f_X8_wordsAside_L2 n 0 (nI i) st as = some (st, as') ∧ (∀ w, i ≤ w → w < 48 → as' w = st (306 + w)) ∧ ∀ w, w < i → as' w = as w
  | 0, i, as, _, h2 => by omega
  | n + 1, i, as, h1, h2 => by
    rw [f_X8_wordsAside_L2]
    by_cases hi : i = 48
    · subst hi
      rw [if_pos (show (48 : Int32) ≤ nI 48 by decide)]
      exact ⟨as, rfl, fun v h3 h4 => by omega, fun _ _ => rfl⟩
    · rw [if_neg (show ¬ (48 : Int32) ≤ nI i from fun z => by rw [le, nT (by omega)] at z; have : (48 : Int) ≤ i := z; omega), if_pos rfl, show (306 : Int32) + nI i = nI (306 + i) from nI_add 306 i, ckN (by omega) (by omega), ckN (by omega) (by omega), nC (by omega), nC (by omega), nI_1]
      obtain ⟨g, e, g1, g2⟩ := asi0_L (st := st) n (i + 1) (upd as i (st (306 + i))) (by omega) (by omega)
      refine ⟨g, e, fun v h3 h4 => ?_, fun v hv => by rw [g2 v (by omega), pk_un (by omega)]⟩
      by_cases q : v = i
      · subst q; rw [g2 _ (by omega), pk_us]
      · exact g1 v (by omega) h4
theorem asi1_L {as : Nat → Int32} : ∀ (n i : Nat) (st : Nat → Int32), i ≤ 48 → 48 - i < n → ∃ st', f_X8_wordsAside_L2 n 1 (nI i) st as = some (st', as) ∧ (∀ w, i ≤ w → w < 48 → st' (306 + w) = as w) ∧ ∀ j, j < 306 + i ∨ 354 ≤ j → st' j = st j
  | 0, i, st, _, h2 => by omega
  | n + 1, i, st, h1, h2 => by
    rw [f_X8_wordsAside_L2]
    by_cases hi : i = 48
    · subst hi
      rw [if_pos (show (48 : Int32) ≤ nI 48 by decide)]
      exact ⟨st, rfl, fun v h3 h4 => by omega, fun _ _ => rfl⟩
    · rw [if_neg (show ¬ (48 : Int32) ≤ nI i from fun z => by rw [le, nT (by omega)] at z; have : (48 : Int) ≤ i := z; omega), if_neg (show ¬ (1 : Int32) = 0 by decide), show (306 : Int32) + nI i = nI (306 + i) from nI_add 306 i, ckN (by omega) (by omega), ckN (by omega) (by omega), nC (by omega), nC (by omega), nI_1]
      obtain ⟨g, e, g1, g2⟩ := asi1_L (as := as) n (i + 1) (upd st (306 + i) (as i)) (by omega) (by omega)
      refine ⟨g, e, fun v h3 h4 => ?_, fun v hv => by rw [g2 v (by omega), pk_un (by omega)]⟩
      by_cases q : v = i
      · subst q; rw [g2 _ (by omega), pk_us]
      · exact g1 v (by omega) h4
section READ
variable {th0 la0 sz0 th1 la1 sz1 th2 la2 sz2 th3 la3 sz3 : Int32} {ce0 ce1 ce2 ce3 lanes lengths cM : Nat → Int32}
theorem rd2_L {a m : Nat} (tw tb : Int32) (wd cg : Nat → Int32) (ha : a + m ≤ 48) (hm : m ≤ 40) : ∀ (n t : Nat), t ≤ m → m - t < n → f_X7_read_L130 th0 la0 sz0 ce0 th1 la1 sz1 ce1 th2 la2 sz2 ce2 th3 la3 sz3 ce3 n (nI a) tw (nI m) (nI t) tb (PW wd a cg t) cg = some (nI m, tw, PW wd a cg m, cg)
  | 0, t, _, h2 => by omega
  | n + 1, t, h1, h2 => by
    rw [f_X7_read_L130]
    by_cases ht : t = m
    · subst ht
      rw [if_pos (Int32.le_refl _)]
    · rw [if_neg (by rw [le, nT (by omega), nT (by omega)]; omega), nI_add, ckN (by omega) (by omega), ckN (by omega) (by omega), nC (by omega), nC (by omega), nI_1]
      exact rd2_L tw tb wd cg ha hm n (t + 1) (by omega) (by omega)
theorem rd20 (i tw tb : Int32) (wd cg : Nat → Int32) (n : Nat) : f_X7_read_L130 th0 la0 sz0 ce0 th1 la1 sz1 ce1 th2 la2 sz2 ce2 th3 la3 sz3 ce3 (n + 1) i tw 0 0 tb wd cg = some (0, tw, wd, cg) := by
  rw [f_X7_read_L130, if_pos (by decide)]
variable {nR : Int32} {fR : Nat → Int32} {nO : Int32} {fO : Nat → Int32} {nL : Int32} {fL : Nat → Int32} {nC' : Int32} {fC rg wd st : Nat → Int32} {kR kO kL kC : Nat}
theorem WR.pokes (h : WR nR fR nO fO nL fL nC' fC rg wd st kR kO kL kC) {a : Nat} {cg : Nat → Int32} : ∀ (t : Nat), a + t ≤ 48 ∨ t = 0 → (∀ j, j < t → 0 ≤ (cg j).toInt ∧ (cg j).toInt ≤ 9999) → WR nR fR nO fO nL fL nC' fC rg (PW wd a cg t) (PS st a cg t) kR kO kL kC
  | 0, _, _ => h
  | t + 1, ht, hc => by
    rw [PW, PS]
    exact (WR.pokes h t (by omega) (fun j hj => hc j (by omega))).poke (by omega) _ (hc t (by omega)).1 (hc t (by omega)).2

theorem rds0_L (h : WR nR fR nO fO nL fL nC' fC rg wd st kR kO kL kC) (hs : ShR 0 th0 la0 sz0 ce0 lanes lengths cM) (ln f i : Int32) (hln : 0 ≤ ln.toInt ∧ ln.toInt ≤ 2) {m a : Nat} (hm : m ≤ 40) (ha : a = i.toInt.toNat) (tb : Int32) {as : Nat → Int32} (has : ∀ w, w < 48 → as w = st (306 + w)) : ∀ (n1 n2 j : Nat) (cg : Nat → Int32), j ≤ m → m - j < n1 → m - j + 1 < n2 → (j = 0 ∨ (0 ≤ i.toInt ∧ i.toInt + j ≤ 48)) → (∀ t, t < j → 0 ≤ (cg t).toInt ∧ (cg t).toInt ≤ 9999) → ∃ r tb' wd' cg' st' as', f_X7_read_L45_s0 th0 la0 sz0 ce0 th1 la1 sz1 ce1 th2 la2 sz2 ce2 th3 la3 sz3 ce3 n1 ln f (nI m) i 0 (nI j) (nI j) tb wd cg = some (r, tb', wd', cg') ∧ f_X8_read_L50 lanes lengths cM n2 0 ln f (nI m) i 0 (nI j) tb (PS st a cg j) as = some (r, tb', st', as') ∧ WR nR fR nO fO nL fL nC' fC rg wd' st' kR kO kL kC ∧ ∀ q, 354 ≤ q → st' q = st q
  | 0, _, j, _, _, h2, _, _, _ => by omega
  | n1 + 1, 0, j, _, _, _, h3, _, _ => by omega
  | n1 + 1, n2 + 1, j, cg, h1, h2, h3, hi, hc => by
    obtain ⟨n3, rfl⟩ : ∃ n3, n2 = n3 + 1 := ⟨n2 - 1, by omega⟩
    have haj : a + j ≤ 48 ∨ j = 0 := by omega
    have l130 : ∀ tw : Int32, f_X7_read_L130 th0 la0 sz0 ce0 th1 la1 sz1 ce1 th2 la2 sz2 ce2 th3 la3 sz3 ce3 FUEL i tw (nI j) 0 tb wd cg = some (nI j, tw, PW wd a cg j, cg) := by
      intro tw
      rcases Nat.eq_zero_or_pos j with z | z
      · subst z; exact rd20 i tw tb wd cg 4095
      · have ei : i = nI a := by rw [ei, nT (by omega)]; omega
        rw [ei]
        exact rd2_L tw tb wd cg (by omega) (by omega) FUEL 0 (by omega) (by unfold FUEL; omega)
    have post : WR nR fR nO fO nL fL nC' fC rg (PW wd a cg j) (PS st a cg j) kR kO kL kC ∧ ∀ q, 354 ≤ q → PS st a cg j q = st q := ⟨h.pokes j haj hc, fun q hq => PS_out j q haj (Or.inr hq)⟩
    rw [f_X7_read_L45_s0, f_X8_read_L50]
    by_cases hjm : j = m
    · subst hjm
      rw [if_pos (Int32.le_refl _), if_pos (Int32.le_refl _), l130]
      exact ⟨_, _, _, _, _, _, rfl, rfl, post.1, post.2⟩
    · have ne : ¬ nI m ≤ nI j := by rw [le, nT (by omega), nT (by omega)]; omega
      have stop : ∀ w : Int32, ¬ w = 0 → f_X8_read_b122 lanes lengths cM (f_X8_read_L50 lanes lengths cM (n3 + 1)) 0 ln f (nI m) i (nI j) (f.toInt64 + (nI j).toInt64) w tb (PS st a cg j) as = some (nI j, w, PS st a cg j, as) := by
        intro w hw
        unfold f_X8_read_b122
        rw [if_neg hw, f_X8_read_L50, if_neg ne, if_neg hw]; rfl
      rw [if_neg ne, if_neg ne, if_pos rfl, ckI (x := 0) (n := 4) (by decide) (by decide), ckI (x := 0) (n := 4) (by decide) (by decide), ckI (x := 0) (n := 4) (by decide) (by decide), show lanes ((0 : Int32)).toNatClampNeg = lanes 0 from rfl, show lengths ((0 : Int32)).toNatClampNeg = lengths 0 from rfl]
      unfold f_X2_refusal
      rcases hs with ⟨z1, z2⟩ | ⟨z1, z2, z3, z4, z5, z6, z7, z8⟩
      · rw [if_pos z1, if_pos z2, bq1, if_neg (by decide), l130, stop 1 (by decide)]
        exact ⟨_, _, _, _, _, _, rfl, rfl, post.1, post.2⟩
      · rw [if_neg (show ¬ th0 = 0 by rw [z1]; decide), if_neg (show ¬ lanes 0 = -4 from fun z => by rw [z] at z4; exact absurd z4 (by decide))]
        by_cases cl : lanes 0 = ln
        · rw [if_pos (show ln = la0 by rw [z2]; exact cl.symm), if_pos cl, in_t, bq1, ite01, lgS f (by omega), tt, subI (by show _ ≤ (lengths 0).toInt - 1; omega) (by show (lengths 0).toInt - 1 < _; omega)]
          have af := addW f (show j ≤ 1000 by omega)
          have ai := addW i (show j ≤ 1000 by omega)
          by_cases cf : 0 ≤ f.toInt + j ∧ f.toInt + j < (lengths 0).toInt
          · have ef : (f + nI j).toInt = f.toInt + j := by omega
            obtain ⟨u, hu, eu, euT⟩ := nOf (x := f + nI j) (by omega)
            rw [if_pos (show (0 : Int64).toInt ≤ f.toInt + j ∧ f.toInt + j ≤ (lengths 0).toInt - (1 : Int32).toInt from ⟨cf.1, by show _ ≤ (lengths 0).toInt - 1; omega⟩), eu, if_neg (show ¬ nI u < 0 from fun z => by rw [li, l0, nT (by omega)] at z; omega), if_pos (show nI u < sz0 by rw [z3, li, nT (by omega)]; omega), bq1, if_pos rfl, ckN (n := u) (N := 40) (by omega) (by omega), nC (n := u) (by omega)]
            unfold f_X8_read_b122
            rw [if_pos rfl, lgT, eu, show ((40 : Int32) * 0) = nI 0 from rfl, nI_add, ckN (n := 0 + u) (N := 160) (by omega) (by omega), nC (n := 0 + u) (by omega), show cM (0 + u) = ce0 u from (z8 u (by omega)).symm]
            unfold f_X8_isPoked
            rw [in_t, bq1, ite01, lgS i (by omega), lgT, word_e, bq1, ite01]
            have hst : ∀ (q : Nat), PS st a cg j q = PS st a cg j q := fun _ => rfl
            have bad : ∃ st' as', bn2 (f_X8_wordsAside 1 (PS st a cg j) as) (fun m_99 m_100 => some ((-20 : Int32) - nI j, tb, m_99, m_100)) = some ((-20 : Int32) - nI j, tb, st', as') ∧ WR nR fR nO fO nL fL nC' fC rg wd st' kR kO kL kC ∧ ∀ q, 354 ≤ q → st' q = st q := by
              obtain ⟨s', g0, g1, g2⟩ := asi1_L (as := as) FUEL 0 (PS st a cg j) (by omega) (by unfold FUEL; omega)
              refine ⟨s', as, by rw [show f_X8_wordsAside 1 (PS st a cg j) as = _ from g0, bq2], h.frm (fun q hq => ?_), fun q hq => by rw [g2 q (Or.inr hq)]; exact post.2 q hq⟩
              by_cases hq2 : q < 306
              · rw [g2 q (by omega), PS_out j q haj (Or.inl hq2)]
              · obtain ⟨w, rfl⟩ : ∃ w, q = 306 + w := ⟨q - 306, by omega⟩
                rw [g1 w (by omega) (by omega), has w (by omega)]
            by_cases cw : 0 ≤ i.toInt + j ∧ i.toInt + j ≤ 47
            · have ew : (i + nI j).toInt = i.toInt + j := by omega
              rw [if_pos (show 0 ≤ (i + nI j).toInt ∧ (i + nI j).toInt ≤ 47 by omega), if_pos (show (0 : Int64).toInt ≤ i.toInt + j ∧ i.toInt + j ≤ (47 : Int64).toInt from cw), if_pos (show (0 : Int64).toInt ≤ i.toInt + j ∧ i.toInt + j ≤ (47 : Int64).toInt from cw), num_e, bq1, ite01]
              unfold f_X8_isPoked_b27
              have hpos : 0 ≤ i.toInt := by
                rcases hi with z | z
                · subst z; omega
                · exact z.1
              have eij : i + nI j = nI (a + j) := by rw [ei, nT (by omega)]; omega
              rw [eij, show (306 : Int32) + nI (a + j) = nI (306 + (a + j)) from nI_add 306 (a + j)]
              by_cases cn : 0 ≤ (ce0 u).toInt ∧ (ce0 u).toInt ≤ 9999
              · have b1 : f_X8_becomes 1 (nI (306 + (a + j))) (ce0 u) (PS st a cg j) = some (PS st a cg j (306 + (a + j)), upd (PS st a cg j) (306 + (a + j)) (ce0 u)) := bec_yes (c := True) (ce0 u) (PS st a cg j) (by omega) trivial cn.1 cn.2
                have hpv : 0 ≤ (PS st a cg j (306 + (a + j))).toInt := (post.1.2.2.2.2.2.2.2.2.2.2.2.2.2 (a + j) (by omega)).1
                rw [if_pos cn, ckN (n := j) (N := 40) (by omega) (by omega), nC (n := j) (by omega), b1, bq2, if_neg (show ¬ PS st a cg j (306 + (a + j)) < 0 from fun z => by rw [li, l0] at z; omega), bq2, if_neg (show ¬ (1 : Int32) = 0 by decide), nI_1]
                have key : upd (PS st a cg j) (306 + (a + j)) (ce0 u) = PS st a (upd cg j (ce0 u)) (j + 1) := by
                  rw [PS, pk_us, PS_cong (cg := upd cg j (ce0 u)) (cg' := cg) j (fun t ht => pk_un (by omega))]
                rw [key]
                exact rds0_L h (Or.inr ⟨z1, z2, z3, z4, z5, z6, z7, z8⟩) ln f i hln hm ha tb has n1 (n3 + 1) (j + 1) (upd cg j (ce0 u)) (by omega) (by omega) (by omega) (Or.inr ⟨hpos, by omega⟩) (fun t ht => by
                  by_cases q : t = j
                  · subst q; rw [pk_us]; exact cn
                  · rw [pk_un q]; exact hc t (by omega))
              · have b0 : f_X8_becomes 1 (nI (306 + (a + j))) (ce0 u) (PS st a cg j) = some (-1, PS st a cg j) := bec_no (c := True) _ _ _ (fun z => cn z.2)
                obtain ⟨st', as', g1, g2, g3⟩ := bad
                rw [if_neg cn, b0, bq2, if_pos (show (-1 : Int32) < 0 by decide), bq2, if_pos rfl, g1]
                exact ⟨_, _, _, _, _, _, rfl, rfl, g2, g3⟩
            · rw [if_neg (show ¬ (0 ≤ (i + nI j).toInt ∧ (i + nI j).toInt ≤ 47) by omega), if_neg (show ¬ ((0 : Int64).toInt ≤ i.toInt + j ∧ i.toInt + j ≤ (47 : Int64).toInt) from cw), if_neg (show ¬ ((0 : Int64).toInt ≤ i.toInt + j ∧ i.toInt + j ≤ (47 : Int64).toInt) from cw)]
              unfold f_X8_isPoked_b27
              have b0 : f_X8_becomes 0 ((306 : Int32) + 0) (ce0 u) (PS st a cg j) = some (-1, PS st a cg j) := bec_no (c := False) _ _ _ (fun z => z.1)
              obtain ⟨st', as', g1, g2, g3⟩ := bad
              rw [b0, bq2, if_pos (show (-1 : Int32) < 0 by decide), bq2, if_pos rfl, g1]
              exact ⟨_, _, _, _, _, _, rfl, rfl, g2, g3⟩
          · rw [if_neg (show ¬ ((0 : Int64).toInt ≤ f.toInt + j ∧ f.toInt + j ≤ (lengths 0).toInt - (1 : Int32).toInt) from fun z => cf ⟨z.1, by have : f.toInt + j ≤ (lengths 0).toInt - 1 := z.2; omega⟩)]
            have e2 : (if f + nI j < 0 then some (2 : Int32) else if f + nI j < sz0 then some 0 else some 2) = some 2 := by
              by_cases q : (f + nI j).toInt < 0
              · rw [if_pos (show f + nI j < 0 by rw [li, l0]; exact q)]
              · rw [if_neg (show ¬ f + nI j < 0 from fun z => q (by rw [li, l0] at z; exact z)), if_neg (show ¬ f + nI j < sz0 from fun z => by rw [z3, li] at z; omega)]
            rw [e2, bq1, if_neg (by decide), l130, stop 2 (by decide)]
            exact ⟨_, _, _, _, _, _, rfl, rfl, post.1, post.2⟩
        · rw [if_neg (show ¬ ln = la0 from fun z => cl (by rw [z, z2])), if_neg cl, bq1, if_neg (by decide), l130, stop 3 (by decide)]
          exact ⟨_, _, _, _, _, _, rfl, rfl, post.1, post.2⟩

theorem rds1_L (h : WR nR fR nO fO nL fL nC' fC rg wd st kR kO kL kC) (hs : ShR 1 th1 la1 sz1 ce1 lanes lengths cM) (ln f i : Int32) (hln : 0 ≤ ln.toInt ∧ ln.toInt ≤ 2) {m a : Nat} (hm : m ≤ 40) (ha : a = i.toInt.toNat) (tb : Int32) {as : Nat → Int32} (has : ∀ w, w < 48 → as w = st (306 + w)) : ∀ (n1 n2 j : Nat) (cg : Nat → Int32), j ≤ m → m - j < n1 → m - j + 1 < n2 → (j = 0 ∨ (0 ≤ i.toInt ∧ i.toInt + j ≤ 48)) → (∀ t, t < j → 0 ≤ (cg t).toInt ∧ (cg t).toInt ≤ 9999) → ∃ r tb' wd' cg' st' as', f_X7_read_L45_s1 th0 la0 sz0 ce0 th1 la1 sz1 ce1 th2 la2 sz2 ce2 th3 la3 sz3 ce3 n1 ln f (nI m) i 0 (nI j) (nI j) tb wd cg = some (r, tb', wd', cg') ∧ f_X8_read_L50 lanes lengths cM n2 1 ln f (nI m) i 0 (nI j) tb (PS st a cg j) as = some (r, tb', st', as') ∧ WR nR fR nO fO nL fL nC' fC rg wd' st' kR kO kL kC ∧ ∀ q, 354 ≤ q → st' q = st q
  | 0, _, j, _, _, h2, _, _, _ => by omega
  | n1 + 1, 0, j, _, _, _, h3, _, _ => by omega
  | n1 + 1, n2 + 1, j, cg, h1, h2, h3, hi, hc => by
    obtain ⟨n3, rfl⟩ : ∃ n3, n2 = n3 + 1 := ⟨n2 - 1, by omega⟩
    have haj : a + j ≤ 48 ∨ j = 0 := by omega
    have l130 : ∀ tw : Int32, f_X7_read_L130 th0 la0 sz0 ce0 th1 la1 sz1 ce1 th2 la2 sz2 ce2 th3 la3 sz3 ce3 FUEL i tw (nI j) 0 tb wd cg = some (nI j, tw, PW wd a cg j, cg) := by
      intro tw
      rcases Nat.eq_zero_or_pos j with z | z
      · subst z; exact rd20 i tw tb wd cg 4095
      · have ei : i = nI a := by rw [ei, nT (by omega)]; omega
        rw [ei]
        exact rd2_L tw tb wd cg (by omega) (by omega) FUEL 0 (by omega) (by unfold FUEL; omega)
    have post : WR nR fR nO fO nL fL nC' fC rg (PW wd a cg j) (PS st a cg j) kR kO kL kC ∧ ∀ q, 354 ≤ q → PS st a cg j q = st q := ⟨h.pokes j haj hc, fun q hq => PS_out j q haj (Or.inr hq)⟩
    rw [f_X7_read_L45_s1, f_X8_read_L50]
    by_cases hjm : j = m
    · subst hjm
      rw [if_pos (Int32.le_refl _), if_pos (Int32.le_refl _), l130]
      exact ⟨_, _, _, _, _, _, rfl, rfl, post.1, post.2⟩
    · have ne : ¬ nI m ≤ nI j := by rw [le, nT (by omega), nT (by omega)]; omega
      have stop : ∀ w : Int32, ¬ w = 0 → f_X8_read_b122 lanes lengths cM (f_X8_read_L50 lanes lengths cM (n3 + 1)) 1 ln f (nI m) i (nI j) (f.toInt64 + (nI j).toInt64) w tb (PS st a cg j) as = some (nI j, w, PS st a cg j, as) := by
        intro w hw
        unfold f_X8_read_b122
        rw [if_neg hw, f_X8_read_L50, if_neg ne, if_neg hw]; rfl
      rw [if_neg ne, if_neg ne, if_pos rfl, ckI (x := 1) (n := 4) (by decide) (by decide), ckI (x := 1) (n := 4) (by decide) (by decide), ckI (x := 1) (n := 4) (by decide) (by decide), show lanes ((1 : Int32)).toNatClampNeg = lanes 1 from rfl, show lengths ((1 : Int32)).toNatClampNeg = lengths 1 from rfl]
      unfold f_X2_refusal
      rcases hs with ⟨z1, z2⟩ | ⟨z1, z2, z3, z4, z5, z6, z7, z8⟩
      · rw [if_pos z1, if_pos z2, bq1, if_neg (by decide), l130, stop 1 (by decide)]
        exact ⟨_, _, _, _, _, _, rfl, rfl, post.1, post.2⟩
      · rw [if_neg (show ¬ th1 = 0 by rw [z1]; decide), if_neg (show ¬ lanes 1 = -4 from fun z => by rw [z] at z4; exact absurd z4 (by decide))]
        by_cases cl : lanes 1 = ln
        · rw [if_pos (show ln = la1 by rw [z2]; exact cl.symm), if_pos cl, in_t, bq1, ite01, lgS f (by omega), tt, subI (by show _ ≤ (lengths 1).toInt - 1; omega) (by show (lengths 1).toInt - 1 < _; omega)]
          have af := addW f (show j ≤ 1000 by omega)
          have ai := addW i (show j ≤ 1000 by omega)
          by_cases cf : 0 ≤ f.toInt + j ∧ f.toInt + j < (lengths 1).toInt
          · have ef : (f + nI j).toInt = f.toInt + j := by omega
            obtain ⟨u, hu, eu, euT⟩ := nOf (x := f + nI j) (by omega)
            rw [if_pos (show (0 : Int64).toInt ≤ f.toInt + j ∧ f.toInt + j ≤ (lengths 1).toInt - (1 : Int32).toInt from ⟨cf.1, by show _ ≤ (lengths 1).toInt - 1; omega⟩), eu, if_neg (show ¬ nI u < 0 from fun z => by rw [li, l0, nT (by omega)] at z; omega), if_pos (show nI u < sz1 by rw [z3, li, nT (by omega)]; omega), bq1, if_pos rfl, ckN (n := u) (N := 40) (by omega) (by omega), nC (n := u) (by omega)]
            unfold f_X8_read_b122
            rw [if_pos rfl, lgT, eu, show ((40 : Int32) * 1) = nI 40 from rfl, nI_add, ckN (n := 40 + u) (N := 160) (by omega) (by omega), nC (n := 40 + u) (by omega), show cM (40 + u) = ce1 u from (z8 u (by omega)).symm]
            unfold f_X8_isPoked
            rw [in_t, bq1, ite01, lgS i (by omega), lgT, word_e, bq1, ite01]
            have hst : ∀ (q : Nat), PS st a cg j q = PS st a cg j q := fun _ => rfl
            have bad : ∃ st' as', bn2 (f_X8_wordsAside 1 (PS st a cg j) as) (fun m_99 m_100 => some ((-20 : Int32) - nI j, tb, m_99, m_100)) = some ((-20 : Int32) - nI j, tb, st', as') ∧ WR nR fR nO fO nL fL nC' fC rg wd st' kR kO kL kC ∧ ∀ q, 354 ≤ q → st' q = st q := by
              obtain ⟨s', g0, g1, g2⟩ := asi1_L (as := as) FUEL 0 (PS st a cg j) (by omega) (by unfold FUEL; omega)
              refine ⟨s', as, by rw [show f_X8_wordsAside 1 (PS st a cg j) as = _ from g0, bq2], h.frm (fun q hq => ?_), fun q hq => by rw [g2 q (Or.inr hq)]; exact post.2 q hq⟩
              by_cases hq2 : q < 306
              · rw [g2 q (by omega), PS_out j q haj (Or.inl hq2)]
              · obtain ⟨w, rfl⟩ : ∃ w, q = 306 + w := ⟨q - 306, by omega⟩
                rw [g1 w (by omega) (by omega), has w (by omega)]
            by_cases cw : 0 ≤ i.toInt + j ∧ i.toInt + j ≤ 47
            · have ew : (i + nI j).toInt = i.toInt + j := by omega
              rw [if_pos (show 0 ≤ (i + nI j).toInt ∧ (i + nI j).toInt ≤ 47 by omega), if_pos (show (0 : Int64).toInt ≤ i.toInt + j ∧ i.toInt + j ≤ (47 : Int64).toInt from cw), if_pos (show (0 : Int64).toInt ≤ i.toInt + j ∧ i.toInt + j ≤ (47 : Int64).toInt from cw), num_e, bq1, ite01]
              unfold f_X8_isPoked_b27
              have hpos : 0 ≤ i.toInt := by
                rcases hi with z | z
                · subst z; omega
                · exact z.1
              have eij : i + nI j = nI (a + j) := by rw [ei, nT (by omega)]; omega
              rw [eij, show (306 : Int32) + nI (a + j) = nI (306 + (a + j)) from nI_add 306 (a + j)]
              by_cases cn : 0 ≤ (ce1 u).toInt ∧ (ce1 u).toInt ≤ 9999
              · have b1 : f_X8_becomes 1 (nI (306 + (a + j))) (ce1 u) (PS st a cg j) = some (PS st a cg j (306 + (a + j)), upd (PS st a cg j) (306 + (a + j)) (ce1 u)) := bec_yes (c := True) (ce1 u) (PS st a cg j) (by omega) trivial cn.1 cn.2
                have hpv : 0 ≤ (PS st a cg j (306 + (a + j))).toInt := (post.1.2.2.2.2.2.2.2.2.2.2.2.2.2 (a + j) (by omega)).1
                rw [if_pos cn, ckN (n := j) (N := 40) (by omega) (by omega), nC (n := j) (by omega), b1, bq2, if_neg (show ¬ PS st a cg j (306 + (a + j)) < 0 from fun z => by rw [li, l0] at z; omega), bq2, if_neg (show ¬ (1 : Int32) = 0 by decide), nI_1]
                have key : upd (PS st a cg j) (306 + (a + j)) (ce1 u) = PS st a (upd cg j (ce1 u)) (j + 1) := by
                  rw [PS, pk_us, PS_cong (cg := upd cg j (ce1 u)) (cg' := cg) j (fun t ht => pk_un (by omega))]
                rw [key]
                exact rds1_L h (Or.inr ⟨z1, z2, z3, z4, z5, z6, z7, z8⟩) ln f i hln hm ha tb has n1 (n3 + 1) (j + 1) (upd cg j (ce1 u)) (by omega) (by omega) (by omega) (Or.inr ⟨hpos, by omega⟩) (fun t ht => by
                  by_cases q : t = j
                  · subst q; rw [pk_us]; exact cn
                  · rw [pk_un q]; exact hc t (by omega))
              · have b0 : f_X8_becomes 1 (nI (306 + (a + j))) (ce1 u) (PS st a cg j) = some (-1, PS st a cg j) := bec_no (c := True) _ _ _ (fun z => cn z.2)
                obtain ⟨st', as', g1, g2, g3⟩ := bad
                rw [if_neg cn, b0, bq2, if_pos (show (-1 : Int32) < 0 by decide), bq2, if_pos rfl, g1]
                exact ⟨_, _, _, _, _, _, rfl, rfl, g2, g3⟩
            · rw [if_neg (show ¬ (0 ≤ (i + nI j).toInt ∧ (i + nI j).toInt ≤ 47) by omega), if_neg (show ¬ ((0 : Int64).toInt ≤ i.toInt + j ∧ i.toInt + j ≤ (47 : Int64).toInt) from cw), if_neg (show ¬ ((0 : Int64).toInt ≤ i.toInt + j ∧ i.toInt + j ≤ (47 : Int64).toInt) from cw)]
              unfold f_X8_isPoked_b27
              have b0 : f_X8_becomes 0 ((306 : Int32) + 0) (ce1 u) (PS st a cg j) = some (-1, PS st a cg j) := bec_no (c := False) _ _ _ (fun z => z.1)
              obtain ⟨st', as', g1, g2, g3⟩ := bad
              rw [b0, bq2, if_pos (show (-1 : Int32) < 0 by decide), bq2, if_pos rfl, g1]
              exact ⟨_, _, _, _, _, _, rfl, rfl, g2, g3⟩
          · rw [if_neg (show ¬ ((0 : Int64).toInt ≤ f.toInt + j ∧ f.toInt + j ≤ (lengths 1).toInt - (1 : Int32).toInt) from fun z => cf ⟨z.1, by have : f.toInt + j ≤ (lengths 1).toInt - 1 := z.2; omega⟩)]
            have e2 : (if f + nI j < 0 then some (2 : Int32) else if f + nI j < sz1 then some 0 else some 2) = some 2 := by
              by_cases q : (f + nI j).toInt < 0
              · rw [if_pos (show f + nI j < 0 by rw [li, l0]; exact q)]
              · rw [if_neg (show ¬ f + nI j < 0 from fun z => q (by rw [li, l0] at z; exact z)), if_neg (show ¬ f + nI j < sz1 from fun z => by rw [z3, li] at z; omega)]
            rw [e2, bq1, if_neg (by decide), l130, stop 2 (by decide)]
            exact ⟨_, _, _, _, _, _, rfl, rfl, post.1, post.2⟩
        · rw [if_neg (show ¬ ln = la1 from fun z => cl (by rw [z, z2])), if_neg cl, bq1, if_neg (by decide), l130, stop 3 (by decide)]
          exact ⟨_, _, _, _, _, _, rfl, rfl, post.1, post.2⟩

theorem rds2_L (h : WR nR fR nO fO nL fL nC' fC rg wd st kR kO kL kC) (hs : ShR 2 th2 la2 sz2 ce2 lanes lengths cM) (ln f i : Int32) (hln : 0 ≤ ln.toInt ∧ ln.toInt ≤ 2) {m a : Nat} (hm : m ≤ 40) (ha : a = i.toInt.toNat) (tb : Int32) {as : Nat → Int32} (has : ∀ w, w < 48 → as w = st (306 + w)) : ∀ (n1 n2 j : Nat) (cg : Nat → Int32), j ≤ m → m - j < n1 → m - j + 1 < n2 → (j = 0 ∨ (0 ≤ i.toInt ∧ i.toInt + j ≤ 48)) → (∀ t, t < j → 0 ≤ (cg t).toInt ∧ (cg t).toInt ≤ 9999) → ∃ r tb' wd' cg' st' as', f_X7_read_L45_s2 th0 la0 sz0 ce0 th1 la1 sz1 ce1 th2 la2 sz2 ce2 th3 la3 sz3 ce3 n1 ln f (nI m) i 0 (nI j) (nI j) tb wd cg = some (r, tb', wd', cg') ∧ f_X8_read_L50 lanes lengths cM n2 2 ln f (nI m) i 0 (nI j) tb (PS st a cg j) as = some (r, tb', st', as') ∧ WR nR fR nO fO nL fL nC' fC rg wd' st' kR kO kL kC ∧ ∀ q, 354 ≤ q → st' q = st q
  | 0, _, j, _, _, h2, _, _, _ => by omega
  | n1 + 1, 0, j, _, _, _, h3, _, _ => by omega
  | n1 + 1, n2 + 1, j, cg, h1, h2, h3, hi, hc => by
    obtain ⟨n3, rfl⟩ : ∃ n3, n2 = n3 + 1 := ⟨n2 - 1, by omega⟩
    have haj : a + j ≤ 48 ∨ j = 0 := by omega
    have l130 : ∀ tw : Int32, f_X7_read_L130 th0 la0 sz0 ce0 th1 la1 sz1 ce1 th2 la2 sz2 ce2 th3 la3 sz3 ce3 FUEL i tw (nI j) 0 tb wd cg = some (nI j, tw, PW wd a cg j, cg) := by
      intro tw
      rcases Nat.eq_zero_or_pos j with z | z
      · subst z; exact rd20 i tw tb wd cg 4095
      · have ei : i = nI a := by rw [ei, nT (by omega)]; omega
        rw [ei]
        exact rd2_L tw tb wd cg (by omega) (by omega) FUEL 0 (by omega) (by unfold FUEL; omega)
    have post : WR nR fR nO fO nL fL nC' fC rg (PW wd a cg j) (PS st a cg j) kR kO kL kC ∧ ∀ q, 354 ≤ q → PS st a cg j q = st q := ⟨h.pokes j haj hc, fun q hq => PS_out j q haj (Or.inr hq)⟩
    rw [f_X7_read_L45_s2, f_X8_read_L50]
    by_cases hjm : j = m
    · subst hjm
      rw [if_pos (Int32.le_refl _), if_pos (Int32.le_refl _), l130]
      exact ⟨_, _, _, _, _, _, rfl, rfl, post.1, post.2⟩
    · have ne : ¬ nI m ≤ nI j := by rw [le, nT (by omega), nT (by omega)]; omega
      have stop : ∀ w : Int32, ¬ w = 0 → f_X8_read_b122 lanes lengths cM (f_X8_read_L50 lanes lengths cM (n3 + 1)) 2 ln f (nI m) i (nI j) (f.toInt64 + (nI j).toInt64) w tb (PS st a cg j) as = some (nI j, w, PS st a cg j, as) := by
        intro w hw
        unfold f_X8_read_b122
        rw [if_neg hw, f_X8_read_L50, if_neg ne, if_neg hw]; rfl
      rw [if_neg ne, if_neg ne, if_pos rfl, ckI (x := 2) (n := 4) (by decide) (by decide), ckI (x := 2) (n := 4) (by decide) (by decide), ckI (x := 2) (n := 4) (by decide) (by decide), show lanes ((2 : Int32)).toNatClampNeg = lanes 2 from rfl, show lengths ((2 : Int32)).toNatClampNeg = lengths 2 from rfl]
      unfold f_X2_refusal
      rcases hs with ⟨z1, z2⟩ | ⟨z1, z2, z3, z4, z5, z6, z7, z8⟩
      · rw [if_pos z1, if_pos z2, bq1, if_neg (by decide), l130, stop 1 (by decide)]
        exact ⟨_, _, _, _, _, _, rfl, rfl, post.1, post.2⟩
      · rw [if_neg (show ¬ th2 = 0 by rw [z1]; decide), if_neg (show ¬ lanes 2 = -4 from fun z => by rw [z] at z4; exact absurd z4 (by decide))]
        by_cases cl : lanes 2 = ln
        · rw [if_pos (show ln = la2 by rw [z2]; exact cl.symm), if_pos cl, in_t, bq1, ite01, lgS f (by omega), tt, subI (by show _ ≤ (lengths 2).toInt - 1; omega) (by show (lengths 2).toInt - 1 < _; omega)]
          have af := addW f (show j ≤ 1000 by omega)
          have ai := addW i (show j ≤ 1000 by omega)
          by_cases cf : 0 ≤ f.toInt + j ∧ f.toInt + j < (lengths 2).toInt
          · have ef : (f + nI j).toInt = f.toInt + j := by omega
            obtain ⟨u, hu, eu, euT⟩ := nOf (x := f + nI j) (by omega)
            rw [if_pos (show (0 : Int64).toInt ≤ f.toInt + j ∧ f.toInt + j ≤ (lengths 2).toInt - (1 : Int32).toInt from ⟨cf.1, by show _ ≤ (lengths 2).toInt - 1; omega⟩), eu, if_neg (show ¬ nI u < 0 from fun z => by rw [li, l0, nT (by omega)] at z; omega), if_pos (show nI u < sz2 by rw [z3, li, nT (by omega)]; omega), bq1, if_pos rfl, ckN (n := u) (N := 40) (by omega) (by omega), nC (n := u) (by omega)]
            unfold f_X8_read_b122
            rw [if_pos rfl, lgT, eu, show ((40 : Int32) * 2) = nI 80 from rfl, nI_add, ckN (n := 80 + u) (N := 160) (by omega) (by omega), nC (n := 80 + u) (by omega), show cM (80 + u) = ce2 u from (z8 u (by omega)).symm]
            unfold f_X8_isPoked
            rw [in_t, bq1, ite01, lgS i (by omega), lgT, word_e, bq1, ite01]
            have hst : ∀ (q : Nat), PS st a cg j q = PS st a cg j q := fun _ => rfl
            have bad : ∃ st' as', bn2 (f_X8_wordsAside 1 (PS st a cg j) as) (fun m_99 m_100 => some ((-20 : Int32) - nI j, tb, m_99, m_100)) = some ((-20 : Int32) - nI j, tb, st', as') ∧ WR nR fR nO fO nL fL nC' fC rg wd st' kR kO kL kC ∧ ∀ q, 354 ≤ q → st' q = st q := by
              obtain ⟨s', g0, g1, g2⟩ := asi1_L (as := as) FUEL 0 (PS st a cg j) (by omega) (by unfold FUEL; omega)
              refine ⟨s', as, by rw [show f_X8_wordsAside 1 (PS st a cg j) as = _ from g0, bq2], h.frm (fun q hq => ?_), fun q hq => by rw [g2 q (Or.inr hq)]; exact post.2 q hq⟩
              by_cases hq2 : q < 306
              · rw [g2 q (by omega), PS_out j q haj (Or.inl hq2)]
              · obtain ⟨w, rfl⟩ : ∃ w, q = 306 + w := ⟨q - 306, by omega⟩
                rw [g1 w (by omega) (by omega), has w (by omega)]
            by_cases cw : 0 ≤ i.toInt + j ∧ i.toInt + j ≤ 47
            · have ew : (i + nI j).toInt = i.toInt + j := by omega
              rw [if_pos (show 0 ≤ (i + nI j).toInt ∧ (i + nI j).toInt ≤ 47 by omega), if_pos (show (0 : Int64).toInt ≤ i.toInt + j ∧ i.toInt + j ≤ (47 : Int64).toInt from cw), if_pos (show (0 : Int64).toInt ≤ i.toInt + j ∧ i.toInt + j ≤ (47 : Int64).toInt from cw), num_e, bq1, ite01]
              unfold f_X8_isPoked_b27
              have hpos : 0 ≤ i.toInt := by
                rcases hi with z | z
                · subst z; omega
                · exact z.1
              have eij : i + nI j = nI (a + j) := by rw [ei, nT (by omega)]; omega
              rw [eij, show (306 : Int32) + nI (a + j) = nI (306 + (a + j)) from nI_add 306 (a + j)]
              by_cases cn : 0 ≤ (ce2 u).toInt ∧ (ce2 u).toInt ≤ 9999
              · have b1 : f_X8_becomes 1 (nI (306 + (a + j))) (ce2 u) (PS st a cg j) = some (PS st a cg j (306 + (a + j)), upd (PS st a cg j) (306 + (a + j)) (ce2 u)) := bec_yes (c := True) (ce2 u) (PS st a cg j) (by omega) trivial cn.1 cn.2
                have hpv : 0 ≤ (PS st a cg j (306 + (a + j))).toInt := (post.1.2.2.2.2.2.2.2.2.2.2.2.2.2 (a + j) (by omega)).1
                rw [if_pos cn, ckN (n := j) (N := 40) (by omega) (by omega), nC (n := j) (by omega), b1, bq2, if_neg (show ¬ PS st a cg j (306 + (a + j)) < 0 from fun z => by rw [li, l0] at z; omega), bq2, if_neg (show ¬ (1 : Int32) = 0 by decide), nI_1]
                have key : upd (PS st a cg j) (306 + (a + j)) (ce2 u) = PS st a (upd cg j (ce2 u)) (j + 1) := by
                  rw [PS, pk_us, PS_cong (cg := upd cg j (ce2 u)) (cg' := cg) j (fun t ht => pk_un (by omega))]
                rw [key]
                exact rds2_L h (Or.inr ⟨z1, z2, z3, z4, z5, z6, z7, z8⟩) ln f i hln hm ha tb has n1 (n3 + 1) (j + 1) (upd cg j (ce2 u)) (by omega) (by omega) (by omega) (Or.inr ⟨hpos, by omega⟩) (fun t ht => by
                  by_cases q : t = j
                  · subst q; rw [pk_us]; exact cn
                  · rw [pk_un q]; exact hc t (by omega))
              · have b0 : f_X8_becomes 1 (nI (306 + (a + j))) (ce2 u) (PS st a cg j) = some (-1, PS st a cg j) := bec_no (c := True) _ _ _ (fun z => cn z.2)
                obtain ⟨st', as', g1, g2, g3⟩ := bad
                rw [if_neg cn, b0, bq2, if_pos (show (-1 : Int32) < 0 by decide), bq2, if_pos rfl, g1]
                exact ⟨_, _, _, _, _, _, rfl, rfl, g2, g3⟩
            · rw [if_neg (show ¬ (0 ≤ (i + nI j).toInt ∧ (i + nI j).toInt ≤ 47) by omega), if_neg (show ¬ ((0 : Int64).toInt ≤ i.toInt + j ∧ i.toInt + j ≤ (47 : Int64).toInt) from cw), if_neg (show ¬ ((0 : Int64).toInt ≤ i.toInt + j ∧ i.toInt + j ≤ (47 : Int64).toInt) from cw)]
              unfold f_X8_isPoked_b27
              have b0 : f_X8_becomes 0 ((306 : Int32) + 0) (ce2 u) (PS st a cg j) = some (-1, PS st a cg j) := bec_no (c := False) _ _ _ (fun z => z.1)
              obtain ⟨st', as', g1, g2, g3⟩ := bad
              rw [b0, bq2, if_pos (show (-1 : Int32) < 0 by decide), bq2, if_pos rfl, g1]
              exact ⟨_, _, _, _, _, _, rfl, rfl, g2, g3⟩
          · rw [if_neg (show ¬ ((0 : Int64).toInt ≤ f.toInt + j ∧ f.toInt + j ≤ (lengths 2).toInt - (1 : Int32).toInt) from fun z => cf ⟨z.1, by have : f.toInt + j ≤ (lengths 2).toInt - 1 := z.2; omega⟩)]
            have e2 : (if f + nI j < 0 then some (2 : Int32) else if f + nI j < sz2 then some 0 else some 2) = some 2 := by
              by_cases q : (f + nI j).toInt < 0
              · rw [if_pos (show f + nI j < 0 by rw [li, l0]; exact q)]
              · rw [if_neg (show ¬ f + nI j < 0 from fun z => q (by rw [li, l0] at z; exact z)), if_neg (show ¬ f + nI j < sz2 from fun z => by rw [z3, li] at z; omega)]
            rw [e2, bq1, if_neg (by decide), l130, stop 2 (by decide)]
            exact ⟨_, _, _, _, _, _, rfl, rfl, post.1, post.2⟩
        · rw [if_neg (show ¬ ln = la2 from fun z => cl (by rw [z, z2])), if_neg cl, bq1, if_neg (by decide), l130, stop 3 (by decide)]
          exact ⟨_, _, _, _, _, _, rfl, rfl, post.1, post.2⟩

theorem rds3_L (h : WR nR fR nO fO nL fL nC' fC rg wd st kR kO kL kC) (hs : ShR 3 th3 la3 sz3 ce3 lanes lengths cM) (ln f i : Int32) (hln : 0 ≤ ln.toInt ∧ ln.toInt ≤ 2) {m a : Nat} (hm : m ≤ 40) (ha : a = i.toInt.toNat) (tb : Int32) {as : Nat → Int32} (has : ∀ w, w < 48 → as w = st (306 + w)) : ∀ (n1 n2 j : Nat) (cg : Nat → Int32), j ≤ m → m - j < n1 → m - j + 1 < n2 → (j = 0 ∨ (0 ≤ i.toInt ∧ i.toInt + j ≤ 48)) → (∀ t, t < j → 0 ≤ (cg t).toInt ∧ (cg t).toInt ≤ 9999) → ∃ r tb' wd' cg' st' as', f_X7_read_L45_s3 th0 la0 sz0 ce0 th1 la1 sz1 ce1 th2 la2 sz2 ce2 th3 la3 sz3 ce3 n1 ln f (nI m) i 0 (nI j) (nI j) tb wd cg = some (r, tb', wd', cg') ∧ f_X8_read_L50 lanes lengths cM n2 3 ln f (nI m) i 0 (nI j) tb (PS st a cg j) as = some (r, tb', st', as') ∧ WR nR fR nO fO nL fL nC' fC rg wd' st' kR kO kL kC ∧ ∀ q, 354 ≤ q → st' q = st q
  | 0, _, j, _, _, h2, _, _, _ => by omega
  | n1 + 1, 0, j, _, _, _, h3, _, _ => by omega
  | n1 + 1, n2 + 1, j, cg, h1, h2, h3, hi, hc => by
    obtain ⟨n3, rfl⟩ : ∃ n3, n2 = n3 + 1 := ⟨n2 - 1, by omega⟩
    have haj : a + j ≤ 48 ∨ j = 0 := by omega
    have l130 : ∀ tw : Int32, f_X7_read_L130 th0 la0 sz0 ce0 th1 la1 sz1 ce1 th2 la2 sz2 ce2 th3 la3 sz3 ce3 FUEL i tw (nI j) 0 tb wd cg = some (nI j, tw, PW wd a cg j, cg) := by
      intro tw
      rcases Nat.eq_zero_or_pos j with z | z
      · subst z; exact rd20 i tw tb wd cg 4095
      · have ei : i = nI a := by rw [ei, nT (by omega)]; omega
        rw [ei]
        exact rd2_L tw tb wd cg (by omega) (by omega) FUEL 0 (by omega) (by unfold FUEL; omega)
    have post : WR nR fR nO fO nL fL nC' fC rg (PW wd a cg j) (PS st a cg j) kR kO kL kC ∧ ∀ q, 354 ≤ q → PS st a cg j q = st q := ⟨h.pokes j haj hc, fun q hq => PS_out j q haj (Or.inr hq)⟩
    rw [f_X7_read_L45_s3, f_X8_read_L50]
    by_cases hjm : j = m
    · subst hjm
      rw [if_pos (Int32.le_refl _), if_pos (Int32.le_refl _), l130]
      exact ⟨_, _, _, _, _, _, rfl, rfl, post.1, post.2⟩
    · have ne : ¬ nI m ≤ nI j := by rw [le, nT (by omega), nT (by omega)]; omega
      have stop : ∀ w : Int32, ¬ w = 0 → f_X8_read_b122 lanes lengths cM (f_X8_read_L50 lanes lengths cM (n3 + 1)) 3 ln f (nI m) i (nI j) (f.toInt64 + (nI j).toInt64) w tb (PS st a cg j) as = some (nI j, w, PS st a cg j, as) := by
        intro w hw
        unfold f_X8_read_b122
        rw [if_neg hw, f_X8_read_L50, if_neg ne, if_neg hw]; rfl
      rw [if_neg ne, if_neg ne, if_pos rfl, ckI (x := 3) (n := 4) (by decide) (by decide), ckI (x := 3) (n := 4) (by decide) (by decide), ckI (x := 3) (n := 4) (by decide) (by decide), show lanes ((3 : Int32)).toNatClampNeg = lanes 3 from rfl, show lengths ((3 : Int32)).toNatClampNeg = lengths 3 from rfl]
      unfold f_X2_refusal
      rcases hs with ⟨z1, z2⟩ | ⟨z1, z2, z3, z4, z5, z6, z7, z8⟩
      · rw [if_pos z1, if_pos z2, bq1, if_neg (by decide), l130, stop 1 (by decide)]
        exact ⟨_, _, _, _, _, _, rfl, rfl, post.1, post.2⟩
      · rw [if_neg (show ¬ th3 = 0 by rw [z1]; decide), if_neg (show ¬ lanes 3 = -4 from fun z => by rw [z] at z4; exact absurd z4 (by decide))]
        by_cases cl : lanes 3 = ln
        · rw [if_pos (show ln = la3 by rw [z2]; exact cl.symm), if_pos cl, in_t, bq1, ite01, lgS f (by omega), tt, subI (by show _ ≤ (lengths 3).toInt - 1; omega) (by show (lengths 3).toInt - 1 < _; omega)]
          have af := addW f (show j ≤ 1000 by omega)
          have ai := addW i (show j ≤ 1000 by omega)
          by_cases cf : 0 ≤ f.toInt + j ∧ f.toInt + j < (lengths 3).toInt
          · have ef : (f + nI j).toInt = f.toInt + j := by omega
            obtain ⟨u, hu, eu, euT⟩ := nOf (x := f + nI j) (by omega)
            rw [if_pos (show (0 : Int64).toInt ≤ f.toInt + j ∧ f.toInt + j ≤ (lengths 3).toInt - (1 : Int32).toInt from ⟨cf.1, by show _ ≤ (lengths 3).toInt - 1; omega⟩), eu, if_neg (show ¬ nI u < 0 from fun z => by rw [li, l0, nT (by omega)] at z; omega), if_pos (show nI u < sz3 by rw [z3, li, nT (by omega)]; omega), bq1, if_pos rfl, ckN (n := u) (N := 40) (by omega) (by omega), nC (n := u) (by omega)]
            unfold f_X8_read_b122
            rw [if_pos rfl, lgT, eu, show ((40 : Int32) * 3) = nI 120 from rfl, nI_add, ckN (n := 120 + u) (N := 160) (by omega) (by omega), nC (n := 120 + u) (by omega), show cM (120 + u) = ce3 u from (z8 u (by omega)).symm]
            unfold f_X8_isPoked
            rw [in_t, bq1, ite01, lgS i (by omega), lgT, word_e, bq1, ite01]
            have hst : ∀ (q : Nat), PS st a cg j q = PS st a cg j q := fun _ => rfl
            have bad : ∃ st' as', bn2 (f_X8_wordsAside 1 (PS st a cg j) as) (fun m_99 m_100 => some ((-20 : Int32) - nI j, tb, m_99, m_100)) = some ((-20 : Int32) - nI j, tb, st', as') ∧ WR nR fR nO fO nL fL nC' fC rg wd st' kR kO kL kC ∧ ∀ q, 354 ≤ q → st' q = st q := by
              obtain ⟨s', g0, g1, g2⟩ := asi1_L (as := as) FUEL 0 (PS st a cg j) (by omega) (by unfold FUEL; omega)
              refine ⟨s', as, by rw [show f_X8_wordsAside 1 (PS st a cg j) as = _ from g0, bq2], h.frm (fun q hq => ?_), fun q hq => by rw [g2 q (Or.inr hq)]; exact post.2 q hq⟩
              by_cases hq2 : q < 306
              · rw [g2 q (by omega), PS_out j q haj (Or.inl hq2)]
              · obtain ⟨w, rfl⟩ : ∃ w, q = 306 + w := ⟨q - 306, by omega⟩
                rw [g1 w (by omega) (by omega), has w (by omega)]
            by_cases cw : 0 ≤ i.toInt + j ∧ i.toInt + j ≤ 47
            · have ew : (i + nI j).toInt = i.toInt + j := by omega
              rw [if_pos (show 0 ≤ (i + nI j).toInt ∧ (i + nI j).toInt ≤ 47 by omega), if_pos (show (0 : Int64).toInt ≤ i.toInt + j ∧ i.toInt + j ≤ (47 : Int64).toInt from cw), if_pos (show (0 : Int64).toInt ≤ i.toInt + j ∧ i.toInt + j ≤ (47 : Int64).toInt from cw), num_e, bq1, ite01]
              unfold f_X8_isPoked_b27
              have hpos : 0 ≤ i.toInt := by
                rcases hi with z | z
                · subst z; omega
                · exact z.1
              have eij : i + nI j = nI (a + j) := by rw [ei, nT (by omega)]; omega
              rw [eij, show (306 : Int32) + nI (a + j) = nI (306 + (a + j)) from nI_add 306 (a + j)]
              by_cases cn : 0 ≤ (ce3 u).toInt ∧ (ce3 u).toInt ≤ 9999
              · have b1 : f_X8_becomes 1 (nI (306 + (a + j))) (ce3 u) (PS st a cg j) = some (PS st a cg j (306 + (a + j)), upd (PS st a cg j) (306 + (a + j)) (ce3 u)) := bec_yes (c := True) (ce3 u) (PS st a cg j) (by omega) trivial cn.1 cn.2
                have hpv : 0 ≤ (PS st a cg j (306 + (a + j))).toInt := (post.1.2.2.2.2.2.2.2.2.2.2.2.2.2 (a + j) (by omega)).1
                rw [if_pos cn, ckN (n := j) (N := 40) (by omega) (by omega), nC (n := j) (by omega), b1, bq2, if_neg (show ¬ PS st a cg j (306 + (a + j)) < 0 from fun z => by rw [li, l0] at z; omega), bq2, if_neg (show ¬ (1 : Int32) = 0 by decide), nI_1]
                have key : upd (PS st a cg j) (306 + (a + j)) (ce3 u) = PS st a (upd cg j (ce3 u)) (j + 1) := by
                  rw [PS, pk_us, PS_cong (cg := upd cg j (ce3 u)) (cg' := cg) j (fun t ht => pk_un (by omega))]
                rw [key]
                exact rds3_L h (Or.inr ⟨z1, z2, z3, z4, z5, z6, z7, z8⟩) ln f i hln hm ha tb has n1 (n3 + 1) (j + 1) (upd cg j (ce3 u)) (by omega) (by omega) (by omega) (Or.inr ⟨hpos, by omega⟩) (fun t ht => by
                  by_cases q : t = j
                  · subst q; rw [pk_us]; exact cn
                  · rw [pk_un q]; exact hc t (by omega))
              · have b0 : f_X8_becomes 1 (nI (306 + (a + j))) (ce3 u) (PS st a cg j) = some (-1, PS st a cg j) := bec_no (c := True) _ _ _ (fun z => cn z.2)
                obtain ⟨st', as', g1, g2, g3⟩ := bad
                rw [if_neg cn, b0, bq2, if_pos (show (-1 : Int32) < 0 by decide), bq2, if_pos rfl, g1]
                exact ⟨_, _, _, _, _, _, rfl, rfl, g2, g3⟩
            · rw [if_neg (show ¬ (0 ≤ (i + nI j).toInt ∧ (i + nI j).toInt ≤ 47) by omega), if_neg (show ¬ ((0 : Int64).toInt ≤ i.toInt + j ∧ i.toInt + j ≤ (47 : Int64).toInt) from cw), if_neg (show ¬ ((0 : Int64).toInt ≤ i.toInt + j ∧ i.toInt + j ≤ (47 : Int64).toInt) from cw)]
              unfold f_X8_isPoked_b27
              have b0 : f_X8_becomes 0 ((306 : Int32) + 0) (ce3 u) (PS st a cg j) = some (-1, PS st a cg j) := bec_no (c := False) _ _ _ (fun z => z.1)
              obtain ⟨st', as', g1, g2, g3⟩ := bad
              rw [b0, bq2, if_pos (show (-1 : Int32) < 0 by decide), bq2, if_pos rfl, g1]
              exact ⟨_, _, _, _, _, _, rfl, rfl, g2, g3⟩
          · rw [if_neg (show ¬ ((0 : Int64).toInt ≤ f.toInt + j ∧ f.toInt + j ≤ (lengths 3).toInt - (1 : Int32).toInt) from fun z => cf ⟨z.1, by have : f.toInt + j ≤ (lengths 3).toInt - 1 := z.2; omega⟩)]
            have e2 : (if f + nI j < 0 then some (2 : Int32) else if f + nI j < sz3 then some 0 else some 2) = some 2 := by
              by_cases q : (f + nI j).toInt < 0
              · rw [if_pos (show f + nI j < 0 by rw [li, l0]; exact q)]
              · rw [if_neg (show ¬ f + nI j < 0 from fun z => q (by rw [li, l0] at z; exact z)), if_neg (show ¬ f + nI j < sz3 from fun z => by rw [z3, li] at z; omega)]
            rw [e2, bq1, if_neg (by decide), l130, stop 2 (by decide)]
            exact ⟨_, _, _, _, _, _, rfl, rfl, post.1, post.2⟩
        · rw [if_neg (show ¬ ln = la3 from fun z => cl (by rw [z, z2])), if_neg cl, bq1, if_neg (by decide), l130, stop 3 (by decide)]
          exact ⟨_, _, _, _, _, _, rfl, rfl, post.1, post.2⟩

theorem p_read (h : WR nR fR nO fO nL fL nC' fC rg wd st kR kO kL kC) (h0 : ShR 0 th0 la0 sz0 ce0 lanes lengths cM) (h1 : ShR 1 th1 la1 sz1 ce1 lanes lengths cM) (h2 : ShR 2 th2 la2 sz2 ce2 lanes lengths cM) (h3 : ShR 3 th3 la3 sz3 ce3 lanes lengths cM) (x y z u w : Int32) (tb : Int32) (cg as : Nat → Int32) : ∃ r tb' wd' cg' st' as', f_X7_read x y z u w tb wd th0 la0 sz0 ce0 th1 la1 sz1 ce1 th2 la2 sz2 ce2 th3 la3 sz3 ce3 cg = some (r, tb', wd', cg') ∧ f_X8_read x y z u w tb st lanes lengths cM as = some (r, tb', st', as') ∧ WR nR fR nO fO nL fL nC' fC rg wd' st' kR kO kL kC ∧ ∀ q, 354 ≤ q → st' q = st q := by
  unfold f_X7_read f_X8_read
  rw [she_e, bq1, ite01, in_t, bq1, ite01, tt]
  by_cases hx : 0 ≤ x.toInt ∧ x.toInt ≤ 3
  · rw [if_pos hx, if_pos (show (0 : Int64).toInt ≤ x.toInt ∧ x.toInt ≤ (3 : Int64).toInt from hx), lan_e, bq1, ite01, in_t, bq1, ite01, tt]
    by_cases hy : 0 ≤ y.toInt ∧ y.toInt ≤ 2
    · rw [if_pos hy, if_pos (show (0 : Int64).toInt ≤ y.toInt ∧ y.toInt ≤ (2 : Int64).toInt from hy), in_t, bq1, ite01, tt]
      by_cases hu : 0 ≤ u.toInt ∧ u.toInt ≤ 40
      · rw [if_neg (show ¬ u < 0 from fun q => by rw [li, l0] at q; omega), if_pos (show u ≤ 40 from le.mpr hu.2), if_pos (show (0 : Int64).toInt ≤ u.toInt ∧ u.toInt ≤ (40 : Int64).toInt from hu)]
        obtain ⟨as', a1, a2, -⟩ := asi0_L (st := st) FUEL 0 as (by omega) (by unfold FUEL; omega)
        rw [show f_X8_wordsAside 0 st as = _ from a1, bq2]
        obtain ⟨m, hm, rfl, hmT⟩ := nOf hu.1
        rcases sh4 hx with rfl | rfl | rfl | rfl
        · rw [if_pos rfl]
          exact rds0_L h h0 y z w hy (m := m) (by omega) rfl tb (fun q hq => a2 q (by omega) hq) FUEL FUEL 0 cg (by omega) (by unfold FUEL; omega) (by unfold FUEL; omega) (Or.inl rfl) (fun t ht => by omega)
        · rw [if_neg (by decide), if_pos rfl]
          exact rds1_L h h1 y z w hy (m := m) (by omega) rfl tb (fun q hq => a2 q (by omega) hq) FUEL FUEL 0 cg (by omega) (by unfold FUEL; omega) (by unfold FUEL; omega) (Or.inl rfl) (fun t ht => by omega)
        · rw [if_neg (by decide), if_neg (by decide), if_pos rfl]
          exact rds2_L h h2 y z w hy (m := m) (by omega) rfl tb (fun q hq => a2 q (by omega) hq) FUEL FUEL 0 cg (by omega) (by unfold FUEL; omega) (by unfold FUEL; omega) (Or.inl rfl) (fun t ht => by omega)
        · rw [if_neg (by decide), if_neg (by decide), if_neg (by decide), if_pos rfl]
          exact rds3_L h h3 y z w hy (m := m) (by omega) rfl tb (fun q hq => a2 q (by omega) hq) FUEL FUEL 0 cg (by omega) (by unfold FUEL; omega) (by unfold FUEL; omega) (Or.inl rfl) (fun t ht => by omega)
      · rw [if_neg (show ¬ ((0 : Int64).toInt ≤ u.toInt ∧ u.toInt ≤ (40 : Int64).toInt) from hu)]
        refine ⟨-1, tb, wd, cg, st, as, ?_, rfl, h, fun _ _ => rfl⟩
        by_cases q : u.toInt < 0
        · rw [if_pos (show u < 0 by rw [li, l0]; exact q)]
        · rw [if_neg (show ¬ u < 0 from fun y => q (by rw [li, l0] at y; exact y)), if_neg (show ¬ u ≤ 40 from fun y => by rw [le] at y; have : u.toInt ≤ 40 := y; omega)]
    · rw [if_neg hy, if_neg (show ¬ ((0 : Int64).toInt ≤ y.toInt ∧ y.toInt ≤ (2 : Int64).toInt) from hy)]
      exact ⟨_, _, _, _, _, _, rfl, rfl, h, fun _ _ => rfl⟩
  · rw [if_neg hx, if_neg (show ¬ ((0 : Int64).toInt ≤ x.toInt ∧ x.toInt ≤ (3 : Int64).toInt) from hx)]
    exact ⟨_, _, _, _, _, _, rfl, rfl, h, fun _ _ => rfl⟩
end READ
