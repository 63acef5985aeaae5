/-! images -/
theorem WR.cong {nR nO nL nC : Int32} {fR fO fL fC rg wd : Nat → Int32} {pg fR' fO' fL' fC' rg' wd' pg' : Nat → Int32} {kR kO kL kC : Nat} (h : WR nR fR nO fO nL fL nC fC rg wd pg kR kO kL kC) (h1 : ∀ i, i < 24 → fR' i = fR i) (h2 : ∀ i, i < 160 → fO' i = fO i) (h3 : ∀ i, i < 80 → fL' i = fL i) (h4 : ∀ i, i < 32 → fC' i = fC i) (h5 : ∀ i, i < 6 → rg' i = rg i) (h6 : ∀ i, i < 48 → wd' i = wd i) (hp : ∀ i, i < 354 → pg' i = pg i) : WR nR fR' nO fO' nL fL' nC fC' rg' wd' pg' kR kO kL kC := by
  obtain ⟨hk, hn, hs, hr, ho, hl, hc, hg, hw, hv1, hv2, hv3, hv4, hv5⟩ := h
  refine ⟨hk, hn, ⟨?_, ?_, ?_, ?_⟩, fun r hr' => ?_, fun i hi c hc' => ?_, fun i hi c hc' => ?_, fun i hi c hc' => ?_, fun u hu => ?_, fun i hi => ?_, fun r hr' => ?_, fun r hr' q hq => ?_, fun i hi => ?_, fun u hu => ?_, fun i hi => ?_⟩
  · rw [hp _ (by omega)]; exact hs.1
  · rw [hp _ (by omega)]; exact hs.2.1
  · rw [hp _ (by omega)]; exact hs.2.2.1
  · rw [hp _ (by omega)]; exact hs.2.2.2
  · rw [h1 _ (by omega), h1 _ (by omega), h1 _ (by omega), hp _ (by omega), hp _ (by omega), hp _ (by omega)]; exact hr r hr'
  · rw [h2 _ (by omega), hp _ (by omega)]; exact ho i hi c hc'
  · rw [h3 _ (by omega), hp _ (by omega)]; exact hl i hi c hc'
  · rw [h4 _ (by omega), hp _ (by omega)]; exact hc i hi c hc'
  · rw [h5 _ (by omega), hp _ (by omega)]; exact hg u hu
  · rw [h6 _ (by omega), hp _ (by omega)]; exact hw i hi
  · rw [hp _ (by omega), hp _ (by omega), hp _ (by omega)]; exact hv1 r hr'
  · rw [hp _ (by omega), hp _ (by omega), hp _ (by omega), hp _ (by omega)]; exact hv2 r hr' q hq
  · rw [hp _ (by omega), hp _ (by omega), hp _ (by omega)]; exact hv3 i hi
  · rw [hp _ (by omega)]; exact hv4 u hu
  · rw [hp _ (by omega)]; exact hv5 i hi
theorem WR.frm {nR nO nL nC : Int32} {fR fO fL fC rg wd : Nat → Int32} {pg pg' : Nat → Int32} {kR kO kL kC : Nat} (h : WR nR fR nO fO nL fL nC fC rg wd pg kR kO kL kC) (hp : ∀ i, i < 354 → pg' i = pg i) : WR nR fR nO fO nL fL nC fC rg wd pg' kR kO kL kC := h.cong (fun _ _ => rfl) (fun _ _ => rfl) (fun _ _ => rfl) (fun _ _ => rfl) (fun _ _ => rfl) (fun _ _ => rfl) hp
/-- an image of the class and the page at p of the reference, where it is kept -/
def ImR (kp : Int32) (nR : Int32) (fR : Nat → Int32) (nO : Int32) (fO : Nat → Int32) (nL : Int32) (fL : Nat → Int32) (nC : Int32) (fC rg wd st : Nat → Int32) (p : Nat) : Prop := kp = 0 ∨ ∃ kR kO kL kC, WR nR fR nO fO nL fL nC fC rg wd (fun i => st (p + i)) kR kO kL kC
theorem ImR.frm {nR nO nL nC : Int32} {fR fO fL fC rg wd : Nat → Int32} {kp : Int32} {st st' : Nat → Int32} {p : Nat} (h : ImR kp nR fR nO fO nL fL nC fC rg wd st p) (hp : ∀ i, i < 354 → st' (p + i) = st (p + i)) : ImR kp nR fR nO fO nL fL nC fC rg wd st' p := by
  rcases h with h | ⟨a, b, c, d, h⟩
  · exact Or.inl h
  · exact Or.inr ⟨a, b, c, d, h.frm hp⟩
theorem cpy_ok {N : Nat} (hN : N < 4000) (f g : Nat → Int32) (a b : Int32) : f_X3_takeOver a N f b N g = some (b, va_cpy g f 0 0 N) := by
  unfold f_X3_takeOver
  rw [if_pos rfl]
  have e : (Int32.ofNat N).toNatClampNeg = N := nC (by omega)
  rw [e]
  refine ck_e ⟨by decide, by decide, ?_, ?_, ?_⟩
  · show ¬ nI N < 0
    rw [li, l0, nT (by omega)]; omega
  · show 0 + N ≤ N; omega
  · show 0 + N ≤ N; omega
theorem takeT_e {nR nO nL nC : Int32} {fR fO fL fC : Nat → Int32} {nR1 nO1 nL1 nC1 : Int32} {fR1 fO1 fL1 fC1 : Nat → Int32} : f_X6_takeTables nR fR nO fO nL fL nC fC nR1 fR1 nO1 fO1 nL1 fL1 nC1 fC1 = some (nR1, va_cpy fR1 fR 0 0 24, nO1, va_cpy fO1 fO 0 0 160, nL1, va_cpy fL1 fL 0 0 80, nC1, va_cpy fC1 fC 0 0 32) := by
  unfold f_X6_takeTables
  rw [cpy_ok (by omega), bq2, cpy_ok (by omega), bq2, cpy_ok (by omega), bq2, cpy_ok (by omega), bq2]
theorem take_e {nR nO nL nC : Int32} {fR fO fL fC rg wd : Nat → Int32} {nR1 nO1 nL1 nC1 : Int32} {fR1 fO1 fL1 fC1 rg1 wd1 : Nat → Int32} : f_X6_takeAll nR fR nO fO nL fL nC fC rg wd nR1 fR1 nO1 fO1 nL1 fL1 nC1 fC1 rg1 wd1 = some (nR1, va_cpy fR1 fR 0 0 24, nO1, va_cpy fO1 fO 0 0 160, nL1, va_cpy fL1 fL 0 0 80, nC1, va_cpy fC1 fC 0 0 32, va_cpy rg1 rg 0 0 6, va_cpy wd1 wd 0 0 48) := by
  unfold f_X6_takeAll
  rw [takeT_e]
  show ck _ (ck _ _) = _
  rw [ck_e (by decide), ck_e (by decide)]; rfl
theorem WR.took {fR fO fL fC rg wd : Nat → Int32} {nR1 nO1 nL1 nC1 : Int32} {fR1 fO1 fL1 fC1 rg1 wd1 : Nat → Int32} {pg pg' : Nat → Int32} {kR kO kL kC : Nat} (h : WR nR1 fR1 nO1 fO1 nL1 fL1 nC1 fC1 rg1 wd1 pg kR kO kL kC) (hp : ∀ i, i < 354 → pg' i = pg i) : WR nR1 (va_cpy fR1 fR 0 0 24) nO1 (va_cpy fO1 fO 0 0 160) nL1 (va_cpy fL1 fL 0 0 80) nC1 (va_cpy fC1 fC 0 0 32) (va_cpy rg1 rg 0 0 6) (va_cpy wd1 wd 0 0 48) pg' kR kO kL kC :=
  h.cong (fun i hi => sb_cpy0 hi) (fun i hi => sb_cpy0 hi) (fun i hi => sb_cpy0 hi) (fun i hi => sb_cpy0 hi) (fun i hi => sb_cpy0 hi) (fun i hi => sb_cpy0 hi) hp
theorem cop_L {p q : Nat} (hp : p ≤ 1062) (hq : q ≤ 1062) (hd : p + 354 ≤ q ∨ q + 354 ≤ p) : ∀ (n i : Nat) (st : Nat → Int32), i ≤ 354 → 354 - i < n → ∃ st', f_X8_copies_L2 n (nI p) (nI q) (nI i) st = some st' ∧ (∀ j, i ≤ j → j < 354 → st' (q + j) = st (p + j)) ∧ ∀ j, j < q + i ∨ q + 354 ≤ j → st' j = st j
  | 0, i, st, _, h2 => by omega
  | n + 1, i, st, h1, h2 => by
    rw [f_X8_copies_L2]
    by_cases hi : i = 354
    · subst hi
      rw [if_pos (show (354 : Int32) ≤ nI 354 by decide)]
      exact ⟨_, rfl, fun j h3 h4 => by omega, fun _ _ => rfl⟩
    · rw [if_neg (by rw [le, nT (by omega)]; show ¬ (354 : Int) ≤ i; omega), nI_add, nI_add, ckN (by omega) (by omega), ckN (by omega) (by omega), nC (by omega), nC (by omega), nI_1]
      obtain ⟨g, e, g1, g2⟩ := cop_L hp hq hd n (i + 1) (upd st (q + i) (st (p + i))) (by omega) (by omega)
      refine ⟨g, e, fun j h3 h4 => ?_, fun j hj => ?_⟩
      · by_cases z : j = i
        · subst z; rw [g2 _ (by omega), pk_us]
        · rw [g1 j (by omega) h4, pk_un (by omega)]
      · rw [g2 j (by omega), pk_un (by omega)]
theorem cop_e {p q : Nat} (hp : p ≤ 1062) (hq : q ≤ 1062) (hd : p + 354 ≤ q ∨ q + 354 ≤ p) (st : Nat → Int32) : ∃ st', f_X8_copies (nI p) (nI q) st = some st' ∧ (∀ j, j < 354 → st' (q + j) = st (p + j)) ∧ ∀ j, j < q ∨ q + 354 ≤ j → st' j = st j := by
  obtain ⟨g, e, g1, g2⟩ := cop_L hp hq hd FUEL 0 st (by omega) (by unfold FUEL; omega)
  exact ⟨g, e, fun j hj => g1 j (by omega) hj, fun j hj => g2 j (by omega)⟩
theorem im2 {x : Int32} (h : 0 ≤ x.toInt ∧ x.toInt ≤ 1) : x = 0 ∨ x = 1 := by
  simp only [ei]
  have a0 : ((0 : Int32)).toInt = 0 := rfl
  have a1 : ((1 : Int32)).toInt = 1 := rfl
  omega
section IMAGES
variable {nR nO nL nC : Int32} {fR fO fL fC rg wd : Nat → Int32} {nR0 nO0 nL0 nC0 : Int32} {fR0 fO0 fL0 fC0 rg0 wd0 : Nat → Int32} {nR1 nO1 nL1 nC1 : Int32} {fR1 fO1 fL1 fC1 rg1 wd1 : Nat → Int32} {st kp kM : Nat → Int32} {kR kO kL kC : Nat}
theorem p_keep (h : WR nR fR nO fO nL fL nC fC rg wd st kR kO kL kC) (hkp : ∀ j, j < 2 → kp j = kM j) (h0 : ImR (kM 0) nR0 fR0 nO0 fO0 nL0 fL0 nC0 fC0 rg0 wd0 st 354) (h1 : ImR (kM 1) nR1 fR1 nO1 fO1 nL1 fL1 nC1 fC1 rg1 wd1 st 708) (x : Int32) : ∃ r nR0' fR0' nO0' fO0' nL0' fL0' nC0' fC0' rg0' wd0' nR1' fR1' nO1' fO1' nL1' fL1' nC1' fC1' rg1' wd1' kp' st' kM', f_X7_keep x nR fR nO fO nL fL nC fC rg wd nR0 fR0 nO0 fO0 nL0 fL0 nC0 fC0 rg0 wd0 nR1 fR1 nO1 fO1 nL1 fL1 nC1 fC1 rg1 wd1 kp = some (r, nR0', fR0', nO0', fO0', nL0', fL0', nC0', fC0', rg0', wd0', nR1', fR1', nO1', fO1', nL1', fL1', nC1', fC1', rg1', wd1', kp') ∧ f_X8_keep x st kM = some (r, st', kM') ∧ WR nR fR nO fO nL fL nC fC rg wd st' kR kO kL kC ∧ (∀ j, j < 2 → kp' j = kM' j) ∧ ImR (kM' 0) nR0' fR0' nO0' fO0' nL0' fL0' nC0' fC0' rg0' wd0' st' 354 ∧ ImR (kM' 1) nR1' fR1' nO1' fO1' nL1' fL1' nC1' fC1' rg1' wd1' st' 708 := by
  unfold f_X7_keep f_X8_keep
  rw [in_t, bq1, ite01, tt]
  by_cases hx : 0 ≤ x.toInt ∧ x.toInt ≤ 1
  · rw [if_neg (show ¬ x < 0 from fun z => by rw [li, l0] at z; omega), if_pos (show x < 2 by rw [li]; show x.toInt < 2; omega), if_pos (show (0 : Int64).toInt ≤ x.toInt ∧ x.toInt ≤ (1 : Int64).toInt from hx), ckI hx.1 (by omega), ckI hx.1 (by omega)]
    rcases im2 hx with rfl | rfl
    · obtain ⟨g, eg, g1, g2⟩ := cop_e (p := 0) (q := 354) (by omega) (by omega) (by omega) st
      rw [show kp (((0 : Int32)).toNatClampNeg) = kM 0 from hkp 0 (by omega), show kM (((0 : Int32)).toNatClampNeg) = kM 0 from rfl]
      have fin : ∀ w : Int32, f_X7_keep_b25 nR fR nO fO nL fL nC fC rg wd 0 w nR0 fR0 nO0 fO0 nL0 fL0 nC0 fC0 rg0 wd0 nR1 fR1 nO1 fO1 nL1 fL1 nC1 fC1 rg1 wd1 kp = some (w, nR, va_cpy fR fR0 0 0 24, nO, va_cpy fO fO0 0 0 160, nL, va_cpy fL fL0 0 0 80, nC, va_cpy fC fC0 0 0 32, va_cpy rg rg0 0 0 6, va_cpy wd wd0 0 0 48, nR1, fR1, nO1, fO1, nL1, fL1, nC1, fC1, rg1, wd1, upd kp 0 1) := by
        intro w
        unfold f_X7_keep_b25
        rw [if_pos rfl, take_e]
        show cki _ _ _ = _
        rw [ckI (by decide) (by decide)]; rfl
      have fin8 : ∀ w : Int32, f_X8_keep_b26 0 w st kM = some (w, g, upd kM 0 1) := by
        intro w
        unfold f_X8_keep_b26
        rw [show f_X8_copies 0 ((354 : Int32) * 0 + 354) st = some g from eg, bq1, ckI (by decide) (by decide)]; rfl
      have hk' : ∀ j, j < 2 → upd kp 0 1 j = upd kM 0 1 j := fun j hj => by
        by_cases e : j = 0
        · subst e; rw [pk_us, pk_us]
        · rw [pk_un e, pk_un e]; exact hkp j hj
      by_cases hz : kM 0 = 0
      · rw [if_pos hz, if_pos hz, fin 0, fin8 0]
        exact ⟨_, _, _, _, _, _, _, _, _, _, _, _, _, _, _, _, _, _, _, _, _, _, _, _, rfl, rfl, h.frm (fun i hi => g2 i (by omega)), hk', by rw [pk_us]; exact Or.inr ⟨_, _, _, _, h.took (fun i hi => (g1 i hi).trans (congrArg st (Nat.zero_add i)))⟩, by rw [pk_un (by omega)]; exact h1.frm (fun i hi => g2 _ (by omega))⟩
      · rw [if_neg hz, if_neg hz, fin 1, fin8 1]
        exact ⟨_, _, _, _, _, _, _, _, _, _, _, _, _, _, _, _, _, _, _, _, _, _, _, _, rfl, rfl, h.frm (fun i hi => g2 i (by omega)), hk', by rw [pk_us]; exact Or.inr ⟨_, _, _, _, h.took (fun i hi => (g1 i hi).trans (congrArg st (Nat.zero_add i)))⟩, by rw [pk_un (by omega)]; exact h1.frm (fun i hi => g2 _ (by omega))⟩
    · obtain ⟨g, eg, g1, g2⟩ := cop_e (p := 0) (q := 708) (by omega) (by omega) (by omega) st
      rw [show kp (((1 : Int32)).toNatClampNeg) = kM 1 from hkp 1 (by omega), show kM (((1 : Int32)).toNatClampNeg) = kM 1 from rfl]
      have fin : ∀ w : Int32, f_X7_keep_b25 nR fR nO fO nL fL nC fC rg wd 1 w nR0 fR0 nO0 fO0 nL0 fL0 nC0 fC0 rg0 wd0 nR1 fR1 nO1 fO1 nL1 fL1 nC1 fC1 rg1 wd1 kp = some (w, nR0, fR0, nO0, fO0, nL0, fL0, nC0, fC0, rg0, wd0, nR, va_cpy fR fR1 0 0 24, nO, va_cpy fO fO1 0 0 160, nL, va_cpy fL fL1 0 0 80, nC, va_cpy fC fC1 0 0 32, va_cpy rg rg1 0 0 6, va_cpy wd wd1 0 0 48, upd kp 1 1) := by
        intro w
        unfold f_X7_keep_b25
        rw [if_neg (by decide), if_pos rfl, take_e]
        show cki _ _ _ = _
        rw [ckI (by decide) (by decide)]; rfl
      have fin8 : ∀ w : Int32, f_X8_keep_b26 1 w st kM = some (w, g, upd kM 1 1) := by
        intro w
        unfold f_X8_keep_b26
        rw [show f_X8_copies 0 ((354 : Int32) * 1 + 354) st = some g from eg, bq1, ckI (by decide) (by decide)]; rfl
      have hk' : ∀ j, j < 2 → upd kp 1 1 j = upd kM 1 1 j := fun j hj => by
        by_cases e : j = 1
        · subst e; rw [pk_us, pk_us]
        · rw [pk_un e, pk_un e]; exact hkp j hj
      by_cases hz : kM 1 = 0
      · rw [if_pos hz, if_pos hz, fin 0, fin8 0]
        exact ⟨_, _, _, _, _, _, _, _, _, _, _, _, _, _, _, _, _, _, _, _, _, _, _, _, rfl, rfl, h.frm (fun i hi => g2 i (by omega)), hk', by rw [pk_un (by omega)]; exact h0.frm (fun i hi => g2 _ (by omega)), by rw [pk_us]; exact Or.inr ⟨_, _, _, _, h.took (fun i hi => (g1 i hi).trans (congrArg st (Nat.zero_add i)))⟩⟩
      · rw [if_neg hz, if_neg hz, fin 1, fin8 1]
        exact ⟨_, _, _, _, _, _, _, _, _, _, _, _, _, _, _, _, _, _, _, _, _, _, _, _, rfl, rfl, h.frm (fun i hi => g2 i (by omega)), hk', by rw [pk_un (by omega)]; exact h0.frm (fun i hi => g2 _ (by omega)), by rw [pk_us]; exact Or.inr ⟨_, _, _, _, h.took (fun i hi => (g1 i hi).trans (congrArg st (Nat.zero_add i)))⟩⟩
  · rw [if_neg (show ¬ ((0 : Int64).toInt ≤ x.toInt ∧ x.toInt ≤ (1 : Int64).toInt) from hx)]
    by_cases h2 : x.toInt < 0
    · rw [if_pos (show x < 0 by rw [li, l0]; exact h2)]
      exact ⟨_, _, _, _, _, _, _, _, _, _, _, _, _, _, _, _, _, _, _, _, _, _, _, _, rfl, rfl, h, hkp, h0, h1⟩
    · rw [if_neg (show ¬ x < 0 from fun z => h2 (by rw [li, l0] at z; exact z)), if_neg (show ¬ x < 2 from fun z => by rw [li] at z; have : x.toInt < 2 := z; omega)]
      exact ⟨_, _, _, _, _, _, _, _, _, _, _, _, _, _, _, _, _, _, _, _, _, _, _, _, rfl, rfl, h, hkp, h0, h1⟩
variable {taken size ended guessed : Int32} {regs owners looked ways : Nat → Int32} {frameMany ending isWalked : Int32} {frames cameBy lookedM ownersM : Nat → Int32}
theorem p_back (h : WR nR fR nO fO nL fL nC fC rg wd st kR kO kL kC) (hkp : ∀ j, j < 2 → kp j = kM j) (h0 : ImR (kM 0) nR0 fR0 nO0 fO0 nL0 fL0 nC0 fC0 rg0 wd0 st 354) (h1 : ImR (kM 1) nR1 fR1 nO1 fO1 nL1 fL1 nC1 fC1 rg1 wd1 st 708) (ht : TrkR taken size ended guessed regs owners looked ways frameMany ending isWalked frames cameBy lookedM ownersM) (x : Int32) : ∃ r nR' fR' nO' fO' nL' fL' nC' fC' rg' wd' taken' size' st' isWalked' kR' kO' kL' kC', f_X7_back x nR fR nO fO nL fL nC fC rg wd nR0 fR0 nO0 fO0 nL0 fL0 nC0 fC0 rg0 wd0 nR1 fR1 nO1 fO1 nL1 fL1 nC1 fC1 rg1 wd1 kp taken size = some (r, nR', fR', nO', fO', nL', fL', nC', fC', rg', wd', taken', size') ∧ f_X8_back x isWalked st kM = some (r, isWalked', st') ∧ WR nR' fR' nO' fO' nL' fL' nC' fC' rg' wd' st' kR' kO' kL' kC' ∧ (∀ j, 354 ≤ j → st' j = st j) ∧ TrkR taken' size' ended guessed regs owners looked ways frameMany ending isWalked' frames cameBy lookedM ownersM := by
  unfold f_X7_back f_X8_back
  rw [in_t, bq1, ite01, tt]
  by_cases hx : 0 ≤ x.toInt ∧ x.toInt ≤ 1
  · rw [if_neg (show ¬ x < 0 from fun z => by rw [li, l0] at z; omega), if_pos (show x < 2 by rw [li]; show x.toInt < 2; omega), if_pos (show (0 : Int64).toInt ≤ x.toInt ∧ x.toInt ≤ (1 : Int64).toInt from hx), ckI hx.1 (by omega), ckI hx.1 (by omega)]
    rcases im2 hx with rfl | rfl
    · rw [show kp (((0 : Int32)).toNatClampNeg) = kM 0 from hkp 0 (by omega), show kM (((0 : Int32)).toNatClampNeg) = kM 0 from rfl]
      by_cases hz : kM 0 = 0
      · rw [if_pos hz, if_pos hz]
        exact ⟨_, _, _, _, _, _, _, _, _, _, _, _, _, _, _, _, _, _, _, rfl, rfl, h, fun _ _ => rfl, ht⟩
      · rcases h0 with q | ⟨a, b, c, d, q⟩
        · exact absurd q hz
        · obtain ⟨g, eg, g1, g2⟩ := cop_e (p := 354) (q := 0) (by omega) (by omega) (by omega) st
          rw [if_neg hz, if_neg hz, if_pos rfl, take_e, show f_X8_copies ((354 : Int32) * 0 + 354) 0 st = some g from eg, bq1, rou_e, bq1]
          have e296 : g 296 = nR0 := by
            have := g1 296 (by omega)
            rw [Nat.zero_add] at this
            rw [this, q.2.1.1]; exact q.2.2.1.1
          rw [e296]
          refine ⟨_, _, _, _, _, _, _, _, _, _, _, _, _, _, _, a, b, c, d, rfl, rfl, q.took (fun i hi => ?_), fun j hj => g2 j (by omega), Or.inl ⟨rfl, rfl, rfl⟩⟩
          have := g1 i hi
          rw [Nat.zero_add] at this
          exact this
    · rw [show kp (((1 : Int32)).toNatClampNeg) = kM 1 from hkp 1 (by omega), show kM (((1 : Int32)).toNatClampNeg) = kM 1 from rfl]
      by_cases hz : kM 1 = 0
      · rw [if_pos hz, if_pos hz]
        exact ⟨_, _, _, _, _, _, _, _, _, _, _, _, _, _, _, _, _, _, _, rfl, rfl, h, fun _ _ => rfl, ht⟩
      · rcases h1 with q | ⟨a, b, c, d, q⟩
        · exact absurd q hz
        · obtain ⟨g, eg, g1, g2⟩ := cop_e (p := 708) (q := 0) (by omega) (by omega) (by omega) st
          rw [if_neg hz, if_neg hz, if_neg (by decide), if_pos rfl, take_e, show f_X8_copies ((354 : Int32) * 1 + 354) 0 st = some g from eg, bq1, rou_e, bq1]
          have e296 : g 296 = nR1 := by
            have := g1 296 (by omega)
            rw [Nat.zero_add] at this
            rw [this, q.2.1.1]; exact q.2.2.1.1
          rw [e296]
          refine ⟨_, _, _, _, _, _, _, _, _, _, _, _, _, _, _, a, b, c, d, rfl, rfl, q.took (fun i hi => ?_), fun j hj => g2 j (by omega), Or.inl ⟨rfl, rfl, rfl⟩⟩
          have := g1 i hi
          rw [Nat.zero_add] at this
          exact this
  · rw [if_neg (show ¬ ((0 : Int64).toInt ≤ x.toInt ∧ x.toInt ≤ (1 : Int64).toInt) from hx)]
    by_cases h2 : x.toInt < 0
    · rw [if_pos (show x < 0 by rw [li, l0]; exact h2)]
      exact ⟨_, _, _, _, _, _, _, _, _, _, _, _, _, _, _, _, _, _, _, rfl, rfl, h, fun _ _ => rfl, ht⟩
    · rw [if_neg (show ¬ x < 0 from fun z => h2 (by rw [li, l0] at z; exact z)), if_neg (show ¬ x < 2 from fun z => by rw [li] at z; have : x.toInt < 2 := z; omega)]
      exact ⟨_, _, _, _, _, _, _, _, _, _, _, _, _, _, _, _, _, _, _, rfl, rfl, h, fun _ _ => rfl, ht⟩
end IMAGES
