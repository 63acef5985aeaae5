/-! pure rows: numbers -/
theorem bq1 {α γ : Type} (a : α) (k : α → Option γ) : bn1 (some a) k = k a := rfl
theorem bq2 {α β γ : Type} (a : α) (b : β) (k : α → β → Option γ) : bn2 (some (a, b)) k = k a b := rfl
theorem bq3 {α β δ γ : Type} (a : α) (b : β) (d : δ) (k : α → β → δ → Option γ) : bn3 (some (a, b, d)) k = k a b d := rfl
theorem tt (x : Int32) : x.toInt64.toInt = x.toInt := by simp
theorem in_t (x a b : Int64) : f_X8_in x a b = some (if a.toInt ≤ x.toInt ∧ x.toInt ≤ b.toInt then 1 else 0) := by
  unfold f_X8_in
  by_cases h1 : lg_cmp x a < 0
  · rw [if_pos h1, if_neg]
    have := (lg_cmp_lt x a).mp h1
    rw [Int64.lt_iff_toInt_lt] at this
    omega
  · rw [if_neg h1]
    have e1 : ¬ x < a := fun h => h1 ((lg_cmp_lt x a).mpr h)
    rw [Int64.lt_iff_toInt_lt] at e1
    by_cases h2 : 0 < lg_cmp x b
    · rw [if_pos h2, if_neg]
      have := (lg_cmp_gt x b).mp h2
      rw [Int64.lt_iff_toInt_lt] at this
      omega
    · rw [if_neg h2, if_pos]
      have e2 : ¬ b < x := fun h => h2 ((lg_cmp_gt x b).mpr h)
      rw [Int64.lt_iff_toInt_lt] at e2
      omega
theorem ite01 {α : Type} {c : Prop} [Decidable c] (A B : α) : (if (if c then (1 : Int32) else 0) = 0 then A else B) = if c then B else A := by
  by_cases h : c
  · rw [if_pos h, if_pos h, if_neg (by decide)]
  · rw [if_neg h, if_neg h, if_pos rfl]
theorem ck01 {α : Type} {c : Prop} [Decidable c] (k : Option α) : ck ((if c then (1 : Int32) else 0) = 0 ∨ (if c then (1 : Int32) else 0) = 1) k = k := by
  refine ck_e ?_
  by_cases h : c
  · rw [if_pos h]; exact Or.inr rfl
  · rw [if_neg h]; exact Or.inl rfl
theorem li {a b : Int32} : a < b ↔ a.toInt < b.toInt := Int32.lt_iff_toInt_lt
theorem le {a b : Int32} : a ≤ b ↔ a.toInt ≤ b.toInt := Int32.le_iff_toInt_le
theorem ei {a b : Int32} : a = b ↔ a.toInt = b.toInt := Int32.toInt_inj.symm
theorem rg (x : Int32) : -2147483648 ≤ x.toInt ∧ x.toInt < 2147483648 := by
  have h1 := Int32.le_toInt x
  have h2 := Int32.toInt_lt x
  constructor
  · simpa using h1
  · simpa using h2
theorem addI {x y : Int32} (h1 : -2147483648 ≤ x.toInt + y.toInt) (h2 : x.toInt + y.toInt < 2147483648) : (x + y).toInt = x.toInt + y.toInt := by
  rw [Int32.toInt_add]
  exact Int.bmod_eq_of_le (by omega) (by omega)
theorem subI {x y : Int32} (h1 : -2147483648 ≤ x.toInt - y.toInt) (h2 : x.toInt - y.toInt < 2147483648) : (x - y).toInt = x.toInt - y.toInt := by
  rw [Int32.toInt_sub]
  exact Int.bmod_eq_of_le (by omega) (by omega)
theorem cl_i {x : Int32} : x.toNatClampNeg = x.toInt.toNat := rfl
theorem vin {x : Int32} {n : Nat} (h1 : 0 ≤ x.toInt) (h2 : x.toInt < n) : vp_in x n := vp_in_iff.mpr ⟨h1, h2⟩
theorem ckI {α : Type} {x : Int32} {n : Nat} {k : Option α} (h1 : 0 ≤ x.toInt) (h2 : x.toInt < n) : cki x n k = k := cki_e (vin h1 h2)
theorem nT {n : Nat} (h : n < 2147483648) : (nI n).toInt = n := nI_toInt h
theorem nOf {x : Int32} (h : 0 ≤ x.toInt) : ∃ j : Nat, j < 2147483648 ∧ x = nI j ∧ x.toInt = j := by
  refine ⟨x.toInt.toNat, ?_, ?_, ?_⟩
  · have := rg x; omega
  · rw [ei, nT (by have := rg x; omega)]; omega
  · omega
theorem nC {n : Nat} (h : n < 2147483648) : (nI n).toNatClampNeg = n := nI_clamp h
theorem q0 : ((0 : Int64)).toInt = 0 := rfl
theorem l0 : ((0 : Int32)).toInt = 0 := rfl
/-! THE TAPE -/
def TapeR (len : Int32) (bytes : Nat → Int32) (taped : Int32) (tape : Nat → Int32) : Prop := ∃ k : Nat, k ≤ 320 ∧ len = nI k ∧ taped = nI k ∧ ∀ j : Nat, j < k → bytes j = tape j ∧ 0 ≤ (tape j).toInt ∧ (tape j).toInt < 128
theorem p_feed (x len : Int32) (bytes : Nat → Int32) (taped : Int32) (tape : Nat → Int32) (h : TapeR len bytes taped tape) : ∃ r len' bytes' taped' tape', f_X7_feed x len bytes = some (r, len', bytes') ∧ f_X8_feed x taped tape = some (r, taped', tape') ∧ TapeR len' bytes' taped' tape' := by
  obtain ⟨k, hk, rfl, rfl, hb⟩ := h
  have hkT : (nI k).toInt = k := nT (by omega)
  unfold f_X7_feed f_X8_feed
  simp only [in_t, tt, bq1, ite01]
  rw [show ((0 : Int64)).toInt = 0 from rfl, show ((127 : Int64)).toInt = 127 from rfl]
  by_cases h1 : 0 ≤ x.toInt ∧ x.toInt ≤ 127
  · rw [if_neg (by rw [li, l0]; omega), if_pos (by rw [le]; exact h1.2), if_pos h1]
    by_cases h2 : k = 320
    · subst h2
      rw [if_neg (by rw [li, hkT]; decide), if_pos (show nI 320 = 320 from rfl)]
      exact ⟨_, _, _, _, _, rfl, rfl, 320, by omega, rfl, rfl, hb⟩
    · rw [if_pos (by rw [li, hkT]; show (k : Int) < 320; omega), if_neg (by rw [ei, hkT]; show ¬ (k : Int) = 320; omega), ckI (by omega) (by omega), ckI (by omega) (by omega)]
      refine ⟨_, _, _, _, _, rfl, rfl, k + 1, by omega, (nI_1 k), (nI_1 k), fun j hj => ?_⟩
      rw [nC (by omega)]
      by_cases hjk : j = k
      · subst hjk
        rw [pk_us, pk_us]
        exact ⟨rfl, h1.1, by omega⟩
      · rw [pk_un hjk, pk_un hjk]
        exact hb j (by omega)
  · rw [if_neg h1]
    by_cases h2 : x.toInt < 0
    · rw [if_pos (by rw [li, l0]; exact h2)]
      exact ⟨_, _, _, _, _, rfl, rfl, k, hk, rfl, rfl, hb⟩
    · rw [if_neg (by rw [li, l0]; exact h2), if_neg (by rw [le]; show ¬ x.toInt ≤ 127; omega)]
      exact ⟨_, _, _, _, _, rfl, rfl, k, hk, rfl, rfl, hb⟩
theorem p_end (x len : Int32) (bytes : Nat → Int32) (taped : Int32) (tape : Nat → Int32) (h : TapeR len bytes taped tape) : ∃ r len' taped', f_X7_end x len = some (r, len') ∧ f_X8_end x taped = some (r, taped') ∧ TapeR len' bytes taped' tape := by
  obtain ⟨k, hk, rfl, rfl, hb⟩ := h
  have hkT : (nI k).toInt = k := nT (by omega)
  unfold f_X7_end f_X8_end
  simp only [in_t, tt, bq1, ite01]
  rw [show ((0 : Int64)).toInt = 0 from rfl]
  by_cases h1 : 0 ≤ x.toInt ∧ x.toInt ≤ (nI k).toInt
  · rw [if_neg (by rw [li, l0]; omega), if_pos (by rw [le]; exact h1.2), if_pos h1]
    obtain ⟨j, hj, rfl, hjT⟩ := nOf h1.1
    exact ⟨_, _, _, rfl, rfl, j, by omega, rfl, rfl, fun i hi => hb i (by omega)⟩
  · rw [if_neg h1]
    by_cases h2 : x.toInt < 0
    · rw [if_pos (by rw [li, l0]; exact h2)]
      exact ⟨_, _, _, rfl, rfl, k, hk, rfl, rfl, hb⟩
    · rw [if_neg (by rw [li, l0]; exact h2), if_neg (by rw [le]; omega)]
      exact ⟨_, _, _, rfl, rfl, k, hk, rfl, rfl, hb⟩
/-! tables -/
theorem mulN (a b : Nat) : nI a * nI b = nI (a * b) := pk_mul a b
theorem at_in {i c w k N : Nat} {f : Nat → Int32} (hi : i < k) (hc : c < w) (hN : k * w ≤ N) (hB : N < 2147483648) : f_X3_at (nI i) (nI c) (nI w) (nI k) N f = some (f (i * w + c)) := by
  have hw : 0 < w := by omega
  have h1 : i * w + c < k * w := by
    have : (i + 1) * w ≤ k * w := Nat.mul_le_mul_right w hi
    rw [Nat.succ_mul] at this
    omega
  have hkw : k ≤ k * w := Nat.le_mul_of_pos_right k hw
  have hww : w ≤ k * w := Nat.le_mul_of_pos_left w (by omega)
  unfold f_X3_at
  rw [if_neg (by rw [li, l0, nT (by omega)]; omega), if_neg (by rw [le, nT (by omega), nT (by omega)]; omega), if_neg (by rw [li, l0, nT (by omega)]; omega), if_neg (by rw [le, nT (by omega), nT (by omega)]; omega), mulN, nI_add, ckI (by rw [nT (by omega)]; omega) (by rw [nT (by omega)]; omega), nC (by omega)]
theorem at_out {x : Int32} {c k N : Nat} {w : Int32} {f : Nat → Int32} (hk : k < 2147483648) (hx : x.toInt < 0 ∨ (k : Int) ≤ x.toInt) : f_X3_at x (nI c) w (nI k) N f = some (-4) := by
  unfold f_X3_at
  by_cases h1 : x.toInt < 0
  · rw [if_pos (by rw [li, l0]; exact h1)]
  · rw [if_neg (by rw [li, l0]; exact h1), if_pos (by rw [le, nT hk]; omega)]
theorem has_e (x : Int32) {k : Nat} (hk : k < 2147483648) : f_X3_has x (nI k) = some (if 0 ≤ x.toInt ∧ x.toInt < k then 1 else 0) := by
  unfold f_X3_has
  by_cases h1 : x.toInt < 0
  · rw [if_pos (by rw [li, l0]; exact h1), if_neg (by omega)]
  · rw [if_neg (by rw [li, l0]; exact h1)]
    by_cases h2 : (k : Int) ≤ x.toInt
    · rw [if_pos (by rw [le, nT hk]; exact h2), if_neg (by omega)]
    · rw [if_neg (by rw [le, nT hk]; exact h2), if_pos (by omega)]
/-- the first that has an address, from r on, of n -/
def own (F T : Nat → Int32) (a : Int32) : Nat → Nat → Int32
  | 0, _ => -4
  | n + 1, r => if (F r).toInt ≤ a.toInt ∧ a.toInt ≤ (T r).toInt then nI r else own F T a n (r + 1)
theorem own_cong {F T F' T' : Nat → Int32} (a : Int32) : ∀ (n r : Nat), (∀ i, r ≤ i → i < r + n → F i = F' i ∧ T i = T' i) → own F T a n r = own F' T' a n r
  | 0, _, _ => rfl
  | n + 1, r, h => by
    rw [own, own, (h r (by omega) (by omega)).1, (h r (by omega) (by omega)).2, own_cong a n (r + 1) (fun i h1 h2 => h i (by omega) (by omega))]
theorem own_some (F T : Nat → Int32) (a : Int32) : ∀ (n r : Nat), own F T a n r = -4 ∧ (∀ i, r ≤ i → i < r + n → ¬ ((F i).toInt ≤ a.toInt ∧ a.toInt ≤ (T i).toInt)) ∨ ∃ i, r ≤ i ∧ i < r + n ∧ own F T a n r = nI i ∧ (F i).toInt ≤ a.toInt ∧ a.toInt ≤ (T i).toInt
  | 0, r => Or.inl ⟨rfl, fun i h1 h2 => by omega⟩
  | n + 1, r => by
    rw [own]
    by_cases h : (F r).toInt ≤ a.toInt ∧ a.toInt ≤ (T r).toInt
    · rw [if_pos h]
      exact Or.inr ⟨r, by omega, by omega, rfl, h⟩
    · rw [if_neg h]
      rcases own_some F T a n (r + 1) with ⟨h1, h2⟩ | ⟨i, h1, h2, h3⟩
      · refine Or.inl ⟨h1, fun i h3 h4 => ?_⟩
        by_cases hi : i = r
        · subst hi; exact h
        · exact h2 i (by omega) (by omega)
      · exact Or.inr ⟨i, by omega, by omega, h3⟩
theorem meets_e {r k : Nat} {f : Nat → Int32} {F T : Nat → Int32} (x y : Int32) (hr : r < k) (hk : k ≤ 8) (h : ∀ r, r < k → f (3 * r) = F r ∧ f (3 * r + 1) = T r) : f_X6_meets (nI r) x y 3 (nI k) f = some (if (F r).toInt ≤ y.toInt ∧ x.toInt ≤ (T r).toInt then 1 else 0) := by
  unfold f_X6_meets
  rw [show ((0 : Int32)) = nI 0 from rfl, show ((1 : Int32)) = nI 1 from rfl, show ((3 : Int32)) = nI 3 from rfl, at_in hr (by omega) (by omega) (by omega), at_in hr (by omega) (by omega) (by omega), bq1, bq1, Nat.mul_comm r 3, Nat.add_zero, (h r hr).1, (h r hr).2]
  by_cases h1 : y.toInt < (F r).toInt
  · rw [if_pos (by rw [li]; exact h1), if_neg (by omega)]
  · rw [if_neg (by rw [li]; exact h1)]
    by_cases h2 : (T r).toInt < x.toInt
    · rw [if_pos (by rw [li]; exact h2), if_neg (by omega)]
    · rw [if_neg (by rw [li]; exact h2), if_pos (by omega)]
theorem ownerOf_L {k : Nat} {f : Nat → Int32} {F T : Nat → Int32} (a : Int32) (hk : k ≤ 8) (h : ∀ r, r < k → f (3 * r) = F r ∧ f (3 * r + 1) = T r) : ∀ (n r : Nat), r ≤ k → k - r < n → f_X6_ownerOf_L2 3 (nI k) f n a (nI r) = some (own F T a (k - r) r)
  | 0, r, _, h2 => by omega
  | n + 1, r, h1, h2 => by
    rw [f_X6_ownerOf_L2]
    by_cases hr : r = k
    · subst hr
      rw [if_pos (Int32.le_refl _), Nat.sub_self]; rfl
    · rw [if_neg (by rw [le, nT (by omega), nT (by omega)]; omega), meets_e a a (by omega) hk h, bq1, ite01]
      obtain ⟨m, hm⟩ : ∃ m, k - r = m + 1 := ⟨k - r - 1, by omega⟩
      rw [hm, own]
      by_cases hc : (F r).toInt ≤ a.toInt ∧ a.toInt ≤ (T r).toInt
      · rw [if_pos hc, if_pos hc]
      · rw [if_neg hc, if_neg hc, nI_1, ownerOf_L a hk h n (r + 1) (by omega) (by omega), show k - (r + 1) = m by omega]
theorem ownerOf_e {k : Nat} {f : Nat → Int32} {F T : Nat → Int32} (a : Int32) (hk : k ≤ 8) (h : ∀ r, r < k → f (3 * r) = F r ∧ f (3 * r + 1) = T r) : f_X6_ownerOf a 3 (nI k) f = some (own F T a k 0) := by
  unfold f_X6_ownerOf
  rw [show ((0 : Int32)) = nI 0 from rfl, ownerOf_L a hk h FUEL 0 (by omega) (by unfold FUEL; omega), Nat.sub_zero]
theorem rou_e {st : Nat → Int32} : f_X8_routines st = some (st 296) := by
  unfold f_X8_routines
  rw [ckI (by decide) (by decide)]; rfl
theorem isOf_e {st : Nat → Int32} {r : Nat} (a : Int32) (hr : r < 1000) : f_X8_isOf (nI r) a st = some (if (st r).toInt ≤ a.toInt ∧ a.toInt ≤ (st (8 + r)).toInt then 1 else 0) := by
  unfold f_X8_isOf
  rw [show ((8 : Int32)) = nI 8 from rfl, nI_add, ckI (by rw [nT (by omega)]; omega) (by rw [nT (by omega)]; omega), ckI (by rw [nT (by omega)]; omega) (by rw [nT (by omega)]; omega), in_t, bq1, ck01, tt, tt, tt, nC (by omega), nC (by omega)]
theorem whoseOf_L {st : Nat → Int32} {k : Nat} (a : Int32) (hk : k ≤ 8) (hs : st 296 = nI k) : ∀ (n r : Nat), r ≤ k → k - r < n → f_X8_whoseOf_L2 st n a (nI r) = some (own st (fun i => st (8 + i)) a (k - r) r)
  | 0, r, _, h2 => by omega
  | n + 1, r, h1, h2 => by
    rw [f_X8_whoseOf_L2, rou_e, bq1, hs]
    by_cases hr : r = k
    · subst hr
      rw [if_pos (Int32.le_refl _), Nat.sub_self]; rfl
    · rw [if_neg (by rw [le, nT (by omega), nT (by omega)]; omega), isOf_e a (by omega), bq1, ite01]
      obtain ⟨m, hm⟩ : ∃ m, k - r = m + 1 := ⟨k - r - 1, by omega⟩
      rw [hm, own]
      by_cases hc : (st r).toInt ≤ a.toInt ∧ a.toInt ≤ (st (8 + r)).toInt
      · rw [if_pos hc, if_pos hc]
      · rw [if_neg hc, if_neg hc, nI_1, whoseOf_L a hk hs n (r + 1) (by omega) (by omega), show k - (r + 1) = m by omega]
theorem whoseOf_e {st : Nat → Int32} {k : Nat} (a : Int32) (hk : k ≤ 8) (hs : st 296 = nI k) : f_X8_whoseOf a st = some (own st (fun i => st (8 + i)) a k 0) := by
  unfold f_X8_whoseOf
  rw [show ((0 : Int32)) = nI 0 from rfl, whoseOf_L a hk hs FUEL 0 (by omega) (by unfold FUEL; omega), Nat.sub_zero]
/-- an op is one that a text can tell -/
def OpV (kd v n : Int32) : Prop :=
  (kd = 0 ∧ 0 ≤ n.toInt ∧ n.toInt ≤ 99) ∨ (kd = 1 ∧ 0 ≤ v.toInt ∧ v.toInt ≤ 4 ∧ 0 ≤ n.toInt ∧ n.toInt ≤ 99) ∨ (kd = 2 ∧ 0 ≤ n.toInt ∧ n.toInt ≤ 99) ∨ (kd = 3 ∧ 0 ≤ v.toInt ∧ v.toInt ≤ 5 ∧ v.toInt ≠ 4 ∧ 0 ≤ n.toInt ∧ n.toInt ≤ 99) ∨ (kd = 4 ∧ 0 ≤ v.toInt ∧ v.toInt ≤ 5 ∧ v.toInt ≠ 4) ∨ (kd = 5 ∧ 0 ≤ v.toInt ∧ v.toInt ≤ 5 ∧ v.toInt ≠ 4 ∧ 0 ≤ n.toInt ∧ n.toInt ≤ 5) ∨ kd = 6 ∨ kd = 7
/-- a page is as texts and changes can make it -/
def PgV (pg : Nat → Int32) (kR kO : Nat) : Prop :=
  (∀ r, r < kR → 0 ≤ (pg r).toInt ∧ (pg r).toInt ≤ (pg (8 + r)).toInt ∧ (pg (8 + r)).toInt ≤ 999 ∧ (pg (16 + r) = 0 ∨ pg (16 + r) = 1)) ∧
  (∀ r, r < kR → ∀ q, q < r → (pg (8 + q)).toInt < (pg r).toInt ∨ (pg (8 + r)).toInt < (pg q).toInt) ∧
  (∀ i, i < kO → OpV (pg (24 + i)) (pg (64 + i)) (pg (104 + i))) ∧
  (∀ v, v < 6 → 0 ≤ (pg (300 + v)).toInt ∧ (pg (300 + v)).toInt ≤ 9999) ∧ (∀ i, i < 48 → 0 ≤ (pg (306 + i)).toInt ∧ (pg (306 + i)).toInt ≤ 9999)
/-- a world of the class and a page of the reference -/
def WR (nR : Int32) (fR : Nat → Int32) (nO : Int32) (fO : Nat → Int32) (nL : Int32) (fL : Nat → Int32) (nC : Int32) (fC rg wd pg : Nat → Int32) (kR kO kL kC : Nat) : Prop :=
  (kR ≤ 8 ∧ kO ≤ 40 ∧ kL ≤ 16 ∧ kC ≤ 16) ∧ (nR = nI kR ∧ nO = nI kO ∧ nL = nI kL ∧ nC = nI kC) ∧ (pg 296 = nI kR ∧ pg 297 = nI kO ∧ pg 298 = nI kL ∧ pg 299 = nI kC) ∧
  (∀ r, r < kR → fR (3 * r) = pg r ∧ fR (3 * r + 1) = pg (8 + r) ∧ fR (3 * r + 2) = pg (16 + r)) ∧
  (∀ i, i < kO → ∀ c, c < 4 → fO (4 * i + c) = pg (24 + 40 * c + i)) ∧ (∀ i, i < kL → ∀ c, c < 5 → fL (5 * i + c) = pg (184 + 5 * i + c)) ∧ (∀ i, i < kC → ∀ c, c < 2 → fC (2 * i + c) = pg (264 + 2 * i + c)) ∧
  (∀ v, v < 6 → rg v = pg (300 + v)) ∧ (∀ i, i < 48 → wd i = pg (306 + i)) ∧ PgV pg kR kO
section WREL
variable {nR : Int32} {fR : Nat → Int32} {nO : Int32} {fO : Nat → Int32} {nL : Int32} {fL : Nat → Int32} {nC : Int32} {fC rg wd st : Nat → Int32} {kR kO kL kC : Nat}
theorem WR.owner (h : WR nR fR nO fO nL fL nC fC rg wd st kR kO kL kC) (a : Int32) : f_X6_ownerOf a 3 nR fR = some (own st (fun i => st (8 + i)) a kR 0) ∧ f_X8_whoseOf a st = some (own st (fun i => st (8 + i)) a kR 0) := by
  obtain ⟨hk, hn, hs, hr, -⟩ := h
  rw [hn.1]
  exact ⟨ownerOf_e a hk.1 (fun r h => ⟨(hr r h).1, (hr r h).2.1⟩), whoseOf_e a hk.1 hs.1⟩
theorem p_whose (h : WR nR fR nO fO nL fL nC fC rg wd st kR kO kL kC) (x : Int32) : ∃ r, f_X7_whose x 3 nR fR = some r ∧ f_X8_whose x st = some r := by
  unfold f_X7_whose f_X8_whose
  rw [(h.owner x).1, (h.owner x).2]
  exact ⟨_, rfl, rfl⟩
end WREL
theorem reg_e (x : Int32) : f_X7_isRegister x = some (if 0 ≤ x.toInt ∧ x.toInt ≤ 5 then 1 else 0) := by
  unfold f_X7_isRegister
  by_cases h1 : x.toInt < 0
  · rw [if_pos (by rw [li, l0]; exact h1), if_neg (by omega)]
  · rw [if_neg (by rw [li, l0]; exact h1)]
    by_cases h2 : x.toInt ≤ 5
    · rw [if_neg (by rw [le]; show ¬ (6 : Int) ≤ x.toInt; omega), if_pos (by omega)]
    · rw [if_pos (by rw [le]; show (6 : Int) ≤ x.toInt; omega), if_neg (by omega)]
theorem word_e (x : Int32) : f_X7_isWord x = some (if 0 ≤ x.toInt ∧ x.toInt ≤ 47 then 1 else 0) := by
  unfold f_X7_isWord
  by_cases h1 : x.toInt < 0
  · rw [if_pos (by rw [li, l0]; exact h1), if_neg (by omega)]
  · rw [if_neg (by rw [li, l0]; exact h1)]
    by_cases h2 : x.toInt ≤ 47
    · rw [if_neg (by rw [le]; show ¬ (48 : Int) ≤ x.toInt; omega), if_pos (by omega)]
    · rw [if_pos (by rw [le]; show (48 : Int) ≤ x.toInt; omega), if_neg (by omega)]
theorem num_e (x : Int32) : f_X7_isNumber x = some (if 0 ≤ x.toInt ∧ x.toInt ≤ 9999 then 1 else 0) := by
  unfold f_X7_isNumber
  by_cases h1 : x.toInt < 0
  · rw [if_pos (by rw [li, l0]; exact h1), if_neg (by omega)]
  · rw [if_neg (by rw [li, l0]; exact h1)]
    by_cases h2 : x.toInt ≤ 9999
    · rw [if_neg (by rw [li]; show ¬ (9999 : Int) < x.toInt; omega), if_pos (by omega)]
    · rw [if_pos (by rw [li]; show (9999 : Int) < x.toInt; omega), if_neg (by omega)]
theorem thr_e (x : Int32) : f_X7_isThrown x = some (if 1 ≤ x.toInt ∧ x.toInt ≤ 9 then 1 else 0) := by
  unfold f_X7_isThrown
  by_cases h1 : x.toInt ≤ 0
  · rw [if_pos (by rw [le, l0]; exact h1), if_neg (by omega)]
  · rw [if_neg (by rw [le, l0]; exact h1)]
    by_cases h2 : x.toInt ≤ 9
    · rw [if_neg (by rw [li]; show ¬ (9 : Int) < x.toInt; omega), if_pos (by omega)]
    · rw [if_pos (by rw [li]; show (9 : Int) < x.toInt; omega), if_neg (by omega)]
theorem lan_e (x : Int32) : f_X7_isLane x = some (if 0 ≤ x.toInt ∧ x.toInt ≤ 2 then 1 else 0) := by
  unfold f_X7_isLane
  by_cases h1 : x.toInt < 0
  · rw [if_pos (by rw [li, l0]; exact h1), if_neg (by omega)]
  · rw [if_neg (by rw [li, l0]; exact h1)]
    by_cases h2 : x.toInt ≤ 2
    · rw [if_neg (by rw [le]; show ¬ (3 : Int) ≤ x.toInt; omega), if_pos (by omega)]
    · rw [if_pos (by rw [le]; show (3 : Int) ≤ x.toInt; omega), if_neg (by omega)]
theorem she_e (x : Int32) : f_X7_isSheet x = some (if 0 ≤ x.toInt ∧ x.toInt ≤ 3 then 1 else 0) := by
  unfold f_X7_isSheet
  by_cases h1 : x.toInt < 0
  · rw [if_pos (by rw [li, l0]; exact h1), if_neg (by omega)]
  · rw [if_neg (by rw [li, l0]; exact h1)]
    by_cases h2 : x.toInt ≤ 3
    · rw [if_neg (by rw [le]; show ¬ (4 : Int) ≤ x.toInt; omega), if_pos (by omega)]
    · rw [if_pos (by rw [le]; show (4 : Int) ≤ x.toInt; omega), if_neg (by omega)]
theorem reg8_e (x : Int32) : f_X8_isRegister x = some (if 0 ≤ x.toInt ∧ x.toInt ≤ 5 then 1 else 0) := by
  unfold f_X8_isRegister
  rw [in_t, bq1, ck01, tt]; rfl
theorem word8_e (x : Int32) : f_X8_isWord x = some (if 0 ≤ x.toInt ∧ x.toInt ≤ 47 then 1 else 0) := by
  unfold f_X8_isWord
  rw [in_t, bq1, ck01, tt]; rfl
theorem bec_no (at_ x : Int32) (st : Nat → Int32) {c : Prop} [Decidable c] (h : ¬ (c ∧ 0 ≤ x.toInt ∧ x.toInt ≤ 9999)) : f_X8_becomes (if c then 1 else 0) at_ x st = some (-1, st) := by
  unfold f_X8_becomes
  rw [ite01]
  by_cases hc : c
  · rw [if_pos hc, in_t, bq1, tt, ite01, if_neg (show ¬ (((0 : Int64)).toInt ≤ x.toInt ∧ x.toInt ≤ ((9999 : Int64)).toInt) from fun z => h ⟨hc, z⟩)]
  · rw [if_neg hc]
theorem bec_yes {j : Nat} (x : Int32) (st : Nat → Int32) {c : Prop} [Decidable c] (hj : j < 1416) (hc : c) (h1 : 0 ≤ x.toInt) (h2 : x.toInt ≤ 9999) : f_X8_becomes (if c then 1 else 0) (nI j) x st = some (st j, upd st j x) := by
  unfold f_X8_becomes
  rw [ite01, if_pos hc, in_t, bq1, tt, ite01, if_pos (show ((0 : Int64)).toInt ≤ x.toInt ∧ x.toInt ≤ ((9999 : Int64)).toInt from ⟨h1, h2⟩), ckI (by rw [nT (by omega)]; omega) (by rw [nT (by omega)]; omega), ckI (by rw [nT (by omega)]; omega) (by rw [nT (by omega)]; omega), nC (by omega)]
section WREL2
variable {nR : Int32} {fR : Nat → Int32} {nO : Int32} {fO : Nat → Int32} {nL : Int32} {fL : Nat → Int32} {nC' : Int32} {fC rg wd st : Nat → Int32} {kR kO kL kC : Nat}
/-- a store into a register or a word -/
theorem WR.put (h : WR nR fR nO fO nL fL nC' fC rg wd st kR kO kL kC) {v : Nat} (hv : v < 6) (x : Int32) (h1 : 0 ≤ x.toInt) (h2 : x.toInt ≤ 9999) : WR nR fR nO fO nL fL nC' fC (upd rg v x) wd (upd st (300 + v) x) kR kO kL kC := by
  obtain ⟨hk, hn, hs, hr, ho, hl, hc, hg, hw, hv1, hv2, hv3, hv4, hv5⟩ := h
  have ne : ∀ j, j ≠ 300 + v → upd st (300 + v) x j = st j := fun j hj => pk_un hj
  refine ⟨hk, hn, ⟨?_, ?_, ?_, ?_⟩, fun r hr' => ?_, fun i hi c hc' => ?_, fun i hi c hc' => ?_, fun i hi c hc' => ?_, fun u hu => ?_, fun i hi => ?_, fun r hr' => ?_, fun r hr' q hq => ?_, fun i hi => ?_, fun u hu => ?_, fun i hi => ?_⟩
  · rw [ne _ (by omega)]; exact hs.1
  · rw [ne _ (by omega)]; exact hs.2.1
  · rw [ne _ (by omega)]; exact hs.2.2.1
  · rw [ne _ (by omega)]; exact hs.2.2.2
  · rw [ne _ (by omega), ne _ (by omega), ne _ (by omega)]; exact hr r hr'
  · rw [ne _ (by omega)]; exact ho i hi c hc'
  · rw [ne _ (by omega)]; exact hl i hi c hc'
  · rw [ne _ (by omega)]; exact hc i hi c hc'
  · by_cases e : u = v
    · subst e; rw [pk_us, pk_us]
    · rw [pk_un e, ne _ (by omega)]; exact hg u hu
  · rw [ne _ (by omega)]; exact hw i hi
  · rw [ne _ (by omega), ne _ (by omega), ne _ (by omega)]; exact hv1 r hr'
  · rw [ne _ (by omega), ne _ (by omega), ne _ (by omega), ne _ (by omega)]; exact hv2 r hr' q hq
  · rw [ne _ (by omega), ne _ (by omega), ne _ (by omega)]; exact hv3 i hi
  · by_cases e : u = v
    · subst e; rw [pk_us]; exact ⟨h1, h2⟩
    · rw [ne _ (by omega)]; exact hv4 u hu
  · rw [ne _ (by omega)]; exact hv5 i hi
theorem WR.poke (h : WR nR fR nO fO nL fL nC' fC rg wd st kR kO kL kC) {v : Nat} (hv : v < 48) (x : Int32) (h1 : 0 ≤ x.toInt) (h2 : x.toInt ≤ 9999) : WR nR fR nO fO nL fL nC' fC rg (upd wd v x) (upd st (306 + v) x) kR kO kL kC := by
  obtain ⟨hk, hn, hs, hr, ho, hl, hc, hg, hw, hv1, hv2, hv3, hv4, hv5⟩ := h
  have ne : ∀ j, j ≠ 306 + v → upd st (306 + v) x j = st j := fun j hj => pk_un hj
  refine ⟨hk, hn, ⟨?_, ?_, ?_, ?_⟩, fun r hr' => ?_, fun i hi c hc' => ?_, fun i hi c hc' => ?_, fun i hi c hc' => ?_, fun u hu => ?_, fun u hu => ?_, fun r hr' => ?_, fun r hr' q hq => ?_, fun i hi => ?_, fun u hu => ?_, fun u hu => ?_⟩
  · rw [ne _ (by omega)]; exact hs.1
  · rw [ne _ (by omega)]; exact hs.2.1
  · rw [ne _ (by omega)]; exact hs.2.2.1
  · rw [ne _ (by omega)]; exact hs.2.2.2
  · rw [ne _ (by omega), ne _ (by omega), ne _ (by omega)]; exact hr r hr'
  · rw [ne _ (by omega)]; exact ho i hi c hc'
  · rw [ne _ (by omega)]; exact hl i hi c hc'
  · rw [ne _ (by omega)]; exact hc i hi c hc'
  · rw [ne _ (by omega)]; exact hg u hu
  · by_cases e : u = v
    · subst e; rw [pk_us, pk_us]
    · rw [pk_un e, ne _ (by omega)]; exact hw u hu
  · rw [ne _ (by omega), ne _ (by omega), ne _ (by omega)]; exact hv1 r hr'
  · rw [ne _ (by omega), ne _ (by omega), ne _ (by omega), ne _ (by omega)]; exact hv2 r hr' q hq
  · rw [ne _ (by omega), ne _ (by omega), ne _ (by omega)]; exact hv3 i hi
  · rw [ne _ (by omega)]; exact hv4 u hu
  · by_cases e : u = v
    · subst e; rw [pk_us]; exact ⟨h1, h2⟩
    · rw [ne _ (by omega)]; exact hv5 u hu
theorem p_put (h : WR nR fR nO fO nL fL nC' fC rg wd st kR kO kL kC) (v x : Int32) : ∃ r rg' st', f_X7_put v x rg = some (r, rg') ∧ f_X8_put v x st = some (r, st') ∧ (∀ j, j < 354 → j < 300 ∨ 306 ≤ j → st' j = st j) ∧ (∀ j, 354 ≤ j → st' j = st j) ∧ WR nR fR nO fO nL fL nC' fC rg' wd st' kR kO kL kC := by
  unfold f_X7_put f_X8_put
  rw [reg_e, bq1, ite01, reg8_e, bq1]
  by_cases h1 : 0 ≤ v.toInt ∧ v.toInt ≤ 5
  · rw [if_pos h1, num_e, bq1, ite01]
    obtain ⟨j, hj, rfl, hjT⟩ := nOf h1.1
    by_cases h2 : 0 ≤ x.toInt ∧ x.toInt ≤ 9999
    · rw [if_pos h2, ckI (by omega) (by omega), ckI (by omega) (by omega), show ((300 : Int32)) = nI 300 from rfl, nI_add, bec_yes x st (by omega) h1 h2.1 h2.2, bq2, nC (by omega)]
      refine ⟨_, _, _, rfl, ?_, fun i hi hi2 => pk_un (by omega), fun i hi => pk_un (by omega), h.put (by omega) x h2.1 h2.2⟩
      rw [← h.2.2.2.2.2.2.2.1 j (by omega)]
    · rw [if_neg h2, bec_no _ _ _ (fun z => h2 z.2), bq2]
      exact ⟨_, _, _, rfl, rfl, fun _ _ _ => rfl, fun _ _ => rfl, h⟩
  · rw [if_neg h1, bec_no _ _ _ (fun z => h1 z.1), bq2]
    exact ⟨_, _, _, rfl, rfl, fun _ _ _ => rfl, fun _ _ => rfl, h⟩
theorem p_poke (h : WR nR fR nO fO nL fL nC' fC rg wd st kR kO kL kC) (v x : Int32) : ∃ r wd' st', f_X7_poke v x wd = some (r, wd') ∧ f_X8_poke v x st = some (r, st') ∧ (∀ j, 354 ≤ j → st' j = st j) ∧ WR nR fR nO fO nL fL nC' fC rg wd' st' kR kO kL kC := by
  unfold f_X7_poke f_X8_poke
  rw [word_e, bq1, ite01, word8_e, bq1]
  by_cases h1 : 0 ≤ v.toInt ∧ v.toInt ≤ 47
  · rw [if_pos h1, num_e, bq1, ite01]
    obtain ⟨j, hj, rfl, hjT⟩ := nOf h1.1
    by_cases h2 : 0 ≤ x.toInt ∧ x.toInt ≤ 9999
    · rw [if_pos h2, ckI (by omega) (by omega), ckI (by omega) (by omega), show ((306 : Int32)) = nI 306 from rfl, nI_add, bec_yes x st (by omega) h1 h2.1 h2.2, bq2, nC (by omega)]
      refine ⟨_, _, _, rfl, ?_, fun i hi => pk_un (by omega), h.poke (by omega) x h2.1 h2.2⟩
      rw [← h.2.2.2.2.2.2.2.2.1 j (by omega)]
    · rw [if_neg h2, bec_no _ _ _ (fun z => h2 z.2), bq2]
      exact ⟨_, _, _, rfl, rfl, fun _ _ => rfl, h⟩
  · rw [if_neg h1, bec_no _ _ _ (fun z => h1 z.1), bq2]
    exact ⟨_, _, _, rfl, rfl, fun _ _ => rfl, h⟩
theorem p_get (h : WR nR fR nO fO nL fL nC' fC rg wd st kR kO kL kC) (v : Int32) : ∃ r, f_X7_get v rg = some r ∧ f_X8_get v st = some r := by
  unfold f_X7_get f_X8_get
  rw [reg_e, bq1, ite01, reg8_e, bq1, ite01]
  by_cases h1 : 0 ≤ v.toInt ∧ v.toInt ≤ 5
  · obtain ⟨j, hj, rfl, hjT⟩ := nOf h1.1
    rw [if_pos h1, if_pos h1, show ((300 : Int32)) = nI 300 from rfl, nI_add, ckI (by omega) (by omega), ckI (by rw [nT (by omega)]; omega) (by rw [nT (by omega)]; omega), nC (by omega), nC (by omega), h.2.2.2.2.2.2.2.1 j (by omega)]
    exact ⟨_, rfl, rfl⟩
  · rw [if_neg h1, if_neg h1]
    exact ⟨_, rfl, rfl⟩
theorem p_peek (h : WR nR fR nO fO nL fL nC' fC rg wd st kR kO kL kC) (v : Int32) : ∃ r, f_X7_peek v wd = some r ∧ f_X8_peek v st = some r := by
  unfold f_X7_peek f_X8_peek
  rw [word_e, bq1, ite01, word8_e, bq1, ite01]
  by_cases h1 : 0 ≤ v.toInt ∧ v.toInt ≤ 47
  · obtain ⟨j, hj, rfl, hjT⟩ := nOf h1.1
    rw [if_pos h1, if_pos h1, show ((306 : Int32)) = nI 306 from rfl, nI_add, ckI (by omega) (by omega), ckI (by rw [nT (by omega)]; omega) (by rw [nT (by omega)]; omega), nC (by omega), nC (by omega), h.2.2.2.2.2.2.2.2.1 j (by omega)]
    exact ⟨_, rfl, rfl⟩
  · rw [if_neg h1, if_neg h1]
    exact ⟨_, rfl, rfl⟩
/-- a place of a table: in it, or BAD in both -/
theorem has8_e {st : Nat → Int32} {k : Nat} (x : Int32) (c : Int32) (hk : k ≤ 1000) (hc : vp_in c 1416) (hs : st c.toNatClampNeg = nI k) {α : Type} (A B : Option α) : cki c 1416 (bn1 (f_X8_in x.toInt64 0 (st c.toNatClampNeg - 1).toInt64) (fun r => if r = 0 then A else B)) = if 0 ≤ x.toInt ∧ x.toInt < k then B else A := by
  rw [cki_e hc, in_t, bq1, ite01, tt, tt, hs, subI (by rw [nT (by omega)]; show _ ≤ (k : Int) - 1; omega) (by rw [nT (by omega)]; show (k : Int) - 1 < _; omega), nT (by omega), q0]
  by_cases h1 : 0 ≤ x.toInt ∧ x.toInt < k
  · rw [if_pos h1, if_pos (show (0 : Int) ≤ x.toInt ∧ x.toInt ≤ (k : Int) - (1 : Int32).toInt from ⟨h1.1, by show x.toInt ≤ (k : Int) - 1; omega⟩)]
  · rw [if_neg h1, if_neg (show ¬ ((0 : Int) ≤ x.toInt ∧ x.toInt ≤ (k : Int) - (1 : Int32).toInt) from fun z => h1 ⟨z.1, by have : x.toInt ≤ (k : Int) - 1 := z.2; omega⟩)]
theorem p_op (h : WR nR fR nO fO nL fL nC' fC rg wd st kR kO kL kC) (x y : Int32) : ∃ r, f_X7_op x y 4 nO fO = some r ∧ f_X8_op x y st = some r := by
  obtain ⟨hk, hn, hs, hr, ho, -⟩ := h
  unfold f_X7_op f_X8_op
  rw [hn.2.1, has_e x (by omega), bq1, ite01, has8_e x 297 (by omega) (vin (by decide) (by decide)) hs.2.1]
  by_cases h1 : 0 ≤ x.toInt ∧ x.toInt < kO
  · rw [if_pos h1, if_pos h1]
    obtain ⟨j, hj, rfl, hjT⟩ := nOf h1.1
    by_cases h2 : 0 ≤ y.toInt ∧ y.toInt ≤ 3
    · obtain ⟨c, hc, rfl, hcT⟩ := nOf h2.1
      refine ⟨fO (4 * j + c), ?_, ?_⟩
      · rw [if_neg (by rw [li, l0]; omega), if_pos (by rw [li, hcT]; show (c : Int) < 4; omega), show ((4 : Int32)) = nI 4 from rfl, at_in (by omega) (by omega) (by omega) (by omega), bq1, Nat.mul_comm j 4]
      · rw [in_t, bq1, ite01, tt, if_pos (show ((0 : Int64)).toInt ≤ (nI c).toInt ∧ (nI c).toInt ≤ ((3 : Int64)).toInt from h2), show ((24 : Int32)) = nI 24 from rfl, show ((40 : Int32)) = nI 40 from rfl, mulN, nI_add, nI_add, ckI (by rw [nT (by omega)]; omega) (by rw [nT (by omega)]; omega), nC (by omega), ho j (by omega) c (by omega)]
    · refine ⟨-1, ?_, ?_⟩
      · by_cases h3 : y.toInt < 0
        · rw [if_pos (by rw [li, l0]; exact h3)]
        · rw [if_neg (by rw [li, l0]; exact h3), if_neg (by rw [li]; show ¬ y.toInt < 4; omega)]
      · rw [in_t, bq1, ite01, tt, if_neg (show ¬ (((0 : Int64)).toInt ≤ y.toInt ∧ y.toInt ≤ ((3 : Int64)).toInt) from h2)]
  · rw [if_neg h1, if_neg h1]
    exact ⟨_, rfl, rfl⟩
theorem p_landing (h : WR nR fR nO fO nL fL nC' fC rg wd st kR kO kL kC) (x y : Int32) : ∃ r, f_X7_landing x y 5 nL fL = some r ∧ f_X8_landing x y st = some r := by
  obtain ⟨hk, hn, hs, hr, ho, hl, -⟩ := h
  unfold f_X7_landing f_X8_landing
  rw [hn.2.2.1, has_e x (by omega), bq1, ite01, has8_e x 298 (by omega) (vin (by decide) (by decide)) hs.2.2.1]
  by_cases h1 : 0 ≤ x.toInt ∧ x.toInt < kL
  · rw [if_pos h1, if_pos h1]
    obtain ⟨j, hj, rfl, hjT⟩ := nOf h1.1
    by_cases h2 : 0 ≤ y.toInt ∧ y.toInt ≤ 4
    · obtain ⟨c, hc, rfl, hcT⟩ := nOf h2.1
      refine ⟨fL (5 * j + c), ?_, ?_⟩
      · rw [if_neg (by rw [li, l0]; omega), if_pos (by rw [li, hcT]; show (c : Int) < 5; omega), show ((5 : Int32)) = nI 5 from rfl, at_in (by omega) (by omega) (by omega) (by omega), bq1, Nat.mul_comm j 5]
      · rw [in_t, bq1, ite01, tt, if_pos (show ((0 : Int64)).toInt ≤ (nI c).toInt ∧ (nI c).toInt ≤ ((4 : Int64)).toInt from h2), show ((184 : Int32)) = nI 184 from rfl, show ((5 : Int32)) = nI 5 from rfl, mulN, nI_add, nI_add, ckI (by rw [nT (by omega)]; omega) (by rw [nT (by omega)]; omega), nC (by omega), hl j (by omega) c (by omega)]
    · refine ⟨-1, ?_, ?_⟩
      · by_cases h3 : y.toInt < 0
        · rw [if_pos (by rw [li, l0]; exact h3)]
        · rw [if_neg (by rw [li, l0]; exact h3), if_neg (by rw [li]; show ¬ y.toInt < 5; omega)]
      · rw [in_t, bq1, ite01, tt, if_neg (show ¬ (((0 : Int64)).toInt ≤ y.toInt ∧ y.toInt ≤ ((4 : Int64)).toInt) from h2)]
  · rw [if_neg h1, if_neg h1]
    exact ⟨_, rfl, rfl⟩
end WREL2
