/-! the law's start: the tables, the statics, the strings -/
theorem nestF_in : ∀ q ∈ nestF, Cond.fieldLinkNest q.1 q.2.1 q.2.2.1 q.2.2.2.1 q.2.2.2.2.1 q.2.2.2.2.2 ∈ lw_tbl := by decide +kernel
theorem nestM_in : ∀ q ∈ nestM, Cond.methodLinkNest q.1 q.2.1 q.2.2.1 q.2.2.2 ∈ lw_tbl := by decide +kernel
theorem aC_i : Cond.arrayClass .int ∈ lw_tbl := by decide +kernel
theorem aC_z : Cond.arrayClass .boolean ∈ lw_tbl := by decide +kernel
theorem aO_s : Cond.arrayOver (.object "FrameWalks$Sheet") ∈ lw_tbl := by decide +kernel
theorem aO_w : Cond.arrayOver (.object "FrameWalks$World") ∈ lw_tbl := by decide +kernel
theorem instX0 : Cond.instantiable RX0 3 ∈ lw_tbl := by decide +kernel
theorem instX1 : Cond.instantiable RX1 3 ∈ lw_tbl := by decide +kernel
theorem instX2 : Cond.instantiable RX2 4 ∈ lw_tbl := by decide +kernel
theorem instX3 : Cond.instantiable RX3 3 ∈ lw_tbl := by decide +kernel
theorem instX4 : Cond.instantiable RX4 9 ∈ lw_tbl := by decide +kernel
theorem instX5 : Cond.instantiable RX5 9 ∈ lw_tbl := by decide +kernel
theorem instX6 : Cond.instantiable RX6 6 ∈ lw_tbl := by decide +kernel
theorem instX7 : Cond.instantiable RX7 11 ∈ lw_tbl := by decide +kernel
theorem instX8 : Cond.instantiable RX8 28 ∈ lw_tbl := by decide +kernel
theorem law_K {args : Array Value} {s : State} (hts : ∀ w ∈ lw_tbl, w.before args s = true) : ∃ (D : va_G) (cy : Nat → ClassId), KO D cy s := by
  obtain ⟨c0, i0, k0⟩ := u_known (C := RX0) (T := TX0) (N := 3) (n := 3) hts inX0 (hts _ instX0)
  obtain ⟨c1, i1, k1⟩ := u_known (C := RX1) (T := TX1) (N := 3) (n := 3) hts inX1 (hts _ instX1)
  obtain ⟨c2, i2, k2⟩ := u_known (C := RX2) (T := TX2) (N := 4) (n := 4) hts inX2 (hts _ instX2)
  obtain ⟨c3, i3, k3⟩ := u_known (C := RX3) (T := TX3) (N := 3) (n := 3) hts inX3 (hts _ instX3)
  obtain ⟨c4, i4, k4⟩ := u_known (C := RX4) (T := TX4) (N := 9) (n := 9) hts inX4 (hts _ instX4)
  obtain ⟨c5, i5, k5⟩ := u_known (C := RX5) (T := TX5) (N := 9) (n := 9) hts inX5 (hts _ instX5)
  obtain ⟨c6, i6, k6⟩ := u_known (C := RX6) (T := TX6) (N := 6) (n := 6) hts inX6 (hts _ instX6)
  obtain ⟨c7, i7, k7⟩ := u_known (C := RX7) (T := TX7) (N := 11) (n := 11) hts inX7 (hts _ instX7)
  obtain ⟨c8, i8, k8⟩ := u_known (C := RX8) (T := TX8) (N := 28) (n := 28) hts inX8 (hts _ instX8)
  obtain ⟨y0, kA0, cm0, a1, a2, a3⟩ := Cond.arrayClass_spec (args := args) (first := s) (o := none) (s := s) (idx := []) (hts _ aC_i)
  obtain ⟨y1, kA1, cm1, b1, b2, b3⟩ := Cond.arrayClass_spec (args := args) (first := s) (o := none) (s := s) (idx := []) (hts _ aC_z)
  obtain ⟨cm2, y2, kA2, f1, -, f3, f4, f5⟩ := Cond.arrayOver_spec (args := args) (first := s) (o := none) (s := s) (idx := []) (hts _ aO_s)
  obtain ⟨cm3, y3, kA3, g1, -, g3, g4, g5⟩ := Cond.arrayOver_spec (args := args) (first := s) (o := none) (s := s) (idx := []) (hts _ aO_w)
  refine ⟨(fun k => if k = 0 then c0 else if k = 1 then c1 else if k = 2 then c2 else if k = 3 then c3 else if k = 4 then c4 else if k = 5 then c5 else if k = 6 then c6 else if k = 7 then c7 else c8, fun k => if k = 0 then i0 else if k = 1 then i1 else if k = 2 then i2 else if k = 3 then i3 else if k = 4 then i4 else if k = 5 then i5 else if k = 6 then i6 else if k = 7 then i7 else i8), fun k => if k = 0 then y0 else if k = 1 then y1 else if k = 2 then y2 else y3, ⟨⟨fun k q hq => ?_, fun k q hq => ?_⟩, fun q hq => va_Nw.of rfl (hts _ (nestF_in q hq)), fun q hq => va_Nw.of rfl (hts _ (nestM_in q hq))⟩, va_AO.of (hts _ aO_w), va_AO.of (hts _ aO_s)⟩
  · match k, hq with
    | 0, hq => cases hq; exact k0
    | 1, hq => cases hq; exact k1
    | 2, hq => cases hq; exact k2
    | 3, hq => cases hq; exact k3
    | 4, hq => cases hq; exact k4
    | 5, hq => cases hq; exact k5
    | 6, hq => cases hq; exact k6
    | 7, hq => cases hq; exact k7
    | 8, hq => cases hq; exact k8
    | k + 9, hq => have h9 : (none : Option vw_C) = some q := hq; cases h9
  · match k, hq with
    | 0, hq => cases hq; exact ⟨fun n z => ⟨fun k h => (by cases h), kA0, a2, cm0, a3⟩, a1⟩
    | 1, hq => cases hq; exact ⟨fun n z => ⟨fun k h => (by cases h), kA1, b2, cm1, b3⟩, b1⟩
    | 2, hq => cases hq; exact ⟨fun n z => ⟨fun k h => (by cases h), kA2, f3, cm2, f4⟩, kA2, cm2, f3, f4, f1, f5⟩
    | 3, hq => cases hq; exact ⟨fun n z => ⟨fun k h => (by cases h), kA3, g3, cm3, g4⟩, kA3, cm3, g3, g4, g1, g5⟩
    | k + 4, hq => have h9 : (none : Option (ClassId × FieldType)) = some q := hq; cases h9
abbrev gvL : List Cond := flatC (Jvm.Cond.and given_1 narrow_1)
abbrev sTm (i : Nat) : Term := .string "FrameWalks$Tape" (sIdx.getD i 0)
abbrev opT : Term := .static "FrameWalks" "OPERANDS" "[I"
theorem gv_cs : Cond.eq (.static "java/lang/String" "COMPACT_STRINGS" "Z") (.int 1) ∈ gvL := by decide +kernel
theorem gv_fm : Cond.isRef (.static "jdk/internal/util/Preconditions" "SIOOBE_FORMATTER" "Ljava/util/function/BiFunction;") ∈ gvL := by decide +kernel
theorem gv_oa : Cond.arrayOf opT .int ∈ gvL := by decide +kernel
theorem gv_ol : Cond.eq (.length opT) (.int (Int32.ofNat 48)) ∈ gvL := by decide +kernel
theorem gv_oe : ∀ j, j < 48 → Cond.eq (.elem opT (.int (Int32.ofNat j))) (.int (opL.getD j 0)) ∈ gvL := by decide +kernel
theorem gv_ex : ∀ i, i < 13 → Cond.exactly (sTm i) "java/lang/String" ∈ gvL := by decide +kernel
theorem gv_co : ∀ i, i < 13 → Cond.eq (.field (sTm i) "java/lang/String" "coder" "B") (.int 0) ∈ gvL := by decide +kernel
theorem gv_ar : ∀ i, i < 13 → Cond.arrayOf (.field (sTm i) "java/lang/String" "value" "[B") .byte ∈ gvL := by decide +kernel
theorem gv_le : ∀ i, i < 13 → Cond.eq (.length (.field (sTm i) "java/lang/String" "value" "[B")) (.int (Int32.ofNat (sLen.getD i 0))) ∈ gvL := by decide +kernel
theorem gv_el : ∀ i, i < 13 → ∀ j, j < sLen.getD i 0 → Cond.eq (.elem (.field (sTm i) "java/lang/String" "value" "[B") (.int (Int32.ofNat j))) (.int ((sByt.getD i []).getD j 0)) ∈ gvL := by decide +kernel
def neS : List Nat := [0, 92, 100, 110, 121, 131, 144, 159, 173, 188, 205, 223, 238]
theorem gv_nep : ∀ j, j < 13 → ∀ i, i < j → gvL[neS.getD j 0 + i]? = some (Cond.not (Cond.eq (sTm i) (sTm j))) := by decide +kernel
theorem gv_ne (i : Nat) (hi : i < 13) (j : Nat) (hj : j < 13) (hij : i ≠ j) : Cond.not (Cond.eq (sTm i) (sTm j)) ∈ gvL ∨ Cond.not (Cond.eq (sTm j) (sTm i)) ∈ gvL := by
  rcases Nat.lt_or_gt_of_ne hij with h | h
  · exact Or.inl (List.mem_of_getElem? (gv_nep j hj i h))
  · exact Or.inr (List.mem_of_getElem? (gv_nep i hi j h))
theorem tb_sr : ∀ i, i < 13 → Cond.stringRef "FrameWalks$Tape" (sIdx.getD i 0) (sTxt.getD i "") ∈ lw_tbl := by decide +kernel
theorem tb_l1 : Cond.laysStatic "java/lang/String" "COMPACT_STRINGS" "Z" ∈ lw_tbl := by decide +kernel
theorem tb_l2 : Cond.laysStatic "jdk/internal/util/Preconditions" "SIOOBE_FORMATTER" "Ljava/util/function/BiFunction;" ∈ lw_tbl := by decide +kernel
theorem tb_l3 : Cond.laysStatic "FrameWalks" "OPERANDS" "[I" ∈ lw_tbl := by decide +kernel
theorem tb_i1 : Cond.initialized "java/lang/String" ∈ lw_tbl := by decide +kernel
theorem tb_i2 : Cond.initialized "jdk/internal/util/Preconditions" ∈ lw_tbl := by decide +kernel
theorem tb_i3 : Cond.initialized "FrameWalks" ∈ lw_tbl := by decide +kernel
theorem law_S {args : Array Value} {s : State} (hts : ∀ w ∈ lw_tbl, w.before args s = true) (hgv : (Jvm.Cond.and given_1 narrow_1).before args s = true) : ∃ (aOP : Nat) (adK adV : Nat → Nat), SFx s.heap.size aOP adK adV s s.heap ∧ ∀ i : Nat, i < 13 → vk_R "FrameWalks$Tape" (sIdx.getD i 0) (sTxt.getD i "") (adK i) s := by
  have hs : ∀ w ∈ gvL, w.before args s = true := flat_of_before _ hgv
  have hA : ∀ a : Nat, a < s.heap.size → ¬ (fun q : Nat => s.heap.size ≤ q) a := fun a h => Nat.not_le.mpr h
  obtain ⟨t, ht, hT⟩ := va_Tof (tm := opT) (ty := .int) (N := 48) (f := fun j => .int (opL.getD j 0)) (A := fun q : Nat => s.heap.size ≤ q) (by decide) (hs _ gv_oa) (va_eqt (hs _ gv_ol)) (fun j hj => va_eqt (hs _ (gv_oe j hj))) hA
  obtain ⟨adK, adV, hV, hE⟩ := vk_Sof (args := args) (s := s) (N := 13) (tm := sTm) (len := sLen) (byt := sByt) (A := fun q : Nat => s.heap.size ≤ q) (by decide +kernel) (fun i hi => hs _ (gv_ex i hi)) (fun i hi => hs _ (gv_co i hi)) (fun i hi => hs _ (gv_ar i hi)) (fun i hi => hs _ (gv_le i hi)) (fun i hi j hj => hs _ (gv_el i hi j hj)) (fun i j hi hj hij => (gv_ne i hi j hj hij).elim (fun h => Or.inl (hs _ h)) (fun h => Or.inr (hs _ h))) hA
  exact ⟨t, adK, adV, ⟨va_Zof (hts _ tb_l1) (hts _ tb_i1) (va_eqi (hs _ gv_cs)) hA, va_Zqof (hts _ tb_l2) (hts _ tb_i2) (hs _ gv_fm) hA, va_Zref (hts _ tb_l3) (hts _ tb_i3) ht hA, hT, hV⟩, fun i hi => vk_R.of (hts _ (tb_sr i hi)) (hE i hi)⟩
