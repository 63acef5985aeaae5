theorem hd_X3_has : yX3_has.cls = RX3 ∧ yX3_has.cls ≠ "java/lang/invoke/MethodHandle" ∧ yX3_has.cls ≠ "java/lang/invoke/VarHandle" ∧ (parseMethodDescriptor yX3_has.desc).map (fun d => d.parameters.length) = some 1 := by decide +kernel
def f_X3_has (x1 : Int32) (v_size : Int32) : Option (Int32) := (if x1 < 0 then (some ((0 : Int32))) else (if v_size ≤ x1 then (some ((0 : Int32))) else (some ((1 : Int32)))))
set_option maxHeartbeats 4000000 in
set_option maxRecDepth 100000 in
theorem c_X3_has (l : Launch) (D : va_G) (cy : Nat → ClassId) (a a_cells : Nat) (v_width : Int32) (v_size : Int32) (x1 : Int32) (res : Int32) (h : f_X3_has x1 v_size = some res) : Mi l yX3_has wsX3_has ({ frames := 0, cells := 0, slots := 0, locals := 0 } : Room) (KK D cy) D [.ref a, .int (x1)] [(a, .inr (3, [.int (v_width), .ref a_cells, .int (v_size)]))] [(a, .inr (3, [.int (v_width), .ref a_cells, .int (v_size)]))] res := by
  intro sz
  refine Met.mk0 (cc := cX3_has) (maxL := 2) (ret := (some .boolean)) (Qc := fun A => Qi D A [(a, .inr (3, [.int (v_width), .ref a_cells, .int (v_size)]))] res) (by decide) rfl (Nat.le_of_ble_eq_true rfl) ?_
  intro p e s m below meth c A ls hx hb hml hown hts hr hlocks hK hP hD hA hl
  have hown : s.vm.findClass RX3 = some m.cls := hown
  have hl : lv_has ls 2 [(0, .ref a), (1, .int (x1))] := hl
  have hinX3 : ∀ w ∈ u_ws RX3 TX3 3, w ∈ wsX3_has := (fun w h => List.mem_cons_of_mem _ (List.mem_append_right _ h))
  have main : ∀ (H : Heap) (locs : List Loc) (ls : Array Slot), va_P D vwCl [(a, .inr (3, [.int (v_width), .ref a_cells, .int (v_size)]))] H → va_D A [(a, .inr (3, [.int (v_width), .ref a_cells, .int (v_size)]))] → va_S A s.heap H locs → lv_has ls 2 [(0, .ref a), (1, .int (x1))] → f_X3_has x1 v_size = some res → W p l e ({ frames := 0, cells := 0, slots := 0, locals := 0 } : Room) s m [.ref a, .int (x1)].toArray below meth c H locs 0 0 (MQ below (Qi D A [(a, .inr (3, [.int (v_width), .ref a_cells, .int (v_size)]))] res) [.ref a, .int (x1)].toArray s 0 0 A) (F0 m 0 ls []) := by
    intro H locs ls hP hD hS hl h
    unfold f_X3_has at h
    refine lv_iload_n hx hb dX3_has_0 rfl (lv_at hl 1 rfl) ?_
    refine lv_if_lt (tgt := 16) hx hb dX3_has_1 (by decide) (fun c_2 => ?_) (fun c_2 => ?_)
    · have h := ift c_2 h
      refine lv_iconst (v := (0 : Int32)) hx hb dX3_has_16 (by decide) ?_
      cases h
      exact Mi.retz hx hb hr hlocks (Or.inl rfl) hP hD hS dX3_has_17
    · have h := ifn c_2 h
      refine lv_iload_n hx hb dX3_has_4 rfl (lv_at hl 1 rfl) ?_
      refine lv_aload_n hx hb dX3_has_5 rfl (lv_at hl 0 rfl) ?_
      refine va_get (D := D) (ci := 3) (v := .int (v_size)) (C := RX3) (T := TX3) (N := 3) hx hb hts hinX3 hown hK.1 hP 0 rfl rfl 2 (by decide) (hts (.fieldLink RX3 9 "FrameWalks$Table" "size" "I") (List.mem_of_getElem? (i := 1) rfl)) (fun _ h9 => h9) rfl dX3_has_6 ?_
      refine lv_icmp_ge (tgt := 16) hx hb dX3_has_9 (by decide) (fun c_1 => ?_) (fun c_1 => ?_)
      · have h := ift c_1 h
        refine lv_iconst (v := (0 : Int32)) hx hb dX3_has_16 (by decide) ?_
        cases h
        exact Mi.retz hx hb hr hlocks (Or.inl rfl) hP hD hS dX3_has_17
      · have h := ifn c_1 h
        refine lv_iconst (v := (1 : Int32)) hx hb dX3_has_12 (by decide) ?_
        refine lv_goto (tgt := 17) hx hb dX3_has_13 (by decide) ?_
        cases h
        exact Mi.retz hx hb hr hlocks (Or.inr rfl) hP hD hS dX3_has_17
  exact main s.heap [] ls hP hD va_S.rf hl h
theorem hd_X3_isFull : yX3_isFull.cls = RX3 ∧ yX3_isFull.cls ≠ "java/lang/invoke/MethodHandle" ∧ yX3_isFull.cls ≠ "java/lang/invoke/VarHandle" ∧ (parseMethodDescriptor yX3_isFull.desc).map (fun d => d.parameters.length) = some 0 := by decide +kernel
def f_X3_isFull (v_width : Int32) (v_size : Int32) (n_cells : Nat) : Option (Int32) := (if (v_size + (1 : Int32)) * v_width ≤ Int32.ofNat n_cells then (some ((0 : Int32))) else (some ((1 : Int32))))
set_option maxHeartbeats 4000000 in
set_option maxRecDepth 100000 in
theorem c_X3_isFull (l : Launch) (D : va_G) (cy : Nat → ClassId) (a a_cells : Nat) (v_width : Int32) (v_size : Int32) (n_cells : Nat) (f_cells : Nat → Int32) (res : Int32) (h : f_X3_isFull v_width v_size n_cells = some res) : Mi l yX3_isFull wsX3_isFull ({ frames := 0, cells := 0, slots := 0, locals := 0 } : Room) (KK D cy) D [.ref a] [(a, .inr (3, [.int (v_width), .ref a_cells, .int (v_size)])), (a_cells, .inl (cy 0, n_cells, .inl (f_cells)))] [(a, .inr (3, [.int (v_width), .ref a_cells, .int (v_size)])), (a_cells, .inl (cy 0, n_cells, .inl (f_cells)))] res := by
  intro sz
  refine Met.mk0 (cc := cX3_isFull) (maxL := 1) (ret := (some .boolean)) (Qc := fun A => Qi D A [(a, .inr (3, [.int (v_width), .ref a_cells, .int (v_size)])), (a_cells, .inl (cy 0, n_cells, .inl (f_cells)))] res) (by decide) rfl (Nat.le_of_ble_eq_true rfl) ?_
  intro p e s m below meth c A ls hx hb hml hown hts hr hlocks hK hP hD hA hl
  have hown : s.vm.findClass RX3 = some m.cls := hown
  have hl : lv_has ls 1 [(0, .ref a)] := hl
  have hinX3 : ∀ w ∈ u_ws RX3 TX3 3, w ∈ wsX3_isFull := (fun w h => List.mem_cons_of_mem _ (List.mem_append_right _ h))
  have main : ∀ (H : Heap) (locs : List Loc) (ls : Array Slot), va_P D vwCl [(a, .inr (3, [.int (v_width), .ref a_cells, .int (v_size)])), (a_cells, .inl (cy 0, n_cells, .inl (f_cells)))] H → va_D A [(a, .inr (3, [.int (v_width), .ref a_cells, .int (v_size)])), (a_cells, .inl (cy 0, n_cells, .inl (f_cells)))] → va_S A s.heap H locs → lv_has ls 1 [(0, .ref a)] → f_X3_isFull v_width v_size n_cells = some res → W p l e ({ frames := 0, cells := 0, slots := 0, locals := 0 } : Room) s m [.ref a].toArray below meth c H locs 0 0 (MQ below (Qi D A [(a, .inr (3, [.int (v_width), .ref a_cells, .int (v_size)])), (a_cells, .inl (cy 0, n_cells, .inl (f_cells)))] res) [.ref a].toArray s 0 0 A) (F0 m 0 ls []) := by
    intro H locs ls hP hD hS hl h
    unfold f_X3_isFull at h
    refine lv_aload_n hx hb dX3_isFull_0 rfl (lv_at hl 0 rfl) ?_
    refine va_get (D := D) (ci := 3) (v := .int (v_size)) (C := RX3) (T := TX3) (N := 3) hx hb hts hinX3 hown hK.1 hP 0 rfl rfl 2 (by decide) (hts (.fieldLink RX3 9 "FrameWalks$Table" "size" "I") (List.mem_of_getElem? (i := 1) rfl)) (fun _ h9 => h9) rfl dX3_isFull_1 ?_
    refine lv_iconst (v := (1 : Int32)) hx hb dX3_isFull_4 (by decide) ?_
    refine lv_iadd hx hb dX3_isFull_5 ?_
    refine lv_aload_n hx hb dX3_isFull_6 rfl (lv_at hl 0 rfl) ?_
    refine va_get (D := D) (ci := 3) (v := .int (v_width)) (C := RX3) (T := TX3) (N := 3) hx hb hts hinX3 hown hK.1 hP 0 rfl rfl 0 (by decide) (hts (.fieldLink RX3 15 "FrameWalks$Table" "width" "I") (List.mem_of_getElem? (i := 2) rfl)) (fun _ h9 => h9) rfl dX3_isFull_7 ?_
    refine lv_imul hx hb dX3_isFull_10 ?_
    refine lv_aload_n hx hb dX3_isFull_11 rfl (lv_at hl 0 rfl) ?_
    refine va_get (D := D) (ci := 3) (v := .ref a_cells) (C := RX3) (T := TX3) (N := 3) hx hb hts hinX3 hown hK.1 hP 0 rfl rfl 1 (by decide) (hts (.fieldLink RX3 18 "FrameWalks$Table" "cells" "[I") (List.mem_of_getElem? (i := 3) rfl)) (fun _ h9 => h9) rfl dX3_isFull_12 ?_
    refine va_alen hx hb hK.1 hP 1 0 rfl rfl (v := Int32.ofNat n_cells) rfl dX3_isFull_15 ?_
    refine lv_icmp_le (tgt := 23) hx hb dX3_isFull_16 (by decide) (fun c_1 => ?_) (fun c_1 => ?_)
    · have h := ift c_1 h
      refine lv_iconst (v := (0 : Int32)) hx hb dX3_isFull_23 (by decide) ?_
      cases h
      exact Mi.retz hx hb hr hlocks (Or.inl rfl) hP hD hS dX3_isFull_24
    · have h := ifn c_1 h
      refine lv_iconst (v := (1 : Int32)) hx hb dX3_isFull_19 (by decide) ?_
      refine lv_goto (tgt := 24) hx hb dX3_isFull_20 (by decide) ?_
      cases h
      exact Mi.retz hx hb hr hlocks (Or.inr rfl) hP hD hS dX3_isFull_24
  exact main s.heap [] ls hP hD va_S.rf hl h
theorem hd_X3_at : yX3_at.cls = RX3 ∧ yX3_at.cls ≠ "java/lang/invoke/MethodHandle" ∧ yX3_at.cls ≠ "java/lang/invoke/VarHandle" ∧ (parseMethodDescriptor yX3_at.desc).map (fun d => d.parameters.length) = some 2 := by decide +kernel
def f_X3_at (x1 : Int32) (x2 : Int32) (v_width : Int32) (v_size : Int32) (n_cells : Nat) (f_cells : Nat → Int32) : Option (Int32) := (if x1 < 0 then (some ((-4 : Int32))) else (if v_size ≤ x1 then (some ((-4 : Int32))) else (if x2 < 0 then (some ((-4 : Int32))) else (if v_width ≤ x2 then (some ((-4 : Int32))) else (cki ((x1 * v_width) + x2) n_cells (some (f_cells ((x1 * v_width) + x2).toNatClampNeg)))))))
set_option maxHeartbeats 4000000 in
set_option maxRecDepth 100000 in
theorem c_X3_at (l : Launch) (D : va_G) (cy : Nat → ClassId) (a a_cells : Nat) (v_width : Int32) (v_size : Int32) (n_cells : Nat) (f_cells : Nat → Int32) (x1 : Int32) (x2 : Int32) (res : Int32) (h : f_X3_at x1 x2 v_width v_size n_cells f_cells = some res) : Mi l yX3_at wsX3_at ({ frames := 0, cells := 0, slots := 0, locals := 0 } : Room) (KK D cy) D [.ref a, .int (x1), .int (x2)] [(a, .inr (3, [.int (v_width), .ref a_cells, .int (v_size)])), (a_cells, .inl (cy 0, n_cells, .inl (f_cells)))] [(a, .inr (3, [.int (v_width), .ref a_cells, .int (v_size)])), (a_cells, .inl (cy 0, n_cells, .inl (f_cells)))] res := by
  intro sz
  refine Met.mk0 (cc := cX3_at) (maxL := 3) (ret := (some .int)) (Qc := fun A => Qi D A [(a, .inr (3, [.int (v_width), .ref a_cells, .int (v_size)])), (a_cells, .inl (cy 0, n_cells, .inl (f_cells)))] res) (by decide) rfl (Nat.le_of_ble_eq_true rfl) ?_
  intro p e s m below meth c A ls hx hb hml hown hts hr hlocks hK hP hD hA hl
  have hown : s.vm.findClass RX3 = some m.cls := hown
  have hl : lv_has ls 3 [(0, .ref a), (1, .int (x1)), (2, .int (x2))] := hl
  have hinX3 : ∀ w ∈ u_ws RX3 TX3 3, w ∈ wsX3_at := (fun w h => List.mem_cons_of_mem _ (List.mem_append_right _ h))
  have main : ∀ (H : Heap) (locs : List Loc) (ls : Array Slot), va_P D vwCl [(a, .inr (3, [.int (v_width), .ref a_cells, .int (v_size)])), (a_cells, .inl (cy 0, n_cells, .inl (f_cells)))] H → va_D A [(a, .inr (3, [.int (v_width), .ref a_cells, .int (v_size)])), (a_cells, .inl (cy 0, n_cells, .inl (f_cells)))] → va_S A s.heap H locs → lv_has ls 3 [(0, .ref a), (1, .int (x1)), (2, .int (x2))] → f_X3_at x1 x2 v_width v_size n_cells f_cells = some res → W p l e ({ frames := 0, cells := 0, slots := 0, locals := 0 } : Room) s m [.ref a, .int (x1), .int (x2)].toArray below meth c H locs 0 0 (MQ below (Qi D A [(a, .inr (3, [.int (v_width), .ref a_cells, .int (v_size)])), (a_cells, .inl (cy 0, n_cells, .inl (f_cells)))] res) [.ref a, .int (x1), .int (x2)].toArray s 0 0 A) (F0 m 0 ls []) := by
    intro H locs ls hP hD hS hl h
    unfold f_X3_at at h
    refine lv_iload_n hx hb dX3_at_0 rfl (lv_at hl 1 rfl) ?_
    refine lv_if_lt (tgt := 40) hx hb dX3_at_1 (by decide) (fun c_5 => ?_) (fun c_5 => ?_)
    · have h := ift c_5 h
      refine lv_bipush (v := (-4 : Int32)) hx hb dX3_at_40 (by decide) ?_
      cases h
      exact Mi.ret hx hb hr hlocks hP hD hS dX3_at_42
    · have h := ifn c_5 h
      refine lv_iload_n hx hb dX3_at_4 rfl (lv_at hl 1 rfl) ?_
      refine lv_aload_n hx hb dX3_at_5 rfl (lv_at hl 0 rfl) ?_
      refine va_get (D := D) (ci := 3) (v := .int (v_size)) (C := RX3) (T := TX3) (N := 3) hx hb hts hinX3 hown hK.1 hP 0 rfl rfl 2 (by decide) (hts (.fieldLink RX3 9 "FrameWalks$Table" "size" "I") (List.mem_of_getElem? (i := 1) rfl)) (fun _ h9 => h9) rfl dX3_at_6 ?_
      refine lv_icmp_ge (tgt := 40) hx hb dX3_at_9 (by decide) (fun c_4 => ?_) (fun c_4 => ?_)
      · have h := ift c_4 h
        refine lv_bipush (v := (-4 : Int32)) hx hb dX3_at_40 (by decide) ?_
        cases h
        exact Mi.ret hx hb hr hlocks hP hD hS dX3_at_42
      · have h := ifn c_4 h
        refine lv_iload_n hx hb dX3_at_12 rfl (lv_at hl 2 rfl) ?_
        refine lv_if_lt (tgt := 40) hx hb dX3_at_13 (by decide) (fun c_3 => ?_) (fun c_3 => ?_)
        · have h := ift c_3 h
          refine lv_bipush (v := (-4 : Int32)) hx hb dX3_at_40 (by decide) ?_
          cases h
          exact Mi.ret hx hb hr hlocks hP hD hS dX3_at_42
        · have h := ifn c_3 h
          refine lv_iload_n hx hb dX3_at_16 rfl (lv_at hl 2 rfl) ?_
          refine lv_aload_n hx hb dX3_at_17 rfl (lv_at hl 0 rfl) ?_
          refine va_get (D := D) (ci := 3) (v := .int (v_width)) (C := RX3) (T := TX3) (N := 3) hx hb hts hinX3 hown hK.1 hP 0 rfl rfl 0 (by decide) (hts (.fieldLink RX3 15 "FrameWalks$Table" "width" "I") (List.mem_of_getElem? (i := 2) rfl)) (fun _ h9 => h9) rfl dX3_at_18 ?_
          refine lv_icmp_ge (tgt := 40) hx hb dX3_at_21 (by decide) (fun c_2 => ?_) (fun c_2 => ?_)
          · have h := ift c_2 h
            refine lv_bipush (v := (-4 : Int32)) hx hb dX3_at_40 (by decide) ?_
            cases h
            exact Mi.ret hx hb hr hlocks hP hD hS dX3_at_42
          · have h := ifn c_2 h
            refine lv_aload_n hx hb dX3_at_24 rfl (lv_at hl 0 rfl) ?_
            refine va_get (D := D) (ci := 3) (v := .ref a_cells) (C := RX3) (T := TX3) (N := 3) hx hb hts hinX3 hown hK.1 hP 0 rfl rfl 1 (by decide) (hts (.fieldLink RX3 18 "FrameWalks$Table" "cells" "[I") (List.mem_of_getElem? (i := 3) rfl)) (fun _ h9 => h9) rfl dX3_at_25 ?_
            refine lv_iload_n hx hb dX3_at_28 rfl (lv_at hl 1 rfl) ?_
            refine lv_aload_n hx hb dX3_at_29 rfl (lv_at hl 0 rfl) ?_
            refine va_get (D := D) (ci := 3) (v := .int (v_width)) (C := RX3) (T := TX3) (N := 3) hx hb hts hinX3 hown hK.1 hP 0 rfl rfl 0 (by decide) (hts (.fieldLink RX3 15 "FrameWalks$Table" "width" "I") (List.mem_of_getElem? (i := 2) rfl)) (fun _ h9 => h9) rfl dX3_at_30 ?_
            refine lv_imul hx hb dX3_at_33 ?_
            refine lv_iload_n hx hb dX3_at_34 rfl (lv_at hl 2 rfl) ?_
            refine lv_iadd hx hb dX3_at_35 ?_
            obtain ⟨i_1, h⟩ := cki_s h
            refine va_iald hx hb hK.1 hP 1 0 rfl rfl i_1 dX3_at_36 ?_
            refine lv_goto (tgt := 42) hx hb dX3_at_37 (by decide) ?_
            cases h
            exact Mi.ret hx hb hr hlocks hP hD hS dX3_at_42
  exact main s.heap [] ls hP hD va_S.rf hl h
theorem hd_X3_set : yX3_set.cls = RX3 ∧ yX3_set.cls ≠ "java/lang/invoke/MethodHandle" ∧ yX3_set.cls ≠ "java/lang/invoke/VarHandle" ∧ (parseMethodDescriptor yX3_set.desc).map (fun d => d.parameters.length) = some 3 := by decide +kernel
def f_X3_set (x1 : Int32) (x2 : Int32) (x3 : Int32) (v_width : Int32) (v_size : Int32) (n_cells : Nat) (f_cells : Nat → Int32) : Option ((Nat → Int32)) := (if x1 < 0 then (some f_cells) else (if v_size ≤ x1 then (some f_cells) else (if x2 < 0 then (some f_cells) else (if v_width ≤ x2 then (some f_cells) else (cki ((x1 * v_width) + x2) n_cells (some (upd f_cells ((x1 * v_width) + x2).toNatClampNeg (x3))))))))
set_option maxHeartbeats 4000000 in
set_option maxRecDepth 100000 in
theorem c_X3_set (l : Launch) (D : va_G) (cy : Nat → ClassId) (a a_cells : Nat) (v_width : Int32) (v_size : Int32) (n_cells : Nat) (f_cells : Nat → Int32) (x1 : Int32) (x2 : Int32) (x3 : Int32) (z_f_cells : Nat → Int32) (h : f_X3_set x1 x2 x3 v_width v_size n_cells f_cells = some z_f_cells) : Mv l yX3_set wsX3_set ({ frames := 0, cells := 0, slots := 0, locals := 0 } : Room) (KK D cy) D [.ref a, .int (x1), .int (x2), .int (x3)] [(a, .inr (3, [.int (v_width), .ref a_cells, .int (v_size)])), (a_cells, .inl (cy 0, n_cells, .inl (f_cells)))] [(a, .inr (3, [.int (v_width), .ref a_cells, .int (v_size)])), (a_cells, .inl (cy 0, n_cells, .inl (z_f_cells)))] := by
  intro sz
  refine Met.mk0 (cc := cX3_set) (maxL := 4) (ret := none) (Qc := fun A => Qv D A [(a, .inr (3, [.int (v_width), .ref a_cells, .int (v_size)])), (a_cells, .inl (cy 0, n_cells, .inl (z_f_cells)))]) (by decide) rfl (Nat.le_of_ble_eq_true rfl) ?_
  intro p e s m below meth c A ls hx hb hml hown hts hr hlocks hK hP hD hA hl
  have hown : s.vm.findClass RX3 = some m.cls := hown
  have hl : lv_has ls 4 [(0, .ref a), (1, .int (x1)), (2, .int (x2)), (3, .int (x3))] := hl
  have hinX3 : ∀ w ∈ u_ws RX3 TX3 3, w ∈ wsX3_set := (fun w h => List.mem_cons_of_mem _ (List.mem_append_right _ h))
  have main : ∀ (H : Heap) (locs : List Loc) (ls : Array Slot), va_P D vwCl [(a, .inr (3, [.int (v_width), .ref a_cells, .int (v_size)])), (a_cells, .inl (cy 0, n_cells, .inl (f_cells)))] H → va_D A [(a, .inr (3, [.int (v_width), .ref a_cells, .int (v_size)])), (a_cells, .inl (cy 0, n_cells, .inl (f_cells)))] → va_S A s.heap H locs → lv_has ls 4 [(0, .ref a), (1, .int (x1)), (2, .int (x2)), (3, .int (x3))] → f_X3_set x1 x2 x3 v_width v_size n_cells f_cells = some z_f_cells → W p l e ({ frames := 0, cells := 0, slots := 0, locals := 0 } : Room) s m [.ref a, .int (x1), .int (x2), .int (x3)].toArray below meth c H locs 0 0 (MQ below (Qv D A [(a, .inr (3, [.int (v_width), .ref a_cells, .int (v_size)])), (a_cells, .inl (cy 0, n_cells, .inl (z_f_cells)))]) [.ref a, .int (x1), .int (x2), .int (x3)].toArray s 0 0 A) (F0 m 0 ls []) := by
    intro H locs ls hP hD hS hl h
    unfold f_X3_set at h
    refine lv_iload_n hx hb dX3_set_0 rfl (lv_at hl 1 rfl) ?_
    refine lv_if_lt (tgt := 38) hx hb dX3_set_1 (by decide) (fun c_5 => ?_) (fun c_5 => ?_)
    · have h := ift c_5 h
      cases h
      exact Mv.ret hx hb hr hlocks hP hD hS dX3_set_38
    · have h := ifn c_5 h
      refine lv_iload_n hx hb dX3_set_4 rfl (lv_at hl 1 rfl) ?_
      refine lv_aload_n hx hb dX3_set_5 rfl (lv_at hl 0 rfl) ?_
      refine va_get (D := D) (ci := 3) (v := .int (v_size)) (C := RX3) (T := TX3) (N := 3) hx hb hts hinX3 hown hK.1 hP 0 rfl rfl 2 (by decide) (hts (.fieldLink RX3 9 "FrameWalks$Table" "size" "I") (List.mem_of_getElem? (i := 1) rfl)) (fun _ h9 => h9) rfl dX3_set_6 ?_
      refine lv_icmp_ge (tgt := 38) hx hb dX3_set_9 (by decide) (fun c_4 => ?_) (fun c_4 => ?_)
      · have h := ift c_4 h
        cases h
        exact Mv.ret hx hb hr hlocks hP hD hS dX3_set_38
      · have h := ifn c_4 h
        refine lv_iload_n hx hb dX3_set_12 rfl (lv_at hl 2 rfl) ?_
        refine lv_if_lt (tgt := 38) hx hb dX3_set_13 (by decide) (fun c_3 => ?_) (fun c_3 => ?_)
        · have h := ift c_3 h
          cases h
          exact Mv.ret hx hb hr hlocks hP hD hS dX3_set_38
        · have h := ifn c_3 h
          refine lv_iload_n hx hb dX3_set_16 rfl (lv_at hl 2 rfl) ?_
          refine lv_aload_n hx hb dX3_set_17 rfl (lv_at hl 0 rfl) ?_
          refine va_get (D := D) (ci := 3) (v := .int (v_width)) (C := RX3) (T := TX3) (N := 3) hx hb hts hinX3 hown hK.1 hP 0 rfl rfl 0 (by decide) (hts (.fieldLink RX3 15 "FrameWalks$Table" "width" "I") (List.mem_of_getElem? (i := 2) rfl)) (fun _ h9 => h9) rfl dX3_set_18 ?_
          refine lv_icmp_ge (tgt := 38) hx hb dX3_set_21 (by decide) (fun c_2 => ?_) (fun c_2 => ?_)
          · have h := ift c_2 h
            cases h
            exact Mv.ret hx hb hr hlocks hP hD hS dX3_set_38
          · have h := ifn c_2 h
            refine lv_aload_n hx hb dX3_set_24 rfl (lv_at hl 0 rfl) ?_
            refine va_get (D := D) (ci := 3) (v := .ref a_cells) (C := RX3) (T := TX3) (N := 3) hx hb hts hinX3 hown hK.1 hP 0 rfl rfl 1 (by decide) (hts (.fieldLink RX3 18 "FrameWalks$Table" "cells" "[I") (List.mem_of_getElem? (i := 3) rfl)) (fun _ h9 => h9) rfl dX3_set_25 ?_
            refine lv_iload_n hx hb dX3_set_28 rfl (lv_at hl 1 rfl) ?_
            refine lv_aload_n hx hb dX3_set_29 rfl (lv_at hl 0 rfl) ?_
            refine va_get (D := D) (ci := 3) (v := .int (v_width)) (C := RX3) (T := TX3) (N := 3) hx hb hts hinX3 hown hK.1 hP 0 rfl rfl 0 (by decide) (hts (.fieldLink RX3 15 "FrameWalks$Table" "width" "I") (List.mem_of_getElem? (i := 2) rfl)) (fun _ h9 => h9) rfl dX3_set_30 ?_
            refine lv_imul hx hb dX3_set_33 ?_
            refine lv_iload_n hx hb dX3_set_34 rfl (lv_at hl 2 rfl) ?_
            refine lv_iadd hx hb dX3_set_35 ?_
            refine lv_iload_n hx hb dX3_set_36 rfl (lv_at hl 3 rfl) ?_
            obtain ⟨i_1, h⟩ := cki_s h
            refine va_iast hx hb hK.1 hP hD hS 1 0 rfl rfl i_1 dX3_set_37 (fun H locs hP hD hS => ?_)
            have hP : va_P D vwCl [(a, .inr (3, [.int (v_width), .ref a_cells, .int (v_size)])), (a_cells, .inl (cy 0, n_cells, .inl (upd f_cells ((x1 * v_width) + x2).toNatClampNeg (x3))))] H := hP
            have hD : va_D A [(a, .inr (3, [.int (v_width), .ref a_cells, .int (v_size)])), (a_cells, .inl (cy 0, n_cells, .inl (upd f_cells ((x1 * v_width) + x2).toNatClampNeg (x3))))] := hD
            cases h
            exact Mv.ret hx hb hr hlocks hP hD hS dX3_set_38
  exact main s.heap [] ls hP hD va_S.rf hl h
theorem hd_X3_addOne : yX3_addOne.cls = RX3 ∧ yX3_addOne.cls ≠ "java/lang/invoke/MethodHandle" ∧ yX3_addOne.cls ≠ "java/lang/invoke/VarHandle" ∧ (parseMethodDescriptor yX3_addOne.desc).map (fun d => d.parameters.length) = some 0 := by decide +kernel
def f_X3_addOne (v_width : Int32) (v_size : Int32) (n_cells : Nat) : Option (Int32) := (bn1 (f_X3_isFull (v_width) (v_size) n_cells) (fun r_1 => (if r_1 = 0 then (some (v_size + (1 : Int32))) else (some v_size))))
set_option maxHeartbeats 4000000 in
set_option maxRecDepth 100000 in
theorem c_X3_addOne (l : Launch) (D : va_G) (cy : Nat → ClassId) (a a_cells : Nat) (v_width : Int32) (v_size : Int32) (n_cells : Nat) (f_cells : Nat → Int32) (z_v_size : Int32) (h : f_X3_addOne v_width v_size n_cells = some z_v_size) : Mv l yX3_addOne wsX3_addOne ({ frames := 1, cells := 0, slots := 0, locals := 20 } : Room) (KK D cy) D [.ref a] [(a, .inr (3, [.int (v_width), .ref a_cells, .int (v_size)])), (a_cells, .inl (cy 0, n_cells, .inl (f_cells)))] [(a, .inr (3, [.int (v_width), .ref a_cells, .int (z_v_size)])), (a_cells, .inl (cy 0, n_cells, .inl (f_cells)))] := by
  intro sz
  refine Met.mk0 (cc := cX3_addOne) (maxL := 1) (ret := none) (Qc := fun A => Qv D A [(a, .inr (3, [.int (v_width), .ref a_cells, .int (z_v_size)])), (a_cells, .inl (cy 0, n_cells, .inl (f_cells)))]) (by decide) rfl (Nat.le_of_ble_eq_true rfl) ?_
  intro p e s m below meth c A ls hx hb hml hown hts hr hlocks hK hP hD hA hl
  have hown : s.vm.findClass RX3 = some m.cls := hown
  have hl : lv_has ls 1 [(0, .ref a)] := hl
  have hinX3 : ∀ w ∈ u_ws RX3 TX3 3, w ∈ wsX3_addOne := (fun w h => List.mem_cons_of_mem _ (List.mem_append_right _ h))
  have main : ∀ (H : Heap) (locs : List Loc) (ls : Array Slot), va_P D vwCl [(a, .inr (3, [.int (v_width), .ref a_cells, .int (v_size)])), (a_cells, .inl (cy 0, n_cells, .inl (f_cells)))] H → va_D A [(a, .inr (3, [.int (v_width), .ref a_cells, .int (v_size)])), (a_cells, .inl (cy 0, n_cells, .inl (f_cells)))] → va_S A s.heap H locs → lv_has ls 1 [(0, .ref a)] → f_X3_addOne v_width v_size n_cells = some z_v_size → W p l e ({ frames := 1, cells := 0, slots := 0, locals := 20 } : Room) s m [.ref a].toArray below meth c H locs 0 0 (MQ below (Qv D A [(a, .inr (3, [.int (v_width), .ref a_cells, .int (z_v_size)])), (a_cells, .inl (cy 0, n_cells, .inl (f_cells)))]) [.ref a].toArray s 0 0 A) (F0 m 0 ls []) := by
    intro H locs ls hP hD hS hl h
    unfold f_X3_addOne at h
    refine lv_aload_n hx hb dX3_addOne_0 rfl (lv_at hl 0 rfl) ?_
    obtain ⟨r_1, hc_3, h⟩ := bn1_s h
    refine call_i (ws1 := [(a, .inr (3, [.int (v_width), .ref a_cells, .int (v_size)])), (a_cells, .inl (cy 0, n_cells, .inl (f_cells)))]) (wr := []) (run_V ⟨hx, hb, hml, hown, hts⟩ ((c_X3_isFull l D cy a a_cells (v_width) (v_size) n_cells (f_cells) r_1 hc_3) H.size) (cwV 0 hts gX3_addOne_X3_isFull rfl rfl rfl hd_X3_isFull ⟨Nat.le_of_ble_eq_true rfl, Nat.le_of_ble_eq_true rfl⟩) KK.calling (fun U _ hW => hK.warm hW) hK.1 hP hD [0, 1] [] [0, 1] rfl rfl 0 3 rfl rfl rfl rfl hl.1 rfl (lv_room (Nat.le_of_ble_eq_true rfl)) dX3_addOne_1) hP hD hS hA [0, 1] [] [0, 1] rfl rfl rfl rfl (fun H locs hP hD hS => ?_)
    refine lv_if_ne (tgt := 17) hx hb dX3_addOne_4 (by decide) (fun c_2 => ?_) (fun c_2 => ?_)
    · have h := ifn c_2 h
      cases h
      exact Mv.ret hx hb hr hlocks hP hD hS dX3_addOne_17
    · have h := ift c_2 h
      refine lv_aload_n hx hb dX3_addOne_7 rfl (lv_at hl 0 rfl) ?_
      refine lv_dup hx hb dX3_addOne_8 rfl ?_
      refine va_get (D := D) (ci := 3) (v := .int (v_size)) (C := RX3) (T := TX3) (N := 3) hx hb hts hinX3 hown hK.1 hP 0 rfl rfl 2 (by decide) (hts (.fieldLink RX3 9 "FrameWalks$Table" "size" "I") (List.mem_of_getElem? (i := 1) rfl)) (fun _ h9 => h9) rfl dX3_addOne_9 ?_
      refine lv_iconst (v := (1 : Int32)) hx hb dX3_addOne_12 (by decide) ?_
      refine lv_iadd hx hb dX3_addOne_13 ?_
      refine va_put (D := D) (ci := 3) (v := .int (v_size + (1 : Int32))) (ty := .int) (C := RX3) (T := TX3) (N := 3) hx hb hts hinX3 tyX3 tyX3_ok nmX3 hown hK.1 hP hD hS 0 rfl rfl 2 (by decide) (hts (.fieldLink RX3 9 "FrameWalks$Table" "size" "I") (List.mem_of_getElem? (i := 1) rfl)) (fun _ h9 => h9) rfl (by decide +kernel) rfl rfl (Nat.le_of_ble_eq_true rfl) dX3_addOne_14 (fun H locs hP hD hS => ?_)
      have hP : va_P D vwCl [(a, .inr (3, [.int (v_width), .ref a_cells, .int (v_size + (1 : Int32))])), (a_cells, .inl (cy 0, n_cells, .inl (f_cells)))] H := hP
      have hD : va_D A [(a, .inr (3, [.int (v_width), .ref a_cells, .int (v_size + (1 : Int32))])), (a_cells, .inl (cy 0, n_cells, .inl (f_cells)))] := hD
      cases h
      exact Mv.ret hx hb hr hlocks hP hD hS dX3_addOne_17
  exact main s.heap [] ls hP hD va_S.rf hl h
theorem hd_X3_howMany : yX3_howMany.cls = RX3 ∧ yX3_howMany.cls ≠ "java/lang/invoke/MethodHandle" ∧ yX3_howMany.cls ≠ "java/lang/invoke/VarHandle" ∧ (parseMethodDescriptor yX3_howMany.desc).map (fun d => d.parameters.length) = some 2 := by decide +kernel
def f_X3_howMany_L5 (v_width : Int32) (v_size : Int32) (n_cells : Nat) (f_cells : Nat → Int32) : Nat → Int32 → Int32 → Int32 → Int32 → Option (Int32)
  | 0, _, _, _, _ => none
  | n + 1, y1, y2, y3, y4 => (if v_size ≤ y4 then (some y3) else (bn1 (f_X3_at (y4) (y1) (v_width) (v_size) n_cells (f_cells)) (fun r_1 => (if r_1 = y2 then ((f_X3_howMany_L5 v_width v_size n_cells f_cells  n) (y1) (y2) (y3 + (1 : Int32)) (y4 + (1 : Int32))) else ((f_X3_howMany_L5 v_width v_size n_cells f_cells  n) (y1) (y2) (y3) (y4 + (1 : Int32)))))))
def f_X3_howMany (x1 : Int32) (x2 : Int32) (v_width : Int32) (v_size : Int32) (n_cells : Nat) (f_cells : Nat → Int32) : Option (Int32) := (f_X3_howMany_L5 v_width v_size n_cells f_cells  FUEL (x1) (x2) ((0 : Int32)) ((0 : Int32)))
set_option maxHeartbeats 4000000 in
set_option maxRecDepth 100000 in
theorem c_X3_howMany (l : Launch) (D : va_G) (cy : Nat → ClassId) (a a_cells : Nat) (v_width : Int32) (v_size : Int32) (n_cells : Nat) (f_cells : Nat → Int32) (x1 : Int32) (x2 : Int32) (res : Int32) (h : f_X3_howMany x1 x2 v_width v_size n_cells f_cells = some res) : Mi l yX3_howMany wsX3_howMany ({ frames := 1, cells := 0, slots := 0, locals := 22 } : Room) (KK D cy) D [.ref a, .int (x1), .int (x2)] [(a, .inr (3, [.int (v_width), .ref a_cells, .int (v_size)])), (a_cells, .inl (cy 0, n_cells, .inl (f_cells)))] [(a, .inr (3, [.int (v_width), .ref a_cells, .int (v_size)])), (a_cells, .inl (cy 0, n_cells, .inl (f_cells)))] res := by
  intro sz
  refine Met.mk0 (cc := cX3_howMany) (maxL := 5) (ret := (some .int)) (Qc := fun A => Qi D A [(a, .inr (3, [.int (v_width), .ref a_cells, .int (v_size)])), (a_cells, .inl (cy 0, n_cells, .inl (f_cells)))] res) (by decide) rfl (Nat.le_of_ble_eq_true rfl) ?_
  intro p e s m below meth c A ls hx hb hml hown hts hr hlocks hK hP hD hA hl
  have hown : s.vm.findClass RX3 = some m.cls := hown
  have hl : lv_has ls 5 [(0, .ref a), (1, .int (x1)), (2, .int (x2))] := hl
  have hinX3 : ∀ w ∈ u_ws RX3 TX3 3, w ∈ wsX3_howMany := (fun w h => List.mem_cons_of_mem _ (List.mem_append_right _ h))
  have hL5 : ∀ (n5 : Nat) (y1 : Int32) (y2 : Int32) (y3 : Int32) (y4 : Int32) (H : Heap) (locs : List Loc) (ls : Array Slot), va_P D vwCl [(a, .inr (3, [.int (v_width), .ref a_cells, .int (v_size)])), (a_cells, .inl (cy 0, n_cells, .inl (f_cells)))] H → va_D A [(a, .inr (3, [.int (v_width), .ref a_cells, .int (v_size)])), (a_cells, .inl (cy 0, n_cells, .inl (f_cells)))] → va_S A s.heap H locs → lv_has ls 5 [(0, .ref a), (1, .int (y1)), (2, .int (y2)), (3, .int (y3)), (4, .int (y4))] → f_X3_howMany_L5 v_width v_size n_cells f_cells  n5 y1 y2 y3 y4 = some res → W p l e ({ frames := 1, cells := 0, slots := 0, locals := 22 } : Room) s m [.ref a, .int (x1), .int (x2)].toArray below meth c H locs 0 0 (MQ below (Qi D A [(a, .inr (3, [.int (v_width), .ref a_cells, .int (v_size)])), (a_cells, .inl (cy 0, n_cells, .inl (f_cells)))] res) [.ref a, .int (x1), .int (x2)].toArray s 0 0 A) (F0 m 5 ls []) := by
    intro n5
    induction n5 with
    | zero =>
      intro y1 y2 y3 y4 H locs ls hP hD hS hl h
      cases (id h : (none : Option (Int32)) = some _)
    | succ n5 ih5 =>
      intro y1 y2 y3 y4 H locs ls hP hD hS hl h
      rw [f_X3_howMany_L5] at h
      refine lv_iload hx hb dX3_howMany_5 (lv_at hl 4 rfl) ?_
      refine lv_aload_n hx hb dX3_howMany_7 rfl (lv_at hl 0 rfl) ?_
      refine va_get (D := D) (ci := 3) (v := .int (v_size)) (C := RX3) (T := TX3) (N := 3) hx hb hts hinX3 hown hK.1 hP 0 rfl rfl 2 (by decide) (hts (.fieldLink RX3 9 "FrameWalks$Table" "size" "I") (List.mem_of_getElem? (i := 1) rfl)) (fun _ h9 => h9) rfl dX3_howMany_8 ?_
      refine lv_icmp_ge (tgt := 34) hx hb dX3_howMany_11 (by decide) (fun c_4 => ?_) (fun c_4 => ?_)
      · have h := ift c_4 h
        refine lv_iload_n hx hb dX3_howMany_34 rfl (lv_at hl 3 rfl) ?_
        cases h
        exact Mi.ret hx hb hr hlocks hP hD hS dX3_howMany_35
      · have h := ifn c_4 h
        refine lv_aload_n hx hb dX3_howMany_14 rfl (lv_at hl 0 rfl) ?_
        refine lv_iload hx hb dX3_howMany_15 (lv_at hl 4 rfl) ?_
        refine lv_iload_n hx hb dX3_howMany_17 rfl (lv_at hl 1 rfl) ?_
        obtain ⟨r_1, hc_3, h⟩ := bn1_s h
        refine call_i (ws1 := [(a, .inr (3, [.int (v_width), .ref a_cells, .int (v_size)])), (a_cells, .inl (cy 0, n_cells, .inl (f_cells)))]) (wr := []) (run_V ⟨hx, hb, hml, hown, hts⟩ ((c_X3_at l D cy a a_cells (v_width) (v_size) n_cells (f_cells) (y4) (y1) r_1 hc_3) H.size) (cwV 2 hts gX3_howMany_X3_at rfl rfl rfl hd_X3_at ⟨Nat.le_of_ble_eq_true rfl, Nat.le_of_ble_eq_true rfl⟩) KK.calling (fun U _ hW => hK.warm hW) hK.1 hP hD [0, 1] [] [0, 1] rfl rfl 0 3 rfl rfl rfl rfl hl.1 rfl (lv_room (Nat.le_of_ble_eq_true rfl)) dX3_howMany_18) hP hD hS hA [0, 1] [] [0, 1] rfl rfl rfl rfl (fun H locs hP hD hS => ?_)
        refine lv_iload_n hx hb dX3_howMany_21 rfl (lv_at hl 2 rfl) ?_
        refine lv_icmp_ne (tgt := 28) hx hb dX3_howMany_22 (by decide) (fun c_2 => ?_) (fun c_2 => ?_)
        · have h := ifn c_2 h
          refine lv_iinc (v := y4 + (1 : Int32)) (lv' := [(4, .int (y4 + (1 : Int32))), (0, .ref a), (1, .int (y1)), (2, .int (y2)), (3, .int (y3))]) hx hb dX3_howMany_28 hl (k := 4) rfl rfl (by decide) rfl (fun ls hl => ?_)
          refine lv_goto (tgt := 5) hx hb dX3_howMany_31 (by decide) ?_
          exact ih5 (y1) (y2) (y3) (y4 + (1 : Int32)) H locs ls hP hD hS (lv_sub hl [1, 2, 3, 4, 0] rfl) h
        · have h := ift c_2 h
          refine lv_iinc (v := y3 + (1 : Int32)) (lv' := [(3, .int (y3 + (1 : Int32))), (0, .ref a), (1, .int (y1)), (2, .int (y2)), (4, .int (y4))]) hx hb dX3_howMany_25 hl (k := 3) rfl rfl (by decide) rfl (fun ls hl => ?_)
          refine lv_iinc (v := y4 + (1 : Int32)) (lv' := [(4, .int (y4 + (1 : Int32))), (3, .int (y3 + (1 : Int32))), (0, .ref a), (1, .int (y1)), (2, .int (y2))]) hx hb dX3_howMany_28 hl (k := 4) rfl rfl (by decide) rfl (fun ls hl => ?_)
          refine lv_goto (tgt := 5) hx hb dX3_howMany_31 (by decide) ?_
          exact ih5 (y1) (y2) (y3 + (1 : Int32)) (y4 + (1 : Int32)) H locs ls hP hD hS (lv_sub hl [2, 3, 4, 1, 0] rfl) h
  have main : ∀ (H : Heap) (locs : List Loc) (ls : Array Slot), va_P D vwCl [(a, .inr (3, [.int (v_width), .ref a_cells, .int (v_size)])), (a_cells, .inl (cy 0, n_cells, .inl (f_cells)))] H → va_D A [(a, .inr (3, [.int (v_width), .ref a_cells, .int (v_size)])), (a_cells, .inl (cy 0, n_cells, .inl (f_cells)))] → va_S A s.heap H locs → lv_has ls 5 [(0, .ref a), (1, .int (x1)), (2, .int (x2))] → f_X3_howMany x1 x2 v_width v_size n_cells f_cells = some res → W p l e ({ frames := 1, cells := 0, slots := 0, locals := 22 } : Room) s m [.ref a, .int (x1), .int (x2)].toArray below meth c H locs 0 0 (MQ below (Qi D A [(a, .inr (3, [.int (v_width), .ref a_cells, .int (v_size)])), (a_cells, .inl (cy 0, n_cells, .inl (f_cells)))] res) [.ref a, .int (x1), .int (x2)].toArray s 0 0 A) (F0 m 0 ls []) := by
    intro H locs ls hP hD hS hl h
    unfold f_X3_howMany at h
    refine lv_iconst (v := (0 : Int32)) hx hb dX3_howMany_0 (by decide) ?_
    refine lv_istore_n (lv' := [(3, .int ((0 : Int32))), (0, .ref a), (1, .int (x1)), (2, .int (x2))]) hx hb dX3_howMany_1 rfl hl (by decide) rfl (fun ls hl => ?_)
    refine lv_iconst (v := (0 : Int32)) hx hb dX3_howMany_2 (by decide) ?_
    refine lv_istore (lv' := [(4, .int ((0 : Int32))), (3, .int ((0 : Int32))), (0, .ref a), (1, .int (x1)), (2, .int (x2))]) hx hb dX3_howMany_3 hl (by decide) rfl (fun ls hl => ?_)
    exact hL5 FUEL (x1) (x2) ((0 : Int32)) ((0 : Int32)) H locs ls hP hD hS (lv_sub hl [2, 3, 4, 1, 0] rfl) h
  exact main s.heap [] ls hP hD va_S.rf hl h
theorem hd_X6_meets : yX6_meets.cls = RX6 ∧ yX6_meets.cls ≠ "java/lang/invoke/MethodHandle" ∧ yX6_meets.cls ≠ "java/lang/invoke/VarHandle" ∧ (parseMethodDescriptor yX6_meets.desc).map (fun d => d.parameters.length) = some 3 := by decide +kernel
def f_X6_meets (x1 : Int32) (x2 : Int32) (x3 : Int32) (v_routines_width : Int32) (v_routines_size : Int32) (f_routines_cells : Nat → Int32) : Option (Int32) := (bn1 (f_X3_at (x1) ((0 : Int32)) (v_routines_width) (v_routines_size) 24 (f_routines_cells)) (fun r_1 => (if x3 < r_1 then (some ((0 : Int32))) else (bn1 (f_X3_at (x1) ((1 : Int32)) (v_routines_width) (v_routines_size) 24 (f_routines_cells)) (fun r_2 => (if r_2 < x2 then (some ((0 : Int32))) else (some ((1 : Int32)))))))))
set_option maxHeartbeats 4000000 in
set_option maxRecDepth 100000 in
theorem c_X6_meets (l : Launch) (D : va_G) (cy : Nat → ClassId) (a a_routines a_ops a_landings a_calls a_registers a_words a_routines_cells : Nat) (v_routines_width : Int32) (v_routines_size : Int32) (f_routines_cells : Nat → Int32) (x1 : Int32) (x2 : Int32) (x3 : Int32) (res : Int32) (h : f_X6_meets x1 x2 x3 v_routines_width v_routines_size f_routines_cells = some res) : Mi l yX6_meets wsX6_meets ({ frames := 1, cells := 0, slots := 0, locals := 22 } : Room) (KK D cy) D [.ref a, .int (x1), .int (x2), .int (x3)] [(a, .inr (6, [.ref a_routines, .ref a_ops, .ref a_landings, .ref a_calls, .ref a_registers, .ref a_words])), (a_routines, .inr (3, [.int (v_routines_width), .ref a_routines_cells, .int (v_routines_size)])), (a_routines_cells, .inl (cy 0, 24, .inl (f_routines_cells)))] [(a, .inr (6, [.ref a_routines, .ref a_ops, .ref a_landings, .ref a_calls, .ref a_registers, .ref a_words])), (a_routines, .inr (3, [.int (v_routines_width), .ref a_routines_cells, .int (v_routines_size)])), (a_routines_cells, .inl (cy 0, 24, .inl (f_routines_cells)))] res := by
  intro sz
  refine Met.mk0 (cc := cX6_meets) (maxL := 4) (ret := (some .boolean)) (Qc := fun A => Qi D A [(a, .inr (6, [.ref a_routines, .ref a_ops, .ref a_landings, .ref a_calls, .ref a_registers, .ref a_words])), (a_routines, .inr (3, [.int (v_routines_width), .ref a_routines_cells, .int (v_routines_size)])), (a_routines_cells, .inl (cy 0, 24, .inl (f_routines_cells)))] res) (by decide) rfl (Nat.le_of_ble_eq_true rfl) ?_
  intro p e s m below meth c A ls hx hb hml hown hts hr hlocks hK hP hD hA hl
  have hown : s.vm.findClass RX6 = some m.cls := hown
  have hl : lv_has ls 4 [(0, .ref a), (1, .int (x1)), (2, .int (x2)), (3, .int (x3))] := hl
  have hinX6 : ∀ w ∈ u_ws RX6 TX6 6, w ∈ wsX6_meets := (fun w h => List.mem_cons_of_mem _ (List.mem_append_left _ (List.mem_append_right _ h)))
  have hinX3 : ∀ w ∈ u_ws RX3 TX3 3, w ∈ wsX6_meets := (fun w h => List.mem_cons_of_mem _ (List.mem_append_right _ h))
  have main : ∀ (H : Heap) (locs : List Loc) (ls : Array Slot), va_P D vwCl [(a, .inr (6, [.ref a_routines, .ref a_ops, .ref a_landings, .ref a_calls, .ref a_registers, .ref a_words])), (a_routines, .inr (3, [.int (v_routines_width), .ref a_routines_cells, .int (v_routines_size)])), (a_routines_cells, .inl (cy 0, 24, .inl (f_routines_cells)))] H → va_D A [(a, .inr (6, [.ref a_routines, .ref a_ops, .ref a_landings, .ref a_calls, .ref a_registers, .ref a_words])), (a_routines, .inr (3, [.int (v_routines_width), .ref a_routines_cells, .int (v_routines_size)])), (a_routines_cells, .inl (cy 0, 24, .inl (f_routines_cells)))] → va_S A s.heap H locs → lv_has ls 4 [(0, .ref a), (1, .int (x1)), (2, .int (x2)), (3, .int (x3))] → f_X6_meets x1 x2 x3 v_routines_width v_routines_size f_routines_cells = some res → W p l e ({ frames := 1, cells := 0, slots := 0, locals := 22 } : Room) s m [.ref a, .int (x1), .int (x2), .int (x3)].toArray below meth c H locs 0 0 (MQ below (Qi D A [(a, .inr (6, [.ref a_routines, .ref a_ops, .ref a_landings, .ref a_calls, .ref a_registers, .ref a_words])), (a_routines, .inr (3, [.int (v_routines_width), .ref a_routines_cells, .int (v_routines_size)])), (a_routines_cells, .inl (cy 0, 24, .inl (f_routines_cells)))] res) [.ref a, .int (x1), .int (x2), .int (x3)].toArray s 0 0 A) (F0 m 0 ls []) := by
    intro H locs ls hP hD hS hl h
    unfold f_X6_meets at h
    refine lv_aload_n hx hb dX6_meets_0 rfl (lv_at hl 0 rfl) ?_
    refine va_get (D := D) (ci := 6) (v := .ref a_routines) (C := RX6) (T := TX6) (N := 6) hx hb hts hinX6 hown hK.1 hP 0 rfl rfl 0 (by decide) (hts (.fieldLink RX6 14 "FrameWalks$World" "routines" "LFrameWalks$Table;") (List.mem_of_getElem? (i := 1) rfl)) (fun _ h9 => h9) rfl dX6_meets_1 ?_
    refine lv_iload_n hx hb dX6_meets_4 rfl (lv_at hl 1 rfl) ?_
    refine lv_iconst (v := (0 : Int32)) hx hb dX6_meets_5 (by decide) ?_
    obtain ⟨r_1, hc_6, h⟩ := bn1_s h
    refine call_i (ws1 := [(a, .inr (6, [.ref a_routines, .ref a_ops, .ref a_landings, .ref a_calls, .ref a_registers, .ref a_words])), (a_routines, .inr (3, [.int (v_routines_width), .ref a_routines_cells, .int (v_routines_size)])), (a_routines_cells, .inl (cy 0, 24, .inl (f_routines_cells)))]) (wr := [(a, .inr (6, [.ref a_routines, .ref a_ops, .ref a_landings, .ref a_calls, .ref a_registers, .ref a_words]))]) (run_V ⟨hx, hb, hml, hown, hts⟩ ((c_X3_at l D cy a_routines a_routines_cells (v_routines_width) (v_routines_size) 24 (f_routines_cells) (x1) ((0 : Int32)) r_1 hc_6) H.size) (cwV 2 hts gX6_meets_X3_at rfl rfl rfl hd_X3_at ⟨Nat.le_of_ble_eq_true rfl, Nat.le_of_ble_eq_true rfl⟩) KK.calling (fun U _ hW => hK.warm hW) hK.1 hP hD [1, 2] [0] [0, 1, 2] rfl rfl 1 3 rfl rfl rfl rfl hl.1 rfl (lv_room (Nat.le_of_ble_eq_true rfl)) dX6_meets_6) hP hD hS hA [1, 2] [0] [0, 1, 2] rfl rfl rfl rfl (fun H locs hP hD hS => ?_)
    refine lv_iload_n hx hb dX6_meets_9 rfl (lv_at hl 3 rfl) ?_
    refine lv_icmp_gt (tgt := 30) hx hb dX6_meets_10 (by decide) (fun c_5 => ?_) (fun c_5 => ?_)
    · have h := ift c_5 h
      refine lv_iconst (v := (0 : Int32)) hx hb dX6_meets_30 (by decide) ?_
      cases h
      exact Mi.retz hx hb hr hlocks (Or.inl rfl) hP hD hS dX6_meets_31
    · have h := ifn c_5 h
      refine lv_aload_n hx hb dX6_meets_13 rfl (lv_at hl 0 rfl) ?_
      refine va_get (D := D) (ci := 6) (v := .ref a_routines) (C := RX6) (T := TX6) (N := 6) hx hb hts hinX6 hown hK.1 hP 0 rfl rfl 0 (by decide) (hts (.fieldLink RX6 14 "FrameWalks$World" "routines" "LFrameWalks$Table;") (List.mem_of_getElem? (i := 1) rfl)) (fun _ h9 => h9) rfl dX6_meets_14 ?_
      refine lv_iload_n hx hb dX6_meets_17 rfl (lv_at hl 1 rfl) ?_
      refine lv_iconst (v := (1 : Int32)) hx hb dX6_meets_18 (by decide) ?_
      obtain ⟨r_2, hc_4, h⟩ := bn1_s h
      refine call_i (ws1 := [(a, .inr (6, [.ref a_routines, .ref a_ops, .ref a_landings, .ref a_calls, .ref a_registers, .ref a_words])), (a_routines, .inr (3, [.int (v_routines_width), .ref a_routines_cells, .int (v_routines_size)])), (a_routines_cells, .inl (cy 0, 24, .inl (f_routines_cells)))]) (wr := [(a, .inr (6, [.ref a_routines, .ref a_ops, .ref a_landings, .ref a_calls, .ref a_registers, .ref a_words]))]) (run_V ⟨hx, hb, hml, hown, hts⟩ ((c_X3_at l D cy a_routines a_routines_cells (v_routines_width) (v_routines_size) 24 (f_routines_cells) (x1) ((1 : Int32)) r_2 hc_4) H.size) (cwV 2 hts gX6_meets_X3_at rfl rfl rfl hd_X3_at ⟨Nat.le_of_ble_eq_true rfl, Nat.le_of_ble_eq_true rfl⟩) KK.calling (fun U _ hW => hK.warm hW) hK.1 hP hD [1, 2] [0] [0, 1, 2] rfl rfl 1 3 rfl rfl rfl rfl hl.1 rfl (lv_room (Nat.le_of_ble_eq_true rfl)) dX6_meets_19) hP hD hS hA [1, 2] [0] [0, 1, 2] rfl rfl rfl rfl (fun H locs hP hD hS => ?_)
      refine lv_iload_n hx hb dX6_meets_22 rfl (lv_at hl 2 rfl) ?_
      refine lv_icmp_lt (tgt := 30) hx hb dX6_meets_23 (by decide) (fun c_3 => ?_) (fun c_3 => ?_)
      · have h := ift c_3 h
        refine lv_iconst (v := (0 : Int32)) hx hb dX6_meets_30 (by decide) ?_
        cases h
        exact Mi.retz hx hb hr hlocks (Or.inl rfl) hP hD hS dX6_meets_31
      · have h := ifn c_3 h
        refine lv_iconst (v := (1 : Int32)) hx hb dX6_meets_26 (by decide) ?_
        refine lv_goto (tgt := 31) hx hb dX6_meets_27 (by decide) ?_
        cases h
        exact Mi.retz hx hb hr hlocks (Or.inr rfl) hP hD hS dX6_meets_31
  exact main s.heap [] ls hP hD va_S.rf hl h
theorem hd_X6_ownerOf : yX6_ownerOf.cls = RX6 ∧ yX6_ownerOf.cls ≠ "java/lang/invoke/MethodHandle" ∧ yX6_ownerOf.cls ≠ "java/lang/invoke/VarHandle" ∧ (parseMethodDescriptor yX6_ownerOf.desc).map (fun d => d.parameters.length) = some 1 := by decide +kernel
def f_X6_ownerOf_L2 (v_routines_width : Int32) (v_routines_size : Int32) (f_routines_cells : Nat → Int32) : Nat → Int32 → Int32 → Option (Int32)
  | 0, _, _ => none
  | n + 1, y1, y2 => (if v_routines_size ≤ y2 then (some ((-4 : Int32))) else (bn1 (f_X6_meets (y2) (y1) (y1) (v_routines_width) (v_routines_size) (f_routines_cells)) (fun r_1 => (if r_1 = 0 then ((f_X6_ownerOf_L2 v_routines_width v_routines_size f_routines_cells  n) (y1) (y2 + (1 : Int32))) else (some y2)))))
def f_X6_ownerOf (x1 : Int32) (v_routines_width : Int32) (v_routines_size : Int32) (f_routines_cells : Nat → Int32) : Option (Int32) := (f_X6_ownerOf_L2 v_routines_width v_routines_size f_routines_cells  FUEL (x1) ((0 : Int32)))
set_option maxHeartbeats 4000000 in
set_option maxRecDepth 100000 in
theorem c_X6_ownerOf (l : Launch) (D : va_G) (cy : Nat → ClassId) (a a_routines a_ops a_landings a_calls a_registers a_words a_routines_cells : Nat) (v_routines_width : Int32) (v_routines_size : Int32) (f_routines_cells : Nat → Int32) (x1 : Int32) (res : Int32) (h : f_X6_ownerOf x1 v_routines_width v_routines_size f_routines_cells = some res) : Mi l yX6_ownerOf wsX6_ownerOf ({ frames := 2, cells := 0, slots := 0, locals := 45 } : Room) (KK D cy) D [.ref a, .int (x1)] [(a, .inr (6, [.ref a_routines, .ref a_ops, .ref a_landings, .ref a_calls, .ref a_registers, .ref a_words])), (a_routines, .inr (3, [.int (v_routines_width), .ref a_routines_cells, .int (v_routines_size)])), (a_routines_cells, .inl (cy 0, 24, .inl (f_routines_cells)))] [(a, .inr (6, [.ref a_routines, .ref a_ops, .ref a_landings, .ref a_calls, .ref a_registers, .ref a_words])), (a_routines, .inr (3, [.int (v_routines_width), .ref a_routines_cells, .int (v_routines_size)])), (a_routines_cells, .inl (cy 0, 24, .inl (f_routines_cells)))] res := by
  intro sz
  refine Met.mk0 (cc := cX6_ownerOf) (maxL := 3) (ret := (some .int)) (Qc := fun A => Qi D A [(a, .inr (6, [.ref a_routines, .ref a_ops, .ref a_landings, .ref a_calls, .ref a_registers, .ref a_words])), (a_routines, .inr (3, [.int (v_routines_width), .ref a_routines_cells, .int (v_routines_size)])), (a_routines_cells, .inl (cy 0, 24, .inl (f_routines_cells)))] res) (by decide) rfl (Nat.le_of_ble_eq_true rfl) ?_
  intro p e s m below meth c A ls hx hb hml hown hts hr hlocks hK hP hD hA hl
  have hown : s.vm.findClass RX6 = some m.cls := hown
  have hl : lv_has ls 3 [(0, .ref a), (1, .int (x1))] := hl
  have hinX6 : ∀ w ∈ u_ws RX6 TX6 6, w ∈ wsX6_ownerOf := (fun w h => List.mem_cons_of_mem _ (List.mem_append_left _ (List.mem_append_right _ h)))
  have hinX3 : ∀ w ∈ u_ws RX3 TX3 3, w ∈ wsX6_ownerOf := (fun w h => List.mem_cons_of_mem _ (List.mem_append_right _ h))
  have hL2 : ∀ (n2 : Nat) (y1 : Int32) (y2 : Int32) (H : Heap) (locs : List Loc) (ls : Array Slot), va_P D vwCl [(a, .inr (6, [.ref a_routines, .ref a_ops, .ref a_landings, .ref a_calls, .ref a_registers, .ref a_words])), (a_routines, .inr (3, [.int (v_routines_width), .ref a_routines_cells, .int (v_routines_size)])), (a_routines_cells, .inl (cy 0, 24, .inl (f_routines_cells)))] H → va_D A [(a, .inr (6, [.ref a_routines, .ref a_ops, .ref a_landings, .ref a_calls, .ref a_registers, .ref a_words])), (a_routines, .inr (3, [.int (v_routines_width), .ref a_routines_cells, .int (v_routines_size)])), (a_routines_cells, .inl (cy 0, 24, .inl (f_routines_cells)))] → va_S A s.heap H locs → lv_has ls 3 [(0, .ref a), (1, .int (y1)), (2, .int (y2))] → f_X6_ownerOf_L2 v_routines_width v_routines_size f_routines_cells  n2 y1 y2 = some res → W p l e ({ frames := 2, cells := 0, slots := 0, locals := 45 } : Room) s m [.ref a, .int (x1)].toArray below meth c H locs 0 0 (MQ below (Qi D A [(a, .inr (6, [.ref a_routines, .ref a_ops, .ref a_landings, .ref a_calls, .ref a_registers, .ref a_words])), (a_routines, .inr (3, [.int (v_routines_width), .ref a_routines_cells, .int (v_routines_size)])), (a_routines_cells, .inl (cy 0, 24, .inl (f_routines_cells)))] res) [.ref a, .int (x1)].toArray s 0 0 A) (F0 m 2 ls []) := by
    intro n2
    induction n2 with
    | zero =>
      intro y1 y2 H locs ls hP hD hS hl h
      cases (id h : (none : Option (Int32)) = some _)
    | succ n2 ih2 =>
      intro y1 y2 H locs ls hP hD hS hl h
      rw [f_X6_ownerOf_L2] at h
      refine lv_iload_n hx hb dX6_ownerOf_2 rfl (lv_at hl 2 rfl) ?_
      refine lv_aload_n hx hb dX6_ownerOf_3 rfl (lv_at hl 0 rfl) ?_
      refine va_get (D := D) (ci := 6) (v := .ref a_routines) (C := RX6) (T := TX6) (N := 6) hx hb hts hinX6 hown hK.1 hP 0 rfl rfl 0 (by decide) (hts (.fieldLink RX6 14 "FrameWalks$World" "routines" "LFrameWalks$Table;") (List.mem_of_getElem? (i := 1) rfl)) (fun _ h9 => h9) rfl dX6_ownerOf_4 ?_
      refine va_getN (D := D) (ci := 3) (v := .int (v_routines_size)) (C := RX3) (T := TX3) (N := 3) hx hb hts hinX3 hown hK.1 hP 1 rfl rfl 2 (by decide) ((hK.2.1 _ (List.mem_of_getElem? (i := 0) rfl)).use rfl) (fun _ h9 => h9) rfl dX6_ownerOf_7 ?_
      refine lv_icmp_ge (tgt := 31) hx hb dX6_ownerOf_10 (by decide) (fun c_4 => ?_) (fun c_4 => ?_)
      · have h := ift c_4 h
        refine lv_bipush (v := (-4 : Int32)) hx hb dX6_ownerOf_31 (by decide) ?_
        cases h
        exact Mi.ret hx hb hr hlocks hP hD hS dX6_ownerOf_33
      · have h := ifn c_4 h
        refine lv_aload_n hx hb dX6_ownerOf_13 rfl (lv_at hl 0 rfl) ?_
        refine lv_iload_n hx hb dX6_ownerOf_14 rfl (lv_at hl 2 rfl) ?_
        refine lv_iload_n hx hb dX6_ownerOf_15 rfl (lv_at hl 1 rfl) ?_
        refine lv_iload_n hx hb dX6_ownerOf_16 rfl (lv_at hl 1 rfl) ?_
        obtain ⟨r_1, hc_3, h⟩ := bn1_s h
        refine call_i (ws1 := [(a, .inr (6, [.ref a_routines, .ref a_ops, .ref a_landings, .ref a_calls, .ref a_registers, .ref a_words])), (a_routines, .inr (3, [.int (v_routines_width), .ref a_routines_cells, .int (v_routines_size)])), (a_routines_cells, .inl (cy 0, 24, .inl (f_routines_cells)))]) (wr := []) (run_V ⟨hx, hb, hml, hown, hts⟩ ((c_X6_meets l D cy a a_routines a_ops a_landings a_calls a_registers a_words a_routines_cells (v_routines_width) (v_routines_size) (f_routines_cells) (y2) (y1) (y1) r_1 hc_3) H.size) (cwV 3 hts gX6_ownerOf_X6_meets rfl rfl rfl hd_X6_meets ⟨Nat.le_of_ble_eq_true rfl, Nat.le_of_ble_eq_true rfl⟩) KK.calling (fun U _ hW => hK.warm hW) hK.1 hP hD [0, 1, 2] [] [0, 1, 2] rfl rfl 0 6 rfl rfl rfl rfl hl.1 rfl (lv_room (Nat.le_of_ble_eq_true rfl)) dX6_ownerOf_17) hP hD hS hA [0, 1, 2] [] [0, 1, 2] rfl rfl rfl rfl (fun H locs hP hD hS => ?_)
        refine lv_if_eq (tgt := 25) hx hb dX6_ownerOf_20 (by decide) (fun c_2 => ?_) (fun c_2 => ?_)
        · have h := ift c_2 h
          refine lv_iinc (v := y2 + (1 : Int32)) (lv' := [(2, .int (y2 + (1 : Int32))), (0, .ref a), (1, .int (y1))]) hx hb dX6_ownerOf_25 hl (k := 2) rfl rfl (by decide) rfl (fun ls hl => ?_)
          refine lv_goto (tgt := 2) hx hb dX6_ownerOf_28 (by decide) ?_
          exact ih2 (y1) (y2 + (1 : Int32)) H locs ls hP hD hS (lv_sub hl [1, 2, 0] rfl) h
        · have h := ifn c_2 h
          refine lv_iload_n hx hb dX6_ownerOf_23 rfl (lv_at hl 2 rfl) ?_
          cases h
          exact Mi.ret hx hb hr hlocks hP hD hS dX6_ownerOf_24
  have main : ∀ (H : Heap) (locs : List Loc) (ls : Array Slot), va_P D vwCl [(a, .inr (6, [.ref a_routines, .ref a_ops, .ref a_landings, .ref a_calls, .ref a_registers, .ref a_words])), (a_routines, .inr (3, [.int (v_routines_width), .ref a_routines_cells, .int (v_routines_size)])), (a_routines_cells, .inl (cy 0, 24, .inl (f_routines_cells)))] H → va_D A [(a, .inr (6, [.ref a_routines, .ref a_ops, .ref a_landings, .ref a_calls, .ref a_registers, .ref a_words])), (a_routines, .inr (3, [.int (v_routines_width), .ref a_routines_cells, .int (v_routines_size)])), (a_routines_cells, .inl (cy 0, 24, .inl (f_routines_cells)))] → va_S A s.heap H locs → lv_has ls 3 [(0, .ref a), (1, .int (x1))] → f_X6_ownerOf x1 v_routines_width v_routines_size f_routines_cells = some res → W p l e ({ frames := 2, cells := 0, slots := 0, locals := 45 } : Room) s m [.ref a, .int (x1)].toArray below meth c H locs 0 0 (MQ below (Qi D A [(a, .inr (6, [.ref a_routines, .ref a_ops, .ref a_landings, .ref a_calls, .ref a_registers, .ref a_words])), (a_routines, .inr (3, [.int (v_routines_width), .ref a_routines_cells, .int (v_routines_size)])), (a_routines_cells, .inl (cy 0, 24, .inl (f_routines_cells)))] res) [.ref a, .int (x1)].toArray s 0 0 A) (F0 m 0 ls []) := by
    intro H locs ls hP hD hS hl h
    unfold f_X6_ownerOf at h
    refine lv_iconst (v := (0 : Int32)) hx hb dX6_ownerOf_0 (by decide) ?_
    refine lv_istore_n (lv' := [(2, .int ((0 : Int32))), (0, .ref a), (1, .int (x1))]) hx hb dX6_ownerOf_1 rfl hl (by decide) rfl (fun ls hl => ?_)
    exact hL2 FUEL (x1) ((0 : Int32)) H locs ls hP hD hS (lv_sub hl [1, 2, 0] rfl) h
  exact main s.heap [] ls hP hD va_S.rf hl h
