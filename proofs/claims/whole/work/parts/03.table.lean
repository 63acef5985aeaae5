theorem hd_X3_at : yX3_at.cls = RX3 ∧ yX3_at.cls ≠ "java/lang/invoke/MethodHandle" ∧ yX3_at.cls ≠ "java/lang/invoke/VarHandle" ∧ (parseMethodDescriptor yX3_at.desc).map (fun d => d.parameters.length) = some 2 := by decide +kernel
def f_X3_at (x1 : Int32) (x2 : Int32) (v_width : Int32) (v_size : Int32) (n_cells : Nat) (f_cells : Nat → Int32) : Option (Int32) := (if x1 < 0 then (some ((-4 : Int32))) else (if v_size ≤ x1 then (some ((-4 : Int32))) else (if x2 < 0 then (some ((-4 : Int32))) else (if v_width ≤ x2 then (some ((-4 : Int32))) else (cki ((x1 * v_width) + x2) n_cells (some (f_cells ((x1 * v_width) + x2).toNatClampNeg)))))))
set_option maxHeartbeats 4000000 in
set_option maxRecDepth 100000 in
theorem c_X3_at (l : Launch) (D : va_G) (cy : Nat → ClassId) (a a_cells : Nat) (v_width : Int32) (v_size : Int32) (n_cells : Nat) (f_cells : Nat → Int32) (x1 : Int32) (x2 : Int32) (res : Int32) (h : f_X3_at x1 x2 v_width v_size n_cells f_cells = some res) : Mi l yX3_at wsX3_at ({ frames := 0, cells := 0, slots := 0, locals := 0 } : Room) (KK D cy) D [.ref a, .int (x1), .int (x2)] [(a, .inr (3, [.int (v_width), .ref a_cells, .int (v_size)])), (a_cells, .inl (cy 0, n_cells, .inl (f_cells)))] [(a, .inr (3, [.int (v_width), .ref a_cells, .int (v_size)])), (a_cells, .inl (cy 0, n_cells, .inl (f_cells)))] res := by
  intro sz
  refine Met.mk0 (cc := cX3_at) (maxL := 3) (ret := (some .int)) (Qc := fun A => Qi D A [(a, .inr (3, [.int (v_width), .ref a_cells, .int (v_size)])), (a_cells, .inl (cy 0, n_cells, .inl (f_cells)))] res) (by decide) rfl (Nat.le_of_ble_eq_true rfl) ?_
  intro p e s m below meth c A ls hx hb hml hown hts hr hlocks hK hP hD hA hl
  have hown : s.vm.findClass RX3 = some m.cls := hown
  have hl : lv_has ls 3 [(0, .ref a), (1, .int (x1)), (2, .int (x2))] := hl
  have hinX3 : ∀ w ∈ u_ws RX3 TX3 3, w ∈ wsX3_at := (fun w h => List.mem_cons_of_mem _ (List.mem_append_right _ h))
  have main : ∀ (H : Heap) (locs : List Loc) (ls : Array Slot), va_P D vwCl [(a, .inr (3, [.int (v_width), .ref a_cells, .int (v_size)])), (a_cells, .inl (cy 0, n_cells, .inl (f_cells)))] H → va_D A [(a, .inr (3, [.int (v_width), .ref a_cells, .int (v_size)])), (a_cells, .inl (cy 0, n_cells, .inl (f_cells)))] → va_S A s.heap H locs → lv_has ls 3 [(0, .ref a), (1, .int (x1)), (2, .int (x2))] → f_X3_at x1 x2 v_width v_size n_cells f_cells = some res → W p l e ({ frames := 0, cells := 0, slots := 0, locals := 0 } : Room) s m [.ref a, .int (x1), .int (x2)].toArray below meth c H locs 0 0 (MQ below (Qi D A [(a, .inr (3, [.int (v_width), .ref a_cells, .int (v_size)])), (a_cells, .inl (cy 0, n_cells, .inl (f_cells)))] res) [.ref a, .int (x1), .int (x2)].toArray s 0 0 A) (F0 m 0 ls []) := by
    intro H locs ls hP hD hS hl h
    unfold f_X3_at at h
    refine lv_iload_n hx hb dX3_at_0 rfl (lv_at hl 1 rfl) ?_
    refine lv_if_lt (tgt := 40) hx hb dX3_at_1 (by decide) (fun c_16 => ?_) (fun c_16 => ?_)
    · have h := ift c_16 h
      refine lv_bipush (v := (-4 : Int32)) hx hb dX3_at_40 (by decide) ?_
      have e0 := Option.some.inj h
      exact Mi.ret' hx hb hr hlocks e0 rfl hP hD hS dX3_at_42
    · have h := ifn c_16 h
      refine lv_iload_n hx hb dX3_at_4 rfl (lv_at hl 1 rfl) ?_
      refine lv_aload_n hx hb dX3_at_5 rfl (lv_at hl 0 rfl) ?_
      refine va_get (D := D) (ci := 3) (v := .int (v_size)) (C := RX3) (T := TX3) (N := 3) hx hb hts hinX3 hown hK.1 hP 0 rfl rfl 2 (by decide) (hts (.fieldLink RX3 9 "FrameWalks$Table" "size" "I") (List.mem_of_getElem? (i := 1) rfl)) (fun _ h9 => h9) rfl dX3_at_6 ?_
      refine lv_icmp_ge (tgt := 40) hx hb dX3_at_9 (by decide) (fun c_17 => ?_) (fun c_17 => ?_)
      · have h := ift c_17 h
        refine lv_bipush (v := (-4 : Int32)) hx hb dX3_at_40 (by decide) ?_
        have e0 := Option.some.inj h
        exact Mi.ret' hx hb hr hlocks e0 rfl hP hD hS dX3_at_42
      · have h := ifn c_17 h
        refine lv_iload_n hx hb dX3_at_12 rfl (lv_at hl 2 rfl) ?_
        refine lv_if_lt (tgt := 40) hx hb dX3_at_13 (by decide) (fun c_18 => ?_) (fun c_18 => ?_)
        · have h := ift c_18 h
          refine lv_bipush (v := (-4 : Int32)) hx hb dX3_at_40 (by decide) ?_
          have e0 := Option.some.inj h
          exact Mi.ret' hx hb hr hlocks e0 rfl hP hD hS dX3_at_42
        · have h := ifn c_18 h
          refine lv_iload_n hx hb dX3_at_16 rfl (lv_at hl 2 rfl) ?_
          refine lv_aload_n hx hb dX3_at_17 rfl (lv_at hl 0 rfl) ?_
          refine va_get (D := D) (ci := 3) (v := .int (v_width)) (C := RX3) (T := TX3) (N := 3) hx hb hts hinX3 hown hK.1 hP 0 rfl rfl 0 (by decide) (hts (.fieldLink RX3 15 "FrameWalks$Table" "width" "I") (List.mem_of_getElem? (i := 2) rfl)) (fun _ h9 => h9) rfl dX3_at_18 ?_
          refine lv_icmp_ge (tgt := 40) hx hb dX3_at_21 (by decide) (fun c_19 => ?_) (fun c_19 => ?_)
          · have h := ift c_19 h
            refine lv_bipush (v := (-4 : Int32)) hx hb dX3_at_40 (by decide) ?_
            have e0 := Option.some.inj h
            exact Mi.ret' hx hb hr hlocks e0 rfl hP hD hS dX3_at_42
          · have h := ifn c_19 h
            refine lv_aload_n hx hb dX3_at_24 rfl (lv_at hl 0 rfl) ?_
            refine va_get (D := D) (ci := 3) (v := .ref a_cells) (C := RX3) (T := TX3) (N := 3) hx hb hts hinX3 hown hK.1 hP 0 rfl rfl 1 (by decide) (hts (.fieldLink RX3 18 "FrameWalks$Table" "cells" "[I") (List.mem_of_getElem? (i := 3) rfl)) (fun _ h9 => h9) rfl dX3_at_25 ?_
            refine lv_iload_n hx hb dX3_at_28 rfl (lv_at hl 1 rfl) ?_
            refine lv_aload_n hx hb dX3_at_29 rfl (lv_at hl 0 rfl) ?_
            refine va_get (D := D) (ci := 3) (v := .int (v_width)) (C := RX3) (T := TX3) (N := 3) hx hb hts hinX3 hown hK.1 hP 0 rfl rfl 0 (by decide) (hts (.fieldLink RX3 15 "FrameWalks$Table" "width" "I") (List.mem_of_getElem? (i := 2) rfl)) (fun _ h9 => h9) rfl dX3_at_30 ?_
            refine lv_imul hx hb dX3_at_33 ?_
            refine lv_iload_n hx hb dX3_at_34 rfl (lv_at hl 2 rfl) ?_
            refine lv_iadd hx hb dX3_at_35 ?_
            obtain ⟨i_20, h⟩ := cki_s h
            refine va_iald hx hb hK.1 hP 1 0 rfl rfl i_20 dX3_at_36 ?_
            refine lv_goto (tgt := 42) hx hb dX3_at_37 (by decide) ?_
            have e0 := Option.some.inj h
            exact Mi.ret' hx hb hr hlocks e0 rfl hP hD hS dX3_at_42
  exact main s.heap [] ls hP hD va_S.rf hl h
theorem hd_X3_howMany : yX3_howMany.cls = RX3 ∧ yX3_howMany.cls ≠ "java/lang/invoke/MethodHandle" ∧ yX3_howMany.cls ≠ "java/lang/invoke/VarHandle" ∧ (parseMethodDescriptor yX3_howMany.desc).map (fun d => d.parameters.length) = some 2 := by decide +kernel
def f_X3_howMany_L5 (v_width : Int32) (v_size : Int32) (n_cells : Nat) (f_cells : Nat → Int32) : Nat → Int32 → Int32 → Int32 → Int32 → Option (Int32)
  | 0, _, _, _, _ => none
  | n + 1, y1, y2, y3, y4 => (if v_size ≤ y4 then (some y3) else (bn1 (f_X3_at (y4) (y1) (v_width) (v_size) n_cells (f_cells)) (fun r_14 => (if r_14 = y2 then ((f_X3_howMany_L5 v_width v_size n_cells f_cells  n) (y1) (y2) (y3 + (1 : Int32)) (y4 + (1 : Int32))) else ((f_X3_howMany_L5 v_width v_size n_cells f_cells  n) (y1) (y2) (y3) (y4 + (1 : Int32)))))))
def f_X3_howMany (x1 : Int32) (x2 : Int32) (v_width : Int32) (v_size : Int32) (n_cells : Nat) (f_cells : Nat → Int32) : Option (Int32) := (f_X3_howMany_L5 v_width v_size n_cells f_cells  FUEL (x1) (x2) ((0 : Int32)) ((0 : Int32)))
set_option maxHeartbeats 4000000 in
set_option maxRecDepth 100000 in
theorem c_X3_howMany (l : Launch) (D : va_G) (cy : Nat → ClassId) (a a_cells : Nat) (v_width : Int32) (v_size : Int32) (n_cells : Nat) (f_cells : Nat → Int32) (x1 : Int32) (x2 : Int32) (res : Int32) (h : f_X3_howMany x1 x2 v_width v_size n_cells f_cells = some res) : Mi l yX3_howMany wsX3_howMany ({ frames := 1, cells := 0, slots := 0, locals := 22 } : Room) (KK D cy) D [.ref a, .int (x1), .int (x2)] [(a, .inr (3, [.int (v_width), .ref a_cells, .int (v_size)])), (a_cells, .inl (cy 0, n_cells, .inl (f_cells)))] [(a, .inr (3, [.int (v_width), .ref a_cells, .int (v_size)])), (a_cells, .inl (cy 0, n_cells, .inl (f_cells)))] res := by
  intro sz
  refine Met.mk0 (cc := cX3_howMany) (maxL := 5) (ret := (some .int)) (Qc := fun A => Qi D A [(a, .inr (3, [.int (v_width), .ref a_cells, .int (v_size)])), (a_cells, .inl (cy 0, n_cells, .inl (f_cells)))] res) (by decide) rfl (Nat.le_of_ble_eq_true rfl) ?_
  intro p e s m below meth c A ls hx hb hml hown hts hr hlocks hK hP hD hA hl
  have hown : s.vm.findClass RX3 = some m.cls := hown
  have hl : lv_has ls 5 [(0, .ref a), (1, .int (x1)), (2, .int (x2))] := hl
  have hinX3 : ∀ w ∈ u_ws RX3 TX3 3, w ∈ wsX3_howMany := (fun w h => List.mem_cons_of_mem _ (List.mem_append_right _ h))
  have hL5 : ∀ (n5 : Nat) (y1 : Int32) (y2 : Int32) (y3 : Int32) (y4 : Int32) (H : Heap) (locs : List Loc) (ls : Array Slot), va_P D vwCl [(a, .inr (3, [.int (v_width), .ref a_cells, .int (v_size)])), (a_cells, .inl (cy 0, n_cells, .inl (f_cells)))] H → va_D A [(a, .inr (3, [.int (v_width), .ref a_cells, .int (v_size)])), (a_cells, .inl (cy 0, n_cells, .inl (f_cells)))] → va_S A s.heap H locs → lv_has ls 5 [(0, .ref a), (1, .int (y1)), (2, .int (y2)), (3, .int (y3)), (4, .int (y4))] → f_X3_howMany_L5 v_width v_size n_cells f_cells  n5 y1 y2 y3 y4 = some res → W p l e ({ frames := 1, cells := 0, slots := 0, locals := 22 } : Room) s m [.ref a, .int (x1), .int (x2)].toArray below meth c H locs 0 0 (MQ below (Qi D A [(a, .inr (3, [.int (v_width), .ref a_cells, .int (v_size)])), (a_cells, .inl (cy 0, n_cells, .inl (f_cells)))] res) [.ref a, .int (x1), .int (x2)].toArray s 0 0 A) (F0 m 5 ls []) := by
    intro n5
    induction n5 with
    | zero =>
      intro y1 y2 y3 y4 H locs ls hP hD hS hl h
      cases (id h : (none : Option (Int32)) = some _)
    | succ n5 ih5 =>
      intro y1 y2 y3 y4 H locs ls hP hD hS hl h
      rw [f_X3_howMany_L5] at h
      refine lv_iload hx hb dX3_howMany_5 (lv_at hl 4 rfl) ?_
      refine lv_aload_n hx hb dX3_howMany_7 rfl (lv_at hl 0 rfl) ?_
      refine va_get (D := D) (ci := 3) (v := .int (v_size)) (C := RX3) (T := TX3) (N := 3) hx hb hts hinX3 hown hK.1 hP 0 rfl rfl 2 (by decide) (hts (.fieldLink RX3 9 "FrameWalks$Table" "size" "I") (List.mem_of_getElem? (i := 1) rfl)) (fun _ h9 => h9) rfl dX3_howMany_8 ?_
      refine lv_icmp_ge (tgt := 34) hx hb dX3_howMany_11 (by decide) (fun c_13 => ?_) (fun c_13 => ?_)
      · have h := ift c_13 h
        refine lv_iload_n hx hb dX3_howMany_34 rfl (lv_at hl 3 rfl) ?_
        have e0 := Option.some.inj h
        exact Mi.ret' hx hb hr hlocks e0 rfl hP hD hS dX3_howMany_35
      · have h := ifn c_13 h
        refine lv_aload_n hx hb dX3_howMany_14 rfl (lv_at hl 0 rfl) ?_
        refine lv_iload hx hb dX3_howMany_15 (lv_at hl 4 rfl) ?_
        refine lv_iload_n hx hb dX3_howMany_17 rfl (lv_at hl 1 rfl) ?_
        obtain ⟨r_14, hc_16, h⟩ := bn1_s h
        refine call_i (ws1 := [(a, .inr (3, [.int (v_width), .ref a_cells, .int (v_size)])), (a_cells, .inl (cy 0, n_cells, .inl (f_cells)))]) (wr := []) (run_V ⟨hx, hb, hml, hown, hts⟩ ((c_X3_at l D cy a a_cells (v_width) (v_size) n_cells (f_cells) (y4) (y1) r_14 hc_16) H.size) (cwV 2 hts gX3_howMany_X3_at rfl rfl rfl hd_X3_at ⟨Nat.le_of_ble_eq_true rfl, Nat.le_of_ble_eq_true rfl⟩) KK.calling (fun U _ hW => hK.warm hW) hK.1 hP hD [0, 1] [] [0, 1] rfl rfl 0 3 rfl rfl rfl rfl hl.1 rfl (lv_room (Nat.le_of_ble_eq_true rfl)) dX3_howMany_18) hP hD hS hA [0, 1] [] [0, 1] rfl rfl rfl rfl (fun H locs hP hD hS => ?_)
        refine lv_iload_n hx hb dX3_howMany_21 rfl (lv_at hl 2 rfl) ?_
        refine lv_icmp_ne (tgt := 28) hx hb dX3_howMany_22 (by decide) (fun c_15 => ?_) (fun c_15 => ?_)
        · have h := ifn c_15 h
          refine lv_iinc (v := y4 + (1 : Int32)) (lv' := [(4, .int (y4 + (1 : Int32))), (0, .ref a), (1, .int (y1)), (2, .int (y2)), (3, .int (y3))]) hx hb dX3_howMany_28 hl (k := 4) rfl rfl (by decide) rfl (fun ls hl => ?_)
          refine lv_goto (tgt := 5) hx hb dX3_howMany_31 (by decide) ?_
          exact ih5 (y1) (y2) (y3) (y4 + (1 : Int32)) H locs ls hP hD hS (lv_sub hl [1, 2, 3, 4, 0] rfl) h
        · have h := ift c_15 h
          refine lv_iinc (v := y3 + (1 : Int32)) (lv' := [(3, .int (y3 + (1 : Int32))), (0, .ref a), (1, .int (y1)), (2, .int (y2)), (4, .int (y4))]) hx hb dX3_howMany_25 hl (k := 3) rfl rfl (by decide) rfl (fun ls hl => ?_)
          refine lv_iinc (v := y4 + (1 : Int32)) (lv' := [(4, .int (y4 + (1 : Int32))), (3, .int (y3 + (1 : Int32))), (0, .ref a), (1, .int (y1)), (2, .int (y2))]) hx hb dX3_howMany_28 hl (k := 4) rfl rfl (by decide) rfl (fun ls hl => ?_)
          refine lv_goto (tgt := 5) hx hb dX3_howMany_31 (by decide) ?_
          exact ih5 (y1) (y2) (y3 + (1 : Int32)) (y4 + (1 : Int32)) H locs ls hP hD hS (lv_sub hl [2, 3, 4, 1, 0] rfl) h
  have main : ∀ (H : Heap) (locs : List Loc) (ls : Array Slot), va_P D vwCl [(a, .inr (3, [.int (v_width), .ref a_cells, .int (v_size)])), (a_cells, .inl (cy 0, n_cells, .inl (f_cells)))] H → va_D A [(a, .inr (3, [.int (v_width), .ref a_cells, .int (v_size)])), (a_cells, .inl (cy 0, n_cells, .inl (f_cells)))] → va_S A s.heap H locs → lv_has ls 5 [(0, .ref a), (1, .int (x1)), (2, .int (x2))] → f_X3_howMany x1 x2 v_width v_size n_cells f_cells = some res → W p l e ({ frames := 1, cells := 0, slots := 0, locals := 22 } : Room) s m [.ref a, .int (x1), .int (x2)].toArray below meth c H locs 0 0 (MQ below (Qi D A [(a, .inr (3, [.int (v_width), .ref a_cells, .int (v_size)])), (a_cells, .inl (cy 0, n_cells, .inl (f_cells)))] res) [.ref a, .int (x1), .int (x2)].toArray s 0 0 A) (F0 m 0 ls []) := by
    intro H locs ls hP hD hS hl h
    unfold f_X3_howMany at h
    refine lv_iconst (v := (0 : Int32)) hx hb dX3_howMany_0 (by decide) ?_
    refine lv_istore_n (lv' := [(3, .int ((0 : Int32))), (0, .ref a), (1, .int (x1)), (2, .int (x2))]) hx hb dX3_howMany_1 rfl hl (by decide) rfl (fun ls hl => ?_)
    refine lv_iconst (v := (0 : Int32)) hx hb dX3_howMany_2 (by decide) ?_
    refine lv_istore (lv' := [(4, .int ((0 : Int32))), (3, .int ((0 : Int32))), (0, .ref a), (1, .int (x1)), (2, .int (x2))]) hx hb dX3_howMany_3 hl (by decide) rfl (fun ls hl => ?_)
    exact hL5 FUEL (x1) (x2) ((0 : Int32)) ((0 : Int32)) H locs ls hP hD hS (lv_sub hl [2, 3, 4, 1, 0] rfl) h
  exact main s.heap [] ls hP hD va_S.rf hl h
theorem hd_X6_isCallAt : yX6_isCallAt.cls = RX6 ∧ yX6_isCallAt.cls ≠ "java/lang/invoke/MethodHandle" ∧ yX6_isCallAt.cls ≠ "java/lang/invoke/VarHandle" ∧ (parseMethodDescriptor yX6_isCallAt.desc).map (fun d => d.parameters.length) = some 1 := by decide +kernel
def f_X6_isCallAt (x1 : Int32) (v_calls_width : Int32) (v_calls_size : Int32) (f_calls_cells : Nat → Int32) : Option (Int32) := (bn1 (f_X3_howMany ((0 : Int32)) (x1) (v_calls_width) (v_calls_size) 32 (f_calls_cells)) (fun r_10 => (if r_10 ≤ 0 then (some ((0 : Int32))) else (some ((1 : Int32))))))
set_option maxHeartbeats 4000000 in
set_option maxRecDepth 100000 in
theorem c_X6_isCallAt (l : Launch) (D : va_G) (cy : Nat → ClassId) (a a_routines a_ops a_landings a_calls a_registers a_words a_calls_cells : Nat) (v_calls_width : Int32) (v_calls_size : Int32) (f_calls_cells : Nat → Int32) (x1 : Int32) (res : Int32) (h : f_X6_isCallAt x1 v_calls_width v_calls_size f_calls_cells = some res) : Mi l yX6_isCallAt wsX6_isCallAt ({ frames := 2, cells := 0, slots := 0, locals := 46 } : Room) (KK D cy) D [.ref a, .int (x1)] [(a, .inr (6, [.ref a_routines, .ref a_ops, .ref a_landings, .ref a_calls, .ref a_registers, .ref a_words])), (a_calls, .inr (3, [.int (v_calls_width), .ref a_calls_cells, .int (v_calls_size)])), (a_calls_cells, .inl (cy 0, 32, .inl (f_calls_cells)))] [(a, .inr (6, [.ref a_routines, .ref a_ops, .ref a_landings, .ref a_calls, .ref a_registers, .ref a_words])), (a_calls, .inr (3, [.int (v_calls_width), .ref a_calls_cells, .int (v_calls_size)])), (a_calls_cells, .inl (cy 0, 32, .inl (f_calls_cells)))] res := by
  intro sz
  refine Met.mk0 (cc := cX6_isCallAt) (maxL := 2) (ret := (some .boolean)) (Qc := fun A => Qi D A [(a, .inr (6, [.ref a_routines, .ref a_ops, .ref a_landings, .ref a_calls, .ref a_registers, .ref a_words])), (a_calls, .inr (3, [.int (v_calls_width), .ref a_calls_cells, .int (v_calls_size)])), (a_calls_cells, .inl (cy 0, 32, .inl (f_calls_cells)))] res) (by decide) rfl (Nat.le_of_ble_eq_true rfl) ?_
  intro p e s m below meth c A ls hx hb hml hown hts hr hlocks hK hP hD hA hl
  have hown : s.vm.findClass RX6 = some m.cls := hown
  have hl : lv_has ls 2 [(0, .ref a), (1, .int (x1))] := hl
  have hinX6 : ∀ w ∈ u_ws RX6 TX6 6, w ∈ wsX6_isCallAt := (fun w h => List.mem_cons_of_mem _ (List.mem_append_left _ (List.mem_append_right _ h)))
  have hinX3 : ∀ w ∈ u_ws RX3 TX3 3, w ∈ wsX6_isCallAt := (fun w h => List.mem_cons_of_mem _ (List.mem_append_right _ h))
  have main : ∀ (H : Heap) (locs : List Loc) (ls : Array Slot), va_P D vwCl [(a, .inr (6, [.ref a_routines, .ref a_ops, .ref a_landings, .ref a_calls, .ref a_registers, .ref a_words])), (a_calls, .inr (3, [.int (v_calls_width), .ref a_calls_cells, .int (v_calls_size)])), (a_calls_cells, .inl (cy 0, 32, .inl (f_calls_cells)))] H → va_D A [(a, .inr (6, [.ref a_routines, .ref a_ops, .ref a_landings, .ref a_calls, .ref a_registers, .ref a_words])), (a_calls, .inr (3, [.int (v_calls_width), .ref a_calls_cells, .int (v_calls_size)])), (a_calls_cells, .inl (cy 0, 32, .inl (f_calls_cells)))] → va_S A s.heap H locs → lv_has ls 2 [(0, .ref a), (1, .int (x1))] → f_X6_isCallAt x1 v_calls_width v_calls_size f_calls_cells = some res → W p l e ({ frames := 2, cells := 0, slots := 0, locals := 46 } : Room) s m [.ref a, .int (x1)].toArray below meth c H locs 0 0 (MQ below (Qi D A [(a, .inr (6, [.ref a_routines, .ref a_ops, .ref a_landings, .ref a_calls, .ref a_registers, .ref a_words])), (a_calls, .inr (3, [.int (v_calls_width), .ref a_calls_cells, .int (v_calls_size)])), (a_calls_cells, .inl (cy 0, 32, .inl (f_calls_cells)))] res) [.ref a, .int (x1)].toArray s 0 0 A) (F0 m 0 ls []) := by
    intro H locs ls hP hD hS hl h
    unfold f_X6_isCallAt at h
    refine lv_aload_n hx hb dX6_isCallAt_0 rfl (lv_at hl 0 rfl) ?_
    refine va_get (D := D) (ci := 6) (v := .ref a_calls) (C := RX6) (T := TX6) (N := 6) hx hb hts hinX6 hown hK.1 hP 0 rfl rfl 3 (by decide) (hts (.fieldLink RX6 26 "FrameWalks$World" "calls" "LFrameWalks$Table;") (List.mem_of_getElem? (i := 1) rfl)) (fun _ h9 => h9) rfl dX6_isCallAt_1 ?_
    refine lv_iconst (v := (0 : Int32)) hx hb dX6_isCallAt_4 (by decide) ?_
    refine lv_iload_n hx hb dX6_isCallAt_5 rfl (lv_at hl 1 rfl) ?_
    obtain ⟨r_10, hc_12, h⟩ := bn1_s h
    refine call_i (ws1 := [(a, .inr (6, [.ref a_routines, .ref a_ops, .ref a_landings, .ref a_calls, .ref a_registers, .ref a_words])), (a_calls, .inr (3, [.int (v_calls_width), .ref a_calls_cells, .int (v_calls_size)])), (a_calls_cells, .inl (cy 0, 32, .inl (f_calls_cells)))]) (wr := [(a, .inr (6, [.ref a_routines, .ref a_ops, .ref a_landings, .ref a_calls, .ref a_registers, .ref a_words]))]) (run_V ⟨hx, hb, hml, hown, hts⟩ ((c_X3_howMany l D cy a_calls a_calls_cells (v_calls_width) (v_calls_size) 32 (f_calls_cells) ((0 : Int32)) (x1) r_10 hc_12) H.size) (cwV 2 hts gX6_isCallAt_X3_howMany rfl rfl rfl hd_X3_howMany ⟨Nat.le_of_ble_eq_true rfl, Nat.le_of_ble_eq_true rfl⟩) KK.calling (fun U _ hW => hK.warm hW) hK.1 hP hD [1, 2] [0] [0, 1, 2] rfl rfl 1 3 rfl rfl rfl rfl hl.1 rfl (lv_room (Nat.le_of_ble_eq_true rfl)) dX6_isCallAt_6) hP hD hS hA [1, 2] [0] [0, 1, 2] rfl rfl rfl rfl (fun H locs hP hD hS => ?_)
    refine lv_if_le (tgt := 16) hx hb dX6_isCallAt_9 (by decide) (fun c_11 => ?_) (fun c_11 => ?_)
    · have h := ift c_11 h
      refine lv_iconst (v := (0 : Int32)) hx hb dX6_isCallAt_16 (by decide) ?_
      have e0 := Option.some.inj h
      exact Mi.retz' hx hb hr hlocks (Or.inl rfl) e0 rfl hP hD hS dX6_isCallAt_17
    · have h := ifn c_11 h
      refine lv_iconst (v := (1 : Int32)) hx hb dX6_isCallAt_12 (by decide) ?_
      refine lv_goto (tgt := 17) hx hb dX6_isCallAt_13 (by decide) ?_
      have e0 := Option.some.inj h
      exact Mi.retz' hx hb hr hlocks (Or.inr rfl) e0 rfl hP hD hS dX6_isCallAt_17
  exact main s.heap [] ls hP hD va_S.rf hl h
theorem hd_X6_meets : yX6_meets.cls = RX6 ∧ yX6_meets.cls ≠ "java/lang/invoke/MethodHandle" ∧ yX6_meets.cls ≠ "java/lang/invoke/VarHandle" ∧ (parseMethodDescriptor yX6_meets.desc).map (fun d => d.parameters.length) = some 3 := by decide +kernel
def f_X6_meets (x1 : Int32) (x2 : Int32) (x3 : Int32) (v_routines_width : Int32) (v_routines_size : Int32) (f_routines_cells : Nat → Int32) : Option (Int32) := (bn1 (f_X3_at (x1) ((0 : Int32)) (v_routines_width) (v_routines_size) 24 (f_routines_cells)) (fun r_19 => (if x3 < r_19 then (some ((0 : Int32))) else (bn1 (f_X3_at (x1) ((1 : Int32)) (v_routines_width) (v_routines_size) 24 (f_routines_cells)) (fun r_21 => (if r_21 < x2 then (some ((0 : Int32))) else (some ((1 : Int32)))))))))
set_option maxHeartbeats 4000000 in
set_option maxRecDepth 100000 in
theorem c_X6_meets (l : Launch) (D : va_G) (cy : Nat → ClassId) (a a_routines a_ops a_landings a_calls a_registers a_words a_routines_cells : Nat) (v_routines_width : Int32) (v_routines_size : Int32) (f_routines_cells : Nat → Int32) (x1 : Int32) (x2 : Int32) (x3 : Int32) (res : Int32) (h : f_X6_meets x1 x2 x3 v_routines_width v_routines_size f_routines_cells = some res) : Mi l yX6_meets wsX6_meets ({ frames := 1, cells := 0, slots := 0, locals := 22 } : Room) (KK D cy) D [.ref a, .int (x1), .int (x2), .int (x3)] [(a, .inr (6, [.ref a_routines, .ref a_ops, .ref a_landings, .ref a_calls, .ref a_registers, .ref a_words])), (a_routines, .inr (3, [.int (v_routines_width), .ref a_routines_cells, .int (v_routines_size)])), (a_routines_cells, .inl (cy 0, 24, .inl (f_routines_cells)))] [(a, .inr (6, [.ref a_routines, .ref a_ops, .ref a_landings, .ref a_calls, .ref a_registers, .ref a_words])), (a_routines, .inr (3, [.int (v_routines_width), .ref a_routines_cells, .int (v_routines_size)])), (a_routines_cells, .inl (cy 0, 24, .inl (f_routines_cells)))] res := by
  intro sz
  refine Met.mk0 (cc := cX6_meets) (maxL := 4) (ret := (some .boolean)) (Qc := fun A => Qi D A [(a, .inr (6, [.ref a_routines, .ref a_ops, .ref a_landings, .ref a_calls, .ref a_registers, .ref a_words])), (a_routines, .inr (3, [.int (v_routines_width), .ref a_routines_cells, .int (v_routines_size)])), (a_routines_cells, .inl (cy 0, 24, .inl (f_routines_cells)))] res) (by decide) rfl (Nat.le_of_ble_eq_true rfl) ?_
  intro p e s m below meth c A ls hx hb hml hown hts hr hlocks hK hP hD hA hl
  have hown : s.vm.findClass RX6 = some m.cls := hown
  have hl : lv_has ls 4 [(0, .ref a), (1, .int (x1)), (2, .int (x2)), (3, .int (x3))] := hl
  have hinX6 : ∀ w ∈ u_ws RX6 TX6 6, w ∈ wsX6_meets := (fun w h => List.mem_cons_of_mem _ (List.mem_append_left _ (List.mem_append_right _ h)))
  have hinX3 : ∀ w ∈ u_ws RX3 TX3 3, w ∈ wsX6_meets := (fun w h => List.mem_cons_of_mem _ (List.mem_append_right _ h))
  have main : ∀ (H : Heap) (locs : List Loc) (ls : Array Slot), va_P D vwCl [(a, .inr (6, [.ref a_routines, .ref a_ops, .ref a_landings, .ref a_calls, .ref a_registers, .ref a_words])), (a_routines, .inr (3, [.int (v_routines_width), .ref a_routines_cells, .int (v_routines_size)])), (a_routines_cells, .inl (cy 0, 24, .inl (f_routines_cells)))] H → va_D A [(a, .inr (6, [.ref a_routines, .ref a_ops, .ref a_landings, .ref a_calls, .ref a_registers, .ref a_words])), (a_routines, .inr (3, [.int (v_routines_width), .ref a_routines_cells, .int (v_routines_size)])), (a_routines_cells, .inl (cy 0, 24, .inl (f_routines_cells)))] → va_S A s.heap H locs → lv_has ls 4 [(0, .ref a), (1, .int (x1)), (2, .int (x2)), (3, .int (x3))] → f_X6_meets x1 x2 x3 v_routines_width v_routines_size f_routines_cells = some res → W p l e ({ frames := 1, cells := 0, slots := 0, locals := 22 } : Room) s m [.ref a, .int (x1), .int (x2), .int (x3)].toArray below meth c H locs 0 0 (MQ below (Qi D A [(a, .inr (6, [.ref a_routines, .ref a_ops, .ref a_landings, .ref a_calls, .ref a_registers, .ref a_words])), (a_routines, .inr (3, [.int (v_routines_width), .ref a_routines_cells, .int (v_routines_size)])), (a_routines_cells, .inl (cy 0, 24, .inl (f_routines_cells)))] res) [.ref a, .int (x1), .int (x2), .int (x3)].toArray s 0 0 A) (F0 m 0 ls []) := by
    intro H locs ls hP hD hS hl h
    unfold f_X6_meets at h
    refine lv_aload_n hx hb dX6_meets_0 rfl (lv_at hl 0 rfl) ?_
    refine va_get (D := D) (ci := 6) (v := .ref a_routines) (C := RX6) (T := TX6) (N := 6) hx hb hts hinX6 hown hK.1 hP 0 rfl rfl 0 (by decide) (hts (.fieldLink RX6 14 "FrameWalks$World" "routines" "LFrameWalks$Table;") (List.mem_of_getElem? (i := 1) rfl)) (fun _ h9 => h9) rfl dX6_meets_1 ?_
    refine lv_iload_n hx hb dX6_meets_4 rfl (lv_at hl 1 rfl) ?_
    refine lv_iconst (v := (0 : Int32)) hx hb dX6_meets_5 (by decide) ?_
    obtain ⟨r_19, hc_24, h⟩ := bn1_s h
    refine call_i (ws1 := [(a, .inr (6, [.ref a_routines, .ref a_ops, .ref a_landings, .ref a_calls, .ref a_registers, .ref a_words])), (a_routines, .inr (3, [.int (v_routines_width), .ref a_routines_cells, .int (v_routines_size)])), (a_routines_cells, .inl (cy 0, 24, .inl (f_routines_cells)))]) (wr := [(a, .inr (6, [.ref a_routines, .ref a_ops, .ref a_landings, .ref a_calls, .ref a_registers, .ref a_words]))]) (run_V ⟨hx, hb, hml, hown, hts⟩ ((c_X3_at l D cy a_routines a_routines_cells (v_routines_width) (v_routines_size) 24 (f_routines_cells) (x1) ((0 : Int32)) r_19 hc_24) H.size) (cwV 2 hts gX6_meets_X3_at rfl rfl rfl hd_X3_at ⟨Nat.le_of_ble_eq_true rfl, Nat.le_of_ble_eq_true rfl⟩) KK.calling (fun U _ hW => hK.warm hW) hK.1 hP hD [1, 2] [0] [0, 1, 2] rfl rfl 1 3 rfl rfl rfl rfl hl.1 rfl (lv_room (Nat.le_of_ble_eq_true rfl)) dX6_meets_6) hP hD hS hA [1, 2] [0] [0, 1, 2] rfl rfl rfl rfl (fun H locs hP hD hS => ?_)
    refine lv_iload_n hx hb dX6_meets_9 rfl (lv_at hl 3 rfl) ?_
    refine lv_icmp_gt (tgt := 30) hx hb dX6_meets_10 (by decide) (fun c_20 => ?_) (fun c_20 => ?_)
    · have h := ift c_20 h
      refine lv_iconst (v := (0 : Int32)) hx hb dX6_meets_30 (by decide) ?_
      have e0 := Option.some.inj h
      exact Mi.retz' hx hb hr hlocks (Or.inl rfl) e0 rfl hP hD hS dX6_meets_31
    · have h := ifn c_20 h
      refine lv_aload_n hx hb dX6_meets_13 rfl (lv_at hl 0 rfl) ?_
      refine va_get (D := D) (ci := 6) (v := .ref a_routines) (C := RX6) (T := TX6) (N := 6) hx hb hts hinX6 hown hK.1 hP 0 rfl rfl 0 (by decide) (hts (.fieldLink RX6 14 "FrameWalks$World" "routines" "LFrameWalks$Table;") (List.mem_of_getElem? (i := 1) rfl)) (fun _ h9 => h9) rfl dX6_meets_14 ?_
      refine lv_iload_n hx hb dX6_meets_17 rfl (lv_at hl 1 rfl) ?_
      refine lv_iconst (v := (1 : Int32)) hx hb dX6_meets_18 (by decide) ?_
      obtain ⟨r_21, hc_23, h⟩ := bn1_s h
      refine call_i (ws1 := [(a, .inr (6, [.ref a_routines, .ref a_ops, .ref a_landings, .ref a_calls, .ref a_registers, .ref a_words])), (a_routines, .inr (3, [.int (v_routines_width), .ref a_routines_cells, .int (v_routines_size)])), (a_routines_cells, .inl (cy 0, 24, .inl (f_routines_cells)))]) (wr := [(a, .inr (6, [.ref a_routines, .ref a_ops, .ref a_landings, .ref a_calls, .ref a_registers, .ref a_words]))]) (run_V ⟨hx, hb, hml, hown, hts⟩ ((c_X3_at l D cy a_routines a_routines_cells (v_routines_width) (v_routines_size) 24 (f_routines_cells) (x1) ((1 : Int32)) r_21 hc_23) H.size) (cwV 2 hts gX6_meets_X3_at rfl rfl rfl hd_X3_at ⟨Nat.le_of_ble_eq_true rfl, Nat.le_of_ble_eq_true rfl⟩) KK.calling (fun U _ hW => hK.warm hW) hK.1 hP hD [1, 2] [0] [0, 1, 2] rfl rfl 1 3 rfl rfl rfl rfl hl.1 rfl (lv_room (Nat.le_of_ble_eq_true rfl)) dX6_meets_19) hP hD hS hA [1, 2] [0] [0, 1, 2] rfl rfl rfl rfl (fun H locs hP hD hS => ?_)
      refine lv_iload_n hx hb dX6_meets_22 rfl (lv_at hl 2 rfl) ?_
      refine lv_icmp_lt (tgt := 30) hx hb dX6_meets_23 (by decide) (fun c_22 => ?_) (fun c_22 => ?_)
      · have h := ift c_22 h
        refine lv_iconst (v := (0 : Int32)) hx hb dX6_meets_30 (by decide) ?_
        have e0 := Option.some.inj h
        exact Mi.retz' hx hb hr hlocks (Or.inl rfl) e0 rfl hP hD hS dX6_meets_31
      · have h := ifn c_22 h
        refine lv_iconst (v := (1 : Int32)) hx hb dX6_meets_26 (by decide) ?_
        refine lv_goto (tgt := 31) hx hb dX6_meets_27 (by decide) ?_
        have e0 := Option.some.inj h
        exact Mi.retz' hx hb hr hlocks (Or.inr rfl) e0 rfl hP hD hS dX6_meets_31
  exact main s.heap [] ls hP hD va_S.rf hl h
theorem hd_X6_isCallInto : yX6_isCallInto.cls = RX6 ∧ yX6_isCallInto.cls ≠ "java/lang/invoke/MethodHandle" ∧ yX6_isCallInto.cls ≠ "java/lang/invoke/VarHandle" ∧ (parseMethodDescriptor yX6_isCallInto.desc).map (fun d => d.parameters.length) = some 2 := by decide +kernel
def f_X6_isCallInto_L2 (v_routines_width : Int32) (v_routines_size : Int32) (f_routines_cells : Nat → Int32) (v_calls_width : Int32) (v_calls_size : Int32) (f_calls_cells : Nat → Int32) : Nat → Int32 → Int32 → Int32 → Option (Int32)
  | 0, _, _, _ => none
  | n + 1, y1, y2, y3 => (if v_calls_size ≤ y3 then (some ((0 : Int32))) else (bn1 (f_X3_at (y3) ((1 : Int32)) (v_calls_width) (v_calls_size) 32 (f_calls_cells)) (fun r_29 => (bn1 (f_X3_at (y3) ((0 : Int32)) (v_calls_width) (v_calls_size) 32 (f_calls_cells)) (fun r_30 => (if r_30 = y1 then (bn1 (f_X6_meets (y2) (r_29) (r_29) (v_routines_width) (v_routines_size) (f_routines_cells)) (fun r_32 => (if r_32 = 0 then ((f_X6_isCallInto_L2 v_routines_width v_routines_size f_routines_cells v_calls_width v_calls_size f_calls_cells  n) (y1) (y2) (y3 + (1 : Int32))) else (some ((1 : Int32)))))) else ((f_X6_isCallInto_L2 v_routines_width v_routines_size f_routines_cells v_calls_width v_calls_size f_calls_cells  n) (y1) (y2) (y3 + (1 : Int32)))))))))
def f_X6_isCallInto (x1 : Int32) (x2 : Int32) (v_routines_width : Int32) (v_routines_size : Int32) (f_routines_cells : Nat → Int32) (v_calls_width : Int32) (v_calls_size : Int32) (f_calls_cells : Nat → Int32) : Option (Int32) := (f_X6_isCallInto_L2 v_routines_width v_routines_size f_routines_cells v_calls_width v_calls_size f_calls_cells  FUEL (x1) (x2) ((0 : Int32)))
set_option maxHeartbeats 4000000 in
set_option maxRecDepth 100000 in
theorem c_X6_isCallInto (l : Launch) (D : va_G) (cy : Nat → ClassId) (a a_routines a_ops a_landings a_calls a_registers a_words a_routines_cells a_calls_cells : Nat) (v_routines_width : Int32) (v_routines_size : Int32) (f_routines_cells : Nat → Int32) (v_calls_width : Int32) (v_calls_size : Int32) (f_calls_cells : Nat → Int32) (x1 : Int32) (x2 : Int32) (res : Int32) (h : f_X6_isCallInto x1 x2 v_routines_width v_routines_size f_routines_cells v_calls_width v_calls_size f_calls_cells = some res) : Mi l yX6_isCallInto wsX6_isCallInto ({ frames := 2, cells := 0, slots := 0, locals := 45 } : Room) (KK D cy) D [.ref a, .int (x1), .int (x2)] [(a, .inr (6, [.ref a_routines, .ref a_ops, .ref a_landings, .ref a_calls, .ref a_registers, .ref a_words])), (a_routines, .inr (3, [.int (v_routines_width), .ref a_routines_cells, .int (v_routines_size)])), (a_routines_cells, .inl (cy 0, 24, .inl (f_routines_cells))), (a_calls, .inr (3, [.int (v_calls_width), .ref a_calls_cells, .int (v_calls_size)])), (a_calls_cells, .inl (cy 0, 32, .inl (f_calls_cells)))] [(a, .inr (6, [.ref a_routines, .ref a_ops, .ref a_landings, .ref a_calls, .ref a_registers, .ref a_words])), (a_routines, .inr (3, [.int (v_routines_width), .ref a_routines_cells, .int (v_routines_size)])), (a_routines_cells, .inl (cy 0, 24, .inl (f_routines_cells))), (a_calls, .inr (3, [.int (v_calls_width), .ref a_calls_cells, .int (v_calls_size)])), (a_calls_cells, .inl (cy 0, 32, .inl (f_calls_cells)))] res := by
  intro sz
  refine Met.mk0 (cc := cX6_isCallInto) (maxL := 5) (ret := (some .boolean)) (Qc := fun A => Qi D A [(a, .inr (6, [.ref a_routines, .ref a_ops, .ref a_landings, .ref a_calls, .ref a_registers, .ref a_words])), (a_routines, .inr (3, [.int (v_routines_width), .ref a_routines_cells, .int (v_routines_size)])), (a_routines_cells, .inl (cy 0, 24, .inl (f_routines_cells))), (a_calls, .inr (3, [.int (v_calls_width), .ref a_calls_cells, .int (v_calls_size)])), (a_calls_cells, .inl (cy 0, 32, .inl (f_calls_cells)))] res) (by decide) rfl (Nat.le_of_ble_eq_true rfl) ?_
  intro p e s m below meth c A ls hx hb hml hown hts hr hlocks hK hP hD hA hl
  have hown : s.vm.findClass RX6 = some m.cls := hown
  have hl : lv_has ls 5 [(0, .ref a), (1, .int (x1)), (2, .int (x2))] := hl
  have hinX6 : ∀ w ∈ u_ws RX6 TX6 6, w ∈ wsX6_isCallInto := (fun w h => List.mem_cons_of_mem _ (List.mem_append_left _ (List.mem_append_right _ h)))
  have hinX3 : ∀ w ∈ u_ws RX3 TX3 3, w ∈ wsX6_isCallInto := (fun w h => List.mem_cons_of_mem _ (List.mem_append_right _ h))
  have hL2 : ∀ (n2 : Nat) (y1 : Int32) (y2 : Int32) (y3 : Int32) (H : Heap) (locs : List Loc) (ls : Array Slot), va_P D vwCl [(a, .inr (6, [.ref a_routines, .ref a_ops, .ref a_landings, .ref a_calls, .ref a_registers, .ref a_words])), (a_routines, .inr (3, [.int (v_routines_width), .ref a_routines_cells, .int (v_routines_size)])), (a_routines_cells, .inl (cy 0, 24, .inl (f_routines_cells))), (a_calls, .inr (3, [.int (v_calls_width), .ref a_calls_cells, .int (v_calls_size)])), (a_calls_cells, .inl (cy 0, 32, .inl (f_calls_cells)))] H → va_D A [(a, .inr (6, [.ref a_routines, .ref a_ops, .ref a_landings, .ref a_calls, .ref a_registers, .ref a_words])), (a_routines, .inr (3, [.int (v_routines_width), .ref a_routines_cells, .int (v_routines_size)])), (a_routines_cells, .inl (cy 0, 24, .inl (f_routines_cells))), (a_calls, .inr (3, [.int (v_calls_width), .ref a_calls_cells, .int (v_calls_size)])), (a_calls_cells, .inl (cy 0, 32, .inl (f_calls_cells)))] → va_S A s.heap H locs → lv_has ls 5 [(0, .ref a), (1, .int (y1)), (2, .int (y2)), (3, .int (y3))] → f_X6_isCallInto_L2 v_routines_width v_routines_size f_routines_cells v_calls_width v_calls_size f_calls_cells  n2 y1 y2 y3 = some res → W p l e ({ frames := 2, cells := 0, slots := 0, locals := 45 } : Room) s m [.ref a, .int (x1), .int (x2)].toArray below meth c H locs 0 0 (MQ below (Qi D A [(a, .inr (6, [.ref a_routines, .ref a_ops, .ref a_landings, .ref a_calls, .ref a_registers, .ref a_words])), (a_routines, .inr (3, [.int (v_routines_width), .ref a_routines_cells, .int (v_routines_size)])), (a_routines_cells, .inl (cy 0, 24, .inl (f_routines_cells))), (a_calls, .inr (3, [.int (v_calls_width), .ref a_calls_cells, .int (v_calls_size)])), (a_calls_cells, .inl (cy 0, 32, .inl (f_calls_cells)))] res) [.ref a, .int (x1), .int (x2)].toArray s 0 0 A) (F0 m 2 ls []) := by
    intro n2
    induction n2 with
    | zero =>
      intro y1 y2 y3 H locs ls hP hD hS hl h
      cases (id h : (none : Option (Int32)) = some _)
    | succ n2 ih2 =>
      intro y1 y2 y3 H locs ls hP hD hS hl h
      rw [f_X6_isCallInto_L2] at h
      refine lv_iload_n hx hb dX6_isCallInto_2 rfl (lv_at hl 3 rfl) ?_
      refine lv_aload_n hx hb dX6_isCallInto_3 rfl (lv_at hl 0 rfl) ?_
      refine va_get (D := D) (ci := 6) (v := .ref a_calls) (C := RX6) (T := TX6) (N := 6) hx hb hts hinX6 hown hK.1 hP 0 rfl rfl 3 (by decide) (hts (.fieldLink RX6 26 "FrameWalks$World" "calls" "LFrameWalks$Table;") (List.mem_of_getElem? (i := 1) rfl)) (fun _ h9 => h9) rfl dX6_isCallInto_4 ?_
      refine va_getN (D := D) (ci := 3) (v := .int (v_calls_size)) (C := RX3) (T := TX3) (N := 3) hx hb hts hinX3 hown hK.1 hP 3 rfl rfl 2 (by decide) ((hK.2.1 _ (List.mem_of_getElem? (i := 0) rfl)).use rfl) (fun _ h9 => h9) rfl dX6_isCallInto_7 ?_
      refine lv_icmp_ge (tgt := 57) hx hb dX6_isCallInto_10 (by decide) (fun c_28 => ?_) (fun c_28 => ?_)
      · have h := ift c_28 h
        refine lv_iconst (v := (0 : Int32)) hx hb dX6_isCallInto_57 (by decide) ?_
        have e0 := Option.some.inj h
        exact Mi.retz' hx hb hr hlocks (Or.inl rfl) e0 rfl hP hD hS dX6_isCallInto_58
      · have h := ifn c_28 h
        refine lv_aload_n hx hb dX6_isCallInto_13 rfl (lv_at hl 0 rfl) ?_
        refine va_get (D := D) (ci := 6) (v := .ref a_calls) (C := RX6) (T := TX6) (N := 6) hx hb hts hinX6 hown hK.1 hP 0 rfl rfl 3 (by decide) (hts (.fieldLink RX6 26 "FrameWalks$World" "calls" "LFrameWalks$Table;") (List.mem_of_getElem? (i := 1) rfl)) (fun _ h9 => h9) rfl dX6_isCallInto_14 ?_
        refine lv_iload_n hx hb dX6_isCallInto_17 rfl (lv_at hl 3 rfl) ?_
        refine lv_iconst (v := (1 : Int32)) hx hb dX6_isCallInto_18 (by decide) ?_
        obtain ⟨r_29, hc_36, h⟩ := bn1_s h
        refine call_i (ws1 := [(a, .inr (6, [.ref a_routines, .ref a_ops, .ref a_landings, .ref a_calls, .ref a_registers, .ref a_words])), (a_routines, .inr (3, [.int (v_routines_width), .ref a_routines_cells, .int (v_routines_size)])), (a_routines_cells, .inl (cy 0, 24, .inl (f_routines_cells))), (a_calls, .inr (3, [.int (v_calls_width), .ref a_calls_cells, .int (v_calls_size)])), (a_calls_cells, .inl (cy 0, 32, .inl (f_calls_cells)))]) (wr := [(a, .inr (6, [.ref a_routines, .ref a_ops, .ref a_landings, .ref a_calls, .ref a_registers, .ref a_words])), (a_routines, .inr (3, [.int (v_routines_width), .ref a_routines_cells, .int (v_routines_size)])), (a_routines_cells, .inl (cy 0, 24, .inl (f_routines_cells)))]) (run_V ⟨hx, hb, hml, hown, hts⟩ ((c_X3_at l D cy a_calls a_calls_cells (v_calls_width) (v_calls_size) 32 (f_calls_cells) (y3) ((1 : Int32)) r_29 hc_36) H.size) (cwV 2 hts gX6_isCallInto_X3_at rfl rfl rfl hd_X3_at ⟨Nat.le_of_ble_eq_true rfl, Nat.le_of_ble_eq_true rfl⟩) KK.calling (fun U _ hW => hK.warm hW) hK.1 hP hD [3, 4] [0, 1, 2] [0, 1, 2, 3, 4] rfl rfl 3 3 rfl rfl rfl rfl hl.1 rfl (lv_room (Nat.le_of_ble_eq_true rfl)) dX6_isCallInto_19) hP hD hS hA [3, 4] [0, 1, 2] [0, 1, 2, 3, 4] rfl rfl rfl rfl (fun H locs hP hD hS => ?_)
        refine lv_istore (lv' := [(4, .int (r_29)), (0, .ref a), (1, .int (y1)), (2, .int (y2)), (3, .int (y3))]) hx hb dX6_isCallInto_22 hl (by decide) rfl (fun ls hl => ?_)
        refine lv_aload_n hx hb dX6_isCallInto_24 rfl (lv_at hl 1 rfl) ?_
        refine va_get (D := D) (ci := 6) (v := .ref a_calls) (C := RX6) (T := TX6) (N := 6) hx hb hts hinX6 hown hK.1 hP 0 rfl rfl 3 (by decide) (hts (.fieldLink RX6 26 "FrameWalks$World" "calls" "LFrameWalks$Table;") (List.mem_of_getElem? (i := 1) rfl)) (fun _ h9 => h9) rfl dX6_isCallInto_25 ?_
        refine lv_iload_n hx hb dX6_isCallInto_28 rfl (lv_at hl 4 rfl) ?_
        refine lv_iconst (v := (0 : Int32)) hx hb dX6_isCallInto_29 (by decide) ?_
        obtain ⟨r_30, hc_35, h⟩ := bn1_s h
        refine call_i (ws1 := [(a, .inr (6, [.ref a_routines, .ref a_ops, .ref a_landings, .ref a_calls, .ref a_registers, .ref a_words])), (a_routines, .inr (3, [.int (v_routines_width), .ref a_routines_cells, .int (v_routines_size)])), (a_routines_cells, .inl (cy 0, 24, .inl (f_routines_cells))), (a_calls, .inr (3, [.int (v_calls_width), .ref a_calls_cells, .int (v_calls_size)])), (a_calls_cells, .inl (cy 0, 32, .inl (f_calls_cells)))]) (wr := [(a, .inr (6, [.ref a_routines, .ref a_ops, .ref a_landings, .ref a_calls, .ref a_registers, .ref a_words])), (a_routines, .inr (3, [.int (v_routines_width), .ref a_routines_cells, .int (v_routines_size)])), (a_routines_cells, .inl (cy 0, 24, .inl (f_routines_cells)))]) (run_V ⟨hx, hb, hml, hown, hts⟩ ((c_X3_at l D cy a_calls a_calls_cells (v_calls_width) (v_calls_size) 32 (f_calls_cells) (y3) ((0 : Int32)) r_30 hc_35) H.size) (cwV 2 hts gX6_isCallInto_X3_at rfl rfl rfl hd_X3_at ⟨Nat.le_of_ble_eq_true rfl, Nat.le_of_ble_eq_true rfl⟩) KK.calling (fun U _ hW => hK.warm hW) hK.1 hP hD [3, 4] [0, 1, 2] [0, 1, 2, 3, 4] rfl rfl 3 3 rfl rfl rfl rfl hl.1 rfl (lv_room (Nat.le_of_ble_eq_true rfl)) dX6_isCallInto_30) hP hD hS hA [3, 4] [0, 1, 2] [0, 1, 2, 3, 4] rfl rfl rfl rfl (fun H locs hP hD hS => ?_)
        refine lv_iload_n hx hb dX6_isCallInto_33 rfl (lv_at hl 2 rfl) ?_
        refine lv_icmp_ne (tgt := 51) hx hb dX6_isCallInto_34 (by decide) (fun c_31 => ?_) (fun c_31 => ?_)
        · have h := ifn c_31 h
          refine lv_iinc (v := y3 + (1 : Int32)) (lv' := [(3, .int (y3 + (1 : Int32))), (4, .int (r_29)), (0, .ref a), (1, .int (y1)), (2, .int (y2))]) hx hb dX6_isCallInto_51 hl (k := 4) rfl rfl (by decide) rfl (fun ls hl => ?_)
          refine lv_goto (tgt := 2) hx hb dX6_isCallInto_54 (by decide) ?_
          exact ih2 (y1) (y2) (y3 + (1 : Int32)) H locs ls hP hD hS (lv_sub hl [2, 3, 4, 0] rfl) h
        · have h := ift c_31 h
          refine lv_aload_n hx hb dX6_isCallInto_37 rfl (lv_at hl 1 rfl) ?_
          refine lv_iload_n hx hb dX6_isCallInto_38 rfl (lv_at hl 3 rfl) ?_
          refine lv_iload hx hb dX6_isCallInto_39 (lv_at hl 0 rfl) ?_
          refine lv_iload hx hb dX6_isCallInto_41 (lv_at hl 0 rfl) ?_
          obtain ⟨r_32, hc_34, h⟩ := bn1_s h
          refine call_i (ws1 := [(a, .inr (6, [.ref a_routines, .ref a_ops, .ref a_landings, .ref a_calls, .ref a_registers, .ref a_words])), (a_routines, .inr (3, [.int (v_routines_width), .ref a_routines_cells, .int (v_routines_size)])), (a_routines_cells, .inl (cy 0, 24, .inl (f_routines_cells))), (a_calls, .inr (3, [.int (v_calls_width), .ref a_calls_cells, .int (v_calls_size)])), (a_calls_cells, .inl (cy 0, 32, .inl (f_calls_cells)))]) (wr := [(a_calls, .inr (3, [.int (v_calls_width), .ref a_calls_cells, .int (v_calls_size)])), (a_calls_cells, .inl (cy 0, 32, .inl (f_calls_cells)))]) (run_V ⟨hx, hb, hml, hown, hts⟩ ((c_X6_meets l D cy a a_routines a_ops a_landings a_calls a_registers a_words a_routines_cells (v_routines_width) (v_routines_size) (f_routines_cells) (y2) (r_29) (r_29) r_32 hc_34) H.size) (cwV 3 hts gX6_isCallInto_X6_meets rfl rfl rfl hd_X6_meets ⟨Nat.le_of_ble_eq_true rfl, Nat.le_of_ble_eq_true rfl⟩) KK.calling (fun U _ hW => hK.warm hW) hK.1 hP hD [0, 1, 2] [3, 4] [2, 3, 4, 0, 1] rfl rfl 0 6 rfl rfl rfl rfl hl.1 rfl (lv_room (Nat.le_of_ble_eq_true rfl)) dX6_isCallInto_43) hP hD hS hA [0, 1, 2] [3, 4] [2, 3, 4, 0, 1] rfl rfl rfl rfl (fun H locs hP hD hS => ?_)
          refine lv_if_eq (tgt := 51) hx hb dX6_isCallInto_46 (by decide) (fun c_33 => ?_) (fun c_33 => ?_)
          · have h := ift c_33 h
            refine lv_iinc (v := y3 + (1 : Int32)) (lv' := [(3, .int (y3 + (1 : Int32))), (4, .int (r_29)), (0, .ref a), (1, .int (y1)), (2, .int (y2))]) hx hb dX6_isCallInto_51 hl (k := 4) rfl rfl (by decide) rfl (fun ls hl => ?_)
            refine lv_goto (tgt := 2) hx hb dX6_isCallInto_54 (by decide) ?_
            exact ih2 (y1) (y2) (y3 + (1 : Int32)) H locs ls hP hD hS (lv_sub hl [2, 3, 4, 0] rfl) h
          · have h := ifn c_33 h
            refine lv_iconst (v := (1 : Int32)) hx hb dX6_isCallInto_49 (by decide) ?_
            have e0 := Option.some.inj h
            exact Mi.retz' hx hb hr hlocks (Or.inr rfl) e0 rfl hP hD hS dX6_isCallInto_50
  have main : ∀ (H : Heap) (locs : List Loc) (ls : Array Slot), va_P D vwCl [(a, .inr (6, [.ref a_routines, .ref a_ops, .ref a_landings, .ref a_calls, .ref a_registers, .ref a_words])), (a_routines, .inr (3, [.int (v_routines_width), .ref a_routines_cells, .int (v_routines_size)])), (a_routines_cells, .inl (cy 0, 24, .inl (f_routines_cells))), (a_calls, .inr (3, [.int (v_calls_width), .ref a_calls_cells, .int (v_calls_size)])), (a_calls_cells, .inl (cy 0, 32, .inl (f_calls_cells)))] H → va_D A [(a, .inr (6, [.ref a_routines, .ref a_ops, .ref a_landings, .ref a_calls, .ref a_registers, .ref a_words])), (a_routines, .inr (3, [.int (v_routines_width), .ref a_routines_cells, .int (v_routines_size)])), (a_routines_cells, .inl (cy 0, 24, .inl (f_routines_cells))), (a_calls, .inr (3, [.int (v_calls_width), .ref a_calls_cells, .int (v_calls_size)])), (a_calls_cells, .inl (cy 0, 32, .inl (f_calls_cells)))] → va_S A s.heap H locs → lv_has ls 5 [(0, .ref a), (1, .int (x1)), (2, .int (x2))] → f_X6_isCallInto x1 x2 v_routines_width v_routines_size f_routines_cells v_calls_width v_calls_size f_calls_cells = some res → W p l e ({ frames := 2, cells := 0, slots := 0, locals := 45 } : Room) s m [.ref a, .int (x1), .int (x2)].toArray below meth c H locs 0 0 (MQ below (Qi D A [(a, .inr (6, [.ref a_routines, .ref a_ops, .ref a_landings, .ref a_calls, .ref a_registers, .ref a_words])), (a_routines, .inr (3, [.int (v_routines_width), .ref a_routines_cells, .int (v_routines_size)])), (a_routines_cells, .inl (cy 0, 24, .inl (f_routines_cells))), (a_calls, .inr (3, [.int (v_calls_width), .ref a_calls_cells, .int (v_calls_size)])), (a_calls_cells, .inl (cy 0, 32, .inl (f_calls_cells)))] res) [.ref a, .int (x1), .int (x2)].toArray s 0 0 A) (F0 m 0 ls []) := by
    intro H locs ls hP hD hS hl h
    unfold f_X6_isCallInto at h
    refine lv_iconst (v := (0 : Int32)) hx hb dX6_isCallInto_0 (by decide) ?_
    refine lv_istore_n (lv' := [(3, .int ((0 : Int32))), (0, .ref a), (1, .int (x1)), (2, .int (x2))]) hx hb dX6_isCallInto_1 rfl hl (by decide) rfl (fun ls hl => ?_)
    exact hL2 FUEL (x1) (x2) ((0 : Int32)) H locs ls hP hD hS (lv_sub hl [1, 2, 3, 0] rfl) h
  exact main s.heap [] ls hP hD va_S.rf hl h
theorem hd_X6_ownerOf : yX6_ownerOf.cls = RX6 ∧ yX6_ownerOf.cls ≠ "java/lang/invoke/MethodHandle" ∧ yX6_ownerOf.cls ≠ "java/lang/invoke/VarHandle" ∧ (parseMethodDescriptor yX6_ownerOf.desc).map (fun d => d.parameters.length) = some 1 := by decide +kernel
def f_X6_ownerOf_L2 (v_routines_width : Int32) (v_routines_size : Int32) (f_routines_cells : Nat → Int32) : Nat → Int32 → Int32 → Option (Int32)
  | 0, _, _ => none
  | n + 1, y1, y2 => (if v_routines_size ≤ y2 then (some ((-4 : Int32))) else (bn1 (f_X6_meets (y2) (y1) (y1) (v_routines_width) (v_routines_size) (f_routines_cells)) (fun r_14 => (if r_14 = 0 then ((f_X6_ownerOf_L2 v_routines_width v_routines_size f_routines_cells  n) (y1) (y2 + (1 : Int32))) else (some y2)))))
def f_X6_ownerOf (x1 : Int32) (v_routines_width : Int32) (v_routines_size : Int32) (f_routines_cells : Nat → Int32) : Option (Int32) := (f_X6_ownerOf_L2 v_routines_width v_routines_size f_routines_cells  FUEL (x1) ((0 : Int32)))
set_option maxHeartbeats 4000000 in
set_option maxRecDepth 100000 in
theorem c_X6_ownerOf (l : Launch) (D : va_G) (cy : Nat → ClassId) (a a_routines a_ops a_landings a_calls a_registers a_words a_routines_cells : Nat) (v_routines_width : Int32) (v_routines_size : Int32) (f_routines_cells : Nat → Int32) (x1 : Int32) (res : Int32) (h : f_X6_ownerOf x1 v_routines_width v_routines_size f_routines_cells = some res) : Mi l yX6_ownerOf wsX6_ownerOf ({ frames := 2, cells := 0, slots := 0, locals := 45 } : Room) (KK D cy) D [.ref a, .int (x1)] [(a, .inr (6, [.ref a_routines, .ref a_ops, .ref a_landings, .ref a_calls, .ref a_registers, .ref a_words])), (a_routines, .inr (3, [.int (v_routines_width), .ref a_routines_cells, .int (v_routines_size)])), (a_routines_cells, .inl (cy 0, 24, .inl (f_routines_cells)))] [(a, .inr (6, [.ref a_routines, .ref a_ops, .ref a_landings, .ref a_calls, .ref a_registers, .ref a_words])), (a_routines, .inr (3, [.int (v_routines_width), .ref a_routines_cells, .int (v_routines_size)])), (a_routines_cells, .inl (cy 0, 24, .inl (f_routines_cells)))] res := by
  intro sz
  refine Met.mk0 (cc := cX6_ownerOf) (maxL := 3) (ret := (some .int)) (Qc := fun A => Qi D A [(a, .inr (6, [.ref a_routines, .ref a_ops, .ref a_landings, .ref a_calls, .ref a_registers, .ref a_words])), (a_routines, .inr (3, [.int (v_routines_width), .ref a_routines_cells, .int (v_routines_size)])), (a_routines_cells, .inl (cy 0, 24, .inl (f_routines_cells)))] res) (by decide) rfl (Nat.le_of_ble_eq_true rfl) ?_
  intro p e s m below meth c A ls hx hb hml hown hts hr hlocks hK hP hD hA hl
  have hown : s.vm.findClass RX6 = some m.cls := hown
  have hl : lv_has ls 3 [(0, .ref a), (1, .int (x1))] := hl
  have hinX6 : ∀ w ∈ u_ws RX6 TX6 6, w ∈ wsX6_ownerOf := (fun w h => List.mem_cons_of_mem _ (List.mem_append_left _ (List.mem_append_right _ h)))
  have hinX3 : ∀ w ∈ u_ws RX3 TX3 3, w ∈ wsX6_ownerOf := (fun w h => List.mem_cons_of_mem _ (List.mem_append_right _ h))
  have hL2 : ∀ (n2 : Nat) (y1 : Int32) (y2 : Int32) (H : Heap) (locs : List Loc) (ls : Array Slot), va_P D vwCl [(a, .inr (6, [.ref a_routines, .ref a_ops, .ref a_landings, .ref a_calls, .ref a_registers, .ref a_words])), (a_routines, .inr (3, [.int (v_routines_width), .ref a_routines_cells, .int (v_routines_size)])), (a_routines_cells, .inl (cy 0, 24, .inl (f_routines_cells)))] H → va_D A [(a, .inr (6, [.ref a_routines, .ref a_ops, .ref a_landings, .ref a_calls, .ref a_registers, .ref a_words])), (a_routines, .inr (3, [.int (v_routines_width), .ref a_routines_cells, .int (v_routines_size)])), (a_routines_cells, .inl (cy 0, 24, .inl (f_routines_cells)))] → va_S A s.heap H locs → lv_has ls 3 [(0, .ref a), (1, .int (y1)), (2, .int (y2))] → f_X6_ownerOf_L2 v_routines_width v_routines_size f_routines_cells  n2 y1 y2 = some res → W p l e ({ frames := 2, cells := 0, slots := 0, locals := 45 } : Room) s m [.ref a, .int (x1)].toArray below meth c H locs 0 0 (MQ below (Qi D A [(a, .inr (6, [.ref a_routines, .ref a_ops, .ref a_landings, .ref a_calls, .ref a_registers, .ref a_words])), (a_routines, .inr (3, [.int (v_routines_width), .ref a_routines_cells, .int (v_routines_size)])), (a_routines_cells, .inl (cy 0, 24, .inl (f_routines_cells)))] res) [.ref a, .int (x1)].toArray s 0 0 A) (F0 m 2 ls []) := by
    intro n2
    induction n2 with
    | zero =>
      intro y1 y2 H locs ls hP hD hS hl h
      cases (id h : (none : Option (Int32)) = some _)
    | succ n2 ih2 =>
      intro y1 y2 H locs ls hP hD hS hl h
      rw [f_X6_ownerOf_L2] at h
      refine lv_iload_n hx hb dX6_ownerOf_2 rfl (lv_at hl 2 rfl) ?_
      refine lv_aload_n hx hb dX6_ownerOf_3 rfl (lv_at hl 0 rfl) ?_
      refine va_get (D := D) (ci := 6) (v := .ref a_routines) (C := RX6) (T := TX6) (N := 6) hx hb hts hinX6 hown hK.1 hP 0 rfl rfl 0 (by decide) (hts (.fieldLink RX6 14 "FrameWalks$World" "routines" "LFrameWalks$Table;") (List.mem_of_getElem? (i := 1) rfl)) (fun _ h9 => h9) rfl dX6_ownerOf_4 ?_
      refine va_getN (D := D) (ci := 3) (v := .int (v_routines_size)) (C := RX3) (T := TX3) (N := 3) hx hb hts hinX3 hown hK.1 hP 1 rfl rfl 2 (by decide) ((hK.2.1 _ (List.mem_of_getElem? (i := 0) rfl)).use rfl) (fun _ h9 => h9) rfl dX6_ownerOf_7 ?_
      refine lv_icmp_ge (tgt := 31) hx hb dX6_ownerOf_10 (by decide) (fun c_13 => ?_) (fun c_13 => ?_)
      · have h := ift c_13 h
        refine lv_bipush (v := (-4 : Int32)) hx hb dX6_ownerOf_31 (by decide) ?_
        have e0 := Option.some.inj h
        exact Mi.ret' hx hb hr hlocks e0 rfl hP hD hS dX6_ownerOf_33
      · have h := ifn c_13 h
        refine lv_aload_n hx hb dX6_ownerOf_13 rfl (lv_at hl 0 rfl) ?_
        refine lv_iload_n hx hb dX6_ownerOf_14 rfl (lv_at hl 2 rfl) ?_
        refine lv_iload_n hx hb dX6_ownerOf_15 rfl (lv_at hl 1 rfl) ?_
        refine lv_iload_n hx hb dX6_ownerOf_16 rfl (lv_at hl 1 rfl) ?_
        obtain ⟨r_14, hc_16, h⟩ := bn1_s h
        refine call_i (ws1 := [(a, .inr (6, [.ref a_routines, .ref a_ops, .ref a_landings, .ref a_calls, .ref a_registers, .ref a_words])), (a_routines, .inr (3, [.int (v_routines_width), .ref a_routines_cells, .int (v_routines_size)])), (a_routines_cells, .inl (cy 0, 24, .inl (f_routines_cells)))]) (wr := []) (run_V ⟨hx, hb, hml, hown, hts⟩ ((c_X6_meets l D cy a a_routines a_ops a_landings a_calls a_registers a_words a_routines_cells (v_routines_width) (v_routines_size) (f_routines_cells) (y2) (y1) (y1) r_14 hc_16) H.size) (cwV 3 hts gX6_ownerOf_X6_meets rfl rfl rfl hd_X6_meets ⟨Nat.le_of_ble_eq_true rfl, Nat.le_of_ble_eq_true rfl⟩) KK.calling (fun U _ hW => hK.warm hW) hK.1 hP hD [0, 1, 2] [] [0, 1, 2] rfl rfl 0 6 rfl rfl rfl rfl hl.1 rfl (lv_room (Nat.le_of_ble_eq_true rfl)) dX6_ownerOf_17) hP hD hS hA [0, 1, 2] [] [0, 1, 2] rfl rfl rfl rfl (fun H locs hP hD hS => ?_)
        refine lv_if_eq (tgt := 25) hx hb dX6_ownerOf_20 (by decide) (fun c_15 => ?_) (fun c_15 => ?_)
        · have h := ift c_15 h
          refine lv_iinc (v := y2 + (1 : Int32)) (lv' := [(2, .int (y2 + (1 : Int32))), (0, .ref a), (1, .int (y1))]) hx hb dX6_ownerOf_25 hl (k := 2) rfl rfl (by decide) rfl (fun ls hl => ?_)
          refine lv_goto (tgt := 2) hx hb dX6_ownerOf_28 (by decide) ?_
          exact ih2 (y1) (y2 + (1 : Int32)) H locs ls hP hD hS (lv_sub hl [1, 2, 0] rfl) h
        · have h := ifn c_15 h
          refine lv_iload_n hx hb dX6_ownerOf_23 rfl (lv_at hl 2 rfl) ?_
          have e0 := Option.some.inj h
          exact Mi.ret' hx hb hr hlocks e0 rfl hP hD hS dX6_ownerOf_24
  have main : ∀ (H : Heap) (locs : List Loc) (ls : Array Slot), va_P D vwCl [(a, .inr (6, [.ref a_routines, .ref a_ops, .ref a_landings, .ref a_calls, .ref a_registers, .ref a_words])), (a_routines, .inr (3, [.int (v_routines_width), .ref a_routines_cells, .int (v_routines_size)])), (a_routines_cells, .inl (cy 0, 24, .inl (f_routines_cells)))] H → va_D A [(a, .inr (6, [.ref a_routines, .ref a_ops, .ref a_landings, .ref a_calls, .ref a_registers, .ref a_words])), (a_routines, .inr (3, [.int (v_routines_width), .ref a_routines_cells, .int (v_routines_size)])), (a_routines_cells, .inl (cy 0, 24, .inl (f_routines_cells)))] → va_S A s.heap H locs → lv_has ls 3 [(0, .ref a), (1, .int (x1))] → f_X6_ownerOf x1 v_routines_width v_routines_size f_routines_cells = some res → W p l e ({ frames := 2, cells := 0, slots := 0, locals := 45 } : Room) s m [.ref a, .int (x1)].toArray below meth c H locs 0 0 (MQ below (Qi D A [(a, .inr (6, [.ref a_routines, .ref a_ops, .ref a_landings, .ref a_calls, .ref a_registers, .ref a_words])), (a_routines, .inr (3, [.int (v_routines_width), .ref a_routines_cells, .int (v_routines_size)])), (a_routines_cells, .inl (cy 0, 24, .inl (f_routines_cells)))] res) [.ref a, .int (x1)].toArray s 0 0 A) (F0 m 0 ls []) := by
    intro H locs ls hP hD hS hl h
    unfold f_X6_ownerOf at h
    refine lv_iconst (v := (0 : Int32)) hx hb dX6_ownerOf_0 (by decide) ?_
    refine lv_istore_n (lv' := [(2, .int ((0 : Int32))), (0, .ref a), (1, .int (x1))]) hx hb dX6_ownerOf_1 rfl hl (by decide) rfl (fun ls hl => ?_)
    exact hL2 FUEL (x1) ((0 : Int32)) H locs ls hP hD hS (lv_sub hl [1, 2, 0] rfl) h
  exact main s.heap [] ls hP hD va_S.rf hl h
theorem hd_X7_isWord : yX7_isWord.cls = RX7 ∧ yX7_isWord.cls ≠ "java/lang/invoke/MethodHandle" ∧ yX7_isWord.cls ≠ "java/lang/invoke/VarHandle" ∧ (parseMethodDescriptor yX7_isWord.desc).map (fun d => d.parameters.length) = some 1 := by decide +kernel
def f_X7_isWord (x0 : Int32) : Option (Int32) := (if x0 < 0 then (some ((0 : Int32))) else (if (48 : Int32) ≤ x0 then (some ((0 : Int32))) else (some ((1 : Int32)))))
set_option maxHeartbeats 4000000 in
set_option maxRecDepth 100000 in
theorem c_X7_isWord (l : Launch) (D : va_G) (cy : Nat → ClassId) (x0 : Int32) (res : Int32) (h : f_X7_isWord x0 = some res) : Mi l yX7_isWord wsX7_isWord ({ frames := 0, cells := 0, slots := 0, locals := 0 } : Room) (KK D cy) D [.int (x0)] [] [] res := by
  intro sz
  refine Met.mk0 (cc := cX7_isWord) (maxL := 1) (ret := (some .boolean)) (Qc := fun A => Qi D A [] res) (by decide) rfl (Nat.le_of_ble_eq_true rfl) ?_
  intro p e s m below meth c A ls hx hb hml hown hts hr hlocks hK hP hD hA hl
  have hown : s.vm.findClass RX7 = some m.cls := hown
  have hl : lv_has ls 1 [(0, .int (x0))] := hl
  have main : ∀ (H : Heap) (locs : List Loc) (ls : Array Slot), va_P D vwCl [] H → va_D A [] → va_S A s.heap H locs → lv_has ls 1 [(0, .int (x0))] → f_X7_isWord x0 = some res → W p l e ({ frames := 0, cells := 0, slots := 0, locals := 0 } : Room) s m [.int (x0)].toArray below meth c H locs 0 0 (MQ below (Qi D A [] res) [.int (x0)].toArray s 0 0 A) (F0 m 0 ls []) := by
    intro H locs ls hP hD hS hl h
    unfold f_X7_isWord at h
    refine lv_iload_n hx hb dX7_isWord_0 rfl (lv_at hl 0 rfl) ?_
    refine lv_if_lt (tgt := 14) hx hb dX7_isWord_1 (by decide) (fun c_7 => ?_) (fun c_7 => ?_)
    · have h := ift c_7 h
      refine lv_iconst (v := (0 : Int32)) hx hb dX7_isWord_14 (by decide) ?_
      have e0 := Option.some.inj h
      exact Mi.retz' hx hb hr hlocks (Or.inl rfl) e0 rfl hP hD hS dX7_isWord_15
    · have h := ifn c_7 h
      refine lv_iload_n hx hb dX7_isWord_4 rfl (lv_at hl 0 rfl) ?_
      refine lv_bipush (v := (48 : Int32)) hx hb dX7_isWord_5 (by decide) ?_
      refine lv_icmp_ge (tgt := 14) hx hb dX7_isWord_7 (by decide) (fun c_8 => ?_) (fun c_8 => ?_)
      · have h := ift c_8 h
        refine lv_iconst (v := (0 : Int32)) hx hb dX7_isWord_14 (by decide) ?_
        have e0 := Option.some.inj h
        exact Mi.retz' hx hb hr hlocks (Or.inl rfl) e0 rfl hP hD hS dX7_isWord_15
      · have h := ifn c_8 h
        refine lv_iconst (v := (1 : Int32)) hx hb dX7_isWord_10 (by decide) ?_
        refine lv_goto (tgt := 15) hx hb dX7_isWord_11 (by decide) ?_
        have e0 := Option.some.inj h
        exact Mi.retz' hx hb hr hlocks (Or.inr rfl) e0 rfl hP hD hS dX7_isWord_15
  exact main s.heap [] ls hP hD va_S.rf hl h
theorem hd_X7_isRegister : yX7_isRegister.cls = RX7 ∧ yX7_isRegister.cls ≠ "java/lang/invoke/MethodHandle" ∧ yX7_isRegister.cls ≠ "java/lang/invoke/VarHandle" ∧ (parseMethodDescriptor yX7_isRegister.desc).map (fun d => d.parameters.length) = some 1 := by decide +kernel
def f_X7_isRegister (x0 : Int32) : Option (Int32) := (if x0 < 0 then (some ((0 : Int32))) else (if (6 : Int32) ≤ x0 then (some ((0 : Int32))) else (some ((1 : Int32)))))
set_option maxHeartbeats 4000000 in
set_option maxRecDepth 100000 in
theorem c_X7_isRegister (l : Launch) (D : va_G) (cy : Nat → ClassId) (x0 : Int32) (res : Int32) (h : f_X7_isRegister x0 = some res) : Mi l yX7_isRegister wsX7_isRegister ({ frames := 0, cells := 0, slots := 0, locals := 0 } : Room) (KK D cy) D [.int (x0)] [] [] res := by
  intro sz
  refine Met.mk0 (cc := cX7_isRegister) (maxL := 1) (ret := (some .boolean)) (Qc := fun A => Qi D A [] res) (by decide) rfl (Nat.le_of_ble_eq_true rfl) ?_
  intro p e s m below meth c A ls hx hb hml hown hts hr hlocks hK hP hD hA hl
  have hown : s.vm.findClass RX7 = some m.cls := hown
  have hl : lv_has ls 1 [(0, .int (x0))] := hl
  have main : ∀ (H : Heap) (locs : List Loc) (ls : Array Slot), va_P D vwCl [] H → va_D A [] → va_S A s.heap H locs → lv_has ls 1 [(0, .int (x0))] → f_X7_isRegister x0 = some res → W p l e ({ frames := 0, cells := 0, slots := 0, locals := 0 } : Room) s m [.int (x0)].toArray below meth c H locs 0 0 (MQ below (Qi D A [] res) [.int (x0)].toArray s 0 0 A) (F0 m 0 ls []) := by
    intro H locs ls hP hD hS hl h
    unfold f_X7_isRegister at h
    refine lv_iload_n hx hb dX7_isRegister_0 rfl (lv_at hl 0 rfl) ?_
    refine lv_if_lt (tgt := 14) hx hb dX7_isRegister_1 (by decide) (fun c_7 => ?_) (fun c_7 => ?_)
    · have h := ift c_7 h
      refine lv_iconst (v := (0 : Int32)) hx hb dX7_isRegister_14 (by decide) ?_
      have e0 := Option.some.inj h
      exact Mi.retz' hx hb hr hlocks (Or.inl rfl) e0 rfl hP hD hS dX7_isRegister_15
    · have h := ifn c_7 h
      refine lv_iload_n hx hb dX7_isRegister_4 rfl (lv_at hl 0 rfl) ?_
      refine lv_bipush (v := (6 : Int32)) hx hb dX7_isRegister_5 (by decide) ?_
      refine lv_icmp_ge (tgt := 14) hx hb dX7_isRegister_7 (by decide) (fun c_8 => ?_) (fun c_8 => ?_)
      · have h := ift c_8 h
        refine lv_iconst (v := (0 : Int32)) hx hb dX7_isRegister_14 (by decide) ?_
        have e0 := Option.some.inj h
        exact Mi.retz' hx hb hr hlocks (Or.inl rfl) e0 rfl hP hD hS dX7_isRegister_15
      · have h := ifn c_8 h
        refine lv_iconst (v := (1 : Int32)) hx hb dX7_isRegister_10 (by decide) ?_
        refine lv_goto (tgt := 15) hx hb dX7_isRegister_11 (by decide) ?_
        have e0 := Option.some.inj h
        exact Mi.retz' hx hb hr hlocks (Or.inr rfl) e0 rfl hP hD hS dX7_isRegister_15
  exact main s.heap [] ls hP hD va_S.rf hl h
theorem hd_J7_fill_53178 : yJ7_fill_53178.cls = RJ7 ∧ yJ7_fill_53178.cls ≠ "java/lang/invoke/MethodHandle" ∧ yJ7_fill_53178.cls ≠ "java/lang/invoke/VarHandle" ∧ (parseMethodDescriptor yJ7_fill_53178.desc).map (fun d => d.parameters.length) = some 2 := by decide +kernel
def f_J7_fill_53178_L5 (np0 : Nat) : Nat → Int32 → Int32 → Int32 → (Nat → Int32) → Option ((Nat → Int32))
  | 0, _, _, _, _ => none
  | n + 1, y1, y2, y3, fp0 => (if y3 ≤ y2 then (some fp0) else (cki (y2) np0 ((f_J7_fill_53178_L5 np0  n) (y1) (y2 + (1 : Int32)) (y3) (upd fp0 (y2).toNatClampNeg (y1)))))
def f_J7_fill_53178 (x1 : Int32) (np0 : Nat) (fp0 : Nat → Int32) : Option ((Nat → Int32)) := (f_J7_fill_53178_L5 np0  FUEL (x1) ((0 : Int32)) (Int32.ofNat np0) (fp0))
set_option maxHeartbeats 4000000 in
set_option maxRecDepth 100000 in
theorem c_J7_fill_53178 (l : Launch) (D : va_G) (cy : Nat → ClassId) (ap0 : Nat) (np0 : Nat) (fp0 : Nat → Int32) (x1 : Int32) (z_fp0 : Nat → Int32) (h : f_J7_fill_53178 x1 np0 fp0 = some z_fp0) : Mv l yJ7_fill_53178 wsJ7_fill_53178 ({ frames := 0, cells := 0, slots := 0, locals := 0 } : Room) (KK D cy) D [.ref ap0, .int (x1)] [(ap0, .inl (cy 0, np0, .inl (fp0)))] [(ap0, .inl (cy 0, np0, .inl (z_fp0)))] := by
  intro sz
  refine Met.mk0 (cc := cJ7_fill_53178) (maxL := 4) (ret := none) (Qc := fun A => Qv D A [(ap0, .inl (cy 0, np0, .inl (z_fp0)))]) (by decide) rfl (Nat.le_of_ble_eq_true rfl) ?_
  intro p e s m below meth c A ls hx hb hml hown hts hr hlocks hK hP hD hA hl
  have hown : s.vm.findClass RJ7 = some m.cls := hown
  have hl : lv_has ls 4 [(0, .ref ap0), (1, .int (x1))] := hl
  have hL5 : ∀ (n5 : Nat) (y1 : Int32) (y2 : Int32) (y3 : Int32) (fp0 : Nat → Int32) (H : Heap) (locs : List Loc) (ls : Array Slot), va_P D vwCl [(ap0, .inl (cy 0, np0, .inl (fp0)))] H → va_D A [(ap0, .inl (cy 0, np0, .inl (fp0)))] → va_S A s.heap H locs → lv_has ls 4 [(0, .ref ap0), (1, .int (y1)), (2, .int (y2)), (3, .int (y3))] → f_J7_fill_53178_L5 np0  n5 y1 y2 y3 fp0 = some z_fp0 → W p l e ({ frames := 0, cells := 0, slots := 0, locals := 0 } : Room) s m [.ref ap0, .int (x1)].toArray below meth c H locs 0 0 (MQ below (Qv D A [(ap0, .inl (cy 0, np0, .inl (z_fp0)))]) [.ref ap0, .int (x1)].toArray s 0 0 A) (F0 m 5 ls []) := by
    intro n5
    induction n5 with
    | zero =>
      intro y1 y2 y3 fp0 H locs ls hP hD hS hl h
      cases (id h : (none : Option ((Nat → Int32))) = some _)
    | succ n5 ih5 =>
      intro y1 y2 y3 fp0 H locs ls hP hD hS hl h
      rw [f_J7_fill_53178_L5] at h
      refine lv_iload_n hx hb dJ7_fill_53178_5 rfl (lv_at hl 2 rfl) ?_
      refine lv_iload_n hx hb dJ7_fill_53178_6 rfl (lv_at hl 3 rfl) ?_
      refine lv_icmp_ge (tgt := 20) hx hb dJ7_fill_53178_7 (by decide) (fun c_7 => ?_) (fun c_7 => ?_)
      · have h := ift c_7 h
        have e0 := Option.some.inj h
        exact Mv.ret' hx hb hr hlocks (by rw [← e0]) hP hD hS dJ7_fill_53178_20
      · have h := ifn c_7 h
        refine lv_aload_n hx hb dJ7_fill_53178_10 rfl (lv_at hl 0 rfl) ?_
        refine lv_iload_n hx hb dJ7_fill_53178_11 rfl (lv_at hl 2 rfl) ?_
        refine lv_iload_n hx hb dJ7_fill_53178_12 rfl (lv_at hl 1 rfl) ?_
        obtain ⟨i_8, h⟩ := cki_s h
        refine va_iast hx hb hK.1 hP hD hS 0 0 rfl rfl i_8 dJ7_fill_53178_13 (fun H locs hP hD hS => ?_)
        have hP : va_P D vwCl [(ap0, .inl (cy 0, np0, .inl (upd fp0 (y2).toNatClampNeg (y1))))] H := hP
        have hD : va_D A [(ap0, .inl (cy 0, np0, .inl (upd fp0 (y2).toNatClampNeg (y1))))] := hD
        refine lv_iinc (v := y2 + (1 : Int32)) (lv' := [(2, .int (y2 + (1 : Int32))), (0, .ref ap0), (1, .int (y1)), (3, .int (y3))]) hx hb dJ7_fill_53178_14 hl (k := 2) rfl rfl (by decide) rfl (fun ls hl => ?_)
        refine lv_goto (tgt := 5) hx hb dJ7_fill_53178_17 (by decide) ?_
        exact ih5 (y1) (y2 + (1 : Int32)) (y3) (upd fp0 (y2).toNatClampNeg (y1)) H locs ls hP hD hS (lv_sub hl [1, 2, 0, 3] rfl) h
  have main : ∀ (H : Heap) (locs : List Loc) (ls : Array Slot), va_P D vwCl [(ap0, .inl (cy 0, np0, .inl (fp0)))] H → va_D A [(ap0, .inl (cy 0, np0, .inl (fp0)))] → va_S A s.heap H locs → lv_has ls 4 [(0, .ref ap0), (1, .int (x1))] → f_J7_fill_53178 x1 np0 fp0 = some z_fp0 → W p l e ({ frames := 0, cells := 0, slots := 0, locals := 0 } : Room) s m [.ref ap0, .int (x1)].toArray below meth c H locs 0 0 (MQ below (Qv D A [(ap0, .inl (cy 0, np0, .inl (z_fp0)))]) [.ref ap0, .int (x1)].toArray s 0 0 A) (F0 m 0 ls []) := by
    intro H locs ls hP hD hS hl h
    unfold f_J7_fill_53178 at h
    refine lv_iconst (v := (0 : Int32)) hx hb dJ7_fill_53178_0 (by decide) ?_
    refine lv_istore_n (lv' := [(2, .int ((0 : Int32))), (0, .ref ap0), (1, .int (x1))]) hx hb dJ7_fill_53178_1 rfl hl (by decide) rfl (fun ls hl => ?_)
    refine lv_aload_n hx hb dJ7_fill_53178_2 rfl (lv_at hl 1 rfl) ?_
    refine va_alen hx hb hK.1 hP 0 0 rfl rfl (v := Int32.ofNat np0) rfl dJ7_fill_53178_3 ?_
    refine lv_istore_n (lv' := [(3, .int (Int32.ofNat np0)), (2, .int ((0 : Int32))), (0, .ref ap0), (1, .int (x1))]) hx hb dJ7_fill_53178_4 rfl hl (by decide) rfl (fun ls hl => ?_)
    exact hL5 FUEL (x1) ((0 : Int32)) (Int32.ofNat np0) (fp0) H locs ls hP hD hS (lv_sub hl [2, 3, 1, 0] rfl) h
  exact main s.heap [] ls hP hD va_S.rf hl h
theorem hd_X3_has : yX3_has.cls = RX3 ∧ yX3_has.cls ≠ "java/lang/invoke/MethodHandle" ∧ yX3_has.cls ≠ "java/lang/invoke/VarHandle" ∧ (parseMethodDescriptor yX3_has.desc).map (fun d => d.parameters.length) = some 1 := by decide +kernel
def f_X3_has (x1 : Int32) (v_size : Int32) : Option (Int32) := (if x1 < 0 then (some ((0 : Int32))) else (if v_size ≤ x1 then (some ((0 : Int32))) else (some ((1 : Int32)))))
set_option maxHeartbeats 4000000 in
set_option maxRecDepth 100000 in
theorem c_X3_has (l : Launch) (D : va_G) (cy : Nat → ClassId) (a a_cells : Nat) (v_width : Int32) (v_size : Int32) (x1 : Int32) (res : Int32) (h : f_X3_has x1 v_size = some res) : Mi l yX3_has wsX3_has ({ frames := 0, cells := 0, slots := 0, locals := 0 } : Room) (KK D cy) D [.ref a, .int (x1)] [(a, .inr (3, [.int (v_width), .ref a_cells, .int (v_size)]))] [(a, .inr (3, [.int (v_width), .ref a_cells, .int (v_size)]))] res := by
  intro sz
  refine Met.mk0 (cc := cX3_has) (maxL := 2) (ret := (some .boolean)) (Qc := fun A => Qi D A [(a, .inr (3, [.int (v_width), .ref a_cells, .int (v_size)]))] res) (by decide) rfl (Nat.le_of_ble_eq_true rfl) ?_
  intro p e s m below meth c A ls hx hb hml hown hts hr hlocks hK hP hD hA hl
  have hown : s.vm.findClass RX3 = some m.cls := hown
  have hl : lv_has ls 2 [(0, .ref a), (1, .int (x1))] := hl
  have hinX3 : ∀ w ∈ u_ws RX3 TX3 3, w ∈ wsX3_has := (fun w h => List.mem_cons_of_mem _ (List.mem_append_right _ h))
  have main : ∀ (H : Heap) (locs : List Loc) (ls : Array Slot), va_P D vwCl [(a, .inr (3, [.int (v_width), .ref a_cells, .int (v_size)]))] H → va_D A [(a, .inr (3, [.int (v_width), .ref a_cells, .int (v_size)]))] → va_S A s.heap H locs → lv_has ls 2 [(0, .ref a), (1, .int (x1))] → f_X3_has x1 v_size = some res → W p l e ({ frames := 0, cells := 0, slots := 0, locals := 0 } : Room) s m [.ref a, .int (x1)].toArray below meth c H locs 0 0 (MQ below (Qi D A [(a, .inr (3, [.int (v_width), .ref a_cells, .int (v_size)]))] res) [.ref a, .int (x1)].toArray s 0 0 A) (F0 m 0 ls []) := by
    intro H locs ls hP hD hS hl h
    unfold f_X3_has at h
    refine lv_iload_n hx hb dX3_has_0 rfl (lv_at hl 1 rfl) ?_
    refine lv_if_lt (tgt := 16) hx hb dX3_has_1 (by decide) (fun c_7 => ?_) (fun c_7 => ?_)
    · have h := ift c_7 h
      refine lv_iconst (v := (0 : Int32)) hx hb dX3_has_16 (by decide) ?_
      have e0 := Option.some.inj h
      exact Mi.retz' hx hb hr hlocks (Or.inl rfl) e0 rfl hP hD hS dX3_has_17
    · have h := ifn c_7 h
      refine lv_iload_n hx hb dX3_has_4 rfl (lv_at hl 1 rfl) ?_
      refine lv_aload_n hx hb dX3_has_5 rfl (lv_at hl 0 rfl) ?_
      refine va_get (D := D) (ci := 3) (v := .int (v_size)) (C := RX3) (T := TX3) (N := 3) hx hb hts hinX3 hown hK.1 hP 0 rfl rfl 2 (by decide) (hts (.fieldLink RX3 9 "FrameWalks$Table" "size" "I") (List.mem_of_getElem? (i := 1) rfl)) (fun _ h9 => h9) rfl dX3_has_6 ?_
      refine lv_icmp_ge (tgt := 16) hx hb dX3_has_9 (by decide) (fun c_8 => ?_) (fun c_8 => ?_)
      · have h := ift c_8 h
        refine lv_iconst (v := (0 : Int32)) hx hb dX3_has_16 (by decide) ?_
        have e0 := Option.some.inj h
        exact Mi.retz' hx hb hr hlocks (Or.inl rfl) e0 rfl hP hD hS dX3_has_17
      · have h := ifn c_8 h
        refine lv_iconst (v := (1 : Int32)) hx hb dX3_has_12 (by decide) ?_
        refine lv_goto (tgt := 17) hx hb dX3_has_13 (by decide) ?_
        have e0 := Option.some.inj h
        exact Mi.retz' hx hb hr hlocks (Or.inr rfl) e0 rfl hP hD hS dX3_has_17
  exact main s.heap [] ls hP hD va_S.rf hl h
theorem hd_X3_isFull : yX3_isFull.cls = RX3 ∧ yX3_isFull.cls ≠ "java/lang/invoke/MethodHandle" ∧ yX3_isFull.cls ≠ "java/lang/invoke/VarHandle" ∧ (parseMethodDescriptor yX3_isFull.desc).map (fun d => d.parameters.length) = some 0 := by decide +kernel
def f_X3_isFull (v_width : Int32) (v_size : Int32) (n_cells : Nat) : Option (Int32) := (if (v_size + (1 : Int32)) * v_width ≤ Int32.ofNat n_cells then (some ((0 : Int32))) else (some ((1 : Int32))))
set_option maxHeartbeats 4000000 in
set_option maxRecDepth 100000 in
theorem c_X3_isFull (l : Launch) (D : va_G) (cy : Nat → ClassId) (a a_cells : Nat) (v_width : Int32) (v_size : Int32) (n_cells : Nat) (f_cells : Nat → Int32) (res : Int32) (h : f_X3_isFull v_width v_size n_cells = some res) : Mi l yX3_isFull wsX3_isFull ({ frames := 0, cells := 0, slots := 0, locals := 0 } : Room) (KK D cy) D [.ref a] [(a, .inr (3, [.int (v_width), .ref a_cells, .int (v_size)])), (a_cells, .inl (cy 0, n_cells, .inl (f_cells)))] [(a, .inr (3, [.int (v_width), .ref a_cells, .int (v_size)])), (a_cells, .inl (cy 0, n_cells, .inl (f_cells)))] res := by
  intro sz
  refine Met.mk0 (cc := cX3_isFull) (maxL := 1) (ret := (some .boolean)) (Qc := fun A => Qi D A [(a, .inr (3, [.int (v_width), .ref a_cells, .int (v_size)])), (a_cells, .inl (cy 0, n_cells, .inl (f_cells)))] res) (by decide) rfl (Nat.le_of_ble_eq_true rfl) ?_
  intro p e s m below meth c A ls hx hb hml hown hts hr hlocks hK hP hD hA hl
  have hown : s.vm.findClass RX3 = some m.cls := hown
  have hl : lv_has ls 1 [(0, .ref a)] := hl
  have hinX3 : ∀ w ∈ u_ws RX3 TX3 3, w ∈ wsX3_isFull := (fun w h => List.mem_cons_of_mem _ (List.mem_append_right _ h))
  have main : ∀ (H : Heap) (locs : List Loc) (ls : Array Slot), va_P D vwCl [(a, .inr (3, [.int (v_width), .ref a_cells, .int (v_size)])), (a_cells, .inl (cy 0, n_cells, .inl (f_cells)))] H → va_D A [(a, .inr (3, [.int (v_width), .ref a_cells, .int (v_size)])), (a_cells, .inl (cy 0, n_cells, .inl (f_cells)))] → va_S A s.heap H locs → lv_has ls 1 [(0, .ref a)] → f_X3_isFull v_width v_size n_cells = some res → W p l e ({ frames := 0, cells := 0, slots := 0, locals := 0 } : Room) s m [.ref a].toArray below meth c H locs 0 0 (MQ below (Qi D A [(a, .inr (3, [.int (v_width), .ref a_cells, .int (v_size)])), (a_cells, .inl (cy 0, n_cells, .inl (f_cells)))] res) [.ref a].toArray s 0 0 A) (F0 m 0 ls []) := by
    intro H locs ls hP hD hS hl h
    unfold f_X3_isFull at h
    refine lv_aload_n hx hb dX3_isFull_0 rfl (lv_at hl 0 rfl) ?_
    refine va_get (D := D) (ci := 3) (v := .int (v_size)) (C := RX3) (T := TX3) (N := 3) hx hb hts hinX3 hown hK.1 hP 0 rfl rfl 2 (by decide) (hts (.fieldLink RX3 9 "FrameWalks$Table" "size" "I") (List.mem_of_getElem? (i := 1) rfl)) (fun _ h9 => h9) rfl dX3_isFull_1 ?_
    refine lv_iconst (v := (1 : Int32)) hx hb dX3_isFull_4 (by decide) ?_
    refine lv_iadd hx hb dX3_isFull_5 ?_
    refine lv_aload_n hx hb dX3_isFull_6 rfl (lv_at hl 0 rfl) ?_
    refine va_get (D := D) (ci := 3) (v := .int (v_width)) (C := RX3) (T := TX3) (N := 3) hx hb hts hinX3 hown hK.1 hP 0 rfl rfl 0 (by decide) (hts (.fieldLink RX3 15 "FrameWalks$Table" "width" "I") (List.mem_of_getElem? (i := 2) rfl)) (fun _ h9 => h9) rfl dX3_isFull_7 ?_
    refine lv_imul hx hb dX3_isFull_10 ?_
    refine lv_aload_n hx hb dX3_isFull_11 rfl (lv_at hl 0 rfl) ?_
    refine va_get (D := D) (ci := 3) (v := .ref a_cells) (C := RX3) (T := TX3) (N := 3) hx hb hts hinX3 hown hK.1 hP 0 rfl rfl 1 (by decide) (hts (.fieldLink RX3 18 "FrameWalks$Table" "cells" "[I") (List.mem_of_getElem? (i := 3) rfl)) (fun _ h9 => h9) rfl dX3_isFull_12 ?_
    refine va_alen hx hb hK.1 hP 1 0 rfl rfl (v := Int32.ofNat n_cells) rfl dX3_isFull_15 ?_
    refine lv_icmp_le (tgt := 23) hx hb dX3_isFull_16 (by decide) (fun c_4 => ?_) (fun c_4 => ?_)
    · have h := ift c_4 h
      refine lv_iconst (v := (0 : Int32)) hx hb dX3_isFull_23 (by decide) ?_
      have e0 := Option.some.inj h
      exact Mi.retz' hx hb hr hlocks (Or.inl rfl) e0 rfl hP hD hS dX3_isFull_24
    · have h := ifn c_4 h
      refine lv_iconst (v := (1 : Int32)) hx hb dX3_isFull_19 (by decide) ?_
      refine lv_goto (tgt := 24) hx hb dX3_isFull_20 (by decide) ?_
      have e0 := Option.some.inj h
      exact Mi.retz' hx hb hr hlocks (Or.inr rfl) e0 rfl hP hD hS dX3_isFull_24
  exact main s.heap [] ls hP hD va_S.rf hl h
theorem hd_X3_set : yX3_set.cls = RX3 ∧ yX3_set.cls ≠ "java/lang/invoke/MethodHandle" ∧ yX3_set.cls ≠ "java/lang/invoke/VarHandle" ∧ (parseMethodDescriptor yX3_set.desc).map (fun d => d.parameters.length) = some 3 := by decide +kernel
def f_X3_set (x1 : Int32) (x2 : Int32) (x3 : Int32) (v_width : Int32) (v_size : Int32) (n_cells : Nat) (f_cells : Nat → Int32) : Option ((Nat → Int32)) := (if x1 < 0 then (some f_cells) else (if v_size ≤ x1 then (some f_cells) else (if x2 < 0 then (some f_cells) else (if v_width ≤ x2 then (some f_cells) else (cki ((x1 * v_width) + x2) n_cells (some (upd f_cells ((x1 * v_width) + x2).toNatClampNeg (x3))))))))
set_option maxHeartbeats 4000000 in
set_option maxRecDepth 100000 in
theorem c_X3_set (l : Launch) (D : va_G) (cy : Nat → ClassId) (a a_cells : Nat) (v_width : Int32) (v_size : Int32) (n_cells : Nat) (f_cells : Nat → Int32) (x1 : Int32) (x2 : Int32) (x3 : Int32) (z_f_cells : Nat → Int32) (h : f_X3_set x1 x2 x3 v_width v_size n_cells f_cells = some z_f_cells) : Mv l yX3_set wsX3_set ({ frames := 0, cells := 0, slots := 0, locals := 0 } : Room) (KK D cy) D [.ref a, .int (x1), .int (x2), .int (x3)] [(a, .inr (3, [.int (v_width), .ref a_cells, .int (v_size)])), (a_cells, .inl (cy 0, n_cells, .inl (f_cells)))] [(a, .inr (3, [.int (v_width), .ref a_cells, .int (v_size)])), (a_cells, .inl (cy 0, n_cells, .inl (z_f_cells)))] := by
  intro sz
  refine Met.mk0 (cc := cX3_set) (maxL := 4) (ret := none) (Qc := fun A => Qv D A [(a, .inr (3, [.int (v_width), .ref a_cells, .int (v_size)])), (a_cells, .inl (cy 0, n_cells, .inl (z_f_cells)))]) (by decide) rfl (Nat.le_of_ble_eq_true rfl) ?_
  intro p e s m below meth c A ls hx hb hml hown hts hr hlocks hK hP hD hA hl
  have hown : s.vm.findClass RX3 = some m.cls := hown
  have hl : lv_has ls 4 [(0, .ref a), (1, .int (x1)), (2, .int (x2)), (3, .int (x3))] := hl
  have hinX3 : ∀ w ∈ u_ws RX3 TX3 3, w ∈ wsX3_set := (fun w h => List.mem_cons_of_mem _ (List.mem_append_right _ h))
  have main : ∀ (H : Heap) (locs : List Loc) (ls : Array Slot), va_P D vwCl [(a, .inr (3, [.int (v_width), .ref a_cells, .int (v_size)])), (a_cells, .inl (cy 0, n_cells, .inl (f_cells)))] H → va_D A [(a, .inr (3, [.int (v_width), .ref a_cells, .int (v_size)])), (a_cells, .inl (cy 0, n_cells, .inl (f_cells)))] → va_S A s.heap H locs → lv_has ls 4 [(0, .ref a), (1, .int (x1)), (2, .int (x2)), (3, .int (x3))] → f_X3_set x1 x2 x3 v_width v_size n_cells f_cells = some z_f_cells → W p l e ({ frames := 0, cells := 0, slots := 0, locals := 0 } : Room) s m [.ref a, .int (x1), .int (x2), .int (x3)].toArray below meth c H locs 0 0 (MQ below (Qv D A [(a, .inr (3, [.int (v_width), .ref a_cells, .int (v_size)])), (a_cells, .inl (cy 0, n_cells, .inl (z_f_cells)))]) [.ref a, .int (x1), .int (x2), .int (x3)].toArray s 0 0 A) (F0 m 0 ls []) := by
    intro H locs ls hP hD hS hl h
    unfold f_X3_set at h
    refine lv_iload_n hx hb dX3_set_0 rfl (lv_at hl 1 rfl) ?_
    refine lv_if_lt (tgt := 38) hx hb dX3_set_1 (by decide) (fun c_16 => ?_) (fun c_16 => ?_)
    · have h := ift c_16 h
      have e0 := Option.some.inj h
      exact Mv.ret' hx hb hr hlocks (by rw [← e0]) hP hD hS dX3_set_38
    · have h := ifn c_16 h
      refine lv_iload_n hx hb dX3_set_4 rfl (lv_at hl 1 rfl) ?_
      refine lv_aload_n hx hb dX3_set_5 rfl (lv_at hl 0 rfl) ?_
      refine va_get (D := D) (ci := 3) (v := .int (v_size)) (C := RX3) (T := TX3) (N := 3) hx hb hts hinX3 hown hK.1 hP 0 rfl rfl 2 (by decide) (hts (.fieldLink RX3 9 "FrameWalks$Table" "size" "I") (List.mem_of_getElem? (i := 1) rfl)) (fun _ h9 => h9) rfl dX3_set_6 ?_
      refine lv_icmp_ge (tgt := 38) hx hb dX3_set_9 (by decide) (fun c_17 => ?_) (fun c_17 => ?_)
      · have h := ift c_17 h
        have e0 := Option.some.inj h
        exact Mv.ret' hx hb hr hlocks (by rw [← e0]) hP hD hS dX3_set_38
      · have h := ifn c_17 h
        refine lv_iload_n hx hb dX3_set_12 rfl (lv_at hl 2 rfl) ?_
        refine lv_if_lt (tgt := 38) hx hb dX3_set_13 (by decide) (fun c_18 => ?_) (fun c_18 => ?_)
        · have h := ift c_18 h
          have e0 := Option.some.inj h
          exact Mv.ret' hx hb hr hlocks (by rw [← e0]) hP hD hS dX3_set_38
        · have h := ifn c_18 h
          refine lv_iload_n hx hb dX3_set_16 rfl (lv_at hl 2 rfl) ?_
          refine lv_aload_n hx hb dX3_set_17 rfl (lv_at hl 0 rfl) ?_
          refine va_get (D := D) (ci := 3) (v := .int (v_width)) (C := RX3) (T := TX3) (N := 3) hx hb hts hinX3 hown hK.1 hP 0 rfl rfl 0 (by decide) (hts (.fieldLink RX3 15 "FrameWalks$Table" "width" "I") (List.mem_of_getElem? (i := 2) rfl)) (fun _ h9 => h9) rfl dX3_set_18 ?_
          refine lv_icmp_ge (tgt := 38) hx hb dX3_set_21 (by decide) (fun c_19 => ?_) (fun c_19 => ?_)
          · have h := ift c_19 h
            have e0 := Option.some.inj h
            exact Mv.ret' hx hb hr hlocks (by rw [← e0]) hP hD hS dX3_set_38
          · have h := ifn c_19 h
            refine lv_aload_n hx hb dX3_set_24 rfl (lv_at hl 0 rfl) ?_
            refine va_get (D := D) (ci := 3) (v := .ref a_cells) (C := RX3) (T := TX3) (N := 3) hx hb hts hinX3 hown hK.1 hP 0 rfl rfl 1 (by decide) (hts (.fieldLink RX3 18 "FrameWalks$Table" "cells" "[I") (List.mem_of_getElem? (i := 3) rfl)) (fun _ h9 => h9) rfl dX3_set_25 ?_
            refine lv_iload_n hx hb dX3_set_28 rfl (lv_at hl 1 rfl) ?_
            refine lv_aload_n hx hb dX3_set_29 rfl (lv_at hl 0 rfl) ?_
            refine va_get (D := D) (ci := 3) (v := .int (v_width)) (C := RX3) (T := TX3) (N := 3) hx hb hts hinX3 hown hK.1 hP 0 rfl rfl 0 (by decide) (hts (.fieldLink RX3 15 "FrameWalks$Table" "width" "I") (List.mem_of_getElem? (i := 2) rfl)) (fun _ h9 => h9) rfl dX3_set_30 ?_
            refine lv_imul hx hb dX3_set_33 ?_
            refine lv_iload_n hx hb dX3_set_34 rfl (lv_at hl 2 rfl) ?_
            refine lv_iadd hx hb dX3_set_35 ?_
            refine lv_iload_n hx hb dX3_set_36 rfl (lv_at hl 3 rfl) ?_
            obtain ⟨i_20, h⟩ := cki_s h
            refine va_iast hx hb hK.1 hP hD hS 1 0 rfl rfl i_20 dX3_set_37 (fun H locs hP hD hS => ?_)
            have hP : va_P D vwCl [(a, .inr (3, [.int (v_width), .ref a_cells, .int (v_size)])), (a_cells, .inl (cy 0, n_cells, .inl (upd f_cells ((x1 * v_width) + x2).toNatClampNeg (x3))))] H := hP
            have hD : va_D A [(a, .inr (3, [.int (v_width), .ref a_cells, .int (v_size)])), (a_cells, .inl (cy 0, n_cells, .inl (upd f_cells ((x1 * v_width) + x2).toNatClampNeg (x3))))] := hD
            have e0 := Option.some.inj h
            exact Mv.ret' hx hb hr hlocks (by rw [← e0]) hP hD hS dX3_set_38
  exact main s.heap [] ls hP hD va_S.rf hl h
theorem hd_X3_addOne : yX3_addOne.cls = RX3 ∧ yX3_addOne.cls ≠ "java/lang/invoke/MethodHandle" ∧ yX3_addOne.cls ≠ "java/lang/invoke/VarHandle" ∧ (parseMethodDescriptor yX3_addOne.desc).map (fun d => d.parameters.length) = some 0 := by decide +kernel
def f_X3_addOne (v_width : Int32) (v_size : Int32) (n_cells : Nat) : Option (Int32) := (bn1 (f_X3_isFull (v_width) (v_size) n_cells) (fun r_10 => (if r_10 = 0 then (some (v_size + (1 : Int32))) else (some v_size))))
set_option maxHeartbeats 4000000 in
set_option maxRecDepth 100000 in
theorem c_X3_addOne (l : Launch) (D : va_G) (cy : Nat → ClassId) (a a_cells : Nat) (v_width : Int32) (v_size : Int32) (n_cells : Nat) (f_cells : Nat → Int32) (z_v_size : Int32) (h : f_X3_addOne v_width v_size n_cells = some z_v_size) : Mv l yX3_addOne wsX3_addOne ({ frames := 1, cells := 0, slots := 0, locals := 20 } : Room) (KK D cy) D [.ref a] [(a, .inr (3, [.int (v_width), .ref a_cells, .int (v_size)])), (a_cells, .inl (cy 0, n_cells, .inl (f_cells)))] [(a, .inr (3, [.int (v_width), .ref a_cells, .int (z_v_size)])), (a_cells, .inl (cy 0, n_cells, .inl (f_cells)))] := by
  intro sz
  refine Met.mk0 (cc := cX3_addOne) (maxL := 1) (ret := none) (Qc := fun A => Qv D A [(a, .inr (3, [.int (v_width), .ref a_cells, .int (z_v_size)])), (a_cells, .inl (cy 0, n_cells, .inl (f_cells)))]) (by decide) rfl (Nat.le_of_ble_eq_true rfl) ?_
  intro p e s m below meth c A ls hx hb hml hown hts hr hlocks hK hP hD hA hl
  have hown : s.vm.findClass RX3 = some m.cls := hown
  have hl : lv_has ls 1 [(0, .ref a)] := hl
  have hinX3 : ∀ w ∈ u_ws RX3 TX3 3, w ∈ wsX3_addOne := (fun w h => List.mem_cons_of_mem _ (List.mem_append_right _ h))
  have main : ∀ (H : Heap) (locs : List Loc) (ls : Array Slot), va_P D vwCl [(a, .inr (3, [.int (v_width), .ref a_cells, .int (v_size)])), (a_cells, .inl (cy 0, n_cells, .inl (f_cells)))] H → va_D A [(a, .inr (3, [.int (v_width), .ref a_cells, .int (v_size)])), (a_cells, .inl (cy 0, n_cells, .inl (f_cells)))] → va_S A s.heap H locs → lv_has ls 1 [(0, .ref a)] → f_X3_addOne v_width v_size n_cells = some z_v_size → W p l e ({ frames := 1, cells := 0, slots := 0, locals := 20 } : Room) s m [.ref a].toArray below meth c H locs 0 0 (MQ below (Qv D A [(a, .inr (3, [.int (v_width), .ref a_cells, .int (z_v_size)])), (a_cells, .inl (cy 0, n_cells, .inl (f_cells)))]) [.ref a].toArray s 0 0 A) (F0 m 0 ls []) := by
    intro H locs ls hP hD hS hl h
    unfold f_X3_addOne at h
    refine lv_aload_n hx hb dX3_addOne_0 rfl (lv_at hl 0 rfl) ?_
    obtain ⟨r_10, hc_12, h⟩ := bn1_s h
    refine call_i (ws1 := [(a, .inr (3, [.int (v_width), .ref a_cells, .int (v_size)])), (a_cells, .inl (cy 0, n_cells, .inl (f_cells)))]) (wr := []) (run_V ⟨hx, hb, hml, hown, hts⟩ ((c_X3_isFull l D cy a a_cells (v_width) (v_size) n_cells (f_cells) r_10 hc_12) H.size) (cwV 0 hts gX3_addOne_X3_isFull rfl rfl rfl hd_X3_isFull ⟨Nat.le_of_ble_eq_true rfl, Nat.le_of_ble_eq_true rfl⟩) KK.calling (fun U _ hW => hK.warm hW) hK.1 hP hD [0, 1] [] [0, 1] rfl rfl 0 3 rfl rfl rfl rfl hl.1 rfl (lv_room (Nat.le_of_ble_eq_true rfl)) dX3_addOne_1) hP hD hS hA [0, 1] [] [0, 1] rfl rfl rfl rfl (fun H locs hP hD hS => ?_)
    refine lv_if_ne (tgt := 17) hx hb dX3_addOne_4 (by decide) (fun c_11 => ?_) (fun c_11 => ?_)
    · have h := ifn c_11 h
      have e0 := Option.some.inj h
      exact Mv.ret' hx hb hr hlocks (by rw [← e0]) hP hD hS dX3_addOne_17
    · have h := ift c_11 h
      refine lv_aload_n hx hb dX3_addOne_7 rfl (lv_at hl 0 rfl) ?_
      refine lv_dup hx hb dX3_addOne_8 rfl ?_
      refine va_get (D := D) (ci := 3) (v := .int (v_size)) (C := RX3) (T := TX3) (N := 3) hx hb hts hinX3 hown hK.1 hP 0 rfl rfl 2 (by decide) (hts (.fieldLink RX3 9 "FrameWalks$Table" "size" "I") (List.mem_of_getElem? (i := 1) rfl)) (fun _ h9 => h9) rfl dX3_addOne_9 ?_
      refine lv_iconst (v := (1 : Int32)) hx hb dX3_addOne_12 (by decide) ?_
      refine lv_iadd hx hb dX3_addOne_13 ?_
      refine va_put (D := D) (ci := 3) (v := .int (v_size + (1 : Int32))) (ty := .int) (C := RX3) (T := TX3) (N := 3) hx hb hts hinX3 tyX3 tyX3_ok nmX3 hown hK.1 hP hD hS 0 rfl rfl 2 (by decide) (hts (.fieldLink RX3 9 "FrameWalks$Table" "size" "I") (List.mem_of_getElem? (i := 1) rfl)) (fun _ h9 => h9) rfl (by decide +kernel) rfl rfl (Nat.le_of_ble_eq_true rfl) dX3_addOne_14 (fun H locs hP hD hS => ?_)
      have hP : va_P D vwCl [(a, .inr (3, [.int (v_width), .ref a_cells, .int (v_size + (1 : Int32))])), (a_cells, .inl (cy 0, n_cells, .inl (f_cells)))] H := hP
      have hD : va_D A [(a, .inr (3, [.int (v_width), .ref a_cells, .int (v_size + (1 : Int32))])), (a_cells, .inl (cy 0, n_cells, .inl (f_cells)))] := hD
      have e0 := Option.some.inj h
      exact Mv.ret' hx hb hr hlocks (by rw [← e0]) hP hD hS dX3_addOne_17
  exact main s.heap [] ls hP hD va_S.rf hl h
theorem hd_X3_takeOver : yX3_takeOver.cls = RX3 ∧ yX3_takeOver.cls ≠ "java/lang/invoke/MethodHandle" ∧ yX3_takeOver.cls ≠ "java/lang/invoke/VarHandle" ∧ (parseMethodDescriptor yX3_takeOver.desc).map (fun d => d.parameters.length) = some 1 := by decide +kernel
def f_X3_takeOver (v_size : Int32) (n_cells : Nat) (f_cells : Nat → Int32) (vp1_size : Int32) (np1_cells : Nat) (fp1_cells : Nat → Int32) : Option (Int32 × (Nat → Int32)) := (if Int32.ofNat np1_cells = Int32.ofNat n_cells then (ck (¬ ((0 : Int32)) < 0 ∧ ¬ ((0 : Int32)) < 0 ∧ ¬ (Int32.ofNat n_cells) < 0 ∧ ((0 : Int32)).toNatClampNeg + (Int32.ofNat n_cells).toNatClampNeg ≤ np1_cells ∧ ((0 : Int32)).toNatClampNeg + (Int32.ofNat n_cells).toNatClampNeg ≤ n_cells) (some (vp1_size, va_cpy fp1_cells f_cells ((0 : Int32)).toNatClampNeg ((0 : Int32)).toNatClampNeg (Int32.ofNat n_cells).toNatClampNeg))) else (some (v_size, f_cells)))
set_option maxHeartbeats 4000000 in
set_option maxRecDepth 100000 in
theorem c_X3_takeOver (l : Launch) (D : va_G) (cy : Nat → ClassId) (a a_cells ap1 ap1_cells : Nat) (v_width : Int32) (v_size : Int32) (n_cells : Nat) (f_cells : Nat → Int32) (vp1_width : Int32) (vp1_size : Int32) (np1_cells : Nat) (fp1_cells : Nat → Int32) (z_v_size : Int32) (z_f_cells : Nat → Int32) (h : f_X3_takeOver v_size n_cells f_cells vp1_size np1_cells fp1_cells = some (z_v_size, z_f_cells)) : Mv l yX3_takeOver wsX3_takeOver ({ frames := 1, cells := 0, slots := 0, locals := 60 } : Room) (KK D cy) D [.ref a, .ref ap1] [(a, .inr (3, [.int (v_width), .ref a_cells, .int (v_size)])), (a_cells, .inl (cy 0, n_cells, .inl (f_cells))), (ap1, .inr (3, [.int (vp1_width), .ref ap1_cells, .int (vp1_size)])), (ap1_cells, .inl (cy 0, np1_cells, .inl (fp1_cells)))] [(a, .inr (3, [.int (v_width), .ref a_cells, .int (z_v_size)])), (a_cells, .inl (cy 0, n_cells, .inl (z_f_cells))), (ap1, .inr (3, [.int (vp1_width), .ref ap1_cells, .int (vp1_size)])), (ap1_cells, .inl (cy 0, np1_cells, .inl (fp1_cells)))] := by
  intro sz
  refine Met.mk0 (cc := cX3_takeOver) (maxL := 2) (ret := none) (Qc := fun A => Qv D A [(a, .inr (3, [.int (v_width), .ref a_cells, .int (z_v_size)])), (a_cells, .inl (cy 0, n_cells, .inl (z_f_cells))), (ap1, .inr (3, [.int (vp1_width), .ref ap1_cells, .int (vp1_size)])), (ap1_cells, .inl (cy 0, np1_cells, .inl (fp1_cells)))]) (by decide) rfl (Nat.le_of_ble_eq_true rfl) ?_
  intro p e s m below meth c A ls hx hb hml hown hts hr hlocks hK hP hD hA hl
  have hown : s.vm.findClass RX3 = some m.cls := hown
  have hl : lv_has ls 2 [(0, .ref a), (1, .ref ap1)] := hl
  have hinX3 : ∀ w ∈ u_ws RX3 TX3 3, w ∈ wsX3_takeOver := (fun w h => List.mem_cons_of_mem _ (List.mem_append_right _ h))
  have main : ∀ (H : Heap) (locs : List Loc) (ls : Array Slot), va_P D vwCl [(a, .inr (3, [.int (v_width), .ref a_cells, .int (v_size)])), (a_cells, .inl (cy 0, n_cells, .inl (f_cells))), (ap1, .inr (3, [.int (vp1_width), .ref ap1_cells, .int (vp1_size)])), (ap1_cells, .inl (cy 0, np1_cells, .inl (fp1_cells)))] H → va_D A [(a, .inr (3, [.int (v_width), .ref a_cells, .int (v_size)])), (a_cells, .inl (cy 0, n_cells, .inl (f_cells))), (ap1, .inr (3, [.int (vp1_width), .ref ap1_cells, .int (vp1_size)])), (ap1_cells, .inl (cy 0, np1_cells, .inl (fp1_cells)))] → va_S A s.heap H locs → lv_has ls 2 [(0, .ref a), (1, .ref ap1)] → f_X3_takeOver v_size n_cells f_cells vp1_size np1_cells fp1_cells = some (z_v_size, z_f_cells) → W p l e ({ frames := 1, cells := 0, slots := 0, locals := 60 } : Room) s m [.ref a, .ref ap1].toArray below meth c H locs 0 0 (MQ below (Qv D A [(a, .inr (3, [.int (v_width), .ref a_cells, .int (z_v_size)])), (a_cells, .inl (cy 0, n_cells, .inl (z_f_cells))), (ap1, .inr (3, [.int (vp1_width), .ref ap1_cells, .int (vp1_size)])), (ap1_cells, .inl (cy 0, np1_cells, .inl (fp1_cells)))]) [.ref a, .ref ap1].toArray s 0 0 A) (F0 m 0 ls []) := by
    intro H locs ls hP hD hS hl h
    unfold f_X3_takeOver at h
    refine lv_aload_n hx hb dX3_takeOver_0 rfl (lv_at hl 1 rfl) ?_
    refine va_get (D := D) (ci := 3) (v := .ref ap1_cells) (C := RX3) (T := TX3) (N := 3) hx hb hts hinX3 hown hK.1 hP 2 rfl rfl 1 (by decide) (hts (.fieldLink RX3 18 "FrameWalks$Table" "cells" "[I") (List.mem_of_getElem? (i := 1) rfl)) (fun _ h9 => h9) rfl dX3_takeOver_1 ?_
    refine va_alen hx hb hK.1 hP 3 0 rfl rfl (v := Int32.ofNat np1_cells) rfl dX3_takeOver_4 ?_
    refine lv_aload_n hx hb dX3_takeOver_5 rfl (lv_at hl 0 rfl) ?_
    refine va_get (D := D) (ci := 3) (v := .ref a_cells) (C := RX3) (T := TX3) (N := 3) hx hb hts hinX3 hown hK.1 hP 0 rfl rfl 1 (by decide) (hts (.fieldLink RX3 18 "FrameWalks$Table" "cells" "[I") (List.mem_of_getElem? (i := 1) rfl)) (fun _ h9 => h9) rfl dX3_takeOver_6 ?_
    refine va_alen hx hb hK.1 hP 1 0 rfl rfl (v := Int32.ofNat n_cells) rfl dX3_takeOver_9 ?_
    refine lv_icmp_ne (tgt := 39) hx hb dX3_takeOver_10 (by decide) (fun c_7 => ?_) (fun c_7 => ?_)
    · have h := ifn c_7 h
      obtain ⟨e0, e1⟩ := tp2_s h
      exact Mv.ret' hx hb hr hlocks (by rw [← e0, ← e1]) hP hD hS dX3_takeOver_39
    · have h := ift c_7 h
      refine lv_aload_n hx hb dX3_takeOver_13 rfl (lv_at hl 1 rfl) ?_
      refine va_get (D := D) (ci := 3) (v := .ref ap1_cells) (C := RX3) (T := TX3) (N := 3) hx hb hts hinX3 hown hK.1 hP 2 rfl rfl 1 (by decide) (hts (.fieldLink RX3 18 "FrameWalks$Table" "cells" "[I") (List.mem_of_getElem? (i := 1) rfl)) (fun _ h9 => h9) rfl dX3_takeOver_14 ?_
      refine lv_iconst (v := (0 : Int32)) hx hb dX3_takeOver_17 (by decide) ?_
      refine lv_aload_n hx hb dX3_takeOver_18 rfl (lv_at hl 0 rfl) ?_
      refine va_get (D := D) (ci := 3) (v := .ref a_cells) (C := RX3) (T := TX3) (N := 3) hx hb hts hinX3 hown hK.1 hP 0 rfl rfl 1 (by decide) (hts (.fieldLink RX3 18 "FrameWalks$Table" "cells" "[I") (List.mem_of_getElem? (i := 1) rfl)) (fun _ h9 => h9) rfl dX3_takeOver_19 ?_
      refine lv_iconst (v := (0 : Int32)) hx hb dX3_takeOver_22 (by decide) ?_
      refine lv_aload_n hx hb dX3_takeOver_23 rfl (lv_at hl 0 rfl) ?_
      refine va_get (D := D) (ci := 3) (v := .ref a_cells) (C := RX3) (T := TX3) (N := 3) hx hb hts hinX3 hown hK.1 hP 0 rfl rfl 1 (by decide) (hts (.fieldLink RX3 18 "FrameWalks$Table" "cells" "[I") (List.mem_of_getElem? (i := 1) rfl)) (fun _ h9 => h9) rfl dX3_takeOver_24 ?_
      refine va_alen hx hb hK.1 hP 1 0 rfl rfl (v := Int32.ofNat n_cells) rfl dX3_takeOver_27 ?_
      obtain ⟨y_8, h⟩ := ck_s h
      refine va_copyi hx hb (hml.trans hl.1.symm) hown (hts (.methodLink RX3 26 arraycopyName) (List.mem_of_getElem? (i := 2) rfl)) (hts (.native arraycopyName) (List.mem_of_getElem? (i := 3) rfl)) (hts (.static arraycopyName) (List.mem_of_getElem? (i := 4) rfl)) (hts (.initialized "java/lang/System") (List.mem_of_getElem? (i := 5) rfl)) hK.1 hP hD hS 3 1 0 0 (ty := .int) rfl rfl rfl rfl rfl y_8.1 y_8.2.1 y_8.2.2.1 y_8.2.2.2.1 y_8.2.2.2.2 (fun _ _ => rfl) (Nat.le_of_ble_eq_true rfl) (Nat.le_of_ble_eq_true (by decide +kernel)) dX3_takeOver_28 (fun H locs hP hD hS => ?_)
      have hP : va_P D vwCl [(a, .inr (3, [.int (v_width), .ref a_cells, .int (v_size)])), (a_cells, .inl (cy 0, n_cells, .inl (va_cpy fp1_cells f_cells ((0 : Int32)).toNatClampNeg ((0 : Int32)).toNatClampNeg (Int32.ofNat n_cells).toNatClampNeg))), (ap1, .inr (3, [.int (vp1_width), .ref ap1_cells, .int (vp1_size)])), (ap1_cells, .inl (cy 0, np1_cells, .inl (fp1_cells)))] H := hP
      have hD : va_D A [(a, .inr (3, [.int (v_width), .ref a_cells, .int (v_size)])), (a_cells, .inl (cy 0, n_cells, .inl (va_cpy fp1_cells f_cells ((0 : Int32)).toNatClampNeg ((0 : Int32)).toNatClampNeg (Int32.ofNat n_cells).toNatClampNeg))), (ap1, .inr (3, [.int (vp1_width), .ref ap1_cells, .int (vp1_size)])), (ap1_cells, .inl (cy 0, np1_cells, .inl (fp1_cells)))] := hD
      refine lv_aload_n hx hb dX3_takeOver_31 rfl (lv_at hl 0 rfl) ?_
      refine lv_aload_n hx hb dX3_takeOver_32 rfl (lv_at hl 1 rfl) ?_
      refine va_get (D := D) (ci := 3) (v := .int (vp1_size)) (C := RX3) (T := TX3) (N := 3) hx hb hts hinX3 hown hK.1 hP 2 rfl rfl 2 (by decide) (hts (.fieldLink RX3 9 "FrameWalks$Table" "size" "I") (List.mem_of_getElem? (i := 6) rfl)) (fun _ h9 => h9) rfl dX3_takeOver_33 ?_
      refine va_put (D := D) (ci := 3) (v := .int (vp1_size)) (ty := .int) (C := RX3) (T := TX3) (N := 3) hx hb hts hinX3 tyX3 tyX3_ok nmX3 hown hK.1 hP hD hS 0 rfl rfl 2 (by decide) (hts (.fieldLink RX3 9 "FrameWalks$Table" "size" "I") (List.mem_of_getElem? (i := 6) rfl)) (fun _ h9 => h9) rfl (by decide +kernel) rfl rfl (Nat.le_of_ble_eq_true rfl) dX3_takeOver_36 (fun H locs hP hD hS => ?_)
      have hP : va_P D vwCl [(a, .inr (3, [.int (v_width), .ref a_cells, .int (vp1_size)])), (a_cells, .inl (cy 0, n_cells, .inl (va_cpy fp1_cells f_cells ((0 : Int32)).toNatClampNeg ((0 : Int32)).toNatClampNeg (Int32.ofNat n_cells).toNatClampNeg))), (ap1, .inr (3, [.int (vp1_width), .ref ap1_cells, .int (vp1_size)])), (ap1_cells, .inl (cy 0, np1_cells, .inl (fp1_cells)))] H := hP
      have hD : va_D A [(a, .inr (3, [.int (v_width), .ref a_cells, .int (vp1_size)])), (a_cells, .inl (cy 0, n_cells, .inl (va_cpy fp1_cells f_cells ((0 : Int32)).toNatClampNeg ((0 : Int32)).toNatClampNeg (Int32.ofNat n_cells).toNatClampNeg))), (ap1, .inr (3, [.int (vp1_width), .ref ap1_cells, .int (vp1_size)])), (ap1_cells, .inl (cy 0, np1_cells, .inl (fp1_cells)))] := hD
      obtain ⟨e0, e1⟩ := tp2_s h
      exact Mv.ret' hx hb hr hlocks (by rw [← e0, ← e1]) hP hD hS dX3_takeOver_39
  exact main s.heap [] ls hP hD va_S.rf hl h
theorem hd_J6_compare_7cf53 : yJ6_compare_7cf53.cls = RJ6 ∧ yJ6_compare_7cf53.cls ≠ "java/lang/invoke/MethodHandle" ∧ yJ6_compare_7cf53.cls ≠ "java/lang/invoke/VarHandle" ∧ (parseMethodDescriptor yJ6_compare_7cf53.desc).map (fun d => d.parameters.length) = some 2 := by decide +kernel
def f_J6_compare_7cf53 (x0 : Int32) (x1 : Int32) : Option (Int32) := (if x1 ≤ x0 then (if x0 = x1 then (some ((0 : Int32))) else (some ((1 : Int32)))) else (some ((-1 : Int32))))
set_option maxHeartbeats 4000000 in
set_option maxRecDepth 100000 in
theorem c_J6_compare_7cf53 (l : Launch) (D : va_G) (cy : Nat → ClassId) (x0 : Int32) (x1 : Int32) (res : Int32) (h : f_J6_compare_7cf53 x0 x1 = some res) : Mi l yJ6_compare_7cf53 wsJ6_compare_7cf53 ({ frames := 0, cells := 0, slots := 0, locals := 0 } : Room) (KK D cy) D [.int (x0), .int (x1)] [] [] res := by
  intro sz
  refine Met.mk0 (cc := cJ6_compare_7cf53) (maxL := 2) (ret := (some .int)) (Qc := fun A => Qi D A [] res) (by decide) rfl (Nat.le_of_ble_eq_true rfl) ?_
  intro p e s m below meth c A ls hx hb hml hown hts hr hlocks hK hP hD hA hl
  have hown : s.vm.findClass RJ6 = some m.cls := hown
  have hl : lv_has ls 2 [(0, .int (x0)), (1, .int (x1))] := hl
  have main : ∀ (H : Heap) (locs : List Loc) (ls : Array Slot), va_P D vwCl [] H → va_D A [] → va_S A s.heap H locs → lv_has ls 2 [(0, .int (x0)), (1, .int (x1))] → f_J6_compare_7cf53 x0 x1 = some res → W p l e ({ frames := 0, cells := 0, slots := 0, locals := 0 } : Room) s m [.int (x0), .int (x1)].toArray below meth c H locs 0 0 (MQ below (Qi D A [] res) [.int (x0), .int (x1)].toArray s 0 0 A) (F0 m 0 ls []) := by
    intro H locs ls hP hD hS hl h
    unfold f_J6_compare_7cf53 at h
    refine lv_iload_n hx hb dJ6_compare_7cf53_0 rfl (lv_at hl 0 rfl) ?_
    refine lv_iload_n hx hb dJ6_compare_7cf53_1 rfl (lv_at hl 1 rfl) ?_
    refine lv_icmp_ge (tgt := 9) hx hb dJ6_compare_7cf53_2 (by decide) (fun c_7 => ?_) (fun c_7 => ?_)
    · have h := ift c_7 h
      refine lv_iload_n hx hb dJ6_compare_7cf53_9 rfl (lv_at hl 0 rfl) ?_
      refine lv_iload_n hx hb dJ6_compare_7cf53_10 rfl (lv_at hl 1 rfl) ?_
      refine lv_icmp_ne (tgt := 18) hx hb dJ6_compare_7cf53_11 (by decide) (fun c_8 => ?_) (fun c_8 => ?_)
      · have h := ifn c_8 h
        refine lv_iconst (v := (1 : Int32)) hx hb dJ6_compare_7cf53_18 (by decide) ?_
        have e0 := Option.some.inj h
        exact Mi.ret' hx hb hr hlocks e0 rfl hP hD hS dJ6_compare_7cf53_19
      · have h := ift c_8 h
        refine lv_iconst (v := (0 : Int32)) hx hb dJ6_compare_7cf53_14 (by decide) ?_
        refine lv_goto (tgt := 19) hx hb dJ6_compare_7cf53_15 (by decide) ?_
        have e0 := Option.some.inj h
        exact Mi.ret' hx hb hr hlocks e0 rfl hP hD hS dJ6_compare_7cf53_19
    · have h := ifn c_7 h
      refine lv_iconst (v := (-1 : Int32)) hx hb dJ6_compare_7cf53_5 (by decide) ?_
      refine lv_goto (tgt := 19) hx hb dJ6_compare_7cf53_6 (by decide) ?_
      have e0 := Option.some.inj h
      exact Mi.ret' hx hb hr hlocks e0 rfl hP hD hS dJ6_compare_7cf53_19
  exact main s.heap [] ls hP hD va_S.rf hl h
theorem hd_X3_rankOf : yX3_rankOf.cls = RX3 ∧ yX3_rankOf.cls ≠ "java/lang/invoke/MethodHandle" ∧ yX3_rankOf.cls ≠ "java/lang/invoke/VarHandle" ∧ (parseMethodDescriptor yX3_rankOf.desc).map (fun d => d.parameters.length) = some 2 := by decide +kernel
def f_X3_rankOf_L5 (v_width : Int32) (v_size : Int32) (n_cells : Nat) (f_cells : Nat → Int32) : Nat → Int32 → Int32 → Int32 → Int32 → Option (Int32)
  | 0, _, _, _, _ => none
  | n + 1, y1, y2, y3, y4 => (if v_size ≤ y4 then (some y3) else (bn1 (f_X3_at (y4) (y2) (v_width) (v_size) n_cells (f_cells)) (fun r_32 => (bn1 (f_X3_at (y1) (y2) (v_width) (v_size) n_cells (f_cells)) (fun r_33 => (bn1 (f_J6_compare_7cf53 (r_32) (r_33)) (fun r_34 => (if r_34 < 0 then ((f_X3_rankOf_L5 v_width v_size n_cells f_cells  n) (y1) (y2) (y3 + (1 : Int32)) (y4 + (1 : Int32))) else (if r_34 = 0 then (if y1 ≤ y4 then ((f_X3_rankOf_L5 v_width v_size n_cells f_cells  n) (y1) (y2) (y3) (y4 + (1 : Int32))) else ((f_X3_rankOf_L5 v_width v_size n_cells f_cells  n) (y1) (y2) (y3 + (1 : Int32)) (y4 + (1 : Int32)))) else ((f_X3_rankOf_L5 v_width v_size n_cells f_cells  n) (y1) (y2) (y3) (y4 + (1 : Int32))))))))))))
def f_X3_rankOf (x1 : Int32) (x2 : Int32) (v_width : Int32) (v_size : Int32) (n_cells : Nat) (f_cells : Nat → Int32) : Option (Int32) := (f_X3_rankOf_L5 v_width v_size n_cells f_cells  FUEL (x1) (x2) ((0 : Int32)) ((0 : Int32)))
set_option maxHeartbeats 4000000 in
set_option maxRecDepth 100000 in
theorem c_X3_rankOf (l : Launch) (D : va_G) (cy : Nat → ClassId) (a a_cells : Nat) (v_width : Int32) (v_size : Int32) (n_cells : Nat) (f_cells : Nat → Int32) (x1 : Int32) (x2 : Int32) (res : Int32) (h : f_X3_rankOf x1 x2 v_width v_size n_cells f_cells = some res) : Mi l yX3_rankOf wsX3_rankOf ({ frames := 1, cells := 0, slots := 0, locals := 22 } : Room) (KK D cy) D [.ref a, .int (x1), .int (x2)] [(a, .inr (3, [.int (v_width), .ref a_cells, .int (v_size)])), (a_cells, .inl (cy 0, n_cells, .inl (f_cells)))] [(a, .inr (3, [.int (v_width), .ref a_cells, .int (v_size)])), (a_cells, .inl (cy 0, n_cells, .inl (f_cells)))] res := by
  intro sz
  refine Met.mk0 (cc := cX3_rankOf) (maxL := 6) (ret := (some .int)) (Qc := fun A => Qi D A [(a, .inr (3, [.int (v_width), .ref a_cells, .int (v_size)])), (a_cells, .inl (cy 0, n_cells, .inl (f_cells)))] res) (by decide) rfl (Nat.le_of_ble_eq_true rfl) ?_
  intro p e s m below meth c A ls hx hb hml hown hts hr hlocks hK hP hD hA hl
  have hown : s.vm.findClass RX3 = some m.cls := hown
  have hl : lv_has ls 6 [(0, .ref a), (1, .int (x1)), (2, .int (x2))] := hl
  have hinX3 : ∀ w ∈ u_ws RX3 TX3 3, w ∈ wsX3_rankOf := (fun w h => List.mem_cons_of_mem _ (List.mem_append_right _ h))
  have hL5 : ∀ (n5 : Nat) (y1 : Int32) (y2 : Int32) (y3 : Int32) (y4 : Int32) (H : Heap) (locs : List Loc) (ls : Array Slot), va_P D vwCl [(a, .inr (3, [.int (v_width), .ref a_cells, .int (v_size)])), (a_cells, .inl (cy 0, n_cells, .inl (f_cells)))] H → va_D A [(a, .inr (3, [.int (v_width), .ref a_cells, .int (v_size)])), (a_cells, .inl (cy 0, n_cells, .inl (f_cells)))] → va_S A s.heap H locs → lv_has ls 6 [(0, .ref a), (1, .int (y1)), (2, .int (y2)), (3, .int (y3)), (4, .int (y4))] → f_X3_rankOf_L5 v_width v_size n_cells f_cells  n5 y1 y2 y3 y4 = some res → W p l e ({ frames := 1, cells := 0, slots := 0, locals := 22 } : Room) s m [.ref a, .int (x1), .int (x2)].toArray below meth c H locs 0 0 (MQ below (Qi D A [(a, .inr (3, [.int (v_width), .ref a_cells, .int (v_size)])), (a_cells, .inl (cy 0, n_cells, .inl (f_cells)))] res) [.ref a, .int (x1), .int (x2)].toArray s 0 0 A) (F0 m 5 ls []) := by
    intro n5
    induction n5 with
    | zero =>
      intro y1 y2 y3 y4 H locs ls hP hD hS hl h
      cases (id h : (none : Option (Int32)) = some _)
    | succ n5 ih5 =>
      intro y1 y2 y3 y4 H locs ls hP hD hS hl h
      rw [f_X3_rankOf_L5] at h
      refine lv_iload hx hb dX3_rankOf_5 (lv_at hl 4 rfl) ?_
      refine lv_aload_n hx hb dX3_rankOf_7 rfl (lv_at hl 0 rfl) ?_
      refine va_get (D := D) (ci := 3) (v := .int (v_size)) (C := RX3) (T := TX3) (N := 3) hx hb hts hinX3 hown hK.1 hP 0 rfl rfl 2 (by decide) (hts (.fieldLink RX3 9 "FrameWalks$Table" "size" "I") (List.mem_of_getElem? (i := 1) rfl)) (fun _ h9 => h9) rfl dX3_rankOf_8 ?_
      refine lv_icmp_ge (tgt := 57) hx hb dX3_rankOf_11 (by decide) (fun c_31 => ?_) (fun c_31 => ?_)
      · have h := ift c_31 h
        refine lv_iload_n hx hb dX3_rankOf_57 rfl (lv_at hl 3 rfl) ?_
        have e0 := Option.some.inj h
        exact Mi.ret' hx hb hr hlocks e0 rfl hP hD hS dX3_rankOf_58
      · have h := ifn c_31 h
        refine lv_aload_n hx hb dX3_rankOf_14 rfl (lv_at hl 0 rfl) ?_
        refine lv_iload hx hb dX3_rankOf_15 (lv_at hl 4 rfl) ?_
        refine lv_iload_n hx hb dX3_rankOf_17 rfl (lv_at hl 2 rfl) ?_
        obtain ⟨r_32, hc_40, h⟩ := bn1_s h
        refine call_i (ws1 := [(a, .inr (3, [.int (v_width), .ref a_cells, .int (v_size)])), (a_cells, .inl (cy 0, n_cells, .inl (f_cells)))]) (wr := []) (run_V ⟨hx, hb, hml, hown, hts⟩ ((c_X3_at l D cy a a_cells (v_width) (v_size) n_cells (f_cells) (y4) (y2) r_32 hc_40) H.size) (cwV 2 hts gX3_rankOf_X3_at rfl rfl rfl hd_X3_at ⟨Nat.le_of_ble_eq_true rfl, Nat.le_of_ble_eq_true rfl⟩) KK.calling (fun U _ hW => hK.warm hW) hK.1 hP hD [0, 1] [] [0, 1] rfl rfl 0 3 rfl rfl rfl rfl hl.1 rfl (lv_room (Nat.le_of_ble_eq_true rfl)) dX3_rankOf_18) hP hD hS hA [0, 1] [] [0, 1] rfl rfl rfl rfl (fun H locs hP hD hS => ?_)
        refine lv_aload_n hx hb dX3_rankOf_21 rfl (lv_at hl 0 rfl) ?_
        refine lv_iload_n hx hb dX3_rankOf_22 rfl (lv_at hl 1 rfl) ?_
        refine lv_iload_n hx hb dX3_rankOf_23 rfl (lv_at hl 2 rfl) ?_
        obtain ⟨r_33, hc_39, h⟩ := bn1_s h
        refine call_i (ws1 := [(a, .inr (3, [.int (v_width), .ref a_cells, .int (v_size)])), (a_cells, .inl (cy 0, n_cells, .inl (f_cells)))]) (wr := []) (run_V ⟨hx, hb, hml, hown, hts⟩ ((c_X3_at l D cy a a_cells (v_width) (v_size) n_cells (f_cells) (y1) (y2) r_33 hc_39) H.size) (cwV 2 hts gX3_rankOf_X3_at rfl rfl rfl hd_X3_at ⟨Nat.le_of_ble_eq_true rfl, Nat.le_of_ble_eq_true rfl⟩) KK.calling (fun U _ hW => hK.warm hW) hK.1 hP hD [0, 1] [] [0, 1] rfl rfl 0 3 rfl rfl rfl rfl hl.1 rfl (lv_room (Nat.le_of_ble_eq_true rfl)) dX3_rankOf_24) hP hD hS hA [0, 1] [] [0, 1] rfl rfl rfl rfl (fun H locs hP hD hS => ?_)
        obtain ⟨r_34, hc_38, h⟩ := bn1_s h
        refine call_i (ws1 := [(a, .inr (3, [.int (v_width), .ref a_cells, .int (v_size)])), (a_cells, .inl (cy 0, n_cells, .inl (f_cells)))]) (wr := [(a, .inr (3, [.int (v_width), .ref a_cells, .int (v_size)])), (a_cells, .inl (cy 0, n_cells, .inl (f_cells)))]) (run_S ⟨hx, hb, hml, hown, hts⟩ ((c_J6_compare_7cf53 l D cy (r_32) (r_33) r_34 hc_38) H.size) (cwS2 2 hts gX3_rankOf_J6_compare_7cf53 rfl rfl rfl hd_J6_compare_7cf53.2 ⟨Nat.le_of_ble_eq_true rfl, Nat.le_of_ble_eq_true rfl⟩) KK.calling (fun U _ hW => hK.warm hW) hP hD [] [0, 1] [0, 1] rfl rfl rfl hl.1 rfl (lv_room (Nat.le_of_ble_eq_true rfl)) dX3_rankOf_27) hP hD hS hA [] [0, 1] [0, 1] rfl rfl rfl rfl (fun H locs hP hD hS => ?_)
        refine lv_istore (lv' := [(5, .int (r_34)), (0, .ref a), (1, .int (y1)), (2, .int (y2)), (3, .int (y3)), (4, .int (y4))]) hx hb dX3_rankOf_30 hl (by decide) rfl (fun ls hl => ?_)
        refine lv_iload hx hb dX3_rankOf_32 (lv_at hl 0 rfl) ?_
        refine lv_if_lt (tgt := 48) hx hb dX3_rankOf_34 (by decide) (fun c_35 => ?_) (fun c_35 => ?_)
        · have h := ift c_35 h
          refine lv_iinc (v := y3 + (1 : Int32)) (lv' := [(3, .int (y3 + (1 : Int32))), (5, .int (r_34)), (0, .ref a), (1, .int (y1)), (2, .int (y2)), (4, .int (y4))]) hx hb dX3_rankOf_48 hl (k := 4) rfl rfl (by decide) rfl (fun ls hl => ?_)
          refine lv_iinc (v := y4 + (1 : Int32)) (lv' := [(4, .int (y4 + (1 : Int32))), (3, .int (y3 + (1 : Int32))), (5, .int (r_34)), (0, .ref a), (1, .int (y1)), (2, .int (y2))]) hx hb dX3_rankOf_51 hl (k := 5) rfl rfl (by decide) rfl (fun ls hl => ?_)
          refine lv_goto (tgt := 5) hx hb dX3_rankOf_54 (by decide) ?_
          exact ih5 (y1) (y2) (y3 + (1 : Int32)) (y4 + (1 : Int32)) H locs ls hP hD hS (lv_sub hl [3, 4, 5, 1, 0] rfl) h
        · have h := ifn c_35 h
          refine lv_iload hx hb dX3_rankOf_37 (lv_at hl 0 rfl) ?_
          refine lv_if_ne (tgt := 51) hx hb dX3_rankOf_39 (by decide) (fun c_36 => ?_) (fun c_36 => ?_)
          · have h := ifn c_36 h
            refine lv_iinc (v := y4 + (1 : Int32)) (lv' := [(4, .int (y4 + (1 : Int32))), (5, .int (r_34)), (0, .ref a), (1, .int (y1)), (2, .int (y2)), (3, .int (y3))]) hx hb dX3_rankOf_51 hl (k := 5) rfl rfl (by decide) rfl (fun ls hl => ?_)
            refine lv_goto (tgt := 5) hx hb dX3_rankOf_54 (by decide) ?_
            exact ih5 (y1) (y2) (y3) (y4 + (1 : Int32)) H locs ls hP hD hS (lv_sub hl [2, 3, 4, 5, 0] rfl) h
          · have h := ift c_36 h
            refine lv_iload hx hb dX3_rankOf_42 (lv_at hl 5 rfl) ?_
            refine lv_iload_n hx hb dX3_rankOf_44 rfl (lv_at hl 2 rfl) ?_
            refine lv_icmp_ge (tgt := 51) hx hb dX3_rankOf_45 (by decide) (fun c_37 => ?_) (fun c_37 => ?_)
            · have h := ift c_37 h
              refine lv_iinc (v := y4 + (1 : Int32)) (lv' := [(4, .int (y4 + (1 : Int32))), (5, .int (r_34)), (0, .ref a), (1, .int (y1)), (2, .int (y2)), (3, .int (y3))]) hx hb dX3_rankOf_51 hl (k := 5) rfl rfl (by decide) rfl (fun ls hl => ?_)
              refine lv_goto (tgt := 5) hx hb dX3_rankOf_54 (by decide) ?_
              exact ih5 (y1) (y2) (y3) (y4 + (1 : Int32)) H locs ls hP hD hS (lv_sub hl [2, 3, 4, 5, 0] rfl) h
            · have h := ifn c_37 h
              refine lv_iinc (v := y3 + (1 : Int32)) (lv' := [(3, .int (y3 + (1 : Int32))), (5, .int (r_34)), (0, .ref a), (1, .int (y1)), (2, .int (y2)), (4, .int (y4))]) hx hb dX3_rankOf_48 hl (k := 4) rfl rfl (by decide) rfl (fun ls hl => ?_)
              refine lv_iinc (v := y4 + (1 : Int32)) (lv' := [(4, .int (y4 + (1 : Int32))), (3, .int (y3 + (1 : Int32))), (5, .int (r_34)), (0, .ref a), (1, .int (y1)), (2, .int (y2))]) hx hb dX3_rankOf_51 hl (k := 5) rfl rfl (by decide) rfl (fun ls hl => ?_)
              refine lv_goto (tgt := 5) hx hb dX3_rankOf_54 (by decide) ?_
              exact ih5 (y1) (y2) (y3 + (1 : Int32)) (y4 + (1 : Int32)) H locs ls hP hD hS (lv_sub hl [3, 4, 5, 1, 0] rfl) h
  have main : ∀ (H : Heap) (locs : List Loc) (ls : Array Slot), va_P D vwCl [(a, .inr (3, [.int (v_width), .ref a_cells, .int (v_size)])), (a_cells, .inl (cy 0, n_cells, .inl (f_cells)))] H → va_D A [(a, .inr (3, [.int (v_width), .ref a_cells, .int (v_size)])), (a_cells, .inl (cy 0, n_cells, .inl (f_cells)))] → va_S A s.heap H locs → lv_has ls 6 [(0, .ref a), (1, .int (x1)), (2, .int (x2))] → f_X3_rankOf x1 x2 v_width v_size n_cells f_cells = some res → W p l e ({ frames := 1, cells := 0, slots := 0, locals := 22 } : Room) s m [.ref a, .int (x1), .int (x2)].toArray below meth c H locs 0 0 (MQ below (Qi D A [(a, .inr (3, [.int (v_width), .ref a_cells, .int (v_size)])), (a_cells, .inl (cy 0, n_cells, .inl (f_cells)))] res) [.ref a, .int (x1), .int (x2)].toArray s 0 0 A) (F0 m 0 ls []) := by
    intro H locs ls hP hD hS hl h
    unfold f_X3_rankOf at h
    refine lv_iconst (v := (0 : Int32)) hx hb dX3_rankOf_0 (by decide) ?_
    refine lv_istore_n (lv' := [(3, .int ((0 : Int32))), (0, .ref a), (1, .int (x1)), (2, .int (x2))]) hx hb dX3_rankOf_1 rfl hl (by decide) rfl (fun ls hl => ?_)
    refine lv_iconst (v := (0 : Int32)) hx hb dX3_rankOf_2 (by decide) ?_
    refine lv_istore (lv' := [(4, .int ((0 : Int32))), (3, .int ((0 : Int32))), (0, .ref a), (1, .int (x1)), (2, .int (x2))]) hx hb dX3_rankOf_3 hl (by decide) rfl (fun ls hl => ?_)
    exact hL5 FUEL (x1) (x2) ((0 : Int32)) ((0 : Int32)) H locs ls hP hD hS (lv_sub hl [2, 3, 4, 1, 0] rfl) h
  exact main s.heap [] ls hP hD va_S.rf hl h
theorem hd_X3_ranked : yX3_ranked.cls = RX3 ∧ yX3_ranked.cls ≠ "java/lang/invoke/MethodHandle" ∧ yX3_ranked.cls ≠ "java/lang/invoke/VarHandle" ∧ (parseMethodDescriptor yX3_ranked.desc).map (fun d => d.parameters.length) = some 2 := by decide +kernel
def f_X3_ranked_L2 (v_width : Int32) (v_size : Int32) (n_cells : Nat) (f_cells : Nat → Int32) : Nat → Int32 → Int32 → Int32 → Option (Int32)
  | 0, _, _, _ => none
  | n + 1, y1, y2, y3 => (if v_size ≤ y3 then (some ((-4 : Int32))) else (bn1 (f_X3_rankOf (y3) (y2) (v_width) (v_size) n_cells (f_cells)) (fun r_14 => (if r_14 = y1 then (some y3) else ((f_X3_ranked_L2 v_width v_size n_cells f_cells  n) (y1) (y2) (y3 + (1 : Int32)))))))
def f_X3_ranked (x1 : Int32) (x2 : Int32) (v_width : Int32) (v_size : Int32) (n_cells : Nat) (f_cells : Nat → Int32) : Option (Int32) := (f_X3_ranked_L2 v_width v_size n_cells f_cells  FUEL (x1) (x2) ((0 : Int32)))
set_option maxHeartbeats 4000000 in
set_option maxRecDepth 100000 in
theorem c_X3_ranked (l : Launch) (D : va_G) (cy : Nat → ClassId) (a a_cells : Nat) (v_width : Int32) (v_size : Int32) (n_cells : Nat) (f_cells : Nat → Int32) (x1 : Int32) (x2 : Int32) (res : Int32) (h : f_X3_ranked x1 x2 v_width v_size n_cells f_cells = some res) : Mi l yX3_ranked wsX3_ranked ({ frames := 2, cells := 0, slots := 0, locals := 47 } : Room) (KK D cy) D [.ref a, .int (x1), .int (x2)] [(a, .inr (3, [.int (v_width), .ref a_cells, .int (v_size)])), (a_cells, .inl (cy 0, n_cells, .inl (f_cells)))] [(a, .inr (3, [.int (v_width), .ref a_cells, .int (v_size)])), (a_cells, .inl (cy 0, n_cells, .inl (f_cells)))] res := by
  intro sz
  refine Met.mk0 (cc := cX3_ranked) (maxL := 4) (ret := (some .int)) (Qc := fun A => Qi D A [(a, .inr (3, [.int (v_width), .ref a_cells, .int (v_size)])), (a_cells, .inl (cy 0, n_cells, .inl (f_cells)))] res) (by decide) rfl (Nat.le_of_ble_eq_true rfl) ?_
  intro p e s m below meth c A ls hx hb hml hown hts hr hlocks hK hP hD hA hl
  have hown : s.vm.findClass RX3 = some m.cls := hown
  have hl : lv_has ls 4 [(0, .ref a), (1, .int (x1)), (2, .int (x2))] := hl
  have hinX3 : ∀ w ∈ u_ws RX3 TX3 3, w ∈ wsX3_ranked := (fun w h => List.mem_cons_of_mem _ (List.mem_append_right _ h))
  have hL2 : ∀ (n2 : Nat) (y1 : Int32) (y2 : Int32) (y3 : Int32) (H : Heap) (locs : List Loc) (ls : Array Slot), va_P D vwCl [(a, .inr (3, [.int (v_width), .ref a_cells, .int (v_size)])), (a_cells, .inl (cy 0, n_cells, .inl (f_cells)))] H → va_D A [(a, .inr (3, [.int (v_width), .ref a_cells, .int (v_size)])), (a_cells, .inl (cy 0, n_cells, .inl (f_cells)))] → va_S A s.heap H locs → lv_has ls 4 [(0, .ref a), (1, .int (y1)), (2, .int (y2)), (3, .int (y3))] → f_X3_ranked_L2 v_width v_size n_cells f_cells  n2 y1 y2 y3 = some res → W p l e ({ frames := 2, cells := 0, slots := 0, locals := 47 } : Room) s m [.ref a, .int (x1), .int (x2)].toArray below meth c H locs 0 0 (MQ below (Qi D A [(a, .inr (3, [.int (v_width), .ref a_cells, .int (v_size)])), (a_cells, .inl (cy 0, n_cells, .inl (f_cells)))] res) [.ref a, .int (x1), .int (x2)].toArray s 0 0 A) (F0 m 2 ls []) := by
    intro n2
    induction n2 with
    | zero =>
      intro y1 y2 y3 H locs ls hP hD hS hl h
      cases (id h : (none : Option (Int32)) = some _)
    | succ n2 ih2 =>
      intro y1 y2 y3 H locs ls hP hD hS hl h
      rw [f_X3_ranked_L2] at h
      refine lv_iload_n hx hb dX3_ranked_2 rfl (lv_at hl 3 rfl) ?_
      refine lv_aload_n hx hb dX3_ranked_3 rfl (lv_at hl 0 rfl) ?_
      refine va_get (D := D) (ci := 3) (v := .int (v_size)) (C := RX3) (T := TX3) (N := 3) hx hb hts hinX3 hown hK.1 hP 0 rfl rfl 2 (by decide) (hts (.fieldLink RX3 9 "FrameWalks$Table" "size" "I") (List.mem_of_getElem? (i := 1) rfl)) (fun _ h9 => h9) rfl dX3_ranked_4 ?_
      refine lv_icmp_ge (tgt := 28) hx hb dX3_ranked_7 (by decide) (fun c_13 => ?_) (fun c_13 => ?_)
      · have h := ift c_13 h
        refine lv_bipush (v := (-4 : Int32)) hx hb dX3_ranked_28 (by decide) ?_
        have e0 := Option.some.inj h
        exact Mi.ret' hx hb hr hlocks e0 rfl hP hD hS dX3_ranked_30
      · have h := ifn c_13 h
        refine lv_aload_n hx hb dX3_ranked_10 rfl (lv_at hl 0 rfl) ?_
        refine lv_iload_n hx hb dX3_ranked_11 rfl (lv_at hl 3 rfl) ?_
        refine lv_iload_n hx hb dX3_ranked_12 rfl (lv_at hl 2 rfl) ?_
        obtain ⟨r_14, hc_16, h⟩ := bn1_s h
        refine call_i (ws1 := [(a, .inr (3, [.int (v_width), .ref a_cells, .int (v_size)])), (a_cells, .inl (cy 0, n_cells, .inl (f_cells)))]) (wr := []) (run_V ⟨hx, hb, hml, hown, hts⟩ ((c_X3_rankOf l D cy a a_cells (v_width) (v_size) n_cells (f_cells) (y3) (y2) r_14 hc_16) H.size) (cwV 2 hts gX3_ranked_X3_rankOf rfl rfl rfl hd_X3_rankOf ⟨Nat.le_of_ble_eq_true rfl, Nat.le_of_ble_eq_true rfl⟩) KK.calling (fun U _ hW => hK.warm hW) hK.1 hP hD [0, 1] [] [0, 1] rfl rfl 0 3 rfl rfl rfl rfl hl.1 rfl (lv_room (Nat.le_of_ble_eq_true rfl)) dX3_ranked_13) hP hD hS hA [0, 1] [] [0, 1] rfl rfl rfl rfl (fun H locs hP hD hS => ?_)
        refine lv_iload_n hx hb dX3_ranked_16 rfl (lv_at hl 1 rfl) ?_
        refine lv_icmp_ne (tgt := 22) hx hb dX3_ranked_17 (by decide) (fun c_15 => ?_) (fun c_15 => ?_)
        · have h := ifn c_15 h
          refine lv_iinc (v := y3 + (1 : Int32)) (lv' := [(3, .int (y3 + (1 : Int32))), (0, .ref a), (1, .int (y1)), (2, .int (y2))]) hx hb dX3_ranked_22 hl (k := 3) rfl rfl (by decide) rfl (fun ls hl => ?_)
          refine lv_goto (tgt := 2) hx hb dX3_ranked_25 (by decide) ?_
          exact ih2 (y1) (y2) (y3 + (1 : Int32)) H locs ls hP hD hS (lv_sub hl [1, 2, 3, 0] rfl) h
        · have h := ift c_15 h
          refine lv_iload_n hx hb dX3_ranked_20 rfl (lv_at hl 3 rfl) ?_
          have e0 := Option.some.inj h
          exact Mi.ret' hx hb hr hlocks e0 rfl hP hD hS dX3_ranked_21
  have main : ∀ (H : Heap) (locs : List Loc) (ls : Array Slot), va_P D vwCl [(a, .inr (3, [.int (v_width), .ref a_cells, .int (v_size)])), (a_cells, .inl (cy 0, n_cells, .inl (f_cells)))] H → va_D A [(a, .inr (3, [.int (v_width), .ref a_cells, .int (v_size)])), (a_cells, .inl (cy 0, n_cells, .inl (f_cells)))] → va_S A s.heap H locs → lv_has ls 4 [(0, .ref a), (1, .int (x1)), (2, .int (x2))] → f_X3_ranked x1 x2 v_width v_size n_cells f_cells = some res → W p l e ({ frames := 2, cells := 0, slots := 0, locals := 47 } : Room) s m [.ref a, .int (x1), .int (x2)].toArray below meth c H locs 0 0 (MQ below (Qi D A [(a, .inr (3, [.int (v_width), .ref a_cells, .int (v_size)])), (a_cells, .inl (cy 0, n_cells, .inl (f_cells)))] res) [.ref a, .int (x1), .int (x2)].toArray s 0 0 A) (F0 m 0 ls []) := by
    intro H locs ls hP hD hS hl h
    unfold f_X3_ranked at h
    refine lv_iconst (v := (0 : Int32)) hx hb dX3_ranked_0 (by decide) ?_
    refine lv_istore_n (lv' := [(3, .int ((0 : Int32))), (0, .ref a), (1, .int (x1)), (2, .int (x2))]) hx hb dX3_ranked_1 rfl hl (by decide) rfl (fun ls hl => ?_)
    exact hL2 FUEL (x1) (x2) ((0 : Int32)) H locs ls hP hD hS (lv_sub hl [1, 2, 3, 0] rfl) h
  exact main s.heap [] ls hP hD va_S.rf hl h
theorem hd_X6_clearTables : yX6_clearTables.cls = RX6 ∧ yX6_clearTables.cls ≠ "java/lang/invoke/MethodHandle" ∧ yX6_clearTables.cls ≠ "java/lang/invoke/VarHandle" ∧ (parseMethodDescriptor yX6_clearTables.desc).map (fun d => d.parameters.length) = some 0 := by decide +kernel
def f_X6_clearTables (v_routines_size : Int32) (v_ops_size : Int32) (v_landings_size : Int32) (v_calls_size : Int32) : Option (Int32 × Int32 × Int32 × Int32) := (some ((0 : Int32), (0 : Int32), (0 : Int32), (0 : Int32)))
set_option maxHeartbeats 4000000 in
set_option maxRecDepth 100000 in
theorem c_X6_clearTables (l : Launch) (D : va_G) (cy : Nat → ClassId) (a a_routines a_ops a_landings a_calls a_registers a_words a_routines_cells a_ops_cells a_landings_cells a_calls_cells : Nat) (v_routines_width : Int32) (v_routines_size : Int32) (v_ops_width : Int32) (v_ops_size : Int32) (v_landings_width : Int32) (v_landings_size : Int32) (v_calls_width : Int32) (v_calls_size : Int32) (z_v_routines_size : Int32) (z_v_ops_size : Int32) (z_v_landings_size : Int32) (z_v_calls_size : Int32) (h : f_X6_clearTables v_routines_size v_ops_size v_landings_size v_calls_size = some (z_v_routines_size, z_v_ops_size, z_v_landings_size, z_v_calls_size)) : Mv l yX6_clearTables wsX6_clearTables ({ frames := 0, cells := 0, slots := 0, locals := 0 } : Room) (KK D cy) D [.ref a] [(a, .inr (6, [.ref a_routines, .ref a_ops, .ref a_landings, .ref a_calls, .ref a_registers, .ref a_words])), (a_routines, .inr (3, [.int (v_routines_width), .ref a_routines_cells, .int (v_routines_size)])), (a_ops, .inr (3, [.int (v_ops_width), .ref a_ops_cells, .int (v_ops_size)])), (a_landings, .inr (3, [.int (v_landings_width), .ref a_landings_cells, .int (v_landings_size)])), (a_calls, .inr (3, [.int (v_calls_width), .ref a_calls_cells, .int (v_calls_size)]))] [(a, .inr (6, [.ref a_routines, .ref a_ops, .ref a_landings, .ref a_calls, .ref a_registers, .ref a_words])), (a_routines, .inr (3, [.int (v_routines_width), .ref a_routines_cells, .int (z_v_routines_size)])), (a_ops, .inr (3, [.int (v_ops_width), .ref a_ops_cells, .int (z_v_ops_size)])), (a_landings, .inr (3, [.int (v_landings_width), .ref a_landings_cells, .int (z_v_landings_size)])), (a_calls, .inr (3, [.int (v_calls_width), .ref a_calls_cells, .int (z_v_calls_size)]))] := by
  intro sz
  refine Met.mk0 (cc := cX6_clearTables) (maxL := 1) (ret := none) (Qc := fun A => Qv D A [(a, .inr (6, [.ref a_routines, .ref a_ops, .ref a_landings, .ref a_calls, .ref a_registers, .ref a_words])), (a_routines, .inr (3, [.int (v_routines_width), .ref a_routines_cells, .int (z_v_routines_size)])), (a_ops, .inr (3, [.int (v_ops_width), .ref a_ops_cells, .int (z_v_ops_size)])), (a_landings, .inr (3, [.int (v_landings_width), .ref a_landings_cells, .int (z_v_landings_size)])), (a_calls, .inr (3, [.int (v_calls_width), .ref a_calls_cells, .int (z_v_calls_size)]))]) (by decide) rfl (Nat.le_of_ble_eq_true rfl) ?_
  intro p e s m below meth c A ls hx hb hml hown hts hr hlocks hK hP hD hA hl
  have hown : s.vm.findClass RX6 = some m.cls := hown
  have hl : lv_has ls 1 [(0, .ref a)] := hl
  have hinX6 : ∀ w ∈ u_ws RX6 TX6 6, w ∈ wsX6_clearTables := (fun w h => List.mem_cons_of_mem _ (List.mem_append_left _ (List.mem_append_right _ h)))
  have hinX3 : ∀ w ∈ u_ws RX3 TX3 3, w ∈ wsX6_clearTables := (fun w h => List.mem_cons_of_mem _ (List.mem_append_right _ h))
  have main : ∀ (H : Heap) (locs : List Loc) (ls : Array Slot), va_P D vwCl [(a, .inr (6, [.ref a_routines, .ref a_ops, .ref a_landings, .ref a_calls, .ref a_registers, .ref a_words])), (a_routines, .inr (3, [.int (v_routines_width), .ref a_routines_cells, .int (v_routines_size)])), (a_ops, .inr (3, [.int (v_ops_width), .ref a_ops_cells, .int (v_ops_size)])), (a_landings, .inr (3, [.int (v_landings_width), .ref a_landings_cells, .int (v_landings_size)])), (a_calls, .inr (3, [.int (v_calls_width), .ref a_calls_cells, .int (v_calls_size)]))] H → va_D A [(a, .inr (6, [.ref a_routines, .ref a_ops, .ref a_landings, .ref a_calls, .ref a_registers, .ref a_words])), (a_routines, .inr (3, [.int (v_routines_width), .ref a_routines_cells, .int (v_routines_size)])), (a_ops, .inr (3, [.int (v_ops_width), .ref a_ops_cells, .int (v_ops_size)])), (a_landings, .inr (3, [.int (v_landings_width), .ref a_landings_cells, .int (v_landings_size)])), (a_calls, .inr (3, [.int (v_calls_width), .ref a_calls_cells, .int (v_calls_size)]))] → va_S A s.heap H locs → lv_has ls 1 [(0, .ref a)] → f_X6_clearTables v_routines_size v_ops_size v_landings_size v_calls_size = some (z_v_routines_size, z_v_ops_size, z_v_landings_size, z_v_calls_size) → W p l e ({ frames := 0, cells := 0, slots := 0, locals := 0 } : Room) s m [.ref a].toArray below meth c H locs 0 0 (MQ below (Qv D A [(a, .inr (6, [.ref a_routines, .ref a_ops, .ref a_landings, .ref a_calls, .ref a_registers, .ref a_words])), (a_routines, .inr (3, [.int (v_routines_width), .ref a_routines_cells, .int (z_v_routines_size)])), (a_ops, .inr (3, [.int (v_ops_width), .ref a_ops_cells, .int (z_v_ops_size)])), (a_landings, .inr (3, [.int (v_landings_width), .ref a_landings_cells, .int (z_v_landings_size)])), (a_calls, .inr (3, [.int (v_calls_width), .ref a_calls_cells, .int (z_v_calls_size)]))]) [.ref a].toArray s 0 0 A) (F0 m 0 ls []) := by
    intro H locs ls hP hD hS hl h
    unfold f_X6_clearTables at h
    refine lv_aload_n hx hb dX6_clearTables_0 rfl (lv_at hl 0 rfl) ?_
    refine va_get (D := D) (ci := 6) (v := .ref a_routines) (C := RX6) (T := TX6) (N := 6) hx hb hts hinX6 hown hK.1 hP 0 rfl rfl 0 (by decide) (hts (.fieldLink RX6 14 "FrameWalks$World" "routines" "LFrameWalks$Table;") (List.mem_of_getElem? (i := 1) rfl)) (fun _ h9 => h9) rfl dX6_clearTables_1 ?_
    refine lv_iconst (v := (0 : Int32)) hx hb dX6_clearTables_4 (by decide) ?_
    refine va_putN (D := D) (ci := 3) (v := .int ((0 : Int32))) (ty := .int) (C := RX3) (T := TX3) (N := 3) hx hb hts hinX3 tyX3 tyX3_ok nmX3 hown hK.1 hP hD hS 1 rfl rfl 2 (by decide) ((hK.2.1 _ (List.mem_of_getElem? (i := 0) rfl)).use rfl) (fun _ h9 => h9) rfl (by decide +kernel) rfl rfl (Nat.le_of_ble_eq_true rfl) dX6_clearTables_5 (fun H locs hP hD hS => ?_)
    have hP : va_P D vwCl [(a, .inr (6, [.ref a_routines, .ref a_ops, .ref a_landings, .ref a_calls, .ref a_registers, .ref a_words])), (a_routines, .inr (3, [.int (v_routines_width), .ref a_routines_cells, .int ((0 : Int32))])), (a_ops, .inr (3, [.int (v_ops_width), .ref a_ops_cells, .int (v_ops_size)])), (a_landings, .inr (3, [.int (v_landings_width), .ref a_landings_cells, .int (v_landings_size)])), (a_calls, .inr (3, [.int (v_calls_width), .ref a_calls_cells, .int (v_calls_size)]))] H := hP
    have hD : va_D A [(a, .inr (6, [.ref a_routines, .ref a_ops, .ref a_landings, .ref a_calls, .ref a_registers, .ref a_words])), (a_routines, .inr (3, [.int (v_routines_width), .ref a_routines_cells, .int ((0 : Int32))])), (a_ops, .inr (3, [.int (v_ops_width), .ref a_ops_cells, .int (v_ops_size)])), (a_landings, .inr (3, [.int (v_landings_width), .ref a_landings_cells, .int (v_landings_size)])), (a_calls, .inr (3, [.int (v_calls_width), .ref a_calls_cells, .int (v_calls_size)]))] := hD
    refine lv_aload_n hx hb dX6_clearTables_8 rfl (lv_at hl 0 rfl) ?_
    refine va_get (D := D) (ci := 6) (v := .ref a_ops) (C := RX6) (T := TX6) (N := 6) hx hb hts hinX6 hown hK.1 hP 0 rfl rfl 1 (by decide) (hts (.fieldLink RX6 20 "FrameWalks$World" "ops" "LFrameWalks$Table;") (List.mem_of_getElem? (i := 2) rfl)) (fun _ h9 => h9) rfl dX6_clearTables_9 ?_
    refine lv_iconst (v := (0 : Int32)) hx hb dX6_clearTables_12 (by decide) ?_
    refine va_putN (D := D) (ci := 3) (v := .int ((0 : Int32))) (ty := .int) (C := RX3) (T := TX3) (N := 3) hx hb hts hinX3 tyX3 tyX3_ok nmX3 hown hK.1 hP hD hS 2 rfl rfl 2 (by decide) ((hK.2.1 _ (List.mem_of_getElem? (i := 0) rfl)).use rfl) (fun _ h9 => h9) rfl (by decide +kernel) rfl rfl (Nat.le_of_ble_eq_true rfl) dX6_clearTables_13 (fun H locs hP hD hS => ?_)
    have hP : va_P D vwCl [(a, .inr (6, [.ref a_routines, .ref a_ops, .ref a_landings, .ref a_calls, .ref a_registers, .ref a_words])), (a_routines, .inr (3, [.int (v_routines_width), .ref a_routines_cells, .int ((0 : Int32))])), (a_ops, .inr (3, [.int (v_ops_width), .ref a_ops_cells, .int ((0 : Int32))])), (a_landings, .inr (3, [.int (v_landings_width), .ref a_landings_cells, .int (v_landings_size)])), (a_calls, .inr (3, [.int (v_calls_width), .ref a_calls_cells, .int (v_calls_size)]))] H := hP
    have hD : va_D A [(a, .inr (6, [.ref a_routines, .ref a_ops, .ref a_landings, .ref a_calls, .ref a_registers, .ref a_words])), (a_routines, .inr (3, [.int (v_routines_width), .ref a_routines_cells, .int ((0 : Int32))])), (a_ops, .inr (3, [.int (v_ops_width), .ref a_ops_cells, .int ((0 : Int32))])), (a_landings, .inr (3, [.int (v_landings_width), .ref a_landings_cells, .int (v_landings_size)])), (a_calls, .inr (3, [.int (v_calls_width), .ref a_calls_cells, .int (v_calls_size)]))] := hD
    refine lv_aload_n hx hb dX6_clearTables_16 rfl (lv_at hl 0 rfl) ?_
    refine va_get (D := D) (ci := 6) (v := .ref a_landings) (C := RX6) (T := TX6) (N := 6) hx hb hts hinX6 hown hK.1 hP 0 rfl rfl 2 (by decide) (hts (.fieldLink RX6 23 "FrameWalks$World" "landings" "LFrameWalks$Table;") (List.mem_of_getElem? (i := 3) rfl)) (fun _ h9 => h9) rfl dX6_clearTables_17 ?_
    refine lv_iconst (v := (0 : Int32)) hx hb dX6_clearTables_20 (by decide) ?_
    refine va_putN (D := D) (ci := 3) (v := .int ((0 : Int32))) (ty := .int) (C := RX3) (T := TX3) (N := 3) hx hb hts hinX3 tyX3 tyX3_ok nmX3 hown hK.1 hP hD hS 3 rfl rfl 2 (by decide) ((hK.2.1 _ (List.mem_of_getElem? (i := 0) rfl)).use rfl) (fun _ h9 => h9) rfl (by decide +kernel) rfl rfl (Nat.le_of_ble_eq_true rfl) dX6_clearTables_21 (fun H locs hP hD hS => ?_)
    have hP : va_P D vwCl [(a, .inr (6, [.ref a_routines, .ref a_ops, .ref a_landings, .ref a_calls, .ref a_registers, .ref a_words])), (a_routines, .inr (3, [.int (v_routines_width), .ref a_routines_cells, .int ((0 : Int32))])), (a_ops, .inr (3, [.int (v_ops_width), .ref a_ops_cells, .int ((0 : Int32))])), (a_landings, .inr (3, [.int (v_landings_width), .ref a_landings_cells, .int ((0 : Int32))])), (a_calls, .inr (3, [.int (v_calls_width), .ref a_calls_cells, .int (v_calls_size)]))] H := hP
    have hD : va_D A [(a, .inr (6, [.ref a_routines, .ref a_ops, .ref a_landings, .ref a_calls, .ref a_registers, .ref a_words])), (a_routines, .inr (3, [.int (v_routines_width), .ref a_routines_cells, .int ((0 : Int32))])), (a_ops, .inr (3, [.int (v_ops_width), .ref a_ops_cells, .int ((0 : Int32))])), (a_landings, .inr (3, [.int (v_landings_width), .ref a_landings_cells, .int ((0 : Int32))])), (a_calls, .inr (3, [.int (v_calls_width), .ref a_calls_cells, .int (v_calls_size)]))] := hD
    refine lv_aload_n hx hb dX6_clearTables_24 rfl (lv_at hl 0 rfl) ?_
    refine va_get (D := D) (ci := 6) (v := .ref a_calls) (C := RX6) (T := TX6) (N := 6) hx hb hts hinX6 hown hK.1 hP 0 rfl rfl 3 (by decide) (hts (.fieldLink RX6 26 "FrameWalks$World" "calls" "LFrameWalks$Table;") (List.mem_of_getElem? (i := 4) rfl)) (fun _ h9 => h9) rfl dX6_clearTables_25 ?_
    refine lv_iconst (v := (0 : Int32)) hx hb dX6_clearTables_28 (by decide) ?_
    refine va_putN (D := D) (ci := 3) (v := .int ((0 : Int32))) (ty := .int) (C := RX3) (T := TX3) (N := 3) hx hb hts hinX3 tyX3 tyX3_ok nmX3 hown hK.1 hP hD hS 4 rfl rfl 2 (by decide) ((hK.2.1 _ (List.mem_of_getElem? (i := 0) rfl)).use rfl) (fun _ h9 => h9) rfl (by decide +kernel) rfl rfl (Nat.le_of_ble_eq_true rfl) dX6_clearTables_29 (fun H locs hP hD hS => ?_)
    have hP : va_P D vwCl [(a, .inr (6, [.ref a_routines, .ref a_ops, .ref a_landings, .ref a_calls, .ref a_registers, .ref a_words])), (a_routines, .inr (3, [.int (v_routines_width), .ref a_routines_cells, .int ((0 : Int32))])), (a_ops, .inr (3, [.int (v_ops_width), .ref a_ops_cells, .int ((0 : Int32))])), (a_landings, .inr (3, [.int (v_landings_width), .ref a_landings_cells, .int ((0 : Int32))])), (a_calls, .inr (3, [.int (v_calls_width), .ref a_calls_cells, .int ((0 : Int32))]))] H := hP
    have hD : va_D A [(a, .inr (6, [.ref a_routines, .ref a_ops, .ref a_landings, .ref a_calls, .ref a_registers, .ref a_words])), (a_routines, .inr (3, [.int (v_routines_width), .ref a_routines_cells, .int ((0 : Int32))])), (a_ops, .inr (3, [.int (v_ops_width), .ref a_ops_cells, .int ((0 : Int32))])), (a_landings, .inr (3, [.int (v_landings_width), .ref a_landings_cells, .int ((0 : Int32))])), (a_calls, .inr (3, [.int (v_calls_width), .ref a_calls_cells, .int ((0 : Int32))]))] := hD
    obtain ⟨e0, e1, e2, e3⟩ := tp4_s h
    exact Mv.ret' hx hb hr hlocks (by rw [← e0, ← e1, ← e2, ← e3]) hP hD hS dX6_clearTables_32
  exact main s.heap [] ls hP hD va_S.rf hl h
theorem hd_X6_sharesAddresses : yX6_sharesAddresses.cls = RX6 ∧ yX6_sharesAddresses.cls ≠ "java/lang/invoke/MethodHandle" ∧ yX6_sharesAddresses.cls ≠ "java/lang/invoke/VarHandle" ∧ (parseMethodDescriptor yX6_sharesAddresses.desc).map (fun d => d.parameters.length) = some 0 := by decide +kernel
def f_X6_sharesAddresses_L15 (v_routines_width : Int32) (v_routines_size : Int32) (f_routines_cells : Nat → Int32) (k2 : Int32 → Option (Int32)) : Nat → Int32 → Int32 → Option (Int32)
  | 0, _, _ => none
  | n + 1, y1, y2 => (if y1 ≤ y2 then (k2 (y1 + (1 : Int32))) else (bn1 (f_X3_at (y1) ((0 : Int32)) (v_routines_width) (v_routines_size) 24 (f_routines_cells)) (fun r_29 => (bn1 (f_X3_at (y1) ((1 : Int32)) (v_routines_width) (v_routines_size) 24 (f_routines_cells)) (fun r_30 => (bn1 (f_X6_meets (y2) (r_29) (r_30) (v_routines_width) (v_routines_size) (f_routines_cells)) (fun r_31 => (if r_31 = 0 then ((f_X6_sharesAddresses_L15 v_routines_width v_routines_size f_routines_cells k2 n) (y1) (y2 + (1 : Int32))) else (some ((1 : Int32)))))))))))
def f_X6_sharesAddresses_L2 (v_routines_width : Int32) (v_routines_size : Int32) (f_routines_cells : Nat → Int32) : Nat → Int32 → Option (Int32)
  | 0, _ => none
  | n + 1, y1 => (if v_routines_size ≤ y1 then (some ((0 : Int32))) else (f_X6_sharesAddresses_L15 v_routines_width v_routines_size f_routines_cells (f_X6_sharesAddresses_L2 v_routines_width v_routines_size f_routines_cells  n) FUEL (y1) ((0 : Int32))))
def f_X6_sharesAddresses (v_routines_width : Int32) (v_routines_size : Int32) (f_routines_cells : Nat → Int32) : Option (Int32) := (f_X6_sharesAddresses_L2 v_routines_width v_routines_size f_routines_cells  FUEL ((0 : Int32)))
set_option maxHeartbeats 4000000 in
set_option maxRecDepth 100000 in
theorem c_X6_sharesAddresses (l : Launch) (D : va_G) (cy : Nat → ClassId) (a a_routines a_ops a_landings a_calls a_registers a_words a_routines_cells : Nat) (v_routines_width : Int32) (v_routines_size : Int32) (f_routines_cells : Nat → Int32) (res : Int32) (h : f_X6_sharesAddresses v_routines_width v_routines_size f_routines_cells = some res) : Mi l yX6_sharesAddresses wsX6_sharesAddresses ({ frames := 2, cells := 0, slots := 0, locals := 45 } : Room) (KK D cy) D [.ref a] [(a, .inr (6, [.ref a_routines, .ref a_ops, .ref a_landings, .ref a_calls, .ref a_registers, .ref a_words])), (a_routines, .inr (3, [.int (v_routines_width), .ref a_routines_cells, .int (v_routines_size)])), (a_routines_cells, .inl (cy 0, 24, .inl (f_routines_cells)))] [(a, .inr (6, [.ref a_routines, .ref a_ops, .ref a_landings, .ref a_calls, .ref a_registers, .ref a_words])), (a_routines, .inr (3, [.int (v_routines_width), .ref a_routines_cells, .int (v_routines_size)])), (a_routines_cells, .inl (cy 0, 24, .inl (f_routines_cells)))] res := by
  intro sz
  refine Met.mk0 (cc := cX6_sharesAddresses) (maxL := 3) (ret := (some .boolean)) (Qc := fun A => Qi D A [(a, .inr (6, [.ref a_routines, .ref a_ops, .ref a_landings, .ref a_calls, .ref a_registers, .ref a_words])), (a_routines, .inr (3, [.int (v_routines_width), .ref a_routines_cells, .int (v_routines_size)])), (a_routines_cells, .inl (cy 0, 24, .inl (f_routines_cells)))] res) (by decide) rfl (Nat.le_of_ble_eq_true rfl) ?_
  intro p e s m below meth c A ls hx hb hml hown hts hr hlocks hK hP hD hA hl
  have hown : s.vm.findClass RX6 = some m.cls := hown
  have hl : lv_has ls 3 [(0, .ref a)] := hl
  have hinX6 : ∀ w ∈ u_ws RX6 TX6 6, w ∈ wsX6_sharesAddresses := (fun w h => List.mem_cons_of_mem _ (List.mem_append_left _ (List.mem_append_right _ h)))
  have hinX3 : ∀ w ∈ u_ws RX3 TX3 3, w ∈ wsX6_sharesAddresses := (fun w h => List.mem_cons_of_mem _ (List.mem_append_right _ h))
  have hL2 : ∀ (n2 : Nat) (y1 : Int32) (H : Heap) (locs : List Loc) (ls : Array Slot), va_P D vwCl [(a, .inr (6, [.ref a_routines, .ref a_ops, .ref a_landings, .ref a_calls, .ref a_registers, .ref a_words])), (a_routines, .inr (3, [.int (v_routines_width), .ref a_routines_cells, .int (v_routines_size)])), (a_routines_cells, .inl (cy 0, 24, .inl (f_routines_cells)))] H → va_D A [(a, .inr (6, [.ref a_routines, .ref a_ops, .ref a_landings, .ref a_calls, .ref a_registers, .ref a_words])), (a_routines, .inr (3, [.int (v_routines_width), .ref a_routines_cells, .int (v_routines_size)])), (a_routines_cells, .inl (cy 0, 24, .inl (f_routines_cells)))] → va_S A s.heap H locs → lv_has ls 3 [(0, .ref a), (1, .int (y1))] → f_X6_sharesAddresses_L2 v_routines_width v_routines_size f_routines_cells  n2 y1 = some res → W p l e ({ frames := 2, cells := 0, slots := 0, locals := 45 } : Room) s m [.ref a].toArray below meth c H locs 0 0 (MQ below (Qi D A [(a, .inr (6, [.ref a_routines, .ref a_ops, .ref a_landings, .ref a_calls, .ref a_registers, .ref a_words])), (a_routines, .inr (3, [.int (v_routines_width), .ref a_routines_cells, .int (v_routines_size)])), (a_routines_cells, .inl (cy 0, 24, .inl (f_routines_cells)))] res) [.ref a].toArray s 0 0 A) (F0 m 2 ls []) := by
    intro n2
    induction n2 with
    | zero =>
      intro y1 H locs ls hP hD hS hl h
      cases (id h : (none : Option (Int32)) = some _)
    | succ n2 ih2 =>
      have hL15 : ∀ (n15 : Nat) (y1 : Int32) (y2 : Int32) (H : Heap) (locs : List Loc) (ls : Array Slot), va_P D vwCl [(a, .inr (6, [.ref a_routines, .ref a_ops, .ref a_landings, .ref a_calls, .ref a_registers, .ref a_words])), (a_routines, .inr (3, [.int (v_routines_width), .ref a_routines_cells, .int (v_routines_size)])), (a_routines_cells, .inl (cy 0, 24, .inl (f_routines_cells)))] H → va_D A [(a, .inr (6, [.ref a_routines, .ref a_ops, .ref a_landings, .ref a_calls, .ref a_registers, .ref a_words])), (a_routines, .inr (3, [.int (v_routines_width), .ref a_routines_cells, .int (v_routines_size)])), (a_routines_cells, .inl (cy 0, 24, .inl (f_routines_cells)))] → va_S A s.heap H locs → lv_has ls 3 [(0, .ref a), (1, .int (y1)), (2, .int (y2))] → f_X6_sharesAddresses_L15 v_routines_width v_routines_size f_routines_cells (f_X6_sharesAddresses_L2 v_routines_width v_routines_size f_routines_cells  n2) n15 y1 y2 = some res → W p l e ({ frames := 2, cells := 0, slots := 0, locals := 45 } : Room) s m [.ref a].toArray below meth c H locs 0 0 (MQ below (Qi D A [(a, .inr (6, [.ref a_routines, .ref a_ops, .ref a_landings, .ref a_calls, .ref a_registers, .ref a_words])), (a_routines, .inr (3, [.int (v_routines_width), .ref a_routines_cells, .int (v_routines_size)])), (a_routines_cells, .inl (cy 0, 24, .inl (f_routines_cells)))] res) [.ref a].toArray s 0 0 A) (F0 m 15 ls []) := by
        intro n15
        induction n15 with
        | zero =>
          intro y1 y2 H locs ls hP hD hS hl h
          cases (id h : (none : Option (Int32)) = some _)
        | succ n15 ih15 =>
          intro y1 y2 H locs ls hP hD hS hl h
          rw [f_X6_sharesAddresses_L15] at h
          refine lv_iload_n hx hb dX6_sharesAddresses_15 rfl (lv_at hl 2 rfl) ?_
          refine lv_iload_n hx hb dX6_sharesAddresses_16 rfl (lv_at hl 1 rfl) ?_
          refine lv_icmp_ge (tgt := 54) hx hb dX6_sharesAddresses_17 (by decide) (fun c_28 => ?_) (fun c_28 => ?_)
          · have h := ift c_28 h
            refine lv_iinc (v := y1 + (1 : Int32)) (lv' := [(1, .int (y1 + (1 : Int32))), (0, .ref a), (2, .int (y2))]) hx hb dX6_sharesAddresses_54 hl (k := 1) rfl rfl (by decide) rfl (fun ls hl => ?_)
            refine lv_goto (tgt := 2) hx hb dX6_sharesAddresses_57 (by decide) ?_
            exact ih2 (y1 + (1 : Int32)) H locs ls hP hD hS (lv_sub hl [1, 0] rfl) h
          · have h := ifn c_28 h
            refine lv_aload_n hx hb dX6_sharesAddresses_20 rfl (lv_at hl 0 rfl) ?_
            refine lv_iload_n hx hb dX6_sharesAddresses_21 rfl (lv_at hl 2 rfl) ?_
            refine lv_aload_n hx hb dX6_sharesAddresses_22 rfl (lv_at hl 0 rfl) ?_
            refine va_get (D := D) (ci := 6) (v := .ref a_routines) (C := RX6) (T := TX6) (N := 6) hx hb hts hinX6 hown hK.1 hP 0 rfl rfl 0 (by decide) (hts (.fieldLink RX6 14 "FrameWalks$World" "routines" "LFrameWalks$Table;") (List.mem_of_getElem? (i := 1) rfl)) (fun _ h9 => h9) rfl dX6_sharesAddresses_23 ?_
            refine lv_iload_n hx hb dX6_sharesAddresses_26 rfl (lv_at hl 1 rfl) ?_
            refine lv_iconst (v := (0 : Int32)) hx hb dX6_sharesAddresses_27 (by decide) ?_
            obtain ⟨r_29, hc_35, h⟩ := bn1_s h
            refine call_i (ws1 := [(a, .inr (6, [.ref a_routines, .ref a_ops, .ref a_landings, .ref a_calls, .ref a_registers, .ref a_words])), (a_routines, .inr (3, [.int (v_routines_width), .ref a_routines_cells, .int (v_routines_size)])), (a_routines_cells, .inl (cy 0, 24, .inl (f_routines_cells)))]) (wr := [(a, .inr (6, [.ref a_routines, .ref a_ops, .ref a_landings, .ref a_calls, .ref a_registers, .ref a_words]))]) (run_V ⟨hx, hb, hml, hown, hts⟩ ((c_X3_at l D cy a_routines a_routines_cells (v_routines_width) (v_routines_size) 24 (f_routines_cells) (y1) ((0 : Int32)) r_29 hc_35) H.size) (cwV 2 hts gX6_sharesAddresses_X3_at rfl rfl rfl hd_X3_at ⟨Nat.le_of_ble_eq_true rfl, Nat.le_of_ble_eq_true rfl⟩) KK.calling (fun U _ hW => hK.warm hW) hK.1 hP hD [1, 2] [0] [0, 1, 2] rfl rfl 1 3 rfl rfl rfl rfl hl.1 rfl (lv_room (Nat.le_of_ble_eq_true rfl)) dX6_sharesAddresses_28) hP hD hS hA [1, 2] [0] [0, 1, 2] rfl rfl rfl rfl (fun H locs hP hD hS => ?_)
            refine lv_aload_n hx hb dX6_sharesAddresses_31 rfl (lv_at hl 0 rfl) ?_
            refine va_get (D := D) (ci := 6) (v := .ref a_routines) (C := RX6) (T := TX6) (N := 6) hx hb hts hinX6 hown hK.1 hP 0 rfl rfl 0 (by decide) (hts (.fieldLink RX6 14 "FrameWalks$World" "routines" "LFrameWalks$Table;") (List.mem_of_getElem? (i := 1) rfl)) (fun _ h9 => h9) rfl dX6_sharesAddresses_32 ?_
            refine lv_iload_n hx hb dX6_sharesAddresses_35 rfl (lv_at hl 1 rfl) ?_
            refine lv_iconst (v := (1 : Int32)) hx hb dX6_sharesAddresses_36 (by decide) ?_
            obtain ⟨r_30, hc_34, h⟩ := bn1_s h
            refine call_i (ws1 := [(a, .inr (6, [.ref a_routines, .ref a_ops, .ref a_landings, .ref a_calls, .ref a_registers, .ref a_words])), (a_routines, .inr (3, [.int (v_routines_width), .ref a_routines_cells, .int (v_routines_size)])), (a_routines_cells, .inl (cy 0, 24, .inl (f_routines_cells)))]) (wr := [(a, .inr (6, [.ref a_routines, .ref a_ops, .ref a_landings, .ref a_calls, .ref a_registers, .ref a_words]))]) (run_V ⟨hx, hb, hml, hown, hts⟩ ((c_X3_at l D cy a_routines a_routines_cells (v_routines_width) (v_routines_size) 24 (f_routines_cells) (y1) ((1 : Int32)) r_30 hc_34) H.size) (cwV 2 hts gX6_sharesAddresses_X3_at rfl rfl rfl hd_X3_at ⟨Nat.le_of_ble_eq_true rfl, Nat.le_of_ble_eq_true rfl⟩) KK.calling (fun U _ hW => hK.warm hW) hK.1 hP hD [1, 2] [0] [0, 1, 2] rfl rfl 1 3 rfl rfl rfl rfl hl.1 rfl (lv_room (Nat.le_of_ble_eq_true rfl)) dX6_sharesAddresses_37) hP hD hS hA [1, 2] [0] [0, 1, 2] rfl rfl rfl rfl (fun H locs hP hD hS => ?_)
            obtain ⟨r_31, hc_33, h⟩ := bn1_s h
            refine call_i (ws1 := [(a, .inr (6, [.ref a_routines, .ref a_ops, .ref a_landings, .ref a_calls, .ref a_registers, .ref a_words])), (a_routines, .inr (3, [.int (v_routines_width), .ref a_routines_cells, .int (v_routines_size)])), (a_routines_cells, .inl (cy 0, 24, .inl (f_routines_cells)))]) (wr := []) (run_V ⟨hx, hb, hml, hown, hts⟩ ((c_X6_meets l D cy a a_routines a_ops a_landings a_calls a_registers a_words a_routines_cells (v_routines_width) (v_routines_size) (f_routines_cells) (y2) (r_29) (r_30) r_31 hc_33) H.size) (cwV 3 hts gX6_sharesAddresses_X6_meets rfl rfl rfl hd_X6_meets ⟨Nat.le_of_ble_eq_true rfl, Nat.le_of_ble_eq_true rfl⟩) KK.calling (fun U _ hW => hK.warm hW) hK.1 hP hD [0, 1, 2] [] [0, 1, 2] rfl rfl 0 6 rfl rfl rfl rfl hl.1 rfl (lv_room (Nat.le_of_ble_eq_true rfl)) dX6_sharesAddresses_40) hP hD hS hA [0, 1, 2] [] [0, 1, 2] rfl rfl rfl rfl (fun H locs hP hD hS => ?_)
            refine lv_if_eq (tgt := 48) hx hb dX6_sharesAddresses_43 (by decide) (fun c_32 => ?_) (fun c_32 => ?_)
            · have h := ift c_32 h
              refine lv_iinc (v := y2 + (1 : Int32)) (lv' := [(2, .int (y2 + (1 : Int32))), (0, .ref a), (1, .int (y1))]) hx hb dX6_sharesAddresses_48 hl (k := 2) rfl rfl (by decide) rfl (fun ls hl => ?_)
              refine lv_goto (tgt := 15) hx hb dX6_sharesAddresses_51 (by decide) ?_
              exact ih15 (y1) (y2 + (1 : Int32)) H locs ls hP hD hS (lv_sub hl [1, 2, 0] rfl) h
            · have h := ifn c_32 h
              refine lv_iconst (v := (1 : Int32)) hx hb dX6_sharesAddresses_46 (by decide) ?_
              have e0 := Option.some.inj h
              exact Mi.retz' hx hb hr hlocks (Or.inr rfl) e0 rfl hP hD hS dX6_sharesAddresses_47
      intro y1 H locs ls hP hD hS hl h
      rw [f_X6_sharesAddresses_L2] at h
      refine lv_iload_n hx hb dX6_sharesAddresses_2 rfl (lv_at hl 1 rfl) ?_
      refine lv_aload_n hx hb dX6_sharesAddresses_3 rfl (lv_at hl 0 rfl) ?_
      refine va_get (D := D) (ci := 6) (v := .ref a_routines) (C := RX6) (T := TX6) (N := 6) hx hb hts hinX6 hown hK.1 hP 0 rfl rfl 0 (by decide) (hts (.fieldLink RX6 14 "FrameWalks$World" "routines" "LFrameWalks$Table;") (List.mem_of_getElem? (i := 1) rfl)) (fun _ h9 => h9) rfl dX6_sharesAddresses_4 ?_
      refine va_getN (D := D) (ci := 3) (v := .int (v_routines_size)) (C := RX3) (T := TX3) (N := 3) hx hb hts hinX3 hown hK.1 hP 1 rfl rfl 2 (by decide) ((hK.2.1 _ (List.mem_of_getElem? (i := 0) rfl)).use rfl) (fun _ h9 => h9) rfl dX6_sharesAddresses_7 ?_
      refine lv_icmp_ge (tgt := 60) hx hb dX6_sharesAddresses_10 (by decide) (fun c_36 => ?_) (fun c_36 => ?_)
      · have h := ift c_36 h
        refine lv_iconst (v := (0 : Int32)) hx hb dX6_sharesAddresses_60 (by decide) ?_
        have e0 := Option.some.inj h
        exact Mi.retz' hx hb hr hlocks (Or.inl rfl) e0 rfl hP hD hS dX6_sharesAddresses_61
      · have h := ifn c_36 h
        refine lv_iconst (v := (0 : Int32)) hx hb dX6_sharesAddresses_13 (by decide) ?_
        refine lv_istore_n (lv' := [(2, .int ((0 : Int32))), (0, .ref a), (1, .int (y1))]) hx hb dX6_sharesAddresses_14 rfl hl (by decide) rfl (fun ls hl => ?_)
        exact hL15 FUEL (y1) ((0 : Int32)) H locs ls hP hD hS (lv_sub hl [1, 2, 0] rfl) h
  have main : ∀ (H : Heap) (locs : List Loc) (ls : Array Slot), va_P D vwCl [(a, .inr (6, [.ref a_routines, .ref a_ops, .ref a_landings, .ref a_calls, .ref a_registers, .ref a_words])), (a_routines, .inr (3, [.int (v_routines_width), .ref a_routines_cells, .int (v_routines_size)])), (a_routines_cells, .inl (cy 0, 24, .inl (f_routines_cells)))] H → va_D A [(a, .inr (6, [.ref a_routines, .ref a_ops, .ref a_landings, .ref a_calls, .ref a_registers, .ref a_words])), (a_routines, .inr (3, [.int (v_routines_width), .ref a_routines_cells, .int (v_routines_size)])), (a_routines_cells, .inl (cy 0, 24, .inl (f_routines_cells)))] → va_S A s.heap H locs → lv_has ls 3 [(0, .ref a)] → f_X6_sharesAddresses v_routines_width v_routines_size f_routines_cells = some res → W p l e ({ frames := 2, cells := 0, slots := 0, locals := 45 } : Room) s m [.ref a].toArray below meth c H locs 0 0 (MQ below (Qi D A [(a, .inr (6, [.ref a_routines, .ref a_ops, .ref a_landings, .ref a_calls, .ref a_registers, .ref a_words])), (a_routines, .inr (3, [.int (v_routines_width), .ref a_routines_cells, .int (v_routines_size)])), (a_routines_cells, .inl (cy 0, 24, .inl (f_routines_cells)))] res) [.ref a].toArray s 0 0 A) (F0 m 0 ls []) := by
    intro H locs ls hP hD hS hl h
    unfold f_X6_sharesAddresses at h
    refine lv_iconst (v := (0 : Int32)) hx hb dX6_sharesAddresses_0 (by decide) ?_
    refine lv_istore_n (lv' := [(1, .int ((0 : Int32))), (0, .ref a)]) hx hb dX6_sharesAddresses_1 rfl hl (by decide) rfl (fun ls hl => ?_)
    exact hL2 FUEL ((0 : Int32)) H locs ls hP hD hS (lv_sub hl [1, 0] rfl) h
  exact main s.heap [] ls hP hD va_S.rf hl h
theorem hd_X6_takeTables : yX6_takeTables.cls = RX6 ∧ yX6_takeTables.cls ≠ "java/lang/invoke/MethodHandle" ∧ yX6_takeTables.cls ≠ "java/lang/invoke/VarHandle" ∧ (parseMethodDescriptor yX6_takeTables.desc).map (fun d => d.parameters.length) = some 1 := by decide +kernel
def f_X6_takeTables (v_routines_size : Int32) (f_routines_cells : Nat → Int32) (v_ops_size : Int32) (f_ops_cells : Nat → Int32) (v_landings_size : Int32) (f_landings_cells : Nat → Int32) (v_calls_size : Int32) (f_calls_cells : Nat → Int32) (vp1_routines_size : Int32) (fp1_routines_cells : Nat → Int32) (vp1_ops_size : Int32) (fp1_ops_cells : Nat → Int32) (vp1_landings_size : Int32) (fp1_landings_cells : Nat → Int32) (vp1_calls_size : Int32) (fp1_calls_cells : Nat → Int32) : Option (Int32 × (Nat → Int32) × Int32 × (Nat → Int32) × Int32 × (Nat → Int32) × Int32 × (Nat → Int32)) := (bn2 (f_X3_takeOver (v_routines_size) 24 (f_routines_cells) (vp1_routines_size) 24 (fp1_routines_cells)) (fun m_37 m_38 => (bn2 (f_X3_takeOver (v_ops_size) 160 (f_ops_cells) (vp1_ops_size) 160 (fp1_ops_cells)) (fun m_39 m_40 => (bn2 (f_X3_takeOver (v_landings_size) 80 (f_landings_cells) (vp1_landings_size) 80 (fp1_landings_cells)) (fun m_41 m_42 => (bn2 (f_X3_takeOver (v_calls_size) 32 (f_calls_cells) (vp1_calls_size) 32 (fp1_calls_cells)) (fun m_43 m_44 => (some (m_37, m_38, m_39, m_40, m_41, m_42, m_43, m_44))))))))))
set_option maxHeartbeats 4000000 in
set_option maxRecDepth 100000 in
theorem c_X6_takeTables (l : Launch) (D : va_G) (cy : Nat → ClassId) (a a_routines a_ops a_landings a_calls a_registers a_words a_routines_cells a_ops_cells a_landings_cells a_calls_cells ap1 ap1_routines ap1_ops ap1_landings ap1_calls ap1_registers ap1_words ap1_routines_cells ap1_ops_cells ap1_landings_cells ap1_calls_cells : Nat) (v_routines_width : Int32) (v_routines_size : Int32) (f_routines_cells : Nat → Int32) (v_ops_width : Int32) (v_ops_size : Int32) (f_ops_cells : Nat → Int32) (v_landings_width : Int32) (v_landings_size : Int32) (f_landings_cells : Nat → Int32) (v_calls_width : Int32) (v_calls_size : Int32) (f_calls_cells : Nat → Int32) (vp1_routines_width : Int32) (vp1_routines_size : Int32) (fp1_routines_cells : Nat → Int32) (vp1_ops_width : Int32) (vp1_ops_size : Int32) (fp1_ops_cells : Nat → Int32) (vp1_landings_width : Int32) (vp1_landings_size : Int32) (fp1_landings_cells : Nat → Int32) (vp1_calls_width : Int32) (vp1_calls_size : Int32) (fp1_calls_cells : Nat → Int32) (z_v_routines_size : Int32) (z_f_routines_cells : Nat → Int32) (z_v_ops_size : Int32) (z_f_ops_cells : Nat → Int32) (z_v_landings_size : Int32) (z_f_landings_cells : Nat → Int32) (z_v_calls_size : Int32) (z_f_calls_cells : Nat → Int32) (h : f_X6_takeTables v_routines_size f_routines_cells v_ops_size f_ops_cells v_landings_size f_landings_cells v_calls_size f_calls_cells vp1_routines_size fp1_routines_cells vp1_ops_size fp1_ops_cells vp1_landings_size fp1_landings_cells vp1_calls_size fp1_calls_cells = some (z_v_routines_size, z_f_routines_cells, z_v_ops_size, z_f_ops_cells, z_v_landings_size, z_f_landings_cells, z_v_calls_size, z_f_calls_cells)) : Mv l yX6_takeTables wsX6_takeTables ({ frames := 2, cells := 0, slots := 0, locals := 81 } : Room) (KK D cy) D [.ref a, .ref ap1] [(a, .inr (6, [.ref a_routines, .ref a_ops, .ref a_landings, .ref a_calls, .ref a_registers, .ref a_words])), (a_routines, .inr (3, [.int (v_routines_width), .ref a_routines_cells, .int (v_routines_size)])), (a_routines_cells, .inl (cy 0, 24, .inl (f_routines_cells))), (a_ops, .inr (3, [.int (v_ops_width), .ref a_ops_cells, .int (v_ops_size)])), (a_ops_cells, .inl (cy 0, 160, .inl (f_ops_cells))), (a_landings, .inr (3, [.int (v_landings_width), .ref a_landings_cells, .int (v_landings_size)])), (a_landings_cells, .inl (cy 0, 80, .inl (f_landings_cells))), (a_calls, .inr (3, [.int (v_calls_width), .ref a_calls_cells, .int (v_calls_size)])), (a_calls_cells, .inl (cy 0, 32, .inl (f_calls_cells))), (ap1, .inr (6, [.ref ap1_routines, .ref ap1_ops, .ref ap1_landings, .ref ap1_calls, .ref ap1_registers, .ref ap1_words])), (ap1_routines, .inr (3, [.int (vp1_routines_width), .ref ap1_routines_cells, .int (vp1_routines_size)])), (ap1_routines_cells, .inl (cy 0, 24, .inl (fp1_routines_cells))), (ap1_ops, .inr (3, [.int (vp1_ops_width), .ref ap1_ops_cells, .int (vp1_ops_size)])), (ap1_ops_cells, .inl (cy 0, 160, .inl (fp1_ops_cells))), (ap1_landings, .inr (3, [.int (vp1_landings_width), .ref ap1_landings_cells, .int (vp1_landings_size)])), (ap1_landings_cells, .inl (cy 0, 80, .inl (fp1_landings_cells))), (ap1_calls, .inr (3, [.int (vp1_calls_width), .ref ap1_calls_cells, .int (vp1_calls_size)])), (ap1_calls_cells, .inl (cy 0, 32, .inl (fp1_calls_cells)))] [(a, .inr (6, [.ref a_routines, .ref a_ops, .ref a_landings, .ref a_calls, .ref a_registers, .ref a_words])), (a_routines, .inr (3, [.int (v_routines_width), .ref a_routines_cells, .int (z_v_routines_size)])), (a_routines_cells, .inl (cy 0, 24, .inl (z_f_routines_cells))), (a_ops, .inr (3, [.int (v_ops_width), .ref a_ops_cells, .int (z_v_ops_size)])), (a_ops_cells, .inl (cy 0, 160, .inl (z_f_ops_cells))), (a_landings, .inr (3, [.int (v_landings_width), .ref a_landings_cells, .int (z_v_landings_size)])), (a_landings_cells, .inl (cy 0, 80, .inl (z_f_landings_cells))), (a_calls, .inr (3, [.int (v_calls_width), .ref a_calls_cells, .int (z_v_calls_size)])), (a_calls_cells, .inl (cy 0, 32, .inl (z_f_calls_cells))), (ap1, .inr (6, [.ref ap1_routines, .ref ap1_ops, .ref ap1_landings, .ref ap1_calls, .ref ap1_registers, .ref ap1_words])), (ap1_routines, .inr (3, [.int (vp1_routines_width), .ref ap1_routines_cells, .int (vp1_routines_size)])), (ap1_routines_cells, .inl (cy 0, 24, .inl (fp1_routines_cells))), (ap1_ops, .inr (3, [.int (vp1_ops_width), .ref ap1_ops_cells, .int (vp1_ops_size)])), (ap1_ops_cells, .inl (cy 0, 160, .inl (fp1_ops_cells))), (ap1_landings, .inr (3, [.int (vp1_landings_width), .ref ap1_landings_cells, .int (vp1_landings_size)])), (ap1_landings_cells, .inl (cy 0, 80, .inl (fp1_landings_cells))), (ap1_calls, .inr (3, [.int (vp1_calls_width), .ref ap1_calls_cells, .int (vp1_calls_size)])), (ap1_calls_cells, .inl (cy 0, 32, .inl (fp1_calls_cells)))] := by
  intro sz
  refine Met.mk0 (cc := cX6_takeTables) (maxL := 2) (ret := none) (Qc := fun A => Qv D A [(a, .inr (6, [.ref a_routines, .ref a_ops, .ref a_landings, .ref a_calls, .ref a_registers, .ref a_words])), (a_routines, .inr (3, [.int (v_routines_width), .ref a_routines_cells, .int (z_v_routines_size)])), (a_routines_cells, .inl (cy 0, 24, .inl (z_f_routines_cells))), (a_ops, .inr (3, [.int (v_ops_width), .ref a_ops_cells, .int (z_v_ops_size)])), (a_ops_cells, .inl (cy 0, 160, .inl (z_f_ops_cells))), (a_landings, .inr (3, [.int (v_landings_width), .ref a_landings_cells, .int (z_v_landings_size)])), (a_landings_cells, .inl (cy 0, 80, .inl (z_f_landings_cells))), (a_calls, .inr (3, [.int (v_calls_width), .ref a_calls_cells, .int (z_v_calls_size)])), (a_calls_cells, .inl (cy 0, 32, .inl (z_f_calls_cells))), (ap1, .inr (6, [.ref ap1_routines, .ref ap1_ops, .ref ap1_landings, .ref ap1_calls, .ref ap1_registers, .ref ap1_words])), (ap1_routines, .inr (3, [.int (vp1_routines_width), .ref ap1_routines_cells, .int (vp1_routines_size)])), (ap1_routines_cells, .inl (cy 0, 24, .inl (fp1_routines_cells))), (ap1_ops, .inr (3, [.int (vp1_ops_width), .ref ap1_ops_cells, .int (vp1_ops_size)])), (ap1_ops_cells, .inl (cy 0, 160, .inl (fp1_ops_cells))), (ap1_landings, .inr (3, [.int (vp1_landings_width), .ref ap1_landings_cells, .int (vp1_landings_size)])), (ap1_landings_cells, .inl (cy 0, 80, .inl (fp1_landings_cells))), (ap1_calls, .inr (3, [.int (vp1_calls_width), .ref ap1_calls_cells, .int (vp1_calls_size)])), (ap1_calls_cells, .inl (cy 0, 32, .inl (fp1_calls_cells)))]) (by decide) rfl (Nat.le_of_ble_eq_true rfl) ?_
  intro p e s m below meth c A ls hx hb hml hown hts hr hlocks hK hP hD hA hl
  have hown : s.vm.findClass RX6 = some m.cls := hown
  have hl : lv_has ls 2 [(0, .ref a), (1, .ref ap1)] := hl
  have hinX6 : ∀ w ∈ u_ws RX6 TX6 6, w ∈ wsX6_takeTables := (fun w h => List.mem_cons_of_mem _ (List.mem_append_left _ (List.mem_append_right _ h)))
  have hinX3 : ∀ w ∈ u_ws RX3 TX3 3, w ∈ wsX6_takeTables := (fun w h => List.mem_cons_of_mem _ (List.mem_append_right _ h))
  have main : ∀ (H : Heap) (locs : List Loc) (ls : Array Slot), va_P D vwCl [(a, .inr (6, [.ref a_routines, .ref a_ops, .ref a_landings, .ref a_calls, .ref a_registers, .ref a_words])), (a_routines, .inr (3, [.int (v_routines_width), .ref a_routines_cells, .int (v_routines_size)])), (a_routines_cells, .inl (cy 0, 24, .inl (f_routines_cells))), (a_ops, .inr (3, [.int (v_ops_width), .ref a_ops_cells, .int (v_ops_size)])), (a_ops_cells, .inl (cy 0, 160, .inl (f_ops_cells))), (a_landings, .inr (3, [.int (v_landings_width), .ref a_landings_cells, .int (v_landings_size)])), (a_landings_cells, .inl (cy 0, 80, .inl (f_landings_cells))), (a_calls, .inr (3, [.int (v_calls_width), .ref a_calls_cells, .int (v_calls_size)])), (a_calls_cells, .inl (cy 0, 32, .inl (f_calls_cells))), (ap1, .inr (6, [.ref ap1_routines, .ref ap1_ops, .ref ap1_landings, .ref ap1_calls, .ref ap1_registers, .ref ap1_words])), (ap1_routines, .inr (3, [.int (vp1_routines_width), .ref ap1_routines_cells, .int (vp1_routines_size)])), (ap1_routines_cells, .inl (cy 0, 24, .inl (fp1_routines_cells))), (ap1_ops, .inr (3, [.int (vp1_ops_width), .ref ap1_ops_cells, .int (vp1_ops_size)])), (ap1_ops_cells, .inl (cy 0, 160, .inl (fp1_ops_cells))), (ap1_landings, .inr (3, [.int (vp1_landings_width), .ref ap1_landings_cells, .int (vp1_landings_size)])), (ap1_landings_cells, .inl (cy 0, 80, .inl (fp1_landings_cells))), (ap1_calls, .inr (3, [.int (vp1_calls_width), .ref ap1_calls_cells, .int (vp1_calls_size)])), (ap1_calls_cells, .inl (cy 0, 32, .inl (fp1_calls_cells)))] H → va_D A [(a, .inr (6, [.ref a_routines, .ref a_ops, .ref a_landings, .ref a_calls, .ref a_registers, .ref a_words])), (a_routines, .inr (3, [.int (v_routines_width), .ref a_routines_cells, .int (v_routines_size)])), (a_routines_cells, .inl (cy 0, 24, .inl (f_routines_cells))), (a_ops, .inr (3, [.int (v_ops_width), .ref a_ops_cells, .int (v_ops_size)])), (a_ops_cells, .inl (cy 0, 160, .inl (f_ops_cells))), (a_landings, .inr (3, [.int (v_landings_width), .ref a_landings_cells, .int (v_landings_size)])), (a_landings_cells, .inl (cy 0, 80, .inl (f_landings_cells))), (a_calls, .inr (3, [.int (v_calls_width), .ref a_calls_cells, .int (v_calls_size)])), (a_calls_cells, .inl (cy 0, 32, .inl (f_calls_cells))), (ap1, .inr (6, [.ref ap1_routines, .ref ap1_ops, .ref ap1_landings, .ref ap1_calls, .ref ap1_registers, .ref ap1_words])), (ap1_routines, .inr (3, [.int (vp1_routines_width), .ref ap1_routines_cells, .int (vp1_routines_size)])), (ap1_routines_cells, .inl (cy 0, 24, .inl (fp1_routines_cells))), (ap1_ops, .inr (3, [.int (vp1_ops_width), .ref ap1_ops_cells, .int (vp1_ops_size)])), (ap1_ops_cells, .inl (cy 0, 160, .inl (fp1_ops_cells))), (ap1_landings, .inr (3, [.int (vp1_landings_width), .ref ap1_landings_cells, .int (vp1_landings_size)])), (ap1_landings_cells, .inl (cy 0, 80, .inl (fp1_landings_cells))), (ap1_calls, .inr (3, [.int (vp1_calls_width), .ref ap1_calls_cells, .int (vp1_calls_size)])), (ap1_calls_cells, .inl (cy 0, 32, .inl (fp1_calls_cells)))] → va_S A s.heap H locs → lv_has ls 2 [(0, .ref a), (1, .ref ap1)] → f_X6_takeTables v_routines_size f_routines_cells v_ops_size f_ops_cells v_landings_size f_landings_cells v_calls_size f_calls_cells vp1_routines_size fp1_routines_cells vp1_ops_size fp1_ops_cells vp1_landings_size fp1_landings_cells vp1_calls_size fp1_calls_cells = some (z_v_routines_size, z_f_routines_cells, z_v_ops_size, z_f_ops_cells, z_v_landings_size, z_f_landings_cells, z_v_calls_size, z_f_calls_cells) → W p l e ({ frames := 2, cells := 0, slots := 0, locals := 81 } : Room) s m [.ref a, .ref ap1].toArray below meth c H locs 0 0 (MQ below (Qv D A [(a, .inr (6, [.ref a_routines, .ref a_ops, .ref a_landings, .ref a_calls, .ref a_registers, .ref a_words])), (a_routines, .inr (3, [.int (v_routines_width), .ref a_routines_cells, .int (z_v_routines_size)])), (a_routines_cells, .inl (cy 0, 24, .inl (z_f_routines_cells))), (a_ops, .inr (3, [.int (v_ops_width), .ref a_ops_cells, .int (z_v_ops_size)])), (a_ops_cells, .inl (cy 0, 160, .inl (z_f_ops_cells))), (a_landings, .inr (3, [.int (v_landings_width), .ref a_landings_cells, .int (z_v_landings_size)])), (a_landings_cells, .inl (cy 0, 80, .inl (z_f_landings_cells))), (a_calls, .inr (3, [.int (v_calls_width), .ref a_calls_cells, .int (z_v_calls_size)])), (a_calls_cells, .inl (cy 0, 32, .inl (z_f_calls_cells))), (ap1, .inr (6, [.ref ap1_routines, .ref ap1_ops, .ref ap1_landings, .ref ap1_calls, .ref ap1_registers, .ref ap1_words])), (ap1_routines, .inr (3, [.int (vp1_routines_width), .ref ap1_routines_cells, .int (vp1_routines_size)])), (ap1_routines_cells, .inl (cy 0, 24, .inl (fp1_routines_cells))), (ap1_ops, .inr (3, [.int (vp1_ops_width), .ref ap1_ops_cells, .int (vp1_ops_size)])), (ap1_ops_cells, .inl (cy 0, 160, .inl (fp1_ops_cells))), (ap1_landings, .inr (3, [.int (vp1_landings_width), .ref ap1_landings_cells, .int (vp1_landings_size)])), (ap1_landings_cells, .inl (cy 0, 80, .inl (fp1_landings_cells))), (ap1_calls, .inr (3, [.int (vp1_calls_width), .ref ap1_calls_cells, .int (vp1_calls_size)])), (ap1_calls_cells, .inl (cy 0, 32, .inl (fp1_calls_cells)))]) [.ref a, .ref ap1].toArray s 0 0 A) (F0 m 0 ls []) := by
    intro H locs ls hP hD hS hl h
    unfold f_X6_takeTables at h
    refine lv_aload_n hx hb dX6_takeTables_0 rfl (lv_at hl 0 rfl) ?_
    refine va_get (D := D) (ci := 6) (v := .ref a_routines) (C := RX6) (T := TX6) (N := 6) hx hb hts hinX6 hown hK.1 hP 0 rfl rfl 0 (by decide) (hts (.fieldLink RX6 14 "FrameWalks$World" "routines" "LFrameWalks$Table;") (List.mem_of_getElem? (i := 1) rfl)) (fun _ h9 => h9) rfl dX6_takeTables_1 ?_
    refine lv_aload_n hx hb dX6_takeTables_4 rfl (lv_at hl 1 rfl) ?_
    refine va_get (D := D) (ci := 6) (v := .ref ap1_routines) (C := RX6) (T := TX6) (N := 6) hx hb hts hinX6 hown hK.1 hP 9 rfl rfl 0 (by decide) (hts (.fieldLink RX6 14 "FrameWalks$World" "routines" "LFrameWalks$Table;") (List.mem_of_getElem? (i := 1) rfl)) (fun _ h9 => h9) rfl dX6_takeTables_5 ?_
    obtain ⟨m_37, m_38, hc_48, h⟩ := bn2_s h
    refine call_v (ws1 := [(a, .inr (6, [.ref a_routines, .ref a_ops, .ref a_landings, .ref a_calls, .ref a_registers, .ref a_words])), (a_routines, .inr (3, [.int (v_routines_width), .ref a_routines_cells, .int (m_37)])), (a_routines_cells, .inl (cy 0, 24, .inl (m_38))), (a_ops, .inr (3, [.int (v_ops_width), .ref a_ops_cells, .int (v_ops_size)])), (a_ops_cells, .inl (cy 0, 160, .inl (f_ops_cells))), (a_landings, .inr (3, [.int (v_landings_width), .ref a_landings_cells, .int (v_landings_size)])), (a_landings_cells, .inl (cy 0, 80, .inl (f_landings_cells))), (a_calls, .inr (3, [.int (v_calls_width), .ref a_calls_cells, .int (v_calls_size)])), (a_calls_cells, .inl (cy 0, 32, .inl (f_calls_cells))), (ap1, .inr (6, [.ref ap1_routines, .ref ap1_ops, .ref ap1_landings, .ref ap1_calls, .ref ap1_registers, .ref ap1_words])), (ap1_routines, .inr (3, [.int (vp1_routines_width), .ref ap1_routines_cells, .int (vp1_routines_size)])), (ap1_routines_cells, .inl (cy 0, 24, .inl (fp1_routines_cells))), (ap1_ops, .inr (3, [.int (vp1_ops_width), .ref ap1_ops_cells, .int (vp1_ops_size)])), (ap1_ops_cells, .inl (cy 0, 160, .inl (fp1_ops_cells))), (ap1_landings, .inr (3, [.int (vp1_landings_width), .ref ap1_landings_cells, .int (vp1_landings_size)])), (ap1_landings_cells, .inl (cy 0, 80, .inl (fp1_landings_cells))), (ap1_calls, .inr (3, [.int (vp1_calls_width), .ref ap1_calls_cells, .int (vp1_calls_size)])), (ap1_calls_cells, .inl (cy 0, 32, .inl (fp1_calls_cells)))]) (wr := [(a, .inr (6, [.ref a_routines, .ref a_ops, .ref a_landings, .ref a_calls, .ref a_registers, .ref a_words])), (a_ops, .inr (3, [.int (v_ops_width), .ref a_ops_cells, .int (v_ops_size)])), (a_ops_cells, .inl (cy 0, 160, .inl (f_ops_cells))), (a_landings, .inr (3, [.int (v_landings_width), .ref a_landings_cells, .int (v_landings_size)])), (a_landings_cells, .inl (cy 0, 80, .inl (f_landings_cells))), (a_calls, .inr (3, [.int (v_calls_width), .ref a_calls_cells, .int (v_calls_size)])), (a_calls_cells, .inl (cy 0, 32, .inl (f_calls_cells))), (ap1, .inr (6, [.ref ap1_routines, .ref ap1_ops, .ref ap1_landings, .ref ap1_calls, .ref ap1_registers, .ref ap1_words])), (ap1_ops, .inr (3, [.int (vp1_ops_width), .ref ap1_ops_cells, .int (vp1_ops_size)])), (ap1_ops_cells, .inl (cy 0, 160, .inl (fp1_ops_cells))), (ap1_landings, .inr (3, [.int (vp1_landings_width), .ref ap1_landings_cells, .int (vp1_landings_size)])), (ap1_landings_cells, .inl (cy 0, 80, .inl (fp1_landings_cells))), (ap1_calls, .inr (3, [.int (vp1_calls_width), .ref ap1_calls_cells, .int (vp1_calls_size)])), (ap1_calls_cells, .inl (cy 0, 32, .inl (fp1_calls_cells)))]) (run_V ⟨hx, hb, hml, hown, hts⟩ ((c_X3_takeOver l D cy a_routines a_routines_cells ap1_routines ap1_routines_cells (v_routines_width) (v_routines_size) 24 (f_routines_cells) (vp1_routines_width) (vp1_routines_size) 24 (fp1_routines_cells) m_37 m_38 hc_48) H.size) (cwV 1 hts gX6_takeTables_X3_takeOver rfl rfl rfl hd_X3_takeOver ⟨Nat.le_of_ble_eq_true rfl, Nat.le_of_ble_eq_true rfl⟩) KK.calling (fun U _ hW => hK.warm hW) hK.1 hP hD [1, 2, 10, 11] [0, 3, 4, 5, 6, 7, 8, 9, 12, 13, 14, 15, 16, 17] [0, 14, 15, 1, 2, 3, 4, 5, 6, 7, 16, 17, 8, 9, 10, 11, 12, 13] rfl rfl 1 3 rfl rfl rfl rfl hl.1 rfl (lv_room (Nat.le_of_ble_eq_true rfl)) dX6_takeTables_8) hP hD hS hA [1, 2, 10, 11] [0, 3, 4, 5, 6, 7, 8, 9, 12, 13, 14, 15, 16, 17] [0, 14, 15, 1, 2, 3, 4, 5, 6, 7, 16, 17, 8, 9, 10, 11, 12, 13] rfl rfl rfl rfl (fun H locs hP hD hS => ?_)
    refine lv_aload_n hx hb dX6_takeTables_11 rfl (lv_at hl 0 rfl) ?_
    refine va_get (D := D) (ci := 6) (v := .ref a_ops) (C := RX6) (T := TX6) (N := 6) hx hb hts hinX6 hown hK.1 hP 0 rfl rfl 1 (by decide) (hts (.fieldLink RX6 20 "FrameWalks$World" "ops" "LFrameWalks$Table;") (List.mem_of_getElem? (i := 2) rfl)) (fun _ h9 => h9) rfl dX6_takeTables_12 ?_
    refine lv_aload_n hx hb dX6_takeTables_15 rfl (lv_at hl 1 rfl) ?_
    refine va_get (D := D) (ci := 6) (v := .ref ap1_ops) (C := RX6) (T := TX6) (N := 6) hx hb hts hinX6 hown hK.1 hP 9 rfl rfl 1 (by decide) (hts (.fieldLink RX6 20 "FrameWalks$World" "ops" "LFrameWalks$Table;") (List.mem_of_getElem? (i := 2) rfl)) (fun _ h9 => h9) rfl dX6_takeTables_16 ?_
    obtain ⟨m_39, m_40, hc_47, h⟩ := bn2_s h
    refine call_v (ws1 := [(a, .inr (6, [.ref a_routines, .ref a_ops, .ref a_landings, .ref a_calls, .ref a_registers, .ref a_words])), (a_routines, .inr (3, [.int (v_routines_width), .ref a_routines_cells, .int (m_37)])), (a_routines_cells, .inl (cy 0, 24, .inl (m_38))), (a_ops, .inr (3, [.int (v_ops_width), .ref a_ops_cells, .int (m_39)])), (a_ops_cells, .inl (cy 0, 160, .inl (m_40))), (a_landings, .inr (3, [.int (v_landings_width), .ref a_landings_cells, .int (v_landings_size)])), (a_landings_cells, .inl (cy 0, 80, .inl (f_landings_cells))), (a_calls, .inr (3, [.int (v_calls_width), .ref a_calls_cells, .int (v_calls_size)])), (a_calls_cells, .inl (cy 0, 32, .inl (f_calls_cells))), (ap1, .inr (6, [.ref ap1_routines, .ref ap1_ops, .ref ap1_landings, .ref ap1_calls, .ref ap1_registers, .ref ap1_words])), (ap1_routines, .inr (3, [.int (vp1_routines_width), .ref ap1_routines_cells, .int (vp1_routines_size)])), (ap1_routines_cells, .inl (cy 0, 24, .inl (fp1_routines_cells))), (ap1_ops, .inr (3, [.int (vp1_ops_width), .ref ap1_ops_cells, .int (vp1_ops_size)])), (ap1_ops_cells, .inl (cy 0, 160, .inl (fp1_ops_cells))), (ap1_landings, .inr (3, [.int (vp1_landings_width), .ref ap1_landings_cells, .int (vp1_landings_size)])), (ap1_landings_cells, .inl (cy 0, 80, .inl (fp1_landings_cells))), (ap1_calls, .inr (3, [.int (vp1_calls_width), .ref ap1_calls_cells, .int (vp1_calls_size)])), (ap1_calls_cells, .inl (cy 0, 32, .inl (fp1_calls_cells)))]) (wr := [(a, .inr (6, [.ref a_routines, .ref a_ops, .ref a_landings, .ref a_calls, .ref a_registers, .ref a_words])), (a_routines, .inr (3, [.int (v_routines_width), .ref a_routines_cells, .int (m_37)])), (a_routines_cells, .inl (cy 0, 24, .inl (m_38))), (a_landings, .inr (3, [.int (v_landings_width), .ref a_landings_cells, .int (v_landings_size)])), (a_landings_cells, .inl (cy 0, 80, .inl (f_landings_cells))), (a_calls, .inr (3, [.int (v_calls_width), .ref a_calls_cells, .int (v_calls_size)])), (a_calls_cells, .inl (cy 0, 32, .inl (f_calls_cells))), (ap1, .inr (6, [.ref ap1_routines, .ref ap1_ops, .ref ap1_landings, .ref ap1_calls, .ref ap1_registers, .ref ap1_words])), (ap1_routines, .inr (3, [.int (vp1_routines_width), .ref ap1_routines_cells, .int (vp1_routines_size)])), (ap1_routines_cells, .inl (cy 0, 24, .inl (fp1_routines_cells))), (ap1_landings, .inr (3, [.int (vp1_landings_width), .ref ap1_landings_cells, .int (vp1_landings_size)])), (ap1_landings_cells, .inl (cy 0, 80, .inl (fp1_landings_cells))), (ap1_calls, .inr (3, [.int (vp1_calls_width), .ref ap1_calls_cells, .int (vp1_calls_size)])), (ap1_calls_cells, .inl (cy 0, 32, .inl (fp1_calls_cells)))]) (run_V ⟨hx, hb, hml, hown, hts⟩ ((c_X3_takeOver l D cy a_ops a_ops_cells ap1_ops ap1_ops_cells (v_ops_width) (v_ops_size) 160 (f_ops_cells) (vp1_ops_width) (vp1_ops_size) 160 (fp1_ops_cells) m_39 m_40 hc_47) H.size) (cwV 1 hts gX6_takeTables_X3_takeOver rfl rfl rfl hd_X3_takeOver ⟨Nat.le_of_ble_eq_true rfl, Nat.le_of_ble_eq_true rfl⟩) KK.calling (fun U _ hW => hK.warm hW) hK.1 hP hD [3, 4, 12, 13] [0, 1, 2, 5, 6, 7, 8, 9, 10, 11, 14, 15, 16, 17] [0, 1, 2, 14, 15, 3, 4, 5, 6, 7, 8, 9, 16, 17, 10, 11, 12, 13] rfl rfl 3 3 rfl rfl rfl rfl hl.1 rfl (lv_room (Nat.le_of_ble_eq_true rfl)) dX6_takeTables_19) hP hD hS hA [3, 4, 12, 13] [0, 1, 2, 5, 6, 7, 8, 9, 10, 11, 14, 15, 16, 17] [0, 1, 2, 14, 15, 3, 4, 5, 6, 7, 8, 9, 16, 17, 10, 11, 12, 13] rfl rfl rfl rfl (fun H locs hP hD hS => ?_)
    refine lv_aload_n hx hb dX6_takeTables_22 rfl (lv_at hl 0 rfl) ?_
    refine va_get (D := D) (ci := 6) (v := .ref a_landings) (C := RX6) (T := TX6) (N := 6) hx hb hts hinX6 hown hK.1 hP 0 rfl rfl 2 (by decide) (hts (.fieldLink RX6 23 "FrameWalks$World" "landings" "LFrameWalks$Table;") (List.mem_of_getElem? (i := 3) rfl)) (fun _ h9 => h9) rfl dX6_takeTables_23 ?_
    refine lv_aload_n hx hb dX6_takeTables_26 rfl (lv_at hl 1 rfl) ?_
    refine va_get (D := D) (ci := 6) (v := .ref ap1_landings) (C := RX6) (T := TX6) (N := 6) hx hb hts hinX6 hown hK.1 hP 9 rfl rfl 2 (by decide) (hts (.fieldLink RX6 23 "FrameWalks$World" "landings" "LFrameWalks$Table;") (List.mem_of_getElem? (i := 3) rfl)) (fun _ h9 => h9) rfl dX6_takeTables_27 ?_
    obtain ⟨m_41, m_42, hc_46, h⟩ := bn2_s h
    refine call_v (ws1 := [(a, .inr (6, [.ref a_routines, .ref a_ops, .ref a_landings, .ref a_calls, .ref a_registers, .ref a_words])), (a_routines, .inr (3, [.int (v_routines_width), .ref a_routines_cells, .int (m_37)])), (a_routines_cells, .inl (cy 0, 24, .inl (m_38))), (a_ops, .inr (3, [.int (v_ops_width), .ref a_ops_cells, .int (m_39)])), (a_ops_cells, .inl (cy 0, 160, .inl (m_40))), (a_landings, .inr (3, [.int (v_landings_width), .ref a_landings_cells, .int (m_41)])), (a_landings_cells, .inl (cy 0, 80, .inl (m_42))), (a_calls, .inr (3, [.int (v_calls_width), .ref a_calls_cells, .int (v_calls_size)])), (a_calls_cells, .inl (cy 0, 32, .inl (f_calls_cells))), (ap1, .inr (6, [.ref ap1_routines, .ref ap1_ops, .ref ap1_landings, .ref ap1_calls, .ref ap1_registers, .ref ap1_words])), (ap1_routines, .inr (3, [.int (vp1_routines_width), .ref ap1_routines_cells, .int (vp1_routines_size)])), (ap1_routines_cells, .inl (cy 0, 24, .inl (fp1_routines_cells))), (ap1_ops, .inr (3, [.int (vp1_ops_width), .ref ap1_ops_cells, .int (vp1_ops_size)])), (ap1_ops_cells, .inl (cy 0, 160, .inl (fp1_ops_cells))), (ap1_landings, .inr (3, [.int (vp1_landings_width), .ref ap1_landings_cells, .int (vp1_landings_size)])), (ap1_landings_cells, .inl (cy 0, 80, .inl (fp1_landings_cells))), (ap1_calls, .inr (3, [.int (vp1_calls_width), .ref ap1_calls_cells, .int (vp1_calls_size)])), (ap1_calls_cells, .inl (cy 0, 32, .inl (fp1_calls_cells)))]) (wr := [(a, .inr (6, [.ref a_routines, .ref a_ops, .ref a_landings, .ref a_calls, .ref a_registers, .ref a_words])), (a_routines, .inr (3, [.int (v_routines_width), .ref a_routines_cells, .int (m_37)])), (a_routines_cells, .inl (cy 0, 24, .inl (m_38))), (a_ops, .inr (3, [.int (v_ops_width), .ref a_ops_cells, .int (m_39)])), (a_ops_cells, .inl (cy 0, 160, .inl (m_40))), (a_calls, .inr (3, [.int (v_calls_width), .ref a_calls_cells, .int (v_calls_size)])), (a_calls_cells, .inl (cy 0, 32, .inl (f_calls_cells))), (ap1, .inr (6, [.ref ap1_routines, .ref ap1_ops, .ref ap1_landings, .ref ap1_calls, .ref ap1_registers, .ref ap1_words])), (ap1_routines, .inr (3, [.int (vp1_routines_width), .ref ap1_routines_cells, .int (vp1_routines_size)])), (ap1_routines_cells, .inl (cy 0, 24, .inl (fp1_routines_cells))), (ap1_ops, .inr (3, [.int (vp1_ops_width), .ref ap1_ops_cells, .int (vp1_ops_size)])), (ap1_ops_cells, .inl (cy 0, 160, .inl (fp1_ops_cells))), (ap1_calls, .inr (3, [.int (vp1_calls_width), .ref ap1_calls_cells, .int (vp1_calls_size)])), (ap1_calls_cells, .inl (cy 0, 32, .inl (fp1_calls_cells)))]) (run_V ⟨hx, hb, hml, hown, hts⟩ ((c_X3_takeOver l D cy a_landings a_landings_cells ap1_landings ap1_landings_cells (v_landings_width) (v_landings_size) 80 (f_landings_cells) (vp1_landings_width) (vp1_landings_size) 80 (fp1_landings_cells) m_41 m_42 hc_46) H.size) (cwV 1 hts gX6_takeTables_X3_takeOver rfl rfl rfl hd_X3_takeOver ⟨Nat.le_of_ble_eq_true rfl, Nat.le_of_ble_eq_true rfl⟩) KK.calling (fun U _ hW => hK.warm hW) hK.1 hP hD [5, 6, 14, 15] [0, 1, 2, 3, 4, 7, 8, 9, 10, 11, 12, 13, 16, 17] [0, 1, 2, 3, 4, 14, 15, 5, 6, 7, 8, 9, 10, 11, 16, 17, 12, 13] rfl rfl 5 3 rfl rfl rfl rfl hl.1 rfl (lv_room (Nat.le_of_ble_eq_true rfl)) dX6_takeTables_30) hP hD hS hA [5, 6, 14, 15] [0, 1, 2, 3, 4, 7, 8, 9, 10, 11, 12, 13, 16, 17] [0, 1, 2, 3, 4, 14, 15, 5, 6, 7, 8, 9, 10, 11, 16, 17, 12, 13] rfl rfl rfl rfl (fun H locs hP hD hS => ?_)
    refine lv_aload_n hx hb dX6_takeTables_33 rfl (lv_at hl 0 rfl) ?_
    refine va_get (D := D) (ci := 6) (v := .ref a_calls) (C := RX6) (T := TX6) (N := 6) hx hb hts hinX6 hown hK.1 hP 0 rfl rfl 3 (by decide) (hts (.fieldLink RX6 26 "FrameWalks$World" "calls" "LFrameWalks$Table;") (List.mem_of_getElem? (i := 4) rfl)) (fun _ h9 => h9) rfl dX6_takeTables_34 ?_
    refine lv_aload_n hx hb dX6_takeTables_37 rfl (lv_at hl 1 rfl) ?_
    refine va_get (D := D) (ci := 6) (v := .ref ap1_calls) (C := RX6) (T := TX6) (N := 6) hx hb hts hinX6 hown hK.1 hP 9 rfl rfl 3 (by decide) (hts (.fieldLink RX6 26 "FrameWalks$World" "calls" "LFrameWalks$Table;") (List.mem_of_getElem? (i := 4) rfl)) (fun _ h9 => h9) rfl dX6_takeTables_38 ?_
    obtain ⟨m_43, m_44, hc_45, h⟩ := bn2_s h
    refine call_v (ws1 := [(a, .inr (6, [.ref a_routines, .ref a_ops, .ref a_landings, .ref a_calls, .ref a_registers, .ref a_words])), (a_routines, .inr (3, [.int (v_routines_width), .ref a_routines_cells, .int (m_37)])), (a_routines_cells, .inl (cy 0, 24, .inl (m_38))), (a_ops, .inr (3, [.int (v_ops_width), .ref a_ops_cells, .int (m_39)])), (a_ops_cells, .inl (cy 0, 160, .inl (m_40))), (a_landings, .inr (3, [.int (v_landings_width), .ref a_landings_cells, .int (m_41)])), (a_landings_cells, .inl (cy 0, 80, .inl (m_42))), (a_calls, .inr (3, [.int (v_calls_width), .ref a_calls_cells, .int (m_43)])), (a_calls_cells, .inl (cy 0, 32, .inl (m_44))), (ap1, .inr (6, [.ref ap1_routines, .ref ap1_ops, .ref ap1_landings, .ref ap1_calls, .ref ap1_registers, .ref ap1_words])), (ap1_routines, .inr (3, [.int (vp1_routines_width), .ref ap1_routines_cells, .int (vp1_routines_size)])), (ap1_routines_cells, .inl (cy 0, 24, .inl (fp1_routines_cells))), (ap1_ops, .inr (3, [.int (vp1_ops_width), .ref ap1_ops_cells, .int (vp1_ops_size)])), (ap1_ops_cells, .inl (cy 0, 160, .inl (fp1_ops_cells))), (ap1_landings, .inr (3, [.int (vp1_landings_width), .ref ap1_landings_cells, .int (vp1_landings_size)])), (ap1_landings_cells, .inl (cy 0, 80, .inl (fp1_landings_cells))), (ap1_calls, .inr (3, [.int (vp1_calls_width), .ref ap1_calls_cells, .int (vp1_calls_size)])), (ap1_calls_cells, .inl (cy 0, 32, .inl (fp1_calls_cells)))]) (wr := [(a, .inr (6, [.ref a_routines, .ref a_ops, .ref a_landings, .ref a_calls, .ref a_registers, .ref a_words])), (a_routines, .inr (3, [.int (v_routines_width), .ref a_routines_cells, .int (m_37)])), (a_routines_cells, .inl (cy 0, 24, .inl (m_38))), (a_ops, .inr (3, [.int (v_ops_width), .ref a_ops_cells, .int (m_39)])), (a_ops_cells, .inl (cy 0, 160, .inl (m_40))), (a_landings, .inr (3, [.int (v_landings_width), .ref a_landings_cells, .int (m_41)])), (a_landings_cells, .inl (cy 0, 80, .inl (m_42))), (ap1, .inr (6, [.ref ap1_routines, .ref ap1_ops, .ref ap1_landings, .ref ap1_calls, .ref ap1_registers, .ref ap1_words])), (ap1_routines, .inr (3, [.int (vp1_routines_width), .ref ap1_routines_cells, .int (vp1_routines_size)])), (ap1_routines_cells, .inl (cy 0, 24, .inl (fp1_routines_cells))), (ap1_ops, .inr (3, [.int (vp1_ops_width), .ref ap1_ops_cells, .int (vp1_ops_size)])), (ap1_ops_cells, .inl (cy 0, 160, .inl (fp1_ops_cells))), (ap1_landings, .inr (3, [.int (vp1_landings_width), .ref ap1_landings_cells, .int (vp1_landings_size)])), (ap1_landings_cells, .inl (cy 0, 80, .inl (fp1_landings_cells)))]) (run_V ⟨hx, hb, hml, hown, hts⟩ ((c_X3_takeOver l D cy a_calls a_calls_cells ap1_calls ap1_calls_cells (v_calls_width) (v_calls_size) 32 (f_calls_cells) (vp1_calls_width) (vp1_calls_size) 32 (fp1_calls_cells) m_43 m_44 hc_45) H.size) (cwV 1 hts gX6_takeTables_X3_takeOver rfl rfl rfl hd_X3_takeOver ⟨Nat.le_of_ble_eq_true rfl, Nat.le_of_ble_eq_true rfl⟩) KK.calling (fun U _ hW => hK.warm hW) hK.1 hP hD [7, 8, 16, 17] [0, 1, 2, 3, 4, 5, 6, 9, 10, 11, 12, 13, 14, 15] [0, 1, 2, 3, 4, 5, 6, 14, 15, 7, 8, 9, 10, 11, 12, 13, 16, 17] rfl rfl 7 3 rfl rfl rfl rfl hl.1 rfl (lv_room (Nat.le_of_ble_eq_true rfl)) dX6_takeTables_41) hP hD hS hA [7, 8, 16, 17] [0, 1, 2, 3, 4, 5, 6, 9, 10, 11, 12, 13, 14, 15] [0, 1, 2, 3, 4, 5, 6, 14, 15, 7, 8, 9, 10, 11, 12, 13, 16, 17] rfl rfl rfl rfl (fun H locs hP hD hS => ?_)
    obtain ⟨e0, e1, e2, e3, e4, e5, e6, e7⟩ := tp8_s h
    exact Mv.ret' hx hb hr hlocks (by rw [← e0, ← e1, ← e2, ← e3, ← e4, ← e5, ← e6, ← e7]) hP hD hS dX6_takeTables_44
  exact main s.heap [] ls hP hD va_S.rf hl h
theorem hd_X6_takeAll : yX6_takeAll.cls = RX6 ∧ yX6_takeAll.cls ≠ "java/lang/invoke/MethodHandle" ∧ yX6_takeAll.cls ≠ "java/lang/invoke/VarHandle" ∧ (parseMethodDescriptor yX6_takeAll.desc).map (fun d => d.parameters.length) = some 1 := by decide +kernel
def f_X6_takeAll (v_routines_size : Int32) (f_routines_cells : Nat → Int32) (v_ops_size : Int32) (f_ops_cells : Nat → Int32) (v_landings_size : Int32) (f_landings_cells : Nat → Int32) (v_calls_size : Int32) (f_calls_cells : Nat → Int32) (f_registers : Nat → Int32) (f_words : Nat → Int32) (vp1_routines_size : Int32) (fp1_routines_cells : Nat → Int32) (vp1_ops_size : Int32) (fp1_ops_cells : Nat → Int32) (vp1_landings_size : Int32) (fp1_landings_cells : Nat → Int32) (vp1_calls_size : Int32) (fp1_calls_cells : Nat → Int32) (fp1_registers : Nat → Int32) (fp1_words : Nat → Int32) : Option (Int32 × (Nat → Int32) × Int32 × (Nat → Int32) × Int32 × (Nat → Int32) × Int32 × (Nat → Int32) × (Nat → Int32) × (Nat → Int32)) := (bn8 (f_X6_takeTables (v_routines_size) (f_routines_cells) (v_ops_size) (f_ops_cells) (v_landings_size) (f_landings_cells) (v_calls_size) (f_calls_cells) (vp1_routines_size) (fp1_routines_cells) (vp1_ops_size) (fp1_ops_cells) (vp1_landings_size) (fp1_landings_cells) (vp1_calls_size) (fp1_calls_cells)) (fun m_34 m_35 m_36 m_37 m_38 m_39 m_40 m_41 => (ck (¬ ((0 : Int32)) < 0 ∧ ¬ ((0 : Int32)) < 0 ∧ ¬ ((6 : Int32)) < 0 ∧ ((0 : Int32)).toNatClampNeg + ((6 : Int32)).toNatClampNeg ≤ 6 ∧ ((0 : Int32)).toNatClampNeg + ((6 : Int32)).toNatClampNeg ≤ 6) (ck (¬ ((0 : Int32)) < 0 ∧ ¬ ((0 : Int32)) < 0 ∧ ¬ ((48 : Int32)) < 0 ∧ ((0 : Int32)).toNatClampNeg + ((48 : Int32)).toNatClampNeg ≤ 48 ∧ ((0 : Int32)).toNatClampNeg + ((48 : Int32)).toNatClampNeg ≤ 48) (some (m_34, m_35, m_36, m_37, m_38, m_39, m_40, m_41, va_cpy fp1_registers f_registers ((0 : Int32)).toNatClampNeg ((0 : Int32)).toNatClampNeg ((6 : Int32)).toNatClampNeg, va_cpy fp1_words f_words ((0 : Int32)).toNatClampNeg ((0 : Int32)).toNatClampNeg ((48 : Int32)).toNatClampNeg))))))
set_option maxHeartbeats 4000000 in
set_option maxRecDepth 100000 in
theorem c_X6_takeAll (l : Launch) (D : va_G) (cy : Nat → ClassId) (a a_routines a_ops a_landings a_calls a_registers a_words a_routines_cells a_ops_cells a_landings_cells a_calls_cells ap1 ap1_routines ap1_ops ap1_landings ap1_calls ap1_registers ap1_words ap1_routines_cells ap1_ops_cells ap1_landings_cells ap1_calls_cells : Nat) (v_routines_width : Int32) (v_routines_size : Int32) (f_routines_cells : Nat → Int32) (v_ops_width : Int32) (v_ops_size : Int32) (f_ops_cells : Nat → Int32) (v_landings_width : Int32) (v_landings_size : Int32) (f_landings_cells : Nat → Int32) (v_calls_width : Int32) (v_calls_size : Int32) (f_calls_cells : Nat → Int32) (f_registers : Nat → Int32) (f_words : Nat → Int32) (vp1_routines_width : Int32) (vp1_routines_size : Int32) (fp1_routines_cells : Nat → Int32) (vp1_ops_width : Int32) (vp1_ops_size : Int32) (fp1_ops_cells : Nat → Int32) (vp1_landings_width : Int32) (vp1_landings_size : Int32) (fp1_landings_cells : Nat → Int32) (vp1_calls_width : Int32) (vp1_calls_size : Int32) (fp1_calls_cells : Nat → Int32) (fp1_registers : Nat → Int32) (fp1_words : Nat → Int32) (z_v_routines_size : Int32) (z_f_routines_cells : Nat → Int32) (z_v_ops_size : Int32) (z_f_ops_cells : Nat → Int32) (z_v_landings_size : Int32) (z_f_landings_cells : Nat → Int32) (z_v_calls_size : Int32) (z_f_calls_cells : Nat → Int32) (z_f_registers : Nat → Int32) (z_f_words : Nat → Int32) (h : f_X6_takeAll v_routines_size f_routines_cells v_ops_size f_ops_cells v_landings_size f_landings_cells v_calls_size f_calls_cells f_registers f_words vp1_routines_size fp1_routines_cells vp1_ops_size fp1_ops_cells vp1_landings_size fp1_landings_cells vp1_calls_size fp1_calls_cells fp1_registers fp1_words = some (z_v_routines_size, z_f_routines_cells, z_v_ops_size, z_f_ops_cells, z_v_landings_size, z_f_landings_cells, z_v_calls_size, z_f_calls_cells, z_f_registers, z_f_words)) : Mv l yX6_takeAll wsX6_takeAll ({ frames := 3, cells := 0, slots := 0, locals := 102 } : Room) (KK D cy) D [.ref a, .ref ap1] [(a, .inr (6, [.ref a_routines, .ref a_ops, .ref a_landings, .ref a_calls, .ref a_registers, .ref a_words])), (a_routines, .inr (3, [.int (v_routines_width), .ref a_routines_cells, .int (v_routines_size)])), (a_routines_cells, .inl (cy 0, 24, .inl (f_routines_cells))), (a_ops, .inr (3, [.int (v_ops_width), .ref a_ops_cells, .int (v_ops_size)])), (a_ops_cells, .inl (cy 0, 160, .inl (f_ops_cells))), (a_landings, .inr (3, [.int (v_landings_width), .ref a_landings_cells, .int (v_landings_size)])), (a_landings_cells, .inl (cy 0, 80, .inl (f_landings_cells))), (a_calls, .inr (3, [.int (v_calls_width), .ref a_calls_cells, .int (v_calls_size)])), (a_calls_cells, .inl (cy 0, 32, .inl (f_calls_cells))), (a_registers, .inl (cy 0, 6, .inl (f_registers))), (a_words, .inl (cy 0, 48, .inl (f_words))), (ap1, .inr (6, [.ref ap1_routines, .ref ap1_ops, .ref ap1_landings, .ref ap1_calls, .ref ap1_registers, .ref ap1_words])), (ap1_routines, .inr (3, [.int (vp1_routines_width), .ref ap1_routines_cells, .int (vp1_routines_size)])), (ap1_routines_cells, .inl (cy 0, 24, .inl (fp1_routines_cells))), (ap1_ops, .inr (3, [.int (vp1_ops_width), .ref ap1_ops_cells, .int (vp1_ops_size)])), (ap1_ops_cells, .inl (cy 0, 160, .inl (fp1_ops_cells))), (ap1_landings, .inr (3, [.int (vp1_landings_width), .ref ap1_landings_cells, .int (vp1_landings_size)])), (ap1_landings_cells, .inl (cy 0, 80, .inl (fp1_landings_cells))), (ap1_calls, .inr (3, [.int (vp1_calls_width), .ref ap1_calls_cells, .int (vp1_calls_size)])), (ap1_calls_cells, .inl (cy 0, 32, .inl (fp1_calls_cells))), (ap1_registers, .inl (cy 0, 6, .inl (fp1_registers))), (ap1_words, .inl (cy 0, 48, .inl (fp1_words)))] [(a, .inr (6, [.ref a_routines, .ref a_ops, .ref a_landings, .ref a_calls, .ref a_registers, .ref a_words])), (a_routines, .inr (3, [.int (v_routines_width), .ref a_routines_cells, .int (z_v_routines_size)])), (a_routines_cells, .inl (cy 0, 24, .inl (z_f_routines_cells))), (a_ops, .inr (3, [.int (v_ops_width), .ref a_ops_cells, .int (z_v_ops_size)])), (a_ops_cells, .inl (cy 0, 160, .inl (z_f_ops_cells))), (a_landings, .inr (3, [.int (v_landings_width), .ref a_landings_cells, .int (z_v_landings_size)])), (a_landings_cells, .inl (cy 0, 80, .inl (z_f_landings_cells))), (a_calls, .inr (3, [.int (v_calls_width), .ref a_calls_cells, .int (z_v_calls_size)])), (a_calls_cells, .inl (cy 0, 32, .inl (z_f_calls_cells))), (a_registers, .inl (cy 0, 6, .inl (z_f_registers))), (a_words, .inl (cy 0, 48, .inl (z_f_words))), (ap1, .inr (6, [.ref ap1_routines, .ref ap1_ops, .ref ap1_landings, .ref ap1_calls, .ref ap1_registers, .ref ap1_words])), (ap1_routines, .inr (3, [.int (vp1_routines_width), .ref ap1_routines_cells, .int (vp1_routines_size)])), (ap1_routines_cells, .inl (cy 0, 24, .inl (fp1_routines_cells))), (ap1_ops, .inr (3, [.int (vp1_ops_width), .ref ap1_ops_cells, .int (vp1_ops_size)])), (ap1_ops_cells, .inl (cy 0, 160, .inl (fp1_ops_cells))), (ap1_landings, .inr (3, [.int (vp1_landings_width), .ref ap1_landings_cells, .int (vp1_landings_size)])), (ap1_landings_cells, .inl (cy 0, 80, .inl (fp1_landings_cells))), (ap1_calls, .inr (3, [.int (vp1_calls_width), .ref ap1_calls_cells, .int (vp1_calls_size)])), (ap1_calls_cells, .inl (cy 0, 32, .inl (fp1_calls_cells))), (ap1_registers, .inl (cy 0, 6, .inl (fp1_registers))), (ap1_words, .inl (cy 0, 48, .inl (fp1_words)))] := by
  intro sz
  refine Met.mk0 (cc := cX6_takeAll) (maxL := 2) (ret := none) (Qc := fun A => Qv D A [(a, .inr (6, [.ref a_routines, .ref a_ops, .ref a_landings, .ref a_calls, .ref a_registers, .ref a_words])), (a_routines, .inr (3, [.int (v_routines_width), .ref a_routines_cells, .int (z_v_routines_size)])), (a_routines_cells, .inl (cy 0, 24, .inl (z_f_routines_cells))), (a_ops, .inr (3, [.int (v_ops_width), .ref a_ops_cells, .int (z_v_ops_size)])), (a_ops_cells, .inl (cy 0, 160, .inl (z_f_ops_cells))), (a_landings, .inr (3, [.int (v_landings_width), .ref a_landings_cells, .int (z_v_landings_size)])), (a_landings_cells, .inl (cy 0, 80, .inl (z_f_landings_cells))), (a_calls, .inr (3, [.int (v_calls_width), .ref a_calls_cells, .int (z_v_calls_size)])), (a_calls_cells, .inl (cy 0, 32, .inl (z_f_calls_cells))), (a_registers, .inl (cy 0, 6, .inl (z_f_registers))), (a_words, .inl (cy 0, 48, .inl (z_f_words))), (ap1, .inr (6, [.ref ap1_routines, .ref ap1_ops, .ref ap1_landings, .ref ap1_calls, .ref ap1_registers, .ref ap1_words])), (ap1_routines, .inr (3, [.int (vp1_routines_width), .ref ap1_routines_cells, .int (vp1_routines_size)])), (ap1_routines_cells, .inl (cy 0, 24, .inl (fp1_routines_cells))), (ap1_ops, .inr (3, [.int (vp1_ops_width), .ref ap1_ops_cells, .int (vp1_ops_size)])), (ap1_ops_cells, .inl (cy 0, 160, .inl (fp1_ops_cells))), (ap1_landings, .inr (3, [.int (vp1_landings_width), .ref ap1_landings_cells, .int (vp1_landings_size)])), (ap1_landings_cells, .inl (cy 0, 80, .inl (fp1_landings_cells))), (ap1_calls, .inr (3, [.int (vp1_calls_width), .ref ap1_calls_cells, .int (vp1_calls_size)])), (ap1_calls_cells, .inl (cy 0, 32, .inl (fp1_calls_cells))), (ap1_registers, .inl (cy 0, 6, .inl (fp1_registers))), (ap1_words, .inl (cy 0, 48, .inl (fp1_words)))]) (by decide) rfl (Nat.le_of_ble_eq_true rfl) ?_
  intro p e s m below meth c A ls hx hb hml hown hts hr hlocks hK hP hD hA hl
  have hown : s.vm.findClass RX6 = some m.cls := hown
  have hl : lv_has ls 2 [(0, .ref a), (1, .ref ap1)] := hl
  have hinX6 : ∀ w ∈ u_ws RX6 TX6 6, w ∈ wsX6_takeAll := (fun w h => List.mem_cons_of_mem _ (List.mem_append_left _ (List.mem_append_right _ h)))
  have hinX3 : ∀ w ∈ u_ws RX3 TX3 3, w ∈ wsX6_takeAll := (fun w h => List.mem_cons_of_mem _ (List.mem_append_right _ h))
  have main : ∀ (H : Heap) (locs : List Loc) (ls : Array Slot), va_P D vwCl [(a, .inr (6, [.ref a_routines, .ref a_ops, .ref a_landings, .ref a_calls, .ref a_registers, .ref a_words])), (a_routines, .inr (3, [.int (v_routines_width), .ref a_routines_cells, .int (v_routines_size)])), (a_routines_cells, .inl (cy 0, 24, .inl (f_routines_cells))), (a_ops, .inr (3, [.int (v_ops_width), .ref a_ops_cells, .int (v_ops_size)])), (a_ops_cells, .inl (cy 0, 160, .inl (f_ops_cells))), (a_landings, .inr (3, [.int (v_landings_width), .ref a_landings_cells, .int (v_landings_size)])), (a_landings_cells, .inl (cy 0, 80, .inl (f_landings_cells))), (a_calls, .inr (3, [.int (v_calls_width), .ref a_calls_cells, .int (v_calls_size)])), (a_calls_cells, .inl (cy 0, 32, .inl (f_calls_cells))), (a_registers, .inl (cy 0, 6, .inl (f_registers))), (a_words, .inl (cy 0, 48, .inl (f_words))), (ap1, .inr (6, [.ref ap1_routines, .ref ap1_ops, .ref ap1_landings, .ref ap1_calls, .ref ap1_registers, .ref ap1_words])), (ap1_routines, .inr (3, [.int (vp1_routines_width), .ref ap1_routines_cells, .int (vp1_routines_size)])), (ap1_routines_cells, .inl (cy 0, 24, .inl (fp1_routines_cells))), (ap1_ops, .inr (3, [.int (vp1_ops_width), .ref ap1_ops_cells, .int (vp1_ops_size)])), (ap1_ops_cells, .inl (cy 0, 160, .inl (fp1_ops_cells))), (ap1_landings, .inr (3, [.int (vp1_landings_width), .ref ap1_landings_cells, .int (vp1_landings_size)])), (ap1_landings_cells, .inl (cy 0, 80, .inl (fp1_landings_cells))), (ap1_calls, .inr (3, [.int (vp1_calls_width), .ref ap1_calls_cells, .int (vp1_calls_size)])), (ap1_calls_cells, .inl (cy 0, 32, .inl (fp1_calls_cells))), (ap1_registers, .inl (cy 0, 6, .inl (fp1_registers))), (ap1_words, .inl (cy 0, 48, .inl (fp1_words)))] H → va_D A [(a, .inr (6, [.ref a_routines, .ref a_ops, .ref a_landings, .ref a_calls, .ref a_registers, .ref a_words])), (a_routines, .inr (3, [.int (v_routines_width), .ref a_routines_cells, .int (v_routines_size)])), (a_routines_cells, .inl (cy 0, 24, .inl (f_routines_cells))), (a_ops, .inr (3, [.int (v_ops_width), .ref a_ops_cells, .int (v_ops_size)])), (a_ops_cells, .inl (cy 0, 160, .inl (f_ops_cells))), (a_landings, .inr (3, [.int (v_landings_width), .ref a_landings_cells, .int (v_landings_size)])), (a_landings_cells, .inl (cy 0, 80, .inl (f_landings_cells))), (a_calls, .inr (3, [.int (v_calls_width), .ref a_calls_cells, .int (v_calls_size)])), (a_calls_cells, .inl (cy 0, 32, .inl (f_calls_cells))), (a_registers, .inl (cy 0, 6, .inl (f_registers))), (a_words, .inl (cy 0, 48, .inl (f_words))), (ap1, .inr (6, [.ref ap1_routines, .ref ap1_ops, .ref ap1_landings, .ref ap1_calls, .ref ap1_registers, .ref ap1_words])), (ap1_routines, .inr (3, [.int (vp1_routines_width), .ref ap1_routines_cells, .int (vp1_routines_size)])), (ap1_routines_cells, .inl (cy 0, 24, .inl (fp1_routines_cells))), (ap1_ops, .inr (3, [.int (vp1_ops_width), .ref ap1_ops_cells, .int (vp1_ops_size)])), (ap1_ops_cells, .inl (cy 0, 160, .inl (fp1_ops_cells))), (ap1_landings, .inr (3, [.int (vp1_landings_width), .ref ap1_landings_cells, .int (vp1_landings_size)])), (ap1_landings_cells, .inl (cy 0, 80, .inl (fp1_landings_cells))), (ap1_calls, .inr (3, [.int (vp1_calls_width), .ref ap1_calls_cells, .int (vp1_calls_size)])), (ap1_calls_cells, .inl (cy 0, 32, .inl (fp1_calls_cells))), (ap1_registers, .inl (cy 0, 6, .inl (fp1_registers))), (ap1_words, .inl (cy 0, 48, .inl (fp1_words)))] → va_S A s.heap H locs → lv_has ls 2 [(0, .ref a), (1, .ref ap1)] → f_X6_takeAll v_routines_size f_routines_cells v_ops_size f_ops_cells v_landings_size f_landings_cells v_calls_size f_calls_cells f_registers f_words vp1_routines_size fp1_routines_cells vp1_ops_size fp1_ops_cells vp1_landings_size fp1_landings_cells vp1_calls_size fp1_calls_cells fp1_registers fp1_words = some (z_v_routines_size, z_f_routines_cells, z_v_ops_size, z_f_ops_cells, z_v_landings_size, z_f_landings_cells, z_v_calls_size, z_f_calls_cells, z_f_registers, z_f_words) → W p l e ({ frames := 3, cells := 0, slots := 0, locals := 102 } : Room) s m [.ref a, .ref ap1].toArray below meth c H locs 0 0 (MQ below (Qv D A [(a, .inr (6, [.ref a_routines, .ref a_ops, .ref a_landings, .ref a_calls, .ref a_registers, .ref a_words])), (a_routines, .inr (3, [.int (v_routines_width), .ref a_routines_cells, .int (z_v_routines_size)])), (a_routines_cells, .inl (cy 0, 24, .inl (z_f_routines_cells))), (a_ops, .inr (3, [.int (v_ops_width), .ref a_ops_cells, .int (z_v_ops_size)])), (a_ops_cells, .inl (cy 0, 160, .inl (z_f_ops_cells))), (a_landings, .inr (3, [.int (v_landings_width), .ref a_landings_cells, .int (z_v_landings_size)])), (a_landings_cells, .inl (cy 0, 80, .inl (z_f_landings_cells))), (a_calls, .inr (3, [.int (v_calls_width), .ref a_calls_cells, .int (z_v_calls_size)])), (a_calls_cells, .inl (cy 0, 32, .inl (z_f_calls_cells))), (a_registers, .inl (cy 0, 6, .inl (z_f_registers))), (a_words, .inl (cy 0, 48, .inl (z_f_words))), (ap1, .inr (6, [.ref ap1_routines, .ref ap1_ops, .ref ap1_landings, .ref ap1_calls, .ref ap1_registers, .ref ap1_words])), (ap1_routines, .inr (3, [.int (vp1_routines_width), .ref ap1_routines_cells, .int (vp1_routines_size)])), (ap1_routines_cells, .inl (cy 0, 24, .inl (fp1_routines_cells))), (ap1_ops, .inr (3, [.int (vp1_ops_width), .ref ap1_ops_cells, .int (vp1_ops_size)])), (ap1_ops_cells, .inl (cy 0, 160, .inl (fp1_ops_cells))), (ap1_landings, .inr (3, [.int (vp1_landings_width), .ref ap1_landings_cells, .int (vp1_landings_size)])), (ap1_landings_cells, .inl (cy 0, 80, .inl (fp1_landings_cells))), (ap1_calls, .inr (3, [.int (vp1_calls_width), .ref ap1_calls_cells, .int (vp1_calls_size)])), (ap1_calls_cells, .inl (cy 0, 32, .inl (fp1_calls_cells))), (ap1_registers, .inl (cy 0, 6, .inl (fp1_registers))), (ap1_words, .inl (cy 0, 48, .inl (fp1_words)))]) [.ref a, .ref ap1].toArray s 0 0 A) (F0 m 0 ls []) := by
    intro H locs ls hP hD hS hl h
    unfold f_X6_takeAll at h
    refine lv_aload_n hx hb dX6_takeAll_0 rfl (lv_at hl 0 rfl) ?_
    refine lv_aload_n hx hb dX6_takeAll_1 rfl (lv_at hl 1 rfl) ?_
    obtain ⟨m_34, m_35, m_36, m_37, m_38, m_39, m_40, m_41, hc_44, h⟩ := bn8_s h
    refine call_v (ws1 := [(a, .inr (6, [.ref a_routines, .ref a_ops, .ref a_landings, .ref a_calls, .ref a_registers, .ref a_words])), (a_routines, .inr (3, [.int (v_routines_width), .ref a_routines_cells, .int (m_34)])), (a_routines_cells, .inl (cy 0, 24, .inl (m_35))), (a_ops, .inr (3, [.int (v_ops_width), .ref a_ops_cells, .int (m_36)])), (a_ops_cells, .inl (cy 0, 160, .inl (m_37))), (a_landings, .inr (3, [.int (v_landings_width), .ref a_landings_cells, .int (m_38)])), (a_landings_cells, .inl (cy 0, 80, .inl (m_39))), (a_calls, .inr (3, [.int (v_calls_width), .ref a_calls_cells, .int (m_40)])), (a_calls_cells, .inl (cy 0, 32, .inl (m_41))), (a_registers, .inl (cy 0, 6, .inl (f_registers))), (a_words, .inl (cy 0, 48, .inl (f_words))), (ap1, .inr (6, [.ref ap1_routines, .ref ap1_ops, .ref ap1_landings, .ref ap1_calls, .ref ap1_registers, .ref ap1_words])), (ap1_routines, .inr (3, [.int (vp1_routines_width), .ref ap1_routines_cells, .int (vp1_routines_size)])), (ap1_routines_cells, .inl (cy 0, 24, .inl (fp1_routines_cells))), (ap1_ops, .inr (3, [.int (vp1_ops_width), .ref ap1_ops_cells, .int (vp1_ops_size)])), (ap1_ops_cells, .inl (cy 0, 160, .inl (fp1_ops_cells))), (ap1_landings, .inr (3, [.int (vp1_landings_width), .ref ap1_landings_cells, .int (vp1_landings_size)])), (ap1_landings_cells, .inl (cy 0, 80, .inl (fp1_landings_cells))), (ap1_calls, .inr (3, [.int (vp1_calls_width), .ref ap1_calls_cells, .int (vp1_calls_size)])), (ap1_calls_cells, .inl (cy 0, 32, .inl (fp1_calls_cells))), (ap1_registers, .inl (cy 0, 6, .inl (fp1_registers))), (ap1_words, .inl (cy 0, 48, .inl (fp1_words)))]) (wr := [(a_registers, .inl (cy 0, 6, .inl (f_registers))), (a_words, .inl (cy 0, 48, .inl (f_words))), (ap1_registers, .inl (cy 0, 6, .inl (fp1_registers))), (ap1_words, .inl (cy 0, 48, .inl (fp1_words)))]) (run_V ⟨hx, hb, hml, hown, hts⟩ ((c_X6_takeTables l D cy a a_routines a_ops a_landings a_calls a_registers a_words a_routines_cells a_ops_cells a_landings_cells a_calls_cells ap1 ap1_routines ap1_ops ap1_landings ap1_calls ap1_registers ap1_words ap1_routines_cells ap1_ops_cells ap1_landings_cells ap1_calls_cells (v_routines_width) (v_routines_size) (f_routines_cells) (v_ops_width) (v_ops_size) (f_ops_cells) (v_landings_width) (v_landings_size) (f_landings_cells) (v_calls_width) (v_calls_size) (f_calls_cells) (vp1_routines_width) (vp1_routines_size) (fp1_routines_cells) (vp1_ops_width) (vp1_ops_size) (fp1_ops_cells) (vp1_landings_width) (vp1_landings_size) (fp1_landings_cells) (vp1_calls_width) (vp1_calls_size) (fp1_calls_cells) m_34 m_35 m_36 m_37 m_38 m_39 m_40 m_41 hc_44) H.size) (cwV 1 hts gX6_takeAll_X6_takeTables rfl rfl rfl hd_X6_takeTables ⟨Nat.le_of_ble_eq_true rfl, Nat.le_of_ble_eq_true rfl⟩) KK.calling (fun U _ hW => hK.warm hW) hK.1 hP hD [0, 1, 2, 3, 4, 5, 6, 7, 8, 11, 12, 13, 14, 15, 16, 17, 18, 19] [9, 10, 20, 21] [4, 5, 6, 7, 8, 9, 10, 11, 12, 0, 1, 13, 14, 15, 16, 17, 18, 19, 20, 21, 2, 3] rfl rfl 0 6 rfl rfl rfl rfl hl.1 rfl (lv_room (Nat.le_of_ble_eq_true rfl)) dX6_takeAll_2) hP hD hS hA [0, 1, 2, 3, 4, 5, 6, 7, 8, 11, 12, 13, 14, 15, 16, 17, 18, 19] [9, 10, 20, 21] [4, 5, 6, 7, 8, 9, 10, 11, 12, 0, 1, 13, 14, 15, 16, 17, 18, 19, 20, 21, 2, 3] rfl rfl rfl rfl (fun H locs hP hD hS => ?_)
    refine lv_aload_n hx hb dX6_takeAll_5 rfl (lv_at hl 1 rfl) ?_
    refine va_get (D := D) (ci := 6) (v := .ref ap1_registers) (C := RX6) (T := TX6) (N := 6) hx hb hts hinX6 hown hK.1 hP 11 rfl rfl 4 (by decide) (hts (.fieldLink RX6 29 "FrameWalks$World" "registers" "[I") (List.mem_of_getElem? (i := 1) rfl)) (fun _ h9 => h9) rfl dX6_takeAll_6 ?_
    refine lv_iconst (v := (0 : Int32)) hx hb dX6_takeAll_9 (by decide) ?_
    refine lv_aload_n hx hb dX6_takeAll_10 rfl (lv_at hl 0 rfl) ?_
    refine va_get (D := D) (ci := 6) (v := .ref a_registers) (C := RX6) (T := TX6) (N := 6) hx hb hts hinX6 hown hK.1 hP 0 rfl rfl 4 (by decide) (hts (.fieldLink RX6 29 "FrameWalks$World" "registers" "[I") (List.mem_of_getElem? (i := 1) rfl)) (fun _ h9 => h9) rfl dX6_takeAll_11 ?_
    refine lv_iconst (v := (0 : Int32)) hx hb dX6_takeAll_14 (by decide) ?_
    refine lv_bipush (v := (6 : Int32)) hx hb dX6_takeAll_15 (by decide) ?_
    obtain ⟨y_43, h⟩ := ck_s h
    refine va_copyi hx hb (hml.trans hl.1.symm) hown (hts (.methodLink RX6 48 arraycopyName) (List.mem_of_getElem? (i := 2) rfl)) (hts (.native arraycopyName) (List.mem_of_getElem? (i := 3) rfl)) (hts (.static arraycopyName) (List.mem_of_getElem? (i := 4) rfl)) (hts (.initialized "java/lang/System") (List.mem_of_getElem? (i := 5) rfl)) hK.1 hP hD hS 20 9 0 0 (ty := .int) rfl rfl rfl rfl rfl y_43.1 y_43.2.1 y_43.2.2.1 y_43.2.2.2.1 y_43.2.2.2.2 (fun _ _ => rfl) (Nat.le_of_ble_eq_true rfl) (Nat.le_of_ble_eq_true (by decide +kernel)) dX6_takeAll_17 (fun H locs hP hD hS => ?_)
    have hP : va_P D vwCl [(a, .inr (6, [.ref a_routines, .ref a_ops, .ref a_landings, .ref a_calls, .ref a_registers, .ref a_words])), (a_routines, .inr (3, [.int (v_routines_width), .ref a_routines_cells, .int (m_34)])), (a_routines_cells, .inl (cy 0, 24, .inl (m_35))), (a_ops, .inr (3, [.int (v_ops_width), .ref a_ops_cells, .int (m_36)])), (a_ops_cells, .inl (cy 0, 160, .inl (m_37))), (a_landings, .inr (3, [.int (v_landings_width), .ref a_landings_cells, .int (m_38)])), (a_landings_cells, .inl (cy 0, 80, .inl (m_39))), (a_calls, .inr (3, [.int (v_calls_width), .ref a_calls_cells, .int (m_40)])), (a_calls_cells, .inl (cy 0, 32, .inl (m_41))), (a_registers, .inl (cy 0, 6, .inl (va_cpy fp1_registers f_registers ((0 : Int32)).toNatClampNeg ((0 : Int32)).toNatClampNeg ((6 : Int32)).toNatClampNeg))), (a_words, .inl (cy 0, 48, .inl (f_words))), (ap1, .inr (6, [.ref ap1_routines, .ref ap1_ops, .ref ap1_landings, .ref ap1_calls, .ref ap1_registers, .ref ap1_words])), (ap1_routines, .inr (3, [.int (vp1_routines_width), .ref ap1_routines_cells, .int (vp1_routines_size)])), (ap1_routines_cells, .inl (cy 0, 24, .inl (fp1_routines_cells))), (ap1_ops, .inr (3, [.int (vp1_ops_width), .ref ap1_ops_cells, .int (vp1_ops_size)])), (ap1_ops_cells, .inl (cy 0, 160, .inl (fp1_ops_cells))), (ap1_landings, .inr (3, [.int (vp1_landings_width), .ref ap1_landings_cells, .int (vp1_landings_size)])), (ap1_landings_cells, .inl (cy 0, 80, .inl (fp1_landings_cells))), (ap1_calls, .inr (3, [.int (vp1_calls_width), .ref ap1_calls_cells, .int (vp1_calls_size)])), (ap1_calls_cells, .inl (cy 0, 32, .inl (fp1_calls_cells))), (ap1_registers, .inl (cy 0, 6, .inl (fp1_registers))), (ap1_words, .inl (cy 0, 48, .inl (fp1_words)))] H := hP
    have hD : va_D A [(a, .inr (6, [.ref a_routines, .ref a_ops, .ref a_landings, .ref a_calls, .ref a_registers, .ref a_words])), (a_routines, .inr (3, [.int (v_routines_width), .ref a_routines_cells, .int (m_34)])), (a_routines_cells, .inl (cy 0, 24, .inl (m_35))), (a_ops, .inr (3, [.int (v_ops_width), .ref a_ops_cells, .int (m_36)])), (a_ops_cells, .inl (cy 0, 160, .inl (m_37))), (a_landings, .inr (3, [.int (v_landings_width), .ref a_landings_cells, .int (m_38)])), (a_landings_cells, .inl (cy 0, 80, .inl (m_39))), (a_calls, .inr (3, [.int (v_calls_width), .ref a_calls_cells, .int (m_40)])), (a_calls_cells, .inl (cy 0, 32, .inl (m_41))), (a_registers, .inl (cy 0, 6, .inl (va_cpy fp1_registers f_registers ((0 : Int32)).toNatClampNeg ((0 : Int32)).toNatClampNeg ((6 : Int32)).toNatClampNeg))), (a_words, .inl (cy 0, 48, .inl (f_words))), (ap1, .inr (6, [.ref ap1_routines, .ref ap1_ops, .ref ap1_landings, .ref ap1_calls, .ref ap1_registers, .ref ap1_words])), (ap1_routines, .inr (3, [.int (vp1_routines_width), .ref ap1_routines_cells, .int (vp1_routines_size)])), (ap1_routines_cells, .inl (cy 0, 24, .inl (fp1_routines_cells))), (ap1_ops, .inr (3, [.int (vp1_ops_width), .ref ap1_ops_cells, .int (vp1_ops_size)])), (ap1_ops_cells, .inl (cy 0, 160, .inl (fp1_ops_cells))), (ap1_landings, .inr (3, [.int (vp1_landings_width), .ref ap1_landings_cells, .int (vp1_landings_size)])), (ap1_landings_cells, .inl (cy 0, 80, .inl (fp1_landings_cells))), (ap1_calls, .inr (3, [.int (vp1_calls_width), .ref ap1_calls_cells, .int (vp1_calls_size)])), (ap1_calls_cells, .inl (cy 0, 32, .inl (fp1_calls_cells))), (ap1_registers, .inl (cy 0, 6, .inl (fp1_registers))), (ap1_words, .inl (cy 0, 48, .inl (fp1_words)))] := hD
    refine lv_aload_n hx hb dX6_takeAll_20 rfl (lv_at hl 1 rfl) ?_
    refine va_get (D := D) (ci := 6) (v := .ref ap1_words) (C := RX6) (T := TX6) (N := 6) hx hb hts hinX6 hown hK.1 hP 11 rfl rfl 5 (by decide) (hts (.fieldLink RX6 33 "FrameWalks$World" "words" "[I") (List.mem_of_getElem? (i := 6) rfl)) (fun _ h9 => h9) rfl dX6_takeAll_21 ?_
    refine lv_iconst (v := (0 : Int32)) hx hb dX6_takeAll_24 (by decide) ?_
    refine lv_aload_n hx hb dX6_takeAll_25 rfl (lv_at hl 0 rfl) ?_
    refine va_get (D := D) (ci := 6) (v := .ref a_words) (C := RX6) (T := TX6) (N := 6) hx hb hts hinX6 hown hK.1 hP 0 rfl rfl 5 (by decide) (hts (.fieldLink RX6 33 "FrameWalks$World" "words" "[I") (List.mem_of_getElem? (i := 6) rfl)) (fun _ h9 => h9) rfl dX6_takeAll_26 ?_
    refine lv_iconst (v := (0 : Int32)) hx hb dX6_takeAll_29 (by decide) ?_
    refine lv_bipush (v := (48 : Int32)) hx hb dX6_takeAll_30 (by decide) ?_
    obtain ⟨y_42, h⟩ := ck_s h
    refine va_copyi hx hb (hml.trans hl.1.symm) hown (hts (.methodLink RX6 48 arraycopyName) (List.mem_of_getElem? (i := 2) rfl)) (hts (.native arraycopyName) (List.mem_of_getElem? (i := 3) rfl)) (hts (.static arraycopyName) (List.mem_of_getElem? (i := 4) rfl)) (hts (.initialized "java/lang/System") (List.mem_of_getElem? (i := 5) rfl)) hK.1 hP hD hS 21 10 0 0 (ty := .int) rfl rfl rfl rfl rfl y_42.1 y_42.2.1 y_42.2.2.1 y_42.2.2.2.1 y_42.2.2.2.2 (fun _ _ => rfl) (Nat.le_of_ble_eq_true rfl) (Nat.le_of_ble_eq_true (by decide +kernel)) dX6_takeAll_32 (fun H locs hP hD hS => ?_)
    have hP : va_P D vwCl [(a, .inr (6, [.ref a_routines, .ref a_ops, .ref a_landings, .ref a_calls, .ref a_registers, .ref a_words])), (a_routines, .inr (3, [.int (v_routines_width), .ref a_routines_cells, .int (m_34)])), (a_routines_cells, .inl (cy 0, 24, .inl (m_35))), (a_ops, .inr (3, [.int (v_ops_width), .ref a_ops_cells, .int (m_36)])), (a_ops_cells, .inl (cy 0, 160, .inl (m_37))), (a_landings, .inr (3, [.int (v_landings_width), .ref a_landings_cells, .int (m_38)])), (a_landings_cells, .inl (cy 0, 80, .inl (m_39))), (a_calls, .inr (3, [.int (v_calls_width), .ref a_calls_cells, .int (m_40)])), (a_calls_cells, .inl (cy 0, 32, .inl (m_41))), (a_registers, .inl (cy 0, 6, .inl (va_cpy fp1_registers f_registers ((0 : Int32)).toNatClampNeg ((0 : Int32)).toNatClampNeg ((6 : Int32)).toNatClampNeg))), (a_words, .inl (cy 0, 48, .inl (va_cpy fp1_words f_words ((0 : Int32)).toNatClampNeg ((0 : Int32)).toNatClampNeg ((48 : Int32)).toNatClampNeg))), (ap1, .inr (6, [.ref ap1_routines, .ref ap1_ops, .ref ap1_landings, .ref ap1_calls, .ref ap1_registers, .ref ap1_words])), (ap1_routines, .inr (3, [.int (vp1_routines_width), .ref ap1_routines_cells, .int (vp1_routines_size)])), (ap1_routines_cells, .inl (cy 0, 24, .inl (fp1_routines_cells))), (ap1_ops, .inr (3, [.int (vp1_ops_width), .ref ap1_ops_cells, .int (vp1_ops_size)])), (ap1_ops_cells, .inl (cy 0, 160, .inl (fp1_ops_cells))), (ap1_landings, .inr (3, [.int (vp1_landings_width), .ref ap1_landings_cells, .int (vp1_landings_size)])), (ap1_landings_cells, .inl (cy 0, 80, .inl (fp1_landings_cells))), (ap1_calls, .inr (3, [.int (vp1_calls_width), .ref ap1_calls_cells, .int (vp1_calls_size)])), (ap1_calls_cells, .inl (cy 0, 32, .inl (fp1_calls_cells))), (ap1_registers, .inl (cy 0, 6, .inl (fp1_registers))), (ap1_words, .inl (cy 0, 48, .inl (fp1_words)))] H := hP
    have hD : va_D A [(a, .inr (6, [.ref a_routines, .ref a_ops, .ref a_landings, .ref a_calls, .ref a_registers, .ref a_words])), (a_routines, .inr (3, [.int (v_routines_width), .ref a_routines_cells, .int (m_34)])), (a_routines_cells, .inl (cy 0, 24, .inl (m_35))), (a_ops, .inr (3, [.int (v_ops_width), .ref a_ops_cells, .int (m_36)])), (a_ops_cells, .inl (cy 0, 160, .inl (m_37))), (a_landings, .inr (3, [.int (v_landings_width), .ref a_landings_cells, .int (m_38)])), (a_landings_cells, .inl (cy 0, 80, .inl (m_39))), (a_calls, .inr (3, [.int (v_calls_width), .ref a_calls_cells, .int (m_40)])), (a_calls_cells, .inl (cy 0, 32, .inl (m_41))), (a_registers, .inl (cy 0, 6, .inl (va_cpy fp1_registers f_registers ((0 : Int32)).toNatClampNeg ((0 : Int32)).toNatClampNeg ((6 : Int32)).toNatClampNeg))), (a_words, .inl (cy 0, 48, .inl (va_cpy fp1_words f_words ((0 : Int32)).toNatClampNeg ((0 : Int32)).toNatClampNeg ((48 : Int32)).toNatClampNeg))), (ap1, .inr (6, [.ref ap1_routines, .ref ap1_ops, .ref ap1_landings, .ref ap1_calls, .ref ap1_registers, .ref ap1_words])), (ap1_routines, .inr (3, [.int (vp1_routines_width), .ref ap1_routines_cells, .int (vp1_routines_size)])), (ap1_routines_cells, .inl (cy 0, 24, .inl (fp1_routines_cells))), (ap1_ops, .inr (3, [.int (vp1_ops_width), .ref ap1_ops_cells, .int (vp1_ops_size)])), (ap1_ops_cells, .inl (cy 0, 160, .inl (fp1_ops_cells))), (ap1_landings, .inr (3, [.int (vp1_landings_width), .ref ap1_landings_cells, .int (vp1_landings_size)])), (ap1_landings_cells, .inl (cy 0, 80, .inl (fp1_landings_cells))), (ap1_calls, .inr (3, [.int (vp1_calls_width), .ref ap1_calls_cells, .int (vp1_calls_size)])), (ap1_calls_cells, .inl (cy 0, 32, .inl (fp1_calls_cells))), (ap1_registers, .inl (cy 0, 6, .inl (fp1_registers))), (ap1_words, .inl (cy 0, 48, .inl (fp1_words)))] := hD
    obtain ⟨e0, e1, e2, e3, e4, e5, e6, e7, e8, e9⟩ := tp10_s h
    exact Mv.ret' hx hb hr hlocks (by rw [← e0, ← e1, ← e2, ← e3, ← e4, ← e5, ← e6, ← e7, ← e8, ← e9]) hP hD hS dX6_takeAll_35
  exact main s.heap [] ls hP hD va_S.rf hl h
theorem hd_X6_addressesHad : yX6_addressesHad.cls = RX6 ∧ yX6_addressesHad.cls ≠ "java/lang/invoke/MethodHandle" ∧ yX6_addressesHad.cls ≠ "java/lang/invoke/VarHandle" ∧ (parseMethodDescriptor yX6_addressesHad.desc).map (fun d => d.parameters.length) = some 0 := by decide +kernel
def f_X6_addressesHad_L4 (v_routines_width : Int32) (v_routines_size : Int32) (f_routines_cells : Nat → Int32) : Nat → Int32 → Int32 → Option (Int32)
  | 0, _, _ => none
  | n + 1, y1, y2 => (if v_routines_size ≤ y2 then (some y1) else (bn1 (f_X3_at (y2) ((1 : Int32)) (v_routines_width) (v_routines_size) 24 (f_routines_cells)) (fun r_17 => (bn1 (f_X3_at (y2) ((0 : Int32)) (v_routines_width) (v_routines_size) 24 (f_routines_cells)) (fun r_18 => ((f_X6_addressesHad_L4 v_routines_width v_routines_size f_routines_cells  n) (y1 + ((r_17 - r_18) + (1 : Int32))) (y2 + (1 : Int32))))))))
def f_X6_addressesHad (v_routines_width : Int32) (v_routines_size : Int32) (f_routines_cells : Nat → Int32) : Option (Int32) := (f_X6_addressesHad_L4 v_routines_width v_routines_size f_routines_cells  FUEL ((0 : Int32)) ((0 : Int32)))
set_option maxHeartbeats 4000000 in
set_option maxRecDepth 100000 in
theorem c_X6_addressesHad (l : Launch) (D : va_G) (cy : Nat → ClassId) (a a_routines a_ops a_landings a_calls a_registers a_words a_routines_cells : Nat) (v_routines_width : Int32) (v_routines_size : Int32) (f_routines_cells : Nat → Int32) (res : Int32) (h : f_X6_addressesHad v_routines_width v_routines_size f_routines_cells = some res) : Mi l yX6_addressesHad wsX6_addressesHad ({ frames := 1, cells := 0, slots := 0, locals := 22 } : Room) (KK D cy) D [.ref a] [(a, .inr (6, [.ref a_routines, .ref a_ops, .ref a_landings, .ref a_calls, .ref a_registers, .ref a_words])), (a_routines, .inr (3, [.int (v_routines_width), .ref a_routines_cells, .int (v_routines_size)])), (a_routines_cells, .inl (cy 0, 24, .inl (f_routines_cells)))] [(a, .inr (6, [.ref a_routines, .ref a_ops, .ref a_landings, .ref a_calls, .ref a_registers, .ref a_words])), (a_routines, .inr (3, [.int (v_routines_width), .ref a_routines_cells, .int (v_routines_size)])), (a_routines_cells, .inl (cy 0, 24, .inl (f_routines_cells)))] res := by
  intro sz
  refine Met.mk0 (cc := cX6_addressesHad) (maxL := 3) (ret := (some .int)) (Qc := fun A => Qi D A [(a, .inr (6, [.ref a_routines, .ref a_ops, .ref a_landings, .ref a_calls, .ref a_registers, .ref a_words])), (a_routines, .inr (3, [.int (v_routines_width), .ref a_routines_cells, .int (v_routines_size)])), (a_routines_cells, .inl (cy 0, 24, .inl (f_routines_cells)))] res) (by decide) rfl (Nat.le_of_ble_eq_true rfl) ?_
  intro p e s m below meth c A ls hx hb hml hown hts hr hlocks hK hP hD hA hl
  have hown : s.vm.findClass RX6 = some m.cls := hown
  have hl : lv_has ls 3 [(0, .ref a)] := hl
  have hinX6 : ∀ w ∈ u_ws RX6 TX6 6, w ∈ wsX6_addressesHad := (fun w h => List.mem_cons_of_mem _ (List.mem_append_left _ (List.mem_append_right _ h)))
  have hinX3 : ∀ w ∈ u_ws RX3 TX3 3, w ∈ wsX6_addressesHad := (fun w h => List.mem_cons_of_mem _ (List.mem_append_right _ h))
  have hL4 : ∀ (n4 : Nat) (y1 : Int32) (y2 : Int32) (H : Heap) (locs : List Loc) (ls : Array Slot), va_P D vwCl [(a, .inr (6, [.ref a_routines, .ref a_ops, .ref a_landings, .ref a_calls, .ref a_registers, .ref a_words])), (a_routines, .inr (3, [.int (v_routines_width), .ref a_routines_cells, .int (v_routines_size)])), (a_routines_cells, .inl (cy 0, 24, .inl (f_routines_cells)))] H → va_D A [(a, .inr (6, [.ref a_routines, .ref a_ops, .ref a_landings, .ref a_calls, .ref a_registers, .ref a_words])), (a_routines, .inr (3, [.int (v_routines_width), .ref a_routines_cells, .int (v_routines_size)])), (a_routines_cells, .inl (cy 0, 24, .inl (f_routines_cells)))] → va_S A s.heap H locs → lv_has ls 3 [(0, .ref a), (1, .int (y1)), (2, .int (y2))] → f_X6_addressesHad_L4 v_routines_width v_routines_size f_routines_cells  n4 y1 y2 = some res → W p l e ({ frames := 1, cells := 0, slots := 0, locals := 22 } : Room) s m [.ref a].toArray below meth c H locs 0 0 (MQ below (Qi D A [(a, .inr (6, [.ref a_routines, .ref a_ops, .ref a_landings, .ref a_calls, .ref a_registers, .ref a_words])), (a_routines, .inr (3, [.int (v_routines_width), .ref a_routines_cells, .int (v_routines_size)])), (a_routines_cells, .inl (cy 0, 24, .inl (f_routines_cells)))] res) [.ref a].toArray s 0 0 A) (F0 m 4 ls []) := by
    intro n4
    induction n4 with
    | zero =>
      intro y1 y2 H locs ls hP hD hS hl h
      cases (id h : (none : Option (Int32)) = some _)
    | succ n4 ih4 =>
      intro y1 y2 H locs ls hP hD hS hl h
      rw [f_X6_addressesHad_L4] at h
      refine lv_iload_n hx hb dX6_addressesHad_4 rfl (lv_at hl 2 rfl) ?_
      refine lv_aload_n hx hb dX6_addressesHad_5 rfl (lv_at hl 0 rfl) ?_
      refine va_get (D := D) (ci := 6) (v := .ref a_routines) (C := RX6) (T := TX6) (N := 6) hx hb hts hinX6 hown hK.1 hP 0 rfl rfl 0 (by decide) (hts (.fieldLink RX6 14 "FrameWalks$World" "routines" "LFrameWalks$Table;") (List.mem_of_getElem? (i := 1) rfl)) (fun _ h9 => h9) rfl dX6_addressesHad_6 ?_
      refine va_getN (D := D) (ci := 3) (v := .int (v_routines_size)) (C := RX3) (T := TX3) (N := 3) hx hb hts hinX3 hown hK.1 hP 1 rfl rfl 2 (by decide) ((hK.2.1 _ (List.mem_of_getElem? (i := 0) rfl)).use rfl) (fun _ h9 => h9) rfl dX6_addressesHad_9 ?_
      refine lv_icmp_ge (tgt := 45) hx hb dX6_addressesHad_12 (by decide) (fun c_16 => ?_) (fun c_16 => ?_)
      · have h := ift c_16 h
        refine lv_iload_n hx hb dX6_addressesHad_45 rfl (lv_at hl 1 rfl) ?_
        have e0 := Option.some.inj h
        exact Mi.ret' hx hb hr hlocks e0 rfl hP hD hS dX6_addressesHad_46
      · have h := ifn c_16 h
        refine lv_iload_n hx hb dX6_addressesHad_15 rfl (lv_at hl 1 rfl) ?_
        refine lv_aload_n hx hb dX6_addressesHad_16 rfl (lv_at hl 0 rfl) ?_
        refine va_get (D := D) (ci := 6) (v := .ref a_routines) (C := RX6) (T := TX6) (N := 6) hx hb hts hinX6 hown hK.1 hP 0 rfl rfl 0 (by decide) (hts (.fieldLink RX6 14 "FrameWalks$World" "routines" "LFrameWalks$Table;") (List.mem_of_getElem? (i := 1) rfl)) (fun _ h9 => h9) rfl dX6_addressesHad_17 ?_
        refine lv_iload_n hx hb dX6_addressesHad_20 rfl (lv_at hl 2 rfl) ?_
        refine lv_iconst (v := (1 : Int32)) hx hb dX6_addressesHad_21 (by decide) ?_
        obtain ⟨r_17, hc_20, h⟩ := bn1_s h
        refine call_i (ws1 := [(a, .inr (6, [.ref a_routines, .ref a_ops, .ref a_landings, .ref a_calls, .ref a_registers, .ref a_words])), (a_routines, .inr (3, [.int (v_routines_width), .ref a_routines_cells, .int (v_routines_size)])), (a_routines_cells, .inl (cy 0, 24, .inl (f_routines_cells)))]) (wr := [(a, .inr (6, [.ref a_routines, .ref a_ops, .ref a_landings, .ref a_calls, .ref a_registers, .ref a_words]))]) (run_V ⟨hx, hb, hml, hown, hts⟩ ((c_X3_at l D cy a_routines a_routines_cells (v_routines_width) (v_routines_size) 24 (f_routines_cells) (y2) ((1 : Int32)) r_17 hc_20) H.size) (cwV 2 hts gX6_addressesHad_X3_at rfl rfl rfl hd_X3_at ⟨Nat.le_of_ble_eq_true rfl, Nat.le_of_ble_eq_true rfl⟩) KK.calling (fun U _ hW => hK.warm hW) hK.1 hP hD [1, 2] [0] [0, 1, 2] rfl rfl 1 3 rfl rfl rfl rfl hl.1 rfl (lv_room (Nat.le_of_ble_eq_true rfl)) dX6_addressesHad_22) hP hD hS hA [1, 2] [0] [0, 1, 2] rfl rfl rfl rfl (fun H locs hP hD hS => ?_)
        refine lv_aload_n hx hb dX6_addressesHad_25 rfl (lv_at hl 0 rfl) ?_
        refine va_get (D := D) (ci := 6) (v := .ref a_routines) (C := RX6) (T := TX6) (N := 6) hx hb hts hinX6 hown hK.1 hP 0 rfl rfl 0 (by decide) (hts (.fieldLink RX6 14 "FrameWalks$World" "routines" "LFrameWalks$Table;") (List.mem_of_getElem? (i := 1) rfl)) (fun _ h9 => h9) rfl dX6_addressesHad_26 ?_
        refine lv_iload_n hx hb dX6_addressesHad_29 rfl (lv_at hl 2 rfl) ?_
        refine lv_iconst (v := (0 : Int32)) hx hb dX6_addressesHad_30 (by decide) ?_
        obtain ⟨r_18, hc_19, h⟩ := bn1_s h
        refine call_i (ws1 := [(a, .inr (6, [.ref a_routines, .ref a_ops, .ref a_landings, .ref a_calls, .ref a_registers, .ref a_words])), (a_routines, .inr (3, [.int (v_routines_width), .ref a_routines_cells, .int (v_routines_size)])), (a_routines_cells, .inl (cy 0, 24, .inl (f_routines_cells)))]) (wr := [(a, .inr (6, [.ref a_routines, .ref a_ops, .ref a_landings, .ref a_calls, .ref a_registers, .ref a_words]))]) (run_V ⟨hx, hb, hml, hown, hts⟩ ((c_X3_at l D cy a_routines a_routines_cells (v_routines_width) (v_routines_size) 24 (f_routines_cells) (y2) ((0 : Int32)) r_18 hc_19) H.size) (cwV 2 hts gX6_addressesHad_X3_at rfl rfl rfl hd_X3_at ⟨Nat.le_of_ble_eq_true rfl, Nat.le_of_ble_eq_true rfl⟩) KK.calling (fun U _ hW => hK.warm hW) hK.1 hP hD [1, 2] [0] [0, 1, 2] rfl rfl 1 3 rfl rfl rfl rfl hl.1 rfl (lv_room (Nat.le_of_ble_eq_true rfl)) dX6_addressesHad_31) hP hD hS hA [1, 2] [0] [0, 1, 2] rfl rfl rfl rfl (fun H locs hP hD hS => ?_)
        refine lv_isub hx hb dX6_addressesHad_34 ?_
        refine lv_iconst (v := (1 : Int32)) hx hb dX6_addressesHad_35 (by decide) ?_
        refine lv_iadd hx hb dX6_addressesHad_36 ?_
        refine lv_iadd hx hb dX6_addressesHad_37 ?_
        refine lv_istore_n (lv' := [(1, .int (y1 + ((r_17 - r_18) + (1 : Int32)))), (0, .ref a), (2, .int (y2))]) hx hb dX6_addressesHad_38 rfl hl (by decide) rfl (fun ls hl => ?_)
        refine lv_iinc (v := y2 + (1 : Int32)) (lv' := [(2, .int (y2 + (1 : Int32))), (1, .int (y1 + ((r_17 - r_18) + (1 : Int32)))), (0, .ref a)]) hx hb dX6_addressesHad_39 hl (k := 2) rfl rfl (by decide) rfl (fun ls hl => ?_)
        refine lv_goto (tgt := 4) hx hb dX6_addressesHad_42 (by decide) ?_
        exact ih4 (y1 + ((r_17 - r_18) + (1 : Int32))) (y2 + (1 : Int32)) H locs ls hP hD hS (lv_sub hl [2, 1, 0] rfl) h
  have main : ∀ (H : Heap) (locs : List Loc) (ls : Array Slot), va_P D vwCl [(a, .inr (6, [.ref a_routines, .ref a_ops, .ref a_landings, .ref a_calls, .ref a_registers, .ref a_words])), (a_routines, .inr (3, [.int (v_routines_width), .ref a_routines_cells, .int (v_routines_size)])), (a_routines_cells, .inl (cy 0, 24, .inl (f_routines_cells)))] H → va_D A [(a, .inr (6, [.ref a_routines, .ref a_ops, .ref a_landings, .ref a_calls, .ref a_registers, .ref a_words])), (a_routines, .inr (3, [.int (v_routines_width), .ref a_routines_cells, .int (v_routines_size)])), (a_routines_cells, .inl (cy 0, 24, .inl (f_routines_cells)))] → va_S A s.heap H locs → lv_has ls 3 [(0, .ref a)] → f_X6_addressesHad v_routines_width v_routines_size f_routines_cells = some res → W p l e ({ frames := 1, cells := 0, slots := 0, locals := 22 } : Room) s m [.ref a].toArray below meth c H locs 0 0 (MQ below (Qi D A [(a, .inr (6, [.ref a_routines, .ref a_ops, .ref a_landings, .ref a_calls, .ref a_registers, .ref a_words])), (a_routines, .inr (3, [.int (v_routines_width), .ref a_routines_cells, .int (v_routines_size)])), (a_routines_cells, .inl (cy 0, 24, .inl (f_routines_cells)))] res) [.ref a].toArray s 0 0 A) (F0 m 0 ls []) := by
    intro H locs ls hP hD hS hl h
    unfold f_X6_addressesHad at h
    refine lv_iconst (v := (0 : Int32)) hx hb dX6_addressesHad_0 (by decide) ?_
    refine lv_istore_n (lv' := [(1, .int ((0 : Int32))), (0, .ref a)]) hx hb dX6_addressesHad_1 rfl hl (by decide) rfl (fun ls hl => ?_)
    refine lv_iconst (v := (0 : Int32)) hx hb dX6_addressesHad_2 (by decide) ?_
    refine lv_istore_n (lv' := [(2, .int ((0 : Int32))), (1, .int ((0 : Int32))), (0, .ref a)]) hx hb dX6_addressesHad_3 rfl hl (by decide) rfl (fun ls hl => ?_)
    exact hL4 FUEL ((0 : Int32)) ((0 : Int32)) H locs ls hP hD hS (lv_sub hl [2, 1, 0] rfl) h
  exact main s.heap [] ls hP hD va_S.rf hl h
theorem hd_X7_isNumber : yX7_isNumber.cls = RX7 ∧ yX7_isNumber.cls ≠ "java/lang/invoke/MethodHandle" ∧ yX7_isNumber.cls ≠ "java/lang/invoke/VarHandle" ∧ (parseMethodDescriptor yX7_isNumber.desc).map (fun d => d.parameters.length) = some 1 := by decide +kernel
def f_X7_isNumber (x0 : Int32) : Option (Int32) := (if x0 < 0 then (some ((0 : Int32))) else (if (9999 : Int32) < x0 then (some ((0 : Int32))) else (some ((1 : Int32)))))
set_option maxHeartbeats 4000000 in
set_option maxRecDepth 100000 in
theorem c_X7_isNumber (l : Launch) (D : va_G) (cy : Nat → ClassId) (x0 : Int32) (res : Int32) (h : f_X7_isNumber x0 = some res) : Mi l yX7_isNumber wsX7_isNumber ({ frames := 0, cells := 0, slots := 0, locals := 0 } : Room) (KK D cy) D [.int (x0)] [] [] res := by
  intro sz
  refine Met.mk0 (cc := cX7_isNumber) (maxL := 1) (ret := (some .boolean)) (Qc := fun A => Qi D A [] res) (by decide) rfl (Nat.le_of_ble_eq_true rfl) ?_
  intro p e s m below meth c A ls hx hb hml hown hts hr hlocks hK hP hD hA hl
  have hown : s.vm.findClass RX7 = some m.cls := hown
  have hl : lv_has ls 1 [(0, .int (x0))] := hl
  have main : ∀ (H : Heap) (locs : List Loc) (ls : Array Slot), va_P D vwCl [] H → va_D A [] → va_S A s.heap H locs → lv_has ls 1 [(0, .int (x0))] → f_X7_isNumber x0 = some res → W p l e ({ frames := 0, cells := 0, slots := 0, locals := 0 } : Room) s m [.int (x0)].toArray below meth c H locs 0 0 (MQ below (Qi D A [] res) [.int (x0)].toArray s 0 0 A) (F0 m 0 ls []) := by
    intro H locs ls hP hD hS hl h
    unfold f_X7_isNumber at h
    refine lv_iload_n hx hb dX7_isNumber_0 rfl (lv_at hl 0 rfl) ?_
    refine lv_if_lt (tgt := 15) hx hb dX7_isNumber_1 (by decide) (fun c_7 => ?_) (fun c_7 => ?_)
    · have h := ift c_7 h
      refine lv_iconst (v := (0 : Int32)) hx hb dX7_isNumber_15 (by decide) ?_
      have e0 := Option.some.inj h
      exact Mi.retz' hx hb hr hlocks (Or.inl rfl) e0 rfl hP hD hS dX7_isNumber_16
    · have h := ifn c_7 h
      refine lv_iload_n hx hb dX7_isNumber_4 rfl (lv_at hl 0 rfl) ?_
      refine lv_sipush (v := (9999 : Int32)) hx hb dX7_isNumber_5 (by decide) ?_
      refine lv_icmp_gt (tgt := 15) hx hb dX7_isNumber_8 (by decide) (fun c_8 => ?_) (fun c_8 => ?_)
      · have h := ift c_8 h
        refine lv_iconst (v := (0 : Int32)) hx hb dX7_isNumber_15 (by decide) ?_
        have e0 := Option.some.inj h
        exact Mi.retz' hx hb hr hlocks (Or.inl rfl) e0 rfl hP hD hS dX7_isNumber_16
      · have h := ifn c_8 h
        refine lv_iconst (v := (1 : Int32)) hx hb dX7_isNumber_11 (by decide) ?_
        refine lv_goto (tgt := 16) hx hb dX7_isNumber_12 (by decide) ?_
        have e0 := Option.some.inj h
        exact Mi.retz' hx hb hr hlocks (Or.inr rfl) e0 rfl hP hD hS dX7_isNumber_16
  exact main s.heap [] ls hP hD va_S.rf hl h
theorem hd_X7_isGuessable : yX7_isGuessable.cls = RX7 ∧ yX7_isGuessable.cls ≠ "java/lang/invoke/MethodHandle" ∧ yX7_isGuessable.cls ≠ "java/lang/invoke/VarHandle" ∧ (parseMethodDescriptor yX7_isGuessable.desc).map (fun d => d.parameters.length) = some 1 := by decide +kernel
def f_X7_isGuessable (x0 : Int32) : Option (Int32) := (if x0 = (1 : Int32) then (some ((1 : Int32))) else (if x0 = (2 : Int32) then (some ((1 : Int32))) else (if x0 = (3 : Int32) then (some ((1 : Int32))) else (some ((0 : Int32))))))
set_option maxHeartbeats 4000000 in
set_option maxRecDepth 100000 in
theorem c_X7_isGuessable (l : Launch) (D : va_G) (cy : Nat → ClassId) (x0 : Int32) (res : Int32) (h : f_X7_isGuessable x0 = some res) : Mi l yX7_isGuessable wsX7_isGuessable ({ frames := 0, cells := 0, slots := 0, locals := 0 } : Room) (KK D cy) D [.int (x0)] [] [] res := by
  intro sz
  refine Met.mk0 (cc := cX7_isGuessable) (maxL := 1) (ret := (some .boolean)) (Qc := fun A => Qi D A [] res) (by decide) rfl (Nat.le_of_ble_eq_true rfl) ?_
  intro p e s m below meth c A ls hx hb hml hown hts hr hlocks hK hP hD hA hl
  have hown : s.vm.findClass RX7 = some m.cls := hown
  have hl : lv_has ls 1 [(0, .int (x0))] := hl
  have main : ∀ (H : Heap) (locs : List Loc) (ls : Array Slot), va_P D vwCl [] H → va_D A [] → va_S A s.heap H locs → lv_has ls 1 [(0, .int (x0))] → f_X7_isGuessable x0 = some res → W p l e ({ frames := 0, cells := 0, slots := 0, locals := 0 } : Room) s m [.int (x0)].toArray below meth c H locs 0 0 (MQ below (Qi D A [] res) [.int (x0)].toArray s 0 0 A) (F0 m 0 ls []) := by
    intro H locs ls hP hD hS hl h
    unfold f_X7_isGuessable at h
    refine lv_iload_n hx hb dX7_isGuessable_0 rfl (lv_at hl 0 rfl) ?_
    refine lv_iconst (v := (1 : Int32)) hx hb dX7_isGuessable_1 (by decide) ?_
    refine lv_icmp_eq (tgt := 15) hx hb dX7_isGuessable_2 (by decide) (fun c_10 => ?_) (fun c_10 => ?_)
    · have h := ift c_10 h
      refine lv_iconst (v := (1 : Int32)) hx hb dX7_isGuessable_15 (by decide) ?_
      refine lv_goto (tgt := 20) hx hb dX7_isGuessable_16 (by decide) ?_
      have e0 := Option.some.inj h
      exact Mi.retz' hx hb hr hlocks (Or.inr rfl) e0 rfl hP hD hS dX7_isGuessable_20
    · have h := ifn c_10 h
      refine lv_iload_n hx hb dX7_isGuessable_5 rfl (lv_at hl 0 rfl) ?_
      refine lv_iconst (v := (2 : Int32)) hx hb dX7_isGuessable_6 (by decide) ?_
      refine lv_icmp_eq (tgt := 15) hx hb dX7_isGuessable_7 (by decide) (fun c_11 => ?_) (fun c_11 => ?_)
      · have h := ift c_11 h
        refine lv_iconst (v := (1 : Int32)) hx hb dX7_isGuessable_15 (by decide) ?_
        refine lv_goto (tgt := 20) hx hb dX7_isGuessable_16 (by decide) ?_
        have e0 := Option.some.inj h
        exact Mi.retz' hx hb hr hlocks (Or.inr rfl) e0 rfl hP hD hS dX7_isGuessable_20
      · have h := ifn c_11 h
        refine lv_iload_n hx hb dX7_isGuessable_10 rfl (lv_at hl 0 rfl) ?_
        refine lv_iconst (v := (3 : Int32)) hx hb dX7_isGuessable_11 (by decide) ?_
        refine lv_icmp_ne (tgt := 19) hx hb dX7_isGuessable_12 (by decide) (fun c_12 => ?_) (fun c_12 => ?_)
        · have h := ifn c_12 h
          refine lv_iconst (v := (0 : Int32)) hx hb dX7_isGuessable_19 (by decide) ?_
          have e0 := Option.some.inj h
          exact Mi.retz' hx hb hr hlocks (Or.inl rfl) e0 rfl hP hD hS dX7_isGuessable_20
        · have h := ift c_12 h
          refine lv_iconst (v := (1 : Int32)) hx hb dX7_isGuessable_15 (by decide) ?_
          refine lv_goto (tgt := 20) hx hb dX7_isGuessable_16 (by decide) ?_
          have e0 := Option.some.inj h
          exact Mi.retz' hx hb hr hlocks (Or.inr rfl) e0 rfl hP hD hS dX7_isGuessable_20
  exact main s.heap [] ls hP hD va_S.rf hl h
theorem hd_X7_isThrown : yX7_isThrown.cls = RX7 ∧ yX7_isThrown.cls ≠ "java/lang/invoke/MethodHandle" ∧ yX7_isThrown.cls ≠ "java/lang/invoke/VarHandle" ∧ (parseMethodDescriptor yX7_isThrown.desc).map (fun d => d.parameters.length) = some 1 := by decide +kernel
def f_X7_isThrown (x0 : Int32) : Option (Int32) := (if x0 ≤ 0 then (some ((0 : Int32))) else (if (9 : Int32) < x0 then (some ((0 : Int32))) else (some ((1 : Int32)))))
set_option maxHeartbeats 4000000 in
set_option maxRecDepth 100000 in
theorem c_X7_isThrown (l : Launch) (D : va_G) (cy : Nat → ClassId) (x0 : Int32) (res : Int32) (h : f_X7_isThrown x0 = some res) : Mi l yX7_isThrown wsX7_isThrown ({ frames := 0, cells := 0, slots := 0, locals := 0 } : Room) (KK D cy) D [.int (x0)] [] [] res := by
  intro sz
  refine Met.mk0 (cc := cX7_isThrown) (maxL := 1) (ret := (some .boolean)) (Qc := fun A => Qi D A [] res) (by decide) rfl (Nat.le_of_ble_eq_true rfl) ?_
  intro p e s m below meth c A ls hx hb hml hown hts hr hlocks hK hP hD hA hl
  have hown : s.vm.findClass RX7 = some m.cls := hown
  have hl : lv_has ls 1 [(0, .int (x0))] := hl
  have main : ∀ (H : Heap) (locs : List Loc) (ls : Array Slot), va_P D vwCl [] H → va_D A [] → va_S A s.heap H locs → lv_has ls 1 [(0, .int (x0))] → f_X7_isThrown x0 = some res → W p l e ({ frames := 0, cells := 0, slots := 0, locals := 0 } : Room) s m [.int (x0)].toArray below meth c H locs 0 0 (MQ below (Qi D A [] res) [.int (x0)].toArray s 0 0 A) (F0 m 0 ls []) := by
    intro H locs ls hP hD hS hl h
    unfold f_X7_isThrown at h
    refine lv_iload_n hx hb dX7_isThrown_0 rfl (lv_at hl 0 rfl) ?_
    refine lv_if_le (tgt := 14) hx hb dX7_isThrown_1 (by decide) (fun c_7 => ?_) (fun c_7 => ?_)
    · have h := ift c_7 h
      refine lv_iconst (v := (0 : Int32)) hx hb dX7_isThrown_14 (by decide) ?_
      have e0 := Option.some.inj h
      exact Mi.retz' hx hb hr hlocks (Or.inl rfl) e0 rfl hP hD hS dX7_isThrown_15
    · have h := ifn c_7 h
      refine lv_iload_n hx hb dX7_isThrown_4 rfl (lv_at hl 0 rfl) ?_
      refine lv_bipush (v := (9 : Int32)) hx hb dX7_isThrown_5 (by decide) ?_
      refine lv_icmp_gt (tgt := 14) hx hb dX7_isThrown_7 (by decide) (fun c_8 => ?_) (fun c_8 => ?_)
      · have h := ift c_8 h
        refine lv_iconst (v := (0 : Int32)) hx hb dX7_isThrown_14 (by decide) ?_
        have e0 := Option.some.inj h
        exact Mi.retz' hx hb hr hlocks (Or.inl rfl) e0 rfl hP hD hS dX7_isThrown_15
      · have h := ifn c_8 h
        refine lv_iconst (v := (1 : Int32)) hx hb dX7_isThrown_10 (by decide) ?_
        refine lv_goto (tgt := 15) hx hb dX7_isThrown_11 (by decide) ?_
        have e0 := Option.some.inj h
        exact Mi.retz' hx hb hr hlocks (Or.inr rfl) e0 rfl hP hD hS dX7_isThrown_15
  exact main s.heap [] ls hP hD va_S.rf hl h
theorem hd_X7_isLane : yX7_isLane.cls = RX7 ∧ yX7_isLane.cls ≠ "java/lang/invoke/MethodHandle" ∧ yX7_isLane.cls ≠ "java/lang/invoke/VarHandle" ∧ (parseMethodDescriptor yX7_isLane.desc).map (fun d => d.parameters.length) = some 1 := by decide +kernel
def f_X7_isLane (x0 : Int32) : Option (Int32) := (if x0 < 0 then (some ((0 : Int32))) else (if (3 : Int32) ≤ x0 then (some ((0 : Int32))) else (some ((1 : Int32)))))
set_option maxHeartbeats 4000000 in
set_option maxRecDepth 100000 in
theorem c_X7_isLane (l : Launch) (D : va_G) (cy : Nat → ClassId) (x0 : Int32) (res : Int32) (h : f_X7_isLane x0 = some res) : Mi l yX7_isLane wsX7_isLane ({ frames := 0, cells := 0, slots := 0, locals := 0 } : Room) (KK D cy) D [.int (x0)] [] [] res := by
  intro sz
  refine Met.mk0 (cc := cX7_isLane) (maxL := 1) (ret := (some .boolean)) (Qc := fun A => Qi D A [] res) (by decide) rfl (Nat.le_of_ble_eq_true rfl) ?_
  intro p e s m below meth c A ls hx hb hml hown hts hr hlocks hK hP hD hA hl
  have hown : s.vm.findClass RX7 = some m.cls := hown
  have hl : lv_has ls 1 [(0, .int (x0))] := hl
  have main : ∀ (H : Heap) (locs : List Loc) (ls : Array Slot), va_P D vwCl [] H → va_D A [] → va_S A s.heap H locs → lv_has ls 1 [(0, .int (x0))] → f_X7_isLane x0 = some res → W p l e ({ frames := 0, cells := 0, slots := 0, locals := 0 } : Room) s m [.int (x0)].toArray below meth c H locs 0 0 (MQ below (Qi D A [] res) [.int (x0)].toArray s 0 0 A) (F0 m 0 ls []) := by
    intro H locs ls hP hD hS hl h
    unfold f_X7_isLane at h
    refine lv_iload_n hx hb dX7_isLane_0 rfl (lv_at hl 0 rfl) ?_
    refine lv_if_lt (tgt := 13) hx hb dX7_isLane_1 (by decide) (fun c_7 => ?_) (fun c_7 => ?_)
    · have h := ift c_7 h
      refine lv_iconst (v := (0 : Int32)) hx hb dX7_isLane_13 (by decide) ?_
      have e0 := Option.some.inj h
      exact Mi.retz' hx hb hr hlocks (Or.inl rfl) e0 rfl hP hD hS dX7_isLane_14
    · have h := ifn c_7 h
      refine lv_iload_n hx hb dX7_isLane_4 rfl (lv_at hl 0 rfl) ?_
      refine lv_iconst (v := (3 : Int32)) hx hb dX7_isLane_5 (by decide) ?_
      refine lv_icmp_ge (tgt := 13) hx hb dX7_isLane_6 (by decide) (fun c_8 => ?_) (fun c_8 => ?_)
      · have h := ift c_8 h
        refine lv_iconst (v := (0 : Int32)) hx hb dX7_isLane_13 (by decide) ?_
        have e0 := Option.some.inj h
        exact Mi.retz' hx hb hr hlocks (Or.inl rfl) e0 rfl hP hD hS dX7_isLane_14
      · have h := ifn c_8 h
        refine lv_iconst (v := (1 : Int32)) hx hb dX7_isLane_9 (by decide) ?_
        refine lv_goto (tgt := 14) hx hb dX7_isLane_10 (by decide) ?_
        have e0 := Option.some.inj h
        exact Mi.retz' hx hb hr hlocks (Or.inr rfl) e0 rfl hP hD hS dX7_isLane_14
  exact main s.heap [] ls hP hD va_S.rf hl h
theorem hd_X7_isSheet : yX7_isSheet.cls = RX7 ∧ yX7_isSheet.cls ≠ "java/lang/invoke/MethodHandle" ∧ yX7_isSheet.cls ≠ "java/lang/invoke/VarHandle" ∧ (parseMethodDescriptor yX7_isSheet.desc).map (fun d => d.parameters.length) = some 1 := by decide +kernel
def f_X7_isSheet (x0 : Int32) : Option (Int32) := (if x0 < 0 then (some ((0 : Int32))) else (if (4 : Int32) ≤ x0 then (some ((0 : Int32))) else (some ((1 : Int32)))))
set_option maxHeartbeats 4000000 in
set_option maxRecDepth 100000 in
theorem c_X7_isSheet (l : Launch) (D : va_G) (cy : Nat → ClassId) (x0 : Int32) (res : Int32) (h : f_X7_isSheet x0 = some res) : Mi l yX7_isSheet wsX7_isSheet ({ frames := 0, cells := 0, slots := 0, locals := 0 } : Room) (KK D cy) D [.int (x0)] [] [] res := by
  intro sz
  refine Met.mk0 (cc := cX7_isSheet) (maxL := 1) (ret := (some .boolean)) (Qc := fun A => Qi D A [] res) (by decide) rfl (Nat.le_of_ble_eq_true rfl) ?_
  intro p e s m below meth c A ls hx hb hml hown hts hr hlocks hK hP hD hA hl
  have hown : s.vm.findClass RX7 = some m.cls := hown
  have hl : lv_has ls 1 [(0, .int (x0))] := hl
  have main : ∀ (H : Heap) (locs : List Loc) (ls : Array Slot), va_P D vwCl [] H → va_D A [] → va_S A s.heap H locs → lv_has ls 1 [(0, .int (x0))] → f_X7_isSheet x0 = some res → W p l e ({ frames := 0, cells := 0, slots := 0, locals := 0 } : Room) s m [.int (x0)].toArray below meth c H locs 0 0 (MQ below (Qi D A [] res) [.int (x0)].toArray s 0 0 A) (F0 m 0 ls []) := by
    intro H locs ls hP hD hS hl h
    unfold f_X7_isSheet at h
    refine lv_iload_n hx hb dX7_isSheet_0 rfl (lv_at hl 0 rfl) ?_
    refine lv_if_lt (tgt := 13) hx hb dX7_isSheet_1 (by decide) (fun c_7 => ?_) (fun c_7 => ?_)
    · have h := ift c_7 h
      refine lv_iconst (v := (0 : Int32)) hx hb dX7_isSheet_13 (by decide) ?_
      have e0 := Option.some.inj h
      exact Mi.retz' hx hb hr hlocks (Or.inl rfl) e0 rfl hP hD hS dX7_isSheet_14
    · have h := ifn c_7 h
      refine lv_iload_n hx hb dX7_isSheet_4 rfl (lv_at hl 0 rfl) ?_
      refine lv_iconst (v := (4 : Int32)) hx hb dX7_isSheet_5 (by decide) ?_
      refine lv_icmp_ge (tgt := 13) hx hb dX7_isSheet_6 (by decide) (fun c_8 => ?_) (fun c_8 => ?_)
      · have h := ift c_8 h
        refine lv_iconst (v := (0 : Int32)) hx hb dX7_isSheet_13 (by decide) ?_
        have e0 := Option.some.inj h
        exact Mi.retz' hx hb hr hlocks (Or.inl rfl) e0 rfl hP hD hS dX7_isSheet_14
      · have h := ifn c_8 h
        refine lv_iconst (v := (1 : Int32)) hx hb dX7_isSheet_9 (by decide) ?_
        refine lv_goto (tgt := 14) hx hb dX7_isSheet_10 (by decide) ?_
        have e0 := Option.some.inj h
        exact Mi.retz' hx hb hr hlocks (Or.inr rfl) e0 rfl hP hD hS dX7_isSheet_14
  exact main s.heap [] ls hP hD va_S.rf hl h
