theorem hd_X0_enter : yX0_enter.cls = RX0 ∧ yX0_enter.cls ≠ "java/lang/invoke/MethodHandle" ∧ yX0_enter.cls ≠ "java/lang/invoke/VarHandle" ∧ (parseMethodDescriptor yX0_enter.desc).map (fun d => d.parameters.length) = some 2 := by decide +kernel
def f_X0_enter_b60 (y1 : Int32) (y2 : Int32) (y3 : Int32) (v_size : Int32) (f_places : Nat → Int32) (f_scores : Nat → Int32) : Option (Int32 × (Nat → Int32) × (Nat → Int32)) := (cki (y3) 16 (cki (y3) 16 (some ((if (16 : Int32) < v_size + (1 : Int32) then (16 : Int32) else v_size + (1 : Int32)), upd f_places (y3).toNatClampNeg (y1), upd f_scores (y3).toNatClampNeg (y2)))))
def f_X0_enter_L10 : Nat → Int32 → Int32 → Int32 → Int32 → (Nat → Int32) → (Nat → Int32) → Option (Int32 × (Nat → Int32) × (Nat → Int32))
  | 0, _, _, _, _, _, _ => none
  | n + 1, y1, y2, y3, v_size, f_places, f_scores => (if y3 ≤ 0 then (f_X0_enter_b60  (y1) (y2) (y3) (v_size) (f_places) (f_scores)) else (cki (y3 - (1 : Int32)) 16 (if y2 ≤ f_scores (y3 - (1 : Int32)).toNatClampNeg then (f_X0_enter_b60  (y1) (y2) (y3) (v_size) (f_places) (f_scores)) else (cki (y3 - (1 : Int32)) 16 (cki (y3) 16 (cki (y3 - (1 : Int32)) 16 (cki (y3) 16 ((f_X0_enter_L10  n) (y1) (y2) (y3 + (-1 : Int32)) (v_size) (upd f_places (y3).toNatClampNeg (f_places (y3 - (1 : Int32)).toNatClampNeg)) (upd f_scores (y3).toNatClampNeg (f_scores (y3 - (1 : Int32)).toNatClampNeg))))))))))
def f_X0_enter (x1 : Int32) (x2 : Int32) (v_size : Int32) (f_places : Nat → Int32) (f_scores : Nat → Int32) : Option (Int32 × (Nat → Int32) × (Nat → Int32)) := (f_X0_enter_L10  FUEL (x1) (x2) ((if (15 : Int32) < v_size then (15 : Int32) else v_size)) (v_size) (f_places) (f_scores))
set_option maxHeartbeats 4000000 in
set_option maxRecDepth 100000 in
theorem c_X0_enter (l : Launch) (D : va_G) (cy : Nat → ClassId) (a a_places a_scores : Nat) (v_size : Int32) (f_places : Nat → Int32) (f_scores : Nat → Int32) (x1 : Int32) (x2 : Int32) (z_v_size : Int32) (z_f_places : Nat → Int32) (z_f_scores : Nat → Int32) (h : f_X0_enter x1 x2 v_size f_places f_scores = some (z_v_size, z_f_places, z_f_scores)) : Mv l yX0_enter wsX0_enter ({ frames := 1, cells := 0, slots := 0, locals := 40 } : Room) (KK D cy) D [.ref a, .int (x1), .int (x2)] [(a, .inr (0, [.ref a_places, .ref a_scores, .int (v_size)])), (a_places, .inl (cy 0, 16, .inl (f_places))), (a_scores, .inl (cy 0, 16, .inl (f_scores)))] [(a, .inr (0, [.ref a_places, .ref a_scores, .int (z_v_size)])), (a_places, .inl (cy 0, 16, .inl (z_f_places))), (a_scores, .inl (cy 0, 16, .inl (z_f_scores)))] := by
  intro sz
  refine Met.mk0 (cc := cX0_enter) (maxL := 4) (ret := none) (Qc := fun A => Qv D A [(a, .inr (0, [.ref a_places, .ref a_scores, .int (z_v_size)])), (a_places, .inl (cy 0, 16, .inl (z_f_places))), (a_scores, .inl (cy 0, 16, .inl (z_f_scores)))]) (by decide) rfl (Nat.le_of_ble_eq_true rfl) ?_
  intro p e s m below meth c A ls hx hb hml hown hts hr hlocks hK hP hD hA hl
  have hown : s.vm.findClass RX0 = some m.cls := hown
  have hl : lv_has ls 4 [(0, .ref a), (1, .int (x1)), (2, .int (x2))] := hl
  have hinX0 : ∀ w ∈ u_ws RX0 TX0 3, w ∈ wsX0_enter := (fun w h => List.mem_cons_of_mem _ (List.mem_append_right _ h))
  have hb60 : ∀ (y1 : Int32) (y2 : Int32) (y3 : Int32) (v_size : Int32) (f_places : Nat → Int32) (f_scores : Nat → Int32) (H : Heap) (locs : List Loc) (ls : Array Slot), va_P D vwCl [(a, .inr (0, [.ref a_places, .ref a_scores, .int (v_size)])), (a_places, .inl (cy 0, 16, .inl (f_places))), (a_scores, .inl (cy 0, 16, .inl (f_scores)))] H → va_D A [(a, .inr (0, [.ref a_places, .ref a_scores, .int (v_size)])), (a_places, .inl (cy 0, 16, .inl (f_places))), (a_scores, .inl (cy 0, 16, .inl (f_scores)))] → va_S A s.heap H locs → lv_has ls 4 [(0, .ref a), (1, .int (y1)), (2, .int (y2)), (3, .int (y3))] → f_X0_enter_b60  y1 y2 y3 v_size f_places f_scores = some (z_v_size, z_f_places, z_f_scores) → W p l e ({ frames := 1, cells := 0, slots := 0, locals := 40 } : Room) s m [.ref a, .int (x1), .int (x2)].toArray below meth c H locs 0 0 (MQ below (Qv D A [(a, .inr (0, [.ref a_places, .ref a_scores, .int (z_v_size)])), (a_places, .inl (cy 0, 16, .inl (z_f_places))), (a_scores, .inl (cy 0, 16, .inl (z_f_scores)))]) [.ref a, .int (x1), .int (x2)].toArray s 0 0 A) (F0 m 60 ls []) := by
    intro y1 y2 y3 v_size f_places f_scores H locs ls hP hD hS hl h
    unfold f_X0_enter_b60 at h
    refine lv_aload_n hx hb dX0_enter_60 rfl (lv_at hl 0 rfl) ?_
    refine va_get (D := D) (ci := 0) (v := .ref a_places) (C := RX0) (T := TX0) (N := 3) hx hb hts hinX0 hown hK.1 hP 0 rfl rfl 0 (by decide) (hts (.fieldLink RX0 9 "FrameWalks$Hunt" "places" "[I") (List.mem_of_getElem? (i := 7) rfl)) (fun _ h9 => h9) rfl dX0_enter_61 ?_
    refine lv_iload_n hx hb dX0_enter_64 rfl (lv_at hl 3 rfl) ?_
    refine lv_iload_n hx hb dX0_enter_65 rfl (lv_at hl 1 rfl) ?_
    obtain ⟨i_28, h⟩ := cki_s h
    refine va_iast hx hb hK.1 hP hD hS 1 0 rfl rfl i_28 dX0_enter_66 (fun H locs hP hD hS => ?_)
    have hP : va_P D vwCl [(a, .inr (0, [.ref a_places, .ref a_scores, .int (v_size)])), (a_places, .inl (cy 0, 16, .inl (upd f_places (y3).toNatClampNeg (y1)))), (a_scores, .inl (cy 0, 16, .inl (f_scores)))] H := hP
    have hD : va_D A [(a, .inr (0, [.ref a_places, .ref a_scores, .int (v_size)])), (a_places, .inl (cy 0, 16, .inl (upd f_places (y3).toNatClampNeg (y1)))), (a_scores, .inl (cy 0, 16, .inl (f_scores)))] := hD
    refine lv_aload_n hx hb dX0_enter_67 rfl (lv_at hl 0 rfl) ?_
    refine va_get (D := D) (ci := 0) (v := .ref a_scores) (C := RX0) (T := TX0) (N := 3) hx hb hts hinX0 hown hK.1 hP 0 rfl rfl 1 (by decide) (hts (.fieldLink RX0 15 "FrameWalks$Hunt" "scores" "[I") (List.mem_of_getElem? (i := 6) rfl)) (fun _ h9 => h9) rfl dX0_enter_68 ?_
    refine lv_iload_n hx hb dX0_enter_71 rfl (lv_at hl 3 rfl) ?_
    refine lv_iload_n hx hb dX0_enter_72 rfl (lv_at hl 2 rfl) ?_
    obtain ⟨i_29, h⟩ := cki_s h
    refine va_iast hx hb hK.1 hP hD hS 2 0 rfl rfl i_29 dX0_enter_73 (fun H locs hP hD hS => ?_)
    have hP : va_P D vwCl [(a, .inr (0, [.ref a_places, .ref a_scores, .int (v_size)])), (a_places, .inl (cy 0, 16, .inl (upd f_places (y3).toNatClampNeg (y1)))), (a_scores, .inl (cy 0, 16, .inl (upd f_scores (y3).toNatClampNeg (y2))))] H := hP
    have hD : va_D A [(a, .inr (0, [.ref a_places, .ref a_scores, .int (v_size)])), (a_places, .inl (cy 0, 16, .inl (upd f_places (y3).toNatClampNeg (y1)))), (a_scores, .inl (cy 0, 16, .inl (upd f_scores (y3).toNatClampNeg (y2))))] := hD
    refine lv_aload_n hx hb dX0_enter_74 rfl (lv_at hl 0 rfl) ?_
    refine lv_aload_n hx hb dX0_enter_75 rfl (lv_at hl 0 rfl) ?_
    refine va_get (D := D) (ci := 0) (v := .int (v_size)) (C := RX0) (T := TX0) (N := 3) hx hb hts hinX0 hown hK.1 hP 0 rfl rfl 2 (by decide) (hts (.fieldLink RX0 18 "FrameWalks$Hunt" "size" "I") (List.mem_of_getElem? (i := 1) rfl)) (fun _ h9 => h9) rfl dX0_enter_76 ?_
    refine lv_iconst (v := (1 : Int32)) hx hb dX0_enter_79 (by decide) ?_
    refine lv_iadd hx hb dX0_enter_80 ?_
    refine lv_bipush (v := (16 : Int32)) hx hb dX0_enter_81 (by decide) ?_
    refine va_mmin hx hb (hml.trans hl.1.symm) hown (hts (.methodLink RX0 50 Lib.Math.min.name) (List.mem_of_getElem? (i := 2) rfl)) (hts (.static Lib.Math.min.name) (List.mem_of_getElem? (i := 3) rfl)) (hts (.initialized "java/lang/Math") (List.mem_of_getElem? (i := 4) rfl)) (hts (.code Lib.Math.min.name Lib.Math.min.code 2 (some .int)) (List.mem_of_getElem? (i := 5) rfl)) (Nat.le_of_ble_eq_true rfl) (Nat.le_of_ble_eq_true rfl) (Nat.zero_le _) (Nat.zero_le _) dX0_enter_83 ?_
    refine va_put (D := D) (ci := 0) (v := .int ((if (16 : Int32) < v_size + (1 : Int32) then (16 : Int32) else v_size + (1 : Int32)))) (ty := .int) (C := RX0) (T := TX0) (N := 3) hx hb hts hinX0 tyX0 tyX0_ok nmX0 hown hK.1 hP hD hS 0 rfl rfl 2 (by decide) (hts (.fieldLink RX0 18 "FrameWalks$Hunt" "size" "I") (List.mem_of_getElem? (i := 1) rfl)) (fun _ h9 => h9) rfl (by decide +kernel) rfl rfl (Nat.le_of_ble_eq_true rfl) dX0_enter_86 (fun H locs hP hD hS => ?_)
    have hP : va_P D vwCl [(a, .inr (0, [.ref a_places, .ref a_scores, .int ((if (16 : Int32) < v_size + (1 : Int32) then (16 : Int32) else v_size + (1 : Int32)))])), (a_places, .inl (cy 0, 16, .inl (upd f_places (y3).toNatClampNeg (y1)))), (a_scores, .inl (cy 0, 16, .inl (upd f_scores (y3).toNatClampNeg (y2))))] H := hP
    have hD : va_D A [(a, .inr (0, [.ref a_places, .ref a_scores, .int ((if (16 : Int32) < v_size + (1 : Int32) then (16 : Int32) else v_size + (1 : Int32)))])), (a_places, .inl (cy 0, 16, .inl (upd f_places (y3).toNatClampNeg (y1)))), (a_scores, .inl (cy 0, 16, .inl (upd f_scores (y3).toNatClampNeg (y2))))] := hD
    obtain ⟨e0, e1, e2⟩ := tp3_s h
    exact Mv.ret' hx hb hr hlocks (by rw [← e0, ← e1, ← e2]) hP hD hS dX0_enter_89
  have hL10 : ∀ (n10 : Nat) (y1 : Int32) (y2 : Int32) (y3 : Int32) (v_size : Int32) (f_places : Nat → Int32) (f_scores : Nat → Int32) (H : Heap) (locs : List Loc) (ls : Array Slot), va_P D vwCl [(a, .inr (0, [.ref a_places, .ref a_scores, .int (v_size)])), (a_places, .inl (cy 0, 16, .inl (f_places))), (a_scores, .inl (cy 0, 16, .inl (f_scores)))] H → va_D A [(a, .inr (0, [.ref a_places, .ref a_scores, .int (v_size)])), (a_places, .inl (cy 0, 16, .inl (f_places))), (a_scores, .inl (cy 0, 16, .inl (f_scores)))] → va_S A s.heap H locs → lv_has ls 4 [(0, .ref a), (1, .int (y1)), (2, .int (y2)), (3, .int (y3))] → f_X0_enter_L10  n10 y1 y2 y3 v_size f_places f_scores = some (z_v_size, z_f_places, z_f_scores) → W p l e ({ frames := 1, cells := 0, slots := 0, locals := 40 } : Room) s m [.ref a, .int (x1), .int (x2)].toArray below meth c H locs 0 0 (MQ below (Qv D A [(a, .inr (0, [.ref a_places, .ref a_scores, .int (z_v_size)])), (a_places, .inl (cy 0, 16, .inl (z_f_places))), (a_scores, .inl (cy 0, 16, .inl (z_f_scores)))]) [.ref a, .int (x1), .int (x2)].toArray s 0 0 A) (F0 m 10 ls []) := by
    intro n10
    induction n10 with
    | zero =>
      intro y1 y2 y3 v_size f_places f_scores H locs ls hP hD hS hl h
      cases (id h : (none : Option (Int32 × (Nat → Int32) × (Nat → Int32))) = some _)
    | succ n10 ih10 =>
      intro y1 y2 y3 v_size f_places f_scores H locs ls hP hD hS hl h
      rw [f_X0_enter_L10] at h
      refine lv_iload_n hx hb dX0_enter_10 rfl (lv_at hl 3 rfl) ?_
      refine lv_if_le (tgt := 60) hx hb dX0_enter_11 (by decide) (fun c_30 => ?_) (fun c_30 => ?_)
      · have h := ift c_30 h
        exact hb60 (y1) (y2) (y3) (v_size) (f_places) (f_scores) H locs ls hP hD hS (lv_sub hl [0, 1, 2, 3] rfl) h
      · have h := ifn c_30 h
        refine lv_aload_n hx hb dX0_enter_14 rfl (lv_at hl 0 rfl) ?_
        refine va_get (D := D) (ci := 0) (v := .ref a_scores) (C := RX0) (T := TX0) (N := 3) hx hb hts hinX0 hown hK.1 hP 0 rfl rfl 1 (by decide) (hts (.fieldLink RX0 15 "FrameWalks$Hunt" "scores" "[I") (List.mem_of_getElem? (i := 6) rfl)) (fun _ h9 => h9) rfl dX0_enter_15 ?_
        refine lv_iload_n hx hb dX0_enter_18 rfl (lv_at hl 3 rfl) ?_
        refine lv_iconst (v := (1 : Int32)) hx hb dX0_enter_19 (by decide) ?_
        refine lv_isub hx hb dX0_enter_20 ?_
        obtain ⟨i_31, h⟩ := cki_s h
        refine va_iald hx hb hK.1 hP 2 0 rfl rfl i_31 dX0_enter_21 ?_
        refine lv_iload_n hx hb dX0_enter_22 rfl (lv_at hl 2 rfl) ?_
        refine lv_icmp_ge (tgt := 60) hx hb dX0_enter_23 (by decide) (fun c_32 => ?_) (fun c_32 => ?_)
        · have h := ift c_32 h
          exact hb60 (y1) (y2) (y3) (v_size) (f_places) (f_scores) H locs ls hP hD hS (lv_sub hl [0, 1, 2, 3] rfl) h
        · have h := ifn c_32 h
          refine lv_aload_n hx hb dX0_enter_26 rfl (lv_at hl 0 rfl) ?_
          refine va_get (D := D) (ci := 0) (v := .ref a_places) (C := RX0) (T := TX0) (N := 3) hx hb hts hinX0 hown hK.1 hP 0 rfl rfl 0 (by decide) (hts (.fieldLink RX0 9 "FrameWalks$Hunt" "places" "[I") (List.mem_of_getElem? (i := 7) rfl)) (fun _ h9 => h9) rfl dX0_enter_27 ?_
          refine lv_iload_n hx hb dX0_enter_30 rfl (lv_at hl 3 rfl) ?_
          refine lv_aload_n hx hb dX0_enter_31 rfl (lv_at hl 0 rfl) ?_
          refine va_get (D := D) (ci := 0) (v := .ref a_places) (C := RX0) (T := TX0) (N := 3) hx hb hts hinX0 hown hK.1 hP 0 rfl rfl 0 (by decide) (hts (.fieldLink RX0 9 "FrameWalks$Hunt" "places" "[I") (List.mem_of_getElem? (i := 7) rfl)) (fun _ h9 => h9) rfl dX0_enter_32 ?_
          refine lv_iload_n hx hb dX0_enter_35 rfl (lv_at hl 3 rfl) ?_
          refine lv_iconst (v := (1 : Int32)) hx hb dX0_enter_36 (by decide) ?_
          refine lv_isub hx hb dX0_enter_37 ?_
          obtain ⟨i_33, h⟩ := cki_s h
          refine va_iald hx hb hK.1 hP 1 0 rfl rfl i_33 dX0_enter_38 ?_
          obtain ⟨i_34, h⟩ := cki_s h
          refine va_iast hx hb hK.1 hP hD hS 1 0 rfl rfl i_34 dX0_enter_39 (fun H locs hP hD hS => ?_)
          have hP : va_P D vwCl [(a, .inr (0, [.ref a_places, .ref a_scores, .int (v_size)])), (a_places, .inl (cy 0, 16, .inl (upd f_places (y3).toNatClampNeg (f_places (y3 - (1 : Int32)).toNatClampNeg)))), (a_scores, .inl (cy 0, 16, .inl (f_scores)))] H := hP
          have hD : va_D A [(a, .inr (0, [.ref a_places, .ref a_scores, .int (v_size)])), (a_places, .inl (cy 0, 16, .inl (upd f_places (y3).toNatClampNeg (f_places (y3 - (1 : Int32)).toNatClampNeg)))), (a_scores, .inl (cy 0, 16, .inl (f_scores)))] := hD
          refine lv_aload_n hx hb dX0_enter_40 rfl (lv_at hl 0 rfl) ?_
          refine va_get (D := D) (ci := 0) (v := .ref a_scores) (C := RX0) (T := TX0) (N := 3) hx hb hts hinX0 hown hK.1 hP 0 rfl rfl 1 (by decide) (hts (.fieldLink RX0 15 "FrameWalks$Hunt" "scores" "[I") (List.mem_of_getElem? (i := 6) rfl)) (fun _ h9 => h9) rfl dX0_enter_41 ?_
          refine lv_iload_n hx hb dX0_enter_44 rfl (lv_at hl 3 rfl) ?_
          refine lv_aload_n hx hb dX0_enter_45 rfl (lv_at hl 0 rfl) ?_
          refine va_get (D := D) (ci := 0) (v := .ref a_scores) (C := RX0) (T := TX0) (N := 3) hx hb hts hinX0 hown hK.1 hP 0 rfl rfl 1 (by decide) (hts (.fieldLink RX0 15 "FrameWalks$Hunt" "scores" "[I") (List.mem_of_getElem? (i := 6) rfl)) (fun _ h9 => h9) rfl dX0_enter_46 ?_
          refine lv_iload_n hx hb dX0_enter_49 rfl (lv_at hl 3 rfl) ?_
          refine lv_iconst (v := (1 : Int32)) hx hb dX0_enter_50 (by decide) ?_
          refine lv_isub hx hb dX0_enter_51 ?_
          obtain ⟨i_35, h⟩ := cki_s h
          refine va_iald hx hb hK.1 hP 2 0 rfl rfl i_35 dX0_enter_52 ?_
          obtain ⟨i_36, h⟩ := cki_s h
          refine va_iast hx hb hK.1 hP hD hS 2 0 rfl rfl i_36 dX0_enter_53 (fun H locs hP hD hS => ?_)
          have hP : va_P D vwCl [(a, .inr (0, [.ref a_places, .ref a_scores, .int (v_size)])), (a_places, .inl (cy 0, 16, .inl (upd f_places (y3).toNatClampNeg (f_places (y3 - (1 : Int32)).toNatClampNeg)))), (a_scores, .inl (cy 0, 16, .inl (upd f_scores (y3).toNatClampNeg (f_scores (y3 - (1 : Int32)).toNatClampNeg))))] H := hP
          have hD : va_D A [(a, .inr (0, [.ref a_places, .ref a_scores, .int (v_size)])), (a_places, .inl (cy 0, 16, .inl (upd f_places (y3).toNatClampNeg (f_places (y3 - (1 : Int32)).toNatClampNeg)))), (a_scores, .inl (cy 0, 16, .inl (upd f_scores (y3).toNatClampNeg (f_scores (y3 - (1 : Int32)).toNatClampNeg))))] := hD
          refine lv_iinc (v := y3 + (-1 : Int32)) (lv' := [(3, .int (y3 + (-1 : Int32))), (0, .ref a), (1, .int (y1)), (2, .int (y2))]) hx hb dX0_enter_54 hl (k := 3) rfl rfl (by decide) rfl (fun ls hl => ?_)
          refine lv_goto (tgt := 10) hx hb dX0_enter_57 (by decide) ?_
          exact ih10 (y1) (y2) (y3 + (-1 : Int32)) (v_size) (upd f_places (y3).toNatClampNeg (f_places (y3 - (1 : Int32)).toNatClampNeg)) (upd f_scores (y3).toNatClampNeg (f_scores (y3 - (1 : Int32)).toNatClampNeg)) H locs ls hP hD hS (lv_sub hl [1, 2, 3, 0] rfl) h
  have main : ∀ (H : Heap) (locs : List Loc) (ls : Array Slot), va_P D vwCl [(a, .inr (0, [.ref a_places, .ref a_scores, .int (v_size)])), (a_places, .inl (cy 0, 16, .inl (f_places))), (a_scores, .inl (cy 0, 16, .inl (f_scores)))] H → va_D A [(a, .inr (0, [.ref a_places, .ref a_scores, .int (v_size)])), (a_places, .inl (cy 0, 16, .inl (f_places))), (a_scores, .inl (cy 0, 16, .inl (f_scores)))] → va_S A s.heap H locs → lv_has ls 4 [(0, .ref a), (1, .int (x1)), (2, .int (x2))] → f_X0_enter x1 x2 v_size f_places f_scores = some (z_v_size, z_f_places, z_f_scores) → W p l e ({ frames := 1, cells := 0, slots := 0, locals := 40 } : Room) s m [.ref a, .int (x1), .int (x2)].toArray below meth c H locs 0 0 (MQ below (Qv D A [(a, .inr (0, [.ref a_places, .ref a_scores, .int (z_v_size)])), (a_places, .inl (cy 0, 16, .inl (z_f_places))), (a_scores, .inl (cy 0, 16, .inl (z_f_scores)))]) [.ref a, .int (x1), .int (x2)].toArray s 0 0 A) (F0 m 0 ls []) := by
    intro H locs ls hP hD hS hl h
    unfold f_X0_enter at h
    refine lv_aload_n hx hb dX0_enter_0 rfl (lv_at hl 0 rfl) ?_
    refine va_get (D := D) (ci := 0) (v := .int (v_size)) (C := RX0) (T := TX0) (N := 3) hx hb hts hinX0 hown hK.1 hP 0 rfl rfl 2 (by decide) (hts (.fieldLink RX0 18 "FrameWalks$Hunt" "size" "I") (List.mem_of_getElem? (i := 1) rfl)) (fun _ h9 => h9) rfl dX0_enter_1 ?_
    refine lv_bipush (v := (15 : Int32)) hx hb dX0_enter_4 (by decide) ?_
    refine va_mmin hx hb (hml.trans hl.1.symm) hown (hts (.methodLink RX0 50 Lib.Math.min.name) (List.mem_of_getElem? (i := 2) rfl)) (hts (.static Lib.Math.min.name) (List.mem_of_getElem? (i := 3) rfl)) (hts (.initialized "java/lang/Math") (List.mem_of_getElem? (i := 4) rfl)) (hts (.code Lib.Math.min.name Lib.Math.min.code 2 (some .int)) (List.mem_of_getElem? (i := 5) rfl)) (Nat.le_of_ble_eq_true rfl) (Nat.le_of_ble_eq_true rfl) (Nat.zero_le _) (Nat.zero_le _) dX0_enter_6 ?_
    refine lv_istore_n (lv' := [(3, .int ((if (15 : Int32) < v_size then (15 : Int32) else v_size))), (0, .ref a), (1, .int (x1)), (2, .int (x2))]) hx hb dX0_enter_9 rfl hl (by decide) rfl (fun ls hl => ?_)
    exact hL10 FUEL (x1) (x2) ((if (15 : Int32) < v_size then (15 : Int32) else v_size)) (v_size) (f_places) (f_scores) H locs ls hP hD hS (lv_sub hl [1, 2, 3, 0] rfl) h
  exact main s.heap [] ls hP hD va_S.rf hl h
theorem hd_X0_scoreOf : yX0_scoreOf.cls = RX0 ∧ yX0_scoreOf.cls ≠ "java/lang/invoke/MethodHandle" ∧ yX0_scoreOf.cls ≠ "java/lang/invoke/VarHandle" ∧ (parseMethodDescriptor yX0_scoreOf.desc).map (fun d => d.parameters.length) = some 3 := by decide +kernel
def f_X0_scoreOf_b25 (vp0_routines_width : Int32) (vp0_routines_size : Int32) (fp0_routines_cells : Nat → Int32) (vp0_calls_width : Int32) (vp0_calls_size : Int32) (fp0_calls_cells : Nat → Int32) (y1 : Int32) (y2 : Int32) (y3 : Int32) : Option (Int32) := (if y2 = (-4 : Int32) then (some y3) else (bn1 (f_X6_isCallInto (y1) (y2) (vp0_routines_width) (vp0_routines_size) (fp0_routines_cells) (vp0_calls_width) (vp0_calls_size) (fp0_calls_cells)) (fun r_32 => (if r_32 = 0 then (some y3) else (some (y3 + (4 : Int32)))))))
def f_X0_scoreOf (x1 : Int32) (x2 : Int32) (vp0_routines_width : Int32) (vp0_routines_size : Int32) (fp0_routines_cells : Nat → Int32) (vp0_calls_width : Int32) (vp0_calls_size : Int32) (fp0_calls_cells : Nat → Int32) : Option (Int32) := (bn1 (f_X6_ownerOf (x1) (vp0_routines_width) (vp0_routines_size) (fp0_routines_cells)) (fun r_35 => (if r_35 = (-4 : Int32) then (some ((0 : Int32))) else (bn1 (f_X6_isCallAt (x1) (vp0_calls_width) (vp0_calls_size) (fp0_calls_cells)) (fun r_37 => (if r_37 = 0 then (f_X0_scoreOf_b25 vp0_routines_width vp0_routines_size fp0_routines_cells vp0_calls_width vp0_calls_size fp0_calls_cells  (x1) (x2) ((1 : Int32))) else (f_X0_scoreOf_b25 vp0_routines_width vp0_routines_size fp0_routines_cells vp0_calls_width vp0_calls_size fp0_calls_cells  (x1) (x2) (((1 : Int32)) + (2 : Int32)))))))))
set_option maxHeartbeats 4000000 in
set_option maxRecDepth 100000 in
theorem c_X0_scoreOf (l : Launch) (D : va_G) (cy : Nat → ClassId) (ap0 ap0_routines ap0_ops ap0_landings ap0_calls ap0_registers ap0_words ap0_routines_cells ap0_calls_cells : Nat) (vp0_routines_width : Int32) (vp0_routines_size : Int32) (fp0_routines_cells : Nat → Int32) (vp0_calls_width : Int32) (vp0_calls_size : Int32) (fp0_calls_cells : Nat → Int32) (x1 : Int32) (x2 : Int32) (res : Int32) (h : f_X0_scoreOf x1 x2 vp0_routines_width vp0_routines_size fp0_routines_cells vp0_calls_width vp0_calls_size fp0_calls_cells = some res) : Mi l yX0_scoreOf wsX0_scoreOf ({ frames := 3, cells := 0, slots := 0, locals := 69 } : Room) (KK D cy) D [.ref ap0, .int (x1), .int (x2)] [(ap0, .inr (6, [.ref ap0_routines, .ref ap0_ops, .ref ap0_landings, .ref ap0_calls, .ref ap0_registers, .ref ap0_words])), (ap0_routines, .inr (3, [.int (vp0_routines_width), .ref ap0_routines_cells, .int (vp0_routines_size)])), (ap0_routines_cells, .inl (cy 0, 24, .inl (fp0_routines_cells))), (ap0_calls, .inr (3, [.int (vp0_calls_width), .ref ap0_calls_cells, .int (vp0_calls_size)])), (ap0_calls_cells, .inl (cy 0, 32, .inl (fp0_calls_cells)))] [(ap0, .inr (6, [.ref ap0_routines, .ref ap0_ops, .ref ap0_landings, .ref ap0_calls, .ref ap0_registers, .ref ap0_words])), (ap0_routines, .inr (3, [.int (vp0_routines_width), .ref ap0_routines_cells, .int (vp0_routines_size)])), (ap0_routines_cells, .inl (cy 0, 24, .inl (fp0_routines_cells))), (ap0_calls, .inr (3, [.int (vp0_calls_width), .ref ap0_calls_cells, .int (vp0_calls_size)])), (ap0_calls_cells, .inl (cy 0, 32, .inl (fp0_calls_cells)))] res := by
  intro sz
  refine Met.mk0 (cc := cX0_scoreOf) (maxL := 4) (ret := (some .int)) (Qc := fun A => Qi D A [(ap0, .inr (6, [.ref ap0_routines, .ref ap0_ops, .ref ap0_landings, .ref ap0_calls, .ref ap0_registers, .ref ap0_words])), (ap0_routines, .inr (3, [.int (vp0_routines_width), .ref ap0_routines_cells, .int (vp0_routines_size)])), (ap0_routines_cells, .inl (cy 0, 24, .inl (fp0_routines_cells))), (ap0_calls, .inr (3, [.int (vp0_calls_width), .ref ap0_calls_cells, .int (vp0_calls_size)])), (ap0_calls_cells, .inl (cy 0, 32, .inl (fp0_calls_cells)))] res) (by decide) rfl (Nat.le_of_ble_eq_true rfl) ?_
  intro p e s m below meth c A ls hx hb hml hown hts hr hlocks hK hP hD hA hl
  have hown : s.vm.findClass RX0 = some m.cls := hown
  have hl : lv_has ls 4 [(0, .ref ap0), (1, .int (x1)), (2, .int (x2))] := hl
  have hinX6 : ∀ w ∈ u_ws RX6 TX6 6, w ∈ wsX0_scoreOf := (fun w h => List.mem_cons_of_mem _ (List.mem_append_left _ (List.mem_append_right _ h)))
  have hinX3 : ∀ w ∈ u_ws RX3 TX3 3, w ∈ wsX0_scoreOf := (fun w h => List.mem_cons_of_mem _ (List.mem_append_right _ h))
  have hb25 : ∀ (y1 : Int32) (y2 : Int32) (y3 : Int32) (H : Heap) (locs : List Loc) (ls : Array Slot), va_P D vwCl [(ap0, .inr (6, [.ref ap0_routines, .ref ap0_ops, .ref ap0_landings, .ref ap0_calls, .ref ap0_registers, .ref ap0_words])), (ap0_routines, .inr (3, [.int (vp0_routines_width), .ref ap0_routines_cells, .int (vp0_routines_size)])), (ap0_routines_cells, .inl (cy 0, 24, .inl (fp0_routines_cells))), (ap0_calls, .inr (3, [.int (vp0_calls_width), .ref ap0_calls_cells, .int (vp0_calls_size)])), (ap0_calls_cells, .inl (cy 0, 32, .inl (fp0_calls_cells)))] H → va_D A [(ap0, .inr (6, [.ref ap0_routines, .ref ap0_ops, .ref ap0_landings, .ref ap0_calls, .ref ap0_registers, .ref ap0_words])), (ap0_routines, .inr (3, [.int (vp0_routines_width), .ref ap0_routines_cells, .int (vp0_routines_size)])), (ap0_routines_cells, .inl (cy 0, 24, .inl (fp0_routines_cells))), (ap0_calls, .inr (3, [.int (vp0_calls_width), .ref ap0_calls_cells, .int (vp0_calls_size)])), (ap0_calls_cells, .inl (cy 0, 32, .inl (fp0_calls_cells)))] → va_S A s.heap H locs → lv_has ls 4 [(0, .ref ap0), (1, .int (y1)), (2, .int (y2)), (3, .int (y3))] → f_X0_scoreOf_b25 vp0_routines_width vp0_routines_size fp0_routines_cells vp0_calls_width vp0_calls_size fp0_calls_cells  y1 y2 y3 = some res → W p l e ({ frames := 3, cells := 0, slots := 0, locals := 69 } : Room) s m [.ref ap0, .int (x1), .int (x2)].toArray below meth c H locs 0 0 (MQ below (Qi D A [(ap0, .inr (6, [.ref ap0_routines, .ref ap0_ops, .ref ap0_landings, .ref ap0_calls, .ref ap0_registers, .ref ap0_words])), (ap0_routines, .inr (3, [.int (vp0_routines_width), .ref ap0_routines_cells, .int (vp0_routines_size)])), (ap0_routines_cells, .inl (cy 0, 24, .inl (fp0_routines_cells))), (ap0_calls, .inr (3, [.int (vp0_calls_width), .ref ap0_calls_cells, .int (vp0_calls_size)])), (ap0_calls_cells, .inl (cy 0, 32, .inl (fp0_calls_cells)))] res) [.ref ap0, .int (x1), .int (x2)].toArray s 0 0 A) (F0 m 25 ls []) := by
    intro y1 y2 y3 H locs ls hP hD hS hl h
    unfold f_X0_scoreOf_b25 at h
    refine lv_iload_n hx hb dX0_scoreOf_25 rfl (lv_at hl 2 rfl) ?_
    refine lv_bipush (v := (-4 : Int32)) hx hb dX0_scoreOf_26 (by decide) ?_
    refine lv_icmp_eq (tgt := 43) hx hb dX0_scoreOf_28 (by decide) (fun c_31 => ?_) (fun c_31 => ?_)
    · have h := ift c_31 h
      refine lv_iload_n hx hb dX0_scoreOf_43 rfl (lv_at hl 3 rfl) ?_
      have e0 := Option.some.inj h
      exact Mi.ret' hx hb hr hlocks e0 rfl hP hD hS dX0_scoreOf_44
    · have h := ifn c_31 h
      refine lv_aload_n hx hb dX0_scoreOf_31 rfl (lv_at hl 0 rfl) ?_
      refine lv_iload_n hx hb dX0_scoreOf_32 rfl (lv_at hl 1 rfl) ?_
      refine lv_iload_n hx hb dX0_scoreOf_33 rfl (lv_at hl 2 rfl) ?_
      obtain ⟨r_32, hc_34, h⟩ := bn1_s h
      refine call_i (ws1 := [(ap0, .inr (6, [.ref ap0_routines, .ref ap0_ops, .ref ap0_landings, .ref ap0_calls, .ref ap0_registers, .ref ap0_words])), (ap0_routines, .inr (3, [.int (vp0_routines_width), .ref ap0_routines_cells, .int (vp0_routines_size)])), (ap0_routines_cells, .inl (cy 0, 24, .inl (fp0_routines_cells))), (ap0_calls, .inr (3, [.int (vp0_calls_width), .ref ap0_calls_cells, .int (vp0_calls_size)])), (ap0_calls_cells, .inl (cy 0, 32, .inl (fp0_calls_cells)))]) (wr := []) (run_V ⟨hx, hb, hml, hown, hts⟩ ((c_X6_isCallInto l D cy ap0 ap0_routines ap0_ops ap0_landings ap0_calls ap0_registers ap0_words ap0_routines_cells ap0_calls_cells (vp0_routines_width) (vp0_routines_size) (fp0_routines_cells) (vp0_calls_width) (vp0_calls_size) (fp0_calls_cells) (y1) (y2) r_32 hc_34) H.size) (cwV 2 hts gX0_scoreOf_X6_isCallInto rfl rfl rfl hd_X6_isCallInto ⟨Nat.le_of_ble_eq_true rfl, Nat.le_of_ble_eq_true rfl⟩) KK.calling (fun U _ hW => hK.warm hW) hK.1 hP hD [0, 1, 2, 3, 4] [] [0, 1, 2, 3, 4] rfl rfl 0 6 rfl rfl rfl rfl hl.1 rfl (lv_room (Nat.le_of_ble_eq_true rfl)) dX0_scoreOf_34) hP hD hS hA [0, 1, 2, 3, 4] [] [0, 1, 2, 3, 4] rfl rfl rfl rfl (fun H locs hP hD hS => ?_)
      refine lv_if_eq (tgt := 43) hx hb dX0_scoreOf_37 (by decide) (fun c_33 => ?_) (fun c_33 => ?_)
      · have h := ift c_33 h
        refine lv_iload_n hx hb dX0_scoreOf_43 rfl (lv_at hl 3 rfl) ?_
        have e0 := Option.some.inj h
        exact Mi.ret' hx hb hr hlocks e0 rfl hP hD hS dX0_scoreOf_44
      · have h := ifn c_33 h
        refine lv_iinc (v := y3 + (4 : Int32)) (lv' := [(3, .int (y3 + (4 : Int32))), (0, .ref ap0), (1, .int (y1)), (2, .int (y2))]) hx hb dX0_scoreOf_40 hl (k := 3) rfl rfl (by decide) rfl (fun ls hl => ?_)
        refine lv_iload_n hx hb dX0_scoreOf_43 rfl (lv_at hl 0 rfl) ?_
        have e0 := Option.some.inj h
        exact Mi.ret' hx hb hr hlocks e0 rfl hP hD hS dX0_scoreOf_44
  have main : ∀ (H : Heap) (locs : List Loc) (ls : Array Slot), va_P D vwCl [(ap0, .inr (6, [.ref ap0_routines, .ref ap0_ops, .ref ap0_landings, .ref ap0_calls, .ref ap0_registers, .ref ap0_words])), (ap0_routines, .inr (3, [.int (vp0_routines_width), .ref ap0_routines_cells, .int (vp0_routines_size)])), (ap0_routines_cells, .inl (cy 0, 24, .inl (fp0_routines_cells))), (ap0_calls, .inr (3, [.int (vp0_calls_width), .ref ap0_calls_cells, .int (vp0_calls_size)])), (ap0_calls_cells, .inl (cy 0, 32, .inl (fp0_calls_cells)))] H → va_D A [(ap0, .inr (6, [.ref ap0_routines, .ref ap0_ops, .ref ap0_landings, .ref ap0_calls, .ref ap0_registers, .ref ap0_words])), (ap0_routines, .inr (3, [.int (vp0_routines_width), .ref ap0_routines_cells, .int (vp0_routines_size)])), (ap0_routines_cells, .inl (cy 0, 24, .inl (fp0_routines_cells))), (ap0_calls, .inr (3, [.int (vp0_calls_width), .ref ap0_calls_cells, .int (vp0_calls_size)])), (ap0_calls_cells, .inl (cy 0, 32, .inl (fp0_calls_cells)))] → va_S A s.heap H locs → lv_has ls 4 [(0, .ref ap0), (1, .int (x1)), (2, .int (x2))] → f_X0_scoreOf x1 x2 vp0_routines_width vp0_routines_size fp0_routines_cells vp0_calls_width vp0_calls_size fp0_calls_cells = some res → W p l e ({ frames := 3, cells := 0, slots := 0, locals := 69 } : Room) s m [.ref ap0, .int (x1), .int (x2)].toArray below meth c H locs 0 0 (MQ below (Qi D A [(ap0, .inr (6, [.ref ap0_routines, .ref ap0_ops, .ref ap0_landings, .ref ap0_calls, .ref ap0_registers, .ref ap0_words])), (ap0_routines, .inr (3, [.int (vp0_routines_width), .ref ap0_routines_cells, .int (vp0_routines_size)])), (ap0_routines_cells, .inl (cy 0, 24, .inl (fp0_routines_cells))), (ap0_calls, .inr (3, [.int (vp0_calls_width), .ref ap0_calls_cells, .int (vp0_calls_size)])), (ap0_calls_cells, .inl (cy 0, 32, .inl (fp0_calls_cells)))] res) [.ref ap0, .int (x1), .int (x2)].toArray s 0 0 A) (F0 m 0 ls []) := by
    intro H locs ls hP hD hS hl h
    unfold f_X0_scoreOf at h
    refine lv_aload_n hx hb dX0_scoreOf_0 rfl (lv_at hl 0 rfl) ?_
    refine lv_iload_n hx hb dX0_scoreOf_1 rfl (lv_at hl 1 rfl) ?_
    obtain ⟨r_35, hc_40, h⟩ := bn1_s h
    refine call_i (ws1 := [(ap0, .inr (6, [.ref ap0_routines, .ref ap0_ops, .ref ap0_landings, .ref ap0_calls, .ref ap0_registers, .ref ap0_words])), (ap0_routines, .inr (3, [.int (vp0_routines_width), .ref ap0_routines_cells, .int (vp0_routines_size)])), (ap0_routines_cells, .inl (cy 0, 24, .inl (fp0_routines_cells))), (ap0_calls, .inr (3, [.int (vp0_calls_width), .ref ap0_calls_cells, .int (vp0_calls_size)])), (ap0_calls_cells, .inl (cy 0, 32, .inl (fp0_calls_cells)))]) (wr := [(ap0_calls, .inr (3, [.int (vp0_calls_width), .ref ap0_calls_cells, .int (vp0_calls_size)])), (ap0_calls_cells, .inl (cy 0, 32, .inl (fp0_calls_cells)))]) (run_V ⟨hx, hb, hml, hown, hts⟩ ((c_X6_ownerOf l D cy ap0 ap0_routines ap0_ops ap0_landings ap0_calls ap0_registers ap0_words ap0_routines_cells (vp0_routines_width) (vp0_routines_size) (fp0_routines_cells) (x1) r_35 hc_40) H.size) (cwV 1 hts gX0_scoreOf_X6_ownerOf rfl rfl rfl hd_X6_ownerOf ⟨Nat.le_of_ble_eq_true rfl, Nat.le_of_ble_eq_true rfl⟩) KK.calling (fun U _ hW => hK.warm hW) hK.1 hP hD [0, 1, 2] [3, 4] [2, 3, 4, 0, 1] rfl rfl 0 6 rfl rfl rfl rfl hl.1 rfl (lv_room (Nat.le_of_ble_eq_true rfl)) dX0_scoreOf_2) hP hD hS hA [0, 1, 2] [3, 4] [2, 3, 4, 0, 1] rfl rfl rfl rfl (fun H locs hP hD hS => ?_)
    refine lv_bipush (v := (-4 : Int32)) hx hb dX0_scoreOf_5 (by decide) ?_
    refine lv_icmp_ne (tgt := 12) hx hb dX0_scoreOf_7 (by decide) (fun c_36 => ?_) (fun c_36 => ?_)
    · have h := ifn c_36 h
      refine lv_iconst (v := (1 : Int32)) hx hb dX0_scoreOf_12 (by decide) ?_
      refine lv_istore_n (lv' := [(3, .int ((1 : Int32))), (0, .ref ap0), (1, .int (x1)), (2, .int (x2))]) hx hb dX0_scoreOf_13 rfl hl (by decide) rfl (fun ls hl => ?_)
      refine lv_aload_n hx hb dX0_scoreOf_14 rfl (lv_at hl 1 rfl) ?_
      refine lv_iload_n hx hb dX0_scoreOf_15 rfl (lv_at hl 2 rfl) ?_
      obtain ⟨r_37, hc_39, h⟩ := bn1_s h
      refine call_i (ws1 := [(ap0, .inr (6, [.ref ap0_routines, .ref ap0_ops, .ref ap0_landings, .ref ap0_calls, .ref ap0_registers, .ref ap0_words])), (ap0_routines, .inr (3, [.int (vp0_routines_width), .ref ap0_routines_cells, .int (vp0_routines_size)])), (ap0_routines_cells, .inl (cy 0, 24, .inl (fp0_routines_cells))), (ap0_calls, .inr (3, [.int (vp0_calls_width), .ref ap0_calls_cells, .int (vp0_calls_size)])), (ap0_calls_cells, .inl (cy 0, 32, .inl (fp0_calls_cells)))]) (wr := [(ap0_routines, .inr (3, [.int (vp0_routines_width), .ref ap0_routines_cells, .int (vp0_routines_size)])), (ap0_routines_cells, .inl (cy 0, 24, .inl (fp0_routines_cells)))]) (run_V ⟨hx, hb, hml, hown, hts⟩ ((c_X6_isCallAt l D cy ap0 ap0_routines ap0_ops ap0_landings ap0_calls ap0_registers ap0_words ap0_calls_cells (vp0_calls_width) (vp0_calls_size) (fp0_calls_cells) (x1) r_37 hc_39) H.size) (cwV 1 hts gX0_scoreOf_X6_isCallAt rfl rfl rfl hd_X6_isCallAt ⟨Nat.le_of_ble_eq_true rfl, Nat.le_of_ble_eq_true rfl⟩) KK.calling (fun U _ hW => hK.warm hW) hK.1 hP hD [0, 3, 4] [1, 2] [2, 0, 1, 3, 4] rfl rfl 0 6 rfl rfl rfl rfl hl.1 rfl (lv_room (Nat.le_of_ble_eq_true rfl)) dX0_scoreOf_16) hP hD hS hA [0, 3, 4] [1, 2] [2, 0, 1, 3, 4] rfl rfl rfl rfl (fun H locs hP hD hS => ?_)
      refine lv_if_eq (tgt := 25) hx hb dX0_scoreOf_19 (by decide) (fun c_38 => ?_) (fun c_38 => ?_)
      · have h := ift c_38 h
        exact hb25 (x1) (x2) ((1 : Int32)) H locs ls hP hD hS (lv_sub hl [1, 2, 3, 0] rfl) h
      · have h := ifn c_38 h
        refine lv_iinc (v := ((1 : Int32)) + (2 : Int32)) (lv' := [(3, .int (((1 : Int32)) + (2 : Int32))), (0, .ref ap0), (1, .int (x1)), (2, .int (x2))]) hx hb dX0_scoreOf_22 hl (k := 0) rfl rfl (by decide) rfl (fun ls hl => ?_)
        exact hb25 (x1) (x2) (((1 : Int32)) + (2 : Int32)) H locs ls hP hD hS (lv_sub hl [1, 2, 3, 0] rfl) h
    · have h := ift c_36 h
      refine lv_iconst (v := (0 : Int32)) hx hb dX0_scoreOf_10 (by decide) ?_
      have e0 := Option.some.inj h
      exact Mi.ret' hx hb hr hlocks e0 rfl hP hD hS dX0_scoreOf_11
  exact main s.heap [] ls hP hD va_S.rf hl h
theorem hd_X0_lookThrough : yX0_lookThrough.cls = RX0 ∧ yX0_lookThrough.cls ≠ "java/lang/invoke/MethodHandle" ∧ yX0_lookThrough.cls ≠ "java/lang/invoke/VarHandle" ∧ (parseMethodDescriptor yX0_lookThrough.desc).map (fun d => d.parameters.length) = some 3 := by decide +kernel
def f_X0_lookThrough_L8 (vp1_routines_width : Int32) (vp1_routines_size : Int32) (fp1_routines_cells : Nat → Int32) (vp1_calls_width : Int32) (vp1_calls_size : Int32) (fp1_calls_cells : Nat → Int32) (fp1_words : Nat → Int32) : Nat → Int32 → Int32 → Int32 → Int32 → (Nat → Int32) → (Nat → Int32) → Option (Int32 × (Nat → Int32) × (Nat → Int32))
  | 0, _, _, _, _, _, _ => none
  | n + 1, y2, y3, y4, v_size, f_places, f_scores => (if (16 : Int32) ≤ y4 then (some (v_size, f_places, f_scores)) else (bn1 (f_X7_isWord (y2 + y4)) (fun r_38 => (if r_38 = 0 then ((f_X0_lookThrough_L8 vp1_routines_width vp1_routines_size fp1_routines_cells vp1_calls_width vp1_calls_size fp1_calls_cells fp1_words  n) (y2) (y3) (y4 + (1 : Int32)) (v_size) (f_places) (f_scores)) else (cki (y2 + y4) 48 (bn1 (f_X0_scoreOf ((fp1_words (y2 + y4).toNatClampNeg) - (1 : Int32)) (y3) (vp1_routines_width) (vp1_routines_size) (fp1_routines_cells) (vp1_calls_width) (vp1_calls_size) (fp1_calls_cells)) (fun r_41 => (if r_41 ≤ 0 then ((f_X0_lookThrough_L8 vp1_routines_width vp1_routines_size fp1_routines_cells vp1_calls_width vp1_calls_size fp1_calls_cells fp1_words  n) (y2) (y3) (y4 + (1 : Int32)) (v_size) (f_places) (f_scores)) else (bn3 (f_X0_enter (y2 + y4) (r_41) (v_size) (f_places) (f_scores)) (fun m_43 m_44 m_45 => ((f_X0_lookThrough_L8 vp1_routines_width vp1_routines_size fp1_routines_cells vp1_calls_width vp1_calls_size fp1_calls_cells fp1_words  n) (y2) (y3) (y4 + (1 : Int32)) (m_43) (m_44) (m_45))))))))))))
def f_X0_lookThrough (x2 : Int32) (x3 : Int32) (v_size : Int32) (f_places : Nat → Int32) (f_scores : Nat → Int32) (vp1_routines_width : Int32) (vp1_routines_size : Int32) (fp1_routines_cells : Nat → Int32) (vp1_calls_width : Int32) (vp1_calls_size : Int32) (fp1_calls_cells : Nat → Int32) (fp1_words : Nat → Int32) : Option (Int32 × (Nat → Int32) × (Nat → Int32)) := (f_X0_lookThrough_L8 vp1_routines_width vp1_routines_size fp1_routines_cells vp1_calls_width vp1_calls_size fp1_calls_cells fp1_words  FUEL (x2) (x3) ((0 : Int32)) ((0 : Int32)) (f_places) (f_scores))
set_option maxHeartbeats 4000000 in
set_option maxRecDepth 100000 in
theorem c_X0_lookThrough (l : Launch) (D : va_G) (cy : Nat → ClassId) (a a_places a_scores ap1 ap1_routines ap1_ops ap1_landings ap1_calls ap1_registers ap1_words ap1_routines_cells ap1_calls_cells : Nat) (v_size : Int32) (f_places : Nat → Int32) (f_scores : Nat → Int32) (vp1_routines_width : Int32) (vp1_routines_size : Int32) (fp1_routines_cells : Nat → Int32) (vp1_calls_width : Int32) (vp1_calls_size : Int32) (fp1_calls_cells : Nat → Int32) (fp1_words : Nat → Int32) (x2 : Int32) (x3 : Int32) (z_v_size : Int32) (z_f_places : Nat → Int32) (z_f_scores : Nat → Int32) (h : f_X0_lookThrough x2 x3 v_size f_places f_scores vp1_routines_width vp1_routines_size fp1_routines_cells vp1_calls_width vp1_calls_size fp1_calls_cells fp1_words = some (z_v_size, z_f_places, z_f_scores)) : Mv l yX0_lookThrough wsX0_lookThrough ({ frames := 4, cells := 0, slots := 0, locals := 92 } : Room) (KK D cy) D [.ref a, .ref ap1, .int (x2), .int (x3)] [(a, .inr (0, [.ref a_places, .ref a_scores, .int (v_size)])), (a_places, .inl (cy 0, 16, .inl (f_places))), (a_scores, .inl (cy 0, 16, .inl (f_scores))), (ap1, .inr (6, [.ref ap1_routines, .ref ap1_ops, .ref ap1_landings, .ref ap1_calls, .ref ap1_registers, .ref ap1_words])), (ap1_routines, .inr (3, [.int (vp1_routines_width), .ref ap1_routines_cells, .int (vp1_routines_size)])), (ap1_routines_cells, .inl (cy 0, 24, .inl (fp1_routines_cells))), (ap1_calls, .inr (3, [.int (vp1_calls_width), .ref ap1_calls_cells, .int (vp1_calls_size)])), (ap1_calls_cells, .inl (cy 0, 32, .inl (fp1_calls_cells))), (ap1_words, .inl (cy 0, 48, .inl (fp1_words)))] [(a, .inr (0, [.ref a_places, .ref a_scores, .int (z_v_size)])), (a_places, .inl (cy 0, 16, .inl (z_f_places))), (a_scores, .inl (cy 0, 16, .inl (z_f_scores))), (ap1, .inr (6, [.ref ap1_routines, .ref ap1_ops, .ref ap1_landings, .ref ap1_calls, .ref ap1_registers, .ref ap1_words])), (ap1_routines, .inr (3, [.int (vp1_routines_width), .ref ap1_routines_cells, .int (vp1_routines_size)])), (ap1_routines_cells, .inl (cy 0, 24, .inl (fp1_routines_cells))), (ap1_calls, .inr (3, [.int (vp1_calls_width), .ref ap1_calls_cells, .int (vp1_calls_size)])), (ap1_calls_cells, .inl (cy 0, 32, .inl (fp1_calls_cells))), (ap1_words, .inl (cy 0, 48, .inl (fp1_words)))] := by
  intro sz
  refine Met.mk0 (cc := cX0_lookThrough) (maxL := 7) (ret := none) (Qc := fun A => Qv D A [(a, .inr (0, [.ref a_places, .ref a_scores, .int (z_v_size)])), (a_places, .inl (cy 0, 16, .inl (z_f_places))), (a_scores, .inl (cy 0, 16, .inl (z_f_scores))), (ap1, .inr (6, [.ref ap1_routines, .ref ap1_ops, .ref ap1_landings, .ref ap1_calls, .ref ap1_registers, .ref ap1_words])), (ap1_routines, .inr (3, [.int (vp1_routines_width), .ref ap1_routines_cells, .int (vp1_routines_size)])), (ap1_routines_cells, .inl (cy 0, 24, .inl (fp1_routines_cells))), (ap1_calls, .inr (3, [.int (vp1_calls_width), .ref ap1_calls_cells, .int (vp1_calls_size)])), (ap1_calls_cells, .inl (cy 0, 32, .inl (fp1_calls_cells))), (ap1_words, .inl (cy 0, 48, .inl (fp1_words)))]) (by decide) rfl (Nat.le_of_ble_eq_true rfl) ?_
  intro p e s m below meth c A ls hx hb hml hown hts hr hlocks hK hP hD hA hl
  have hown : s.vm.findClass RX0 = some m.cls := hown
  have hl : lv_has ls 7 [(0, .ref a), (1, .ref ap1), (2, .int (x2)), (3, .int (x3))] := hl
  have hinX0 : ∀ w ∈ u_ws RX0 TX0 3, w ∈ wsX0_lookThrough := (fun w h => List.mem_cons_of_mem _ (List.mem_append_left _ (List.mem_append_left _ (List.mem_append_right _ h))))
  have hinX6 : ∀ w ∈ u_ws RX6 TX6 6, w ∈ wsX0_lookThrough := (fun w h => List.mem_cons_of_mem _ (List.mem_append_left _ (List.mem_append_right _ h)))
  have hinX3 : ∀ w ∈ u_ws RX3 TX3 3, w ∈ wsX0_lookThrough := (fun w h => List.mem_cons_of_mem _ (List.mem_append_right _ h))
  have hL8 : ∀ (n8 : Nat) (y2 : Int32) (y3 : Int32) (y4 : Int32) (v_size : Int32) (f_places : Nat → Int32) (f_scores : Nat → Int32) (H : Heap) (locs : List Loc) (ls : Array Slot), va_P D vwCl [(a, .inr (0, [.ref a_places, .ref a_scores, .int (v_size)])), (a_places, .inl (cy 0, 16, .inl (f_places))), (a_scores, .inl (cy 0, 16, .inl (f_scores))), (ap1, .inr (6, [.ref ap1_routines, .ref ap1_ops, .ref ap1_landings, .ref ap1_calls, .ref ap1_registers, .ref ap1_words])), (ap1_routines, .inr (3, [.int (vp1_routines_width), .ref ap1_routines_cells, .int (vp1_routines_size)])), (ap1_routines_cells, .inl (cy 0, 24, .inl (fp1_routines_cells))), (ap1_calls, .inr (3, [.int (vp1_calls_width), .ref ap1_calls_cells, .int (vp1_calls_size)])), (ap1_calls_cells, .inl (cy 0, 32, .inl (fp1_calls_cells))), (ap1_words, .inl (cy 0, 48, .inl (fp1_words)))] H → va_D A [(a, .inr (0, [.ref a_places, .ref a_scores, .int (v_size)])), (a_places, .inl (cy 0, 16, .inl (f_places))), (a_scores, .inl (cy 0, 16, .inl (f_scores))), (ap1, .inr (6, [.ref ap1_routines, .ref ap1_ops, .ref ap1_landings, .ref ap1_calls, .ref ap1_registers, .ref ap1_words])), (ap1_routines, .inr (3, [.int (vp1_routines_width), .ref ap1_routines_cells, .int (vp1_routines_size)])), (ap1_routines_cells, .inl (cy 0, 24, .inl (fp1_routines_cells))), (ap1_calls, .inr (3, [.int (vp1_calls_width), .ref ap1_calls_cells, .int (vp1_calls_size)])), (ap1_calls_cells, .inl (cy 0, 32, .inl (fp1_calls_cells))), (ap1_words, .inl (cy 0, 48, .inl (fp1_words)))] → va_S A s.heap H locs → lv_has ls 7 [(0, .ref a), (1, .ref ap1), (2, .int (y2)), (3, .int (y3)), (4, .int (y4))] → f_X0_lookThrough_L8 vp1_routines_width vp1_routines_size fp1_routines_cells vp1_calls_width vp1_calls_size fp1_calls_cells fp1_words  n8 y2 y3 y4 v_size f_places f_scores = some (z_v_size, z_f_places, z_f_scores) → W p l e ({ frames := 4, cells := 0, slots := 0, locals := 92 } : Room) s m [.ref a, .ref ap1, .int (x2), .int (x3)].toArray below meth c H locs 0 0 (MQ below (Qv D A [(a, .inr (0, [.ref a_places, .ref a_scores, .int (z_v_size)])), (a_places, .inl (cy 0, 16, .inl (z_f_places))), (a_scores, .inl (cy 0, 16, .inl (z_f_scores))), (ap1, .inr (6, [.ref ap1_routines, .ref ap1_ops, .ref ap1_landings, .ref ap1_calls, .ref ap1_registers, .ref ap1_words])), (ap1_routines, .inr (3, [.int (vp1_routines_width), .ref ap1_routines_cells, .int (vp1_routines_size)])), (ap1_routines_cells, .inl (cy 0, 24, .inl (fp1_routines_cells))), (ap1_calls, .inr (3, [.int (vp1_calls_width), .ref ap1_calls_cells, .int (vp1_calls_size)])), (ap1_calls_cells, .inl (cy 0, 32, .inl (fp1_calls_cells))), (ap1_words, .inl (cy 0, 48, .inl (fp1_words)))]) [.ref a, .ref ap1, .int (x2), .int (x3)].toArray s 0 0 A) (F0 m 8 ls []) := by
    intro n8
    induction n8 with
    | zero =>
      intro y2 y3 y4 v_size f_places f_scores H locs ls hP hD hS hl h
      cases (id h : (none : Option (Int32 × (Nat → Int32) × (Nat → Int32))) = some _)
    | succ n8 ih8 =>
      intro y2 y3 y4 v_size f_places f_scores H locs ls hP hD hS hl h
      rw [f_X0_lookThrough_L8] at h
      refine lv_iload hx hb dX0_lookThrough_8 (lv_at hl 4 rfl) ?_
      refine lv_bipush (v := (16 : Int32)) hx hb dX0_lookThrough_10 (by decide) ?_
      refine lv_icmp_ge (tgt := 64) hx hb dX0_lookThrough_12 (by decide) (fun c_37 => ?_) (fun c_37 => ?_)
      · have h := ift c_37 h
        obtain ⟨e0, e1, e2⟩ := tp3_s h
        exact Mv.ret' hx hb hr hlocks (by rw [← e0, ← e1, ← e2]) hP hD hS dX0_lookThrough_64
      · have h := ifn c_37 h
        refine lv_iload_n hx hb dX0_lookThrough_15 rfl (lv_at hl 2 rfl) ?_
        refine lv_iload hx hb dX0_lookThrough_16 (lv_at hl 4 rfl) ?_
        refine lv_iadd hx hb dX0_lookThrough_18 ?_
        refine lv_istore (lv' := [(5, .int (y2 + y4)), (0, .ref a), (1, .ref ap1), (2, .int (y2)), (3, .int (y3)), (4, .int (y4))]) hx hb dX0_lookThrough_19 hl (by decide) rfl (fun ls hl => ?_)
        refine lv_iload hx hb dX0_lookThrough_21 (lv_at hl 0 rfl) ?_
        obtain ⟨r_38, hc_48, h⟩ := bn1_s h
        refine call_i (ws1 := [(a, .inr (0, [.ref a_places, .ref a_scores, .int (v_size)])), (a_places, .inl (cy 0, 16, .inl (f_places))), (a_scores, .inl (cy 0, 16, .inl (f_scores))), (ap1, .inr (6, [.ref ap1_routines, .ref ap1_ops, .ref ap1_landings, .ref ap1_calls, .ref ap1_registers, .ref ap1_words])), (ap1_routines, .inr (3, [.int (vp1_routines_width), .ref ap1_routines_cells, .int (vp1_routines_size)])), (ap1_routines_cells, .inl (cy 0, 24, .inl (fp1_routines_cells))), (ap1_calls, .inr (3, [.int (vp1_calls_width), .ref ap1_calls_cells, .int (vp1_calls_size)])), (ap1_calls_cells, .inl (cy 0, 32, .inl (fp1_calls_cells))), (ap1_words, .inl (cy 0, 48, .inl (fp1_words)))]) (wr := [(a, .inr (0, [.ref a_places, .ref a_scores, .int (v_size)])), (a_places, .inl (cy 0, 16, .inl (f_places))), (a_scores, .inl (cy 0, 16, .inl (f_scores))), (ap1, .inr (6, [.ref ap1_routines, .ref ap1_ops, .ref ap1_landings, .ref ap1_calls, .ref ap1_registers, .ref ap1_words])), (ap1_routines, .inr (3, [.int (vp1_routines_width), .ref ap1_routines_cells, .int (vp1_routines_size)])), (ap1_routines_cells, .inl (cy 0, 24, .inl (fp1_routines_cells))), (ap1_calls, .inr (3, [.int (vp1_calls_width), .ref ap1_calls_cells, .int (vp1_calls_size)])), (ap1_calls_cells, .inl (cy 0, 32, .inl (fp1_calls_cells))), (ap1_words, .inl (cy 0, 48, .inl (fp1_words)))]) (run_SN ⟨hx, hb, hml, hown, hts⟩ ((c_X7_isWord l D cy (y2 + y4) r_38 hc_48) H.size) (va_cnB 1 hts gX0_lookThrough_X7_isWord_n22 rfl rfl rfl (hK.2.2 _ (List.mem_of_getElem? (i := 8) rfl)) (hts (.initialized RX7) (List.mem_of_getElem? (i := 3) rfl)) hd_X7_isWord.2 ⟨Nat.le_of_ble_eq_true rfl, Nat.le_of_ble_eq_true rfl⟩) (hts (.static yX7_isWord) (List.mem_of_getElem? (i := 2) rfl)) KK.calling (fun U _ hW => hK.warm hW) hP hD [] [0, 1, 2, 3, 4, 5, 6, 7, 8] [0, 1, 2, 3, 4, 5, 6, 7, 8] rfl rfl rfl hl.1 rfl (lv_room (Nat.le_of_ble_eq_true rfl)) dX0_lookThrough_23) hP hD hS hA [] [0, 1, 2, 3, 4, 5, 6, 7, 8] [0, 1, 2, 3, 4, 5, 6, 7, 8] rfl rfl rfl rfl (fun H locs hP hD hS => ?_)
        refine lv_if_eq (tgt := 58) hx hb dX0_lookThrough_26 (by decide) (fun c_39 => ?_) (fun c_39 => ?_)
        · have h := ift c_39 h
          refine lv_iinc (v := y4 + (1 : Int32)) (lv' := [(4, .int (y4 + (1 : Int32))), (5, .int (y2 + y4)), (0, .ref a), (1, .ref ap1), (2, .int (y2)), (3, .int (y3))]) hx hb dX0_lookThrough_58 hl (k := 5) rfl rfl (by decide) rfl (fun ls hl => ?_)
          refine lv_goto (tgt := 8) hx hb dX0_lookThrough_61 (by decide) ?_
          exact ih8 (y2) (y3) (y4 + (1 : Int32)) (v_size) (f_places) (f_scores) H locs ls hP hD hS (lv_sub hl [2, 3, 4, 5, 0] rfl) h
        · have h := ifn c_39 h
          refine lv_aload_n hx hb dX0_lookThrough_29 rfl (lv_at hl 2 rfl) ?_
          refine lv_aload_n hx hb dX0_lookThrough_30 rfl (lv_at hl 2 rfl) ?_
          refine va_getN (D := D) (ci := 6) (v := .ref ap1_words) (C := RX6) (T := TX6) (N := 6) hx hb hts hinX6 hown hK.1 hP 3 rfl rfl 5 (by decide) ((hK.2.1 _ (List.mem_of_getElem? (i := 16) rfl)).use rfl) (fun _ h9 => h9) rfl dX0_lookThrough_31 ?_
          refine lv_iload hx hb dX0_lookThrough_34 (lv_at hl 0 rfl) ?_
          obtain ⟨i_40, h⟩ := cki_s h
          refine va_iald hx hb hK.1 hP 8 0 rfl rfl i_40 dX0_lookThrough_36 ?_
          refine lv_iconst (v := (1 : Int32)) hx hb dX0_lookThrough_37 (by decide) ?_
          refine lv_isub hx hb dX0_lookThrough_38 ?_
          refine lv_iload_n hx hb dX0_lookThrough_39 rfl (lv_at hl 4 rfl) ?_
          obtain ⟨r_41, hc_47, h⟩ := bn1_s h
          refine call_i (ws1 := [(a, .inr (0, [.ref a_places, .ref a_scores, .int (v_size)])), (a_places, .inl (cy 0, 16, .inl (f_places))), (a_scores, .inl (cy 0, 16, .inl (f_scores))), (ap1, .inr (6, [.ref ap1_routines, .ref ap1_ops, .ref ap1_landings, .ref ap1_calls, .ref ap1_registers, .ref ap1_words])), (ap1_routines, .inr (3, [.int (vp1_routines_width), .ref ap1_routines_cells, .int (vp1_routines_size)])), (ap1_routines_cells, .inl (cy 0, 24, .inl (fp1_routines_cells))), (ap1_calls, .inr (3, [.int (vp1_calls_width), .ref ap1_calls_cells, .int (vp1_calls_size)])), (ap1_calls_cells, .inl (cy 0, 32, .inl (fp1_calls_cells))), (ap1_words, .inl (cy 0, 48, .inl (fp1_words)))]) (wr := [(a, .inr (0, [.ref a_places, .ref a_scores, .int (v_size)])), (a_places, .inl (cy 0, 16, .inl (f_places))), (a_scores, .inl (cy 0, 16, .inl (f_scores))), (ap1_words, .inl (cy 0, 48, .inl (fp1_words)))]) (run_S ⟨hx, hb, hml, hown, hts⟩ ((c_X0_scoreOf l D cy ap1 ap1_routines ap1_ops ap1_landings ap1_calls ap1_registers ap1_words ap1_routines_cells ap1_calls_cells (vp1_routines_width) (vp1_routines_size) (fp1_routines_cells) (vp1_calls_width) (vp1_calls_size) (fp1_calls_cells) ((fp1_words (y2 + y4).toNatClampNeg) - (1 : Int32)) (y3) r_41 hc_47) H.size) (cwS2 3 hts gX0_lookThrough_X0_scoreOf rfl rfl rfl hd_X0_scoreOf.2 ⟨Nat.le_of_ble_eq_true rfl, Nat.le_of_ble_eq_true rfl⟩) KK.calling (fun U _ hW => hK.warm hW) hP hD [3, 4, 5, 6, 7] [0, 1, 2, 8] [0, 1, 2, 4, 5, 6, 7, 8, 3] rfl rfl rfl hl.1 rfl (lv_room (Nat.le_of_ble_eq_true rfl)) dX0_lookThrough_40) hP hD hS hA [3, 4, 5, 6, 7] [0, 1, 2, 8] [0, 1, 2, 4, 5, 6, 7, 8, 3] rfl rfl rfl rfl (fun H locs hP hD hS => ?_)
          refine lv_istore (lv' := [(6, .int (r_41)), (5, .int (y2 + y4)), (0, .ref a), (1, .ref ap1), (2, .int (y2)), (3, .int (y3)), (4, .int (y4))]) hx hb dX0_lookThrough_43 hl (by decide) rfl (fun ls hl => ?_)
          refine lv_iload hx hb dX0_lookThrough_45 (lv_at hl 0 rfl) ?_
          refine lv_if_le (tgt := 58) hx hb dX0_lookThrough_47 (by decide) (fun c_42 => ?_) (fun c_42 => ?_)
          · have h := ift c_42 h
            refine lv_iinc (v := y4 + (1 : Int32)) (lv' := [(4, .int (y4 + (1 : Int32))), (6, .int (r_41)), (5, .int (y2 + y4)), (0, .ref a), (1, .ref ap1), (2, .int (y2)), (3, .int (y3))]) hx hb dX0_lookThrough_58 hl (k := 6) rfl rfl (by decide) rfl (fun ls hl => ?_)
            refine lv_goto (tgt := 8) hx hb dX0_lookThrough_61 (by decide) ?_
            exact ih8 (y2) (y3) (y4 + (1 : Int32)) (v_size) (f_places) (f_scores) H locs ls hP hD hS (lv_sub hl [3, 4, 5, 6, 0] rfl) h
          · have h := ifn c_42 h
            refine lv_aload_n hx hb dX0_lookThrough_50 rfl (lv_at hl 2 rfl) ?_
            refine lv_iload hx hb dX0_lookThrough_51 (lv_at hl 1 rfl) ?_
            refine lv_iload hx hb dX0_lookThrough_53 (lv_at hl 0 rfl) ?_
            obtain ⟨m_43, m_44, m_45, hc_46, h⟩ := bn3_s h
            refine call_v (ws1 := [(a, .inr (0, [.ref a_places, .ref a_scores, .int (m_43)])), (a_places, .inl (cy 0, 16, .inl (m_44))), (a_scores, .inl (cy 0, 16, .inl (m_45))), (ap1, .inr (6, [.ref ap1_routines, .ref ap1_ops, .ref ap1_landings, .ref ap1_calls, .ref ap1_registers, .ref ap1_words])), (ap1_routines, .inr (3, [.int (vp1_routines_width), .ref ap1_routines_cells, .int (vp1_routines_size)])), (ap1_routines_cells, .inl (cy 0, 24, .inl (fp1_routines_cells))), (ap1_calls, .inr (3, [.int (vp1_calls_width), .ref ap1_calls_cells, .int (vp1_calls_size)])), (ap1_calls_cells, .inl (cy 0, 32, .inl (fp1_calls_cells))), (ap1_words, .inl (cy 0, 48, .inl (fp1_words)))]) (wr := [(ap1, .inr (6, [.ref ap1_routines, .ref ap1_ops, .ref ap1_landings, .ref ap1_calls, .ref ap1_registers, .ref ap1_words])), (ap1_routines, .inr (3, [.int (vp1_routines_width), .ref ap1_routines_cells, .int (vp1_routines_size)])), (ap1_routines_cells, .inl (cy 0, 24, .inl (fp1_routines_cells))), (ap1_calls, .inr (3, [.int (vp1_calls_width), .ref ap1_calls_cells, .int (vp1_calls_size)])), (ap1_calls_cells, .inl (cy 0, 32, .inl (fp1_calls_cells))), (ap1_words, .inl (cy 0, 48, .inl (fp1_words)))]) (run_V ⟨hx, hb, hml, hown, hts⟩ ((c_X0_enter l D cy a a_places a_scores (v_size) (f_places) (f_scores) (y2 + y4) (r_41) m_43 m_44 m_45 hc_46) H.size) (cwV 2 hts gX0_lookThrough_X0_enter rfl rfl rfl hd_X0_enter ⟨Nat.le_of_ble_eq_true rfl, Nat.le_of_ble_eq_true rfl⟩) KK.calling (fun U _ hW => hK.warm hW) hK.1 hP hD [0, 1, 2] [3, 4, 5, 6, 7, 8] [6, 7, 8, 0, 1, 2, 3, 4, 5] rfl rfl 0 0 rfl rfl rfl rfl hl.1 rfl (lv_room (Nat.le_of_ble_eq_true rfl)) dX0_lookThrough_55) hP hD hS hA [0, 1, 2] [3, 4, 5, 6, 7, 8] [6, 7, 8, 0, 1, 2, 3, 4, 5] rfl rfl rfl rfl (fun H locs hP hD hS => ?_)
            refine lv_iinc (v := y4 + (1 : Int32)) (lv' := [(4, .int (y4 + (1 : Int32))), (6, .int (r_41)), (5, .int (y2 + y4)), (0, .ref a), (1, .ref ap1), (2, .int (y2)), (3, .int (y3))]) hx hb dX0_lookThrough_58 hl (k := 6) rfl rfl (by decide) rfl (fun ls hl => ?_)
            refine lv_goto (tgt := 8) hx hb dX0_lookThrough_61 (by decide) ?_
            exact ih8 (y2) (y3) (y4 + (1 : Int32)) (m_43) (m_44) (m_45) H locs ls hP hD hS (lv_sub hl [3, 4, 5, 6, 0] rfl) h
  have main : ∀ (H : Heap) (locs : List Loc) (ls : Array Slot), va_P D vwCl [(a, .inr (0, [.ref a_places, .ref a_scores, .int (v_size)])), (a_places, .inl (cy 0, 16, .inl (f_places))), (a_scores, .inl (cy 0, 16, .inl (f_scores))), (ap1, .inr (6, [.ref ap1_routines, .ref ap1_ops, .ref ap1_landings, .ref ap1_calls, .ref ap1_registers, .ref ap1_words])), (ap1_routines, .inr (3, [.int (vp1_routines_width), .ref ap1_routines_cells, .int (vp1_routines_size)])), (ap1_routines_cells, .inl (cy 0, 24, .inl (fp1_routines_cells))), (ap1_calls, .inr (3, [.int (vp1_calls_width), .ref ap1_calls_cells, .int (vp1_calls_size)])), (ap1_calls_cells, .inl (cy 0, 32, .inl (fp1_calls_cells))), (ap1_words, .inl (cy 0, 48, .inl (fp1_words)))] H → va_D A [(a, .inr (0, [.ref a_places, .ref a_scores, .int (v_size)])), (a_places, .inl (cy 0, 16, .inl (f_places))), (a_scores, .inl (cy 0, 16, .inl (f_scores))), (ap1, .inr (6, [.ref ap1_routines, .ref ap1_ops, .ref ap1_landings, .ref ap1_calls, .ref ap1_registers, .ref ap1_words])), (ap1_routines, .inr (3, [.int (vp1_routines_width), .ref ap1_routines_cells, .int (vp1_routines_size)])), (ap1_routines_cells, .inl (cy 0, 24, .inl (fp1_routines_cells))), (ap1_calls, .inr (3, [.int (vp1_calls_width), .ref ap1_calls_cells, .int (vp1_calls_size)])), (ap1_calls_cells, .inl (cy 0, 32, .inl (fp1_calls_cells))), (ap1_words, .inl (cy 0, 48, .inl (fp1_words)))] → va_S A s.heap H locs → lv_has ls 7 [(0, .ref a), (1, .ref ap1), (2, .int (x2)), (3, .int (x3))] → f_X0_lookThrough x2 x3 v_size f_places f_scores vp1_routines_width vp1_routines_size fp1_routines_cells vp1_calls_width vp1_calls_size fp1_calls_cells fp1_words = some (z_v_size, z_f_places, z_f_scores) → W p l e ({ frames := 4, cells := 0, slots := 0, locals := 92 } : Room) s m [.ref a, .ref ap1, .int (x2), .int (x3)].toArray below meth c H locs 0 0 (MQ below (Qv D A [(a, .inr (0, [.ref a_places, .ref a_scores, .int (z_v_size)])), (a_places, .inl (cy 0, 16, .inl (z_f_places))), (a_scores, .inl (cy 0, 16, .inl (z_f_scores))), (ap1, .inr (6, [.ref ap1_routines, .ref ap1_ops, .ref ap1_landings, .ref ap1_calls, .ref ap1_registers, .ref ap1_words])), (ap1_routines, .inr (3, [.int (vp1_routines_width), .ref ap1_routines_cells, .int (vp1_routines_size)])), (ap1_routines_cells, .inl (cy 0, 24, .inl (fp1_routines_cells))), (ap1_calls, .inr (3, [.int (vp1_calls_width), .ref ap1_calls_cells, .int (vp1_calls_size)])), (ap1_calls_cells, .inl (cy 0, 32, .inl (fp1_calls_cells))), (ap1_words, .inl (cy 0, 48, .inl (fp1_words)))]) [.ref a, .ref ap1, .int (x2), .int (x3)].toArray s 0 0 A) (F0 m 0 ls []) := by
    intro H locs ls hP hD hS hl h
    unfold f_X0_lookThrough at h
    refine lv_aload_n hx hb dX0_lookThrough_0 rfl (lv_at hl 0 rfl) ?_
    refine lv_iconst (v := (0 : Int32)) hx hb dX0_lookThrough_1 (by decide) ?_
    refine va_put (D := D) (ci := 0) (v := .int ((0 : Int32))) (ty := .int) (C := RX0) (T := TX0) (N := 3) hx hb hts hinX0 tyX0 tyX0_ok nmX0 hown hK.1 hP hD hS 0 rfl rfl 2 (by decide) (hts (.fieldLink RX0 18 "FrameWalks$Hunt" "size" "I") (List.mem_of_getElem? (i := 1) rfl)) (fun _ h9 => h9) rfl (by decide +kernel) rfl rfl (Nat.le_of_ble_eq_true rfl) dX0_lookThrough_2 (fun H locs hP hD hS => ?_)
    have hP : va_P D vwCl [(a, .inr (0, [.ref a_places, .ref a_scores, .int ((0 : Int32))])), (a_places, .inl (cy 0, 16, .inl (f_places))), (a_scores, .inl (cy 0, 16, .inl (f_scores))), (ap1, .inr (6, [.ref ap1_routines, .ref ap1_ops, .ref ap1_landings, .ref ap1_calls, .ref ap1_registers, .ref ap1_words])), (ap1_routines, .inr (3, [.int (vp1_routines_width), .ref ap1_routines_cells, .int (vp1_routines_size)])), (ap1_routines_cells, .inl (cy 0, 24, .inl (fp1_routines_cells))), (ap1_calls, .inr (3, [.int (vp1_calls_width), .ref ap1_calls_cells, .int (vp1_calls_size)])), (ap1_calls_cells, .inl (cy 0, 32, .inl (fp1_calls_cells))), (ap1_words, .inl (cy 0, 48, .inl (fp1_words)))] H := hP
    have hD : va_D A [(a, .inr (0, [.ref a_places, .ref a_scores, .int ((0 : Int32))])), (a_places, .inl (cy 0, 16, .inl (f_places))), (a_scores, .inl (cy 0, 16, .inl (f_scores))), (ap1, .inr (6, [.ref ap1_routines, .ref ap1_ops, .ref ap1_landings, .ref ap1_calls, .ref ap1_registers, .ref ap1_words])), (ap1_routines, .inr (3, [.int (vp1_routines_width), .ref ap1_routines_cells, .int (vp1_routines_size)])), (ap1_routines_cells, .inl (cy 0, 24, .inl (fp1_routines_cells))), (ap1_calls, .inr (3, [.int (vp1_calls_width), .ref ap1_calls_cells, .int (vp1_calls_size)])), (ap1_calls_cells, .inl (cy 0, 32, .inl (fp1_calls_cells))), (ap1_words, .inl (cy 0, 48, .inl (fp1_words)))] := hD
    refine lv_iconst (v := (0 : Int32)) hx hb dX0_lookThrough_5 (by decide) ?_
    refine lv_istore (lv' := [(4, .int ((0 : Int32))), (0, .ref a), (1, .ref ap1), (2, .int (x2)), (3, .int (x3))]) hx hb dX0_lookThrough_6 hl (by decide) rfl (fun ls hl => ?_)
    exact hL8 FUEL (x2) (x3) ((0 : Int32)) ((0 : Int32)) (f_places) (f_scores) H locs ls hP hD hS (lv_sub hl [1, 2, 3, 4, 0] rfl) h
  exact main s.heap [] ls hP hD va_S.rf hl h
theorem hd_X0_bestWord : yX0_bestWord.cls = RX0 ∧ yX0_bestWord.cls ≠ "java/lang/invoke/MethodHandle" ∧ yX0_bestWord.cls ≠ "java/lang/invoke/VarHandle" ∧ (parseMethodDescriptor yX0_bestWord.desc).map (fun d => d.parameters.length) = some 0 := by decide +kernel
def f_X0_bestWord (v_size : Int32) (f_places : Nat → Int32) : Option (Int32) := (if v_size ≤ 0 then (some ((0 : Int32))) else (cki ((0 : Int32)) 16 (some (f_places ((0 : Int32)).toNatClampNeg))))
set_option maxHeartbeats 4000000 in
set_option maxRecDepth 100000 in
theorem c_X0_bestWord (l : Launch) (D : va_G) (cy : Nat → ClassId) (a a_places a_scores : Nat) (v_size : Int32) (f_places : Nat → Int32) (res : Int32) (h : f_X0_bestWord v_size f_places = some res) : Mi l yX0_bestWord wsX0_bestWord ({ frames := 0, cells := 0, slots := 0, locals := 0 } : Room) (KK D cy) D [.ref a] [(a, .inr (0, [.ref a_places, .ref a_scores, .int (v_size)])), (a_places, .inl (cy 0, 16, .inl (f_places)))] [(a, .inr (0, [.ref a_places, .ref a_scores, .int (v_size)])), (a_places, .inl (cy 0, 16, .inl (f_places)))] res := by
  intro sz
  refine Met.mk0 (cc := cX0_bestWord) (maxL := 1) (ret := (some .int)) (Qc := fun A => Qi D A [(a, .inr (0, [.ref a_places, .ref a_scores, .int (v_size)])), (a_places, .inl (cy 0, 16, .inl (f_places)))] res) (by decide) rfl (Nat.le_of_ble_eq_true rfl) ?_
  intro p e s m below meth c A ls hx hb hml hown hts hr hlocks hK hP hD hA hl
  have hown : s.vm.findClass RX0 = some m.cls := hown
  have hl : lv_has ls 1 [(0, .ref a)] := hl
  have hinX0 : ∀ w ∈ u_ws RX0 TX0 3, w ∈ wsX0_bestWord := (fun w h => List.mem_cons_of_mem _ (List.mem_append_right _ h))
  have main : ∀ (H : Heap) (locs : List Loc) (ls : Array Slot), va_P D vwCl [(a, .inr (0, [.ref a_places, .ref a_scores, .int (v_size)])), (a_places, .inl (cy 0, 16, .inl (f_places)))] H → va_D A [(a, .inr (0, [.ref a_places, .ref a_scores, .int (v_size)])), (a_places, .inl (cy 0, 16, .inl (f_places)))] → va_S A s.heap H locs → lv_has ls 1 [(0, .ref a)] → f_X0_bestWord v_size f_places = some res → W p l e ({ frames := 0, cells := 0, slots := 0, locals := 0 } : Room) s m [.ref a].toArray below meth c H locs 0 0 (MQ below (Qi D A [(a, .inr (0, [.ref a_places, .ref a_scores, .int (v_size)])), (a_places, .inl (cy 0, 16, .inl (f_places)))] res) [.ref a].toArray s 0 0 A) (F0 m 0 ls []) := by
    intro H locs ls hP hD hS hl h
    unfold f_X0_bestWord at h
    refine lv_aload_n hx hb dX0_bestWord_0 rfl (lv_at hl 0 rfl) ?_
    refine va_get (D := D) (ci := 0) (v := .int (v_size)) (C := RX0) (T := TX0) (N := 3) hx hb hts hinX0 hown hK.1 hP 0 rfl rfl 2 (by decide) (hts (.fieldLink RX0 18 "FrameWalks$Hunt" "size" "I") (List.mem_of_getElem? (i := 1) rfl)) (fun _ h9 => h9) rfl dX0_bestWord_1 ?_
    refine lv_if_le (tgt := 16) hx hb dX0_bestWord_4 (by decide) (fun c_7 => ?_) (fun c_7 => ?_)
    · have h := ift c_7 h
      refine lv_iconst (v := (0 : Int32)) hx hb dX0_bestWord_16 (by decide) ?_
      have e0 := Option.some.inj h
      exact Mi.ret' hx hb hr hlocks e0 rfl hP hD hS dX0_bestWord_17
    · have h := ifn c_7 h
      refine lv_aload_n hx hb dX0_bestWord_7 rfl (lv_at hl 0 rfl) ?_
      refine va_get (D := D) (ci := 0) (v := .ref a_places) (C := RX0) (T := TX0) (N := 3) hx hb hts hinX0 hown hK.1 hP 0 rfl rfl 0 (by decide) (hts (.fieldLink RX0 9 "FrameWalks$Hunt" "places" "[I") (List.mem_of_getElem? (i := 2) rfl)) (fun _ h9 => h9) rfl dX0_bestWord_8 ?_
      refine lv_iconst (v := (0 : Int32)) hx hb dX0_bestWord_11 (by decide) ?_
      obtain ⟨i_8, h⟩ := cki_s h
      refine va_iald hx hb hK.1 hP 1 0 rfl rfl i_8 dX0_bestWord_12 ?_
      refine lv_goto (tgt := 17) hx hb dX0_bestWord_13 (by decide) ?_
      have e0 := Option.some.inj h
      exact Mi.ret' hx hb hr hlocks e0 rfl hP hD hS dX0_bestWord_17
  exact main s.heap [] ls hP hD va_S.rf hl h
theorem hd_X1_base : yX1_base.cls = RX1 ∧ yX1_base.cls ≠ "java/lang/invoke/MethodHandle" ∧ yX1_base.cls ≠ "java/lang/invoke/VarHandle" ∧ (parseMethodDescriptor yX1_base.desc).map (fun d => d.parameters.length) = some 0 := by decide +kernel
def f_X1_base (f_cells : Nat → Int32) : Option (Int32) := (cki ((0 : Int32)) 14 (some (f_cells ((0 : Int32)).toNatClampNeg)))
set_option maxHeartbeats 4000000 in
set_option maxRecDepth 100000 in
theorem c_X1_base (l : Launch) (D : va_G) (cy : Nat → ClassId) (a a_cells a_aside : Nat) (v_asideSize : Int32) (f_cells : Nat → Int32) (res : Int32) (h : f_X1_base f_cells = some res) : Mi l yX1_base wsX1_base ({ frames := 0, cells := 0, slots := 0, locals := 0 } : Room) (KK D cy) D [.ref a] [(a, .inr (1, [.ref a_cells, .ref a_aside, .int (v_asideSize)])), (a_cells, .inl (cy 0, 14, .inl (f_cells)))] [(a, .inr (1, [.ref a_cells, .ref a_aside, .int (v_asideSize)])), (a_cells, .inl (cy 0, 14, .inl (f_cells)))] res := by
  intro sz
  refine Met.mk0 (cc := cX1_base) (maxL := 1) (ret := (some .int)) (Qc := fun A => Qi D A [(a, .inr (1, [.ref a_cells, .ref a_aside, .int (v_asideSize)])), (a_cells, .inl (cy 0, 14, .inl (f_cells)))] res) (by decide) rfl (Nat.le_of_ble_eq_true rfl) ?_
  intro p e s m below meth c A ls hx hb hml hown hts hr hlocks hK hP hD hA hl
  have hown : s.vm.findClass RX1 = some m.cls := hown
  have hl : lv_has ls 1 [(0, .ref a)] := hl
  have hinX1 : ∀ w ∈ u_ws RX1 TX1 3, w ∈ wsX1_base := (fun w h => List.mem_cons_of_mem _ (List.mem_append_right _ h))
  have main : ∀ (H : Heap) (locs : List Loc) (ls : Array Slot), va_P D vwCl [(a, .inr (1, [.ref a_cells, .ref a_aside, .int (v_asideSize)])), (a_cells, .inl (cy 0, 14, .inl (f_cells)))] H → va_D A [(a, .inr (1, [.ref a_cells, .ref a_aside, .int (v_asideSize)])), (a_cells, .inl (cy 0, 14, .inl (f_cells)))] → va_S A s.heap H locs → lv_has ls 1 [(0, .ref a)] → f_X1_base f_cells = some res → W p l e ({ frames := 0, cells := 0, slots := 0, locals := 0 } : Room) s m [.ref a].toArray below meth c H locs 0 0 (MQ below (Qi D A [(a, .inr (1, [.ref a_cells, .ref a_aside, .int (v_asideSize)])), (a_cells, .inl (cy 0, 14, .inl (f_cells)))] res) [.ref a].toArray s 0 0 A) (F0 m 0 ls []) := by
    intro H locs ls hP hD hS hl h
    unfold f_X1_base at h
    refine lv_aload_n hx hb dX1_base_0 rfl (lv_at hl 0 rfl) ?_
    refine va_get (D := D) (ci := 1) (v := .ref a_cells) (C := RX1) (T := TX1) (N := 3) hx hb hts hinX1 hown hK.1 hP 0 rfl rfl 0 (by decide) (hts (.fieldLink RX1 11 "FrameWalks$Row" "cells" "[I") (List.mem_of_getElem? (i := 1) rfl)) (fun _ h9 => h9) rfl dX1_base_1 ?_
    refine lv_iconst (v := (0 : Int32)) hx hb dX1_base_4 (by decide) ?_
    obtain ⟨i_4, h⟩ := cki_s h
    refine va_iald hx hb hK.1 hP 1 0 rfl rfl i_4 dX1_base_5 ?_
    have e0 := Option.some.inj h
    exact Mi.ret' hx hb hr hlocks e0 rfl hP hD hS dX1_base_6
  exact main s.heap [] ls hP hD va_S.rf hl h
theorem hd_X1_off : yX1_off.cls = RX1 ∧ yX1_off.cls ≠ "java/lang/invoke/MethodHandle" ∧ yX1_off.cls ≠ "java/lang/invoke/VarHandle" ∧ (parseMethodDescriptor yX1_off.desc).map (fun d => d.parameters.length) = some 0 := by decide +kernel
def f_X1_off (f_cells : Nat → Int32) : Option (Int32) := (cki ((1 : Int32)) 14 (some (f_cells ((1 : Int32)).toNatClampNeg)))
set_option maxHeartbeats 4000000 in
set_option maxRecDepth 100000 in
theorem c_X1_off (l : Launch) (D : va_G) (cy : Nat → ClassId) (a a_cells a_aside : Nat) (v_asideSize : Int32) (f_cells : Nat → Int32) (res : Int32) (h : f_X1_off f_cells = some res) : Mi l yX1_off wsX1_off ({ frames := 0, cells := 0, slots := 0, locals := 0 } : Room) (KK D cy) D [.ref a] [(a, .inr (1, [.ref a_cells, .ref a_aside, .int (v_asideSize)])), (a_cells, .inl (cy 0, 14, .inl (f_cells)))] [(a, .inr (1, [.ref a_cells, .ref a_aside, .int (v_asideSize)])), (a_cells, .inl (cy 0, 14, .inl (f_cells)))] res := by
  intro sz
  refine Met.mk0 (cc := cX1_off) (maxL := 1) (ret := (some .int)) (Qc := fun A => Qi D A [(a, .inr (1, [.ref a_cells, .ref a_aside, .int (v_asideSize)])), (a_cells, .inl (cy 0, 14, .inl (f_cells)))] res) (by decide) rfl (Nat.le_of_ble_eq_true rfl) ?_
  intro p e s m below meth c A ls hx hb hml hown hts hr hlocks hK hP hD hA hl
  have hown : s.vm.findClass RX1 = some m.cls := hown
  have hl : lv_has ls 1 [(0, .ref a)] := hl
  have hinX1 : ∀ w ∈ u_ws RX1 TX1 3, w ∈ wsX1_off := (fun w h => List.mem_cons_of_mem _ (List.mem_append_right _ h))
  have main : ∀ (H : Heap) (locs : List Loc) (ls : Array Slot), va_P D vwCl [(a, .inr (1, [.ref a_cells, .ref a_aside, .int (v_asideSize)])), (a_cells, .inl (cy 0, 14, .inl (f_cells)))] H → va_D A [(a, .inr (1, [.ref a_cells, .ref a_aside, .int (v_asideSize)])), (a_cells, .inl (cy 0, 14, .inl (f_cells)))] → va_S A s.heap H locs → lv_has ls 1 [(0, .ref a)] → f_X1_off f_cells = some res → W p l e ({ frames := 0, cells := 0, slots := 0, locals := 0 } : Room) s m [.ref a].toArray below meth c H locs 0 0 (MQ below (Qi D A [(a, .inr (1, [.ref a_cells, .ref a_aside, .int (v_asideSize)])), (a_cells, .inl (cy 0, 14, .inl (f_cells)))] res) [.ref a].toArray s 0 0 A) (F0 m 0 ls []) := by
    intro H locs ls hP hD hS hl h
    unfold f_X1_off at h
    refine lv_aload_n hx hb dX1_off_0 rfl (lv_at hl 0 rfl) ?_
    refine va_get (D := D) (ci := 1) (v := .ref a_cells) (C := RX1) (T := TX1) (N := 3) hx hb hts hinX1 hown hK.1 hP 0 rfl rfl 0 (by decide) (hts (.fieldLink RX1 11 "FrameWalks$Row" "cells" "[I") (List.mem_of_getElem? (i := 1) rfl)) (fun _ h9 => h9) rfl dX1_off_1 ?_
    refine lv_iconst (v := (1 : Int32)) hx hb dX1_off_4 (by decide) ?_
    obtain ⟨i_4, h⟩ := cki_s h
    refine va_iald hx hb hK.1 hP 1 0 rfl rfl i_4 dX1_off_5 ?_
    have e0 := Option.some.inj h
    exact Mi.ret' hx hb hr hlocks e0 rfl hP hD hS dX1_off_6
  exact main s.heap [] ls hP hD va_S.rf hl h
theorem hd_X1_which : yX1_which.cls = RX1 ∧ yX1_which.cls ≠ "java/lang/invoke/MethodHandle" ∧ yX1_which.cls ≠ "java/lang/invoke/VarHandle" ∧ (parseMethodDescriptor yX1_which.desc).map (fun d => d.parameters.length) = some 1 := by decide +kernel
def f_X1_which (x1 : Int32) (f_cells : Nat → Int32) : Option (Int32) := (bn1 (f_X7_isRegister (x1)) (fun r_13 => (if r_13 = 0 then (some ((0 : Int32))) else (cki ((2 : Int32) + x1) 14 (some (f_cells ((2 : Int32) + x1).toNatClampNeg))))))
set_option maxHeartbeats 4000000 in
set_option maxRecDepth 100000 in
theorem c_X1_which (l : Launch) (D : va_G) (cy : Nat → ClassId) (a a_cells a_aside : Nat) (v_asideSize : Int32) (f_cells : Nat → Int32) (x1 : Int32) (res : Int32) (h : f_X1_which x1 f_cells = some res) : Mi l yX1_which wsX1_which ({ frames := 1, cells := 0, slots := 0, locals := 20 } : Room) (KK D cy) D [.ref a, .int (x1)] [(a, .inr (1, [.ref a_cells, .ref a_aside, .int (v_asideSize)])), (a_cells, .inl (cy 0, 14, .inl (f_cells)))] [(a, .inr (1, [.ref a_cells, .ref a_aside, .int (v_asideSize)])), (a_cells, .inl (cy 0, 14, .inl (f_cells)))] res := by
  intro sz
  refine Met.mk0 (cc := cX1_which) (maxL := 2) (ret := (some .int)) (Qc := fun A => Qi D A [(a, .inr (1, [.ref a_cells, .ref a_aside, .int (v_asideSize)])), (a_cells, .inl (cy 0, 14, .inl (f_cells)))] res) (by decide) rfl (Nat.le_of_ble_eq_true rfl) ?_
  intro p e s m below meth c A ls hx hb hml hown hts hr hlocks hK hP hD hA hl
  have hown : s.vm.findClass RX1 = some m.cls := hown
  have hl : lv_has ls 2 [(0, .ref a), (1, .int (x1))] := hl
  have hinX1 : ∀ w ∈ u_ws RX1 TX1 3, w ∈ wsX1_which := (fun w h => List.mem_cons_of_mem _ (List.mem_append_right _ h))
  have main : ∀ (H : Heap) (locs : List Loc) (ls : Array Slot), va_P D vwCl [(a, .inr (1, [.ref a_cells, .ref a_aside, .int (v_asideSize)])), (a_cells, .inl (cy 0, 14, .inl (f_cells)))] H → va_D A [(a, .inr (1, [.ref a_cells, .ref a_aside, .int (v_asideSize)])), (a_cells, .inl (cy 0, 14, .inl (f_cells)))] → va_S A s.heap H locs → lv_has ls 2 [(0, .ref a), (1, .int (x1))] → f_X1_which x1 f_cells = some res → W p l e ({ frames := 1, cells := 0, slots := 0, locals := 20 } : Room) s m [.ref a, .int (x1)].toArray below meth c H locs 0 0 (MQ below (Qi D A [(a, .inr (1, [.ref a_cells, .ref a_aside, .int (v_asideSize)])), (a_cells, .inl (cy 0, 14, .inl (f_cells)))] res) [.ref a, .int (x1)].toArray s 0 0 A) (F0 m 0 ls []) := by
    intro H locs ls hP hD hS hl h
    unfold f_X1_which at h
    refine lv_iload_n hx hb dX1_which_0 rfl (lv_at hl 1 rfl) ?_
    obtain ⟨r_13, hc_16, h⟩ := bn1_s h
    refine call_i (ws1 := [(a, .inr (1, [.ref a_cells, .ref a_aside, .int (v_asideSize)])), (a_cells, .inl (cy 0, 14, .inl (f_cells)))]) (wr := [(a, .inr (1, [.ref a_cells, .ref a_aside, .int (v_asideSize)])), (a_cells, .inl (cy 0, 14, .inl (f_cells)))]) (run_SN ⟨hx, hb, hml, hown, hts⟩ ((c_X7_isRegister l D cy (x1) r_13 hc_16) H.size) (va_cnB 1 hts gX1_which_X7_isRegister_n22 rfl rfl rfl (hK.2.2 _ (List.mem_of_getElem? (i := 6) rfl)) (hts (.initialized RX7) (List.mem_of_getElem? (i := 3) rfl)) hd_X7_isRegister.2 ⟨Nat.le_of_ble_eq_true rfl, Nat.le_of_ble_eq_true rfl⟩) (hts (.static yX7_isRegister) (List.mem_of_getElem? (i := 2) rfl)) KK.calling (fun U _ hW => hK.warm hW) hP hD [] [0, 1] [0, 1] rfl rfl rfl hl.1 rfl (lv_room (Nat.le_of_ble_eq_true rfl)) dX1_which_1) hP hD hS hA [] [0, 1] [0, 1] rfl rfl rfl rfl (fun H locs hP hD hS => ?_)
    refine lv_if_eq (tgt := 18) hx hb dX1_which_4 (by decide) (fun c_14 => ?_) (fun c_14 => ?_)
    · have h := ift c_14 h
      refine lv_iconst (v := (0 : Int32)) hx hb dX1_which_18 (by decide) ?_
      have e0 := Option.some.inj h
      exact Mi.ret' hx hb hr hlocks e0 rfl hP hD hS dX1_which_19
    · have h := ifn c_14 h
      refine lv_aload_n hx hb dX1_which_7 rfl (lv_at hl 0 rfl) ?_
      refine va_get (D := D) (ci := 1) (v := .ref a_cells) (C := RX1) (T := TX1) (N := 3) hx hb hts hinX1 hown hK.1 hP 0 rfl rfl 0 (by decide) (hts (.fieldLink RX1 11 "FrameWalks$Row" "cells" "[I") (List.mem_of_getElem? (i := 1) rfl)) (fun _ h9 => h9) rfl dX1_which_8 ?_
      refine lv_iconst (v := (2 : Int32)) hx hb dX1_which_11 (by decide) ?_
      refine lv_iload_n hx hb dX1_which_12 rfl (lv_at hl 1 rfl) ?_
      refine lv_iadd hx hb dX1_which_13 ?_
      obtain ⟨i_15, h⟩ := cki_s h
      refine va_iald hx hb hK.1 hP 1 0 rfl rfl i_15 dX1_which_14 ?_
      refine lv_goto (tgt := 19) hx hb dX1_which_15 (by decide) ?_
      have e0 := Option.some.inj h
      exact Mi.ret' hx hb hr hlocks e0 rfl hP hD hS dX1_which_19
  exact main s.heap [] ls hP hD va_S.rf hl h
theorem hd_X1_number : yX1_number.cls = RX1 ∧ yX1_number.cls ≠ "java/lang/invoke/MethodHandle" ∧ yX1_number.cls ≠ "java/lang/invoke/VarHandle" ∧ (parseMethodDescriptor yX1_number.desc).map (fun d => d.parameters.length) = some 1 := by decide +kernel
def f_X1_number (x1 : Int32) (f_cells : Nat → Int32) : Option (Int32) := (bn1 (f_X7_isRegister (x1)) (fun r_13 => (if r_13 = 0 then (some ((0 : Int32))) else (cki ((8 : Int32) + x1) 14 (some (f_cells ((8 : Int32) + x1).toNatClampNeg))))))
set_option maxHeartbeats 4000000 in
set_option maxRecDepth 100000 in
theorem c_X1_number (l : Launch) (D : va_G) (cy : Nat → ClassId) (a a_cells a_aside : Nat) (v_asideSize : Int32) (f_cells : Nat → Int32) (x1 : Int32) (res : Int32) (h : f_X1_number x1 f_cells = some res) : Mi l yX1_number wsX1_number ({ frames := 1, cells := 0, slots := 0, locals := 20 } : Room) (KK D cy) D [.ref a, .int (x1)] [(a, .inr (1, [.ref a_cells, .ref a_aside, .int (v_asideSize)])), (a_cells, .inl (cy 0, 14, .inl (f_cells)))] [(a, .inr (1, [.ref a_cells, .ref a_aside, .int (v_asideSize)])), (a_cells, .inl (cy 0, 14, .inl (f_cells)))] res := by
  intro sz
  refine Met.mk0 (cc := cX1_number) (maxL := 2) (ret := (some .int)) (Qc := fun A => Qi D A [(a, .inr (1, [.ref a_cells, .ref a_aside, .int (v_asideSize)])), (a_cells, .inl (cy 0, 14, .inl (f_cells)))] res) (by decide) rfl (Nat.le_of_ble_eq_true rfl) ?_
  intro p e s m below meth c A ls hx hb hml hown hts hr hlocks hK hP hD hA hl
  have hown : s.vm.findClass RX1 = some m.cls := hown
  have hl : lv_has ls 2 [(0, .ref a), (1, .int (x1))] := hl
  have hinX1 : ∀ w ∈ u_ws RX1 TX1 3, w ∈ wsX1_number := (fun w h => List.mem_cons_of_mem _ (List.mem_append_right _ h))
  have main : ∀ (H : Heap) (locs : List Loc) (ls : Array Slot), va_P D vwCl [(a, .inr (1, [.ref a_cells, .ref a_aside, .int (v_asideSize)])), (a_cells, .inl (cy 0, 14, .inl (f_cells)))] H → va_D A [(a, .inr (1, [.ref a_cells, .ref a_aside, .int (v_asideSize)])), (a_cells, .inl (cy 0, 14, .inl (f_cells)))] → va_S A s.heap H locs → lv_has ls 2 [(0, .ref a), (1, .int (x1))] → f_X1_number x1 f_cells = some res → W p l e ({ frames := 1, cells := 0, slots := 0, locals := 20 } : Room) s m [.ref a, .int (x1)].toArray below meth c H locs 0 0 (MQ below (Qi D A [(a, .inr (1, [.ref a_cells, .ref a_aside, .int (v_asideSize)])), (a_cells, .inl (cy 0, 14, .inl (f_cells)))] res) [.ref a, .int (x1)].toArray s 0 0 A) (F0 m 0 ls []) := by
    intro H locs ls hP hD hS hl h
    unfold f_X1_number at h
    refine lv_iload_n hx hb dX1_number_0 rfl (lv_at hl 1 rfl) ?_
    obtain ⟨r_13, hc_16, h⟩ := bn1_s h
    refine call_i (ws1 := [(a, .inr (1, [.ref a_cells, .ref a_aside, .int (v_asideSize)])), (a_cells, .inl (cy 0, 14, .inl (f_cells)))]) (wr := [(a, .inr (1, [.ref a_cells, .ref a_aside, .int (v_asideSize)])), (a_cells, .inl (cy 0, 14, .inl (f_cells)))]) (run_SN ⟨hx, hb, hml, hown, hts⟩ ((c_X7_isRegister l D cy (x1) r_13 hc_16) H.size) (va_cnB 1 hts gX1_number_X7_isRegister_n22 rfl rfl rfl (hK.2.2 _ (List.mem_of_getElem? (i := 6) rfl)) (hts (.initialized RX7) (List.mem_of_getElem? (i := 3) rfl)) hd_X7_isRegister.2 ⟨Nat.le_of_ble_eq_true rfl, Nat.le_of_ble_eq_true rfl⟩) (hts (.static yX7_isRegister) (List.mem_of_getElem? (i := 2) rfl)) KK.calling (fun U _ hW => hK.warm hW) hP hD [] [0, 1] [0, 1] rfl rfl rfl hl.1 rfl (lv_room (Nat.le_of_ble_eq_true rfl)) dX1_number_1) hP hD hS hA [] [0, 1] [0, 1] rfl rfl rfl rfl (fun H locs hP hD hS => ?_)
    refine lv_if_eq (tgt := 19) hx hb dX1_number_4 (by decide) (fun c_14 => ?_) (fun c_14 => ?_)
    · have h := ift c_14 h
      refine lv_iconst (v := (0 : Int32)) hx hb dX1_number_19 (by decide) ?_
      have e0 := Option.some.inj h
      exact Mi.ret' hx hb hr hlocks e0 rfl hP hD hS dX1_number_20
    · have h := ifn c_14 h
      refine lv_aload_n hx hb dX1_number_7 rfl (lv_at hl 0 rfl) ?_
      refine va_get (D := D) (ci := 1) (v := .ref a_cells) (C := RX1) (T := TX1) (N := 3) hx hb hts hinX1 hown hK.1 hP 0 rfl rfl 0 (by decide) (hts (.fieldLink RX1 11 "FrameWalks$Row" "cells" "[I") (List.mem_of_getElem? (i := 1) rfl)) (fun _ h9 => h9) rfl dX1_number_8 ?_
      refine lv_bipush (v := (8 : Int32)) hx hb dX1_number_11 (by decide) ?_
      refine lv_iload_n hx hb dX1_number_13 rfl (lv_at hl 1 rfl) ?_
      refine lv_iadd hx hb dX1_number_14 ?_
      obtain ⟨i_15, h⟩ := cki_s h
      refine va_iald hx hb hK.1 hP 1 0 rfl rfl i_15 dX1_number_15 ?_
      refine lv_goto (tgt := 20) hx hb dX1_number_16 (by decide) ?_
      have e0 := Option.some.inj h
      exact Mi.ret' hx hb hr hlocks e0 rfl hP hD hS dX1_number_20
  exact main s.heap [] ls hP hD va_S.rf hl h
theorem hd_X1_becomes : yX1_becomes.cls = RX1 ∧ yX1_becomes.cls ≠ "java/lang/invoke/MethodHandle" ∧ yX1_becomes.cls ≠ "java/lang/invoke/VarHandle" ∧ (parseMethodDescriptor yX1_becomes.desc).map (fun d => d.parameters.length) = some 3 := by decide +kernel
def f_X1_becomes (x1 : Int32) (x2 : Int32) (x3 : Int32) (f_cells : Nat → Int32) : Option ((Nat → Int32)) := (bn1 (f_X7_isRegister (x1)) (fun r_16 => (if r_16 = 0 then (some f_cells) else (cki ((2 : Int32) + x1) 14 (cki ((8 : Int32) + x1) 14 (some (upd (upd f_cells ((2 : Int32) + x1).toNatClampNeg (x2)) ((8 : Int32) + x1).toNatClampNeg (x3))))))))
set_option maxHeartbeats 4000000 in
set_option maxRecDepth 100000 in
theorem c_X1_becomes (l : Launch) (D : va_G) (cy : Nat → ClassId) (a a_cells a_aside : Nat) (v_asideSize : Int32) (f_cells : Nat → Int32) (x1 : Int32) (x2 : Int32) (x3 : Int32) (z_f_cells : Nat → Int32) (h : f_X1_becomes x1 x2 x3 f_cells = some z_f_cells) : Mv l yX1_becomes wsX1_becomes ({ frames := 1, cells := 0, slots := 0, locals := 20 } : Room) (KK D cy) D [.ref a, .int (x1), .int (x2), .int (x3)] [(a, .inr (1, [.ref a_cells, .ref a_aside, .int (v_asideSize)])), (a_cells, .inl (cy 0, 14, .inl (f_cells)))] [(a, .inr (1, [.ref a_cells, .ref a_aside, .int (v_asideSize)])), (a_cells, .inl (cy 0, 14, .inl (z_f_cells)))] := by
  intro sz
  refine Met.mk0 (cc := cX1_becomes) (maxL := 4) (ret := none) (Qc := fun A => Qv D A [(a, .inr (1, [.ref a_cells, .ref a_aside, .int (v_asideSize)])), (a_cells, .inl (cy 0, 14, .inl (z_f_cells)))]) (by decide) rfl (Nat.le_of_ble_eq_true rfl) ?_
  intro p e s m below meth c A ls hx hb hml hown hts hr hlocks hK hP hD hA hl
  have hown : s.vm.findClass RX1 = some m.cls := hown
  have hl : lv_has ls 4 [(0, .ref a), (1, .int (x1)), (2, .int (x2)), (3, .int (x3))] := hl
  have hinX1 : ∀ w ∈ u_ws RX1 TX1 3, w ∈ wsX1_becomes := (fun w h => List.mem_cons_of_mem _ (List.mem_append_right _ h))
  have main : ∀ (H : Heap) (locs : List Loc) (ls : Array Slot), va_P D vwCl [(a, .inr (1, [.ref a_cells, .ref a_aside, .int (v_asideSize)])), (a_cells, .inl (cy 0, 14, .inl (f_cells)))] H → va_D A [(a, .inr (1, [.ref a_cells, .ref a_aside, .int (v_asideSize)])), (a_cells, .inl (cy 0, 14, .inl (f_cells)))] → va_S A s.heap H locs → lv_has ls 4 [(0, .ref a), (1, .int (x1)), (2, .int (x2)), (3, .int (x3))] → f_X1_becomes x1 x2 x3 f_cells = some z_f_cells → W p l e ({ frames := 1, cells := 0, slots := 0, locals := 20 } : Room) s m [.ref a, .int (x1), .int (x2), .int (x3)].toArray below meth c H locs 0 0 (MQ below (Qv D A [(a, .inr (1, [.ref a_cells, .ref a_aside, .int (v_asideSize)])), (a_cells, .inl (cy 0, 14, .inl (z_f_cells)))]) [.ref a, .int (x1), .int (x2), .int (x3)].toArray s 0 0 A) (F0 m 0 ls []) := by
    intro H locs ls hP hD hS hl h
    unfold f_X1_becomes at h
    refine lv_iload_n hx hb dX1_becomes_0 rfl (lv_at hl 1 rfl) ?_
    obtain ⟨r_16, hc_20, h⟩ := bn1_s h
    refine call_i (ws1 := [(a, .inr (1, [.ref a_cells, .ref a_aside, .int (v_asideSize)])), (a_cells, .inl (cy 0, 14, .inl (f_cells)))]) (wr := [(a, .inr (1, [.ref a_cells, .ref a_aside, .int (v_asideSize)])), (a_cells, .inl (cy 0, 14, .inl (f_cells)))]) (run_SN ⟨hx, hb, hml, hown, hts⟩ ((c_X7_isRegister l D cy (x1) r_16 hc_20) H.size) (va_cnB 1 hts gX1_becomes_X7_isRegister_n22 rfl rfl rfl (hK.2.2 _ (List.mem_of_getElem? (i := 6) rfl)) (hts (.initialized RX7) (List.mem_of_getElem? (i := 3) rfl)) hd_X7_isRegister.2 ⟨Nat.le_of_ble_eq_true rfl, Nat.le_of_ble_eq_true rfl⟩) (hts (.static yX7_isRegister) (List.mem_of_getElem? (i := 2) rfl)) KK.calling (fun U _ hW => hK.warm hW) hP hD [] [0, 1] [0, 1] rfl rfl rfl hl.1 rfl (lv_room (Nat.le_of_ble_eq_true rfl)) dX1_becomes_1) hP hD hS hA [] [0, 1] [0, 1] rfl rfl rfl rfl (fun H locs hP hD hS => ?_)
    refine lv_if_eq (tgt := 26) hx hb dX1_becomes_4 (by decide) (fun c_17 => ?_) (fun c_17 => ?_)
    · have h := ift c_17 h
      have e0 := Option.some.inj h
      exact Mv.ret' hx hb hr hlocks (by rw [← e0]) hP hD hS dX1_becomes_26
    · have h := ifn c_17 h
      refine lv_aload_n hx hb dX1_becomes_7 rfl (lv_at hl 0 rfl) ?_
      refine va_get (D := D) (ci := 1) (v := .ref a_cells) (C := RX1) (T := TX1) (N := 3) hx hb hts hinX1 hown hK.1 hP 0 rfl rfl 0 (by decide) (hts (.fieldLink RX1 11 "FrameWalks$Row" "cells" "[I") (List.mem_of_getElem? (i := 1) rfl)) (fun _ h9 => h9) rfl dX1_becomes_8 ?_
      refine lv_iconst (v := (2 : Int32)) hx hb dX1_becomes_11 (by decide) ?_
      refine lv_iload_n hx hb dX1_becomes_12 rfl (lv_at hl 1 rfl) ?_
      refine lv_iadd hx hb dX1_becomes_13 ?_
      refine lv_iload_n hx hb dX1_becomes_14 rfl (lv_at hl 2 rfl) ?_
      obtain ⟨i_18, h⟩ := cki_s h
      refine va_iast hx hb hK.1 hP hD hS 1 0 rfl rfl i_18 dX1_becomes_15 (fun H locs hP hD hS => ?_)
      have hP : va_P D vwCl [(a, .inr (1, [.ref a_cells, .ref a_aside, .int (v_asideSize)])), (a_cells, .inl (cy 0, 14, .inl (upd f_cells ((2 : Int32) + x1).toNatClampNeg (x2))))] H := hP
      have hD : va_D A [(a, .inr (1, [.ref a_cells, .ref a_aside, .int (v_asideSize)])), (a_cells, .inl (cy 0, 14, .inl (upd f_cells ((2 : Int32) + x1).toNatClampNeg (x2))))] := hD
      refine lv_aload_n hx hb dX1_becomes_16 rfl (lv_at hl 0 rfl) ?_
      refine va_get (D := D) (ci := 1) (v := .ref a_cells) (C := RX1) (T := TX1) (N := 3) hx hb hts hinX1 hown hK.1 hP 0 rfl rfl 0 (by decide) (hts (.fieldLink RX1 11 "FrameWalks$Row" "cells" "[I") (List.mem_of_getElem? (i := 1) rfl)) (fun _ h9 => h9) rfl dX1_becomes_17 ?_
      refine lv_bipush (v := (8 : Int32)) hx hb dX1_becomes_20 (by decide) ?_
      refine lv_iload_n hx hb dX1_becomes_22 rfl (lv_at hl 1 rfl) ?_
      refine lv_iadd hx hb dX1_becomes_23 ?_
      refine lv_iload_n hx hb dX1_becomes_24 rfl (lv_at hl 3 rfl) ?_
      obtain ⟨i_19, h⟩ := cki_s h
      refine va_iast hx hb hK.1 hP hD hS 1 0 rfl rfl i_19 dX1_becomes_25 (fun H locs hP hD hS => ?_)
      have hP : va_P D vwCl [(a, .inr (1, [.ref a_cells, .ref a_aside, .int (v_asideSize)])), (a_cells, .inl (cy 0, 14, .inl (upd (upd f_cells ((2 : Int32) + x1).toNatClampNeg (x2)) ((8 : Int32) + x1).toNatClampNeg (x3))))] H := hP
      have hD : va_D A [(a, .inr (1, [.ref a_cells, .ref a_aside, .int (v_asideSize)])), (a_cells, .inl (cy 0, 14, .inl (upd (upd f_cells ((2 : Int32) + x1).toNatClampNeg (x2)) ((8 : Int32) + x1).toNatClampNeg (x3))))] := hD
      have e0 := Option.some.inj h
      exact Mv.ret' hx hb hr hlocks (by rw [← e0]) hP hD hS dX1_becomes_26
  exact main s.heap [] ls hP hD va_S.rf hl h
theorem hd_X1_becomeFirst : yX1_becomeFirst.cls = RX1 ∧ yX1_becomeFirst.cls ≠ "java/lang/invoke/MethodHandle" ∧ yX1_becomeFirst.cls ≠ "java/lang/invoke/VarHandle" ∧ (parseMethodDescriptor yX1_becomeFirst.desc).map (fun d => d.parameters.length) = some 0 := by decide +kernel
def f_X1_becomeFirst (f_cells : Nat → Int32) : Option ((Nat → Int32)) := (bn1 (f_J7_fill_53178 ((0 : Int32)) 14 (f_cells)) (fun m_19 => (cki ((0 : Int32)) 14 (cki ((1 : Int32)) 14 (bn1 (f_X1_becomes ((5 : Int32)) ((1 : Int32)) ((1 : Int32)) (upd (upd m_19 ((0 : Int32)).toNatClampNeg ((4 : Int32))) ((1 : Int32)).toNatClampNeg ((1 : Int32)))) (fun m_22 => (some m_22)))))))
set_option maxHeartbeats 4000000 in
set_option maxRecDepth 100000 in
theorem c_X1_becomeFirst (l : Launch) (D : va_G) (cy : Nat → ClassId) (a a_cells a_aside : Nat) (v_asideSize : Int32) (f_cells : Nat → Int32) (z_f_cells : Nat → Int32) (h : f_X1_becomeFirst f_cells = some z_f_cells) : Mv l yX1_becomeFirst wsX1_becomeFirst ({ frames := 2, cells := 0, slots := 0, locals := 43 } : Room) (KK D cy) D [.ref a] [(a, .inr (1, [.ref a_cells, .ref a_aside, .int (v_asideSize)])), (a_cells, .inl (cy 0, 14, .inl (f_cells)))] [(a, .inr (1, [.ref a_cells, .ref a_aside, .int (v_asideSize)])), (a_cells, .inl (cy 0, 14, .inl (z_f_cells)))] := by
  intro sz
  refine Met.mk0 (cc := cX1_becomeFirst) (maxL := 1) (ret := none) (Qc := fun A => Qv D A [(a, .inr (1, [.ref a_cells, .ref a_aside, .int (v_asideSize)])), (a_cells, .inl (cy 0, 14, .inl (z_f_cells)))]) (by decide) rfl (Nat.le_of_ble_eq_true rfl) ?_
  intro p e s m below meth c A ls hx hb hml hown hts hr hlocks hK hP hD hA hl
  have hown : s.vm.findClass RX1 = some m.cls := hown
  have hl : lv_has ls 1 [(0, .ref a)] := hl
  have hinX1 : ∀ w ∈ u_ws RX1 TX1 3, w ∈ wsX1_becomeFirst := (fun w h => List.mem_cons_of_mem _ (List.mem_append_right _ h))
  have main : ∀ (H : Heap) (locs : List Loc) (ls : Array Slot), va_P D vwCl [(a, .inr (1, [.ref a_cells, .ref a_aside, .int (v_asideSize)])), (a_cells, .inl (cy 0, 14, .inl (f_cells)))] H → va_D A [(a, .inr (1, [.ref a_cells, .ref a_aside, .int (v_asideSize)])), (a_cells, .inl (cy 0, 14, .inl (f_cells)))] → va_S A s.heap H locs → lv_has ls 1 [(0, .ref a)] → f_X1_becomeFirst f_cells = some z_f_cells → W p l e ({ frames := 2, cells := 0, slots := 0, locals := 43 } : Room) s m [.ref a].toArray below meth c H locs 0 0 (MQ below (Qv D A [(a, .inr (1, [.ref a_cells, .ref a_aside, .int (v_asideSize)])), (a_cells, .inl (cy 0, 14, .inl (z_f_cells)))]) [.ref a].toArray s 0 0 A) (F0 m 0 ls []) := by
    intro H locs ls hP hD hS hl h
    unfold f_X1_becomeFirst at h
    refine lv_aload_n hx hb dX1_becomeFirst_0 rfl (lv_at hl 0 rfl) ?_
    refine va_get (D := D) (ci := 1) (v := .ref a_cells) (C := RX1) (T := TX1) (N := 3) hx hb hts hinX1 hown hK.1 hP 0 rfl rfl 0 (by decide) (hts (.fieldLink RX1 11 "FrameWalks$Row" "cells" "[I") (List.mem_of_getElem? (i := 1) rfl)) (fun _ h9 => h9) rfl dX1_becomeFirst_1 ?_
    refine lv_iconst (v := (0 : Int32)) hx hb dX1_becomeFirst_4 (by decide) ?_
    obtain ⟨m_19, hc_24, h⟩ := bn1_s h
    refine call_v (ws1 := [(a, .inr (1, [.ref a_cells, .ref a_aside, .int (v_asideSize)])), (a_cells, .inl (cy 0, 14, .inl (m_19)))]) (wr := [(a, .inr (1, [.ref a_cells, .ref a_aside, .int (v_asideSize)]))]) (run_S ⟨hx, hb, hml, hown, hts⟩ ((c_J7_fill_53178 l D cy a_cells 14 (f_cells) ((0 : Int32)) m_19 hc_24) H.size) (cwS2 2 hts gX1_becomeFirst_J7_fill_53178 rfl rfl rfl hd_J7_fill_53178.2 ⟨Nat.le_of_ble_eq_true rfl, Nat.le_of_ble_eq_true rfl⟩) KK.calling (fun U _ hW => hK.warm hW) hP hD [1] [0] [0, 1] rfl rfl rfl hl.1 rfl (lv_room (Nat.le_of_ble_eq_true rfl)) dX1_becomeFirst_5) hP hD hS hA [1] [0] [0, 1] rfl rfl rfl rfl (fun H locs hP hD hS => ?_)
    refine lv_aload_n hx hb dX1_becomeFirst_8 rfl (lv_at hl 0 rfl) ?_
    refine va_get (D := D) (ci := 1) (v := .ref a_cells) (C := RX1) (T := TX1) (N := 3) hx hb hts hinX1 hown hK.1 hP 0 rfl rfl 0 (by decide) (hts (.fieldLink RX1 11 "FrameWalks$Row" "cells" "[I") (List.mem_of_getElem? (i := 1) rfl)) (fun _ h9 => h9) rfl dX1_becomeFirst_9 ?_
    refine lv_iconst (v := (0 : Int32)) hx hb dX1_becomeFirst_12 (by decide) ?_
    refine lv_iconst (v := (4 : Int32)) hx hb dX1_becomeFirst_13 (by decide) ?_
    obtain ⟨i_20, h⟩ := cki_s h
    refine va_iast hx hb hK.1 hP hD hS 1 0 rfl rfl i_20 dX1_becomeFirst_14 (fun H locs hP hD hS => ?_)
    have hP : va_P D vwCl [(a, .inr (1, [.ref a_cells, .ref a_aside, .int (v_asideSize)])), (a_cells, .inl (cy 0, 14, .inl (upd m_19 ((0 : Int32)).toNatClampNeg ((4 : Int32)))))] H := hP
    have hD : va_D A [(a, .inr (1, [.ref a_cells, .ref a_aside, .int (v_asideSize)])), (a_cells, .inl (cy 0, 14, .inl (upd m_19 ((0 : Int32)).toNatClampNeg ((4 : Int32)))))] := hD
    refine lv_aload_n hx hb dX1_becomeFirst_15 rfl (lv_at hl 0 rfl) ?_
    refine va_get (D := D) (ci := 1) (v := .ref a_cells) (C := RX1) (T := TX1) (N := 3) hx hb hts hinX1 hown hK.1 hP 0 rfl rfl 0 (by decide) (hts (.fieldLink RX1 11 "FrameWalks$Row" "cells" "[I") (List.mem_of_getElem? (i := 1) rfl)) (fun _ h9 => h9) rfl dX1_becomeFirst_16 ?_
    refine lv_iconst (v := (1 : Int32)) hx hb dX1_becomeFirst_19 (by decide) ?_
    refine lv_iconst (v := (1 : Int32)) hx hb dX1_becomeFirst_20 (by decide) ?_
    obtain ⟨i_21, h⟩ := cki_s h
    refine va_iast hx hb hK.1 hP hD hS 1 0 rfl rfl i_21 dX1_becomeFirst_21 (fun H locs hP hD hS => ?_)
    have hP : va_P D vwCl [(a, .inr (1, [.ref a_cells, .ref a_aside, .int (v_asideSize)])), (a_cells, .inl (cy 0, 14, .inl (upd (upd m_19 ((0 : Int32)).toNatClampNeg ((4 : Int32))) ((1 : Int32)).toNatClampNeg ((1 : Int32)))))] H := hP
    have hD : va_D A [(a, .inr (1, [.ref a_cells, .ref a_aside, .int (v_asideSize)])), (a_cells, .inl (cy 0, 14, .inl (upd (upd m_19 ((0 : Int32)).toNatClampNeg ((4 : Int32))) ((1 : Int32)).toNatClampNeg ((1 : Int32)))))] := hD
    refine lv_aload_n hx hb dX1_becomeFirst_22 rfl (lv_at hl 0 rfl) ?_
    refine lv_iconst (v := (5 : Int32)) hx hb dX1_becomeFirst_23 (by decide) ?_
    refine lv_iconst (v := (1 : Int32)) hx hb dX1_becomeFirst_24 (by decide) ?_
    refine lv_iconst (v := (1 : Int32)) hx hb dX1_becomeFirst_25 (by decide) ?_
    obtain ⟨m_22, hc_23, h⟩ := bn1_s h
    refine call_v (ws1 := [(a, .inr (1, [.ref a_cells, .ref a_aside, .int (v_asideSize)])), (a_cells, .inl (cy 0, 14, .inl (m_22)))]) (wr := []) (run_V ⟨hx, hb, hml, hown, hts⟩ ((c_X1_becomes l D cy a a_cells a_aside (v_asideSize) (upd (upd m_19 ((0 : Int32)).toNatClampNeg ((4 : Int32))) ((1 : Int32)).toNatClampNeg ((1 : Int32))) ((5 : Int32)) ((1 : Int32)) ((1 : Int32)) m_22 hc_23) H.size) (cwV 3 hts gX1_becomeFirst_X1_becomes rfl rfl rfl hd_X1_becomes ⟨Nat.le_of_ble_eq_true rfl, Nat.le_of_ble_eq_true rfl⟩) KK.calling (fun U _ hW => hK.warm hW) hK.1 hP hD [0, 1] [] [0, 1] rfl rfl 0 1 rfl rfl rfl rfl hl.1 rfl (lv_room (Nat.le_of_ble_eq_true rfl)) dX1_becomeFirst_26) hP hD hS hA [0, 1] [] [0, 1] rfl rfl rfl rfl (fun H locs hP hD hS => ?_)
    have e0 := Option.some.inj h
    exact Mv.ret' hx hb hr hlocks (by rw [← e0]) hP hD hS dX1_becomeFirst_29
  exact main s.heap [] ls hP hD va_S.rf hl h
theorem hd_X1_layAside : yX1_layAside.cls = RX1 ∧ yX1_layAside.cls ≠ "java/lang/invoke/MethodHandle" ∧ yX1_layAside.cls ≠ "java/lang/invoke/VarHandle" ∧ (parseMethodDescriptor yX1_layAside.desc).map (fun d => d.parameters.length) = some 0 := by decide +kernel
def f_X1_layAside (v_asideSize : Int32) (f_cells : Nat → Int32) (f_aside : Nat → Int32) : Option (Int32 × (Nat → Int32)) := (if (3 : Int32) ≤ v_asideSize then (some (v_asideSize, f_aside)) else (ck (¬ ((0 : Int32)) < 0 ∧ ¬ (v_asideSize * (14 : Int32)) < 0 ∧ ¬ ((14 : Int32)) < 0 ∧ ((0 : Int32)).toNatClampNeg + ((14 : Int32)).toNatClampNeg ≤ 14 ∧ (v_asideSize * (14 : Int32)).toNatClampNeg + ((14 : Int32)).toNatClampNeg ≤ 42) (some (v_asideSize + (1 : Int32), va_cpy f_cells f_aside ((0 : Int32)).toNatClampNeg (v_asideSize * (14 : Int32)).toNatClampNeg ((14 : Int32)).toNatClampNeg))))
set_option maxHeartbeats 4000000 in
set_option maxRecDepth 100000 in
theorem c_X1_layAside (l : Launch) (D : va_G) (cy : Nat → ClassId) (a a_cells a_aside : Nat) (v_asideSize : Int32) (f_cells : Nat → Int32) (f_aside : Nat → Int32) (z_v_asideSize : Int32) (z_f_aside : Nat → Int32) (h : f_X1_layAside v_asideSize f_cells f_aside = some (z_v_asideSize, z_f_aside)) : Mv l yX1_layAside wsX1_layAside ({ frames := 1, cells := 0, slots := 0, locals := 60 } : Room) (KK D cy) D [.ref a] [(a, .inr (1, [.ref a_cells, .ref a_aside, .int (v_asideSize)])), (a_cells, .inl (cy 0, 14, .inl (f_cells))), (a_aside, .inl (cy 0, 42, .inl (f_aside)))] [(a, .inr (1, [.ref a_cells, .ref a_aside, .int (z_v_asideSize)])), (a_cells, .inl (cy 0, 14, .inl (f_cells))), (a_aside, .inl (cy 0, 42, .inl (z_f_aside)))] := by
  intro sz
  refine Met.mk0 (cc := cX1_layAside) (maxL := 1) (ret := none) (Qc := fun A => Qv D A [(a, .inr (1, [.ref a_cells, .ref a_aside, .int (z_v_asideSize)])), (a_cells, .inl (cy 0, 14, .inl (f_cells))), (a_aside, .inl (cy 0, 42, .inl (z_f_aside)))]) (by decide) rfl (Nat.le_of_ble_eq_true rfl) ?_
  intro p e s m below meth c A ls hx hb hml hown hts hr hlocks hK hP hD hA hl
  have hown : s.vm.findClass RX1 = some m.cls := hown
  have hl : lv_has ls 1 [(0, .ref a)] := hl
  have hinX1 : ∀ w ∈ u_ws RX1 TX1 3, w ∈ wsX1_layAside := (fun w h => List.mem_cons_of_mem _ (List.mem_append_right _ h))
  have main : ∀ (H : Heap) (locs : List Loc) (ls : Array Slot), va_P D vwCl [(a, .inr (1, [.ref a_cells, .ref a_aside, .int (v_asideSize)])), (a_cells, .inl (cy 0, 14, .inl (f_cells))), (a_aside, .inl (cy 0, 42, .inl (f_aside)))] H → va_D A [(a, .inr (1, [.ref a_cells, .ref a_aside, .int (v_asideSize)])), (a_cells, .inl (cy 0, 14, .inl (f_cells))), (a_aside, .inl (cy 0, 42, .inl (f_aside)))] → va_S A s.heap H locs → lv_has ls 1 [(0, .ref a)] → f_X1_layAside v_asideSize f_cells f_aside = some (z_v_asideSize, z_f_aside) → W p l e ({ frames := 1, cells := 0, slots := 0, locals := 60 } : Room) s m [.ref a].toArray below meth c H locs 0 0 (MQ below (Qv D A [(a, .inr (1, [.ref a_cells, .ref a_aside, .int (z_v_asideSize)])), (a_cells, .inl (cy 0, 14, .inl (f_cells))), (a_aside, .inl (cy 0, 42, .inl (z_f_aside)))]) [.ref a].toArray s 0 0 A) (F0 m 0 ls []) := by
    intro H locs ls hP hD hS hl h
    unfold f_X1_layAside at h
    refine lv_aload_n hx hb dX1_layAside_0 rfl (lv_at hl 0 rfl) ?_
    refine va_get (D := D) (ci := 1) (v := .int (v_asideSize)) (C := RX1) (T := TX1) (N := 3) hx hb hts hinX1 hown hK.1 hP 0 rfl rfl 2 (by decide) (hts (.fieldLink RX1 18 "FrameWalks$Row" "asideSize" "I") (List.mem_of_getElem? (i := 1) rfl)) (fun _ h9 => h9) rfl dX1_layAside_1 ?_
    refine lv_iconst (v := (3 : Int32)) hx hb dX1_layAside_4 (by decide) ?_
    refine lv_icmp_ge (tgt := 39) hx hb dX1_layAside_5 (by decide) (fun c_7 => ?_) (fun c_7 => ?_)
    · have h := ift c_7 h
      obtain ⟨e0, e1⟩ := tp2_s h
      exact Mv.ret' hx hb hr hlocks (by rw [← e0, ← e1]) hP hD hS dX1_layAside_39
    · have h := ifn c_7 h
      refine lv_aload_n hx hb dX1_layAside_8 rfl (lv_at hl 0 rfl) ?_
      refine va_get (D := D) (ci := 1) (v := .ref a_cells) (C := RX1) (T := TX1) (N := 3) hx hb hts hinX1 hown hK.1 hP 0 rfl rfl 0 (by decide) (hts (.fieldLink RX1 11 "FrameWalks$Row" "cells" "[I") (List.mem_of_getElem? (i := 2) rfl)) (fun _ h9 => h9) rfl dX1_layAside_9 ?_
      refine lv_iconst (v := (0 : Int32)) hx hb dX1_layAside_12 (by decide) ?_
      refine lv_aload_n hx hb dX1_layAside_13 rfl (lv_at hl 0 rfl) ?_
      refine va_get (D := D) (ci := 1) (v := .ref a_aside) (C := RX1) (T := TX1) (N := 3) hx hb hts hinX1 hown hK.1 hP 0 rfl rfl 1 (by decide) (hts (.fieldLink RX1 15 "FrameWalks$Row" "aside" "[I") (List.mem_of_getElem? (i := 3) rfl)) (fun _ h9 => h9) rfl dX1_layAside_14 ?_
      refine lv_aload_n hx hb dX1_layAside_17 rfl (lv_at hl 0 rfl) ?_
      refine va_get (D := D) (ci := 1) (v := .int (v_asideSize)) (C := RX1) (T := TX1) (N := 3) hx hb hts hinX1 hown hK.1 hP 0 rfl rfl 2 (by decide) (hts (.fieldLink RX1 18 "FrameWalks$Row" "asideSize" "I") (List.mem_of_getElem? (i := 1) rfl)) (fun _ h9 => h9) rfl dX1_layAside_18 ?_
      refine lv_bipush (v := (14 : Int32)) hx hb dX1_layAside_21 (by decide) ?_
      refine lv_imul hx hb dX1_layAside_23 ?_
      refine lv_bipush (v := (14 : Int32)) hx hb dX1_layAside_24 (by decide) ?_
      obtain ⟨y_8, h⟩ := ck_s h
      refine va_copyi hx hb (hml.trans hl.1.symm) hown (hts (.methodLink RX1 66 arraycopyName) (List.mem_of_getElem? (i := 4) rfl)) (hts (.native arraycopyName) (List.mem_of_getElem? (i := 5) rfl)) (hts (.static arraycopyName) (List.mem_of_getElem? (i := 6) rfl)) (hts (.initialized "java/lang/System") (List.mem_of_getElem? (i := 7) rfl)) hK.1 hP hD hS 1 2 0 0 (ty := .int) rfl rfl rfl rfl rfl y_8.1 y_8.2.1 y_8.2.2.1 y_8.2.2.2.1 y_8.2.2.2.2 (fun _ _ => rfl) (Nat.le_of_ble_eq_true rfl) (Nat.le_of_ble_eq_true (by decide +kernel)) dX1_layAside_26 (fun H locs hP hD hS => ?_)
      have hP : va_P D vwCl [(a, .inr (1, [.ref a_cells, .ref a_aside, .int (v_asideSize)])), (a_cells, .inl (cy 0, 14, .inl (f_cells))), (a_aside, .inl (cy 0, 42, .inl (va_cpy f_cells f_aside ((0 : Int32)).toNatClampNeg (v_asideSize * (14 : Int32)).toNatClampNeg ((14 : Int32)).toNatClampNeg)))] H := hP
      have hD : va_D A [(a, .inr (1, [.ref a_cells, .ref a_aside, .int (v_asideSize)])), (a_cells, .inl (cy 0, 14, .inl (f_cells))), (a_aside, .inl (cy 0, 42, .inl (va_cpy f_cells f_aside ((0 : Int32)).toNatClampNeg (v_asideSize * (14 : Int32)).toNatClampNeg ((14 : Int32)).toNatClampNeg)))] := hD
      refine lv_aload_n hx hb dX1_layAside_29 rfl (lv_at hl 0 rfl) ?_
      refine lv_dup hx hb dX1_layAside_30 rfl ?_
      refine va_get (D := D) (ci := 1) (v := .int (v_asideSize)) (C := RX1) (T := TX1) (N := 3) hx hb hts hinX1 hown hK.1 hP 0 rfl rfl 2 (by decide) (hts (.fieldLink RX1 18 "FrameWalks$Row" "asideSize" "I") (List.mem_of_getElem? (i := 1) rfl)) (fun _ h9 => h9) rfl dX1_layAside_31 ?_
      refine lv_iconst (v := (1 : Int32)) hx hb dX1_layAside_34 (by decide) ?_
      refine lv_iadd hx hb dX1_layAside_35 ?_
      refine va_put (D := D) (ci := 1) (v := .int (v_asideSize + (1 : Int32))) (ty := .int) (C := RX1) (T := TX1) (N := 3) hx hb hts hinX1 tyX1 tyX1_ok nmX1 hown hK.1 hP hD hS 0 rfl rfl 2 (by decide) (hts (.fieldLink RX1 18 "FrameWalks$Row" "asideSize" "I") (List.mem_of_getElem? (i := 1) rfl)) (fun _ h9 => h9) rfl (by decide +kernel) rfl rfl (Nat.le_of_ble_eq_true rfl) dX1_layAside_36 (fun H locs hP hD hS => ?_)
      have hP : va_P D vwCl [(a, .inr (1, [.ref a_cells, .ref a_aside, .int (v_asideSize + (1 : Int32))])), (a_cells, .inl (cy 0, 14, .inl (f_cells))), (a_aside, .inl (cy 0, 42, .inl (va_cpy f_cells f_aside ((0 : Int32)).toNatClampNeg (v_asideSize * (14 : Int32)).toNatClampNeg ((14 : Int32)).toNatClampNeg)))] H := hP
      have hD : va_D A [(a, .inr (1, [.ref a_cells, .ref a_aside, .int (v_asideSize + (1 : Int32))])), (a_cells, .inl (cy 0, 14, .inl (f_cells))), (a_aside, .inl (cy 0, 42, .inl (va_cpy f_cells f_aside ((0 : Int32)).toNatClampNeg (v_asideSize * (14 : Int32)).toNatClampNeg ((14 : Int32)).toNatClampNeg)))] := hD
      obtain ⟨e0, e1⟩ := tp2_s h
      exact Mv.ret' hx hb hr hlocks (by rw [← e0, ← e1]) hP hD hS dX1_layAside_39
  exact main s.heap [] ls hP hD va_S.rf hl h
theorem hd_X1_takeBack : yX1_takeBack.cls = RX1 ∧ yX1_takeBack.cls ≠ "java/lang/invoke/MethodHandle" ∧ yX1_takeBack.cls ≠ "java/lang/invoke/VarHandle" ∧ (parseMethodDescriptor yX1_takeBack.desc).map (fun d => d.parameters.length) = some 0 := by decide +kernel
def f_X1_takeBack (v_asideSize : Int32) (f_cells : Nat → Int32) (f_aside : Nat → Int32) : Option (Int32 × (Nat → Int32)) := (if v_asideSize ≤ 0 then (bn1 (f_X1_becomeFirst (f_cells)) (fun m_14 => (some (v_asideSize, m_14)))) else (ck (¬ ((v_asideSize - (1 : Int32)) * (14 : Int32)) < 0 ∧ ¬ ((0 : Int32)) < 0 ∧ ¬ ((14 : Int32)) < 0 ∧ ((v_asideSize - (1 : Int32)) * (14 : Int32)).toNatClampNeg + ((14 : Int32)).toNatClampNeg ≤ 42 ∧ ((0 : Int32)).toNatClampNeg + ((14 : Int32)).toNatClampNeg ≤ 14) (some (v_asideSize - (1 : Int32), va_cpy f_aside f_cells ((v_asideSize - (1 : Int32)) * (14 : Int32)).toNatClampNeg ((0 : Int32)).toNatClampNeg ((14 : Int32)).toNatClampNeg))))
set_option maxHeartbeats 4000000 in
set_option maxRecDepth 100000 in
theorem c_X1_takeBack (l : Launch) (D : va_G) (cy : Nat → ClassId) (a a_cells a_aside : Nat) (v_asideSize : Int32) (f_cells : Nat → Int32) (f_aside : Nat → Int32) (z_v_asideSize : Int32) (z_f_cells : Nat → Int32) (h : f_X1_takeBack v_asideSize f_cells f_aside = some (z_v_asideSize, z_f_cells)) : Mv l yX1_takeBack wsX1_takeBack ({ frames := 3, cells := 0, slots := 0, locals := 63 } : Room) (KK D cy) D [.ref a] [(a, .inr (1, [.ref a_cells, .ref a_aside, .int (v_asideSize)])), (a_cells, .inl (cy 0, 14, .inl (f_cells))), (a_aside, .inl (cy 0, 42, .inl (f_aside)))] [(a, .inr (1, [.ref a_cells, .ref a_aside, .int (z_v_asideSize)])), (a_cells, .inl (cy 0, 14, .inl (z_f_cells))), (a_aside, .inl (cy 0, 42, .inl (f_aside)))] := by
  intro sz
  refine Met.mk0 (cc := cX1_takeBack) (maxL := 1) (ret := none) (Qc := fun A => Qv D A [(a, .inr (1, [.ref a_cells, .ref a_aside, .int (z_v_asideSize)])), (a_cells, .inl (cy 0, 14, .inl (z_f_cells))), (a_aside, .inl (cy 0, 42, .inl (f_aside)))]) (by decide) rfl (Nat.le_of_ble_eq_true rfl) ?_
  intro p e s m below meth c A ls hx hb hml hown hts hr hlocks hK hP hD hA hl
  have hown : s.vm.findClass RX1 = some m.cls := hown
  have hl : lv_has ls 1 [(0, .ref a)] := hl
  have hinX1 : ∀ w ∈ u_ws RX1 TX1 3, w ∈ wsX1_takeBack := (fun w h => List.mem_cons_of_mem _ (List.mem_append_right _ h))
  have main : ∀ (H : Heap) (locs : List Loc) (ls : Array Slot), va_P D vwCl [(a, .inr (1, [.ref a_cells, .ref a_aside, .int (v_asideSize)])), (a_cells, .inl (cy 0, 14, .inl (f_cells))), (a_aside, .inl (cy 0, 42, .inl (f_aside)))] H → va_D A [(a, .inr (1, [.ref a_cells, .ref a_aside, .int (v_asideSize)])), (a_cells, .inl (cy 0, 14, .inl (f_cells))), (a_aside, .inl (cy 0, 42, .inl (f_aside)))] → va_S A s.heap H locs → lv_has ls 1 [(0, .ref a)] → f_X1_takeBack v_asideSize f_cells f_aside = some (z_v_asideSize, z_f_cells) → W p l e ({ frames := 3, cells := 0, slots := 0, locals := 63 } : Room) s m [.ref a].toArray below meth c H locs 0 0 (MQ below (Qv D A [(a, .inr (1, [.ref a_cells, .ref a_aside, .int (z_v_asideSize)])), (a_cells, .inl (cy 0, 14, .inl (z_f_cells))), (a_aside, .inl (cy 0, 42, .inl (f_aside)))]) [.ref a].toArray s 0 0 A) (F0 m 0 ls []) := by
    intro H locs ls hP hD hS hl h
    unfold f_X1_takeBack at h
    refine lv_aload_n hx hb dX1_takeBack_0 rfl (lv_at hl 0 rfl) ?_
    refine va_get (D := D) (ci := 1) (v := .int (v_asideSize)) (C := RX1) (T := TX1) (N := 3) hx hb hts hinX1 hown hK.1 hP 0 rfl rfl 2 (by decide) (hts (.fieldLink RX1 18 "FrameWalks$Row" "asideSize" "I") (List.mem_of_getElem? (i := 1) rfl)) (fun _ h9 => h9) rfl dX1_takeBack_1 ?_
    refine lv_if_le (tgt := 41) hx hb dX1_takeBack_4 (by decide) (fun c_13 => ?_) (fun c_13 => ?_)
    · have h := ift c_13 h
      refine lv_aload_n hx hb dX1_takeBack_41 rfl (lv_at hl 0 rfl) ?_
      obtain ⟨m_14, hc_15, h⟩ := bn1_s h
      refine call_v (ws1 := [(a, .inr (1, [.ref a_cells, .ref a_aside, .int (v_asideSize)])), (a_cells, .inl (cy 0, 14, .inl (m_14))), (a_aside, .inl (cy 0, 42, .inl (f_aside)))]) (wr := [(a_aside, .inl (cy 0, 42, .inl (f_aside)))]) (run_V ⟨hx, hb, hml, hown, hts⟩ ((c_X1_becomeFirst l D cy a a_cells a_aside (v_asideSize) (f_cells) m_14 hc_15) H.size) (cwV 0 hts gX1_takeBack_X1_becomeFirst rfl rfl rfl hd_X1_becomeFirst ⟨Nat.le_of_ble_eq_true rfl, Nat.le_of_ble_eq_true rfl⟩) KK.calling (fun U _ hW => hK.warm hW) hK.1 hP hD [0, 1] [2] [1, 2, 0] rfl rfl 0 1 rfl rfl rfl rfl hl.1 rfl (lv_room (Nat.le_of_ble_eq_true rfl)) dX1_takeBack_42) hP hD hS hA [0, 1] [2] [1, 2, 0] rfl rfl rfl rfl (fun H locs hP hD hS => ?_)
      obtain ⟨e0, e1⟩ := tp2_s h
      exact Mv.ret' hx hb hr hlocks (by rw [← e0, ← e1]) hP hD hS dX1_takeBack_45
    · have h := ifn c_13 h
      refine lv_aload_n hx hb dX1_takeBack_7 rfl (lv_at hl 0 rfl) ?_
      refine lv_dup hx hb dX1_takeBack_8 rfl ?_
      refine va_get (D := D) (ci := 1) (v := .int (v_asideSize)) (C := RX1) (T := TX1) (N := 3) hx hb hts hinX1 hown hK.1 hP 0 rfl rfl 2 (by decide) (hts (.fieldLink RX1 18 "FrameWalks$Row" "asideSize" "I") (List.mem_of_getElem? (i := 1) rfl)) (fun _ h9 => h9) rfl dX1_takeBack_9 ?_
      refine lv_iconst (v := (1 : Int32)) hx hb dX1_takeBack_12 (by decide) ?_
      refine lv_isub hx hb dX1_takeBack_13 ?_
      refine va_put (D := D) (ci := 1) (v := .int (v_asideSize - (1 : Int32))) (ty := .int) (C := RX1) (T := TX1) (N := 3) hx hb hts hinX1 tyX1 tyX1_ok nmX1 hown hK.1 hP hD hS 0 rfl rfl 2 (by decide) (hts (.fieldLink RX1 18 "FrameWalks$Row" "asideSize" "I") (List.mem_of_getElem? (i := 1) rfl)) (fun _ h9 => h9) rfl (by decide +kernel) rfl rfl (Nat.le_of_ble_eq_true rfl) dX1_takeBack_14 (fun H locs hP hD hS => ?_)
      have hP : va_P D vwCl [(a, .inr (1, [.ref a_cells, .ref a_aside, .int (v_asideSize - (1 : Int32))])), (a_cells, .inl (cy 0, 14, .inl (f_cells))), (a_aside, .inl (cy 0, 42, .inl (f_aside)))] H := hP
      have hD : va_D A [(a, .inr (1, [.ref a_cells, .ref a_aside, .int (v_asideSize - (1 : Int32))])), (a_cells, .inl (cy 0, 14, .inl (f_cells))), (a_aside, .inl (cy 0, 42, .inl (f_aside)))] := hD
      refine lv_aload_n hx hb dX1_takeBack_17 rfl (lv_at hl 0 rfl) ?_
      refine va_get (D := D) (ci := 1) (v := .ref a_aside) (C := RX1) (T := TX1) (N := 3) hx hb hts hinX1 hown hK.1 hP 0 rfl rfl 1 (by decide) (hts (.fieldLink RX1 15 "FrameWalks$Row" "aside" "[I") (List.mem_of_getElem? (i := 2) rfl)) (fun _ h9 => h9) rfl dX1_takeBack_18 ?_
      refine lv_aload_n hx hb dX1_takeBack_21 rfl (lv_at hl 0 rfl) ?_
      refine va_get (D := D) (ci := 1) (v := .int (v_asideSize - (1 : Int32))) (C := RX1) (T := TX1) (N := 3) hx hb hts hinX1 hown hK.1 hP 0 rfl rfl 2 (by decide) (hts (.fieldLink RX1 18 "FrameWalks$Row" "asideSize" "I") (List.mem_of_getElem? (i := 1) rfl)) (fun _ h9 => h9) rfl dX1_takeBack_22 ?_
      refine lv_bipush (v := (14 : Int32)) hx hb dX1_takeBack_25 (by decide) ?_
      refine lv_imul hx hb dX1_takeBack_27 ?_
      refine lv_aload_n hx hb dX1_takeBack_28 rfl (lv_at hl 0 rfl) ?_
      refine va_get (D := D) (ci := 1) (v := .ref a_cells) (C := RX1) (T := TX1) (N := 3) hx hb hts hinX1 hown hK.1 hP 0 rfl rfl 0 (by decide) (hts (.fieldLink RX1 11 "FrameWalks$Row" "cells" "[I") (List.mem_of_getElem? (i := 3) rfl)) (fun _ h9 => h9) rfl dX1_takeBack_29 ?_
      refine lv_iconst (v := (0 : Int32)) hx hb dX1_takeBack_32 (by decide) ?_
      refine lv_bipush (v := (14 : Int32)) hx hb dX1_takeBack_33 (by decide) ?_
      obtain ⟨y_16, h⟩ := ck_s h
      refine va_copyi hx hb (hml.trans hl.1.symm) hown (hts (.methodLink RX1 66 arraycopyName) (List.mem_of_getElem? (i := 4) rfl)) (hts (.native arraycopyName) (List.mem_of_getElem? (i := 5) rfl)) (hts (.static arraycopyName) (List.mem_of_getElem? (i := 6) rfl)) (hts (.initialized "java/lang/System") (List.mem_of_getElem? (i := 7) rfl)) hK.1 hP hD hS 2 1 0 0 (ty := .int) rfl rfl rfl rfl rfl y_16.1 y_16.2.1 y_16.2.2.1 y_16.2.2.2.1 y_16.2.2.2.2 (fun _ _ => rfl) (Nat.le_of_ble_eq_true rfl) (Nat.le_of_ble_eq_true (by decide +kernel)) dX1_takeBack_35 (fun H locs hP hD hS => ?_)
      have hP : va_P D vwCl [(a, .inr (1, [.ref a_cells, .ref a_aside, .int (v_asideSize - (1 : Int32))])), (a_cells, .inl (cy 0, 14, .inl (va_cpy f_aside f_cells ((v_asideSize - (1 : Int32)) * (14 : Int32)).toNatClampNeg ((0 : Int32)).toNatClampNeg ((14 : Int32)).toNatClampNeg))), (a_aside, .inl (cy 0, 42, .inl (f_aside)))] H := hP
      have hD : va_D A [(a, .inr (1, [.ref a_cells, .ref a_aside, .int (v_asideSize - (1 : Int32))])), (a_cells, .inl (cy 0, 14, .inl (va_cpy f_aside f_cells ((v_asideSize - (1 : Int32)) * (14 : Int32)).toNatClampNeg ((0 : Int32)).toNatClampNeg ((14 : Int32)).toNatClampNeg))), (a_aside, .inl (cy 0, 42, .inl (f_aside)))] := hD
      refine lv_goto (tgt := 45) hx hb dX1_takeBack_38 (by decide) ?_
      obtain ⟨e0, e1⟩ := tp2_s h
      exact Mv.ret' hx hb hr hlocks (by rw [← e0, ← e1]) hP hD hS dX1_takeBack_45
  exact main s.heap [] ls hP hD va_S.rf hl h
theorem hd_X1_obey : yX1_obey.cls = RX1 ∧ yX1_obey.cls ≠ "java/lang/invoke/MethodHandle" ∧ yX1_obey.cls ≠ "java/lang/invoke/VarHandle" ∧ (parseMethodDescriptor yX1_obey.desc).map (fun d => d.parameters.length) = some 3 := by decide +kernel
def f_X1_obey (x1 : Int32) (x2 : Int32) (x3 : Int32) (v_asideSize : Int32) (f_cells : Nat → Int32) (f_aside : Nat → Int32) : Option (Int32 × (Nat → Int32) × (Nat → Int32)) := (if x1 = (1 : Int32) then (cki ((0 : Int32)) 14 (cki ((1 : Int32)) 14 (some (v_asideSize, upd (upd f_cells ((0 : Int32)).toNatClampNeg (x2)) ((1 : Int32)).toNatClampNeg (x3), f_aside)))) else (if x1 = (2 : Int32) then (cki ((1 : Int32)) 14 (some (v_asideSize, upd f_cells ((1 : Int32)).toNatClampNeg (x3), f_aside))) else (if x1 = (3 : Int32) then (bn1 (f_X1_becomes (x2) ((1 : Int32)) (x3) (f_cells)) (fun m_72 => (some (v_asideSize, m_72, f_aside)))) else (if x1 = (4 : Int32) then (bn1 (f_X1_becomes (x2) ((0 : Int32)) ((0 : Int32)) (f_cells)) (fun m_75 => (some (v_asideSize, m_75, f_aside)))) else (if x1 = (5 : Int32) then (bn1 (f_X1_becomes (x2) ((2 : Int32)) (x3) (f_cells)) (fun m_78 => (some (v_asideSize, m_78, f_aside)))) else (if x1 = (6 : Int32) then (bn2 (f_X1_layAside (v_asideSize) (f_cells) (f_aside)) (fun m_81 m_82 => (some (m_81, f_cells, m_82)))) else (if x1 = (7 : Int32) then (bn2 (f_X1_takeBack (v_asideSize) (f_cells) (f_aside)) (fun m_85 m_86 => (some (m_85, m_86, f_aside)))) else (some (v_asideSize, f_cells, f_aside)))))))))
set_option maxHeartbeats 4000000 in
set_option maxRecDepth 100000 in
theorem c_X1_obey (l : Launch) (D : va_G) (cy : Nat → ClassId) (a a_cells a_aside : Nat) (v_asideSize : Int32) (f_cells : Nat → Int32) (f_aside : Nat → Int32) (x1 : Int32) (x2 : Int32) (x3 : Int32) (z_v_asideSize : Int32) (z_f_cells : Nat → Int32) (z_f_aside : Nat → Int32) (h : f_X1_obey x1 x2 x3 v_asideSize f_cells f_aside = some (z_v_asideSize, z_f_cells, z_f_aside)) : Mv l yX1_obey wsX1_obey ({ frames := 4, cells := 0, slots := 0, locals := 83 } : Room) (KK D cy) D [.ref a, .int (x1), .int (x2), .int (x3)] [(a, .inr (1, [.ref a_cells, .ref a_aside, .int (v_asideSize)])), (a_cells, .inl (cy 0, 14, .inl (f_cells))), (a_aside, .inl (cy 0, 42, .inl (f_aside)))] [(a, .inr (1, [.ref a_cells, .ref a_aside, .int (z_v_asideSize)])), (a_cells, .inl (cy 0, 14, .inl (z_f_cells))), (a_aside, .inl (cy 0, 42, .inl (z_f_aside)))] := by
  intro sz
  refine Met.mk0 (cc := cX1_obey) (maxL := 4) (ret := none) (Qc := fun A => Qv D A [(a, .inr (1, [.ref a_cells, .ref a_aside, .int (z_v_asideSize)])), (a_cells, .inl (cy 0, 14, .inl (z_f_cells))), (a_aside, .inl (cy 0, 42, .inl (z_f_aside)))]) (by decide) rfl (Nat.le_of_ble_eq_true rfl) ?_
  intro p e s m below meth c A ls hx hb hml hown hts hr hlocks hK hP hD hA hl
  have hown : s.vm.findClass RX1 = some m.cls := hown
  have hl : lv_has ls 4 [(0, .ref a), (1, .int (x1)), (2, .int (x2)), (3, .int (x3))] := hl
  have hinX1 : ∀ w ∈ u_ws RX1 TX1 3, w ∈ wsX1_obey := (fun w h => List.mem_cons_of_mem _ (List.mem_append_right _ h))
  have main : ∀ (H : Heap) (locs : List Loc) (ls : Array Slot), va_P D vwCl [(a, .inr (1, [.ref a_cells, .ref a_aside, .int (v_asideSize)])), (a_cells, .inl (cy 0, 14, .inl (f_cells))), (a_aside, .inl (cy 0, 42, .inl (f_aside)))] H → va_D A [(a, .inr (1, [.ref a_cells, .ref a_aside, .int (v_asideSize)])), (a_cells, .inl (cy 0, 14, .inl (f_cells))), (a_aside, .inl (cy 0, 42, .inl (f_aside)))] → va_S A s.heap H locs → lv_has ls 4 [(0, .ref a), (1, .int (x1)), (2, .int (x2)), (3, .int (x3))] → f_X1_obey x1 x2 x3 v_asideSize f_cells f_aside = some (z_v_asideSize, z_f_cells, z_f_aside) → W p l e ({ frames := 4, cells := 0, slots := 0, locals := 83 } : Room) s m [.ref a, .int (x1), .int (x2), .int (x3)].toArray below meth c H locs 0 0 (MQ below (Qv D A [(a, .inr (1, [.ref a_cells, .ref a_aside, .int (z_v_asideSize)])), (a_cells, .inl (cy 0, 14, .inl (z_f_cells))), (a_aside, .inl (cy 0, 42, .inl (z_f_aside)))]) [.ref a, .int (x1), .int (x2), .int (x3)].toArray s 0 0 A) (F0 m 0 ls []) := by
    intro H locs ls hP hD hS hl h
    unfold f_X1_obey at h
    refine lv_iload_n hx hb dX1_obey_0 rfl (lv_at hl 1 rfl) ?_
    by_cases c_69 : x1 = (1 : Int32)
    · have h := ift c_69 h
      refine lv_tableIn (tgt := 44) hx hb dX1_obey_1 (by rw [c_69]; decide) (by rw [c_69]; decide) (by rw [c_69]; rfl) (by decide) ?_
      refine lv_aload_n hx hb dX1_obey_44 rfl (lv_at hl 0 rfl) ?_
      refine va_get (D := D) (ci := 1) (v := .ref a_cells) (C := RX1) (T := TX1) (N := 3) hx hb hts hinX1 hown hK.1 hP 0 rfl rfl 0 (by decide) (hts (.fieldLink RX1 11 "FrameWalks$Row" "cells" "[I") (List.mem_of_getElem? (i := 1) rfl)) (fun _ h9 => h9) rfl dX1_obey_45 ?_
      refine lv_iconst (v := (0 : Int32)) hx hb dX1_obey_48 (by decide) ?_
      refine lv_iload_n hx hb dX1_obey_49 rfl (lv_at hl 2 rfl) ?_
      obtain ⟨i_67, h⟩ := cki_s h
      refine va_iast hx hb hK.1 hP hD hS 1 0 rfl rfl i_67 dX1_obey_50 (fun H locs hP hD hS => ?_)
      have hP : va_P D vwCl [(a, .inr (1, [.ref a_cells, .ref a_aside, .int (v_asideSize)])), (a_cells, .inl (cy 0, 14, .inl (upd f_cells ((0 : Int32)).toNatClampNeg (x2)))), (a_aside, .inl (cy 0, 42, .inl (f_aside)))] H := hP
      have hD : va_D A [(a, .inr (1, [.ref a_cells, .ref a_aside, .int (v_asideSize)])), (a_cells, .inl (cy 0, 14, .inl (upd f_cells ((0 : Int32)).toNatClampNeg (x2)))), (a_aside, .inl (cy 0, 42, .inl (f_aside)))] := hD
      refine lv_aload_n hx hb dX1_obey_51 rfl (lv_at hl 0 rfl) ?_
      refine va_get (D := D) (ci := 1) (v := .ref a_cells) (C := RX1) (T := TX1) (N := 3) hx hb hts hinX1 hown hK.1 hP 0 rfl rfl 0 (by decide) (hts (.fieldLink RX1 11 "FrameWalks$Row" "cells" "[I") (List.mem_of_getElem? (i := 1) rfl)) (fun _ h9 => h9) rfl dX1_obey_52 ?_
      refine lv_iconst (v := (1 : Int32)) hx hb dX1_obey_55 (by decide) ?_
      refine lv_iload_n hx hb dX1_obey_56 rfl (lv_at hl 3 rfl) ?_
      obtain ⟨i_68, h⟩ := cki_s h
      refine va_iast hx hb hK.1 hP hD hS 1 0 rfl rfl i_68 dX1_obey_57 (fun H locs hP hD hS => ?_)
      have hP : va_P D vwCl [(a, .inr (1, [.ref a_cells, .ref a_aside, .int (v_asideSize)])), (a_cells, .inl (cy 0, 14, .inl (upd (upd f_cells ((0 : Int32)).toNatClampNeg (x2)) ((1 : Int32)).toNatClampNeg (x3)))), (a_aside, .inl (cy 0, 42, .inl (f_aside)))] H := hP
      have hD : va_D A [(a, .inr (1, [.ref a_cells, .ref a_aside, .int (v_asideSize)])), (a_cells, .inl (cy 0, 14, .inl (upd (upd f_cells ((0 : Int32)).toNatClampNeg (x2)) ((1 : Int32)).toNatClampNeg (x3)))), (a_aside, .inl (cy 0, 42, .inl (f_aside)))] := hD
      refine lv_goto (tgt := 115) hx hb dX1_obey_58 (by decide) ?_
      obtain ⟨e0, e1, e2⟩ := tp3_s h
      exact Mv.ret' hx hb hr hlocks (by rw [← e0, ← e1, ← e2]) hP hD hS dX1_obey_115
    have h := ifn c_69 h
    by_cases c_71 : x1 = (2 : Int32)
    · have h := ift c_71 h
      refine lv_tableIn (tgt := 61) hx hb dX1_obey_1 (by rw [c_71]; decide) (by rw [c_71]; decide) (by rw [c_71]; rfl) (by decide) ?_
      refine lv_aload_n hx hb dX1_obey_61 rfl (lv_at hl 0 rfl) ?_
      refine va_get (D := D) (ci := 1) (v := .ref a_cells) (C := RX1) (T := TX1) (N := 3) hx hb hts hinX1 hown hK.1 hP 0 rfl rfl 0 (by decide) (hts (.fieldLink RX1 11 "FrameWalks$Row" "cells" "[I") (List.mem_of_getElem? (i := 1) rfl)) (fun _ h9 => h9) rfl dX1_obey_62 ?_
      refine lv_iconst (v := (1 : Int32)) hx hb dX1_obey_65 (by decide) ?_
      refine lv_iload_n hx hb dX1_obey_66 rfl (lv_at hl 3 rfl) ?_
      obtain ⟨i_70, h⟩ := cki_s h
      refine va_iast hx hb hK.1 hP hD hS 1 0 rfl rfl i_70 dX1_obey_67 (fun H locs hP hD hS => ?_)
      have hP : va_P D vwCl [(a, .inr (1, [.ref a_cells, .ref a_aside, .int (v_asideSize)])), (a_cells, .inl (cy 0, 14, .inl (upd f_cells ((1 : Int32)).toNatClampNeg (x3)))), (a_aside, .inl (cy 0, 42, .inl (f_aside)))] H := hP
      have hD : va_D A [(a, .inr (1, [.ref a_cells, .ref a_aside, .int (v_asideSize)])), (a_cells, .inl (cy 0, 14, .inl (upd f_cells ((1 : Int32)).toNatClampNeg (x3)))), (a_aside, .inl (cy 0, 42, .inl (f_aside)))] := hD
      refine lv_goto (tgt := 115) hx hb dX1_obey_68 (by decide) ?_
      obtain ⟨e0, e1, e2⟩ := tp3_s h
      exact Mv.ret' hx hb hr hlocks (by rw [← e0, ← e1, ← e2]) hP hD hS dX1_obey_115
    have h := ifn c_71 h
    by_cases c_74 : x1 = (3 : Int32)
    · have h := ift c_74 h
      refine lv_tableIn (tgt := 71) hx hb dX1_obey_1 (by rw [c_74]; decide) (by rw [c_74]; decide) (by rw [c_74]; rfl) (by decide) ?_
      refine lv_aload_n hx hb dX1_obey_71 rfl (lv_at hl 0 rfl) ?_
      refine lv_iload_n hx hb dX1_obey_72 rfl (lv_at hl 2 rfl) ?_
      refine lv_iconst (v := (1 : Int32)) hx hb dX1_obey_73 (by decide) ?_
      refine lv_iload_n hx hb dX1_obey_74 rfl (lv_at hl 3 rfl) ?_
      obtain ⟨m_72, hc_73, h⟩ := bn1_s h
      refine call_v (ws1 := [(a, .inr (1, [.ref a_cells, .ref a_aside, .int (v_asideSize)])), (a_cells, .inl (cy 0, 14, .inl (m_72))), (a_aside, .inl (cy 0, 42, .inl (f_aside)))]) (wr := [(a_aside, .inl (cy 0, 42, .inl (f_aside)))]) (run_V ⟨hx, hb, hml, hown, hts⟩ ((c_X1_becomes l D cy a a_cells a_aside (v_asideSize) (f_cells) (x2) ((1 : Int32)) (x3) m_72 hc_73) H.size) (cwV 3 hts gX1_obey_X1_becomes rfl rfl rfl hd_X1_becomes ⟨Nat.le_of_ble_eq_true rfl, Nat.le_of_ble_eq_true rfl⟩) KK.calling (fun U _ hW => hK.warm hW) hK.1 hP hD [0, 1] [2] [1, 2, 0] rfl rfl 0 1 rfl rfl rfl rfl hl.1 rfl (lv_room (Nat.le_of_ble_eq_true rfl)) dX1_obey_75) hP hD hS hA [0, 1] [2] [1, 2, 0] rfl rfl rfl rfl (fun H locs hP hD hS => ?_)
      refine lv_goto (tgt := 115) hx hb dX1_obey_78 (by decide) ?_
      obtain ⟨e0, e1, e2⟩ := tp3_s h
      exact Mv.ret' hx hb hr hlocks (by rw [← e0, ← e1, ← e2]) hP hD hS dX1_obey_115
    have h := ifn c_74 h
    by_cases c_77 : x1 = (4 : Int32)
    · have h := ift c_77 h
      refine lv_tableIn (tgt := 81) hx hb dX1_obey_1 (by rw [c_77]; decide) (by rw [c_77]; decide) (by rw [c_77]; rfl) (by decide) ?_
      refine lv_aload_n hx hb dX1_obey_81 rfl (lv_at hl 0 rfl) ?_
      refine lv_iload_n hx hb dX1_obey_82 rfl (lv_at hl 2 rfl) ?_
      refine lv_iconst (v := (0 : Int32)) hx hb dX1_obey_83 (by decide) ?_
      refine lv_iconst (v := (0 : Int32)) hx hb dX1_obey_84 (by decide) ?_
      obtain ⟨m_75, hc_76, h⟩ := bn1_s h
      refine call_v (ws1 := [(a, .inr (1, [.ref a_cells, .ref a_aside, .int (v_asideSize)])), (a_cells, .inl (cy 0, 14, .inl (m_75))), (a_aside, .inl (cy 0, 42, .inl (f_aside)))]) (wr := [(a_aside, .inl (cy 0, 42, .inl (f_aside)))]) (run_V ⟨hx, hb, hml, hown, hts⟩ ((c_X1_becomes l D cy a a_cells a_aside (v_asideSize) (f_cells) (x2) ((0 : Int32)) ((0 : Int32)) m_75 hc_76) H.size) (cwV 3 hts gX1_obey_X1_becomes rfl rfl rfl hd_X1_becomes ⟨Nat.le_of_ble_eq_true rfl, Nat.le_of_ble_eq_true rfl⟩) KK.calling (fun U _ hW => hK.warm hW) hK.1 hP hD [0, 1] [2] [1, 2, 0] rfl rfl 0 1 rfl rfl rfl rfl hl.1 rfl (lv_room (Nat.le_of_ble_eq_true rfl)) dX1_obey_85) hP hD hS hA [0, 1] [2] [1, 2, 0] rfl rfl rfl rfl (fun H locs hP hD hS => ?_)
      refine lv_goto (tgt := 115) hx hb dX1_obey_88 (by decide) ?_
      obtain ⟨e0, e1, e2⟩ := tp3_s h
      exact Mv.ret' hx hb hr hlocks (by rw [← e0, ← e1, ← e2]) hP hD hS dX1_obey_115
    have h := ifn c_77 h
    by_cases c_80 : x1 = (5 : Int32)
    · have h := ift c_80 h
      refine lv_tableIn (tgt := 91) hx hb dX1_obey_1 (by rw [c_80]; decide) (by rw [c_80]; decide) (by rw [c_80]; rfl) (by decide) ?_
      refine lv_aload_n hx hb dX1_obey_91 rfl (lv_at hl 0 rfl) ?_
      refine lv_iload_n hx hb dX1_obey_92 rfl (lv_at hl 2 rfl) ?_
      refine lv_iconst (v := (2 : Int32)) hx hb dX1_obey_93 (by decide) ?_
      refine lv_iload_n hx hb dX1_obey_94 rfl (lv_at hl 3 rfl) ?_
      obtain ⟨m_78, hc_79, h⟩ := bn1_s h
      refine call_v (ws1 := [(a, .inr (1, [.ref a_cells, .ref a_aside, .int (v_asideSize)])), (a_cells, .inl (cy 0, 14, .inl (m_78))), (a_aside, .inl (cy 0, 42, .inl (f_aside)))]) (wr := [(a_aside, .inl (cy 0, 42, .inl (f_aside)))]) (run_V ⟨hx, hb, hml, hown, hts⟩ ((c_X1_becomes l D cy a a_cells a_aside (v_asideSize) (f_cells) (x2) ((2 : Int32)) (x3) m_78 hc_79) H.size) (cwV 3 hts gX1_obey_X1_becomes rfl rfl rfl hd_X1_becomes ⟨Nat.le_of_ble_eq_true rfl, Nat.le_of_ble_eq_true rfl⟩) KK.calling (fun U _ hW => hK.warm hW) hK.1 hP hD [0, 1] [2] [1, 2, 0] rfl rfl 0 1 rfl rfl rfl rfl hl.1 rfl (lv_room (Nat.le_of_ble_eq_true rfl)) dX1_obey_95) hP hD hS hA [0, 1] [2] [1, 2, 0] rfl rfl rfl rfl (fun H locs hP hD hS => ?_)
      refine lv_goto (tgt := 115) hx hb dX1_obey_98 (by decide) ?_
      obtain ⟨e0, e1, e2⟩ := tp3_s h
      exact Mv.ret' hx hb hr hlocks (by rw [← e0, ← e1, ← e2]) hP hD hS dX1_obey_115
    have h := ifn c_80 h
    by_cases c_84 : x1 = (6 : Int32)
    · have h := ift c_84 h
      refine lv_tableIn (tgt := 101) hx hb dX1_obey_1 (by rw [c_84]; decide) (by rw [c_84]; decide) (by rw [c_84]; rfl) (by decide) ?_
      refine lv_aload_n hx hb dX1_obey_101 rfl (lv_at hl 0 rfl) ?_
      obtain ⟨m_81, m_82, hc_83, h⟩ := bn2_s h
      refine call_v (ws1 := [(a, .inr (1, [.ref a_cells, .ref a_aside, .int (m_81)])), (a_cells, .inl (cy 0, 14, .inl (f_cells))), (a_aside, .inl (cy 0, 42, .inl (m_82)))]) (wr := []) (run_V ⟨hx, hb, hml, hown, hts⟩ ((c_X1_layAside l D cy a a_cells a_aside (v_asideSize) (f_cells) (f_aside) m_81 m_82 hc_83) H.size) (cwV 0 hts gX1_obey_X1_layAside rfl rfl rfl hd_X1_layAside ⟨Nat.le_of_ble_eq_true rfl, Nat.le_of_ble_eq_true rfl⟩) KK.calling (fun U _ hW => hK.warm hW) hK.1 hP hD [0, 1, 2] [] [0, 1, 2] rfl rfl 0 1 rfl rfl rfl rfl hl.1 rfl (lv_room (Nat.le_of_ble_eq_true rfl)) dX1_obey_102) hP hD hS hA [0, 1, 2] [] [0, 1, 2] rfl rfl rfl rfl (fun H locs hP hD hS => ?_)
      refine lv_goto (tgt := 115) hx hb dX1_obey_105 (by decide) ?_
      obtain ⟨e0, e1, e2⟩ := tp3_s h
      exact Mv.ret' hx hb hr hlocks (by rw [← e0, ← e1, ← e2]) hP hD hS dX1_obey_115
    have h := ifn c_84 h
    by_cases c_88 : x1 = (7 : Int32)
    · have h := ift c_88 h
      refine lv_tableIn (tgt := 108) hx hb dX1_obey_1 (by rw [c_88]; decide) (by rw [c_88]; decide) (by rw [c_88]; rfl) (by decide) ?_
      refine lv_aload_n hx hb dX1_obey_108 rfl (lv_at hl 0 rfl) ?_
      obtain ⟨m_85, m_86, hc_87, h⟩ := bn2_s h
      refine call_v (ws1 := [(a, .inr (1, [.ref a_cells, .ref a_aside, .int (m_85)])), (a_cells, .inl (cy 0, 14, .inl (m_86))), (a_aside, .inl (cy 0, 42, .inl (f_aside)))]) (wr := []) (run_V ⟨hx, hb, hml, hown, hts⟩ ((c_X1_takeBack l D cy a a_cells a_aside (v_asideSize) (f_cells) (f_aside) m_85 m_86 hc_87) H.size) (cwV 0 hts gX1_obey_X1_takeBack rfl rfl rfl hd_X1_takeBack ⟨Nat.le_of_ble_eq_true rfl, Nat.le_of_ble_eq_true rfl⟩) KK.calling (fun U _ hW => hK.warm hW) hK.1 hP hD [0, 1, 2] [] [0, 1, 2] rfl rfl 0 1 rfl rfl rfl rfl hl.1 rfl (lv_room (Nat.le_of_ble_eq_true rfl)) dX1_obey_109) hP hD hS hA [0, 1, 2] [] [0, 1, 2] rfl rfl rfl rfl (fun H locs hP hD hS => ?_)
      refine lv_goto (tgt := 115) hx hb dX1_obey_112 (by decide) ?_
      obtain ⟨e0, e1, e2⟩ := tp3_s h
      exact Mv.ret' hx hb hr hlocks (by rw [← e0, ← e1, ← e2]) hP hD hS dX1_obey_115
    have h := ifn c_88 h
    have hout : (x1).toInt < 1 ∨ 7 < (x1).toInt := by
      have ec_69 := lv_neT (a := 1) c_69 (by decide)
      have ec_71 := lv_neT (a := 2) c_71 (by decide)
      have ec_74 := lv_neT (a := 3) c_74 (by decide)
      have ec_77 := lv_neT (a := 4) c_77 (by decide)
      have ec_80 := lv_neT (a := 5) c_80 (by decide)
      have ec_84 := lv_neT (a := 6) c_84 (by decide)
      have ec_88 := lv_neT (a := 7) c_88 (by decide)
      omega
    refine lv_tableOut (tgt := 115) hx hb dX1_obey_1 hout (by decide) ?_
    obtain ⟨e0, e1, e2⟩ := tp3_s h
    exact Mv.ret' hx hb hr hlocks (by rw [← e0, ← e1, ← e2]) hP hD hS dX1_obey_115
  exact main s.heap [] ls hP hD va_S.rf hl h
theorem hd_X1_goTo : yX1_goTo.cls = RX1 ∧ yX1_goTo.cls ≠ "java/lang/invoke/MethodHandle" ∧ yX1_goTo.cls ≠ "java/lang/invoke/VarHandle" ∧ (parseMethodDescriptor yX1_goTo.desc).map (fun d => d.parameters.length) = some 3 := by decide +kernel
def f_X1_goTo_L23 (vp1_routines_width : Int32) (vp1_routines_size : Int32) (fp1_routines_cells : Nat → Int32) (vp1_ops_width : Int32) (vp1_ops_size : Int32) (fp1_ops_cells : Nat → Int32) : Nat → Int32 → Int32 → Int32 → Int32 → Int32 → (Nat → Int32) → (Nat → Int32) → Option (Int32 × (Nat → Int32) × (Nat → Int32))
  | 0, _, _, _, _, _, _, _ => none
  | n + 1, y2, y3, y4, y5, v_asideSize, f_cells, f_aside => (if vp1_ops_size ≤ y5 then (some (v_asideSize, f_cells, f_aside)) else (bn1 (f_X3_at (y5) ((3 : Int32)) (vp1_ops_width) (vp1_ops_size) 160 (fp1_ops_cells)) (fun r_68 => (if r_68 = y2 then (bn1 (f_X3_at (y5) ((0 : Int32)) (vp1_ops_width) (vp1_ops_size) 160 (fp1_ops_cells)) (fun r_70 => (if r_70 = 0 then (bn1 (f_X3_at (y5) ((2 : Int32)) (vp1_ops_width) (vp1_ops_size) 160 (fp1_ops_cells)) (fun r_80 => (if y4 + r_80 ≤ y3 then ((f_X1_goTo_L23 vp1_routines_width vp1_routines_size fp1_routines_cells vp1_ops_width vp1_ops_size fp1_ops_cells  n) (y2) (y3) (y4 + r_80) (y5 + (1 : Int32)) (v_asideSize) (f_cells) (f_aside)) else (some (v_asideSize, f_cells, f_aside))))) else (bn1 (f_X3_at (y5) ((1 : Int32)) (vp1_ops_width) (vp1_ops_size) 160 (fp1_ops_cells)) (fun r_72 => (bn1 (f_X3_at (y5) ((2 : Int32)) (vp1_ops_width) (vp1_ops_size) 160 (fp1_ops_cells)) (fun r_73 => (bn3 (f_X1_obey (r_70) (r_72) (r_73) (v_asideSize) (f_cells) (f_aside)) (fun m_74 m_75 m_76 => ((f_X1_goTo_L23 vp1_routines_width vp1_routines_size fp1_routines_cells vp1_ops_width vp1_ops_size fp1_ops_cells  n) (y2) (y3) (y4) (y5 + (1 : Int32)) (m_74) (m_75) (m_76))))))))))) else ((f_X1_goTo_L23 vp1_routines_width vp1_routines_size fp1_routines_cells vp1_ops_width vp1_ops_size fp1_ops_cells  n) (y2) (y3) (y4) (y5 + (1 : Int32)) (v_asideSize) (f_cells) (f_aside))))))
def f_X1_goTo (x2 : Int32) (x3 : Int32) (v_asideSize : Int32) (f_cells : Nat → Int32) (f_aside : Nat → Int32) (vp1_routines_width : Int32) (vp1_routines_size : Int32) (fp1_routines_cells : Nat → Int32) (vp1_ops_width : Int32) (vp1_ops_size : Int32) (fp1_ops_cells : Nat → Int32) : Option (Int32 × (Nat → Int32) × (Nat → Int32)) := (bn1 (f_X1_becomeFirst (f_cells)) (fun m_85 => (bn1 (f_X3_at (x2) ((0 : Int32)) (vp1_routines_width) (vp1_routines_size) 24 (fp1_routines_cells)) (fun r_86 => (f_X1_goTo_L23 vp1_routines_width vp1_routines_size fp1_routines_cells vp1_ops_width vp1_ops_size fp1_ops_cells  FUEL (x2) (x3) (r_86) ((0 : Int32)) ((0 : Int32)) (m_85) (f_aside))))))
set_option maxHeartbeats 4000000 in
set_option maxRecDepth 100000 in
theorem c_X1_goTo (l : Launch) (D : va_G) (cy : Nat → ClassId) (a a_cells a_aside ap1 ap1_routines ap1_ops ap1_landings ap1_calls ap1_registers ap1_words ap1_routines_cells ap1_ops_cells : Nat) (v_asideSize : Int32) (f_cells : Nat → Int32) (f_aside : Nat → Int32) (vp1_routines_width : Int32) (vp1_routines_size : Int32) (fp1_routines_cells : Nat → Int32) (vp1_ops_width : Int32) (vp1_ops_size : Int32) (fp1_ops_cells : Nat → Int32) (x2 : Int32) (x3 : Int32) (z_v_asideSize : Int32) (z_f_cells : Nat → Int32) (z_f_aside : Nat → Int32) (h : f_X1_goTo x2 x3 v_asideSize f_cells f_aside vp1_routines_width vp1_routines_size fp1_routines_cells vp1_ops_width vp1_ops_size fp1_ops_cells = some (z_v_asideSize, z_f_cells, z_f_aside)) : Mv l yX1_goTo wsX1_goTo ({ frames := 5, cells := 0, slots := 0, locals := 106 } : Room) (KK D cy) D [.ref a, .ref ap1, .int (x2), .int (x3)] [(a, .inr (1, [.ref a_cells, .ref a_aside, .int (v_asideSize)])), (a_cells, .inl (cy 0, 14, .inl (f_cells))), (a_aside, .inl (cy 0, 42, .inl (f_aside))), (ap1, .inr (6, [.ref ap1_routines, .ref ap1_ops, .ref ap1_landings, .ref ap1_calls, .ref ap1_registers, .ref ap1_words])), (ap1_routines, .inr (3, [.int (vp1_routines_width), .ref ap1_routines_cells, .int (vp1_routines_size)])), (ap1_routines_cells, .inl (cy 0, 24, .inl (fp1_routines_cells))), (ap1_ops, .inr (3, [.int (vp1_ops_width), .ref ap1_ops_cells, .int (vp1_ops_size)])), (ap1_ops_cells, .inl (cy 0, 160, .inl (fp1_ops_cells)))] [(a, .inr (1, [.ref a_cells, .ref a_aside, .int (z_v_asideSize)])), (a_cells, .inl (cy 0, 14, .inl (z_f_cells))), (a_aside, .inl (cy 0, 42, .inl (z_f_aside))), (ap1, .inr (6, [.ref ap1_routines, .ref ap1_ops, .ref ap1_landings, .ref ap1_calls, .ref ap1_registers, .ref ap1_words])), (ap1_routines, .inr (3, [.int (vp1_routines_width), .ref ap1_routines_cells, .int (vp1_routines_size)])), (ap1_routines_cells, .inl (cy 0, 24, .inl (fp1_routines_cells))), (ap1_ops, .inr (3, [.int (vp1_ops_width), .ref ap1_ops_cells, .int (vp1_ops_size)])), (ap1_ops_cells, .inl (cy 0, 160, .inl (fp1_ops_cells)))] := by
  intro sz
  refine Met.mk0 (cc := cX1_goTo) (maxL := 7) (ret := none) (Qc := fun A => Qv D A [(a, .inr (1, [.ref a_cells, .ref a_aside, .int (z_v_asideSize)])), (a_cells, .inl (cy 0, 14, .inl (z_f_cells))), (a_aside, .inl (cy 0, 42, .inl (z_f_aside))), (ap1, .inr (6, [.ref ap1_routines, .ref ap1_ops, .ref ap1_landings, .ref ap1_calls, .ref ap1_registers, .ref ap1_words])), (ap1_routines, .inr (3, [.int (vp1_routines_width), .ref ap1_routines_cells, .int (vp1_routines_size)])), (ap1_routines_cells, .inl (cy 0, 24, .inl (fp1_routines_cells))), (ap1_ops, .inr (3, [.int (vp1_ops_width), .ref ap1_ops_cells, .int (vp1_ops_size)])), (ap1_ops_cells, .inl (cy 0, 160, .inl (fp1_ops_cells)))]) (by decide) rfl (Nat.le_of_ble_eq_true rfl) ?_
  intro p e s m below meth c A ls hx hb hml hown hts hr hlocks hK hP hD hA hl
  have hown : s.vm.findClass RX1 = some m.cls := hown
  have hl : lv_has ls 7 [(0, .ref a), (1, .ref ap1), (2, .int (x2)), (3, .int (x3))] := hl
  have hinX1 : ∀ w ∈ u_ws RX1 TX1 3, w ∈ wsX1_goTo := (fun w h => List.mem_cons_of_mem _ (List.mem_append_left _ (List.mem_append_left _ (List.mem_append_right _ h))))
  have hinX6 : ∀ w ∈ u_ws RX6 TX6 6, w ∈ wsX1_goTo := (fun w h => List.mem_cons_of_mem _ (List.mem_append_left _ (List.mem_append_right _ h)))
  have hinX3 : ∀ w ∈ u_ws RX3 TX3 3, w ∈ wsX1_goTo := (fun w h => List.mem_cons_of_mem _ (List.mem_append_right _ h))
  have hL23 : ∀ (n23 : Nat) (y2 : Int32) (y3 : Int32) (y4 : Int32) (y5 : Int32) (v_asideSize : Int32) (f_cells : Nat → Int32) (f_aside : Nat → Int32) (H : Heap) (locs : List Loc) (ls : Array Slot), va_P D vwCl [(a, .inr (1, [.ref a_cells, .ref a_aside, .int (v_asideSize)])), (a_cells, .inl (cy 0, 14, .inl (f_cells))), (a_aside, .inl (cy 0, 42, .inl (f_aside))), (ap1, .inr (6, [.ref ap1_routines, .ref ap1_ops, .ref ap1_landings, .ref ap1_calls, .ref ap1_registers, .ref ap1_words])), (ap1_routines, .inr (3, [.int (vp1_routines_width), .ref ap1_routines_cells, .int (vp1_routines_size)])), (ap1_routines_cells, .inl (cy 0, 24, .inl (fp1_routines_cells))), (ap1_ops, .inr (3, [.int (vp1_ops_width), .ref ap1_ops_cells, .int (vp1_ops_size)])), (ap1_ops_cells, .inl (cy 0, 160, .inl (fp1_ops_cells)))] H → va_D A [(a, .inr (1, [.ref a_cells, .ref a_aside, .int (v_asideSize)])), (a_cells, .inl (cy 0, 14, .inl (f_cells))), (a_aside, .inl (cy 0, 42, .inl (f_aside))), (ap1, .inr (6, [.ref ap1_routines, .ref ap1_ops, .ref ap1_landings, .ref ap1_calls, .ref ap1_registers, .ref ap1_words])), (ap1_routines, .inr (3, [.int (vp1_routines_width), .ref ap1_routines_cells, .int (vp1_routines_size)])), (ap1_routines_cells, .inl (cy 0, 24, .inl (fp1_routines_cells))), (ap1_ops, .inr (3, [.int (vp1_ops_width), .ref ap1_ops_cells, .int (vp1_ops_size)])), (ap1_ops_cells, .inl (cy 0, 160, .inl (fp1_ops_cells)))] → va_S A s.heap H locs → lv_has ls 7 [(0, .ref a), (1, .ref ap1), (2, .int (y2)), (3, .int (y3)), (4, .int (y4)), (5, .int (y5))] → f_X1_goTo_L23 vp1_routines_width vp1_routines_size fp1_routines_cells vp1_ops_width vp1_ops_size fp1_ops_cells  n23 y2 y3 y4 y5 v_asideSize f_cells f_aside = some (z_v_asideSize, z_f_cells, z_f_aside) → W p l e ({ frames := 5, cells := 0, slots := 0, locals := 106 } : Room) s m [.ref a, .ref ap1, .int (x2), .int (x3)].toArray below meth c H locs 0 0 (MQ below (Qv D A [(a, .inr (1, [.ref a_cells, .ref a_aside, .int (z_v_asideSize)])), (a_cells, .inl (cy 0, 14, .inl (z_f_cells))), (a_aside, .inl (cy 0, 42, .inl (z_f_aside))), (ap1, .inr (6, [.ref ap1_routines, .ref ap1_ops, .ref ap1_landings, .ref ap1_calls, .ref ap1_registers, .ref ap1_words])), (ap1_routines, .inr (3, [.int (vp1_routines_width), .ref ap1_routines_cells, .int (vp1_routines_size)])), (ap1_routines_cells, .inl (cy 0, 24, .inl (fp1_routines_cells))), (ap1_ops, .inr (3, [.int (vp1_ops_width), .ref ap1_ops_cells, .int (vp1_ops_size)])), (ap1_ops_cells, .inl (cy 0, 160, .inl (fp1_ops_cells)))]) [.ref a, .ref ap1, .int (x2), .int (x3)].toArray s 0 0 A) (F0 m 23 ls []) := by
    intro n23
    induction n23 with
    | zero =>
      intro y2 y3 y4 y5 v_asideSize f_cells f_aside H locs ls hP hD hS hl h
      cases (id h : (none : Option (Int32 × (Nat → Int32) × (Nat → Int32))) = some _)
    | succ n23 ih23 =>
      intro y2 y3 y4 y5 v_asideSize f_cells f_aside H locs ls hP hD hS hl h
      rw [f_X1_goTo_L23] at h
      refine lv_iload hx hb dX1_goTo_23 (lv_at hl 5 rfl) ?_
      refine lv_aload_n hx hb dX1_goTo_25 rfl (lv_at hl 1 rfl) ?_
      refine va_getN (D := D) (ci := 6) (v := .ref ap1_ops) (C := RX6) (T := TX6) (N := 6) hx hb hts hinX6 hown hK.1 hP 3 rfl rfl 1 (by decide) ((hK.2.1 _ (List.mem_of_getElem? (i := 8) rfl)).use rfl) (fun _ h9 => h9) rfl dX1_goTo_26 ?_
      refine va_getN (D := D) (ci := 3) (v := .int (vp1_ops_size)) (C := RX3) (T := TX3) (N := 3) hx hb hts hinX3 hown hK.1 hP 6 rfl rfl 2 (by decide) ((hK.2.1 _ (List.mem_of_getElem? (i := 1) rfl)).use rfl) (fun _ h9 => h9) rfl dX1_goTo_29 ?_
      refine lv_icmp_ge (tgt := 123) hx hb dX1_goTo_32 (by decide) (fun c_67 => ?_) (fun c_67 => ?_)
      · have h := ift c_67 h
        obtain ⟨e0, e1, e2⟩ := tp3_s h
        exact Mv.ret' hx hb hr hlocks (by rw [← e0, ← e1, ← e2]) hP hD hS dX1_goTo_123
      · have h := ifn c_67 h
        refine lv_aload_n hx hb dX1_goTo_35 rfl (lv_at hl 1 rfl) ?_
        refine va_getN (D := D) (ci := 6) (v := .ref ap1_ops) (C := RX6) (T := TX6) (N := 6) hx hb hts hinX6 hown hK.1 hP 3 rfl rfl 1 (by decide) ((hK.2.1 _ (List.mem_of_getElem? (i := 8) rfl)).use rfl) (fun _ h9 => h9) rfl dX1_goTo_36 ?_
        refine lv_iload hx hb dX1_goTo_39 (lv_at hl 5 rfl) ?_
        refine lv_iconst (v := (3 : Int32)) hx hb dX1_goTo_41 (by decide) ?_
        obtain ⟨r_68, hc_84, h⟩ := bn1_s h
        refine call_i (ws1 := [(a, .inr (1, [.ref a_cells, .ref a_aside, .int (v_asideSize)])), (a_cells, .inl (cy 0, 14, .inl (f_cells))), (a_aside, .inl (cy 0, 42, .inl (f_aside))), (ap1, .inr (6, [.ref ap1_routines, .ref ap1_ops, .ref ap1_landings, .ref ap1_calls, .ref ap1_registers, .ref ap1_words])), (ap1_routines, .inr (3, [.int (vp1_routines_width), .ref ap1_routines_cells, .int (vp1_routines_size)])), (ap1_routines_cells, .inl (cy 0, 24, .inl (fp1_routines_cells))), (ap1_ops, .inr (3, [.int (vp1_ops_width), .ref ap1_ops_cells, .int (vp1_ops_size)])), (ap1_ops_cells, .inl (cy 0, 160, .inl (fp1_ops_cells)))]) (wr := [(a, .inr (1, [.ref a_cells, .ref a_aside, .int (v_asideSize)])), (a_cells, .inl (cy 0, 14, .inl (f_cells))), (a_aside, .inl (cy 0, 42, .inl (f_aside))), (ap1, .inr (6, [.ref ap1_routines, .ref ap1_ops, .ref ap1_landings, .ref ap1_calls, .ref ap1_registers, .ref ap1_words])), (ap1_routines, .inr (3, [.int (vp1_routines_width), .ref ap1_routines_cells, .int (vp1_routines_size)])), (ap1_routines_cells, .inl (cy 0, 24, .inl (fp1_routines_cells)))]) (run_V ⟨hx, hb, hml, hown, hts⟩ ((c_X3_at l D cy ap1_ops ap1_ops_cells (vp1_ops_width) (vp1_ops_size) 160 (fp1_ops_cells) (y5) ((3 : Int32)) r_68 hc_84) H.size) (cwV 2 hts gX1_goTo_X3_at rfl rfl rfl hd_X3_at ⟨Nat.le_of_ble_eq_true rfl, Nat.le_of_ble_eq_true rfl⟩) KK.calling (fun U _ hW => hK.warm hW) hK.1 hP hD [6, 7] [0, 1, 2, 3, 4, 5] [0, 1, 2, 3, 4, 5, 6, 7] rfl rfl 6 3 rfl rfl rfl rfl hl.1 rfl (lv_room (Nat.le_of_ble_eq_true rfl)) dX1_goTo_42) hP hD hS hA [6, 7] [0, 1, 2, 3, 4, 5] [0, 1, 2, 3, 4, 5, 6, 7] rfl rfl rfl rfl (fun H locs hP hD hS => ?_)
        refine lv_iload_n hx hb dX1_goTo_45 rfl (lv_at hl 2 rfl) ?_
        refine lv_icmp_eq (tgt := 52) hx hb dX1_goTo_46 (by decide) (fun c_69 => ?_) (fun c_69 => ?_)
        · have h := ift c_69 h
          refine lv_aload_n hx hb dX1_goTo_52 rfl (lv_at hl 1 rfl) ?_
          refine va_getN (D := D) (ci := 6) (v := .ref ap1_ops) (C := RX6) (T := TX6) (N := 6) hx hb hts hinX6 hown hK.1 hP 3 rfl rfl 1 (by decide) ((hK.2.1 _ (List.mem_of_getElem? (i := 8) rfl)).use rfl) (fun _ h9 => h9) rfl dX1_goTo_53 ?_
          refine lv_iload hx hb dX1_goTo_56 (lv_at hl 5 rfl) ?_
          refine lv_iconst (v := (0 : Int32)) hx hb dX1_goTo_58 (by decide) ?_
          obtain ⟨r_70, hc_83, h⟩ := bn1_s h
          refine call_i (ws1 := [(a, .inr (1, [.ref a_cells, .ref a_aside, .int (v_asideSize)])), (a_cells, .inl (cy 0, 14, .inl (f_cells))), (a_aside, .inl (cy 0, 42, .inl (f_aside))), (ap1, .inr (6, [.ref ap1_routines, .ref ap1_ops, .ref ap1_landings, .ref ap1_calls, .ref ap1_registers, .ref ap1_words])), (ap1_routines, .inr (3, [.int (vp1_routines_width), .ref ap1_routines_cells, .int (vp1_routines_size)])), (ap1_routines_cells, .inl (cy 0, 24, .inl (fp1_routines_cells))), (ap1_ops, .inr (3, [.int (vp1_ops_width), .ref ap1_ops_cells, .int (vp1_ops_size)])), (ap1_ops_cells, .inl (cy 0, 160, .inl (fp1_ops_cells)))]) (wr := [(a, .inr (1, [.ref a_cells, .ref a_aside, .int (v_asideSize)])), (a_cells, .inl (cy 0, 14, .inl (f_cells))), (a_aside, .inl (cy 0, 42, .inl (f_aside))), (ap1, .inr (6, [.ref ap1_routines, .ref ap1_ops, .ref ap1_landings, .ref ap1_calls, .ref ap1_registers, .ref ap1_words])), (ap1_routines, .inr (3, [.int (vp1_routines_width), .ref ap1_routines_cells, .int (vp1_routines_size)])), (ap1_routines_cells, .inl (cy 0, 24, .inl (fp1_routines_cells)))]) (run_V ⟨hx, hb, hml, hown, hts⟩ ((c_X3_at l D cy ap1_ops ap1_ops_cells (vp1_ops_width) (vp1_ops_size) 160 (fp1_ops_cells) (y5) ((0 : Int32)) r_70 hc_83) H.size) (cwV 2 hts gX1_goTo_X3_at rfl rfl rfl hd_X3_at ⟨Nat.le_of_ble_eq_true rfl, Nat.le_of_ble_eq_true rfl⟩) KK.calling (fun U _ hW => hK.warm hW) hK.1 hP hD [6, 7] [0, 1, 2, 3, 4, 5] [0, 1, 2, 3, 4, 5, 6, 7] rfl rfl 6 3 rfl rfl rfl rfl hl.1 rfl (lv_room (Nat.le_of_ble_eq_true rfl)) dX1_goTo_59) hP hD hS hA [6, 7] [0, 1, 2, 3, 4, 5] [0, 1, 2, 3, 4, 5, 6, 7] rfl rfl rfl rfl (fun H locs hP hD hS => ?_)
          refine lv_istore (lv' := [(6, .int (r_70)), (0, .ref a), (1, .ref ap1), (2, .int (y2)), (3, .int (y3)), (4, .int (y4)), (5, .int (y5))]) hx hb dX1_goTo_62 hl (by decide) rfl (fun ls hl => ?_)
          refine lv_iload hx hb dX1_goTo_64 (lv_at hl 0 rfl) ?_
          refine lv_if_ne (tgt := 91) hx hb dX1_goTo_66 (by decide) (fun c_71 => ?_) (fun c_71 => ?_)
          · have h := ifn c_71 h
            refine lv_aload_n hx hb dX1_goTo_91 rfl (lv_at hl 1 rfl) ?_
            refine lv_iload hx hb dX1_goTo_92 (lv_at hl 0 rfl) ?_
            refine lv_aload_n hx hb dX1_goTo_94 rfl (lv_at hl 2 rfl) ?_
            refine va_getN (D := D) (ci := 6) (v := .ref ap1_ops) (C := RX6) (T := TX6) (N := 6) hx hb hts hinX6 hown hK.1 hP 3 rfl rfl 1 (by decide) ((hK.2.1 _ (List.mem_of_getElem? (i := 8) rfl)).use rfl) (fun _ h9 => h9) rfl dX1_goTo_95 ?_
            refine lv_iload hx hb dX1_goTo_98 (lv_at hl 6 rfl) ?_
            refine lv_iconst (v := (1 : Int32)) hx hb dX1_goTo_100 (by decide) ?_
            obtain ⟨r_72, hc_79, h⟩ := bn1_s h
            refine call_i (ws1 := [(a, .inr (1, [.ref a_cells, .ref a_aside, .int (v_asideSize)])), (a_cells, .inl (cy 0, 14, .inl (f_cells))), (a_aside, .inl (cy 0, 42, .inl (f_aside))), (ap1, .inr (6, [.ref ap1_routines, .ref ap1_ops, .ref ap1_landings, .ref ap1_calls, .ref ap1_registers, .ref ap1_words])), (ap1_routines, .inr (3, [.int (vp1_routines_width), .ref ap1_routines_cells, .int (vp1_routines_size)])), (ap1_routines_cells, .inl (cy 0, 24, .inl (fp1_routines_cells))), (ap1_ops, .inr (3, [.int (vp1_ops_width), .ref ap1_ops_cells, .int (vp1_ops_size)])), (ap1_ops_cells, .inl (cy 0, 160, .inl (fp1_ops_cells)))]) (wr := [(a, .inr (1, [.ref a_cells, .ref a_aside, .int (v_asideSize)])), (a_cells, .inl (cy 0, 14, .inl (f_cells))), (a_aside, .inl (cy 0, 42, .inl (f_aside))), (ap1, .inr (6, [.ref ap1_routines, .ref ap1_ops, .ref ap1_landings, .ref ap1_calls, .ref ap1_registers, .ref ap1_words])), (ap1_routines, .inr (3, [.int (vp1_routines_width), .ref ap1_routines_cells, .int (vp1_routines_size)])), (ap1_routines_cells, .inl (cy 0, 24, .inl (fp1_routines_cells)))]) (run_V ⟨hx, hb, hml, hown, hts⟩ ((c_X3_at l D cy ap1_ops ap1_ops_cells (vp1_ops_width) (vp1_ops_size) 160 (fp1_ops_cells) (y5) ((1 : Int32)) r_72 hc_79) H.size) (cwV 2 hts gX1_goTo_X3_at rfl rfl rfl hd_X3_at ⟨Nat.le_of_ble_eq_true rfl, Nat.le_of_ble_eq_true rfl⟩) KK.calling (fun U _ hW => hK.warm hW) hK.1 hP hD [6, 7] [0, 1, 2, 3, 4, 5] [0, 1, 2, 3, 4, 5, 6, 7] rfl rfl 6 3 rfl rfl rfl rfl hl.1 rfl (lv_room (Nat.le_of_ble_eq_true rfl)) dX1_goTo_101) hP hD hS hA [6, 7] [0, 1, 2, 3, 4, 5] [0, 1, 2, 3, 4, 5, 6, 7] rfl rfl rfl rfl (fun H locs hP hD hS => ?_)
            refine lv_aload_n hx hb dX1_goTo_104 rfl (lv_at hl 2 rfl) ?_
            refine va_getN (D := D) (ci := 6) (v := .ref ap1_ops) (C := RX6) (T := TX6) (N := 6) hx hb hts hinX6 hown hK.1 hP 3 rfl rfl 1 (by decide) ((hK.2.1 _ (List.mem_of_getElem? (i := 8) rfl)).use rfl) (fun _ h9 => h9) rfl dX1_goTo_105 ?_
            refine lv_iload hx hb dX1_goTo_108 (lv_at hl 6 rfl) ?_
            refine lv_iconst (v := (2 : Int32)) hx hb dX1_goTo_110 (by decide) ?_
            obtain ⟨r_73, hc_78, h⟩ := bn1_s h
            refine call_i (ws1 := [(a, .inr (1, [.ref a_cells, .ref a_aside, .int (v_asideSize)])), (a_cells, .inl (cy 0, 14, .inl (f_cells))), (a_aside, .inl (cy 0, 42, .inl (f_aside))), (ap1, .inr (6, [.ref ap1_routines, .ref ap1_ops, .ref ap1_landings, .ref ap1_calls, .ref ap1_registers, .ref ap1_words])), (ap1_routines, .inr (3, [.int (vp1_routines_width), .ref ap1_routines_cells, .int (vp1_routines_size)])), (ap1_routines_cells, .inl (cy 0, 24, .inl (fp1_routines_cells))), (ap1_ops, .inr (3, [.int (vp1_ops_width), .ref ap1_ops_cells, .int (vp1_ops_size)])), (ap1_ops_cells, .inl (cy 0, 160, .inl (fp1_ops_cells)))]) (wr := [(a, .inr (1, [.ref a_cells, .ref a_aside, .int (v_asideSize)])), (a_cells, .inl (cy 0, 14, .inl (f_cells))), (a_aside, .inl (cy 0, 42, .inl (f_aside))), (ap1, .inr (6, [.ref ap1_routines, .ref ap1_ops, .ref ap1_landings, .ref ap1_calls, .ref ap1_registers, .ref ap1_words])), (ap1_routines, .inr (3, [.int (vp1_routines_width), .ref ap1_routines_cells, .int (vp1_routines_size)])), (ap1_routines_cells, .inl (cy 0, 24, .inl (fp1_routines_cells)))]) (run_V ⟨hx, hb, hml, hown, hts⟩ ((c_X3_at l D cy ap1_ops ap1_ops_cells (vp1_ops_width) (vp1_ops_size) 160 (fp1_ops_cells) (y5) ((2 : Int32)) r_73 hc_78) H.size) (cwV 2 hts gX1_goTo_X3_at rfl rfl rfl hd_X3_at ⟨Nat.le_of_ble_eq_true rfl, Nat.le_of_ble_eq_true rfl⟩) KK.calling (fun U _ hW => hK.warm hW) hK.1 hP hD [6, 7] [0, 1, 2, 3, 4, 5] [0, 1, 2, 3, 4, 5, 6, 7] rfl rfl 6 3 rfl rfl rfl rfl hl.1 rfl (lv_room (Nat.le_of_ble_eq_true rfl)) dX1_goTo_111) hP hD hS hA [6, 7] [0, 1, 2, 3, 4, 5] [0, 1, 2, 3, 4, 5, 6, 7] rfl rfl rfl rfl (fun H locs hP hD hS => ?_)
            obtain ⟨m_74, m_75, m_76, hc_77, h⟩ := bn3_s h
            refine call_v (ws1 := [(a, .inr (1, [.ref a_cells, .ref a_aside, .int (m_74)])), (a_cells, .inl (cy 0, 14, .inl (m_75))), (a_aside, .inl (cy 0, 42, .inl (m_76))), (ap1, .inr (6, [.ref ap1_routines, .ref ap1_ops, .ref ap1_landings, .ref ap1_calls, .ref ap1_registers, .ref ap1_words])), (ap1_routines, .inr (3, [.int (vp1_routines_width), .ref ap1_routines_cells, .int (vp1_routines_size)])), (ap1_routines_cells, .inl (cy 0, 24, .inl (fp1_routines_cells))), (ap1_ops, .inr (3, [.int (vp1_ops_width), .ref ap1_ops_cells, .int (vp1_ops_size)])), (ap1_ops_cells, .inl (cy 0, 160, .inl (fp1_ops_cells)))]) (wr := [(ap1, .inr (6, [.ref ap1_routines, .ref ap1_ops, .ref ap1_landings, .ref ap1_calls, .ref ap1_registers, .ref ap1_words])), (ap1_routines, .inr (3, [.int (vp1_routines_width), .ref ap1_routines_cells, .int (vp1_routines_size)])), (ap1_routines_cells, .inl (cy 0, 24, .inl (fp1_routines_cells))), (ap1_ops, .inr (3, [.int (vp1_ops_width), .ref ap1_ops_cells, .int (vp1_ops_size)])), (ap1_ops_cells, .inl (cy 0, 160, .inl (fp1_ops_cells)))]) (run_V ⟨hx, hb, hml, hown, hts⟩ ((c_X1_obey l D cy a a_cells a_aside (v_asideSize) (f_cells) (f_aside) (r_70) (r_72) (r_73) m_74 m_75 m_76 hc_77) H.size) (cwV 3 hts gX1_goTo_X1_obey rfl rfl rfl hd_X1_obey ⟨Nat.le_of_ble_eq_true rfl, Nat.le_of_ble_eq_true rfl⟩) KK.calling (fun U _ hW => hK.warm hW) hK.1 hP hD [0, 1, 2] [3, 4, 5, 6, 7] [5, 6, 7, 0, 1, 2, 3, 4] rfl rfl 0 1 rfl rfl rfl rfl hl.1 rfl (lv_room (Nat.le_of_ble_eq_true rfl)) dX1_goTo_114) hP hD hS hA [0, 1, 2] [3, 4, 5, 6, 7] [5, 6, 7, 0, 1, 2, 3, 4] rfl rfl rfl rfl (fun H locs hP hD hS => ?_)
            refine lv_iinc (v := y5 + (1 : Int32)) (lv' := [(5, .int (y5 + (1 : Int32))), (6, .int (r_70)), (0, .ref a), (1, .ref ap1), (2, .int (y2)), (3, .int (y3)), (4, .int (y4))]) hx hb dX1_goTo_117 hl (k := 6) rfl rfl (by decide) rfl (fun ls hl => ?_)
            refine lv_goto (tgt := 23) hx hb dX1_goTo_120 (by decide) ?_
            exact ih23 (y2) (y3) (y4) (y5 + (1 : Int32)) (m_74) (m_75) (m_76) H locs ls hP hD hS (lv_sub hl [2, 3, 4, 5, 6, 0] rfl) h
          · have h := ift c_71 h
            refine lv_iload hx hb dX1_goTo_69 (lv_at hl 5 rfl) ?_
            refine lv_aload_n hx hb dX1_goTo_71 rfl (lv_at hl 2 rfl) ?_
            refine va_getN (D := D) (ci := 6) (v := .ref ap1_ops) (C := RX6) (T := TX6) (N := 6) hx hb hts hinX6 hown hK.1 hP 3 rfl rfl 1 (by decide) ((hK.2.1 _ (List.mem_of_getElem? (i := 8) rfl)).use rfl) (fun _ h9 => h9) rfl dX1_goTo_72 ?_
            refine lv_iload hx hb dX1_goTo_75 (lv_at hl 6 rfl) ?_
            refine lv_iconst (v := (2 : Int32)) hx hb dX1_goTo_77 (by decide) ?_
            obtain ⟨r_80, hc_82, h⟩ := bn1_s h
            refine call_i (ws1 := [(a, .inr (1, [.ref a_cells, .ref a_aside, .int (v_asideSize)])), (a_cells, .inl (cy 0, 14, .inl (f_cells))), (a_aside, .inl (cy 0, 42, .inl (f_aside))), (ap1, .inr (6, [.ref ap1_routines, .ref ap1_ops, .ref ap1_landings, .ref ap1_calls, .ref ap1_registers, .ref ap1_words])), (ap1_routines, .inr (3, [.int (vp1_routines_width), .ref ap1_routines_cells, .int (vp1_routines_size)])), (ap1_routines_cells, .inl (cy 0, 24, .inl (fp1_routines_cells))), (ap1_ops, .inr (3, [.int (vp1_ops_width), .ref ap1_ops_cells, .int (vp1_ops_size)])), (ap1_ops_cells, .inl (cy 0, 160, .inl (fp1_ops_cells)))]) (wr := [(a, .inr (1, [.ref a_cells, .ref a_aside, .int (v_asideSize)])), (a_cells, .inl (cy 0, 14, .inl (f_cells))), (a_aside, .inl (cy 0, 42, .inl (f_aside))), (ap1, .inr (6, [.ref ap1_routines, .ref ap1_ops, .ref ap1_landings, .ref ap1_calls, .ref ap1_registers, .ref ap1_words])), (ap1_routines, .inr (3, [.int (vp1_routines_width), .ref ap1_routines_cells, .int (vp1_routines_size)])), (ap1_routines_cells, .inl (cy 0, 24, .inl (fp1_routines_cells)))]) (run_V ⟨hx, hb, hml, hown, hts⟩ ((c_X3_at l D cy ap1_ops ap1_ops_cells (vp1_ops_width) (vp1_ops_size) 160 (fp1_ops_cells) (y5) ((2 : Int32)) r_80 hc_82) H.size) (cwV 2 hts gX1_goTo_X3_at rfl rfl rfl hd_X3_at ⟨Nat.le_of_ble_eq_true rfl, Nat.le_of_ble_eq_true rfl⟩) KK.calling (fun U _ hW => hK.warm hW) hK.1 hP hD [6, 7] [0, 1, 2, 3, 4, 5] [0, 1, 2, 3, 4, 5, 6, 7] rfl rfl 6 3 rfl rfl rfl rfl hl.1 rfl (lv_room (Nat.le_of_ble_eq_true rfl)) dX1_goTo_78) hP hD hS hA [6, 7] [0, 1, 2, 3, 4, 5] [0, 1, 2, 3, 4, 5, 6, 7] rfl rfl rfl rfl (fun H locs hP hD hS => ?_)
            refine lv_iadd hx hb dX1_goTo_81 ?_
            refine lv_istore (lv' := [(4, .int (y4 + r_80)), (6, .int (r_70)), (0, .ref a), (1, .ref ap1), (2, .int (y2)), (3, .int (y3)), (5, .int (y5))]) hx hb dX1_goTo_82 hl (by decide) rfl (fun ls hl => ?_)
            refine lv_iload hx hb dX1_goTo_84 (lv_at hl 0 rfl) ?_
            refine lv_iload_n hx hb dX1_goTo_86 rfl (lv_at hl 5 rfl) ?_
            refine lv_icmp_le (tgt := 117) hx hb dX1_goTo_87 (by decide) (fun c_81 => ?_) (fun c_81 => ?_)
            · have h := ift c_81 h
              refine lv_iinc (v := y5 + (1 : Int32)) (lv' := [(5, .int (y5 + (1 : Int32))), (4, .int (y4 + r_80)), (6, .int (r_70)), (0, .ref a), (1, .ref ap1), (2, .int (y2)), (3, .int (y3))]) hx hb dX1_goTo_117 hl (k := 6) rfl rfl (by decide) rfl (fun ls hl => ?_)
              refine lv_goto (tgt := 23) hx hb dX1_goTo_120 (by decide) ?_
              exact ih23 (y2) (y3) (y4 + r_80) (y5 + (1 : Int32)) (v_asideSize) (f_cells) (f_aside) H locs ls hP hD hS (lv_sub hl [3, 4, 5, 6, 1, 0] rfl) h
            · have h := ifn c_81 h
              obtain ⟨e0, e1, e2⟩ := tp3_s h
              exact Mv.ret' hx hb hr hlocks (by rw [← e0, ← e1, ← e2]) hP hD hS dX1_goTo_90
        · have h := ifn c_69 h
          refine lv_goto (tgt := 117) hx hb dX1_goTo_49 (by decide) ?_
          refine lv_iinc (v := y5 + (1 : Int32)) (lv' := [(5, .int (y5 + (1 : Int32))), (0, .ref a), (1, .ref ap1), (2, .int (y2)), (3, .int (y3)), (4, .int (y4))]) hx hb dX1_goTo_117 hl (k := 5) rfl rfl (by decide) rfl (fun ls hl => ?_)
          refine lv_goto (tgt := 23) hx hb dX1_goTo_120 (by decide) ?_
          exact ih23 (y2) (y3) (y4) (y5 + (1 : Int32)) (v_asideSize) (f_cells) (f_aside) H locs ls hP hD hS (lv_sub hl [1, 2, 3, 4, 5, 0] rfl) h
  have main : ∀ (H : Heap) (locs : List Loc) (ls : Array Slot), va_P D vwCl [(a, .inr (1, [.ref a_cells, .ref a_aside, .int (v_asideSize)])), (a_cells, .inl (cy 0, 14, .inl (f_cells))), (a_aside, .inl (cy 0, 42, .inl (f_aside))), (ap1, .inr (6, [.ref ap1_routines, .ref ap1_ops, .ref ap1_landings, .ref ap1_calls, .ref ap1_registers, .ref ap1_words])), (ap1_routines, .inr (3, [.int (vp1_routines_width), .ref ap1_routines_cells, .int (vp1_routines_size)])), (ap1_routines_cells, .inl (cy 0, 24, .inl (fp1_routines_cells))), (ap1_ops, .inr (3, [.int (vp1_ops_width), .ref ap1_ops_cells, .int (vp1_ops_size)])), (ap1_ops_cells, .inl (cy 0, 160, .inl (fp1_ops_cells)))] H → va_D A [(a, .inr (1, [.ref a_cells, .ref a_aside, .int (v_asideSize)])), (a_cells, .inl (cy 0, 14, .inl (f_cells))), (a_aside, .inl (cy 0, 42, .inl (f_aside))), (ap1, .inr (6, [.ref ap1_routines, .ref ap1_ops, .ref ap1_landings, .ref ap1_calls, .ref ap1_registers, .ref ap1_words])), (ap1_routines, .inr (3, [.int (vp1_routines_width), .ref ap1_routines_cells, .int (vp1_routines_size)])), (ap1_routines_cells, .inl (cy 0, 24, .inl (fp1_routines_cells))), (ap1_ops, .inr (3, [.int (vp1_ops_width), .ref ap1_ops_cells, .int (vp1_ops_size)])), (ap1_ops_cells, .inl (cy 0, 160, .inl (fp1_ops_cells)))] → va_S A s.heap H locs → lv_has ls 7 [(0, .ref a), (1, .ref ap1), (2, .int (x2)), (3, .int (x3))] → f_X1_goTo x2 x3 v_asideSize f_cells f_aside vp1_routines_width vp1_routines_size fp1_routines_cells vp1_ops_width vp1_ops_size fp1_ops_cells = some (z_v_asideSize, z_f_cells, z_f_aside) → W p l e ({ frames := 5, cells := 0, slots := 0, locals := 106 } : Room) s m [.ref a, .ref ap1, .int (x2), .int (x3)].toArray below meth c H locs 0 0 (MQ below (Qv D A [(a, .inr (1, [.ref a_cells, .ref a_aside, .int (z_v_asideSize)])), (a_cells, .inl (cy 0, 14, .inl (z_f_cells))), (a_aside, .inl (cy 0, 42, .inl (z_f_aside))), (ap1, .inr (6, [.ref ap1_routines, .ref ap1_ops, .ref ap1_landings, .ref ap1_calls, .ref ap1_registers, .ref ap1_words])), (ap1_routines, .inr (3, [.int (vp1_routines_width), .ref ap1_routines_cells, .int (vp1_routines_size)])), (ap1_routines_cells, .inl (cy 0, 24, .inl (fp1_routines_cells))), (ap1_ops, .inr (3, [.int (vp1_ops_width), .ref ap1_ops_cells, .int (vp1_ops_size)])), (ap1_ops_cells, .inl (cy 0, 160, .inl (fp1_ops_cells)))]) [.ref a, .ref ap1, .int (x2), .int (x3)].toArray s 0 0 A) (F0 m 0 ls []) := by
    intro H locs ls hP hD hS hl h
    unfold f_X1_goTo at h
    refine lv_aload_n hx hb dX1_goTo_0 rfl (lv_at hl 0 rfl) ?_
    refine lv_iconst (v := (0 : Int32)) hx hb dX1_goTo_1 (by decide) ?_
    refine va_put (D := D) (ci := 1) (v := .int ((0 : Int32))) (ty := .int) (C := RX1) (T := TX1) (N := 3) hx hb hts hinX1 tyX1 tyX1_ok nmX1 hown hK.1 hP hD hS 0 rfl rfl 2 (by decide) (hts (.fieldLink RX1 18 "FrameWalks$Row" "asideSize" "I") (List.mem_of_getElem? (i := 1) rfl)) (fun _ h9 => h9) rfl (by decide +kernel) rfl rfl (Nat.le_of_ble_eq_true rfl) dX1_goTo_2 (fun H locs hP hD hS => ?_)
    have hP : va_P D vwCl [(a, .inr (1, [.ref a_cells, .ref a_aside, .int ((0 : Int32))])), (a_cells, .inl (cy 0, 14, .inl (f_cells))), (a_aside, .inl (cy 0, 42, .inl (f_aside))), (ap1, .inr (6, [.ref ap1_routines, .ref ap1_ops, .ref ap1_landings, .ref ap1_calls, .ref ap1_registers, .ref ap1_words])), (ap1_routines, .inr (3, [.int (vp1_routines_width), .ref ap1_routines_cells, .int (vp1_routines_size)])), (ap1_routines_cells, .inl (cy 0, 24, .inl (fp1_routines_cells))), (ap1_ops, .inr (3, [.int (vp1_ops_width), .ref ap1_ops_cells, .int (vp1_ops_size)])), (ap1_ops_cells, .inl (cy 0, 160, .inl (fp1_ops_cells)))] H := hP
    have hD : va_D A [(a, .inr (1, [.ref a_cells, .ref a_aside, .int ((0 : Int32))])), (a_cells, .inl (cy 0, 14, .inl (f_cells))), (a_aside, .inl (cy 0, 42, .inl (f_aside))), (ap1, .inr (6, [.ref ap1_routines, .ref ap1_ops, .ref ap1_landings, .ref ap1_calls, .ref ap1_registers, .ref ap1_words])), (ap1_routines, .inr (3, [.int (vp1_routines_width), .ref ap1_routines_cells, .int (vp1_routines_size)])), (ap1_routines_cells, .inl (cy 0, 24, .inl (fp1_routines_cells))), (ap1_ops, .inr (3, [.int (vp1_ops_width), .ref ap1_ops_cells, .int (vp1_ops_size)])), (ap1_ops_cells, .inl (cy 0, 160, .inl (fp1_ops_cells)))] := hD
    refine lv_aload_n hx hb dX1_goTo_5 rfl (lv_at hl 0 rfl) ?_
    obtain ⟨m_85, hc_88, h⟩ := bn1_s h
    refine call_v (ws1 := [(a, .inr (1, [.ref a_cells, .ref a_aside, .int ((0 : Int32))])), (a_cells, .inl (cy 0, 14, .inl (m_85))), (a_aside, .inl (cy 0, 42, .inl (f_aside))), (ap1, .inr (6, [.ref ap1_routines, .ref ap1_ops, .ref ap1_landings, .ref ap1_calls, .ref ap1_registers, .ref ap1_words])), (ap1_routines, .inr (3, [.int (vp1_routines_width), .ref ap1_routines_cells, .int (vp1_routines_size)])), (ap1_routines_cells, .inl (cy 0, 24, .inl (fp1_routines_cells))), (ap1_ops, .inr (3, [.int (vp1_ops_width), .ref ap1_ops_cells, .int (vp1_ops_size)])), (ap1_ops_cells, .inl (cy 0, 160, .inl (fp1_ops_cells)))]) (wr := [(a_aside, .inl (cy 0, 42, .inl (f_aside))), (ap1, .inr (6, [.ref ap1_routines, .ref ap1_ops, .ref ap1_landings, .ref ap1_calls, .ref ap1_registers, .ref ap1_words])), (ap1_routines, .inr (3, [.int (vp1_routines_width), .ref ap1_routines_cells, .int (vp1_routines_size)])), (ap1_routines_cells, .inl (cy 0, 24, .inl (fp1_routines_cells))), (ap1_ops, .inr (3, [.int (vp1_ops_width), .ref ap1_ops_cells, .int (vp1_ops_size)])), (ap1_ops_cells, .inl (cy 0, 160, .inl (fp1_ops_cells)))]) (run_V ⟨hx, hb, hml, hown, hts⟩ ((c_X1_becomeFirst l D cy a a_cells a_aside ((0 : Int32)) (f_cells) m_85 hc_88) H.size) (cwV 0 hts gX1_goTo_X1_becomeFirst rfl rfl rfl hd_X1_becomeFirst ⟨Nat.le_of_ble_eq_true rfl, Nat.le_of_ble_eq_true rfl⟩) KK.calling (fun U _ hW => hK.warm hW) hK.1 hP hD [0, 1] [2, 3, 4, 5, 6, 7] [6, 7, 0, 1, 2, 3, 4, 5] rfl rfl 0 1 rfl rfl rfl rfl hl.1 rfl (lv_room (Nat.le_of_ble_eq_true rfl)) dX1_goTo_6) hP hD hS hA [0, 1] [2, 3, 4, 5, 6, 7] [6, 7, 0, 1, 2, 3, 4, 5] rfl rfl rfl rfl (fun H locs hP hD hS => ?_)
    refine lv_aload_n hx hb dX1_goTo_9 rfl (lv_at hl 1 rfl) ?_
    refine va_getN (D := D) (ci := 6) (v := .ref ap1_routines) (C := RX6) (T := TX6) (N := 6) hx hb hts hinX6 hown hK.1 hP 3 rfl rfl 0 (by decide) ((hK.2.1 _ (List.mem_of_getElem? (i := 4) rfl)).use rfl) (fun _ h9 => h9) rfl dX1_goTo_10 ?_
    refine lv_iload_n hx hb dX1_goTo_13 rfl (lv_at hl 2 rfl) ?_
    refine lv_iconst (v := (0 : Int32)) hx hb dX1_goTo_14 (by decide) ?_
    obtain ⟨r_86, hc_87, h⟩ := bn1_s h
    refine call_i (ws1 := [(a, .inr (1, [.ref a_cells, .ref a_aside, .int ((0 : Int32))])), (a_cells, .inl (cy 0, 14, .inl (m_85))), (a_aside, .inl (cy 0, 42, .inl (f_aside))), (ap1, .inr (6, [.ref ap1_routines, .ref ap1_ops, .ref ap1_landings, .ref ap1_calls, .ref ap1_registers, .ref ap1_words])), (ap1_routines, .inr (3, [.int (vp1_routines_width), .ref ap1_routines_cells, .int (vp1_routines_size)])), (ap1_routines_cells, .inl (cy 0, 24, .inl (fp1_routines_cells))), (ap1_ops, .inr (3, [.int (vp1_ops_width), .ref ap1_ops_cells, .int (vp1_ops_size)])), (ap1_ops_cells, .inl (cy 0, 160, .inl (fp1_ops_cells)))]) (wr := [(a, .inr (1, [.ref a_cells, .ref a_aside, .int ((0 : Int32))])), (a_cells, .inl (cy 0, 14, .inl (m_85))), (a_aside, .inl (cy 0, 42, .inl (f_aside))), (ap1, .inr (6, [.ref ap1_routines, .ref ap1_ops, .ref ap1_landings, .ref ap1_calls, .ref ap1_registers, .ref ap1_words])), (ap1_ops, .inr (3, [.int (vp1_ops_width), .ref ap1_ops_cells, .int (vp1_ops_size)])), (ap1_ops_cells, .inl (cy 0, 160, .inl (fp1_ops_cells)))]) (run_V ⟨hx, hb, hml, hown, hts⟩ ((c_X3_at l D cy ap1_routines ap1_routines_cells (vp1_routines_width) (vp1_routines_size) 24 (fp1_routines_cells) (x2) ((0 : Int32)) r_86 hc_87) H.size) (cwV 2 hts gX1_goTo_X3_at rfl rfl rfl hd_X3_at ⟨Nat.le_of_ble_eq_true rfl, Nat.le_of_ble_eq_true rfl⟩) KK.calling (fun U _ hW => hK.warm hW) hK.1 hP hD [4, 5] [0, 1, 2, 3, 6, 7] [0, 1, 2, 3, 6, 7, 4, 5] rfl rfl 4 3 rfl rfl rfl rfl hl.1 rfl (lv_room (Nat.le_of_ble_eq_true rfl)) dX1_goTo_15) hP hD hS hA [4, 5] [0, 1, 2, 3, 6, 7] [0, 1, 2, 3, 6, 7, 4, 5] rfl rfl rfl rfl (fun H locs hP hD hS => ?_)
    refine lv_istore (lv' := [(4, .int (r_86)), (0, .ref a), (1, .ref ap1), (2, .int (x2)), (3, .int (x3))]) hx hb dX1_goTo_18 hl (by decide) rfl (fun ls hl => ?_)
    refine lv_iconst (v := (0 : Int32)) hx hb dX1_goTo_20 (by decide) ?_
    refine lv_istore (lv' := [(5, .int ((0 : Int32))), (4, .int (r_86)), (0, .ref a), (1, .ref ap1), (2, .int (x2)), (3, .int (x3))]) hx hb dX1_goTo_21 hl (by decide) rfl (fun ls hl => ?_)
    exact hL23 FUEL (x2) (x3) (r_86) ((0 : Int32)) ((0 : Int32)) (m_85) (f_aside) H locs ls hP hD hS (lv_sub hl [2, 3, 4, 5, 1, 0] rfl) h
  exact main s.heap [] ls hP hD va_S.rf hl h
theorem hd_X2_becomeNew : yX2_becomeNew.cls = RX2 ∧ yX2_becomeNew.cls ≠ "java/lang/invoke/MethodHandle" ∧ yX2_becomeNew.cls ≠ "java/lang/invoke/VarHandle" ∧ (parseMethodDescriptor yX2_becomeNew.desc).map (fun d => d.parameters.length) = some 2 := by decide +kernel
def f_X2_becomeNew (x1 : Int32) (x2 : Int32) (v_isThere : Int32) (v_lane : Int32) (v_size : Int32) (f_cells : Nat → Int32) : Option (Int32 × Int32 × Int32 × (Nat → Int32)) := (bn1 (f_J7_fill_53178 ((0 : Int32)) 40 (f_cells)) (fun m_7 => (some ((1 : Int32), x1, x2, m_7))))
set_option maxHeartbeats 4000000 in
set_option maxRecDepth 100000 in
theorem c_X2_becomeNew (l : Launch) (D : va_G) (cy : Nat → ClassId) (a a_cells : Nat) (v_isThere : Int32) (v_lane : Int32) (v_size : Int32) (f_cells : Nat → Int32) (x1 : Int32) (x2 : Int32) (z_v_isThere : Int32) (z_v_lane : Int32) (z_v_size : Int32) (z_f_cells : Nat → Int32) (h : f_X2_becomeNew x1 x2 v_isThere v_lane v_size f_cells = some (z_v_isThere, z_v_lane, z_v_size, z_f_cells)) : Mv l yX2_becomeNew wsX2_becomeNew ({ frames := 1, cells := 0, slots := 0, locals := 23 } : Room) (KK D cy) D [.ref a, .int (x1), .int (x2)] [(a, .inr (2, [.ref a_cells, .int (v_isThere), .int (v_lane), .int (v_size)])), (a_cells, .inl (cy 0, 40, .inl (f_cells)))] [(a, .inr (2, [.ref a_cells, .int (z_v_isThere), .int (z_v_lane), .int (z_v_size)])), (a_cells, .inl (cy 0, 40, .inl (z_f_cells)))] := by
  intro sz
  refine Met.mk0 (cc := cX2_becomeNew) (maxL := 3) (ret := none) (Qc := fun A => Qv D A [(a, .inr (2, [.ref a_cells, .int (z_v_isThere), .int (z_v_lane), .int (z_v_size)])), (a_cells, .inl (cy 0, 40, .inl (z_f_cells)))]) (by decide) rfl (Nat.le_of_ble_eq_true rfl) ?_
  intro p e s m below meth c A ls hx hb hml hown hts hr hlocks hK hP hD hA hl
  have hown : s.vm.findClass RX2 = some m.cls := hown
  have hl : lv_has ls 3 [(0, .ref a), (1, .int (x1)), (2, .int (x2))] := hl
  have hinX2 : ∀ w ∈ u_ws RX2 TX2 4, w ∈ wsX2_becomeNew := (fun w h => List.mem_cons_of_mem _ (List.mem_append_right _ h))
  have main : ∀ (H : Heap) (locs : List Loc) (ls : Array Slot), va_P D vwCl [(a, .inr (2, [.ref a_cells, .int (v_isThere), .int (v_lane), .int (v_size)])), (a_cells, .inl (cy 0, 40, .inl (f_cells)))] H → va_D A [(a, .inr (2, [.ref a_cells, .int (v_isThere), .int (v_lane), .int (v_size)])), (a_cells, .inl (cy 0, 40, .inl (f_cells)))] → va_S A s.heap H locs → lv_has ls 3 [(0, .ref a), (1, .int (x1)), (2, .int (x2))] → f_X2_becomeNew x1 x2 v_isThere v_lane v_size f_cells = some (z_v_isThere, z_v_lane, z_v_size, z_f_cells) → W p l e ({ frames := 1, cells := 0, slots := 0, locals := 23 } : Room) s m [.ref a, .int (x1), .int (x2)].toArray below meth c H locs 0 0 (MQ below (Qv D A [(a, .inr (2, [.ref a_cells, .int (z_v_isThere), .int (z_v_lane), .int (z_v_size)])), (a_cells, .inl (cy 0, 40, .inl (z_f_cells)))]) [.ref a, .int (x1), .int (x2)].toArray s 0 0 A) (F0 m 0 ls []) := by
    intro H locs ls hP hD hS hl h
    unfold f_X2_becomeNew at h
    refine lv_aload_n hx hb dX2_becomeNew_0 rfl (lv_at hl 0 rfl) ?_
    refine va_get (D := D) (ci := 2) (v := .ref a_cells) (C := RX2) (T := TX2) (N := 4) hx hb hts hinX2 hown hK.1 hP 0 rfl rfl 0 (by decide) (hts (.fieldLink RX2 9 "FrameWalks$Sheet" "cells" "[I") (List.mem_of_getElem? (i := 1) rfl)) (fun _ h9 => h9) rfl dX2_becomeNew_1 ?_
    refine lv_iconst (v := (0 : Int32)) hx hb dX2_becomeNew_4 (by decide) ?_
    obtain ⟨m_7, hc_8, h⟩ := bn1_s h
    refine call_v (ws1 := [(a, .inr (2, [.ref a_cells, .int (v_isThere), .int (v_lane), .int (v_size)])), (a_cells, .inl (cy 0, 40, .inl (m_7)))]) (wr := [(a, .inr (2, [.ref a_cells, .int (v_isThere), .int (v_lane), .int (v_size)]))]) (run_S ⟨hx, hb, hml, hown, hts⟩ ((c_J7_fill_53178 l D cy a_cells 40 (f_cells) ((0 : Int32)) m_7 hc_8) H.size) (cwS2 2 hts gX2_becomeNew_J7_fill_53178 rfl rfl rfl hd_J7_fill_53178.2 ⟨Nat.le_of_ble_eq_true rfl, Nat.le_of_ble_eq_true rfl⟩) KK.calling (fun U _ hW => hK.warm hW) hP hD [1] [0] [0, 1] rfl rfl rfl hl.1 rfl (lv_room (Nat.le_of_ble_eq_true rfl)) dX2_becomeNew_5) hP hD hS hA [1] [0] [0, 1] rfl rfl rfl rfl (fun H locs hP hD hS => ?_)
    refine lv_aload_n hx hb dX2_becomeNew_8 rfl (lv_at hl 0 rfl) ?_
    refine lv_iconst (v := (1 : Int32)) hx hb dX2_becomeNew_9 (by decide) ?_
    refine va_put (D := D) (ci := 2) (v := .int ((1 : Int32))) (ty := .boolean) (C := RX2) (T := TX2) (N := 4) hx hb hts hinX2 tyX2 tyX2_ok nmX2 hown hK.1 hP hD hS 0 rfl rfl 1 (by decide) (hts (.fieldLink RX2 15 "FrameWalks$Sheet" "isThere" "Z") (List.mem_of_getElem? (i := 2) rfl)) (fun _ h9 => h9) rfl (by decide +kernel) (is01_n (Or.inr rfl)) (is01_f (Or.inr rfl)) (Nat.le_of_ble_eq_true rfl) dX2_becomeNew_10 (fun H locs hP hD hS => ?_)
    have hP : va_P D vwCl [(a, .inr (2, [.ref a_cells, .int ((1 : Int32)), .int (v_lane), .int (v_size)])), (a_cells, .inl (cy 0, 40, .inl (m_7)))] H := hP
    have hD : va_D A [(a, .inr (2, [.ref a_cells, .int ((1 : Int32)), .int (v_lane), .int (v_size)])), (a_cells, .inl (cy 0, 40, .inl (m_7)))] := hD
    refine lv_aload_n hx hb dX2_becomeNew_13 rfl (lv_at hl 0 rfl) ?_
    refine lv_iload_n hx hb dX2_becomeNew_14 rfl (lv_at hl 1 rfl) ?_
    refine va_put (D := D) (ci := 2) (v := .int (x1)) (ty := .int) (C := RX2) (T := TX2) (N := 4) hx hb hts hinX2 tyX2 tyX2_ok nmX2 hown hK.1 hP hD hS 0 rfl rfl 2 (by decide) (hts (.fieldLink RX2 19 "FrameWalks$Sheet" "lane" "I") (List.mem_of_getElem? (i := 3) rfl)) (fun _ h9 => h9) rfl (by decide +kernel) rfl rfl (Nat.le_of_ble_eq_true rfl) dX2_becomeNew_15 (fun H locs hP hD hS => ?_)
    have hP : va_P D vwCl [(a, .inr (2, [.ref a_cells, .int ((1 : Int32)), .int (x1), .int (v_size)])), (a_cells, .inl (cy 0, 40, .inl (m_7)))] H := hP
    have hD : va_D A [(a, .inr (2, [.ref a_cells, .int ((1 : Int32)), .int (x1), .int (v_size)])), (a_cells, .inl (cy 0, 40, .inl (m_7)))] := hD
    refine lv_aload_n hx hb dX2_becomeNew_18 rfl (lv_at hl 0 rfl) ?_
    refine lv_iload_n hx hb dX2_becomeNew_19 rfl (lv_at hl 2 rfl) ?_
    refine va_put (D := D) (ci := 2) (v := .int (x2)) (ty := .int) (C := RX2) (T := TX2) (N := 4) hx hb hts hinX2 tyX2 tyX2_ok nmX2 hown hK.1 hP hD hS 0 rfl rfl 3 (by decide) (hts (.fieldLink RX2 23 "FrameWalks$Sheet" "size" "I") (List.mem_of_getElem? (i := 4) rfl)) (fun _ h9 => h9) rfl (by decide +kernel) rfl rfl (Nat.le_of_ble_eq_true rfl) dX2_becomeNew_20 (fun H locs hP hD hS => ?_)
    have hP : va_P D vwCl [(a, .inr (2, [.ref a_cells, .int ((1 : Int32)), .int (x1), .int (x2)])), (a_cells, .inl (cy 0, 40, .inl (m_7)))] H := hP
    have hD : va_D A [(a, .inr (2, [.ref a_cells, .int ((1 : Int32)), .int (x1), .int (x2)])), (a_cells, .inl (cy 0, 40, .inl (m_7)))] := hD
    obtain ⟨e0, e1, e2, e3⟩ := tp4_s h
    exact Mv.ret' hx hb hr hlocks (by rw [← e0, ← e1, ← e2, ← e3]) hP hD hS dX2_becomeNew_23
  exact main s.heap [] ls hP hD va_S.rf hl h
theorem hd_X2_refusal : yX2_refusal.cls = RX2 ∧ yX2_refusal.cls ≠ "java/lang/invoke/MethodHandle" ∧ yX2_refusal.cls ≠ "java/lang/invoke/VarHandle" ∧ (parseMethodDescriptor yX2_refusal.desc).map (fun d => d.parameters.length) = some 2 := by decide +kernel
def f_X2_refusal (x1 : Int32) (x2 : Int32) (v_isThere : Int32) (v_lane : Int32) (v_size : Int32) : Option (Int32) := (if v_isThere = 0 then (some ((1 : Int32))) else (if x1 = v_lane then (if x2 < 0 then (some ((2 : Int32))) else (if x2 < v_size then (some ((0 : Int32))) else (some ((2 : Int32))))) else (some ((3 : Int32)))))
set_option maxHeartbeats 4000000 in
set_option maxRecDepth 100000 in
theorem c_X2_refusal (l : Launch) (D : va_G) (cy : Nat → ClassId) (a a_cells : Nat) (v_isThere : Int32) (v_lane : Int32) (v_size : Int32) (x1 : Int32) (x2 : Int32) (res : Int32) (h : f_X2_refusal x1 x2 v_isThere v_lane v_size = some res) : Mi l yX2_refusal wsX2_refusal ({ frames := 0, cells := 0, slots := 0, locals := 0 } : Room) (KK D cy) D [.ref a, .int (x1), .int (x2)] [(a, .inr (2, [.ref a_cells, .int (v_isThere), .int (v_lane), .int (v_size)]))] [(a, .inr (2, [.ref a_cells, .int (v_isThere), .int (v_lane), .int (v_size)]))] res := by
  intro sz
  refine Met.mk0 (cc := cX2_refusal) (maxL := 3) (ret := (some .int)) (Qc := fun A => Qi D A [(a, .inr (2, [.ref a_cells, .int (v_isThere), .int (v_lane), .int (v_size)]))] res) (by decide) rfl (Nat.le_of_ble_eq_true rfl) ?_
  intro p e s m below meth c A ls hx hb hml hown hts hr hlocks hK hP hD hA hl
  have hown : s.vm.findClass RX2 = some m.cls := hown
  have hl : lv_has ls 3 [(0, .ref a), (1, .int (x1)), (2, .int (x2))] := hl
  have hinX2 : ∀ w ∈ u_ws RX2 TX2 4, w ∈ wsX2_refusal := (fun w h => List.mem_cons_of_mem _ (List.mem_append_right _ h))
  have main : ∀ (H : Heap) (locs : List Loc) (ls : Array Slot), va_P D vwCl [(a, .inr (2, [.ref a_cells, .int (v_isThere), .int (v_lane), .int (v_size)]))] H → va_D A [(a, .inr (2, [.ref a_cells, .int (v_isThere), .int (v_lane), .int (v_size)]))] → va_S A s.heap H locs → lv_has ls 3 [(0, .ref a), (1, .int (x1)), (2, .int (x2))] → f_X2_refusal x1 x2 v_isThere v_lane v_size = some res → W p l e ({ frames := 0, cells := 0, slots := 0, locals := 0 } : Room) s m [.ref a, .int (x1), .int (x2)].toArray below meth c H locs 0 0 (MQ below (Qi D A [(a, .inr (2, [.ref a_cells, .int (v_isThere), .int (v_lane), .int (v_size)]))] res) [.ref a, .int (x1), .int (x2)].toArray s 0 0 A) (F0 m 0 ls []) := by
    intro H locs ls hP hD hS hl h
    unfold f_X2_refusal at h
    refine lv_aload_n hx hb dX2_refusal_0 rfl (lv_at hl 0 rfl) ?_
    refine va_get (D := D) (ci := 2) (v := .int (v_isThere)) (C := RX2) (T := TX2) (N := 4) hx hb hts hinX2 hown hK.1 hP 0 rfl rfl 1 (by decide) (hts (.fieldLink RX2 15 "FrameWalks$Sheet" "isThere" "Z") (List.mem_of_getElem? (i := 1) rfl)) (fun _ h9 => h9) rfl dX2_refusal_1 ?_
    refine lv_if_ne (tgt := 9) hx hb dX2_refusal_4 (by decide) (fun c_13 => ?_) (fun c_13 => ?_)
    · have h := ifn c_13 h
      refine lv_iload_n hx hb dX2_refusal_9 rfl (lv_at hl 1 rfl) ?_
      refine lv_aload_n hx hb dX2_refusal_10 rfl (lv_at hl 0 rfl) ?_
      refine va_get (D := D) (ci := 2) (v := .int (v_lane)) (C := RX2) (T := TX2) (N := 4) hx hb hts hinX2 hown hK.1 hP 0 rfl rfl 2 (by decide) (hts (.fieldLink RX2 19 "FrameWalks$Sheet" "lane" "I") (List.mem_of_getElem? (i := 2) rfl)) (fun _ h9 => h9) rfl dX2_refusal_11 ?_
      refine lv_icmp_eq (tgt := 19) hx hb dX2_refusal_14 (by decide) (fun c_14 => ?_) (fun c_14 => ?_)
      · have h := ift c_14 h
        refine lv_iload_n hx hb dX2_refusal_19 rfl (lv_at hl 2 rfl) ?_
        refine lv_if_lt (tgt := 31) hx hb dX2_refusal_20 (by decide) (fun c_15 => ?_) (fun c_15 => ?_)
        · have h := ift c_15 h
          refine lv_iconst (v := (2 : Int32)) hx hb dX2_refusal_31 (by decide) ?_
          refine lv_goto (tgt := 36) hx hb dX2_refusal_32 (by decide) ?_
          have e0 := Option.some.inj h
          exact Mi.ret' hx hb hr hlocks e0 rfl hP hD hS dX2_refusal_36
        · have h := ifn c_15 h
          refine lv_iload_n hx hb dX2_refusal_23 rfl (lv_at hl 2 rfl) ?_
          refine lv_aload_n hx hb dX2_refusal_24 rfl (lv_at hl 0 rfl) ?_
          refine va_get (D := D) (ci := 2) (v := .int (v_size)) (C := RX2) (T := TX2) (N := 4) hx hb hts hinX2 hown hK.1 hP 0 rfl rfl 3 (by decide) (hts (.fieldLink RX2 23 "FrameWalks$Sheet" "size" "I") (List.mem_of_getElem? (i := 3) rfl)) (fun _ h9 => h9) rfl dX2_refusal_25 ?_
          refine lv_icmp_lt (tgt := 35) hx hb dX2_refusal_28 (by decide) (fun c_16 => ?_) (fun c_16 => ?_)
          · have h := ift c_16 h
            refine lv_iconst (v := (0 : Int32)) hx hb dX2_refusal_35 (by decide) ?_
            have e0 := Option.some.inj h
            exact Mi.ret' hx hb hr hlocks e0 rfl hP hD hS dX2_refusal_36
          · have h := ifn c_16 h
            refine lv_iconst (v := (2 : Int32)) hx hb dX2_refusal_31 (by decide) ?_
            refine lv_goto (tgt := 36) hx hb dX2_refusal_32 (by decide) ?_
            have e0 := Option.some.inj h
            exact Mi.ret' hx hb hr hlocks e0 rfl hP hD hS dX2_refusal_36
      · have h := ifn c_14 h
        refine lv_iconst (v := (3 : Int32)) hx hb dX2_refusal_17 (by decide) ?_
        have e0 := Option.some.inj h
        exact Mi.ret' hx hb hr hlocks e0 rfl hP hD hS dX2_refusal_18
    · have h := ift c_13 h
      refine lv_iconst (v := (1 : Int32)) hx hb dX2_refusal_7 (by decide) ?_
      have e0 := Option.some.inj h
      exact Mi.ret' hx hb hr hlocks e0 rfl hP hD hS dX2_refusal_8
  exact main s.heap [] ls hP hD va_S.rf hl h
theorem hd_X2_become : yX2_become.cls = RX2 ∧ yX2_become.cls ≠ "java/lang/invoke/MethodHandle" ∧ yX2_become.cls ≠ "java/lang/invoke/VarHandle" ∧ (parseMethodDescriptor yX2_become.desc).map (fun d => d.parameters.length) = some 2 := by decide +kernel
def f_X2_become (x1 : Int32) (x2 : Int32) (v_lane : Int32) (v_size : Int32) (f_cells : Nat → Int32) : Option ((Nat → Int32)) := (if x1 < 0 then (some f_cells) else (if x1 < v_size then (if v_lane = 0 then (cki (x1) 40 (some (upd f_cells (x1).toNatClampNeg ((x2).toInt8.toInt32)))) else (if v_lane = (1 : Int32) then (cki (x1) 40 (some (upd f_cells (x1).toNatClampNeg ((x2).toInt16.toInt32)))) else (cki (x1) 40 (some (upd f_cells (x1).toNatClampNeg (x2)))))) else (some f_cells)))
set_option maxHeartbeats 4000000 in
set_option maxRecDepth 100000 in
theorem c_X2_become (l : Launch) (D : va_G) (cy : Nat → ClassId) (a a_cells : Nat) (v_isThere : Int32) (v_lane : Int32) (v_size : Int32) (f_cells : Nat → Int32) (x1 : Int32) (x2 : Int32) (z_f_cells : Nat → Int32) (h : f_X2_become x1 x2 v_lane v_size f_cells = some z_f_cells) : Mv l yX2_become wsX2_become ({ frames := 0, cells := 0, slots := 0, locals := 0 } : Room) (KK D cy) D [.ref a, .int (x1), .int (x2)] [(a, .inr (2, [.ref a_cells, .int (v_isThere), .int (v_lane), .int (v_size)])), (a_cells, .inl (cy 0, 40, .inl (f_cells)))] [(a, .inr (2, [.ref a_cells, .int (v_isThere), .int (v_lane), .int (v_size)])), (a_cells, .inl (cy 0, 40, .inl (z_f_cells)))] := by
  intro sz
  refine Met.mk0 (cc := cX2_become) (maxL := 3) (ret := none) (Qc := fun A => Qv D A [(a, .inr (2, [.ref a_cells, .int (v_isThere), .int (v_lane), .int (v_size)])), (a_cells, .inl (cy 0, 40, .inl (z_f_cells)))]) (by decide) rfl (Nat.le_of_ble_eq_true rfl) ?_
  intro p e s m below meth c A ls hx hb hml hown hts hr hlocks hK hP hD hA hl
  have hown : s.vm.findClass RX2 = some m.cls := hown
  have hl : lv_has ls 3 [(0, .ref a), (1, .int (x1)), (2, .int (x2))] := hl
  have hinX2 : ∀ w ∈ u_ws RX2 TX2 4, w ∈ wsX2_become := (fun w h => List.mem_cons_of_mem _ (List.mem_append_right _ h))
  have main : ∀ (H : Heap) (locs : List Loc) (ls : Array Slot), va_P D vwCl [(a, .inr (2, [.ref a_cells, .int (v_isThere), .int (v_lane), .int (v_size)])), (a_cells, .inl (cy 0, 40, .inl (f_cells)))] H → va_D A [(a, .inr (2, [.ref a_cells, .int (v_isThere), .int (v_lane), .int (v_size)])), (a_cells, .inl (cy 0, 40, .inl (f_cells)))] → va_S A s.heap H locs → lv_has ls 3 [(0, .ref a), (1, .int (x1)), (2, .int (x2))] → f_X2_become x1 x2 v_lane v_size f_cells = some z_f_cells → W p l e ({ frames := 0, cells := 0, slots := 0, locals := 0 } : Room) s m [.ref a, .int (x1), .int (x2)].toArray below meth c H locs 0 0 (MQ below (Qv D A [(a, .inr (2, [.ref a_cells, .int (v_isThere), .int (v_lane), .int (v_size)])), (a_cells, .inl (cy 0, 40, .inl (z_f_cells)))]) [.ref a, .int (x1), .int (x2)].toArray s 0 0 A) (F0 m 0 ls []) := by
    intro H locs ls hP hD hS hl h
    unfold f_X2_become at h
    refine lv_iload_n hx hb dX2_become_0 rfl (lv_at hl 1 rfl) ?_
    refine lv_if_lt (tgt := 12) hx hb dX2_become_1 (by decide) (fun c_22 => ?_) (fun c_22 => ?_)
    · have h := ift c_22 h
      have e0 := Option.some.inj h
      exact Mv.ret' hx hb hr hlocks (by rw [← e0]) hP hD hS dX2_become_12
    · have h := ifn c_22 h
      refine lv_iload_n hx hb dX2_become_4 rfl (lv_at hl 1 rfl) ?_
      refine lv_aload_n hx hb dX2_become_5 rfl (lv_at hl 0 rfl) ?_
      refine va_get (D := D) (ci := 2) (v := .int (v_size)) (C := RX2) (T := TX2) (N := 4) hx hb hts hinX2 hown hK.1 hP 0 rfl rfl 3 (by decide) (hts (.fieldLink RX2 23 "FrameWalks$Sheet" "size" "I") (List.mem_of_getElem? (i := 1) rfl)) (fun _ h9 => h9) rfl dX2_become_6 ?_
      refine lv_icmp_lt (tgt := 13) hx hb dX2_become_9 (by decide) (fun c_23 => ?_) (fun c_23 => ?_)
      · have h := ift c_23 h
        refine lv_aload_n hx hb dX2_become_13 rfl (lv_at hl 0 rfl) ?_
        refine va_get (D := D) (ci := 2) (v := .int (v_lane)) (C := RX2) (T := TX2) (N := 4) hx hb hts hinX2 hown hK.1 hP 0 rfl rfl 2 (by decide) (hts (.fieldLink RX2 19 "FrameWalks$Sheet" "lane" "I") (List.mem_of_getElem? (i := 2) rfl)) (fun _ h9 => h9) rfl dX2_become_14 ?_
        refine lv_if_ne (tgt := 31) hx hb dX2_become_17 (by decide) (fun c_24 => ?_) (fun c_24 => ?_)
        · have h := ifn c_24 h
          refine lv_aload_n hx hb dX2_become_31 rfl (lv_at hl 0 rfl) ?_
          refine va_get (D := D) (ci := 2) (v := .int (v_lane)) (C := RX2) (T := TX2) (N := 4) hx hb hts hinX2 hown hK.1 hP 0 rfl rfl 2 (by decide) (hts (.fieldLink RX2 19 "FrameWalks$Sheet" "lane" "I") (List.mem_of_getElem? (i := 2) rfl)) (fun _ h9 => h9) rfl dX2_become_32 ?_
          refine lv_iconst (v := (1 : Int32)) hx hb dX2_become_35 (by decide) ?_
          refine lv_icmp_ne (tgt := 50) hx hb dX2_become_36 (by decide) (fun c_25 => ?_) (fun c_25 => ?_)
          · have h := ifn c_25 h
            refine lv_aload_n hx hb dX2_become_50 rfl (lv_at hl 0 rfl) ?_
            refine va_get (D := D) (ci := 2) (v := .ref a_cells) (C := RX2) (T := TX2) (N := 4) hx hb hts hinX2 hown hK.1 hP 0 rfl rfl 0 (by decide) (hts (.fieldLink RX2 9 "FrameWalks$Sheet" "cells" "[I") (List.mem_of_getElem? (i := 3) rfl)) (fun _ h9 => h9) rfl dX2_become_51 ?_
            refine lv_iload_n hx hb dX2_become_54 rfl (lv_at hl 1 rfl) ?_
            refine lv_iload_n hx hb dX2_become_55 rfl (lv_at hl 2 rfl) ?_
            obtain ⟨i_26, h⟩ := cki_s h
            refine va_iast hx hb hK.1 hP hD hS 1 0 rfl rfl i_26 dX2_become_56 (fun H locs hP hD hS => ?_)
            have hP : va_P D vwCl [(a, .inr (2, [.ref a_cells, .int (v_isThere), .int (v_lane), .int (v_size)])), (a_cells, .inl (cy 0, 40, .inl (upd f_cells (x1).toNatClampNeg (x2))))] H := hP
            have hD : va_D A [(a, .inr (2, [.ref a_cells, .int (v_isThere), .int (v_lane), .int (v_size)])), (a_cells, .inl (cy 0, 40, .inl (upd f_cells (x1).toNatClampNeg (x2))))] := hD
            have e0 := Option.some.inj h
            exact Mv.ret' hx hb hr hlocks (by rw [← e0]) hP hD hS dX2_become_57
          · have h := ift c_25 h
            refine lv_aload_n hx hb dX2_become_39 rfl (lv_at hl 0 rfl) ?_
            refine va_get (D := D) (ci := 2) (v := .ref a_cells) (C := RX2) (T := TX2) (N := 4) hx hb hts hinX2 hown hK.1 hP 0 rfl rfl 0 (by decide) (hts (.fieldLink RX2 9 "FrameWalks$Sheet" "cells" "[I") (List.mem_of_getElem? (i := 3) rfl)) (fun _ h9 => h9) rfl dX2_become_40 ?_
            refine lv_iload_n hx hb dX2_become_43 rfl (lv_at hl 1 rfl) ?_
            refine lv_iload_n hx hb dX2_become_44 rfl (lv_at hl 2 rfl) ?_
            refine lv_i2s hx hb dX2_become_45 rfl ?_
            obtain ⟨i_27, h⟩ := cki_s h
            refine va_iast hx hb hK.1 hP hD hS 1 0 rfl rfl i_27 dX2_become_46 (fun H locs hP hD hS => ?_)
            have hP : va_P D vwCl [(a, .inr (2, [.ref a_cells, .int (v_isThere), .int (v_lane), .int (v_size)])), (a_cells, .inl (cy 0, 40, .inl (upd f_cells (x1).toNatClampNeg ((x2).toInt16.toInt32))))] H := hP
            have hD : va_D A [(a, .inr (2, [.ref a_cells, .int (v_isThere), .int (v_lane), .int (v_size)])), (a_cells, .inl (cy 0, 40, .inl (upd f_cells (x1).toNatClampNeg ((x2).toInt16.toInt32))))] := hD
            refine lv_goto (tgt := 57) hx hb dX2_become_47 (by decide) ?_
            have e0 := Option.some.inj h
            exact Mv.ret' hx hb hr hlocks (by rw [← e0]) hP hD hS dX2_become_57
        · have h := ift c_24 h
          refine lv_aload_n hx hb dX2_become_20 rfl (lv_at hl 0 rfl) ?_
          refine va_get (D := D) (ci := 2) (v := .ref a_cells) (C := RX2) (T := TX2) (N := 4) hx hb hts hinX2 hown hK.1 hP 0 rfl rfl 0 (by decide) (hts (.fieldLink RX2 9 "FrameWalks$Sheet" "cells" "[I") (List.mem_of_getElem? (i := 3) rfl)) (fun _ h9 => h9) rfl dX2_become_21 ?_
          refine lv_iload_n hx hb dX2_become_24 rfl (lv_at hl 1 rfl) ?_
          refine lv_iload_n hx hb dX2_become_25 rfl (lv_at hl 2 rfl) ?_
          refine lv_i2b hx hb dX2_become_26 rfl ?_
          obtain ⟨i_28, h⟩ := cki_s h
          refine va_iast hx hb hK.1 hP hD hS 1 0 rfl rfl i_28 dX2_become_27 (fun H locs hP hD hS => ?_)
          have hP : va_P D vwCl [(a, .inr (2, [.ref a_cells, .int (v_isThere), .int (v_lane), .int (v_size)])), (a_cells, .inl (cy 0, 40, .inl (upd f_cells (x1).toNatClampNeg ((x2).toInt8.toInt32))))] H := hP
          have hD : va_D A [(a, .inr (2, [.ref a_cells, .int (v_isThere), .int (v_lane), .int (v_size)])), (a_cells, .inl (cy 0, 40, .inl (upd f_cells (x1).toNatClampNeg ((x2).toInt8.toInt32))))] := hD
          refine lv_goto (tgt := 57) hx hb dX2_become_28 (by decide) ?_
          have e0 := Option.some.inj h
          exact Mv.ret' hx hb hr hlocks (by rw [← e0]) hP hD hS dX2_become_57
      · have h := ifn c_23 h
        have e0 := Option.some.inj h
        exact Mv.ret' hx hb hr hlocks (by rw [← e0]) hP hD hS dX2_become_12
  exact main s.heap [] ls hP hD va_S.rf hl h
theorem hd_X5_forget : yX5_forget.cls = RX5 ∧ yX5_forget.cls ≠ "java/lang/invoke/MethodHandle" ∧ yX5_forget.cls ≠ "java/lang/invoke/VarHandle" ∧ (parseMethodDescriptor yX5_forget.desc).map (fun d => d.parameters.length) = some 0 := by decide +kernel
def f_X5_forget (v_taken : Int32) (v_size : Int32) : Option (Int32 × Int32) := (some ((0 : Int32), (0 : Int32)))
set_option maxHeartbeats 4000000 in
set_option maxRecDepth 100000 in
theorem c_X5_forget (l : Launch) (D : va_G) (cy : Nat → ClassId) (a a_registers a_owners a_looked a_ways : Nat) (v_taken : Int32) (v_leftSignal : Int32) (v_size : Int32) (v_ended : Int32) (v_guessed : Int32) (z_v_taken : Int32) (z_v_size : Int32) (h : f_X5_forget v_taken v_size = some (z_v_taken, z_v_size)) : Mv l yX5_forget wsX5_forget ({ frames := 0, cells := 0, slots := 0, locals := 0 } : Room) (KK D cy) D [.ref a] [(a, .inr (5, [.ref a_registers, .ref a_owners, .ref a_looked, .ref a_ways, .int (v_taken), .int (v_leftSignal), .int (v_size), .int (v_ended), .int (v_guessed)]))] [(a, .inr (5, [.ref a_registers, .ref a_owners, .ref a_looked, .ref a_ways, .int (z_v_taken), .int (v_leftSignal), .int (z_v_size), .int (v_ended), .int (v_guessed)]))] := by
  intro sz
  refine Met.mk0 (cc := cX5_forget) (maxL := 1) (ret := none) (Qc := fun A => Qv D A [(a, .inr (5, [.ref a_registers, .ref a_owners, .ref a_looked, .ref a_ways, .int (z_v_taken), .int (v_leftSignal), .int (z_v_size), .int (v_ended), .int (v_guessed)]))]) (by decide) rfl (Nat.le_of_ble_eq_true rfl) ?_
  intro p e s m below meth c A ls hx hb hml hown hts hr hlocks hK hP hD hA hl
  have hown : s.vm.findClass RX5 = some m.cls := hown
  have hl : lv_has ls 1 [(0, .ref a)] := hl
  have hinX5 : ∀ w ∈ u_ws RX5 TX5 9, w ∈ wsX5_forget := (fun w h => List.mem_cons_of_mem _ (List.mem_append_right _ h))
  have main : ∀ (H : Heap) (locs : List Loc) (ls : Array Slot), va_P D vwCl [(a, .inr (5, [.ref a_registers, .ref a_owners, .ref a_looked, .ref a_ways, .int (v_taken), .int (v_leftSignal), .int (v_size), .int (v_ended), .int (v_guessed)]))] H → va_D A [(a, .inr (5, [.ref a_registers, .ref a_owners, .ref a_looked, .ref a_ways, .int (v_taken), .int (v_leftSignal), .int (v_size), .int (v_ended), .int (v_guessed)]))] → va_S A s.heap H locs → lv_has ls 1 [(0, .ref a)] → f_X5_forget v_taken v_size = some (z_v_taken, z_v_size) → W p l e ({ frames := 0, cells := 0, slots := 0, locals := 0 } : Room) s m [.ref a].toArray below meth c H locs 0 0 (MQ below (Qv D A [(a, .inr (5, [.ref a_registers, .ref a_owners, .ref a_looked, .ref a_ways, .int (z_v_taken), .int (v_leftSignal), .int (z_v_size), .int (v_ended), .int (v_guessed)]))]) [.ref a].toArray s 0 0 A) (F0 m 0 ls []) := by
    intro H locs ls hP hD hS hl h
    unfold f_X5_forget at h
    refine lv_aload_n hx hb dX5_forget_0 rfl (lv_at hl 0 rfl) ?_
    refine lv_iconst (v := (0 : Int32)) hx hb dX5_forget_1 (by decide) ?_
    refine va_put (D := D) (ci := 5) (v := .int ((0 : Int32))) (ty := .boolean) (C := RX5) (T := TX5) (N := 9) hx hb hts hinX5 tyX5 tyX5_ok nmX5 hown hK.1 hP hD hS 0 rfl rfl 4 (by decide) (hts (.fieldLink RX5 24 "FrameWalks$Track" "taken" "Z") (List.mem_of_getElem? (i := 1) rfl)) (fun _ h9 => h9) rfl (by decide +kernel) (is01_n (Or.inl rfl)) (is01_f (Or.inl rfl)) (Nat.le_of_ble_eq_true rfl) dX5_forget_2 (fun H locs hP hD hS => ?_)
    have hP : va_P D vwCl [(a, .inr (5, [.ref a_registers, .ref a_owners, .ref a_looked, .ref a_ways, .int ((0 : Int32)), .int (v_leftSignal), .int (v_size), .int (v_ended), .int (v_guessed)]))] H := hP
    have hD : va_D A [(a, .inr (5, [.ref a_registers, .ref a_owners, .ref a_looked, .ref a_ways, .int ((0 : Int32)), .int (v_leftSignal), .int (v_size), .int (v_ended), .int (v_guessed)]))] := hD
    refine lv_aload_n hx hb dX5_forget_5 rfl (lv_at hl 0 rfl) ?_
    refine lv_iconst (v := (0 : Int32)) hx hb dX5_forget_6 (by decide) ?_
    refine va_put (D := D) (ci := 5) (v := .int ((0 : Int32))) (ty := .int) (C := RX5) (T := TX5) (N := 9) hx hb hts hinX5 tyX5 tyX5_ok nmX5 hown hK.1 hP hD hS 0 rfl rfl 6 (by decide) (hts (.fieldLink RX5 31 "FrameWalks$Track" "size" "I") (List.mem_of_getElem? (i := 2) rfl)) (fun _ h9 => h9) rfl (by decide +kernel) rfl rfl (Nat.le_of_ble_eq_true rfl) dX5_forget_7 (fun H locs hP hD hS => ?_)
    have hP : va_P D vwCl [(a, .inr (5, [.ref a_registers, .ref a_owners, .ref a_looked, .ref a_ways, .int ((0 : Int32)), .int (v_leftSignal), .int ((0 : Int32)), .int (v_ended), .int (v_guessed)]))] H := hP
    have hD : va_D A [(a, .inr (5, [.ref a_registers, .ref a_owners, .ref a_looked, .ref a_ways, .int ((0 : Int32)), .int (v_leftSignal), .int ((0 : Int32)), .int (v_ended), .int (v_guessed)]))] := hD
    obtain ⟨e0, e1⟩ := tp2_s h
    exact Mv.ret' hx hb hr hlocks (by rw [← e0, ← e1]) hP hD hS dX5_forget_10
  exact main s.heap [] ls hP hD va_S.rf hl h
theorem hd_X5_add : yX5_add.cls = RX5 ∧ yX5_add.cls ≠ "java/lang/invoke/MethodHandle" ∧ yX5_add.cls ≠ "java/lang/invoke/VarHandle" ∧ (parseMethodDescriptor yX5_add.desc).map (fun d => d.parameters.length) = some 1 := by decide +kernel
def f_X5_add (x1 : Int32) (v_size : Int32) (f_ways : Nat → Int32) : Option (Int32 × (Nat → Int32)) := (if (20 : Int32) ≤ v_size then (some (v_size, f_ways)) else (cki (v_size) 20 (some (v_size + (1 : Int32), upd f_ways (v_size).toNatClampNeg (x1)))))
set_option maxHeartbeats 4000000 in
set_option maxRecDepth 100000 in
theorem c_X5_add (l : Launch) (D : va_G) (cy : Nat → ClassId) (a a_registers a_owners a_looked a_ways : Nat) (v_taken : Int32) (v_leftSignal : Int32) (v_size : Int32) (v_ended : Int32) (v_guessed : Int32) (f_ways : Nat → Int32) (x1 : Int32) (z_v_size : Int32) (z_f_ways : Nat → Int32) (h : f_X5_add x1 v_size f_ways = some (z_v_size, z_f_ways)) : Mv l yX5_add wsX5_add ({ frames := 0, cells := 0, slots := 0, locals := 0 } : Room) (KK D cy) D [.ref a, .int (x1)] [(a, .inr (5, [.ref a_registers, .ref a_owners, .ref a_looked, .ref a_ways, .int (v_taken), .int (v_leftSignal), .int (v_size), .int (v_ended), .int (v_guessed)])), (a_ways, .inl (cy 0, 20, .inl (f_ways)))] [(a, .inr (5, [.ref a_registers, .ref a_owners, .ref a_looked, .ref a_ways, .int (v_taken), .int (v_leftSignal), .int (z_v_size), .int (v_ended), .int (v_guessed)])), (a_ways, .inl (cy 0, 20, .inl (z_f_ways)))] := by
  intro sz
  refine Met.mk0 (cc := cX5_add) (maxL := 2) (ret := none) (Qc := fun A => Qv D A [(a, .inr (5, [.ref a_registers, .ref a_owners, .ref a_looked, .ref a_ways, .int (v_taken), .int (v_leftSignal), .int (z_v_size), .int (v_ended), .int (v_guessed)])), (a_ways, .inl (cy 0, 20, .inl (z_f_ways)))]) (by decide) rfl (Nat.le_of_ble_eq_true rfl) ?_
  intro p e s m below meth c A ls hx hb hml hown hts hr hlocks hK hP hD hA hl
  have hown : s.vm.findClass RX5 = some m.cls := hown
  have hl : lv_has ls 2 [(0, .ref a), (1, .int (x1))] := hl
  have hinX5 : ∀ w ∈ u_ws RX5 TX5 9, w ∈ wsX5_add := (fun w h => List.mem_cons_of_mem _ (List.mem_append_right _ h))
  have main : ∀ (H : Heap) (locs : List Loc) (ls : Array Slot), va_P D vwCl [(a, .inr (5, [.ref a_registers, .ref a_owners, .ref a_looked, .ref a_ways, .int (v_taken), .int (v_leftSignal), .int (v_size), .int (v_ended), .int (v_guessed)])), (a_ways, .inl (cy 0, 20, .inl (f_ways)))] H → va_D A [(a, .inr (5, [.ref a_registers, .ref a_owners, .ref a_looked, .ref a_ways, .int (v_taken), .int (v_leftSignal), .int (v_size), .int (v_ended), .int (v_guessed)])), (a_ways, .inl (cy 0, 20, .inl (f_ways)))] → va_S A s.heap H locs → lv_has ls 2 [(0, .ref a), (1, .int (x1))] → f_X5_add x1 v_size f_ways = some (z_v_size, z_f_ways) → W p l e ({ frames := 0, cells := 0, slots := 0, locals := 0 } : Room) s m [.ref a, .int (x1)].toArray below meth c H locs 0 0 (MQ below (Qv D A [(a, .inr (5, [.ref a_registers, .ref a_owners, .ref a_looked, .ref a_ways, .int (v_taken), .int (v_leftSignal), .int (z_v_size), .int (v_ended), .int (v_guessed)])), (a_ways, .inl (cy 0, 20, .inl (z_f_ways)))]) [.ref a, .int (x1)].toArray s 0 0 A) (F0 m 0 ls []) := by
    intro H locs ls hP hD hS hl h
    unfold f_X5_add at h
    refine lv_aload_n hx hb dX5_add_0 rfl (lv_at hl 0 rfl) ?_
    refine va_get (D := D) (ci := 5) (v := .int (v_size)) (C := RX5) (T := TX5) (N := 9) hx hb hts hinX5 hown hK.1 hP 0 rfl rfl 6 (by decide) (hts (.fieldLink RX5 31 "FrameWalks$Track" "size" "I") (List.mem_of_getElem? (i := 1) rfl)) (fun _ h9 => h9) rfl dX5_add_1 ?_
    refine lv_bipush (v := (20 : Int32)) hx hb dX5_add_4 (by decide) ?_
    refine lv_icmp_ge (tgt := 29) hx hb dX5_add_6 (by decide) (fun c_7 => ?_) (fun c_7 => ?_)
    · have h := ift c_7 h
      obtain ⟨e0, e1⟩ := tp2_s h
      exact Mv.ret' hx hb hr hlocks (by rw [← e0, ← e1]) hP hD hS dX5_add_29
    · have h := ifn c_7 h
      refine lv_aload_n hx hb dX5_add_9 rfl (lv_at hl 0 rfl) ?_
      refine va_get (D := D) (ci := 5) (v := .ref a_ways) (C := RX5) (T := TX5) (N := 9) hx hb hts hinX5 hown hK.1 hP 0 rfl rfl 3 (by decide) (hts (.fieldLink RX5 21 "FrameWalks$Track" "ways" "[I") (List.mem_of_getElem? (i := 2) rfl)) (fun _ h9 => h9) rfl dX5_add_10 ?_
      refine lv_aload_n hx hb dX5_add_13 rfl (lv_at hl 0 rfl) ?_
      refine va_get (D := D) (ci := 5) (v := .int (v_size)) (C := RX5) (T := TX5) (N := 9) hx hb hts hinX5 hown hK.1 hP 0 rfl rfl 6 (by decide) (hts (.fieldLink RX5 31 "FrameWalks$Track" "size" "I") (List.mem_of_getElem? (i := 1) rfl)) (fun _ h9 => h9) rfl dX5_add_14 ?_
      refine lv_iload_n hx hb dX5_add_17 rfl (lv_at hl 1 rfl) ?_
      obtain ⟨i_8, h⟩ := cki_s h
      refine va_iast hx hb hK.1 hP hD hS 1 0 rfl rfl i_8 dX5_add_18 (fun H locs hP hD hS => ?_)
      have hP : va_P D vwCl [(a, .inr (5, [.ref a_registers, .ref a_owners, .ref a_looked, .ref a_ways, .int (v_taken), .int (v_leftSignal), .int (v_size), .int (v_ended), .int (v_guessed)])), (a_ways, .inl (cy 0, 20, .inl (upd f_ways (v_size).toNatClampNeg (x1))))] H := hP
      have hD : va_D A [(a, .inr (5, [.ref a_registers, .ref a_owners, .ref a_looked, .ref a_ways, .int (v_taken), .int (v_leftSignal), .int (v_size), .int (v_ended), .int (v_guessed)])), (a_ways, .inl (cy 0, 20, .inl (upd f_ways (v_size).toNatClampNeg (x1))))] := hD
      refine lv_aload_n hx hb dX5_add_19 rfl (lv_at hl 0 rfl) ?_
      refine lv_dup hx hb dX5_add_20 rfl ?_
      refine va_get (D := D) (ci := 5) (v := .int (v_size)) (C := RX5) (T := TX5) (N := 9) hx hb hts hinX5 hown hK.1 hP 0 rfl rfl 6 (by decide) (hts (.fieldLink RX5 31 "FrameWalks$Track" "size" "I") (List.mem_of_getElem? (i := 1) rfl)) (fun _ h9 => h9) rfl dX5_add_21 ?_
      refine lv_iconst (v := (1 : Int32)) hx hb dX5_add_24 (by decide) ?_
      refine lv_iadd hx hb dX5_add_25 ?_
      refine va_put (D := D) (ci := 5) (v := .int (v_size + (1 : Int32))) (ty := .int) (C := RX5) (T := TX5) (N := 9) hx hb hts hinX5 tyX5 tyX5_ok nmX5 hown hK.1 hP hD hS 0 rfl rfl 6 (by decide) (hts (.fieldLink RX5 31 "FrameWalks$Track" "size" "I") (List.mem_of_getElem? (i := 1) rfl)) (fun _ h9 => h9) rfl (by decide +kernel) rfl rfl (Nat.le_of_ble_eq_true rfl) dX5_add_26 (fun H locs hP hD hS => ?_)
      have hP : va_P D vwCl [(a, .inr (5, [.ref a_registers, .ref a_owners, .ref a_looked, .ref a_ways, .int (v_taken), .int (v_leftSignal), .int (v_size + (1 : Int32)), .int (v_ended), .int (v_guessed)])), (a_ways, .inl (cy 0, 20, .inl (upd f_ways (v_size).toNatClampNeg (x1))))] H := hP
      have hD : va_D A [(a, .inr (5, [.ref a_registers, .ref a_owners, .ref a_looked, .ref a_ways, .int (v_taken), .int (v_leftSignal), .int (v_size + (1 : Int32)), .int (v_ended), .int (v_guessed)])), (a_ways, .inl (cy 0, 20, .inl (upd f_ways (v_size).toNatClampNeg (x1))))] := hD
      obtain ⟨e0, e1⟩ := tp2_s h
      exact Mv.ret' hx hb hr hlocks (by rw [← e0, ← e1]) hP hD hS dX5_add_29
  exact main s.heap [] ls hP hD va_S.rf hl h
theorem hd_X5_begin : yX5_begin.cls = RX5 ∧ yX5_begin.cls ≠ "java/lang/invoke/MethodHandle" ∧ yX5_begin.cls ≠ "java/lang/invoke/VarHandle" ∧ (parseMethodDescriptor yX5_begin.desc).map (fun d => d.parameters.length) = some 1 := by decide +kernel
def f_X5_begin_b54 (np1 : Nat) (fp1 : Nat → Int32) (v_taken : Int32) (v_leftSignal : Int32) (v_size : Int32) (v_ended : Int32) (v_guessed : Int32) (f_registers : Nat → Int32) (f_ways : Nat → Int32) : Option (Int32 × Int32 × Int32 × Int32 × Int32 × (Nat → Int32) × (Nat → Int32)) := (bn2 (f_X5_add ((0 : Int32)) (v_size) (f_ways)) (fun m_22 m_23 => (some (v_taken, v_leftSignal, m_22, v_ended, v_guessed, f_registers, m_23))))
def f_X5_begin_L27 (np1 : Nat) (fp1 : Nat → Int32) : Nat → Int32 → Int32 → Int32 → Int32 → Int32 → Int32 → (Nat → Int32) → (Nat → Int32) → Option (Int32 × Int32 × Int32 × Int32 × Int32 × (Nat → Int32) × (Nat → Int32))
  | 0, _, _, _, _, _, _, _, _ => none
  | n + 1, y2, v_taken, v_leftSignal, v_size, v_ended, v_guessed, f_registers, f_ways => (if (6 : Int32) ≤ y2 then (f_X5_begin_b54 np1 fp1  (v_taken) (v_leftSignal) (v_size) (v_ended) (v_guessed) (f_registers) (f_ways)) else (if Int32.ofNat np1 ≤ y2 then (f_X5_begin_b54 np1 fp1  (v_taken) (v_leftSignal) (v_size) (v_ended) (v_guessed) (f_registers) (f_ways)) else (cki (y2) np1 (cki (y2) 120 ((f_X5_begin_L27 np1 fp1  n) (y2 + (1 : Int32)) (v_taken) (v_leftSignal) (v_size) (v_ended) (v_guessed) (upd f_registers (y2).toNatClampNeg (fp1 (y2).toNatClampNeg)) (f_ways))))))
def f_X5_begin (v_taken : Int32) (v_leftSignal : Int32) (v_size : Int32) (v_ended : Int32) (v_guessed : Int32) (f_registers : Nat → Int32) (f_ways : Nat → Int32) (np1 : Nat) (fp1 : Nat → Int32) : Option (Int32 × Int32 × Int32 × Int32 × Int32 × (Nat → Int32) × (Nat → Int32)) := (f_X5_begin_L27 np1 fp1  FUEL ((0 : Int32)) ((1 : Int32)) ((0 : Int32)) ((0 : Int32)) ((0 : Int32)) ((0 : Int32)) (f_registers) (f_ways))
set_option maxHeartbeats 4000000 in
set_option maxRecDepth 100000 in
theorem c_X5_begin (l : Launch) (D : va_G) (cy : Nat → ClassId) (a a_registers a_owners a_looked a_ways ap1 : Nat) (v_taken : Int32) (v_leftSignal : Int32) (v_size : Int32) (v_ended : Int32) (v_guessed : Int32) (f_registers : Nat → Int32) (f_ways : Nat → Int32) (np1 : Nat) (fp1 : Nat → Int32) (z_v_taken : Int32) (z_v_leftSignal : Int32) (z_v_size : Int32) (z_v_ended : Int32) (z_v_guessed : Int32) (z_f_registers : Nat → Int32) (z_f_ways : Nat → Int32) (h : f_X5_begin v_taken v_leftSignal v_size v_ended v_guessed f_registers f_ways np1 fp1 = some (z_v_taken, z_v_leftSignal, z_v_size, z_v_ended, z_v_guessed, z_f_registers, z_f_ways)) : Mv l yX5_begin wsX5_begin ({ frames := 1, cells := 0, slots := 0, locals := 21 } : Room) (KK D cy) D [.ref a, .ref ap1] [(a, .inr (5, [.ref a_registers, .ref a_owners, .ref a_looked, .ref a_ways, .int (v_taken), .int (v_leftSignal), .int (v_size), .int (v_ended), .int (v_guessed)])), (a_registers, .inl (cy 0, 120, .inl (f_registers))), (a_ways, .inl (cy 0, 20, .inl (f_ways))), (ap1, .inl (cy 0, np1, .inl (fp1)))] [(a, .inr (5, [.ref a_registers, .ref a_owners, .ref a_looked, .ref a_ways, .int (z_v_taken), .int (z_v_leftSignal), .int (z_v_size), .int (z_v_ended), .int (z_v_guessed)])), (a_registers, .inl (cy 0, 120, .inl (z_f_registers))), (a_ways, .inl (cy 0, 20, .inl (z_f_ways))), (ap1, .inl (cy 0, np1, .inl (fp1)))] := by
  intro sz
  refine Met.mk0 (cc := cX5_begin) (maxL := 3) (ret := none) (Qc := fun A => Qv D A [(a, .inr (5, [.ref a_registers, .ref a_owners, .ref a_looked, .ref a_ways, .int (z_v_taken), .int (z_v_leftSignal), .int (z_v_size), .int (z_v_ended), .int (z_v_guessed)])), (a_registers, .inl (cy 0, 120, .inl (z_f_registers))), (a_ways, .inl (cy 0, 20, .inl (z_f_ways))), (ap1, .inl (cy 0, np1, .inl (fp1)))]) (by decide) rfl (Nat.le_of_ble_eq_true rfl) ?_
  intro p e s m below meth c A ls hx hb hml hown hts hr hlocks hK hP hD hA hl
  have hown : s.vm.findClass RX5 = some m.cls := hown
  have hl : lv_has ls 3 [(0, .ref a), (1, .ref ap1)] := hl
  have hinX5 : ∀ w ∈ u_ws RX5 TX5 9, w ∈ wsX5_begin := (fun w h => List.mem_cons_of_mem _ (List.mem_append_right _ h))
  have hb54 : ∀ (v_taken : Int32) (v_leftSignal : Int32) (v_size : Int32) (v_ended : Int32) (v_guessed : Int32) (f_registers : Nat → Int32) (f_ways : Nat → Int32) (H : Heap) (locs : List Loc) (ls : Array Slot), va_P D vwCl [(a, .inr (5, [.ref a_registers, .ref a_owners, .ref a_looked, .ref a_ways, .int (v_taken), .int (v_leftSignal), .int (v_size), .int (v_ended), .int (v_guessed)])), (a_registers, .inl (cy 0, 120, .inl (f_registers))), (a_ways, .inl (cy 0, 20, .inl (f_ways))), (ap1, .inl (cy 0, np1, .inl (fp1)))] H → va_D A [(a, .inr (5, [.ref a_registers, .ref a_owners, .ref a_looked, .ref a_ways, .int (v_taken), .int (v_leftSignal), .int (v_size), .int (v_ended), .int (v_guessed)])), (a_registers, .inl (cy 0, 120, .inl (f_registers))), (a_ways, .inl (cy 0, 20, .inl (f_ways))), (ap1, .inl (cy 0, np1, .inl (fp1)))] → va_S A s.heap H locs → lv_has ls 3 [(0, .ref a)] → f_X5_begin_b54 np1 fp1  v_taken v_leftSignal v_size v_ended v_guessed f_registers f_ways = some (z_v_taken, z_v_leftSignal, z_v_size, z_v_ended, z_v_guessed, z_f_registers, z_f_ways) → W p l e ({ frames := 1, cells := 0, slots := 0, locals := 21 } : Room) s m [.ref a, .ref ap1].toArray below meth c H locs 0 0 (MQ below (Qv D A [(a, .inr (5, [.ref a_registers, .ref a_owners, .ref a_looked, .ref a_ways, .int (z_v_taken), .int (z_v_leftSignal), .int (z_v_size), .int (z_v_ended), .int (z_v_guessed)])), (a_registers, .inl (cy 0, 120, .inl (z_f_registers))), (a_ways, .inl (cy 0, 20, .inl (z_f_ways))), (ap1, .inl (cy 0, np1, .inl (fp1)))]) [.ref a, .ref ap1].toArray s 0 0 A) (F0 m 54 ls []) := by
    intro v_taken v_leftSignal v_size v_ended v_guessed f_registers f_ways H locs ls hP hD hS hl h
    unfold f_X5_begin_b54 at h
    refine lv_aload_n hx hb dX5_begin_54 rfl (lv_at hl 0 rfl) ?_
    refine lv_iconst (v := (0 : Int32)) hx hb dX5_begin_55 (by decide) ?_
    obtain ⟨m_22, m_23, hc_24, h⟩ := bn2_s h
    refine call_v (ws1 := [(a, .inr (5, [.ref a_registers, .ref a_owners, .ref a_looked, .ref a_ways, .int (v_taken), .int (v_leftSignal), .int (m_22), .int (v_ended), .int (v_guessed)])), (a_registers, .inl (cy 0, 120, .inl (f_registers))), (a_ways, .inl (cy 0, 20, .inl (m_23))), (ap1, .inl (cy 0, np1, .inl (fp1)))]) (wr := [(a_registers, .inl (cy 0, 120, .inl (f_registers))), (ap1, .inl (cy 0, np1, .inl (fp1)))]) (run_V ⟨hx, hb, hml, hown, hts⟩ ((c_X5_add l D cy a a_registers a_owners a_looked a_ways (v_taken) (v_leftSignal) (v_size) (v_ended) (v_guessed) (f_ways) ((0 : Int32)) m_22 m_23 hc_24) H.size) (cwV 1 hts gX5_begin_X5_add rfl rfl rfl hd_X5_add ⟨Nat.le_of_ble_eq_true rfl, Nat.le_of_ble_eq_true rfl⟩) KK.calling (fun U _ hW => hK.warm hW) hK.1 hP hD [0, 2] [1, 3] [2, 0, 3, 1] rfl rfl 0 5 rfl rfl rfl rfl hl.1 rfl (lv_room (Nat.le_of_ble_eq_true rfl)) dX5_begin_56) hP hD hS hA [0, 2] [1, 3] [2, 0, 3, 1] rfl rfl rfl rfl (fun H locs hP hD hS => ?_)
    obtain ⟨e0, e1, e2, e3, e4, e5, e6⟩ := tp7_s h
    exact Mv.ret' hx hb hr hlocks (by rw [← e0, ← e1, ← e2, ← e3, ← e4, ← e5, ← e6]) hP hD hS dX5_begin_59
  have hL27 : ∀ (n27 : Nat) (y2 : Int32) (v_taken : Int32) (v_leftSignal : Int32) (v_size : Int32) (v_ended : Int32) (v_guessed : Int32) (f_registers : Nat → Int32) (f_ways : Nat → Int32) (H : Heap) (locs : List Loc) (ls : Array Slot), va_P D vwCl [(a, .inr (5, [.ref a_registers, .ref a_owners, .ref a_looked, .ref a_ways, .int (v_taken), .int (v_leftSignal), .int (v_size), .int (v_ended), .int (v_guessed)])), (a_registers, .inl (cy 0, 120, .inl (f_registers))), (a_ways, .inl (cy 0, 20, .inl (f_ways))), (ap1, .inl (cy 0, np1, .inl (fp1)))] H → va_D A [(a, .inr (5, [.ref a_registers, .ref a_owners, .ref a_looked, .ref a_ways, .int (v_taken), .int (v_leftSignal), .int (v_size), .int (v_ended), .int (v_guessed)])), (a_registers, .inl (cy 0, 120, .inl (f_registers))), (a_ways, .inl (cy 0, 20, .inl (f_ways))), (ap1, .inl (cy 0, np1, .inl (fp1)))] → va_S A s.heap H locs → lv_has ls 3 [(0, .ref a), (1, .ref ap1), (2, .int (y2))] → f_X5_begin_L27 np1 fp1  n27 y2 v_taken v_leftSignal v_size v_ended v_guessed f_registers f_ways = some (z_v_taken, z_v_leftSignal, z_v_size, z_v_ended, z_v_guessed, z_f_registers, z_f_ways) → W p l e ({ frames := 1, cells := 0, slots := 0, locals := 21 } : Room) s m [.ref a, .ref ap1].toArray below meth c H locs 0 0 (MQ below (Qv D A [(a, .inr (5, [.ref a_registers, .ref a_owners, .ref a_looked, .ref a_ways, .int (z_v_taken), .int (z_v_leftSignal), .int (z_v_size), .int (z_v_ended), .int (z_v_guessed)])), (a_registers, .inl (cy 0, 120, .inl (z_f_registers))), (a_ways, .inl (cy 0, 20, .inl (z_f_ways))), (ap1, .inl (cy 0, np1, .inl (fp1)))]) [.ref a, .ref ap1].toArray s 0 0 A) (F0 m 27 ls []) := by
    intro n27
    induction n27 with
    | zero =>
      intro y2 v_taken v_leftSignal v_size v_ended v_guessed f_registers f_ways H locs ls hP hD hS hl h
      cases (id h : (none : Option (Int32 × Int32 × Int32 × Int32 × Int32 × (Nat → Int32) × (Nat → Int32))) = some _)
    | succ n27 ih27 =>
      intro y2 v_taken v_leftSignal v_size v_ended v_guessed f_registers f_ways H locs ls hP hD hS hl h
      rw [f_X5_begin_L27] at h
      refine lv_iload_n hx hb dX5_begin_27 rfl (lv_at hl 2 rfl) ?_
      refine lv_bipush (v := (6 : Int32)) hx hb dX5_begin_28 (by decide) ?_
      refine lv_icmp_ge (tgt := 54) hx hb dX5_begin_30 (by decide) (fun c_25 => ?_) (fun c_25 => ?_)
      · have h := ift c_25 h
        exact hb54 (v_taken) (v_leftSignal) (v_size) (v_ended) (v_guessed) (f_registers) (f_ways) H locs ls hP hD hS (lv_sub hl [0] rfl) h
      · have h := ifn c_25 h
        refine lv_iload_n hx hb dX5_begin_33 rfl (lv_at hl 2 rfl) ?_
        refine lv_aload_n hx hb dX5_begin_34 rfl (lv_at hl 1 rfl) ?_
        refine va_alen hx hb hK.1 hP 3 0 rfl rfl (v := Int32.ofNat np1) rfl dX5_begin_35 ?_
        refine lv_icmp_ge (tgt := 54) hx hb dX5_begin_36 (by decide) (fun c_26 => ?_) (fun c_26 => ?_)
        · have h := ift c_26 h
          exact hb54 (v_taken) (v_leftSignal) (v_size) (v_ended) (v_guessed) (f_registers) (f_ways) H locs ls hP hD hS (lv_sub hl [0] rfl) h
        · have h := ifn c_26 h
          refine lv_aload_n hx hb dX5_begin_39 rfl (lv_at hl 0 rfl) ?_
          refine va_get (D := D) (ci := 5) (v := .ref a_registers) (C := RX5) (T := TX5) (N := 9) hx hb hts hinX5 hown hK.1 hP 0 rfl rfl 0 (by decide) (hts (.fieldLink RX5 9 "FrameWalks$Track" "registers" "[I") (List.mem_of_getElem? (i := 6) rfl)) (fun _ h9 => h9) rfl dX5_begin_40 ?_
          refine lv_iload_n hx hb dX5_begin_43 rfl (lv_at hl 2 rfl) ?_
          refine lv_aload_n hx hb dX5_begin_44 rfl (lv_at hl 1 rfl) ?_
          refine lv_iload_n hx hb dX5_begin_45 rfl (lv_at hl 2 rfl) ?_
          obtain ⟨i_27, h⟩ := cki_s h
          refine va_iald hx hb hK.1 hP 3 0 rfl rfl i_27 dX5_begin_46 ?_
          obtain ⟨i_28, h⟩ := cki_s h
          refine va_iast hx hb hK.1 hP hD hS 1 0 rfl rfl i_28 dX5_begin_47 (fun H locs hP hD hS => ?_)
          have hP : va_P D vwCl [(a, .inr (5, [.ref a_registers, .ref a_owners, .ref a_looked, .ref a_ways, .int (v_taken), .int (v_leftSignal), .int (v_size), .int (v_ended), .int (v_guessed)])), (a_registers, .inl (cy 0, 120, .inl (upd f_registers (y2).toNatClampNeg (fp1 (y2).toNatClampNeg)))), (a_ways, .inl (cy 0, 20, .inl (f_ways))), (ap1, .inl (cy 0, np1, .inl (fp1)))] H := hP
          have hD : va_D A [(a, .inr (5, [.ref a_registers, .ref a_owners, .ref a_looked, .ref a_ways, .int (v_taken), .int (v_leftSignal), .int (v_size), .int (v_ended), .int (v_guessed)])), (a_registers, .inl (cy 0, 120, .inl (upd f_registers (y2).toNatClampNeg (fp1 (y2).toNatClampNeg)))), (a_ways, .inl (cy 0, 20, .inl (f_ways))), (ap1, .inl (cy 0, np1, .inl (fp1)))] := hD
          refine lv_iinc (v := y2 + (1 : Int32)) (lv' := [(2, .int (y2 + (1 : Int32))), (0, .ref a), (1, .ref ap1)]) hx hb dX5_begin_48 hl (k := 2) rfl rfl (by decide) rfl (fun ls hl => ?_)
          refine lv_goto (tgt := 27) hx hb dX5_begin_51 (by decide) ?_
          exact ih27 (y2 + (1 : Int32)) (v_taken) (v_leftSignal) (v_size) (v_ended) (v_guessed) (upd f_registers (y2).toNatClampNeg (fp1 (y2).toNatClampNeg)) (f_ways) H locs ls hP hD hS (lv_sub hl [1, 2, 0] rfl) h
  have main : ∀ (H : Heap) (locs : List Loc) (ls : Array Slot), va_P D vwCl [(a, .inr (5, [.ref a_registers, .ref a_owners, .ref a_looked, .ref a_ways, .int (v_taken), .int (v_leftSignal), .int (v_size), .int (v_ended), .int (v_guessed)])), (a_registers, .inl (cy 0, 120, .inl (f_registers))), (a_ways, .inl (cy 0, 20, .inl (f_ways))), (ap1, .inl (cy 0, np1, .inl (fp1)))] H → va_D A [(a, .inr (5, [.ref a_registers, .ref a_owners, .ref a_looked, .ref a_ways, .int (v_taken), .int (v_leftSignal), .int (v_size), .int (v_ended), .int (v_guessed)])), (a_registers, .inl (cy 0, 120, .inl (f_registers))), (a_ways, .inl (cy 0, 20, .inl (f_ways))), (ap1, .inl (cy 0, np1, .inl (fp1)))] → va_S A s.heap H locs → lv_has ls 3 [(0, .ref a), (1, .ref ap1)] → f_X5_begin v_taken v_leftSignal v_size v_ended v_guessed f_registers f_ways np1 fp1 = some (z_v_taken, z_v_leftSignal, z_v_size, z_v_ended, z_v_guessed, z_f_registers, z_f_ways) → W p l e ({ frames := 1, cells := 0, slots := 0, locals := 21 } : Room) s m [.ref a, .ref ap1].toArray below meth c H locs 0 0 (MQ below (Qv D A [(a, .inr (5, [.ref a_registers, .ref a_owners, .ref a_looked, .ref a_ways, .int (z_v_taken), .int (z_v_leftSignal), .int (z_v_size), .int (z_v_ended), .int (z_v_guessed)])), (a_registers, .inl (cy 0, 120, .inl (z_f_registers))), (a_ways, .inl (cy 0, 20, .inl (z_f_ways))), (ap1, .inl (cy 0, np1, .inl (fp1)))]) [.ref a, .ref ap1].toArray s 0 0 A) (F0 m 0 ls []) := by
    intro H locs ls hP hD hS hl h
    unfold f_X5_begin at h
    refine lv_aload_n hx hb dX5_begin_0 rfl (lv_at hl 0 rfl) ?_
    refine lv_iconst (v := (1 : Int32)) hx hb dX5_begin_1 (by decide) ?_
    refine va_put (D := D) (ci := 5) (v := .int ((1 : Int32))) (ty := .boolean) (C := RX5) (T := TX5) (N := 9) hx hb hts hinX5 tyX5 tyX5_ok nmX5 hown hK.1 hP hD hS 0 rfl rfl 4 (by decide) (hts (.fieldLink RX5 24 "FrameWalks$Track" "taken" "Z") (List.mem_of_getElem? (i := 1) rfl)) (fun _ h9 => h9) rfl (by decide +kernel) (is01_n (Or.inr rfl)) (is01_f (Or.inr rfl)) (Nat.le_of_ble_eq_true rfl) dX5_begin_2 (fun H locs hP hD hS => ?_)
    have hP : va_P D vwCl [(a, .inr (5, [.ref a_registers, .ref a_owners, .ref a_looked, .ref a_ways, .int ((1 : Int32)), .int (v_leftSignal), .int (v_size), .int (v_ended), .int (v_guessed)])), (a_registers, .inl (cy 0, 120, .inl (f_registers))), (a_ways, .inl (cy 0, 20, .inl (f_ways))), (ap1, .inl (cy 0, np1, .inl (fp1)))] H := hP
    have hD : va_D A [(a, .inr (5, [.ref a_registers, .ref a_owners, .ref a_looked, .ref a_ways, .int ((1 : Int32)), .int (v_leftSignal), .int (v_size), .int (v_ended), .int (v_guessed)])), (a_registers, .inl (cy 0, 120, .inl (f_registers))), (a_ways, .inl (cy 0, 20, .inl (f_ways))), (ap1, .inl (cy 0, np1, .inl (fp1)))] := hD
    refine lv_aload_n hx hb dX5_begin_5 rfl (lv_at hl 0 rfl) ?_
    refine lv_iconst (v := (0 : Int32)) hx hb dX5_begin_6 (by decide) ?_
    refine va_put (D := D) (ci := 5) (v := .int ((0 : Int32))) (ty := .boolean) (C := RX5) (T := TX5) (N := 9) hx hb hts hinX5 tyX5 tyX5_ok nmX5 hown hK.1 hP hD hS 0 rfl rfl 5 (by decide) (hts (.fieldLink RX5 28 "FrameWalks$Track" "leftSignal" "Z") (List.mem_of_getElem? (i := 2) rfl)) (fun _ h9 => h9) rfl (by decide +kernel) (is01_n (Or.inl rfl)) (is01_f (Or.inl rfl)) (Nat.le_of_ble_eq_true rfl) dX5_begin_7 (fun H locs hP hD hS => ?_)
    have hP : va_P D vwCl [(a, .inr (5, [.ref a_registers, .ref a_owners, .ref a_looked, .ref a_ways, .int ((1 : Int32)), .int ((0 : Int32)), .int (v_size), .int (v_ended), .int (v_guessed)])), (a_registers, .inl (cy 0, 120, .inl (f_registers))), (a_ways, .inl (cy 0, 20, .inl (f_ways))), (ap1, .inl (cy 0, np1, .inl (fp1)))] H := hP
    have hD : va_D A [(a, .inr (5, [.ref a_registers, .ref a_owners, .ref a_looked, .ref a_ways, .int ((1 : Int32)), .int ((0 : Int32)), .int (v_size), .int (v_ended), .int (v_guessed)])), (a_registers, .inl (cy 0, 120, .inl (f_registers))), (a_ways, .inl (cy 0, 20, .inl (f_ways))), (ap1, .inl (cy 0, np1, .inl (fp1)))] := hD
    refine lv_aload_n hx hb dX5_begin_10 rfl (lv_at hl 0 rfl) ?_
    refine lv_iconst (v := (0 : Int32)) hx hb dX5_begin_11 (by decide) ?_
    refine va_put (D := D) (ci := 5) (v := .int ((0 : Int32))) (ty := .int) (C := RX5) (T := TX5) (N := 9) hx hb hts hinX5 tyX5 tyX5_ok nmX5 hown hK.1 hP hD hS 0 rfl rfl 6 (by decide) (hts (.fieldLink RX5 31 "FrameWalks$Track" "size" "I") (List.mem_of_getElem? (i := 3) rfl)) (fun _ h9 => h9) rfl (by decide +kernel) rfl rfl (Nat.le_of_ble_eq_true rfl) dX5_begin_12 (fun H locs hP hD hS => ?_)
    have hP : va_P D vwCl [(a, .inr (5, [.ref a_registers, .ref a_owners, .ref a_looked, .ref a_ways, .int ((1 : Int32)), .int ((0 : Int32)), .int ((0 : Int32)), .int (v_ended), .int (v_guessed)])), (a_registers, .inl (cy 0, 120, .inl (f_registers))), (a_ways, .inl (cy 0, 20, .inl (f_ways))), (ap1, .inl (cy 0, np1, .inl (fp1)))] H := hP
    have hD : va_D A [(a, .inr (5, [.ref a_registers, .ref a_owners, .ref a_looked, .ref a_ways, .int ((1 : Int32)), .int ((0 : Int32)), .int ((0 : Int32)), .int (v_ended), .int (v_guessed)])), (a_registers, .inl (cy 0, 120, .inl (f_registers))), (a_ways, .inl (cy 0, 20, .inl (f_ways))), (ap1, .inl (cy 0, np1, .inl (fp1)))] := hD
    refine lv_aload_n hx hb dX5_begin_15 rfl (lv_at hl 0 rfl) ?_
    refine lv_iconst (v := (0 : Int32)) hx hb dX5_begin_16 (by decide) ?_
    refine va_put (D := D) (ci := 5) (v := .int ((0 : Int32))) (ty := .int) (C := RX5) (T := TX5) (N := 9) hx hb hts hinX5 tyX5 tyX5_ok nmX5 hown hK.1 hP hD hS 0 rfl rfl 7 (by decide) (hts (.fieldLink RX5 35 "FrameWalks$Track" "ended" "I") (List.mem_of_getElem? (i := 4) rfl)) (fun _ h9 => h9) rfl (by decide +kernel) rfl rfl (Nat.le_of_ble_eq_true rfl) dX5_begin_17 (fun H locs hP hD hS => ?_)
    have hP : va_P D vwCl [(a, .inr (5, [.ref a_registers, .ref a_owners, .ref a_looked, .ref a_ways, .int ((1 : Int32)), .int ((0 : Int32)), .int ((0 : Int32)), .int ((0 : Int32)), .int (v_guessed)])), (a_registers, .inl (cy 0, 120, .inl (f_registers))), (a_ways, .inl (cy 0, 20, .inl (f_ways))), (ap1, .inl (cy 0, np1, .inl (fp1)))] H := hP
    have hD : va_D A [(a, .inr (5, [.ref a_registers, .ref a_owners, .ref a_looked, .ref a_ways, .int ((1 : Int32)), .int ((0 : Int32)), .int ((0 : Int32)), .int ((0 : Int32)), .int (v_guessed)])), (a_registers, .inl (cy 0, 120, .inl (f_registers))), (a_ways, .inl (cy 0, 20, .inl (f_ways))), (ap1, .inl (cy 0, np1, .inl (fp1)))] := hD
    refine lv_aload_n hx hb dX5_begin_20 rfl (lv_at hl 0 rfl) ?_
    refine lv_iconst (v := (0 : Int32)) hx hb dX5_begin_21 (by decide) ?_
    refine va_put (D := D) (ci := 5) (v := .int ((0 : Int32))) (ty := .int) (C := RX5) (T := TX5) (N := 9) hx hb hts hinX5 tyX5 tyX5_ok nmX5 hown hK.1 hP hD hS 0 rfl rfl 8 (by decide) (hts (.fieldLink RX5 38 "FrameWalks$Track" "guessed" "I") (List.mem_of_getElem? (i := 5) rfl)) (fun _ h9 => h9) rfl (by decide +kernel) rfl rfl (Nat.le_of_ble_eq_true rfl) dX5_begin_22 (fun H locs hP hD hS => ?_)
    have hP : va_P D vwCl [(a, .inr (5, [.ref a_registers, .ref a_owners, .ref a_looked, .ref a_ways, .int ((1 : Int32)), .int ((0 : Int32)), .int ((0 : Int32)), .int ((0 : Int32)), .int ((0 : Int32))])), (a_registers, .inl (cy 0, 120, .inl (f_registers))), (a_ways, .inl (cy 0, 20, .inl (f_ways))), (ap1, .inl (cy 0, np1, .inl (fp1)))] H := hP
    have hD : va_D A [(a, .inr (5, [.ref a_registers, .ref a_owners, .ref a_looked, .ref a_ways, .int ((1 : Int32)), .int ((0 : Int32)), .int ((0 : Int32)), .int ((0 : Int32)), .int ((0 : Int32))])), (a_registers, .inl (cy 0, 120, .inl (f_registers))), (a_ways, .inl (cy 0, 20, .inl (f_ways))), (ap1, .inl (cy 0, np1, .inl (fp1)))] := hD
    refine lv_iconst (v := (0 : Int32)) hx hb dX5_begin_25 (by decide) ?_
    refine lv_istore_n (lv' := [(2, .int ((0 : Int32))), (0, .ref a), (1, .ref ap1)]) hx hb dX5_begin_26 rfl hl (by decide) rfl (fun ls hl => ?_)
    exact hL27 FUEL ((0 : Int32)) ((1 : Int32)) ((0 : Int32)) ((0 : Int32)) ((0 : Int32)) ((0 : Int32)) (f_registers) (f_ways) H locs ls hP hD hS (lv_sub hl [1, 2, 0] rfl) h
  exact main s.heap [] ls hP hD va_S.rf hl h
theorem hd_X5_has : yX5_has.cls = RX5 ∧ yX5_has.cls ≠ "java/lang/invoke/MethodHandle" ∧ yX5_has.cls ≠ "java/lang/invoke/VarHandle" ∧ (parseMethodDescriptor yX5_has.desc).map (fun d => d.parameters.length) = some 1 := by decide +kernel
def f_X5_has (x1 : Int32) (v_size : Int32) : Option (Int32) := (if x1 < 0 then (some ((0 : Int32))) else (if v_size ≤ x1 then (some ((0 : Int32))) else (some ((1 : Int32)))))
set_option maxHeartbeats 4000000 in
set_option maxRecDepth 100000 in
theorem c_X5_has (l : Launch) (D : va_G) (cy : Nat → ClassId) (a a_registers a_owners a_looked a_ways : Nat) (v_taken : Int32) (v_leftSignal : Int32) (v_size : Int32) (v_ended : Int32) (v_guessed : Int32) (x1 : Int32) (res : Int32) (h : f_X5_has x1 v_size = some res) : Mi l yX5_has wsX5_has ({ frames := 0, cells := 0, slots := 0, locals := 0 } : Room) (KK D cy) D [.ref a, .int (x1)] [(a, .inr (5, [.ref a_registers, .ref a_owners, .ref a_looked, .ref a_ways, .int (v_taken), .int (v_leftSignal), .int (v_size), .int (v_ended), .int (v_guessed)]))] [(a, .inr (5, [.ref a_registers, .ref a_owners, .ref a_looked, .ref a_ways, .int (v_taken), .int (v_leftSignal), .int (v_size), .int (v_ended), .int (v_guessed)]))] res := by
  intro sz
  refine Met.mk0 (cc := cX5_has) (maxL := 2) (ret := (some .boolean)) (Qc := fun A => Qi D A [(a, .inr (5, [.ref a_registers, .ref a_owners, .ref a_looked, .ref a_ways, .int (v_taken), .int (v_leftSignal), .int (v_size), .int (v_ended), .int (v_guessed)]))] res) (by decide) rfl (Nat.le_of_ble_eq_true rfl) ?_
  intro p e s m below meth c A ls hx hb hml hown hts hr hlocks hK hP hD hA hl
  have hown : s.vm.findClass RX5 = some m.cls := hown
  have hl : lv_has ls 2 [(0, .ref a), (1, .int (x1))] := hl
  have hinX5 : ∀ w ∈ u_ws RX5 TX5 9, w ∈ wsX5_has := (fun w h => List.mem_cons_of_mem _ (List.mem_append_right _ h))
  have main : ∀ (H : Heap) (locs : List Loc) (ls : Array Slot), va_P D vwCl [(a, .inr (5, [.ref a_registers, .ref a_owners, .ref a_looked, .ref a_ways, .int (v_taken), .int (v_leftSignal), .int (v_size), .int (v_ended), .int (v_guessed)]))] H → va_D A [(a, .inr (5, [.ref a_registers, .ref a_owners, .ref a_looked, .ref a_ways, .int (v_taken), .int (v_leftSignal), .int (v_size), .int (v_ended), .int (v_guessed)]))] → va_S A s.heap H locs → lv_has ls 2 [(0, .ref a), (1, .int (x1))] → f_X5_has x1 v_size = some res → W p l e ({ frames := 0, cells := 0, slots := 0, locals := 0 } : Room) s m [.ref a, .int (x1)].toArray below meth c H locs 0 0 (MQ below (Qi D A [(a, .inr (5, [.ref a_registers, .ref a_owners, .ref a_looked, .ref a_ways, .int (v_taken), .int (v_leftSignal), .int (v_size), .int (v_ended), .int (v_guessed)]))] res) [.ref a, .int (x1)].toArray s 0 0 A) (F0 m 0 ls []) := by
    intro H locs ls hP hD hS hl h
    unfold f_X5_has at h
    refine lv_iload_n hx hb dX5_has_0 rfl (lv_at hl 1 rfl) ?_
    refine lv_if_lt (tgt := 16) hx hb dX5_has_1 (by decide) (fun c_7 => ?_) (fun c_7 => ?_)
    · have h := ift c_7 h
      refine lv_iconst (v := (0 : Int32)) hx hb dX5_has_16 (by decide) ?_
      have e0 := Option.some.inj h
      exact Mi.retz' hx hb hr hlocks (Or.inl rfl) e0 rfl hP hD hS dX5_has_17
    · have h := ifn c_7 h
      refine lv_iload_n hx hb dX5_has_4 rfl (lv_at hl 1 rfl) ?_
      refine lv_aload_n hx hb dX5_has_5 rfl (lv_at hl 0 rfl) ?_
      refine va_get (D := D) (ci := 5) (v := .int (v_size)) (C := RX5) (T := TX5) (N := 9) hx hb hts hinX5 hown hK.1 hP 0 rfl rfl 6 (by decide) (hts (.fieldLink RX5 31 "FrameWalks$Track" "size" "I") (List.mem_of_getElem? (i := 1) rfl)) (fun _ h9 => h9) rfl dX5_has_6 ?_
      refine lv_icmp_ge (tgt := 16) hx hb dX5_has_9 (by decide) (fun c_8 => ?_) (fun c_8 => ?_)
      · have h := ift c_8 h
        refine lv_iconst (v := (0 : Int32)) hx hb dX5_has_16 (by decide) ?_
        have e0 := Option.some.inj h
        exact Mi.retz' hx hb hr hlocks (Or.inl rfl) e0 rfl hP hD hS dX5_has_17
      · have h := ifn c_8 h
        refine lv_iconst (v := (1 : Int32)) hx hb dX5_has_12 (by decide) ?_
        refine lv_goto (tgt := 17) hx hb dX5_has_13 (by decide) ?_
        have e0 := Option.some.inj h
        exact Mi.retz' hx hb hr hlocks (Or.inr rfl) e0 rfl hP hD hS dX5_has_17
  exact main s.heap [] ls hP hD va_S.rf hl h
theorem hd_X5_register : yX5_register.cls = RX5 ∧ yX5_register.cls ≠ "java/lang/invoke/MethodHandle" ∧ yX5_register.cls ≠ "java/lang/invoke/VarHandle" ∧ (parseMethodDescriptor yX5_register.desc).map (fun d => d.parameters.length) = some 2 := by decide +kernel
def f_X5_register (x1 : Int32) (x2 : Int32) (v_size : Int32) (f_registers : Nat → Int32) : Option (Int32) := (bn1 (f_X5_has (x1) (v_size)) (fun r_22 => (if r_22 = 0 then (some ((0 : Int32))) else (bn1 (f_X7_isRegister (x2)) (fun r_24 => (if r_24 = 0 then (some ((0 : Int32))) else (cki ((x1 * (6 : Int32)) + x2) 120 (some (f_registers ((x1 * (6 : Int32)) + x2).toNatClampNeg)))))))))
set_option maxHeartbeats 4000000 in
set_option maxRecDepth 100000 in
theorem c_X5_register (l : Launch) (D : va_G) (cy : Nat → ClassId) (a a_registers a_owners a_looked a_ways : Nat) (v_taken : Int32) (v_leftSignal : Int32) (v_size : Int32) (v_ended : Int32) (v_guessed : Int32) (f_registers : Nat → Int32) (x1 : Int32) (x2 : Int32) (res : Int32) (h : f_X5_register x1 x2 v_size f_registers = some res) : Mi l yX5_register wsX5_register ({ frames := 1, cells := 0, slots := 0, locals := 21 } : Room) (KK D cy) D [.ref a, .int (x1), .int (x2)] [(a, .inr (5, [.ref a_registers, .ref a_owners, .ref a_looked, .ref a_ways, .int (v_taken), .int (v_leftSignal), .int (v_size), .int (v_ended), .int (v_guessed)])), (a_registers, .inl (cy 0, 120, .inl (f_registers)))] [(a, .inr (5, [.ref a_registers, .ref a_owners, .ref a_looked, .ref a_ways, .int (v_taken), .int (v_leftSignal), .int (v_size), .int (v_ended), .int (v_guessed)])), (a_registers, .inl (cy 0, 120, .inl (f_registers)))] res := by
  intro sz
  refine Met.mk0 (cc := cX5_register) (maxL := 3) (ret := (some .int)) (Qc := fun A => Qi D A [(a, .inr (5, [.ref a_registers, .ref a_owners, .ref a_looked, .ref a_ways, .int (v_taken), .int (v_leftSignal), .int (v_size), .int (v_ended), .int (v_guessed)])), (a_registers, .inl (cy 0, 120, .inl (f_registers)))] res) (by decide) rfl (Nat.le_of_ble_eq_true rfl) ?_
  intro p e s m below meth c A ls hx hb hml hown hts hr hlocks hK hP hD hA hl
  have hown : s.vm.findClass RX5 = some m.cls := hown
  have hl : lv_has ls 3 [(0, .ref a), (1, .int (x1)), (2, .int (x2))] := hl
  have hinX5 : ∀ w ∈ u_ws RX5 TX5 9, w ∈ wsX5_register := (fun w h => List.mem_cons_of_mem _ (List.mem_append_right _ h))
  have main : ∀ (H : Heap) (locs : List Loc) (ls : Array Slot), va_P D vwCl [(a, .inr (5, [.ref a_registers, .ref a_owners, .ref a_looked, .ref a_ways, .int (v_taken), .int (v_leftSignal), .int (v_size), .int (v_ended), .int (v_guessed)])), (a_registers, .inl (cy 0, 120, .inl (f_registers)))] H → va_D A [(a, .inr (5, [.ref a_registers, .ref a_owners, .ref a_looked, .ref a_ways, .int (v_taken), .int (v_leftSignal), .int (v_size), .int (v_ended), .int (v_guessed)])), (a_registers, .inl (cy 0, 120, .inl (f_registers)))] → va_S A s.heap H locs → lv_has ls 3 [(0, .ref a), (1, .int (x1)), (2, .int (x2))] → f_X5_register x1 x2 v_size f_registers = some res → W p l e ({ frames := 1, cells := 0, slots := 0, locals := 21 } : Room) s m [.ref a, .int (x1), .int (x2)].toArray below meth c H locs 0 0 (MQ below (Qi D A [(a, .inr (5, [.ref a_registers, .ref a_owners, .ref a_looked, .ref a_ways, .int (v_taken), .int (v_leftSignal), .int (v_size), .int (v_ended), .int (v_guessed)])), (a_registers, .inl (cy 0, 120, .inl (f_registers)))] res) [.ref a, .int (x1), .int (x2)].toArray s 0 0 A) (F0 m 0 ls []) := by
    intro H locs ls hP hD hS hl h
    unfold f_X5_register at h
    refine lv_aload_n hx hb dX5_register_0 rfl (lv_at hl 0 rfl) ?_
    refine lv_iload_n hx hb dX5_register_1 rfl (lv_at hl 1 rfl) ?_
    obtain ⟨r_22, hc_28, h⟩ := bn1_s h
    refine call_i (ws1 := [(a, .inr (5, [.ref a_registers, .ref a_owners, .ref a_looked, .ref a_ways, .int (v_taken), .int (v_leftSignal), .int (v_size), .int (v_ended), .int (v_guessed)])), (a_registers, .inl (cy 0, 120, .inl (f_registers)))]) (wr := [(a_registers, .inl (cy 0, 120, .inl (f_registers)))]) (run_V ⟨hx, hb, hml, hown, hts⟩ ((c_X5_has l D cy a a_registers a_owners a_looked a_ways (v_taken) (v_leftSignal) (v_size) (v_ended) (v_guessed) (x1) r_22 hc_28) H.size) (cwV 1 hts gX5_register_X5_has rfl rfl rfl hd_X5_has ⟨Nat.le_of_ble_eq_true rfl, Nat.le_of_ble_eq_true rfl⟩) KK.calling (fun U _ hW => hK.warm hW) hK.1 hP hD [0] [1] [1, 0] rfl rfl 0 5 rfl rfl rfl rfl hl.1 rfl (lv_room (Nat.le_of_ble_eq_true rfl)) dX5_register_2) hP hD hS hA [0] [1] [1, 0] rfl rfl rfl rfl (fun H locs hP hD hS => ?_)
    refine lv_if_eq (tgt := 29) hx hb dX5_register_5 (by decide) (fun c_23 => ?_) (fun c_23 => ?_)
    · have h := ift c_23 h
      refine lv_iconst (v := (0 : Int32)) hx hb dX5_register_29 (by decide) ?_
      have e0 := Option.some.inj h
      exact Mi.ret' hx hb hr hlocks e0 rfl hP hD hS dX5_register_30
    · have h := ifn c_23 h
      refine lv_iload_n hx hb dX5_register_8 rfl (lv_at hl 2 rfl) ?_
      obtain ⟨r_24, hc_27, h⟩ := bn1_s h
      refine call_i (ws1 := [(a, .inr (5, [.ref a_registers, .ref a_owners, .ref a_looked, .ref a_ways, .int (v_taken), .int (v_leftSignal), .int (v_size), .int (v_ended), .int (v_guessed)])), (a_registers, .inl (cy 0, 120, .inl (f_registers)))]) (wr := [(a, .inr (5, [.ref a_registers, .ref a_owners, .ref a_looked, .ref a_ways, .int (v_taken), .int (v_leftSignal), .int (v_size), .int (v_ended), .int (v_guessed)])), (a_registers, .inl (cy 0, 120, .inl (f_registers)))]) (run_SN ⟨hx, hb, hml, hown, hts⟩ ((c_X7_isRegister l D cy (x2) r_24 hc_27) H.size) (va_cnB 1 hts gX5_register_X7_isRegister_n49 rfl rfl rfl (hK.2.2 _ (List.mem_of_getElem? (i := 7) rfl)) (hts (.initialized RX7) (List.mem_of_getElem? (i := 9) rfl)) hd_X7_isRegister.2 ⟨Nat.le_of_ble_eq_true rfl, Nat.le_of_ble_eq_true rfl⟩) (hts (.static yX7_isRegister) (List.mem_of_getElem? (i := 8) rfl)) KK.calling (fun U _ hW => hK.warm hW) hP hD [] [0, 1] [0, 1] rfl rfl rfl hl.1 rfl (lv_room (Nat.le_of_ble_eq_true rfl)) dX5_register_9) hP hD hS hA [] [0, 1] [0, 1] rfl rfl rfl rfl (fun H locs hP hD hS => ?_)
      refine lv_if_eq (tgt := 29) hx hb dX5_register_12 (by decide) (fun c_25 => ?_) (fun c_25 => ?_)
      · have h := ift c_25 h
        refine lv_iconst (v := (0 : Int32)) hx hb dX5_register_29 (by decide) ?_
        have e0 := Option.some.inj h
        exact Mi.ret' hx hb hr hlocks e0 rfl hP hD hS dX5_register_30
      · have h := ifn c_25 h
        refine lv_aload_n hx hb dX5_register_15 rfl (lv_at hl 0 rfl) ?_
        refine va_get (D := D) (ci := 5) (v := .ref a_registers) (C := RX5) (T := TX5) (N := 9) hx hb hts hinX5 hown hK.1 hP 0 rfl rfl 0 (by decide) (hts (.fieldLink RX5 9 "FrameWalks$Track" "registers" "[I") (List.mem_of_getElem? (i := 1) rfl)) (fun _ h9 => h9) rfl dX5_register_16 ?_
        refine lv_iload_n hx hb dX5_register_19 rfl (lv_at hl 1 rfl) ?_
        refine lv_bipush (v := (6 : Int32)) hx hb dX5_register_20 (by decide) ?_
        refine lv_imul hx hb dX5_register_22 ?_
        refine lv_iload_n hx hb dX5_register_23 rfl (lv_at hl 2 rfl) ?_
        refine lv_iadd hx hb dX5_register_24 ?_
        obtain ⟨i_26, h⟩ := cki_s h
        refine va_iald hx hb hK.1 hP 1 0 rfl rfl i_26 dX5_register_25 ?_
        refine lv_goto (tgt := 30) hx hb dX5_register_26 (by decide) ?_
        have e0 := Option.some.inj h
        exact Mi.ret' hx hb hr hlocks e0 rfl hP hD hS dX5_register_30
  exact main s.heap [] ls hP hD va_S.rf hl h
theorem hd_X5_lookUp : yX5_lookUp.cls = RX5 ∧ yX5_lookUp.cls ≠ "java/lang/invoke/MethodHandle" ∧ yX5_lookUp.cls ≠ "java/lang/invoke/VarHandle" ∧ (parseMethodDescriptor yX5_lookUp.desc).map (fun d => d.parameters.length) = some 2 := by decide +kernel
def f_X5_lookUp_b108 (v_size : Int32) (f_registers : Nat → Int32) (f_ways : Nat → Int32) (vp2_routines_width : Int32) (vp2_routines_size : Int32) (fp2_routines_cells : Nat → Int32) (k1 : Int32) (v_leftSignal : Int32) (f_owners : Nat → Int32) (f_looked : Nat → Int32) : Option (Int32 × (Nat → Int32) × (Nat → Int32)) := (ck (k1 = 0 ∨ k1 = 1) (some (k1, f_owners, f_looked)))
def f_X5_lookUp_b67 (v_size : Int32) (f_registers : Nat → Int32) (f_ways : Nat → Int32) (vp2_routines_width : Int32) (vp2_routines_size : Int32) (fp2_routines_cells : Nat → Int32) (y1 : Int32) (k1 : Int32) (k2 : Int32) (v_leftSignal : Int32) (f_owners : Nat → Int32) (f_looked : Nat → Int32) : Option (Int32 × (Nat → Int32) × (Nat → Int32)) := (cki (k1) 20 (cki (y1) 20 (bn1 (f_X6_ownerOf ((upd f_looked (k1).toNatClampNeg (k2)) (y1).toNatClampNeg) (vp2_routines_width) (vp2_routines_size) (fp2_routines_cells)) (fun r_73 => (cki (y1) 20 (cki (y1) 20 (bn1 (f_X3_at ((upd f_owners (y1).toNatClampNeg (r_73)) (y1).toNatClampNeg) ((2 : Int32)) (vp2_routines_width) (vp2_routines_size) 24 (fp2_routines_cells)) (fun r_76 => (if r_76 = (1 : Int32) then (f_X5_lookUp_b108 v_size f_registers f_ways vp2_routines_width vp2_routines_size fp2_routines_cells  ((1 : Int32)) (v_leftSignal) (upd f_owners (y1).toNatClampNeg (r_73)) (upd f_looked (k1).toNatClampNeg (k2))) else (f_X5_lookUp_b108 v_size f_registers f_ways vp2_routines_width vp2_routines_size fp2_routines_cells  ((0 : Int32)) (v_leftSignal) (upd f_owners (y1).toNatClampNeg (r_73)) (upd f_looked (k1).toNatClampNeg (k2))))))))))))
def f_X5_lookUp_b40 (v_size : Int32) (f_registers : Nat → Int32) (f_ways : Nat → Int32) (vp2_routines_width : Int32) (vp2_routines_size : Int32) (fp2_routines_cells : Nat → Int32) (y1 : Int32) (k0 : Int32) (v_leftSignal : Int32) (f_owners : Nat → Int32) (f_looked : Nat → Int32) : Option (Int32 × (Nat → Int32) × (Nat → Int32)) := (if k0 = 0 then (bn1 (f_X5_register (y1) ((5 : Int32)) (v_size) (f_registers)) (fun r_81 => (f_X5_lookUp_b67 v_size f_registers f_ways vp2_routines_width vp2_routines_size fp2_routines_cells  (y1) (y1) (r_81 - (1 : Int32)) (v_leftSignal) (f_owners) (f_looked)))) else (bn1 (f_X5_register (y1) ((5 : Int32)) (v_size) (f_registers)) (fun r_83 => (f_X5_lookUp_b67 v_size f_registers f_ways vp2_routines_width vp2_routines_size fp2_routines_cells  (y1) (y1) (r_83) (v_leftSignal) (f_owners) (f_looked)))))
def f_X5_lookUp_b39 (v_size : Int32) (f_registers : Nat → Int32) (f_ways : Nat → Int32) (vp2_routines_width : Int32) (vp2_routines_size : Int32) (fp2_routines_cells : Nat → Int32) (y1 : Int32) (v_leftSignal : Int32) (f_owners : Nat → Int32) (f_looked : Nat → Int32) : Option (Int32 × (Nat → Int32) × (Nat → Int32)) := (f_X5_lookUp_b40 v_size f_registers f_ways vp2_routines_width vp2_routines_size fp2_routines_cells  (y1) ((0 : Int32)) (v_leftSignal) (f_owners) (f_looked))
def f_X5_lookUp_b35 (v_size : Int32) (f_registers : Nat → Int32) (f_ways : Nat → Int32) (vp2_routines_width : Int32) (vp2_routines_size : Int32) (fp2_routines_cells : Nat → Int32) (y1 : Int32) (v_leftSignal : Int32) (f_owners : Nat → Int32) (f_looked : Nat → Int32) : Option (Int32 × (Nat → Int32) × (Nat → Int32)) := (f_X5_lookUp_b40 v_size f_registers f_ways vp2_routines_width vp2_routines_size fp2_routines_cells  (y1) ((1 : Int32)) (v_leftSignal) (f_owners) (f_looked))
def f_X5_lookUp (x1 : Int32) (v_leftSignal : Int32) (v_size : Int32) (f_registers : Nat → Int32) (f_owners : Nat → Int32) (f_looked : Nat → Int32) (f_ways : Nat → Int32) (vp2_routines_width : Int32) (vp2_routines_size : Int32) (fp2_routines_cells : Nat → Int32) : Option (Int32 × (Nat → Int32) × (Nat → Int32)) := (bn1 (f_X5_has (x1) (v_size)) (fun r_85 => (if r_85 = 0 then (some (v_leftSignal, f_owners, f_looked)) else (cki (x1) 20 (if f_ways (x1).toNatClampNeg = 0 then (f_X5_lookUp_b35 v_size f_registers f_ways vp2_routines_width vp2_routines_size fp2_routines_cells  (x1) (v_leftSignal) (f_owners) (f_looked)) else (cki (x1) 20 (if f_ways (x1).toNatClampNeg = (1 : Int32) then (if v_leftSignal = 0 then (f_X5_lookUp_b39 v_size f_registers f_ways vp2_routines_width vp2_routines_size fp2_routines_cells  (x1) (v_leftSignal) (f_owners) (f_looked)) else (f_X5_lookUp_b35 v_size f_registers f_ways vp2_routines_width vp2_routines_size fp2_routines_cells  (x1) (v_leftSignal) (f_owners) (f_looked))) else (f_X5_lookUp_b39 v_size f_registers f_ways vp2_routines_width vp2_routines_size fp2_routines_cells  (x1) (v_leftSignal) (f_owners) (f_looked)))))))))
set_option maxHeartbeats 4000000 in
set_option maxRecDepth 100000 in
theorem c_X5_lookUp (l : Launch) (D : va_G) (cy : Nat → ClassId) (a a_registers a_owners a_looked a_ways ap2 ap2_routines ap2_ops ap2_landings ap2_calls ap2_registers ap2_words ap2_routines_cells : Nat) (v_taken : Int32) (v_leftSignal : Int32) (v_size : Int32) (v_ended : Int32) (v_guessed : Int32) (f_registers : Nat → Int32) (f_owners : Nat → Int32) (f_looked : Nat → Int32) (f_ways : Nat → Int32) (vp2_routines_width : Int32) (vp2_routines_size : Int32) (fp2_routines_cells : Nat → Int32) (x1 : Int32) (z_v_leftSignal : Int32) (z_f_owners : Nat → Int32) (z_f_looked : Nat → Int32) (h : f_X5_lookUp x1 v_leftSignal v_size f_registers f_owners f_looked f_ways vp2_routines_width vp2_routines_size fp2_routines_cells = some (z_v_leftSignal, z_f_owners, z_f_looked)) : Mv l yX5_lookUp wsX5_lookUp ({ frames := 3, cells := 0, slots := 0, locals := 67 } : Room) (KK D cy) D [.ref a, .int (x1), .ref ap2] [(a, .inr (5, [.ref a_registers, .ref a_owners, .ref a_looked, .ref a_ways, .int (v_taken), .int (v_leftSignal), .int (v_size), .int (v_ended), .int (v_guessed)])), (a_registers, .inl (cy 0, 120, .inl (f_registers))), (a_owners, .inl (cy 0, 20, .inl (f_owners))), (a_looked, .inl (cy 0, 20, .inl (f_looked))), (a_ways, .inl (cy 0, 20, .inl (f_ways))), (ap2, .inr (6, [.ref ap2_routines, .ref ap2_ops, .ref ap2_landings, .ref ap2_calls, .ref ap2_registers, .ref ap2_words])), (ap2_routines, .inr (3, [.int (vp2_routines_width), .ref ap2_routines_cells, .int (vp2_routines_size)])), (ap2_routines_cells, .inl (cy 0, 24, .inl (fp2_routines_cells)))] [(a, .inr (5, [.ref a_registers, .ref a_owners, .ref a_looked, .ref a_ways, .int (v_taken), .int (z_v_leftSignal), .int (v_size), .int (v_ended), .int (v_guessed)])), (a_registers, .inl (cy 0, 120, .inl (f_registers))), (a_owners, .inl (cy 0, 20, .inl (z_f_owners))), (a_looked, .inl (cy 0, 20, .inl (z_f_looked))), (a_ways, .inl (cy 0, 20, .inl (f_ways))), (ap2, .inr (6, [.ref ap2_routines, .ref ap2_ops, .ref ap2_landings, .ref ap2_calls, .ref ap2_registers, .ref ap2_words])), (ap2_routines, .inr (3, [.int (vp2_routines_width), .ref ap2_routines_cells, .int (vp2_routines_size)])), (ap2_routines_cells, .inl (cy 0, 24, .inl (fp2_routines_cells)))] := by
  intro sz
  refine Met.mk0 (cc := cX5_lookUp) (maxL := 4) (ret := none) (Qc := fun A => Qv D A [(a, .inr (5, [.ref a_registers, .ref a_owners, .ref a_looked, .ref a_ways, .int (v_taken), .int (z_v_leftSignal), .int (v_size), .int (v_ended), .int (v_guessed)])), (a_registers, .inl (cy 0, 120, .inl (f_registers))), (a_owners, .inl (cy 0, 20, .inl (z_f_owners))), (a_looked, .inl (cy 0, 20, .inl (z_f_looked))), (a_ways, .inl (cy 0, 20, .inl (f_ways))), (ap2, .inr (6, [.ref ap2_routines, .ref ap2_ops, .ref ap2_landings, .ref ap2_calls, .ref ap2_registers, .ref ap2_words])), (ap2_routines, .inr (3, [.int (vp2_routines_width), .ref ap2_routines_cells, .int (vp2_routines_size)])), (ap2_routines_cells, .inl (cy 0, 24, .inl (fp2_routines_cells)))]) (by decide) rfl (Nat.le_of_ble_eq_true rfl) ?_
  intro p e s m below meth c A ls hx hb hml hown hts hr hlocks hK hP hD hA hl
  have hown : s.vm.findClass RX5 = some m.cls := hown
  have hl : lv_has ls 4 [(0, .ref a), (1, .int (x1)), (2, .ref ap2)] := hl
  have hinX5 : ∀ w ∈ u_ws RX5 TX5 9, w ∈ wsX5_lookUp := (fun w h => List.mem_cons_of_mem _ (List.mem_append_left _ (List.mem_append_left _ (List.mem_append_right _ h))))
  have hinX6 : ∀ w ∈ u_ws RX6 TX6 6, w ∈ wsX5_lookUp := (fun w h => List.mem_cons_of_mem _ (List.mem_append_left _ (List.mem_append_right _ h)))
  have hinX3 : ∀ w ∈ u_ws RX3 TX3 3, w ∈ wsX5_lookUp := (fun w h => List.mem_cons_of_mem _ (List.mem_append_right _ h))
  have hb108 : ∀ (k1 : Int32) (v_leftSignal : Int32) (f_owners : Nat → Int32) (f_looked : Nat → Int32) (H : Heap) (locs : List Loc) (ls : Array Slot), va_P D vwCl [(a, .inr (5, [.ref a_registers, .ref a_owners, .ref a_looked, .ref a_ways, .int (v_taken), .int (v_leftSignal), .int (v_size), .int (v_ended), .int (v_guessed)])), (a_registers, .inl (cy 0, 120, .inl (f_registers))), (a_owners, .inl (cy 0, 20, .inl (f_owners))), (a_looked, .inl (cy 0, 20, .inl (f_looked))), (a_ways, .inl (cy 0, 20, .inl (f_ways))), (ap2, .inr (6, [.ref ap2_routines, .ref ap2_ops, .ref ap2_landings, .ref ap2_calls, .ref ap2_registers, .ref ap2_words])), (ap2_routines, .inr (3, [.int (vp2_routines_width), .ref ap2_routines_cells, .int (vp2_routines_size)])), (ap2_routines_cells, .inl (cy 0, 24, .inl (fp2_routines_cells)))] H → va_D A [(a, .inr (5, [.ref a_registers, .ref a_owners, .ref a_looked, .ref a_ways, .int (v_taken), .int (v_leftSignal), .int (v_size), .int (v_ended), .int (v_guessed)])), (a_registers, .inl (cy 0, 120, .inl (f_registers))), (a_owners, .inl (cy 0, 20, .inl (f_owners))), (a_looked, .inl (cy 0, 20, .inl (f_looked))), (a_ways, .inl (cy 0, 20, .inl (f_ways))), (ap2, .inr (6, [.ref ap2_routines, .ref ap2_ops, .ref ap2_landings, .ref ap2_calls, .ref ap2_registers, .ref ap2_words])), (ap2_routines, .inr (3, [.int (vp2_routines_width), .ref ap2_routines_cells, .int (vp2_routines_size)])), (ap2_routines_cells, .inl (cy 0, 24, .inl (fp2_routines_cells)))] → va_S A s.heap H locs → lv_has ls 4 [] → f_X5_lookUp_b108 v_size f_registers f_ways vp2_routines_width vp2_routines_size fp2_routines_cells  k1 v_leftSignal f_owners f_looked = some (z_v_leftSignal, z_f_owners, z_f_looked) → W p l e ({ frames := 3, cells := 0, slots := 0, locals := 67 } : Room) s m [.ref a, .int (x1), .ref ap2].toArray below meth c H locs 0 0 (MQ below (Qv D A [(a, .inr (5, [.ref a_registers, .ref a_owners, .ref a_looked, .ref a_ways, .int (v_taken), .int (z_v_leftSignal), .int (v_size), .int (v_ended), .int (v_guessed)])), (a_registers, .inl (cy 0, 120, .inl (f_registers))), (a_owners, .inl (cy 0, 20, .inl (z_f_owners))), (a_looked, .inl (cy 0, 20, .inl (z_f_looked))), (a_ways, .inl (cy 0, 20, .inl (f_ways))), (ap2, .inr (6, [.ref ap2_routines, .ref ap2_ops, .ref ap2_landings, .ref ap2_calls, .ref ap2_registers, .ref ap2_words])), (ap2_routines, .inr (3, [.int (vp2_routines_width), .ref ap2_routines_cells, .int (vp2_routines_size)])), (ap2_routines_cells, .inl (cy 0, 24, .inl (fp2_routines_cells)))]) [.ref a, .int (x1), .ref ap2].toArray s 0 0 A) (F0 m 108 ls [.int (k1), .ref a]) := by
    intro k1 v_leftSignal f_owners f_looked H locs ls hP hD hS hl h
    unfold f_X5_lookUp_b108 at h
    obtain ⟨z_70, h⟩ := ck_s h
    refine va_put (D := D) (ci := 5) (v := .int (k1)) (ty := .boolean) (C := RX5) (T := TX5) (N := 9) hx hb hts hinX5 tyX5 tyX5_ok nmX5 hown hK.1 hP hD hS 0 rfl rfl 5 (by decide) (hts (.fieldLink RX5 28 "FrameWalks$Track" "leftSignal" "Z") (List.mem_of_getElem? (i := 2) rfl)) (fun _ h9 => h9) rfl (by decide +kernel) (is01_n z_70) (is01_f z_70) (Nat.le_of_ble_eq_true rfl) dX5_lookUp_108 (fun H locs hP hD hS => ?_)
    have hP : va_P D vwCl [(a, .inr (5, [.ref a_registers, .ref a_owners, .ref a_looked, .ref a_ways, .int (v_taken), .int (k1), .int (v_size), .int (v_ended), .int (v_guessed)])), (a_registers, .inl (cy 0, 120, .inl (f_registers))), (a_owners, .inl (cy 0, 20, .inl (f_owners))), (a_looked, .inl (cy 0, 20, .inl (f_looked))), (a_ways, .inl (cy 0, 20, .inl (f_ways))), (ap2, .inr (6, [.ref ap2_routines, .ref ap2_ops, .ref ap2_landings, .ref ap2_calls, .ref ap2_registers, .ref ap2_words])), (ap2_routines, .inr (3, [.int (vp2_routines_width), .ref ap2_routines_cells, .int (vp2_routines_size)])), (ap2_routines_cells, .inl (cy 0, 24, .inl (fp2_routines_cells)))] H := hP
    have hD : va_D A [(a, .inr (5, [.ref a_registers, .ref a_owners, .ref a_looked, .ref a_ways, .int (v_taken), .int (k1), .int (v_size), .int (v_ended), .int (v_guessed)])), (a_registers, .inl (cy 0, 120, .inl (f_registers))), (a_owners, .inl (cy 0, 20, .inl (f_owners))), (a_looked, .inl (cy 0, 20, .inl (f_looked))), (a_ways, .inl (cy 0, 20, .inl (f_ways))), (ap2, .inr (6, [.ref ap2_routines, .ref ap2_ops, .ref ap2_landings, .ref ap2_calls, .ref ap2_registers, .ref ap2_words])), (ap2_routines, .inr (3, [.int (vp2_routines_width), .ref ap2_routines_cells, .int (vp2_routines_size)])), (ap2_routines_cells, .inl (cy 0, 24, .inl (fp2_routines_cells)))] := hD
    obtain ⟨e0, e1, e2⟩ := tp3_s h
    exact Mv.ret' hx hb hr hlocks (by rw [← e0, ← e1, ← e2]) hP hD hS dX5_lookUp_111
  have hb67 : ∀ (y1 : Int32) (k1 : Int32) (k2 : Int32) (v_leftSignal : Int32) (f_owners : Nat → Int32) (f_looked : Nat → Int32) (H : Heap) (locs : List Loc) (ls : Array Slot), va_P D vwCl [(a, .inr (5, [.ref a_registers, .ref a_owners, .ref a_looked, .ref a_ways, .int (v_taken), .int (v_leftSignal), .int (v_size), .int (v_ended), .int (v_guessed)])), (a_registers, .inl (cy 0, 120, .inl (f_registers))), (a_owners, .inl (cy 0, 20, .inl (f_owners))), (a_looked, .inl (cy 0, 20, .inl (f_looked))), (a_ways, .inl (cy 0, 20, .inl (f_ways))), (ap2, .inr (6, [.ref ap2_routines, .ref ap2_ops, .ref ap2_landings, .ref ap2_calls, .ref ap2_registers, .ref ap2_words])), (ap2_routines, .inr (3, [.int (vp2_routines_width), .ref ap2_routines_cells, .int (vp2_routines_size)])), (ap2_routines_cells, .inl (cy 0, 24, .inl (fp2_routines_cells)))] H → va_D A [(a, .inr (5, [.ref a_registers, .ref a_owners, .ref a_looked, .ref a_ways, .int (v_taken), .int (v_leftSignal), .int (v_size), .int (v_ended), .int (v_guessed)])), (a_registers, .inl (cy 0, 120, .inl (f_registers))), (a_owners, .inl (cy 0, 20, .inl (f_owners))), (a_looked, .inl (cy 0, 20, .inl (f_looked))), (a_ways, .inl (cy 0, 20, .inl (f_ways))), (ap2, .inr (6, [.ref ap2_routines, .ref ap2_ops, .ref ap2_landings, .ref ap2_calls, .ref ap2_registers, .ref ap2_words])), (ap2_routines, .inr (3, [.int (vp2_routines_width), .ref ap2_routines_cells, .int (vp2_routines_size)])), (ap2_routines_cells, .inl (cy 0, 24, .inl (fp2_routines_cells)))] → va_S A s.heap H locs → lv_has ls 4 [(0, .ref a), (1, .int (y1)), (2, .ref ap2)] → f_X5_lookUp_b67 v_size f_registers f_ways vp2_routines_width vp2_routines_size fp2_routines_cells  y1 k1 k2 v_leftSignal f_owners f_looked = some (z_v_leftSignal, z_f_owners, z_f_looked) → W p l e ({ frames := 3, cells := 0, slots := 0, locals := 67 } : Room) s m [.ref a, .int (x1), .ref ap2].toArray below meth c H locs 0 0 (MQ below (Qv D A [(a, .inr (5, [.ref a_registers, .ref a_owners, .ref a_looked, .ref a_ways, .int (v_taken), .int (z_v_leftSignal), .int (v_size), .int (v_ended), .int (v_guessed)])), (a_registers, .inl (cy 0, 120, .inl (f_registers))), (a_owners, .inl (cy 0, 20, .inl (z_f_owners))), (a_looked, .inl (cy 0, 20, .inl (z_f_looked))), (a_ways, .inl (cy 0, 20, .inl (f_ways))), (ap2, .inr (6, [.ref ap2_routines, .ref ap2_ops, .ref ap2_landings, .ref ap2_calls, .ref ap2_registers, .ref ap2_words])), (ap2_routines, .inr (3, [.int (vp2_routines_width), .ref ap2_routines_cells, .int (vp2_routines_size)])), (ap2_routines_cells, .inl (cy 0, 24, .inl (fp2_routines_cells)))]) [.ref a, .int (x1), .ref ap2].toArray s 0 0 A) (F0 m 67 ls [.int (k2), .int (k1), .ref a_looked]) := by
    intro y1 k1 k2 v_leftSignal f_owners f_looked H locs ls hP hD hS hl h
    unfold f_X5_lookUp_b67 at h
    obtain ⟨i_71, h⟩ := cki_s h
    refine va_iast hx hb hK.1 hP hD hS 3 0 rfl rfl i_71 dX5_lookUp_67 (fun H locs hP hD hS => ?_)
    have hP : va_P D vwCl [(a, .inr (5, [.ref a_registers, .ref a_owners, .ref a_looked, .ref a_ways, .int (v_taken), .int (v_leftSignal), .int (v_size), .int (v_ended), .int (v_guessed)])), (a_registers, .inl (cy 0, 120, .inl (f_registers))), (a_owners, .inl (cy 0, 20, .inl (f_owners))), (a_looked, .inl (cy 0, 20, .inl (upd f_looked (k1).toNatClampNeg (k2)))), (a_ways, .inl (cy 0, 20, .inl (f_ways))), (ap2, .inr (6, [.ref ap2_routines, .ref ap2_ops, .ref ap2_landings, .ref ap2_calls, .ref ap2_registers, .ref ap2_words])), (ap2_routines, .inr (3, [.int (vp2_routines_width), .ref ap2_routines_cells, .int (vp2_routines_size)])), (ap2_routines_cells, .inl (cy 0, 24, .inl (fp2_routines_cells)))] H := hP
    have hD : va_D A [(a, .inr (5, [.ref a_registers, .ref a_owners, .ref a_looked, .ref a_ways, .int (v_taken), .int (v_leftSignal), .int (v_size), .int (v_ended), .int (v_guessed)])), (a_registers, .inl (cy 0, 120, .inl (f_registers))), (a_owners, .inl (cy 0, 20, .inl (f_owners))), (a_looked, .inl (cy 0, 20, .inl (upd f_looked (k1).toNatClampNeg (k2)))), (a_ways, .inl (cy 0, 20, .inl (f_ways))), (ap2, .inr (6, [.ref ap2_routines, .ref ap2_ops, .ref ap2_landings, .ref ap2_calls, .ref ap2_registers, .ref ap2_words])), (ap2_routines, .inr (3, [.int (vp2_routines_width), .ref ap2_routines_cells, .int (vp2_routines_size)])), (ap2_routines_cells, .inl (cy 0, 24, .inl (fp2_routines_cells)))] := hD
    refine lv_aload_n hx hb dX5_lookUp_68 rfl (lv_at hl 0 rfl) ?_
    refine va_get (D := D) (ci := 5) (v := .ref a_owners) (C := RX5) (T := TX5) (N := 9) hx hb hts hinX5 hown hK.1 hP 0 rfl rfl 1 (by decide) (hts (.fieldLink RX5 15 "FrameWalks$Track" "owners" "[I") (List.mem_of_getElem? (i := 4) rfl)) (fun _ h9 => h9) rfl dX5_lookUp_69 ?_
    refine lv_iload_n hx hb dX5_lookUp_72 rfl (lv_at hl 1 rfl) ?_
    refine lv_aload_n hx hb dX5_lookUp_73 rfl (lv_at hl 2 rfl) ?_
    refine lv_aload_n hx hb dX5_lookUp_74 rfl (lv_at hl 0 rfl) ?_
    refine va_get (D := D) (ci := 5) (v := .ref a_looked) (C := RX5) (T := TX5) (N := 9) hx hb hts hinX5 hown hK.1 hP 0 rfl rfl 2 (by decide) (hts (.fieldLink RX5 18 "FrameWalks$Track" "looked" "[I") (List.mem_of_getElem? (i := 3) rfl)) (fun _ h9 => h9) rfl dX5_lookUp_75 ?_
    refine lv_iload_n hx hb dX5_lookUp_78 rfl (lv_at hl 1 rfl) ?_
    obtain ⟨i_72, h⟩ := cki_s h
    refine va_iald hx hb hK.1 hP 3 0 rfl rfl i_72 dX5_lookUp_79 ?_
    obtain ⟨r_73, hc_79, h⟩ := bn1_s h
    refine call_i (ws1 := [(a, .inr (5, [.ref a_registers, .ref a_owners, .ref a_looked, .ref a_ways, .int (v_taken), .int (v_leftSignal), .int (v_size), .int (v_ended), .int (v_guessed)])), (a_registers, .inl (cy 0, 120, .inl (f_registers))), (a_owners, .inl (cy 0, 20, .inl (f_owners))), (a_looked, .inl (cy 0, 20, .inl (upd f_looked (k1).toNatClampNeg (k2)))), (a_ways, .inl (cy 0, 20, .inl (f_ways))), (ap2, .inr (6, [.ref ap2_routines, .ref ap2_ops, .ref ap2_landings, .ref ap2_calls, .ref ap2_registers, .ref ap2_words])), (ap2_routines, .inr (3, [.int (vp2_routines_width), .ref ap2_routines_cells, .int (vp2_routines_size)])), (ap2_routines_cells, .inl (cy 0, 24, .inl (fp2_routines_cells)))]) (wr := [(a, .inr (5, [.ref a_registers, .ref a_owners, .ref a_looked, .ref a_ways, .int (v_taken), .int (v_leftSignal), .int (v_size), .int (v_ended), .int (v_guessed)])), (a_registers, .inl (cy 0, 120, .inl (f_registers))), (a_owners, .inl (cy 0, 20, .inl (f_owners))), (a_looked, .inl (cy 0, 20, .inl (upd f_looked (k1).toNatClampNeg (k2)))), (a_ways, .inl (cy 0, 20, .inl (f_ways)))]) (run_V ⟨hx, hb, hml, hown, hts⟩ ((c_X6_ownerOf l D cy ap2 ap2_routines ap2_ops ap2_landings ap2_calls ap2_registers ap2_words ap2_routines_cells (vp2_routines_width) (vp2_routines_size) (fp2_routines_cells) ((upd f_looked (k1).toNatClampNeg (k2)) (y1).toNatClampNeg) r_73 hc_79) H.size) (cwV 1 hts gX5_lookUp_X6_ownerOf rfl rfl rfl hd_X6_ownerOf ⟨Nat.le_of_ble_eq_true rfl, Nat.le_of_ble_eq_true rfl⟩) KK.calling (fun U _ hW => hK.warm hW) hK.1 hP hD [5, 6, 7] [0, 1, 2, 3, 4] [0, 1, 2, 3, 4, 5, 6, 7] rfl rfl 5 6 rfl rfl rfl rfl hl.1 rfl (lv_room (Nat.le_of_ble_eq_true rfl)) dX5_lookUp_80) hP hD hS hA [5, 6, 7] [0, 1, 2, 3, 4] [0, 1, 2, 3, 4, 5, 6, 7] rfl rfl rfl rfl (fun H locs hP hD hS => ?_)
    obtain ⟨i_74, h⟩ := cki_s h
    refine va_iast hx hb hK.1 hP hD hS 2 0 rfl rfl i_74 dX5_lookUp_83 (fun H locs hP hD hS => ?_)
    have hP : va_P D vwCl [(a, .inr (5, [.ref a_registers, .ref a_owners, .ref a_looked, .ref a_ways, .int (v_taken), .int (v_leftSignal), .int (v_size), .int (v_ended), .int (v_guessed)])), (a_registers, .inl (cy 0, 120, .inl (f_registers))), (a_owners, .inl (cy 0, 20, .inl (upd f_owners (y1).toNatClampNeg (r_73)))), (a_looked, .inl (cy 0, 20, .inl (upd f_looked (k1).toNatClampNeg (k2)))), (a_ways, .inl (cy 0, 20, .inl (f_ways))), (ap2, .inr (6, [.ref ap2_routines, .ref ap2_ops, .ref ap2_landings, .ref ap2_calls, .ref ap2_registers, .ref ap2_words])), (ap2_routines, .inr (3, [.int (vp2_routines_width), .ref ap2_routines_cells, .int (vp2_routines_size)])), (ap2_routines_cells, .inl (cy 0, 24, .inl (fp2_routines_cells)))] H := hP
    have hD : va_D A [(a, .inr (5, [.ref a_registers, .ref a_owners, .ref a_looked, .ref a_ways, .int (v_taken), .int (v_leftSignal), .int (v_size), .int (v_ended), .int (v_guessed)])), (a_registers, .inl (cy 0, 120, .inl (f_registers))), (a_owners, .inl (cy 0, 20, .inl (upd f_owners (y1).toNatClampNeg (r_73)))), (a_looked, .inl (cy 0, 20, .inl (upd f_looked (k1).toNatClampNeg (k2)))), (a_ways, .inl (cy 0, 20, .inl (f_ways))), (ap2, .inr (6, [.ref ap2_routines, .ref ap2_ops, .ref ap2_landings, .ref ap2_calls, .ref ap2_registers, .ref ap2_words])), (ap2_routines, .inr (3, [.int (vp2_routines_width), .ref ap2_routines_cells, .int (vp2_routines_size)])), (ap2_routines_cells, .inl (cy 0, 24, .inl (fp2_routines_cells)))] := hD
    refine lv_aload_n hx hb dX5_lookUp_84 rfl (lv_at hl 0 rfl) ?_
    refine lv_aload_n hx hb dX5_lookUp_85 rfl (lv_at hl 2 rfl) ?_
    refine va_getN (D := D) (ci := 6) (v := .ref ap2_routines) (C := RX6) (T := TX6) (N := 6) hx hb hts hinX6 hown hK.1 hP 5 rfl rfl 0 (by decide) ((hK.2.1 _ (List.mem_of_getElem? (i := 6) rfl)).use rfl) (fun _ h9 => h9) rfl dX5_lookUp_86 ?_
    refine lv_aload_n hx hb dX5_lookUp_89 rfl (lv_at hl 0 rfl) ?_
    refine va_get (D := D) (ci := 5) (v := .ref a_owners) (C := RX5) (T := TX5) (N := 9) hx hb hts hinX5 hown hK.1 hP 0 rfl rfl 1 (by decide) (hts (.fieldLink RX5 15 "FrameWalks$Track" "owners" "[I") (List.mem_of_getElem? (i := 4) rfl)) (fun _ h9 => h9) rfl dX5_lookUp_90 ?_
    refine lv_iload_n hx hb dX5_lookUp_93 rfl (lv_at hl 1 rfl) ?_
    obtain ⟨i_75, h⟩ := cki_s h
    refine va_iald hx hb hK.1 hP 2 0 rfl rfl i_75 dX5_lookUp_94 ?_
    refine lv_iconst (v := (2 : Int32)) hx hb dX5_lookUp_95 (by decide) ?_
    obtain ⟨r_76, hc_78, h⟩ := bn1_s h
    refine call_i (ws1 := [(a, .inr (5, [.ref a_registers, .ref a_owners, .ref a_looked, .ref a_ways, .int (v_taken), .int (v_leftSignal), .int (v_size), .int (v_ended), .int (v_guessed)])), (a_registers, .inl (cy 0, 120, .inl (f_registers))), (a_owners, .inl (cy 0, 20, .inl (upd f_owners (y1).toNatClampNeg (r_73)))), (a_looked, .inl (cy 0, 20, .inl (upd f_looked (k1).toNatClampNeg (k2)))), (a_ways, .inl (cy 0, 20, .inl (f_ways))), (ap2, .inr (6, [.ref ap2_routines, .ref ap2_ops, .ref ap2_landings, .ref ap2_calls, .ref ap2_registers, .ref ap2_words])), (ap2_routines, .inr (3, [.int (vp2_routines_width), .ref ap2_routines_cells, .int (vp2_routines_size)])), (ap2_routines_cells, .inl (cy 0, 24, .inl (fp2_routines_cells)))]) (wr := [(a, .inr (5, [.ref a_registers, .ref a_owners, .ref a_looked, .ref a_ways, .int (v_taken), .int (v_leftSignal), .int (v_size), .int (v_ended), .int (v_guessed)])), (a_registers, .inl (cy 0, 120, .inl (f_registers))), (a_owners, .inl (cy 0, 20, .inl (upd f_owners (y1).toNatClampNeg (r_73)))), (a_looked, .inl (cy 0, 20, .inl (upd f_looked (k1).toNatClampNeg (k2)))), (a_ways, .inl (cy 0, 20, .inl (f_ways))), (ap2, .inr (6, [.ref ap2_routines, .ref ap2_ops, .ref ap2_landings, .ref ap2_calls, .ref ap2_registers, .ref ap2_words]))]) (run_V ⟨hx, hb, hml, hown, hts⟩ ((c_X3_at l D cy ap2_routines ap2_routines_cells (vp2_routines_width) (vp2_routines_size) 24 (fp2_routines_cells) ((upd f_owners (y1).toNatClampNeg (r_73)) (y1).toNatClampNeg) ((2 : Int32)) r_76 hc_78) H.size) (cwV 2 hts gX5_lookUp_X3_at rfl rfl rfl hd_X3_at ⟨Nat.le_of_ble_eq_true rfl, Nat.le_of_ble_eq_true rfl⟩) KK.calling (fun U _ hW => hK.warm hW) hK.1 hP hD [6, 7] [0, 1, 2, 3, 4, 5] [0, 1, 2, 3, 4, 5, 6, 7] rfl rfl 6 3 rfl rfl rfl rfl hl.1 rfl (lv_room (Nat.le_of_ble_eq_true rfl)) dX5_lookUp_96) hP hD hS hA [6, 7] [0, 1, 2, 3, 4, 5] [0, 1, 2, 3, 4, 5, 6, 7] rfl rfl rfl rfl (fun H locs hP hD hS => ?_)
    refine lv_iconst (v := (1 : Int32)) hx hb dX5_lookUp_99 (by decide) ?_
    refine lv_icmp_ne (tgt := 107) hx hb dX5_lookUp_100 (by decide) (fun c_77 => ?_) (fun c_77 => ?_)
    · have h := ifn c_77 h
      refine lv_iconst (v := (0 : Int32)) hx hb dX5_lookUp_107 (by decide) ?_
      exact hb108 ((0 : Int32)) (v_leftSignal) (upd f_owners (y1).toNatClampNeg (r_73)) (upd f_looked (k1).toNatClampNeg (k2)) H locs ls hP hD hS (lv_sub hl [] rfl) h
    · have h := ift c_77 h
      refine lv_iconst (v := (1 : Int32)) hx hb dX5_lookUp_103 (by decide) ?_
      refine lv_goto (tgt := 108) hx hb dX5_lookUp_104 (by decide) ?_
      exact hb108 ((1 : Int32)) (v_leftSignal) (upd f_owners (y1).toNatClampNeg (r_73)) (upd f_looked (k1).toNatClampNeg (k2)) H locs ls hP hD hS (lv_sub hl [] rfl) h
  have hb40 : ∀ (y1 : Int32) (k0 : Int32) (v_leftSignal : Int32) (f_owners : Nat → Int32) (f_looked : Nat → Int32) (H : Heap) (locs : List Loc) (ls : Array Slot), va_P D vwCl [(a, .inr (5, [.ref a_registers, .ref a_owners, .ref a_looked, .ref a_ways, .int (v_taken), .int (v_leftSignal), .int (v_size), .int (v_ended), .int (v_guessed)])), (a_registers, .inl (cy 0, 120, .inl (f_registers))), (a_owners, .inl (cy 0, 20, .inl (f_owners))), (a_looked, .inl (cy 0, 20, .inl (f_looked))), (a_ways, .inl (cy 0, 20, .inl (f_ways))), (ap2, .inr (6, [.ref ap2_routines, .ref ap2_ops, .ref ap2_landings, .ref ap2_calls, .ref ap2_registers, .ref ap2_words])), (ap2_routines, .inr (3, [.int (vp2_routines_width), .ref ap2_routines_cells, .int (vp2_routines_size)])), (ap2_routines_cells, .inl (cy 0, 24, .inl (fp2_routines_cells)))] H → va_D A [(a, .inr (5, [.ref a_registers, .ref a_owners, .ref a_looked, .ref a_ways, .int (v_taken), .int (v_leftSignal), .int (v_size), .int (v_ended), .int (v_guessed)])), (a_registers, .inl (cy 0, 120, .inl (f_registers))), (a_owners, .inl (cy 0, 20, .inl (f_owners))), (a_looked, .inl (cy 0, 20, .inl (f_looked))), (a_ways, .inl (cy 0, 20, .inl (f_ways))), (ap2, .inr (6, [.ref ap2_routines, .ref ap2_ops, .ref ap2_landings, .ref ap2_calls, .ref ap2_registers, .ref ap2_words])), (ap2_routines, .inr (3, [.int (vp2_routines_width), .ref ap2_routines_cells, .int (vp2_routines_size)])), (ap2_routines_cells, .inl (cy 0, 24, .inl (fp2_routines_cells)))] → va_S A s.heap H locs → lv_has ls 4 [(0, .ref a), (1, .int (y1)), (2, .ref ap2)] → f_X5_lookUp_b40 v_size f_registers f_ways vp2_routines_width vp2_routines_size fp2_routines_cells  y1 k0 v_leftSignal f_owners f_looked = some (z_v_leftSignal, z_f_owners, z_f_looked) → W p l e ({ frames := 3, cells := 0, slots := 0, locals := 67 } : Room) s m [.ref a, .int (x1), .ref ap2].toArray below meth c H locs 0 0 (MQ below (Qv D A [(a, .inr (5, [.ref a_registers, .ref a_owners, .ref a_looked, .ref a_ways, .int (v_taken), .int (z_v_leftSignal), .int (v_size), .int (v_ended), .int (v_guessed)])), (a_registers, .inl (cy 0, 120, .inl (f_registers))), (a_owners, .inl (cy 0, 20, .inl (z_f_owners))), (a_looked, .inl (cy 0, 20, .inl (z_f_looked))), (a_ways, .inl (cy 0, 20, .inl (f_ways))), (ap2, .inr (6, [.ref ap2_routines, .ref ap2_ops, .ref ap2_landings, .ref ap2_calls, .ref ap2_registers, .ref ap2_words])), (ap2_routines, .inr (3, [.int (vp2_routines_width), .ref ap2_routines_cells, .int (vp2_routines_size)])), (ap2_routines_cells, .inl (cy 0, 24, .inl (fp2_routines_cells)))]) [.ref a, .int (x1), .ref ap2].toArray s 0 0 A) (F0 m 40 ls [.int (k0)]) := by
    intro y1 k0 v_leftSignal f_owners f_looked H locs ls hP hD hS hl h
    unfold f_X5_lookUp_b40 at h
    refine lv_istore_n (lv' := [(3, .int (k0)), (0, .ref a), (1, .int (y1)), (2, .ref ap2)]) hx hb dX5_lookUp_40 rfl hl (by decide) rfl (fun ls hl => ?_)
    refine lv_aload_n hx hb dX5_lookUp_41 rfl (lv_at hl 1 rfl) ?_
    refine va_get (D := D) (ci := 5) (v := .ref a_looked) (C := RX5) (T := TX5) (N := 9) hx hb hts hinX5 hown hK.1 hP 0 rfl rfl 2 (by decide) (hts (.fieldLink RX5 18 "FrameWalks$Track" "looked" "[I") (List.mem_of_getElem? (i := 3) rfl)) (fun _ h9 => h9) rfl dX5_lookUp_42 ?_
    refine lv_iload_n hx hb dX5_lookUp_45 rfl (lv_at hl 2 rfl) ?_
    refine lv_iload_n hx hb dX5_lookUp_46 rfl (lv_at hl 0 rfl) ?_
    refine lv_if_eq (tgt := 59) hx hb dX5_lookUp_47 (by decide) (fun c_80 => ?_) (fun c_80 => ?_)
    · have h := ift c_80 h
      refine lv_aload_n hx hb dX5_lookUp_59 rfl (lv_at hl 1 rfl) ?_
      refine lv_iload_n hx hb dX5_lookUp_60 rfl (lv_at hl 2 rfl) ?_
      refine lv_iconst (v := (5 : Int32)) hx hb dX5_lookUp_61 (by decide) ?_
      obtain ⟨r_81, hc_82, h⟩ := bn1_s h
      refine call_i (ws1 := [(a, .inr (5, [.ref a_registers, .ref a_owners, .ref a_looked, .ref a_ways, .int (v_taken), .int (v_leftSignal), .int (v_size), .int (v_ended), .int (v_guessed)])), (a_registers, .inl (cy 0, 120, .inl (f_registers))), (a_owners, .inl (cy 0, 20, .inl (f_owners))), (a_looked, .inl (cy 0, 20, .inl (f_looked))), (a_ways, .inl (cy 0, 20, .inl (f_ways))), (ap2, .inr (6, [.ref ap2_routines, .ref ap2_ops, .ref ap2_landings, .ref ap2_calls, .ref ap2_registers, .ref ap2_words])), (ap2_routines, .inr (3, [.int (vp2_routines_width), .ref ap2_routines_cells, .int (vp2_routines_size)])), (ap2_routines_cells, .inl (cy 0, 24, .inl (fp2_routines_cells)))]) (wr := [(a_owners, .inl (cy 0, 20, .inl (f_owners))), (a_looked, .inl (cy 0, 20, .inl (f_looked))), (a_ways, .inl (cy 0, 20, .inl (f_ways))), (ap2, .inr (6, [.ref ap2_routines, .ref ap2_ops, .ref ap2_landings, .ref ap2_calls, .ref ap2_registers, .ref ap2_words])), (ap2_routines, .inr (3, [.int (vp2_routines_width), .ref ap2_routines_cells, .int (vp2_routines_size)])), (ap2_routines_cells, .inl (cy 0, 24, .inl (fp2_routines_cells)))]) (run_V ⟨hx, hb, hml, hown, hts⟩ ((c_X5_register l D cy a a_registers a_owners a_looked a_ways (v_taken) (v_leftSignal) (v_size) (v_ended) (v_guessed) (f_registers) (y1) ((5 : Int32)) r_81 hc_82) H.size) (cwV 2 hts gX5_lookUp_X5_register rfl rfl rfl hd_X5_register ⟨Nat.le_of_ble_eq_true rfl, Nat.le_of_ble_eq_true rfl⟩) KK.calling (fun U _ hW => hK.warm hW) hK.1 hP hD [0, 1] [2, 3, 4, 5, 6, 7] [6, 7, 0, 1, 2, 3, 4, 5] rfl rfl 0 5 rfl rfl rfl rfl hl.1 rfl (lv_room (Nat.le_of_ble_eq_true rfl)) dX5_lookUp_62) hP hD hS hA [0, 1] [2, 3, 4, 5, 6, 7] [6, 7, 0, 1, 2, 3, 4, 5] rfl rfl rfl rfl (fun H locs hP hD hS => ?_)
      refine lv_iconst (v := (1 : Int32)) hx hb dX5_lookUp_65 (by decide) ?_
      refine lv_isub hx hb dX5_lookUp_66 ?_
      exact hb67 (y1) (y1) (r_81 - (1 : Int32)) (v_leftSignal) (f_owners) (f_looked) H locs ls hP hD hS (lv_sub hl [1, 2, 3] rfl) h
    · have h := ifn c_80 h
      refine lv_aload_n hx hb dX5_lookUp_50 rfl (lv_at hl 1 rfl) ?_
      refine lv_iload_n hx hb dX5_lookUp_51 rfl (lv_at hl 2 rfl) ?_
      refine lv_iconst (v := (5 : Int32)) hx hb dX5_lookUp_52 (by decide) ?_
      obtain ⟨r_83, hc_84, h⟩ := bn1_s h
      refine call_i (ws1 := [(a, .inr (5, [.ref a_registers, .ref a_owners, .ref a_looked, .ref a_ways, .int (v_taken), .int (v_leftSignal), .int (v_size), .int (v_ended), .int (v_guessed)])), (a_registers, .inl (cy 0, 120, .inl (f_registers))), (a_owners, .inl (cy 0, 20, .inl (f_owners))), (a_looked, .inl (cy 0, 20, .inl (f_looked))), (a_ways, .inl (cy 0, 20, .inl (f_ways))), (ap2, .inr (6, [.ref ap2_routines, .ref ap2_ops, .ref ap2_landings, .ref ap2_calls, .ref ap2_registers, .ref ap2_words])), (ap2_routines, .inr (3, [.int (vp2_routines_width), .ref ap2_routines_cells, .int (vp2_routines_size)])), (ap2_routines_cells, .inl (cy 0, 24, .inl (fp2_routines_cells)))]) (wr := [(a_owners, .inl (cy 0, 20, .inl (f_owners))), (a_looked, .inl (cy 0, 20, .inl (f_looked))), (a_ways, .inl (cy 0, 20, .inl (f_ways))), (ap2, .inr (6, [.ref ap2_routines, .ref ap2_ops, .ref ap2_landings, .ref ap2_calls, .ref ap2_registers, .ref ap2_words])), (ap2_routines, .inr (3, [.int (vp2_routines_width), .ref ap2_routines_cells, .int (vp2_routines_size)])), (ap2_routines_cells, .inl (cy 0, 24, .inl (fp2_routines_cells)))]) (run_V ⟨hx, hb, hml, hown, hts⟩ ((c_X5_register l D cy a a_registers a_owners a_looked a_ways (v_taken) (v_leftSignal) (v_size) (v_ended) (v_guessed) (f_registers) (y1) ((5 : Int32)) r_83 hc_84) H.size) (cwV 2 hts gX5_lookUp_X5_register rfl rfl rfl hd_X5_register ⟨Nat.le_of_ble_eq_true rfl, Nat.le_of_ble_eq_true rfl⟩) KK.calling (fun U _ hW => hK.warm hW) hK.1 hP hD [0, 1] [2, 3, 4, 5, 6, 7] [6, 7, 0, 1, 2, 3, 4, 5] rfl rfl 0 5 rfl rfl rfl rfl hl.1 rfl (lv_room (Nat.le_of_ble_eq_true rfl)) dX5_lookUp_53) hP hD hS hA [0, 1] [2, 3, 4, 5, 6, 7] [6, 7, 0, 1, 2, 3, 4, 5] rfl rfl rfl rfl (fun H locs hP hD hS => ?_)
      refine lv_goto (tgt := 67) hx hb dX5_lookUp_56 (by decide) ?_
      exact hb67 (y1) (y1) (r_83) (v_leftSignal) (f_owners) (f_looked) H locs ls hP hD hS (lv_sub hl [1, 2, 3] rfl) h
  have hb39 : ∀ (y1 : Int32) (v_leftSignal : Int32) (f_owners : Nat → Int32) (f_looked : Nat → Int32) (H : Heap) (locs : List Loc) (ls : Array Slot), va_P D vwCl [(a, .inr (5, [.ref a_registers, .ref a_owners, .ref a_looked, .ref a_ways, .int (v_taken), .int (v_leftSignal), .int (v_size), .int (v_ended), .int (v_guessed)])), (a_registers, .inl (cy 0, 120, .inl (f_registers))), (a_owners, .inl (cy 0, 20, .inl (f_owners))), (a_looked, .inl (cy 0, 20, .inl (f_looked))), (a_ways, .inl (cy 0, 20, .inl (f_ways))), (ap2, .inr (6, [.ref ap2_routines, .ref ap2_ops, .ref ap2_landings, .ref ap2_calls, .ref ap2_registers, .ref ap2_words])), (ap2_routines, .inr (3, [.int (vp2_routines_width), .ref ap2_routines_cells, .int (vp2_routines_size)])), (ap2_routines_cells, .inl (cy 0, 24, .inl (fp2_routines_cells)))] H → va_D A [(a, .inr (5, [.ref a_registers, .ref a_owners, .ref a_looked, .ref a_ways, .int (v_taken), .int (v_leftSignal), .int (v_size), .int (v_ended), .int (v_guessed)])), (a_registers, .inl (cy 0, 120, .inl (f_registers))), (a_owners, .inl (cy 0, 20, .inl (f_owners))), (a_looked, .inl (cy 0, 20, .inl (f_looked))), (a_ways, .inl (cy 0, 20, .inl (f_ways))), (ap2, .inr (6, [.ref ap2_routines, .ref ap2_ops, .ref ap2_landings, .ref ap2_calls, .ref ap2_registers, .ref ap2_words])), (ap2_routines, .inr (3, [.int (vp2_routines_width), .ref ap2_routines_cells, .int (vp2_routines_size)])), (ap2_routines_cells, .inl (cy 0, 24, .inl (fp2_routines_cells)))] → va_S A s.heap H locs → lv_has ls 4 [(0, .ref a), (1, .int (y1)), (2, .ref ap2)] → f_X5_lookUp_b39 v_size f_registers f_ways vp2_routines_width vp2_routines_size fp2_routines_cells  y1 v_leftSignal f_owners f_looked = some (z_v_leftSignal, z_f_owners, z_f_looked) → W p l e ({ frames := 3, cells := 0, slots := 0, locals := 67 } : Room) s m [.ref a, .int (x1), .ref ap2].toArray below meth c H locs 0 0 (MQ below (Qv D A [(a, .inr (5, [.ref a_registers, .ref a_owners, .ref a_looked, .ref a_ways, .int (v_taken), .int (z_v_leftSignal), .int (v_size), .int (v_ended), .int (v_guessed)])), (a_registers, .inl (cy 0, 120, .inl (f_registers))), (a_owners, .inl (cy 0, 20, .inl (z_f_owners))), (a_looked, .inl (cy 0, 20, .inl (z_f_looked))), (a_ways, .inl (cy 0, 20, .inl (f_ways))), (ap2, .inr (6, [.ref ap2_routines, .ref ap2_ops, .ref ap2_landings, .ref ap2_calls, .ref ap2_registers, .ref ap2_words])), (ap2_routines, .inr (3, [.int (vp2_routines_width), .ref ap2_routines_cells, .int (vp2_routines_size)])), (ap2_routines_cells, .inl (cy 0, 24, .inl (fp2_routines_cells)))]) [.ref a, .int (x1), .ref ap2].toArray s 0 0 A) (F0 m 39 ls []) := by
    intro y1 v_leftSignal f_owners f_looked H locs ls hP hD hS hl h
    unfold f_X5_lookUp_b39 at h
    refine lv_iconst (v := (0 : Int32)) hx hb dX5_lookUp_39 (by decide) ?_
    exact hb40 (y1) ((0 : Int32)) (v_leftSignal) (f_owners) (f_looked) H locs ls hP hD hS (lv_sub hl [0, 1, 2] rfl) h
  have hb35 : ∀ (y1 : Int32) (v_leftSignal : Int32) (f_owners : Nat → Int32) (f_looked : Nat → Int32) (H : Heap) (locs : List Loc) (ls : Array Slot), va_P D vwCl [(a, .inr (5, [.ref a_registers, .ref a_owners, .ref a_looked, .ref a_ways, .int (v_taken), .int (v_leftSignal), .int (v_size), .int (v_ended), .int (v_guessed)])), (a_registers, .inl (cy 0, 120, .inl (f_registers))), (a_owners, .inl (cy 0, 20, .inl (f_owners))), (a_looked, .inl (cy 0, 20, .inl (f_looked))), (a_ways, .inl (cy 0, 20, .inl (f_ways))), (ap2, .inr (6, [.ref ap2_routines, .ref ap2_ops, .ref ap2_landings, .ref ap2_calls, .ref ap2_registers, .ref ap2_words])), (ap2_routines, .inr (3, [.int (vp2_routines_width), .ref ap2_routines_cells, .int (vp2_routines_size)])), (ap2_routines_cells, .inl (cy 0, 24, .inl (fp2_routines_cells)))] H → va_D A [(a, .inr (5, [.ref a_registers, .ref a_owners, .ref a_looked, .ref a_ways, .int (v_taken), .int (v_leftSignal), .int (v_size), .int (v_ended), .int (v_guessed)])), (a_registers, .inl (cy 0, 120, .inl (f_registers))), (a_owners, .inl (cy 0, 20, .inl (f_owners))), (a_looked, .inl (cy 0, 20, .inl (f_looked))), (a_ways, .inl (cy 0, 20, .inl (f_ways))), (ap2, .inr (6, [.ref ap2_routines, .ref ap2_ops, .ref ap2_landings, .ref ap2_calls, .ref ap2_registers, .ref ap2_words])), (ap2_routines, .inr (3, [.int (vp2_routines_width), .ref ap2_routines_cells, .int (vp2_routines_size)])), (ap2_routines_cells, .inl (cy 0, 24, .inl (fp2_routines_cells)))] → va_S A s.heap H locs → lv_has ls 4 [(0, .ref a), (1, .int (y1)), (2, .ref ap2)] → f_X5_lookUp_b35 v_size f_registers f_ways vp2_routines_width vp2_routines_size fp2_routines_cells  y1 v_leftSignal f_owners f_looked = some (z_v_leftSignal, z_f_owners, z_f_looked) → W p l e ({ frames := 3, cells := 0, slots := 0, locals := 67 } : Room) s m [.ref a, .int (x1), .ref ap2].toArray below meth c H locs 0 0 (MQ below (Qv D A [(a, .inr (5, [.ref a_registers, .ref a_owners, .ref a_looked, .ref a_ways, .int (v_taken), .int (z_v_leftSignal), .int (v_size), .int (v_ended), .int (v_guessed)])), (a_registers, .inl (cy 0, 120, .inl (f_registers))), (a_owners, .inl (cy 0, 20, .inl (z_f_owners))), (a_looked, .inl (cy 0, 20, .inl (z_f_looked))), (a_ways, .inl (cy 0, 20, .inl (f_ways))), (ap2, .inr (6, [.ref ap2_routines, .ref ap2_ops, .ref ap2_landings, .ref ap2_calls, .ref ap2_registers, .ref ap2_words])), (ap2_routines, .inr (3, [.int (vp2_routines_width), .ref ap2_routines_cells, .int (vp2_routines_size)])), (ap2_routines_cells, .inl (cy 0, 24, .inl (fp2_routines_cells)))]) [.ref a, .int (x1), .ref ap2].toArray s 0 0 A) (F0 m 35 ls []) := by
    intro y1 v_leftSignal f_owners f_looked H locs ls hP hD hS hl h
    unfold f_X5_lookUp_b35 at h
    refine lv_iconst (v := (1 : Int32)) hx hb dX5_lookUp_35 (by decide) ?_
    refine lv_goto (tgt := 40) hx hb dX5_lookUp_36 (by decide) ?_
    exact hb40 (y1) ((1 : Int32)) (v_leftSignal) (f_owners) (f_looked) H locs ls hP hD hS (lv_sub hl [0, 1, 2] rfl) h
  have main : ∀ (H : Heap) (locs : List Loc) (ls : Array Slot), va_P D vwCl [(a, .inr (5, [.ref a_registers, .ref a_owners, .ref a_looked, .ref a_ways, .int (v_taken), .int (v_leftSignal), .int (v_size), .int (v_ended), .int (v_guessed)])), (a_registers, .inl (cy 0, 120, .inl (f_registers))), (a_owners, .inl (cy 0, 20, .inl (f_owners))), (a_looked, .inl (cy 0, 20, .inl (f_looked))), (a_ways, .inl (cy 0, 20, .inl (f_ways))), (ap2, .inr (6, [.ref ap2_routines, .ref ap2_ops, .ref ap2_landings, .ref ap2_calls, .ref ap2_registers, .ref ap2_words])), (ap2_routines, .inr (3, [.int (vp2_routines_width), .ref ap2_routines_cells, .int (vp2_routines_size)])), (ap2_routines_cells, .inl (cy 0, 24, .inl (fp2_routines_cells)))] H → va_D A [(a, .inr (5, [.ref a_registers, .ref a_owners, .ref a_looked, .ref a_ways, .int (v_taken), .int (v_leftSignal), .int (v_size), .int (v_ended), .int (v_guessed)])), (a_registers, .inl (cy 0, 120, .inl (f_registers))), (a_owners, .inl (cy 0, 20, .inl (f_owners))), (a_looked, .inl (cy 0, 20, .inl (f_looked))), (a_ways, .inl (cy 0, 20, .inl (f_ways))), (ap2, .inr (6, [.ref ap2_routines, .ref ap2_ops, .ref ap2_landings, .ref ap2_calls, .ref ap2_registers, .ref ap2_words])), (ap2_routines, .inr (3, [.int (vp2_routines_width), .ref ap2_routines_cells, .int (vp2_routines_size)])), (ap2_routines_cells, .inl (cy 0, 24, .inl (fp2_routines_cells)))] → va_S A s.heap H locs → lv_has ls 4 [(0, .ref a), (1, .int (x1)), (2, .ref ap2)] → f_X5_lookUp x1 v_leftSignal v_size f_registers f_owners f_looked f_ways vp2_routines_width vp2_routines_size fp2_routines_cells = some (z_v_leftSignal, z_f_owners, z_f_looked) → W p l e ({ frames := 3, cells := 0, slots := 0, locals := 67 } : Room) s m [.ref a, .int (x1), .ref ap2].toArray below meth c H locs 0 0 (MQ below (Qv D A [(a, .inr (5, [.ref a_registers, .ref a_owners, .ref a_looked, .ref a_ways, .int (v_taken), .int (z_v_leftSignal), .int (v_size), .int (v_ended), .int (v_guessed)])), (a_registers, .inl (cy 0, 120, .inl (f_registers))), (a_owners, .inl (cy 0, 20, .inl (z_f_owners))), (a_looked, .inl (cy 0, 20, .inl (z_f_looked))), (a_ways, .inl (cy 0, 20, .inl (f_ways))), (ap2, .inr (6, [.ref ap2_routines, .ref ap2_ops, .ref ap2_landings, .ref ap2_calls, .ref ap2_registers, .ref ap2_words])), (ap2_routines, .inr (3, [.int (vp2_routines_width), .ref ap2_routines_cells, .int (vp2_routines_size)])), (ap2_routines_cells, .inl (cy 0, 24, .inl (fp2_routines_cells)))]) [.ref a, .int (x1), .ref ap2].toArray s 0 0 A) (F0 m 0 ls []) := by
    intro H locs ls hP hD hS hl h
    unfold f_X5_lookUp at h
    refine lv_aload_n hx hb dX5_lookUp_0 rfl (lv_at hl 0 rfl) ?_
    refine lv_iload_n hx hb dX5_lookUp_1 rfl (lv_at hl 1 rfl) ?_
    obtain ⟨r_85, hc_92, h⟩ := bn1_s h
    refine call_i (ws1 := [(a, .inr (5, [.ref a_registers, .ref a_owners, .ref a_looked, .ref a_ways, .int (v_taken), .int (v_leftSignal), .int (v_size), .int (v_ended), .int (v_guessed)])), (a_registers, .inl (cy 0, 120, .inl (f_registers))), (a_owners, .inl (cy 0, 20, .inl (f_owners))), (a_looked, .inl (cy 0, 20, .inl (f_looked))), (a_ways, .inl (cy 0, 20, .inl (f_ways))), (ap2, .inr (6, [.ref ap2_routines, .ref ap2_ops, .ref ap2_landings, .ref ap2_calls, .ref ap2_registers, .ref ap2_words])), (ap2_routines, .inr (3, [.int (vp2_routines_width), .ref ap2_routines_cells, .int (vp2_routines_size)])), (ap2_routines_cells, .inl (cy 0, 24, .inl (fp2_routines_cells)))]) (wr := [(a_registers, .inl (cy 0, 120, .inl (f_registers))), (a_owners, .inl (cy 0, 20, .inl (f_owners))), (a_looked, .inl (cy 0, 20, .inl (f_looked))), (a_ways, .inl (cy 0, 20, .inl (f_ways))), (ap2, .inr (6, [.ref ap2_routines, .ref ap2_ops, .ref ap2_landings, .ref ap2_calls, .ref ap2_registers, .ref ap2_words])), (ap2_routines, .inr (3, [.int (vp2_routines_width), .ref ap2_routines_cells, .int (vp2_routines_size)])), (ap2_routines_cells, .inl (cy 0, 24, .inl (fp2_routines_cells)))]) (run_V ⟨hx, hb, hml, hown, hts⟩ ((c_X5_has l D cy a a_registers a_owners a_looked a_ways (v_taken) (v_leftSignal) (v_size) (v_ended) (v_guessed) (x1) r_85 hc_92) H.size) (cwV 1 hts gX5_lookUp_X5_has rfl rfl rfl hd_X5_has ⟨Nat.le_of_ble_eq_true rfl, Nat.le_of_ble_eq_true rfl⟩) KK.calling (fun U _ hW => hK.warm hW) hK.1 hP hD [0] [1, 2, 3, 4, 5, 6, 7] [7, 0, 1, 2, 3, 4, 5, 6] rfl rfl 0 5 rfl rfl rfl rfl hl.1 rfl (lv_room (Nat.le_of_ble_eq_true rfl)) dX5_lookUp_2) hP hD hS hA [0] [1, 2, 3, 4, 5, 6, 7] [7, 0, 1, 2, 3, 4, 5, 6] rfl rfl rfl rfl (fun H locs hP hD hS => ?_)
    refine lv_if_ne (tgt := 9) hx hb dX5_lookUp_5 (by decide) (fun c_86 => ?_) (fun c_86 => ?_)
    · have h := ifn c_86 h
      refine lv_aload_n hx hb dX5_lookUp_9 rfl (lv_at hl 0 rfl) ?_
      refine va_get (D := D) (ci := 5) (v := .ref a_ways) (C := RX5) (T := TX5) (N := 9) hx hb hts hinX5 hown hK.1 hP 0 rfl rfl 3 (by decide) (hts (.fieldLink RX5 21 "FrameWalks$Track" "ways" "[I") (List.mem_of_getElem? (i := 1) rfl)) (fun _ h9 => h9) rfl dX5_lookUp_10 ?_
      refine lv_iload_n hx hb dX5_lookUp_13 rfl (lv_at hl 1 rfl) ?_
      obtain ⟨i_87, h⟩ := cki_s h
      refine va_iald hx hb hK.1 hP 4 0 rfl rfl i_87 dX5_lookUp_14 ?_
      refine lv_if_eq (tgt := 35) hx hb dX5_lookUp_15 (by decide) (fun c_88 => ?_) (fun c_88 => ?_)
      · have h := ift c_88 h
        exact hb35 (x1) (v_leftSignal) (f_owners) (f_looked) H locs ls hP hD hS (lv_sub hl [0, 1, 2] rfl) h
      · have h := ifn c_88 h
        refine lv_aload_n hx hb dX5_lookUp_18 rfl (lv_at hl 0 rfl) ?_
        refine va_get (D := D) (ci := 5) (v := .ref a_ways) (C := RX5) (T := TX5) (N := 9) hx hb hts hinX5 hown hK.1 hP 0 rfl rfl 3 (by decide) (hts (.fieldLink RX5 21 "FrameWalks$Track" "ways" "[I") (List.mem_of_getElem? (i := 1) rfl)) (fun _ h9 => h9) rfl dX5_lookUp_19 ?_
        refine lv_iload_n hx hb dX5_lookUp_22 rfl (lv_at hl 1 rfl) ?_
        obtain ⟨i_89, h⟩ := cki_s h
        refine va_iald hx hb hK.1 hP 4 0 rfl rfl i_89 dX5_lookUp_23 ?_
        refine lv_iconst (v := (1 : Int32)) hx hb dX5_lookUp_24 (by decide) ?_
        refine lv_icmp_ne (tgt := 39) hx hb dX5_lookUp_25 (by decide) (fun c_90 => ?_) (fun c_90 => ?_)
        · have h := ifn c_90 h
          exact hb39 (x1) (v_leftSignal) (f_owners) (f_looked) H locs ls hP hD hS (lv_sub hl [0, 1, 2] rfl) h
        · have h := ift c_90 h
          refine lv_aload_n hx hb dX5_lookUp_28 rfl (lv_at hl 0 rfl) ?_
          refine va_get (D := D) (ci := 5) (v := .int (v_leftSignal)) (C := RX5) (T := TX5) (N := 9) hx hb hts hinX5 hown hK.1 hP 0 rfl rfl 5 (by decide) (hts (.fieldLink RX5 28 "FrameWalks$Track" "leftSignal" "Z") (List.mem_of_getElem? (i := 2) rfl)) (fun _ h9 => h9) rfl dX5_lookUp_29 ?_
          refine lv_if_eq (tgt := 39) hx hb dX5_lookUp_32 (by decide) (fun c_91 => ?_) (fun c_91 => ?_)
          · have h := ift c_91 h
            exact hb39 (x1) (v_leftSignal) (f_owners) (f_looked) H locs ls hP hD hS (lv_sub hl [0, 1, 2] rfl) h
          · have h := ifn c_91 h
            exact hb35 (x1) (v_leftSignal) (f_owners) (f_looked) H locs ls hP hD hS (lv_sub hl [0, 1, 2] rfl) h
    · have h := ift c_86 h
      obtain ⟨e0, e1, e2⟩ := tp3_s h
      exact Mv.ret' hx hb hr hlocks (by rw [← e0, ← e1, ← e2]) hP hD hS dX5_lookUp_8
  exact main s.heap [] ls hP hD va_S.rf hl h
theorem hd_X5_topOf : yX5_topOf.cls = RX5 ∧ yX5_topOf.cls ≠ "java/lang/invoke/MethodHandle" ∧ yX5_topOf.cls ≠ "java/lang/invoke/VarHandle" ∧ (parseMethodDescriptor yX5_topOf.desc).map (fun d => d.parameters.length) = some 2 := by decide +kernel
def f_X5_topOf (x1 : Int32) (v_size : Int32) (f_registers : Nat → Int32) (fp2_cells : Nat → Int32) : Option (Int32) := (bn1 (f_X1_base (fp2_cells)) (fun r_19 => (bn1 (f_X5_register (x1) (r_19) (v_size) (f_registers)) (fun r_20 => (bn1 (f_X1_off (fp2_cells)) (fun r_21 => (some (r_20 + r_21))))))))
set_option maxHeartbeats 4000000 in
set_option maxRecDepth 100000 in
theorem c_X5_topOf (l : Launch) (D : va_G) (cy : Nat → ClassId) (a a_registers a_owners a_looked a_ways ap2 ap2_cells ap2_aside : Nat) (v_taken : Int32) (v_leftSignal : Int32) (v_size : Int32) (v_ended : Int32) (v_guessed : Int32) (f_registers : Nat → Int32) (vp2_asideSize : Int32) (fp2_cells : Nat → Int32) (x1 : Int32) (res : Int32) (h : f_X5_topOf x1 v_size f_registers fp2_cells = some res) : Mi l yX5_topOf wsX5_topOf ({ frames := 2, cells := 0, slots := 0, locals := 43 } : Room) (KK D cy) D [.ref a, .int (x1), .ref ap2] [(a, .inr (5, [.ref a_registers, .ref a_owners, .ref a_looked, .ref a_ways, .int (v_taken), .int (v_leftSignal), .int (v_size), .int (v_ended), .int (v_guessed)])), (a_registers, .inl (cy 0, 120, .inl (f_registers))), (ap2, .inr (1, [.ref ap2_cells, .ref ap2_aside, .int (vp2_asideSize)])), (ap2_cells, .inl (cy 0, 14, .inl (fp2_cells)))] [(a, .inr (5, [.ref a_registers, .ref a_owners, .ref a_looked, .ref a_ways, .int (v_taken), .int (v_leftSignal), .int (v_size), .int (v_ended), .int (v_guessed)])), (a_registers, .inl (cy 0, 120, .inl (f_registers))), (ap2, .inr (1, [.ref ap2_cells, .ref ap2_aside, .int (vp2_asideSize)])), (ap2_cells, .inl (cy 0, 14, .inl (fp2_cells)))] res := by
  intro sz
  refine Met.mk0 (cc := cX5_topOf) (maxL := 3) (ret := (some .int)) (Qc := fun A => Qi D A [(a, .inr (5, [.ref a_registers, .ref a_owners, .ref a_looked, .ref a_ways, .int (v_taken), .int (v_leftSignal), .int (v_size), .int (v_ended), .int (v_guessed)])), (a_registers, .inl (cy 0, 120, .inl (f_registers))), (ap2, .inr (1, [.ref ap2_cells, .ref ap2_aside, .int (vp2_asideSize)])), (ap2_cells, .inl (cy 0, 14, .inl (fp2_cells)))] res) (by decide) rfl (Nat.le_of_ble_eq_true rfl) ?_
  intro p e s m below meth c A ls hx hb hml hown hts hr hlocks hK hP hD hA hl
  have hown : s.vm.findClass RX5 = some m.cls := hown
  have hl : lv_has ls 3 [(0, .ref a), (1, .int (x1)), (2, .ref ap2)] := hl
  have hinX1 : ∀ w ∈ u_ws RX1 TX1 3, w ∈ wsX5_topOf := (fun w h => List.mem_cons_of_mem _ (List.mem_append_left _ (List.mem_append_right _ h)))
  have hinX5 : ∀ w ∈ u_ws RX5 TX5 9, w ∈ wsX5_topOf := (fun w h => List.mem_cons_of_mem _ (List.mem_append_right _ h))
  have main : ∀ (H : Heap) (locs : List Loc) (ls : Array Slot), va_P D vwCl [(a, .inr (5, [.ref a_registers, .ref a_owners, .ref a_looked, .ref a_ways, .int (v_taken), .int (v_leftSignal), .int (v_size), .int (v_ended), .int (v_guessed)])), (a_registers, .inl (cy 0, 120, .inl (f_registers))), (ap2, .inr (1, [.ref ap2_cells, .ref ap2_aside, .int (vp2_asideSize)])), (ap2_cells, .inl (cy 0, 14, .inl (fp2_cells)))] H → va_D A [(a, .inr (5, [.ref a_registers, .ref a_owners, .ref a_looked, .ref a_ways, .int (v_taken), .int (v_leftSignal), .int (v_size), .int (v_ended), .int (v_guessed)])), (a_registers, .inl (cy 0, 120, .inl (f_registers))), (ap2, .inr (1, [.ref ap2_cells, .ref ap2_aside, .int (vp2_asideSize)])), (ap2_cells, .inl (cy 0, 14, .inl (fp2_cells)))] → va_S A s.heap H locs → lv_has ls 3 [(0, .ref a), (1, .int (x1)), (2, .ref ap2)] → f_X5_topOf x1 v_size f_registers fp2_cells = some res → W p l e ({ frames := 2, cells := 0, slots := 0, locals := 43 } : Room) s m [.ref a, .int (x1), .ref ap2].toArray below meth c H locs 0 0 (MQ below (Qi D A [(a, .inr (5, [.ref a_registers, .ref a_owners, .ref a_looked, .ref a_ways, .int (v_taken), .int (v_leftSignal), .int (v_size), .int (v_ended), .int (v_guessed)])), (a_registers, .inl (cy 0, 120, .inl (f_registers))), (ap2, .inr (1, [.ref ap2_cells, .ref ap2_aside, .int (vp2_asideSize)])), (ap2_cells, .inl (cy 0, 14, .inl (fp2_cells)))] res) [.ref a, .int (x1), .ref ap2].toArray s 0 0 A) (F0 m 0 ls []) := by
    intro H locs ls hP hD hS hl h
    unfold f_X5_topOf at h
    refine lv_aload_n hx hb dX5_topOf_0 rfl (lv_at hl 0 rfl) ?_
    refine lv_iload_n hx hb dX5_topOf_1 rfl (lv_at hl 1 rfl) ?_
    refine lv_aload_n hx hb dX5_topOf_2 rfl (lv_at hl 2 rfl) ?_
    obtain ⟨r_19, hc_24, h⟩ := bn1_s h
    refine call_i (ws1 := [(a, .inr (5, [.ref a_registers, .ref a_owners, .ref a_looked, .ref a_ways, .int (v_taken), .int (v_leftSignal), .int (v_size), .int (v_ended), .int (v_guessed)])), (a_registers, .inl (cy 0, 120, .inl (f_registers))), (ap2, .inr (1, [.ref ap2_cells, .ref ap2_aside, .int (vp2_asideSize)])), (ap2_cells, .inl (cy 0, 14, .inl (fp2_cells)))]) (wr := [(a, .inr (5, [.ref a_registers, .ref a_owners, .ref a_looked, .ref a_ways, .int (v_taken), .int (v_leftSignal), .int (v_size), .int (v_ended), .int (v_guessed)])), (a_registers, .inl (cy 0, 120, .inl (f_registers)))]) (run_V ⟨hx, hb, hml, hown, hts⟩ ((c_X1_base l D cy ap2 ap2_cells ap2_aside (vp2_asideSize) (fp2_cells) r_19 hc_24) H.size) (cwV 0 hts gX5_topOf_X1_base rfl rfl rfl hd_X1_base ⟨Nat.le_of_ble_eq_true rfl, Nat.le_of_ble_eq_true rfl⟩) KK.calling (fun U _ hW => hK.warm hW) hK.1 hP hD [2, 3] [0, 1] [0, 1, 2, 3] rfl rfl 2 1 rfl rfl rfl rfl hl.1 rfl (lv_room (Nat.le_of_ble_eq_true rfl)) dX5_topOf_3) hP hD hS hA [2, 3] [0, 1] [0, 1, 2, 3] rfl rfl rfl rfl (fun H locs hP hD hS => ?_)
    obtain ⟨r_20, hc_23, h⟩ := bn1_s h
    refine call_i (ws1 := [(a, .inr (5, [.ref a_registers, .ref a_owners, .ref a_looked, .ref a_ways, .int (v_taken), .int (v_leftSignal), .int (v_size), .int (v_ended), .int (v_guessed)])), (a_registers, .inl (cy 0, 120, .inl (f_registers))), (ap2, .inr (1, [.ref ap2_cells, .ref ap2_aside, .int (vp2_asideSize)])), (ap2_cells, .inl (cy 0, 14, .inl (fp2_cells)))]) (wr := [(ap2, .inr (1, [.ref ap2_cells, .ref ap2_aside, .int (vp2_asideSize)])), (ap2_cells, .inl (cy 0, 14, .inl (fp2_cells)))]) (run_V ⟨hx, hb, hml, hown, hts⟩ ((c_X5_register l D cy a a_registers a_owners a_looked a_ways (v_taken) (v_leftSignal) (v_size) (v_ended) (v_guessed) (f_registers) (x1) (r_19) r_20 hc_23) H.size) (cwV 2 hts gX5_topOf_X5_register rfl rfl rfl hd_X5_register ⟨Nat.le_of_ble_eq_true rfl, Nat.le_of_ble_eq_true rfl⟩) KK.calling (fun U _ hW => hK.warm hW) hK.1 hP hD [0, 1] [2, 3] [2, 3, 0, 1] rfl rfl 0 5 rfl rfl rfl rfl hl.1 rfl (lv_room (Nat.le_of_ble_eq_true rfl)) dX5_topOf_6) hP hD hS hA [0, 1] [2, 3] [2, 3, 0, 1] rfl rfl rfl rfl (fun H locs hP hD hS => ?_)
    refine lv_aload_n hx hb dX5_topOf_9 rfl (lv_at hl 2 rfl) ?_
    obtain ⟨r_21, hc_22, h⟩ := bn1_s h
    refine call_i (ws1 := [(a, .inr (5, [.ref a_registers, .ref a_owners, .ref a_looked, .ref a_ways, .int (v_taken), .int (v_leftSignal), .int (v_size), .int (v_ended), .int (v_guessed)])), (a_registers, .inl (cy 0, 120, .inl (f_registers))), (ap2, .inr (1, [.ref ap2_cells, .ref ap2_aside, .int (vp2_asideSize)])), (ap2_cells, .inl (cy 0, 14, .inl (fp2_cells)))]) (wr := [(a, .inr (5, [.ref a_registers, .ref a_owners, .ref a_looked, .ref a_ways, .int (v_taken), .int (v_leftSignal), .int (v_size), .int (v_ended), .int (v_guessed)])), (a_registers, .inl (cy 0, 120, .inl (f_registers)))]) (run_V ⟨hx, hb, hml, hown, hts⟩ ((c_X1_off l D cy ap2 ap2_cells ap2_aside (vp2_asideSize) (fp2_cells) r_21 hc_22) H.size) (cwV 0 hts gX5_topOf_X1_off rfl rfl rfl hd_X1_off ⟨Nat.le_of_ble_eq_true rfl, Nat.le_of_ble_eq_true rfl⟩) KK.calling (fun U _ hW => hK.warm hW) hK.1 hP hD [2, 3] [0, 1] [0, 1, 2, 3] rfl rfl 2 1 rfl rfl rfl rfl hl.1 rfl (lv_room (Nat.le_of_ble_eq_true rfl)) dX5_topOf_10) hP hD hS hA [2, 3] [0, 1] [0, 1, 2, 3] rfl rfl rfl rfl (fun H locs hP hD hS => ?_)
    refine lv_iadd hx hb dX5_topOf_13 ?_
    have e0 := Option.some.inj h
    exact Mi.ret' hx hb hr hlocks e0 rfl hP hD hS dX5_topOf_14
  exact main s.heap [] ls hP hD va_S.rf hl h
theorem hd_X5_addGuessed : yX5_addGuessed.cls = RX5 ∧ yX5_addGuessed.cls ≠ "java/lang/invoke/MethodHandle" ∧ yX5_addGuessed.cls ≠ "java/lang/invoke/VarHandle" ∧ (parseMethodDescriptor yX5_addGuessed.desc).map (fun d => d.parameters.length) = some 3 := by decide +kernel
def f_X5_addGuessed_L22 : Nat → Int32 → Int32 → Int32 → Int32 → Int32 → Int32 → Int32 → (Nat → Int32) → (Nat → Int32) → Option (Int32 × Int32 × (Nat → Int32) × (Nat → Int32))
  | 0, _, _, _, _, _, _, _, _, _ => none
  | n + 1, y1, y2, y3, y4, y5, v_size, v_guessed, f_registers, f_ways => (if (6 : Int32) ≤ y5 then (cki (y4 + (4 : Int32)) 120 (cki (y4 + (5 : Int32)) 120 (bn2 (f_X5_add ((2 : Int32)) (v_size) (f_ways)) (fun m_34 m_35 => (some (m_34, v_guessed + (1 : Int32), upd (upd f_registers (y4 + (4 : Int32)).toNatClampNeg (y3 + (1 : Int32))) (y4 + (5 : Int32)).toNatClampNeg (y2), m_35)))))) else (bn1 (f_X5_register (y1) (y5) (v_size) (f_registers)) (fun r_37 => (cki (y4 + y5) 120 ((f_X5_addGuessed_L22  n) (y1) (y2) (y3) (y4) (y5 + (1 : Int32)) (v_size) (v_guessed) (upd f_registers (y4 + y5).toNatClampNeg (r_37)) (f_ways))))))
def f_X5_addGuessed (x1 : Int32) (x2 : Int32) (x3 : Int32) (v_size : Int32) (v_guessed : Int32) (f_registers : Nat → Int32) (f_ways : Nat → Int32) : Option (Int32 × Int32 × (Nat → Int32) × (Nat → Int32)) := (if v_size < (20 : Int32) then (f_X5_addGuessed_L22  FUEL (x1) (x2) (x3) (v_size * (6 : Int32)) ((0 : Int32)) (v_size) (v_guessed) (f_registers) (f_ways)) else (some (v_size, v_guessed, f_registers, f_ways)))
set_option maxHeartbeats 4000000 in
set_option maxRecDepth 100000 in
theorem c_X5_addGuessed (l : Launch) (D : va_G) (cy : Nat → ClassId) (a a_registers a_owners a_looked a_ways : Nat) (v_taken : Int32) (v_leftSignal : Int32) (v_size : Int32) (v_ended : Int32) (v_guessed : Int32) (f_registers : Nat → Int32) (f_ways : Nat → Int32) (x1 : Int32) (x2 : Int32) (x3 : Int32) (z_v_size : Int32) (z_v_guessed : Int32) (z_f_registers : Nat → Int32) (z_f_ways : Nat → Int32) (h : f_X5_addGuessed x1 x2 x3 v_size v_guessed f_registers f_ways = some (z_v_size, z_v_guessed, z_f_registers, z_f_ways)) : Mv l yX5_addGuessed wsX5_addGuessed ({ frames := 2, cells := 0, slots := 0, locals := 43 } : Room) (KK D cy) D [.ref a, .int (x1), .int (x2), .int (x3)] [(a, .inr (5, [.ref a_registers, .ref a_owners, .ref a_looked, .ref a_ways, .int (v_taken), .int (v_leftSignal), .int (v_size), .int (v_ended), .int (v_guessed)])), (a_registers, .inl (cy 0, 120, .inl (f_registers))), (a_ways, .inl (cy 0, 20, .inl (f_ways)))] [(a, .inr (5, [.ref a_registers, .ref a_owners, .ref a_looked, .ref a_ways, .int (v_taken), .int (v_leftSignal), .int (z_v_size), .int (v_ended), .int (z_v_guessed)])), (a_registers, .inl (cy 0, 120, .inl (z_f_registers))), (a_ways, .inl (cy 0, 20, .inl (z_f_ways)))] := by
  intro sz
  refine Met.mk0 (cc := cX5_addGuessed) (maxL := 6) (ret := none) (Qc := fun A => Qv D A [(a, .inr (5, [.ref a_registers, .ref a_owners, .ref a_looked, .ref a_ways, .int (v_taken), .int (v_leftSignal), .int (z_v_size), .int (v_ended), .int (z_v_guessed)])), (a_registers, .inl (cy 0, 120, .inl (z_f_registers))), (a_ways, .inl (cy 0, 20, .inl (z_f_ways)))]) (by decide) rfl (Nat.le_of_ble_eq_true rfl) ?_
  intro p e s m below meth c A ls hx hb hml hown hts hr hlocks hK hP hD hA hl
  have hown : s.vm.findClass RX5 = some m.cls := hown
  have hl : lv_has ls 6 [(0, .ref a), (1, .int (x1)), (2, .int (x2)), (3, .int (x3))] := hl
  have hinX5 : ∀ w ∈ u_ws RX5 TX5 9, w ∈ wsX5_addGuessed := (fun w h => List.mem_cons_of_mem _ (List.mem_append_right _ h))
  have hL22 : ∀ (n22 : Nat) (y1 : Int32) (y2 : Int32) (y3 : Int32) (y4 : Int32) (y5 : Int32) (v_size : Int32) (v_guessed : Int32) (f_registers : Nat → Int32) (f_ways : Nat → Int32) (H : Heap) (locs : List Loc) (ls : Array Slot), va_P D vwCl [(a, .inr (5, [.ref a_registers, .ref a_owners, .ref a_looked, .ref a_ways, .int (v_taken), .int (v_leftSignal), .int (v_size), .int (v_ended), .int (v_guessed)])), (a_registers, .inl (cy 0, 120, .inl (f_registers))), (a_ways, .inl (cy 0, 20, .inl (f_ways)))] H → va_D A [(a, .inr (5, [.ref a_registers, .ref a_owners, .ref a_looked, .ref a_ways, .int (v_taken), .int (v_leftSignal), .int (v_size), .int (v_ended), .int (v_guessed)])), (a_registers, .inl (cy 0, 120, .inl (f_registers))), (a_ways, .inl (cy 0, 20, .inl (f_ways)))] → va_S A s.heap H locs → lv_has ls 6 [(0, .ref a), (1, .int (y1)), (2, .int (y2)), (3, .int (y3)), (4, .int (y4)), (5, .int (y5))] → f_X5_addGuessed_L22  n22 y1 y2 y3 y4 y5 v_size v_guessed f_registers f_ways = some (z_v_size, z_v_guessed, z_f_registers, z_f_ways) → W p l e ({ frames := 2, cells := 0, slots := 0, locals := 43 } : Room) s m [.ref a, .int (x1), .int (x2), .int (x3)].toArray below meth c H locs 0 0 (MQ below (Qv D A [(a, .inr (5, [.ref a_registers, .ref a_owners, .ref a_looked, .ref a_ways, .int (v_taken), .int (v_leftSignal), .int (z_v_size), .int (v_ended), .int (z_v_guessed)])), (a_registers, .inl (cy 0, 120, .inl (z_f_registers))), (a_ways, .inl (cy 0, 20, .inl (z_f_ways)))]) [.ref a, .int (x1), .int (x2), .int (x3)].toArray s 0 0 A) (F0 m 22 ls []) := by
    intro n22
    induction n22 with
    | zero =>
      intro y1 y2 y3 y4 y5 v_size v_guessed f_registers f_ways H locs ls hP hD hS hl h
      cases (id h : (none : Option (Int32 × Int32 × (Nat → Int32) × (Nat → Int32))) = some _)
    | succ n22 ih22 =>
      intro y1 y2 y3 y4 y5 v_size v_guessed f_registers f_ways H locs ls hP hD hS hl h
      rw [f_X5_addGuessed_L22] at h
      refine lv_iload hx hb dX5_addGuessed_22 (lv_at hl 5 rfl) ?_
      refine lv_bipush (v := (6 : Int32)) hx hb dX5_addGuessed_24 (by decide) ?_
      refine lv_icmp_ge (tgt := 52) hx hb dX5_addGuessed_26 (by decide) (fun c_31 => ?_) (fun c_31 => ?_)
      · have h := ift c_31 h
        refine lv_aload_n hx hb dX5_addGuessed_52 rfl (lv_at hl 0 rfl) ?_
        refine va_get (D := D) (ci := 5) (v := .ref a_registers) (C := RX5) (T := TX5) (N := 9) hx hb hts hinX5 hown hK.1 hP 0 rfl rfl 0 (by decide) (hts (.fieldLink RX5 9 "FrameWalks$Track" "registers" "[I") (List.mem_of_getElem? (i := 2) rfl)) (fun _ h9 => h9) rfl dX5_addGuessed_53 ?_
        refine lv_iload hx hb dX5_addGuessed_56 (lv_at hl 4 rfl) ?_
        refine lv_iconst (v := (4 : Int32)) hx hb dX5_addGuessed_58 (by decide) ?_
        refine lv_iadd hx hb dX5_addGuessed_59 ?_
        refine lv_iload_n hx hb dX5_addGuessed_60 rfl (lv_at hl 3 rfl) ?_
        refine lv_iconst (v := (1 : Int32)) hx hb dX5_addGuessed_61 (by decide) ?_
        refine lv_iadd hx hb dX5_addGuessed_62 ?_
        obtain ⟨i_32, h⟩ := cki_s h
        refine va_iast hx hb hK.1 hP hD hS 1 0 rfl rfl i_32 dX5_addGuessed_63 (fun H locs hP hD hS => ?_)
        have hP : va_P D vwCl [(a, .inr (5, [.ref a_registers, .ref a_owners, .ref a_looked, .ref a_ways, .int (v_taken), .int (v_leftSignal), .int (v_size), .int (v_ended), .int (v_guessed)])), (a_registers, .inl (cy 0, 120, .inl (upd f_registers (y4 + (4 : Int32)).toNatClampNeg (y3 + (1 : Int32))))), (a_ways, .inl (cy 0, 20, .inl (f_ways)))] H := hP
        have hD : va_D A [(a, .inr (5, [.ref a_registers, .ref a_owners, .ref a_looked, .ref a_ways, .int (v_taken), .int (v_leftSignal), .int (v_size), .int (v_ended), .int (v_guessed)])), (a_registers, .inl (cy 0, 120, .inl (upd f_registers (y4 + (4 : Int32)).toNatClampNeg (y3 + (1 : Int32))))), (a_ways, .inl (cy 0, 20, .inl (f_ways)))] := hD
        refine lv_aload_n hx hb dX5_addGuessed_64 rfl (lv_at hl 0 rfl) ?_
        refine va_get (D := D) (ci := 5) (v := .ref a_registers) (C := RX5) (T := TX5) (N := 9) hx hb hts hinX5 hown hK.1 hP 0 rfl rfl 0 (by decide) (hts (.fieldLink RX5 9 "FrameWalks$Track" "registers" "[I") (List.mem_of_getElem? (i := 2) rfl)) (fun _ h9 => h9) rfl dX5_addGuessed_65 ?_
        refine lv_iload hx hb dX5_addGuessed_68 (lv_at hl 4 rfl) ?_
        refine lv_iconst (v := (5 : Int32)) hx hb dX5_addGuessed_70 (by decide) ?_
        refine lv_iadd hx hb dX5_addGuessed_71 ?_
        refine lv_iload_n hx hb dX5_addGuessed_72 rfl (lv_at hl 2 rfl) ?_
        obtain ⟨i_33, h⟩ := cki_s h
        refine va_iast hx hb hK.1 hP hD hS 1 0 rfl rfl i_33 dX5_addGuessed_73 (fun H locs hP hD hS => ?_)
        have hP : va_P D vwCl [(a, .inr (5, [.ref a_registers, .ref a_owners, .ref a_looked, .ref a_ways, .int (v_taken), .int (v_leftSignal), .int (v_size), .int (v_ended), .int (v_guessed)])), (a_registers, .inl (cy 0, 120, .inl (upd (upd f_registers (y4 + (4 : Int32)).toNatClampNeg (y3 + (1 : Int32))) (y4 + (5 : Int32)).toNatClampNeg (y2)))), (a_ways, .inl (cy 0, 20, .inl (f_ways)))] H := hP
        have hD : va_D A [(a, .inr (5, [.ref a_registers, .ref a_owners, .ref a_looked, .ref a_ways, .int (v_taken), .int (v_leftSignal), .int (v_size), .int (v_ended), .int (v_guessed)])), (a_registers, .inl (cy 0, 120, .inl (upd (upd f_registers (y4 + (4 : Int32)).toNatClampNeg (y3 + (1 : Int32))) (y4 + (5 : Int32)).toNatClampNeg (y2)))), (a_ways, .inl (cy 0, 20, .inl (f_ways)))] := hD
        refine lv_aload_n hx hb dX5_addGuessed_74 rfl (lv_at hl 0 rfl) ?_
        refine lv_dup hx hb dX5_addGuessed_75 rfl ?_
        refine va_get (D := D) (ci := 5) (v := .int (v_guessed)) (C := RX5) (T := TX5) (N := 9) hx hb hts hinX5 hown hK.1 hP 0 rfl rfl 8 (by decide) (hts (.fieldLink RX5 38 "FrameWalks$Track" "guessed" "I") (List.mem_of_getElem? (i := 3) rfl)) (fun _ h9 => h9) rfl dX5_addGuessed_76 ?_
        refine lv_iconst (v := (1 : Int32)) hx hb dX5_addGuessed_79 (by decide) ?_
        refine lv_iadd hx hb dX5_addGuessed_80 ?_
        refine va_put (D := D) (ci := 5) (v := .int (v_guessed + (1 : Int32))) (ty := .int) (C := RX5) (T := TX5) (N := 9) hx hb hts hinX5 tyX5 tyX5_ok nmX5 hown hK.1 hP hD hS 0 rfl rfl 8 (by decide) (hts (.fieldLink RX5 38 "FrameWalks$Track" "guessed" "I") (List.mem_of_getElem? (i := 3) rfl)) (fun _ h9 => h9) rfl (by decide +kernel) rfl rfl (Nat.le_of_ble_eq_true rfl) dX5_addGuessed_81 (fun H locs hP hD hS => ?_)
        have hP : va_P D vwCl [(a, .inr (5, [.ref a_registers, .ref a_owners, .ref a_looked, .ref a_ways, .int (v_taken), .int (v_leftSignal), .int (v_size), .int (v_ended), .int (v_guessed + (1 : Int32))])), (a_registers, .inl (cy 0, 120, .inl (upd (upd f_registers (y4 + (4 : Int32)).toNatClampNeg (y3 + (1 : Int32))) (y4 + (5 : Int32)).toNatClampNeg (y2)))), (a_ways, .inl (cy 0, 20, .inl (f_ways)))] H := hP
        have hD : va_D A [(a, .inr (5, [.ref a_registers, .ref a_owners, .ref a_looked, .ref a_ways, .int (v_taken), .int (v_leftSignal), .int (v_size), .int (v_ended), .int (v_guessed + (1 : Int32))])), (a_registers, .inl (cy 0, 120, .inl (upd (upd f_registers (y4 + (4 : Int32)).toNatClampNeg (y3 + (1 : Int32))) (y4 + (5 : Int32)).toNatClampNeg (y2)))), (a_ways, .inl (cy 0, 20, .inl (f_ways)))] := hD
        refine lv_aload_n hx hb dX5_addGuessed_84 rfl (lv_at hl 0 rfl) ?_
        refine lv_iconst (v := (2 : Int32)) hx hb dX5_addGuessed_85 (by decide) ?_
        obtain ⟨m_34, m_35, hc_36, h⟩ := bn2_s h
        refine call_v (ws1 := [(a, .inr (5, [.ref a_registers, .ref a_owners, .ref a_looked, .ref a_ways, .int (v_taken), .int (v_leftSignal), .int (m_34), .int (v_ended), .int (v_guessed + (1 : Int32))])), (a_registers, .inl (cy 0, 120, .inl (upd (upd f_registers (y4 + (4 : Int32)).toNatClampNeg (y3 + (1 : Int32))) (y4 + (5 : Int32)).toNatClampNeg (y2)))), (a_ways, .inl (cy 0, 20, .inl (m_35)))]) (wr := [(a_registers, .inl (cy 0, 120, .inl (upd (upd f_registers (y4 + (4 : Int32)).toNatClampNeg (y3 + (1 : Int32))) (y4 + (5 : Int32)).toNatClampNeg (y2))))]) (run_V ⟨hx, hb, hml, hown, hts⟩ ((c_X5_add l D cy a a_registers a_owners a_looked a_ways (v_taken) (v_leftSignal) (v_size) (v_ended) (v_guessed + (1 : Int32)) (f_ways) ((2 : Int32)) m_34 m_35 hc_36) H.size) (cwV 1 hts gX5_addGuessed_X5_add rfl rfl rfl hd_X5_add ⟨Nat.le_of_ble_eq_true rfl, Nat.le_of_ble_eq_true rfl⟩) KK.calling (fun U _ hW => hK.warm hW) hK.1 hP hD [0, 2] [1] [1, 0, 2] rfl rfl 0 5 rfl rfl rfl rfl hl.1 rfl (lv_room (Nat.le_of_ble_eq_true rfl)) dX5_addGuessed_86) hP hD hS hA [0, 2] [1] [1, 0, 2] rfl rfl rfl rfl (fun H locs hP hD hS => ?_)
        obtain ⟨e0, e1, e2, e3⟩ := tp4_s h
        exact Mv.ret' hx hb hr hlocks (by rw [← e0, ← e1, ← e2, ← e3]) hP hD hS dX5_addGuessed_89
      · have h := ifn c_31 h
        refine lv_aload_n hx hb dX5_addGuessed_29 rfl (lv_at hl 0 rfl) ?_
        refine va_get (D := D) (ci := 5) (v := .ref a_registers) (C := RX5) (T := TX5) (N := 9) hx hb hts hinX5 hown hK.1 hP 0 rfl rfl 0 (by decide) (hts (.fieldLink RX5 9 "FrameWalks$Track" "registers" "[I") (List.mem_of_getElem? (i := 2) rfl)) (fun _ h9 => h9) rfl dX5_addGuessed_30 ?_
        refine lv_iload hx hb dX5_addGuessed_33 (lv_at hl 4 rfl) ?_
        refine lv_iload hx hb dX5_addGuessed_35 (lv_at hl 5 rfl) ?_
        refine lv_iadd hx hb dX5_addGuessed_37 ?_
        refine lv_aload_n hx hb dX5_addGuessed_38 rfl (lv_at hl 0 rfl) ?_
        refine lv_iload_n hx hb dX5_addGuessed_39 rfl (lv_at hl 1 rfl) ?_
        refine lv_iload hx hb dX5_addGuessed_40 (lv_at hl 5 rfl) ?_
        obtain ⟨r_37, hc_39, h⟩ := bn1_s h
        refine call_i (ws1 := [(a, .inr (5, [.ref a_registers, .ref a_owners, .ref a_looked, .ref a_ways, .int (v_taken), .int (v_leftSignal), .int (v_size), .int (v_ended), .int (v_guessed)])), (a_registers, .inl (cy 0, 120, .inl (f_registers))), (a_ways, .inl (cy 0, 20, .inl (f_ways)))]) (wr := [(a_ways, .inl (cy 0, 20, .inl (f_ways)))]) (run_V ⟨hx, hb, hml, hown, hts⟩ ((c_X5_register l D cy a a_registers a_owners a_looked a_ways (v_taken) (v_leftSignal) (v_size) (v_ended) (v_guessed) (f_registers) (y1) (y5) r_37 hc_39) H.size) (cwV 2 hts gX5_addGuessed_X5_register rfl rfl rfl hd_X5_register ⟨Nat.le_of_ble_eq_true rfl, Nat.le_of_ble_eq_true rfl⟩) KK.calling (fun U _ hW => hK.warm hW) hK.1 hP hD [0, 1] [2] [1, 2, 0] rfl rfl 0 5 rfl rfl rfl rfl hl.1 rfl (lv_room (Nat.le_of_ble_eq_true rfl)) dX5_addGuessed_42) hP hD hS hA [0, 1] [2] [1, 2, 0] rfl rfl rfl rfl (fun H locs hP hD hS => ?_)
        obtain ⟨i_38, h⟩ := cki_s h
        refine va_iast hx hb hK.1 hP hD hS 1 0 rfl rfl i_38 dX5_addGuessed_45 (fun H locs hP hD hS => ?_)
        have hP : va_P D vwCl [(a, .inr (5, [.ref a_registers, .ref a_owners, .ref a_looked, .ref a_ways, .int (v_taken), .int (v_leftSignal), .int (v_size), .int (v_ended), .int (v_guessed)])), (a_registers, .inl (cy 0, 120, .inl (upd f_registers (y4 + y5).toNatClampNeg (r_37)))), (a_ways, .inl (cy 0, 20, .inl (f_ways)))] H := hP
        have hD : va_D A [(a, .inr (5, [.ref a_registers, .ref a_owners, .ref a_looked, .ref a_ways, .int (v_taken), .int (v_leftSignal), .int (v_size), .int (v_ended), .int (v_guessed)])), (a_registers, .inl (cy 0, 120, .inl (upd f_registers (y4 + y5).toNatClampNeg (r_37)))), (a_ways, .inl (cy 0, 20, .inl (f_ways)))] := hD
        refine lv_iinc (v := y5 + (1 : Int32)) (lv' := [(5, .int (y5 + (1 : Int32))), (0, .ref a), (1, .int (y1)), (2, .int (y2)), (3, .int (y3)), (4, .int (y4))]) hx hb dX5_addGuessed_46 hl (k := 5) rfl rfl (by decide) rfl (fun ls hl => ?_)
        refine lv_goto (tgt := 22) hx hb dX5_addGuessed_49 (by decide) ?_
        exact ih22 (y1) (y2) (y3) (y4) (y5 + (1 : Int32)) (v_size) (v_guessed) (upd f_registers (y4 + y5).toNatClampNeg (r_37)) (f_ways) H locs ls hP hD hS (lv_sub hl [1, 2, 3, 4, 5, 0] rfl) h
  have main : ∀ (H : Heap) (locs : List Loc) (ls : Array Slot), va_P D vwCl [(a, .inr (5, [.ref a_registers, .ref a_owners, .ref a_looked, .ref a_ways, .int (v_taken), .int (v_leftSignal), .int (v_size), .int (v_ended), .int (v_guessed)])), (a_registers, .inl (cy 0, 120, .inl (f_registers))), (a_ways, .inl (cy 0, 20, .inl (f_ways)))] H → va_D A [(a, .inr (5, [.ref a_registers, .ref a_owners, .ref a_looked, .ref a_ways, .int (v_taken), .int (v_leftSignal), .int (v_size), .int (v_ended), .int (v_guessed)])), (a_registers, .inl (cy 0, 120, .inl (f_registers))), (a_ways, .inl (cy 0, 20, .inl (f_ways)))] → va_S A s.heap H locs → lv_has ls 6 [(0, .ref a), (1, .int (x1)), (2, .int (x2)), (3, .int (x3))] → f_X5_addGuessed x1 x2 x3 v_size v_guessed f_registers f_ways = some (z_v_size, z_v_guessed, z_f_registers, z_f_ways) → W p l e ({ frames := 2, cells := 0, slots := 0, locals := 43 } : Room) s m [.ref a, .int (x1), .int (x2), .int (x3)].toArray below meth c H locs 0 0 (MQ below (Qv D A [(a, .inr (5, [.ref a_registers, .ref a_owners, .ref a_looked, .ref a_ways, .int (v_taken), .int (v_leftSignal), .int (z_v_size), .int (v_ended), .int (z_v_guessed)])), (a_registers, .inl (cy 0, 120, .inl (z_f_registers))), (a_ways, .inl (cy 0, 20, .inl (z_f_ways)))]) [.ref a, .int (x1), .int (x2), .int (x3)].toArray s 0 0 A) (F0 m 0 ls []) := by
    intro H locs ls hP hD hS hl h
    unfold f_X5_addGuessed at h
    refine lv_aload_n hx hb dX5_addGuessed_0 rfl (lv_at hl 0 rfl) ?_
    refine va_get (D := D) (ci := 5) (v := .int (v_size)) (C := RX5) (T := TX5) (N := 9) hx hb hts hinX5 hown hK.1 hP 0 rfl rfl 6 (by decide) (hts (.fieldLink RX5 31 "FrameWalks$Track" "size" "I") (List.mem_of_getElem? (i := 1) rfl)) (fun _ h9 => h9) rfl dX5_addGuessed_1 ?_
    refine lv_bipush (v := (20 : Int32)) hx hb dX5_addGuessed_4 (by decide) ?_
    refine lv_icmp_lt (tgt := 10) hx hb dX5_addGuessed_6 (by decide) (fun c_40 => ?_) (fun c_40 => ?_)
    · have h := ift c_40 h
      refine lv_aload_n hx hb dX5_addGuessed_10 rfl (lv_at hl 0 rfl) ?_
      refine va_get (D := D) (ci := 5) (v := .int (v_size)) (C := RX5) (T := TX5) (N := 9) hx hb hts hinX5 hown hK.1 hP 0 rfl rfl 6 (by decide) (hts (.fieldLink RX5 31 "FrameWalks$Track" "size" "I") (List.mem_of_getElem? (i := 1) rfl)) (fun _ h9 => h9) rfl dX5_addGuessed_11 ?_
      refine lv_bipush (v := (6 : Int32)) hx hb dX5_addGuessed_14 (by decide) ?_
      refine lv_imul hx hb dX5_addGuessed_16 ?_
      refine lv_istore (lv' := [(4, .int (v_size * (6 : Int32))), (0, .ref a), (1, .int (x1)), (2, .int (x2)), (3, .int (x3))]) hx hb dX5_addGuessed_17 hl (by decide) rfl (fun ls hl => ?_)
      refine lv_iconst (v := (0 : Int32)) hx hb dX5_addGuessed_19 (by decide) ?_
      refine lv_istore (lv' := [(5, .int ((0 : Int32))), (4, .int (v_size * (6 : Int32))), (0, .ref a), (1, .int (x1)), (2, .int (x2)), (3, .int (x3))]) hx hb dX5_addGuessed_20 hl (by decide) rfl (fun ls hl => ?_)
      exact hL22 FUEL (x1) (x2) (x3) (v_size * (6 : Int32)) ((0 : Int32)) (v_size) (v_guessed) (f_registers) (f_ways) H locs ls hP hD hS (lv_sub hl [2, 3, 4, 5, 1, 0] rfl) h
    · have h := ifn c_40 h
      obtain ⟨e0, e1, e2, e3⟩ := tp4_s h
      exact Mv.ret' hx hb hr hlocks (by rw [← e0, ← e1, ← e2, ← e3]) hP hD hS dX5_addGuessed_9
  exact main s.heap [] ls hP hD va_S.rf hl h
theorem hd_X5_callers : yX5_callers.cls = RX5 ∧ yX5_callers.cls ≠ "java/lang/invoke/MethodHandle" ∧ yX5_callers.cls ≠ "java/lang/invoke/VarHandle" ∧ (parseMethodDescriptor yX5_callers.desc).map (fun d => d.parameters.length) = some 4 := by decide +kernel
def f_X5_callers (x1 : Int32) (x2 : Int32) (v_size : Int32) (f_registers : Nat → Int32) (fp3_cells : Nat → Int32) (np4 : Nat) (fp4 : Nat → Int32) : Option (Int32) := (bn1 (f_X1_which (x2) (fp3_cells)) (fun r_58 => (if r_58 = (2 : Int32) then (bn1 (f_X1_number (x2) (fp3_cells)) (fun r_72 => (bn1 (f_X5_register (x1) (r_72) (v_size) (f_registers)) (fun r_73 => (some r_73))))) else (bn1 (f_X1_which (x2) (fp3_cells)) (fun r_60 => (if r_60 = (1 : Int32) then (bn1 (f_X5_topOf (x1) (v_size) (f_registers) (fp3_cells)) (fun r_64 => (bn1 (f_X1_number (x2) (fp3_cells)) (fun r_65 => (if r_64 - r_65 < 0 then (some ((0 : Int32))) else (if Int32.ofNat np4 ≤ r_64 - r_65 then (some ((0 : Int32))) else (cki (r_64 - r_65) np4 (some (fp4 (r_64 - r_65).toNatClampNeg))))))))) else (bn1 (f_X5_register (x1) (x2) (v_size) (f_registers)) (fun r_62 => (some r_62)))))))))
set_option maxHeartbeats 4000000 in
set_option maxRecDepth 100000 in
theorem c_X5_callers (l : Launch) (D : va_G) (cy : Nat → ClassId) (a a_registers a_owners a_looked a_ways ap3 ap3_cells ap3_aside ap4 : Nat) (v_taken : Int32) (v_leftSignal : Int32) (v_size : Int32) (v_ended : Int32) (v_guessed : Int32) (f_registers : Nat → Int32) (vp3_asideSize : Int32) (fp3_cells : Nat → Int32) (np4 : Nat) (fp4 : Nat → Int32) (x1 : Int32) (x2 : Int32) (res : Int32) (h : f_X5_callers x1 x2 v_size f_registers fp3_cells np4 fp4 = some res) : Mi l yX5_callers wsX5_callers ({ frames := 3, cells := 0, slots := 0, locals := 65 } : Room) (KK D cy) D [.ref a, .int (x1), .int (x2), .ref ap3, .ref ap4] [(a, .inr (5, [.ref a_registers, .ref a_owners, .ref a_looked, .ref a_ways, .int (v_taken), .int (v_leftSignal), .int (v_size), .int (v_ended), .int (v_guessed)])), (a_registers, .inl (cy 0, 120, .inl (f_registers))), (ap3, .inr (1, [.ref ap3_cells, .ref ap3_aside, .int (vp3_asideSize)])), (ap3_cells, .inl (cy 0, 14, .inl (fp3_cells))), (ap4, .inl (cy 0, np4, .inl (fp4)))] [(a, .inr (5, [.ref a_registers, .ref a_owners, .ref a_looked, .ref a_ways, .int (v_taken), .int (v_leftSignal), .int (v_size), .int (v_ended), .int (v_guessed)])), (a_registers, .inl (cy 0, 120, .inl (f_registers))), (ap3, .inr (1, [.ref ap3_cells, .ref ap3_aside, .int (vp3_asideSize)])), (ap3_cells, .inl (cy 0, 14, .inl (fp3_cells))), (ap4, .inl (cy 0, np4, .inl (fp4)))] res := by
  intro sz
  refine Met.mk0 (cc := cX5_callers) (maxL := 6) (ret := (some .int)) (Qc := fun A => Qi D A [(a, .inr (5, [.ref a_registers, .ref a_owners, .ref a_looked, .ref a_ways, .int (v_taken), .int (v_leftSignal), .int (v_size), .int (v_ended), .int (v_guessed)])), (a_registers, .inl (cy 0, 120, .inl (f_registers))), (ap3, .inr (1, [.ref ap3_cells, .ref ap3_aside, .int (vp3_asideSize)])), (ap3_cells, .inl (cy 0, 14, .inl (fp3_cells))), (ap4, .inl (cy 0, np4, .inl (fp4)))] res) (by decide) rfl (Nat.le_of_ble_eq_true rfl) ?_
  intro p e s m below meth c A ls hx hb hml hown hts hr hlocks hK hP hD hA hl
  have hown : s.vm.findClass RX5 = some m.cls := hown
  have hl : lv_has ls 6 [(0, .ref a), (1, .int (x1)), (2, .int (x2)), (3, .ref ap3), (4, .ref ap4)] := hl
  have hinX1 : ∀ w ∈ u_ws RX1 TX1 3, w ∈ wsX5_callers := (fun w h => List.mem_cons_of_mem _ (List.mem_append_left _ (List.mem_append_right _ h)))
  have hinX5 : ∀ w ∈ u_ws RX5 TX5 9, w ∈ wsX5_callers := (fun w h => List.mem_cons_of_mem _ (List.mem_append_right _ h))
  have main : ∀ (H : Heap) (locs : List Loc) (ls : Array Slot), va_P D vwCl [(a, .inr (5, [.ref a_registers, .ref a_owners, .ref a_looked, .ref a_ways, .int (v_taken), .int (v_leftSignal), .int (v_size), .int (v_ended), .int (v_guessed)])), (a_registers, .inl (cy 0, 120, .inl (f_registers))), (ap3, .inr (1, [.ref ap3_cells, .ref ap3_aside, .int (vp3_asideSize)])), (ap3_cells, .inl (cy 0, 14, .inl (fp3_cells))), (ap4, .inl (cy 0, np4, .inl (fp4)))] H → va_D A [(a, .inr (5, [.ref a_registers, .ref a_owners, .ref a_looked, .ref a_ways, .int (v_taken), .int (v_leftSignal), .int (v_size), .int (v_ended), .int (v_guessed)])), (a_registers, .inl (cy 0, 120, .inl (f_registers))), (ap3, .inr (1, [.ref ap3_cells, .ref ap3_aside, .int (vp3_asideSize)])), (ap3_cells, .inl (cy 0, 14, .inl (fp3_cells))), (ap4, .inl (cy 0, np4, .inl (fp4)))] → va_S A s.heap H locs → lv_has ls 6 [(0, .ref a), (1, .int (x1)), (2, .int (x2)), (3, .ref ap3), (4, .ref ap4)] → f_X5_callers x1 x2 v_size f_registers fp3_cells np4 fp4 = some res → W p l e ({ frames := 3, cells := 0, slots := 0, locals := 65 } : Room) s m [.ref a, .int (x1), .int (x2), .ref ap3, .ref ap4].toArray below meth c H locs 0 0 (MQ below (Qi D A [(a, .inr (5, [.ref a_registers, .ref a_owners, .ref a_looked, .ref a_ways, .int (v_taken), .int (v_leftSignal), .int (v_size), .int (v_ended), .int (v_guessed)])), (a_registers, .inl (cy 0, 120, .inl (f_registers))), (ap3, .inr (1, [.ref ap3_cells, .ref ap3_aside, .int (vp3_asideSize)])), (ap3_cells, .inl (cy 0, 14, .inl (fp3_cells))), (ap4, .inl (cy 0, np4, .inl (fp4)))] res) [.ref a, .int (x1), .int (x2), .ref ap3, .ref ap4].toArray s 0 0 A) (F0 m 0 ls []) := by
    intro H locs ls hP hD hS hl h
    unfold f_X5_callers at h
    refine lv_aload_n hx hb dX5_callers_0 rfl (lv_at hl 3 rfl) ?_
    refine lv_iload_n hx hb dX5_callers_1 rfl (lv_at hl 2 rfl) ?_
    obtain ⟨r_58, hc_76, h⟩ := bn1_s h
    refine call_i (ws1 := [(a, .inr (5, [.ref a_registers, .ref a_owners, .ref a_looked, .ref a_ways, .int (v_taken), .int (v_leftSignal), .int (v_size), .int (v_ended), .int (v_guessed)])), (a_registers, .inl (cy 0, 120, .inl (f_registers))), (ap3, .inr (1, [.ref ap3_cells, .ref ap3_aside, .int (vp3_asideSize)])), (ap3_cells, .inl (cy 0, 14, .inl (fp3_cells))), (ap4, .inl (cy 0, np4, .inl (fp4)))]) (wr := [(a, .inr (5, [.ref a_registers, .ref a_owners, .ref a_looked, .ref a_ways, .int (v_taken), .int (v_leftSignal), .int (v_size), .int (v_ended), .int (v_guessed)])), (a_registers, .inl (cy 0, 120, .inl (f_registers))), (ap4, .inl (cy 0, np4, .inl (fp4)))]) (run_V ⟨hx, hb, hml, hown, hts⟩ ((c_X1_which l D cy ap3 ap3_cells ap3_aside (vp3_asideSize) (fp3_cells) (x2) r_58 hc_76) H.size) (cwV 1 hts gX5_callers_X1_which rfl rfl rfl hd_X1_which ⟨Nat.le_of_ble_eq_true rfl, Nat.le_of_ble_eq_true rfl⟩) KK.calling (fun U _ hW => hK.warm hW) hK.1 hP hD [2, 3] [0, 1, 4] [0, 1, 3, 4, 2] rfl rfl 2 1 rfl rfl rfl rfl hl.1 rfl (lv_room (Nat.le_of_ble_eq_true rfl)) dX5_callers_2) hP hD hS hA [2, 3] [0, 1, 4] [0, 1, 3, 4, 2] rfl rfl rfl rfl (fun H locs hP hD hS => ?_)
    refine lv_iconst (v := (2 : Int32)) hx hb dX5_callers_5 (by decide) ?_
    refine lv_icmp_ne (tgt := 20) hx hb dX5_callers_6 (by decide) (fun c_59 => ?_) (fun c_59 => ?_)
    · have h := ifn c_59 h
      refine lv_aload_n hx hb dX5_callers_20 rfl (lv_at hl 3 rfl) ?_
      refine lv_iload_n hx hb dX5_callers_21 rfl (lv_at hl 2 rfl) ?_
      obtain ⟨r_60, hc_71, h⟩ := bn1_s h
      refine call_i (ws1 := [(a, .inr (5, [.ref a_registers, .ref a_owners, .ref a_looked, .ref a_ways, .int (v_taken), .int (v_leftSignal), .int (v_size), .int (v_ended), .int (v_guessed)])), (a_registers, .inl (cy 0, 120, .inl (f_registers))), (ap3, .inr (1, [.ref ap3_cells, .ref ap3_aside, .int (vp3_asideSize)])), (ap3_cells, .inl (cy 0, 14, .inl (fp3_cells))), (ap4, .inl (cy 0, np4, .inl (fp4)))]) (wr := [(a, .inr (5, [.ref a_registers, .ref a_owners, .ref a_looked, .ref a_ways, .int (v_taken), .int (v_leftSignal), .int (v_size), .int (v_ended), .int (v_guessed)])), (a_registers, .inl (cy 0, 120, .inl (f_registers))), (ap4, .inl (cy 0, np4, .inl (fp4)))]) (run_V ⟨hx, hb, hml, hown, hts⟩ ((c_X1_which l D cy ap3 ap3_cells ap3_aside (vp3_asideSize) (fp3_cells) (x2) r_60 hc_71) H.size) (cwV 1 hts gX5_callers_X1_which rfl rfl rfl hd_X1_which ⟨Nat.le_of_ble_eq_true rfl, Nat.le_of_ble_eq_true rfl⟩) KK.calling (fun U _ hW => hK.warm hW) hK.1 hP hD [2, 3] [0, 1, 4] [0, 1, 3, 4, 2] rfl rfl 2 1 rfl rfl rfl rfl hl.1 rfl (lv_room (Nat.le_of_ble_eq_true rfl)) dX5_callers_22) hP hD hS hA [2, 3] [0, 1, 4] [0, 1, 3, 4, 2] rfl rfl rfl rfl (fun H locs hP hD hS => ?_)
      refine lv_iconst (v := (1 : Int32)) hx hb dX5_callers_25 (by decide) ?_
      refine lv_icmp_ne (tgt := 66) hx hb dX5_callers_26 (by decide) (fun c_61 => ?_) (fun c_61 => ?_)
      · have h := ifn c_61 h
        refine lv_aload_n hx hb dX5_callers_66 rfl (lv_at hl 0 rfl) ?_
        refine lv_iload_n hx hb dX5_callers_67 rfl (lv_at hl 1 rfl) ?_
        refine lv_iload_n hx hb dX5_callers_68 rfl (lv_at hl 2 rfl) ?_
        obtain ⟨r_62, hc_63, h⟩ := bn1_s h
        refine call_i (ws1 := [(a, .inr (5, [.ref a_registers, .ref a_owners, .ref a_looked, .ref a_ways, .int (v_taken), .int (v_leftSignal), .int (v_size), .int (v_ended), .int (v_guessed)])), (a_registers, .inl (cy 0, 120, .inl (f_registers))), (ap3, .inr (1, [.ref ap3_cells, .ref ap3_aside, .int (vp3_asideSize)])), (ap3_cells, .inl (cy 0, 14, .inl (fp3_cells))), (ap4, .inl (cy 0, np4, .inl (fp4)))]) (wr := [(ap3, .inr (1, [.ref ap3_cells, .ref ap3_aside, .int (vp3_asideSize)])), (ap3_cells, .inl (cy 0, 14, .inl (fp3_cells))), (ap4, .inl (cy 0, np4, .inl (fp4)))]) (run_V ⟨hx, hb, hml, hown, hts⟩ ((c_X5_register l D cy a a_registers a_owners a_looked a_ways (v_taken) (v_leftSignal) (v_size) (v_ended) (v_guessed) (f_registers) (x1) (x2) r_62 hc_63) H.size) (cwV 2 hts gX5_callers_X5_register rfl rfl rfl hd_X5_register ⟨Nat.le_of_ble_eq_true rfl, Nat.le_of_ble_eq_true rfl⟩) KK.calling (fun U _ hW => hK.warm hW) hK.1 hP hD [0, 1] [2, 3, 4] [3, 4, 0, 1, 2] rfl rfl 0 5 rfl rfl rfl rfl hl.1 rfl (lv_room (Nat.le_of_ble_eq_true rfl)) dX5_callers_69) hP hD hS hA [0, 1] [2, 3, 4] [3, 4, 0, 1, 2] rfl rfl rfl rfl (fun H locs hP hD hS => ?_)
        have e0 := Option.some.inj h
        exact Mi.ret' hx hb hr hlocks e0 rfl hP hD hS dX5_callers_72
      · have h := ift c_61 h
        refine lv_aload_n hx hb dX5_callers_29 rfl (lv_at hl 0 rfl) ?_
        refine lv_iload_n hx hb dX5_callers_30 rfl (lv_at hl 1 rfl) ?_
        refine lv_aload_n hx hb dX5_callers_31 rfl (lv_at hl 3 rfl) ?_
        obtain ⟨r_64, hc_70, h⟩ := bn1_s h
        refine call_i (ws1 := [(a, .inr (5, [.ref a_registers, .ref a_owners, .ref a_looked, .ref a_ways, .int (v_taken), .int (v_leftSignal), .int (v_size), .int (v_ended), .int (v_guessed)])), (a_registers, .inl (cy 0, 120, .inl (f_registers))), (ap3, .inr (1, [.ref ap3_cells, .ref ap3_aside, .int (vp3_asideSize)])), (ap3_cells, .inl (cy 0, 14, .inl (fp3_cells))), (ap4, .inl (cy 0, np4, .inl (fp4)))]) (wr := [(ap4, .inl (cy 0, np4, .inl (fp4)))]) (run_V ⟨hx, hb, hml, hown, hts⟩ ((c_X5_topOf l D cy a a_registers a_owners a_looked a_ways ap3 ap3_cells ap3_aside (v_taken) (v_leftSignal) (v_size) (v_ended) (v_guessed) (f_registers) (vp3_asideSize) (fp3_cells) (x1) r_64 hc_70) H.size) (cwV 2 hts gX5_callers_X5_topOf rfl rfl rfl hd_X5_topOf ⟨Nat.le_of_ble_eq_true rfl, Nat.le_of_ble_eq_true rfl⟩) KK.calling (fun U _ hW => hK.warm hW) hK.1 hP hD [0, 1, 2, 3] [4] [1, 2, 3, 4, 0] rfl rfl 0 5 rfl rfl rfl rfl hl.1 rfl (lv_room (Nat.le_of_ble_eq_true rfl)) dX5_callers_32) hP hD hS hA [0, 1, 2, 3] [4] [1, 2, 3, 4, 0] rfl rfl rfl rfl (fun H locs hP hD hS => ?_)
        refine lv_aload_n hx hb dX5_callers_35 rfl (lv_at hl 3 rfl) ?_
        refine lv_iload_n hx hb dX5_callers_36 rfl (lv_at hl 2 rfl) ?_
        obtain ⟨r_65, hc_69, h⟩ := bn1_s h
        refine call_i (ws1 := [(a, .inr (5, [.ref a_registers, .ref a_owners, .ref a_looked, .ref a_ways, .int (v_taken), .int (v_leftSignal), .int (v_size), .int (v_ended), .int (v_guessed)])), (a_registers, .inl (cy 0, 120, .inl (f_registers))), (ap3, .inr (1, [.ref ap3_cells, .ref ap3_aside, .int (vp3_asideSize)])), (ap3_cells, .inl (cy 0, 14, .inl (fp3_cells))), (ap4, .inl (cy 0, np4, .inl (fp4)))]) (wr := [(a, .inr (5, [.ref a_registers, .ref a_owners, .ref a_looked, .ref a_ways, .int (v_taken), .int (v_leftSignal), .int (v_size), .int (v_ended), .int (v_guessed)])), (a_registers, .inl (cy 0, 120, .inl (f_registers))), (ap4, .inl (cy 0, np4, .inl (fp4)))]) (run_V ⟨hx, hb, hml, hown, hts⟩ ((c_X1_number l D cy ap3 ap3_cells ap3_aside (vp3_asideSize) (fp3_cells) (x2) r_65 hc_69) H.size) (cwV 1 hts gX5_callers_X1_number rfl rfl rfl hd_X1_number ⟨Nat.le_of_ble_eq_true rfl, Nat.le_of_ble_eq_true rfl⟩) KK.calling (fun U _ hW => hK.warm hW) hK.1 hP hD [2, 3] [0, 1, 4] [0, 1, 3, 4, 2] rfl rfl 2 1 rfl rfl rfl rfl hl.1 rfl (lv_room (Nat.le_of_ble_eq_true rfl)) dX5_callers_37) hP hD hS hA [2, 3] [0, 1, 4] [0, 1, 3, 4, 2] rfl rfl rfl rfl (fun H locs hP hD hS => ?_)
        refine lv_isub hx hb dX5_callers_40 ?_
        refine lv_istore (lv' := [(5, .int (r_64 - r_65)), (0, .ref a), (1, .int (x1)), (2, .int (x2)), (3, .ref ap3), (4, .ref ap4)]) hx hb dX5_callers_41 hl (by decide) rfl (fun ls hl => ?_)
        refine lv_iload hx hb dX5_callers_43 (lv_at hl 0 rfl) ?_
        refine lv_if_lt (tgt := 64) hx hb dX5_callers_45 (by decide) (fun c_66 => ?_) (fun c_66 => ?_)
        · have h := ift c_66 h
          refine lv_iconst (v := (0 : Int32)) hx hb dX5_callers_64 (by decide) ?_
          have e0 := Option.some.inj h
          exact Mi.ret' hx hb hr hlocks e0 rfl hP hD hS dX5_callers_65
        · have h := ifn c_66 h
          refine lv_iload hx hb dX5_callers_48 (lv_at hl 0 rfl) ?_
          refine lv_aload hx hb dX5_callers_50 (lv_at hl 5 rfl) ?_
          refine va_alen hx hb hK.1 hP 4 0 rfl rfl (v := Int32.ofNat np4) rfl dX5_callers_52 ?_
          refine lv_icmp_ge (tgt := 64) hx hb dX5_callers_53 (by decide) (fun c_67 => ?_) (fun c_67 => ?_)
          · have h := ift c_67 h
            refine lv_iconst (v := (0 : Int32)) hx hb dX5_callers_64 (by decide) ?_
            have e0 := Option.some.inj h
            exact Mi.ret' hx hb hr hlocks e0 rfl hP hD hS dX5_callers_65
          · have h := ifn c_67 h
            refine lv_aload hx hb dX5_callers_56 (lv_at hl 5 rfl) ?_
            refine lv_iload hx hb dX5_callers_58 (lv_at hl 0 rfl) ?_
            obtain ⟨i_68, h⟩ := cki_s h
            refine va_iald hx hb hK.1 hP 4 0 rfl rfl i_68 dX5_callers_60 ?_
            refine lv_goto (tgt := 65) hx hb dX5_callers_61 (by decide) ?_
            have e0 := Option.some.inj h
            exact Mi.ret' hx hb hr hlocks e0 rfl hP hD hS dX5_callers_65
    · have h := ift c_59 h
      refine lv_aload_n hx hb dX5_callers_9 rfl (lv_at hl 0 rfl) ?_
      refine lv_iload_n hx hb dX5_callers_10 rfl (lv_at hl 1 rfl) ?_
      refine lv_aload_n hx hb dX5_callers_11 rfl (lv_at hl 3 rfl) ?_
      refine lv_iload_n hx hb dX5_callers_12 rfl (lv_at hl 2 rfl) ?_
      obtain ⟨r_72, hc_75, h⟩ := bn1_s h
      refine call_i (ws1 := [(a, .inr (5, [.ref a_registers, .ref a_owners, .ref a_looked, .ref a_ways, .int (v_taken), .int (v_leftSignal), .int (v_size), .int (v_ended), .int (v_guessed)])), (a_registers, .inl (cy 0, 120, .inl (f_registers))), (ap3, .inr (1, [.ref ap3_cells, .ref ap3_aside, .int (vp3_asideSize)])), (ap3_cells, .inl (cy 0, 14, .inl (fp3_cells))), (ap4, .inl (cy 0, np4, .inl (fp4)))]) (wr := [(a, .inr (5, [.ref a_registers, .ref a_owners, .ref a_looked, .ref a_ways, .int (v_taken), .int (v_leftSignal), .int (v_size), .int (v_ended), .int (v_guessed)])), (a_registers, .inl (cy 0, 120, .inl (f_registers))), (ap4, .inl (cy 0, np4, .inl (fp4)))]) (run_V ⟨hx, hb, hml, hown, hts⟩ ((c_X1_number l D cy ap3 ap3_cells ap3_aside (vp3_asideSize) (fp3_cells) (x2) r_72 hc_75) H.size) (cwV 1 hts gX5_callers_X1_number rfl rfl rfl hd_X1_number ⟨Nat.le_of_ble_eq_true rfl, Nat.le_of_ble_eq_true rfl⟩) KK.calling (fun U _ hW => hK.warm hW) hK.1 hP hD [2, 3] [0, 1, 4] [0, 1, 3, 4, 2] rfl rfl 2 1 rfl rfl rfl rfl hl.1 rfl (lv_room (Nat.le_of_ble_eq_true rfl)) dX5_callers_13) hP hD hS hA [2, 3] [0, 1, 4] [0, 1, 3, 4, 2] rfl rfl rfl rfl (fun H locs hP hD hS => ?_)
      obtain ⟨r_73, hc_74, h⟩ := bn1_s h
      refine call_i (ws1 := [(a, .inr (5, [.ref a_registers, .ref a_owners, .ref a_looked, .ref a_ways, .int (v_taken), .int (v_leftSignal), .int (v_size), .int (v_ended), .int (v_guessed)])), (a_registers, .inl (cy 0, 120, .inl (f_registers))), (ap3, .inr (1, [.ref ap3_cells, .ref ap3_aside, .int (vp3_asideSize)])), (ap3_cells, .inl (cy 0, 14, .inl (fp3_cells))), (ap4, .inl (cy 0, np4, .inl (fp4)))]) (wr := [(ap3, .inr (1, [.ref ap3_cells, .ref ap3_aside, .int (vp3_asideSize)])), (ap3_cells, .inl (cy 0, 14, .inl (fp3_cells))), (ap4, .inl (cy 0, np4, .inl (fp4)))]) (run_V ⟨hx, hb, hml, hown, hts⟩ ((c_X5_register l D cy a a_registers a_owners a_looked a_ways (v_taken) (v_leftSignal) (v_size) (v_ended) (v_guessed) (f_registers) (x1) (r_72) r_73 hc_74) H.size) (cwV 2 hts gX5_callers_X5_register rfl rfl rfl hd_X5_register ⟨Nat.le_of_ble_eq_true rfl, Nat.le_of_ble_eq_true rfl⟩) KK.calling (fun U _ hW => hK.warm hW) hK.1 hP hD [0, 1] [2, 3, 4] [3, 4, 0, 1, 2] rfl rfl 0 5 rfl rfl rfl rfl hl.1 rfl (lv_room (Nat.le_of_ble_eq_true rfl)) dX5_callers_16) hP hD hS hA [0, 1] [2, 3, 4] [3, 4, 0, 1, 2] rfl rfl rfl rfl (fun H locs hP hD hS => ?_)
      have e0 := Option.some.inj h
      exact Mi.ret' hx hb hr hlocks e0 rfl hP hD hS dX5_callers_19
  exact main s.heap [] ls hP hD va_S.rf hl h
theorem hd_X5_addByRow : yX5_addByRow.cls = RX5 ∧ yX5_addByRow.cls ≠ "java/lang/invoke/MethodHandle" ∧ yX5_addByRow.cls ≠ "java/lang/invoke/VarHandle" ∧ (parseMethodDescriptor yX5_addByRow.desc).map (fun d => d.parameters.length) = some 3 := by decide +kernel
def f_X5_addByRow_L30 (fp2_cells : Nat → Int32) (np3 : Nat) (fp3 : Nat → Int32) : Nat → Int32 → Int32 → Int32 → Int32 → Int32 → (Nat → Int32) → (Nat → Int32) → Option (Int32 × (Nat → Int32) × (Nat → Int32))
  | 0, _, _, _, _, _, _, _ => none
  | n + 1, y1, y4, y5, y6, v_size, f_registers, f_ways => (if (6 : Int32) ≤ y6 then (cki (y4 + (4 : Int32)) 120 (bn2 (f_X5_add ((1 : Int32)) (v_size) (f_ways)) (fun m_36 m_37 => (some (m_36, upd f_registers (y4 + (4 : Int32)).toNatClampNeg (y5), m_37))))) else (bn1 (f_X5_callers (y1) (y6) (v_size) (f_registers) (fp2_cells) np3 (fp3)) (fun r_39 => (cki (y4 + y6) 120 ((f_X5_addByRow_L30 fp2_cells np3 fp3  n) (y1) (y4) (y5) (y6 + (1 : Int32)) (v_size) (upd f_registers (y4 + y6).toNatClampNeg (r_39)) (f_ways))))))
def f_X5_addByRow (x1 : Int32) (v_size : Int32) (f_registers : Nat → Int32) (f_ways : Nat → Int32) (fp2_cells : Nat → Int32) (np3 : Nat) (fp3 : Nat → Int32) : Option (Int32 × (Nat → Int32) × (Nat → Int32)) := (if v_size < (20 : Int32) then (bn1 (f_X5_topOf (x1) (v_size) (f_registers) (fp2_cells)) (fun r_43 => (f_X5_addByRow_L30 fp2_cells np3 fp3  FUEL (x1) (v_size * (6 : Int32)) (r_43) ((0 : Int32)) (v_size) (f_registers) (f_ways)))) else (some (v_size, f_registers, f_ways)))
set_option maxHeartbeats 4000000 in
set_option maxRecDepth 100000 in
theorem c_X5_addByRow (l : Launch) (D : va_G) (cy : Nat → ClassId) (a a_registers a_owners a_looked a_ways ap2 ap2_cells ap2_aside ap3 : Nat) (v_taken : Int32) (v_leftSignal : Int32) (v_size : Int32) (v_ended : Int32) (v_guessed : Int32) (f_registers : Nat → Int32) (f_ways : Nat → Int32) (vp2_asideSize : Int32) (fp2_cells : Nat → Int32) (np3 : Nat) (fp3 : Nat → Int32) (x1 : Int32) (z_v_size : Int32) (z_f_registers : Nat → Int32) (z_f_ways : Nat → Int32) (h : f_X5_addByRow x1 v_size f_registers f_ways fp2_cells np3 fp3 = some (z_v_size, z_f_registers, z_f_ways)) : Mv l yX5_addByRow wsX5_addByRow ({ frames := 4, cells := 0, slots := 0, locals := 90 } : Room) (KK D cy) D [.ref a, .int (x1), .ref ap2, .ref ap3] [(a, .inr (5, [.ref a_registers, .ref a_owners, .ref a_looked, .ref a_ways, .int (v_taken), .int (v_leftSignal), .int (v_size), .int (v_ended), .int (v_guessed)])), (a_registers, .inl (cy 0, 120, .inl (f_registers))), (a_ways, .inl (cy 0, 20, .inl (f_ways))), (ap2, .inr (1, [.ref ap2_cells, .ref ap2_aside, .int (vp2_asideSize)])), (ap2_cells, .inl (cy 0, 14, .inl (fp2_cells))), (ap3, .inl (cy 0, np3, .inl (fp3)))] [(a, .inr (5, [.ref a_registers, .ref a_owners, .ref a_looked, .ref a_ways, .int (v_taken), .int (v_leftSignal), .int (z_v_size), .int (v_ended), .int (v_guessed)])), (a_registers, .inl (cy 0, 120, .inl (z_f_registers))), (a_ways, .inl (cy 0, 20, .inl (z_f_ways))), (ap2, .inr (1, [.ref ap2_cells, .ref ap2_aside, .int (vp2_asideSize)])), (ap2_cells, .inl (cy 0, 14, .inl (fp2_cells))), (ap3, .inl (cy 0, np3, .inl (fp3)))] := by
  intro sz
  refine Met.mk0 (cc := cX5_addByRow) (maxL := 7) (ret := none) (Qc := fun A => Qv D A [(a, .inr (5, [.ref a_registers, .ref a_owners, .ref a_looked, .ref a_ways, .int (v_taken), .int (v_leftSignal), .int (z_v_size), .int (v_ended), .int (v_guessed)])), (a_registers, .inl (cy 0, 120, .inl (z_f_registers))), (a_ways, .inl (cy 0, 20, .inl (z_f_ways))), (ap2, .inr (1, [.ref ap2_cells, .ref ap2_aside, .int (vp2_asideSize)])), (ap2_cells, .inl (cy 0, 14, .inl (fp2_cells))), (ap3, .inl (cy 0, np3, .inl (fp3)))]) (by decide) rfl (Nat.le_of_ble_eq_true rfl) ?_
  intro p e s m below meth c A ls hx hb hml hown hts hr hlocks hK hP hD hA hl
  have hown : s.vm.findClass RX5 = some m.cls := hown
  have hl : lv_has ls 7 [(0, .ref a), (1, .int (x1)), (2, .ref ap2), (3, .ref ap3)] := hl
  have hinX5 : ∀ w ∈ u_ws RX5 TX5 9, w ∈ wsX5_addByRow := (fun w h => List.mem_cons_of_mem _ (List.mem_append_left _ (List.mem_append_right _ h)))
  have hinX1 : ∀ w ∈ u_ws RX1 TX1 3, w ∈ wsX5_addByRow := (fun w h => List.mem_cons_of_mem _ (List.mem_append_right _ h))
  have hL30 : ∀ (n30 : Nat) (y1 : Int32) (y4 : Int32) (y5 : Int32) (y6 : Int32) (v_size : Int32) (f_registers : Nat → Int32) (f_ways : Nat → Int32) (H : Heap) (locs : List Loc) (ls : Array Slot), va_P D vwCl [(a, .inr (5, [.ref a_registers, .ref a_owners, .ref a_looked, .ref a_ways, .int (v_taken), .int (v_leftSignal), .int (v_size), .int (v_ended), .int (v_guessed)])), (a_registers, .inl (cy 0, 120, .inl (f_registers))), (a_ways, .inl (cy 0, 20, .inl (f_ways))), (ap2, .inr (1, [.ref ap2_cells, .ref ap2_aside, .int (vp2_asideSize)])), (ap2_cells, .inl (cy 0, 14, .inl (fp2_cells))), (ap3, .inl (cy 0, np3, .inl (fp3)))] H → va_D A [(a, .inr (5, [.ref a_registers, .ref a_owners, .ref a_looked, .ref a_ways, .int (v_taken), .int (v_leftSignal), .int (v_size), .int (v_ended), .int (v_guessed)])), (a_registers, .inl (cy 0, 120, .inl (f_registers))), (a_ways, .inl (cy 0, 20, .inl (f_ways))), (ap2, .inr (1, [.ref ap2_cells, .ref ap2_aside, .int (vp2_asideSize)])), (ap2_cells, .inl (cy 0, 14, .inl (fp2_cells))), (ap3, .inl (cy 0, np3, .inl (fp3)))] → va_S A s.heap H locs → lv_has ls 7 [(0, .ref a), (1, .int (y1)), (2, .ref ap2), (3, .ref ap3), (4, .int (y4)), (5, .int (y5)), (6, .int (y6))] → f_X5_addByRow_L30 fp2_cells np3 fp3  n30 y1 y4 y5 y6 v_size f_registers f_ways = some (z_v_size, z_f_registers, z_f_ways) → W p l e ({ frames := 4, cells := 0, slots := 0, locals := 90 } : Room) s m [.ref a, .int (x1), .ref ap2, .ref ap3].toArray below meth c H locs 0 0 (MQ below (Qv D A [(a, .inr (5, [.ref a_registers, .ref a_owners, .ref a_looked, .ref a_ways, .int (v_taken), .int (v_leftSignal), .int (z_v_size), .int (v_ended), .int (v_guessed)])), (a_registers, .inl (cy 0, 120, .inl (z_f_registers))), (a_ways, .inl (cy 0, 20, .inl (z_f_ways))), (ap2, .inr (1, [.ref ap2_cells, .ref ap2_aside, .int (vp2_asideSize)])), (ap2_cells, .inl (cy 0, 14, .inl (fp2_cells))), (ap3, .inl (cy 0, np3, .inl (fp3)))]) [.ref a, .int (x1), .ref ap2, .ref ap3].toArray s 0 0 A) (F0 m 30 ls []) := by
    intro n30
    induction n30 with
    | zero =>
      intro y1 y4 y5 y6 v_size f_registers f_ways H locs ls hP hD hS hl h
      cases (id h : (none : Option (Int32 × (Nat → Int32) × (Nat → Int32))) = some _)
    | succ n30 ih30 =>
      intro y1 y4 y5 y6 v_size f_registers f_ways H locs ls hP hD hS hl h
      rw [f_X5_addByRow_L30] at h
      refine lv_iload hx hb dX5_addByRow_30 (lv_at hl 6 rfl) ?_
      refine lv_bipush (v := (6 : Int32)) hx hb dX5_addByRow_32 (by decide) ?_
      refine lv_icmp_ge (tgt := 62) hx hb dX5_addByRow_34 (by decide) (fun c_34 => ?_) (fun c_34 => ?_)
      · have h := ift c_34 h
        refine lv_aload_n hx hb dX5_addByRow_62 rfl (lv_at hl 0 rfl) ?_
        refine va_get (D := D) (ci := 5) (v := .ref a_registers) (C := RX5) (T := TX5) (N := 9) hx hb hts hinX5 hown hK.1 hP 0 rfl rfl 0 (by decide) (hts (.fieldLink RX5 9 "FrameWalks$Track" "registers" "[I") (List.mem_of_getElem? (i := 2) rfl)) (fun _ h9 => h9) rfl dX5_addByRow_63 ?_
        refine lv_iload hx hb dX5_addByRow_66 (lv_at hl 4 rfl) ?_
        refine lv_iconst (v := (4 : Int32)) hx hb dX5_addByRow_68 (by decide) ?_
        refine lv_iadd hx hb dX5_addByRow_69 ?_
        refine lv_iload hx hb dX5_addByRow_70 (lv_at hl 5 rfl) ?_
        obtain ⟨i_35, h⟩ := cki_s h
        refine va_iast hx hb hK.1 hP hD hS 1 0 rfl rfl i_35 dX5_addByRow_72 (fun H locs hP hD hS => ?_)
        have hP : va_P D vwCl [(a, .inr (5, [.ref a_registers, .ref a_owners, .ref a_looked, .ref a_ways, .int (v_taken), .int (v_leftSignal), .int (v_size), .int (v_ended), .int (v_guessed)])), (a_registers, .inl (cy 0, 120, .inl (upd f_registers (y4 + (4 : Int32)).toNatClampNeg (y5)))), (a_ways, .inl (cy 0, 20, .inl (f_ways))), (ap2, .inr (1, [.ref ap2_cells, .ref ap2_aside, .int (vp2_asideSize)])), (ap2_cells, .inl (cy 0, 14, .inl (fp2_cells))), (ap3, .inl (cy 0, np3, .inl (fp3)))] H := hP
        have hD : va_D A [(a, .inr (5, [.ref a_registers, .ref a_owners, .ref a_looked, .ref a_ways, .int (v_taken), .int (v_leftSignal), .int (v_size), .int (v_ended), .int (v_guessed)])), (a_registers, .inl (cy 0, 120, .inl (upd f_registers (y4 + (4 : Int32)).toNatClampNeg (y5)))), (a_ways, .inl (cy 0, 20, .inl (f_ways))), (ap2, .inr (1, [.ref ap2_cells, .ref ap2_aside, .int (vp2_asideSize)])), (ap2_cells, .inl (cy 0, 14, .inl (fp2_cells))), (ap3, .inl (cy 0, np3, .inl (fp3)))] := hD
        refine lv_aload_n hx hb dX5_addByRow_73 rfl (lv_at hl 0 rfl) ?_
        refine lv_iconst (v := (1 : Int32)) hx hb dX5_addByRow_74 (by decide) ?_
        obtain ⟨m_36, m_37, hc_38, h⟩ := bn2_s h
        refine call_v (ws1 := [(a, .inr (5, [.ref a_registers, .ref a_owners, .ref a_looked, .ref a_ways, .int (v_taken), .int (v_leftSignal), .int (m_36), .int (v_ended), .int (v_guessed)])), (a_registers, .inl (cy 0, 120, .inl (upd f_registers (y4 + (4 : Int32)).toNatClampNeg (y5)))), (a_ways, .inl (cy 0, 20, .inl (m_37))), (ap2, .inr (1, [.ref ap2_cells, .ref ap2_aside, .int (vp2_asideSize)])), (ap2_cells, .inl (cy 0, 14, .inl (fp2_cells))), (ap3, .inl (cy 0, np3, .inl (fp3)))]) (wr := [(a_registers, .inl (cy 0, 120, .inl (upd f_registers (y4 + (4 : Int32)).toNatClampNeg (y5)))), (ap2, .inr (1, [.ref ap2_cells, .ref ap2_aside, .int (vp2_asideSize)])), (ap2_cells, .inl (cy 0, 14, .inl (fp2_cells))), (ap3, .inl (cy 0, np3, .inl (fp3)))]) (run_V ⟨hx, hb, hml, hown, hts⟩ ((c_X5_add l D cy a a_registers a_owners a_looked a_ways (v_taken) (v_leftSignal) (v_size) (v_ended) (v_guessed) (f_ways) ((1 : Int32)) m_36 m_37 hc_38) H.size) (cwV 1 hts gX5_addByRow_X5_add rfl rfl rfl hd_X5_add ⟨Nat.le_of_ble_eq_true rfl, Nat.le_of_ble_eq_true rfl⟩) KK.calling (fun U _ hW => hK.warm hW) hK.1 hP hD [0, 2] [1, 3, 4, 5] [4, 0, 5, 1, 2, 3] rfl rfl 0 5 rfl rfl rfl rfl hl.1 rfl (lv_room (Nat.le_of_ble_eq_true rfl)) dX5_addByRow_75) hP hD hS hA [0, 2] [1, 3, 4, 5] [4, 0, 5, 1, 2, 3] rfl rfl rfl rfl (fun H locs hP hD hS => ?_)
        obtain ⟨e0, e1, e2⟩ := tp3_s h
        exact Mv.ret' hx hb hr hlocks (by rw [← e0, ← e1, ← e2]) hP hD hS dX5_addByRow_78
      · have h := ifn c_34 h
        refine lv_aload_n hx hb dX5_addByRow_37 rfl (lv_at hl 0 rfl) ?_
        refine va_get (D := D) (ci := 5) (v := .ref a_registers) (C := RX5) (T := TX5) (N := 9) hx hb hts hinX5 hown hK.1 hP 0 rfl rfl 0 (by decide) (hts (.fieldLink RX5 9 "FrameWalks$Track" "registers" "[I") (List.mem_of_getElem? (i := 2) rfl)) (fun _ h9 => h9) rfl dX5_addByRow_38 ?_
        refine lv_iload hx hb dX5_addByRow_41 (lv_at hl 4 rfl) ?_
        refine lv_iload hx hb dX5_addByRow_43 (lv_at hl 6 rfl) ?_
        refine lv_iadd hx hb dX5_addByRow_45 ?_
        refine lv_aload_n hx hb dX5_addByRow_46 rfl (lv_at hl 0 rfl) ?_
        refine lv_iload_n hx hb dX5_addByRow_47 rfl (lv_at hl 1 rfl) ?_
        refine lv_iload hx hb dX5_addByRow_48 (lv_at hl 6 rfl) ?_
        refine lv_aload_n hx hb dX5_addByRow_50 rfl (lv_at hl 2 rfl) ?_
        refine lv_aload_n hx hb dX5_addByRow_51 rfl (lv_at hl 3 rfl) ?_
        obtain ⟨r_39, hc_41, h⟩ := bn1_s h
        refine call_i (ws1 := [(a, .inr (5, [.ref a_registers, .ref a_owners, .ref a_looked, .ref a_ways, .int (v_taken), .int (v_leftSignal), .int (v_size), .int (v_ended), .int (v_guessed)])), (a_registers, .inl (cy 0, 120, .inl (f_registers))), (a_ways, .inl (cy 0, 20, .inl (f_ways))), (ap2, .inr (1, [.ref ap2_cells, .ref ap2_aside, .int (vp2_asideSize)])), (ap2_cells, .inl (cy 0, 14, .inl (fp2_cells))), (ap3, .inl (cy 0, np3, .inl (fp3)))]) (wr := [(a_ways, .inl (cy 0, 20, .inl (f_ways)))]) (run_V ⟨hx, hb, hml, hown, hts⟩ ((c_X5_callers l D cy a a_registers a_owners a_looked a_ways ap2 ap2_cells ap2_aside ap3 (v_taken) (v_leftSignal) (v_size) (v_ended) (v_guessed) (f_registers) (vp2_asideSize) (fp2_cells) np3 (fp3) (y1) (y6) r_39 hc_41) H.size) (cwV 4 hts gX5_addByRow_X5_callers rfl rfl rfl hd_X5_callers ⟨Nat.le_of_ble_eq_true rfl, Nat.le_of_ble_eq_true rfl⟩) KK.calling (fun U _ hW => hK.warm hW) hK.1 hP hD [0, 1, 3, 4, 5] [2] [1, 2, 0, 3, 4, 5] rfl rfl 0 5 rfl rfl rfl rfl hl.1 rfl (lv_room (Nat.le_of_ble_eq_true rfl)) dX5_addByRow_52) hP hD hS hA [0, 1, 3, 4, 5] [2] [1, 2, 0, 3, 4, 5] rfl rfl rfl rfl (fun H locs hP hD hS => ?_)
        obtain ⟨i_40, h⟩ := cki_s h
        refine va_iast hx hb hK.1 hP hD hS 1 0 rfl rfl i_40 dX5_addByRow_55 (fun H locs hP hD hS => ?_)
        have hP : va_P D vwCl [(a, .inr (5, [.ref a_registers, .ref a_owners, .ref a_looked, .ref a_ways, .int (v_taken), .int (v_leftSignal), .int (v_size), .int (v_ended), .int (v_guessed)])), (a_registers, .inl (cy 0, 120, .inl (upd f_registers (y4 + y6).toNatClampNeg (r_39)))), (a_ways, .inl (cy 0, 20, .inl (f_ways))), (ap2, .inr (1, [.ref ap2_cells, .ref ap2_aside, .int (vp2_asideSize)])), (ap2_cells, .inl (cy 0, 14, .inl (fp2_cells))), (ap3, .inl (cy 0, np3, .inl (fp3)))] H := hP
        have hD : va_D A [(a, .inr (5, [.ref a_registers, .ref a_owners, .ref a_looked, .ref a_ways, .int (v_taken), .int (v_leftSignal), .int (v_size), .int (v_ended), .int (v_guessed)])), (a_registers, .inl (cy 0, 120, .inl (upd f_registers (y4 + y6).toNatClampNeg (r_39)))), (a_ways, .inl (cy 0, 20, .inl (f_ways))), (ap2, .inr (1, [.ref ap2_cells, .ref ap2_aside, .int (vp2_asideSize)])), (ap2_cells, .inl (cy 0, 14, .inl (fp2_cells))), (ap3, .inl (cy 0, np3, .inl (fp3)))] := hD
        refine lv_iinc (v := y6 + (1 : Int32)) (lv' := [(6, .int (y6 + (1 : Int32))), (0, .ref a), (1, .int (y1)), (2, .ref ap2), (3, .ref ap3), (4, .int (y4)), (5, .int (y5))]) hx hb dX5_addByRow_56 hl (k := 6) rfl rfl (by decide) rfl (fun ls hl => ?_)
        refine lv_goto (tgt := 30) hx hb dX5_addByRow_59 (by decide) ?_
        exact ih30 (y1) (y4) (y5) (y6 + (1 : Int32)) (v_size) (upd f_registers (y4 + y6).toNatClampNeg (r_39)) (f_ways) H locs ls hP hD hS (lv_sub hl [1, 2, 3, 4, 5, 6, 0] rfl) h
  have main : ∀ (H : Heap) (locs : List Loc) (ls : Array Slot), va_P D vwCl [(a, .inr (5, [.ref a_registers, .ref a_owners, .ref a_looked, .ref a_ways, .int (v_taken), .int (v_leftSignal), .int (v_size), .int (v_ended), .int (v_guessed)])), (a_registers, .inl (cy 0, 120, .inl (f_registers))), (a_ways, .inl (cy 0, 20, .inl (f_ways))), (ap2, .inr (1, [.ref ap2_cells, .ref ap2_aside, .int (vp2_asideSize)])), (ap2_cells, .inl (cy 0, 14, .inl (fp2_cells))), (ap3, .inl (cy 0, np3, .inl (fp3)))] H → va_D A [(a, .inr (5, [.ref a_registers, .ref a_owners, .ref a_looked, .ref a_ways, .int (v_taken), .int (v_leftSignal), .int (v_size), .int (v_ended), .int (v_guessed)])), (a_registers, .inl (cy 0, 120, .inl (f_registers))), (a_ways, .inl (cy 0, 20, .inl (f_ways))), (ap2, .inr (1, [.ref ap2_cells, .ref ap2_aside, .int (vp2_asideSize)])), (ap2_cells, .inl (cy 0, 14, .inl (fp2_cells))), (ap3, .inl (cy 0, np3, .inl (fp3)))] → va_S A s.heap H locs → lv_has ls 7 [(0, .ref a), (1, .int (x1)), (2, .ref ap2), (3, .ref ap3)] → f_X5_addByRow x1 v_size f_registers f_ways fp2_cells np3 fp3 = some (z_v_size, z_f_registers, z_f_ways) → W p l e ({ frames := 4, cells := 0, slots := 0, locals := 90 } : Room) s m [.ref a, .int (x1), .ref ap2, .ref ap3].toArray below meth c H locs 0 0 (MQ below (Qv D A [(a, .inr (5, [.ref a_registers, .ref a_owners, .ref a_looked, .ref a_ways, .int (v_taken), .int (v_leftSignal), .int (z_v_size), .int (v_ended), .int (v_guessed)])), (a_registers, .inl (cy 0, 120, .inl (z_f_registers))), (a_ways, .inl (cy 0, 20, .inl (z_f_ways))), (ap2, .inr (1, [.ref ap2_cells, .ref ap2_aside, .int (vp2_asideSize)])), (ap2_cells, .inl (cy 0, 14, .inl (fp2_cells))), (ap3, .inl (cy 0, np3, .inl (fp3)))]) [.ref a, .int (x1), .ref ap2, .ref ap3].toArray s 0 0 A) (F0 m 0 ls []) := by
    intro H locs ls hP hD hS hl h
    unfold f_X5_addByRow at h
    refine lv_aload_n hx hb dX5_addByRow_0 rfl (lv_at hl 0 rfl) ?_
    refine va_get (D := D) (ci := 5) (v := .int (v_size)) (C := RX5) (T := TX5) (N := 9) hx hb hts hinX5 hown hK.1 hP 0 rfl rfl 6 (by decide) (hts (.fieldLink RX5 31 "FrameWalks$Track" "size" "I") (List.mem_of_getElem? (i := 1) rfl)) (fun _ h9 => h9) rfl dX5_addByRow_1 ?_
    refine lv_bipush (v := (20 : Int32)) hx hb dX5_addByRow_4 (by decide) ?_
    refine lv_icmp_lt (tgt := 10) hx hb dX5_addByRow_6 (by decide) (fun c_42 => ?_) (fun c_42 => ?_)
    · have h := ift c_42 h
      refine lv_aload_n hx hb dX5_addByRow_10 rfl (lv_at hl 0 rfl) ?_
      refine va_get (D := D) (ci := 5) (v := .int (v_size)) (C := RX5) (T := TX5) (N := 9) hx hb hts hinX5 hown hK.1 hP 0 rfl rfl 6 (by decide) (hts (.fieldLink RX5 31 "FrameWalks$Track" "size" "I") (List.mem_of_getElem? (i := 1) rfl)) (fun _ h9 => h9) rfl dX5_addByRow_11 ?_
      refine lv_bipush (v := (6 : Int32)) hx hb dX5_addByRow_14 (by decide) ?_
      refine lv_imul hx hb dX5_addByRow_16 ?_
      refine lv_istore (lv' := [(4, .int (v_size * (6 : Int32))), (0, .ref a), (1, .int (x1)), (2, .ref ap2), (3, .ref ap3)]) hx hb dX5_addByRow_17 hl (by decide) rfl (fun ls hl => ?_)
      refine lv_aload_n hx hb dX5_addByRow_19 rfl (lv_at hl 1 rfl) ?_
      refine lv_iload_n hx hb dX5_addByRow_20 rfl (lv_at hl 2 rfl) ?_
      refine lv_aload_n hx hb dX5_addByRow_21 rfl (lv_at hl 3 rfl) ?_
      obtain ⟨r_43, hc_44, h⟩ := bn1_s h
      refine call_i (ws1 := [(a, .inr (5, [.ref a_registers, .ref a_owners, .ref a_looked, .ref a_ways, .int (v_taken), .int (v_leftSignal), .int (v_size), .int (v_ended), .int (v_guessed)])), (a_registers, .inl (cy 0, 120, .inl (f_registers))), (a_ways, .inl (cy 0, 20, .inl (f_ways))), (ap2, .inr (1, [.ref ap2_cells, .ref ap2_aside, .int (vp2_asideSize)])), (ap2_cells, .inl (cy 0, 14, .inl (fp2_cells))), (ap3, .inl (cy 0, np3, .inl (fp3)))]) (wr := [(a_ways, .inl (cy 0, 20, .inl (f_ways))), (ap3, .inl (cy 0, np3, .inl (fp3)))]) (run_V ⟨hx, hb, hml, hown, hts⟩ ((c_X5_topOf l D cy a a_registers a_owners a_looked a_ways ap2 ap2_cells ap2_aside (v_taken) (v_leftSignal) (v_size) (v_ended) (v_guessed) (f_registers) (vp2_asideSize) (fp2_cells) (x1) r_43 hc_44) H.size) (cwV 2 hts gX5_addByRow_X5_topOf rfl rfl rfl hd_X5_topOf ⟨Nat.le_of_ble_eq_true rfl, Nat.le_of_ble_eq_true rfl⟩) KK.calling (fun U _ hW => hK.warm hW) hK.1 hP hD [0, 1, 3, 4] [2, 5] [2, 3, 0, 4, 5, 1] rfl rfl 0 5 rfl rfl rfl rfl hl.1 rfl (lv_room (Nat.le_of_ble_eq_true rfl)) dX5_addByRow_22) hP hD hS hA [0, 1, 3, 4] [2, 5] [2, 3, 0, 4, 5, 1] rfl rfl rfl rfl (fun H locs hP hD hS => ?_)
      refine lv_istore (lv' := [(5, .int (r_43)), (4, .int (v_size * (6 : Int32))), (0, .ref a), (1, .int (x1)), (2, .ref ap2), (3, .ref ap3)]) hx hb dX5_addByRow_25 hl (by decide) rfl (fun ls hl => ?_)
      refine lv_iconst (v := (0 : Int32)) hx hb dX5_addByRow_27 (by decide) ?_
      refine lv_istore (lv' := [(6, .int ((0 : Int32))), (5, .int (r_43)), (4, .int (v_size * (6 : Int32))), (0, .ref a), (1, .int (x1)), (2, .ref ap2), (3, .ref ap3)]) hx hb dX5_addByRow_28 hl (by decide) rfl (fun ls hl => ?_)
      exact hL30 FUEL (x1) (v_size * (6 : Int32)) (r_43) ((0 : Int32)) (v_size) (f_registers) (f_ways) H locs ls hP hD hS (lv_sub hl [3, 4, 5, 6, 2, 1, 0] rfl) h
    · have h := ifn c_42 h
      obtain ⟨e0, e1, e2⟩ := tp3_s h
      exact Mv.ret' hx hb hr hlocks (by rw [← e0, ← e1, ← e2]) hP hD hS dX5_addByRow_9
  exact main s.heap [] ls hP hD va_S.rf hl h
