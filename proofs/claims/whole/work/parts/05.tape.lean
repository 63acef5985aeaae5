theorem hd_X4_isFigure : yX4_isFigure.cls = RX4 ∧ yX4_isFigure.cls ≠ "java/lang/invoke/MethodHandle" ∧ yX4_isFigure.cls ≠ "java/lang/invoke/VarHandle" ∧ (parseMethodDescriptor yX4_isFigure.desc).map (fun d => d.parameters.length) = some 1 := by decide +kernel
def f_X4_isFigure (x0 : Int32) : Option (Int32) := (if x0 < (48 : Int32) then (some ((0 : Int32))) else (if (57 : Int32) < x0 then (some ((0 : Int32))) else (some ((1 : Int32)))))
set_option maxHeartbeats 4000000 in
set_option maxRecDepth 100000 in
theorem c_X4_isFigure (l : Launch) (D : va_G) (cy : Nat → ClassId) (x0 : Int32) (res : Int32) (h : f_X4_isFigure x0 = some res) : Mi l yX4_isFigure wsX4_isFigure ({ frames := 0, cells := 0, slots := 0, locals := 0 } : Room) (KK D cy) D [.int (x0)] [] [] res := by
  intro sz
  refine Met.mk0 (cc := cX4_isFigure) (maxL := 1) (ret := (some .boolean)) (Qc := fun A => Qi D A [] res) (by decide) rfl (Nat.le_of_ble_eq_true rfl) ?_
  intro p e s m below meth c A ls hx hb hml hown hts hr hlocks hK hP hD hA hl
  have hown : s.vm.findClass RX4 = some m.cls := hown
  have hl : lv_has ls 1 [(0, .int (x0))] := hl
  have main : ∀ (H : Heap) (locs : List Loc) (ls : Array Slot), va_P D vwCl [] H → va_D A [] → va_S A s.heap H locs → lv_has ls 1 [(0, .int (x0))] → f_X4_isFigure x0 = some res → W p l e ({ frames := 0, cells := 0, slots := 0, locals := 0 } : Room) s m [.int (x0)].toArray below meth c H locs 0 0 (MQ below (Qi D A [] res) [.int (x0)].toArray s 0 0 A) (F0 m 0 ls []) := by
    intro H locs ls hP hD hS hl h
    unfold f_X4_isFigure at h
    refine lv_iload_n hx hb dX4_isFigure_0 rfl (lv_at hl 0 rfl) ?_
    refine lv_bipush (v := (48 : Int32)) hx hb dX4_isFigure_1 (by decide) ?_
    refine lv_icmp_lt (tgt := 16) hx hb dX4_isFigure_3 (by decide) (fun c_7 => ?_) (fun c_7 => ?_)
    · have h := ift c_7 h
      refine lv_iconst (v := (0 : Int32)) hx hb dX4_isFigure_16 (by decide) ?_
      have e0 := Option.some.inj h
      exact Mi.retz' hx hb hr hlocks (Or.inl rfl) e0 rfl hP hD hS dX4_isFigure_17
    · have h := ifn c_7 h
      refine lv_iload_n hx hb dX4_isFigure_6 rfl (lv_at hl 0 rfl) ?_
      refine lv_bipush (v := (57 : Int32)) hx hb dX4_isFigure_7 (by decide) ?_
      refine lv_icmp_gt (tgt := 16) hx hb dX4_isFigure_9 (by decide) (fun c_8 => ?_) (fun c_8 => ?_)
      · have h := ift c_8 h
        refine lv_iconst (v := (0 : Int32)) hx hb dX4_isFigure_16 (by decide) ?_
        have e0 := Option.some.inj h
        exact Mi.retz' hx hb hr hlocks (Or.inl rfl) e0 rfl hP hD hS dX4_isFigure_17
      · have h := ifn c_8 h
        refine lv_iconst (v := (1 : Int32)) hx hb dX4_isFigure_12 (by decide) ?_
        refine lv_goto (tgt := 17) hx hb dX4_isFigure_13 (by decide) ?_
        have e0 := Option.some.inj h
        exact Mi.retz' hx hb hr hlocks (Or.inr rfl) e0 rfl hP hD hS dX4_isFigure_17
  exact main s.heap [] ls hP hD va_S.rf hl h
theorem hd_X4_isLetter : yX4_isLetter.cls = RX4 ∧ yX4_isLetter.cls ≠ "java/lang/invoke/MethodHandle" ∧ yX4_isLetter.cls ≠ "java/lang/invoke/VarHandle" ∧ (parseMethodDescriptor yX4_isLetter.desc).map (fun d => d.parameters.length) = some 1 := by decide +kernel
def f_X4_isLetter (x0 : Int32) : Option (Int32) := (if x0 < (97 : Int32) then (some ((0 : Int32))) else (if (122 : Int32) < x0 then (some ((0 : Int32))) else (some ((1 : Int32)))))
set_option maxHeartbeats 4000000 in
set_option maxRecDepth 100000 in
theorem c_X4_isLetter (l : Launch) (D : va_G) (cy : Nat → ClassId) (x0 : Int32) (res : Int32) (h : f_X4_isLetter x0 = some res) : Mi l yX4_isLetter wsX4_isLetter ({ frames := 0, cells := 0, slots := 0, locals := 0 } : Room) (KK D cy) D [.int (x0)] [] [] res := by
  intro sz
  refine Met.mk0 (cc := cX4_isLetter) (maxL := 1) (ret := (some .boolean)) (Qc := fun A => Qi D A [] res) (by decide) rfl (Nat.le_of_ble_eq_true rfl) ?_
  intro p e s m below meth c A ls hx hb hml hown hts hr hlocks hK hP hD hA hl
  have hown : s.vm.findClass RX4 = some m.cls := hown
  have hl : lv_has ls 1 [(0, .int (x0))] := hl
  have main : ∀ (H : Heap) (locs : List Loc) (ls : Array Slot), va_P D vwCl [] H → va_D A [] → va_S A s.heap H locs → lv_has ls 1 [(0, .int (x0))] → f_X4_isLetter x0 = some res → W p l e ({ frames := 0, cells := 0, slots := 0, locals := 0 } : Room) s m [.int (x0)].toArray below meth c H locs 0 0 (MQ below (Qi D A [] res) [.int (x0)].toArray s 0 0 A) (F0 m 0 ls []) := by
    intro H locs ls hP hD hS hl h
    unfold f_X4_isLetter at h
    refine lv_iload_n hx hb dX4_isLetter_0 rfl (lv_at hl 0 rfl) ?_
    refine lv_bipush (v := (97 : Int32)) hx hb dX4_isLetter_1 (by decide) ?_
    refine lv_icmp_lt (tgt := 16) hx hb dX4_isLetter_3 (by decide) (fun c_7 => ?_) (fun c_7 => ?_)
    · have h := ift c_7 h
      refine lv_iconst (v := (0 : Int32)) hx hb dX4_isLetter_16 (by decide) ?_
      have e0 := Option.some.inj h
      exact Mi.retz' hx hb hr hlocks (Or.inl rfl) e0 rfl hP hD hS dX4_isLetter_17
    · have h := ifn c_7 h
      refine lv_iload_n hx hb dX4_isLetter_6 rfl (lv_at hl 0 rfl) ?_
      refine lv_bipush (v := (122 : Int32)) hx hb dX4_isLetter_7 (by decide) ?_
      refine lv_icmp_gt (tgt := 16) hx hb dX4_isLetter_9 (by decide) (fun c_8 => ?_) (fun c_8 => ?_)
      · have h := ift c_8 h
        refine lv_iconst (v := (0 : Int32)) hx hb dX4_isLetter_16 (by decide) ?_
        have e0 := Option.some.inj h
        exact Mi.retz' hx hb hr hlocks (Or.inl rfl) e0 rfl hP hD hS dX4_isLetter_17
      · have h := ifn c_8 h
        refine lv_iconst (v := (1 : Int32)) hx hb dX4_isLetter_12 (by decide) ?_
        refine lv_goto (tgt := 17) hx hb dX4_isLetter_13 (by decide) ?_
        have e0 := Option.some.inj h
        exact Mi.retz' hx hb hr hlocks (Or.inr rfl) e0 rfl hP hD hS dX4_isLetter_17
  exact main s.heap [] ls hP hD va_S.rf hl h
theorem hd_X4_readName : yX4_readName.cls = RX4 ∧ yX4_readName.cls ≠ "java/lang/invoke/MethodHandle" ∧ yX4_readName.cls ≠ "java/lang/invoke/VarHandle" ∧ (parseMethodDescriptor yX4_readName.desc).map (fun d => d.parameters.length) = some 0 := by decide +kernel
def f_X4_readName_L5 (v_length : Int32) (f_bytes : Nat → Int32) : Nat → Int32 → Int32 → Option (Int32 × Int32)
  | 0, _, _ => none
  | n + 1, v_tokenKind, v_tokenTo => (if v_length ≤ v_tokenTo then (some (v_tokenKind, v_tokenTo)) else (cki (v_tokenTo) 320 (bn1 (f_X4_isLetter (f_bytes (v_tokenTo).toNatClampNeg)) (fun r_18 => (if r_18 = 0 then (some (v_tokenKind, v_tokenTo)) else ((f_X4_readName_L5 v_length f_bytes  n) (v_tokenKind) (v_tokenTo + (1 : Int32))))))))
def f_X4_readName (v_length : Int32) (v_tokenKind : Int32) (v_tokenTo : Int32) (f_bytes : Nat → Int32) : Option (Int32 × Int32) := (f_X4_readName_L5 v_length f_bytes  FUEL ((2 : Int32)) (v_tokenTo))
set_option maxHeartbeats 4000000 in
set_option maxRecDepth 100000 in
theorem c_X4_readName (l : Launch) (D : va_G) (cy : Nat → ClassId) (a a_bytes a_operands : Nat) (v_length : Int32) (v_faulty : Int32) (v_faultPlace : Int32) (v_tokenKind : Int32) (v_tokenFrom : Int32) (v_tokenTo : Int32) (v_tokenNumber : Int32) (f_bytes : Nat → Int32) (z_v_tokenKind : Int32) (z_v_tokenTo : Int32) (h : f_X4_readName v_length v_tokenKind v_tokenTo f_bytes = some (z_v_tokenKind, z_v_tokenTo)) : Mv l yX4_readName wsX4_readName ({ frames := 1, cells := 0, slots := 0, locals := 20 } : Room) (KK D cy) D [.ref a] [(a, .inr (4, [.ref a_bytes, .int (v_length), .int (v_faulty), .int (v_faultPlace), .int (v_tokenKind), .int (v_tokenFrom), .int (v_tokenTo), .int (v_tokenNumber), .ref a_operands])), (a_bytes, .inl (cy 0, 320, .inl (f_bytes)))] [(a, .inr (4, [.ref a_bytes, .int (v_length), .int (v_faulty), .int (v_faultPlace), .int (z_v_tokenKind), .int (v_tokenFrom), .int (z_v_tokenTo), .int (v_tokenNumber), .ref a_operands])), (a_bytes, .inl (cy 0, 320, .inl (f_bytes)))] := by
  intro sz
  refine Met.mk0 (cc := cX4_readName) (maxL := 1) (ret := none) (Qc := fun A => Qv D A [(a, .inr (4, [.ref a_bytes, .int (v_length), .int (v_faulty), .int (v_faultPlace), .int (z_v_tokenKind), .int (v_tokenFrom), .int (z_v_tokenTo), .int (v_tokenNumber), .ref a_operands])), (a_bytes, .inl (cy 0, 320, .inl (f_bytes)))]) (by decide) rfl (Nat.le_of_ble_eq_true rfl) ?_
  intro p e s m below meth c A ls hx hb hml hown hts hr hlocks hK hP hD hA hl
  have hown : s.vm.findClass RX4 = some m.cls := hown
  have hl : lv_has ls 1 [(0, .ref a)] := hl
  have hinX4 : ∀ w ∈ u_ws RX4 TX4 9, w ∈ wsX4_readName := (fun w h => List.mem_cons_of_mem _ (List.mem_append_right _ h))
  have hL5 : ∀ (n5 : Nat) (v_tokenKind : Int32) (v_tokenTo : Int32) (H : Heap) (locs : List Loc) (ls : Array Slot), va_P D vwCl [(a, .inr (4, [.ref a_bytes, .int (v_length), .int (v_faulty), .int (v_faultPlace), .int (v_tokenKind), .int (v_tokenFrom), .int (v_tokenTo), .int (v_tokenNumber), .ref a_operands])), (a_bytes, .inl (cy 0, 320, .inl (f_bytes)))] H → va_D A [(a, .inr (4, [.ref a_bytes, .int (v_length), .int (v_faulty), .int (v_faultPlace), .int (v_tokenKind), .int (v_tokenFrom), .int (v_tokenTo), .int (v_tokenNumber), .ref a_operands])), (a_bytes, .inl (cy 0, 320, .inl (f_bytes)))] → va_S A s.heap H locs → lv_has ls 1 [(0, .ref a)] → f_X4_readName_L5 v_length f_bytes  n5 v_tokenKind v_tokenTo = some (z_v_tokenKind, z_v_tokenTo) → W p l e ({ frames := 1, cells := 0, slots := 0, locals := 20 } : Room) s m [.ref a].toArray below meth c H locs 0 0 (MQ below (Qv D A [(a, .inr (4, [.ref a_bytes, .int (v_length), .int (v_faulty), .int (v_faultPlace), .int (z_v_tokenKind), .int (v_tokenFrom), .int (z_v_tokenTo), .int (v_tokenNumber), .ref a_operands])), (a_bytes, .inl (cy 0, 320, .inl (f_bytes)))]) [.ref a].toArray s 0 0 A) (F0 m 5 ls []) := by
    intro n5
    induction n5 with
    | zero =>
      intro v_tokenKind v_tokenTo H locs ls hP hD hS hl h
      cases (id h : (none : Option (Int32 × Int32)) = some _)
    | succ n5 ih5 =>
      intro v_tokenKind v_tokenTo H locs ls hP hD hS hl h
      rw [f_X4_readName_L5] at h
      refine lv_aload_n hx hb dX4_readName_5 rfl (lv_at hl 0 rfl) ?_
      refine va_get (D := D) (ci := 4) (v := .int (v_tokenTo)) (C := RX4) (T := TX4) (N := 9) hx hb hts hinX4 hown hK.1 hP 0 rfl rfl 6 (by decide) (hts (.fieldLink RX4 31 "FrameWalks$Tape" "tokenTo" "I") (List.mem_of_getElem? (i := 2) rfl)) (fun _ h9 => h9) rfl dX4_readName_6 ?_
      refine lv_aload_n hx hb dX4_readName_9 rfl (lv_at hl 0 rfl) ?_
      refine va_get (D := D) (ci := 4) (v := .int (v_length)) (C := RX4) (T := TX4) (N := 9) hx hb hts hinX4 hown hK.1 hP 0 rfl rfl 1 (by decide) (hts (.fieldLink RX4 15 "FrameWalks$Tape" "length" "I") (List.mem_of_getElem? (i := 3) rfl)) (fun _ h9 => h9) rfl dX4_readName_10 ?_
      refine lv_icmp_ge (tgt := 44) hx hb dX4_readName_13 (by decide) (fun c_16 => ?_) (fun c_16 => ?_)
      · have h := ift c_16 h
        obtain ⟨e0, e1⟩ := tp2_s h
        exact Mv.ret' hx hb hr hlocks (by rw [← e0, ← e1]) hP hD hS dX4_readName_44
      · have h := ifn c_16 h
        refine lv_aload_n hx hb dX4_readName_16 rfl (lv_at hl 0 rfl) ?_
        refine va_get (D := D) (ci := 4) (v := .ref a_bytes) (C := RX4) (T := TX4) (N := 9) hx hb hts hinX4 hown hK.1 hP 0 rfl rfl 0 (by decide) (hts (.fieldLink RX4 9 "FrameWalks$Tape" "bytes" "[I") (List.mem_of_getElem? (i := 4) rfl)) (fun _ h9 => h9) rfl dX4_readName_17 ?_
        refine lv_aload_n hx hb dX4_readName_20 rfl (lv_at hl 0 rfl) ?_
        refine va_get (D := D) (ci := 4) (v := .int (v_tokenTo)) (C := RX4) (T := TX4) (N := 9) hx hb hts hinX4 hown hK.1 hP 0 rfl rfl 6 (by decide) (hts (.fieldLink RX4 31 "FrameWalks$Tape" "tokenTo" "I") (List.mem_of_getElem? (i := 2) rfl)) (fun _ h9 => h9) rfl dX4_readName_21 ?_
        obtain ⟨i_17, h⟩ := cki_s h
        refine va_iald hx hb hK.1 hP 1 0 rfl rfl i_17 dX4_readName_24 ?_
        obtain ⟨r_18, hc_20, h⟩ := bn1_s h
        refine call_i (ws1 := [(a, .inr (4, [.ref a_bytes, .int (v_length), .int (v_faulty), .int (v_faultPlace), .int (v_tokenKind), .int (v_tokenFrom), .int (v_tokenTo), .int (v_tokenNumber), .ref a_operands])), (a_bytes, .inl (cy 0, 320, .inl (f_bytes)))]) (wr := [(a, .inr (4, [.ref a_bytes, .int (v_length), .int (v_faulty), .int (v_faultPlace), .int (v_tokenKind), .int (v_tokenFrom), .int (v_tokenTo), .int (v_tokenNumber), .ref a_operands])), (a_bytes, .inl (cy 0, 320, .inl (f_bytes)))]) (run_S ⟨hx, hb, hml, hown, hts⟩ ((c_X4_isLetter l D cy (f_bytes (v_tokenTo).toNatClampNeg) r_18 hc_20) H.size) (cwS2 1 hts gX4_readName_X4_isLetter rfl rfl rfl hd_X4_isLetter.2 ⟨Nat.le_of_ble_eq_true rfl, Nat.le_of_ble_eq_true rfl⟩) KK.calling (fun U _ hW => hK.warm hW) hP hD [] [0, 1] [0, 1] rfl rfl rfl hl.1 rfl (lv_room (Nat.le_of_ble_eq_true rfl)) dX4_readName_25) hP hD hS hA [] [0, 1] [0, 1] rfl rfl rfl rfl (fun H locs hP hD hS => ?_)
        refine lv_if_eq (tgt := 44) hx hb dX4_readName_28 (by decide) (fun c_19 => ?_) (fun c_19 => ?_)
        · have h := ift c_19 h
          obtain ⟨e0, e1⟩ := tp2_s h
          exact Mv.ret' hx hb hr hlocks (by rw [← e0, ← e1]) hP hD hS dX4_readName_44
        · have h := ifn c_19 h
          refine lv_aload_n hx hb dX4_readName_31 rfl (lv_at hl 0 rfl) ?_
          refine lv_dup hx hb dX4_readName_32 rfl ?_
          refine va_get (D := D) (ci := 4) (v := .int (v_tokenTo)) (C := RX4) (T := TX4) (N := 9) hx hb hts hinX4 hown hK.1 hP 0 rfl rfl 6 (by decide) (hts (.fieldLink RX4 31 "FrameWalks$Tape" "tokenTo" "I") (List.mem_of_getElem? (i := 2) rfl)) (fun _ h9 => h9) rfl dX4_readName_33 ?_
          refine lv_iconst (v := (1 : Int32)) hx hb dX4_readName_36 (by decide) ?_
          refine lv_iadd hx hb dX4_readName_37 ?_
          refine va_put (D := D) (ci := 4) (v := .int (v_tokenTo + (1 : Int32))) (ty := .int) (C := RX4) (T := TX4) (N := 9) hx hb hts hinX4 tyX4 tyX4_ok nmX4 hown hK.1 hP hD hS 0 rfl rfl 6 (by decide) (hts (.fieldLink RX4 31 "FrameWalks$Tape" "tokenTo" "I") (List.mem_of_getElem? (i := 2) rfl)) (fun _ h9 => h9) rfl (by decide +kernel) rfl rfl (Nat.le_of_ble_eq_true rfl) dX4_readName_38 (fun H locs hP hD hS => ?_)
          have hP : va_P D vwCl [(a, .inr (4, [.ref a_bytes, .int (v_length), .int (v_faulty), .int (v_faultPlace), .int (v_tokenKind), .int (v_tokenFrom), .int (v_tokenTo + (1 : Int32)), .int (v_tokenNumber), .ref a_operands])), (a_bytes, .inl (cy 0, 320, .inl (f_bytes)))] H := hP
          have hD : va_D A [(a, .inr (4, [.ref a_bytes, .int (v_length), .int (v_faulty), .int (v_faultPlace), .int (v_tokenKind), .int (v_tokenFrom), .int (v_tokenTo + (1 : Int32)), .int (v_tokenNumber), .ref a_operands])), (a_bytes, .inl (cy 0, 320, .inl (f_bytes)))] := hD
          refine lv_goto (tgt := 5) hx hb dX4_readName_41 (by decide) ?_
          exact ih5 (v_tokenKind) (v_tokenTo + (1 : Int32)) H locs ls hP hD hS (lv_sub hl [0] rfl) h
  have main : ∀ (H : Heap) (locs : List Loc) (ls : Array Slot), va_P D vwCl [(a, .inr (4, [.ref a_bytes, .int (v_length), .int (v_faulty), .int (v_faultPlace), .int (v_tokenKind), .int (v_tokenFrom), .int (v_tokenTo), .int (v_tokenNumber), .ref a_operands])), (a_bytes, .inl (cy 0, 320, .inl (f_bytes)))] H → va_D A [(a, .inr (4, [.ref a_bytes, .int (v_length), .int (v_faulty), .int (v_faultPlace), .int (v_tokenKind), .int (v_tokenFrom), .int (v_tokenTo), .int (v_tokenNumber), .ref a_operands])), (a_bytes, .inl (cy 0, 320, .inl (f_bytes)))] → va_S A s.heap H locs → lv_has ls 1 [(0, .ref a)] → f_X4_readName v_length v_tokenKind v_tokenTo f_bytes = some (z_v_tokenKind, z_v_tokenTo) → W p l e ({ frames := 1, cells := 0, slots := 0, locals := 20 } : Room) s m [.ref a].toArray below meth c H locs 0 0 (MQ below (Qv D A [(a, .inr (4, [.ref a_bytes, .int (v_length), .int (v_faulty), .int (v_faultPlace), .int (z_v_tokenKind), .int (v_tokenFrom), .int (z_v_tokenTo), .int (v_tokenNumber), .ref a_operands])), (a_bytes, .inl (cy 0, 320, .inl (f_bytes)))]) [.ref a].toArray s 0 0 A) (F0 m 0 ls []) := by
    intro H locs ls hP hD hS hl h
    unfold f_X4_readName at h
    refine lv_aload_n hx hb dX4_readName_0 rfl (lv_at hl 0 rfl) ?_
    refine lv_iconst (v := (2 : Int32)) hx hb dX4_readName_1 (by decide) ?_
    refine va_put (D := D) (ci := 4) (v := .int ((2 : Int32))) (ty := .int) (C := RX4) (T := TX4) (N := 9) hx hb hts hinX4 tyX4 tyX4_ok nmX4 hown hK.1 hP hD hS 0 rfl rfl 4 (by decide) (hts (.fieldLink RX4 25 "FrameWalks$Tape" "tokenKind" "I") (List.mem_of_getElem? (i := 1) rfl)) (fun _ h9 => h9) rfl (by decide +kernel) rfl rfl (Nat.le_of_ble_eq_true rfl) dX4_readName_2 (fun H locs hP hD hS => ?_)
    have hP : va_P D vwCl [(a, .inr (4, [.ref a_bytes, .int (v_length), .int (v_faulty), .int (v_faultPlace), .int ((2 : Int32)), .int (v_tokenFrom), .int (v_tokenTo), .int (v_tokenNumber), .ref a_operands])), (a_bytes, .inl (cy 0, 320, .inl (f_bytes)))] H := hP
    have hD : va_D A [(a, .inr (4, [.ref a_bytes, .int (v_length), .int (v_faulty), .int (v_faultPlace), .int ((2 : Int32)), .int (v_tokenFrom), .int (v_tokenTo), .int (v_tokenNumber), .ref a_operands])), (a_bytes, .inl (cy 0, 320, .inl (f_bytes)))] := hD
    exact hL5 FUEL ((2 : Int32)) (v_tokenTo) H locs ls hP hD hS (lv_sub hl [0] rfl) h
  exact main s.heap [] ls hP hD va_S.rf hl h
theorem hd_X4_readNumber : yX4_readNumber.cls = RX4 ∧ yX4_readNumber.cls ≠ "java/lang/invoke/MethodHandle" ∧ yX4_readNumber.cls ≠ "java/lang/invoke/VarHandle" ∧ (parseMethodDescriptor yX4_readNumber.desc).map (fun d => d.parameters.length) = some 0 := by decide +kernel
def f_X4_readNumber_b95 (v_length : Int32) (v_tokenFrom : Int32) (f_bytes : Nat → Int32) (k1 : Int32) (v_tokenKind : Int32) (v_tokenTo : Int32) (v_tokenNumber : Int32) : Option (Int32 × Int32 × Int32) := (some (k1, v_tokenTo, v_tokenNumber))
def f_X4_readNumber_b76 (v_length : Int32) (v_tokenFrom : Int32) (f_bytes : Nat → Int32) (v_tokenKind : Int32) (v_tokenTo : Int32) (v_tokenNumber : Int32) : Option (Int32 × Int32 × Int32) := (if v_tokenTo - v_tokenFrom ≤ (3 : Int32) then (f_X4_readNumber_b95 v_length v_tokenFrom f_bytes  ((3 : Int32)) (v_tokenKind) (v_tokenTo) (v_tokenNumber)) else (f_X4_readNumber_b95 v_length v_tokenFrom f_bytes  ((1 : Int32)) (v_tokenKind) (v_tokenTo) (v_tokenNumber)))
def f_X4_readNumber_b63 (v_length : Int32) (v_tokenFrom : Int32) (f_bytes : Nat → Int32) (k0 : Int32 → Int32 → Int32 → Option (Int32 × Int32 × Int32)) (v_tokenKind : Int32) (v_tokenTo : Int32) (v_tokenNumber : Int32) : Option (Int32 × Int32 × Int32) := (k0 (v_tokenKind) (v_tokenTo + (1 : Int32)) (v_tokenNumber))
def f_X4_readNumber_L0 (v_length : Int32) (v_tokenFrom : Int32) (f_bytes : Nat → Int32) : Nat → Int32 → Int32 → Int32 → Option (Int32 × Int32 × Int32)
  | 0, _, _, _ => none
  | n + 1, v_tokenKind, v_tokenTo, v_tokenNumber => (if v_length ≤ v_tokenTo then (f_X4_readNumber_b76 v_length v_tokenFrom f_bytes  (v_tokenKind) (v_tokenTo) (v_tokenNumber)) else (cki (v_tokenTo) 320 (bn1 (f_X4_isFigure (f_bytes (v_tokenTo).toNatClampNeg)) (fun r_28 => (if r_28 = 0 then (f_X4_readNumber_b76 v_length v_tokenFrom f_bytes  (v_tokenKind) (v_tokenTo) (v_tokenNumber)) else (if (3 : Int32) ≤ v_tokenTo - v_tokenFrom then (f_X4_readNumber_b63 v_length v_tokenFrom f_bytes (f_X4_readNumber_L0 v_length v_tokenFrom f_bytes  n) (v_tokenKind) (v_tokenTo) (v_tokenNumber)) else (cki (v_tokenTo) 320 (f_X4_readNumber_b63 v_length v_tokenFrom f_bytes (f_X4_readNumber_L0 v_length v_tokenFrom f_bytes  n) (v_tokenKind) (v_tokenTo) ((v_tokenNumber * (10 : Int32)) + ((f_bytes (v_tokenTo).toNatClampNeg) - (48 : Int32)))))))))))
def f_X4_readNumber (v_length : Int32) (v_tokenKind : Int32) (v_tokenFrom : Int32) (v_tokenTo : Int32) (v_tokenNumber : Int32) (f_bytes : Nat → Int32) : Option (Int32 × Int32 × Int32) := (f_X4_readNumber_L0 v_length v_tokenFrom f_bytes  FUEL (v_tokenKind) (v_tokenTo) (v_tokenNumber))
set_option maxHeartbeats 4000000 in
set_option maxRecDepth 100000 in
theorem c_X4_readNumber (l : Launch) (D : va_G) (cy : Nat → ClassId) (a a_bytes a_operands : Nat) (v_length : Int32) (v_faulty : Int32) (v_faultPlace : Int32) (v_tokenKind : Int32) (v_tokenFrom : Int32) (v_tokenTo : Int32) (v_tokenNumber : Int32) (f_bytes : Nat → Int32) (z_v_tokenKind : Int32) (z_v_tokenTo : Int32) (z_v_tokenNumber : Int32) (h : f_X4_readNumber v_length v_tokenKind v_tokenFrom v_tokenTo v_tokenNumber f_bytes = some (z_v_tokenKind, z_v_tokenTo, z_v_tokenNumber)) : Mv l yX4_readNumber wsX4_readNumber ({ frames := 1, cells := 0, slots := 0, locals := 20 } : Room) (KK D cy) D [.ref a] [(a, .inr (4, [.ref a_bytes, .int (v_length), .int (v_faulty), .int (v_faultPlace), .int (v_tokenKind), .int (v_tokenFrom), .int (v_tokenTo), .int (v_tokenNumber), .ref a_operands])), (a_bytes, .inl (cy 0, 320, .inl (f_bytes)))] [(a, .inr (4, [.ref a_bytes, .int (v_length), .int (v_faulty), .int (v_faultPlace), .int (z_v_tokenKind), .int (v_tokenFrom), .int (z_v_tokenTo), .int (z_v_tokenNumber), .ref a_operands])), (a_bytes, .inl (cy 0, 320, .inl (f_bytes)))] := by
  intro sz
  refine Met.mk0 (cc := cX4_readNumber) (maxL := 1) (ret := none) (Qc := fun A => Qv D A [(a, .inr (4, [.ref a_bytes, .int (v_length), .int (v_faulty), .int (v_faultPlace), .int (z_v_tokenKind), .int (v_tokenFrom), .int (z_v_tokenTo), .int (z_v_tokenNumber), .ref a_operands])), (a_bytes, .inl (cy 0, 320, .inl (f_bytes)))]) (by decide) rfl (Nat.le_of_ble_eq_true rfl) ?_
  intro p e s m below meth c A ls hx hb hml hown hts hr hlocks hK hP hD hA hl
  have hown : s.vm.findClass RX4 = some m.cls := hown
  have hl : lv_has ls 1 [(0, .ref a)] := hl
  have hinX4 : ∀ w ∈ u_ws RX4 TX4 9, w ∈ wsX4_readNumber := (fun w h => List.mem_cons_of_mem _ (List.mem_append_right _ h))
  have hb95 : ∀ (k1 : Int32) (v_tokenKind : Int32) (v_tokenTo : Int32) (v_tokenNumber : Int32) (H : Heap) (locs : List Loc) (ls : Array Slot), va_P D vwCl [(a, .inr (4, [.ref a_bytes, .int (v_length), .int (v_faulty), .int (v_faultPlace), .int (v_tokenKind), .int (v_tokenFrom), .int (v_tokenTo), .int (v_tokenNumber), .ref a_operands])), (a_bytes, .inl (cy 0, 320, .inl (f_bytes)))] H → va_D A [(a, .inr (4, [.ref a_bytes, .int (v_length), .int (v_faulty), .int (v_faultPlace), .int (v_tokenKind), .int (v_tokenFrom), .int (v_tokenTo), .int (v_tokenNumber), .ref a_operands])), (a_bytes, .inl (cy 0, 320, .inl (f_bytes)))] → va_S A s.heap H locs → lv_has ls 1 [] → f_X4_readNumber_b95 v_length v_tokenFrom f_bytes  k1 v_tokenKind v_tokenTo v_tokenNumber = some (z_v_tokenKind, z_v_tokenTo, z_v_tokenNumber) → W p l e ({ frames := 1, cells := 0, slots := 0, locals := 20 } : Room) s m [.ref a].toArray below meth c H locs 0 0 (MQ below (Qv D A [(a, .inr (4, [.ref a_bytes, .int (v_length), .int (v_faulty), .int (v_faultPlace), .int (z_v_tokenKind), .int (v_tokenFrom), .int (z_v_tokenTo), .int (z_v_tokenNumber), .ref a_operands])), (a_bytes, .inl (cy 0, 320, .inl (f_bytes)))]) [.ref a].toArray s 0 0 A) (F0 m 95 ls [.int (k1), .ref a]) := by
    intro k1 v_tokenKind v_tokenTo v_tokenNumber H locs ls hP hD hS hl h
    unfold f_X4_readNumber_b95 at h
    refine va_put (D := D) (ci := 4) (v := .int (k1)) (ty := .int) (C := RX4) (T := TX4) (N := 9) hx hb hts hinX4 tyX4 tyX4_ok nmX4 hown hK.1 hP hD hS 0 rfl rfl 4 (by decide) (hts (.fieldLink RX4 25 "FrameWalks$Tape" "tokenKind" "I") (List.mem_of_getElem? (i := 6) rfl)) (fun _ h9 => h9) rfl (by decide +kernel) rfl rfl (Nat.le_of_ble_eq_true rfl) dX4_readNumber_95 (fun H locs hP hD hS => ?_)
    have hP : va_P D vwCl [(a, .inr (4, [.ref a_bytes, .int (v_length), .int (v_faulty), .int (v_faultPlace), .int (k1), .int (v_tokenFrom), .int (v_tokenTo), .int (v_tokenNumber), .ref a_operands])), (a_bytes, .inl (cy 0, 320, .inl (f_bytes)))] H := hP
    have hD : va_D A [(a, .inr (4, [.ref a_bytes, .int (v_length), .int (v_faulty), .int (v_faultPlace), .int (k1), .int (v_tokenFrom), .int (v_tokenTo), .int (v_tokenNumber), .ref a_operands])), (a_bytes, .inl (cy 0, 320, .inl (f_bytes)))] := hD
    obtain ⟨e0, e1, e2⟩ := tp3_s h
    exact Mv.ret' hx hb hr hlocks (by rw [← e0, ← e1, ← e2]) hP hD hS dX4_readNumber_98
  have hb76 : ∀ (v_tokenKind : Int32) (v_tokenTo : Int32) (v_tokenNumber : Int32) (H : Heap) (locs : List Loc) (ls : Array Slot), va_P D vwCl [(a, .inr (4, [.ref a_bytes, .int (v_length), .int (v_faulty), .int (v_faultPlace), .int (v_tokenKind), .int (v_tokenFrom), .int (v_tokenTo), .int (v_tokenNumber), .ref a_operands])), (a_bytes, .inl (cy 0, 320, .inl (f_bytes)))] H → va_D A [(a, .inr (4, [.ref a_bytes, .int (v_length), .int (v_faulty), .int (v_faultPlace), .int (v_tokenKind), .int (v_tokenFrom), .int (v_tokenTo), .int (v_tokenNumber), .ref a_operands])), (a_bytes, .inl (cy 0, 320, .inl (f_bytes)))] → va_S A s.heap H locs → lv_has ls 1 [(0, .ref a)] → f_X4_readNumber_b76 v_length v_tokenFrom f_bytes  v_tokenKind v_tokenTo v_tokenNumber = some (z_v_tokenKind, z_v_tokenTo, z_v_tokenNumber) → W p l e ({ frames := 1, cells := 0, slots := 0, locals := 20 } : Room) s m [.ref a].toArray below meth c H locs 0 0 (MQ below (Qv D A [(a, .inr (4, [.ref a_bytes, .int (v_length), .int (v_faulty), .int (v_faultPlace), .int (z_v_tokenKind), .int (v_tokenFrom), .int (z_v_tokenTo), .int (z_v_tokenNumber), .ref a_operands])), (a_bytes, .inl (cy 0, 320, .inl (f_bytes)))]) [.ref a].toArray s 0 0 A) (F0 m 76 ls []) := by
    intro v_tokenKind v_tokenTo v_tokenNumber H locs ls hP hD hS hl h
    unfold f_X4_readNumber_b76 at h
    refine lv_aload_n hx hb dX4_readNumber_76 rfl (lv_at hl 0 rfl) ?_
    refine lv_aload_n hx hb dX4_readNumber_77 rfl (lv_at hl 0 rfl) ?_
    refine va_get (D := D) (ci := 4) (v := .int (v_tokenTo)) (C := RX4) (T := TX4) (N := 9) hx hb hts hinX4 hown hK.1 hP 0 rfl rfl 6 (by decide) (hts (.fieldLink RX4 31 "FrameWalks$Tape" "tokenTo" "I") (List.mem_of_getElem? (i := 1) rfl)) (fun _ h9 => h9) rfl dX4_readNumber_78 ?_
    refine lv_aload_n hx hb dX4_readNumber_81 rfl (lv_at hl 0 rfl) ?_
    refine va_get (D := D) (ci := 4) (v := .int (v_tokenFrom)) (C := RX4) (T := TX4) (N := 9) hx hb hts hinX4 hown hK.1 hP 0 rfl rfl 5 (by decide) (hts (.fieldLink RX4 28 "FrameWalks$Tape" "tokenFrom" "I") (List.mem_of_getElem? (i := 4) rfl)) (fun _ h9 => h9) rfl dX4_readNumber_82 ?_
    refine lv_isub hx hb dX4_readNumber_85 ?_
    refine lv_iconst (v := (3 : Int32)) hx hb dX4_readNumber_86 (by decide) ?_
    refine lv_icmp_le (tgt := 94) hx hb dX4_readNumber_87 (by decide) (fun c_25 => ?_) (fun c_25 => ?_)
    · have h := ift c_25 h
      refine lv_iconst (v := (3 : Int32)) hx hb dX4_readNumber_94 (by decide) ?_
      exact hb95 ((3 : Int32)) (v_tokenKind) (v_tokenTo) (v_tokenNumber) H locs ls hP hD hS (lv_sub hl [] rfl) h
    · have h := ifn c_25 h
      refine lv_iconst (v := (1 : Int32)) hx hb dX4_readNumber_90 (by decide) ?_
      refine lv_goto (tgt := 95) hx hb dX4_readNumber_91 (by decide) ?_
      exact hb95 ((1 : Int32)) (v_tokenKind) (v_tokenTo) (v_tokenNumber) H locs ls hP hD hS (lv_sub hl [] rfl) h
  have hL0 : ∀ (n0 : Nat) (v_tokenKind : Int32) (v_tokenTo : Int32) (v_tokenNumber : Int32) (H : Heap) (locs : List Loc) (ls : Array Slot), va_P D vwCl [(a, .inr (4, [.ref a_bytes, .int (v_length), .int (v_faulty), .int (v_faultPlace), .int (v_tokenKind), .int (v_tokenFrom), .int (v_tokenTo), .int (v_tokenNumber), .ref a_operands])), (a_bytes, .inl (cy 0, 320, .inl (f_bytes)))] H → va_D A [(a, .inr (4, [.ref a_bytes, .int (v_length), .int (v_faulty), .int (v_faultPlace), .int (v_tokenKind), .int (v_tokenFrom), .int (v_tokenTo), .int (v_tokenNumber), .ref a_operands])), (a_bytes, .inl (cy 0, 320, .inl (f_bytes)))] → va_S A s.heap H locs → lv_has ls 1 [(0, .ref a)] → f_X4_readNumber_L0 v_length v_tokenFrom f_bytes  n0 v_tokenKind v_tokenTo v_tokenNumber = some (z_v_tokenKind, z_v_tokenTo, z_v_tokenNumber) → W p l e ({ frames := 1, cells := 0, slots := 0, locals := 20 } : Room) s m [.ref a].toArray below meth c H locs 0 0 (MQ below (Qv D A [(a, .inr (4, [.ref a_bytes, .int (v_length), .int (v_faulty), .int (v_faultPlace), .int (z_v_tokenKind), .int (v_tokenFrom), .int (z_v_tokenTo), .int (z_v_tokenNumber), .ref a_operands])), (a_bytes, .inl (cy 0, 320, .inl (f_bytes)))]) [.ref a].toArray s 0 0 A) (F0 m 0 ls []) := by
    intro n0
    induction n0 with
    | zero =>
      intro v_tokenKind v_tokenTo v_tokenNumber H locs ls hP hD hS hl h
      cases (id h : (none : Option (Int32 × Int32 × Int32)) = some _)
    | succ n0 ih0 =>
      have hb63 : ∀ (v_tokenKind : Int32) (v_tokenTo : Int32) (v_tokenNumber : Int32) (H : Heap) (locs : List Loc) (ls : Array Slot), va_P D vwCl [(a, .inr (4, [.ref a_bytes, .int (v_length), .int (v_faulty), .int (v_faultPlace), .int (v_tokenKind), .int (v_tokenFrom), .int (v_tokenTo), .int (v_tokenNumber), .ref a_operands])), (a_bytes, .inl (cy 0, 320, .inl (f_bytes)))] H → va_D A [(a, .inr (4, [.ref a_bytes, .int (v_length), .int (v_faulty), .int (v_faultPlace), .int (v_tokenKind), .int (v_tokenFrom), .int (v_tokenTo), .int (v_tokenNumber), .ref a_operands])), (a_bytes, .inl (cy 0, 320, .inl (f_bytes)))] → va_S A s.heap H locs → lv_has ls 1 [(0, .ref a)] → f_X4_readNumber_b63 v_length v_tokenFrom f_bytes (f_X4_readNumber_L0 v_length v_tokenFrom f_bytes  n0) v_tokenKind v_tokenTo v_tokenNumber = some (z_v_tokenKind, z_v_tokenTo, z_v_tokenNumber) → W p l e ({ frames := 1, cells := 0, slots := 0, locals := 20 } : Room) s m [.ref a].toArray below meth c H locs 0 0 (MQ below (Qv D A [(a, .inr (4, [.ref a_bytes, .int (v_length), .int (v_faulty), .int (v_faultPlace), .int (z_v_tokenKind), .int (v_tokenFrom), .int (z_v_tokenTo), .int (z_v_tokenNumber), .ref a_operands])), (a_bytes, .inl (cy 0, 320, .inl (f_bytes)))]) [.ref a].toArray s 0 0 A) (F0 m 63 ls []) := by
        intro v_tokenKind v_tokenTo v_tokenNumber H locs ls hP hD hS hl h
        unfold f_X4_readNumber_b63 at h
        refine lv_aload_n hx hb dX4_readNumber_63 rfl (lv_at hl 0 rfl) ?_
        refine lv_dup hx hb dX4_readNumber_64 rfl ?_
        refine va_get (D := D) (ci := 4) (v := .int (v_tokenTo)) (C := RX4) (T := TX4) (N := 9) hx hb hts hinX4 hown hK.1 hP 0 rfl rfl 6 (by decide) (hts (.fieldLink RX4 31 "FrameWalks$Tape" "tokenTo" "I") (List.mem_of_getElem? (i := 1) rfl)) (fun _ h9 => h9) rfl dX4_readNumber_65 ?_
        refine lv_iconst (v := (1 : Int32)) hx hb dX4_readNumber_68 (by decide) ?_
        refine lv_iadd hx hb dX4_readNumber_69 ?_
        refine va_put (D := D) (ci := 4) (v := .int (v_tokenTo + (1 : Int32))) (ty := .int) (C := RX4) (T := TX4) (N := 9) hx hb hts hinX4 tyX4 tyX4_ok nmX4 hown hK.1 hP hD hS 0 rfl rfl 6 (by decide) (hts (.fieldLink RX4 31 "FrameWalks$Tape" "tokenTo" "I") (List.mem_of_getElem? (i := 1) rfl)) (fun _ h9 => h9) rfl (by decide +kernel) rfl rfl (Nat.le_of_ble_eq_true rfl) dX4_readNumber_70 (fun H locs hP hD hS => ?_)
        have hP : va_P D vwCl [(a, .inr (4, [.ref a_bytes, .int (v_length), .int (v_faulty), .int (v_faultPlace), .int (v_tokenKind), .int (v_tokenFrom), .int (v_tokenTo + (1 : Int32)), .int (v_tokenNumber), .ref a_operands])), (a_bytes, .inl (cy 0, 320, .inl (f_bytes)))] H := hP
        have hD : va_D A [(a, .inr (4, [.ref a_bytes, .int (v_length), .int (v_faulty), .int (v_faultPlace), .int (v_tokenKind), .int (v_tokenFrom), .int (v_tokenTo + (1 : Int32)), .int (v_tokenNumber), .ref a_operands])), (a_bytes, .inl (cy 0, 320, .inl (f_bytes)))] := hD
        refine lv_goto (tgt := 0) hx hb dX4_readNumber_73 (by decide) ?_
        exact ih0 (v_tokenKind) (v_tokenTo + (1 : Int32)) (v_tokenNumber) H locs ls hP hD hS (lv_sub hl [0] rfl) h
      intro v_tokenKind v_tokenTo v_tokenNumber H locs ls hP hD hS hl h
      rw [f_X4_readNumber_L0] at h
      refine lv_aload_n hx hb dX4_readNumber_0 rfl (lv_at hl 0 rfl) ?_
      refine va_get (D := D) (ci := 4) (v := .int (v_tokenTo)) (C := RX4) (T := TX4) (N := 9) hx hb hts hinX4 hown hK.1 hP 0 rfl rfl 6 (by decide) (hts (.fieldLink RX4 31 "FrameWalks$Tape" "tokenTo" "I") (List.mem_of_getElem? (i := 1) rfl)) (fun _ h9 => h9) rfl dX4_readNumber_1 ?_
      refine lv_aload_n hx hb dX4_readNumber_4 rfl (lv_at hl 0 rfl) ?_
      refine va_get (D := D) (ci := 4) (v := .int (v_length)) (C := RX4) (T := TX4) (N := 9) hx hb hts hinX4 hown hK.1 hP 0 rfl rfl 1 (by decide) (hts (.fieldLink RX4 15 "FrameWalks$Tape" "length" "I") (List.mem_of_getElem? (i := 2) rfl)) (fun _ h9 => h9) rfl dX4_readNumber_5 ?_
      refine lv_icmp_ge (tgt := 76) hx hb dX4_readNumber_8 (by decide) (fun c_26 => ?_) (fun c_26 => ?_)
      · have h := ift c_26 h
        exact hb76 (v_tokenKind) (v_tokenTo) (v_tokenNumber) H locs ls hP hD hS (lv_sub hl [0] rfl) h
      · have h := ifn c_26 h
        refine lv_aload_n hx hb dX4_readNumber_11 rfl (lv_at hl 0 rfl) ?_
        refine va_get (D := D) (ci := 4) (v := .ref a_bytes) (C := RX4) (T := TX4) (N := 9) hx hb hts hinX4 hown hK.1 hP 0 rfl rfl 0 (by decide) (hts (.fieldLink RX4 9 "FrameWalks$Tape" "bytes" "[I") (List.mem_of_getElem? (i := 3) rfl)) (fun _ h9 => h9) rfl dX4_readNumber_12 ?_
        refine lv_aload_n hx hb dX4_readNumber_15 rfl (lv_at hl 0 rfl) ?_
        refine va_get (D := D) (ci := 4) (v := .int (v_tokenTo)) (C := RX4) (T := TX4) (N := 9) hx hb hts hinX4 hown hK.1 hP 0 rfl rfl 6 (by decide) (hts (.fieldLink RX4 31 "FrameWalks$Tape" "tokenTo" "I") (List.mem_of_getElem? (i := 1) rfl)) (fun _ h9 => h9) rfl dX4_readNumber_16 ?_
        obtain ⟨i_27, h⟩ := cki_s h
        refine va_iald hx hb hK.1 hP 1 0 rfl rfl i_27 dX4_readNumber_19 ?_
        obtain ⟨r_28, hc_32, h⟩ := bn1_s h
        refine call_i (ws1 := [(a, .inr (4, [.ref a_bytes, .int (v_length), .int (v_faulty), .int (v_faultPlace), .int (v_tokenKind), .int (v_tokenFrom), .int (v_tokenTo), .int (v_tokenNumber), .ref a_operands])), (a_bytes, .inl (cy 0, 320, .inl (f_bytes)))]) (wr := [(a, .inr (4, [.ref a_bytes, .int (v_length), .int (v_faulty), .int (v_faultPlace), .int (v_tokenKind), .int (v_tokenFrom), .int (v_tokenTo), .int (v_tokenNumber), .ref a_operands])), (a_bytes, .inl (cy 0, 320, .inl (f_bytes)))]) (run_S ⟨hx, hb, hml, hown, hts⟩ ((c_X4_isFigure l D cy (f_bytes (v_tokenTo).toNatClampNeg) r_28 hc_32) H.size) (cwS2 1 hts gX4_readNumber_X4_isFigure rfl rfl rfl hd_X4_isFigure.2 ⟨Nat.le_of_ble_eq_true rfl, Nat.le_of_ble_eq_true rfl⟩) KK.calling (fun U _ hW => hK.warm hW) hP hD [] [0, 1] [0, 1] rfl rfl rfl hl.1 rfl (lv_room (Nat.le_of_ble_eq_true rfl)) dX4_readNumber_20) hP hD hS hA [] [0, 1] [0, 1] rfl rfl rfl rfl (fun H locs hP hD hS => ?_)
        refine lv_if_eq (tgt := 76) hx hb dX4_readNumber_23 (by decide) (fun c_29 => ?_) (fun c_29 => ?_)
        · have h := ift c_29 h
          exact hb76 (v_tokenKind) (v_tokenTo) (v_tokenNumber) H locs ls hP hD hS (lv_sub hl [0] rfl) h
        · have h := ifn c_29 h
          refine lv_aload_n hx hb dX4_readNumber_26 rfl (lv_at hl 0 rfl) ?_
          refine va_get (D := D) (ci := 4) (v := .int (v_tokenTo)) (C := RX4) (T := TX4) (N := 9) hx hb hts hinX4 hown hK.1 hP 0 rfl rfl 6 (by decide) (hts (.fieldLink RX4 31 "FrameWalks$Tape" "tokenTo" "I") (List.mem_of_getElem? (i := 1) rfl)) (fun _ h9 => h9) rfl dX4_readNumber_27 ?_
          refine lv_aload_n hx hb dX4_readNumber_30 rfl (lv_at hl 0 rfl) ?_
          refine va_get (D := D) (ci := 4) (v := .int (v_tokenFrom)) (C := RX4) (T := TX4) (N := 9) hx hb hts hinX4 hown hK.1 hP 0 rfl rfl 5 (by decide) (hts (.fieldLink RX4 28 "FrameWalks$Tape" "tokenFrom" "I") (List.mem_of_getElem? (i := 4) rfl)) (fun _ h9 => h9) rfl dX4_readNumber_31 ?_
          refine lv_isub hx hb dX4_readNumber_34 ?_
          refine lv_iconst (v := (3 : Int32)) hx hb dX4_readNumber_35 (by decide) ?_
          refine lv_icmp_ge (tgt := 63) hx hb dX4_readNumber_36 (by decide) (fun c_30 => ?_) (fun c_30 => ?_)
          · have h := ift c_30 h
            exact hb63 (v_tokenKind) (v_tokenTo) (v_tokenNumber) H locs ls hP hD hS (lv_sub hl [0] rfl) h
          · have h := ifn c_30 h
            refine lv_aload_n hx hb dX4_readNumber_39 rfl (lv_at hl 0 rfl) ?_
            refine lv_aload_n hx hb dX4_readNumber_40 rfl (lv_at hl 0 rfl) ?_
            refine va_get (D := D) (ci := 4) (v := .int (v_tokenNumber)) (C := RX4) (T := TX4) (N := 9) hx hb hts hinX4 hown hK.1 hP 0 rfl rfl 7 (by decide) (hts (.fieldLink RX4 34 "FrameWalks$Tape" "tokenNumber" "I") (List.mem_of_getElem? (i := 5) rfl)) (fun _ h9 => h9) rfl dX4_readNumber_41 ?_
            refine lv_bipush (v := (10 : Int32)) hx hb dX4_readNumber_44 (by decide) ?_
            refine lv_imul hx hb dX4_readNumber_46 ?_
            refine lv_aload_n hx hb dX4_readNumber_47 rfl (lv_at hl 0 rfl) ?_
            refine va_get (D := D) (ci := 4) (v := .ref a_bytes) (C := RX4) (T := TX4) (N := 9) hx hb hts hinX4 hown hK.1 hP 0 rfl rfl 0 (by decide) (hts (.fieldLink RX4 9 "FrameWalks$Tape" "bytes" "[I") (List.mem_of_getElem? (i := 3) rfl)) (fun _ h9 => h9) rfl dX4_readNumber_48 ?_
            refine lv_aload_n hx hb dX4_readNumber_51 rfl (lv_at hl 0 rfl) ?_
            refine va_get (D := D) (ci := 4) (v := .int (v_tokenTo)) (C := RX4) (T := TX4) (N := 9) hx hb hts hinX4 hown hK.1 hP 0 rfl rfl 6 (by decide) (hts (.fieldLink RX4 31 "FrameWalks$Tape" "tokenTo" "I") (List.mem_of_getElem? (i := 1) rfl)) (fun _ h9 => h9) rfl dX4_readNumber_52 ?_
            obtain ⟨i_31, h⟩ := cki_s h
            refine va_iald hx hb hK.1 hP 1 0 rfl rfl i_31 dX4_readNumber_55 ?_
            refine lv_bipush (v := (48 : Int32)) hx hb dX4_readNumber_56 (by decide) ?_
            refine lv_isub hx hb dX4_readNumber_58 ?_
            refine lv_iadd hx hb dX4_readNumber_59 ?_
            refine va_put (D := D) (ci := 4) (v := .int ((v_tokenNumber * (10 : Int32)) + ((f_bytes (v_tokenTo).toNatClampNeg) - (48 : Int32)))) (ty := .int) (C := RX4) (T := TX4) (N := 9) hx hb hts hinX4 tyX4 tyX4_ok nmX4 hown hK.1 hP hD hS 0 rfl rfl 7 (by decide) (hts (.fieldLink RX4 34 "FrameWalks$Tape" "tokenNumber" "I") (List.mem_of_getElem? (i := 5) rfl)) (fun _ h9 => h9) rfl (by decide +kernel) rfl rfl (Nat.le_of_ble_eq_true rfl) dX4_readNumber_60 (fun H locs hP hD hS => ?_)
            have hP : va_P D vwCl [(a, .inr (4, [.ref a_bytes, .int (v_length), .int (v_faulty), .int (v_faultPlace), .int (v_tokenKind), .int (v_tokenFrom), .int (v_tokenTo), .int ((v_tokenNumber * (10 : Int32)) + ((f_bytes (v_tokenTo).toNatClampNeg) - (48 : Int32))), .ref a_operands])), (a_bytes, .inl (cy 0, 320, .inl (f_bytes)))] H := hP
            have hD : va_D A [(a, .inr (4, [.ref a_bytes, .int (v_length), .int (v_faulty), .int (v_faultPlace), .int (v_tokenKind), .int (v_tokenFrom), .int (v_tokenTo), .int ((v_tokenNumber * (10 : Int32)) + ((f_bytes (v_tokenTo).toNatClampNeg) - (48 : Int32))), .ref a_operands])), (a_bytes, .inl (cy 0, 320, .inl (f_bytes)))] := hD
            exact hb63 (v_tokenKind) (v_tokenTo) ((v_tokenNumber * (10 : Int32)) + ((f_bytes (v_tokenTo).toNatClampNeg) - (48 : Int32))) H locs ls hP hD hS (lv_sub hl [0] rfl) h
  unfold f_X4_readNumber at h
  exact hL0 FUEL (v_tokenKind) (v_tokenTo) (v_tokenNumber) s.heap [] ls hP hD va_S.rf (lv_sub hl [0] rfl) h
theorem hd_X4_refuse : yX4_refuse.cls = RX4 ∧ yX4_refuse.cls ≠ "java/lang/invoke/MethodHandle" ∧ yX4_refuse.cls ≠ "java/lang/invoke/VarHandle" ∧ (parseMethodDescriptor yX4_refuse.desc).map (fun d => d.parameters.length) = some 2 := by decide +kernel
def f_X4_refuse (x1 : Int32) (x2 : Int32) (v_faulty : Int32) (v_faultPlace : Int32) : Option (Int32 × Int32) := (if v_faulty = 0 then (some (x1, x2)) else (some (v_faulty, v_faultPlace)))
set_option maxHeartbeats 4000000 in
set_option maxRecDepth 100000 in
theorem c_X4_refuse (l : Launch) (D : va_G) (cy : Nat → ClassId) (a a_bytes a_operands : Nat) (v_length : Int32) (v_faulty : Int32) (v_faultPlace : Int32) (v_tokenKind : Int32) (v_tokenFrom : Int32) (v_tokenTo : Int32) (v_tokenNumber : Int32) (x1 : Int32) (x2 : Int32) (z_v_faulty : Int32) (z_v_faultPlace : Int32) (h : f_X4_refuse x1 x2 v_faulty v_faultPlace = some (z_v_faulty, z_v_faultPlace)) : Mv l yX4_refuse wsX4_refuse ({ frames := 0, cells := 0, slots := 0, locals := 0 } : Room) (KK D cy) D [.ref a, .int (x1), .int (x2)] [(a, .inr (4, [.ref a_bytes, .int (v_length), .int (v_faulty), .int (v_faultPlace), .int (v_tokenKind), .int (v_tokenFrom), .int (v_tokenTo), .int (v_tokenNumber), .ref a_operands]))] [(a, .inr (4, [.ref a_bytes, .int (v_length), .int (z_v_faulty), .int (z_v_faultPlace), .int (v_tokenKind), .int (v_tokenFrom), .int (v_tokenTo), .int (v_tokenNumber), .ref a_operands]))] := by
  intro sz
  refine Met.mk0 (cc := cX4_refuse) (maxL := 3) (ret := none) (Qc := fun A => Qv D A [(a, .inr (4, [.ref a_bytes, .int (v_length), .int (z_v_faulty), .int (z_v_faultPlace), .int (v_tokenKind), .int (v_tokenFrom), .int (v_tokenTo), .int (v_tokenNumber), .ref a_operands]))]) (by decide) rfl (Nat.le_of_ble_eq_true rfl) ?_
  intro p e s m below meth c A ls hx hb hml hown hts hr hlocks hK hP hD hA hl
  have hown : s.vm.findClass RX4 = some m.cls := hown
  have hl : lv_has ls 3 [(0, .ref a), (1, .int (x1)), (2, .int (x2))] := hl
  have hinX4 : ∀ w ∈ u_ws RX4 TX4 9, w ∈ wsX4_refuse := (fun w h => List.mem_cons_of_mem _ (List.mem_append_right _ h))
  have main : ∀ (H : Heap) (locs : List Loc) (ls : Array Slot), va_P D vwCl [(a, .inr (4, [.ref a_bytes, .int (v_length), .int (v_faulty), .int (v_faultPlace), .int (v_tokenKind), .int (v_tokenFrom), .int (v_tokenTo), .int (v_tokenNumber), .ref a_operands]))] H → va_D A [(a, .inr (4, [.ref a_bytes, .int (v_length), .int (v_faulty), .int (v_faultPlace), .int (v_tokenKind), .int (v_tokenFrom), .int (v_tokenTo), .int (v_tokenNumber), .ref a_operands]))] → va_S A s.heap H locs → lv_has ls 3 [(0, .ref a), (1, .int (x1)), (2, .int (x2))] → f_X4_refuse x1 x2 v_faulty v_faultPlace = some (z_v_faulty, z_v_faultPlace) → W p l e ({ frames := 0, cells := 0, slots := 0, locals := 0 } : Room) s m [.ref a, .int (x1), .int (x2)].toArray below meth c H locs 0 0 (MQ below (Qv D A [(a, .inr (4, [.ref a_bytes, .int (v_length), .int (z_v_faulty), .int (z_v_faultPlace), .int (v_tokenKind), .int (v_tokenFrom), .int (v_tokenTo), .int (v_tokenNumber), .ref a_operands]))]) [.ref a, .int (x1), .int (x2)].toArray s 0 0 A) (F0 m 0 ls []) := by
    intro H locs ls hP hD hS hl h
    unfold f_X4_refuse at h
    refine lv_aload_n hx hb dX4_refuse_0 rfl (lv_at hl 0 rfl) ?_
    refine va_get (D := D) (ci := 4) (v := .int (v_faulty)) (C := RX4) (T := TX4) (N := 9) hx hb hts hinX4 hown hK.1 hP 0 rfl rfl 2 (by decide) (hts (.fieldLink RX4 19 "FrameWalks$Tape" "faulty" "I") (List.mem_of_getElem? (i := 1) rfl)) (fun _ h9 => h9) rfl dX4_refuse_1 ?_
    refine lv_if_ne (tgt := 17) hx hb dX4_refuse_4 (by decide) (fun c_4 => ?_) (fun c_4 => ?_)
    · have h := ifn c_4 h
      obtain ⟨e0, e1⟩ := tp2_s h
      exact Mv.ret' hx hb hr hlocks (by rw [← e0, ← e1]) hP hD hS dX4_refuse_17
    · have h := ift c_4 h
      refine lv_aload_n hx hb dX4_refuse_7 rfl (lv_at hl 0 rfl) ?_
      refine lv_iload_n hx hb dX4_refuse_8 rfl (lv_at hl 1 rfl) ?_
      refine va_put (D := D) (ci := 4) (v := .int (x1)) (ty := .int) (C := RX4) (T := TX4) (N := 9) hx hb hts hinX4 tyX4 tyX4_ok nmX4 hown hK.1 hP hD hS 0 rfl rfl 2 (by decide) (hts (.fieldLink RX4 19 "FrameWalks$Tape" "faulty" "I") (List.mem_of_getElem? (i := 1) rfl)) (fun _ h9 => h9) rfl (by decide +kernel) rfl rfl (Nat.le_of_ble_eq_true rfl) dX4_refuse_9 (fun H locs hP hD hS => ?_)
      have hP : va_P D vwCl [(a, .inr (4, [.ref a_bytes, .int (v_length), .int (x1), .int (v_faultPlace), .int (v_tokenKind), .int (v_tokenFrom), .int (v_tokenTo), .int (v_tokenNumber), .ref a_operands]))] H := hP
      have hD : va_D A [(a, .inr (4, [.ref a_bytes, .int (v_length), .int (x1), .int (v_faultPlace), .int (v_tokenKind), .int (v_tokenFrom), .int (v_tokenTo), .int (v_tokenNumber), .ref a_operands]))] := hD
      refine lv_aload_n hx hb dX4_refuse_12 rfl (lv_at hl 0 rfl) ?_
      refine lv_iload_n hx hb dX4_refuse_13 rfl (lv_at hl 2 rfl) ?_
      refine va_put (D := D) (ci := 4) (v := .int (x2)) (ty := .int) (C := RX4) (T := TX4) (N := 9) hx hb hts hinX4 tyX4 tyX4_ok nmX4 hown hK.1 hP hD hS 0 rfl rfl 3 (by decide) (hts (.fieldLink RX4 22 "FrameWalks$Tape" "faultPlace" "I") (List.mem_of_getElem? (i := 2) rfl)) (fun _ h9 => h9) rfl (by decide +kernel) rfl rfl (Nat.le_of_ble_eq_true rfl) dX4_refuse_14 (fun H locs hP hD hS => ?_)
      have hP : va_P D vwCl [(a, .inr (4, [.ref a_bytes, .int (v_length), .int (x1), .int (x2), .int (v_tokenKind), .int (v_tokenFrom), .int (v_tokenTo), .int (v_tokenNumber), .ref a_operands]))] H := hP
      have hD : va_D A [(a, .inr (4, [.ref a_bytes, .int (v_length), .int (x1), .int (x2), .int (v_tokenKind), .int (v_tokenFrom), .int (v_tokenTo), .int (v_tokenNumber), .ref a_operands]))] := hD
      obtain ⟨e0, e1⟩ := tp2_s h
      exact Mv.ret' hx hb hr hlocks (by rw [← e0, ← e1]) hP hD hS dX4_refuse_17
  exact main s.heap [] ls hP hD va_S.rf hl h
theorem hd_X4_nextToken : yX4_nextToken.cls = RX4 ∧ yX4_nextToken.cls ≠ "java/lang/invoke/MethodHandle" ∧ yX4_nextToken.cls ≠ "java/lang/invoke/VarHandle" ∧ (parseMethodDescriptor yX4_nextToken.desc).map (fun d => d.parameters.length) = some 0 := by decide +kernel
def f_X4_nextToken_b126 (v_length : Int32) (f_bytes : Nat → Int32) (v_faulty : Int32) (v_faultPlace : Int32) (v_tokenKind : Int32) (v_tokenFrom : Int32) (v_tokenTo : Int32) (v_tokenNumber : Int32) : Option (Int32 × Int32 × Int32 × Int32 × Int32 × Int32) := (if v_tokenKind = (1 : Int32) then (bn2 (f_X4_refuse ((1 : Int32)) (v_tokenFrom) (v_faulty) (v_faultPlace)) (fun m_77 m_78 => (some (m_77, m_78, v_tokenKind, v_tokenFrom, v_tokenTo, v_tokenNumber)))) else (some (v_faulty, v_faultPlace, v_tokenKind, v_tokenFrom, v_tokenTo, v_tokenNumber)))
def f_X4_nextToken_b116 (v_length : Int32) (f_bytes : Nat → Int32) (y1 : Int32) (k1 : Int32) (v_faulty : Int32) (v_faultPlace : Int32) (v_tokenKind : Int32) (v_tokenFrom : Int32) (v_tokenTo : Int32) (v_tokenNumber : Int32) : Option (Int32 × Int32 × Int32 × Int32 × Int32 × Int32) := (f_X4_nextToken_b126 v_length f_bytes  (v_faulty) (v_faultPlace) (k1) (v_tokenFrom) (y1 + (1 : Int32)) (v_tokenNumber))
def f_X4_nextToken_b30 (v_length : Int32) (f_bytes : Nat → Int32) (y1 : Int32) (v_faulty : Int32) (v_faultPlace : Int32) (v_tokenKind : Int32) (v_tokenFrom : Int32) (v_tokenTo : Int32) (v_tokenNumber : Int32) : Option (Int32 × Int32 × Int32 × Int32 × Int32 × Int32) := (if y1 < v_length then (cki (y1) 320 (bn1 (f_X4_isLetter (f_bytes (y1).toNatClampNeg)) (fun r_82 => (if r_82 = 0 then (cki (y1) 320 (bn1 (f_X4_isFigure (f_bytes (y1).toNatClampNeg)) (fun r_85 => (if r_85 = 0 then (cki (y1) 320 (if f_bytes (y1).toNatClampNeg = (59 : Int32) then (f_X4_nextToken_b116 v_length f_bytes  (y1) ((4 : Int32)) (v_faulty) (v_faultPlace) (v_tokenKind) (y1) (y1) ((0 : Int32))) else (f_X4_nextToken_b116 v_length f_bytes  (y1) ((1 : Int32)) (v_faulty) (v_faultPlace) (v_tokenKind) (y1) (y1) ((0 : Int32))))) else (bn3 (f_X4_readNumber (v_length) (v_tokenKind) (y1) (y1) ((0 : Int32)) (f_bytes)) (fun m_89 m_90 m_91 => (f_X4_nextToken_b126 v_length f_bytes  (v_faulty) (v_faultPlace) (m_89) (y1) (m_90) (m_91)))))))) else (bn2 (f_X4_readName (v_length) (v_tokenKind) (y1) (f_bytes)) (fun m_94 m_95 => (f_X4_nextToken_b126 v_length f_bytes  (v_faulty) (v_faultPlace) (m_94) (y1) (m_95) ((0 : Int32))))))))) else (f_X4_nextToken_b126 v_length f_bytes  (v_faulty) (v_faultPlace) ((0 : Int32)) (y1) (y1) ((0 : Int32))))
def f_X4_nextToken_L5 (v_length : Int32) (f_bytes : Nat → Int32) : Nat → Int32 → Int32 → Int32 → Int32 → Int32 → Int32 → Int32 → Option (Int32 × Int32 × Int32 × Int32 × Int32 × Int32)
  | 0, _, _, _, _, _, _, _ => none
  | n + 1, y1, v_faulty, v_faultPlace, v_tokenKind, v_tokenFrom, v_tokenTo, v_tokenNumber => (if v_length ≤ y1 then (f_X4_nextToken_b30 v_length f_bytes  (y1) (v_faulty) (v_faultPlace) (v_tokenKind) (v_tokenFrom) (v_tokenTo) (v_tokenNumber)) else (cki (y1) 320 (if f_bytes (y1).toNatClampNeg = (32 : Int32) then ((f_X4_nextToken_L5 v_length f_bytes  n) (y1 + (1 : Int32)) (v_faulty) (v_faultPlace) (v_tokenKind) (v_tokenFrom) (v_tokenTo) (v_tokenNumber)) else (f_X4_nextToken_b30 v_length f_bytes  (y1) (v_faulty) (v_faultPlace) (v_tokenKind) (v_tokenFrom) (v_tokenTo) (v_tokenNumber)))))
def f_X4_nextToken (v_length : Int32) (v_faulty : Int32) (v_faultPlace : Int32) (v_tokenKind : Int32) (v_tokenFrom : Int32) (v_tokenTo : Int32) (v_tokenNumber : Int32) (f_bytes : Nat → Int32) : Option (Int32 × Int32 × Int32 × Int32 × Int32 × Int32) := (f_X4_nextToken_L5 v_length f_bytes  FUEL (v_tokenTo) (v_faulty) (v_faultPlace) (v_tokenKind) (v_tokenFrom) (v_tokenTo) (v_tokenNumber))
set_option maxHeartbeats 4000000 in
set_option maxRecDepth 100000 in
theorem c_X4_nextToken (l : Launch) (D : va_G) (cy : Nat → ClassId) (a a_bytes a_operands : Nat) (v_length : Int32) (v_faulty : Int32) (v_faultPlace : Int32) (v_tokenKind : Int32) (v_tokenFrom : Int32) (v_tokenTo : Int32) (v_tokenNumber : Int32) (f_bytes : Nat → Int32) (z_v_faulty : Int32) (z_v_faultPlace : Int32) (z_v_tokenKind : Int32) (z_v_tokenFrom : Int32) (z_v_tokenTo : Int32) (z_v_tokenNumber : Int32) (h : f_X4_nextToken v_length v_faulty v_faultPlace v_tokenKind v_tokenFrom v_tokenTo v_tokenNumber f_bytes = some (z_v_faulty, z_v_faultPlace, z_v_tokenKind, z_v_tokenFrom, z_v_tokenTo, z_v_tokenNumber)) : Mv l yX4_nextToken wsX4_nextToken ({ frames := 2, cells := 0, slots := 0, locals := 40 } : Room) (KK D cy) D [.ref a] [(a, .inr (4, [.ref a_bytes, .int (v_length), .int (v_faulty), .int (v_faultPlace), .int (v_tokenKind), .int (v_tokenFrom), .int (v_tokenTo), .int (v_tokenNumber), .ref a_operands])), (a_bytes, .inl (cy 0, 320, .inl (f_bytes)))] [(a, .inr (4, [.ref a_bytes, .int (v_length), .int (z_v_faulty), .int (z_v_faultPlace), .int (z_v_tokenKind), .int (z_v_tokenFrom), .int (z_v_tokenTo), .int (z_v_tokenNumber), .ref a_operands])), (a_bytes, .inl (cy 0, 320, .inl (f_bytes)))] := by
  intro sz
  refine Met.mk0 (cc := cX4_nextToken) (maxL := 2) (ret := none) (Qc := fun A => Qv D A [(a, .inr (4, [.ref a_bytes, .int (v_length), .int (z_v_faulty), .int (z_v_faultPlace), .int (z_v_tokenKind), .int (z_v_tokenFrom), .int (z_v_tokenTo), .int (z_v_tokenNumber), .ref a_operands])), (a_bytes, .inl (cy 0, 320, .inl (f_bytes)))]) (by decide) rfl (Nat.le_of_ble_eq_true rfl) ?_
  intro p e s m below meth c A ls hx hb hml hown hts hr hlocks hK hP hD hA hl
  have hown : s.vm.findClass RX4 = some m.cls := hown
  have hl : lv_has ls 2 [(0, .ref a)] := hl
  have hinX4 : ∀ w ∈ u_ws RX4 TX4 9, w ∈ wsX4_nextToken := (fun w h => List.mem_cons_of_mem _ (List.mem_append_right _ h))
  have hb126 : ∀ (v_faulty : Int32) (v_faultPlace : Int32) (v_tokenKind : Int32) (v_tokenFrom : Int32) (v_tokenTo : Int32) (v_tokenNumber : Int32) (H : Heap) (locs : List Loc) (ls : Array Slot), va_P D vwCl [(a, .inr (4, [.ref a_bytes, .int (v_length), .int (v_faulty), .int (v_faultPlace), .int (v_tokenKind), .int (v_tokenFrom), .int (v_tokenTo), .int (v_tokenNumber), .ref a_operands])), (a_bytes, .inl (cy 0, 320, .inl (f_bytes)))] H → va_D A [(a, .inr (4, [.ref a_bytes, .int (v_length), .int (v_faulty), .int (v_faultPlace), .int (v_tokenKind), .int (v_tokenFrom), .int (v_tokenTo), .int (v_tokenNumber), .ref a_operands])), (a_bytes, .inl (cy 0, 320, .inl (f_bytes)))] → va_S A s.heap H locs → lv_has ls 2 [(0, .ref a)] → f_X4_nextToken_b126 v_length f_bytes  v_faulty v_faultPlace v_tokenKind v_tokenFrom v_tokenTo v_tokenNumber = some (z_v_faulty, z_v_faultPlace, z_v_tokenKind, z_v_tokenFrom, z_v_tokenTo, z_v_tokenNumber) → W p l e ({ frames := 2, cells := 0, slots := 0, locals := 40 } : Room) s m [.ref a].toArray below meth c H locs 0 0 (MQ below (Qv D A [(a, .inr (4, [.ref a_bytes, .int (v_length), .int (z_v_faulty), .int (z_v_faultPlace), .int (z_v_tokenKind), .int (z_v_tokenFrom), .int (z_v_tokenTo), .int (z_v_tokenNumber), .ref a_operands])), (a_bytes, .inl (cy 0, 320, .inl (f_bytes)))]) [.ref a].toArray s 0 0 A) (F0 m 126 ls []) := by
    intro v_faulty v_faultPlace v_tokenKind v_tokenFrom v_tokenTo v_tokenNumber H locs ls hP hD hS hl h
    unfold f_X4_nextToken_b126 at h
    refine lv_aload_n hx hb dX4_nextToken_126 rfl (lv_at hl 0 rfl) ?_
    refine va_get (D := D) (ci := 4) (v := .int (v_tokenKind)) (C := RX4) (T := TX4) (N := 9) hx hb hts hinX4 hown hK.1 hP 0 rfl rfl 4 (by decide) (hts (.fieldLink RX4 25 "FrameWalks$Tape" "tokenKind" "I") (List.mem_of_getElem? (i := 6) rfl)) (fun _ h9 => h9) rfl dX4_nextToken_127 ?_
    refine lv_iconst (v := (1 : Int32)) hx hb dX4_nextToken_130 (by decide) ?_
    refine lv_icmp_ne (tgt := 143) hx hb dX4_nextToken_131 (by decide) (fun c_76 => ?_) (fun c_76 => ?_)
    · have h := ifn c_76 h
      obtain ⟨e0, e1, e2, e3, e4, e5⟩ := tp6_s h
      exact Mv.ret' hx hb hr hlocks (by rw [← e0, ← e1, ← e2, ← e3, ← e4, ← e5]) hP hD hS dX4_nextToken_143
    · have h := ift c_76 h
      refine lv_aload_n hx hb dX4_nextToken_134 rfl (lv_at hl 0 rfl) ?_
      refine lv_iconst (v := (1 : Int32)) hx hb dX4_nextToken_135 (by decide) ?_
      refine lv_aload_n hx hb dX4_nextToken_136 rfl (lv_at hl 0 rfl) ?_
      refine va_get (D := D) (ci := 4) (v := .int (v_tokenFrom)) (C := RX4) (T := TX4) (N := 9) hx hb hts hinX4 hown hK.1 hP 0 rfl rfl 5 (by decide) (hts (.fieldLink RX4 28 "FrameWalks$Tape" "tokenFrom" "I") (List.mem_of_getElem? (i := 4) rfl)) (fun _ h9 => h9) rfl dX4_nextToken_137 ?_
      obtain ⟨m_77, m_78, hc_79, h⟩ := bn2_s h
      refine call_v (ws1 := [(a, .inr (4, [.ref a_bytes, .int (v_length), .int (m_77), .int (m_78), .int (v_tokenKind), .int (v_tokenFrom), .int (v_tokenTo), .int (v_tokenNumber), .ref a_operands])), (a_bytes, .inl (cy 0, 320, .inl (f_bytes)))]) (wr := [(a_bytes, .inl (cy 0, 320, .inl (f_bytes)))]) (run_V ⟨hx, hb, hml, hown, hts⟩ ((c_X4_refuse l D cy a a_bytes a_operands (v_length) (v_faulty) (v_faultPlace) (v_tokenKind) (v_tokenFrom) (v_tokenTo) (v_tokenNumber) ((1 : Int32)) (v_tokenFrom) m_77 m_78 hc_79) H.size) (cwV 2 hts gX4_nextToken_X4_refuse rfl rfl rfl hd_X4_refuse ⟨Nat.le_of_ble_eq_true rfl, Nat.le_of_ble_eq_true rfl⟩) KK.calling (fun U _ hW => hK.warm hW) hK.1 hP hD [0] [1] [1, 0] rfl rfl 0 4 rfl rfl rfl rfl hl.1 rfl (lv_room (Nat.le_of_ble_eq_true rfl)) dX4_nextToken_140) hP hD hS hA [0] [1] [1, 0] rfl rfl rfl rfl (fun H locs hP hD hS => ?_)
      obtain ⟨e0, e1, e2, e3, e4, e5⟩ := tp6_s h
      exact Mv.ret' hx hb hr hlocks (by rw [← e0, ← e1, ← e2, ← e3, ← e4, ← e5]) hP hD hS dX4_nextToken_143
  have hb116 : ∀ (y1 : Int32) (k1 : Int32) (v_faulty : Int32) (v_faultPlace : Int32) (v_tokenKind : Int32) (v_tokenFrom : Int32) (v_tokenTo : Int32) (v_tokenNumber : Int32) (H : Heap) (locs : List Loc) (ls : Array Slot), va_P D vwCl [(a, .inr (4, [.ref a_bytes, .int (v_length), .int (v_faulty), .int (v_faultPlace), .int (v_tokenKind), .int (v_tokenFrom), .int (v_tokenTo), .int (v_tokenNumber), .ref a_operands])), (a_bytes, .inl (cy 0, 320, .inl (f_bytes)))] H → va_D A [(a, .inr (4, [.ref a_bytes, .int (v_length), .int (v_faulty), .int (v_faultPlace), .int (v_tokenKind), .int (v_tokenFrom), .int (v_tokenTo), .int (v_tokenNumber), .ref a_operands])), (a_bytes, .inl (cy 0, 320, .inl (f_bytes)))] → va_S A s.heap H locs → lv_has ls 2 [(0, .ref a), (1, .int (y1))] → f_X4_nextToken_b116 v_length f_bytes  y1 k1 v_faulty v_faultPlace v_tokenKind v_tokenFrom v_tokenTo v_tokenNumber = some (z_v_faulty, z_v_faultPlace, z_v_tokenKind, z_v_tokenFrom, z_v_tokenTo, z_v_tokenNumber) → W p l e ({ frames := 2, cells := 0, slots := 0, locals := 40 } : Room) s m [.ref a].toArray below meth c H locs 0 0 (MQ below (Qv D A [(a, .inr (4, [.ref a_bytes, .int (v_length), .int (z_v_faulty), .int (z_v_faultPlace), .int (z_v_tokenKind), .int (z_v_tokenFrom), .int (z_v_tokenTo), .int (z_v_tokenNumber), .ref a_operands])), (a_bytes, .inl (cy 0, 320, .inl (f_bytes)))]) [.ref a].toArray s 0 0 A) (F0 m 116 ls [.int (k1), .ref a]) := by
    intro y1 k1 v_faulty v_faultPlace v_tokenKind v_tokenFrom v_tokenTo v_tokenNumber H locs ls hP hD hS hl h
    unfold f_X4_nextToken_b116 at h
    refine va_put (D := D) (ci := 4) (v := .int (k1)) (ty := .int) (C := RX4) (T := TX4) (N := 9) hx hb hts hinX4 tyX4 tyX4_ok nmX4 hown hK.1 hP hD hS 0 rfl rfl 4 (by decide) (hts (.fieldLink RX4 25 "FrameWalks$Tape" "tokenKind" "I") (List.mem_of_getElem? (i := 6) rfl)) (fun _ h9 => h9) rfl (by decide +kernel) rfl rfl (Nat.le_of_ble_eq_true rfl) dX4_nextToken_116 (fun H locs hP hD hS => ?_)
    have hP : va_P D vwCl [(a, .inr (4, [.ref a_bytes, .int (v_length), .int (v_faulty), .int (v_faultPlace), .int (k1), .int (v_tokenFrom), .int (v_tokenTo), .int (v_tokenNumber), .ref a_operands])), (a_bytes, .inl (cy 0, 320, .inl (f_bytes)))] H := hP
    have hD : va_D A [(a, .inr (4, [.ref a_bytes, .int (v_length), .int (v_faulty), .int (v_faultPlace), .int (k1), .int (v_tokenFrom), .int (v_tokenTo), .int (v_tokenNumber), .ref a_operands])), (a_bytes, .inl (cy 0, 320, .inl (f_bytes)))] := hD
    refine lv_aload_n hx hb dX4_nextToken_119 rfl (lv_at hl 0 rfl) ?_
    refine lv_iload_n hx hb dX4_nextToken_120 rfl (lv_at hl 1 rfl) ?_
    refine lv_iconst (v := (1 : Int32)) hx hb dX4_nextToken_121 (by decide) ?_
    refine lv_iadd hx hb dX4_nextToken_122 ?_
    refine va_put (D := D) (ci := 4) (v := .int (y1 + (1 : Int32))) (ty := .int) (C := RX4) (T := TX4) (N := 9) hx hb hts hinX4 tyX4 tyX4_ok nmX4 hown hK.1 hP hD hS 0 rfl rfl 6 (by decide) (hts (.fieldLink RX4 31 "FrameWalks$Tape" "tokenTo" "I") (List.mem_of_getElem? (i := 1) rfl)) (fun _ h9 => h9) rfl (by decide +kernel) rfl rfl (Nat.le_of_ble_eq_true rfl) dX4_nextToken_123 (fun H locs hP hD hS => ?_)
    have hP : va_P D vwCl [(a, .inr (4, [.ref a_bytes, .int (v_length), .int (v_faulty), .int (v_faultPlace), .int (k1), .int (v_tokenFrom), .int (y1 + (1 : Int32)), .int (v_tokenNumber), .ref a_operands])), (a_bytes, .inl (cy 0, 320, .inl (f_bytes)))] H := hP
    have hD : va_D A [(a, .inr (4, [.ref a_bytes, .int (v_length), .int (v_faulty), .int (v_faultPlace), .int (k1), .int (v_tokenFrom), .int (y1 + (1 : Int32)), .int (v_tokenNumber), .ref a_operands])), (a_bytes, .inl (cy 0, 320, .inl (f_bytes)))] := hD
    exact hb126 (v_faulty) (v_faultPlace) (k1) (v_tokenFrom) (y1 + (1 : Int32)) (v_tokenNumber) H locs ls hP hD hS (lv_sub hl [0] rfl) h
  have hb30 : ∀ (y1 : Int32) (v_faulty : Int32) (v_faultPlace : Int32) (v_tokenKind : Int32) (v_tokenFrom : Int32) (v_tokenTo : Int32) (v_tokenNumber : Int32) (H : Heap) (locs : List Loc) (ls : Array Slot), va_P D vwCl [(a, .inr (4, [.ref a_bytes, .int (v_length), .int (v_faulty), .int (v_faultPlace), .int (v_tokenKind), .int (v_tokenFrom), .int (v_tokenTo), .int (v_tokenNumber), .ref a_operands])), (a_bytes, .inl (cy 0, 320, .inl (f_bytes)))] H → va_D A [(a, .inr (4, [.ref a_bytes, .int (v_length), .int (v_faulty), .int (v_faultPlace), .int (v_tokenKind), .int (v_tokenFrom), .int (v_tokenTo), .int (v_tokenNumber), .ref a_operands])), (a_bytes, .inl (cy 0, 320, .inl (f_bytes)))] → va_S A s.heap H locs → lv_has ls 2 [(0, .ref a), (1, .int (y1))] → f_X4_nextToken_b30 v_length f_bytes  y1 v_faulty v_faultPlace v_tokenKind v_tokenFrom v_tokenTo v_tokenNumber = some (z_v_faulty, z_v_faultPlace, z_v_tokenKind, z_v_tokenFrom, z_v_tokenTo, z_v_tokenNumber) → W p l e ({ frames := 2, cells := 0, slots := 0, locals := 40 } : Room) s m [.ref a].toArray below meth c H locs 0 0 (MQ below (Qv D A [(a, .inr (4, [.ref a_bytes, .int (v_length), .int (z_v_faulty), .int (z_v_faultPlace), .int (z_v_tokenKind), .int (z_v_tokenFrom), .int (z_v_tokenTo), .int (z_v_tokenNumber), .ref a_operands])), (a_bytes, .inl (cy 0, 320, .inl (f_bytes)))]) [.ref a].toArray s 0 0 A) (F0 m 30 ls []) := by
    intro y1 v_faulty v_faultPlace v_tokenKind v_tokenFrom v_tokenTo v_tokenNumber H locs ls hP hD hS hl h
    unfold f_X4_nextToken_b30 at h
    refine lv_aload_n hx hb dX4_nextToken_30 rfl (lv_at hl 0 rfl) ?_
    refine lv_iload_n hx hb dX4_nextToken_31 rfl (lv_at hl 1 rfl) ?_
    refine va_put (D := D) (ci := 4) (v := .int (y1)) (ty := .int) (C := RX4) (T := TX4) (N := 9) hx hb hts hinX4 tyX4 tyX4_ok nmX4 hown hK.1 hP hD hS 0 rfl rfl 5 (by decide) (hts (.fieldLink RX4 28 "FrameWalks$Tape" "tokenFrom" "I") (List.mem_of_getElem? (i := 4) rfl)) (fun _ h9 => h9) rfl (by decide +kernel) rfl rfl (Nat.le_of_ble_eq_true rfl) dX4_nextToken_32 (fun H locs hP hD hS => ?_)
    have hP : va_P D vwCl [(a, .inr (4, [.ref a_bytes, .int (v_length), .int (v_faulty), .int (v_faultPlace), .int (v_tokenKind), .int (y1), .int (v_tokenTo), .int (v_tokenNumber), .ref a_operands])), (a_bytes, .inl (cy 0, 320, .inl (f_bytes)))] H := hP
    have hD : va_D A [(a, .inr (4, [.ref a_bytes, .int (v_length), .int (v_faulty), .int (v_faultPlace), .int (v_tokenKind), .int (y1), .int (v_tokenTo), .int (v_tokenNumber), .ref a_operands])), (a_bytes, .inl (cy 0, 320, .inl (f_bytes)))] := hD
    refine lv_aload_n hx hb dX4_nextToken_35 rfl (lv_at hl 0 rfl) ?_
    refine lv_iload_n hx hb dX4_nextToken_36 rfl (lv_at hl 1 rfl) ?_
    refine va_put (D := D) (ci := 4) (v := .int (y1)) (ty := .int) (C := RX4) (T := TX4) (N := 9) hx hb hts hinX4 tyX4 tyX4_ok nmX4 hown hK.1 hP hD hS 0 rfl rfl 6 (by decide) (hts (.fieldLink RX4 31 "FrameWalks$Tape" "tokenTo" "I") (List.mem_of_getElem? (i := 1) rfl)) (fun _ h9 => h9) rfl (by decide +kernel) rfl rfl (Nat.le_of_ble_eq_true rfl) dX4_nextToken_37 (fun H locs hP hD hS => ?_)
    have hP : va_P D vwCl [(a, .inr (4, [.ref a_bytes, .int (v_length), .int (v_faulty), .int (v_faultPlace), .int (v_tokenKind), .int (y1), .int (y1), .int (v_tokenNumber), .ref a_operands])), (a_bytes, .inl (cy 0, 320, .inl (f_bytes)))] H := hP
    have hD : va_D A [(a, .inr (4, [.ref a_bytes, .int (v_length), .int (v_faulty), .int (v_faultPlace), .int (v_tokenKind), .int (y1), .int (y1), .int (v_tokenNumber), .ref a_operands])), (a_bytes, .inl (cy 0, 320, .inl (f_bytes)))] := hD
    refine lv_aload_n hx hb dX4_nextToken_40 rfl (lv_at hl 0 rfl) ?_
    refine lv_iconst (v := (0 : Int32)) hx hb dX4_nextToken_41 (by decide) ?_
    refine va_put (D := D) (ci := 4) (v := .int ((0 : Int32))) (ty := .int) (C := RX4) (T := TX4) (N := 9) hx hb hts hinX4 tyX4 tyX4_ok nmX4 hown hK.1 hP hD hS 0 rfl rfl 7 (by decide) (hts (.fieldLink RX4 34 "FrameWalks$Tape" "tokenNumber" "I") (List.mem_of_getElem? (i := 5) rfl)) (fun _ h9 => h9) rfl (by decide +kernel) rfl rfl (Nat.le_of_ble_eq_true rfl) dX4_nextToken_42 (fun H locs hP hD hS => ?_)
    have hP : va_P D vwCl [(a, .inr (4, [.ref a_bytes, .int (v_length), .int (v_faulty), .int (v_faultPlace), .int (v_tokenKind), .int (y1), .int (y1), .int ((0 : Int32)), .ref a_operands])), (a_bytes, .inl (cy 0, 320, .inl (f_bytes)))] H := hP
    have hD : va_D A [(a, .inr (4, [.ref a_bytes, .int (v_length), .int (v_faulty), .int (v_faultPlace), .int (v_tokenKind), .int (y1), .int (y1), .int ((0 : Int32)), .ref a_operands])), (a_bytes, .inl (cy 0, 320, .inl (f_bytes)))] := hD
    refine lv_iload_n hx hb dX4_nextToken_45 rfl (lv_at hl 1 rfl) ?_
    refine lv_aload_n hx hb dX4_nextToken_46 rfl (lv_at hl 0 rfl) ?_
    refine va_get (D := D) (ci := 4) (v := .int (v_length)) (C := RX4) (T := TX4) (N := 9) hx hb hts hinX4 hown hK.1 hP 0 rfl rfl 1 (by decide) (hts (.fieldLink RX4 15 "FrameWalks$Tape" "length" "I") (List.mem_of_getElem? (i := 2) rfl)) (fun _ h9 => h9) rfl dX4_nextToken_47 ?_
    refine lv_icmp_lt (tgt := 61) hx hb dX4_nextToken_50 (by decide) (fun c_80 => ?_) (fun c_80 => ?_)
    · have h := ift c_80 h
      refine lv_aload_n hx hb dX4_nextToken_61 rfl (lv_at hl 0 rfl) ?_
      refine va_get (D := D) (ci := 4) (v := .ref a_bytes) (C := RX4) (T := TX4) (N := 9) hx hb hts hinX4 hown hK.1 hP 0 rfl rfl 0 (by decide) (hts (.fieldLink RX4 9 "FrameWalks$Tape" "bytes" "[I") (List.mem_of_getElem? (i := 3) rfl)) (fun _ h9 => h9) rfl dX4_nextToken_62 ?_
      refine lv_iload_n hx hb dX4_nextToken_65 rfl (lv_at hl 1 rfl) ?_
      obtain ⟨i_81, h⟩ := cki_s h
      refine va_iald hx hb hK.1 hP 1 0 rfl rfl i_81 dX4_nextToken_66 ?_
      obtain ⟨r_82, hc_97, h⟩ := bn1_s h
      refine call_i (ws1 := [(a, .inr (4, [.ref a_bytes, .int (v_length), .int (v_faulty), .int (v_faultPlace), .int (v_tokenKind), .int (y1), .int (y1), .int ((0 : Int32)), .ref a_operands])), (a_bytes, .inl (cy 0, 320, .inl (f_bytes)))]) (wr := [(a, .inr (4, [.ref a_bytes, .int (v_length), .int (v_faulty), .int (v_faultPlace), .int (v_tokenKind), .int (y1), .int (y1), .int ((0 : Int32)), .ref a_operands])), (a_bytes, .inl (cy 0, 320, .inl (f_bytes)))]) (run_S ⟨hx, hb, hml, hown, hts⟩ ((c_X4_isLetter l D cy (f_bytes (y1).toNatClampNeg) r_82 hc_97) H.size) (cwS2 1 hts gX4_nextToken_X4_isLetter rfl rfl rfl hd_X4_isLetter.2 ⟨Nat.le_of_ble_eq_true rfl, Nat.le_of_ble_eq_true rfl⟩) KK.calling (fun U _ hW => hK.warm hW) hP hD [] [0, 1] [0, 1] rfl rfl rfl hl.1 rfl (lv_room (Nat.le_of_ble_eq_true rfl)) dX4_nextToken_67) hP hD hS hA [] [0, 1] [0, 1] rfl rfl rfl rfl (fun H locs hP hD hS => ?_)
      refine lv_if_eq (tgt := 80) hx hb dX4_nextToken_70 (by decide) (fun c_83 => ?_) (fun c_83 => ?_)
      · have h := ift c_83 h
        refine lv_aload_n hx hb dX4_nextToken_80 rfl (lv_at hl 0 rfl) ?_
        refine va_get (D := D) (ci := 4) (v := .ref a_bytes) (C := RX4) (T := TX4) (N := 9) hx hb hts hinX4 hown hK.1 hP 0 rfl rfl 0 (by decide) (hts (.fieldLink RX4 9 "FrameWalks$Tape" "bytes" "[I") (List.mem_of_getElem? (i := 3) rfl)) (fun _ h9 => h9) rfl dX4_nextToken_81 ?_
        refine lv_iload_n hx hb dX4_nextToken_84 rfl (lv_at hl 1 rfl) ?_
        obtain ⟨i_84, h⟩ := cki_s h
        refine va_iald hx hb hK.1 hP 1 0 rfl rfl i_84 dX4_nextToken_85 ?_
        obtain ⟨r_85, hc_93, h⟩ := bn1_s h
        refine call_i (ws1 := [(a, .inr (4, [.ref a_bytes, .int (v_length), .int (v_faulty), .int (v_faultPlace), .int (v_tokenKind), .int (y1), .int (y1), .int ((0 : Int32)), .ref a_operands])), (a_bytes, .inl (cy 0, 320, .inl (f_bytes)))]) (wr := [(a, .inr (4, [.ref a_bytes, .int (v_length), .int (v_faulty), .int (v_faultPlace), .int (v_tokenKind), .int (y1), .int (y1), .int ((0 : Int32)), .ref a_operands])), (a_bytes, .inl (cy 0, 320, .inl (f_bytes)))]) (run_S ⟨hx, hb, hml, hown, hts⟩ ((c_X4_isFigure l D cy (f_bytes (y1).toNatClampNeg) r_85 hc_93) H.size) (cwS2 1 hts gX4_nextToken_X4_isFigure rfl rfl rfl hd_X4_isFigure.2 ⟨Nat.le_of_ble_eq_true rfl, Nat.le_of_ble_eq_true rfl⟩) KK.calling (fun U _ hW => hK.warm hW) hP hD [] [0, 1] [0, 1] rfl rfl rfl hl.1 rfl (lv_room (Nat.le_of_ble_eq_true rfl)) dX4_nextToken_86) hP hD hS hA [] [0, 1] [0, 1] rfl rfl rfl rfl (fun H locs hP hD hS => ?_)
        refine lv_if_eq (tgt := 99) hx hb dX4_nextToken_89 (by decide) (fun c_86 => ?_) (fun c_86 => ?_)
        · have h := ift c_86 h
          refine lv_aload_n hx hb dX4_nextToken_99 rfl (lv_at hl 0 rfl) ?_
          refine lv_aload_n hx hb dX4_nextToken_100 rfl (lv_at hl 0 rfl) ?_
          refine va_get (D := D) (ci := 4) (v := .ref a_bytes) (C := RX4) (T := TX4) (N := 9) hx hb hts hinX4 hown hK.1 hP 0 rfl rfl 0 (by decide) (hts (.fieldLink RX4 9 "FrameWalks$Tape" "bytes" "[I") (List.mem_of_getElem? (i := 3) rfl)) (fun _ h9 => h9) rfl dX4_nextToken_101 ?_
          refine lv_iload_n hx hb dX4_nextToken_104 rfl (lv_at hl 1 rfl) ?_
          obtain ⟨i_87, h⟩ := cki_s h
          refine va_iald hx hb hK.1 hP 1 0 rfl rfl i_87 dX4_nextToken_105 ?_
          refine lv_bipush (v := (59 : Int32)) hx hb dX4_nextToken_106 (by decide) ?_
          refine lv_icmp_ne (tgt := 115) hx hb dX4_nextToken_108 (by decide) (fun c_88 => ?_) (fun c_88 => ?_)
          · have h := ifn c_88 h
            refine lv_iconst (v := (1 : Int32)) hx hb dX4_nextToken_115 (by decide) ?_
            exact hb116 (y1) ((1 : Int32)) (v_faulty) (v_faultPlace) (v_tokenKind) (y1) (y1) ((0 : Int32)) H locs ls hP hD hS (lv_sub hl [0, 1] rfl) h
          · have h := ift c_88 h
            refine lv_iconst (v := (4 : Int32)) hx hb dX4_nextToken_111 (by decide) ?_
            refine lv_goto (tgt := 116) hx hb dX4_nextToken_112 (by decide) ?_
            exact hb116 (y1) ((4 : Int32)) (v_faulty) (v_faultPlace) (v_tokenKind) (y1) (y1) ((0 : Int32)) H locs ls hP hD hS (lv_sub hl [0, 1] rfl) h
        · have h := ifn c_86 h
          refine lv_aload_n hx hb dX4_nextToken_92 rfl (lv_at hl 0 rfl) ?_
          obtain ⟨m_89, m_90, m_91, hc_92, h⟩ := bn3_s h
          refine call_v (ws1 := [(a, .inr (4, [.ref a_bytes, .int (v_length), .int (v_faulty), .int (v_faultPlace), .int (m_89), .int (y1), .int (m_90), .int (m_91), .ref a_operands])), (a_bytes, .inl (cy 0, 320, .inl (f_bytes)))]) (wr := []) (run_V ⟨hx, hb, hml, hown, hts⟩ ((c_X4_readNumber l D cy a a_bytes a_operands (v_length) (v_faulty) (v_faultPlace) (v_tokenKind) (y1) (y1) ((0 : Int32)) (f_bytes) m_89 m_90 m_91 hc_92) H.size) (cwV 0 hts gX4_nextToken_X4_readNumber rfl rfl rfl hd_X4_readNumber ⟨Nat.le_of_ble_eq_true rfl, Nat.le_of_ble_eq_true rfl⟩) KK.calling (fun U _ hW => hK.warm hW) hK.1 hP hD [0, 1] [] [0, 1] rfl rfl 0 4 rfl rfl rfl rfl hl.1 rfl (lv_room (Nat.le_of_ble_eq_true rfl)) dX4_nextToken_93) hP hD hS hA [0, 1] [] [0, 1] rfl rfl rfl rfl (fun H locs hP hD hS => ?_)
          refine lv_goto (tgt := 126) hx hb dX4_nextToken_96 (by decide) ?_
          exact hb126 (v_faulty) (v_faultPlace) (m_89) (y1) (m_90) (m_91) H locs ls hP hD hS (lv_sub hl [0] rfl) h
      · have h := ifn c_83 h
        refine lv_aload_n hx hb dX4_nextToken_73 rfl (lv_at hl 0 rfl) ?_
        obtain ⟨m_94, m_95, hc_96, h⟩ := bn2_s h
        refine call_v (ws1 := [(a, .inr (4, [.ref a_bytes, .int (v_length), .int (v_faulty), .int (v_faultPlace), .int (m_94), .int (y1), .int (m_95), .int ((0 : Int32)), .ref a_operands])), (a_bytes, .inl (cy 0, 320, .inl (f_bytes)))]) (wr := []) (run_V ⟨hx, hb, hml, hown, hts⟩ ((c_X4_readName l D cy a a_bytes a_operands (v_length) (v_faulty) (v_faultPlace) (v_tokenKind) (y1) (y1) ((0 : Int32)) (f_bytes) m_94 m_95 hc_96) H.size) (cwV 0 hts gX4_nextToken_X4_readName rfl rfl rfl hd_X4_readName ⟨Nat.le_of_ble_eq_true rfl, Nat.le_of_ble_eq_true rfl⟩) KK.calling (fun U _ hW => hK.warm hW) hK.1 hP hD [0, 1] [] [0, 1] rfl rfl 0 4 rfl rfl rfl rfl hl.1 rfl (lv_room (Nat.le_of_ble_eq_true rfl)) dX4_nextToken_74) hP hD hS hA [0, 1] [] [0, 1] rfl rfl rfl rfl (fun H locs hP hD hS => ?_)
        refine lv_goto (tgt := 126) hx hb dX4_nextToken_77 (by decide) ?_
        exact hb126 (v_faulty) (v_faultPlace) (m_94) (y1) (m_95) ((0 : Int32)) H locs ls hP hD hS (lv_sub hl [0] rfl) h
    · have h := ifn c_80 h
      refine lv_aload_n hx hb dX4_nextToken_53 rfl (lv_at hl 0 rfl) ?_
      refine lv_iconst (v := (0 : Int32)) hx hb dX4_nextToken_54 (by decide) ?_
      refine va_put (D := D) (ci := 4) (v := .int ((0 : Int32))) (ty := .int) (C := RX4) (T := TX4) (N := 9) hx hb hts hinX4 tyX4 tyX4_ok nmX4 hown hK.1 hP hD hS 0 rfl rfl 4 (by decide) (hts (.fieldLink RX4 25 "FrameWalks$Tape" "tokenKind" "I") (List.mem_of_getElem? (i := 6) rfl)) (fun _ h9 => h9) rfl (by decide +kernel) rfl rfl (Nat.le_of_ble_eq_true rfl) dX4_nextToken_55 (fun H locs hP hD hS => ?_)
      have hP : va_P D vwCl [(a, .inr (4, [.ref a_bytes, .int (v_length), .int (v_faulty), .int (v_faultPlace), .int ((0 : Int32)), .int (y1), .int (y1), .int ((0 : Int32)), .ref a_operands])), (a_bytes, .inl (cy 0, 320, .inl (f_bytes)))] H := hP
      have hD : va_D A [(a, .inr (4, [.ref a_bytes, .int (v_length), .int (v_faulty), .int (v_faultPlace), .int ((0 : Int32)), .int (y1), .int (y1), .int ((0 : Int32)), .ref a_operands])), (a_bytes, .inl (cy 0, 320, .inl (f_bytes)))] := hD
      refine lv_goto (tgt := 126) hx hb dX4_nextToken_58 (by decide) ?_
      exact hb126 (v_faulty) (v_faultPlace) ((0 : Int32)) (y1) (y1) ((0 : Int32)) H locs ls hP hD hS (lv_sub hl [0] rfl) h
  have hL5 : ∀ (n5 : Nat) (y1 : Int32) (v_faulty : Int32) (v_faultPlace : Int32) (v_tokenKind : Int32) (v_tokenFrom : Int32) (v_tokenTo : Int32) (v_tokenNumber : Int32) (H : Heap) (locs : List Loc) (ls : Array Slot), va_P D vwCl [(a, .inr (4, [.ref a_bytes, .int (v_length), .int (v_faulty), .int (v_faultPlace), .int (v_tokenKind), .int (v_tokenFrom), .int (v_tokenTo), .int (v_tokenNumber), .ref a_operands])), (a_bytes, .inl (cy 0, 320, .inl (f_bytes)))] H → va_D A [(a, .inr (4, [.ref a_bytes, .int (v_length), .int (v_faulty), .int (v_faultPlace), .int (v_tokenKind), .int (v_tokenFrom), .int (v_tokenTo), .int (v_tokenNumber), .ref a_operands])), (a_bytes, .inl (cy 0, 320, .inl (f_bytes)))] → va_S A s.heap H locs → lv_has ls 2 [(0, .ref a), (1, .int (y1))] → f_X4_nextToken_L5 v_length f_bytes  n5 y1 v_faulty v_faultPlace v_tokenKind v_tokenFrom v_tokenTo v_tokenNumber = some (z_v_faulty, z_v_faultPlace, z_v_tokenKind, z_v_tokenFrom, z_v_tokenTo, z_v_tokenNumber) → W p l e ({ frames := 2, cells := 0, slots := 0, locals := 40 } : Room) s m [.ref a].toArray below meth c H locs 0 0 (MQ below (Qv D A [(a, .inr (4, [.ref a_bytes, .int (v_length), .int (z_v_faulty), .int (z_v_faultPlace), .int (z_v_tokenKind), .int (z_v_tokenFrom), .int (z_v_tokenTo), .int (z_v_tokenNumber), .ref a_operands])), (a_bytes, .inl (cy 0, 320, .inl (f_bytes)))]) [.ref a].toArray s 0 0 A) (F0 m 5 ls []) := by
    intro n5
    induction n5 with
    | zero =>
      intro y1 v_faulty v_faultPlace v_tokenKind v_tokenFrom v_tokenTo v_tokenNumber H locs ls hP hD hS hl h
      cases (id h : (none : Option (Int32 × Int32 × Int32 × Int32 × Int32 × Int32)) = some _)
    | succ n5 ih5 =>
      intro y1 v_faulty v_faultPlace v_tokenKind v_tokenFrom v_tokenTo v_tokenNumber H locs ls hP hD hS hl h
      rw [f_X4_nextToken_L5] at h
      refine lv_iload_n hx hb dX4_nextToken_5 rfl (lv_at hl 1 rfl) ?_
      refine lv_aload_n hx hb dX4_nextToken_6 rfl (lv_at hl 0 rfl) ?_
      refine va_get (D := D) (ci := 4) (v := .int (v_length)) (C := RX4) (T := TX4) (N := 9) hx hb hts hinX4 hown hK.1 hP 0 rfl rfl 1 (by decide) (hts (.fieldLink RX4 15 "FrameWalks$Tape" "length" "I") (List.mem_of_getElem? (i := 2) rfl)) (fun _ h9 => h9) rfl dX4_nextToken_7 ?_
      refine lv_icmp_ge (tgt := 30) hx hb dX4_nextToken_10 (by decide) (fun c_98 => ?_) (fun c_98 => ?_)
      · have h := ift c_98 h
        exact hb30 (y1) (v_faulty) (v_faultPlace) (v_tokenKind) (v_tokenFrom) (v_tokenTo) (v_tokenNumber) H locs ls hP hD hS (lv_sub hl [0, 1] rfl) h
      · have h := ifn c_98 h
        refine lv_aload_n hx hb dX4_nextToken_13 rfl (lv_at hl 0 rfl) ?_
        refine va_get (D := D) (ci := 4) (v := .ref a_bytes) (C := RX4) (T := TX4) (N := 9) hx hb hts hinX4 hown hK.1 hP 0 rfl rfl 0 (by decide) (hts (.fieldLink RX4 9 "FrameWalks$Tape" "bytes" "[I") (List.mem_of_getElem? (i := 3) rfl)) (fun _ h9 => h9) rfl dX4_nextToken_14 ?_
        refine lv_iload_n hx hb dX4_nextToken_17 rfl (lv_at hl 1 rfl) ?_
        obtain ⟨i_99, h⟩ := cki_s h
        refine va_iald hx hb hK.1 hP 1 0 rfl rfl i_99 dX4_nextToken_18 ?_
        refine lv_bipush (v := (32 : Int32)) hx hb dX4_nextToken_19 (by decide) ?_
        refine lv_icmp_ne (tgt := 30) hx hb dX4_nextToken_21 (by decide) (fun c_100 => ?_) (fun c_100 => ?_)
        · have h := ifn c_100 h
          exact hb30 (y1) (v_faulty) (v_faultPlace) (v_tokenKind) (v_tokenFrom) (v_tokenTo) (v_tokenNumber) H locs ls hP hD hS (lv_sub hl [0, 1] rfl) h
        · have h := ift c_100 h
          refine lv_iinc (v := y1 + (1 : Int32)) (lv' := [(1, .int (y1 + (1 : Int32))), (0, .ref a)]) hx hb dX4_nextToken_24 hl (k := 1) rfl rfl (by decide) rfl (fun ls hl => ?_)
          refine lv_goto (tgt := 5) hx hb dX4_nextToken_27 (by decide) ?_
          exact ih5 (y1 + (1 : Int32)) (v_faulty) (v_faultPlace) (v_tokenKind) (v_tokenFrom) (v_tokenTo) (v_tokenNumber) H locs ls hP hD hS (lv_sub hl [1, 0] rfl) h
  have main : ∀ (H : Heap) (locs : List Loc) (ls : Array Slot), va_P D vwCl [(a, .inr (4, [.ref a_bytes, .int (v_length), .int (v_faulty), .int (v_faultPlace), .int (v_tokenKind), .int (v_tokenFrom), .int (v_tokenTo), .int (v_tokenNumber), .ref a_operands])), (a_bytes, .inl (cy 0, 320, .inl (f_bytes)))] H → va_D A [(a, .inr (4, [.ref a_bytes, .int (v_length), .int (v_faulty), .int (v_faultPlace), .int (v_tokenKind), .int (v_tokenFrom), .int (v_tokenTo), .int (v_tokenNumber), .ref a_operands])), (a_bytes, .inl (cy 0, 320, .inl (f_bytes)))] → va_S A s.heap H locs → lv_has ls 2 [(0, .ref a)] → f_X4_nextToken v_length v_faulty v_faultPlace v_tokenKind v_tokenFrom v_tokenTo v_tokenNumber f_bytes = some (z_v_faulty, z_v_faultPlace, z_v_tokenKind, z_v_tokenFrom, z_v_tokenTo, z_v_tokenNumber) → W p l e ({ frames := 2, cells := 0, slots := 0, locals := 40 } : Room) s m [.ref a].toArray below meth c H locs 0 0 (MQ below (Qv D A [(a, .inr (4, [.ref a_bytes, .int (v_length), .int (z_v_faulty), .int (z_v_faultPlace), .int (z_v_tokenKind), .int (z_v_tokenFrom), .int (z_v_tokenTo), .int (z_v_tokenNumber), .ref a_operands])), (a_bytes, .inl (cy 0, 320, .inl (f_bytes)))]) [.ref a].toArray s 0 0 A) (F0 m 0 ls []) := by
    intro H locs ls hP hD hS hl h
    unfold f_X4_nextToken at h
    refine lv_aload_n hx hb dX4_nextToken_0 rfl (lv_at hl 0 rfl) ?_
    refine va_get (D := D) (ci := 4) (v := .int (v_tokenTo)) (C := RX4) (T := TX4) (N := 9) hx hb hts hinX4 hown hK.1 hP 0 rfl rfl 6 (by decide) (hts (.fieldLink RX4 31 "FrameWalks$Tape" "tokenTo" "I") (List.mem_of_getElem? (i := 1) rfl)) (fun _ h9 => h9) rfl dX4_nextToken_1 ?_
    refine lv_istore_n (lv' := [(1, .int (v_tokenTo)), (0, .ref a)]) hx hb dX4_nextToken_4 rfl hl (by decide) rfl (fun ls hl => ?_)
    exact hL5 FUEL (v_tokenTo) (v_faulty) (v_faultPlace) (v_tokenKind) (v_tokenFrom) (v_tokenTo) (v_tokenNumber) H locs ls hP hD hS (lv_sub hl [1, 0] rfl) h
  exact main s.heap [] ls hP hD va_S.rf hl h
theorem hd_X4_tableOf : yX4_tableOf.cls = RX4 ∧ yX4_tableOf.cls ≠ "java/lang/invoke/MethodHandle" ∧ yX4_tableOf.cls ≠ "java/lang/invoke/VarHandle" ∧ (parseMethodDescriptor yX4_tableOf.desc).map (fun d => d.parameters.length) = some 2 := by decide +kernel
def f_X4_tableOf (x1 : Int32) (ap0 ap0_routines ap0_ops ap0_landings ap0_calls ap0_registers ap0_words : Nat) : Option (Nat) := (if x1 = (8 : Int32) then (some ap0_routines) else (if x1 = (9 : Int32) then (some ap0_routines) else (if x1 = (10 : Int32) then (some ap0_landings) else (if x1 = (11 : Int32) then (some ap0_calls) else (some ap0_ops)))))
set_option maxHeartbeats 4000000 in
set_option maxRecDepth 100000 in
theorem c_X4_tableOf (l : Launch) (D : va_G) (cy : Nat → ClassId) (ap0 ap0_routines ap0_ops ap0_landings ap0_calls ap0_registers ap0_words : Nat) (x1 : Int32) (res : Nat) (h : f_X4_tableOf x1 ap0 ap0_routines ap0_ops ap0_landings ap0_calls ap0_registers ap0_words = some res) : Mr l yX4_tableOf wsX4_tableOf ({ frames := 0, cells := 0, slots := 0, locals := 0 } : Room) (KK D cy) D [.ref ap0, .int (x1)] [(ap0, .inr (6, [.ref ap0_routines, .ref ap0_ops, .ref ap0_landings, .ref ap0_calls, .ref ap0_registers, .ref ap0_words]))] [(ap0, .inr (6, [.ref ap0_routines, .ref ap0_ops, .ref ap0_landings, .ref ap0_calls, .ref ap0_registers, .ref ap0_words]))] res := by
  intro sz
  refine Met.mk0 (cc := cX4_tableOf) (maxL := 2) (ret := (some (.object "FrameWalks$Table"))) (Qc := fun A => Qr D A [(ap0, .inr (6, [.ref ap0_routines, .ref ap0_ops, .ref ap0_landings, .ref ap0_calls, .ref ap0_registers, .ref ap0_words]))] res) (by decide) rfl (Nat.le_of_ble_eq_true rfl) ?_
  intro p e s m below meth c A ls hx hb hml hown hts hr hlocks hK hP hD hA hl
  have hown : s.vm.findClass RX4 = some m.cls := hown
  have hl : lv_has ls 2 [(0, .ref ap0), (1, .int (x1))] := hl
  have hinX6 : ∀ w ∈ u_ws RX6 TX6 6, w ∈ wsX4_tableOf := (fun w h => List.mem_cons_of_mem _ (List.mem_append_right _ h))
  have main : ∀ (H : Heap) (locs : List Loc) (ls : Array Slot), va_P D vwCl [(ap0, .inr (6, [.ref ap0_routines, .ref ap0_ops, .ref ap0_landings, .ref ap0_calls, .ref ap0_registers, .ref ap0_words]))] H → va_D A [(ap0, .inr (6, [.ref ap0_routines, .ref ap0_ops, .ref ap0_landings, .ref ap0_calls, .ref ap0_registers, .ref ap0_words]))] → va_S A s.heap H locs → lv_has ls 2 [(0, .ref ap0), (1, .int (x1))] → f_X4_tableOf x1 ap0 ap0_routines ap0_ops ap0_landings ap0_calls ap0_registers ap0_words = some res → W p l e ({ frames := 0, cells := 0, slots := 0, locals := 0 } : Room) s m [.ref ap0, .int (x1)].toArray below meth c H locs 0 0 (MQ below (Qr D A [(ap0, .inr (6, [.ref ap0_routines, .ref ap0_ops, .ref ap0_landings, .ref ap0_calls, .ref ap0_registers, .ref ap0_words]))] res) [.ref ap0, .int (x1)].toArray s 0 0 A) (F0 m 0 ls []) := by
    intro H locs ls hP hD hS hl h
    unfold f_X4_tableOf at h
    refine lv_iload_n hx hb dX4_tableOf_0 rfl (lv_at hl 1 rfl) ?_
    by_cases c_13 : x1 = (8 : Int32)
    · have h := ift c_13 h
      refine lv_tableIn (tgt := 32) hx hb dX4_tableOf_1 (by rw [c_13]; decide) (by rw [c_13]; decide) (by rw [c_13]; rfl) (by decide) ?_
      refine lv_aload_n hx hb dX4_tableOf_32 rfl (lv_at hl 0 rfl) ?_
      refine va_getN (D := D) (ci := 6) (v := .ref ap0_routines) (C := RX6) (T := TX6) (N := 6) hx hb hts hinX6 hown hK.1 hP 0 rfl rfl 0 (by decide) ((hK.2.1 _ (List.mem_of_getElem? (i := 7) rfl)).use rfl) (fun _ h9 => h9) rfl dX4_tableOf_33 ?_
      cases h
      exact Mr.ret hx hb hr (Or.inl ⟨_, rfl⟩) hlocks hP hD hS dX4_tableOf_36
    have h := ifn c_13 h
    by_cases c_14 : x1 = (9 : Int32)
    · have h := ift c_14 h
      refine lv_tableIn (tgt := 32) hx hb dX4_tableOf_1 (by rw [c_14]; decide) (by rw [c_14]; decide) (by rw [c_14]; rfl) (by decide) ?_
      refine lv_aload_n hx hb dX4_tableOf_32 rfl (lv_at hl 0 rfl) ?_
      refine va_getN (D := D) (ci := 6) (v := .ref ap0_routines) (C := RX6) (T := TX6) (N := 6) hx hb hts hinX6 hown hK.1 hP 0 rfl rfl 0 (by decide) ((hK.2.1 _ (List.mem_of_getElem? (i := 7) rfl)).use rfl) (fun _ h9 => h9) rfl dX4_tableOf_33 ?_
      cases h
      exact Mr.ret hx hb hr (Or.inl ⟨_, rfl⟩) hlocks hP hD hS dX4_tableOf_36
    have h := ifn c_14 h
    by_cases c_15 : x1 = (10 : Int32)
    · have h := ift c_15 h
      refine lv_tableIn (tgt := 37) hx hb dX4_tableOf_1 (by rw [c_15]; decide) (by rw [c_15]; decide) (by rw [c_15]; rfl) (by decide) ?_
      refine lv_aload_n hx hb dX4_tableOf_37 rfl (lv_at hl 0 rfl) ?_
      refine va_getN (D := D) (ci := 6) (v := .ref ap0_landings) (C := RX6) (T := TX6) (N := 6) hx hb hts hinX6 hown hK.1 hP 0 rfl rfl 2 (by decide) ((hK.2.1 _ (List.mem_of_getElem? (i := 12) rfl)).use rfl) (fun _ h9 => h9) rfl dX4_tableOf_38 ?_
      cases h
      exact Mr.ret hx hb hr (Or.inl ⟨_, rfl⟩) hlocks hP hD hS dX4_tableOf_41
    have h := ifn c_15 h
    by_cases c_16 : x1 = (11 : Int32)
    · have h := ift c_16 h
      refine lv_tableIn (tgt := 42) hx hb dX4_tableOf_1 (by rw [c_16]; decide) (by rw [c_16]; decide) (by rw [c_16]; rfl) (by decide) ?_
      refine lv_aload_n hx hb dX4_tableOf_42 rfl (lv_at hl 0 rfl) ?_
      refine va_getN (D := D) (ci := 6) (v := .ref ap0_calls) (C := RX6) (T := TX6) (N := 6) hx hb hts hinX6 hown hK.1 hP 0 rfl rfl 3 (by decide) ((hK.2.1 _ (List.mem_of_getElem? (i := 14) rfl)).use rfl) (fun _ h9 => h9) rfl dX4_tableOf_43 ?_
      cases h
      exact Mr.ret hx hb hr (Or.inl ⟨_, rfl⟩) hlocks hP hD hS dX4_tableOf_46
    have h := ifn c_16 h
    have hout : (x1).toInt < 8 ∨ 11 < (x1).toInt := by
      have ec_13 := lv_neT (a := 8) c_13 (by decide)
      have ec_14 := lv_neT (a := 9) c_14 (by decide)
      have ec_15 := lv_neT (a := 10) c_15 (by decide)
      have ec_16 := lv_neT (a := 11) c_16 (by decide)
      omega
    refine lv_tableOut (tgt := 47) hx hb dX4_tableOf_1 hout (by decide) ?_
    refine lv_aload_n hx hb dX4_tableOf_47 rfl (lv_at hl 0 rfl) ?_
    refine va_getN (D := D) (ci := 6) (v := .ref ap0_ops) (C := RX6) (T := TX6) (N := 6) hx hb hts hinX6 hown hK.1 hP 0 rfl rfl 1 (by decide) ((hK.2.1 _ (List.mem_of_getElem? (i := 10) rfl)).use rfl) (fun _ h9 => h9) rfl dX4_tableOf_48 ?_
    cases h
    exact Mr.ret hx hb hr (Or.inl ⟨_, rfl⟩) hlocks hP hD hS dX4_tableOf_51
  exact main s.heap [] ls hP hD va_S.rf hl h
theorem hd_X4_refuseUnless : yX4_refuseUnless.cls = RX4 ∧ yX4_refuseUnless.cls ≠ "java/lang/invoke/MethodHandle" ∧ yX4_refuseUnless.cls ≠ "java/lang/invoke/VarHandle" ∧ (parseMethodDescriptor yX4_refuseUnless.desc).map (fun d => d.parameters.length) = some 1 := by decide +kernel
def f_X4_refuseUnless (x1 : Int32) (v_faulty : Int32) (v_faultPlace : Int32) (v_tokenFrom : Int32) : Option (Int32 × Int32) := (if x1 = 0 then (bn2 (f_X4_refuse ((2 : Int32)) (v_tokenFrom) (v_faulty) (v_faultPlace)) (fun m_14 m_15 => (some (m_14, m_15)))) else (some (v_faulty, v_faultPlace)))
set_option maxHeartbeats 4000000 in
set_option maxRecDepth 100000 in
theorem c_X4_refuseUnless (l : Launch) (D : va_G) (cy : Nat → ClassId) (a a_bytes a_operands : Nat) (v_length : Int32) (v_faulty : Int32) (v_faultPlace : Int32) (v_tokenKind : Int32) (v_tokenFrom : Int32) (v_tokenTo : Int32) (v_tokenNumber : Int32) (x1 : Int32) (z_v_faulty : Int32) (z_v_faultPlace : Int32) (h : f_X4_refuseUnless x1 v_faulty v_faultPlace v_tokenFrom = some (z_v_faulty, z_v_faultPlace)) : Mv l yX4_refuseUnless wsX4_refuseUnless ({ frames := 1, cells := 0, slots := 0, locals := 22 } : Room) (KK D cy) D [.ref a, .int (x1)] [(a, .inr (4, [.ref a_bytes, .int (v_length), .int (v_faulty), .int (v_faultPlace), .int (v_tokenKind), .int (v_tokenFrom), .int (v_tokenTo), .int (v_tokenNumber), .ref a_operands]))] [(a, .inr (4, [.ref a_bytes, .int (v_length), .int (z_v_faulty), .int (z_v_faultPlace), .int (v_tokenKind), .int (v_tokenFrom), .int (v_tokenTo), .int (v_tokenNumber), .ref a_operands]))] := by
  intro sz
  refine Met.mk0 (cc := cX4_refuseUnless) (maxL := 2) (ret := none) (Qc := fun A => Qv D A [(a, .inr (4, [.ref a_bytes, .int (v_length), .int (z_v_faulty), .int (z_v_faultPlace), .int (v_tokenKind), .int (v_tokenFrom), .int (v_tokenTo), .int (v_tokenNumber), .ref a_operands]))]) (by decide) rfl (Nat.le_of_ble_eq_true rfl) ?_
  intro p e s m below meth c A ls hx hb hml hown hts hr hlocks hK hP hD hA hl
  have hown : s.vm.findClass RX4 = some m.cls := hown
  have hl : lv_has ls 2 [(0, .ref a), (1, .int (x1))] := hl
  have hinX4 : ∀ w ∈ u_ws RX4 TX4 9, w ∈ wsX4_refuseUnless := (fun w h => List.mem_cons_of_mem _ (List.mem_append_right _ h))
  have main : ∀ (H : Heap) (locs : List Loc) (ls : Array Slot), va_P D vwCl [(a, .inr (4, [.ref a_bytes, .int (v_length), .int (v_faulty), .int (v_faultPlace), .int (v_tokenKind), .int (v_tokenFrom), .int (v_tokenTo), .int (v_tokenNumber), .ref a_operands]))] H → va_D A [(a, .inr (4, [.ref a_bytes, .int (v_length), .int (v_faulty), .int (v_faultPlace), .int (v_tokenKind), .int (v_tokenFrom), .int (v_tokenTo), .int (v_tokenNumber), .ref a_operands]))] → va_S A s.heap H locs → lv_has ls 2 [(0, .ref a), (1, .int (x1))] → f_X4_refuseUnless x1 v_faulty v_faultPlace v_tokenFrom = some (z_v_faulty, z_v_faultPlace) → W p l e ({ frames := 1, cells := 0, slots := 0, locals := 22 } : Room) s m [.ref a, .int (x1)].toArray below meth c H locs 0 0 (MQ below (Qv D A [(a, .inr (4, [.ref a_bytes, .int (v_length), .int (z_v_faulty), .int (z_v_faultPlace), .int (v_tokenKind), .int (v_tokenFrom), .int (v_tokenTo), .int (v_tokenNumber), .ref a_operands]))]) [.ref a, .int (x1)].toArray s 0 0 A) (F0 m 0 ls []) := by
    intro H locs ls hP hD hS hl h
    unfold f_X4_refuseUnless at h
    refine lv_iload_n hx hb dX4_refuseUnless_0 rfl (lv_at hl 1 rfl) ?_
    refine lv_if_ne (tgt := 13) hx hb dX4_refuseUnless_1 (by decide) (fun c_13 => ?_) (fun c_13 => ?_)
    · have h := ifn c_13 h
      obtain ⟨e0, e1⟩ := tp2_s h
      exact Mv.ret' hx hb hr hlocks (by rw [← e0, ← e1]) hP hD hS dX4_refuseUnless_13
    · have h := ift c_13 h
      refine lv_aload_n hx hb dX4_refuseUnless_4 rfl (lv_at hl 0 rfl) ?_
      refine lv_iconst (v := (2 : Int32)) hx hb dX4_refuseUnless_5 (by decide) ?_
      refine lv_aload_n hx hb dX4_refuseUnless_6 rfl (lv_at hl 0 rfl) ?_
      refine va_get (D := D) (ci := 4) (v := .int (v_tokenFrom)) (C := RX4) (T := TX4) (N := 9) hx hb hts hinX4 hown hK.1 hP 0 rfl rfl 5 (by decide) (hts (.fieldLink RX4 28 "FrameWalks$Tape" "tokenFrom" "I") (List.mem_of_getElem? (i := 1) rfl)) (fun _ h9 => h9) rfl dX4_refuseUnless_7 ?_
      obtain ⟨m_14, m_15, hc_16, h⟩ := bn2_s h
      refine call_v (ws1 := [(a, .inr (4, [.ref a_bytes, .int (v_length), .int (m_14), .int (m_15), .int (v_tokenKind), .int (v_tokenFrom), .int (v_tokenTo), .int (v_tokenNumber), .ref a_operands]))]) (wr := []) (run_V ⟨hx, hb, hml, hown, hts⟩ ((c_X4_refuse l D cy a a_bytes a_operands (v_length) (v_faulty) (v_faultPlace) (v_tokenKind) (v_tokenFrom) (v_tokenTo) (v_tokenNumber) ((2 : Int32)) (v_tokenFrom) m_14 m_15 hc_16) H.size) (cwV 2 hts gX4_refuseUnless_X4_refuse rfl rfl rfl hd_X4_refuse ⟨Nat.le_of_ble_eq_true rfl, Nat.le_of_ble_eq_true rfl⟩) KK.calling (fun U _ hW => hK.warm hW) hK.1 hP hD [0] [] [0] rfl rfl 0 4 rfl rfl rfl rfl hl.1 rfl (lv_room (Nat.le_of_ble_eq_true rfl)) dX4_refuseUnless_10) hP hD hS hA [0] [] [0] rfl rfl rfl rfl (fun H locs hP hD hS => ?_)
      obtain ⟨e0, e1⟩ := tp2_s h
      exact Mv.ret' hx hb hr hlocks (by rw [← e0, ← e1]) hP hD hS dX4_refuseUnless_13
  exact main s.heap [] ls hP hD va_S.rf hl h
theorem hd_X4_refuseTooMany : yX4_refuseTooMany.cls = RX4 ∧ yX4_refuseTooMany.cls ≠ "java/lang/invoke/MethodHandle" ∧ yX4_refuseTooMany.cls ≠ "java/lang/invoke/VarHandle" ∧ (parseMethodDescriptor yX4_refuseTooMany.desc).map (fun d => d.parameters.length) = some 2 := by decide +kernel
def f_X4_refuseTooMany_b49 (v_tokenFrom : Int32) (vp1_routines_width : Int32) (vp1_routines_size : Int32) (vp1_ops_width : Int32) (vp1_ops_size : Int32) (vp1_landings_width : Int32) (vp1_landings_size : Int32) (vp1_calls_width : Int32) (vp1_calls_size : Int32) (v_faulty : Int32) (v_faultPlace : Int32) : Option (Int32 × Int32) := (bn2 (f_X4_refuse ((5 : Int32)) (v_tokenFrom) (v_faulty) (v_faultPlace)) (fun m_85 m_86 => (some (m_85, m_86))))
def f_X4_refuseTooMany_b33 (v_tokenFrom : Int32) (vp1_routines_width : Int32) (vp1_routines_size : Int32) (vp1_ops_width : Int32) (vp1_ops_size : Int32) (vp1_landings_width : Int32) (vp1_landings_size : Int32) (vp1_calls_width : Int32) (vp1_calls_size : Int32) (y2 : Int32) (k0 : Int32) (v_faulty : Int32) (v_faultPlace : Int32) : Option (Int32 × Int32) := (if k0 = 0 then (if y2 = 8 ∨ y2 = 9 then (bn1 (f_X3_isFull (vp1_routines_width) (vp1_routines_size) 24) (fun r_91 => (if r_91 = 0 then (some (v_faulty, v_faultPlace)) else (f_X4_refuseTooMany_b49 v_tokenFrom vp1_routines_width vp1_routines_size vp1_ops_width vp1_ops_size vp1_landings_width vp1_landings_size vp1_calls_width vp1_calls_size  (v_faulty) (v_faultPlace))))) else (if y2 = 10 then (bn1 (f_X3_isFull (vp1_landings_width) (vp1_landings_size) 80) (fun r_96 => (if r_96 = 0 then (some (v_faulty, v_faultPlace)) else (f_X4_refuseTooMany_b49 v_tokenFrom vp1_routines_width vp1_routines_size vp1_ops_width vp1_ops_size vp1_landings_width vp1_landings_size vp1_calls_width vp1_calls_size  (v_faulty) (v_faultPlace))))) else (if y2 = 11 then (bn1 (f_X3_isFull (vp1_calls_width) (vp1_calls_size) 32) (fun r_101 => (if r_101 = 0 then (some (v_faulty, v_faultPlace)) else (f_X4_refuseTooMany_b49 v_tokenFrom vp1_routines_width vp1_routines_size vp1_ops_width vp1_ops_size vp1_landings_width vp1_landings_size vp1_calls_width vp1_calls_size  (v_faulty) (v_faultPlace))))) else (bn1 (f_X3_isFull (vp1_ops_width) (vp1_ops_size) 160) (fun r_106 => (if r_106 = 0 then (some (v_faulty, v_faultPlace)) else (f_X4_refuseTooMany_b49 v_tokenFrom vp1_routines_width vp1_routines_size vp1_ops_width vp1_ops_size vp1_landings_width vp1_landings_size vp1_calls_width vp1_calls_size  (v_faulty) (v_faultPlace)))))))) else (f_X4_refuseTooMany_b49 v_tokenFrom vp1_routines_width vp1_routines_size vp1_ops_width vp1_ops_size vp1_landings_width vp1_landings_size vp1_calls_width vp1_calls_size  (v_faulty) (v_faultPlace)))
def f_X4_refuseTooMany_b32 (v_tokenFrom : Int32) (vp1_routines_width : Int32) (vp1_routines_size : Int32) (vp1_ops_width : Int32) (vp1_ops_size : Int32) (vp1_landings_width : Int32) (vp1_landings_size : Int32) (vp1_calls_width : Int32) (vp1_calls_size : Int32) (y2 : Int32) (v_faulty : Int32) (v_faultPlace : Int32) : Option (Int32 × Int32) := (f_X4_refuseTooMany_b33 v_tokenFrom vp1_routines_width vp1_routines_size vp1_ops_width vp1_ops_size vp1_landings_width vp1_landings_size vp1_calls_width vp1_calls_size  (y2) ((0 : Int32)) (v_faulty) (v_faultPlace))
def f_X4_refuseTooMany (x2 : Int32) (v_faulty : Int32) (v_faultPlace : Int32) (v_tokenFrom : Int32) (vp1_routines_width : Int32) (vp1_routines_size : Int32) (vp1_ops_width : Int32) (vp1_ops_size : Int32) (vp1_landings_width : Int32) (vp1_landings_size : Int32) (vp1_calls_width : Int32) (vp1_calls_size : Int32) : Option (Int32 × Int32) := (if x2 = (8 : Int32) then (f_X4_refuseTooMany_b32 v_tokenFrom vp1_routines_width vp1_routines_size vp1_ops_width vp1_ops_size vp1_landings_width vp1_landings_size vp1_calls_width vp1_calls_size  (x2) (v_faulty) (v_faultPlace)) else (if x2 = (9 : Int32) then (f_X4_refuseTooMany_b32 v_tokenFrom vp1_routines_width vp1_routines_size vp1_ops_width vp1_ops_size vp1_landings_width vp1_landings_size vp1_calls_width vp1_calls_size  (x2) (v_faulty) (v_faultPlace)) else (if x2 = (11 : Int32) then (f_X4_refuseTooMany_b32 v_tokenFrom vp1_routines_width vp1_routines_size vp1_ops_width vp1_ops_size vp1_landings_width vp1_landings_size vp1_calls_width vp1_calls_size  (x2) (v_faulty) (v_faultPlace)) else (if vp1_routines_size = 0 then (f_X4_refuseTooMany_b33 v_tokenFrom vp1_routines_width vp1_routines_size vp1_ops_width vp1_ops_size vp1_landings_width vp1_landings_size vp1_calls_width vp1_calls_size  (x2) ((1 : Int32)) (v_faulty) (v_faultPlace)) else (f_X4_refuseTooMany_b32 v_tokenFrom vp1_routines_width vp1_routines_size vp1_ops_width vp1_ops_size vp1_landings_width vp1_landings_size vp1_calls_width vp1_calls_size  (x2) (v_faulty) (v_faultPlace))))))
set_option maxHeartbeats 4000000 in
set_option maxRecDepth 100000 in
theorem c_X4_refuseTooMany (l : Launch) (D : va_G) (cy : Nat → ClassId) (a a_bytes a_operands ap1 ap1_routines ap1_ops ap1_landings ap1_calls ap1_registers ap1_words ap1_routines_cells ap1_ops_cells ap1_landings_cells ap1_calls_cells : Nat) (v_length : Int32) (v_faulty : Int32) (v_faultPlace : Int32) (v_tokenKind : Int32) (v_tokenFrom : Int32) (v_tokenTo : Int32) (v_tokenNumber : Int32) (vp1_routines_width : Int32) (vp1_routines_size : Int32) (fp1_routines_cells : Nat → Int32) (vp1_ops_width : Int32) (vp1_ops_size : Int32) (fp1_ops_cells : Nat → Int32) (vp1_landings_width : Int32) (vp1_landings_size : Int32) (fp1_landings_cells : Nat → Int32) (vp1_calls_width : Int32) (vp1_calls_size : Int32) (fp1_calls_cells : Nat → Int32) (x2 : Int32) (z_v_faulty : Int32) (z_v_faultPlace : Int32) (h : f_X4_refuseTooMany x2 v_faulty v_faultPlace v_tokenFrom vp1_routines_width vp1_routines_size vp1_ops_width vp1_ops_size vp1_landings_width vp1_landings_size vp1_calls_width vp1_calls_size = some (z_v_faulty, z_v_faultPlace)) : Mv l yX4_refuseTooMany wsX4_refuseTooMany ({ frames := 1, cells := 0, slots := 0, locals := 22 } : Room) (KK D cy) D [.ref a, .ref ap1, .int (x2)] [(a, .inr (4, [.ref a_bytes, .int (v_length), .int (v_faulty), .int (v_faultPlace), .int (v_tokenKind), .int (v_tokenFrom), .int (v_tokenTo), .int (v_tokenNumber), .ref a_operands])), (ap1, .inr (6, [.ref ap1_routines, .ref ap1_ops, .ref ap1_landings, .ref ap1_calls, .ref ap1_registers, .ref ap1_words])), (ap1_routines, .inr (3, [.int (vp1_routines_width), .ref ap1_routines_cells, .int (vp1_routines_size)])), (ap1_routines_cells, .inl (cy 0, 24, .inl (fp1_routines_cells))), (ap1_ops, .inr (3, [.int (vp1_ops_width), .ref ap1_ops_cells, .int (vp1_ops_size)])), (ap1_ops_cells, .inl (cy 0, 160, .inl (fp1_ops_cells))), (ap1_landings, .inr (3, [.int (vp1_landings_width), .ref ap1_landings_cells, .int (vp1_landings_size)])), (ap1_landings_cells, .inl (cy 0, 80, .inl (fp1_landings_cells))), (ap1_calls, .inr (3, [.int (vp1_calls_width), .ref ap1_calls_cells, .int (vp1_calls_size)])), (ap1_calls_cells, .inl (cy 0, 32, .inl (fp1_calls_cells)))] [(a, .inr (4, [.ref a_bytes, .int (v_length), .int (z_v_faulty), .int (z_v_faultPlace), .int (v_tokenKind), .int (v_tokenFrom), .int (v_tokenTo), .int (v_tokenNumber), .ref a_operands])), (ap1, .inr (6, [.ref ap1_routines, .ref ap1_ops, .ref ap1_landings, .ref ap1_calls, .ref ap1_registers, .ref ap1_words])), (ap1_routines, .inr (3, [.int (vp1_routines_width), .ref ap1_routines_cells, .int (vp1_routines_size)])), (ap1_routines_cells, .inl (cy 0, 24, .inl (fp1_routines_cells))), (ap1_ops, .inr (3, [.int (vp1_ops_width), .ref ap1_ops_cells, .int (vp1_ops_size)])), (ap1_ops_cells, .inl (cy 0, 160, .inl (fp1_ops_cells))), (ap1_landings, .inr (3, [.int (vp1_landings_width), .ref ap1_landings_cells, .int (vp1_landings_size)])), (ap1_landings_cells, .inl (cy 0, 80, .inl (fp1_landings_cells))), (ap1_calls, .inr (3, [.int (vp1_calls_width), .ref ap1_calls_cells, .int (vp1_calls_size)])), (ap1_calls_cells, .inl (cy 0, 32, .inl (fp1_calls_cells)))] := by
  intro sz
  refine Met.mk0 (cc := cX4_refuseTooMany) (maxL := 4) (ret := none) (Qc := fun A => Qv D A [(a, .inr (4, [.ref a_bytes, .int (v_length), .int (z_v_faulty), .int (z_v_faultPlace), .int (v_tokenKind), .int (v_tokenFrom), .int (v_tokenTo), .int (v_tokenNumber), .ref a_operands])), (ap1, .inr (6, [.ref ap1_routines, .ref ap1_ops, .ref ap1_landings, .ref ap1_calls, .ref ap1_registers, .ref ap1_words])), (ap1_routines, .inr (3, [.int (vp1_routines_width), .ref ap1_routines_cells, .int (vp1_routines_size)])), (ap1_routines_cells, .inl (cy 0, 24, .inl (fp1_routines_cells))), (ap1_ops, .inr (3, [.int (vp1_ops_width), .ref ap1_ops_cells, .int (vp1_ops_size)])), (ap1_ops_cells, .inl (cy 0, 160, .inl (fp1_ops_cells))), (ap1_landings, .inr (3, [.int (vp1_landings_width), .ref ap1_landings_cells, .int (vp1_landings_size)])), (ap1_landings_cells, .inl (cy 0, 80, .inl (fp1_landings_cells))), (ap1_calls, .inr (3, [.int (vp1_calls_width), .ref ap1_calls_cells, .int (vp1_calls_size)])), (ap1_calls_cells, .inl (cy 0, 32, .inl (fp1_calls_cells)))]) (by decide) rfl (Nat.le_of_ble_eq_true rfl) ?_
  intro p e s m below meth c A ls hx hb hml hown hts hr hlocks hK hP hD hA hl
  have hown : s.vm.findClass RX4 = some m.cls := hown
  have hl : lv_has ls 4 [(0, .ref a), (1, .ref ap1), (2, .int (x2))] := hl
  have hinX6 : ∀ w ∈ u_ws RX6 TX6 6, w ∈ wsX4_refuseTooMany := (fun w h => List.mem_cons_of_mem _ (List.mem_append_left _ (List.mem_append_left _ (List.mem_append_right _ h))))
  have hinX3 : ∀ w ∈ u_ws RX3 TX3 3, w ∈ wsX4_refuseTooMany := (fun w h => List.mem_cons_of_mem _ (List.mem_append_left _ (List.mem_append_right _ h)))
  have hinX4 : ∀ w ∈ u_ws RX4 TX4 9, w ∈ wsX4_refuseTooMany := (fun w h => List.mem_cons_of_mem _ (List.mem_append_right _ h))
  have hb49 : ∀ (v_faulty : Int32) (v_faultPlace : Int32) (H : Heap) (locs : List Loc) (ls : Array Slot), va_P D vwCl [(a, .inr (4, [.ref a_bytes, .int (v_length), .int (v_faulty), .int (v_faultPlace), .int (v_tokenKind), .int (v_tokenFrom), .int (v_tokenTo), .int (v_tokenNumber), .ref a_operands])), (ap1, .inr (6, [.ref ap1_routines, .ref ap1_ops, .ref ap1_landings, .ref ap1_calls, .ref ap1_registers, .ref ap1_words])), (ap1_routines, .inr (3, [.int (vp1_routines_width), .ref ap1_routines_cells, .int (vp1_routines_size)])), (ap1_routines_cells, .inl (cy 0, 24, .inl (fp1_routines_cells))), (ap1_ops, .inr (3, [.int (vp1_ops_width), .ref ap1_ops_cells, .int (vp1_ops_size)])), (ap1_ops_cells, .inl (cy 0, 160, .inl (fp1_ops_cells))), (ap1_landings, .inr (3, [.int (vp1_landings_width), .ref ap1_landings_cells, .int (vp1_landings_size)])), (ap1_landings_cells, .inl (cy 0, 80, .inl (fp1_landings_cells))), (ap1_calls, .inr (3, [.int (vp1_calls_width), .ref ap1_calls_cells, .int (vp1_calls_size)])), (ap1_calls_cells, .inl (cy 0, 32, .inl (fp1_calls_cells)))] H → va_D A [(a, .inr (4, [.ref a_bytes, .int (v_length), .int (v_faulty), .int (v_faultPlace), .int (v_tokenKind), .int (v_tokenFrom), .int (v_tokenTo), .int (v_tokenNumber), .ref a_operands])), (ap1, .inr (6, [.ref ap1_routines, .ref ap1_ops, .ref ap1_landings, .ref ap1_calls, .ref ap1_registers, .ref ap1_words])), (ap1_routines, .inr (3, [.int (vp1_routines_width), .ref ap1_routines_cells, .int (vp1_routines_size)])), (ap1_routines_cells, .inl (cy 0, 24, .inl (fp1_routines_cells))), (ap1_ops, .inr (3, [.int (vp1_ops_width), .ref ap1_ops_cells, .int (vp1_ops_size)])), (ap1_ops_cells, .inl (cy 0, 160, .inl (fp1_ops_cells))), (ap1_landings, .inr (3, [.int (vp1_landings_width), .ref ap1_landings_cells, .int (vp1_landings_size)])), (ap1_landings_cells, .inl (cy 0, 80, .inl (fp1_landings_cells))), (ap1_calls, .inr (3, [.int (vp1_calls_width), .ref ap1_calls_cells, .int (vp1_calls_size)])), (ap1_calls_cells, .inl (cy 0, 32, .inl (fp1_calls_cells)))] → va_S A s.heap H locs → lv_has ls 4 [(0, .ref a)] → f_X4_refuseTooMany_b49 v_tokenFrom vp1_routines_width vp1_routines_size vp1_ops_width vp1_ops_size vp1_landings_width vp1_landings_size vp1_calls_width vp1_calls_size  v_faulty v_faultPlace = some (z_v_faulty, z_v_faultPlace) → W p l e ({ frames := 1, cells := 0, slots := 0, locals := 22 } : Room) s m [.ref a, .ref ap1, .int (x2)].toArray below meth c H locs 0 0 (MQ below (Qv D A [(a, .inr (4, [.ref a_bytes, .int (v_length), .int (z_v_faulty), .int (z_v_faultPlace), .int (v_tokenKind), .int (v_tokenFrom), .int (v_tokenTo), .int (v_tokenNumber), .ref a_operands])), (ap1, .inr (6, [.ref ap1_routines, .ref ap1_ops, .ref ap1_landings, .ref ap1_calls, .ref ap1_registers, .ref ap1_words])), (ap1_routines, .inr (3, [.int (vp1_routines_width), .ref ap1_routines_cells, .int (vp1_routines_size)])), (ap1_routines_cells, .inl (cy 0, 24, .inl (fp1_routines_cells))), (ap1_ops, .inr (3, [.int (vp1_ops_width), .ref ap1_ops_cells, .int (vp1_ops_size)])), (ap1_ops_cells, .inl (cy 0, 160, .inl (fp1_ops_cells))), (ap1_landings, .inr (3, [.int (vp1_landings_width), .ref ap1_landings_cells, .int (vp1_landings_size)])), (ap1_landings_cells, .inl (cy 0, 80, .inl (fp1_landings_cells))), (ap1_calls, .inr (3, [.int (vp1_calls_width), .ref ap1_calls_cells, .int (vp1_calls_size)])), (ap1_calls_cells, .inl (cy 0, 32, .inl (fp1_calls_cells)))]) [.ref a, .ref ap1, .int (x2)].toArray s 0 0 A) (F0 m 49 ls []) := by
    intro v_faulty v_faultPlace H locs ls hP hD hS hl h
    unfold f_X4_refuseTooMany_b49 at h
    refine lv_aload_n hx hb dX4_refuseTooMany_49 rfl (lv_at hl 0 rfl) ?_
    refine lv_iconst (v := (5 : Int32)) hx hb dX4_refuseTooMany_50 (by decide) ?_
    refine lv_aload_n hx hb dX4_refuseTooMany_51 rfl (lv_at hl 0 rfl) ?_
    refine va_get (D := D) (ci := 4) (v := .int (v_tokenFrom)) (C := RX4) (T := TX4) (N := 9) hx hb hts hinX4 hown hK.1 hP 0 rfl rfl 5 (by decide) (hts (.fieldLink RX4 28 "FrameWalks$Tape" "tokenFrom" "I") (List.mem_of_getElem? (i := 1) rfl)) (fun _ h9 => h9) rfl dX4_refuseTooMany_52 ?_
    obtain ⟨m_85, m_86, hc_87, h⟩ := bn2_s h
    refine call_v (ws1 := [(a, .inr (4, [.ref a_bytes, .int (v_length), .int (m_85), .int (m_86), .int (v_tokenKind), .int (v_tokenFrom), .int (v_tokenTo), .int (v_tokenNumber), .ref a_operands])), (ap1, .inr (6, [.ref ap1_routines, .ref ap1_ops, .ref ap1_landings, .ref ap1_calls, .ref ap1_registers, .ref ap1_words])), (ap1_routines, .inr (3, [.int (vp1_routines_width), .ref ap1_routines_cells, .int (vp1_routines_size)])), (ap1_routines_cells, .inl (cy 0, 24, .inl (fp1_routines_cells))), (ap1_ops, .inr (3, [.int (vp1_ops_width), .ref ap1_ops_cells, .int (vp1_ops_size)])), (ap1_ops_cells, .inl (cy 0, 160, .inl (fp1_ops_cells))), (ap1_landings, .inr (3, [.int (vp1_landings_width), .ref ap1_landings_cells, .int (vp1_landings_size)])), (ap1_landings_cells, .inl (cy 0, 80, .inl (fp1_landings_cells))), (ap1_calls, .inr (3, [.int (vp1_calls_width), .ref ap1_calls_cells, .int (vp1_calls_size)])), (ap1_calls_cells, .inl (cy 0, 32, .inl (fp1_calls_cells)))]) (wr := [(ap1, .inr (6, [.ref ap1_routines, .ref ap1_ops, .ref ap1_landings, .ref ap1_calls, .ref ap1_registers, .ref ap1_words])), (ap1_routines, .inr (3, [.int (vp1_routines_width), .ref ap1_routines_cells, .int (vp1_routines_size)])), (ap1_routines_cells, .inl (cy 0, 24, .inl (fp1_routines_cells))), (ap1_ops, .inr (3, [.int (vp1_ops_width), .ref ap1_ops_cells, .int (vp1_ops_size)])), (ap1_ops_cells, .inl (cy 0, 160, .inl (fp1_ops_cells))), (ap1_landings, .inr (3, [.int (vp1_landings_width), .ref ap1_landings_cells, .int (vp1_landings_size)])), (ap1_landings_cells, .inl (cy 0, 80, .inl (fp1_landings_cells))), (ap1_calls, .inr (3, [.int (vp1_calls_width), .ref ap1_calls_cells, .int (vp1_calls_size)])), (ap1_calls_cells, .inl (cy 0, 32, .inl (fp1_calls_cells)))]) (run_V ⟨hx, hb, hml, hown, hts⟩ ((c_X4_refuse l D cy a a_bytes a_operands (v_length) (v_faulty) (v_faultPlace) (v_tokenKind) (v_tokenFrom) (v_tokenTo) (v_tokenNumber) ((5 : Int32)) (v_tokenFrom) m_85 m_86 hc_87) H.size) (cwV 2 hts gX4_refuseTooMany_X4_refuse rfl rfl rfl hd_X4_refuse ⟨Nat.le_of_ble_eq_true rfl, Nat.le_of_ble_eq_true rfl⟩) KK.calling (fun U _ hW => hK.warm hW) hK.1 hP hD [0] [1, 2, 3, 4, 5, 6, 7, 8, 9] [9, 0, 1, 2, 3, 4, 5, 6, 7, 8] rfl rfl 0 4 rfl rfl rfl rfl hl.1 rfl (lv_room (Nat.le_of_ble_eq_true rfl)) dX4_refuseTooMany_55) hP hD hS hA [0] [1, 2, 3, 4, 5, 6, 7, 8, 9] [9, 0, 1, 2, 3, 4, 5, 6, 7, 8] rfl rfl rfl rfl (fun H locs hP hD hS => ?_)
    obtain ⟨e0, e1⟩ := tp2_s h
    exact Mv.ret' hx hb hr hlocks (by rw [← e0, ← e1]) hP hD hS dX4_refuseTooMany_58
  have hb33 : ∀ (y2 : Int32) (k0 : Int32) (v_faulty : Int32) (v_faultPlace : Int32) (H : Heap) (locs : List Loc) (ls : Array Slot), va_P D vwCl [(a, .inr (4, [.ref a_bytes, .int (v_length), .int (v_faulty), .int (v_faultPlace), .int (v_tokenKind), .int (v_tokenFrom), .int (v_tokenTo), .int (v_tokenNumber), .ref a_operands])), (ap1, .inr (6, [.ref ap1_routines, .ref ap1_ops, .ref ap1_landings, .ref ap1_calls, .ref ap1_registers, .ref ap1_words])), (ap1_routines, .inr (3, [.int (vp1_routines_width), .ref ap1_routines_cells, .int (vp1_routines_size)])), (ap1_routines_cells, .inl (cy 0, 24, .inl (fp1_routines_cells))), (ap1_ops, .inr (3, [.int (vp1_ops_width), .ref ap1_ops_cells, .int (vp1_ops_size)])), (ap1_ops_cells, .inl (cy 0, 160, .inl (fp1_ops_cells))), (ap1_landings, .inr (3, [.int (vp1_landings_width), .ref ap1_landings_cells, .int (vp1_landings_size)])), (ap1_landings_cells, .inl (cy 0, 80, .inl (fp1_landings_cells))), (ap1_calls, .inr (3, [.int (vp1_calls_width), .ref ap1_calls_cells, .int (vp1_calls_size)])), (ap1_calls_cells, .inl (cy 0, 32, .inl (fp1_calls_cells)))] H → va_D A [(a, .inr (4, [.ref a_bytes, .int (v_length), .int (v_faulty), .int (v_faultPlace), .int (v_tokenKind), .int (v_tokenFrom), .int (v_tokenTo), .int (v_tokenNumber), .ref a_operands])), (ap1, .inr (6, [.ref ap1_routines, .ref ap1_ops, .ref ap1_landings, .ref ap1_calls, .ref ap1_registers, .ref ap1_words])), (ap1_routines, .inr (3, [.int (vp1_routines_width), .ref ap1_routines_cells, .int (vp1_routines_size)])), (ap1_routines_cells, .inl (cy 0, 24, .inl (fp1_routines_cells))), (ap1_ops, .inr (3, [.int (vp1_ops_width), .ref ap1_ops_cells, .int (vp1_ops_size)])), (ap1_ops_cells, .inl (cy 0, 160, .inl (fp1_ops_cells))), (ap1_landings, .inr (3, [.int (vp1_landings_width), .ref ap1_landings_cells, .int (vp1_landings_size)])), (ap1_landings_cells, .inl (cy 0, 80, .inl (fp1_landings_cells))), (ap1_calls, .inr (3, [.int (vp1_calls_width), .ref ap1_calls_cells, .int (vp1_calls_size)])), (ap1_calls_cells, .inl (cy 0, 32, .inl (fp1_calls_cells)))] → va_S A s.heap H locs → lv_has ls 4 [(0, .ref a), (1, .ref ap1), (2, .int (y2))] → f_X4_refuseTooMany_b33 v_tokenFrom vp1_routines_width vp1_routines_size vp1_ops_width vp1_ops_size vp1_landings_width vp1_landings_size vp1_calls_width vp1_calls_size  y2 k0 v_faulty v_faultPlace = some (z_v_faulty, z_v_faultPlace) → W p l e ({ frames := 1, cells := 0, slots := 0, locals := 22 } : Room) s m [.ref a, .ref ap1, .int (x2)].toArray below meth c H locs 0 0 (MQ below (Qv D A [(a, .inr (4, [.ref a_bytes, .int (v_length), .int (z_v_faulty), .int (z_v_faultPlace), .int (v_tokenKind), .int (v_tokenFrom), .int (v_tokenTo), .int (v_tokenNumber), .ref a_operands])), (ap1, .inr (6, [.ref ap1_routines, .ref ap1_ops, .ref ap1_landings, .ref ap1_calls, .ref ap1_registers, .ref ap1_words])), (ap1_routines, .inr (3, [.int (vp1_routines_width), .ref ap1_routines_cells, .int (vp1_routines_size)])), (ap1_routines_cells, .inl (cy 0, 24, .inl (fp1_routines_cells))), (ap1_ops, .inr (3, [.int (vp1_ops_width), .ref ap1_ops_cells, .int (vp1_ops_size)])), (ap1_ops_cells, .inl (cy 0, 160, .inl (fp1_ops_cells))), (ap1_landings, .inr (3, [.int (vp1_landings_width), .ref ap1_landings_cells, .int (vp1_landings_size)])), (ap1_landings_cells, .inl (cy 0, 80, .inl (fp1_landings_cells))), (ap1_calls, .inr (3, [.int (vp1_calls_width), .ref ap1_calls_cells, .int (vp1_calls_size)])), (ap1_calls_cells, .inl (cy 0, 32, .inl (fp1_calls_cells)))]) [.ref a, .ref ap1, .int (x2)].toArray s 0 0 A) (F0 m 33 ls [.int (k0)]) := by
    intro y2 k0 v_faulty v_faultPlace H locs ls hP hD hS hl h
    unfold f_X4_refuseTooMany_b33 at h
    refine lv_istore_n (lv' := [(3, .int (k0)), (0, .ref a), (1, .ref ap1), (2, .int (y2))]) hx hb dX4_refuseTooMany_33 rfl hl (by decide) rfl (fun ls hl => ?_)
    refine lv_iload_n hx hb dX4_refuseTooMany_34 rfl (lv_at hl 0 rfl) ?_
    refine lv_if_ne (tgt := 49) hx hb dX4_refuseTooMany_35 (by decide) (fun c_88 => ?_) (fun c_88 => ?_)
    · have h := ifn c_88 h
      exact hb49 (v_faulty) (v_faultPlace) H locs ls hP hD hS (lv_sub hl [1] rfl) h
    · have h := ift c_88 h
      refine lv_aload_n hx hb dX4_refuseTooMany_38 rfl (lv_at hl 2 rfl) ?_
      refine lv_iload_n hx hb dX4_refuseTooMany_39 rfl (lv_at hl 3 rfl) ?_
      by_cases c_90 : y2 = 8 ∨ y2 = 9
      · have h := ift c_90 h
        have hc_89 : f_X4_tableOf (y2) ap1 ap1_routines ap1_ops ap1_landings ap1_calls ap1_registers ap1_words = some ap1_routines := by rcases c_90 with e | e <;> (unfold f_X4_tableOf; rw [e]; first | done | rfl)
        refine call_r (ws1 := [(a, .inr (4, [.ref a_bytes, .int (v_length), .int (v_faulty), .int (v_faultPlace), .int (v_tokenKind), .int (v_tokenFrom), .int (v_tokenTo), .int (v_tokenNumber), .ref a_operands])), (ap1, .inr (6, [.ref ap1_routines, .ref ap1_ops, .ref ap1_landings, .ref ap1_calls, .ref ap1_registers, .ref ap1_words])), (ap1_routines, .inr (3, [.int (vp1_routines_width), .ref ap1_routines_cells, .int (vp1_routines_size)])), (ap1_routines_cells, .inl (cy 0, 24, .inl (fp1_routines_cells))), (ap1_ops, .inr (3, [.int (vp1_ops_width), .ref ap1_ops_cells, .int (vp1_ops_size)])), (ap1_ops_cells, .inl (cy 0, 160, .inl (fp1_ops_cells))), (ap1_landings, .inr (3, [.int (vp1_landings_width), .ref ap1_landings_cells, .int (vp1_landings_size)])), (ap1_landings_cells, .inl (cy 0, 80, .inl (fp1_landings_cells))), (ap1_calls, .inr (3, [.int (vp1_calls_width), .ref ap1_calls_cells, .int (vp1_calls_size)])), (ap1_calls_cells, .inl (cy 0, 32, .inl (fp1_calls_cells)))]) (wr := [(a, .inr (4, [.ref a_bytes, .int (v_length), .int (v_faulty), .int (v_faultPlace), .int (v_tokenKind), .int (v_tokenFrom), .int (v_tokenTo), .int (v_tokenNumber), .ref a_operands])), (ap1_routines, .inr (3, [.int (vp1_routines_width), .ref ap1_routines_cells, .int (vp1_routines_size)])), (ap1_routines_cells, .inl (cy 0, 24, .inl (fp1_routines_cells))), (ap1_ops, .inr (3, [.int (vp1_ops_width), .ref ap1_ops_cells, .int (vp1_ops_size)])), (ap1_ops_cells, .inl (cy 0, 160, .inl (fp1_ops_cells))), (ap1_landings, .inr (3, [.int (vp1_landings_width), .ref ap1_landings_cells, .int (vp1_landings_size)])), (ap1_landings_cells, .inl (cy 0, 80, .inl (fp1_landings_cells))), (ap1_calls, .inr (3, [.int (vp1_calls_width), .ref ap1_calls_cells, .int (vp1_calls_size)])), (ap1_calls_cells, .inl (cy 0, 32, .inl (fp1_calls_cells)))]) (run_S ⟨hx, hb, hml, hown, hts⟩ ((c_X4_tableOf l D cy ap1 ap1_routines ap1_ops ap1_landings ap1_calls ap1_registers ap1_words (y2) ap1_routines hc_89) H.size) (cwS2 2 hts gX4_refuseTooMany_X4_tableOf rfl rfl rfl hd_X4_tableOf.2 ⟨Nat.le_of_ble_eq_true rfl, Nat.le_of_ble_eq_true rfl⟩) KK.calling (fun U _ hW => hK.warm hW) hP hD [1] [0, 2, 3, 4, 5, 6, 7, 8, 9] [0, 9, 1, 2, 3, 4, 5, 6, 7, 8] rfl rfl rfl hl.1 rfl (lv_room (Nat.le_of_ble_eq_true rfl)) dX4_refuseTooMany_40) hP hD hS hA [1] [0, 2, 3, 4, 5, 6, 7, 8, 9] [0, 9, 1, 2, 3, 4, 5, 6, 7, 8] rfl rfl rfl rfl (fun H locs hP hD hS => ?_)
        obtain ⟨r_91, hc_93, h⟩ := bn1_s h
        refine call_i (ws1 := [(a, .inr (4, [.ref a_bytes, .int (v_length), .int (v_faulty), .int (v_faultPlace), .int (v_tokenKind), .int (v_tokenFrom), .int (v_tokenTo), .int (v_tokenNumber), .ref a_operands])), (ap1, .inr (6, [.ref ap1_routines, .ref ap1_ops, .ref ap1_landings, .ref ap1_calls, .ref ap1_registers, .ref ap1_words])), (ap1_routines, .inr (3, [.int (vp1_routines_width), .ref ap1_routines_cells, .int (vp1_routines_size)])), (ap1_routines_cells, .inl (cy 0, 24, .inl (fp1_routines_cells))), (ap1_ops, .inr (3, [.int (vp1_ops_width), .ref ap1_ops_cells, .int (vp1_ops_size)])), (ap1_ops_cells, .inl (cy 0, 160, .inl (fp1_ops_cells))), (ap1_landings, .inr (3, [.int (vp1_landings_width), .ref ap1_landings_cells, .int (vp1_landings_size)])), (ap1_landings_cells, .inl (cy 0, 80, .inl (fp1_landings_cells))), (ap1_calls, .inr (3, [.int (vp1_calls_width), .ref ap1_calls_cells, .int (vp1_calls_size)])), (ap1_calls_cells, .inl (cy 0, 32, .inl (fp1_calls_cells)))]) (wr := [(a, .inr (4, [.ref a_bytes, .int (v_length), .int (v_faulty), .int (v_faultPlace), .int (v_tokenKind), .int (v_tokenFrom), .int (v_tokenTo), .int (v_tokenNumber), .ref a_operands])), (ap1, .inr (6, [.ref ap1_routines, .ref ap1_ops, .ref ap1_landings, .ref ap1_calls, .ref ap1_registers, .ref ap1_words])), (ap1_ops, .inr (3, [.int (vp1_ops_width), .ref ap1_ops_cells, .int (vp1_ops_size)])), (ap1_ops_cells, .inl (cy 0, 160, .inl (fp1_ops_cells))), (ap1_landings, .inr (3, [.int (vp1_landings_width), .ref ap1_landings_cells, .int (vp1_landings_size)])), (ap1_landings_cells, .inl (cy 0, 80, .inl (fp1_landings_cells))), (ap1_calls, .inr (3, [.int (vp1_calls_width), .ref ap1_calls_cells, .int (vp1_calls_size)])), (ap1_calls_cells, .inl (cy 0, 32, .inl (fp1_calls_cells)))]) (run_V ⟨hx, hb, hml, hown, hts⟩ ((c_X3_isFull l D cy ap1_routines ap1_routines_cells (vp1_routines_width) (vp1_routines_size) 24 (fp1_routines_cells) r_91 hc_93) H.size) (cwV 0 hts gX4_refuseTooMany_X3_isFull rfl rfl rfl hd_X3_isFull ⟨Nat.le_of_ble_eq_true rfl, Nat.le_of_ble_eq_true rfl⟩) KK.calling (fun U _ hW => hK.warm hW) hK.1 hP hD [2, 3] [0, 1, 4, 5, 6, 7, 8, 9] [0, 1, 8, 9, 2, 3, 4, 5, 6, 7] rfl rfl 2 3 rfl rfl rfl rfl hl.1 rfl (lv_room (Nat.le_of_ble_eq_true rfl)) dX4_refuseTooMany_43) hP hD hS hA [2, 3] [0, 1, 4, 5, 6, 7, 8, 9] [0, 1, 8, 9, 2, 3, 4, 5, 6, 7] rfl rfl rfl rfl (fun H locs hP hD hS => ?_)
        refine lv_if_eq (tgt := 58) hx hb dX4_refuseTooMany_46 (by decide) (fun c_92 => ?_) (fun c_92 => ?_)
        · have h := ift c_92 h
          obtain ⟨e0, e1⟩ := tp2_s h
          exact Mv.ret' hx hb hr hlocks (by rw [← e0, ← e1]) hP hD hS dX4_refuseTooMany_58
        · have h := ifn c_92 h
          exact hb49 (v_faulty) (v_faultPlace) H locs ls hP hD hS (lv_sub hl [1] rfl) h
      have h := ifn c_90 h
      by_cases c_95 : y2 = 10
      · have h := ift c_95 h
        have hc_94 : f_X4_tableOf (y2) ap1 ap1_routines ap1_ops ap1_landings ap1_calls ap1_registers ap1_words = some ap1_landings := by unfold f_X4_tableOf; rw [c_95]; first | done | rfl
        refine call_r (ws1 := [(a, .inr (4, [.ref a_bytes, .int (v_length), .int (v_faulty), .int (v_faultPlace), .int (v_tokenKind), .int (v_tokenFrom), .int (v_tokenTo), .int (v_tokenNumber), .ref a_operands])), (ap1, .inr (6, [.ref ap1_routines, .ref ap1_ops, .ref ap1_landings, .ref ap1_calls, .ref ap1_registers, .ref ap1_words])), (ap1_routines, .inr (3, [.int (vp1_routines_width), .ref ap1_routines_cells, .int (vp1_routines_size)])), (ap1_routines_cells, .inl (cy 0, 24, .inl (fp1_routines_cells))), (ap1_ops, .inr (3, [.int (vp1_ops_width), .ref ap1_ops_cells, .int (vp1_ops_size)])), (ap1_ops_cells, .inl (cy 0, 160, .inl (fp1_ops_cells))), (ap1_landings, .inr (3, [.int (vp1_landings_width), .ref ap1_landings_cells, .int (vp1_landings_size)])), (ap1_landings_cells, .inl (cy 0, 80, .inl (fp1_landings_cells))), (ap1_calls, .inr (3, [.int (vp1_calls_width), .ref ap1_calls_cells, .int (vp1_calls_size)])), (ap1_calls_cells, .inl (cy 0, 32, .inl (fp1_calls_cells)))]) (wr := [(a, .inr (4, [.ref a_bytes, .int (v_length), .int (v_faulty), .int (v_faultPlace), .int (v_tokenKind), .int (v_tokenFrom), .int (v_tokenTo), .int (v_tokenNumber), .ref a_operands])), (ap1_routines, .inr (3, [.int (vp1_routines_width), .ref ap1_routines_cells, .int (vp1_routines_size)])), (ap1_routines_cells, .inl (cy 0, 24, .inl (fp1_routines_cells))), (ap1_ops, .inr (3, [.int (vp1_ops_width), .ref ap1_ops_cells, .int (vp1_ops_size)])), (ap1_ops_cells, .inl (cy 0, 160, .inl (fp1_ops_cells))), (ap1_landings, .inr (3, [.int (vp1_landings_width), .ref ap1_landings_cells, .int (vp1_landings_size)])), (ap1_landings_cells, .inl (cy 0, 80, .inl (fp1_landings_cells))), (ap1_calls, .inr (3, [.int (vp1_calls_width), .ref ap1_calls_cells, .int (vp1_calls_size)])), (ap1_calls_cells, .inl (cy 0, 32, .inl (fp1_calls_cells)))]) (run_S ⟨hx, hb, hml, hown, hts⟩ ((c_X4_tableOf l D cy ap1 ap1_routines ap1_ops ap1_landings ap1_calls ap1_registers ap1_words (y2) ap1_landings hc_94) H.size) (cwS2 2 hts gX4_refuseTooMany_X4_tableOf rfl rfl rfl hd_X4_tableOf.2 ⟨Nat.le_of_ble_eq_true rfl, Nat.le_of_ble_eq_true rfl⟩) KK.calling (fun U _ hW => hK.warm hW) hP hD [1] [0, 2, 3, 4, 5, 6, 7, 8, 9] [0, 9, 1, 2, 3, 4, 5, 6, 7, 8] rfl rfl rfl hl.1 rfl (lv_room (Nat.le_of_ble_eq_true rfl)) dX4_refuseTooMany_40) hP hD hS hA [1] [0, 2, 3, 4, 5, 6, 7, 8, 9] [0, 9, 1, 2, 3, 4, 5, 6, 7, 8] rfl rfl rfl rfl (fun H locs hP hD hS => ?_)
        obtain ⟨r_96, hc_98, h⟩ := bn1_s h
        refine call_i (ws1 := [(a, .inr (4, [.ref a_bytes, .int (v_length), .int (v_faulty), .int (v_faultPlace), .int (v_tokenKind), .int (v_tokenFrom), .int (v_tokenTo), .int (v_tokenNumber), .ref a_operands])), (ap1, .inr (6, [.ref ap1_routines, .ref ap1_ops, .ref ap1_landings, .ref ap1_calls, .ref ap1_registers, .ref ap1_words])), (ap1_routines, .inr (3, [.int (vp1_routines_width), .ref ap1_routines_cells, .int (vp1_routines_size)])), (ap1_routines_cells, .inl (cy 0, 24, .inl (fp1_routines_cells))), (ap1_ops, .inr (3, [.int (vp1_ops_width), .ref ap1_ops_cells, .int (vp1_ops_size)])), (ap1_ops_cells, .inl (cy 0, 160, .inl (fp1_ops_cells))), (ap1_landings, .inr (3, [.int (vp1_landings_width), .ref ap1_landings_cells, .int (vp1_landings_size)])), (ap1_landings_cells, .inl (cy 0, 80, .inl (fp1_landings_cells))), (ap1_calls, .inr (3, [.int (vp1_calls_width), .ref ap1_calls_cells, .int (vp1_calls_size)])), (ap1_calls_cells, .inl (cy 0, 32, .inl (fp1_calls_cells)))]) (wr := [(a, .inr (4, [.ref a_bytes, .int (v_length), .int (v_faulty), .int (v_faultPlace), .int (v_tokenKind), .int (v_tokenFrom), .int (v_tokenTo), .int (v_tokenNumber), .ref a_operands])), (ap1, .inr (6, [.ref ap1_routines, .ref ap1_ops, .ref ap1_landings, .ref ap1_calls, .ref ap1_registers, .ref ap1_words])), (ap1_routines, .inr (3, [.int (vp1_routines_width), .ref ap1_routines_cells, .int (vp1_routines_size)])), (ap1_routines_cells, .inl (cy 0, 24, .inl (fp1_routines_cells))), (ap1_ops, .inr (3, [.int (vp1_ops_width), .ref ap1_ops_cells, .int (vp1_ops_size)])), (ap1_ops_cells, .inl (cy 0, 160, .inl (fp1_ops_cells))), (ap1_calls, .inr (3, [.int (vp1_calls_width), .ref ap1_calls_cells, .int (vp1_calls_size)])), (ap1_calls_cells, .inl (cy 0, 32, .inl (fp1_calls_cells)))]) (run_V ⟨hx, hb, hml, hown, hts⟩ ((c_X3_isFull l D cy ap1_landings ap1_landings_cells (vp1_landings_width) (vp1_landings_size) 80 (fp1_landings_cells) r_96 hc_98) H.size) (cwV 0 hts gX4_refuseTooMany_X3_isFull rfl rfl rfl hd_X3_isFull ⟨Nat.le_of_ble_eq_true rfl, Nat.le_of_ble_eq_true rfl⟩) KK.calling (fun U _ hW => hK.warm hW) hK.1 hP hD [6, 7] [0, 1, 2, 3, 4, 5, 8, 9] [0, 1, 2, 3, 4, 5, 8, 9, 6, 7] rfl rfl 6 3 rfl rfl rfl rfl hl.1 rfl (lv_room (Nat.le_of_ble_eq_true rfl)) dX4_refuseTooMany_43) hP hD hS hA [6, 7] [0, 1, 2, 3, 4, 5, 8, 9] [0, 1, 2, 3, 4, 5, 8, 9, 6, 7] rfl rfl rfl rfl (fun H locs hP hD hS => ?_)
        refine lv_if_eq (tgt := 58) hx hb dX4_refuseTooMany_46 (by decide) (fun c_97 => ?_) (fun c_97 => ?_)
        · have h := ift c_97 h
          obtain ⟨e0, e1⟩ := tp2_s h
          exact Mv.ret' hx hb hr hlocks (by rw [← e0, ← e1]) hP hD hS dX4_refuseTooMany_58
        · have h := ifn c_97 h
          exact hb49 (v_faulty) (v_faultPlace) H locs ls hP hD hS (lv_sub hl [1] rfl) h
      have h := ifn c_95 h
      by_cases c_100 : y2 = 11
      · have h := ift c_100 h
        have hc_99 : f_X4_tableOf (y2) ap1 ap1_routines ap1_ops ap1_landings ap1_calls ap1_registers ap1_words = some ap1_calls := by unfold f_X4_tableOf; rw [c_100]; first | done | rfl
        refine call_r (ws1 := [(a, .inr (4, [.ref a_bytes, .int (v_length), .int (v_faulty), .int (v_faultPlace), .int (v_tokenKind), .int (v_tokenFrom), .int (v_tokenTo), .int (v_tokenNumber), .ref a_operands])), (ap1, .inr (6, [.ref ap1_routines, .ref ap1_ops, .ref ap1_landings, .ref ap1_calls, .ref ap1_registers, .ref ap1_words])), (ap1_routines, .inr (3, [.int (vp1_routines_width), .ref ap1_routines_cells, .int (vp1_routines_size)])), (ap1_routines_cells, .inl (cy 0, 24, .inl (fp1_routines_cells))), (ap1_ops, .inr (3, [.int (vp1_ops_width), .ref ap1_ops_cells, .int (vp1_ops_size)])), (ap1_ops_cells, .inl (cy 0, 160, .inl (fp1_ops_cells))), (ap1_landings, .inr (3, [.int (vp1_landings_width), .ref ap1_landings_cells, .int (vp1_landings_size)])), (ap1_landings_cells, .inl (cy 0, 80, .inl (fp1_landings_cells))), (ap1_calls, .inr (3, [.int (vp1_calls_width), .ref ap1_calls_cells, .int (vp1_calls_size)])), (ap1_calls_cells, .inl (cy 0, 32, .inl (fp1_calls_cells)))]) (wr := [(a, .inr (4, [.ref a_bytes, .int (v_length), .int (v_faulty), .int (v_faultPlace), .int (v_tokenKind), .int (v_tokenFrom), .int (v_tokenTo), .int (v_tokenNumber), .ref a_operands])), (ap1_routines, .inr (3, [.int (vp1_routines_width), .ref ap1_routines_cells, .int (vp1_routines_size)])), (ap1_routines_cells, .inl (cy 0, 24, .inl (fp1_routines_cells))), (ap1_ops, .inr (3, [.int (vp1_ops_width), .ref ap1_ops_cells, .int (vp1_ops_size)])), (ap1_ops_cells, .inl (cy 0, 160, .inl (fp1_ops_cells))), (ap1_landings, .inr (3, [.int (vp1_landings_width), .ref ap1_landings_cells, .int (vp1_landings_size)])), (ap1_landings_cells, .inl (cy 0, 80, .inl (fp1_landings_cells))), (ap1_calls, .inr (3, [.int (vp1_calls_width), .ref ap1_calls_cells, .int (vp1_calls_size)])), (ap1_calls_cells, .inl (cy 0, 32, .inl (fp1_calls_cells)))]) (run_S ⟨hx, hb, hml, hown, hts⟩ ((c_X4_tableOf l D cy ap1 ap1_routines ap1_ops ap1_landings ap1_calls ap1_registers ap1_words (y2) ap1_calls hc_99) H.size) (cwS2 2 hts gX4_refuseTooMany_X4_tableOf rfl rfl rfl hd_X4_tableOf.2 ⟨Nat.le_of_ble_eq_true rfl, Nat.le_of_ble_eq_true rfl⟩) KK.calling (fun U _ hW => hK.warm hW) hP hD [1] [0, 2, 3, 4, 5, 6, 7, 8, 9] [0, 9, 1, 2, 3, 4, 5, 6, 7, 8] rfl rfl rfl hl.1 rfl (lv_room (Nat.le_of_ble_eq_true rfl)) dX4_refuseTooMany_40) hP hD hS hA [1] [0, 2, 3, 4, 5, 6, 7, 8, 9] [0, 9, 1, 2, 3, 4, 5, 6, 7, 8] rfl rfl rfl rfl (fun H locs hP hD hS => ?_)
        obtain ⟨r_101, hc_103, h⟩ := bn1_s h
        refine call_i (ws1 := [(a, .inr (4, [.ref a_bytes, .int (v_length), .int (v_faulty), .int (v_faultPlace), .int (v_tokenKind), .int (v_tokenFrom), .int (v_tokenTo), .int (v_tokenNumber), .ref a_operands])), (ap1, .inr (6, [.ref ap1_routines, .ref ap1_ops, .ref ap1_landings, .ref ap1_calls, .ref ap1_registers, .ref ap1_words])), (ap1_routines, .inr (3, [.int (vp1_routines_width), .ref ap1_routines_cells, .int (vp1_routines_size)])), (ap1_routines_cells, .inl (cy 0, 24, .inl (fp1_routines_cells))), (ap1_ops, .inr (3, [.int (vp1_ops_width), .ref ap1_ops_cells, .int (vp1_ops_size)])), (ap1_ops_cells, .inl (cy 0, 160, .inl (fp1_ops_cells))), (ap1_landings, .inr (3, [.int (vp1_landings_width), .ref ap1_landings_cells, .int (vp1_landings_size)])), (ap1_landings_cells, .inl (cy 0, 80, .inl (fp1_landings_cells))), (ap1_calls, .inr (3, [.int (vp1_calls_width), .ref ap1_calls_cells, .int (vp1_calls_size)])), (ap1_calls_cells, .inl (cy 0, 32, .inl (fp1_calls_cells)))]) (wr := [(a, .inr (4, [.ref a_bytes, .int (v_length), .int (v_faulty), .int (v_faultPlace), .int (v_tokenKind), .int (v_tokenFrom), .int (v_tokenTo), .int (v_tokenNumber), .ref a_operands])), (ap1, .inr (6, [.ref ap1_routines, .ref ap1_ops, .ref ap1_landings, .ref ap1_calls, .ref ap1_registers, .ref ap1_words])), (ap1_routines, .inr (3, [.int (vp1_routines_width), .ref ap1_routines_cells, .int (vp1_routines_size)])), (ap1_routines_cells, .inl (cy 0, 24, .inl (fp1_routines_cells))), (ap1_ops, .inr (3, [.int (vp1_ops_width), .ref ap1_ops_cells, .int (vp1_ops_size)])), (ap1_ops_cells, .inl (cy 0, 160, .inl (fp1_ops_cells))), (ap1_landings, .inr (3, [.int (vp1_landings_width), .ref ap1_landings_cells, .int (vp1_landings_size)])), (ap1_landings_cells, .inl (cy 0, 80, .inl (fp1_landings_cells)))]) (run_V ⟨hx, hb, hml, hown, hts⟩ ((c_X3_isFull l D cy ap1_calls ap1_calls_cells (vp1_calls_width) (vp1_calls_size) 32 (fp1_calls_cells) r_101 hc_103) H.size) (cwV 0 hts gX4_refuseTooMany_X3_isFull rfl rfl rfl hd_X3_isFull ⟨Nat.le_of_ble_eq_true rfl, Nat.le_of_ble_eq_true rfl⟩) KK.calling (fun U _ hW => hK.warm hW) hK.1 hP hD [8, 9] [0, 1, 2, 3, 4, 5, 6, 7] [0, 1, 2, 3, 4, 5, 6, 7, 8, 9] rfl rfl 8 3 rfl rfl rfl rfl hl.1 rfl (lv_room (Nat.le_of_ble_eq_true rfl)) dX4_refuseTooMany_43) hP hD hS hA [8, 9] [0, 1, 2, 3, 4, 5, 6, 7] [0, 1, 2, 3, 4, 5, 6, 7, 8, 9] rfl rfl rfl rfl (fun H locs hP hD hS => ?_)
        refine lv_if_eq (tgt := 58) hx hb dX4_refuseTooMany_46 (by decide) (fun c_102 => ?_) (fun c_102 => ?_)
        · have h := ift c_102 h
          obtain ⟨e0, e1⟩ := tp2_s h
          exact Mv.ret' hx hb hr hlocks (by rw [← e0, ← e1]) hP hD hS dX4_refuseTooMany_58
        · have h := ifn c_102 h
          exact hb49 (v_faulty) (v_faultPlace) H locs ls hP hD hS (lv_sub hl [1] rfl) h
      have h := ifn c_100 h
      have hc_104 : f_X4_tableOf (y2) ap1 ap1_routines ap1_ops ap1_landings ap1_calls ap1_registers ap1_words = some ap1_ops := by unfold f_X4_tableOf; rw [if_neg (fun e => c_90 (Or.inl e)), if_neg (fun e => c_90 (Or.inr e)), if_neg c_95, if_neg c_100]
      refine call_r (ws1 := [(a, .inr (4, [.ref a_bytes, .int (v_length), .int (v_faulty), .int (v_faultPlace), .int (v_tokenKind), .int (v_tokenFrom), .int (v_tokenTo), .int (v_tokenNumber), .ref a_operands])), (ap1, .inr (6, [.ref ap1_routines, .ref ap1_ops, .ref ap1_landings, .ref ap1_calls, .ref ap1_registers, .ref ap1_words])), (ap1_routines, .inr (3, [.int (vp1_routines_width), .ref ap1_routines_cells, .int (vp1_routines_size)])), (ap1_routines_cells, .inl (cy 0, 24, .inl (fp1_routines_cells))), (ap1_ops, .inr (3, [.int (vp1_ops_width), .ref ap1_ops_cells, .int (vp1_ops_size)])), (ap1_ops_cells, .inl (cy 0, 160, .inl (fp1_ops_cells))), (ap1_landings, .inr (3, [.int (vp1_landings_width), .ref ap1_landings_cells, .int (vp1_landings_size)])), (ap1_landings_cells, .inl (cy 0, 80, .inl (fp1_landings_cells))), (ap1_calls, .inr (3, [.int (vp1_calls_width), .ref ap1_calls_cells, .int (vp1_calls_size)])), (ap1_calls_cells, .inl (cy 0, 32, .inl (fp1_calls_cells)))]) (wr := [(a, .inr (4, [.ref a_bytes, .int (v_length), .int (v_faulty), .int (v_faultPlace), .int (v_tokenKind), .int (v_tokenFrom), .int (v_tokenTo), .int (v_tokenNumber), .ref a_operands])), (ap1_routines, .inr (3, [.int (vp1_routines_width), .ref ap1_routines_cells, .int (vp1_routines_size)])), (ap1_routines_cells, .inl (cy 0, 24, .inl (fp1_routines_cells))), (ap1_ops, .inr (3, [.int (vp1_ops_width), .ref ap1_ops_cells, .int (vp1_ops_size)])), (ap1_ops_cells, .inl (cy 0, 160, .inl (fp1_ops_cells))), (ap1_landings, .inr (3, [.int (vp1_landings_width), .ref ap1_landings_cells, .int (vp1_landings_size)])), (ap1_landings_cells, .inl (cy 0, 80, .inl (fp1_landings_cells))), (ap1_calls, .inr (3, [.int (vp1_calls_width), .ref ap1_calls_cells, .int (vp1_calls_size)])), (ap1_calls_cells, .inl (cy 0, 32, .inl (fp1_calls_cells)))]) (run_S ⟨hx, hb, hml, hown, hts⟩ ((c_X4_tableOf l D cy ap1 ap1_routines ap1_ops ap1_landings ap1_calls ap1_registers ap1_words (y2) ap1_ops hc_104) H.size) (cwS2 2 hts gX4_refuseTooMany_X4_tableOf rfl rfl rfl hd_X4_tableOf.2 ⟨Nat.le_of_ble_eq_true rfl, Nat.le_of_ble_eq_true rfl⟩) KK.calling (fun U _ hW => hK.warm hW) hP hD [1] [0, 2, 3, 4, 5, 6, 7, 8, 9] [0, 9, 1, 2, 3, 4, 5, 6, 7, 8] rfl rfl rfl hl.1 rfl (lv_room (Nat.le_of_ble_eq_true rfl)) dX4_refuseTooMany_40) hP hD hS hA [1] [0, 2, 3, 4, 5, 6, 7, 8, 9] [0, 9, 1, 2, 3, 4, 5, 6, 7, 8] rfl rfl rfl rfl (fun H locs hP hD hS => ?_)
      obtain ⟨r_106, hc_108, h⟩ := bn1_s h
      refine call_i (ws1 := [(a, .inr (4, [.ref a_bytes, .int (v_length), .int (v_faulty), .int (v_faultPlace), .int (v_tokenKind), .int (v_tokenFrom), .int (v_tokenTo), .int (v_tokenNumber), .ref a_operands])), (ap1, .inr (6, [.ref ap1_routines, .ref ap1_ops, .ref ap1_landings, .ref ap1_calls, .ref ap1_registers, .ref ap1_words])), (ap1_routines, .inr (3, [.int (vp1_routines_width), .ref ap1_routines_cells, .int (vp1_routines_size)])), (ap1_routines_cells, .inl (cy 0, 24, .inl (fp1_routines_cells))), (ap1_ops, .inr (3, [.int (vp1_ops_width), .ref ap1_ops_cells, .int (vp1_ops_size)])), (ap1_ops_cells, .inl (cy 0, 160, .inl (fp1_ops_cells))), (ap1_landings, .inr (3, [.int (vp1_landings_width), .ref ap1_landings_cells, .int (vp1_landings_size)])), (ap1_landings_cells, .inl (cy 0, 80, .inl (fp1_landings_cells))), (ap1_calls, .inr (3, [.int (vp1_calls_width), .ref ap1_calls_cells, .int (vp1_calls_size)])), (ap1_calls_cells, .inl (cy 0, 32, .inl (fp1_calls_cells)))]) (wr := [(a, .inr (4, [.ref a_bytes, .int (v_length), .int (v_faulty), .int (v_faultPlace), .int (v_tokenKind), .int (v_tokenFrom), .int (v_tokenTo), .int (v_tokenNumber), .ref a_operands])), (ap1, .inr (6, [.ref ap1_routines, .ref ap1_ops, .ref ap1_landings, .ref ap1_calls, .ref ap1_registers, .ref ap1_words])), (ap1_routines, .inr (3, [.int (vp1_routines_width), .ref ap1_routines_cells, .int (vp1_routines_size)])), (ap1_routines_cells, .inl (cy 0, 24, .inl (fp1_routines_cells))), (ap1_landings, .inr (3, [.int (vp1_landings_width), .ref ap1_landings_cells, .int (vp1_landings_size)])), (ap1_landings_cells, .inl (cy 0, 80, .inl (fp1_landings_cells))), (ap1_calls, .inr (3, [.int (vp1_calls_width), .ref ap1_calls_cells, .int (vp1_calls_size)])), (ap1_calls_cells, .inl (cy 0, 32, .inl (fp1_calls_cells)))]) (run_V ⟨hx, hb, hml, hown, hts⟩ ((c_X3_isFull l D cy ap1_ops ap1_ops_cells (vp1_ops_width) (vp1_ops_size) 160 (fp1_ops_cells) r_106 hc_108) H.size) (cwV 0 hts gX4_refuseTooMany_X3_isFull rfl rfl rfl hd_X3_isFull ⟨Nat.le_of_ble_eq_true rfl, Nat.le_of_ble_eq_true rfl⟩) KK.calling (fun U _ hW => hK.warm hW) hK.1 hP hD [4, 5] [0, 1, 2, 3, 6, 7, 8, 9] [0, 1, 2, 3, 8, 9, 4, 5, 6, 7] rfl rfl 4 3 rfl rfl rfl rfl hl.1 rfl (lv_room (Nat.le_of_ble_eq_true rfl)) dX4_refuseTooMany_43) hP hD hS hA [4, 5] [0, 1, 2, 3, 6, 7, 8, 9] [0, 1, 2, 3, 8, 9, 4, 5, 6, 7] rfl rfl rfl rfl (fun H locs hP hD hS => ?_)
      refine lv_if_eq (tgt := 58) hx hb dX4_refuseTooMany_46 (by decide) (fun c_107 => ?_) (fun c_107 => ?_)
      · have h := ift c_107 h
        obtain ⟨e0, e1⟩ := tp2_s h
        exact Mv.ret' hx hb hr hlocks (by rw [← e0, ← e1]) hP hD hS dX4_refuseTooMany_58
      · have h := ifn c_107 h
        exact hb49 (v_faulty) (v_faultPlace) H locs ls hP hD hS (lv_sub hl [1] rfl) h
  have hb32 : ∀ (y2 : Int32) (v_faulty : Int32) (v_faultPlace : Int32) (H : Heap) (locs : List Loc) (ls : Array Slot), va_P D vwCl [(a, .inr (4, [.ref a_bytes, .int (v_length), .int (v_faulty), .int (v_faultPlace), .int (v_tokenKind), .int (v_tokenFrom), .int (v_tokenTo), .int (v_tokenNumber), .ref a_operands])), (ap1, .inr (6, [.ref ap1_routines, .ref ap1_ops, .ref ap1_landings, .ref ap1_calls, .ref ap1_registers, .ref ap1_words])), (ap1_routines, .inr (3, [.int (vp1_routines_width), .ref ap1_routines_cells, .int (vp1_routines_size)])), (ap1_routines_cells, .inl (cy 0, 24, .inl (fp1_routines_cells))), (ap1_ops, .inr (3, [.int (vp1_ops_width), .ref ap1_ops_cells, .int (vp1_ops_size)])), (ap1_ops_cells, .inl (cy 0, 160, .inl (fp1_ops_cells))), (ap1_landings, .inr (3, [.int (vp1_landings_width), .ref ap1_landings_cells, .int (vp1_landings_size)])), (ap1_landings_cells, .inl (cy 0, 80, .inl (fp1_landings_cells))), (ap1_calls, .inr (3, [.int (vp1_calls_width), .ref ap1_calls_cells, .int (vp1_calls_size)])), (ap1_calls_cells, .inl (cy 0, 32, .inl (fp1_calls_cells)))] H → va_D A [(a, .inr (4, [.ref a_bytes, .int (v_length), .int (v_faulty), .int (v_faultPlace), .int (v_tokenKind), .int (v_tokenFrom), .int (v_tokenTo), .int (v_tokenNumber), .ref a_operands])), (ap1, .inr (6, [.ref ap1_routines, .ref ap1_ops, .ref ap1_landings, .ref ap1_calls, .ref ap1_registers, .ref ap1_words])), (ap1_routines, .inr (3, [.int (vp1_routines_width), .ref ap1_routines_cells, .int (vp1_routines_size)])), (ap1_routines_cells, .inl (cy 0, 24, .inl (fp1_routines_cells))), (ap1_ops, .inr (3, [.int (vp1_ops_width), .ref ap1_ops_cells, .int (vp1_ops_size)])), (ap1_ops_cells, .inl (cy 0, 160, .inl (fp1_ops_cells))), (ap1_landings, .inr (3, [.int (vp1_landings_width), .ref ap1_landings_cells, .int (vp1_landings_size)])), (ap1_landings_cells, .inl (cy 0, 80, .inl (fp1_landings_cells))), (ap1_calls, .inr (3, [.int (vp1_calls_width), .ref ap1_calls_cells, .int (vp1_calls_size)])), (ap1_calls_cells, .inl (cy 0, 32, .inl (fp1_calls_cells)))] → va_S A s.heap H locs → lv_has ls 4 [(0, .ref a), (1, .ref ap1), (2, .int (y2))] → f_X4_refuseTooMany_b32 v_tokenFrom vp1_routines_width vp1_routines_size vp1_ops_width vp1_ops_size vp1_landings_width vp1_landings_size vp1_calls_width vp1_calls_size  y2 v_faulty v_faultPlace = some (z_v_faulty, z_v_faultPlace) → W p l e ({ frames := 1, cells := 0, slots := 0, locals := 22 } : Room) s m [.ref a, .ref ap1, .int (x2)].toArray below meth c H locs 0 0 (MQ below (Qv D A [(a, .inr (4, [.ref a_bytes, .int (v_length), .int (z_v_faulty), .int (z_v_faultPlace), .int (v_tokenKind), .int (v_tokenFrom), .int (v_tokenTo), .int (v_tokenNumber), .ref a_operands])), (ap1, .inr (6, [.ref ap1_routines, .ref ap1_ops, .ref ap1_landings, .ref ap1_calls, .ref ap1_registers, .ref ap1_words])), (ap1_routines, .inr (3, [.int (vp1_routines_width), .ref ap1_routines_cells, .int (vp1_routines_size)])), (ap1_routines_cells, .inl (cy 0, 24, .inl (fp1_routines_cells))), (ap1_ops, .inr (3, [.int (vp1_ops_width), .ref ap1_ops_cells, .int (vp1_ops_size)])), (ap1_ops_cells, .inl (cy 0, 160, .inl (fp1_ops_cells))), (ap1_landings, .inr (3, [.int (vp1_landings_width), .ref ap1_landings_cells, .int (vp1_landings_size)])), (ap1_landings_cells, .inl (cy 0, 80, .inl (fp1_landings_cells))), (ap1_calls, .inr (3, [.int (vp1_calls_width), .ref ap1_calls_cells, .int (vp1_calls_size)])), (ap1_calls_cells, .inl (cy 0, 32, .inl (fp1_calls_cells)))]) [.ref a, .ref ap1, .int (x2)].toArray s 0 0 A) (F0 m 32 ls []) := by
    intro y2 v_faulty v_faultPlace H locs ls hP hD hS hl h
    unfold f_X4_refuseTooMany_b32 at h
    refine lv_iconst (v := (0 : Int32)) hx hb dX4_refuseTooMany_32 (by decide) ?_
    exact hb33 (y2) ((0 : Int32)) (v_faulty) (v_faultPlace) H locs ls hP hD hS (lv_sub hl [0, 1, 2] rfl) h
  have main : ∀ (H : Heap) (locs : List Loc) (ls : Array Slot), va_P D vwCl [(a, .inr (4, [.ref a_bytes, .int (v_length), .int (v_faulty), .int (v_faultPlace), .int (v_tokenKind), .int (v_tokenFrom), .int (v_tokenTo), .int (v_tokenNumber), .ref a_operands])), (ap1, .inr (6, [.ref ap1_routines, .ref ap1_ops, .ref ap1_landings, .ref ap1_calls, .ref ap1_registers, .ref ap1_words])), (ap1_routines, .inr (3, [.int (vp1_routines_width), .ref ap1_routines_cells, .int (vp1_routines_size)])), (ap1_routines_cells, .inl (cy 0, 24, .inl (fp1_routines_cells))), (ap1_ops, .inr (3, [.int (vp1_ops_width), .ref ap1_ops_cells, .int (vp1_ops_size)])), (ap1_ops_cells, .inl (cy 0, 160, .inl (fp1_ops_cells))), (ap1_landings, .inr (3, [.int (vp1_landings_width), .ref ap1_landings_cells, .int (vp1_landings_size)])), (ap1_landings_cells, .inl (cy 0, 80, .inl (fp1_landings_cells))), (ap1_calls, .inr (3, [.int (vp1_calls_width), .ref ap1_calls_cells, .int (vp1_calls_size)])), (ap1_calls_cells, .inl (cy 0, 32, .inl (fp1_calls_cells)))] H → va_D A [(a, .inr (4, [.ref a_bytes, .int (v_length), .int (v_faulty), .int (v_faultPlace), .int (v_tokenKind), .int (v_tokenFrom), .int (v_tokenTo), .int (v_tokenNumber), .ref a_operands])), (ap1, .inr (6, [.ref ap1_routines, .ref ap1_ops, .ref ap1_landings, .ref ap1_calls, .ref ap1_registers, .ref ap1_words])), (ap1_routines, .inr (3, [.int (vp1_routines_width), .ref ap1_routines_cells, .int (vp1_routines_size)])), (ap1_routines_cells, .inl (cy 0, 24, .inl (fp1_routines_cells))), (ap1_ops, .inr (3, [.int (vp1_ops_width), .ref ap1_ops_cells, .int (vp1_ops_size)])), (ap1_ops_cells, .inl (cy 0, 160, .inl (fp1_ops_cells))), (ap1_landings, .inr (3, [.int (vp1_landings_width), .ref ap1_landings_cells, .int (vp1_landings_size)])), (ap1_landings_cells, .inl (cy 0, 80, .inl (fp1_landings_cells))), (ap1_calls, .inr (3, [.int (vp1_calls_width), .ref ap1_calls_cells, .int (vp1_calls_size)])), (ap1_calls_cells, .inl (cy 0, 32, .inl (fp1_calls_cells)))] → va_S A s.heap H locs → lv_has ls 4 [(0, .ref a), (1, .ref ap1), (2, .int (x2))] → f_X4_refuseTooMany x2 v_faulty v_faultPlace v_tokenFrom vp1_routines_width vp1_routines_size vp1_ops_width vp1_ops_size vp1_landings_width vp1_landings_size vp1_calls_width vp1_calls_size = some (z_v_faulty, z_v_faultPlace) → W p l e ({ frames := 1, cells := 0, slots := 0, locals := 22 } : Room) s m [.ref a, .ref ap1, .int (x2)].toArray below meth c H locs 0 0 (MQ below (Qv D A [(a, .inr (4, [.ref a_bytes, .int (v_length), .int (z_v_faulty), .int (z_v_faultPlace), .int (v_tokenKind), .int (v_tokenFrom), .int (v_tokenTo), .int (v_tokenNumber), .ref a_operands])), (ap1, .inr (6, [.ref ap1_routines, .ref ap1_ops, .ref ap1_landings, .ref ap1_calls, .ref ap1_registers, .ref ap1_words])), (ap1_routines, .inr (3, [.int (vp1_routines_width), .ref ap1_routines_cells, .int (vp1_routines_size)])), (ap1_routines_cells, .inl (cy 0, 24, .inl (fp1_routines_cells))), (ap1_ops, .inr (3, [.int (vp1_ops_width), .ref ap1_ops_cells, .int (vp1_ops_size)])), (ap1_ops_cells, .inl (cy 0, 160, .inl (fp1_ops_cells))), (ap1_landings, .inr (3, [.int (vp1_landings_width), .ref ap1_landings_cells, .int (vp1_landings_size)])), (ap1_landings_cells, .inl (cy 0, 80, .inl (fp1_landings_cells))), (ap1_calls, .inr (3, [.int (vp1_calls_width), .ref ap1_calls_cells, .int (vp1_calls_size)])), (ap1_calls_cells, .inl (cy 0, 32, .inl (fp1_calls_cells)))]) [.ref a, .ref ap1, .int (x2)].toArray s 0 0 A) (F0 m 0 ls []) := by
    intro H locs ls hP hD hS hl h
    unfold f_X4_refuseTooMany at h
    refine lv_iload_n hx hb dX4_refuseTooMany_0 rfl (lv_at hl 2 rfl) ?_
    refine lv_bipush (v := (8 : Int32)) hx hb dX4_refuseTooMany_1 (by decide) ?_
    refine lv_icmp_eq (tgt := 32) hx hb dX4_refuseTooMany_3 (by decide) (fun c_109 => ?_) (fun c_109 => ?_)
    · have h := ift c_109 h
      exact hb32 (x2) (v_faulty) (v_faultPlace) H locs ls hP hD hS (lv_sub hl [0, 1, 2] rfl) h
    · have h := ifn c_109 h
      refine lv_iload_n hx hb dX4_refuseTooMany_6 rfl (lv_at hl 2 rfl) ?_
      refine lv_bipush (v := (9 : Int32)) hx hb dX4_refuseTooMany_7 (by decide) ?_
      refine lv_icmp_eq (tgt := 32) hx hb dX4_refuseTooMany_9 (by decide) (fun c_110 => ?_) (fun c_110 => ?_)
      · have h := ift c_110 h
        exact hb32 (x2) (v_faulty) (v_faultPlace) H locs ls hP hD hS (lv_sub hl [0, 1, 2] rfl) h
      · have h := ifn c_110 h
        refine lv_iload_n hx hb dX4_refuseTooMany_12 rfl (lv_at hl 2 rfl) ?_
        refine lv_bipush (v := (11 : Int32)) hx hb dX4_refuseTooMany_13 (by decide) ?_
        refine lv_icmp_eq (tgt := 32) hx hb dX4_refuseTooMany_15 (by decide) (fun c_111 => ?_) (fun c_111 => ?_)
        · have h := ift c_111 h
          exact hb32 (x2) (v_faulty) (v_faultPlace) H locs ls hP hD hS (lv_sub hl [0, 1, 2] rfl) h
        · have h := ifn c_111 h
          refine lv_aload_n hx hb dX4_refuseTooMany_18 rfl (lv_at hl 1 rfl) ?_
          refine va_getN (D := D) (ci := 6) (v := .ref ap1_routines) (C := RX6) (T := TX6) (N := 6) hx hb hts hinX6 hown hK.1 hP 1 rfl rfl 0 (by decide) ((hK.2.1 _ (List.mem_of_getElem? (i := 7) rfl)).use rfl) (fun _ h9 => h9) rfl dX4_refuseTooMany_19 ?_
          refine va_getN (D := D) (ci := 3) (v := .int (vp1_routines_size)) (C := RX3) (T := TX3) (N := 3) hx hb hts hinX3 hown hK.1 hP 2 rfl rfl 2 (by decide) ((hK.2.1 _ (List.mem_of_getElem? (i := 3) rfl)).use rfl) (fun _ h9 => h9) rfl dX4_refuseTooMany_22 ?_
          refine lv_if_ne (tgt := 32) hx hb dX4_refuseTooMany_25 (by decide) (fun c_112 => ?_) (fun c_112 => ?_)
          · have h := ifn c_112 h
            exact hb32 (x2) (v_faulty) (v_faultPlace) H locs ls hP hD hS (lv_sub hl [0, 1, 2] rfl) h
          · have h := ift c_112 h
            refine lv_iconst (v := (1 : Int32)) hx hb dX4_refuseTooMany_28 (by decide) ?_
            refine lv_goto (tgt := 33) hx hb dX4_refuseTooMany_29 (by decide) ?_
            exact hb33 (x2) ((1 : Int32)) (v_faulty) (v_faultPlace) H locs ls hP hD hS (lv_sub hl [0, 1, 2] rfl) h
  exact main s.heap [] ls hP hD va_S.rf hl h
theorem hd_X4_isWithin : yX4_isWithin.cls = RX4 ∧ yX4_isWithin.cls ≠ "java/lang/invoke/MethodHandle" ∧ yX4_isWithin.cls ≠ "java/lang/invoke/VarHandle" ∧ (parseMethodDescriptor yX4_isWithin.desc).map (fun d => d.parameters.length) = some 3 := by decide +kernel
def f_X4_isWithin (x1 : Int32) (x2 : Int32) (x3 : Int32) (f_operands : Nat → Int32) : Option (Int32) := (if x3 = (2 : Int32) then (if x2 ≤ 0 then (some ((0 : Int32))) else (cki (x2 - (1 : Int32)) 4 (if x1 < f_operands (x2 - (1 : Int32)).toNatClampNeg then (some ((0 : Int32))) else (if (999 : Int32) < x1 then (some ((0 : Int32))) else (some ((1 : Int32))))))) else (if x3 = (3 : Int32) then (if (99 : Int32) < x1 then (some ((0 : Int32))) else (some ((1 : Int32)))) else (if x3 = (4 : Int32) then (if (10 : Int32) < x1 then (some ((0 : Int32))) else (some ((1 : Int32)))) else (if (999 : Int32) < x1 then (some ((0 : Int32))) else (some ((1 : Int32)))))))
set_option maxHeartbeats 4000000 in
set_option maxRecDepth 100000 in
theorem c_X4_isWithin (l : Launch) (D : va_G) (cy : Nat → ClassId) (a a_bytes a_operands : Nat) (v_length : Int32) (v_faulty : Int32) (v_faultPlace : Int32) (v_tokenKind : Int32) (v_tokenFrom : Int32) (v_tokenTo : Int32) (v_tokenNumber : Int32) (f_operands : Nat → Int32) (x1 : Int32) (x2 : Int32) (x3 : Int32) (res : Int32) (h : f_X4_isWithin x1 x2 x3 f_operands = some res) : Mi l yX4_isWithin wsX4_isWithin ({ frames := 0, cells := 0, slots := 0, locals := 0 } : Room) (KK D cy) D [.ref a, .int (x1), .int (x2), .int (x3)] [(a, .inr (4, [.ref a_bytes, .int (v_length), .int (v_faulty), .int (v_faultPlace), .int (v_tokenKind), .int (v_tokenFrom), .int (v_tokenTo), .int (v_tokenNumber), .ref a_operands])), (a_operands, .inl (cy 0, 4, .inl (f_operands)))] [(a, .inr (4, [.ref a_bytes, .int (v_length), .int (v_faulty), .int (v_faultPlace), .int (v_tokenKind), .int (v_tokenFrom), .int (v_tokenTo), .int (v_tokenNumber), .ref a_operands])), (a_operands, .inl (cy 0, 4, .inl (f_operands)))] res := by
  intro sz
  refine Met.mk0 (cc := cX4_isWithin) (maxL := 4) (ret := (some .boolean)) (Qc := fun A => Qi D A [(a, .inr (4, [.ref a_bytes, .int (v_length), .int (v_faulty), .int (v_faultPlace), .int (v_tokenKind), .int (v_tokenFrom), .int (v_tokenTo), .int (v_tokenNumber), .ref a_operands])), (a_operands, .inl (cy 0, 4, .inl (f_operands)))] res) (by decide) rfl (Nat.le_of_ble_eq_true rfl) ?_
  intro p e s m below meth c A ls hx hb hml hown hts hr hlocks hK hP hD hA hl
  have hown : s.vm.findClass RX4 = some m.cls := hown
  have hl : lv_has ls 4 [(0, .ref a), (1, .int (x1)), (2, .int (x2)), (3, .int (x3))] := hl
  have hinX4 : ∀ w ∈ u_ws RX4 TX4 9, w ∈ wsX4_isWithin := (fun w h => List.mem_cons_of_mem _ (List.mem_append_right _ h))
  have main : ∀ (H : Heap) (locs : List Loc) (ls : Array Slot), va_P D vwCl [(a, .inr (4, [.ref a_bytes, .int (v_length), .int (v_faulty), .int (v_faultPlace), .int (v_tokenKind), .int (v_tokenFrom), .int (v_tokenTo), .int (v_tokenNumber), .ref a_operands])), (a_operands, .inl (cy 0, 4, .inl (f_operands)))] H → va_D A [(a, .inr (4, [.ref a_bytes, .int (v_length), .int (v_faulty), .int (v_faultPlace), .int (v_tokenKind), .int (v_tokenFrom), .int (v_tokenTo), .int (v_tokenNumber), .ref a_operands])), (a_operands, .inl (cy 0, 4, .inl (f_operands)))] → va_S A s.heap H locs → lv_has ls 4 [(0, .ref a), (1, .int (x1)), (2, .int (x2)), (3, .int (x3))] → f_X4_isWithin x1 x2 x3 f_operands = some res → W p l e ({ frames := 0, cells := 0, slots := 0, locals := 0 } : Room) s m [.ref a, .int (x1), .int (x2), .int (x3)].toArray below meth c H locs 0 0 (MQ below (Qi D A [(a, .inr (4, [.ref a_bytes, .int (v_length), .int (v_faulty), .int (v_faultPlace), .int (v_tokenKind), .int (v_tokenFrom), .int (v_tokenTo), .int (v_tokenNumber), .ref a_operands])), (a_operands, .inl (cy 0, 4, .inl (f_operands)))] res) [.ref a, .int (x1), .int (x2), .int (x3)].toArray s 0 0 A) (F0 m 0 ls []) := by
    intro H locs ls hP hD hS hl h
    unfold f_X4_isWithin at h
    refine lv_iload_n hx hb dX4_isWithin_0 rfl (lv_at hl 3 rfl) ?_
    by_cases c_35 : x3 = (2 : Int32)
    · have h := ift c_35 h
      refine lv_tableIn (tgt := 28) hx hb dX4_isWithin_1 (by rw [c_35]; decide) (by rw [c_35]; decide) (by rw [c_35]; rfl) (by decide) ?_
      refine lv_iload_n hx hb dX4_isWithin_28 rfl (lv_at hl 2 rfl) ?_
      refine lv_if_le (tgt := 55) hx hb dX4_isWithin_29 (by decide) (fun c_31 => ?_) (fun c_31 => ?_)
      · have h := ift c_31 h
        refine lv_iconst (v := (0 : Int32)) hx hb dX4_isWithin_55 (by decide) ?_
        have e0 := Option.some.inj h
        exact Mi.retz' hx hb hr hlocks (Or.inl rfl) e0 rfl hP hD hS dX4_isWithin_56
      · have h := ifn c_31 h
        refine lv_iload_n hx hb dX4_isWithin_32 rfl (lv_at hl 1 rfl) ?_
        refine lv_aload_n hx hb dX4_isWithin_33 rfl (lv_at hl 0 rfl) ?_
        refine va_get (D := D) (ci := 4) (v := .ref a_operands) (C := RX4) (T := TX4) (N := 9) hx hb hts hinX4 hown hK.1 hP 0 rfl rfl 8 (by decide) (hts (.fieldLink RX4 37 "FrameWalks$Tape" "operands" "[I") (List.mem_of_getElem? (i := 1) rfl)) (fun _ h9 => h9) rfl dX4_isWithin_34 ?_
        refine lv_iload_n hx hb dX4_isWithin_37 rfl (lv_at hl 2 rfl) ?_
        refine lv_iconst (v := (1 : Int32)) hx hb dX4_isWithin_38 (by decide) ?_
        refine lv_isub hx hb dX4_isWithin_39 ?_
        obtain ⟨i_32, h⟩ := cki_s h
        refine va_iald hx hb hK.1 hP 1 0 rfl rfl i_32 dX4_isWithin_40 ?_
        refine lv_icmp_lt (tgt := 55) hx hb dX4_isWithin_41 (by decide) (fun c_33 => ?_) (fun c_33 => ?_)
        · have h := ift c_33 h
          refine lv_iconst (v := (0 : Int32)) hx hb dX4_isWithin_55 (by decide) ?_
          have e0 := Option.some.inj h
          exact Mi.retz' hx hb hr hlocks (Or.inl rfl) e0 rfl hP hD hS dX4_isWithin_56
        · have h := ifn c_33 h
          refine lv_iload_n hx hb dX4_isWithin_44 rfl (lv_at hl 1 rfl) ?_
          refine lv_sipush (v := (999 : Int32)) hx hb dX4_isWithin_45 (by decide) ?_
          refine lv_icmp_gt (tgt := 55) hx hb dX4_isWithin_48 (by decide) (fun c_34 => ?_) (fun c_34 => ?_)
          · have h := ift c_34 h
            refine lv_iconst (v := (0 : Int32)) hx hb dX4_isWithin_55 (by decide) ?_
            have e0 := Option.some.inj h
            exact Mi.retz' hx hb hr hlocks (Or.inl rfl) e0 rfl hP hD hS dX4_isWithin_56
          · have h := ifn c_34 h
            refine lv_iconst (v := (1 : Int32)) hx hb dX4_isWithin_51 (by decide) ?_
            refine lv_goto (tgt := 56) hx hb dX4_isWithin_52 (by decide) ?_
            have e0 := Option.some.inj h
            exact Mi.retz' hx hb hr hlocks (Or.inr rfl) e0 rfl hP hD hS dX4_isWithin_56
    have h := ifn c_35 h
    by_cases c_37 : x3 = (3 : Int32)
    · have h := ift c_37 h
      refine lv_tableIn (tgt := 57) hx hb dX4_isWithin_1 (by rw [c_37]; decide) (by rw [c_37]; decide) (by rw [c_37]; rfl) (by decide) ?_
      refine lv_iload_n hx hb dX4_isWithin_57 rfl (lv_at hl 1 rfl) ?_
      refine lv_bipush (v := (99 : Int32)) hx hb dX4_isWithin_58 (by decide) ?_
      refine lv_icmp_gt (tgt := 67) hx hb dX4_isWithin_60 (by decide) (fun c_36 => ?_) (fun c_36 => ?_)
      · have h := ift c_36 h
        refine lv_iconst (v := (0 : Int32)) hx hb dX4_isWithin_67 (by decide) ?_
        have e0 := Option.some.inj h
        exact Mi.retz' hx hb hr hlocks (Or.inl rfl) e0 rfl hP hD hS dX4_isWithin_68
      · have h := ifn c_36 h
        refine lv_iconst (v := (1 : Int32)) hx hb dX4_isWithin_63 (by decide) ?_
        refine lv_goto (tgt := 68) hx hb dX4_isWithin_64 (by decide) ?_
        have e0 := Option.some.inj h
        exact Mi.retz' hx hb hr hlocks (Or.inr rfl) e0 rfl hP hD hS dX4_isWithin_68
    have h := ifn c_37 h
    by_cases c_39 : x3 = (4 : Int32)
    · have h := ift c_39 h
      refine lv_tableIn (tgt := 69) hx hb dX4_isWithin_1 (by rw [c_39]; decide) (by rw [c_39]; decide) (by rw [c_39]; rfl) (by decide) ?_
      refine lv_iload_n hx hb dX4_isWithin_69 rfl (lv_at hl 1 rfl) ?_
      refine lv_bipush (v := (10 : Int32)) hx hb dX4_isWithin_70 (by decide) ?_
      refine lv_icmp_gt (tgt := 79) hx hb dX4_isWithin_72 (by decide) (fun c_38 => ?_) (fun c_38 => ?_)
      · have h := ift c_38 h
        refine lv_iconst (v := (0 : Int32)) hx hb dX4_isWithin_79 (by decide) ?_
        have e0 := Option.some.inj h
        exact Mi.retz' hx hb hr hlocks (Or.inl rfl) e0 rfl hP hD hS dX4_isWithin_80
      · have h := ifn c_38 h
        refine lv_iconst (v := (1 : Int32)) hx hb dX4_isWithin_75 (by decide) ?_
        refine lv_goto (tgt := 80) hx hb dX4_isWithin_76 (by decide) ?_
        have e0 := Option.some.inj h
        exact Mi.retz' hx hb hr hlocks (Or.inr rfl) e0 rfl hP hD hS dX4_isWithin_80
    have h := ifn c_39 h
    have hout : (x3).toInt < 2 ∨ 4 < (x3).toInt := by
      have ec_35 := lv_neT (a := 2) c_35 (by decide)
      have ec_37 := lv_neT (a := 3) c_37 (by decide)
      have ec_39 := lv_neT (a := 4) c_39 (by decide)
      omega
    refine lv_tableOut (tgt := 81) hx hb dX4_isWithin_1 hout (by decide) ?_
    refine lv_iload_n hx hb dX4_isWithin_81 rfl (lv_at hl 1 rfl) ?_
    refine lv_sipush (v := (999 : Int32)) hx hb dX4_isWithin_82 (by decide) ?_
    refine lv_icmp_gt (tgt := 92) hx hb dX4_isWithin_85 (by decide) (fun c_40 => ?_) (fun c_40 => ?_)
    · have h := ift c_40 h
      refine lv_iconst (v := (0 : Int32)) hx hb dX4_isWithin_92 (by decide) ?_
      have e0 := Option.some.inj h
      exact Mi.retz' hx hb hr hlocks (Or.inl rfl) e0 rfl hP hD hS dX4_isWithin_93
    · have h := ifn c_40 h
      refine lv_iconst (v := (1 : Int32)) hx hb dX4_isWithin_88 (by decide) ?_
      refine lv_goto (tgt := 93) hx hb dX4_isWithin_89 (by decide) ?_
      have e0 := Option.some.inj h
      exact Mi.retz' hx hb hr hlocks (Or.inr rfl) e0 rfl hP hD hS dX4_isWithin_93
  exact main s.heap [] ls hP hD va_S.rf hl h
theorem hd_X4_registerNamed : yX4_registerNamed.cls = RX4 ∧ yX4_registerNamed.cls ≠ "java/lang/invoke/MethodHandle" ∧ yX4_registerNamed.cls ≠ "java/lang/invoke/VarHandle" ∧ (parseMethodDescriptor yX4_registerNamed.desc).map (fun d => d.parameters.length) = some 0 := by decide +kernel
def f_X4_registerNamed_b51 (v_tokenKind : Int32) (v_tokenFrom : Int32) (v_tokenTo : Int32) (f_bytes : Nat → Int32) (y1 : Int32) : Option (Int32) := (if y1 = (115 : Int32) then (some ((4 : Int32))) else (if y1 = (112 : Int32) then (some ((5 : Int32))) else (some ((-4 : Int32)))))
def f_X4_registerNamed (v_tokenKind : Int32) (v_tokenFrom : Int32) (v_tokenTo : Int32) (f_bytes : Nat → Int32) : Option (Int32) := (if v_tokenKind = (2 : Int32) then (if v_tokenTo - v_tokenFrom = (1 : Int32) then (cki (v_tokenFrom) 320 (if f_bytes (v_tokenFrom).toNatClampNeg < (97 : Int32) then (f_X4_registerNamed_b51 v_tokenKind v_tokenFrom v_tokenTo f_bytes  (f_bytes (v_tokenFrom).toNatClampNeg)) else (if (100 : Int32) < f_bytes (v_tokenFrom).toNatClampNeg then (f_X4_registerNamed_b51 v_tokenKind v_tokenFrom v_tokenTo f_bytes  (f_bytes (v_tokenFrom).toNatClampNeg)) else (some ((f_bytes (v_tokenFrom).toNatClampNeg) - (97 : Int32)))))) else (some ((-4 : Int32)))) else (some ((-4 : Int32))))
set_option maxHeartbeats 4000000 in
set_option maxRecDepth 100000 in
theorem c_X4_registerNamed (l : Launch) (D : va_G) (cy : Nat → ClassId) (a a_bytes a_operands : Nat) (v_length : Int32) (v_faulty : Int32) (v_faultPlace : Int32) (v_tokenKind : Int32) (v_tokenFrom : Int32) (v_tokenTo : Int32) (v_tokenNumber : Int32) (f_bytes : Nat → Int32) (res : Int32) (h : f_X4_registerNamed v_tokenKind v_tokenFrom v_tokenTo f_bytes = some res) : Mi l yX4_registerNamed wsX4_registerNamed ({ frames := 0, cells := 0, slots := 0, locals := 0 } : Room) (KK D cy) D [.ref a] [(a, .inr (4, [.ref a_bytes, .int (v_length), .int (v_faulty), .int (v_faultPlace), .int (v_tokenKind), .int (v_tokenFrom), .int (v_tokenTo), .int (v_tokenNumber), .ref a_operands])), (a_bytes, .inl (cy 0, 320, .inl (f_bytes)))] [(a, .inr (4, [.ref a_bytes, .int (v_length), .int (v_faulty), .int (v_faultPlace), .int (v_tokenKind), .int (v_tokenFrom), .int (v_tokenTo), .int (v_tokenNumber), .ref a_operands])), (a_bytes, .inl (cy 0, 320, .inl (f_bytes)))] res := by
  intro sz
  refine Met.mk0 (cc := cX4_registerNamed) (maxL := 2) (ret := (some .int)) (Qc := fun A => Qi D A [(a, .inr (4, [.ref a_bytes, .int (v_length), .int (v_faulty), .int (v_faultPlace), .int (v_tokenKind), .int (v_tokenFrom), .int (v_tokenTo), .int (v_tokenNumber), .ref a_operands])), (a_bytes, .inl (cy 0, 320, .inl (f_bytes)))] res) (by decide) rfl (Nat.le_of_ble_eq_true rfl) ?_
  intro p e s m below meth c A ls hx hb hml hown hts hr hlocks hK hP hD hA hl
  have hown : s.vm.findClass RX4 = some m.cls := hown
  have hl : lv_has ls 2 [(0, .ref a)] := hl
  have hinX4 : ∀ w ∈ u_ws RX4 TX4 9, w ∈ wsX4_registerNamed := (fun w h => List.mem_cons_of_mem _ (List.mem_append_right _ h))
  have hb51 : ∀ (y1 : Int32) (H : Heap) (locs : List Loc) (ls : Array Slot), va_P D vwCl [(a, .inr (4, [.ref a_bytes, .int (v_length), .int (v_faulty), .int (v_faultPlace), .int (v_tokenKind), .int (v_tokenFrom), .int (v_tokenTo), .int (v_tokenNumber), .ref a_operands])), (a_bytes, .inl (cy 0, 320, .inl (f_bytes)))] H → va_D A [(a, .inr (4, [.ref a_bytes, .int (v_length), .int (v_faulty), .int (v_faultPlace), .int (v_tokenKind), .int (v_tokenFrom), .int (v_tokenTo), .int (v_tokenNumber), .ref a_operands])), (a_bytes, .inl (cy 0, 320, .inl (f_bytes)))] → va_S A s.heap H locs → lv_has ls 2 [(1, .int (y1))] → f_X4_registerNamed_b51 v_tokenKind v_tokenFrom v_tokenTo f_bytes  y1 = some res → W p l e ({ frames := 0, cells := 0, slots := 0, locals := 0 } : Room) s m [.ref a].toArray below meth c H locs 0 0 (MQ below (Qi D A [(a, .inr (4, [.ref a_bytes, .int (v_length), .int (v_faulty), .int (v_faultPlace), .int (v_tokenKind), .int (v_tokenFrom), .int (v_tokenTo), .int (v_tokenNumber), .ref a_operands])), (a_bytes, .inl (cy 0, 320, .inl (f_bytes)))] res) [.ref a].toArray s 0 0 A) (F0 m 51 ls []) := by
    intro y1 H locs ls hP hD hS hl h
    unfold f_X4_registerNamed_b51 at h
    refine lv_iload_n hx hb dX4_registerNamed_51 rfl (lv_at hl 0 rfl) ?_
    refine lv_bipush (v := (115 : Int32)) hx hb dX4_registerNamed_52 (by decide) ?_
    refine lv_icmp_ne (tgt := 59) hx hb dX4_registerNamed_54 (by decide) (fun c_22 => ?_) (fun c_22 => ?_)
    · have h := ifn c_22 h
      refine lv_iload_n hx hb dX4_registerNamed_59 rfl (lv_at hl 0 rfl) ?_
      refine lv_bipush (v := (112 : Int32)) hx hb dX4_registerNamed_60 (by decide) ?_
      refine lv_icmp_ne (tgt := 69) hx hb dX4_registerNamed_62 (by decide) (fun c_23 => ?_) (fun c_23 => ?_)
      · have h := ifn c_23 h
        refine lv_bipush (v := (-4 : Int32)) hx hb dX4_registerNamed_69 (by decide) ?_
        have e0 := Option.some.inj h
        exact Mi.ret' hx hb hr hlocks e0 rfl hP hD hS dX4_registerNamed_71
      · have h := ift c_23 h
        refine lv_iconst (v := (5 : Int32)) hx hb dX4_registerNamed_65 (by decide) ?_
        refine lv_goto (tgt := 71) hx hb dX4_registerNamed_66 (by decide) ?_
        have e0 := Option.some.inj h
        exact Mi.ret' hx hb hr hlocks e0 rfl hP hD hS dX4_registerNamed_71
    · have h := ift c_22 h
      refine lv_iconst (v := (4 : Int32)) hx hb dX4_registerNamed_57 (by decide) ?_
      have e0 := Option.some.inj h
      exact Mi.ret' hx hb hr hlocks e0 rfl hP hD hS dX4_registerNamed_58
  have main : ∀ (H : Heap) (locs : List Loc) (ls : Array Slot), va_P D vwCl [(a, .inr (4, [.ref a_bytes, .int (v_length), .int (v_faulty), .int (v_faultPlace), .int (v_tokenKind), .int (v_tokenFrom), .int (v_tokenTo), .int (v_tokenNumber), .ref a_operands])), (a_bytes, .inl (cy 0, 320, .inl (f_bytes)))] H → va_D A [(a, .inr (4, [.ref a_bytes, .int (v_length), .int (v_faulty), .int (v_faultPlace), .int (v_tokenKind), .int (v_tokenFrom), .int (v_tokenTo), .int (v_tokenNumber), .ref a_operands])), (a_bytes, .inl (cy 0, 320, .inl (f_bytes)))] → va_S A s.heap H locs → lv_has ls 2 [(0, .ref a)] → f_X4_registerNamed v_tokenKind v_tokenFrom v_tokenTo f_bytes = some res → W p l e ({ frames := 0, cells := 0, slots := 0, locals := 0 } : Room) s m [.ref a].toArray below meth c H locs 0 0 (MQ below (Qi D A [(a, .inr (4, [.ref a_bytes, .int (v_length), .int (v_faulty), .int (v_faultPlace), .int (v_tokenKind), .int (v_tokenFrom), .int (v_tokenTo), .int (v_tokenNumber), .ref a_operands])), (a_bytes, .inl (cy 0, 320, .inl (f_bytes)))] res) [.ref a].toArray s 0 0 A) (F0 m 0 ls []) := by
    intro H locs ls hP hD hS hl h
    unfold f_X4_registerNamed at h
    refine lv_aload_n hx hb dX4_registerNamed_0 rfl (lv_at hl 0 rfl) ?_
    refine va_get (D := D) (ci := 4) (v := .int (v_tokenKind)) (C := RX4) (T := TX4) (N := 9) hx hb hts hinX4 hown hK.1 hP 0 rfl rfl 4 (by decide) (hts (.fieldLink RX4 25 "FrameWalks$Tape" "tokenKind" "I") (List.mem_of_getElem? (i := 1) rfl)) (fun _ h9 => h9) rfl dX4_registerNamed_1 ?_
    refine lv_iconst (v := (2 : Int32)) hx hb dX4_registerNamed_4 (by decide) ?_
    refine lv_icmp_ne (tgt := 21) hx hb dX4_registerNamed_5 (by decide) (fun c_24 => ?_) (fun c_24 => ?_)
    · have h := ifn c_24 h
      refine lv_bipush (v := (-4 : Int32)) hx hb dX4_registerNamed_21 (by decide) ?_
      have e0 := Option.some.inj h
      exact Mi.ret' hx hb hr hlocks e0 rfl hP hD hS dX4_registerNamed_23
    · have h := ift c_24 h
      refine lv_aload_n hx hb dX4_registerNamed_8 rfl (lv_at hl 0 rfl) ?_
      refine va_get (D := D) (ci := 4) (v := .int (v_tokenTo)) (C := RX4) (T := TX4) (N := 9) hx hb hts hinX4 hown hK.1 hP 0 rfl rfl 6 (by decide) (hts (.fieldLink RX4 31 "FrameWalks$Tape" "tokenTo" "I") (List.mem_of_getElem? (i := 2) rfl)) (fun _ h9 => h9) rfl dX4_registerNamed_9 ?_
      refine lv_aload_n hx hb dX4_registerNamed_12 rfl (lv_at hl 0 rfl) ?_
      refine va_get (D := D) (ci := 4) (v := .int (v_tokenFrom)) (C := RX4) (T := TX4) (N := 9) hx hb hts hinX4 hown hK.1 hP 0 rfl rfl 5 (by decide) (hts (.fieldLink RX4 28 "FrameWalks$Tape" "tokenFrom" "I") (List.mem_of_getElem? (i := 3) rfl)) (fun _ h9 => h9) rfl dX4_registerNamed_13 ?_
      refine lv_isub hx hb dX4_registerNamed_16 ?_
      refine lv_iconst (v := (1 : Int32)) hx hb dX4_registerNamed_17 (by decide) ?_
      refine lv_icmp_eq (tgt := 24) hx hb dX4_registerNamed_18 (by decide) (fun c_25 => ?_) (fun c_25 => ?_)
      · have h := ift c_25 h
        refine lv_aload_n hx hb dX4_registerNamed_24 rfl (lv_at hl 0 rfl) ?_
        refine va_get (D := D) (ci := 4) (v := .ref a_bytes) (C := RX4) (T := TX4) (N := 9) hx hb hts hinX4 hown hK.1 hP 0 rfl rfl 0 (by decide) (hts (.fieldLink RX4 9 "FrameWalks$Tape" "bytes" "[I") (List.mem_of_getElem? (i := 4) rfl)) (fun _ h9 => h9) rfl dX4_registerNamed_25 ?_
        refine lv_aload_n hx hb dX4_registerNamed_28 rfl (lv_at hl 0 rfl) ?_
        refine va_get (D := D) (ci := 4) (v := .int (v_tokenFrom)) (C := RX4) (T := TX4) (N := 9) hx hb hts hinX4 hown hK.1 hP 0 rfl rfl 5 (by decide) (hts (.fieldLink RX4 28 "FrameWalks$Tape" "tokenFrom" "I") (List.mem_of_getElem? (i := 3) rfl)) (fun _ h9 => h9) rfl dX4_registerNamed_29 ?_
        obtain ⟨i_26, h⟩ := cki_s h
        refine va_iald hx hb hK.1 hP 1 0 rfl rfl i_26 dX4_registerNamed_32 ?_
        refine lv_istore_n (lv' := [(1, .int (f_bytes (v_tokenFrom).toNatClampNeg)), (0, .ref a)]) hx hb dX4_registerNamed_33 rfl hl (by decide) rfl (fun ls hl => ?_)
        refine lv_iload_n hx hb dX4_registerNamed_34 rfl (lv_at hl 0 rfl) ?_
        refine lv_bipush (v := (97 : Int32)) hx hb dX4_registerNamed_35 (by decide) ?_
        refine lv_icmp_lt (tgt := 51) hx hb dX4_registerNamed_37 (by decide) (fun c_27 => ?_) (fun c_27 => ?_)
        · have h := ift c_27 h
          exact hb51 (f_bytes (v_tokenFrom).toNatClampNeg) H locs ls hP hD hS (lv_sub hl [0] rfl) h
        · have h := ifn c_27 h
          refine lv_iload_n hx hb dX4_registerNamed_40 rfl (lv_at hl 0 rfl) ?_
          refine lv_bipush (v := (100 : Int32)) hx hb dX4_registerNamed_41 (by decide) ?_
          refine lv_icmp_gt (tgt := 51) hx hb dX4_registerNamed_43 (by decide) (fun c_28 => ?_) (fun c_28 => ?_)
          · have h := ift c_28 h
            exact hb51 (f_bytes (v_tokenFrom).toNatClampNeg) H locs ls hP hD hS (lv_sub hl [0] rfl) h
          · have h := ifn c_28 h
            refine lv_iload_n hx hb dX4_registerNamed_46 rfl (lv_at hl 0 rfl) ?_
            refine lv_bipush (v := (97 : Int32)) hx hb dX4_registerNamed_47 (by decide) ?_
            refine lv_isub hx hb dX4_registerNamed_49 ?_
            have e0 := Option.some.inj h
            exact Mi.ret' hx hb hr hlocks e0 rfl hP hD hS dX4_registerNamed_50
      · have h := ifn c_25 h
        refine lv_bipush (v := (-4 : Int32)) hx hb dX4_registerNamed_21 (by decide) ?_
        have e0 := Option.some.inj h
        exact Mi.ret' hx hb hr hlocks e0 rfl hP hD hS dX4_registerNamed_23
  exact main s.heap [] ls hP hD va_S.rf hl h
theorem hd_X4_takeOperand : yX4_takeOperand.cls = RX4 ∧ yX4_takeOperand.cls ≠ "java/lang/invoke/MethodHandle" ∧ yX4_takeOperand.cls ≠ "java/lang/invoke/VarHandle" ∧ (parseMethodDescriptor yX4_takeOperand.desc).map (fun d => d.parameters.length) = some 2 := by decide +kernel
def f_X4_takeOperand_b137 (v_tokenKind : Int32) (v_tokenFrom : Int32) (v_tokenTo : Int32) (v_tokenNumber : Int32) (f_bytes : Nat → Int32) (y1 : Int32) (v_faulty : Int32) (v_faultPlace : Int32) (f_operands : Nat → Int32) : Option (Int32 × Int32 × (Nat → Int32)) := (cki (y1) 4 (some (v_faulty, v_faultPlace, upd f_operands (y1).toNatClampNeg (v_tokenNumber))))
def f_X4_takeOperand_b105 (v_tokenKind : Int32) (v_tokenFrom : Int32) (v_tokenTo : Int32) (v_tokenNumber : Int32) (f_bytes : Nat → Int32) (y1 : Int32) (y2 : Int32) (k1 : Int32) (v_faulty : Int32) (v_faultPlace : Int32) (f_operands : Nat → Int32) : Option (Int32 × Int32 × (Nat → Int32)) := (bn2 (f_X4_refuseUnless (k1) (v_faulty) (v_faultPlace) (v_tokenFrom)) (fun m_92 m_93 => (if m_92 = 0 then (bn1 (f_X4_isWithin (v_tokenNumber) (y1) (y2) (f_operands)) (fun r_95 => (if r_95 = 0 then (bn2 (f_X4_refuse ((3 : Int32)) (v_tokenFrom) (m_92) (m_93)) (fun m_97 m_98 => (f_X4_takeOperand_b137 v_tokenKind v_tokenFrom v_tokenTo v_tokenNumber f_bytes  (y1) (m_97) (m_98) (f_operands)))) else (f_X4_takeOperand_b137 v_tokenKind v_tokenFrom v_tokenTo v_tokenNumber f_bytes  (y1) (m_92) (m_93) (f_operands))))) else (f_X4_takeOperand_b137 v_tokenKind v_tokenFrom v_tokenTo v_tokenNumber f_bytes  (y1) (m_92) (m_93) (f_operands)))))
def f_X4_takeOperand_b82 (v_tokenKind : Int32) (v_tokenFrom : Int32) (v_tokenTo : Int32) (v_tokenNumber : Int32) (f_bytes : Nat → Int32) (y1 : Int32) (y4 : Int32) (v_faulty : Int32) (v_faultPlace : Int32) (f_operands : Nat → Int32) : Option (Int32 × Int32 × (Nat → Int32)) := (cki (y1) 4 (some (v_faulty, v_faultPlace, upd f_operands (y1).toNatClampNeg (y4))))
def f_X4_takeOperand_b73 (v_tokenKind : Int32) (v_tokenFrom : Int32) (v_tokenTo : Int32) (v_tokenNumber : Int32) (f_bytes : Nat → Int32) (y1 : Int32) (y4 : Int32) (v_faulty : Int32) (v_faultPlace : Int32) (f_operands : Nat → Int32) : Option (Int32 × Int32 × (Nat → Int32)) := (bn2 (f_X4_refuse ((4 : Int32)) (v_tokenFrom) (v_faulty) (v_faultPlace)) (fun m_103 m_104 => (f_X4_takeOperand_b82 v_tokenKind v_tokenFrom v_tokenTo v_tokenNumber f_bytes  (y1) (y4) (m_103) (m_104) (f_operands))))
def f_X4_takeOperand_b61 (v_tokenKind : Int32) (v_tokenFrom : Int32) (v_tokenTo : Int32) (v_tokenNumber : Int32) (f_bytes : Nat → Int32) (y1 : Int32) (y2 : Int32) (y4 : Int32) (v_faulty : Int32) (v_faultPlace : Int32) (f_operands : Nat → Int32) : Option (Int32 × Int32 × (Nat → Int32)) := (if y2 = (7 : Int32) then (if y4 = (4 : Int32) then (f_X4_takeOperand_b73 v_tokenKind v_tokenFrom v_tokenTo v_tokenNumber f_bytes  (y1) (y4) (v_faulty) (v_faultPlace) (f_operands)) else (f_X4_takeOperand_b82 v_tokenKind v_tokenFrom v_tokenTo v_tokenNumber f_bytes  (y1) (y4) (v_faulty) (v_faultPlace) (f_operands))) else (f_X4_takeOperand_b82 v_tokenKind v_tokenFrom v_tokenTo v_tokenNumber f_bytes  (y1) (y4) (v_faulty) (v_faultPlace) (f_operands)))
def f_X4_takeOperand_b46 (v_tokenKind : Int32) (v_tokenFrom : Int32) (v_tokenTo : Int32) (v_tokenNumber : Int32) (f_bytes : Nat → Int32) (y1 : Int32) (y2 : Int32) (y4 : Int32) (k1 : Int32) (v_faulty : Int32) (v_faultPlace : Int32) (f_operands : Nat → Int32) : Option (Int32 × Int32 × (Nat → Int32)) := (bn2 (f_X4_refuseUnless (k1) (v_faulty) (v_faultPlace) (v_tokenFrom)) (fun m_108 m_109 => (if y2 = (6 : Int32) then (if y4 = (5 : Int32) then (f_X4_takeOperand_b73 v_tokenKind v_tokenFrom v_tokenTo v_tokenNumber f_bytes  (y1) (y4) (m_108) (m_109) (f_operands)) else (f_X4_takeOperand_b61 v_tokenKind v_tokenFrom v_tokenTo v_tokenNumber f_bytes  (y1) (y2) (y4) (m_108) (m_109) (f_operands))) else (f_X4_takeOperand_b61 v_tokenKind v_tokenFrom v_tokenTo v_tokenNumber f_bytes  (y1) (y2) (y4) (m_108) (m_109) (f_operands)))))
def f_X4_takeOperand_b22 (v_tokenKind : Int32) (v_tokenFrom : Int32) (v_tokenTo : Int32) (v_tokenNumber : Int32) (f_bytes : Nat → Int32) (y1 : Int32) (y2 : Int32) (k0 : Int32) (v_faulty : Int32) (v_faultPlace : Int32) (f_operands : Nat → Int32) : Option (Int32 × Int32 × (Nat → Int32)) := (if k0 = 0 then (if v_tokenKind = (3 : Int32) then (f_X4_takeOperand_b105 v_tokenKind v_tokenFrom v_tokenTo v_tokenNumber f_bytes  (y1) (y2) ((1 : Int32)) (v_faulty) (v_faultPlace) (f_operands)) else (f_X4_takeOperand_b105 v_tokenKind v_tokenFrom v_tokenTo v_tokenNumber f_bytes  (y1) (y2) ((0 : Int32)) (v_faulty) (v_faultPlace) (f_operands))) else (bn1 (f_X4_registerNamed (v_tokenKind) (v_tokenFrom) (v_tokenTo) (f_bytes)) (fun r_115 => (if r_115 = (-4 : Int32) then (f_X4_takeOperand_b46 v_tokenKind v_tokenFrom v_tokenTo v_tokenNumber f_bytes  (y1) (y2) (r_115) ((0 : Int32)) (v_faulty) (v_faultPlace) (f_operands)) else (f_X4_takeOperand_b46 v_tokenKind v_tokenFrom v_tokenTo v_tokenNumber f_bytes  (y1) (y2) (r_115) ((1 : Int32)) (v_faulty) (v_faultPlace) (f_operands))))))
def f_X4_takeOperand_b17 (v_tokenKind : Int32) (v_tokenFrom : Int32) (v_tokenTo : Int32) (v_tokenNumber : Int32) (f_bytes : Nat → Int32) (y1 : Int32) (y2 : Int32) (v_faulty : Int32) (v_faultPlace : Int32) (f_operands : Nat → Int32) : Option (Int32 × Int32 × (Nat → Int32)) := (f_X4_takeOperand_b22 v_tokenKind v_tokenFrom v_tokenTo v_tokenNumber f_bytes  (y1) (y2) ((1 : Int32)) (v_faulty) (v_faultPlace) (f_operands))
def f_X4_takeOperand (x1 : Int32) (x2 : Int32) (v_faulty : Int32) (v_faultPlace : Int32) (v_tokenKind : Int32) (v_tokenFrom : Int32) (v_tokenTo : Int32) (v_tokenNumber : Int32) (f_bytes : Nat → Int32) (f_operands : Nat → Int32) : Option (Int32 × Int32 × (Nat → Int32)) := (if x2 = (5 : Int32) then (f_X4_takeOperand_b17 v_tokenKind v_tokenFrom v_tokenTo v_tokenNumber f_bytes  (x1) (x2) (v_faulty) (v_faultPlace) (f_operands)) else (if x2 = (6 : Int32) then (f_X4_takeOperand_b17 v_tokenKind v_tokenFrom v_tokenTo v_tokenNumber f_bytes  (x1) (x2) (v_faulty) (v_faultPlace) (f_operands)) else (if x2 = (7 : Int32) then (f_X4_takeOperand_b17 v_tokenKind v_tokenFrom v_tokenTo v_tokenNumber f_bytes  (x1) (x2) (v_faulty) (v_faultPlace) (f_operands)) else (f_X4_takeOperand_b22 v_tokenKind v_tokenFrom v_tokenTo v_tokenNumber f_bytes  (x1) (x2) ((0 : Int32)) (v_faulty) (v_faultPlace) (f_operands)))))
set_option maxHeartbeats 4000000 in
set_option maxRecDepth 100000 in
theorem c_X4_takeOperand (l : Launch) (D : va_G) (cy : Nat → ClassId) (a a_bytes a_operands : Nat) (v_length : Int32) (v_faulty : Int32) (v_faultPlace : Int32) (v_tokenKind : Int32) (v_tokenFrom : Int32) (v_tokenTo : Int32) (v_tokenNumber : Int32) (f_bytes : Nat → Int32) (f_operands : Nat → Int32) (x1 : Int32) (x2 : Int32) (z_v_faulty : Int32) (z_v_faultPlace : Int32) (z_f_operands : Nat → Int32) (h : f_X4_takeOperand x1 x2 v_faulty v_faultPlace v_tokenKind v_tokenFrom v_tokenTo v_tokenNumber f_bytes f_operands = some (z_v_faulty, z_v_faultPlace, z_f_operands)) : Mv l yX4_takeOperand wsX4_takeOperand ({ frames := 2, cells := 0, slots := 0, locals := 43 } : Room) (KK D cy) D [.ref a, .int (x1), .int (x2)] [(a, .inr (4, [.ref a_bytes, .int (v_length), .int (v_faulty), .int (v_faultPlace), .int (v_tokenKind), .int (v_tokenFrom), .int (v_tokenTo), .int (v_tokenNumber), .ref a_operands])), (a_bytes, .inl (cy 0, 320, .inl (f_bytes))), (a_operands, .inl (cy 0, 4, .inl (f_operands)))] [(a, .inr (4, [.ref a_bytes, .int (v_length), .int (z_v_faulty), .int (z_v_faultPlace), .int (v_tokenKind), .int (v_tokenFrom), .int (v_tokenTo), .int (v_tokenNumber), .ref a_operands])), (a_bytes, .inl (cy 0, 320, .inl (f_bytes))), (a_operands, .inl (cy 0, 4, .inl (z_f_operands)))] := by
  intro sz
  refine Met.mk0 (cc := cX4_takeOperand) (maxL := 5) (ret := none) (Qc := fun A => Qv D A [(a, .inr (4, [.ref a_bytes, .int (v_length), .int (z_v_faulty), .int (z_v_faultPlace), .int (v_tokenKind), .int (v_tokenFrom), .int (v_tokenTo), .int (v_tokenNumber), .ref a_operands])), (a_bytes, .inl (cy 0, 320, .inl (f_bytes))), (a_operands, .inl (cy 0, 4, .inl (z_f_operands)))]) (by decide) rfl (Nat.le_of_ble_eq_true rfl) ?_
  intro p e s m below meth c A ls hx hb hml hown hts hr hlocks hK hP hD hA hl
  have hown : s.vm.findClass RX4 = some m.cls := hown
  have hl : lv_has ls 5 [(0, .ref a), (1, .int (x1)), (2, .int (x2))] := hl
  have hinX4 : ∀ w ∈ u_ws RX4 TX4 9, w ∈ wsX4_takeOperand := (fun w h => List.mem_cons_of_mem _ (List.mem_append_right _ h))
  have hb137 : ∀ (y1 : Int32) (v_faulty : Int32) (v_faultPlace : Int32) (f_operands : Nat → Int32) (H : Heap) (locs : List Loc) (ls : Array Slot), va_P D vwCl [(a, .inr (4, [.ref a_bytes, .int (v_length), .int (v_faulty), .int (v_faultPlace), .int (v_tokenKind), .int (v_tokenFrom), .int (v_tokenTo), .int (v_tokenNumber), .ref a_operands])), (a_bytes, .inl (cy 0, 320, .inl (f_bytes))), (a_operands, .inl (cy 0, 4, .inl (f_operands)))] H → va_D A [(a, .inr (4, [.ref a_bytes, .int (v_length), .int (v_faulty), .int (v_faultPlace), .int (v_tokenKind), .int (v_tokenFrom), .int (v_tokenTo), .int (v_tokenNumber), .ref a_operands])), (a_bytes, .inl (cy 0, 320, .inl (f_bytes))), (a_operands, .inl (cy 0, 4, .inl (f_operands)))] → va_S A s.heap H locs → lv_has ls 5 [(0, .ref a), (1, .int (y1))] → f_X4_takeOperand_b137 v_tokenKind v_tokenFrom v_tokenTo v_tokenNumber f_bytes  y1 v_faulty v_faultPlace f_operands = some (z_v_faulty, z_v_faultPlace, z_f_operands) → W p l e ({ frames := 2, cells := 0, slots := 0, locals := 43 } : Room) s m [.ref a, .int (x1), .int (x2)].toArray below meth c H locs 0 0 (MQ below (Qv D A [(a, .inr (4, [.ref a_bytes, .int (v_length), .int (z_v_faulty), .int (z_v_faultPlace), .int (v_tokenKind), .int (v_tokenFrom), .int (v_tokenTo), .int (v_tokenNumber), .ref a_operands])), (a_bytes, .inl (cy 0, 320, .inl (f_bytes))), (a_operands, .inl (cy 0, 4, .inl (z_f_operands)))]) [.ref a, .int (x1), .int (x2)].toArray s 0 0 A) (F0 m 137 ls []) := by
    intro y1 v_faulty v_faultPlace f_operands H locs ls hP hD hS hl h
    unfold f_X4_takeOperand_b137 at h
    refine lv_aload_n hx hb dX4_takeOperand_137 rfl (lv_at hl 0 rfl) ?_
    refine va_get (D := D) (ci := 4) (v := .ref a_operands) (C := RX4) (T := TX4) (N := 9) hx hb hts hinX4 hown hK.1 hP 0 rfl rfl 8 (by decide) (hts (.fieldLink RX4 37 "FrameWalks$Tape" "operands" "[I") (List.mem_of_getElem? (i := 2) rfl)) (fun _ h9 => h9) rfl dX4_takeOperand_138 ?_
    refine lv_iload_n hx hb dX4_takeOperand_141 rfl (lv_at hl 1 rfl) ?_
    refine lv_aload_n hx hb dX4_takeOperand_142 rfl (lv_at hl 0 rfl) ?_
    refine va_get (D := D) (ci := 4) (v := .int (v_tokenNumber)) (C := RX4) (T := TX4) (N := 9) hx hb hts hinX4 hown hK.1 hP 0 rfl rfl 7 (by decide) (hts (.fieldLink RX4 34 "FrameWalks$Tape" "tokenNumber" "I") (List.mem_of_getElem? (i := 5) rfl)) (fun _ h9 => h9) rfl dX4_takeOperand_143 ?_
    obtain ⟨i_91, h⟩ := cki_s h
    refine va_iast hx hb hK.1 hP hD hS 2 0 rfl rfl i_91 dX4_takeOperand_146 (fun H locs hP hD hS => ?_)
    have hP : va_P D vwCl [(a, .inr (4, [.ref a_bytes, .int (v_length), .int (v_faulty), .int (v_faultPlace), .int (v_tokenKind), .int (v_tokenFrom), .int (v_tokenTo), .int (v_tokenNumber), .ref a_operands])), (a_bytes, .inl (cy 0, 320, .inl (f_bytes))), (a_operands, .inl (cy 0, 4, .inl (upd f_operands (y1).toNatClampNeg (v_tokenNumber))))] H := hP
    have hD : va_D A [(a, .inr (4, [.ref a_bytes, .int (v_length), .int (v_faulty), .int (v_faultPlace), .int (v_tokenKind), .int (v_tokenFrom), .int (v_tokenTo), .int (v_tokenNumber), .ref a_operands])), (a_bytes, .inl (cy 0, 320, .inl (f_bytes))), (a_operands, .inl (cy 0, 4, .inl (upd f_operands (y1).toNatClampNeg (v_tokenNumber))))] := hD
    obtain ⟨e0, e1, e2⟩ := tp3_s h
    exact Mv.ret' hx hb hr hlocks (by rw [← e0, ← e1, ← e2]) hP hD hS dX4_takeOperand_147
  have hb105 : ∀ (y1 : Int32) (y2 : Int32) (k1 : Int32) (v_faulty : Int32) (v_faultPlace : Int32) (f_operands : Nat → Int32) (H : Heap) (locs : List Loc) (ls : Array Slot), va_P D vwCl [(a, .inr (4, [.ref a_bytes, .int (v_length), .int (v_faulty), .int (v_faultPlace), .int (v_tokenKind), .int (v_tokenFrom), .int (v_tokenTo), .int (v_tokenNumber), .ref a_operands])), (a_bytes, .inl (cy 0, 320, .inl (f_bytes))), (a_operands, .inl (cy 0, 4, .inl (f_operands)))] H → va_D A [(a, .inr (4, [.ref a_bytes, .int (v_length), .int (v_faulty), .int (v_faultPlace), .int (v_tokenKind), .int (v_tokenFrom), .int (v_tokenTo), .int (v_tokenNumber), .ref a_operands])), (a_bytes, .inl (cy 0, 320, .inl (f_bytes))), (a_operands, .inl (cy 0, 4, .inl (f_operands)))] → va_S A s.heap H locs → lv_has ls 5 [(0, .ref a), (1, .int (y1)), (2, .int (y2))] → f_X4_takeOperand_b105 v_tokenKind v_tokenFrom v_tokenTo v_tokenNumber f_bytes  y1 y2 k1 v_faulty v_faultPlace f_operands = some (z_v_faulty, z_v_faultPlace, z_f_operands) → W p l e ({ frames := 2, cells := 0, slots := 0, locals := 43 } : Room) s m [.ref a, .int (x1), .int (x2)].toArray below meth c H locs 0 0 (MQ below (Qv D A [(a, .inr (4, [.ref a_bytes, .int (v_length), .int (z_v_faulty), .int (z_v_faultPlace), .int (v_tokenKind), .int (v_tokenFrom), .int (v_tokenTo), .int (v_tokenNumber), .ref a_operands])), (a_bytes, .inl (cy 0, 320, .inl (f_bytes))), (a_operands, .inl (cy 0, 4, .inl (z_f_operands)))]) [.ref a, .int (x1), .int (x2)].toArray s 0 0 A) (F0 m 105 ls [.int (k1), .ref a]) := by
    intro y1 y2 k1 v_faulty v_faultPlace f_operands H locs ls hP hD hS hl h
    unfold f_X4_takeOperand_b105 at h
    obtain ⟨m_92, m_93, hc_101, h⟩ := bn2_s h
    refine call_v (ws1 := [(a, .inr (4, [.ref a_bytes, .int (v_length), .int (m_92), .int (m_93), .int (v_tokenKind), .int (v_tokenFrom), .int (v_tokenTo), .int (v_tokenNumber), .ref a_operands])), (a_bytes, .inl (cy 0, 320, .inl (f_bytes))), (a_operands, .inl (cy 0, 4, .inl (f_operands)))]) (wr := [(a_bytes, .inl (cy 0, 320, .inl (f_bytes))), (a_operands, .inl (cy 0, 4, .inl (f_operands)))]) (run_V ⟨hx, hb, hml, hown, hts⟩ ((c_X4_refuseUnless l D cy a a_bytes a_operands (v_length) (v_faulty) (v_faultPlace) (v_tokenKind) (v_tokenFrom) (v_tokenTo) (v_tokenNumber) (k1) m_92 m_93 hc_101) H.size) (cwV 1 hts gX4_takeOperand_X4_refuseUnless rfl rfl rfl hd_X4_refuseUnless ⟨Nat.le_of_ble_eq_true rfl, Nat.le_of_ble_eq_true rfl⟩) KK.calling (fun U _ hW => hK.warm hW) hK.1 hP hD [0] [1, 2] [2, 0, 1] rfl rfl 0 4 rfl rfl rfl rfl hl.1 rfl (lv_room (Nat.le_of_ble_eq_true rfl)) dX4_takeOperand_105) hP hD hS hA [0] [1, 2] [2, 0, 1] rfl rfl rfl rfl (fun H locs hP hD hS => ?_)
    refine lv_aload_n hx hb dX4_takeOperand_108 rfl (lv_at hl 0 rfl) ?_
    refine va_get (D := D) (ci := 4) (v := .int (m_92)) (C := RX4) (T := TX4) (N := 9) hx hb hts hinX4 hown hK.1 hP 0 rfl rfl 2 (by decide) (hts (.fieldLink RX4 19 "FrameWalks$Tape" "faulty" "I") (List.mem_of_getElem? (i := 4) rfl)) (fun _ h9 => h9) rfl dX4_takeOperand_109 ?_
    refine lv_if_ne (tgt := 137) hx hb dX4_takeOperand_112 (by decide) (fun c_94 => ?_) (fun c_94 => ?_)
    · have h := ifn c_94 h
      exact hb137 (y1) (m_92) (m_93) (f_operands) H locs ls hP hD hS (lv_sub hl [0, 1] rfl) h
    · have h := ift c_94 h
      refine lv_aload_n hx hb dX4_takeOperand_115 rfl (lv_at hl 0 rfl) ?_
      refine lv_aload_n hx hb dX4_takeOperand_116 rfl (lv_at hl 0 rfl) ?_
      refine va_get (D := D) (ci := 4) (v := .int (v_tokenNumber)) (C := RX4) (T := TX4) (N := 9) hx hb hts hinX4 hown hK.1 hP 0 rfl rfl 7 (by decide) (hts (.fieldLink RX4 34 "FrameWalks$Tape" "tokenNumber" "I") (List.mem_of_getElem? (i := 5) rfl)) (fun _ h9 => h9) rfl dX4_takeOperand_117 ?_
      refine lv_iload_n hx hb dX4_takeOperand_120 rfl (lv_at hl 1 rfl) ?_
      refine lv_iload_n hx hb dX4_takeOperand_121 rfl (lv_at hl 2 rfl) ?_
      obtain ⟨r_95, hc_100, h⟩ := bn1_s h
      refine call_i (ws1 := [(a, .inr (4, [.ref a_bytes, .int (v_length), .int (m_92), .int (m_93), .int (v_tokenKind), .int (v_tokenFrom), .int (v_tokenTo), .int (v_tokenNumber), .ref a_operands])), (a_bytes, .inl (cy 0, 320, .inl (f_bytes))), (a_operands, .inl (cy 0, 4, .inl (f_operands)))]) (wr := [(a_bytes, .inl (cy 0, 320, .inl (f_bytes)))]) (run_V ⟨hx, hb, hml, hown, hts⟩ ((c_X4_isWithin l D cy a a_bytes a_operands (v_length) (m_92) (m_93) (v_tokenKind) (v_tokenFrom) (v_tokenTo) (v_tokenNumber) (f_operands) (v_tokenNumber) (y1) (y2) r_95 hc_100) H.size) (cwV 3 hts gX4_takeOperand_X4_isWithin rfl rfl rfl hd_X4_isWithin ⟨Nat.le_of_ble_eq_true rfl, Nat.le_of_ble_eq_true rfl⟩) KK.calling (fun U _ hW => hK.warm hW) hK.1 hP hD [0, 2] [1] [1, 0, 2] rfl rfl 0 4 rfl rfl rfl rfl hl.1 rfl (lv_room (Nat.le_of_ble_eq_true rfl)) dX4_takeOperand_122) hP hD hS hA [0, 2] [1] [1, 0, 2] rfl rfl rfl rfl (fun H locs hP hD hS => ?_)
      refine lv_if_ne (tgt := 137) hx hb dX4_takeOperand_125 (by decide) (fun c_96 => ?_) (fun c_96 => ?_)
      · have h := ifn c_96 h
        exact hb137 (y1) (m_92) (m_93) (f_operands) H locs ls hP hD hS (lv_sub hl [0, 1] rfl) h
      · have h := ift c_96 h
        refine lv_aload_n hx hb dX4_takeOperand_128 rfl (lv_at hl 0 rfl) ?_
        refine lv_iconst (v := (3 : Int32)) hx hb dX4_takeOperand_129 (by decide) ?_
        refine lv_aload_n hx hb dX4_takeOperand_130 rfl (lv_at hl 0 rfl) ?_
        refine va_get (D := D) (ci := 4) (v := .int (v_tokenFrom)) (C := RX4) (T := TX4) (N := 9) hx hb hts hinX4 hown hK.1 hP 0 rfl rfl 5 (by decide) (hts (.fieldLink RX4 28 "FrameWalks$Tape" "tokenFrom" "I") (List.mem_of_getElem? (i := 1) rfl)) (fun _ h9 => h9) rfl dX4_takeOperand_131 ?_
        obtain ⟨m_97, m_98, hc_99, h⟩ := bn2_s h
        refine call_v (ws1 := [(a, .inr (4, [.ref a_bytes, .int (v_length), .int (m_97), .int (m_98), .int (v_tokenKind), .int (v_tokenFrom), .int (v_tokenTo), .int (v_tokenNumber), .ref a_operands])), (a_bytes, .inl (cy 0, 320, .inl (f_bytes))), (a_operands, .inl (cy 0, 4, .inl (f_operands)))]) (wr := [(a_bytes, .inl (cy 0, 320, .inl (f_bytes))), (a_operands, .inl (cy 0, 4, .inl (f_operands)))]) (run_V ⟨hx, hb, hml, hown, hts⟩ ((c_X4_refuse l D cy a a_bytes a_operands (v_length) (m_92) (m_93) (v_tokenKind) (v_tokenFrom) (v_tokenTo) (v_tokenNumber) ((3 : Int32)) (v_tokenFrom) m_97 m_98 hc_99) H.size) (cwV 2 hts gX4_takeOperand_X4_refuse rfl rfl rfl hd_X4_refuse ⟨Nat.le_of_ble_eq_true rfl, Nat.le_of_ble_eq_true rfl⟩) KK.calling (fun U _ hW => hK.warm hW) hK.1 hP hD [0] [1, 2] [2, 0, 1] rfl rfl 0 4 rfl rfl rfl rfl hl.1 rfl (lv_room (Nat.le_of_ble_eq_true rfl)) dX4_takeOperand_134) hP hD hS hA [0] [1, 2] [2, 0, 1] rfl rfl rfl rfl (fun H locs hP hD hS => ?_)
        exact hb137 (y1) (m_97) (m_98) (f_operands) H locs ls hP hD hS (lv_sub hl [0, 1] rfl) h
  have hb82 : ∀ (y1 : Int32) (y4 : Int32) (v_faulty : Int32) (v_faultPlace : Int32) (f_operands : Nat → Int32) (H : Heap) (locs : List Loc) (ls : Array Slot), va_P D vwCl [(a, .inr (4, [.ref a_bytes, .int (v_length), .int (v_faulty), .int (v_faultPlace), .int (v_tokenKind), .int (v_tokenFrom), .int (v_tokenTo), .int (v_tokenNumber), .ref a_operands])), (a_bytes, .inl (cy 0, 320, .inl (f_bytes))), (a_operands, .inl (cy 0, 4, .inl (f_operands)))] H → va_D A [(a, .inr (4, [.ref a_bytes, .int (v_length), .int (v_faulty), .int (v_faultPlace), .int (v_tokenKind), .int (v_tokenFrom), .int (v_tokenTo), .int (v_tokenNumber), .ref a_operands])), (a_bytes, .inl (cy 0, 320, .inl (f_bytes))), (a_operands, .inl (cy 0, 4, .inl (f_operands)))] → va_S A s.heap H locs → lv_has ls 5 [(0, .ref a), (1, .int (y1)), (4, .int (y4))] → f_X4_takeOperand_b82 v_tokenKind v_tokenFrom v_tokenTo v_tokenNumber f_bytes  y1 y4 v_faulty v_faultPlace f_operands = some (z_v_faulty, z_v_faultPlace, z_f_operands) → W p l e ({ frames := 2, cells := 0, slots := 0, locals := 43 } : Room) s m [.ref a, .int (x1), .int (x2)].toArray below meth c H locs 0 0 (MQ below (Qv D A [(a, .inr (4, [.ref a_bytes, .int (v_length), .int (z_v_faulty), .int (z_v_faultPlace), .int (v_tokenKind), .int (v_tokenFrom), .int (v_tokenTo), .int (v_tokenNumber), .ref a_operands])), (a_bytes, .inl (cy 0, 320, .inl (f_bytes))), (a_operands, .inl (cy 0, 4, .inl (z_f_operands)))]) [.ref a, .int (x1), .int (x2)].toArray s 0 0 A) (F0 m 82 ls []) := by
    intro y1 y4 v_faulty v_faultPlace f_operands H locs ls hP hD hS hl h
    unfold f_X4_takeOperand_b82 at h
    refine lv_aload_n hx hb dX4_takeOperand_82 rfl (lv_at hl 0 rfl) ?_
    refine va_get (D := D) (ci := 4) (v := .ref a_operands) (C := RX4) (T := TX4) (N := 9) hx hb hts hinX4 hown hK.1 hP 0 rfl rfl 8 (by decide) (hts (.fieldLink RX4 37 "FrameWalks$Tape" "operands" "[I") (List.mem_of_getElem? (i := 2) rfl)) (fun _ h9 => h9) rfl dX4_takeOperand_83 ?_
    refine lv_iload_n hx hb dX4_takeOperand_86 rfl (lv_at hl 1 rfl) ?_
    refine lv_iload hx hb dX4_takeOperand_87 (lv_at hl 2 rfl) ?_
    obtain ⟨i_102, h⟩ := cki_s h
    refine va_iast hx hb hK.1 hP hD hS 2 0 rfl rfl i_102 dX4_takeOperand_89 (fun H locs hP hD hS => ?_)
    have hP : va_P D vwCl [(a, .inr (4, [.ref a_bytes, .int (v_length), .int (v_faulty), .int (v_faultPlace), .int (v_tokenKind), .int (v_tokenFrom), .int (v_tokenTo), .int (v_tokenNumber), .ref a_operands])), (a_bytes, .inl (cy 0, 320, .inl (f_bytes))), (a_operands, .inl (cy 0, 4, .inl (upd f_operands (y1).toNatClampNeg (y4))))] H := hP
    have hD : va_D A [(a, .inr (4, [.ref a_bytes, .int (v_length), .int (v_faulty), .int (v_faultPlace), .int (v_tokenKind), .int (v_tokenFrom), .int (v_tokenTo), .int (v_tokenNumber), .ref a_operands])), (a_bytes, .inl (cy 0, 320, .inl (f_bytes))), (a_operands, .inl (cy 0, 4, .inl (upd f_operands (y1).toNatClampNeg (y4))))] := hD
    obtain ⟨e0, e1, e2⟩ := tp3_s h
    exact Mv.ret' hx hb hr hlocks (by rw [← e0, ← e1, ← e2]) hP hD hS dX4_takeOperand_90
  have hb73 : ∀ (y1 : Int32) (y4 : Int32) (v_faulty : Int32) (v_faultPlace : Int32) (f_operands : Nat → Int32) (H : Heap) (locs : List Loc) (ls : Array Slot), va_P D vwCl [(a, .inr (4, [.ref a_bytes, .int (v_length), .int (v_faulty), .int (v_faultPlace), .int (v_tokenKind), .int (v_tokenFrom), .int (v_tokenTo), .int (v_tokenNumber), .ref a_operands])), (a_bytes, .inl (cy 0, 320, .inl (f_bytes))), (a_operands, .inl (cy 0, 4, .inl (f_operands)))] H → va_D A [(a, .inr (4, [.ref a_bytes, .int (v_length), .int (v_faulty), .int (v_faultPlace), .int (v_tokenKind), .int (v_tokenFrom), .int (v_tokenTo), .int (v_tokenNumber), .ref a_operands])), (a_bytes, .inl (cy 0, 320, .inl (f_bytes))), (a_operands, .inl (cy 0, 4, .inl (f_operands)))] → va_S A s.heap H locs → lv_has ls 5 [(0, .ref a), (1, .int (y1)), (4, .int (y4))] → f_X4_takeOperand_b73 v_tokenKind v_tokenFrom v_tokenTo v_tokenNumber f_bytes  y1 y4 v_faulty v_faultPlace f_operands = some (z_v_faulty, z_v_faultPlace, z_f_operands) → W p l e ({ frames := 2, cells := 0, slots := 0, locals := 43 } : Room) s m [.ref a, .int (x1), .int (x2)].toArray below meth c H locs 0 0 (MQ below (Qv D A [(a, .inr (4, [.ref a_bytes, .int (v_length), .int (z_v_faulty), .int (z_v_faultPlace), .int (v_tokenKind), .int (v_tokenFrom), .int (v_tokenTo), .int (v_tokenNumber), .ref a_operands])), (a_bytes, .inl (cy 0, 320, .inl (f_bytes))), (a_operands, .inl (cy 0, 4, .inl (z_f_operands)))]) [.ref a, .int (x1), .int (x2)].toArray s 0 0 A) (F0 m 73 ls []) := by
    intro y1 y4 v_faulty v_faultPlace f_operands H locs ls hP hD hS hl h
    unfold f_X4_takeOperand_b73 at h
    refine lv_aload_n hx hb dX4_takeOperand_73 rfl (lv_at hl 0 rfl) ?_
    refine lv_iconst (v := (4 : Int32)) hx hb dX4_takeOperand_74 (by decide) ?_
    refine lv_aload_n hx hb dX4_takeOperand_75 rfl (lv_at hl 0 rfl) ?_
    refine va_get (D := D) (ci := 4) (v := .int (v_tokenFrom)) (C := RX4) (T := TX4) (N := 9) hx hb hts hinX4 hown hK.1 hP 0 rfl rfl 5 (by decide) (hts (.fieldLink RX4 28 "FrameWalks$Tape" "tokenFrom" "I") (List.mem_of_getElem? (i := 1) rfl)) (fun _ h9 => h9) rfl dX4_takeOperand_76 ?_
    obtain ⟨m_103, m_104, hc_105, h⟩ := bn2_s h
    refine call_v (ws1 := [(a, .inr (4, [.ref a_bytes, .int (v_length), .int (m_103), .int (m_104), .int (v_tokenKind), .int (v_tokenFrom), .int (v_tokenTo), .int (v_tokenNumber), .ref a_operands])), (a_bytes, .inl (cy 0, 320, .inl (f_bytes))), (a_operands, .inl (cy 0, 4, .inl (f_operands)))]) (wr := [(a_bytes, .inl (cy 0, 320, .inl (f_bytes))), (a_operands, .inl (cy 0, 4, .inl (f_operands)))]) (run_V ⟨hx, hb, hml, hown, hts⟩ ((c_X4_refuse l D cy a a_bytes a_operands (v_length) (v_faulty) (v_faultPlace) (v_tokenKind) (v_tokenFrom) (v_tokenTo) (v_tokenNumber) ((4 : Int32)) (v_tokenFrom) m_103 m_104 hc_105) H.size) (cwV 2 hts gX4_takeOperand_X4_refuse rfl rfl rfl hd_X4_refuse ⟨Nat.le_of_ble_eq_true rfl, Nat.le_of_ble_eq_true rfl⟩) KK.calling (fun U _ hW => hK.warm hW) hK.1 hP hD [0] [1, 2] [2, 0, 1] rfl rfl 0 4 rfl rfl rfl rfl hl.1 rfl (lv_room (Nat.le_of_ble_eq_true rfl)) dX4_takeOperand_79) hP hD hS hA [0] [1, 2] [2, 0, 1] rfl rfl rfl rfl (fun H locs hP hD hS => ?_)
    exact hb82 (y1) (y4) (m_103) (m_104) (f_operands) H locs ls hP hD hS (lv_sub hl [0, 1, 2] rfl) h
  have hb61 : ∀ (y1 : Int32) (y2 : Int32) (y4 : Int32) (v_faulty : Int32) (v_faultPlace : Int32) (f_operands : Nat → Int32) (H : Heap) (locs : List Loc) (ls : Array Slot), va_P D vwCl [(a, .inr (4, [.ref a_bytes, .int (v_length), .int (v_faulty), .int (v_faultPlace), .int (v_tokenKind), .int (v_tokenFrom), .int (v_tokenTo), .int (v_tokenNumber), .ref a_operands])), (a_bytes, .inl (cy 0, 320, .inl (f_bytes))), (a_operands, .inl (cy 0, 4, .inl (f_operands)))] H → va_D A [(a, .inr (4, [.ref a_bytes, .int (v_length), .int (v_faulty), .int (v_faultPlace), .int (v_tokenKind), .int (v_tokenFrom), .int (v_tokenTo), .int (v_tokenNumber), .ref a_operands])), (a_bytes, .inl (cy 0, 320, .inl (f_bytes))), (a_operands, .inl (cy 0, 4, .inl (f_operands)))] → va_S A s.heap H locs → lv_has ls 5 [(0, .ref a), (1, .int (y1)), (2, .int (y2)), (4, .int (y4))] → f_X4_takeOperand_b61 v_tokenKind v_tokenFrom v_tokenTo v_tokenNumber f_bytes  y1 y2 y4 v_faulty v_faultPlace f_operands = some (z_v_faulty, z_v_faultPlace, z_f_operands) → W p l e ({ frames := 2, cells := 0, slots := 0, locals := 43 } : Room) s m [.ref a, .int (x1), .int (x2)].toArray below meth c H locs 0 0 (MQ below (Qv D A [(a, .inr (4, [.ref a_bytes, .int (v_length), .int (z_v_faulty), .int (z_v_faultPlace), .int (v_tokenKind), .int (v_tokenFrom), .int (v_tokenTo), .int (v_tokenNumber), .ref a_operands])), (a_bytes, .inl (cy 0, 320, .inl (f_bytes))), (a_operands, .inl (cy 0, 4, .inl (z_f_operands)))]) [.ref a, .int (x1), .int (x2)].toArray s 0 0 A) (F0 m 61 ls []) := by
    intro y1 y2 y4 v_faulty v_faultPlace f_operands H locs ls hP hD hS hl h
    unfold f_X4_takeOperand_b61 at h
    refine lv_iload_n hx hb dX4_takeOperand_61 rfl (lv_at hl 2 rfl) ?_
    refine lv_bipush (v := (7 : Int32)) hx hb dX4_takeOperand_62 (by decide) ?_
    refine lv_icmp_ne (tgt := 82) hx hb dX4_takeOperand_64 (by decide) (fun c_106 => ?_) (fun c_106 => ?_)
    · have h := ifn c_106 h
      exact hb82 (y1) (y4) (v_faulty) (v_faultPlace) (f_operands) H locs ls hP hD hS (lv_sub hl [0, 1, 3] rfl) h
    · have h := ift c_106 h
      refine lv_iload hx hb dX4_takeOperand_67 (lv_at hl 3 rfl) ?_
      refine lv_iconst (v := (4 : Int32)) hx hb dX4_takeOperand_69 (by decide) ?_
      refine lv_icmp_ne (tgt := 82) hx hb dX4_takeOperand_70 (by decide) (fun c_107 => ?_) (fun c_107 => ?_)
      · have h := ifn c_107 h
        exact hb82 (y1) (y4) (v_faulty) (v_faultPlace) (f_operands) H locs ls hP hD hS (lv_sub hl [0, 1, 3] rfl) h
      · have h := ift c_107 h
        exact hb73 (y1) (y4) (v_faulty) (v_faultPlace) (f_operands) H locs ls hP hD hS (lv_sub hl [0, 1, 3] rfl) h
  have hb46 : ∀ (y1 : Int32) (y2 : Int32) (y4 : Int32) (k1 : Int32) (v_faulty : Int32) (v_faultPlace : Int32) (f_operands : Nat → Int32) (H : Heap) (locs : List Loc) (ls : Array Slot), va_P D vwCl [(a, .inr (4, [.ref a_bytes, .int (v_length), .int (v_faulty), .int (v_faultPlace), .int (v_tokenKind), .int (v_tokenFrom), .int (v_tokenTo), .int (v_tokenNumber), .ref a_operands])), (a_bytes, .inl (cy 0, 320, .inl (f_bytes))), (a_operands, .inl (cy 0, 4, .inl (f_operands)))] H → va_D A [(a, .inr (4, [.ref a_bytes, .int (v_length), .int (v_faulty), .int (v_faultPlace), .int (v_tokenKind), .int (v_tokenFrom), .int (v_tokenTo), .int (v_tokenNumber), .ref a_operands])), (a_bytes, .inl (cy 0, 320, .inl (f_bytes))), (a_operands, .inl (cy 0, 4, .inl (f_operands)))] → va_S A s.heap H locs → lv_has ls 5 [(0, .ref a), (1, .int (y1)), (2, .int (y2)), (4, .int (y4))] → f_X4_takeOperand_b46 v_tokenKind v_tokenFrom v_tokenTo v_tokenNumber f_bytes  y1 y2 y4 k1 v_faulty v_faultPlace f_operands = some (z_v_faulty, z_v_faultPlace, z_f_operands) → W p l e ({ frames := 2, cells := 0, slots := 0, locals := 43 } : Room) s m [.ref a, .int (x1), .int (x2)].toArray below meth c H locs 0 0 (MQ below (Qv D A [(a, .inr (4, [.ref a_bytes, .int (v_length), .int (z_v_faulty), .int (z_v_faultPlace), .int (v_tokenKind), .int (v_tokenFrom), .int (v_tokenTo), .int (v_tokenNumber), .ref a_operands])), (a_bytes, .inl (cy 0, 320, .inl (f_bytes))), (a_operands, .inl (cy 0, 4, .inl (z_f_operands)))]) [.ref a, .int (x1), .int (x2)].toArray s 0 0 A) (F0 m 46 ls [.int (k1), .ref a]) := by
    intro y1 y2 y4 k1 v_faulty v_faultPlace f_operands H locs ls hP hD hS hl h
    unfold f_X4_takeOperand_b46 at h
    obtain ⟨m_108, m_109, hc_112, h⟩ := bn2_s h
    refine call_v (ws1 := [(a, .inr (4, [.ref a_bytes, .int (v_length), .int (m_108), .int (m_109), .int (v_tokenKind), .int (v_tokenFrom), .int (v_tokenTo), .int (v_tokenNumber), .ref a_operands])), (a_bytes, .inl (cy 0, 320, .inl (f_bytes))), (a_operands, .inl (cy 0, 4, .inl (f_operands)))]) (wr := [(a_bytes, .inl (cy 0, 320, .inl (f_bytes))), (a_operands, .inl (cy 0, 4, .inl (f_operands)))]) (run_V ⟨hx, hb, hml, hown, hts⟩ ((c_X4_refuseUnless l D cy a a_bytes a_operands (v_length) (v_faulty) (v_faultPlace) (v_tokenKind) (v_tokenFrom) (v_tokenTo) (v_tokenNumber) (k1) m_108 m_109 hc_112) H.size) (cwV 1 hts gX4_takeOperand_X4_refuseUnless rfl rfl rfl hd_X4_refuseUnless ⟨Nat.le_of_ble_eq_true rfl, Nat.le_of_ble_eq_true rfl⟩) KK.calling (fun U _ hW => hK.warm hW) hK.1 hP hD [0] [1, 2] [2, 0, 1] rfl rfl 0 4 rfl rfl rfl rfl hl.1 rfl (lv_room (Nat.le_of_ble_eq_true rfl)) dX4_takeOperand_46) hP hD hS hA [0] [1, 2] [2, 0, 1] rfl rfl rfl rfl (fun H locs hP hD hS => ?_)
    refine lv_iload_n hx hb dX4_takeOperand_49 rfl (lv_at hl 2 rfl) ?_
    refine lv_bipush (v := (6 : Int32)) hx hb dX4_takeOperand_50 (by decide) ?_
    refine lv_icmp_ne (tgt := 61) hx hb dX4_takeOperand_52 (by decide) (fun c_110 => ?_) (fun c_110 => ?_)
    · have h := ifn c_110 h
      exact hb61 (y1) (y2) (y4) (m_108) (m_109) (f_operands) H locs ls hP hD hS (lv_sub hl [0, 1, 2, 3] rfl) h
    · have h := ift c_110 h
      refine lv_iload hx hb dX4_takeOperand_55 (lv_at hl 3 rfl) ?_
      refine lv_iconst (v := (5 : Int32)) hx hb dX4_takeOperand_57 (by decide) ?_
      refine lv_icmp_eq (tgt := 73) hx hb dX4_takeOperand_58 (by decide) (fun c_111 => ?_) (fun c_111 => ?_)
      · have h := ift c_111 h
        exact hb73 (y1) (y4) (m_108) (m_109) (f_operands) H locs ls hP hD hS (lv_sub hl [0, 1, 3] rfl) h
      · have h := ifn c_111 h
        exact hb61 (y1) (y2) (y4) (m_108) (m_109) (f_operands) H locs ls hP hD hS (lv_sub hl [0, 1, 2, 3] rfl) h
  have hb22 : ∀ (y1 : Int32) (y2 : Int32) (k0 : Int32) (v_faulty : Int32) (v_faultPlace : Int32) (f_operands : Nat → Int32) (H : Heap) (locs : List Loc) (ls : Array Slot), va_P D vwCl [(a, .inr (4, [.ref a_bytes, .int (v_length), .int (v_faulty), .int (v_faultPlace), .int (v_tokenKind), .int (v_tokenFrom), .int (v_tokenTo), .int (v_tokenNumber), .ref a_operands])), (a_bytes, .inl (cy 0, 320, .inl (f_bytes))), (a_operands, .inl (cy 0, 4, .inl (f_operands)))] H → va_D A [(a, .inr (4, [.ref a_bytes, .int (v_length), .int (v_faulty), .int (v_faultPlace), .int (v_tokenKind), .int (v_tokenFrom), .int (v_tokenTo), .int (v_tokenNumber), .ref a_operands])), (a_bytes, .inl (cy 0, 320, .inl (f_bytes))), (a_operands, .inl (cy 0, 4, .inl (f_operands)))] → va_S A s.heap H locs → lv_has ls 5 [(0, .ref a), (1, .int (y1)), (2, .int (y2))] → f_X4_takeOperand_b22 v_tokenKind v_tokenFrom v_tokenTo v_tokenNumber f_bytes  y1 y2 k0 v_faulty v_faultPlace f_operands = some (z_v_faulty, z_v_faultPlace, z_f_operands) → W p l e ({ frames := 2, cells := 0, slots := 0, locals := 43 } : Room) s m [.ref a, .int (x1), .int (x2)].toArray below meth c H locs 0 0 (MQ below (Qv D A [(a, .inr (4, [.ref a_bytes, .int (v_length), .int (z_v_faulty), .int (z_v_faultPlace), .int (v_tokenKind), .int (v_tokenFrom), .int (v_tokenTo), .int (v_tokenNumber), .ref a_operands])), (a_bytes, .inl (cy 0, 320, .inl (f_bytes))), (a_operands, .inl (cy 0, 4, .inl (z_f_operands)))]) [.ref a, .int (x1), .int (x2)].toArray s 0 0 A) (F0 m 22 ls [.int (k0)]) := by
    intro y1 y2 k0 v_faulty v_faultPlace f_operands H locs ls hP hD hS hl h
    unfold f_X4_takeOperand_b22 at h
    refine lv_istore_n (lv' := [(3, .int (k0)), (0, .ref a), (1, .int (y1)), (2, .int (y2))]) hx hb dX4_takeOperand_22 rfl hl (by decide) rfl (fun ls hl => ?_)
    refine lv_iload_n hx hb dX4_takeOperand_23 rfl (lv_at hl 0 rfl) ?_
    refine lv_if_eq (tgt := 91) hx hb dX4_takeOperand_24 (by decide) (fun c_113 => ?_) (fun c_113 => ?_)
    · have h := ift c_113 h
      refine lv_aload_n hx hb dX4_takeOperand_91 rfl (lv_at hl 1 rfl) ?_
      refine lv_aload_n hx hb dX4_takeOperand_92 rfl (lv_at hl 1 rfl) ?_
      refine va_get (D := D) (ci := 4) (v := .int (v_tokenKind)) (C := RX4) (T := TX4) (N := 9) hx hb hts hinX4 hown hK.1 hP 0 rfl rfl 4 (by decide) (hts (.fieldLink RX4 25 "FrameWalks$Tape" "tokenKind" "I") (List.mem_of_getElem? (i := 3) rfl)) (fun _ h9 => h9) rfl dX4_takeOperand_93 ?_
      refine lv_iconst (v := (3 : Int32)) hx hb dX4_takeOperand_96 (by decide) ?_
      refine lv_icmp_ne (tgt := 104) hx hb dX4_takeOperand_97 (by decide) (fun c_114 => ?_) (fun c_114 => ?_)
      · have h := ifn c_114 h
        refine lv_iconst (v := (0 : Int32)) hx hb dX4_takeOperand_104 (by decide) ?_
        exact hb105 (y1) (y2) ((0 : Int32)) (v_faulty) (v_faultPlace) (f_operands) H locs ls hP hD hS (lv_sub hl [1, 2, 3] rfl) h
      · have h := ift c_114 h
        refine lv_iconst (v := (1 : Int32)) hx hb dX4_takeOperand_100 (by decide) ?_
        refine lv_goto (tgt := 105) hx hb dX4_takeOperand_101 (by decide) ?_
        exact hb105 (y1) (y2) ((1 : Int32)) (v_faulty) (v_faultPlace) (f_operands) H locs ls hP hD hS (lv_sub hl [1, 2, 3] rfl) h
    · have h := ifn c_113 h
      refine lv_aload_n hx hb dX4_takeOperand_27 rfl (lv_at hl 1 rfl) ?_
      obtain ⟨r_115, hc_117, h⟩ := bn1_s h
      refine call_i (ws1 := [(a, .inr (4, [.ref a_bytes, .int (v_length), .int (v_faulty), .int (v_faultPlace), .int (v_tokenKind), .int (v_tokenFrom), .int (v_tokenTo), .int (v_tokenNumber), .ref a_operands])), (a_bytes, .inl (cy 0, 320, .inl (f_bytes))), (a_operands, .inl (cy 0, 4, .inl (f_operands)))]) (wr := [(a_operands, .inl (cy 0, 4, .inl (f_operands)))]) (run_V ⟨hx, hb, hml, hown, hts⟩ ((c_X4_registerNamed l D cy a a_bytes a_operands (v_length) (v_faulty) (v_faultPlace) (v_tokenKind) (v_tokenFrom) (v_tokenTo) (v_tokenNumber) (f_bytes) r_115 hc_117) H.size) (cwV 0 hts gX4_takeOperand_X4_registerNamed rfl rfl rfl hd_X4_registerNamed ⟨Nat.le_of_ble_eq_true rfl, Nat.le_of_ble_eq_true rfl⟩) KK.calling (fun U _ hW => hK.warm hW) hK.1 hP hD [0, 1] [2] [1, 2, 0] rfl rfl 0 4 rfl rfl rfl rfl hl.1 rfl (lv_room (Nat.le_of_ble_eq_true rfl)) dX4_takeOperand_28) hP hD hS hA [0, 1] [2] [1, 2, 0] rfl rfl rfl rfl (fun H locs hP hD hS => ?_)
      refine lv_istore (lv' := [(4, .int (r_115)), (3, .int (k0)), (0, .ref a), (1, .int (y1)), (2, .int (y2))]) hx hb dX4_takeOperand_31 hl (by decide) rfl (fun ls hl => ?_)
      refine lv_aload_n hx hb dX4_takeOperand_33 rfl (lv_at hl 2 rfl) ?_
      refine lv_iload hx hb dX4_takeOperand_34 (lv_at hl 0 rfl) ?_
      refine lv_bipush (v := (-4 : Int32)) hx hb dX4_takeOperand_36 (by decide) ?_
      refine lv_icmp_eq (tgt := 45) hx hb dX4_takeOperand_38 (by decide) (fun c_116 => ?_) (fun c_116 => ?_)
      · have h := ift c_116 h
        refine lv_iconst (v := (0 : Int32)) hx hb dX4_takeOperand_45 (by decide) ?_
        exact hb46 (y1) (y2) (r_115) ((0 : Int32)) (v_faulty) (v_faultPlace) (f_operands) H locs ls hP hD hS (lv_sub hl [2, 3, 4, 0] rfl) h
      · have h := ifn c_116 h
        refine lv_iconst (v := (1 : Int32)) hx hb dX4_takeOperand_41 (by decide) ?_
        refine lv_goto (tgt := 46) hx hb dX4_takeOperand_42 (by decide) ?_
        exact hb46 (y1) (y2) (r_115) ((1 : Int32)) (v_faulty) (v_faultPlace) (f_operands) H locs ls hP hD hS (lv_sub hl [2, 3, 4, 0] rfl) h
  have hb17 : ∀ (y1 : Int32) (y2 : Int32) (v_faulty : Int32) (v_faultPlace : Int32) (f_operands : Nat → Int32) (H : Heap) (locs : List Loc) (ls : Array Slot), va_P D vwCl [(a, .inr (4, [.ref a_bytes, .int (v_length), .int (v_faulty), .int (v_faultPlace), .int (v_tokenKind), .int (v_tokenFrom), .int (v_tokenTo), .int (v_tokenNumber), .ref a_operands])), (a_bytes, .inl (cy 0, 320, .inl (f_bytes))), (a_operands, .inl (cy 0, 4, .inl (f_operands)))] H → va_D A [(a, .inr (4, [.ref a_bytes, .int (v_length), .int (v_faulty), .int (v_faultPlace), .int (v_tokenKind), .int (v_tokenFrom), .int (v_tokenTo), .int (v_tokenNumber), .ref a_operands])), (a_bytes, .inl (cy 0, 320, .inl (f_bytes))), (a_operands, .inl (cy 0, 4, .inl (f_operands)))] → va_S A s.heap H locs → lv_has ls 5 [(0, .ref a), (1, .int (y1)), (2, .int (y2))] → f_X4_takeOperand_b17 v_tokenKind v_tokenFrom v_tokenTo v_tokenNumber f_bytes  y1 y2 v_faulty v_faultPlace f_operands = some (z_v_faulty, z_v_faultPlace, z_f_operands) → W p l e ({ frames := 2, cells := 0, slots := 0, locals := 43 } : Room) s m [.ref a, .int (x1), .int (x2)].toArray below meth c H locs 0 0 (MQ below (Qv D A [(a, .inr (4, [.ref a_bytes, .int (v_length), .int (z_v_faulty), .int (z_v_faultPlace), .int (v_tokenKind), .int (v_tokenFrom), .int (v_tokenTo), .int (v_tokenNumber), .ref a_operands])), (a_bytes, .inl (cy 0, 320, .inl (f_bytes))), (a_operands, .inl (cy 0, 4, .inl (z_f_operands)))]) [.ref a, .int (x1), .int (x2)].toArray s 0 0 A) (F0 m 17 ls []) := by
    intro y1 y2 v_faulty v_faultPlace f_operands H locs ls hP hD hS hl h
    unfold f_X4_takeOperand_b17 at h
    refine lv_iconst (v := (1 : Int32)) hx hb dX4_takeOperand_17 (by decide) ?_
    refine lv_goto (tgt := 22) hx hb dX4_takeOperand_18 (by decide) ?_
    exact hb22 (y1) (y2) ((1 : Int32)) (v_faulty) (v_faultPlace) (f_operands) H locs ls hP hD hS (lv_sub hl [0, 1, 2] rfl) h
  have main : ∀ (H : Heap) (locs : List Loc) (ls : Array Slot), va_P D vwCl [(a, .inr (4, [.ref a_bytes, .int (v_length), .int (v_faulty), .int (v_faultPlace), .int (v_tokenKind), .int (v_tokenFrom), .int (v_tokenTo), .int (v_tokenNumber), .ref a_operands])), (a_bytes, .inl (cy 0, 320, .inl (f_bytes))), (a_operands, .inl (cy 0, 4, .inl (f_operands)))] H → va_D A [(a, .inr (4, [.ref a_bytes, .int (v_length), .int (v_faulty), .int (v_faultPlace), .int (v_tokenKind), .int (v_tokenFrom), .int (v_tokenTo), .int (v_tokenNumber), .ref a_operands])), (a_bytes, .inl (cy 0, 320, .inl (f_bytes))), (a_operands, .inl (cy 0, 4, .inl (f_operands)))] → va_S A s.heap H locs → lv_has ls 5 [(0, .ref a), (1, .int (x1)), (2, .int (x2))] → f_X4_takeOperand x1 x2 v_faulty v_faultPlace v_tokenKind v_tokenFrom v_tokenTo v_tokenNumber f_bytes f_operands = some (z_v_faulty, z_v_faultPlace, z_f_operands) → W p l e ({ frames := 2, cells := 0, slots := 0, locals := 43 } : Room) s m [.ref a, .int (x1), .int (x2)].toArray below meth c H locs 0 0 (MQ below (Qv D A [(a, .inr (4, [.ref a_bytes, .int (v_length), .int (z_v_faulty), .int (z_v_faultPlace), .int (v_tokenKind), .int (v_tokenFrom), .int (v_tokenTo), .int (v_tokenNumber), .ref a_operands])), (a_bytes, .inl (cy 0, 320, .inl (f_bytes))), (a_operands, .inl (cy 0, 4, .inl (z_f_operands)))]) [.ref a, .int (x1), .int (x2)].toArray s 0 0 A) (F0 m 0 ls []) := by
    intro H locs ls hP hD hS hl h
    unfold f_X4_takeOperand at h
    refine lv_iload_n hx hb dX4_takeOperand_0 rfl (lv_at hl 2 rfl) ?_
    refine lv_iconst (v := (5 : Int32)) hx hb dX4_takeOperand_1 (by decide) ?_
    refine lv_icmp_eq (tgt := 17) hx hb dX4_takeOperand_2 (by decide) (fun c_118 => ?_) (fun c_118 => ?_)
    · have h := ift c_118 h
      exact hb17 (x1) (x2) (v_faulty) (v_faultPlace) (f_operands) H locs ls hP hD hS (lv_sub hl [0, 1, 2] rfl) h
    · have h := ifn c_118 h
      refine lv_iload_n hx hb dX4_takeOperand_5 rfl (lv_at hl 2 rfl) ?_
      refine lv_bipush (v := (6 : Int32)) hx hb dX4_takeOperand_6 (by decide) ?_
      refine lv_icmp_eq (tgt := 17) hx hb dX4_takeOperand_8 (by decide) (fun c_119 => ?_) (fun c_119 => ?_)
      · have h := ift c_119 h
        exact hb17 (x1) (x2) (v_faulty) (v_faultPlace) (f_operands) H locs ls hP hD hS (lv_sub hl [0, 1, 2] rfl) h
      · have h := ifn c_119 h
        refine lv_iload_n hx hb dX4_takeOperand_11 rfl (lv_at hl 2 rfl) ?_
        refine lv_bipush (v := (7 : Int32)) hx hb dX4_takeOperand_12 (by decide) ?_
        refine lv_icmp_ne (tgt := 21) hx hb dX4_takeOperand_14 (by decide) (fun c_120 => ?_) (fun c_120 => ?_)
        · have h := ifn c_120 h
          refine lv_iconst (v := (0 : Int32)) hx hb dX4_takeOperand_21 (by decide) ?_
          exact hb22 (x1) (x2) ((0 : Int32)) (v_faulty) (v_faultPlace) (f_operands) H locs ls hP hD hS (lv_sub hl [0, 1, 2] rfl) h
        · have h := ift c_120 h
          exact hb17 (x1) (x2) (v_faulty) (v_faultPlace) (f_operands) H locs ls hP hD hS (lv_sub hl [0, 1, 2] rfl) h
  exact main s.heap [] ls hP hD va_S.rf hl h
