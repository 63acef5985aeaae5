/-! the text: the lines one by one -/
section LINES
variable {L p q : Nat} {bytes tape ends letters st ops : Nat → Int32} {fp tk tf tn ba he to va : Int32} {nR nO nL nC : Int32} {fR fO fL fC : Nat → Int32} {kR kO kL kC : Nat}
theorem ln0 (hT : TpR L bytes tape) (hW : WT nR fR nO fO nL fL nC fC st kR kO kL kC) (hpq : p < q) (hq : q ≤ L) (hk : kO < 40) (hkR : 0 < kR) : OUT L p st (f_X4_tellLine_L20 (nI L) bytes 3 4 5 2 FUEL (nI 0) (nI 0) 0 fp tk tf (nI q) tn ops nR fR nO fO nL fL nC fC) (MM L tape ends letters (f_X8_readOp 0 (nI L) 0 ba (nI q) he to va st tape)) := by
  rw [show FUEL = 4095 + 1 from rfl, rO0_s hW.2.2.1.2.1 hk hW.2.2.1.1 hkR hW.1.1]
  refine beg_e hT hq (L20_op _ (by omega) (by omega) rfl (by decide)) (fun ff0 fp0 tk0 tf0 tt0 tn0 br0 ba0 sp0 he0 to0 va0 hx0 => ?_)
  refine step_n hT hx0 (j := 0) (by omega) (by decide) (by decide) (by decide) (fun x hx => wi3 0 _ x hx) (fun _ _ _ _ _ _ => (L20_no _ (by omega) (by omega) rfl).trans ((L20_no _ (by omega) (by omega) rfl).trans ((L20_no _ (by omega) (by omega) rfl).trans (L20_end _)))) (fun x br1 ba1 hb ⟨pp, hp1, hp2⟩ => by
    exact ⟨_, rfl, fun j hj => SO_f hj⟩) (fun b00 v0 ff1 fp1 tk1 tf1 tt1 tn1 br1 ba1 sp1 he1 to1 va1 v0a v0b hx1 => ?_)
  refine stp_e hT hx1 (by omega) (fun j hj => SO_f hj) (fun z => ?_)
  obtain ⟨fO', e1, e2⟩ := hW.addO (ops := (upd ops 0 v0)) hk hkR (l := 0) (by omega) (v := -4) (n := v0) (by rw [if_neg (by omega)]) (by rw [if_neg (by omega), if_neg (by omega), pk_us]) (Or.inl ⟨rfl, v0a, v0b⟩)
  exact ⟨_, _, _, _, _, _, _, _, _, _, _, _, e1, e2⟩
theorem ln1 (hT : TpR L bytes tape) (hW : WT nR fR nO fO nL fL nC fC st kR kO kL kC) (hpq : p < q) (hq : q ≤ L) (hk : kO < 40) (hkR : 0 < kR) : OUT L p st (f_X4_tellLine_L20 (nI L) bytes 3 4 5 2 FUEL (nI 1) (nI 0) 0 fp tk tf (nI q) tn ops nR fR nO fO nL fL nC fC) (MM L tape ends letters (f_X8_readOp 1 (nI L) 0 ba (nI q) he to va st tape)) := by
  rw [show FUEL = 4095 + 1 from rfl, rO1_s hW.2.2.1.2.1 hk hW.2.2.1.1 hkR hW.1.1]
  refine beg_e hT hq (L20_op _ (by omega) (by omega) rfl (by decide)) (fun ff0 fp0 tk0 tf0 tt0 tn0 br0 ba0 sp0 he0 to0 va0 hx0 => ?_)
  refine step_r hT hx0 (j := 0) (by omega) (Or.inr (Or.inl ⟨rfl, rfl⟩)) (fun _ _ _ _ _ _ => L20_op _ (by omega) (by omega) rfl (by decide)) (fun x br1 ba1 hb ⟨pp, hp1, hp2⟩ => by
    rw [nr_bad hb, bq7]
    exact ⟨_, rfl, fun j hj => SO_f hj⟩) (fun b00 u0 v0 ff1 fp1 tk1 tf1 tt1 tn1 br1 ba1 sp1 he1 to1 va1 u0a u0b v0e hx1 => ?_)
  refine step_n hT hx1 (j := 1) (by omega) (by decide) (by decide) (by decide) (fun x hx => wi3 1 _ x hx) (fun _ _ _ _ _ _ => (L20_no _ (by omega) (by omega) rfl).trans ((L20_no _ (by omega) (by omega) rfl).trans (L20_end _))) (fun x br1 ba1 hb ⟨pp, hp1, hp2⟩ => by
    exact ⟨_, rfl, fun j hj => SO_f hj⟩) (fun b10 v1 ff2 fp2 tk2 tf2 tt2 tn2 br2 ba2 sp2 he2 to2 va2 v1a v1b hx2 => ?_)
  refine stp_e hT hx2 (by omega) (fun j hj => SO_f hj) (fun z => ?_)
  rw [v0e b10]
  obtain ⟨fO', e1, e2⟩ := hW.addO (ops := (upd (upd ops 0 (nI u0)) 1 v1)) hk hkR (l := 1) (by omega) (v := nI u0) (n := v1) (by rw [if_pos (by omega), pk_un (by omega), pk_us]) (by rw [if_neg (by omega), if_pos (by omega), pk_us]) (Or.inr (Or.inl ⟨rfl, show (0 : Int) ≤ (nI u0).toInt by rw [nT (by omega)]; omega, (by have hne : ¬ (nI u0).toInt = 5 := fun y => u0b (by rw [ei]; exact y); rw [nT (by omega)] at hne ⊢; omega), v1a, v1b⟩))
  exact ⟨_, _, _, _, _, _, _, _, _, _, _, _, e1, e2⟩
theorem ln2 (hT : TpR L bytes tape) (hW : WT nR fR nO fO nL fL nC fC st kR kO kL kC) (hpq : p < q) (hq : q ≤ L) (hk : kO < 40) (hkR : 0 < kR) : OUT L p st (f_X4_tellLine_L20 (nI L) bytes 3 4 5 2 FUEL (nI 2) (nI 0) 0 fp tk tf (nI q) tn ops nR fR nO fO nL fL nC fC) (MM L tape ends letters (f_X8_readOp 2 (nI L) 0 ba (nI q) he to va st tape)) := by
  rw [show FUEL = 4095 + 1 from rfl, rO2_s hW.2.2.1.2.1 hk hW.2.2.1.1 hkR hW.1.1]
  refine beg_e hT hq (L20_op _ (by omega) (by omega) rfl (by decide)) (fun ff0 fp0 tk0 tf0 tt0 tn0 br0 ba0 sp0 he0 to0 va0 hx0 => ?_)
  refine step_n hT hx0 (j := 0) (by omega) (by decide) (by decide) (by decide) (fun x hx => wi3 0 _ x hx) (fun _ _ _ _ _ _ => (L20_no _ (by omega) (by omega) rfl).trans ((L20_no _ (by omega) (by omega) rfl).trans ((L20_no _ (by omega) (by omega) rfl).trans (L20_end _)))) (fun x br1 ba1 hb ⟨pp, hp1, hp2⟩ => by
    exact ⟨_, rfl, fun j hj => SO_f hj⟩) (fun b00 v0 ff1 fp1 tk1 tf1 tt1 tn1 br1 ba1 sp1 he1 to1 va1 v0a v0b hx1 => ?_)
  refine stp_e hT hx1 (by omega) (fun j hj => SO_f hj) (fun z => ?_)
  obtain ⟨fO', e1, e2⟩ := hW.addO (ops := (upd ops 0 v0)) hk hkR (l := 2) (by omega) (v := -4) (n := v0) (by rw [if_neg (by omega)]) (by rw [if_neg (by omega), if_neg (by omega), pk_us]) (Or.inr (Or.inr (Or.inl ⟨rfl, v0a, v0b⟩)))
  exact ⟨_, _, _, _, _, _, _, _, _, _, _, _, e1, e2⟩
theorem ln3 (hT : TpR L bytes tape) (hW : WT nR fR nO fO nL fL nC fC st kR kO kL kC) (hpq : p < q) (hq : q ≤ L) (hk : kO < 40) (hkR : 0 < kR) : OUT L p st (f_X4_tellLine_L20 (nI L) bytes 3 4 5 2 FUEL (nI 3) (nI 0) 0 fp tk tf (nI q) tn ops nR fR nO fO nL fL nC fC) (MM L tape ends letters (f_X8_readOp 3 (nI L) 0 ba (nI q) he to va st tape)) := by
  rw [show FUEL = 4095 + 1 from rfl, rO3_s hW.2.2.1.2.1 hk hW.2.2.1.1 hkR hW.1.1]
  refine beg_e hT hq (L20_op _ (by omega) (by omega) rfl (by decide)) (fun ff0 fp0 tk0 tf0 tt0 tn0 br0 ba0 sp0 he0 to0 va0 hx0 => ?_)
  refine step_r hT hx0 (j := 0) (by omega) (Or.inr (Or.inr ⟨rfl, rfl⟩)) (fun _ _ _ _ _ _ => L20_op _ (by omega) (by omega) rfl (by decide)) (fun x br1 ba1 hb ⟨pp, hp1, hp2⟩ => by
    rw [nr_bad hb, bq7]
    exact ⟨_, rfl, fun j hj => SO_f hj⟩) (fun b00 u0 v0 ff1 fp1 tk1 tf1 tt1 tn1 br1 ba1 sp1 he1 to1 va1 u0a u0b v0e hx1 => ?_)
  refine step_n hT hx1 (j := 1) (by omega) (by decide) (by decide) (by decide) (fun x hx => wi3 1 _ x hx) (fun _ _ _ _ _ _ => (L20_no _ (by omega) (by omega) rfl).trans ((L20_no _ (by omega) (by omega) rfl).trans (L20_end _))) (fun x br1 ba1 hb ⟨pp, hp1, hp2⟩ => by
    exact ⟨_, rfl, fun j hj => SO_f hj⟩) (fun b10 v1 ff2 fp2 tk2 tf2 tt2 tn2 br2 ba2 sp2 he2 to2 va2 v1a v1b hx2 => ?_)
  refine stp_e hT hx2 (by omega) (fun j hj => SO_f hj) (fun z => ?_)
  rw [v0e b10]
  obtain ⟨fO', e1, e2⟩ := hW.addO (ops := (upd (upd ops 0 (nI u0)) 1 v1)) hk hkR (l := 3) (by omega) (v := nI u0) (n := v1) (by rw [if_pos (by omega), pk_un (by omega), pk_us]) (by rw [if_neg (by omega), if_pos (by omega), pk_us]) (Or.inr (Or.inr (Or.inr (Or.inl ⟨rfl, show (0 : Int) ≤ (nI u0).toInt by rw [nT (by omega)]; omega, show (nI u0).toInt ≤ 5 by rw [nT (by omega)]; omega, fun y => u0b (by rw [ei]; exact y), v1a, v1b⟩))))
  exact ⟨_, _, _, _, _, _, _, _, _, _, _, _, e1, e2⟩
theorem ln4 (hT : TpR L bytes tape) (hW : WT nR fR nO fO nL fL nC fC st kR kO kL kC) (hpq : p < q) (hq : q ≤ L) (hk : kO < 40) (hkR : 0 < kR) : OUT L p st (f_X4_tellLine_L20 (nI L) bytes 3 4 5 2 FUEL (nI 4) (nI 0) 0 fp tk tf (nI q) tn ops nR fR nO fO nL fL nC fC) (MM L tape ends letters (f_X8_readOp 4 (nI L) 0 ba (nI q) he to va st tape)) := by
  rw [show FUEL = 4095 + 1 from rfl, rO4_s hW.2.2.1.2.1 hk hW.2.2.1.1 hkR hW.1.1]
  refine beg_e hT hq (L20_op _ (by omega) (by omega) rfl (by decide)) (fun ff0 fp0 tk0 tf0 tt0 tn0 br0 ba0 sp0 he0 to0 va0 hx0 => ?_)
  refine step_r hT hx0 (j := 0) (by omega) (Or.inr (Or.inr ⟨rfl, rfl⟩)) (fun _ _ _ _ _ _ => (L20_no _ (by omega) (by omega) rfl).trans ((L20_no _ (by omega) (by omega) rfl).trans ((L20_no _ (by omega) (by omega) rfl).trans (L20_end _)))) (fun x br1 ba1 hb ⟨pp, hp1, hp2⟩ => by
    exact ⟨_, rfl, fun j hj => SO_f hj⟩) (fun b00 u0 v0 ff1 fp1 tk1 tf1 tt1 tn1 br1 ba1 sp1 he1 to1 va1 u0a u0b v0e hx1 => ?_)
  refine stp_e hT hx1 (by omega) (fun j hj => SO_f hj) (fun z => ?_)
  rw [v0e z]
  obtain ⟨fO', e1, e2⟩ := hW.addO (ops := (upd ops 0 (nI u0))) hk hkR (l := 4) (by omega) (v := nI u0) (n := -4) (by rw [if_pos (by omega), pk_us]) (by rw [if_pos (by omega)]) (Or.inr (Or.inr (Or.inr (Or.inr (Or.inl ⟨rfl, show (0 : Int) ≤ (nI u0).toInt by rw [nT (by omega)]; omega, show (nI u0).toInt ≤ 5 by rw [nT (by omega)]; omega, fun y => u0b (by rw [ei]; exact y)⟩)))))
  exact ⟨_, _, _, _, _, _, _, _, _, _, _, _, e1, e2⟩
theorem ln5 (hT : TpR L bytes tape) (hW : WT nR fR nO fO nL fL nC fC st kR kO kL kC) (hpq : p < q) (hq : q ≤ L) (hk : kO < 40) (hkR : 0 < kR) : OUT L p st (f_X4_tellLine_L20 (nI L) bytes 3 4 5 2 FUEL (nI 5) (nI 0) 0 fp tk tf (nI q) tn ops nR fR nO fO nL fL nC fC) (MM L tape ends letters (f_X8_readOp 5 (nI L) 0 ba (nI q) he to va st tape)) := by
  rw [show FUEL = 4095 + 1 from rfl, rO5_s hW.2.2.1.2.1 hk hW.2.2.1.1 hkR hW.1.1]
  refine beg_e hT hq (L20_op _ (by omega) (by omega) rfl (by decide)) (fun ff0 fp0 tk0 tf0 tt0 tn0 br0 ba0 sp0 he0 to0 va0 hx0 => ?_)
  refine step_r hT hx0 (j := 0) (by omega) (Or.inr (Or.inr ⟨rfl, rfl⟩)) (fun _ _ _ _ _ _ => L20_op _ (by omega) (by omega) rfl (by decide)) (fun x br1 ba1 hb ⟨pp, hp1, hp2⟩ => by
    rw [rr_bad hT.1 hp1 hp2 hb, bq7]
    exact ⟨_, rfl, fun j hj => SO_f hj⟩) (fun b00 u0 v0 ff1 fp1 tk1 tf1 tt1 tn1 br1 ba1 sp1 he1 to1 va1 u0a u0b v0e hx1 => ?_)
  refine step_r hT hx1 (j := 1) (by omega) (Or.inl ⟨rfl, rfl⟩) (fun _ _ _ _ _ _ => (L20_no _ (by omega) (by omega) rfl).trans ((L20_no _ (by omega) (by omega) rfl).trans (L20_end _))) (fun x br1 ba1 hb ⟨pp, hp1, hp2⟩ => by
    exact ⟨_, rfl, fun j hj => SO_f hj⟩) (fun b10 u1 v1 ff2 fp2 tk2 tf2 tt2 tn2 br2 ba2 sp2 he2 to2 va2 u1a u1b v1e hx2 => ?_)
  refine stp_e hT hx2 (by omega) (fun j hj => SO_f hj) (fun z => ?_)
  rw [v0e b10]
  rw [v1e z]
  obtain ⟨fO', e1, e2⟩ := hW.addO (ops := (upd (upd ops 0 (nI u0)) 1 (nI u1))) hk hkR (l := 5) (by omega) (v := nI u0) (n := nI u1) (by rw [if_pos (by omega), pk_un (by omega), pk_us]) (by rw [if_neg (by omega), if_pos (by omega), pk_us]) (Or.inr (Or.inr (Or.inr (Or.inr (Or.inr (Or.inl ⟨rfl, show (0 : Int) ≤ (nI u0).toInt by rw [nT (by omega)]; omega, show (nI u0).toInt ≤ 5 by rw [nT (by omega)]; omega, fun y => u0b (by rw [ei]; exact y), (show (0 : Int) ≤ (nI u1).toInt by rw [nT (by omega)]; omega), (show (nI u1).toInt ≤ 5 by rw [nT (by omega)]; omega)⟩))))))
  exact ⟨_, _, _, _, _, _, _, _, _, _, _, _, e1, e2⟩
theorem ln6 (hT : TpR L bytes tape) (hW : WT nR fR nO fO nL fL nC fC st kR kO kL kC) (hpq : p < q) (hq : q ≤ L) (hk : kO < 40) (hkR : 0 < kR) : OUT L p st (f_X4_tellLine_L20 (nI L) bytes 3 4 5 2 FUEL (nI 6) (nI 0) 0 fp tk tf (nI q) tn ops nR fR nO fO nL fL nC fC) (MM L tape ends letters (f_X8_readOp 6 (nI L) 0 ba (nI q) he to va st tape)) := by
  rw [show FUEL = 4095 + 1 from rfl, rO6_s hW.2.2.1.2.1 hk hW.2.2.1.1 hkR hW.1.1]
  refine beg_e hT hq ((L20_no _ (by omega) (by omega) rfl).trans ((L20_no _ (by omega) (by omega) rfl).trans ((L20_no _ (by omega) (by omega) rfl).trans ((L20_no _ (by omega) (by omega) rfl).trans (L20_end _))))) (fun ff0 fp0 tk0 tf0 tt0 tn0 br0 ba0 sp0 he0 to0 va0 hx0 => ?_)
  refine stp_e hT hx0 (by omega) (fun j hj => SO_f hj) (fun z => ?_)
  obtain ⟨fO', e1, e2⟩ := hW.addO (ops := ops) hk hkR (l := 6) (by omega) (v := -4) (n := -4) (by rw [if_neg (by omega)]) (by rw [if_pos (by omega)]) (Or.inr (Or.inr (Or.inr (Or.inr (Or.inr (Or.inr (Or.inl rfl)))))))
  exact ⟨_, _, _, _, _, _, _, _, _, _, _, _, e1, e2⟩
theorem ln7 (hT : TpR L bytes tape) (hW : WT nR fR nO fO nL fL nC fC st kR kO kL kC) (hpq : p < q) (hq : q ≤ L) (hk : kO < 40) (hkR : 0 < kR) : OUT L p st (f_X4_tellLine_L20 (nI L) bytes 3 4 5 2 FUEL (nI 7) (nI 0) 0 fp tk tf (nI q) tn ops nR fR nO fO nL fL nC fC) (MM L tape ends letters (f_X8_readOp 7 (nI L) 0 ba (nI q) he to va st tape)) := by
  rw [show FUEL = 4095 + 1 from rfl, rO7_s hW.2.2.1.2.1 hk hW.2.2.1.1 hkR hW.1.1]
  refine beg_e hT hq ((L20_no _ (by omega) (by omega) rfl).trans ((L20_no _ (by omega) (by omega) rfl).trans ((L20_no _ (by omega) (by omega) rfl).trans ((L20_no _ (by omega) (by omega) rfl).trans (L20_end _))))) (fun ff0 fp0 tk0 tf0 tt0 tn0 br0 ba0 sp0 he0 to0 va0 hx0 => ?_)
  refine stp_e hT hx0 (by omega) (fun j hj => SO_f hj) (fun z => ?_)
  obtain ⟨fO', e1, e2⟩ := hW.addO (ops := ops) hk hkR (l := 7) (by omega) (v := -4) (n := -4) (by rw [if_neg (by omega)]) (by rw [if_pos (by omega)]) (Or.inr (Or.inr (Or.inr (Or.inr (Or.inr (Or.inr (Or.inr rfl)))))))
  exact ⟨_, _, _, _, _, _, _, _, _, _, _, _, e1, e2⟩
theorem ln8 (hT : TpR L bytes tape) (hW : WT nR fR nO fO nL fL nC fC st kR kO kL kC) (hpq : p < q) (hq : q ≤ L) (hk : kR < 8) : OUT L p st (f_X4_tellLine_L20 (nI L) bytes 3 4 5 2 FUEL (nI 8) (nI 0) 0 fp tk tf (nI q) tn ops nR fR nO fO nL fL nC fC) (MM L tape ends letters (f_X8_readRoutine 0 (nI L) 0 ba (nI q) he to va st tape)) := by
  rw [show FUEL = 4095 + 1 from rfl, rR_s 0 hW.2.2.1.1 hk]
  refine beg_e hT hq (L20_op _ (by omega) (by omega) rfl (by decide)) (fun ff0 fp0 tk0 tf0 tt0 tn0 br0 ba0 sp0 he0 to0 va0 hx0 => ?_)
  refine step_n hT hx0 (j := 0) (by omega) (by decide) (by decide) (by decide) (fun x hx => wi1 0 _ x hx) (fun _ _ _ _ _ _ => L20_op _ (by omega) (by omega) rfl (by decide)) (fun x br1 ba1 hb ⟨pp, hp1, hp2⟩ => by
    rw [nr_bad hb, bq7]
    exact ⟨_, rfl, fun j hj => SR_f hj⟩) (fun b00 v0 ff1 fp1 tk1 tf1 tt1 tn1 br1 ba1 sp1 he1 to1 va1 v0a v0b hx1 => ?_)
  refine step_n hT hx1 (j := 1) (by omega) (by decide) (by decide) (by decide) (fun x _ => wi2 _ _ x) (fun _ _ _ _ _ _ => (L20_no _ (by omega) (by omega) rfl).trans ((L20_no _ (by omega) (by omega) rfl).trans (L20_end _))) (fun x br1 ba1 hb ⟨pp, hp1, hp2⟩ => by
    exact ⟨_, rfl, fun j hj => SR_f hj⟩) (fun b10 v1 ff2 fp2 tk2 tf2 tt2 tn2 br2 ba2 sp2 he2 to2 va2 v1a v1b hx2 => ?_)
  refine stp_e hT hx2 (by omega) (fun j hj => SR_f hj) (fun z => ?_)
  obtain ⟨fR', e1, e2⟩ := hW.addR (ops := upd (upd ops 0 v0) 1 v1) hk (l := 8) (Or.inl rfl) (a := v0) (b := v1) (x := 0) (by rw [pk_un (by omega), pk_us]) (by rw [pk_us]) v0a v1a v1b rfl
  exact ⟨_, _, _, _, _, _, _, _, _, _, _, _, e1, e2⟩
theorem ln9 (hT : TpR L bytes tape) (hW : WT nR fR nO fO nL fL nC fC st kR kO kL kC) (hpq : p < q) (hq : q ≤ L) (hk : kR < 8) : OUT L p st (f_X4_tellLine_L20 (nI L) bytes 3 4 5 2 FUEL (nI 9) (nI 0) 0 fp tk tf (nI q) tn ops nR fR nO fO nL fL nC fC) (MM L tape ends letters (f_X8_readRoutine 1 (nI L) 0 ba (nI q) he to va st tape)) := by
  rw [show FUEL = 4095 + 1 from rfl, rR_s 1 hW.2.2.1.1 hk]
  refine beg_e hT hq (L20_op _ (by omega) (by omega) rfl (by decide)) (fun ff0 fp0 tk0 tf0 tt0 tn0 br0 ba0 sp0 he0 to0 va0 hx0 => ?_)
  refine step_n hT hx0 (j := 0) (by omega) (by decide) (by decide) (by decide) (fun x hx => wi1 0 _ x hx) (fun _ _ _ _ _ _ => L20_op _ (by omega) (by omega) rfl (by decide)) (fun x br1 ba1 hb ⟨pp, hp1, hp2⟩ => by
    rw [nr_bad hb, bq7]
    exact ⟨_, rfl, fun j hj => SR_f hj⟩) (fun b00 v0 ff1 fp1 tk1 tf1 tt1 tn1 br1 ba1 sp1 he1 to1 va1 v0a v0b hx1 => ?_)
  refine step_n hT hx1 (j := 1) (by omega) (by decide) (by decide) (by decide) (fun x _ => wi2 _ _ x) (fun _ _ _ _ _ _ => (L20_no _ (by omega) (by omega) rfl).trans ((L20_no _ (by omega) (by omega) rfl).trans (L20_end _))) (fun x br1 ba1 hb ⟨pp, hp1, hp2⟩ => by
    exact ⟨_, rfl, fun j hj => SR_f hj⟩) (fun b10 v1 ff2 fp2 tk2 tf2 tt2 tn2 br2 ba2 sp2 he2 to2 va2 v1a v1b hx2 => ?_)
  refine stp_e hT hx2 (by omega) (fun j hj => SR_f hj) (fun z => ?_)
  obtain ⟨fR', e1, e2⟩ := hW.addR (ops := upd (upd ops 0 v0) 1 v1) hk (l := 9) (Or.inr rfl) (a := v0) (b := v1) (x := 1) (by rw [pk_un (by omega), pk_us]) (by rw [pk_us]) v0a v1a v1b rfl
  exact ⟨_, _, _, _, _, _, _, _, _, _, _, _, e1, e2⟩
theorem ln10 (hT : TpR L bytes tape) (hW : WT nR fR nO fO nL fL nC fC st kR kO kL kC) (hpq : p < q) (hq : q ≤ L) (hk : kL < 16) (hkR : 0 < kR) : OUT L p st (f_X4_tellLine_L20 (nI L) bytes 3 4 5 2 FUEL (nI 10) (nI 0) 0 fp tk tf (nI q) tn ops nR fR nO fO nL fL nC fC) (MM L tape ends letters (f_X8_readLanding (nI L) 0 ba (nI q) he to va st tape)) := by
  rw [show FUEL = 4095 + 1 from rfl, rL_s hW.2.2.1.2.2.1 hk hW.2.2.1.1 hkR hW.1.1]
  refine beg_e hT hq (L20_op _ (by omega) (by omega) rfl (by decide)) (fun ff0 fp0 tk0 tf0 tt0 tn0 br0 ba0 sp0 he0 to0 va0 hx0 => ?_)
  refine step_n hT hx0 (j := 0) (by omega) (by decide) (by decide) (by decide) (fun x hx => wi1 0 _ x hx) (fun _ _ _ _ _ _ => L20_op _ (by omega) (by omega) rfl (by decide)) (fun x br1 ba1 hb ⟨pp, hp1, hp2⟩ => by
    rw [nr_bad hb, bq7, nr_bad hb, bq7, nr_bad hb, bq7]
    exact ⟨_, rfl, fun j hj => SL_f hj⟩) (fun b00 v0 ff1 fp1 tk1 tf1 tt1 tn1 br1 ba1 sp1 he1 to1 va1 v0a v0b hx1 => ?_)
  refine step_n hT hx1 (j := 1) (by omega) (by decide) (by decide) (by decide) (fun x _ => wi2 _ _ x) (fun _ _ _ _ _ _ => L20_op _ (by omega) (by omega) rfl (by decide)) (fun x br1 ba1 hb ⟨pp, hp1, hp2⟩ => by
    rw [nr_bad hb, bq7, nr_bad hb, bq7]
    exact ⟨_, rfl, fun j hj => SL_f hj⟩) (fun b10 v1 ff2 fp2 tk2 tf2 tt2 tn2 br2 ba2 sp2 he2 to2 va2 v1a v1b hx2 => ?_)
  refine step_n hT hx2 (j := 2) (by omega) (by decide) (by decide) (by decide) (fun x hx => wi4 2 _ x hx) (fun _ _ _ _ _ _ => L20_op _ (by omega) (by omega) rfl (by decide)) (fun x br1 ba1 hb ⟨pp, hp1, hp2⟩ => by
    rw [nr_bad hb, bq7]
    exact ⟨_, rfl, fun j hj => SL_f hj⟩) (fun b20 v2 ff3 fp3 tk3 tf3 tt3 tn3 br3 ba3 sp3 he3 to3 va3 v2a v2b hx3 => ?_)
  refine step_n hT hx3 (j := 3) (by omega) (by decide) (by decide) (by decide) (fun x hx => wi1 3 _ x hx) (fun _ _ _ _ _ _ => L20_end _) (fun x br1 ba1 hb ⟨pp, hp1, hp2⟩ => by
    exact ⟨_, rfl, fun j hj => SL_f hj⟩) (fun b30 v3 ff4 fp4 tk4 tf4 tt4 tn4 br4 ba4 sp4 he4 to4 va4 v3a v3b hx4 => ?_)
  refine stp_e hT hx4 (by omega) (fun j hj => SL_f hj) (fun z => ?_)
  obtain ⟨fL', e1, e2⟩ := hW.addL (ops := upd (upd (upd (upd ops 0 v0) 1 v1) 2 v2) 3 v3) hk hkR
  have h0 : upd (upd (upd (upd ops 0 v0) 1 v1) 2 v2) 3 v3 0 = v0 := by rw [pk_un (by omega), pk_un (by omega), pk_un (by omega), pk_us]
  have h1 : upd (upd (upd (upd ops 0 v0) 1 v1) 2 v2) 3 v3 1 = v1 := by rw [pk_un (by omega), pk_un (by omega), pk_us]
  have h2 : upd (upd (upd (upd ops 0 v0) 1 v1) 2 v2) 3 v3 2 = v2 := by rw [pk_un (by omega), pk_us]
  have h3 : upd (upd (upd (upd ops 0 v0) 1 v1) 2 v2) 3 v3 3 = v3 := pk_us
  rw [h0, h1, h2, h3] at e2
  exact ⟨_, _, _, _, _, _, _, _, _, _, _, _, e1, e2⟩
theorem ln11 (hT : TpR L bytes tape) (hW : WT nR fR nO fO nL fL nC fC st kR kO kL kC) (hpq : p < q) (hq : q ≤ L) (hk : kC < 16) : OUT L p st (f_X4_tellLine_L20 (nI L) bytes 3 4 5 2 FUEL (nI 11) (nI 0) 0 fp tk tf (nI q) tn ops nR fR nO fO nL fL nC fC) (MM L tape ends letters (f_X8_readCall (nI L) 0 ba (nI q) he to va st tape)) := by
  rw [show FUEL = 4095 + 1 from rfl, rC_s hW.2.2.1.2.2.2 hk]
  refine beg_e hT hq (L20_op _ (by omega) (by omega) rfl (by decide)) (fun ff0 fp0 tk0 tf0 tt0 tn0 br0 ba0 sp0 he0 to0 va0 hx0 => ?_)
  refine step_n hT hx0 (j := 0) (by omega) (by decide) (by decide) (by decide) (fun x hx => wi1 0 _ x hx) (fun _ _ _ _ _ _ => L20_op _ (by omega) (by omega) rfl (by decide)) (fun x br1 ba1 hb ⟨pp, hp1, hp2⟩ => by
    rw [nr_bad hb, bq7]
    exact ⟨_, rfl, fun j hj => SC_f hj⟩) (fun b00 v0 ff1 fp1 tk1 tf1 tt1 tn1 br1 ba1 sp1 he1 to1 va1 v0a v0b hx1 => ?_)
  refine step_n hT hx1 (j := 1) (by omega) (by decide) (by decide) (by decide) (fun x hx => wi1 1 _ x hx) (fun _ _ _ _ _ _ => (L20_no _ (by omega) (by omega) rfl).trans ((L20_no _ (by omega) (by omega) rfl).trans (L20_end _))) (fun x br1 ba1 hb ⟨pp, hp1, hp2⟩ => by
    exact ⟨_, rfl, fun j hj => SC_f hj⟩) (fun b10 v1 ff2 fp2 tk2 tf2 tt2 tn2 br2 ba2 sp2 he2 to2 va2 v1a v1b hx2 => ?_)
  refine stp_e hT hx2 (by omega) (fun j hj => SC_f hj) (fun z => ?_)
  obtain ⟨fC', e1, e2⟩ := hW.addC (ops := upd (upd ops 0 v0) 1 v1) hk
  have h0 : upd (upd ops 0 v0) 1 v1 0 = v0 := by rw [pk_un (by omega), pk_us]
  have h1 : upd (upd ops 0 v0) 1 v1 1 = v1 := pk_us
  rw [h0, h1] at e2
  exact ⟨_, _, _, _, _, _, _, _, _, _, _, _, e1, e2⟩
theorem rtm0 (h : kR ≤ 8 ∧ kO ≤ 40 ∧ kL ≤ 16 ∧ kC ≤ 16) : f_X4_refuseTooMany (nI 0) 0 fp tf 3 (nI kR) 4 (nI kO) 5 (nI kL) 2 (nI kC) = if kO = 40 ∨ kR = 0 then some (5, tf) else some (0, fp) := by
  have fu : f_X3_isFull (4 : Int32) (nI kO) 160 = some (if (kO + 1) * 4 ≤ 160 then 0 else 1) := full_e (w := 4) (by omega) (by omega) (by omega)
  have b33 : f_X4_refuseTooMany_b33 tf 3 (nI kR) 4 (nI kO) 5 (nI kL) 2 (nI kC) (nI 0) 0 0 fp = if kO = 40 then some (5, tf) else some (0, fp) := by
    unfold f_X4_refuseTooMany_b33 f_X4_refuseTooMany_b49
    rw [if_pos rfl, if_neg (show ¬ (nI 0 = 8 ∨ nI 0 = 9) by decide), if_neg (show ¬ nI 0 = 10 by decide), if_neg (show ¬ nI 0 = 11 by decide), fu, bq1]
    by_cases c : kO = 40
    · rw [if_neg (show ¬ (kO + 1) * 4 ≤ 160 by omega), if_neg (show ¬ (1 : Int32) = 0 by decide), if_pos c]; rfl
    · rw [if_pos (show (kO + 1) * 4 ≤ 160 by omega), if_pos rfl, if_neg c]
  unfold f_X4_refuseTooMany f_X4_refuseTooMany_b32
  rw [if_neg (show ¬ nI 0 = 8 by decide), if_neg (show ¬ nI 0 = 9 by decide), if_neg (show ¬ nI 0 = 11 by decide), b33]
  by_cases r0 : kR = 0
  · rw [if_pos (show nI kR = 0 by rw [r0]; rfl), if_pos (Or.inr r0)]; rfl
  · rw [if_neg (show ¬ nI kR = 0 from fun z => r0 (by rw [ei, l0, nT (by omega)] at z; omega))]
    by_cases c : kO = 40
    · rw [if_pos c, if_pos (Or.inl c)]
    · rw [if_neg c, if_neg (fun z => z.elim c r0)]
theorem rtm1 (h : kR ≤ 8 ∧ kO ≤ 40 ∧ kL ≤ 16 ∧ kC ≤ 16) : f_X4_refuseTooMany (nI 1) 0 fp tf 3 (nI kR) 4 (nI kO) 5 (nI kL) 2 (nI kC) = if kO = 40 ∨ kR = 0 then some (5, tf) else some (0, fp) := by
  have fu : f_X3_isFull (4 : Int32) (nI kO) 160 = some (if (kO + 1) * 4 ≤ 160 then 0 else 1) := full_e (w := 4) (by omega) (by omega) (by omega)
  have b33 : f_X4_refuseTooMany_b33 tf 3 (nI kR) 4 (nI kO) 5 (nI kL) 2 (nI kC) (nI 1) 0 0 fp = if kO = 40 then some (5, tf) else some (0, fp) := by
    unfold f_X4_refuseTooMany_b33 f_X4_refuseTooMany_b49
    rw [if_pos rfl, if_neg (show ¬ (nI 1 = 8 ∨ nI 1 = 9) by decide), if_neg (show ¬ nI 1 = 10 by decide), if_neg (show ¬ nI 1 = 11 by decide), fu, bq1]
    by_cases c : kO = 40
    · rw [if_neg (show ¬ (kO + 1) * 4 ≤ 160 by omega), if_neg (show ¬ (1 : Int32) = 0 by decide), if_pos c]; rfl
    · rw [if_pos (show (kO + 1) * 4 ≤ 160 by omega), if_pos rfl, if_neg c]
  unfold f_X4_refuseTooMany f_X4_refuseTooMany_b32
  rw [if_neg (show ¬ nI 1 = 8 by decide), if_neg (show ¬ nI 1 = 9 by decide), if_neg (show ¬ nI 1 = 11 by decide), b33]
  by_cases r0 : kR = 0
  · rw [if_pos (show nI kR = 0 by rw [r0]; rfl), if_pos (Or.inr r0)]; rfl
  · rw [if_neg (show ¬ nI kR = 0 from fun z => r0 (by rw [ei, l0, nT (by omega)] at z; omega))]
    by_cases c : kO = 40
    · rw [if_pos c, if_pos (Or.inl c)]
    · rw [if_neg c, if_neg (fun z => z.elim c r0)]
theorem rtm2 (h : kR ≤ 8 ∧ kO ≤ 40 ∧ kL ≤ 16 ∧ kC ≤ 16) : f_X4_refuseTooMany (nI 2) 0 fp tf 3 (nI kR) 4 (nI kO) 5 (nI kL) 2 (nI kC) = if kO = 40 ∨ kR = 0 then some (5, tf) else some (0, fp) := by
  have fu : f_X3_isFull (4 : Int32) (nI kO) 160 = some (if (kO + 1) * 4 ≤ 160 then 0 else 1) := full_e (w := 4) (by omega) (by omega) (by omega)
  have b33 : f_X4_refuseTooMany_b33 tf 3 (nI kR) 4 (nI kO) 5 (nI kL) 2 (nI kC) (nI 2) 0 0 fp = if kO = 40 then some (5, tf) else some (0, fp) := by
    unfold f_X4_refuseTooMany_b33 f_X4_refuseTooMany_b49
    rw [if_pos rfl, if_neg (show ¬ (nI 2 = 8 ∨ nI 2 = 9) by decide), if_neg (show ¬ nI 2 = 10 by decide), if_neg (show ¬ nI 2 = 11 by decide), fu, bq1]
    by_cases c : kO = 40
    · rw [if_neg (show ¬ (kO + 1) * 4 ≤ 160 by omega), if_neg (show ¬ (1 : Int32) = 0 by decide), if_pos c]; rfl
    · rw [if_pos (show (kO + 1) * 4 ≤ 160 by omega), if_pos rfl, if_neg c]
  unfold f_X4_refuseTooMany f_X4_refuseTooMany_b32
  rw [if_neg (show ¬ nI 2 = 8 by decide), if_neg (show ¬ nI 2 = 9 by decide), if_neg (show ¬ nI 2 = 11 by decide), b33]
  by_cases r0 : kR = 0
  · rw [if_pos (show nI kR = 0 by rw [r0]; rfl), if_pos (Or.inr r0)]; rfl
  · rw [if_neg (show ¬ nI kR = 0 from fun z => r0 (by rw [ei, l0, nT (by omega)] at z; omega))]
    by_cases c : kO = 40
    · rw [if_pos c, if_pos (Or.inl c)]
    · rw [if_neg c, if_neg (fun z => z.elim c r0)]
theorem rtm3 (h : kR ≤ 8 ∧ kO ≤ 40 ∧ kL ≤ 16 ∧ kC ≤ 16) : f_X4_refuseTooMany (nI 3) 0 fp tf 3 (nI kR) 4 (nI kO) 5 (nI kL) 2 (nI kC) = if kO = 40 ∨ kR = 0 then some (5, tf) else some (0, fp) := by
  have fu : f_X3_isFull (4 : Int32) (nI kO) 160 = some (if (kO + 1) * 4 ≤ 160 then 0 else 1) := full_e (w := 4) (by omega) (by omega) (by omega)
  have b33 : f_X4_refuseTooMany_b33 tf 3 (nI kR) 4 (nI kO) 5 (nI kL) 2 (nI kC) (nI 3) 0 0 fp = if kO = 40 then some (5, tf) else some (0, fp) := by
    unfold f_X4_refuseTooMany_b33 f_X4_refuseTooMany_b49
    rw [if_pos rfl, if_neg (show ¬ (nI 3 = 8 ∨ nI 3 = 9) by decide), if_neg (show ¬ nI 3 = 10 by decide), if_neg (show ¬ nI 3 = 11 by decide), fu, bq1]
    by_cases c : kO = 40
    · rw [if_neg (show ¬ (kO + 1) * 4 ≤ 160 by omega), if_neg (show ¬ (1 : Int32) = 0 by decide), if_pos c]; rfl
    · rw [if_pos (show (kO + 1) * 4 ≤ 160 by omega), if_pos rfl, if_neg c]
  unfold f_X4_refuseTooMany f_X4_refuseTooMany_b32
  rw [if_neg (show ¬ nI 3 = 8 by decide), if_neg (show ¬ nI 3 = 9 by decide), if_neg (show ¬ nI 3 = 11 by decide), b33]
  by_cases r0 : kR = 0
  · rw [if_pos (show nI kR = 0 by rw [r0]; rfl), if_pos (Or.inr r0)]; rfl
  · rw [if_neg (show ¬ nI kR = 0 from fun z => r0 (by rw [ei, l0, nT (by omega)] at z; omega))]
    by_cases c : kO = 40
    · rw [if_pos c, if_pos (Or.inl c)]
    · rw [if_neg c, if_neg (fun z => z.elim c r0)]
theorem rtm4 (h : kR ≤ 8 ∧ kO ≤ 40 ∧ kL ≤ 16 ∧ kC ≤ 16) : f_X4_refuseTooMany (nI 4) 0 fp tf 3 (nI kR) 4 (nI kO) 5 (nI kL) 2 (nI kC) = if kO = 40 ∨ kR = 0 then some (5, tf) else some (0, fp) := by
  have fu : f_X3_isFull (4 : Int32) (nI kO) 160 = some (if (kO + 1) * 4 ≤ 160 then 0 else 1) := full_e (w := 4) (by omega) (by omega) (by omega)
  have b33 : f_X4_refuseTooMany_b33 tf 3 (nI kR) 4 (nI kO) 5 (nI kL) 2 (nI kC) (nI 4) 0 0 fp = if kO = 40 then some (5, tf) else some (0, fp) := by
    unfold f_X4_refuseTooMany_b33 f_X4_refuseTooMany_b49
    rw [if_pos rfl, if_neg (show ¬ (nI 4 = 8 ∨ nI 4 = 9) by decide), if_neg (show ¬ nI 4 = 10 by decide), if_neg (show ¬ nI 4 = 11 by decide), fu, bq1]
    by_cases c : kO = 40
    · rw [if_neg (show ¬ (kO + 1) * 4 ≤ 160 by omega), if_neg (show ¬ (1 : Int32) = 0 by decide), if_pos c]; rfl
    · rw [if_pos (show (kO + 1) * 4 ≤ 160 by omega), if_pos rfl, if_neg c]
  unfold f_X4_refuseTooMany f_X4_refuseTooMany_b32
  rw [if_neg (show ¬ nI 4 = 8 by decide), if_neg (show ¬ nI 4 = 9 by decide), if_neg (show ¬ nI 4 = 11 by decide), b33]
  by_cases r0 : kR = 0
  · rw [if_pos (show nI kR = 0 by rw [r0]; rfl), if_pos (Or.inr r0)]; rfl
  · rw [if_neg (show ¬ nI kR = 0 from fun z => r0 (by rw [ei, l0, nT (by omega)] at z; omega))]
    by_cases c : kO = 40
    · rw [if_pos c, if_pos (Or.inl c)]
    · rw [if_neg c, if_neg (fun z => z.elim c r0)]
theorem rtm5 (h : kR ≤ 8 ∧ kO ≤ 40 ∧ kL ≤ 16 ∧ kC ≤ 16) : f_X4_refuseTooMany (nI 5) 0 fp tf 3 (nI kR) 4 (nI kO) 5 (nI kL) 2 (nI kC) = if kO = 40 ∨ kR = 0 then some (5, tf) else some (0, fp) := by
  have fu : f_X3_isFull (4 : Int32) (nI kO) 160 = some (if (kO + 1) * 4 ≤ 160 then 0 else 1) := full_e (w := 4) (by omega) (by omega) (by omega)
  have b33 : f_X4_refuseTooMany_b33 tf 3 (nI kR) 4 (nI kO) 5 (nI kL) 2 (nI kC) (nI 5) 0 0 fp = if kO = 40 then some (5, tf) else some (0, fp) := by
    unfold f_X4_refuseTooMany_b33 f_X4_refuseTooMany_b49
    rw [if_pos rfl, if_neg (show ¬ (nI 5 = 8 ∨ nI 5 = 9) by decide), if_neg (show ¬ nI 5 = 10 by decide), if_neg (show ¬ nI 5 = 11 by decide), fu, bq1]
    by_cases c : kO = 40
    · rw [if_neg (show ¬ (kO + 1) * 4 ≤ 160 by omega), if_neg (show ¬ (1 : Int32) = 0 by decide), if_pos c]; rfl
    · rw [if_pos (show (kO + 1) * 4 ≤ 160 by omega), if_pos rfl, if_neg c]
  unfold f_X4_refuseTooMany f_X4_refuseTooMany_b32
  rw [if_neg (show ¬ nI 5 = 8 by decide), if_neg (show ¬ nI 5 = 9 by decide), if_neg (show ¬ nI 5 = 11 by decide), b33]
  by_cases r0 : kR = 0
  · rw [if_pos (show nI kR = 0 by rw [r0]; rfl), if_pos (Or.inr r0)]; rfl
  · rw [if_neg (show ¬ nI kR = 0 from fun z => r0 (by rw [ei, l0, nT (by omega)] at z; omega))]
    by_cases c : kO = 40
    · rw [if_pos c, if_pos (Or.inl c)]
    · rw [if_neg c, if_neg (fun z => z.elim c r0)]
theorem rtm6 (h : kR ≤ 8 ∧ kO ≤ 40 ∧ kL ≤ 16 ∧ kC ≤ 16) : f_X4_refuseTooMany (nI 6) 0 fp tf 3 (nI kR) 4 (nI kO) 5 (nI kL) 2 (nI kC) = if kO = 40 ∨ kR = 0 then some (5, tf) else some (0, fp) := by
  have fu : f_X3_isFull (4 : Int32) (nI kO) 160 = some (if (kO + 1) * 4 ≤ 160 then 0 else 1) := full_e (w := 4) (by omega) (by omega) (by omega)
  have b33 : f_X4_refuseTooMany_b33 tf 3 (nI kR) 4 (nI kO) 5 (nI kL) 2 (nI kC) (nI 6) 0 0 fp = if kO = 40 then some (5, tf) else some (0, fp) := by
    unfold f_X4_refuseTooMany_b33 f_X4_refuseTooMany_b49
    rw [if_pos rfl, if_neg (show ¬ (nI 6 = 8 ∨ nI 6 = 9) by decide), if_neg (show ¬ nI 6 = 10 by decide), if_neg (show ¬ nI 6 = 11 by decide), fu, bq1]
    by_cases c : kO = 40
    · rw [if_neg (show ¬ (kO + 1) * 4 ≤ 160 by omega), if_neg (show ¬ (1 : Int32) = 0 by decide), if_pos c]; rfl
    · rw [if_pos (show (kO + 1) * 4 ≤ 160 by omega), if_pos rfl, if_neg c]
  unfold f_X4_refuseTooMany f_X4_refuseTooMany_b32
  rw [if_neg (show ¬ nI 6 = 8 by decide), if_neg (show ¬ nI 6 = 9 by decide), if_neg (show ¬ nI 6 = 11 by decide), b33]
  by_cases r0 : kR = 0
  · rw [if_pos (show nI kR = 0 by rw [r0]; rfl), if_pos (Or.inr r0)]; rfl
  · rw [if_neg (show ¬ nI kR = 0 from fun z => r0 (by rw [ei, l0, nT (by omega)] at z; omega))]
    by_cases c : kO = 40
    · rw [if_pos c, if_pos (Or.inl c)]
    · rw [if_neg c, if_neg (fun z => z.elim c r0)]
theorem rtm7 (h : kR ≤ 8 ∧ kO ≤ 40 ∧ kL ≤ 16 ∧ kC ≤ 16) : f_X4_refuseTooMany (nI 7) 0 fp tf 3 (nI kR) 4 (nI kO) 5 (nI kL) 2 (nI kC) = if kO = 40 ∨ kR = 0 then some (5, tf) else some (0, fp) := by
  have fu : f_X3_isFull (4 : Int32) (nI kO) 160 = some (if (kO + 1) * 4 ≤ 160 then 0 else 1) := full_e (w := 4) (by omega) (by omega) (by omega)
  have b33 : f_X4_refuseTooMany_b33 tf 3 (nI kR) 4 (nI kO) 5 (nI kL) 2 (nI kC) (nI 7) 0 0 fp = if kO = 40 then some (5, tf) else some (0, fp) := by
    unfold f_X4_refuseTooMany_b33 f_X4_refuseTooMany_b49
    rw [if_pos rfl, if_neg (show ¬ (nI 7 = 8 ∨ nI 7 = 9) by decide), if_neg (show ¬ nI 7 = 10 by decide), if_neg (show ¬ nI 7 = 11 by decide), fu, bq1]
    by_cases c : kO = 40
    · rw [if_neg (show ¬ (kO + 1) * 4 ≤ 160 by omega), if_neg (show ¬ (1 : Int32) = 0 by decide), if_pos c]; rfl
    · rw [if_pos (show (kO + 1) * 4 ≤ 160 by omega), if_pos rfl, if_neg c]
  unfold f_X4_refuseTooMany f_X4_refuseTooMany_b32
  rw [if_neg (show ¬ nI 7 = 8 by decide), if_neg (show ¬ nI 7 = 9 by decide), if_neg (show ¬ nI 7 = 11 by decide), b33]
  by_cases r0 : kR = 0
  · rw [if_pos (show nI kR = 0 by rw [r0]; rfl), if_pos (Or.inr r0)]; rfl
  · rw [if_neg (show ¬ nI kR = 0 from fun z => r0 (by rw [ei, l0, nT (by omega)] at z; omega))]
    by_cases c : kO = 40
    · rw [if_pos c, if_pos (Or.inl c)]
    · rw [if_neg c, if_neg (fun z => z.elim c r0)]
theorem rtm8 (h : kR ≤ 8 ∧ kO ≤ 40 ∧ kL ≤ 16 ∧ kC ≤ 16) : f_X4_refuseTooMany (nI 8) 0 fp tf 3 (nI kR) 4 (nI kO) 5 (nI kL) 2 (nI kC) = if kR = 8 then some (5, tf) else some (0, fp) := by
  have fu : f_X3_isFull (3 : Int32) (nI kR) 24 = some (if (kR + 1) * 3 ≤ 24 then 0 else 1) := full_e (w := 3) (by omega) (by omega) (by omega)
  have b33 : f_X4_refuseTooMany_b33 tf 3 (nI kR) 4 (nI kO) 5 (nI kL) 2 (nI kC) (nI 8) 0 0 fp = if kR = 8 then some (5, tf) else some (0, fp) := by
    unfold f_X4_refuseTooMany_b33 f_X4_refuseTooMany_b49
    rw [if_pos rfl, if_pos (show nI 8 = 8 ∨ nI 8 = 9 by decide), fu, bq1]
    by_cases c : kR = 8
    · rw [if_neg (show ¬ (kR + 1) * 3 ≤ 24 by omega), if_neg (show ¬ (1 : Int32) = 0 by decide), if_pos c]; rfl
    · rw [if_pos (show (kR + 1) * 3 ≤ 24 by omega), if_pos rfl, if_neg c]
  unfold f_X4_refuseTooMany f_X4_refuseTooMany_b32
  rw [if_pos (show nI 8 = 8 from rfl), b33]
theorem rtm9 (h : kR ≤ 8 ∧ kO ≤ 40 ∧ kL ≤ 16 ∧ kC ≤ 16) : f_X4_refuseTooMany (nI 9) 0 fp tf 3 (nI kR) 4 (nI kO) 5 (nI kL) 2 (nI kC) = if kR = 8 then some (5, tf) else some (0, fp) := by
  have fu : f_X3_isFull (3 : Int32) (nI kR) 24 = some (if (kR + 1) * 3 ≤ 24 then 0 else 1) := full_e (w := 3) (by omega) (by omega) (by omega)
  have b33 : f_X4_refuseTooMany_b33 tf 3 (nI kR) 4 (nI kO) 5 (nI kL) 2 (nI kC) (nI 9) 0 0 fp = if kR = 8 then some (5, tf) else some (0, fp) := by
    unfold f_X4_refuseTooMany_b33 f_X4_refuseTooMany_b49
    rw [if_pos rfl, if_pos (show nI 9 = 8 ∨ nI 9 = 9 by decide), fu, bq1]
    by_cases c : kR = 8
    · rw [if_neg (show ¬ (kR + 1) * 3 ≤ 24 by omega), if_neg (show ¬ (1 : Int32) = 0 by decide), if_pos c]; rfl
    · rw [if_pos (show (kR + 1) * 3 ≤ 24 by omega), if_pos rfl, if_neg c]
  unfold f_X4_refuseTooMany f_X4_refuseTooMany_b32
  rw [if_neg (show ¬ nI 9 = 8 by decide), if_pos (show nI 9 = 9 from rfl), b33]
theorem rtm10 (h : kR ≤ 8 ∧ kO ≤ 40 ∧ kL ≤ 16 ∧ kC ≤ 16) : f_X4_refuseTooMany (nI 10) 0 fp tf 3 (nI kR) 4 (nI kO) 5 (nI kL) 2 (nI kC) = if kL = 16 ∨ kR = 0 then some (5, tf) else some (0, fp) := by
  have fu : f_X3_isFull (5 : Int32) (nI kL) 80 = some (if (kL + 1) * 5 ≤ 80 then 0 else 1) := full_e (w := 5) (by omega) (by omega) (by omega)
  have b33 : f_X4_refuseTooMany_b33 tf 3 (nI kR) 4 (nI kO) 5 (nI kL) 2 (nI kC) (nI 10) 0 0 fp = if kL = 16 then some (5, tf) else some (0, fp) := by
    unfold f_X4_refuseTooMany_b33 f_X4_refuseTooMany_b49
    rw [if_pos rfl, if_neg (show ¬ (nI 10 = 8 ∨ nI 10 = 9) by decide), if_pos (show nI 10 = 10 from rfl), fu, bq1]
    by_cases c : kL = 16
    · rw [if_neg (show ¬ (kL + 1) * 5 ≤ 80 by omega), if_neg (show ¬ (1 : Int32) = 0 by decide), if_pos c]; rfl
    · rw [if_pos (show (kL + 1) * 5 ≤ 80 by omega), if_pos rfl, if_neg c]
  unfold f_X4_refuseTooMany f_X4_refuseTooMany_b32
  rw [if_neg (show ¬ nI 10 = 8 by decide), if_neg (show ¬ nI 10 = 9 by decide), if_neg (show ¬ nI 10 = 11 by decide), b33]
  by_cases r0 : kR = 0
  · rw [if_pos (show nI kR = 0 by rw [r0]; rfl), if_pos (Or.inr r0)]; rfl
  · rw [if_neg (show ¬ nI kR = 0 from fun z => r0 (by rw [ei, l0, nT (by omega)] at z; omega))]
    by_cases c : kL = 16
    · rw [if_pos c, if_pos (Or.inl c)]
    · rw [if_neg c, if_neg (fun z => z.elim c r0)]
theorem rtm11 (h : kR ≤ 8 ∧ kO ≤ 40 ∧ kL ≤ 16 ∧ kC ≤ 16) : f_X4_refuseTooMany (nI 11) 0 fp tf 3 (nI kR) 4 (nI kO) 5 (nI kL) 2 (nI kC) = if kC = 16 then some (5, tf) else some (0, fp) := by
  have fu : f_X3_isFull (2 : Int32) (nI kC) 32 = some (if (kC + 1) * 2 ≤ 32 then 0 else 1) := full_e (w := 2) (by omega) (by omega) (by omega)
  have b33 : f_X4_refuseTooMany_b33 tf 3 (nI kR) 4 (nI kO) 5 (nI kL) 2 (nI kC) (nI 11) 0 0 fp = if kC = 16 then some (5, tf) else some (0, fp) := by
    unfold f_X4_refuseTooMany_b33 f_X4_refuseTooMany_b49
    rw [if_pos rfl, if_neg (show ¬ (nI 11 = 8 ∨ nI 11 = 9) by decide), if_neg (show ¬ nI 11 = 10 by decide), if_pos (show nI 11 = 11 from rfl), fu, bq1]
    by_cases c : kC = 16
    · rw [if_neg (show ¬ (kC + 1) * 2 ≤ 32 by omega), if_neg (show ¬ (1 : Int32) = 0 by decide), if_pos c]; rfl
    · rw [if_pos (show (kC + 1) * 2 ≤ 32 by omega), if_pos rfl, if_neg c]
  unfold f_X4_refuseTooMany f_X4_refuseTooMany_b32
  rw [if_neg (show ¬ nI 11 = 8 by decide), if_neg (show ¬ nI 11 = 9 by decide), if_pos (show nI 11 = 11 from rfl), b33]
theorem line_e (hT : TpR L bytes tape) (hE : ElR ends letters) (hW : WT nR fR nO fO nL fL nC fC st kR kO kL kC) (hpq : p ≤ q) (hq : q ≤ L) (hk : Tok L tk tn to va p q) : OUT L p st (f_X4_tellLine (nI L) 0 fp tk (nI p) (nI q) tn bytes ops 3 nR fR 4 nO fO 5 nL fL 2 nC fC) (f_X8_readLine (nI L) 0 ba (nI q) (nI p) to va st tape ends letters) := by
  have hK := hW.1
  have hn := hW.2.1
  have hs := hW.2.2.1
  unfold f_X4_tellLine f_X8_readLine
  rcases name_e hT hE (fp := fp) hpq hq hk with ⟨e1, e2⟩ | ⟨hlt, m, hm, e1, e2⟩
  · rw [e1, bq3, e2, bq1, if_neg (show ¬ (2 : Int32) = 0 by decide), if_pos rfl, show f_X8_fails 2 0 ba (nI p) = some (2, nI p) from rfl, bq2, show FUEL = 4095 + 1 from rfl, L20_bad 4095 _ _ (by decide)]
    exact OUT.bad (tape := tape) (ends := ends) (letters := letters) (S := st) (by decide) ⟨p, by have := hT.1; omega, rfl⟩ (fun _ _ => rfl)
  · rw [e1, bq3, e2, bq1, if_pos rfl]
    match m, hm with
    | 0, _ =>
      have d8 : ∀ (A : Option (Int32 × Int32 × Int32 × Int32 × Int32 × Int32 × (Nat → Int32))), (if nI 0 = (-4 : Int32) then A else if nI 0 = 0 then f_X8_readLine_b28 (nI L) tape ends letters (nI 0) 0 ba (nI q) (nI p) to va st else if nI 0 = 1 then f_X8_readLine_b28 (nI L) tape ends letters (nI 0) 0 ba (nI q) (nI p) to va st else bn1 (f_X8_in (nI 0).toInt64 2 9) (fun r_193 => if r_193 = 0 then (if nI 0 = 10 then bn7 (f_X8_readLanding (nI L) 0 ba (nI q) (nI p) to va st tape) (fun m_204 m_205 m_206 m_207 m_208 m_209 m_210 => f_X8_readLine_b77 (nI L) tape ends letters m_204 m_205 m_206 m_207 m_208 m_209 m_210) else bn7 (f_X8_readCall (nI L) 0 ba (nI q) (nI p) to va st tape) (fun m_196 m_197 m_198 m_199 m_200 m_201 m_202 => f_X8_readLine_b77 (nI L) tape ends letters m_196 m_197 m_198 m_199 m_200 m_201 m_202)) else bn7 (f_X8_readOp (nI 0 - 2) (nI L) 0 ba (nI q) (nI p) to va st tape) (fun m_212 m_213 m_214 m_215 m_216 m_217 m_218 => f_X8_readLine_b77 (nI L) tape ends letters m_212 m_213 m_214 m_215 m_216 m_217 m_218))) = MM L tape ends letters (f_X8_readRoutine 0 (nI L) 0 ba (nI q) (nI p) to va st tape) := fun A => rfl
      rw [d8, hn.1, hn.2.1, hn.2.2.1, hn.2.2.2, show f_X4_refuseTooMany (nI (sig12.getD 0 0)) 0 fp (nI p) 3 (nI kR) 4 (nI kO) 5 (nI kL) 2 (nI kC) = _ from rtm8 hK]
      by_cases c : kR = 8
      · rw [if_pos c, bq2, rR_full 0 (by rw [hs.1, c]), show FUEL = 4095 + 1 from rfl, L20_bad 4095 _ _ (by decide)]
        exact OUT.bad (by decide) ⟨p, by have := hT.1; omega, rfl⟩ (fun _ _ => rfl)
      · rw [if_neg c, bq2]
        rw [hn.1, hn.2.1, hn.2.2.1, hn.2.2.2] at hW
        exact ln8 hT hW hlt hq (by omega)
    | 1, _ =>
      have d8 : ∀ (A : Option (Int32 × Int32 × Int32 × Int32 × Int32 × Int32 × (Nat → Int32))), (if nI 1 = (-4 : Int32) then A else if nI 1 = 0 then f_X8_readLine_b28 (nI L) tape ends letters (nI 1) 0 ba (nI q) (nI p) to va st else if nI 1 = 1 then f_X8_readLine_b28 (nI L) tape ends letters (nI 1) 0 ba (nI q) (nI p) to va st else bn1 (f_X8_in (nI 1).toInt64 2 9) (fun r_193 => if r_193 = 0 then (if nI 1 = 10 then bn7 (f_X8_readLanding (nI L) 0 ba (nI q) (nI p) to va st tape) (fun m_204 m_205 m_206 m_207 m_208 m_209 m_210 => f_X8_readLine_b77 (nI L) tape ends letters m_204 m_205 m_206 m_207 m_208 m_209 m_210) else bn7 (f_X8_readCall (nI L) 0 ba (nI q) (nI p) to va st tape) (fun m_196 m_197 m_198 m_199 m_200 m_201 m_202 => f_X8_readLine_b77 (nI L) tape ends letters m_196 m_197 m_198 m_199 m_200 m_201 m_202)) else bn7 (f_X8_readOp (nI 1 - 2) (nI L) 0 ba (nI q) (nI p) to va st tape) (fun m_212 m_213 m_214 m_215 m_216 m_217 m_218 => f_X8_readLine_b77 (nI L) tape ends letters m_212 m_213 m_214 m_215 m_216 m_217 m_218))) = MM L tape ends letters (f_X8_readRoutine 1 (nI L) 0 ba (nI q) (nI p) to va st tape) := fun A => rfl
      rw [d8, hn.1, hn.2.1, hn.2.2.1, hn.2.2.2, show f_X4_refuseTooMany (nI (sig12.getD 1 0)) 0 fp (nI p) 3 (nI kR) 4 (nI kO) 5 (nI kL) 2 (nI kC) = _ from rtm9 hK]
      by_cases c : kR = 8
      · rw [if_pos c, bq2, rR_full 1 (by rw [hs.1, c]), show FUEL = 4095 + 1 from rfl, L20_bad 4095 _ _ (by decide)]
        exact OUT.bad (by decide) ⟨p, by have := hT.1; omega, rfl⟩ (fun _ _ => rfl)
      · rw [if_neg c, bq2]
        rw [hn.1, hn.2.1, hn.2.2.1, hn.2.2.2] at hW
        exact ln9 hT hW hlt hq (by omega)
    | 2, _ =>
      have d8 : ∀ (A : Option (Int32 × Int32 × Int32 × Int32 × Int32 × Int32 × (Nat → Int32))), (if nI 2 = (-4 : Int32) then A else if nI 2 = 0 then f_X8_readLine_b28 (nI L) tape ends letters (nI 2) 0 ba (nI q) (nI p) to va st else if nI 2 = 1 then f_X8_readLine_b28 (nI L) tape ends letters (nI 2) 0 ba (nI q) (nI p) to va st else bn1 (f_X8_in (nI 2).toInt64 2 9) (fun r_193 => if r_193 = 0 then (if nI 2 = 10 then bn7 (f_X8_readLanding (nI L) 0 ba (nI q) (nI p) to va st tape) (fun m_204 m_205 m_206 m_207 m_208 m_209 m_210 => f_X8_readLine_b77 (nI L) tape ends letters m_204 m_205 m_206 m_207 m_208 m_209 m_210) else bn7 (f_X8_readCall (nI L) 0 ba (nI q) (nI p) to va st tape) (fun m_196 m_197 m_198 m_199 m_200 m_201 m_202 => f_X8_readLine_b77 (nI L) tape ends letters m_196 m_197 m_198 m_199 m_200 m_201 m_202)) else bn7 (f_X8_readOp (nI 2 - 2) (nI L) 0 ba (nI q) (nI p) to va st tape) (fun m_212 m_213 m_214 m_215 m_216 m_217 m_218 => f_X8_readLine_b77 (nI L) tape ends letters m_212 m_213 m_214 m_215 m_216 m_217 m_218))) = MM L tape ends letters (f_X8_readOp 0 (nI L) 0 ba (nI q) (nI p) to va st tape) := fun A => rfl
      rw [d8, hn.1, hn.2.1, hn.2.2.1, hn.2.2.2, show f_X4_refuseTooMany (nI (sig12.getD 2 0)) 0 fp (nI p) 3 (nI kR) 4 (nI kO) 5 (nI kL) 2 (nI kC) = _ from rtm0 hK]
      by_cases c : kO = 40 ∨ kR = 0
      · rw [if_pos c, bq2, rO_full 0 hs.1 hs.2.1 hK.2.1 hK.1 c, show FUEL = 4095 + 1 from rfl, L20_bad 4095 _ _ (by decide)]
        exact OUT.bad (by decide) ⟨p, by have := hT.1; omega, rfl⟩ (fun _ _ => rfl)
      · rw [if_neg c, bq2]
        rw [hn.1, hn.2.1, hn.2.2.1, hn.2.2.2] at hW
        exact ln0 hT hW hlt hq (by omega) (by omega)
    | 3, _ =>
      have d8 : ∀ (A : Option (Int32 × Int32 × Int32 × Int32 × Int32 × Int32 × (Nat → Int32))), (if nI 3 = (-4 : Int32) then A else if nI 3 = 0 then f_X8_readLine_b28 (nI L) tape ends letters (nI 3) 0 ba (nI q) (nI p) to va st else if nI 3 = 1 then f_X8_readLine_b28 (nI L) tape ends letters (nI 3) 0 ba (nI q) (nI p) to va st else bn1 (f_X8_in (nI 3).toInt64 2 9) (fun r_193 => if r_193 = 0 then (if nI 3 = 10 then bn7 (f_X8_readLanding (nI L) 0 ba (nI q) (nI p) to va st tape) (fun m_204 m_205 m_206 m_207 m_208 m_209 m_210 => f_X8_readLine_b77 (nI L) tape ends letters m_204 m_205 m_206 m_207 m_208 m_209 m_210) else bn7 (f_X8_readCall (nI L) 0 ba (nI q) (nI p) to va st tape) (fun m_196 m_197 m_198 m_199 m_200 m_201 m_202 => f_X8_readLine_b77 (nI L) tape ends letters m_196 m_197 m_198 m_199 m_200 m_201 m_202)) else bn7 (f_X8_readOp (nI 3 - 2) (nI L) 0 ba (nI q) (nI p) to va st tape) (fun m_212 m_213 m_214 m_215 m_216 m_217 m_218 => f_X8_readLine_b77 (nI L) tape ends letters m_212 m_213 m_214 m_215 m_216 m_217 m_218))) = MM L tape ends letters (f_X8_readOp 1 (nI L) 0 ba (nI q) (nI p) to va st tape) := fun A => rfl
      rw [d8, hn.1, hn.2.1, hn.2.2.1, hn.2.2.2, show f_X4_refuseTooMany (nI (sig12.getD 3 0)) 0 fp (nI p) 3 (nI kR) 4 (nI kO) 5 (nI kL) 2 (nI kC) = _ from rtm1 hK]
      by_cases c : kO = 40 ∨ kR = 0
      · rw [if_pos c, bq2, rO_full 1 hs.1 hs.2.1 hK.2.1 hK.1 c, show FUEL = 4095 + 1 from rfl, L20_bad 4095 _ _ (by decide)]
        exact OUT.bad (by decide) ⟨p, by have := hT.1; omega, rfl⟩ (fun _ _ => rfl)
      · rw [if_neg c, bq2]
        rw [hn.1, hn.2.1, hn.2.2.1, hn.2.2.2] at hW
        exact ln1 hT hW hlt hq (by omega) (by omega)
    | 4, _ =>
      have d8 : ∀ (A : Option (Int32 × Int32 × Int32 × Int32 × Int32 × Int32 × (Nat → Int32))), (if nI 4 = (-4 : Int32) then A else if nI 4 = 0 then f_X8_readLine_b28 (nI L) tape ends letters (nI 4) 0 ba (nI q) (nI p) to va st else if nI 4 = 1 then f_X8_readLine_b28 (nI L) tape ends letters (nI 4) 0 ba (nI q) (nI p) to va st else bn1 (f_X8_in (nI 4).toInt64 2 9) (fun r_193 => if r_193 = 0 then (if nI 4 = 10 then bn7 (f_X8_readLanding (nI L) 0 ba (nI q) (nI p) to va st tape) (fun m_204 m_205 m_206 m_207 m_208 m_209 m_210 => f_X8_readLine_b77 (nI L) tape ends letters m_204 m_205 m_206 m_207 m_208 m_209 m_210) else bn7 (f_X8_readCall (nI L) 0 ba (nI q) (nI p) to va st tape) (fun m_196 m_197 m_198 m_199 m_200 m_201 m_202 => f_X8_readLine_b77 (nI L) tape ends letters m_196 m_197 m_198 m_199 m_200 m_201 m_202)) else bn7 (f_X8_readOp (nI 4 - 2) (nI L) 0 ba (nI q) (nI p) to va st tape) (fun m_212 m_213 m_214 m_215 m_216 m_217 m_218 => f_X8_readLine_b77 (nI L) tape ends letters m_212 m_213 m_214 m_215 m_216 m_217 m_218))) = MM L tape ends letters (f_X8_readOp 2 (nI L) 0 ba (nI q) (nI p) to va st tape) := fun A => rfl
      rw [d8, hn.1, hn.2.1, hn.2.2.1, hn.2.2.2, show f_X4_refuseTooMany (nI (sig12.getD 4 0)) 0 fp (nI p) 3 (nI kR) 4 (nI kO) 5 (nI kL) 2 (nI kC) = _ from rtm2 hK]
      by_cases c : kO = 40 ∨ kR = 0
      · rw [if_pos c, bq2, rO_full 2 hs.1 hs.2.1 hK.2.1 hK.1 c, show FUEL = 4095 + 1 from rfl, L20_bad 4095 _ _ (by decide)]
        exact OUT.bad (by decide) ⟨p, by have := hT.1; omega, rfl⟩ (fun _ _ => rfl)
      · rw [if_neg c, bq2]
        rw [hn.1, hn.2.1, hn.2.2.1, hn.2.2.2] at hW
        exact ln2 hT hW hlt hq (by omega) (by omega)
    | 5, _ =>
      have d8 : ∀ (A : Option (Int32 × Int32 × Int32 × Int32 × Int32 × Int32 × (Nat → Int32))), (if nI 5 = (-4 : Int32) then A else if nI 5 = 0 then f_X8_readLine_b28 (nI L) tape ends letters (nI 5) 0 ba (nI q) (nI p) to va st else if nI 5 = 1 then f_X8_readLine_b28 (nI L) tape ends letters (nI 5) 0 ba (nI q) (nI p) to va st else bn1 (f_X8_in (nI 5).toInt64 2 9) (fun r_193 => if r_193 = 0 then (if nI 5 = 10 then bn7 (f_X8_readLanding (nI L) 0 ba (nI q) (nI p) to va st tape) (fun m_204 m_205 m_206 m_207 m_208 m_209 m_210 => f_X8_readLine_b77 (nI L) tape ends letters m_204 m_205 m_206 m_207 m_208 m_209 m_210) else bn7 (f_X8_readCall (nI L) 0 ba (nI q) (nI p) to va st tape) (fun m_196 m_197 m_198 m_199 m_200 m_201 m_202 => f_X8_readLine_b77 (nI L) tape ends letters m_196 m_197 m_198 m_199 m_200 m_201 m_202)) else bn7 (f_X8_readOp (nI 5 - 2) (nI L) 0 ba (nI q) (nI p) to va st tape) (fun m_212 m_213 m_214 m_215 m_216 m_217 m_218 => f_X8_readLine_b77 (nI L) tape ends letters m_212 m_213 m_214 m_215 m_216 m_217 m_218))) = MM L tape ends letters (f_X8_readOp 3 (nI L) 0 ba (nI q) (nI p) to va st tape) := fun A => rfl
      rw [d8, hn.1, hn.2.1, hn.2.2.1, hn.2.2.2, show f_X4_refuseTooMany (nI (sig12.getD 5 0)) 0 fp (nI p) 3 (nI kR) 4 (nI kO) 5 (nI kL) 2 (nI kC) = _ from rtm3 hK]
      by_cases c : kO = 40 ∨ kR = 0
      · rw [if_pos c, bq2, rO_full 3 hs.1 hs.2.1 hK.2.1 hK.1 c, show FUEL = 4095 + 1 from rfl, L20_bad 4095 _ _ (by decide)]
        exact OUT.bad (by decide) ⟨p, by have := hT.1; omega, rfl⟩ (fun _ _ => rfl)
      · rw [if_neg c, bq2]
        rw [hn.1, hn.2.1, hn.2.2.1, hn.2.2.2] at hW
        exact ln3 hT hW hlt hq (by omega) (by omega)
    | 6, _ =>
      have d8 : ∀ (A : Option (Int32 × Int32 × Int32 × Int32 × Int32 × Int32 × (Nat → Int32))), (if nI 6 = (-4 : Int32) then A else if nI 6 = 0 then f_X8_readLine_b28 (nI L) tape ends letters (nI 6) 0 ba (nI q) (nI p) to va st else if nI 6 = 1 then f_X8_readLine_b28 (nI L) tape ends letters (nI 6) 0 ba (nI q) (nI p) to va st else bn1 (f_X8_in (nI 6).toInt64 2 9) (fun r_193 => if r_193 = 0 then (if nI 6 = 10 then bn7 (f_X8_readLanding (nI L) 0 ba (nI q) (nI p) to va st tape) (fun m_204 m_205 m_206 m_207 m_208 m_209 m_210 => f_X8_readLine_b77 (nI L) tape ends letters m_204 m_205 m_206 m_207 m_208 m_209 m_210) else bn7 (f_X8_readCall (nI L) 0 ba (nI q) (nI p) to va st tape) (fun m_196 m_197 m_198 m_199 m_200 m_201 m_202 => f_X8_readLine_b77 (nI L) tape ends letters m_196 m_197 m_198 m_199 m_200 m_201 m_202)) else bn7 (f_X8_readOp (nI 6 - 2) (nI L) 0 ba (nI q) (nI p) to va st tape) (fun m_212 m_213 m_214 m_215 m_216 m_217 m_218 => f_X8_readLine_b77 (nI L) tape ends letters m_212 m_213 m_214 m_215 m_216 m_217 m_218))) = MM L tape ends letters (f_X8_readOp 4 (nI L) 0 ba (nI q) (nI p) to va st tape) := fun A => rfl
      rw [d8, hn.1, hn.2.1, hn.2.2.1, hn.2.2.2, show f_X4_refuseTooMany (nI (sig12.getD 6 0)) 0 fp (nI p) 3 (nI kR) 4 (nI kO) 5 (nI kL) 2 (nI kC) = _ from rtm4 hK]
      by_cases c : kO = 40 ∨ kR = 0
      · rw [if_pos c, bq2, rO_full 4 hs.1 hs.2.1 hK.2.1 hK.1 c, show FUEL = 4095 + 1 from rfl, L20_bad 4095 _ _ (by decide)]
        exact OUT.bad (by decide) ⟨p, by have := hT.1; omega, rfl⟩ (fun _ _ => rfl)
      · rw [if_neg c, bq2]
        rw [hn.1, hn.2.1, hn.2.2.1, hn.2.2.2] at hW
        exact ln4 hT hW hlt hq (by omega) (by omega)
    | 7, _ =>
      have d8 : ∀ (A : Option (Int32 × Int32 × Int32 × Int32 × Int32 × Int32 × (Nat → Int32))), (if nI 7 = (-4 : Int32) then A else if nI 7 = 0 then f_X8_readLine_b28 (nI L) tape ends letters (nI 7) 0 ba (nI q) (nI p) to va st else if nI 7 = 1 then f_X8_readLine_b28 (nI L) tape ends letters (nI 7) 0 ba (nI q) (nI p) to va st else bn1 (f_X8_in (nI 7).toInt64 2 9) (fun r_193 => if r_193 = 0 then (if nI 7 = 10 then bn7 (f_X8_readLanding (nI L) 0 ba (nI q) (nI p) to va st tape) (fun m_204 m_205 m_206 m_207 m_208 m_209 m_210 => f_X8_readLine_b77 (nI L) tape ends letters m_204 m_205 m_206 m_207 m_208 m_209 m_210) else bn7 (f_X8_readCall (nI L) 0 ba (nI q) (nI p) to va st tape) (fun m_196 m_197 m_198 m_199 m_200 m_201 m_202 => f_X8_readLine_b77 (nI L) tape ends letters m_196 m_197 m_198 m_199 m_200 m_201 m_202)) else bn7 (f_X8_readOp (nI 7 - 2) (nI L) 0 ba (nI q) (nI p) to va st tape) (fun m_212 m_213 m_214 m_215 m_216 m_217 m_218 => f_X8_readLine_b77 (nI L) tape ends letters m_212 m_213 m_214 m_215 m_216 m_217 m_218))) = MM L tape ends letters (f_X8_readOp 5 (nI L) 0 ba (nI q) (nI p) to va st tape) := fun A => rfl
      rw [d8, hn.1, hn.2.1, hn.2.2.1, hn.2.2.2, show f_X4_refuseTooMany (nI (sig12.getD 7 0)) 0 fp (nI p) 3 (nI kR) 4 (nI kO) 5 (nI kL) 2 (nI kC) = _ from rtm5 hK]
      by_cases c : kO = 40 ∨ kR = 0
      · rw [if_pos c, bq2, rO_full 5 hs.1 hs.2.1 hK.2.1 hK.1 c, show FUEL = 4095 + 1 from rfl, L20_bad 4095 _ _ (by decide)]
        exact OUT.bad (by decide) ⟨p, by have := hT.1; omega, rfl⟩ (fun _ _ => rfl)
      · rw [if_neg c, bq2]
        rw [hn.1, hn.2.1, hn.2.2.1, hn.2.2.2] at hW
        exact ln5 hT hW hlt hq (by omega) (by omega)
    | 8, _ =>
      have d8 : ∀ (A : Option (Int32 × Int32 × Int32 × Int32 × Int32 × Int32 × (Nat → Int32))), (if nI 8 = (-4 : Int32) then A else if nI 8 = 0 then f_X8_readLine_b28 (nI L) tape ends letters (nI 8) 0 ba (nI q) (nI p) to va st else if nI 8 = 1 then f_X8_readLine_b28 (nI L) tape ends letters (nI 8) 0 ba (nI q) (nI p) to va st else bn1 (f_X8_in (nI 8).toInt64 2 9) (fun r_193 => if r_193 = 0 then (if nI 8 = 10 then bn7 (f_X8_readLanding (nI L) 0 ba (nI q) (nI p) to va st tape) (fun m_204 m_205 m_206 m_207 m_208 m_209 m_210 => f_X8_readLine_b77 (nI L) tape ends letters m_204 m_205 m_206 m_207 m_208 m_209 m_210) else bn7 (f_X8_readCall (nI L) 0 ba (nI q) (nI p) to va st tape) (fun m_196 m_197 m_198 m_199 m_200 m_201 m_202 => f_X8_readLine_b77 (nI L) tape ends letters m_196 m_197 m_198 m_199 m_200 m_201 m_202)) else bn7 (f_X8_readOp (nI 8 - 2) (nI L) 0 ba (nI q) (nI p) to va st tape) (fun m_212 m_213 m_214 m_215 m_216 m_217 m_218 => f_X8_readLine_b77 (nI L) tape ends letters m_212 m_213 m_214 m_215 m_216 m_217 m_218))) = MM L tape ends letters (f_X8_readOp 6 (nI L) 0 ba (nI q) (nI p) to va st tape) := fun A => rfl
      rw [d8, hn.1, hn.2.1, hn.2.2.1, hn.2.2.2, show f_X4_refuseTooMany (nI (sig12.getD 8 0)) 0 fp (nI p) 3 (nI kR) 4 (nI kO) 5 (nI kL) 2 (nI kC) = _ from rtm6 hK]
      by_cases c : kO = 40 ∨ kR = 0
      · rw [if_pos c, bq2, rO_full 6 hs.1 hs.2.1 hK.2.1 hK.1 c, show FUEL = 4095 + 1 from rfl, L20_bad 4095 _ _ (by decide)]
        exact OUT.bad (by decide) ⟨p, by have := hT.1; omega, rfl⟩ (fun _ _ => rfl)
      · rw [if_neg c, bq2]
        rw [hn.1, hn.2.1, hn.2.2.1, hn.2.2.2] at hW
        exact ln6 hT hW hlt hq (by omega) (by omega)
    | 9, _ =>
      have d8 : ∀ (A : Option (Int32 × Int32 × Int32 × Int32 × Int32 × Int32 × (Nat → Int32))), (if nI 9 = (-4 : Int32) then A else if nI 9 = 0 then f_X8_readLine_b28 (nI L) tape ends letters (nI 9) 0 ba (nI q) (nI p) to va st else if nI 9 = 1 then f_X8_readLine_b28 (nI L) tape ends letters (nI 9) 0 ba (nI q) (nI p) to va st else bn1 (f_X8_in (nI 9).toInt64 2 9) (fun r_193 => if r_193 = 0 then (if nI 9 = 10 then bn7 (f_X8_readLanding (nI L) 0 ba (nI q) (nI p) to va st tape) (fun m_204 m_205 m_206 m_207 m_208 m_209 m_210 => f_X8_readLine_b77 (nI L) tape ends letters m_204 m_205 m_206 m_207 m_208 m_209 m_210) else bn7 (f_X8_readCall (nI L) 0 ba (nI q) (nI p) to va st tape) (fun m_196 m_197 m_198 m_199 m_200 m_201 m_202 => f_X8_readLine_b77 (nI L) tape ends letters m_196 m_197 m_198 m_199 m_200 m_201 m_202)) else bn7 (f_X8_readOp (nI 9 - 2) (nI L) 0 ba (nI q) (nI p) to va st tape) (fun m_212 m_213 m_214 m_215 m_216 m_217 m_218 => f_X8_readLine_b77 (nI L) tape ends letters m_212 m_213 m_214 m_215 m_216 m_217 m_218))) = MM L tape ends letters (f_X8_readOp 7 (nI L) 0 ba (nI q) (nI p) to va st tape) := fun A => rfl
      rw [d8, hn.1, hn.2.1, hn.2.2.1, hn.2.2.2, show f_X4_refuseTooMany (nI (sig12.getD 9 0)) 0 fp (nI p) 3 (nI kR) 4 (nI kO) 5 (nI kL) 2 (nI kC) = _ from rtm7 hK]
      by_cases c : kO = 40 ∨ kR = 0
      · rw [if_pos c, bq2, rO_full 7 hs.1 hs.2.1 hK.2.1 hK.1 c, show FUEL = 4095 + 1 from rfl, L20_bad 4095 _ _ (by decide)]
        exact OUT.bad (by decide) ⟨p, by have := hT.1; omega, rfl⟩ (fun _ _ => rfl)
      · rw [if_neg c, bq2]
        rw [hn.1, hn.2.1, hn.2.2.1, hn.2.2.2] at hW
        exact ln7 hT hW hlt hq (by omega) (by omega)
    | 10, _ =>
      have d8 : ∀ (A : Option (Int32 × Int32 × Int32 × Int32 × Int32 × Int32 × (Nat → Int32))), (if nI 10 = (-4 : Int32) then A else if nI 10 = 0 then f_X8_readLine_b28 (nI L) tape ends letters (nI 10) 0 ba (nI q) (nI p) to va st else if nI 10 = 1 then f_X8_readLine_b28 (nI L) tape ends letters (nI 10) 0 ba (nI q) (nI p) to va st else bn1 (f_X8_in (nI 10).toInt64 2 9) (fun r_193 => if r_193 = 0 then (if nI 10 = 10 then bn7 (f_X8_readLanding (nI L) 0 ba (nI q) (nI p) to va st tape) (fun m_204 m_205 m_206 m_207 m_208 m_209 m_210 => f_X8_readLine_b77 (nI L) tape ends letters m_204 m_205 m_206 m_207 m_208 m_209 m_210) else bn7 (f_X8_readCall (nI L) 0 ba (nI q) (nI p) to va st tape) (fun m_196 m_197 m_198 m_199 m_200 m_201 m_202 => f_X8_readLine_b77 (nI L) tape ends letters m_196 m_197 m_198 m_199 m_200 m_201 m_202)) else bn7 (f_X8_readOp (nI 10 - 2) (nI L) 0 ba (nI q) (nI p) to va st tape) (fun m_212 m_213 m_214 m_215 m_216 m_217 m_218 => f_X8_readLine_b77 (nI L) tape ends letters m_212 m_213 m_214 m_215 m_216 m_217 m_218))) = MM L tape ends letters (f_X8_readLanding (nI L) 0 ba (nI q) (nI p) to va st tape) := fun A => rfl
      rw [d8, hn.1, hn.2.1, hn.2.2.1, hn.2.2.2, show f_X4_refuseTooMany (nI (sig12.getD 10 0)) 0 fp (nI p) 3 (nI kR) 4 (nI kO) 5 (nI kL) 2 (nI kC) = _ from rtm10 hK]
      by_cases c : kL = 16 ∨ kR = 0
      · rw [if_pos c, bq2, rL_full hs.1 hs.2.2.1 hK.2.2.1 hK.1 c, show FUEL = 4095 + 1 from rfl, L20_bad 4095 _ _ (by decide)]
        exact OUT.bad (by decide) ⟨p, by have := hT.1; omega, rfl⟩ (fun _ _ => rfl)
      · rw [if_neg c, bq2]
        rw [hn.1, hn.2.1, hn.2.2.1, hn.2.2.2] at hW
        exact ln10 hT hW hlt hq (by omega) (by omega)
    | 11, _ =>
      have d8 : ∀ (A : Option (Int32 × Int32 × Int32 × Int32 × Int32 × Int32 × (Nat → Int32))), (if nI 11 = (-4 : Int32) then A else if nI 11 = 0 then f_X8_readLine_b28 (nI L) tape ends letters (nI 11) 0 ba (nI q) (nI p) to va st else if nI 11 = 1 then f_X8_readLine_b28 (nI L) tape ends letters (nI 11) 0 ba (nI q) (nI p) to va st else bn1 (f_X8_in (nI 11).toInt64 2 9) (fun r_193 => if r_193 = 0 then (if nI 11 = 10 then bn7 (f_X8_readLanding (nI L) 0 ba (nI q) (nI p) to va st tape) (fun m_204 m_205 m_206 m_207 m_208 m_209 m_210 => f_X8_readLine_b77 (nI L) tape ends letters m_204 m_205 m_206 m_207 m_208 m_209 m_210) else bn7 (f_X8_readCall (nI L) 0 ba (nI q) (nI p) to va st tape) (fun m_196 m_197 m_198 m_199 m_200 m_201 m_202 => f_X8_readLine_b77 (nI L) tape ends letters m_196 m_197 m_198 m_199 m_200 m_201 m_202)) else bn7 (f_X8_readOp (nI 11 - 2) (nI L) 0 ba (nI q) (nI p) to va st tape) (fun m_212 m_213 m_214 m_215 m_216 m_217 m_218 => f_X8_readLine_b77 (nI L) tape ends letters m_212 m_213 m_214 m_215 m_216 m_217 m_218))) = MM L tape ends letters (f_X8_readCall (nI L) 0 ba (nI q) (nI p) to va st tape) := fun A => rfl
      rw [d8, hn.1, hn.2.1, hn.2.2.1, hn.2.2.2, show f_X4_refuseTooMany (nI (sig12.getD 11 0)) 0 fp (nI p) 3 (nI kR) 4 (nI kO) 5 (nI kL) 2 (nI kC) = _ from rtm11 hK]
      by_cases c : kC = 16
      · rw [if_pos c, bq2, rC_full (by rw [hs.2.2.2, c]), show FUEL = 4095 + 1 from rfl, L20_bad 4095 _ _ (by decide)]
        exact OUT.bad (by decide) ⟨p, by have := hT.1; omega, rfl⟩ (fun _ _ => rfl)
      · rw [if_neg c, bq2]
        rw [hn.1, hn.2.1, hn.2.2.1, hn.2.2.2] at hW
        exact ln11 hT hW hlt hq (by omega)
end LINES
