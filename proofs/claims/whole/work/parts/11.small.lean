theorem sg_X6_turn : yX6_turn.cls = RX6 ∧ yX6_turn.cls ≠ "java/lang/invoke/MethodHandle" ∧ yX6_turn.cls ≠ "java/lang/invoke/VarHandle" ∧ (parseMethodDescriptor yX6_turn.desc).map (fun d => d.parameters.length) = some 2 := by decide +kernel
abbrev rm_X6_turn : Room := { frames := 1, cells := 0, slots := 0, locals := 21 }
theorem wd_X6_turn_0 : (.methodLink RX6 195 Lib.Math.abs.name : Cond) ∈ wsX6_turn := by decide +kernel
theorem wd_X6_turn_1 : (.static Lib.Math.abs.name : Cond) ∈ wsX6_turn := by decide +kernel
theorem wd_X6_turn_2 : (.initialized "java/lang/Math" : Cond) ∈ wsX6_turn := by decide +kernel
theorem wd_X6_turn_3 : (.code Lib.Math.abs.name Lib.Math.abs.code 1 (some .int) : Cond) ∈ wsX6_turn := by decide +kernel
theorem wd_X6_turn_4 : (.methodLink RX6 200 Lib.Math.min.name : Cond) ∈ wsX6_turn := by decide +kernel
theorem wd_X6_turn_5 : (.static Lib.Math.min.name : Cond) ∈ wsX6_turn := by decide +kernel
theorem wd_X6_turn_6 : (.code Lib.Math.min.name Lib.Math.min.code 2 (some .int) : Cond) ∈ wsX6_turn := by decide +kernel
set_option maxHeartbeats 4000000 in
set_option maxRecDepth 100000 in
theorem kt_X6_turn (l : Launch) (D : va_G) (cI cZ cS : ClassId) (x0 : Int32) (x1 : Int32) (o : Int32) (hf : fn_X6_turn x0 x1 = some o) (sz : Nat) : Met l yX6_turn wsX6_turn rm_X6_turn (va_Pc [.int x0, .int x1] (gPre D cI cZ cS [] sz)) (va_Qi (fun r (_ : Unit) => r = o) (fun _ => gB D [] (va_A [] sz)) (va_A [] sz)) 0 0 (va_A [] sz) := by
  refine g_entry (y := yX6_turn) (av := [.int x0, .int x1]) (wi := []) (Qc := fun A => va_Qi (fun r (_ : Unit) => r = o) (fun _ => gB D [] A) A) (cc := cX6_turn) (maxL := 3) (ret := (some .int)) (by decide) rfl (Nat.le_of_ble_eq_true rfl) ?_ sz
  intro p e s m below meth c A ls Cx hP hD hS hl
  obtain ⟨hx, hb, hml, hr, hlk, hown, hin, hts, hK, hA⟩ := id Cx
  have hown : s.vm.findClass RX6 = some m.cls := hown
  have hl : lv_has ls 3 [(0, .int x0), (1, .int x1)] := hl
  unfold fn_X6_turn at hf
  refine lv_iload_n hx hb dX6_turn_0 rfl (lv_at hl 0 rfl) ?_
  refine lv_iconst (v := 3) hx hb dX6_turn_1 (by decide) ?_
  refine lv_idiv hx hb dX6_turn_2 (by decide) ?_
  refine lv_iload_n hx hb dX6_turn_3 rfl (lv_at hl 1 rfl) ?_
  refine lv_iconst (v := 3) hx hb dX6_turn_4 (by decide) ?_
  refine lv_idiv hx hb dX6_turn_5 (by decide) ?_
  refine lv_isub hx hb dX6_turn_6 ?_
  refine va_mabs hx hb (hml.trans hl.1.symm) hown (hts (.methodLink RX6 195 Lib.Math.abs.name) wd_X6_turn_0) (hts (.static Lib.Math.abs.name) wd_X6_turn_1) (hts (.initialized "java/lang/Math") wd_X6_turn_2) (hts (.code Lib.Math.abs.name Lib.Math.abs.code 1 (some .int)) wd_X6_turn_3) (Nat.le_of_ble_eq_true rfl) (Nat.le_of_ble_eq_true rfl) (Nat.zero_le _) (Nat.zero_le _) dX6_turn_7 ?_
  refine lv_istore_n (lv' := [(2, .int (if 0 ≤ ((x0 / (3 : Int32)) - (x1 / (3 : Int32))) then ((x0 / (3 : Int32)) - (x1 / (3 : Int32))) else 0 - ((x0 / (3 : Int32)) - (x1 / (3 : Int32))))), (0, .int x0), (1, .int x1)]) hx hb dX6_turn_10 rfl hl (by decide) rfl (fun ls hl => ?_)
  refine lv_iload_n hx hb dX6_turn_11 rfl (lv_at hl 0 rfl) ?_
  refine lv_bipush (v := 8) hx hb dX6_turn_12 (by decide) ?_
  refine lv_iload_n hx hb dX6_turn_14 rfl (lv_at hl 0 rfl) ?_
  refine lv_isub hx hb dX6_turn_15 ?_
  refine va_mmin hx hb (hml.trans hl.1.symm) hown (hts (.methodLink RX6 200 Lib.Math.min.name) wd_X6_turn_4) (hts (.static Lib.Math.min.name) wd_X6_turn_5) (hts (.initialized "java/lang/Math") wd_X6_turn_2) (hts (.code Lib.Math.min.name Lib.Math.min.code 2 (some .int)) wd_X6_turn_6) (Nat.le_of_ble_eq_true rfl) (Nat.le_of_ble_eq_true rfl) (Nat.zero_le _) (Nat.zero_le _) dX6_turn_16 ?_
  have ho := so hf
  subst ho
  exact g_iret (v := (if ((8 : Int32) - (if 0 ≤ ((x0 / (3 : Int32)) - (x1 / (3 : Int32))) then ((x0 / (3 : Int32)) - (x1 / (3 : Int32))) else 0 - ((x0 / (3 : Int32)) - (x1 / (3 : Int32))))) < (if 0 ≤ ((x0 / (3 : Int32)) - (x1 / (3 : Int32))) then ((x0 / (3 : Int32)) - (x1 / (3 : Int32))) else 0 - ((x0 / (3 : Int32)) - (x1 / (3 : Int32)))) then ((8 : Int32) - (if 0 ≤ ((x0 / (3 : Int32)) - (x1 / (3 : Int32))) then ((x0 / (3 : Int32)) - (x1 / (3 : Int32))) else 0 - ((x0 / (3 : Int32)) - (x1 / (3 : Int32))))) else (if 0 ≤ ((x0 / (3 : Int32)) - (x1 / (3 : Int32))) then ((x0 / (3 : Int32)) - (x1 / (3 : Int32))) else 0 - ((x0 / (3 : Int32)) - (x1 / (3 : Int32)))))) hx hb hr hlk hP hD hS dX6_turn_19

theorem sg_X6_join : yX6_join.cls = RX6 ∧ yX6_join.cls ≠ "java/lang/invoke/MethodHandle" ∧ yX6_join.cls ≠ "java/lang/invoke/VarHandle" ∧ (parseMethodDescriptor yX6_join.desc).map (fun d => d.parameters.length) = some 2 := by decide +kernel
abbrev rm_X6_join : Room := { frames := 2, cells := 0, slots := 0, locals := 43 }
set_option maxHeartbeats 4000000 in
set_option maxRecDepth 100000 in
theorem kt_X6_join (l : Launch) (D : va_G) (cI cZ cS : ClassId) (x0 : Int32) (x1 : Int32) (o : Int32) (hf : fn_X6_join x0 x1 = some o) (sz : Nat) : Met l yX6_join wsX6_join rm_X6_join (va_Pc [.int x0, .int x1] (gPre D cI cZ cS [] sz)) (va_Qi (fun r (_ : Unit) => r = o) (fun _ => gB D [] (va_A [] sz)) (va_A [] sz)) 0 0 (va_A [] sz) := by
  refine g_entry (y := yX6_join) (av := [.int x0, .int x1]) (wi := []) (Qc := fun A => va_Qi (fun r (_ : Unit) => r = o) (fun _ => gB D [] A) A) (cc := cX6_join) (maxL := 2) (ret := (some .int)) (by decide) rfl (Nat.le_of_ble_eq_true rfl) ?_ sz
  intro p e s m below meth c A ls Cx hP hD hS hl
  obtain ⟨hx, hb, hml, hr, hlk, hown, hin, hts, hK, hA⟩ := id Cx
  have hown : s.vm.findClass RX6 = some m.cls := hown
  have hl : lv_has ls 2 [(0, .int x0), (1, .int x1)] := hl
  unfold fn_X6_join at hf
  refine lv_iload_n hx hb dX6_join_0 rfl (lv_at hl 0 rfl) ?_
  refine lv_iload_n hx hb dX6_join_1 rfl (lv_at hl 1 rfl) ?_
  refine lv_icmp_ne (tgt := 9) hx hb dX6_join_2 (by decide) (fun hb1 => ?_) (fun hb1 => ?_)
  · replace hf := if_f hb1 hf
    refine lv_iload_n hx hb dX6_join_9 rfl (lv_at hl 0 rfl) ?_
    refine lv_iload_n hx hb dX6_join_10 rfl (lv_at hl 1 rfl) ?_
    obtain ⟨u1, hc2, hf⟩ := ob hf
    refine g_ki (wc := []) (wc' := []) (wr := []) (va_runS (As := [.int x0, .int x1]) (rest := []) ⟨hx, hb, hml, hown, hts⟩ (kt_X6_turn l D cI cZ cS x0 x1 u1 hc2 _) (va_cwS 2 hts gX6_join_X6_turn rfl rfl rfl sg_X6_turn.2 ⟨(Nat.le_of_ble_eq_true rfl), (Nat.le_of_ble_eq_true rfl)⟩) (g_ps hK hP hD [] rfl (by decide)) rfl rfl hl.1 rfl (lv_room (Nat.le_of_ble_eq_true rfl)) dX6_join_11 ⟨Nat.zero_le _, Nat.zero_le _⟩) hP hD hS hA [] [] rfl rfl (by decide) (by decide) (fun H locs hP hD hS => ?_)
    have hP : va_P D vwCl [] H := hP
    have hD : va_D A [] := hD
    have ho := so hf
    subst ho
    exact g_iret (v := u1) hx hb hr hlk hP hD hS dX6_join_14
  · replace hf := if_t hb1 hf
    refine lv_iconst (v := 3) hx hb dX6_join_5 (by decide) ?_
    refine lv_goto (tgt := 14) hx hb dX6_join_6 (by decide) ?_
    have ho := so hf
    subst ho
    exact g_iret (v := (3 : Int32)) hx hb hr hlk hP hD hS dX6_join_14

theorem sg_X6_difference : yX6_difference.cls = RX6 ∧ yX6_difference.cls ≠ "java/lang/invoke/MethodHandle" ∧ yX6_difference.cls ≠ "java/lang/invoke/VarHandle" ∧ (parseMethodDescriptor yX6_difference.desc).map (fun d => d.parameters.length) = some 2 := by decide +kernel
abbrev rm_X6_difference : Room := { frames := 2, cells := 0, slots := 0, locals := 43 }
theorem wd_X6_difference_0 : (.methodLink RX6 195 Lib.Math.abs.name : Cond) ∈ wsX6_difference := by decide +kernel
theorem wd_X6_difference_1 : (.static Lib.Math.abs.name : Cond) ∈ wsX6_difference := by decide +kernel
theorem wd_X6_difference_2 : (.initialized "java/lang/Math" : Cond) ∈ wsX6_difference := by decide +kernel
theorem wd_X6_difference_3 : (.code Lib.Math.abs.name Lib.Math.abs.code 1 (some .int) : Cond) ∈ wsX6_difference := by decide +kernel
set_option maxHeartbeats 4000000 in
set_option maxRecDepth 100000 in
theorem kt_X6_difference (l : Launch) (D : va_G) (cI cZ cS : ClassId) (x0 : Int32) (x1 : Int32) (o : Int32) (hf : fn_X6_difference x0 x1 = some o) (sz : Nat) : Met l yX6_difference wsX6_difference rm_X6_difference (va_Pc [.int x0, .int x1] (gPre D cI cZ cS [] sz)) (va_Qi (fun r (_ : Unit) => r = o) (fun _ => gB D [] (va_A [] sz)) (va_A [] sz)) 0 0 (va_A [] sz) := by
  refine g_entry (y := yX6_difference) (av := [.int x0, .int x1]) (wi := []) (Qc := fun A => va_Qi (fun r (_ : Unit) => r = o) (fun _ => gB D [] A) A) (cc := cX6_difference) (maxL := 2) (ret := (some .int)) (by decide) rfl (Nat.le_of_ble_eq_true rfl) ?_ sz
  intro p e s m below meth c A ls Cx hP hD hS hl
  obtain ⟨hx, hb, hml, hr, hlk, hown, hin, hts, hK, hA⟩ := id Cx
  have hown : s.vm.findClass RX6 = some m.cls := hown
  have hl : lv_has ls 2 [(0, .int x0), (1, .int x1)] := hl
  unfold fn_X6_difference at hf
  refine lv_iload_n hx hb dX6_difference_0 rfl (lv_at hl 0 rfl) ?_
  refine lv_iload_n hx hb dX6_difference_1 rfl (lv_at hl 1 rfl) ?_
  obtain ⟨u1, hc1, hf⟩ := ob hf
  refine g_ki (wc := []) (wc' := []) (wr := []) (va_runS (As := [.int x0, .int x1]) (rest := []) ⟨hx, hb, hml, hown, hts⟩ (kt_X6_turn l D cI cZ cS x0 x1 u1 hc1 _) (va_cwS 2 hts gX6_difference_X6_turn rfl rfl rfl sg_X6_turn.2 ⟨(Nat.le_of_ble_eq_true rfl), (Nat.le_of_ble_eq_true rfl)⟩) (g_ps hK hP hD [] rfl (by decide)) rfl rfl hl.1 rfl (lv_room (Nat.le_of_ble_eq_true rfl)) dX6_difference_2 ⟨Nat.zero_le _, Nat.zero_le _⟩) hP hD hS hA [] [] rfl rfl (by decide) (by decide) (fun H locs hP hD hS => ?_)
  have hP : va_P D vwCl [] H := hP
  have hD : va_D A [] := hD
  refine lv_iload_n hx hb dX6_difference_5 rfl (lv_at hl 0 rfl) ?_
  refine lv_iconst (v := 3) hx hb dX6_difference_6 (by decide) ?_
  refine lv_irem hx hb dX6_difference_7 (by decide) ?_
  refine lv_iload_n hx hb dX6_difference_8 rfl (lv_at hl 1 rfl) ?_
  refine lv_iconst (v := 3) hx hb dX6_difference_9 (by decide) ?_
  refine lv_irem hx hb dX6_difference_10 (by decide) ?_
  refine lv_isub hx hb dX6_difference_11 ?_
  refine va_mabs hx hb (hml.trans hl.1.symm) hown (hts (.methodLink RX6 195 Lib.Math.abs.name) wd_X6_difference_0) (hts (.static Lib.Math.abs.name) wd_X6_difference_1) (hts (.initialized "java/lang/Math") wd_X6_difference_2) (hts (.code Lib.Math.abs.name Lib.Math.abs.code 1 (some .int)) wd_X6_difference_3) (Nat.le_of_ble_eq_true rfl) (Nat.le_of_ble_eq_true rfl) (Nat.zero_le _) (Nat.zero_le _) dX6_difference_12 ?_
  refine lv_iadd hx hb dX6_difference_15 ?_
  have ho := so hf
  subst ho
  exact g_iret (v := (u1 + (if 0 ≤ ((x0 - x0 / (3 : Int32) * (3 : Int32)) - (x1 - x1 / (3 : Int32) * (3 : Int32))) then ((x0 - x0 / (3 : Int32) * (3 : Int32)) - (x1 - x1 / (3 : Int32) * (3 : Int32))) else 0 - ((x0 - x0 / (3 : Int32) * (3 : Int32)) - (x1 - x1 / (3 : Int32) * (3 : Int32)))))) hx hb hr hlk hP hD hS dX6_difference_16

theorem sg_X6_isStroke : yX6_isStroke.cls = RX6 ∧ yX6_isStroke.cls ≠ "java/lang/invoke/MethodHandle" ∧ yX6_isStroke.cls ≠ "java/lang/invoke/VarHandle" ∧ (parseMethodDescriptor yX6_isStroke.desc).map (fun d => d.parameters.length) = some 1 := by decide +kernel
abbrev rm_X6_isStroke : Room := { frames := 0, cells := 0, slots := 0, locals := 0 }
set_option maxHeartbeats 4000000 in
set_option maxRecDepth 100000 in
theorem kt_X6_isStroke (l : Launch) (D : va_G) (cI cZ cS : ClassId) (x0 : Int32) (o : Int32) (hf : fn_X6_isStroke x0 = some o) (sz : Nat) : Met l yX6_isStroke wsX6_isStroke rm_X6_isStroke (va_Pc [.int x0] (gPre D cI cZ cS [] sz)) (va_Qi (fun r (_ : Unit) => r = o) (fun _ => gB D [] (va_A [] sz)) (va_A [] sz)) 0 0 (va_A [] sz) := by
  refine g_entry (y := yX6_isStroke) (av := [.int x0]) (wi := []) (Qc := fun A => va_Qi (fun r (_ : Unit) => r = o) (fun _ => gB D [] A) A) (cc := cX6_isStroke) (maxL := 1) (ret := (some .boolean)) (by decide) rfl (Nat.le_of_ble_eq_true rfl) ?_ sz
  intro p e s m below meth c A ls Cx hP hD hS hl
  obtain ⟨hx, hb, hml, hr, hlk, hown, hin, hts, hK, hA⟩ := id Cx
  have hown : s.vm.findClass RX6 = some m.cls := hown
  have hl : lv_has ls 1 [(0, .int x0)] := hl
  unfold fn_X6_isStroke at hf
  refine lv_iload_n hx hb dX6_isStroke_0 rfl (lv_at hl 0 rfl) ?_
  refine lv_if_lt (tgt := 14) hx hb dX6_isStroke_1 (by decide) (fun hb1 => ?_) (fun hb1 => ?_)
  · replace hf := if_t hb1 hf
    refine lv_iconst (v := 0) hx hb dX6_isStroke_14 (by decide) ?_
    have ho := so hf
    subst ho
    exact g_zret (v := (0 : Int32)) hx hb hr hlk rfl hP hD hS dX6_isStroke_15
  · replace hf := if_f hb1 hf
    refine lv_iload_n hx hb dX6_isStroke_4 rfl (lv_at hl 0 rfl) ?_
    refine lv_bipush (v := 24) hx hb dX6_isStroke_5 (by decide) ?_
    refine lv_icmp_ge (tgt := 14) hx hb dX6_isStroke_7 (by decide) (fun hb2 => ?_) (fun hb2 => ?_)
    · replace hf := if_t hb2 hf
      refine lv_iconst (v := 0) hx hb dX6_isStroke_14 (by decide) ?_
      have ho := so hf
      subst ho
      exact g_zret (v := (0 : Int32)) hx hb hr hlk rfl hP hD hS dX6_isStroke_15
    · replace hf := if_f hb2 hf
      refine lv_iconst (v := 1) hx hb dX6_isStroke_10 (by decide) ?_
      refine lv_goto (tgt := 15) hx hb dX6_isStroke_11 (by decide) ?_
      have ho := so hf
      subst ho
      exact g_zret (v := (1 : Int32)) hx hb hr hlk rfl hP hD hS dX6_isStroke_15

theorem sg_X6_mix : yX6_mix.cls = RX6 ∧ yX6_mix.cls ≠ "java/lang/invoke/MethodHandle" ∧ yX6_mix.cls ≠ "java/lang/invoke/VarHandle" ∧ (parseMethodDescriptor yX6_mix.desc).map (fun d => d.parameters.length) = some 2 := by decide +kernel
abbrev rm_X6_mix : Room := { frames := 0, cells := 0, slots := 0, locals := 0 }
theorem wd_X6_mix_0 : (.constantLong RX6 193 (31) : Cond) ∈ wsX6_mix := by decide +kernel
set_option maxHeartbeats 4000000 in
set_option maxRecDepth 100000 in
theorem kt_X6_mix (l : Launch) (D : va_G) (cI cZ cS : ClassId) (x0 : Int64) (x2 : Int32) (o : Int64) (hf : fn_X6_mix x0 x2 = some o) (sz : Nat) : Met l yX6_mix wsX6_mix rm_X6_mix (va_Pc [.long x0, .int x2] (gPre D cI cZ cS [] sz)) (va_Ql (fun r (_ : Unit) => r = o) (fun _ => gB D [] (va_A [] sz)) (va_A [] sz)) 0 0 (va_A [] sz) := by
  refine g_entry (y := yX6_mix) (av := [.long x0, .int x2]) (wi := []) (Qc := fun A => va_Ql (fun r (_ : Unit) => r = o) (fun _ => gB D [] A) A) (cc := cX6_mix) (maxL := 3) (ret := (some .long)) (by decide) rfl (Nat.le_of_ble_eq_true rfl) ?_ sz
  intro p e s m below meth c A ls Cx hP hD hS hl
  obtain ⟨hx, hb, hml, hr, hlk, hown, hin, hts, hK, hA⟩ := id Cx
  have hown : s.vm.findClass RX6 = some m.cls := hown
  have hl : lv_has ls 3 [(0, .long x0), (2, .int x2)] := hl
  unfold fn_X6_mix at hf
  refine lv_ldc2 (v := 31) hx hb hown (hts (.constantLong RX6 193 (31)) wd_X6_mix_0) dX6_mix_0 ?_
  refine lv_lload_n hx hb dX6_mix_3 rfl (lv_at hl 0 rfl) ?_
  refine lv_lmul hx hb dX6_mix_4 ?_
  refine lv_iload_n hx hb dX6_mix_5 rfl (lv_at hl 1 rfl) ?_
  refine lv_i2l (v := (x2).toInt64) hx hb dX6_mix_6 rfl ?_
  refine lv_ladd hx hb dX6_mix_7 ?_
  have ho := so hf
  subst ho
  exact g_lret (v := (((31 : Int64) * x0) + (x2).toInt64)) hx hb hr hlk hP hD hS dX6_mix_8

theorem sg_X5_differenceFromSound : yX5_differenceFromSound.cls = RX5 ∧ yX5_differenceFromSound.cls ≠ "java/lang/invoke/MethodHandle" ∧ yX5_differenceFromSound.cls ≠ "java/lang/invoke/VarHandle" ∧ (parseMethodDescriptor yX5_differenceFromSound.desc).map (fun d => d.parameters.length) = some 2 := by decide +kernel
abbrev rm_X5_differenceFromSound : Room := { frames := 3, cells := 0, slots := 0, locals := 64 }
theorem wd_X5_differenceFromSound_0 : (.fieldLink RX5 9 "ShorthandOutlines$State" "first" "[I" : Cond) ∈ wsX5_differenceFromSound := by decide +kernel
theorem wd_X5_differenceFromSound_1 : (.initialized RX6 : Cond) ∈ wsX5_differenceFromSound := by decide +kernel
theorem wd_X5_differenceFromSound_2 : (.static yX6_difference : Cond) ∈ wsX5_differenceFromSound := by decide +kernel
theorem wd_X5_differenceFromSound_3 : (.fieldLink RX5 15 "ShorthandOutlines$State" "second" "[I" : Cond) ∈ wsX5_differenceFromSound := by decide +kernel
theorem wd_X5_differenceFromSound_4 : (.methodLink RX5 65 Lib.Math.min.name : Cond) ∈ wsX5_differenceFromSound := by decide +kernel
theorem wd_X5_differenceFromSound_5 : (.static Lib.Math.min.name : Cond) ∈ wsX5_differenceFromSound := by decide +kernel
theorem wd_X5_differenceFromSound_6 : (.initialized "java/lang/Math" : Cond) ∈ wsX5_differenceFromSound := by decide +kernel
theorem wd_X5_differenceFromSound_7 : (.code Lib.Math.min.name Lib.Math.min.code 2 (some .int) : Cond) ∈ wsX5_differenceFromSound := by decide +kernel
theorem ly_X5_differenceFromSound_X5 : ∀ w ∈ u_ws RX5 TX5 8, w ∈ wsX5_differenceFromSound := by decide +kernel
set_option maxHeartbeats 4000000 in
set_option maxRecDepth 100000 in
theorem kt_X5_differenceFromSound (l : Launch) (D : va_G) (cI cZ cS : ClassId) (a_t : Nat) (a_first : Nat) (a_second : Nat) (a_spelling : Nat) (a_lengths : Nat) (a_frequencies : Nat) (a_briefs : Nat) (v_vowels : Int32) (v_wordCount : Int32) (m_first : Nat → Int32) (m_second : Nat → Int32) (x1 : Int32) (x2 : Int32) (o : Int32) (hf : fn_X5_differenceFromSound m_first m_second x1 x2 = some o) (sz : Nat) : Met l yX5_differenceFromSound wsX5_differenceFromSound rm_X5_differenceFromSound (va_Pc [.ref a_t, .int x1, .int x2] (gPre D cI cZ cS [(a_t, .inr (5, [.ref a_first, .ref a_second, .int v_vowels, .int v_wordCount, .ref a_spelling, .ref a_lengths, .ref a_frequencies, .ref a_briefs])), (a_first, .inl (cI, 8, .inl m_first)), (a_second, .inl (cI, 8, .inl m_second))] sz)) (va_Qi (fun r (_ : Unit) => r = o) (fun _ => gB D [(a_t, .inr (5, [.ref a_first, .ref a_second, .int v_vowels, .int v_wordCount, .ref a_spelling, .ref a_lengths, .ref a_frequencies, .ref a_briefs])), (a_first, .inl (cI, 8, .inl m_first)), (a_second, .inl (cI, 8, .inl m_second))] (va_A [(a_t, .inr (5, [.ref a_first, .ref a_second, .int v_vowels, .int v_wordCount, .ref a_spelling, .ref a_lengths, .ref a_frequencies, .ref a_briefs])), (a_first, .inl (cI, 8, .inl m_first)), (a_second, .inl (cI, 8, .inl m_second))] sz)) (va_A [(a_t, .inr (5, [.ref a_first, .ref a_second, .int v_vowels, .int v_wordCount, .ref a_spelling, .ref a_lengths, .ref a_frequencies, .ref a_briefs])), (a_first, .inl (cI, 8, .inl m_first)), (a_second, .inl (cI, 8, .inl m_second))] sz)) 0 0 (va_A [(a_t, .inr (5, [.ref a_first, .ref a_second, .int v_vowels, .int v_wordCount, .ref a_spelling, .ref a_lengths, .ref a_frequencies, .ref a_briefs])), (a_first, .inl (cI, 8, .inl m_first)), (a_second, .inl (cI, 8, .inl m_second))] sz) := by
  refine g_entry (y := yX5_differenceFromSound) (av := [.ref a_t, .int x1, .int x2]) (wi := [(a_t, .inr (5, [.ref a_first, .ref a_second, .int v_vowels, .int v_wordCount, .ref a_spelling, .ref a_lengths, .ref a_frequencies, .ref a_briefs])), (a_first, .inl (cI, 8, .inl m_first)), (a_second, .inl (cI, 8, .inl m_second))]) (Qc := fun A => va_Qi (fun r (_ : Unit) => r = o) (fun _ => gB D [(a_t, .inr (5, [.ref a_first, .ref a_second, .int v_vowels, .int v_wordCount, .ref a_spelling, .ref a_lengths, .ref a_frequencies, .ref a_briefs])), (a_first, .inl (cI, 8, .inl m_first)), (a_second, .inl (cI, 8, .inl m_second))] A) A) (cc := cX5_differenceFromSound) (maxL := 4) (ret := (some .int)) (by decide) rfl (Nat.le_of_ble_eq_true rfl) ?_ sz
  intro p e s m below meth c A ls Cx hP hD hS hl
  obtain ⟨hx, hb, hml, hr, hlk, hown, hin, hts, hK, hA⟩ := id Cx
  have hown : s.vm.findClass RX5 = some m.cls := hown
  have hl : lv_has ls 4 [(0, .ref a_t), (1, .int x1), (2, .int x2)] := hl
  unfold fn_X5_differenceFromSound at hf
  refine lv_iload_n hx hb dX5_differenceFromSound_0 rfl (lv_at hl 1 rfl) ?_
  refine lv_aload_n hx hb dX5_differenceFromSound_1 rfl (lv_at hl 0 rfl) ?_
  refine va_get (D := D) (ci := 5) (v := .ref a_first) (C := RX5) (T := TX5) (N := 8) hx hb hts ly_X5_differenceFromSound_X5 hown hK.1 hP 0 rfl rfl 0 (by decide) (hts (.fieldLink RX5 9 "ShorthandOutlines$State" "first" "[I") wd_X5_differenceFromSound_0) (fun _ h9 => h9) rfl dX5_differenceFromSound_2 ?_
  refine lv_iload_n hx hb dX5_differenceFromSound_5 rfl (lv_at hl 2 rfl) ?_
  have hi1 := gd_1 hf
  replace hf := gd_2 hf
  refine va_iald hx hb hK.1 hP 1 0 rfl rfl (inb_in hi1) dX5_differenceFromSound_6 ?_
  obtain ⟨u1, hc2, hf⟩ := ob hf
  refine g_ki (wc := []) (wc' := []) (wr := [(a_t, .inr (5, [.ref a_first, .ref a_second, .int v_vowels, .int v_wordCount, .ref a_spelling, .ref a_lengths, .ref a_frequencies, .ref a_briefs])), (a_first, .inl (cI, 8, .inl m_first)), (a_second, .inl (cI, 8, .inl m_second))]) (va_runSN (As := [.int x1, .int (m_first x2.toNatClampNeg)]) (rest := []) ⟨hx, hb, hml, hown, hts⟩ (kt_X6_difference l D cI cZ cS x1 (m_first x2.toNatClampNeg) u1 hc2 _) ⟨va_cnB 2 hts gX5_differenceFromSound_X6_difference_n62 rfl rfl rfl hK.2.2.2.2.2.2.2.2.1 (hts (.initialized RX6) wd_X5_differenceFromSound_1) sg_X6_difference.2 ⟨(Nat.le_of_ble_eq_true rfl), (Nat.le_of_ble_eq_true rfl)⟩, (hts (.static yX6_difference) wd_X5_differenceFromSound_2), trivial⟩ (g_ps hK hP hD [] rfl (by decide)) rfl rfl hl.1 rfl (lv_room (Nat.le_of_ble_eq_true rfl)) dX5_differenceFromSound_7 ⟨Nat.zero_le _, Nat.zero_le _⟩) hP hD hS hA [] [0, 1, 2] rfl rfl (by decide) (by decide) (fun H locs hP hD hS => ?_)
  have hP : va_P D vwCl [(a_t, .inr (5, [.ref a_first, .ref a_second, .int v_vowels, .int v_wordCount, .ref a_spelling, .ref a_lengths, .ref a_frequencies, .ref a_briefs])), (a_first, .inl (cI, 8, .inl m_first)), (a_second, .inl (cI, 8, .inl m_second))] H := hP
  have hD : va_D A [(a_t, .inr (5, [.ref a_first, .ref a_second, .int v_vowels, .int v_wordCount, .ref a_spelling, .ref a_lengths, .ref a_frequencies, .ref a_briefs])), (a_first, .inl (cI, 8, .inl m_first)), (a_second, .inl (cI, 8, .inl m_second))] := hD
  refine lv_istore_n (lv' := [(3, .int u1), (0, .ref a_t), (1, .int x1), (2, .int x2)]) hx hb dX5_differenceFromSound_10 rfl hl (by decide) rfl (fun ls hl => ?_)
  refine lv_aload_n hx hb dX5_differenceFromSound_11 rfl (lv_at hl 1 rfl) ?_
  refine va_get (D := D) (ci := 5) (v := .ref a_second) (C := RX5) (T := TX5) (N := 8) hx hb hts ly_X5_differenceFromSound_X5 hown hK.1 hP 0 rfl rfl 1 (by decide) (hts (.fieldLink RX5 15 "ShorthandOutlines$State" "second" "[I") wd_X5_differenceFromSound_3) (fun _ h9 => h9) rfl dX5_differenceFromSound_12 ?_
  refine lv_iload_n hx hb dX5_differenceFromSound_15 rfl (lv_at hl 3 rfl) ?_
  have hi3 := gd_1 hf
  replace hf := gd_2 hf
  refine va_iald hx hb hK.1 hP 2 0 rfl rfl (inb_in hi3) dX5_differenceFromSound_16 ?_
  refine lv_iconst (v := -1) hx hb dX5_differenceFromSound_17 (by decide) ?_
  refine lv_icmp_ne (tgt := 23) hx hb dX5_differenceFromSound_18 (by decide) (fun hb4 => ?_) (fun hb4 => ?_)
  · replace hf := if_f hb4 hf
    refine lv_iload_n hx hb dX5_differenceFromSound_23 rfl (lv_at hl 0 rfl) ?_
    refine lv_iload_n hx hb dX5_differenceFromSound_24 rfl (lv_at hl 2 rfl) ?_
    refine lv_aload_n hx hb dX5_differenceFromSound_25 rfl (lv_at hl 1 rfl) ?_
    refine va_get (D := D) (ci := 5) (v := .ref a_second) (C := RX5) (T := TX5) (N := 8) hx hb hts ly_X5_differenceFromSound_X5 hown hK.1 hP 0 rfl rfl 1 (by decide) (hts (.fieldLink RX5 15 "ShorthandOutlines$State" "second" "[I") wd_X5_differenceFromSound_3) (fun _ h9 => h9) rfl dX5_differenceFromSound_26 ?_
    refine lv_iload_n hx hb dX5_differenceFromSound_29 rfl (lv_at hl 3 rfl) ?_
    have hi5 := gd_1 hf
    replace hf := gd_2 hf
    refine va_iald hx hb hK.1 hP 2 0 rfl rfl (inb_in hi5) dX5_differenceFromSound_30 ?_
    obtain ⟨u2, hc6, hf⟩ := ob hf
    refine g_ki (wc := []) (wc' := []) (wr := [(a_t, .inr (5, [.ref a_first, .ref a_second, .int v_vowels, .int v_wordCount, .ref a_spelling, .ref a_lengths, .ref a_frequencies, .ref a_briefs])), (a_first, .inl (cI, 8, .inl m_first)), (a_second, .inl (cI, 8, .inl m_second))]) (va_runSN (As := [.int x1, .int (m_second x2.toNatClampNeg)]) (rest := [.int u1]) ⟨hx, hb, hml, hown, hts⟩ (kt_X6_difference l D cI cZ cS x1 (m_second x2.toNatClampNeg) u2 hc6 _) ⟨va_cnB 2 hts gX5_differenceFromSound_X6_difference_n62 rfl rfl rfl hK.2.2.2.2.2.2.2.2.1 (hts (.initialized RX6) wd_X5_differenceFromSound_1) sg_X6_difference.2 ⟨(Nat.le_of_ble_eq_true rfl), (Nat.le_of_ble_eq_true rfl)⟩, (hts (.static yX6_difference) wd_X5_differenceFromSound_2), trivial⟩ (g_ps hK hP hD [] rfl (by decide)) rfl rfl hl.1 rfl (lv_room (Nat.le_of_ble_eq_true rfl)) dX5_differenceFromSound_31 ⟨Nat.zero_le _, Nat.zero_le _⟩) hP hD hS hA [] [0, 1, 2] rfl rfl (by decide) (by decide) (fun H locs hP hD hS => ?_)
    have hP : va_P D vwCl [(a_t, .inr (5, [.ref a_first, .ref a_second, .int v_vowels, .int v_wordCount, .ref a_spelling, .ref a_lengths, .ref a_frequencies, .ref a_briefs])), (a_first, .inl (cI, 8, .inl m_first)), (a_second, .inl (cI, 8, .inl m_second))] H := hP
    have hD : va_D A [(a_t, .inr (5, [.ref a_first, .ref a_second, .int v_vowels, .int v_wordCount, .ref a_spelling, .ref a_lengths, .ref a_frequencies, .ref a_briefs])), (a_first, .inl (cI, 8, .inl m_first)), (a_second, .inl (cI, 8, .inl m_second))] := hD
    refine va_mmin hx hb (hml.trans hl.1.symm) hown (hts (.methodLink RX5 65 Lib.Math.min.name) wd_X5_differenceFromSound_4) (hts (.static Lib.Math.min.name) wd_X5_differenceFromSound_5) (hts (.initialized "java/lang/Math") wd_X5_differenceFromSound_6) (hts (.code Lib.Math.min.name Lib.Math.min.code 2 (some .int)) wd_X5_differenceFromSound_7) (Nat.le_of_ble_eq_true rfl) (Nat.le_of_ble_eq_true rfl) (Nat.zero_le _) (Nat.zero_le _) dX5_differenceFromSound_34 ?_
    have ho := so hf
    subst ho
    exact g_iret (v := (if u2 < u1 then u2 else u1)) hx hb hr hlk hP hD hS dX5_differenceFromSound_37
  · replace hf := if_t hb4 hf
    refine lv_iload_n hx hb dX5_differenceFromSound_21 rfl (lv_at hl 0 rfl) ?_
    have ho := so hf
    subst ho
    exact g_iret (v := u1) hx hb hr hlk hP hD hS dX5_differenceFromSound_22

theorem sg_X5_copyFrom : yX5_copyFrom.cls = RX5 ∧ yX5_copyFrom.cls ≠ "java/lang/invoke/MethodHandle" ∧ yX5_copyFrom.cls ≠ "java/lang/invoke/VarHandle" ∧ (parseMethodDescriptor yX5_copyFrom.desc).map (fun d => d.parameters.length) = some 1 := by decide +kernel
abbrev rm_X5_copyFrom : Room := { frames := 1, cells := 0, slots := 0, locals := 26 }
theorem wd_X5_copyFrom_0 : (.fieldLink RX5 9 "ShorthandOutlines$State" "first" "[I" : Cond) ∈ wsX5_copyFrom := by decide +kernel
theorem wd_X5_copyFrom_1 : (.methodLink RX5 37 arraycopyName : Cond) ∈ wsX5_copyFrom := by decide +kernel
theorem wd_X5_copyFrom_2 : (.native arraycopyName : Cond) ∈ wsX5_copyFrom := by decide +kernel
theorem wd_X5_copyFrom_3 : (.static arraycopyName : Cond) ∈ wsX5_copyFrom := by decide +kernel
theorem wd_X5_copyFrom_4 : (.initialized "java/lang/System" : Cond) ∈ wsX5_copyFrom := by decide +kernel
theorem wd_X5_copyFrom_5 : (.fieldLink RX5 15 "ShorthandOutlines$State" "second" "[I" : Cond) ∈ wsX5_copyFrom := by decide +kernel
theorem wd_X5_copyFrom_6 : (.fieldLink RX5 18 "ShorthandOutlines$State" "vowels" "I" : Cond) ∈ wsX5_copyFrom := by decide +kernel
theorem wd_X5_copyFrom_7 : (.fieldLink RX5 22 "ShorthandOutlines$State" "wordCount" "I" : Cond) ∈ wsX5_copyFrom := by decide +kernel
theorem wd_X5_copyFrom_8 : (.fieldLink RX5 25 "ShorthandOutlines$State" "spelling" "[I" : Cond) ∈ wsX5_copyFrom := by decide +kernel
theorem wd_X5_copyFrom_9 : (.fieldLink RX5 28 "ShorthandOutlines$State" "lengths" "[I" : Cond) ∈ wsX5_copyFrom := by decide +kernel
theorem wd_X5_copyFrom_10 : (.fieldLink RX5 31 "ShorthandOutlines$State" "frequencies" "[I" : Cond) ∈ wsX5_copyFrom := by decide +kernel
theorem wd_X5_copyFrom_11 : (.fieldLink RX5 34 "ShorthandOutlines$State" "briefs" "[I" : Cond) ∈ wsX5_copyFrom := by decide +kernel
theorem ly_X5_copyFrom_X5 : ∀ w ∈ u_ws RX5 TX5 8, w ∈ wsX5_copyFrom := by decide +kernel
set_option maxHeartbeats 4000000 in
set_option maxRecDepth 100000 in
theorem kt_X5_copyFrom (l : Launch) (D : va_G) (cI cZ cS : ClassId) (a_t : Nat) (a_first : Nat) (a_second : Nat) (a_spelling : Nat) (a_lengths : Nat) (a_frequencies : Nat) (a_briefs : Nat) (a_p1 : Nat) (a_p1_first : Nat) (a_p1_second : Nat) (a_p1_spelling : Nat) (a_p1_lengths : Nat) (a_p1_frequencies : Nat) (a_p1_briefs : Nat) (v_vowels : Int32) (v_wordCount : Int32) (m_first : Nat → Int32) (m_second : Nat → Int32) (m_spelling : Nat → Int32) (m_lengths : Nat → Int32) (m_frequencies : Nat → Int32) (m_briefs : Nat → Int32) (v_p1_vowels : Int32) (v_p1_wordCount : Int32) (m_p1_first : Nat → Int32) (m_p1_second : Nat → Int32) (m_p1_spelling : Nat → Int32) (m_p1_lengths : Nat → Int32) (m_p1_frequencies : Nat → Int32) (m_p1_briefs : Nat → Int32) (o : Int32 × Int32 × (Nat → Int32) × (Nat → Int32) × (Nat → Int32) × (Nat → Int32) × (Nat → Int32) × (Nat → Int32)) (hf : fn_X5_copyFrom v_vowels v_wordCount m_first m_second m_spelling m_lengths m_frequencies m_briefs v_p1_vowels v_p1_wordCount m_p1_first m_p1_second m_p1_spelling m_p1_lengths m_p1_frequencies m_p1_briefs = some o) (sz : Nat) : Met l yX5_copyFrom wsX5_copyFrom rm_X5_copyFrom (va_Pc [.ref a_t, .ref a_p1] (gPre D cI cZ cS [(a_t, .inr (5, [.ref a_first, .ref a_second, .int v_vowels, .int v_wordCount, .ref a_spelling, .ref a_lengths, .ref a_frequencies, .ref a_briefs])), (a_first, .inl (cI, 8, .inl m_first)), (a_second, .inl (cI, 8, .inl m_second)), (a_spelling, .inl (cI, 96, .inl m_spelling)), (a_lengths, .inl (cI, 12, .inl m_lengths)), (a_frequencies, .inl (cI, 12, .inl m_frequencies)), (a_briefs, .inl (cI, 12, .inl m_briefs)), (a_p1, .inr (5, [.ref a_p1_first, .ref a_p1_second, .int v_p1_vowels, .int v_p1_wordCount, .ref a_p1_spelling, .ref a_p1_lengths, .ref a_p1_frequencies, .ref a_p1_briefs])), (a_p1_first, .inl (cI, 8, .inl m_p1_first)), (a_p1_second, .inl (cI, 8, .inl m_p1_second)), (a_p1_spelling, .inl (cI, 96, .inl m_p1_spelling)), (a_p1_lengths, .inl (cI, 12, .inl m_p1_lengths)), (a_p1_frequencies, .inl (cI, 12, .inl m_p1_frequencies)), (a_p1_briefs, .inl (cI, 12, .inl m_p1_briefs))] sz)) (va_Qv (fun (_ : Unit) => True) (fun _ => gB D [(a_t, .inr (5, [.ref a_first, .ref a_second, .int o.1, .int o.2.1, .ref a_spelling, .ref a_lengths, .ref a_frequencies, .ref a_briefs])), (a_first, .inl (cI, 8, .inl o.2.2.1)), (a_second, .inl (cI, 8, .inl o.2.2.2.1)), (a_spelling, .inl (cI, 96, .inl o.2.2.2.2.1)), (a_lengths, .inl (cI, 12, .inl o.2.2.2.2.2.1)), (a_frequencies, .inl (cI, 12, .inl o.2.2.2.2.2.2.1)), (a_briefs, .inl (cI, 12, .inl o.2.2.2.2.2.2.2)), (a_p1, .inr (5, [.ref a_p1_first, .ref a_p1_second, .int v_p1_vowels, .int v_p1_wordCount, .ref a_p1_spelling, .ref a_p1_lengths, .ref a_p1_frequencies, .ref a_p1_briefs])), (a_p1_first, .inl (cI, 8, .inl m_p1_first)), (a_p1_second, .inl (cI, 8, .inl m_p1_second)), (a_p1_spelling, .inl (cI, 96, .inl m_p1_spelling)), (a_p1_lengths, .inl (cI, 12, .inl m_p1_lengths)), (a_p1_frequencies, .inl (cI, 12, .inl m_p1_frequencies)), (a_p1_briefs, .inl (cI, 12, .inl m_p1_briefs))] (va_A [(a_t, .inr (5, [.ref a_first, .ref a_second, .int v_vowels, .int v_wordCount, .ref a_spelling, .ref a_lengths, .ref a_frequencies, .ref a_briefs])), (a_first, .inl (cI, 8, .inl m_first)), (a_second, .inl (cI, 8, .inl m_second)), (a_spelling, .inl (cI, 96, .inl m_spelling)), (a_lengths, .inl (cI, 12, .inl m_lengths)), (a_frequencies, .inl (cI, 12, .inl m_frequencies)), (a_briefs, .inl (cI, 12, .inl m_briefs)), (a_p1, .inr (5, [.ref a_p1_first, .ref a_p1_second, .int v_p1_vowels, .int v_p1_wordCount, .ref a_p1_spelling, .ref a_p1_lengths, .ref a_p1_frequencies, .ref a_p1_briefs])), (a_p1_first, .inl (cI, 8, .inl m_p1_first)), (a_p1_second, .inl (cI, 8, .inl m_p1_second)), (a_p1_spelling, .inl (cI, 96, .inl m_p1_spelling)), (a_p1_lengths, .inl (cI, 12, .inl m_p1_lengths)), (a_p1_frequencies, .inl (cI, 12, .inl m_p1_frequencies)), (a_p1_briefs, .inl (cI, 12, .inl m_p1_briefs))] sz)) (va_A [(a_t, .inr (5, [.ref a_first, .ref a_second, .int v_vowels, .int v_wordCount, .ref a_spelling, .ref a_lengths, .ref a_frequencies, .ref a_briefs])), (a_first, .inl (cI, 8, .inl m_first)), (a_second, .inl (cI, 8, .inl m_second)), (a_spelling, .inl (cI, 96, .inl m_spelling)), (a_lengths, .inl (cI, 12, .inl m_lengths)), (a_frequencies, .inl (cI, 12, .inl m_frequencies)), (a_briefs, .inl (cI, 12, .inl m_briefs)), (a_p1, .inr (5, [.ref a_p1_first, .ref a_p1_second, .int v_p1_vowels, .int v_p1_wordCount, .ref a_p1_spelling, .ref a_p1_lengths, .ref a_p1_frequencies, .ref a_p1_briefs])), (a_p1_first, .inl (cI, 8, .inl m_p1_first)), (a_p1_second, .inl (cI, 8, .inl m_p1_second)), (a_p1_spelling, .inl (cI, 96, .inl m_p1_spelling)), (a_p1_lengths, .inl (cI, 12, .inl m_p1_lengths)), (a_p1_frequencies, .inl (cI, 12, .inl m_p1_frequencies)), (a_p1_briefs, .inl (cI, 12, .inl m_p1_briefs))] sz)) 0 0 (va_A [(a_t, .inr (5, [.ref a_first, .ref a_second, .int v_vowels, .int v_wordCount, .ref a_spelling, .ref a_lengths, .ref a_frequencies, .ref a_briefs])), (a_first, .inl (cI, 8, .inl m_first)), (a_second, .inl (cI, 8, .inl m_second)), (a_spelling, .inl (cI, 96, .inl m_spelling)), (a_lengths, .inl (cI, 12, .inl m_lengths)), (a_frequencies, .inl (cI, 12, .inl m_frequencies)), (a_briefs, .inl (cI, 12, .inl m_briefs)), (a_p1, .inr (5, [.ref a_p1_first, .ref a_p1_second, .int v_p1_vowels, .int v_p1_wordCount, .ref a_p1_spelling, .ref a_p1_lengths, .ref a_p1_frequencies, .ref a_p1_briefs])), (a_p1_first, .inl (cI, 8, .inl m_p1_first)), (a_p1_second, .inl (cI, 8, .inl m_p1_second)), (a_p1_spelling, .inl (cI, 96, .inl m_p1_spelling)), (a_p1_lengths, .inl (cI, 12, .inl m_p1_lengths)), (a_p1_frequencies, .inl (cI, 12, .inl m_p1_frequencies)), (a_p1_briefs, .inl (cI, 12, .inl m_p1_briefs))] sz) := by
  refine g_entry (y := yX5_copyFrom) (av := [.ref a_t, .ref a_p1]) (wi := [(a_t, .inr (5, [.ref a_first, .ref a_second, .int v_vowels, .int v_wordCount, .ref a_spelling, .ref a_lengths, .ref a_frequencies, .ref a_briefs])), (a_first, .inl (cI, 8, .inl m_first)), (a_second, .inl (cI, 8, .inl m_second)), (a_spelling, .inl (cI, 96, .inl m_spelling)), (a_lengths, .inl (cI, 12, .inl m_lengths)), (a_frequencies, .inl (cI, 12, .inl m_frequencies)), (a_briefs, .inl (cI, 12, .inl m_briefs)), (a_p1, .inr (5, [.ref a_p1_first, .ref a_p1_second, .int v_p1_vowels, .int v_p1_wordCount, .ref a_p1_spelling, .ref a_p1_lengths, .ref a_p1_frequencies, .ref a_p1_briefs])), (a_p1_first, .inl (cI, 8, .inl m_p1_first)), (a_p1_second, .inl (cI, 8, .inl m_p1_second)), (a_p1_spelling, .inl (cI, 96, .inl m_p1_spelling)), (a_p1_lengths, .inl (cI, 12, .inl m_p1_lengths)), (a_p1_frequencies, .inl (cI, 12, .inl m_p1_frequencies)), (a_p1_briefs, .inl (cI, 12, .inl m_p1_briefs))]) (Qc := fun A => va_Qv (fun (_ : Unit) => True) (fun _ => gB D [(a_t, .inr (5, [.ref a_first, .ref a_second, .int o.1, .int o.2.1, .ref a_spelling, .ref a_lengths, .ref a_frequencies, .ref a_briefs])), (a_first, .inl (cI, 8, .inl o.2.2.1)), (a_second, .inl (cI, 8, .inl o.2.2.2.1)), (a_spelling, .inl (cI, 96, .inl o.2.2.2.2.1)), (a_lengths, .inl (cI, 12, .inl o.2.2.2.2.2.1)), (a_frequencies, .inl (cI, 12, .inl o.2.2.2.2.2.2.1)), (a_briefs, .inl (cI, 12, .inl o.2.2.2.2.2.2.2)), (a_p1, .inr (5, [.ref a_p1_first, .ref a_p1_second, .int v_p1_vowels, .int v_p1_wordCount, .ref a_p1_spelling, .ref a_p1_lengths, .ref a_p1_frequencies, .ref a_p1_briefs])), (a_p1_first, .inl (cI, 8, .inl m_p1_first)), (a_p1_second, .inl (cI, 8, .inl m_p1_second)), (a_p1_spelling, .inl (cI, 96, .inl m_p1_spelling)), (a_p1_lengths, .inl (cI, 12, .inl m_p1_lengths)), (a_p1_frequencies, .inl (cI, 12, .inl m_p1_frequencies)), (a_p1_briefs, .inl (cI, 12, .inl m_p1_briefs))] A) A) (cc := cX5_copyFrom) (maxL := 2) (ret := none) (by decide) rfl (Nat.le_of_ble_eq_true rfl) ?_ sz
  intro p e s m below meth c A ls Cx hP hD hS hl
  obtain ⟨hx, hb, hml, hr, hlk, hown, hin, hts, hK, hA⟩ := id Cx
  have hown : s.vm.findClass RX5 = some m.cls := hown
  have hl : lv_has ls 2 [(0, .ref a_t), (1, .ref a_p1)] := hl
  unfold fn_X5_copyFrom at hf
  refine lv_aload_n hx hb dX5_copyFrom_0 rfl (lv_at hl 1 rfl) ?_
  refine va_get (D := D) (ci := 5) (v := .ref a_p1_first) (C := RX5) (T := TX5) (N := 8) hx hb hts ly_X5_copyFrom_X5 hown hK.1 hP 7 rfl rfl 0 (by decide) (hts (.fieldLink RX5 9 "ShorthandOutlines$State" "first" "[I") wd_X5_copyFrom_0) (fun _ h9 => h9) rfl dX5_copyFrom_1 ?_
  refine lv_iconst (v := 0) hx hb dX5_copyFrom_4 (by decide) ?_
  refine lv_aload_n hx hb dX5_copyFrom_5 rfl (lv_at hl 0 rfl) ?_
  refine va_get (D := D) (ci := 5) (v := .ref a_first) (C := RX5) (T := TX5) (N := 8) hx hb hts ly_X5_copyFrom_X5 hown hK.1 hP 0 rfl rfl 0 (by decide) (hts (.fieldLink RX5 9 "ShorthandOutlines$State" "first" "[I") wd_X5_copyFrom_0) (fun _ h9 => h9) rfl dX5_copyFrom_6 ?_
  refine lv_iconst (v := 0) hx hb dX5_copyFrom_9 (by decide) ?_
  refine lv_bipush (v := 8) hx hb dX5_copyFrom_10 (by decide) ?_
  refine va_copyi (ty := .int) hx hb (hml.trans hl.1.symm) hown (hts (.methodLink RX5 37 arraycopyName) wd_X5_copyFrom_1) (hts (.native arraycopyName) wd_X5_copyFrom_2) (hts (.static arraycopyName) wd_X5_copyFrom_3) (hts (.initialized "java/lang/System") wd_X5_copyFrom_4) hK.1 hP hD hS 8 1 0 0 rfl rfl rfl rfl rfl (by decide) (by decide) (by decide) (by decide) (by decide) (fun _ _ => rfl) (Nat.le_of_ble_eq_true rfl) (Nat.le_of_ble_eq_true rfl) dX5_copyFrom_12 (fun H locs hP hD hS => ?_)
  have hP : va_P D vwCl [(a_t, .inr (5, [.ref a_first, .ref a_second, .int v_vowels, .int v_wordCount, .ref a_spelling, .ref a_lengths, .ref a_frequencies, .ref a_briefs])), (a_first, .inl (cI, 8, .inl (va_cpy m_p1_first m_first (0 : Int32).toNatClampNeg (0 : Int32).toNatClampNeg (8 : Int32).toNatClampNeg))), (a_second, .inl (cI, 8, .inl m_second)), (a_spelling, .inl (cI, 96, .inl m_spelling)), (a_lengths, .inl (cI, 12, .inl m_lengths)), (a_frequencies, .inl (cI, 12, .inl m_frequencies)), (a_briefs, .inl (cI, 12, .inl m_briefs)), (a_p1, .inr (5, [.ref a_p1_first, .ref a_p1_second, .int v_p1_vowels, .int v_p1_wordCount, .ref a_p1_spelling, .ref a_p1_lengths, .ref a_p1_frequencies, .ref a_p1_briefs])), (a_p1_first, .inl (cI, 8, .inl m_p1_first)), (a_p1_second, .inl (cI, 8, .inl m_p1_second)), (a_p1_spelling, .inl (cI, 96, .inl m_p1_spelling)), (a_p1_lengths, .inl (cI, 12, .inl m_p1_lengths)), (a_p1_frequencies, .inl (cI, 12, .inl m_p1_frequencies)), (a_p1_briefs, .inl (cI, 12, .inl m_p1_briefs))] H := hP
  have hD : va_D A [(a_t, .inr (5, [.ref a_first, .ref a_second, .int v_vowels, .int v_wordCount, .ref a_spelling, .ref a_lengths, .ref a_frequencies, .ref a_briefs])), (a_first, .inl (cI, 8, .inl (va_cpy m_p1_first m_first (0 : Int32).toNatClampNeg (0 : Int32).toNatClampNeg (8 : Int32).toNatClampNeg))), (a_second, .inl (cI, 8, .inl m_second)), (a_spelling, .inl (cI, 96, .inl m_spelling)), (a_lengths, .inl (cI, 12, .inl m_lengths)), (a_frequencies, .inl (cI, 12, .inl m_frequencies)), (a_briefs, .inl (cI, 12, .inl m_briefs)), (a_p1, .inr (5, [.ref a_p1_first, .ref a_p1_second, .int v_p1_vowels, .int v_p1_wordCount, .ref a_p1_spelling, .ref a_p1_lengths, .ref a_p1_frequencies, .ref a_p1_briefs])), (a_p1_first, .inl (cI, 8, .inl m_p1_first)), (a_p1_second, .inl (cI, 8, .inl m_p1_second)), (a_p1_spelling, .inl (cI, 96, .inl m_p1_spelling)), (a_p1_lengths, .inl (cI, 12, .inl m_p1_lengths)), (a_p1_frequencies, .inl (cI, 12, .inl m_p1_frequencies)), (a_p1_briefs, .inl (cI, 12, .inl m_p1_briefs))] := hD
  refine lv_aload_n hx hb dX5_copyFrom_15 rfl (lv_at hl 1 rfl) ?_
  refine va_get (D := D) (ci := 5) (v := .ref a_p1_second) (C := RX5) (T := TX5) (N := 8) hx hb hts ly_X5_copyFrom_X5 hown hK.1 hP 7 rfl rfl 1 (by decide) (hts (.fieldLink RX5 15 "ShorthandOutlines$State" "second" "[I") wd_X5_copyFrom_5) (fun _ h9 => h9) rfl dX5_copyFrom_16 ?_
  refine lv_iconst (v := 0) hx hb dX5_copyFrom_19 (by decide) ?_
  refine lv_aload_n hx hb dX5_copyFrom_20 rfl (lv_at hl 0 rfl) ?_
  refine va_get (D := D) (ci := 5) (v := .ref a_second) (C := RX5) (T := TX5) (N := 8) hx hb hts ly_X5_copyFrom_X5 hown hK.1 hP 0 rfl rfl 1 (by decide) (hts (.fieldLink RX5 15 "ShorthandOutlines$State" "second" "[I") wd_X5_copyFrom_5) (fun _ h9 => h9) rfl dX5_copyFrom_21 ?_
  refine lv_iconst (v := 0) hx hb dX5_copyFrom_24 (by decide) ?_
  refine lv_bipush (v := 8) hx hb dX5_copyFrom_25 (by decide) ?_
  refine va_copyi (ty := .int) hx hb (hml.trans hl.1.symm) hown (hts (.methodLink RX5 37 arraycopyName) wd_X5_copyFrom_1) (hts (.native arraycopyName) wd_X5_copyFrom_2) (hts (.static arraycopyName) wd_X5_copyFrom_3) (hts (.initialized "java/lang/System") wd_X5_copyFrom_4) hK.1 hP hD hS 9 2 0 0 rfl rfl rfl rfl rfl (by decide) (by decide) (by decide) (by decide) (by decide) (fun _ _ => rfl) (Nat.le_of_ble_eq_true rfl) (Nat.le_of_ble_eq_true rfl) dX5_copyFrom_27 (fun H locs hP hD hS => ?_)
  have hP : va_P D vwCl [(a_t, .inr (5, [.ref a_first, .ref a_second, .int v_vowels, .int v_wordCount, .ref a_spelling, .ref a_lengths, .ref a_frequencies, .ref a_briefs])), (a_first, .inl (cI, 8, .inl (va_cpy m_p1_first m_first (0 : Int32).toNatClampNeg (0 : Int32).toNatClampNeg (8 : Int32).toNatClampNeg))), (a_second, .inl (cI, 8, .inl (va_cpy m_p1_second m_second (0 : Int32).toNatClampNeg (0 : Int32).toNatClampNeg (8 : Int32).toNatClampNeg))), (a_spelling, .inl (cI, 96, .inl m_spelling)), (a_lengths, .inl (cI, 12, .inl m_lengths)), (a_frequencies, .inl (cI, 12, .inl m_frequencies)), (a_briefs, .inl (cI, 12, .inl m_briefs)), (a_p1, .inr (5, [.ref a_p1_first, .ref a_p1_second, .int v_p1_vowels, .int v_p1_wordCount, .ref a_p1_spelling, .ref a_p1_lengths, .ref a_p1_frequencies, .ref a_p1_briefs])), (a_p1_first, .inl (cI, 8, .inl m_p1_first)), (a_p1_second, .inl (cI, 8, .inl m_p1_second)), (a_p1_spelling, .inl (cI, 96, .inl m_p1_spelling)), (a_p1_lengths, .inl (cI, 12, .inl m_p1_lengths)), (a_p1_frequencies, .inl (cI, 12, .inl m_p1_frequencies)), (a_p1_briefs, .inl (cI, 12, .inl m_p1_briefs))] H := hP
  have hD : va_D A [(a_t, .inr (5, [.ref a_first, .ref a_second, .int v_vowels, .int v_wordCount, .ref a_spelling, .ref a_lengths, .ref a_frequencies, .ref a_briefs])), (a_first, .inl (cI, 8, .inl (va_cpy m_p1_first m_first (0 : Int32).toNatClampNeg (0 : Int32).toNatClampNeg (8 : Int32).toNatClampNeg))), (a_second, .inl (cI, 8, .inl (va_cpy m_p1_second m_second (0 : Int32).toNatClampNeg (0 : Int32).toNatClampNeg (8 : Int32).toNatClampNeg))), (a_spelling, .inl (cI, 96, .inl m_spelling)), (a_lengths, .inl (cI, 12, .inl m_lengths)), (a_frequencies, .inl (cI, 12, .inl m_frequencies)), (a_briefs, .inl (cI, 12, .inl m_briefs)), (a_p1, .inr (5, [.ref a_p1_first, .ref a_p1_second, .int v_p1_vowels, .int v_p1_wordCount, .ref a_p1_spelling, .ref a_p1_lengths, .ref a_p1_frequencies, .ref a_p1_briefs])), (a_p1_first, .inl (cI, 8, .inl m_p1_first)), (a_p1_second, .inl (cI, 8, .inl m_p1_second)), (a_p1_spelling, .inl (cI, 96, .inl m_p1_spelling)), (a_p1_lengths, .inl (cI, 12, .inl m_p1_lengths)), (a_p1_frequencies, .inl (cI, 12, .inl m_p1_frequencies)), (a_p1_briefs, .inl (cI, 12, .inl m_p1_briefs))] := hD
  refine lv_aload_n hx hb dX5_copyFrom_30 rfl (lv_at hl 0 rfl) ?_
  refine lv_aload_n hx hb dX5_copyFrom_31 rfl (lv_at hl 1 rfl) ?_
  refine va_get (D := D) (ci := 5) (v := .int v_p1_vowels) (C := RX5) (T := TX5) (N := 8) hx hb hts ly_X5_copyFrom_X5 hown hK.1 hP 7 rfl rfl 2 (by decide) (hts (.fieldLink RX5 18 "ShorthandOutlines$State" "vowels" "I") wd_X5_copyFrom_6) (fun _ h9 => h9) rfl dX5_copyFrom_32 ?_
  refine va_put (D := D) (ci := 5) (v := .int v_p1_vowels) (ty := .int) (C := RX5) (T := TX5) (N := 8) hx hb hts ly_X5_copyFrom_X5 tyX5 tyX5_ok nmX5 hown hK.1 hP hD hS 0 rfl rfl 2 (by decide) (hts (.fieldLink RX5 18 "ShorthandOutlines$State" "vowels" "I") wd_X5_copyFrom_6) (fun _ h9 => h9) rfl (by decide +kernel) rfl rfl (Nat.le_of_ble_eq_true rfl) dX5_copyFrom_35 (fun H locs hP hD hS => ?_)
  have hP : va_P D vwCl [(a_t, .inr (5, [.ref a_first, .ref a_second, .int v_p1_vowels, .int v_wordCount, .ref a_spelling, .ref a_lengths, .ref a_frequencies, .ref a_briefs])), (a_first, .inl (cI, 8, .inl (va_cpy m_p1_first m_first (0 : Int32).toNatClampNeg (0 : Int32).toNatClampNeg (8 : Int32).toNatClampNeg))), (a_second, .inl (cI, 8, .inl (va_cpy m_p1_second m_second (0 : Int32).toNatClampNeg (0 : Int32).toNatClampNeg (8 : Int32).toNatClampNeg))), (a_spelling, .inl (cI, 96, .inl m_spelling)), (a_lengths, .inl (cI, 12, .inl m_lengths)), (a_frequencies, .inl (cI, 12, .inl m_frequencies)), (a_briefs, .inl (cI, 12, .inl m_briefs)), (a_p1, .inr (5, [.ref a_p1_first, .ref a_p1_second, .int v_p1_vowels, .int v_p1_wordCount, .ref a_p1_spelling, .ref a_p1_lengths, .ref a_p1_frequencies, .ref a_p1_briefs])), (a_p1_first, .inl (cI, 8, .inl m_p1_first)), (a_p1_second, .inl (cI, 8, .inl m_p1_second)), (a_p1_spelling, .inl (cI, 96, .inl m_p1_spelling)), (a_p1_lengths, .inl (cI, 12, .inl m_p1_lengths)), (a_p1_frequencies, .inl (cI, 12, .inl m_p1_frequencies)), (a_p1_briefs, .inl (cI, 12, .inl m_p1_briefs))] H := hP
  have hD : va_D A [(a_t, .inr (5, [.ref a_first, .ref a_second, .int v_p1_vowels, .int v_wordCount, .ref a_spelling, .ref a_lengths, .ref a_frequencies, .ref a_briefs])), (a_first, .inl (cI, 8, .inl (va_cpy m_p1_first m_first (0 : Int32).toNatClampNeg (0 : Int32).toNatClampNeg (8 : Int32).toNatClampNeg))), (a_second, .inl (cI, 8, .inl (va_cpy m_p1_second m_second (0 : Int32).toNatClampNeg (0 : Int32).toNatClampNeg (8 : Int32).toNatClampNeg))), (a_spelling, .inl (cI, 96, .inl m_spelling)), (a_lengths, .inl (cI, 12, .inl m_lengths)), (a_frequencies, .inl (cI, 12, .inl m_frequencies)), (a_briefs, .inl (cI, 12, .inl m_briefs)), (a_p1, .inr (5, [.ref a_p1_first, .ref a_p1_second, .int v_p1_vowels, .int v_p1_wordCount, .ref a_p1_spelling, .ref a_p1_lengths, .ref a_p1_frequencies, .ref a_p1_briefs])), (a_p1_first, .inl (cI, 8, .inl m_p1_first)), (a_p1_second, .inl (cI, 8, .inl m_p1_second)), (a_p1_spelling, .inl (cI, 96, .inl m_p1_spelling)), (a_p1_lengths, .inl (cI, 12, .inl m_p1_lengths)), (a_p1_frequencies, .inl (cI, 12, .inl m_p1_frequencies)), (a_p1_briefs, .inl (cI, 12, .inl m_p1_briefs))] := hD
  refine lv_aload_n hx hb dX5_copyFrom_38 rfl (lv_at hl 0 rfl) ?_
  refine lv_aload_n hx hb dX5_copyFrom_39 rfl (lv_at hl 1 rfl) ?_
  refine va_get (D := D) (ci := 5) (v := .int v_p1_wordCount) (C := RX5) (T := TX5) (N := 8) hx hb hts ly_X5_copyFrom_X5 hown hK.1 hP 7 rfl rfl 3 (by decide) (hts (.fieldLink RX5 22 "ShorthandOutlines$State" "wordCount" "I") wd_X5_copyFrom_7) (fun _ h9 => h9) rfl dX5_copyFrom_40 ?_
  refine va_put (D := D) (ci := 5) (v := .int v_p1_wordCount) (ty := .int) (C := RX5) (T := TX5) (N := 8) hx hb hts ly_X5_copyFrom_X5 tyX5 tyX5_ok nmX5 hown hK.1 hP hD hS 0 rfl rfl 3 (by decide) (hts (.fieldLink RX5 22 "ShorthandOutlines$State" "wordCount" "I") wd_X5_copyFrom_7) (fun _ h9 => h9) rfl (by decide +kernel) rfl rfl (Nat.le_of_ble_eq_true rfl) dX5_copyFrom_43 (fun H locs hP hD hS => ?_)
  have hP : va_P D vwCl [(a_t, .inr (5, [.ref a_first, .ref a_second, .int v_p1_vowels, .int v_p1_wordCount, .ref a_spelling, .ref a_lengths, .ref a_frequencies, .ref a_briefs])), (a_first, .inl (cI, 8, .inl (va_cpy m_p1_first m_first (0 : Int32).toNatClampNeg (0 : Int32).toNatClampNeg (8 : Int32).toNatClampNeg))), (a_second, .inl (cI, 8, .inl (va_cpy m_p1_second m_second (0 : Int32).toNatClampNeg (0 : Int32).toNatClampNeg (8 : Int32).toNatClampNeg))), (a_spelling, .inl (cI, 96, .inl m_spelling)), (a_lengths, .inl (cI, 12, .inl m_lengths)), (a_frequencies, .inl (cI, 12, .inl m_frequencies)), (a_briefs, .inl (cI, 12, .inl m_briefs)), (a_p1, .inr (5, [.ref a_p1_first, .ref a_p1_second, .int v_p1_vowels, .int v_p1_wordCount, .ref a_p1_spelling, .ref a_p1_lengths, .ref a_p1_frequencies, .ref a_p1_briefs])), (a_p1_first, .inl (cI, 8, .inl m_p1_first)), (a_p1_second, .inl (cI, 8, .inl m_p1_second)), (a_p1_spelling, .inl (cI, 96, .inl m_p1_spelling)), (a_p1_lengths, .inl (cI, 12, .inl m_p1_lengths)), (a_p1_frequencies, .inl (cI, 12, .inl m_p1_frequencies)), (a_p1_briefs, .inl (cI, 12, .inl m_p1_briefs))] H := hP
  have hD : va_D A [(a_t, .inr (5, [.ref a_first, .ref a_second, .int v_p1_vowels, .int v_p1_wordCount, .ref a_spelling, .ref a_lengths, .ref a_frequencies, .ref a_briefs])), (a_first, .inl (cI, 8, .inl (va_cpy m_p1_first m_first (0 : Int32).toNatClampNeg (0 : Int32).toNatClampNeg (8 : Int32).toNatClampNeg))), (a_second, .inl (cI, 8, .inl (va_cpy m_p1_second m_second (0 : Int32).toNatClampNeg (0 : Int32).toNatClampNeg (8 : Int32).toNatClampNeg))), (a_spelling, .inl (cI, 96, .inl m_spelling)), (a_lengths, .inl (cI, 12, .inl m_lengths)), (a_frequencies, .inl (cI, 12, .inl m_frequencies)), (a_briefs, .inl (cI, 12, .inl m_briefs)), (a_p1, .inr (5, [.ref a_p1_first, .ref a_p1_second, .int v_p1_vowels, .int v_p1_wordCount, .ref a_p1_spelling, .ref a_p1_lengths, .ref a_p1_frequencies, .ref a_p1_briefs])), (a_p1_first, .inl (cI, 8, .inl m_p1_first)), (a_p1_second, .inl (cI, 8, .inl m_p1_second)), (a_p1_spelling, .inl (cI, 96, .inl m_p1_spelling)), (a_p1_lengths, .inl (cI, 12, .inl m_p1_lengths)), (a_p1_frequencies, .inl (cI, 12, .inl m_p1_frequencies)), (a_p1_briefs, .inl (cI, 12, .inl m_p1_briefs))] := hD
  refine lv_aload_n hx hb dX5_copyFrom_46 rfl (lv_at hl 1 rfl) ?_
  refine va_get (D := D) (ci := 5) (v := .ref a_p1_spelling) (C := RX5) (T := TX5) (N := 8) hx hb hts ly_X5_copyFrom_X5 hown hK.1 hP 7 rfl rfl 4 (by decide) (hts (.fieldLink RX5 25 "ShorthandOutlines$State" "spelling" "[I") wd_X5_copyFrom_8) (fun _ h9 => h9) rfl dX5_copyFrom_47 ?_
  refine lv_iconst (v := 0) hx hb dX5_copyFrom_50 (by decide) ?_
  refine lv_aload_n hx hb dX5_copyFrom_51 rfl (lv_at hl 0 rfl) ?_
  refine va_get (D := D) (ci := 5) (v := .ref a_spelling) (C := RX5) (T := TX5) (N := 8) hx hb hts ly_X5_copyFrom_X5 hown hK.1 hP 0 rfl rfl 4 (by decide) (hts (.fieldLink RX5 25 "ShorthandOutlines$State" "spelling" "[I") wd_X5_copyFrom_8) (fun _ h9 => h9) rfl dX5_copyFrom_52 ?_
  refine lv_iconst (v := 0) hx hb dX5_copyFrom_55 (by decide) ?_
  refine lv_bipush (v := 96) hx hb dX5_copyFrom_56 (by decide) ?_
  refine va_copyi (ty := .int) hx hb (hml.trans hl.1.symm) hown (hts (.methodLink RX5 37 arraycopyName) wd_X5_copyFrom_1) (hts (.native arraycopyName) wd_X5_copyFrom_2) (hts (.static arraycopyName) wd_X5_copyFrom_3) (hts (.initialized "java/lang/System") wd_X5_copyFrom_4) hK.1 hP hD hS 10 3 0 0 rfl rfl rfl rfl rfl (by decide) (by decide) (by decide) (by decide) (by decide) (fun _ _ => rfl) (Nat.le_of_ble_eq_true rfl) (Nat.le_of_ble_eq_true rfl) dX5_copyFrom_58 (fun H locs hP hD hS => ?_)
  have hP : va_P D vwCl [(a_t, .inr (5, [.ref a_first, .ref a_second, .int v_p1_vowels, .int v_p1_wordCount, .ref a_spelling, .ref a_lengths, .ref a_frequencies, .ref a_briefs])), (a_first, .inl (cI, 8, .inl (va_cpy m_p1_first m_first (0 : Int32).toNatClampNeg (0 : Int32).toNatClampNeg (8 : Int32).toNatClampNeg))), (a_second, .inl (cI, 8, .inl (va_cpy m_p1_second m_second (0 : Int32).toNatClampNeg (0 : Int32).toNatClampNeg (8 : Int32).toNatClampNeg))), (a_spelling, .inl (cI, 96, .inl (va_cpy m_p1_spelling m_spelling (0 : Int32).toNatClampNeg (0 : Int32).toNatClampNeg (96 : Int32).toNatClampNeg))), (a_lengths, .inl (cI, 12, .inl m_lengths)), (a_frequencies, .inl (cI, 12, .inl m_frequencies)), (a_briefs, .inl (cI, 12, .inl m_briefs)), (a_p1, .inr (5, [.ref a_p1_first, .ref a_p1_second, .int v_p1_vowels, .int v_p1_wordCount, .ref a_p1_spelling, .ref a_p1_lengths, .ref a_p1_frequencies, .ref a_p1_briefs])), (a_p1_first, .inl (cI, 8, .inl m_p1_first)), (a_p1_second, .inl (cI, 8, .inl m_p1_second)), (a_p1_spelling, .inl (cI, 96, .inl m_p1_spelling)), (a_p1_lengths, .inl (cI, 12, .inl m_p1_lengths)), (a_p1_frequencies, .inl (cI, 12, .inl m_p1_frequencies)), (a_p1_briefs, .inl (cI, 12, .inl m_p1_briefs))] H := hP
  have hD : va_D A [(a_t, .inr (5, [.ref a_first, .ref a_second, .int v_p1_vowels, .int v_p1_wordCount, .ref a_spelling, .ref a_lengths, .ref a_frequencies, .ref a_briefs])), (a_first, .inl (cI, 8, .inl (va_cpy m_p1_first m_first (0 : Int32).toNatClampNeg (0 : Int32).toNatClampNeg (8 : Int32).toNatClampNeg))), (a_second, .inl (cI, 8, .inl (va_cpy m_p1_second m_second (0 : Int32).toNatClampNeg (0 : Int32).toNatClampNeg (8 : Int32).toNatClampNeg))), (a_spelling, .inl (cI, 96, .inl (va_cpy m_p1_spelling m_spelling (0 : Int32).toNatClampNeg (0 : Int32).toNatClampNeg (96 : Int32).toNatClampNeg))), (a_lengths, .inl (cI, 12, .inl m_lengths)), (a_frequencies, .inl (cI, 12, .inl m_frequencies)), (a_briefs, .inl (cI, 12, .inl m_briefs)), (a_p1, .inr (5, [.ref a_p1_first, .ref a_p1_second, .int v_p1_vowels, .int v_p1_wordCount, .ref a_p1_spelling, .ref a_p1_lengths, .ref a_p1_frequencies, .ref a_p1_briefs])), (a_p1_first, .inl (cI, 8, .inl m_p1_first)), (a_p1_second, .inl (cI, 8, .inl m_p1_second)), (a_p1_spelling, .inl (cI, 96, .inl m_p1_spelling)), (a_p1_lengths, .inl (cI, 12, .inl m_p1_lengths)), (a_p1_frequencies, .inl (cI, 12, .inl m_p1_frequencies)), (a_p1_briefs, .inl (cI, 12, .inl m_p1_briefs))] := hD
  refine lv_aload_n hx hb dX5_copyFrom_61 rfl (lv_at hl 1 rfl) ?_
  refine va_get (D := D) (ci := 5) (v := .ref a_p1_lengths) (C := RX5) (T := TX5) (N := 8) hx hb hts ly_X5_copyFrom_X5 hown hK.1 hP 7 rfl rfl 5 (by decide) (hts (.fieldLink RX5 28 "ShorthandOutlines$State" "lengths" "[I") wd_X5_copyFrom_9) (fun _ h9 => h9) rfl dX5_copyFrom_62 ?_
  refine lv_iconst (v := 0) hx hb dX5_copyFrom_65 (by decide) ?_
  refine lv_aload_n hx hb dX5_copyFrom_66 rfl (lv_at hl 0 rfl) ?_
  refine va_get (D := D) (ci := 5) (v := .ref a_lengths) (C := RX5) (T := TX5) (N := 8) hx hb hts ly_X5_copyFrom_X5 hown hK.1 hP 0 rfl rfl 5 (by decide) (hts (.fieldLink RX5 28 "ShorthandOutlines$State" "lengths" "[I") wd_X5_copyFrom_9) (fun _ h9 => h9) rfl dX5_copyFrom_67 ?_
  refine lv_iconst (v := 0) hx hb dX5_copyFrom_70 (by decide) ?_
  refine lv_bipush (v := 12) hx hb dX5_copyFrom_71 (by decide) ?_
  refine va_copyi (ty := .int) hx hb (hml.trans hl.1.symm) hown (hts (.methodLink RX5 37 arraycopyName) wd_X5_copyFrom_1) (hts (.native arraycopyName) wd_X5_copyFrom_2) (hts (.static arraycopyName) wd_X5_copyFrom_3) (hts (.initialized "java/lang/System") wd_X5_copyFrom_4) hK.1 hP hD hS 11 4 0 0 rfl rfl rfl rfl rfl (by decide) (by decide) (by decide) (by decide) (by decide) (fun _ _ => rfl) (Nat.le_of_ble_eq_true rfl) (Nat.le_of_ble_eq_true rfl) dX5_copyFrom_73 (fun H locs hP hD hS => ?_)
  have hP : va_P D vwCl [(a_t, .inr (5, [.ref a_first, .ref a_second, .int v_p1_vowels, .int v_p1_wordCount, .ref a_spelling, .ref a_lengths, .ref a_frequencies, .ref a_briefs])), (a_first, .inl (cI, 8, .inl (va_cpy m_p1_first m_first (0 : Int32).toNatClampNeg (0 : Int32).toNatClampNeg (8 : Int32).toNatClampNeg))), (a_second, .inl (cI, 8, .inl (va_cpy m_p1_second m_second (0 : Int32).toNatClampNeg (0 : Int32).toNatClampNeg (8 : Int32).toNatClampNeg))), (a_spelling, .inl (cI, 96, .inl (va_cpy m_p1_spelling m_spelling (0 : Int32).toNatClampNeg (0 : Int32).toNatClampNeg (96 : Int32).toNatClampNeg))), (a_lengths, .inl (cI, 12, .inl (va_cpy m_p1_lengths m_lengths (0 : Int32).toNatClampNeg (0 : Int32).toNatClampNeg (12 : Int32).toNatClampNeg))), (a_frequencies, .inl (cI, 12, .inl m_frequencies)), (a_briefs, .inl (cI, 12, .inl m_briefs)), (a_p1, .inr (5, [.ref a_p1_first, .ref a_p1_second, .int v_p1_vowels, .int v_p1_wordCount, .ref a_p1_spelling, .ref a_p1_lengths, .ref a_p1_frequencies, .ref a_p1_briefs])), (a_p1_first, .inl (cI, 8, .inl m_p1_first)), (a_p1_second, .inl (cI, 8, .inl m_p1_second)), (a_p1_spelling, .inl (cI, 96, .inl m_p1_spelling)), (a_p1_lengths, .inl (cI, 12, .inl m_p1_lengths)), (a_p1_frequencies, .inl (cI, 12, .inl m_p1_frequencies)), (a_p1_briefs, .inl (cI, 12, .inl m_p1_briefs))] H := hP
  have hD : va_D A [(a_t, .inr (5, [.ref a_first, .ref a_second, .int v_p1_vowels, .int v_p1_wordCount, .ref a_spelling, .ref a_lengths, .ref a_frequencies, .ref a_briefs])), (a_first, .inl (cI, 8, .inl (va_cpy m_p1_first m_first (0 : Int32).toNatClampNeg (0 : Int32).toNatClampNeg (8 : Int32).toNatClampNeg))), (a_second, .inl (cI, 8, .inl (va_cpy m_p1_second m_second (0 : Int32).toNatClampNeg (0 : Int32).toNatClampNeg (8 : Int32).toNatClampNeg))), (a_spelling, .inl (cI, 96, .inl (va_cpy m_p1_spelling m_spelling (0 : Int32).toNatClampNeg (0 : Int32).toNatClampNeg (96 : Int32).toNatClampNeg))), (a_lengths, .inl (cI, 12, .inl (va_cpy m_p1_lengths m_lengths (0 : Int32).toNatClampNeg (0 : Int32).toNatClampNeg (12 : Int32).toNatClampNeg))), (a_frequencies, .inl (cI, 12, .inl m_frequencies)), (a_briefs, .inl (cI, 12, .inl m_briefs)), (a_p1, .inr (5, [.ref a_p1_first, .ref a_p1_second, .int v_p1_vowels, .int v_p1_wordCount, .ref a_p1_spelling, .ref a_p1_lengths, .ref a_p1_frequencies, .ref a_p1_briefs])), (a_p1_first, .inl (cI, 8, .inl m_p1_first)), (a_p1_second, .inl (cI, 8, .inl m_p1_second)), (a_p1_spelling, .inl (cI, 96, .inl m_p1_spelling)), (a_p1_lengths, .inl (cI, 12, .inl m_p1_lengths)), (a_p1_frequencies, .inl (cI, 12, .inl m_p1_frequencies)), (a_p1_briefs, .inl (cI, 12, .inl m_p1_briefs))] := hD
  refine lv_aload_n hx hb dX5_copyFrom_76 rfl (lv_at hl 1 rfl) ?_
  refine va_get (D := D) (ci := 5) (v := .ref a_p1_frequencies) (C := RX5) (T := TX5) (N := 8) hx hb hts ly_X5_copyFrom_X5 hown hK.1 hP 7 rfl rfl 6 (by decide) (hts (.fieldLink RX5 31 "ShorthandOutlines$State" "frequencies" "[I") wd_X5_copyFrom_10) (fun _ h9 => h9) rfl dX5_copyFrom_77 ?_
  refine lv_iconst (v := 0) hx hb dX5_copyFrom_80 (by decide) ?_
  refine lv_aload_n hx hb dX5_copyFrom_81 rfl (lv_at hl 0 rfl) ?_
  refine va_get (D := D) (ci := 5) (v := .ref a_frequencies) (C := RX5) (T := TX5) (N := 8) hx hb hts ly_X5_copyFrom_X5 hown hK.1 hP 0 rfl rfl 6 (by decide) (hts (.fieldLink RX5 31 "ShorthandOutlines$State" "frequencies" "[I") wd_X5_copyFrom_10) (fun _ h9 => h9) rfl dX5_copyFrom_82 ?_
  refine lv_iconst (v := 0) hx hb dX5_copyFrom_85 (by decide) ?_
  refine lv_bipush (v := 12) hx hb dX5_copyFrom_86 (by decide) ?_
  refine va_copyi (ty := .int) hx hb (hml.trans hl.1.symm) hown (hts (.methodLink RX5 37 arraycopyName) wd_X5_copyFrom_1) (hts (.native arraycopyName) wd_X5_copyFrom_2) (hts (.static arraycopyName) wd_X5_copyFrom_3) (hts (.initialized "java/lang/System") wd_X5_copyFrom_4) hK.1 hP hD hS 12 5 0 0 rfl rfl rfl rfl rfl (by decide) (by decide) (by decide) (by decide) (by decide) (fun _ _ => rfl) (Nat.le_of_ble_eq_true rfl) (Nat.le_of_ble_eq_true rfl) dX5_copyFrom_88 (fun H locs hP hD hS => ?_)
  have hP : va_P D vwCl [(a_t, .inr (5, [.ref a_first, .ref a_second, .int v_p1_vowels, .int v_p1_wordCount, .ref a_spelling, .ref a_lengths, .ref a_frequencies, .ref a_briefs])), (a_first, .inl (cI, 8, .inl (va_cpy m_p1_first m_first (0 : Int32).toNatClampNeg (0 : Int32).toNatClampNeg (8 : Int32).toNatClampNeg))), (a_second, .inl (cI, 8, .inl (va_cpy m_p1_second m_second (0 : Int32).toNatClampNeg (0 : Int32).toNatClampNeg (8 : Int32).toNatClampNeg))), (a_spelling, .inl (cI, 96, .inl (va_cpy m_p1_spelling m_spelling (0 : Int32).toNatClampNeg (0 : Int32).toNatClampNeg (96 : Int32).toNatClampNeg))), (a_lengths, .inl (cI, 12, .inl (va_cpy m_p1_lengths m_lengths (0 : Int32).toNatClampNeg (0 : Int32).toNatClampNeg (12 : Int32).toNatClampNeg))), (a_frequencies, .inl (cI, 12, .inl (va_cpy m_p1_frequencies m_frequencies (0 : Int32).toNatClampNeg (0 : Int32).toNatClampNeg (12 : Int32).toNatClampNeg))), (a_briefs, .inl (cI, 12, .inl m_briefs)), (a_p1, .inr (5, [.ref a_p1_first, .ref a_p1_second, .int v_p1_vowels, .int v_p1_wordCount, .ref a_p1_spelling, .ref a_p1_lengths, .ref a_p1_frequencies, .ref a_p1_briefs])), (a_p1_first, .inl (cI, 8, .inl m_p1_first)), (a_p1_second, .inl (cI, 8, .inl m_p1_second)), (a_p1_spelling, .inl (cI, 96, .inl m_p1_spelling)), (a_p1_lengths, .inl (cI, 12, .inl m_p1_lengths)), (a_p1_frequencies, .inl (cI, 12, .inl m_p1_frequencies)), (a_p1_briefs, .inl (cI, 12, .inl m_p1_briefs))] H := hP
  have hD : va_D A [(a_t, .inr (5, [.ref a_first, .ref a_second, .int v_p1_vowels, .int v_p1_wordCount, .ref a_spelling, .ref a_lengths, .ref a_frequencies, .ref a_briefs])), (a_first, .inl (cI, 8, .inl (va_cpy m_p1_first m_first (0 : Int32).toNatClampNeg (0 : Int32).toNatClampNeg (8 : Int32).toNatClampNeg))), (a_second, .inl (cI, 8, .inl (va_cpy m_p1_second m_second (0 : Int32).toNatClampNeg (0 : Int32).toNatClampNeg (8 : Int32).toNatClampNeg))), (a_spelling, .inl (cI, 96, .inl (va_cpy m_p1_spelling m_spelling (0 : Int32).toNatClampNeg (0 : Int32).toNatClampNeg (96 : Int32).toNatClampNeg))), (a_lengths, .inl (cI, 12, .inl (va_cpy m_p1_lengths m_lengths (0 : Int32).toNatClampNeg (0 : Int32).toNatClampNeg (12 : Int32).toNatClampNeg))), (a_frequencies, .inl (cI, 12, .inl (va_cpy m_p1_frequencies m_frequencies (0 : Int32).toNatClampNeg (0 : Int32).toNatClampNeg (12 : Int32).toNatClampNeg))), (a_briefs, .inl (cI, 12, .inl m_briefs)), (a_p1, .inr (5, [.ref a_p1_first, .ref a_p1_second, .int v_p1_vowels, .int v_p1_wordCount, .ref a_p1_spelling, .ref a_p1_lengths, .ref a_p1_frequencies, .ref a_p1_briefs])), (a_p1_first, .inl (cI, 8, .inl m_p1_first)), (a_p1_second, .inl (cI, 8, .inl m_p1_second)), (a_p1_spelling, .inl (cI, 96, .inl m_p1_spelling)), (a_p1_lengths, .inl (cI, 12, .inl m_p1_lengths)), (a_p1_frequencies, .inl (cI, 12, .inl m_p1_frequencies)), (a_p1_briefs, .inl (cI, 12, .inl m_p1_briefs))] := hD
  refine lv_aload_n hx hb dX5_copyFrom_91 rfl (lv_at hl 1 rfl) ?_
  refine va_get (D := D) (ci := 5) (v := .ref a_p1_briefs) (C := RX5) (T := TX5) (N := 8) hx hb hts ly_X5_copyFrom_X5 hown hK.1 hP 7 rfl rfl 7 (by decide) (hts (.fieldLink RX5 34 "ShorthandOutlines$State" "briefs" "[I") wd_X5_copyFrom_11) (fun _ h9 => h9) rfl dX5_copyFrom_92 ?_
  refine lv_iconst (v := 0) hx hb dX5_copyFrom_95 (by decide) ?_
  refine lv_aload_n hx hb dX5_copyFrom_96 rfl (lv_at hl 0 rfl) ?_
  refine va_get (D := D) (ci := 5) (v := .ref a_briefs) (C := RX5) (T := TX5) (N := 8) hx hb hts ly_X5_copyFrom_X5 hown hK.1 hP 0 rfl rfl 7 (by decide) (hts (.fieldLink RX5 34 "ShorthandOutlines$State" "briefs" "[I") wd_X5_copyFrom_11) (fun _ h9 => h9) rfl dX5_copyFrom_97 ?_
  refine lv_iconst (v := 0) hx hb dX5_copyFrom_100 (by decide) ?_
  refine lv_bipush (v := 12) hx hb dX5_copyFrom_101 (by decide) ?_
  refine va_copyi (ty := .int) hx hb (hml.trans hl.1.symm) hown (hts (.methodLink RX5 37 arraycopyName) wd_X5_copyFrom_1) (hts (.native arraycopyName) wd_X5_copyFrom_2) (hts (.static arraycopyName) wd_X5_copyFrom_3) (hts (.initialized "java/lang/System") wd_X5_copyFrom_4) hK.1 hP hD hS 13 6 0 0 rfl rfl rfl rfl rfl (by decide) (by decide) (by decide) (by decide) (by decide) (fun _ _ => rfl) (Nat.le_of_ble_eq_true rfl) (Nat.le_of_ble_eq_true rfl) dX5_copyFrom_103 (fun H locs hP hD hS => ?_)
  have hP : va_P D vwCl [(a_t, .inr (5, [.ref a_first, .ref a_second, .int v_p1_vowels, .int v_p1_wordCount, .ref a_spelling, .ref a_lengths, .ref a_frequencies, .ref a_briefs])), (a_first, .inl (cI, 8, .inl (va_cpy m_p1_first m_first (0 : Int32).toNatClampNeg (0 : Int32).toNatClampNeg (8 : Int32).toNatClampNeg))), (a_second, .inl (cI, 8, .inl (va_cpy m_p1_second m_second (0 : Int32).toNatClampNeg (0 : Int32).toNatClampNeg (8 : Int32).toNatClampNeg))), (a_spelling, .inl (cI, 96, .inl (va_cpy m_p1_spelling m_spelling (0 : Int32).toNatClampNeg (0 : Int32).toNatClampNeg (96 : Int32).toNatClampNeg))), (a_lengths, .inl (cI, 12, .inl (va_cpy m_p1_lengths m_lengths (0 : Int32).toNatClampNeg (0 : Int32).toNatClampNeg (12 : Int32).toNatClampNeg))), (a_frequencies, .inl (cI, 12, .inl (va_cpy m_p1_frequencies m_frequencies (0 : Int32).toNatClampNeg (0 : Int32).toNatClampNeg (12 : Int32).toNatClampNeg))), (a_briefs, .inl (cI, 12, .inl (va_cpy m_p1_briefs m_briefs (0 : Int32).toNatClampNeg (0 : Int32).toNatClampNeg (12 : Int32).toNatClampNeg))), (a_p1, .inr (5, [.ref a_p1_first, .ref a_p1_second, .int v_p1_vowels, .int v_p1_wordCount, .ref a_p1_spelling, .ref a_p1_lengths, .ref a_p1_frequencies, .ref a_p1_briefs])), (a_p1_first, .inl (cI, 8, .inl m_p1_first)), (a_p1_second, .inl (cI, 8, .inl m_p1_second)), (a_p1_spelling, .inl (cI, 96, .inl m_p1_spelling)), (a_p1_lengths, .inl (cI, 12, .inl m_p1_lengths)), (a_p1_frequencies, .inl (cI, 12, .inl m_p1_frequencies)), (a_p1_briefs, .inl (cI, 12, .inl m_p1_briefs))] H := hP
  have hD : va_D A [(a_t, .inr (5, [.ref a_first, .ref a_second, .int v_p1_vowels, .int v_p1_wordCount, .ref a_spelling, .ref a_lengths, .ref a_frequencies, .ref a_briefs])), (a_first, .inl (cI, 8, .inl (va_cpy m_p1_first m_first (0 : Int32).toNatClampNeg (0 : Int32).toNatClampNeg (8 : Int32).toNatClampNeg))), (a_second, .inl (cI, 8, .inl (va_cpy m_p1_second m_second (0 : Int32).toNatClampNeg (0 : Int32).toNatClampNeg (8 : Int32).toNatClampNeg))), (a_spelling, .inl (cI, 96, .inl (va_cpy m_p1_spelling m_spelling (0 : Int32).toNatClampNeg (0 : Int32).toNatClampNeg (96 : Int32).toNatClampNeg))), (a_lengths, .inl (cI, 12, .inl (va_cpy m_p1_lengths m_lengths (0 : Int32).toNatClampNeg (0 : Int32).toNatClampNeg (12 : Int32).toNatClampNeg))), (a_frequencies, .inl (cI, 12, .inl (va_cpy m_p1_frequencies m_frequencies (0 : Int32).toNatClampNeg (0 : Int32).toNatClampNeg (12 : Int32).toNatClampNeg))), (a_briefs, .inl (cI, 12, .inl (va_cpy m_p1_briefs m_briefs (0 : Int32).toNatClampNeg (0 : Int32).toNatClampNeg (12 : Int32).toNatClampNeg))), (a_p1, .inr (5, [.ref a_p1_first, .ref a_p1_second, .int v_p1_vowels, .int v_p1_wordCount, .ref a_p1_spelling, .ref a_p1_lengths, .ref a_p1_frequencies, .ref a_p1_briefs])), (a_p1_first, .inl (cI, 8, .inl m_p1_first)), (a_p1_second, .inl (cI, 8, .inl m_p1_second)), (a_p1_spelling, .inl (cI, 96, .inl m_p1_spelling)), (a_p1_lengths, .inl (cI, 12, .inl m_p1_lengths)), (a_p1_frequencies, .inl (cI, 12, .inl m_p1_frequencies)), (a_p1_briefs, .inl (cI, 12, .inl m_p1_briefs))] := hD
  have ho := so hf
  subst ho
  exact g_vret hx hb hr hlk hP hD hS dX5_copyFrom_106

theorem sg_X5_enter : yX5_enter.cls = RX5 ∧ yX5_enter.cls ≠ "java/lang/invoke/MethodHandle" ∧ yX5_enter.cls ≠ "java/lang/invoke/VarHandle" ∧ (parseMethodDescriptor yX5_enter.desc).map (fun d => d.parameters.length) = some 3 := by decide +kernel
abbrev rm_X5_enter : Room := { frames := 0, cells := 0, slots := 0, locals := 0 }
theorem wd_X5_enter_0 : (.fieldLink RX5 22 "ShorthandOutlines$State" "wordCount" "I" : Cond) ∈ wsX5_enter := by decide +kernel
theorem wd_X5_enter_1 : (.fieldLink RX5 25 "ShorthandOutlines$State" "spelling" "[I" : Cond) ∈ wsX5_enter := by decide +kernel
theorem wd_X5_enter_2 : (.fieldLink RX5 28 "ShorthandOutlines$State" "lengths" "[I" : Cond) ∈ wsX5_enter := by decide +kernel
theorem wd_X5_enter_3 : (.fieldLink RX5 31 "ShorthandOutlines$State" "frequencies" "[I" : Cond) ∈ wsX5_enter := by decide +kernel
theorem wd_X5_enter_4 : (.fieldLink RX5 34 "ShorthandOutlines$State" "briefs" "[I" : Cond) ∈ wsX5_enter := by decide +kernel
theorem ly_X5_enter_X5 : ∀ w ∈ u_ws RX5 TX5 8, w ∈ wsX5_enter := by decide +kernel
set_option maxHeartbeats 4000000 in
set_option maxRecDepth 100000 in
theorem lt_X5_enter_9 {p : Program} {l : Launch} {e : Env} {s : State} {m : MethodId} {args : Array Value} {below : List Frame} {meth : Method} {c : Code} {D : va_G} {cI cZ cS : ClassId} {A : Nat → Prop} {Q : State → Prop} (Cx : gCx p s m meth c args cX5_enter 6 (some .int) yX5_enter wsX5_enter D cI cZ cS A) (a_t : Nat) (a_first : Nat) (a_second : Nat) (v_vowels : Int32) (v_wordCount : Int32) (a_spelling : Nat) (a_lengths : Nat) (a_frequencies : Nat) (a_briefs : Nat) (m_lengths : Nat → Int32) (m_frequencies : Nat → Int32) (m_briefs : Nat → Int32) (a_p1 : Nat) (m_p1 : Nat → Int32) (y2 : Int32) (y3 : Int32) (y4 : Int32) : ∀ (n : Nat) (y5 : Int32) (m_spelling : Nat → Int32) (o : (Nat → Int32)) (H : Heap) (locs : List Loc) (ls : Array Slot), lp_X5_enter_9 y2 y4 m_p1 n y5 m_spelling = some o → va_P D vwCl [(a_t, .inr (5, [.ref a_first, .ref a_second, .int v_vowels, .int v_wordCount, .ref a_spelling, .ref a_lengths, .ref a_frequencies, .ref a_briefs])), (a_spelling, .inl (cI, 96, .inl m_spelling)), (a_lengths, .inl (cI, 12, .inl m_lengths)), (a_frequencies, .inl (cI, 12, .inl m_frequencies)), (a_briefs, .inl (cI, 12, .inl m_briefs)), (a_p1, .inl (cI, 8, .inl m_p1))] H → va_D A [(a_t, .inr (5, [.ref a_first, .ref a_second, .int v_vowels, .int v_wordCount, .ref a_spelling, .ref a_lengths, .ref a_frequencies, .ref a_briefs])), (a_spelling, .inl (cI, 96, .inl m_spelling)), (a_lengths, .inl (cI, 12, .inl m_lengths)), (a_frequencies, .inl (cI, 12, .inl m_frequencies)), (a_briefs, .inl (cI, 12, .inl m_briefs)), (a_p1, .inl (cI, 8, .inl m_p1))] → va_S A s.heap H locs → lv_has ls 6 [(0, .ref a_t), (1, .ref a_p1), (2, .int y2), (3, .int y3), (4, .int y4), (5, .int y5)] → (∀ (H : Heap) (locs : List Loc) (ls : Array Slot), va_P D vwCl [(a_t, .inr (5, [.ref a_first, .ref a_second, .int v_vowels, .int v_wordCount, .ref a_spelling, .ref a_lengths, .ref a_frequencies, .ref a_briefs])), (a_spelling, .inl (cI, 96, .inl o)), (a_lengths, .inl (cI, 12, .inl m_lengths)), (a_frequencies, .inl (cI, 12, .inl m_frequencies)), (a_briefs, .inl (cI, 12, .inl m_briefs)), (a_p1, .inl (cI, 8, .inl m_p1))] H → va_D A [(a_t, .inr (5, [.ref a_first, .ref a_second, .int v_vowels, .int v_wordCount, .ref a_spelling, .ref a_lengths, .ref a_frequencies, .ref a_briefs])), (a_spelling, .inl (cI, 96, .inl o)), (a_lengths, .inl (cI, 12, .inl m_lengths)), (a_frequencies, .inl (cI, 12, .inl m_frequencies)), (a_briefs, .inl (cI, 12, .inl m_briefs)), (a_p1, .inl (cI, 8, .inl m_p1))] → va_S A s.heap H locs → lv_has ls 6 [(0, .ref a_t), (2, .int y2), (3, .int y3), (4, .int y4)] → W p l e rm_X5_enter s m args below meth c H locs 0 0 Q (F0 m 41 ls [])) → W p l e rm_X5_enter s m args below meth c H locs 0 0 Q (F0 m 9 ls []) := by
  obtain ⟨hx, hb, hml, hr, hlk, hown, hin, hts, hK, hA⟩ := id Cx
  have hown : s.vm.findClass RX5 = some m.cls := hown
  intro n
  induction n with
  | zero =>
    intro y5 m_spelling o H locs ls hf
    rw [lp_X5_enter_9] at hf
    cases hf
  | succ n ih =>
    intro y5 m_spelling o H locs ls hf hP hD hS hl kk
    rw [lp_X5_enter_9] at hf
    refine lv_iload hx hb dX5_enter_9 (lv_at hl 5 rfl) ?_
    refine lv_iload_n hx hb dX5_enter_11 rfl (lv_at hl 2 rfl) ?_
    refine lv_icmp_ge (tgt := 41) hx hb dX5_enter_12 (by decide) (fun hb1 => ?_) (fun hb1 => ?_)
    · replace hf := if_t hb1 hf
      have ho := so hf
      subst ho
      exact kk _ _ _ hP hD hS (lv_sub hl [0, 2, 3, 4] rfl)
    · replace hf := if_f hb1 hf
      refine lv_aload_n hx hb dX5_enter_15 rfl (lv_at hl 0 rfl) ?_
      refine va_get (D := D) (ci := 5) (v := .ref a_spelling) (C := RX5) (T := TX5) (N := 8) hx hb hts ly_X5_enter_X5 hown hK.1 hP 0 rfl rfl 4 (by decide) (hts (.fieldLink RX5 25 "ShorthandOutlines$State" "spelling" "[I") wd_X5_enter_1) (fun _ h9 => h9) rfl dX5_enter_16 ?_
      refine lv_iload hx hb dX5_enter_19 (lv_at hl 4 rfl) ?_
      refine lv_bipush (v := 8) hx hb dX5_enter_21 (by decide) ?_
      refine lv_imul hx hb dX5_enter_23 ?_
      refine lv_iload hx hb dX5_enter_24 (lv_at hl 5 rfl) ?_
      refine lv_iadd hx hb dX5_enter_26 ?_
      refine lv_aload_n hx hb dX5_enter_27 rfl (lv_at hl 1 rfl) ?_
      refine lv_iload hx hb dX5_enter_28 (lv_at hl 5 rfl) ?_
      have hi2 := gd_1 hf
      replace hf := gd_2 hf
      refine va_iald hx hb hK.1 hP 5 0 rfl rfl (inb_in hi2) dX5_enter_30 ?_
      refine lv_bipush (v := 97) hx hb dX5_enter_31 (by decide) ?_
      refine lv_isub hx hb dX5_enter_33 ?_
      have hi3 := gd_1 hf
      replace hf := gd_2 hf
      refine va_iast hx hb hK.1 hP hD hS 1 0 rfl rfl (inb_in hi3) dX5_enter_34 (fun H locs hP hD hS => ?_)
      have hP : va_P D vwCl [(a_t, .inr (5, [.ref a_first, .ref a_second, .int v_vowels, .int v_wordCount, .ref a_spelling, .ref a_lengths, .ref a_frequencies, .ref a_briefs])), (a_spelling, .inl (cI, 96, .inl (upd m_spelling ((y4 * (8 : Int32)) + y5).toNatClampNeg ((m_p1 y5.toNatClampNeg) - (97 : Int32))))), (a_lengths, .inl (cI, 12, .inl m_lengths)), (a_frequencies, .inl (cI, 12, .inl m_frequencies)), (a_briefs, .inl (cI, 12, .inl m_briefs)), (a_p1, .inl (cI, 8, .inl m_p1))] H := hP
      have hD : va_D A [(a_t, .inr (5, [.ref a_first, .ref a_second, .int v_vowels, .int v_wordCount, .ref a_spelling, .ref a_lengths, .ref a_frequencies, .ref a_briefs])), (a_spelling, .inl (cI, 96, .inl (upd m_spelling ((y4 * (8 : Int32)) + y5).toNatClampNeg ((m_p1 y5.toNatClampNeg) - (97 : Int32))))), (a_lengths, .inl (cI, 12, .inl m_lengths)), (a_frequencies, .inl (cI, 12, .inl m_frequencies)), (a_briefs, .inl (cI, 12, .inl m_briefs)), (a_p1, .inl (cI, 8, .inl m_p1))] := hD
      refine lv_iinc (v := (y5 + 1)) (lv' := [(5, .int (y5 + 1)), (0, .ref a_t), (1, .ref a_p1), (2, .int y2), (3, .int y3), (4, .int y4)]) hx hb dX5_enter_35 hl (k := 5) rfl rfl (by decide) rfl (fun ls hl => ?_)
      refine lv_goto (tgt := 9) hx hb dX5_enter_38 (by decide) ?_
      exact ih (y5 + 1) (upd m_spelling ((y4 * (8 : Int32)) + y5).toNatClampNeg ((m_p1 y5.toNatClampNeg) - (97 : Int32))) o _ _ _ hf hP hD hS (lv_sub hl [1, 2, 3, 4, 5, 0] rfl) kk
set_option maxHeartbeats 4000000 in
set_option maxRecDepth 100000 in
theorem kt_X5_enter (l : Launch) (D : va_G) (cI cZ cS : ClassId) (a_t : Nat) (a_spelling : Nat) (a_lengths : Nat) (a_frequencies : Nat) (a_briefs : Nat) (a_p1 : Nat) (a_first : Nat) (a_second : Nat) (v_vowels : Int32) (v_wordCount : Int32) (m_spelling : Nat → Int32) (m_lengths : Nat → Int32) (m_frequencies : Nat → Int32) (m_briefs : Nat → Int32) (m_p1 : Nat → Int32) (x2 : Int32) (x3 : Int32) (o : Int32 × Int32 × (Nat → Int32) × (Nat → Int32) × (Nat → Int32) × (Nat → Int32)) (hf : fn_X5_enter v_wordCount m_spelling m_lengths m_frequencies m_briefs m_p1 x2 x3 = some o) (sz : Nat) : Met l yX5_enter wsX5_enter rm_X5_enter (va_Pc [.ref a_t, .ref a_p1, .int x2, .int x3] (gPre D cI cZ cS [(a_t, .inr (5, [.ref a_first, .ref a_second, .int v_vowels, .int v_wordCount, .ref a_spelling, .ref a_lengths, .ref a_frequencies, .ref a_briefs])), (a_spelling, .inl (cI, 96, .inl m_spelling)), (a_lengths, .inl (cI, 12, .inl m_lengths)), (a_frequencies, .inl (cI, 12, .inl m_frequencies)), (a_briefs, .inl (cI, 12, .inl m_briefs)), (a_p1, .inl (cI, 8, .inl m_p1))] sz)) (va_Qi (fun r (_ : Unit) => r = o.1) (fun _ => gB D [(a_t, .inr (5, [.ref a_first, .ref a_second, .int v_vowels, .int o.2.1, .ref a_spelling, .ref a_lengths, .ref a_frequencies, .ref a_briefs])), (a_spelling, .inl (cI, 96, .inl o.2.2.1)), (a_lengths, .inl (cI, 12, .inl o.2.2.2.1)), (a_frequencies, .inl (cI, 12, .inl o.2.2.2.2.1)), (a_briefs, .inl (cI, 12, .inl o.2.2.2.2.2)), (a_p1, .inl (cI, 8, .inl m_p1))] (va_A [(a_t, .inr (5, [.ref a_first, .ref a_second, .int v_vowels, .int v_wordCount, .ref a_spelling, .ref a_lengths, .ref a_frequencies, .ref a_briefs])), (a_spelling, .inl (cI, 96, .inl m_spelling)), (a_lengths, .inl (cI, 12, .inl m_lengths)), (a_frequencies, .inl (cI, 12, .inl m_frequencies)), (a_briefs, .inl (cI, 12, .inl m_briefs)), (a_p1, .inl (cI, 8, .inl m_p1))] sz)) (va_A [(a_t, .inr (5, [.ref a_first, .ref a_second, .int v_vowels, .int v_wordCount, .ref a_spelling, .ref a_lengths, .ref a_frequencies, .ref a_briefs])), (a_spelling, .inl (cI, 96, .inl m_spelling)), (a_lengths, .inl (cI, 12, .inl m_lengths)), (a_frequencies, .inl (cI, 12, .inl m_frequencies)), (a_briefs, .inl (cI, 12, .inl m_briefs)), (a_p1, .inl (cI, 8, .inl m_p1))] sz)) 0 0 (va_A [(a_t, .inr (5, [.ref a_first, .ref a_second, .int v_vowels, .int v_wordCount, .ref a_spelling, .ref a_lengths, .ref a_frequencies, .ref a_briefs])), (a_spelling, .inl (cI, 96, .inl m_spelling)), (a_lengths, .inl (cI, 12, .inl m_lengths)), (a_frequencies, .inl (cI, 12, .inl m_frequencies)), (a_briefs, .inl (cI, 12, .inl m_briefs)), (a_p1, .inl (cI, 8, .inl m_p1))] sz) := by
  refine g_entry (y := yX5_enter) (av := [.ref a_t, .ref a_p1, .int x2, .int x3]) (wi := [(a_t, .inr (5, [.ref a_first, .ref a_second, .int v_vowels, .int v_wordCount, .ref a_spelling, .ref a_lengths, .ref a_frequencies, .ref a_briefs])), (a_spelling, .inl (cI, 96, .inl m_spelling)), (a_lengths, .inl (cI, 12, .inl m_lengths)), (a_frequencies, .inl (cI, 12, .inl m_frequencies)), (a_briefs, .inl (cI, 12, .inl m_briefs)), (a_p1, .inl (cI, 8, .inl m_p1))]) (Qc := fun A => va_Qi (fun r (_ : Unit) => r = o.1) (fun _ => gB D [(a_t, .inr (5, [.ref a_first, .ref a_second, .int v_vowels, .int o.2.1, .ref a_spelling, .ref a_lengths, .ref a_frequencies, .ref a_briefs])), (a_spelling, .inl (cI, 96, .inl o.2.2.1)), (a_lengths, .inl (cI, 12, .inl o.2.2.2.1)), (a_frequencies, .inl (cI, 12, .inl o.2.2.2.2.1)), (a_briefs, .inl (cI, 12, .inl o.2.2.2.2.2)), (a_p1, .inl (cI, 8, .inl m_p1))] A) A) (cc := cX5_enter) (maxL := 6) (ret := (some .int)) (by decide) rfl (Nat.le_of_ble_eq_true rfl) ?_ sz
  intro p e s m below meth c A ls Cx hP hD hS hl
  obtain ⟨hx, hb, hml, hr, hlk, hown, hin, hts, hK, hA⟩ := id Cx
  have hown : s.vm.findClass RX5 = some m.cls := hown
  have hl : lv_has ls 6 [(0, .ref a_t), (1, .ref a_p1), (2, .int x2), (3, .int x3)] := hl
  unfold fn_X5_enter at hf
  refine lv_aload_n hx hb dX5_enter_0 rfl (lv_at hl 0 rfl) ?_
  refine va_get (D := D) (ci := 5) (v := .int v_wordCount) (C := RX5) (T := TX5) (N := 8) hx hb hts ly_X5_enter_X5 hown hK.1 hP 0 rfl rfl 3 (by decide) (hts (.fieldLink RX5 22 "ShorthandOutlines$State" "wordCount" "I") wd_X5_enter_0) (fun _ h9 => h9) rfl dX5_enter_1 ?_
  refine lv_istore (lv' := [(4, .int v_wordCount), (0, .ref a_t), (1, .ref a_p1), (2, .int x2), (3, .int x3)]) hx hb dX5_enter_4 hl (by decide) rfl (fun ls hl => ?_)
  refine lv_iconst (v := 0) hx hb dX5_enter_6 (by decide) ?_
  refine lv_istore (lv' := [(5, .int (0 : Int32)), (4, .int v_wordCount), (0, .ref a_t), (1, .ref a_p1), (2, .int x2), (3, .int x3)]) hx hb dX5_enter_7 hl (by decide) rfl (fun ls hl => ?_)
  obtain ⟨u1, hc1, hf⟩ := ob hf
  refine lt_X5_enter_9 Cx a_t a_first a_second v_vowels v_wordCount a_spelling a_lengths a_frequencies a_briefs m_lengths m_frequencies m_briefs a_p1 m_p1 x2 x3 v_wordCount 1024 (0 : Int32) m_spelling u1 _ _ _ hc1 hP hD hS (lv_sub hl [2, 3, 4, 5, 1, 0] rfl) (fun H locs ls hP hD hS hl => ?_)
  have hP : va_P D vwCl [(a_t, .inr (5, [.ref a_first, .ref a_second, .int v_vowels, .int v_wordCount, .ref a_spelling, .ref a_lengths, .ref a_frequencies, .ref a_briefs])), (a_spelling, .inl (cI, 96, .inl u1)), (a_lengths, .inl (cI, 12, .inl m_lengths)), (a_frequencies, .inl (cI, 12, .inl m_frequencies)), (a_briefs, .inl (cI, 12, .inl m_briefs)), (a_p1, .inl (cI, 8, .inl m_p1))] H := hP
  have hD : va_D A [(a_t, .inr (5, [.ref a_first, .ref a_second, .int v_vowels, .int v_wordCount, .ref a_spelling, .ref a_lengths, .ref a_frequencies, .ref a_briefs])), (a_spelling, .inl (cI, 96, .inl u1)), (a_lengths, .inl (cI, 12, .inl m_lengths)), (a_frequencies, .inl (cI, 12, .inl m_frequencies)), (a_briefs, .inl (cI, 12, .inl m_briefs)), (a_p1, .inl (cI, 8, .inl m_p1))] := hD
  have hl : lv_has ls 6 [(0, .ref a_t), (2, .int x2), (3, .int x3), (4, .int v_wordCount)] := hl
  refine lv_aload_n hx hb dX5_enter_41 rfl (lv_at hl 0 rfl) ?_
  refine va_get (D := D) (ci := 5) (v := .ref a_lengths) (C := RX5) (T := TX5) (N := 8) hx hb hts ly_X5_enter_X5 hown hK.1 hP 0 rfl rfl 5 (by decide) (hts (.fieldLink RX5 28 "ShorthandOutlines$State" "lengths" "[I") wd_X5_enter_2) (fun _ h9 => h9) rfl dX5_enter_42 ?_
  refine lv_iload hx hb dX5_enter_45 (lv_at hl 3 rfl) ?_
  refine lv_iload_n hx hb dX5_enter_47 rfl (lv_at hl 1 rfl) ?_
  have hi2 := gd_1 hf
  replace hf := gd_2 hf
  refine va_iast hx hb hK.1 hP hD hS 2 0 rfl rfl (inb_in hi2) dX5_enter_48 (fun H locs hP hD hS => ?_)
  have hP : va_P D vwCl [(a_t, .inr (5, [.ref a_first, .ref a_second, .int v_vowels, .int v_wordCount, .ref a_spelling, .ref a_lengths, .ref a_frequencies, .ref a_briefs])), (a_spelling, .inl (cI, 96, .inl u1)), (a_lengths, .inl (cI, 12, .inl (upd m_lengths v_wordCount.toNatClampNeg x2))), (a_frequencies, .inl (cI, 12, .inl m_frequencies)), (a_briefs, .inl (cI, 12, .inl m_briefs)), (a_p1, .inl (cI, 8, .inl m_p1))] H := hP
  have hD : va_D A [(a_t, .inr (5, [.ref a_first, .ref a_second, .int v_vowels, .int v_wordCount, .ref a_spelling, .ref a_lengths, .ref a_frequencies, .ref a_briefs])), (a_spelling, .inl (cI, 96, .inl u1)), (a_lengths, .inl (cI, 12, .inl (upd m_lengths v_wordCount.toNatClampNeg x2))), (a_frequencies, .inl (cI, 12, .inl m_frequencies)), (a_briefs, .inl (cI, 12, .inl m_briefs)), (a_p1, .inl (cI, 8, .inl m_p1))] := hD
  refine lv_aload_n hx hb dX5_enter_49 rfl (lv_at hl 0 rfl) ?_
  refine va_get (D := D) (ci := 5) (v := .ref a_frequencies) (C := RX5) (T := TX5) (N := 8) hx hb hts ly_X5_enter_X5 hown hK.1 hP 0 rfl rfl 6 (by decide) (hts (.fieldLink RX5 31 "ShorthandOutlines$State" "frequencies" "[I") wd_X5_enter_3) (fun _ h9 => h9) rfl dX5_enter_50 ?_
  refine lv_iload hx hb dX5_enter_53 (lv_at hl 3 rfl) ?_
  refine lv_iload_n hx hb dX5_enter_55 rfl (lv_at hl 2 rfl) ?_
  have hi3 := gd_1 hf
  replace hf := gd_2 hf
  refine va_iast hx hb hK.1 hP hD hS 3 0 rfl rfl (inb_in hi3) dX5_enter_56 (fun H locs hP hD hS => ?_)
  have hP : va_P D vwCl [(a_t, .inr (5, [.ref a_first, .ref a_second, .int v_vowels, .int v_wordCount, .ref a_spelling, .ref a_lengths, .ref a_frequencies, .ref a_briefs])), (a_spelling, .inl (cI, 96, .inl u1)), (a_lengths, .inl (cI, 12, .inl (upd m_lengths v_wordCount.toNatClampNeg x2))), (a_frequencies, .inl (cI, 12, .inl (upd m_frequencies v_wordCount.toNatClampNeg x3))), (a_briefs, .inl (cI, 12, .inl m_briefs)), (a_p1, .inl (cI, 8, .inl m_p1))] H := hP
  have hD : va_D A [(a_t, .inr (5, [.ref a_first, .ref a_second, .int v_vowels, .int v_wordCount, .ref a_spelling, .ref a_lengths, .ref a_frequencies, .ref a_briefs])), (a_spelling, .inl (cI, 96, .inl u1)), (a_lengths, .inl (cI, 12, .inl (upd m_lengths v_wordCount.toNatClampNeg x2))), (a_frequencies, .inl (cI, 12, .inl (upd m_frequencies v_wordCount.toNatClampNeg x3))), (a_briefs, .inl (cI, 12, .inl m_briefs)), (a_p1, .inl (cI, 8, .inl m_p1))] := hD
  refine lv_aload_n hx hb dX5_enter_57 rfl (lv_at hl 0 rfl) ?_
  refine va_get (D := D) (ci := 5) (v := .ref a_briefs) (C := RX5) (T := TX5) (N := 8) hx hb hts ly_X5_enter_X5 hown hK.1 hP 0 rfl rfl 7 (by decide) (hts (.fieldLink RX5 34 "ShorthandOutlines$State" "briefs" "[I") wd_X5_enter_4) (fun _ h9 => h9) rfl dX5_enter_58 ?_
  refine lv_iload hx hb dX5_enter_61 (lv_at hl 3 rfl) ?_
  refine lv_iconst (v := -1) hx hb dX5_enter_63 (by decide) ?_
  have hi4 := gd_1 hf
  replace hf := gd_2 hf
  refine va_iast hx hb hK.1 hP hD hS 4 0 rfl rfl (inb_in hi4) dX5_enter_64 (fun H locs hP hD hS => ?_)
  have hP : va_P D vwCl [(a_t, .inr (5, [.ref a_first, .ref a_second, .int v_vowels, .int v_wordCount, .ref a_spelling, .ref a_lengths, .ref a_frequencies, .ref a_briefs])), (a_spelling, .inl (cI, 96, .inl u1)), (a_lengths, .inl (cI, 12, .inl (upd m_lengths v_wordCount.toNatClampNeg x2))), (a_frequencies, .inl (cI, 12, .inl (upd m_frequencies v_wordCount.toNatClampNeg x3))), (a_briefs, .inl (cI, 12, .inl (upd m_briefs v_wordCount.toNatClampNeg (-1 : Int32)))), (a_p1, .inl (cI, 8, .inl m_p1))] H := hP
  have hD : va_D A [(a_t, .inr (5, [.ref a_first, .ref a_second, .int v_vowels, .int v_wordCount, .ref a_spelling, .ref a_lengths, .ref a_frequencies, .ref a_briefs])), (a_spelling, .inl (cI, 96, .inl u1)), (a_lengths, .inl (cI, 12, .inl (upd m_lengths v_wordCount.toNatClampNeg x2))), (a_frequencies, .inl (cI, 12, .inl (upd m_frequencies v_wordCount.toNatClampNeg x3))), (a_briefs, .inl (cI, 12, .inl (upd m_briefs v_wordCount.toNatClampNeg (-1 : Int32)))), (a_p1, .inl (cI, 8, .inl m_p1))] := hD
  refine lv_aload_n hx hb dX5_enter_65 rfl (lv_at hl 0 rfl) ?_
  refine lv_dup hx hb dX5_enter_66 rfl ?_
  refine va_get (D := D) (ci := 5) (v := .int v_wordCount) (C := RX5) (T := TX5) (N := 8) hx hb hts ly_X5_enter_X5 hown hK.1 hP 0 rfl rfl 3 (by decide) (hts (.fieldLink RX5 22 "ShorthandOutlines$State" "wordCount" "I") wd_X5_enter_0) (fun _ h9 => h9) rfl dX5_enter_67 ?_
  refine lv_iconst (v := 1) hx hb dX5_enter_70 (by decide) ?_
  refine lv_iadd hx hb dX5_enter_71 ?_
  refine va_put (D := D) (ci := 5) (v := .int (v_wordCount + (1 : Int32))) (ty := .int) (C := RX5) (T := TX5) (N := 8) hx hb hts ly_X5_enter_X5 tyX5 tyX5_ok nmX5 hown hK.1 hP hD hS 0 rfl rfl 3 (by decide) (hts (.fieldLink RX5 22 "ShorthandOutlines$State" "wordCount" "I") wd_X5_enter_0) (fun _ h9 => h9) rfl (by decide +kernel) rfl rfl (Nat.le_of_ble_eq_true rfl) dX5_enter_72 (fun H locs hP hD hS => ?_)
  have hP : va_P D vwCl [(a_t, .inr (5, [.ref a_first, .ref a_second, .int v_vowels, .int (v_wordCount + (1 : Int32)), .ref a_spelling, .ref a_lengths, .ref a_frequencies, .ref a_briefs])), (a_spelling, .inl (cI, 96, .inl u1)), (a_lengths, .inl (cI, 12, .inl (upd m_lengths v_wordCount.toNatClampNeg x2))), (a_frequencies, .inl (cI, 12, .inl (upd m_frequencies v_wordCount.toNatClampNeg x3))), (a_briefs, .inl (cI, 12, .inl (upd m_briefs v_wordCount.toNatClampNeg (-1 : Int32)))), (a_p1, .inl (cI, 8, .inl m_p1))] H := hP
  have hD : va_D A [(a_t, .inr (5, [.ref a_first, .ref a_second, .int v_vowels, .int (v_wordCount + (1 : Int32)), .ref a_spelling, .ref a_lengths, .ref a_frequencies, .ref a_briefs])), (a_spelling, .inl (cI, 96, .inl u1)), (a_lengths, .inl (cI, 12, .inl (upd m_lengths v_wordCount.toNatClampNeg x2))), (a_frequencies, .inl (cI, 12, .inl (upd m_frequencies v_wordCount.toNatClampNeg x3))), (a_briefs, .inl (cI, 12, .inl (upd m_briefs v_wordCount.toNatClampNeg (-1 : Int32)))), (a_p1, .inl (cI, 8, .inl m_p1))] := hD
  refine lv_iload hx hb dX5_enter_75 (lv_at hl 3 rfl) ?_
  have ho := so hf
  subst ho
  exact g_iret (v := v_wordCount) hx hb hr hlk hP hD hS dX5_enter_77

theorem sg_X5_moveDown : yX5_moveDown.cls = RX5 ∧ yX5_moveDown.cls ≠ "java/lang/invoke/MethodHandle" ∧ yX5_moveDown.cls ≠ "java/lang/invoke/VarHandle" ∧ (parseMethodDescriptor yX5_moveDown.desc).map (fun d => d.parameters.length) = some 1 := by decide +kernel
abbrev rm_X5_moveDown : Room := { frames := 0, cells := 0, slots := 0, locals := 0 }
theorem wd_X5_moveDown_0 : (.fieldLink RX5 25 "ShorthandOutlines$State" "spelling" "[I" : Cond) ∈ wsX5_moveDown := by decide +kernel
theorem wd_X5_moveDown_1 : (.fieldLink RX5 28 "ShorthandOutlines$State" "lengths" "[I" : Cond) ∈ wsX5_moveDown := by decide +kernel
theorem wd_X5_moveDown_2 : (.fieldLink RX5 31 "ShorthandOutlines$State" "frequencies" "[I" : Cond) ∈ wsX5_moveDown := by decide +kernel
theorem wd_X5_moveDown_3 : (.fieldLink RX5 34 "ShorthandOutlines$State" "briefs" "[I" : Cond) ∈ wsX5_moveDown := by decide +kernel
theorem ly_X5_moveDown_X5 : ∀ w ∈ u_ws RX5 TX5 8, w ∈ wsX5_moveDown := by decide +kernel
set_option maxHeartbeats 4000000 in
set_option maxRecDepth 100000 in
theorem lt_X5_moveDown_6 {p : Program} {l : Launch} {e : Env} {s : State} {m : MethodId} {args : Array Value} {below : List Frame} {meth : Method} {c : Code} {D : va_G} {cI cZ cS : ClassId} {A : Nat → Prop} {Q : State → Prop} (Cx : gCx p s m meth c args cX5_moveDown 4 none yX5_moveDown wsX5_moveDown D cI cZ cS A) (a_t : Nat) (a_first : Nat) (a_second : Nat) (v_vowels : Int32) (v_wordCount : Int32) (a_spelling : Nat) (a_lengths : Nat) (a_frequencies : Nat) (a_briefs : Nat) (m_lengths : Nat → Int32) (m_frequencies : Nat → Int32) (m_briefs : Nat → Int32) (y1 : Int32) (y2 : Int32) : ∀ (n : Nat) (y3 : Int32) (m_spelling : Nat → Int32) (o : (Nat → Int32)) (H : Heap) (locs : List Loc) (ls : Array Slot), lp_X5_moveDown_6 y1 y2 n y3 m_spelling = some o → va_P D vwCl [(a_t, .inr (5, [.ref a_first, .ref a_second, .int v_vowels, .int v_wordCount, .ref a_spelling, .ref a_lengths, .ref a_frequencies, .ref a_briefs])), (a_spelling, .inl (cI, 96, .inl m_spelling)), (a_lengths, .inl (cI, 12, .inl m_lengths)), (a_frequencies, .inl (cI, 12, .inl m_frequencies)), (a_briefs, .inl (cI, 12, .inl m_briefs))] H → va_D A [(a_t, .inr (5, [.ref a_first, .ref a_second, .int v_vowels, .int v_wordCount, .ref a_spelling, .ref a_lengths, .ref a_frequencies, .ref a_briefs])), (a_spelling, .inl (cI, 96, .inl m_spelling)), (a_lengths, .inl (cI, 12, .inl m_lengths)), (a_frequencies, .inl (cI, 12, .inl m_frequencies)), (a_briefs, .inl (cI, 12, .inl m_briefs))] → va_S A s.heap H locs → lv_has ls 4 [(0, .ref a_t), (1, .int y1), (2, .int y2), (3, .int y3)] → (∀ (H : Heap) (locs : List Loc) (ls : Array Slot), va_P D vwCl [(a_t, .inr (5, [.ref a_first, .ref a_second, .int v_vowels, .int v_wordCount, .ref a_spelling, .ref a_lengths, .ref a_frequencies, .ref a_briefs])), (a_spelling, .inl (cI, 96, .inl o)), (a_lengths, .inl (cI, 12, .inl m_lengths)), (a_frequencies, .inl (cI, 12, .inl m_frequencies)), (a_briefs, .inl (cI, 12, .inl m_briefs))] H → va_D A [(a_t, .inr (5, [.ref a_first, .ref a_second, .int v_vowels, .int v_wordCount, .ref a_spelling, .ref a_lengths, .ref a_frequencies, .ref a_briefs])), (a_spelling, .inl (cI, 96, .inl o)), (a_lengths, .inl (cI, 12, .inl m_lengths)), (a_frequencies, .inl (cI, 12, .inl m_frequencies)), (a_briefs, .inl (cI, 12, .inl m_briefs))] → va_S A s.heap H locs → lv_has ls 4 [(0, .ref a_t), (1, .int y1), (2, .int y2)] → W p l e rm_X5_moveDown s m args below meth c H locs 0 0 Q (F0 m 40 ls [])) → W p l e rm_X5_moveDown s m args below meth c H locs 0 0 Q (F0 m 6 ls []) := by
  obtain ⟨hx, hb, hml, hr, hlk, hown, hin, hts, hK, hA⟩ := id Cx
  have hown : s.vm.findClass RX5 = some m.cls := hown
  intro n
  induction n with
  | zero =>
    intro y3 m_spelling o H locs ls hf
    rw [lp_X5_moveDown_6] at hf
    cases hf
  | succ n ih =>
    intro y3 m_spelling o H locs ls hf hP hD hS hl kk
    rw [lp_X5_moveDown_6] at hf
    refine lv_iload_n hx hb dX5_moveDown_6 rfl (lv_at hl 3 rfl) ?_
    refine lv_bipush (v := 8) hx hb dX5_moveDown_7 (by decide) ?_
    refine lv_icmp_ge (tgt := 40) hx hb dX5_moveDown_9 (by decide) (fun hb1 => ?_) (fun hb1 => ?_)
    · replace hf := if_t hb1 hf
      have ho := so hf
      subst ho
      exact kk _ _ _ hP hD hS (lv_sub hl [0, 1, 2] rfl)
    · replace hf := if_f hb1 hf
      refine lv_aload_n hx hb dX5_moveDown_12 rfl (lv_at hl 0 rfl) ?_
      refine va_get (D := D) (ci := 5) (v := .ref a_spelling) (C := RX5) (T := TX5) (N := 8) hx hb hts ly_X5_moveDown_X5 hown hK.1 hP 0 rfl rfl 4 (by decide) (hts (.fieldLink RX5 25 "ShorthandOutlines$State" "spelling" "[I") wd_X5_moveDown_0) (fun _ h9 => h9) rfl dX5_moveDown_13 ?_
      refine lv_iload_n hx hb dX5_moveDown_16 rfl (lv_at hl 2 rfl) ?_
      refine lv_bipush (v := 8) hx hb dX5_moveDown_17 (by decide) ?_
      refine lv_imul hx hb dX5_moveDown_19 ?_
      refine lv_iload_n hx hb dX5_moveDown_20 rfl (lv_at hl 3 rfl) ?_
      refine lv_iadd hx hb dX5_moveDown_21 ?_
      refine lv_aload_n hx hb dX5_moveDown_22 rfl (lv_at hl 0 rfl) ?_
      refine va_get (D := D) (ci := 5) (v := .ref a_spelling) (C := RX5) (T := TX5) (N := 8) hx hb hts ly_X5_moveDown_X5 hown hK.1 hP 0 rfl rfl 4 (by decide) (hts (.fieldLink RX5 25 "ShorthandOutlines$State" "spelling" "[I") wd_X5_moveDown_0) (fun _ h9 => h9) rfl dX5_moveDown_23 ?_
      refine lv_iload_n hx hb dX5_moveDown_26 rfl (lv_at hl 1 rfl) ?_
      refine lv_bipush (v := 8) hx hb dX5_moveDown_27 (by decide) ?_
      refine lv_imul hx hb dX5_moveDown_29 ?_
      refine lv_iload_n hx hb dX5_moveDown_30 rfl (lv_at hl 3 rfl) ?_
      refine lv_iadd hx hb dX5_moveDown_31 ?_
      have hi2 := gd_1 hf
      replace hf := gd_2 hf
      refine va_iald hx hb hK.1 hP 1 0 rfl rfl (inb_in hi2) dX5_moveDown_32 ?_
      have hi3 := gd_1 hf
      replace hf := gd_2 hf
      refine va_iast hx hb hK.1 hP hD hS 1 0 rfl rfl (inb_in hi3) dX5_moveDown_33 (fun H locs hP hD hS => ?_)
      have hP : va_P D vwCl [(a_t, .inr (5, [.ref a_first, .ref a_second, .int v_vowels, .int v_wordCount, .ref a_spelling, .ref a_lengths, .ref a_frequencies, .ref a_briefs])), (a_spelling, .inl (cI, 96, .inl (upd m_spelling ((y2 * (8 : Int32)) + y3).toNatClampNeg (m_spelling ((y1 * (8 : Int32)) + y3).toNatClampNeg)))), (a_lengths, .inl (cI, 12, .inl m_lengths)), (a_frequencies, .inl (cI, 12, .inl m_frequencies)), (a_briefs, .inl (cI, 12, .inl m_briefs))] H := hP
      have hD : va_D A [(a_t, .inr (5, [.ref a_first, .ref a_second, .int v_vowels, .int v_wordCount, .ref a_spelling, .ref a_lengths, .ref a_frequencies, .ref a_briefs])), (a_spelling, .inl (cI, 96, .inl (upd m_spelling ((y2 * (8 : Int32)) + y3).toNatClampNeg (m_spelling ((y1 * (8 : Int32)) + y3).toNatClampNeg)))), (a_lengths, .inl (cI, 12, .inl m_lengths)), (a_frequencies, .inl (cI, 12, .inl m_frequencies)), (a_briefs, .inl (cI, 12, .inl m_briefs))] := hD
      refine lv_iinc (v := (y3 + 1)) (lv' := [(3, .int (y3 + 1)), (0, .ref a_t), (1, .int y1), (2, .int y2)]) hx hb dX5_moveDown_34 hl (k := 3) rfl rfl (by decide) rfl (fun ls hl => ?_)
      refine lv_goto (tgt := 6) hx hb dX5_moveDown_37 (by decide) ?_
      exact ih (y3 + 1) (upd m_spelling ((y2 * (8 : Int32)) + y3).toNatClampNeg (m_spelling ((y1 * (8 : Int32)) + y3).toNatClampNeg)) o _ _ _ hf hP hD hS (lv_sub hl [1, 2, 3, 0] rfl) kk
set_option maxHeartbeats 4000000 in
set_option maxRecDepth 100000 in
theorem kt_X5_moveDown (l : Launch) (D : va_G) (cI cZ cS : ClassId) (a_t : Nat) (a_spelling : Nat) (a_lengths : Nat) (a_frequencies : Nat) (a_briefs : Nat) (a_first : Nat) (a_second : Nat) (v_vowels : Int32) (v_wordCount : Int32) (m_spelling : Nat → Int32) (m_lengths : Nat → Int32) (m_frequencies : Nat → Int32) (m_briefs : Nat → Int32) (x1 : Int32) (o : (Nat → Int32) × (Nat → Int32) × (Nat → Int32) × (Nat → Int32)) (hf : fn_X5_moveDown m_spelling m_lengths m_frequencies m_briefs x1 = some o) (sz : Nat) : Met l yX5_moveDown wsX5_moveDown rm_X5_moveDown (va_Pc [.ref a_t, .int x1] (gPre D cI cZ cS [(a_t, .inr (5, [.ref a_first, .ref a_second, .int v_vowels, .int v_wordCount, .ref a_spelling, .ref a_lengths, .ref a_frequencies, .ref a_briefs])), (a_spelling, .inl (cI, 96, .inl m_spelling)), (a_lengths, .inl (cI, 12, .inl m_lengths)), (a_frequencies, .inl (cI, 12, .inl m_frequencies)), (a_briefs, .inl (cI, 12, .inl m_briefs))] sz)) (va_Qv (fun (_ : Unit) => True) (fun _ => gB D [(a_t, .inr (5, [.ref a_first, .ref a_second, .int v_vowels, .int v_wordCount, .ref a_spelling, .ref a_lengths, .ref a_frequencies, .ref a_briefs])), (a_spelling, .inl (cI, 96, .inl o.1)), (a_lengths, .inl (cI, 12, .inl o.2.1)), (a_frequencies, .inl (cI, 12, .inl o.2.2.1)), (a_briefs, .inl (cI, 12, .inl o.2.2.2))] (va_A [(a_t, .inr (5, [.ref a_first, .ref a_second, .int v_vowels, .int v_wordCount, .ref a_spelling, .ref a_lengths, .ref a_frequencies, .ref a_briefs])), (a_spelling, .inl (cI, 96, .inl m_spelling)), (a_lengths, .inl (cI, 12, .inl m_lengths)), (a_frequencies, .inl (cI, 12, .inl m_frequencies)), (a_briefs, .inl (cI, 12, .inl m_briefs))] sz)) (va_A [(a_t, .inr (5, [.ref a_first, .ref a_second, .int v_vowels, .int v_wordCount, .ref a_spelling, .ref a_lengths, .ref a_frequencies, .ref a_briefs])), (a_spelling, .inl (cI, 96, .inl m_spelling)), (a_lengths, .inl (cI, 12, .inl m_lengths)), (a_frequencies, .inl (cI, 12, .inl m_frequencies)), (a_briefs, .inl (cI, 12, .inl m_briefs))] sz)) 0 0 (va_A [(a_t, .inr (5, [.ref a_first, .ref a_second, .int v_vowels, .int v_wordCount, .ref a_spelling, .ref a_lengths, .ref a_frequencies, .ref a_briefs])), (a_spelling, .inl (cI, 96, .inl m_spelling)), (a_lengths, .inl (cI, 12, .inl m_lengths)), (a_frequencies, .inl (cI, 12, .inl m_frequencies)), (a_briefs, .inl (cI, 12, .inl m_briefs))] sz) := by
  refine g_entry (y := yX5_moveDown) (av := [.ref a_t, .int x1]) (wi := [(a_t, .inr (5, [.ref a_first, .ref a_second, .int v_vowels, .int v_wordCount, .ref a_spelling, .ref a_lengths, .ref a_frequencies, .ref a_briefs])), (a_spelling, .inl (cI, 96, .inl m_spelling)), (a_lengths, .inl (cI, 12, .inl m_lengths)), (a_frequencies, .inl (cI, 12, .inl m_frequencies)), (a_briefs, .inl (cI, 12, .inl m_briefs))]) (Qc := fun A => va_Qv (fun (_ : Unit) => True) (fun _ => gB D [(a_t, .inr (5, [.ref a_first, .ref a_second, .int v_vowels, .int v_wordCount, .ref a_spelling, .ref a_lengths, .ref a_frequencies, .ref a_briefs])), (a_spelling, .inl (cI, 96, .inl o.1)), (a_lengths, .inl (cI, 12, .inl o.2.1)), (a_frequencies, .inl (cI, 12, .inl o.2.2.1)), (a_briefs, .inl (cI, 12, .inl o.2.2.2))] A) A) (cc := cX5_moveDown) (maxL := 4) (ret := none) (by decide) rfl (Nat.le_of_ble_eq_true rfl) ?_ sz
  intro p e s m below meth c A ls Cx hP hD hS hl
  obtain ⟨hx, hb, hml, hr, hlk, hown, hin, hts, hK, hA⟩ := id Cx
  have hown : s.vm.findClass RX5 = some m.cls := hown
  have hl : lv_has ls 4 [(0, .ref a_t), (1, .int x1)] := hl
  unfold fn_X5_moveDown at hf
  refine lv_iload_n hx hb dX5_moveDown_0 rfl (lv_at hl 1 rfl) ?_
  refine lv_iconst (v := 1) hx hb dX5_moveDown_1 (by decide) ?_
  refine lv_isub hx hb dX5_moveDown_2 ?_
  refine lv_istore_n (lv' := [(2, .int (x1 - (1 : Int32))), (0, .ref a_t), (1, .int x1)]) hx hb dX5_moveDown_3 rfl hl (by decide) rfl (fun ls hl => ?_)
  refine lv_iconst (v := 0) hx hb dX5_moveDown_4 (by decide) ?_
  refine lv_istore_n (lv' := [(3, .int (0 : Int32)), (2, .int (x1 - (1 : Int32))), (0, .ref a_t), (1, .int x1)]) hx hb dX5_moveDown_5 rfl hl (by decide) rfl (fun ls hl => ?_)
  obtain ⟨u1, hc1, hf⟩ := ob hf
  refine lt_X5_moveDown_6 Cx a_t a_first a_second v_vowels v_wordCount a_spelling a_lengths a_frequencies a_briefs m_lengths m_frequencies m_briefs x1 (x1 - (1 : Int32)) 1024 (0 : Int32) m_spelling u1 _ _ _ hc1 hP hD hS (lv_sub hl [2, 3, 1, 0] rfl) (fun H locs ls hP hD hS hl => ?_)
  have hP : va_P D vwCl [(a_t, .inr (5, [.ref a_first, .ref a_second, .int v_vowels, .int v_wordCount, .ref a_spelling, .ref a_lengths, .ref a_frequencies, .ref a_briefs])), (a_spelling, .inl (cI, 96, .inl u1)), (a_lengths, .inl (cI, 12, .inl m_lengths)), (a_frequencies, .inl (cI, 12, .inl m_frequencies)), (a_briefs, .inl (cI, 12, .inl m_briefs))] H := hP
  have hD : va_D A [(a_t, .inr (5, [.ref a_first, .ref a_second, .int v_vowels, .int v_wordCount, .ref a_spelling, .ref a_lengths, .ref a_frequencies, .ref a_briefs])), (a_spelling, .inl (cI, 96, .inl u1)), (a_lengths, .inl (cI, 12, .inl m_lengths)), (a_frequencies, .inl (cI, 12, .inl m_frequencies)), (a_briefs, .inl (cI, 12, .inl m_briefs))] := hD
  have hl : lv_has ls 4 [(0, .ref a_t), (1, .int x1), (2, .int (x1 - (1 : Int32)))] := hl
  refine lv_aload_n hx hb dX5_moveDown_40 rfl (lv_at hl 0 rfl) ?_
  refine va_get (D := D) (ci := 5) (v := .ref a_lengths) (C := RX5) (T := TX5) (N := 8) hx hb hts ly_X5_moveDown_X5 hown hK.1 hP 0 rfl rfl 5 (by decide) (hts (.fieldLink RX5 28 "ShorthandOutlines$State" "lengths" "[I") wd_X5_moveDown_1) (fun _ h9 => h9) rfl dX5_moveDown_41 ?_
  refine lv_iload_n hx hb dX5_moveDown_44 rfl (lv_at hl 2 rfl) ?_
  refine lv_aload_n hx hb dX5_moveDown_45 rfl (lv_at hl 0 rfl) ?_
  refine va_get (D := D) (ci := 5) (v := .ref a_lengths) (C := RX5) (T := TX5) (N := 8) hx hb hts ly_X5_moveDown_X5 hown hK.1 hP 0 rfl rfl 5 (by decide) (hts (.fieldLink RX5 28 "ShorthandOutlines$State" "lengths" "[I") wd_X5_moveDown_1) (fun _ h9 => h9) rfl dX5_moveDown_46 ?_
  refine lv_iload_n hx hb dX5_moveDown_49 rfl (lv_at hl 1 rfl) ?_
  have hi2 := gd_1 hf
  replace hf := gd_2 hf
  refine va_iald hx hb hK.1 hP 2 0 rfl rfl (inb_in hi2) dX5_moveDown_50 ?_
  have hi3 := gd_1 hf
  replace hf := gd_2 hf
  refine va_iast hx hb hK.1 hP hD hS 2 0 rfl rfl (inb_in hi3) dX5_moveDown_51 (fun H locs hP hD hS => ?_)
  have hP : va_P D vwCl [(a_t, .inr (5, [.ref a_first, .ref a_second, .int v_vowels, .int v_wordCount, .ref a_spelling, .ref a_lengths, .ref a_frequencies, .ref a_briefs])), (a_spelling, .inl (cI, 96, .inl u1)), (a_lengths, .inl (cI, 12, .inl (upd m_lengths (x1 - (1 : Int32)).toNatClampNeg (m_lengths x1.toNatClampNeg)))), (a_frequencies, .inl (cI, 12, .inl m_frequencies)), (a_briefs, .inl (cI, 12, .inl m_briefs))] H := hP
  have hD : va_D A [(a_t, .inr (5, [.ref a_first, .ref a_second, .int v_vowels, .int v_wordCount, .ref a_spelling, .ref a_lengths, .ref a_frequencies, .ref a_briefs])), (a_spelling, .inl (cI, 96, .inl u1)), (a_lengths, .inl (cI, 12, .inl (upd m_lengths (x1 - (1 : Int32)).toNatClampNeg (m_lengths x1.toNatClampNeg)))), (a_frequencies, .inl (cI, 12, .inl m_frequencies)), (a_briefs, .inl (cI, 12, .inl m_briefs))] := hD
  refine lv_aload_n hx hb dX5_moveDown_52 rfl (lv_at hl 0 rfl) ?_
  refine va_get (D := D) (ci := 5) (v := .ref a_frequencies) (C := RX5) (T := TX5) (N := 8) hx hb hts ly_X5_moveDown_X5 hown hK.1 hP 0 rfl rfl 6 (by decide) (hts (.fieldLink RX5 31 "ShorthandOutlines$State" "frequencies" "[I") wd_X5_moveDown_2) (fun _ h9 => h9) rfl dX5_moveDown_53 ?_
  refine lv_iload_n hx hb dX5_moveDown_56 rfl (lv_at hl 2 rfl) ?_
  refine lv_aload_n hx hb dX5_moveDown_57 rfl (lv_at hl 0 rfl) ?_
  refine va_get (D := D) (ci := 5) (v := .ref a_frequencies) (C := RX5) (T := TX5) (N := 8) hx hb hts ly_X5_moveDown_X5 hown hK.1 hP 0 rfl rfl 6 (by decide) (hts (.fieldLink RX5 31 "ShorthandOutlines$State" "frequencies" "[I") wd_X5_moveDown_2) (fun _ h9 => h9) rfl dX5_moveDown_58 ?_
  refine lv_iload_n hx hb dX5_moveDown_61 rfl (lv_at hl 1 rfl) ?_
  have hi4 := gd_1 hf
  replace hf := gd_2 hf
  refine va_iald hx hb hK.1 hP 3 0 rfl rfl (inb_in hi4) dX5_moveDown_62 ?_
  have hi5 := gd_1 hf
  replace hf := gd_2 hf
  refine va_iast hx hb hK.1 hP hD hS 3 0 rfl rfl (inb_in hi5) dX5_moveDown_63 (fun H locs hP hD hS => ?_)
  have hP : va_P D vwCl [(a_t, .inr (5, [.ref a_first, .ref a_second, .int v_vowels, .int v_wordCount, .ref a_spelling, .ref a_lengths, .ref a_frequencies, .ref a_briefs])), (a_spelling, .inl (cI, 96, .inl u1)), (a_lengths, .inl (cI, 12, .inl (upd m_lengths (x1 - (1 : Int32)).toNatClampNeg (m_lengths x1.toNatClampNeg)))), (a_frequencies, .inl (cI, 12, .inl (upd m_frequencies (x1 - (1 : Int32)).toNatClampNeg (m_frequencies x1.toNatClampNeg)))), (a_briefs, .inl (cI, 12, .inl m_briefs))] H := hP
  have hD : va_D A [(a_t, .inr (5, [.ref a_first, .ref a_second, .int v_vowels, .int v_wordCount, .ref a_spelling, .ref a_lengths, .ref a_frequencies, .ref a_briefs])), (a_spelling, .inl (cI, 96, .inl u1)), (a_lengths, .inl (cI, 12, .inl (upd m_lengths (x1 - (1 : Int32)).toNatClampNeg (m_lengths x1.toNatClampNeg)))), (a_frequencies, .inl (cI, 12, .inl (upd m_frequencies (x1 - (1 : Int32)).toNatClampNeg (m_frequencies x1.toNatClampNeg)))), (a_briefs, .inl (cI, 12, .inl m_briefs))] := hD
  refine lv_aload_n hx hb dX5_moveDown_64 rfl (lv_at hl 0 rfl) ?_
  refine va_get (D := D) (ci := 5) (v := .ref a_briefs) (C := RX5) (T := TX5) (N := 8) hx hb hts ly_X5_moveDown_X5 hown hK.1 hP 0 rfl rfl 7 (by decide) (hts (.fieldLink RX5 34 "ShorthandOutlines$State" "briefs" "[I") wd_X5_moveDown_3) (fun _ h9 => h9) rfl dX5_moveDown_65 ?_
  refine lv_iload_n hx hb dX5_moveDown_68 rfl (lv_at hl 2 rfl) ?_
  refine lv_aload_n hx hb dX5_moveDown_69 rfl (lv_at hl 0 rfl) ?_
  refine va_get (D := D) (ci := 5) (v := .ref a_briefs) (C := RX5) (T := TX5) (N := 8) hx hb hts ly_X5_moveDown_X5 hown hK.1 hP 0 rfl rfl 7 (by decide) (hts (.fieldLink RX5 34 "ShorthandOutlines$State" "briefs" "[I") wd_X5_moveDown_3) (fun _ h9 => h9) rfl dX5_moveDown_70 ?_
  refine lv_iload_n hx hb dX5_moveDown_73 rfl (lv_at hl 1 rfl) ?_
  have hi6 := gd_1 hf
  replace hf := gd_2 hf
  refine va_iald hx hb hK.1 hP 4 0 rfl rfl (inb_in hi6) dX5_moveDown_74 ?_
  have hi7 := gd_1 hf
  replace hf := gd_2 hf
  refine va_iast hx hb hK.1 hP hD hS 4 0 rfl rfl (inb_in hi7) dX5_moveDown_75 (fun H locs hP hD hS => ?_)
  have hP : va_P D vwCl [(a_t, .inr (5, [.ref a_first, .ref a_second, .int v_vowels, .int v_wordCount, .ref a_spelling, .ref a_lengths, .ref a_frequencies, .ref a_briefs])), (a_spelling, .inl (cI, 96, .inl u1)), (a_lengths, .inl (cI, 12, .inl (upd m_lengths (x1 - (1 : Int32)).toNatClampNeg (m_lengths x1.toNatClampNeg)))), (a_frequencies, .inl (cI, 12, .inl (upd m_frequencies (x1 - (1 : Int32)).toNatClampNeg (m_frequencies x1.toNatClampNeg)))), (a_briefs, .inl (cI, 12, .inl (upd m_briefs (x1 - (1 : Int32)).toNatClampNeg (m_briefs x1.toNatClampNeg))))] H := hP
  have hD : va_D A [(a_t, .inr (5, [.ref a_first, .ref a_second, .int v_vowels, .int v_wordCount, .ref a_spelling, .ref a_lengths, .ref a_frequencies, .ref a_briefs])), (a_spelling, .inl (cI, 96, .inl u1)), (a_lengths, .inl (cI, 12, .inl (upd m_lengths (x1 - (1 : Int32)).toNatClampNeg (m_lengths x1.toNatClampNeg)))), (a_frequencies, .inl (cI, 12, .inl (upd m_frequencies (x1 - (1 : Int32)).toNatClampNeg (m_frequencies x1.toNatClampNeg)))), (a_briefs, .inl (cI, 12, .inl (upd m_briefs (x1 - (1 : Int32)).toNatClampNeg (m_briefs x1.toNatClampNeg))))] := hD
  have ho := so hf
  subst ho
  exact g_vret hx hb hr hlk hP hD hS dX5_moveDown_76

theorem sg_X5_drop : yX5_drop.cls = RX5 ∧ yX5_drop.cls ≠ "java/lang/invoke/MethodHandle" ∧ yX5_drop.cls ≠ "java/lang/invoke/VarHandle" ∧ (parseMethodDescriptor yX5_drop.desc).map (fun d => d.parameters.length) = some 1 := by decide +kernel
abbrev rm_X5_drop : Room := { frames := 1, cells := 0, slots := 0, locals := 23 }
theorem wd_X5_drop_0 : (.fieldLink RX5 22 "ShorthandOutlines$State" "wordCount" "I" : Cond) ∈ wsX5_drop := by decide +kernel
theorem ly_X5_drop_X5 : ∀ w ∈ u_ws RX5 TX5 8, w ∈ wsX5_drop := by decide +kernel
set_option maxHeartbeats 4000000 in
set_option maxRecDepth 100000 in
theorem lt_X5_drop_4 {p : Program} {l : Launch} {e : Env} {s : State} {m : MethodId} {args : Array Value} {below : List Frame} {meth : Method} {c : Code} {D : va_G} {cI cZ cS : ClassId} {A : Nat → Prop} {Q : State → Prop} (Cx : gCx p s m meth c args cX5_drop 3 none yX5_drop wsX5_drop D cI cZ cS A) (a_t : Nat) (a_first : Nat) (a_second : Nat) (v_vowels : Int32) (v_wordCount : Int32) (a_spelling : Nat) (a_lengths : Nat) (a_frequencies : Nat) (a_briefs : Nat) : ∀ (n : Nat) (y2 : Int32) (m_spelling : Nat → Int32) (m_lengths : Nat → Int32) (m_frequencies : Nat → Int32) (m_briefs : Nat → Int32) (o : (Nat → Int32) × (Nat → Int32) × (Nat → Int32) × (Nat → Int32)) (H : Heap) (locs : List Loc) (ls : Array Slot), lp_X5_drop_4 v_wordCount n y2 m_spelling m_lengths m_frequencies m_briefs = some o → va_P D vwCl [(a_t, .inr (5, [.ref a_first, .ref a_second, .int v_vowels, .int v_wordCount, .ref a_spelling, .ref a_lengths, .ref a_frequencies, .ref a_briefs])), (a_spelling, .inl (cI, 96, .inl m_spelling)), (a_lengths, .inl (cI, 12, .inl m_lengths)), (a_frequencies, .inl (cI, 12, .inl m_frequencies)), (a_briefs, .inl (cI, 12, .inl m_briefs))] H → va_D A [(a_t, .inr (5, [.ref a_first, .ref a_second, .int v_vowels, .int v_wordCount, .ref a_spelling, .ref a_lengths, .ref a_frequencies, .ref a_briefs])), (a_spelling, .inl (cI, 96, .inl m_spelling)), (a_lengths, .inl (cI, 12, .inl m_lengths)), (a_frequencies, .inl (cI, 12, .inl m_frequencies)), (a_briefs, .inl (cI, 12, .inl m_briefs))] → va_S A s.heap H locs → lv_has ls 3 [(0, .ref a_t), (2, .int y2)] → (∀ (H : Heap) (locs : List Loc) (ls : Array Slot), va_P D vwCl [(a_t, .inr (5, [.ref a_first, .ref a_second, .int v_vowels, .int v_wordCount, .ref a_spelling, .ref a_lengths, .ref a_frequencies, .ref a_briefs])), (a_spelling, .inl (cI, 96, .inl o.1)), (a_lengths, .inl (cI, 12, .inl o.2.1)), (a_frequencies, .inl (cI, 12, .inl o.2.2.1)), (a_briefs, .inl (cI, 12, .inl o.2.2.2))] H → va_D A [(a_t, .inr (5, [.ref a_first, .ref a_second, .int v_vowels, .int v_wordCount, .ref a_spelling, .ref a_lengths, .ref a_frequencies, .ref a_briefs])), (a_spelling, .inl (cI, 96, .inl o.1)), (a_lengths, .inl (cI, 12, .inl o.2.1)), (a_frequencies, .inl (cI, 12, .inl o.2.2.1)), (a_briefs, .inl (cI, 12, .inl o.2.2.2))] → va_S A s.heap H locs → lv_has ls 3 [(0, .ref a_t)] → W p l e rm_X5_drop s m args below meth c H locs 0 0 Q (F0 m 23 ls [])) → W p l e rm_X5_drop s m args below meth c H locs 0 0 Q (F0 m 4 ls []) := by
  obtain ⟨hx, hb, hml, hr, hlk, hown, hin, hts, hK, hA⟩ := id Cx
  have hown : s.vm.findClass RX5 = some m.cls := hown
  intro n
  induction n with
  | zero =>
    intro y2 m_spelling m_lengths m_frequencies m_briefs o H locs ls hf
    rw [lp_X5_drop_4] at hf
    cases hf
  | succ n ih =>
    intro y2 m_spelling m_lengths m_frequencies m_briefs o H locs ls hf hP hD hS hl kk
    rw [lp_X5_drop_4] at hf
    refine lv_iload_n hx hb dX5_drop_4 rfl (lv_at hl 1 rfl) ?_
    refine lv_aload_n hx hb dX5_drop_5 rfl (lv_at hl 0 rfl) ?_
    refine va_get (D := D) (ci := 5) (v := .int v_wordCount) (C := RX5) (T := TX5) (N := 8) hx hb hts ly_X5_drop_X5 hown hK.1 hP 0 rfl rfl 3 (by decide) (hts (.fieldLink RX5 22 "ShorthandOutlines$State" "wordCount" "I") wd_X5_drop_0) (fun _ h9 => h9) rfl dX5_drop_6 ?_
    refine lv_icmp_ge (tgt := 23) hx hb dX5_drop_9 (by decide) (fun hb1 => ?_) (fun hb1 => ?_)
    · replace hf := if_t hb1 hf
      have ho := so hf
      subst ho
      exact kk _ _ _ hP hD hS (lv_sub hl [0] rfl)
    · replace hf := if_f hb1 hf
      refine lv_aload_n hx hb dX5_drop_12 rfl (lv_at hl 0 rfl) ?_
      refine lv_iload_n hx hb dX5_drop_13 rfl (lv_at hl 1 rfl) ?_
      obtain ⟨u1, hc2, hf⟩ := ob hf
      refine g_kv (wc := [(a_t, .inr (5, [.ref a_first, .ref a_second, .int v_vowels, .int v_wordCount, .ref a_spelling, .ref a_lengths, .ref a_frequencies, .ref a_briefs])), (a_spelling, .inl (cI, 96, .inl m_spelling)), (a_lengths, .inl (cI, 12, .inl m_lengths)), (a_frequencies, .inl (cI, 12, .inl m_frequencies)), (a_briefs, .inl (cI, 12, .inl m_briefs))]) (wc' := [(a_t, .inr (5, [.ref a_first, .ref a_second, .int v_vowels, .int v_wordCount, .ref a_spelling, .ref a_lengths, .ref a_frequencies, .ref a_briefs])), (a_spelling, .inl (cI, 96, .inl u1.1)), (a_lengths, .inl (cI, 12, .inl u1.2.1)), (a_frequencies, .inl (cI, 12, .inl u1.2.2.1)), (a_briefs, .inl (cI, 12, .inl u1.2.2.2))]) (wr := []) (va_runV (As := [.int y2]) (rest := []) ⟨hx, hb, hml, hown, hts⟩ (kt_X5_moveDown l D cI cZ cS a_t a_spelling a_lengths a_frequencies a_briefs a_first a_second v_vowels v_wordCount m_spelling m_lengths m_frequencies m_briefs y2 u1 hc2 _) (cwV 1 hts gX5_drop_X5_moveDown rfl rfl rfl sg_X5_moveDown ⟨(Nat.le_of_ble_eq_true rfl), (Nat.le_of_ble_eq_true rfl)⟩) (g_pv (q := (RX5, TX5, 8)) hK hP hD [0, 1, 2, 3, 4] rfl (by decide) rfl rfl) rfl rfl hl.1 rfl (lv_room (Nat.le_of_ble_eq_true rfl)) dX5_drop_14 ⟨Nat.zero_le _, Nat.zero_le _⟩) hP hD hS hA [0, 1, 2, 3, 4] [] rfl rfl (by decide) (by decide) (fun H locs hP hD hS => ?_)
      have hP : va_P D vwCl [(a_t, .inr (5, [.ref a_first, .ref a_second, .int v_vowels, .int v_wordCount, .ref a_spelling, .ref a_lengths, .ref a_frequencies, .ref a_briefs])), (a_spelling, .inl (cI, 96, .inl u1.1)), (a_lengths, .inl (cI, 12, .inl u1.2.1)), (a_frequencies, .inl (cI, 12, .inl u1.2.2.1)), (a_briefs, .inl (cI, 12, .inl u1.2.2.2))] H := hP
      have hD : va_D A [(a_t, .inr (5, [.ref a_first, .ref a_second, .int v_vowels, .int v_wordCount, .ref a_spelling, .ref a_lengths, .ref a_frequencies, .ref a_briefs])), (a_spelling, .inl (cI, 96, .inl u1.1)), (a_lengths, .inl (cI, 12, .inl u1.2.1)), (a_frequencies, .inl (cI, 12, .inl u1.2.2.1)), (a_briefs, .inl (cI, 12, .inl u1.2.2.2))] := hD
      refine lv_iinc (v := (y2 + 1)) (lv' := [(2, .int (y2 + 1)), (0, .ref a_t)]) hx hb dX5_drop_17 hl (k := 1) rfl rfl (by decide) rfl (fun ls hl => ?_)
      refine lv_goto (tgt := 4) hx hb dX5_drop_20 (by decide) ?_
      exact ih (y2 + 1) u1.1 u1.2.1 u1.2.2.1 u1.2.2.2 o _ _ _ hf hP hD hS (lv_sub hl [1, 0] rfl) kk
set_option maxHeartbeats 4000000 in
set_option maxRecDepth 100000 in
theorem kt_X5_drop (l : Launch) (D : va_G) (cI cZ cS : ClassId) (a_t : Nat) (a_spelling : Nat) (a_lengths : Nat) (a_frequencies : Nat) (a_briefs : Nat) (a_first : Nat) (a_second : Nat) (v_vowels : Int32) (v_wordCount : Int32) (m_spelling : Nat → Int32) (m_lengths : Nat → Int32) (m_frequencies : Nat → Int32) (m_briefs : Nat → Int32) (x1 : Int32) (o : Int32 × (Nat → Int32) × (Nat → Int32) × (Nat → Int32) × (Nat → Int32)) (hf : fn_X5_drop v_wordCount m_spelling m_lengths m_frequencies m_briefs x1 = some o) (sz : Nat) : Met l yX5_drop wsX5_drop rm_X5_drop (va_Pc [.ref a_t, .int x1] (gPre D cI cZ cS [(a_t, .inr (5, [.ref a_first, .ref a_second, .int v_vowels, .int v_wordCount, .ref a_spelling, .ref a_lengths, .ref a_frequencies, .ref a_briefs])), (a_spelling, .inl (cI, 96, .inl m_spelling)), (a_lengths, .inl (cI, 12, .inl m_lengths)), (a_frequencies, .inl (cI, 12, .inl m_frequencies)), (a_briefs, .inl (cI, 12, .inl m_briefs))] sz)) (va_Qv (fun (_ : Unit) => True) (fun _ => gB D [(a_t, .inr (5, [.ref a_first, .ref a_second, .int v_vowels, .int o.1, .ref a_spelling, .ref a_lengths, .ref a_frequencies, .ref a_briefs])), (a_spelling, .inl (cI, 96, .inl o.2.1)), (a_lengths, .inl (cI, 12, .inl o.2.2.1)), (a_frequencies, .inl (cI, 12, .inl o.2.2.2.1)), (a_briefs, .inl (cI, 12, .inl o.2.2.2.2))] (va_A [(a_t, .inr (5, [.ref a_first, .ref a_second, .int v_vowels, .int v_wordCount, .ref a_spelling, .ref a_lengths, .ref a_frequencies, .ref a_briefs])), (a_spelling, .inl (cI, 96, .inl m_spelling)), (a_lengths, .inl (cI, 12, .inl m_lengths)), (a_frequencies, .inl (cI, 12, .inl m_frequencies)), (a_briefs, .inl (cI, 12, .inl m_briefs))] sz)) (va_A [(a_t, .inr (5, [.ref a_first, .ref a_second, .int v_vowels, .int v_wordCount, .ref a_spelling, .ref a_lengths, .ref a_frequencies, .ref a_briefs])), (a_spelling, .inl (cI, 96, .inl m_spelling)), (a_lengths, .inl (cI, 12, .inl m_lengths)), (a_frequencies, .inl (cI, 12, .inl m_frequencies)), (a_briefs, .inl (cI, 12, .inl m_briefs))] sz)) 0 0 (va_A [(a_t, .inr (5, [.ref a_first, .ref a_second, .int v_vowels, .int v_wordCount, .ref a_spelling, .ref a_lengths, .ref a_frequencies, .ref a_briefs])), (a_spelling, .inl (cI, 96, .inl m_spelling)), (a_lengths, .inl (cI, 12, .inl m_lengths)), (a_frequencies, .inl (cI, 12, .inl m_frequencies)), (a_briefs, .inl (cI, 12, .inl m_briefs))] sz) := by
  refine g_entry (y := yX5_drop) (av := [.ref a_t, .int x1]) (wi := [(a_t, .inr (5, [.ref a_first, .ref a_second, .int v_vowels, .int v_wordCount, .ref a_spelling, .ref a_lengths, .ref a_frequencies, .ref a_briefs])), (a_spelling, .inl (cI, 96, .inl m_spelling)), (a_lengths, .inl (cI, 12, .inl m_lengths)), (a_frequencies, .inl (cI, 12, .inl m_frequencies)), (a_briefs, .inl (cI, 12, .inl m_briefs))]) (Qc := fun A => va_Qv (fun (_ : Unit) => True) (fun _ => gB D [(a_t, .inr (5, [.ref a_first, .ref a_second, .int v_vowels, .int o.1, .ref a_spelling, .ref a_lengths, .ref a_frequencies, .ref a_briefs])), (a_spelling, .inl (cI, 96, .inl o.2.1)), (a_lengths, .inl (cI, 12, .inl o.2.2.1)), (a_frequencies, .inl (cI, 12, .inl o.2.2.2.1)), (a_briefs, .inl (cI, 12, .inl o.2.2.2.2))] A) A) (cc := cX5_drop) (maxL := 3) (ret := none) (by decide) rfl (Nat.le_of_ble_eq_true rfl) ?_ sz
  intro p e s m below meth c A ls Cx hP hD hS hl
  obtain ⟨hx, hb, hml, hr, hlk, hown, hin, hts, hK, hA⟩ := id Cx
  have hown : s.vm.findClass RX5 = some m.cls := hown
  have hl : lv_has ls 3 [(0, .ref a_t), (1, .int x1)] := hl
  unfold fn_X5_drop at hf
  refine lv_iload_n hx hb dX5_drop_0 rfl (lv_at hl 1 rfl) ?_
  refine lv_iconst (v := 1) hx hb dX5_drop_1 (by decide) ?_
  refine lv_iadd hx hb dX5_drop_2 ?_
  refine lv_istore_n (lv' := [(2, .int (x1 + (1 : Int32))), (0, .ref a_t), (1, .int x1)]) hx hb dX5_drop_3 rfl hl (by decide) rfl (fun ls hl => ?_)
  obtain ⟨u1, hc1, hf⟩ := ob hf
  refine lt_X5_drop_4 Cx a_t a_first a_second v_vowels v_wordCount a_spelling a_lengths a_frequencies a_briefs 1024 (x1 + (1 : Int32)) m_spelling m_lengths m_frequencies m_briefs u1 _ _ _ hc1 hP hD hS (lv_sub hl [1, 0] rfl) (fun H locs ls hP hD hS hl => ?_)
  have hP : va_P D vwCl [(a_t, .inr (5, [.ref a_first, .ref a_second, .int v_vowels, .int v_wordCount, .ref a_spelling, .ref a_lengths, .ref a_frequencies, .ref a_briefs])), (a_spelling, .inl (cI, 96, .inl u1.1)), (a_lengths, .inl (cI, 12, .inl u1.2.1)), (a_frequencies, .inl (cI, 12, .inl u1.2.2.1)), (a_briefs, .inl (cI, 12, .inl u1.2.2.2))] H := hP
  have hD : va_D A [(a_t, .inr (5, [.ref a_first, .ref a_second, .int v_vowels, .int v_wordCount, .ref a_spelling, .ref a_lengths, .ref a_frequencies, .ref a_briefs])), (a_spelling, .inl (cI, 96, .inl u1.1)), (a_lengths, .inl (cI, 12, .inl u1.2.1)), (a_frequencies, .inl (cI, 12, .inl u1.2.2.1)), (a_briefs, .inl (cI, 12, .inl u1.2.2.2))] := hD
  have hl : lv_has ls 3 [(0, .ref a_t)] := hl
  refine lv_aload_n hx hb dX5_drop_23 rfl (lv_at hl 0 rfl) ?_
  refine lv_dup hx hb dX5_drop_24 rfl ?_
  refine va_get (D := D) (ci := 5) (v := .int v_wordCount) (C := RX5) (T := TX5) (N := 8) hx hb hts ly_X5_drop_X5 hown hK.1 hP 0 rfl rfl 3 (by decide) (hts (.fieldLink RX5 22 "ShorthandOutlines$State" "wordCount" "I") wd_X5_drop_0) (fun _ h9 => h9) rfl dX5_drop_25 ?_
  refine lv_iconst (v := 1) hx hb dX5_drop_28 (by decide) ?_
  refine lv_isub hx hb dX5_drop_29 ?_
  refine va_put (D := D) (ci := 5) (v := .int (v_wordCount - (1 : Int32))) (ty := .int) (C := RX5) (T := TX5) (N := 8) hx hb hts ly_X5_drop_X5 tyX5 tyX5_ok nmX5 hown hK.1 hP hD hS 0 rfl rfl 3 (by decide) (hts (.fieldLink RX5 22 "ShorthandOutlines$State" "wordCount" "I") wd_X5_drop_0) (fun _ h9 => h9) rfl (by decide +kernel) rfl rfl (Nat.le_of_ble_eq_true rfl) dX5_drop_30 (fun H locs hP hD hS => ?_)
  have hP : va_P D vwCl [(a_t, .inr (5, [.ref a_first, .ref a_second, .int v_vowels, .int (v_wordCount - (1 : Int32)), .ref a_spelling, .ref a_lengths, .ref a_frequencies, .ref a_briefs])), (a_spelling, .inl (cI, 96, .inl u1.1)), (a_lengths, .inl (cI, 12, .inl u1.2.1)), (a_frequencies, .inl (cI, 12, .inl u1.2.2.1)), (a_briefs, .inl (cI, 12, .inl u1.2.2.2))] H := hP
  have hD : va_D A [(a_t, .inr (5, [.ref a_first, .ref a_second, .int v_vowels, .int (v_wordCount - (1 : Int32)), .ref a_spelling, .ref a_lengths, .ref a_frequencies, .ref a_briefs])), (a_spelling, .inl (cI, 96, .inl u1.1)), (a_lengths, .inl (cI, 12, .inl u1.2.1)), (a_frequencies, .inl (cI, 12, .inl u1.2.2.1)), (a_briefs, .inl (cI, 12, .inl u1.2.2.2))] := hD
  have ho := so hf
  subst ho
  exact g_vret hx hb hr hlk hP hD hS dX5_drop_33
