theorem sg_X7_within : yX7_within.cls = RX7 ∧ yX7_within.cls ≠ "java/lang/invoke/MethodHandle" ∧ yX7_within.cls ≠ "java/lang/invoke/VarHandle" ∧ (parseMethodDescriptor yX7_within.desc).map (fun d => d.parameters.length) = some 3 := by decide +kernel
abbrev rm_X7_within : Room := { frames := 0, cells := 0, slots := 0, locals := 0 }
set_option maxHeartbeats 4000000 in
set_option maxRecDepth 100000 in
theorem kt_X7_within (l : Launch) (D : va_G) (cI cZ cS : ClassId) (x0 : Int32) (x1 : Int32) (x2 : Int32) (o : Int32) (hf : fn_X7_within x0 x1 x2 = some o) (sz : Nat) : Met l yX7_within wsX7_within rm_X7_within (va_Pc [.int x0, .int x1, .int x2] (gPre D cI cZ cS [] sz)) (va_Qi (fun r (_ : Unit) => r = o) (fun _ => gB D [] (va_A [] sz)) (va_A [] sz)) 0 0 (va_A [] sz) := by
  refine g_entry (Qc := fun A => va_Qi (fun r (_ : Unit) => r = o) (fun _ => gB D [] A) A) (cc := cX7_within) (maxL := 3) (ret := (some .boolean)) (by decide) rfl (Nat.le_of_ble_eq_true rfl) ?_ sz
  intro p e s m below meth c A ls Cx hP hD hS hl
  obtain ⟨hx, hb, hml, hr, hlk, hown, hin, hts, hK, hA⟩ := id Cx
  have hown : s.vm.findClass RX7 = some m.cls := hown
  have hl : lv_has ls 3 [(0, .int x0), (1, .int x1), (2, .int x2)] := hl
  unfold fn_X7_within at hf
  refine lv_iload_n hx hb dX7_within_0 rfl (lv_at hl 0 rfl) ?_
  refine lv_iload_n hx hb dX7_within_1 rfl (lv_at hl 1 rfl) ?_
  refine lv_icmp_lt (tgt := 14) hx hb dX7_within_2 (by decide) (fun hb1 => ?_) (fun hb1 => ?_)
  · replace hf := if_t hb1 hf
    refine lv_iconst (v := 0) hx hb dX7_within_14 (by decide) ?_
    have ho := so hf
    subst ho
    exact g_zret hx hb hr hlk rfl hP hD hS dX7_within_15
  · replace hf := if_f hb1 hf
    refine lv_iload_n hx hb dX7_within_5 rfl (lv_at hl 0 rfl) ?_
    refine lv_iload_n hx hb dX7_within_6 rfl (lv_at hl 2 rfl) ?_
    refine lv_icmp_gt (tgt := 14) hx hb dX7_within_7 (by decide) (fun hb2 => ?_) (fun hb2 => ?_)
    · replace hf := if_t hb2 hf
      refine lv_iconst (v := 0) hx hb dX7_within_14 (by decide) ?_
      have ho := so hf
      subst ho
      exact g_zret hx hb hr hlk rfl hP hD hS dX7_within_15
    · replace hf := if_f hb2 hf
      refine lv_iconst (v := 1) hx hb dX7_within_10 (by decide) ?_
      refine lv_goto (tgt := 15) hx hb dX7_within_11 (by decide) ?_
      have ho := so hf
      subst ho
      exact g_zret hx hb hr hlk rfl hP hD hS dX7_within_15

theorem sg_X7_fails : yX7_fails.cls = RX7 ∧ yX7_fails.cls ≠ "java/lang/invoke/MethodHandle" ∧ yX7_fails.cls ≠ "java/lang/invoke/VarHandle" ∧ (parseMethodDescriptor yX7_fails.desc).map (fun d => d.parameters.length) = some 1 := by decide +kernel
abbrev rm_X7_fails : Room := { frames := 0, cells := 0, slots := 0, locals := 0 }
theorem wd_X7_fails_0 : (.fieldLink RX7 16 "ShorthandOutlinesModel" "errors" "[I" : Cond) ∈ wsX7_fails := by decide +kernel
theorem ly_X7_fails_X7 : ∀ w ∈ u_ws RX7 TX7 16, w ∈ wsX7_fails := by decide +kernel
set_option maxHeartbeats 4000000 in
set_option maxRecDepth 100000 in
theorem kt_X7_fails (l : Launch) (D : va_G) (cI cZ cS : ClassId) (a_t : Nat) (a_errors : Nat) (a_now : Nat) (a_past : Nat) (a_text : Nat) (a_pad : Nat) (a_sounds : Nat) (a_proposed : Nat) (a_given : Nat) (a_readings : Nat) (v_saved : Int32) (v_textLength : Int32) (v_padLength : Int32) (v_soundMany : Int32) (v_proposals : Int32) (v_readingMany : Int32) (v_hash : Int64) (m_errors : Nat → Int32) (x1 : Int32) (o : Int32 × (Nat → Int32)) (hf : fn_X7_fails m_errors x1 = some o) (sz : Nat) : Met l yX7_fails wsX7_fails rm_X7_fails (va_Pc [.ref a_t, .int x1] (gPre D cI cZ cS [(a_t, .inr (7, [.ref a_now, .ref a_past, .int v_saved, .ref a_errors, .ref a_text, .int v_textLength, .ref a_pad, .int v_padLength, .ref a_sounds, .int v_soundMany, .ref a_proposed, .ref a_given, .int v_proposals, .ref a_readings, .int v_readingMany, .long v_hash])), (a_errors, .inl (cI, 4, .inl m_errors))] sz)) (va_Qi (fun r (_ : Unit) => r = o.1) (fun _ => gB D [(a_t, .inr (7, [.ref a_now, .ref a_past, .int v_saved, .ref a_errors, .ref a_text, .int v_textLength, .ref a_pad, .int v_padLength, .ref a_sounds, .int v_soundMany, .ref a_proposed, .ref a_given, .int v_proposals, .ref a_readings, .int v_readingMany, .long v_hash])), (a_errors, .inl (cI, 4, .inl o.2))] (va_A [(a_t, .inr (7, [.ref a_now, .ref a_past, .int v_saved, .ref a_errors, .ref a_text, .int v_textLength, .ref a_pad, .int v_padLength, .ref a_sounds, .int v_soundMany, .ref a_proposed, .ref a_given, .int v_proposals, .ref a_readings, .int v_readingMany, .long v_hash])), (a_errors, .inl (cI, 4, .inl m_errors))] sz)) (va_A [(a_t, .inr (7, [.ref a_now, .ref a_past, .int v_saved, .ref a_errors, .ref a_text, .int v_textLength, .ref a_pad, .int v_padLength, .ref a_sounds, .int v_soundMany, .ref a_proposed, .ref a_given, .int v_proposals, .ref a_readings, .int v_readingMany, .long v_hash])), (a_errors, .inl (cI, 4, .inl m_errors))] sz)) 0 0 (va_A [(a_t, .inr (7, [.ref a_now, .ref a_past, .int v_saved, .ref a_errors, .ref a_text, .int v_textLength, .ref a_pad, .int v_padLength, .ref a_sounds, .int v_soundMany, .ref a_proposed, .ref a_given, .int v_proposals, .ref a_readings, .int v_readingMany, .long v_hash])), (a_errors, .inl (cI, 4, .inl m_errors))] sz) := by
  refine g_entry (Qc := fun A => va_Qi (fun r (_ : Unit) => r = o.1) (fun _ => gB D [(a_t, .inr (7, [.ref a_now, .ref a_past, .int v_saved, .ref a_errors, .ref a_text, .int v_textLength, .ref a_pad, .int v_padLength, .ref a_sounds, .int v_soundMany, .ref a_proposed, .ref a_given, .int v_proposals, .ref a_readings, .int v_readingMany, .long v_hash])), (a_errors, .inl (cI, 4, .inl o.2))] A) A) (cc := cX7_fails) (maxL := 2) (ret := (some .int)) (by decide) rfl (Nat.le_of_ble_eq_true rfl) ?_ sz
  intro p e s m below meth c A ls Cx hP hD hS hl
  obtain ⟨hx, hb, hml, hr, hlk, hown, hin, hts, hK, hA⟩ := id Cx
  have hown : s.vm.findClass RX7 = some m.cls := hown
  have hl : lv_has ls 2 [(0, .ref a_t), (1, .int x1)] := hl
  unfold fn_X7_fails at hf
  refine lv_aload_n hx hb dX7_fails_0 rfl (lv_at hl 0 rfl) ?_
  refine va_get (D := D) (ci := 7) (v := .ref a_errors) (C := RX7) (T := TX7) (N := 16) hx hb hts ly_X7_fails_X7 hown hK.1 hP 0 rfl rfl 3 (by decide) (hts (.fieldLink RX7 16 "ShorthandOutlinesModel" "errors" "[I") wd_X7_fails_0) (fun _ h9 => h9) rfl dX7_fails_1 ?_
  refine lv_bipush (v := -2) hx hb dX7_fails_4 (by decide) ?_
  refine lv_iload_n hx hb dX7_fails_6 rfl (lv_at hl 1 rfl) ?_
  refine lv_isub hx hb dX7_fails_7 ?_
  refine lv_dup2_11 hx hb dX7_fails_8 rfl rfl ?_
  have hi1 := gd_1 hf
  replace hf := gd_2 hf
  refine va_iald hx hb hK.1 hP 1 0 rfl rfl (inb_in hi1) dX7_fails_9 ?_
  refine lv_iconst (v := 1) hx hb dX7_fails_10 (by decide) ?_
  refine lv_iadd hx hb dX7_fails_11 ?_
  have hi2 := gd_1 hf
  replace hf := gd_2 hf
  refine va_iast hx hb hK.1 hP hD hS 1 0 rfl rfl (inb_in hi2) dX7_fails_12 (fun H locs hP hD hS => ?_)
  have hP : va_P D vwCl [(a_t, .inr (7, [.ref a_now, .ref a_past, .int v_saved, .ref a_errors, .ref a_text, .int v_textLength, .ref a_pad, .int v_padLength, .ref a_sounds, .int v_soundMany, .ref a_proposed, .ref a_given, .int v_proposals, .ref a_readings, .int v_readingMany, .long v_hash])), (a_errors, .inl (cI, 4, .inl (upd m_errors ((-2 : Int32) - x1).toNatClampNeg ((m_errors ((-2 : Int32) - x1).toNatClampNeg) + (1 : Int32)))))] H := hP
  have hD : va_D A [(a_t, .inr (7, [.ref a_now, .ref a_past, .int v_saved, .ref a_errors, .ref a_text, .int v_textLength, .ref a_pad, .int v_padLength, .ref a_sounds, .int v_soundMany, .ref a_proposed, .ref a_given, .int v_proposals, .ref a_readings, .int v_readingMany, .long v_hash])), (a_errors, .inl (cI, 4, .inl (upd m_errors ((-2 : Int32) - x1).toNatClampNeg ((m_errors ((-2 : Int32) - x1).toNatClampNeg) + (1 : Int32)))))] := hD
  refine lv_iload_n hx hb dX7_fails_13 rfl (lv_at hl 1 rfl) ?_
  have ho := so hf
  subst ho
  exact g_iret hx hb hr hlk hP hD hS dX7_fails_14

theorem sg_X7_isCode : yX7_isCode.cls = RX7 ∧ yX7_isCode.cls ≠ "java/lang/invoke/MethodHandle" ∧ yX7_isCode.cls ≠ "java/lang/invoke/VarHandle" ∧ (parseMethodDescriptor yX7_isCode.desc).map (fun d => d.parameters.length) = some 1 := by decide +kernel
abbrev rm_X7_isCode : Room := { frames := 1, cells := 0, slots := 0, locals := 22 }
set_option maxHeartbeats 4000000 in
set_option maxRecDepth 100000 in
theorem kt_X7_isCode (l : Launch) (D : va_G) (cI cZ cS : ClassId) (x0 : Int32) (o : Int32) (hf : fn_X7_isCode x0 = some o) (sz : Nat) : Met l yX7_isCode wsX7_isCode rm_X7_isCode (va_Pc [.int x0] (gPre D cI cZ cS [] sz)) (va_Qi (fun r (_ : Unit) => r = o) (fun _ => gB D [] (va_A [] sz)) (va_A [] sz)) 0 0 (va_A [] sz) := by
  refine g_entry (Qc := fun A => va_Qi (fun r (_ : Unit) => r = o) (fun _ => gB D [] A) A) (cc := cX7_isCode) (maxL := 1) (ret := (some .boolean)) (by decide) rfl (Nat.le_of_ble_eq_true rfl) ?_ sz
  intro p e s m below meth c A ls Cx hP hD hS hl
  obtain ⟨hx, hb, hml, hr, hlk, hown, hin, hts, hK, hA⟩ := id Cx
  have hown : s.vm.findClass RX7 = some m.cls := hown
  have hl : lv_has ls 1 [(0, .int x0)] := hl
  unfold fn_X7_isCode at hf
  refine lv_iload_n hx hb dX7_isCode_0 rfl (lv_at hl 0 rfl) ?_
  refine lv_iconst (v := 0) hx hb dX7_isCode_1 (by decide) ?_
  refine lv_bipush (v := 23) hx hb dX7_isCode_2 (by decide) ?_
  obtain ⟨u1, hc1, hf⟩ := ob hf
  refine g_ki (wc := []) (wc' := []) (wr := []) (va_runS (As := [.int x0, .int (0 : Int32), .int (23 : Int32)]) (rest := []) ⟨hx, hb, hml, hown, hts⟩ (kt_X7_within l D cI cZ cS x0 (0 : Int32) (23 : Int32) u1 hc1 _) (va_cwS 3 hts gX7_isCode_X7_within rfl rfl rfl sg_X7_within.2 ⟨(Nat.le_of_ble_eq_true rfl), (Nat.le_of_ble_eq_true rfl)⟩) (g_ps hK hP hD [] rfl (by decide)) rfl rfl hl.1 rfl (lv_room (Nat.le_of_ble_eq_true rfl)) dX7_isCode_4 ⟨Nat.zero_le _, Nat.zero_le _⟩) hP hD hS hA [] [] rfl rfl (by decide) (by decide) (fun H locs hP hD hS => ?_)
  have hP : va_P D vwCl [] H := hP
  have hD : va_D A [] := hD
  have hz2 := gd_1 hf
  replace hf := gd_2 hf
  have ho := so hf
  subst ho
  exact g_zret hx hb hr hlk (bo_nar hz2) hP hD hS dX7_isCode_7

theorem sg_X7_isWord : yX7_isWord.cls = RX7 ∧ yX7_isWord.cls ≠ "java/lang/invoke/MethodHandle" ∧ yX7_isWord.cls ≠ "java/lang/invoke/VarHandle" ∧ (parseMethodDescriptor yX7_isWord.desc).map (fun d => d.parameters.length) = some 1 := by decide +kernel
abbrev rm_X7_isWord : Room := { frames := 1, cells := 0, slots := 0, locals := 22 }
theorem wd_X7_isWord_0 : (.fieldLink RX7 7 "ShorthandOutlinesModel" "now" "[I" : Cond) ∈ wsX7_isWord := by decide +kernel
theorem ly_X7_isWord_X7 : ∀ w ∈ u_ws RX7 TX7 16, w ∈ wsX7_isWord := by decide +kernel
set_option maxHeartbeats 4000000 in
set_option maxRecDepth 100000 in
theorem kt_X7_isWord (l : Launch) (D : va_G) (cI cZ cS : ClassId) (a_t : Nat) (a_now : Nat) (a_past : Nat) (a_errors : Nat) (a_text : Nat) (a_pad : Nat) (a_sounds : Nat) (a_proposed : Nat) (a_given : Nat) (a_readings : Nat) (v_saved : Int32) (v_textLength : Int32) (v_padLength : Int32) (v_soundMany : Int32) (v_proposals : Int32) (v_readingMany : Int32) (v_hash : Int64) (m_now : Nat → Int32) (x1 : Int32) (o : Int32) (hf : fn_X7_isWord m_now x1 = some o) (sz : Nat) : Met l yX7_isWord wsX7_isWord rm_X7_isWord (va_Pc [.ref a_t, .int x1] (gPre D cI cZ cS [(a_t, .inr (7, [.ref a_now, .ref a_past, .int v_saved, .ref a_errors, .ref a_text, .int v_textLength, .ref a_pad, .int v_padLength, .ref a_sounds, .int v_soundMany, .ref a_proposed, .ref a_given, .int v_proposals, .ref a_readings, .int v_readingMany, .long v_hash])), (a_now, .inl (cI, 150, .inl m_now))] sz)) (va_Qi (fun r (_ : Unit) => r = o) (fun _ => gB D [(a_t, .inr (7, [.ref a_now, .ref a_past, .int v_saved, .ref a_errors, .ref a_text, .int v_textLength, .ref a_pad, .int v_padLength, .ref a_sounds, .int v_soundMany, .ref a_proposed, .ref a_given, .int v_proposals, .ref a_readings, .int v_readingMany, .long v_hash])), (a_now, .inl (cI, 150, .inl m_now))] (va_A [(a_t, .inr (7, [.ref a_now, .ref a_past, .int v_saved, .ref a_errors, .ref a_text, .int v_textLength, .ref a_pad, .int v_padLength, .ref a_sounds, .int v_soundMany, .ref a_proposed, .ref a_given, .int v_proposals, .ref a_readings, .int v_readingMany, .long v_hash])), (a_now, .inl (cI, 150, .inl m_now))] sz)) (va_A [(a_t, .inr (7, [.ref a_now, .ref a_past, .int v_saved, .ref a_errors, .ref a_text, .int v_textLength, .ref a_pad, .int v_padLength, .ref a_sounds, .int v_soundMany, .ref a_proposed, .ref a_given, .int v_proposals, .ref a_readings, .int v_readingMany, .long v_hash])), (a_now, .inl (cI, 150, .inl m_now))] sz)) 0 0 (va_A [(a_t, .inr (7, [.ref a_now, .ref a_past, .int v_saved, .ref a_errors, .ref a_text, .int v_textLength, .ref a_pad, .int v_padLength, .ref a_sounds, .int v_soundMany, .ref a_proposed, .ref a_given, .int v_proposals, .ref a_readings, .int v_readingMany, .long v_hash])), (a_now, .inl (cI, 150, .inl m_now))] sz) := by
  refine g_entry (Qc := fun A => va_Qi (fun r (_ : Unit) => r = o) (fun _ => gB D [(a_t, .inr (7, [.ref a_now, .ref a_past, .int v_saved, .ref a_errors, .ref a_text, .int v_textLength, .ref a_pad, .int v_padLength, .ref a_sounds, .int v_soundMany, .ref a_proposed, .ref a_given, .int v_proposals, .ref a_readings, .int v_readingMany, .long v_hash])), (a_now, .inl (cI, 150, .inl m_now))] A) A) (cc := cX7_isWord) (maxL := 2) (ret := (some .boolean)) (by decide) rfl (Nat.le_of_ble_eq_true rfl) ?_ sz
  intro p e s m below meth c A ls Cx hP hD hS hl
  obtain ⟨hx, hb, hml, hr, hlk, hown, hin, hts, hK, hA⟩ := id Cx
  have hown : s.vm.findClass RX7 = some m.cls := hown
  have hl : lv_has ls 2 [(0, .ref a_t), (1, .int x1)] := hl
  unfold fn_X7_isWord at hf
  refine lv_iload_n hx hb dX7_isWord_0 rfl (lv_at hl 1 rfl) ?_
  refine lv_iconst (v := 0) hx hb dX7_isWord_1 (by decide) ?_
  refine lv_aload_n hx hb dX7_isWord_2 rfl (lv_at hl 0 rfl) ?_
  refine va_get (D := D) (ci := 7) (v := .ref a_now) (C := RX7) (T := TX7) (N := 16) hx hb hts ly_X7_isWord_X7 hown hK.1 hP 0 rfl rfl 0 (by decide) (hts (.fieldLink RX7 7 "ShorthandOutlinesModel" "now" "[I") wd_X7_isWord_0) (fun _ h9 => h9) rfl dX7_isWord_3 ?_
  refine lv_bipush (v := 17) hx hb dX7_isWord_6 (by decide) ?_
  refine va_iald hx hb hK.1 hP 1 0 rfl rfl (by unfold vp_in; decide) dX7_isWord_8 ?_
  refine lv_iconst (v := 1) hx hb dX7_isWord_9 (by decide) ?_
  refine lv_isub hx hb dX7_isWord_10 ?_
  obtain ⟨u1, hc1, hf⟩ := ob hf
  refine g_ki (wc := []) (wc' := []) (wr := [(a_t, .inr (7, [.ref a_now, .ref a_past, .int v_saved, .ref a_errors, .ref a_text, .int v_textLength, .ref a_pad, .int v_padLength, .ref a_sounds, .int v_soundMany, .ref a_proposed, .ref a_given, .int v_proposals, .ref a_readings, .int v_readingMany, .long v_hash])), (a_now, .inl (cI, 150, .inl m_now))]) (va_runS (As := [.int x1, .int (0 : Int32), .int ((m_now (17 : Int32).toNatClampNeg) - (1 : Int32))]) (rest := []) ⟨hx, hb, hml, hown, hts⟩ (kt_X7_within l D cI cZ cS x1 (0 : Int32) ((m_now (17 : Int32).toNatClampNeg) - (1 : Int32)) u1 hc1 _) (va_cwS 3 hts gX7_isWord_X7_within rfl rfl rfl sg_X7_within.2 ⟨(Nat.le_of_ble_eq_true rfl), (Nat.le_of_ble_eq_true rfl)⟩) (g_ps hK hP hD [] rfl (by decide)) rfl rfl hl.1 rfl (lv_room (Nat.le_of_ble_eq_true rfl)) dX7_isWord_11 ⟨Nat.zero_le _, Nat.zero_le _⟩) hP hD hS hA [] [0, 1] rfl rfl (by decide) (by decide) (fun H locs hP hD hS => ?_)
  have hP : va_P D vwCl [(a_t, .inr (7, [.ref a_now, .ref a_past, .int v_saved, .ref a_errors, .ref a_text, .int v_textLength, .ref a_pad, .int v_padLength, .ref a_sounds, .int v_soundMany, .ref a_proposed, .ref a_given, .int v_proposals, .ref a_readings, .int v_readingMany, .long v_hash])), (a_now, .inl (cI, 150, .inl m_now))] H := hP
  have hD : va_D A [(a_t, .inr (7, [.ref a_now, .ref a_past, .int v_saved, .ref a_errors, .ref a_text, .int v_textLength, .ref a_pad, .int v_padLength, .ref a_sounds, .int v_soundMany, .ref a_proposed, .ref a_given, .int v_proposals, .ref a_readings, .int v_readingMany, .long v_hash])), (a_now, .inl (cI, 150, .inl m_now))] := hD
  have hz2 := gd_1 hf
  replace hf := gd_2 hf
  have ho := so hf
  subst ho
  exact g_zret hx hb hr hlk (bo_nar hz2) hP hD hS dX7_isWord_14

theorem sg_X7_saves : yX7_saves.cls = RX7 ∧ yX7_saves.cls ≠ "java/lang/invoke/MethodHandle" ∧ yX7_saves.cls ≠ "java/lang/invoke/VarHandle" ∧ (parseMethodDescriptor yX7_saves.desc).map (fun d => d.parameters.length) = some 0 := by decide +kernel
abbrev rm_X7_saves : Room := { frames := 0, cells := 0, slots := 0, locals := 0 }
theorem wd_X7_saves_0 : (.fieldLink RX7 41 "ShorthandOutlinesModel" "saved" "I" : Cond) ∈ wsX7_saves := by decide +kernel
theorem wd_X7_saves_1 : (.fieldLink RX7 13 "ShorthandOutlinesModel" "past" "[I" : Cond) ∈ wsX7_saves := by decide +kernel
theorem wd_X7_saves_2 : (.fieldLink RX7 7 "ShorthandOutlinesModel" "now" "[I" : Cond) ∈ wsX7_saves := by decide +kernel
theorem ly_X7_saves_X7 : ∀ w ∈ u_ws RX7 TX7 16, w ∈ wsX7_saves := by decide +kernel
set_option maxHeartbeats 4000000 in
set_option maxRecDepth 100000 in
theorem lt_X7_saves_51 {p : Program} {l : Launch} {e : Env} {s : State} {m : MethodId} {args : Array Value} {below : List Frame} {meth : Method} {c : Code} {D : va_G} {cI cZ cS : ClassId} {A : Nat → Prop} {Q : State → Prop} (Cx : gCx p s m meth c args cX7_saves 2 none yX7_saves wsX7_saves D cI cZ cS A) (a_t : Nat) (a_now : Nat) (a_past : Nat) (v_saved : Int32) (a_errors : Nat) (a_text : Nat) (v_textLength : Int32) (a_pad : Nat) (v_padLength : Int32) (a_sounds : Nat) (v_soundMany : Int32) (a_proposed : Nat) (a_given : Nat) (v_proposals : Int32) (a_readings : Nat) (v_readingMany : Int32) (v_hash : Int64) (m_now : Nat → Int32) : ∀ (n : Nat) (y1 : Int32) (m_past : Nat → Int32) (o : (Nat → Int32)) (H : Heap) (locs : List Loc) (ls : Array Slot), lp_X7_saves_51 v_saved m_now n y1 m_past = some o → va_P D vwCl [(a_t, .inr (7, [.ref a_now, .ref a_past, .int v_saved, .ref a_errors, .ref a_text, .int v_textLength, .ref a_pad, .int v_padLength, .ref a_sounds, .int v_soundMany, .ref a_proposed, .ref a_given, .int v_proposals, .ref a_readings, .int v_readingMany, .long v_hash])), (a_now, .inl (cI, 150, .inl m_now)), (a_past, .inl (cI, 750, .inl m_past))] H → va_D A [(a_t, .inr (7, [.ref a_now, .ref a_past, .int v_saved, .ref a_errors, .ref a_text, .int v_textLength, .ref a_pad, .int v_padLength, .ref a_sounds, .int v_soundMany, .ref a_proposed, .ref a_given, .int v_proposals, .ref a_readings, .int v_readingMany, .long v_hash])), (a_now, .inl (cI, 150, .inl m_now)), (a_past, .inl (cI, 750, .inl m_past))] → va_S A s.heap H locs → lv_has ls 2 [(0, .ref a_t), (1, .int y1)] → (∀ (H : Heap) (locs : List Loc) (ls : Array Slot), va_P D vwCl [(a_t, .inr (7, [.ref a_now, .ref a_past, .int v_saved, .ref a_errors, .ref a_text, .int v_textLength, .ref a_pad, .int v_padLength, .ref a_sounds, .int v_soundMany, .ref a_proposed, .ref a_given, .int v_proposals, .ref a_readings, .int v_readingMany, .long v_hash])), (a_now, .inl (cI, 150, .inl m_now)), (a_past, .inl (cI, 750, .inl o))] H → va_D A [(a_t, .inr (7, [.ref a_now, .ref a_past, .int v_saved, .ref a_errors, .ref a_text, .int v_textLength, .ref a_pad, .int v_padLength, .ref a_sounds, .int v_soundMany, .ref a_proposed, .ref a_given, .int v_proposals, .ref a_readings, .int v_readingMany, .long v_hash])), (a_now, .inl (cI, 150, .inl m_now)), (a_past, .inl (cI, 750, .inl o))] → va_S A s.heap H locs → lv_has ls 2 [(0, .ref a_t)] → W p l e rm_X7_saves s m args below meth c H locs 0 0 Q (F0 m 85 ls [])) → W p l e rm_X7_saves s m args below meth c H locs 0 0 Q (F0 m 51 ls []) := by
  obtain ⟨hx, hb, hml, hr, hlk, hown, hin, hts, hK, hA⟩ := id Cx
  have hown : s.vm.findClass RX7 = some m.cls := hown
  intro n
  induction n with
  | zero =>
    intro y1 m_past o H locs ls hf
    rw [lp_X7_saves_51] at hf
    cases hf
  | succ n ih =>
    intro y1 m_past o H locs ls hf hP hD hS hl kk
    rw [lp_X7_saves_51] at hf
    refine lv_iload_n hx hb dX7_saves_51 rfl (lv_at hl 1 rfl) ?_
    refine lv_sipush (v := 150) hx hb dX7_saves_52 (by decide) ?_
    refine lv_icmp_ge (tgt := 85) hx hb dX7_saves_55 (by decide) (fun hb1 => ?_) (fun hb1 => ?_)
    · replace hf := if_t hb1 hf
      have ho := so hf
      subst ho
      exact kk _ _ _ hP hD hS (lv_sub hl [0] rfl)
    · replace hf := if_f hb1 hf
      refine lv_aload_n hx hb dX7_saves_58 rfl (lv_at hl 0 rfl) ?_
      refine va_get (D := D) (ci := 7) (v := .ref a_past) (C := RX7) (T := TX7) (N := 16) hx hb hts ly_X7_saves_X7 hown hK.1 hP 0 rfl rfl 1 (by decide) (hts (.fieldLink RX7 13 "ShorthandOutlinesModel" "past" "[I") wd_X7_saves_1) (fun _ h9 => h9) rfl dX7_saves_59 ?_
      refine lv_sipush (v := 150) hx hb dX7_saves_62 (by decide) ?_
      refine lv_aload_n hx hb dX7_saves_65 rfl (lv_at hl 0 rfl) ?_
      refine va_get (D := D) (ci := 7) (v := .int v_saved) (C := RX7) (T := TX7) (N := 16) hx hb hts ly_X7_saves_X7 hown hK.1 hP 0 rfl rfl 2 (by decide) (hts (.fieldLink RX7 41 "ShorthandOutlinesModel" "saved" "I") wd_X7_saves_0) (fun _ h9 => h9) rfl dX7_saves_66 ?_
      refine lv_imul hx hb dX7_saves_69 ?_
      refine lv_iload_n hx hb dX7_saves_70 rfl (lv_at hl 1 rfl) ?_
      refine lv_iadd hx hb dX7_saves_71 ?_
      refine lv_aload_n hx hb dX7_saves_72 rfl (lv_at hl 0 rfl) ?_
      refine va_get (D := D) (ci := 7) (v := .ref a_now) (C := RX7) (T := TX7) (N := 16) hx hb hts ly_X7_saves_X7 hown hK.1 hP 0 rfl rfl 0 (by decide) (hts (.fieldLink RX7 7 "ShorthandOutlinesModel" "now" "[I") wd_X7_saves_2) (fun _ h9 => h9) rfl dX7_saves_73 ?_
      refine lv_iload_n hx hb dX7_saves_76 rfl (lv_at hl 1 rfl) ?_
      have hi2 := gd_1 hf
      replace hf := gd_2 hf
      refine va_iald hx hb hK.1 hP 1 0 rfl rfl (inb_in hi2) dX7_saves_77 ?_
      have hi3 := gd_1 hf
      replace hf := gd_2 hf
      refine va_iast hx hb hK.1 hP hD hS 2 0 rfl rfl (inb_in hi3) dX7_saves_78 (fun H locs hP hD hS => ?_)
      have hP : va_P D vwCl [(a_t, .inr (7, [.ref a_now, .ref a_past, .int v_saved, .ref a_errors, .ref a_text, .int v_textLength, .ref a_pad, .int v_padLength, .ref a_sounds, .int v_soundMany, .ref a_proposed, .ref a_given, .int v_proposals, .ref a_readings, .int v_readingMany, .long v_hash])), (a_now, .inl (cI, 150, .inl m_now)), (a_past, .inl (cI, 750, .inl (upd m_past (((150 : Int32) * v_saved) + y1).toNatClampNeg (m_now y1.toNatClampNeg))))] H := hP
      have hD : va_D A [(a_t, .inr (7, [.ref a_now, .ref a_past, .int v_saved, .ref a_errors, .ref a_text, .int v_textLength, .ref a_pad, .int v_padLength, .ref a_sounds, .int v_soundMany, .ref a_proposed, .ref a_given, .int v_proposals, .ref a_readings, .int v_readingMany, .long v_hash])), (a_now, .inl (cI, 150, .inl m_now)), (a_past, .inl (cI, 750, .inl (upd m_past (((150 : Int32) * v_saved) + y1).toNatClampNeg (m_now y1.toNatClampNeg))))] := hD
      refine lv_iinc (v := (y1 + 1)) (lv' := [(1, .int (y1 + 1)), (0, .ref a_t)]) hx hb dX7_saves_79 hl (k := 1) rfl rfl (by decide) rfl (fun ls hl => ?_)
      refine lv_goto (tgt := 51) hx hb dX7_saves_82 (by decide) ?_
      exact ih (y1 + 1) (upd m_past (((150 : Int32) * v_saved) + y1).toNatClampNeg (m_now y1.toNatClampNeg)) o _ _ _ hf hP hD hS (lv_sub hl [1, 0] rfl) kk
set_option maxHeartbeats 4000000 in
set_option maxRecDepth 100000 in
theorem lt_X7_saves_10 {p : Program} {l : Launch} {e : Env} {s : State} {m : MethodId} {args : Array Value} {below : List Frame} {meth : Method} {c : Code} {D : va_G} {cI cZ cS : ClassId} {A : Nat → Prop} {Q : State → Prop} (Cx : gCx p s m meth c args cX7_saves 2 none yX7_saves wsX7_saves D cI cZ cS A) (a_t : Nat) (a_now : Nat) (a_past : Nat) (v_saved : Int32) (a_errors : Nat) (a_text : Nat) (v_textLength : Int32) (a_pad : Nat) (v_padLength : Int32) (a_sounds : Nat) (v_soundMany : Int32) (a_proposed : Nat) (a_given : Nat) (v_proposals : Int32) (a_readings : Nat) (v_readingMany : Int32) (v_hash : Int64) (m_now : Nat → Int32) : ∀ (n : Nat) (y1 : Int32) (m_past : Nat → Int32) (o : (Nat → Int32)) (H : Heap) (locs : List Loc) (ls : Array Slot), lp_X7_saves_10 n y1 m_past = some o → va_P D vwCl [(a_t, .inr (7, [.ref a_now, .ref a_past, .int v_saved, .ref a_errors, .ref a_text, .int v_textLength, .ref a_pad, .int v_padLength, .ref a_sounds, .int v_soundMany, .ref a_proposed, .ref a_given, .int v_proposals, .ref a_readings, .int v_readingMany, .long v_hash])), (a_now, .inl (cI, 150, .inl m_now)), (a_past, .inl (cI, 750, .inl m_past))] H → va_D A [(a_t, .inr (7, [.ref a_now, .ref a_past, .int v_saved, .ref a_errors, .ref a_text, .int v_textLength, .ref a_pad, .int v_padLength, .ref a_sounds, .int v_soundMany, .ref a_proposed, .ref a_given, .int v_proposals, .ref a_readings, .int v_readingMany, .long v_hash])), (a_now, .inl (cI, 150, .inl m_now)), (a_past, .inl (cI, 750, .inl m_past))] → va_S A s.heap H locs → lv_has ls 2 [(0, .ref a_t), (1, .int y1)] → (∀ (H : Heap) (locs : List Loc) (ls : Array Slot), va_P D vwCl [(a_t, .inr (7, [.ref a_now, .ref a_past, .int v_saved, .ref a_errors, .ref a_text, .int v_textLength, .ref a_pad, .int v_padLength, .ref a_sounds, .int v_soundMany, .ref a_proposed, .ref a_given, .int v_proposals, .ref a_readings, .int v_readingMany, .long v_hash])), (a_now, .inl (cI, 150, .inl m_now)), (a_past, .inl (cI, 750, .inl o))] H → va_D A [(a_t, .inr (7, [.ref a_now, .ref a_past, .int v_saved, .ref a_errors, .ref a_text, .int v_textLength, .ref a_pad, .int v_padLength, .ref a_sounds, .int v_soundMany, .ref a_proposed, .ref a_given, .int v_proposals, .ref a_readings, .int v_readingMany, .long v_hash])), (a_now, .inl (cI, 150, .inl m_now)), (a_past, .inl (cI, 750, .inl o))] → va_S A s.heap H locs → lv_has ls 2 [(0, .ref a_t)] → W p l e rm_X7_saves s m args below meth c H locs 0 0 Q (F0 m 39 ls [])) → W p l e rm_X7_saves s m args below meth c H locs 0 0 Q (F0 m 10 ls []) := by
  obtain ⟨hx, hb, hml, hr, hlk, hown, hin, hts, hK, hA⟩ := id Cx
  have hown : s.vm.findClass RX7 = some m.cls := hown
  intro n
  induction n with
  | zero =>
    intro y1 m_past o H locs ls hf
    rw [lp_X7_saves_10] at hf
    cases hf
  | succ n ih =>
    intro y1 m_past o H locs ls hf hP hD hS hl kk
    rw [lp_X7_saves_10] at hf
    refine lv_iload_n hx hb dX7_saves_10 rfl (lv_at hl 1 rfl) ?_
    refine lv_sipush (v := 600) hx hb dX7_saves_11 (by decide) ?_
    refine lv_icmp_ge (tgt := 39) hx hb dX7_saves_14 (by decide) (fun hb1 => ?_) (fun hb1 => ?_)
    · replace hf := if_t hb1 hf
      have ho := so hf
      subst ho
      exact kk _ _ _ hP hD hS (lv_sub hl [0] rfl)
    · replace hf := if_f hb1 hf
      refine lv_aload_n hx hb dX7_saves_17 rfl (lv_at hl 0 rfl) ?_
      refine va_get (D := D) (ci := 7) (v := .ref a_past) (C := RX7) (T := TX7) (N := 16) hx hb hts ly_X7_saves_X7 hown hK.1 hP 0 rfl rfl 1 (by decide) (hts (.fieldLink RX7 13 "ShorthandOutlinesModel" "past" "[I") wd_X7_saves_1) (fun _ h9 => h9) rfl dX7_saves_18 ?_
      refine lv_iload_n hx hb dX7_saves_21 rfl (lv_at hl 1 rfl) ?_
      refine lv_aload_n hx hb dX7_saves_22 rfl (lv_at hl 0 rfl) ?_
      refine va_get (D := D) (ci := 7) (v := .ref a_past) (C := RX7) (T := TX7) (N := 16) hx hb hts ly_X7_saves_X7 hown hK.1 hP 0 rfl rfl 1 (by decide) (hts (.fieldLink RX7 13 "ShorthandOutlinesModel" "past" "[I") wd_X7_saves_1) (fun _ h9 => h9) rfl dX7_saves_23 ?_
      refine lv_iload_n hx hb dX7_saves_26 rfl (lv_at hl 1 rfl) ?_
      refine lv_sipush (v := 150) hx hb dX7_saves_27 (by decide) ?_
      refine lv_iadd hx hb dX7_saves_30 ?_
      have hi2 := gd_1 hf
      replace hf := gd_2 hf
      refine va_iald hx hb hK.1 hP 2 0 rfl rfl (inb_in hi2) dX7_saves_31 ?_
      have hi3 := gd_1 hf
      replace hf := gd_2 hf
      refine va_iast hx hb hK.1 hP hD hS 2 0 rfl rfl (inb_in hi3) dX7_saves_32 (fun H locs hP hD hS => ?_)
      have hP : va_P D vwCl [(a_t, .inr (7, [.ref a_now, .ref a_past, .int v_saved, .ref a_errors, .ref a_text, .int v_textLength, .ref a_pad, .int v_padLength, .ref a_sounds, .int v_soundMany, .ref a_proposed, .ref a_given, .int v_proposals, .ref a_readings, .int v_readingMany, .long v_hash])), (a_now, .inl (cI, 150, .inl m_now)), (a_past, .inl (cI, 750, .inl (upd m_past y1.toNatClampNeg (m_past (y1 + (150 : Int32)).toNatClampNeg))))] H := hP
      have hD : va_D A [(a_t, .inr (7, [.ref a_now, .ref a_past, .int v_saved, .ref a_errors, .ref a_text, .int v_textLength, .ref a_pad, .int v_padLength, .ref a_sounds, .int v_soundMany, .ref a_proposed, .ref a_given, .int v_proposals, .ref a_readings, .int v_readingMany, .long v_hash])), (a_now, .inl (cI, 150, .inl m_now)), (a_past, .inl (cI, 750, .inl (upd m_past y1.toNatClampNeg (m_past (y1 + (150 : Int32)).toNatClampNeg))))] := hD
      refine lv_iinc (v := (y1 + 1)) (lv' := [(1, .int (y1 + 1)), (0, .ref a_t)]) hx hb dX7_saves_33 hl (k := 1) rfl rfl (by decide) rfl (fun ls hl => ?_)
      refine lv_goto (tgt := 10) hx hb dX7_saves_36 (by decide) ?_
      exact ih (y1 + 1) (upd m_past y1.toNatClampNeg (m_past (y1 + (150 : Int32)).toNatClampNeg)) o _ _ _ hf hP hD hS (lv_sub hl [1, 0] rfl) kk
set_option maxHeartbeats 4000000 in
set_option maxRecDepth 100000 in
theorem kt_X7_saves (l : Launch) (D : va_G) (cI cZ cS : ClassId) (a_t : Nat) (a_now : Nat) (a_past : Nat) (a_errors : Nat) (a_text : Nat) (a_pad : Nat) (a_sounds : Nat) (a_proposed : Nat) (a_given : Nat) (a_readings : Nat) (v_textLength : Int32) (v_padLength : Int32) (v_soundMany : Int32) (v_proposals : Int32) (v_readingMany : Int32) (v_hash : Int64) (v_saved : Int32) (m_now : Nat → Int32) (m_past : Nat → Int32) (o : Int32 × (Nat → Int32)) (hf : fn_X7_saves v_saved m_now m_past = some o) (sz : Nat) : Met l yX7_saves wsX7_saves rm_X7_saves (va_Pc [.ref a_t] (gPre D cI cZ cS [(a_t, .inr (7, [.ref a_now, .ref a_past, .int v_saved, .ref a_errors, .ref a_text, .int v_textLength, .ref a_pad, .int v_padLength, .ref a_sounds, .int v_soundMany, .ref a_proposed, .ref a_given, .int v_proposals, .ref a_readings, .int v_readingMany, .long v_hash])), (a_now, .inl (cI, 150, .inl m_now)), (a_past, .inl (cI, 750, .inl m_past))] sz)) (va_Qv (fun (_ : Unit) => True) (fun _ => gB D [(a_t, .inr (7, [.ref a_now, .ref a_past, .int o.1, .ref a_errors, .ref a_text, .int v_textLength, .ref a_pad, .int v_padLength, .ref a_sounds, .int v_soundMany, .ref a_proposed, .ref a_given, .int v_proposals, .ref a_readings, .int v_readingMany, .long v_hash])), (a_now, .inl (cI, 150, .inl m_now)), (a_past, .inl (cI, 750, .inl o.2))] (va_A [(a_t, .inr (7, [.ref a_now, .ref a_past, .int v_saved, .ref a_errors, .ref a_text, .int v_textLength, .ref a_pad, .int v_padLength, .ref a_sounds, .int v_soundMany, .ref a_proposed, .ref a_given, .int v_proposals, .ref a_readings, .int v_readingMany, .long v_hash])), (a_now, .inl (cI, 150, .inl m_now)), (a_past, .inl (cI, 750, .inl m_past))] sz)) (va_A [(a_t, .inr (7, [.ref a_now, .ref a_past, .int v_saved, .ref a_errors, .ref a_text, .int v_textLength, .ref a_pad, .int v_padLength, .ref a_sounds, .int v_soundMany, .ref a_proposed, .ref a_given, .int v_proposals, .ref a_readings, .int v_readingMany, .long v_hash])), (a_now, .inl (cI, 150, .inl m_now)), (a_past, .inl (cI, 750, .inl m_past))] sz)) 0 0 (va_A [(a_t, .inr (7, [.ref a_now, .ref a_past, .int v_saved, .ref a_errors, .ref a_text, .int v_textLength, .ref a_pad, .int v_padLength, .ref a_sounds, .int v_soundMany, .ref a_proposed, .ref a_given, .int v_proposals, .ref a_readings, .int v_readingMany, .long v_hash])), (a_now, .inl (cI, 150, .inl m_now)), (a_past, .inl (cI, 750, .inl m_past))] sz) := by
  refine g_entry (Qc := fun A => va_Qv (fun (_ : Unit) => True) (fun _ => gB D [(a_t, .inr (7, [.ref a_now, .ref a_past, .int o.1, .ref a_errors, .ref a_text, .int v_textLength, .ref a_pad, .int v_padLength, .ref a_sounds, .int v_soundMany, .ref a_proposed, .ref a_given, .int v_proposals, .ref a_readings, .int v_readingMany, .long v_hash])), (a_now, .inl (cI, 150, .inl m_now)), (a_past, .inl (cI, 750, .inl o.2))] A) A) (cc := cX7_saves) (maxL := 2) (ret := none) (by decide) rfl (Nat.le_of_ble_eq_true rfl) ?_ sz
  intro p e s m below meth c A ls Cx hP hD hS hl
  obtain ⟨hx, hb, hml, hr, hlk, hown, hin, hts, hK, hA⟩ := id Cx
  have hown : s.vm.findClass RX7 = some m.cls := hown
  have hl : lv_has ls 2 [(0, .ref a_t)] := hl
  unfold fn_X7_saves at hf
  refine lv_aload_n hx hb dX7_saves_0 rfl (lv_at hl 0 rfl) ?_
  refine va_get (D := D) (ci := 7) (v := .int v_saved) (C := RX7) (T := TX7) (N := 16) hx hb hts ly_X7_saves_X7 hown hK.1 hP 0 rfl rfl 2 (by decide) (hts (.fieldLink RX7 41 "ShorthandOutlinesModel" "saved" "I") wd_X7_saves_0) (fun _ h9 => h9) rfl dX7_saves_1 ?_
  refine lv_iconst (v := 5) hx hb dX7_saves_4 (by decide) ?_
  refine lv_icmp_ne (tgt := 49) hx hb dX7_saves_5 (by decide) (fun hb1 => ?_) (fun hb1 => ?_)
  · replace hf := if_f hb1 hf
    refine lv_iconst (v := 0) hx hb dX7_saves_49 (by decide) ?_
    refine lv_istore_n (lv' := [(1, .int (0 : Int32)), (0, .ref a_t)]) hx hb dX7_saves_50 rfl hl (by decide) rfl (fun ls hl => ?_)
    obtain ⟨u1, hc2, hf⟩ := ob hf
    refine lt_X7_saves_51 Cx a_t a_now a_past v_saved a_errors a_text v_textLength a_pad v_padLength a_sounds v_soundMany a_proposed a_given v_proposals a_readings v_readingMany v_hash m_now 1024 (0 : Int32) m_past u1 _ _ _ hc2 hP hD hS (lv_sub hl [1, 0] rfl) (fun H locs ls hP hD hS hl => ?_)
    have hP : va_P D vwCl [(a_t, .inr (7, [.ref a_now, .ref a_past, .int v_saved, .ref a_errors, .ref a_text, .int v_textLength, .ref a_pad, .int v_padLength, .ref a_sounds, .int v_soundMany, .ref a_proposed, .ref a_given, .int v_proposals, .ref a_readings, .int v_readingMany, .long v_hash])), (a_now, .inl (cI, 150, .inl m_now)), (a_past, .inl (cI, 750, .inl u1))] H := hP
    have hD : va_D A [(a_t, .inr (7, [.ref a_now, .ref a_past, .int v_saved, .ref a_errors, .ref a_text, .int v_textLength, .ref a_pad, .int v_padLength, .ref a_sounds, .int v_soundMany, .ref a_proposed, .ref a_given, .int v_proposals, .ref a_readings, .int v_readingMany, .long v_hash])), (a_now, .inl (cI, 150, .inl m_now)), (a_past, .inl (cI, 750, .inl u1))] := hD
    have hl : lv_has ls 2 [(0, .ref a_t)] := hl
    refine lv_aload_n hx hb dX7_saves_85 rfl (lv_at hl 0 rfl) ?_
    refine lv_dup hx hb dX7_saves_86 rfl ?_
    refine va_get (D := D) (ci := 7) (v := .int v_saved) (C := RX7) (T := TX7) (N := 16) hx hb hts ly_X7_saves_X7 hown hK.1 hP 0 rfl rfl 2 (by decide) (hts (.fieldLink RX7 41 "ShorthandOutlinesModel" "saved" "I") wd_X7_saves_0) (fun _ h9 => h9) rfl dX7_saves_87 ?_
    refine lv_iconst (v := 1) hx hb dX7_saves_90 (by decide) ?_
    refine lv_iadd hx hb dX7_saves_91 ?_
    refine va_put (D := D) (ci := 7) (v := .int (v_saved + (1 : Int32))) (ty := .int) (C := RX7) (T := TX7) (N := 16) hx hb hts ly_X7_saves_X7 tyX7 tyX7_ok nmX7 hown hK.1 hP hD hS 0 rfl rfl 2 (by decide) (hts (.fieldLink RX7 41 "ShorthandOutlinesModel" "saved" "I") wd_X7_saves_0) (fun _ h9 => h9) rfl (by decide +kernel) rfl rfl (Nat.le_of_ble_eq_true rfl) dX7_saves_92 (fun H locs hP hD hS => ?_)
    have hP : va_P D vwCl [(a_t, .inr (7, [.ref a_now, .ref a_past, .int (v_saved + (1 : Int32)), .ref a_errors, .ref a_text, .int v_textLength, .ref a_pad, .int v_padLength, .ref a_sounds, .int v_soundMany, .ref a_proposed, .ref a_given, .int v_proposals, .ref a_readings, .int v_readingMany, .long v_hash])), (a_now, .inl (cI, 150, .inl m_now)), (a_past, .inl (cI, 750, .inl u1))] H := hP
    have hD : va_D A [(a_t, .inr (7, [.ref a_now, .ref a_past, .int (v_saved + (1 : Int32)), .ref a_errors, .ref a_text, .int v_textLength, .ref a_pad, .int v_padLength, .ref a_sounds, .int v_soundMany, .ref a_proposed, .ref a_given, .int v_proposals, .ref a_readings, .int v_readingMany, .long v_hash])), (a_now, .inl (cI, 150, .inl m_now)), (a_past, .inl (cI, 750, .inl u1))] := hD
    have ho := so hf
    subst ho
    exact g_vret hx hb hr hlk hP hD hS dX7_saves_95
  · replace hf := if_t hb1 hf
    refine lv_iconst (v := 0) hx hb dX7_saves_8 (by decide) ?_
    refine lv_istore_n (lv' := [(1, .int (0 : Int32)), (0, .ref a_t)]) hx hb dX7_saves_9 rfl hl (by decide) rfl (fun ls hl => ?_)
    obtain ⟨u2, hc3, hf⟩ := ob hf
    refine lt_X7_saves_10 Cx a_t a_now a_past v_saved a_errors a_text v_textLength a_pad v_padLength a_sounds v_soundMany a_proposed a_given v_proposals a_readings v_readingMany v_hash m_now 1024 (0 : Int32) m_past u2 _ _ _ hc3 hP hD hS (lv_sub hl [1, 0] rfl) (fun H locs ls hP hD hS hl => ?_)
    have hP : va_P D vwCl [(a_t, .inr (7, [.ref a_now, .ref a_past, .int v_saved, .ref a_errors, .ref a_text, .int v_textLength, .ref a_pad, .int v_padLength, .ref a_sounds, .int v_soundMany, .ref a_proposed, .ref a_given, .int v_proposals, .ref a_readings, .int v_readingMany, .long v_hash])), (a_now, .inl (cI, 150, .inl m_now)), (a_past, .inl (cI, 750, .inl u2))] H := hP
    have hD : va_D A [(a_t, .inr (7, [.ref a_now, .ref a_past, .int v_saved, .ref a_errors, .ref a_text, .int v_textLength, .ref a_pad, .int v_padLength, .ref a_sounds, .int v_soundMany, .ref a_proposed, .ref a_given, .int v_proposals, .ref a_readings, .int v_readingMany, .long v_hash])), (a_now, .inl (cI, 150, .inl m_now)), (a_past, .inl (cI, 750, .inl u2))] := hD
    have hl : lv_has ls 2 [(0, .ref a_t)] := hl
    refine lv_aload_n hx hb dX7_saves_39 rfl (lv_at hl 0 rfl) ?_
    refine lv_dup hx hb dX7_saves_40 rfl ?_
    refine va_get (D := D) (ci := 7) (v := .int v_saved) (C := RX7) (T := TX7) (N := 16) hx hb hts ly_X7_saves_X7 hown hK.1 hP 0 rfl rfl 2 (by decide) (hts (.fieldLink RX7 41 "ShorthandOutlinesModel" "saved" "I") wd_X7_saves_0) (fun _ h9 => h9) rfl dX7_saves_41 ?_
    refine lv_iconst (v := 1) hx hb dX7_saves_44 (by decide) ?_
    refine lv_isub hx hb dX7_saves_45 ?_
    refine va_put (D := D) (ci := 7) (v := .int (v_saved - (1 : Int32))) (ty := .int) (C := RX7) (T := TX7) (N := 16) hx hb hts ly_X7_saves_X7 tyX7 tyX7_ok nmX7 hown hK.1 hP hD hS 0 rfl rfl 2 (by decide) (hts (.fieldLink RX7 41 "ShorthandOutlinesModel" "saved" "I") wd_X7_saves_0) (fun _ h9 => h9) rfl (by decide +kernel) rfl rfl (Nat.le_of_ble_eq_true rfl) dX7_saves_46 (fun H locs hP hD hS => ?_)
    have hP : va_P D vwCl [(a_t, .inr (7, [.ref a_now, .ref a_past, .int (v_saved - (1 : Int32)), .ref a_errors, .ref a_text, .int v_textLength, .ref a_pad, .int v_padLength, .ref a_sounds, .int v_soundMany, .ref a_proposed, .ref a_given, .int v_proposals, .ref a_readings, .int v_readingMany, .long v_hash])), (a_now, .inl (cI, 150, .inl m_now)), (a_past, .inl (cI, 750, .inl u2))] H := hP
    have hD : va_D A [(a_t, .inr (7, [.ref a_now, .ref a_past, .int (v_saved - (1 : Int32)), .ref a_errors, .ref a_text, .int v_textLength, .ref a_pad, .int v_padLength, .ref a_sounds, .int v_soundMany, .ref a_proposed, .ref a_given, .int v_proposals, .ref a_readings, .int v_readingMany, .long v_hash])), (a_now, .inl (cI, 150, .inl m_now)), (a_past, .inl (cI, 750, .inl u2))] := hD
    refine lv_iconst (v := 0) hx hb dX7_saves_49 (by decide) ?_
    refine lv_istore_n (lv' := [(1, .int (0 : Int32)), (0, .ref a_t)]) hx hb dX7_saves_50 rfl hl (by decide) rfl (fun ls hl => ?_)
    obtain ⟨u3, hc4, hf⟩ := ob hf
    refine lt_X7_saves_51 Cx a_t a_now a_past (v_saved - (1 : Int32)) a_errors a_text v_textLength a_pad v_padLength a_sounds v_soundMany a_proposed a_given v_proposals a_readings v_readingMany v_hash m_now 1024 (0 : Int32) u2 u3 _ _ _ hc4 hP hD hS (lv_sub hl [1, 0] rfl) (fun H locs ls hP hD hS hl => ?_)
    have hP : va_P D vwCl [(a_t, .inr (7, [.ref a_now, .ref a_past, .int (v_saved - (1 : Int32)), .ref a_errors, .ref a_text, .int v_textLength, .ref a_pad, .int v_padLength, .ref a_sounds, .int v_soundMany, .ref a_proposed, .ref a_given, .int v_proposals, .ref a_readings, .int v_readingMany, .long v_hash])), (a_now, .inl (cI, 150, .inl m_now)), (a_past, .inl (cI, 750, .inl u3))] H := hP
    have hD : va_D A [(a_t, .inr (7, [.ref a_now, .ref a_past, .int (v_saved - (1 : Int32)), .ref a_errors, .ref a_text, .int v_textLength, .ref a_pad, .int v_padLength, .ref a_sounds, .int v_soundMany, .ref a_proposed, .ref a_given, .int v_proposals, .ref a_readings, .int v_readingMany, .long v_hash])), (a_now, .inl (cI, 150, .inl m_now)), (a_past, .inl (cI, 750, .inl u3))] := hD
    have hl : lv_has ls 2 [(0, .ref a_t)] := hl
    refine lv_aload_n hx hb dX7_saves_85 rfl (lv_at hl 0 rfl) ?_
    refine lv_dup hx hb dX7_saves_86 rfl ?_
    refine va_get (D := D) (ci := 7) (v := .int (v_saved - (1 : Int32))) (C := RX7) (T := TX7) (N := 16) hx hb hts ly_X7_saves_X7 hown hK.1 hP 0 rfl rfl 2 (by decide) (hts (.fieldLink RX7 41 "ShorthandOutlinesModel" "saved" "I") wd_X7_saves_0) (fun _ h9 => h9) rfl dX7_saves_87 ?_
    refine lv_iconst (v := 1) hx hb dX7_saves_90 (by decide) ?_
    refine lv_iadd hx hb dX7_saves_91 ?_
    refine va_put (D := D) (ci := 7) (v := .int ((v_saved - (1 : Int32)) + (1 : Int32))) (ty := .int) (C := RX7) (T := TX7) (N := 16) hx hb hts ly_X7_saves_X7 tyX7 tyX7_ok nmX7 hown hK.1 hP hD hS 0 rfl rfl 2 (by decide) (hts (.fieldLink RX7 41 "ShorthandOutlinesModel" "saved" "I") wd_X7_saves_0) (fun _ h9 => h9) rfl (by decide +kernel) rfl rfl (Nat.le_of_ble_eq_true rfl) dX7_saves_92 (fun H locs hP hD hS => ?_)
    have hP : va_P D vwCl [(a_t, .inr (7, [.ref a_now, .ref a_past, .int ((v_saved - (1 : Int32)) + (1 : Int32)), .ref a_errors, .ref a_text, .int v_textLength, .ref a_pad, .int v_padLength, .ref a_sounds, .int v_soundMany, .ref a_proposed, .ref a_given, .int v_proposals, .ref a_readings, .int v_readingMany, .long v_hash])), (a_now, .inl (cI, 150, .inl m_now)), (a_past, .inl (cI, 750, .inl u3))] H := hP
    have hD : va_D A [(a_t, .inr (7, [.ref a_now, .ref a_past, .int ((v_saved - (1 : Int32)) + (1 : Int32)), .ref a_errors, .ref a_text, .int v_textLength, .ref a_pad, .int v_padLength, .ref a_sounds, .int v_soundMany, .ref a_proposed, .ref a_given, .int v_proposals, .ref a_readings, .int v_readingMany, .long v_hash])), (a_now, .inl (cI, 150, .inl m_now)), (a_past, .inl (cI, 750, .inl u3))] := hD
    have ho := so hf
    subst ho
    exact g_vret hx hb hr hlk hP hD hS dX7_saves_95

theorem sg_X7_undo : yX7_undo.cls = RX7 ∧ yX7_undo.cls ≠ "java/lang/invoke/MethodHandle" ∧ yX7_undo.cls ≠ "java/lang/invoke/VarHandle" ∧ (parseMethodDescriptor yX7_undo.desc).map (fun d => d.parameters.length) = some 0 := by decide +kernel
abbrev rm_X7_undo : Room := { frames := 1, cells := 0, slots := 0, locals := 21 }
theorem wd_X7_undo_0 : (.fieldLink RX7 41 "ShorthandOutlinesModel" "saved" "I" : Cond) ∈ wsX7_undo := by decide +kernel
theorem wd_X7_undo_1 : (.fieldLink RX7 7 "ShorthandOutlinesModel" "now" "[I" : Cond) ∈ wsX7_undo := by decide +kernel
theorem wd_X7_undo_2 : (.fieldLink RX7 13 "ShorthandOutlinesModel" "past" "[I" : Cond) ∈ wsX7_undo := by decide +kernel
theorem ly_X7_undo_X7 : ∀ w ∈ u_ws RX7 TX7 16, w ∈ wsX7_undo := by decide +kernel
set_option maxHeartbeats 4000000 in
set_option maxRecDepth 100000 in
theorem lt_X7_undo_26 {p : Program} {l : Launch} {e : Env} {s : State} {m : MethodId} {args : Array Value} {below : List Frame} {meth : Method} {c : Code} {D : va_G} {cI cZ cS : ClassId} {A : Nat → Prop} {Q : State → Prop} (Cx : gCx p s m meth c args cX7_undo 2 (some .int) yX7_undo wsX7_undo D cI cZ cS A) (a_t : Nat) (a_now : Nat) (a_past : Nat) (v_saved : Int32) (a_errors : Nat) (a_text : Nat) (v_textLength : Int32) (a_pad : Nat) (v_padLength : Int32) (a_sounds : Nat) (v_soundMany : Int32) (a_proposed : Nat) (a_given : Nat) (v_proposals : Int32) (a_readings : Nat) (v_readingMany : Int32) (v_hash : Int64) (m_past : Nat → Int32) (m_errors : Nat → Int32) : ∀ (n : Nat) (y1 : Int32) (m_now : Nat → Int32) (o : (Nat → Int32)) (H : Heap) (locs : List Loc) (ls : Array Slot), lp_X7_undo_26 v_saved m_past n y1 m_now = some o → va_P D vwCl [(a_t, .inr (7, [.ref a_now, .ref a_past, .int v_saved, .ref a_errors, .ref a_text, .int v_textLength, .ref a_pad, .int v_padLength, .ref a_sounds, .int v_soundMany, .ref a_proposed, .ref a_given, .int v_proposals, .ref a_readings, .int v_readingMany, .long v_hash])), (a_now, .inl (cI, 150, .inl m_now)), (a_past, .inl (cI, 750, .inl m_past)), (a_errors, .inl (cI, 4, .inl m_errors))] H → va_D A [(a_t, .inr (7, [.ref a_now, .ref a_past, .int v_saved, .ref a_errors, .ref a_text, .int v_textLength, .ref a_pad, .int v_padLength, .ref a_sounds, .int v_soundMany, .ref a_proposed, .ref a_given, .int v_proposals, .ref a_readings, .int v_readingMany, .long v_hash])), (a_now, .inl (cI, 150, .inl m_now)), (a_past, .inl (cI, 750, .inl m_past)), (a_errors, .inl (cI, 4, .inl m_errors))] → va_S A s.heap H locs → lv_has ls 2 [(0, .ref a_t), (1, .int y1)] → (∀ (H : Heap) (locs : List Loc) (ls : Array Slot), va_P D vwCl [(a_t, .inr (7, [.ref a_now, .ref a_past, .int v_saved, .ref a_errors, .ref a_text, .int v_textLength, .ref a_pad, .int v_padLength, .ref a_sounds, .int v_soundMany, .ref a_proposed, .ref a_given, .int v_proposals, .ref a_readings, .int v_readingMany, .long v_hash])), (a_now, .inl (cI, 150, .inl o)), (a_past, .inl (cI, 750, .inl m_past)), (a_errors, .inl (cI, 4, .inl m_errors))] H → va_D A [(a_t, .inr (7, [.ref a_now, .ref a_past, .int v_saved, .ref a_errors, .ref a_text, .int v_textLength, .ref a_pad, .int v_padLength, .ref a_sounds, .int v_soundMany, .ref a_proposed, .ref a_given, .int v_proposals, .ref a_readings, .int v_readingMany, .long v_hash])), (a_now, .inl (cI, 150, .inl o)), (a_past, .inl (cI, 750, .inl m_past)), (a_errors, .inl (cI, 4, .inl m_errors))] → va_S A s.heap H locs → lv_has ls 2 [(0, .ref a_t)] → W p l e rm_X7_undo s m args below meth c H locs 0 0 Q (F0 m 60 ls [])) → W p l e rm_X7_undo s m args below meth c H locs 0 0 Q (F0 m 26 ls []) := by
  obtain ⟨hx, hb, hml, hr, hlk, hown, hin, hts, hK, hA⟩ := id Cx
  have hown : s.vm.findClass RX7 = some m.cls := hown
  intro n
  induction n with
  | zero =>
    intro y1 m_now o H locs ls hf
    rw [lp_X7_undo_26] at hf
    cases hf
  | succ n ih =>
    intro y1 m_now o H locs ls hf hP hD hS hl kk
    rw [lp_X7_undo_26] at hf
    refine lv_iload_n hx hb dX7_undo_26 rfl (lv_at hl 1 rfl) ?_
    refine lv_sipush (v := 150) hx hb dX7_undo_27 (by decide) ?_
    refine lv_icmp_ge (tgt := 60) hx hb dX7_undo_30 (by decide) (fun hb1 => ?_) (fun hb1 => ?_)
    · replace hf := if_t hb1 hf
      have ho := so hf
      subst ho
      exact kk _ _ _ hP hD hS (lv_sub hl [0] rfl)
    · replace hf := if_f hb1 hf
      refine lv_aload_n hx hb dX7_undo_33 rfl (lv_at hl 0 rfl) ?_
      refine va_get (D := D) (ci := 7) (v := .ref a_now) (C := RX7) (T := TX7) (N := 16) hx hb hts ly_X7_undo_X7 hown hK.1 hP 0 rfl rfl 0 (by decide) (hts (.fieldLink RX7 7 "ShorthandOutlinesModel" "now" "[I") wd_X7_undo_1) (fun _ h9 => h9) rfl dX7_undo_34 ?_
      refine lv_iload_n hx hb dX7_undo_37 rfl (lv_at hl 1 rfl) ?_
      refine lv_aload_n hx hb dX7_undo_38 rfl (lv_at hl 0 rfl) ?_
      refine va_get (D := D) (ci := 7) (v := .ref a_past) (C := RX7) (T := TX7) (N := 16) hx hb hts ly_X7_undo_X7 hown hK.1 hP 0 rfl rfl 1 (by decide) (hts (.fieldLink RX7 13 "ShorthandOutlinesModel" "past" "[I") wd_X7_undo_2) (fun _ h9 => h9) rfl dX7_undo_39 ?_
      refine lv_sipush (v := 150) hx hb dX7_undo_42 (by decide) ?_
      refine lv_aload_n hx hb dX7_undo_45 rfl (lv_at hl 0 rfl) ?_
      refine va_get (D := D) (ci := 7) (v := .int v_saved) (C := RX7) (T := TX7) (N := 16) hx hb hts ly_X7_undo_X7 hown hK.1 hP 0 rfl rfl 2 (by decide) (hts (.fieldLink RX7 41 "ShorthandOutlinesModel" "saved" "I") wd_X7_undo_0) (fun _ h9 => h9) rfl dX7_undo_46 ?_
      refine lv_imul hx hb dX7_undo_49 ?_
      refine lv_iload_n hx hb dX7_undo_50 rfl (lv_at hl 1 rfl) ?_
      refine lv_iadd hx hb dX7_undo_51 ?_
      have hi2 := gd_1 hf
      replace hf := gd_2 hf
      refine va_iald hx hb hK.1 hP 2 0 rfl rfl (inb_in hi2) dX7_undo_52 ?_
      have hi3 := gd_1 hf
      replace hf := gd_2 hf
      refine va_iast hx hb hK.1 hP hD hS 1 0 rfl rfl (inb_in hi3) dX7_undo_53 (fun H locs hP hD hS => ?_)
      have hP : va_P D vwCl [(a_t, .inr (7, [.ref a_now, .ref a_past, .int v_saved, .ref a_errors, .ref a_text, .int v_textLength, .ref a_pad, .int v_padLength, .ref a_sounds, .int v_soundMany, .ref a_proposed, .ref a_given, .int v_proposals, .ref a_readings, .int v_readingMany, .long v_hash])), (a_now, .inl (cI, 150, .inl (upd m_now y1.toNatClampNeg (m_past (((150 : Int32) * v_saved) + y1).toNatClampNeg)))), (a_past, .inl (cI, 750, .inl m_past)), (a_errors, .inl (cI, 4, .inl m_errors))] H := hP
      have hD : va_D A [(a_t, .inr (7, [.ref a_now, .ref a_past, .int v_saved, .ref a_errors, .ref a_text, .int v_textLength, .ref a_pad, .int v_padLength, .ref a_sounds, .int v_soundMany, .ref a_proposed, .ref a_given, .int v_proposals, .ref a_readings, .int v_readingMany, .long v_hash])), (a_now, .inl (cI, 150, .inl (upd m_now y1.toNatClampNeg (m_past (((150 : Int32) * v_saved) + y1).toNatClampNeg)))), (a_past, .inl (cI, 750, .inl m_past)), (a_errors, .inl (cI, 4, .inl m_errors))] := hD
      refine lv_iinc (v := (y1 + 1)) (lv' := [(1, .int (y1 + 1)), (0, .ref a_t)]) hx hb dX7_undo_54 hl (k := 1) rfl rfl (by decide) rfl (fun ls hl => ?_)
      refine lv_goto (tgt := 26) hx hb dX7_undo_57 (by decide) ?_
      exact ih (y1 + 1) (upd m_now y1.toNatClampNeg (m_past (((150 : Int32) * v_saved) + y1).toNatClampNeg)) o _ _ _ hf hP hD hS (lv_sub hl [1, 0] rfl) kk
set_option maxHeartbeats 4000000 in
set_option maxRecDepth 100000 in
theorem kt_X7_undo (l : Launch) (D : va_G) (cI cZ cS : ClassId) (a_t : Nat) (a_now : Nat) (a_past : Nat) (a_errors : Nat) (a_text : Nat) (a_pad : Nat) (a_sounds : Nat) (a_proposed : Nat) (a_given : Nat) (a_readings : Nat) (v_textLength : Int32) (v_padLength : Int32) (v_soundMany : Int32) (v_proposals : Int32) (v_readingMany : Int32) (v_hash : Int64) (v_saved : Int32) (m_now : Nat → Int32) (m_past : Nat → Int32) (m_errors : Nat → Int32) (o : Int32 × Int32 × (Nat → Int32) × (Nat → Int32)) (hf : fn_X7_undo v_saved m_now m_past m_errors = some o) (sz : Nat) : Met l yX7_undo wsX7_undo rm_X7_undo (va_Pc [.ref a_t] (gPre D cI cZ cS [(a_t, .inr (7, [.ref a_now, .ref a_past, .int v_saved, .ref a_errors, .ref a_text, .int v_textLength, .ref a_pad, .int v_padLength, .ref a_sounds, .int v_soundMany, .ref a_proposed, .ref a_given, .int v_proposals, .ref a_readings, .int v_readingMany, .long v_hash])), (a_now, .inl (cI, 150, .inl m_now)), (a_past, .inl (cI, 750, .inl m_past)), (a_errors, .inl (cI, 4, .inl m_errors))] sz)) (va_Qi (fun r (_ : Unit) => r = o.1) (fun _ => gB D [(a_t, .inr (7, [.ref a_now, .ref a_past, .int o.2.1, .ref a_errors, .ref a_text, .int v_textLength, .ref a_pad, .int v_padLength, .ref a_sounds, .int v_soundMany, .ref a_proposed, .ref a_given, .int v_proposals, .ref a_readings, .int v_readingMany, .long v_hash])), (a_now, .inl (cI, 150, .inl o.2.2.1)), (a_past, .inl (cI, 750, .inl m_past)), (a_errors, .inl (cI, 4, .inl o.2.2.2))] (va_A [(a_t, .inr (7, [.ref a_now, .ref a_past, .int v_saved, .ref a_errors, .ref a_text, .int v_textLength, .ref a_pad, .int v_padLength, .ref a_sounds, .int v_soundMany, .ref a_proposed, .ref a_given, .int v_proposals, .ref a_readings, .int v_readingMany, .long v_hash])), (a_now, .inl (cI, 150, .inl m_now)), (a_past, .inl (cI, 750, .inl m_past)), (a_errors, .inl (cI, 4, .inl m_errors))] sz)) (va_A [(a_t, .inr (7, [.ref a_now, .ref a_past, .int v_saved, .ref a_errors, .ref a_text, .int v_textLength, .ref a_pad, .int v_padLength, .ref a_sounds, .int v_soundMany, .ref a_proposed, .ref a_given, .int v_proposals, .ref a_readings, .int v_readingMany, .long v_hash])), (a_now, .inl (cI, 150, .inl m_now)), (a_past, .inl (cI, 750, .inl m_past)), (a_errors, .inl (cI, 4, .inl m_errors))] sz)) 0 0 (va_A [(a_t, .inr (7, [.ref a_now, .ref a_past, .int v_saved, .ref a_errors, .ref a_text, .int v_textLength, .ref a_pad, .int v_padLength, .ref a_sounds, .int v_soundMany, .ref a_proposed, .ref a_given, .int v_proposals, .ref a_readings, .int v_readingMany, .long v_hash])), (a_now, .inl (cI, 150, .inl m_now)), (a_past, .inl (cI, 750, .inl m_past)), (a_errors, .inl (cI, 4, .inl m_errors))] sz) := by
  refine g_entry (Qc := fun A => va_Qi (fun r (_ : Unit) => r = o.1) (fun _ => gB D [(a_t, .inr (7, [.ref a_now, .ref a_past, .int o.2.1, .ref a_errors, .ref a_text, .int v_textLength, .ref a_pad, .int v_padLength, .ref a_sounds, .int v_soundMany, .ref a_proposed, .ref a_given, .int v_proposals, .ref a_readings, .int v_readingMany, .long v_hash])), (a_now, .inl (cI, 150, .inl o.2.2.1)), (a_past, .inl (cI, 750, .inl m_past)), (a_errors, .inl (cI, 4, .inl o.2.2.2))] A) A) (cc := cX7_undo) (maxL := 2) (ret := (some .int)) (by decide) rfl (Nat.le_of_ble_eq_true rfl) ?_ sz
  intro p e s m below meth c A ls Cx hP hD hS hl
  obtain ⟨hx, hb, hml, hr, hlk, hown, hin, hts, hK, hA⟩ := id Cx
  have hown : s.vm.findClass RX7 = some m.cls := hown
  have hl : lv_has ls 2 [(0, .ref a_t)] := hl
  unfold fn_X7_undo at hf
  refine lv_aload_n hx hb dX7_undo_0 rfl (lv_at hl 0 rfl) ?_
  refine va_get (D := D) (ci := 7) (v := .int v_saved) (C := RX7) (T := TX7) (N := 16) hx hb hts ly_X7_undo_X7 hown hK.1 hP 0 rfl rfl 2 (by decide) (hts (.fieldLink RX7 41 "ShorthandOutlinesModel" "saved" "I") wd_X7_undo_0) (fun _ h9 => h9) rfl dX7_undo_1 ?_
  refine lv_if_ne (tgt := 14) hx hb dX7_undo_4 (by decide) (fun hb1 => ?_) (fun hb1 => ?_)
  · replace hf := if_f hb1 hf
    refine lv_aload_n hx hb dX7_undo_14 rfl (lv_at hl 0 rfl) ?_
    refine lv_dup hx hb dX7_undo_15 rfl ?_
    refine va_get (D := D) (ci := 7) (v := .int v_saved) (C := RX7) (T := TX7) (N := 16) hx hb hts ly_X7_undo_X7 hown hK.1 hP 0 rfl rfl 2 (by decide) (hts (.fieldLink RX7 41 "ShorthandOutlinesModel" "saved" "I") wd_X7_undo_0) (fun _ h9 => h9) rfl dX7_undo_16 ?_
    refine lv_iconst (v := 1) hx hb dX7_undo_19 (by decide) ?_
    refine lv_isub hx hb dX7_undo_20 ?_
    refine va_put (D := D) (ci := 7) (v := .int (v_saved - (1 : Int32))) (ty := .int) (C := RX7) (T := TX7) (N := 16) hx hb hts ly_X7_undo_X7 tyX7 tyX7_ok nmX7 hown hK.1 hP hD hS 0 rfl rfl 2 (by decide) (hts (.fieldLink RX7 41 "ShorthandOutlinesModel" "saved" "I") wd_X7_undo_0) (fun _ h9 => h9) rfl (by decide +kernel) rfl rfl (Nat.le_of_ble_eq_true rfl) dX7_undo_21 (fun H locs hP hD hS => ?_)
    have hP : va_P D vwCl [(a_t, .inr (7, [.ref a_now, .ref a_past, .int (v_saved - (1 : Int32)), .ref a_errors, .ref a_text, .int v_textLength, .ref a_pad, .int v_padLength, .ref a_sounds, .int v_soundMany, .ref a_proposed, .ref a_given, .int v_proposals, .ref a_readings, .int v_readingMany, .long v_hash])), (a_now, .inl (cI, 150, .inl m_now)), (a_past, .inl (cI, 750, .inl m_past)), (a_errors, .inl (cI, 4, .inl m_errors))] H := hP
    have hD : va_D A [(a_t, .inr (7, [.ref a_now, .ref a_past, .int (v_saved - (1 : Int32)), .ref a_errors, .ref a_text, .int v_textLength, .ref a_pad, .int v_padLength, .ref a_sounds, .int v_soundMany, .ref a_proposed, .ref a_given, .int v_proposals, .ref a_readings, .int v_readingMany, .long v_hash])), (a_now, .inl (cI, 150, .inl m_now)), (a_past, .inl (cI, 750, .inl m_past)), (a_errors, .inl (cI, 4, .inl m_errors))] := hD
    refine lv_iconst (v := 0) hx hb dX7_undo_24 (by decide) ?_
    refine lv_istore_n (lv' := [(1, .int (0 : Int32)), (0, .ref a_t)]) hx hb dX7_undo_25 rfl hl (by decide) rfl (fun ls hl => ?_)
    obtain ⟨u1, hc2, hf⟩ := ob hf
    refine lt_X7_undo_26 Cx a_t a_now a_past (v_saved - (1 : Int32)) a_errors a_text v_textLength a_pad v_padLength a_sounds v_soundMany a_proposed a_given v_proposals a_readings v_readingMany v_hash m_past m_errors 1024 (0 : Int32) m_now u1 _ _ _ hc2 hP hD hS (lv_sub hl [1, 0] rfl) (fun H locs ls hP hD hS hl => ?_)
    have hP : va_P D vwCl [(a_t, .inr (7, [.ref a_now, .ref a_past, .int (v_saved - (1 : Int32)), .ref a_errors, .ref a_text, .int v_textLength, .ref a_pad, .int v_padLength, .ref a_sounds, .int v_soundMany, .ref a_proposed, .ref a_given, .int v_proposals, .ref a_readings, .int v_readingMany, .long v_hash])), (a_now, .inl (cI, 150, .inl u1)), (a_past, .inl (cI, 750, .inl m_past)), (a_errors, .inl (cI, 4, .inl m_errors))] H := hP
    have hD : va_D A [(a_t, .inr (7, [.ref a_now, .ref a_past, .int (v_saved - (1 : Int32)), .ref a_errors, .ref a_text, .int v_textLength, .ref a_pad, .int v_padLength, .ref a_sounds, .int v_soundMany, .ref a_proposed, .ref a_given, .int v_proposals, .ref a_readings, .int v_readingMany, .long v_hash])), (a_now, .inl (cI, 150, .inl u1)), (a_past, .inl (cI, 750, .inl m_past)), (a_errors, .inl (cI, 4, .inl m_errors))] := hD
    have hl : lv_has ls 2 [(0, .ref a_t)] := hl
    refine lv_aload_n hx hb dX7_undo_60 rfl (lv_at hl 0 rfl) ?_
    refine va_get (D := D) (ci := 7) (v := .int (v_saved - (1 : Int32))) (C := RX7) (T := TX7) (N := 16) hx hb hts ly_X7_undo_X7 hown hK.1 hP 0 rfl rfl 2 (by decide) (hts (.fieldLink RX7 41 "ShorthandOutlinesModel" "saved" "I") wd_X7_undo_0) (fun _ h9 => h9) rfl dX7_undo_61 ?_
    have ho := so hf
    subst ho
    exact g_iret hx hb hr hlk hP hD hS dX7_undo_64
  · replace hf := if_t hb1 hf
    refine lv_aload_n hx hb dX7_undo_7 rfl (lv_at hl 0 rfl) ?_
    refine lv_bipush (v := -5) hx hb dX7_undo_8 (by decide) ?_
    obtain ⟨u2, hc3, hf⟩ := ob hf
    refine g_ki (wc := [(a_t, .inr (7, [.ref a_now, .ref a_past, .int v_saved, .ref a_errors, .ref a_text, .int v_textLength, .ref a_pad, .int v_padLength, .ref a_sounds, .int v_soundMany, .ref a_proposed, .ref a_given, .int v_proposals, .ref a_readings, .int v_readingMany, .long v_hash])), (a_errors, .inl (cI, 4, .inl m_errors))]) (wc' := [(a_t, .inr (7, [.ref a_now, .ref a_past, .int v_saved, .ref a_errors, .ref a_text, .int v_textLength, .ref a_pad, .int v_padLength, .ref a_sounds, .int v_soundMany, .ref a_proposed, .ref a_given, .int v_proposals, .ref a_readings, .int v_readingMany, .long v_hash])), (a_errors, .inl (cI, 4, .inl u2.2))]) (wr := [(a_now, .inl (cI, 150, .inl m_now)), (a_past, .inl (cI, 750, .inl m_past))]) (va_runV (As := [.int (-5 : Int32)]) (rest := []) ⟨hx, hb, hml, hown, hts⟩ (kt_X7_fails l D cI cZ cS a_t a_errors a_now a_past a_text a_pad a_sounds a_proposed a_given a_readings v_saved v_textLength v_padLength v_soundMany v_proposals v_readingMany v_hash m_errors (-5 : Int32) u2 hc3 _) (cwV 1 hts gX7_undo_X7_fails rfl rfl rfl sg_X7_fails ⟨(Nat.le_of_ble_eq_true rfl), (Nat.le_of_ble_eq_true rfl)⟩) (g_pv (q := (RX7, TX7, 16)) hK hP hD [0, 3] rfl (by decide) rfl rfl) rfl rfl hl.1 rfl (lv_room (Nat.le_of_ble_eq_true rfl)) dX7_undo_10 ⟨Nat.zero_le _, Nat.zero_le _⟩) hP hD hS hA [0, 3] [1, 2] rfl rfl (by decide) (by decide) (fun H locs hP hD hS => ?_)
    have hP : va_P D vwCl [(a_now, .inl (cI, 150, .inl m_now)), (a_past, .inl (cI, 750, .inl m_past)), (a_t, .inr (7, [.ref a_now, .ref a_past, .int v_saved, .ref a_errors, .ref a_text, .int v_textLength, .ref a_pad, .int v_padLength, .ref a_sounds, .int v_soundMany, .ref a_proposed, .ref a_given, .int v_proposals, .ref a_readings, .int v_readingMany, .long v_hash])), (a_errors, .inl (cI, 4, .inl u2.2))] H := hP
    have hD : va_D A [(a_now, .inl (cI, 150, .inl m_now)), (a_past, .inl (cI, 750, .inl m_past)), (a_t, .inr (7, [.ref a_now, .ref a_past, .int v_saved, .ref a_errors, .ref a_text, .int v_textLength, .ref a_pad, .int v_padLength, .ref a_sounds, .int v_soundMany, .ref a_proposed, .ref a_given, .int v_proposals, .ref a_readings, .int v_readingMany, .long v_hash])), (a_errors, .inl (cI, 4, .inl u2.2))] := hD
    have hP : va_P D vwCl [(a_t, .inr (7, [.ref a_now, .ref a_past, .int v_saved, .ref a_errors, .ref a_text, .int v_textLength, .ref a_pad, .int v_padLength, .ref a_sounds, .int v_soundMany, .ref a_proposed, .ref a_given, .int v_proposals, .ref a_readings, .int v_readingMany, .long v_hash])), (a_now, .inl (cI, 150, .inl m_now)), (a_past, .inl (cI, 750, .inl m_past)), (a_errors, .inl (cI, 4, .inl u2.2))] H := hP.sub [2, 0, 1, 3] rfl
    have hD : va_D A [(a_t, .inr (7, [.ref a_now, .ref a_past, .int v_saved, .ref a_errors, .ref a_text, .int v_textLength, .ref a_pad, .int v_padLength, .ref a_sounds, .int v_soundMany, .ref a_proposed, .ref a_given, .int v_proposals, .ref a_readings, .int v_readingMany, .long v_hash])), (a_now, .inl (cI, 150, .inl m_now)), (a_past, .inl (cI, 750, .inl m_past)), (a_errors, .inl (cI, 4, .inl u2.2))] := hD.sub [2, 0, 1, 3] (by decide +kernel) rfl
    have ho := so hf
    subst ho
    exact g_iret hx hb hr hlk hP hD hS dX7_undo_13

theorem sg_X7_setSound : yX7_setSound.cls = RX7 ∧ yX7_setSound.cls ≠ "java/lang/invoke/MethodHandle" ∧ yX7_setSound.cls ≠ "java/lang/invoke/VarHandle" ∧ (parseMethodDescriptor yX7_setSound.desc).map (fun d => d.parameters.length) = some 3 := by decide +kernel
abbrev rm_X7_setSound : Room := { frames := 2, cells := 0, slots := 0, locals := 42 }
theorem wd_X7_setSound_0 : (.fieldLink RX7 7 "ShorthandOutlinesModel" "now" "[I" : Cond) ∈ wsX7_setSound := by decide +kernel
theorem ly_X7_setSound_X7 : ∀ w ∈ u_ws RX7 TX7 16, w ∈ wsX7_setSound := by decide +kernel
set_option maxHeartbeats 4000000 in
set_option maxRecDepth 100000 in
theorem kt_X7_setSound (l : Launch) (D : va_G) (cI cZ cS : ClassId) (a_t : Nat) (a_now : Nat) (a_past : Nat) (a_errors : Nat) (a_text : Nat) (a_pad : Nat) (a_sounds : Nat) (a_proposed : Nat) (a_given : Nat) (a_readings : Nat) (v_textLength : Int32) (v_padLength : Int32) (v_soundMany : Int32) (v_proposals : Int32) (v_readingMany : Int32) (v_hash : Int64) (v_saved : Int32) (m_now : Nat → Int32) (m_past : Nat → Int32) (m_errors : Nat → Int32) (x1 : Int32) (x2 : Int32) (x3 : Int32) (o : Int32 × Int32 × (Nat → Int32) × (Nat → Int32) × (Nat → Int32)) (hf : fn_X7_setSound v_saved m_now m_past m_errors x1 x2 x3 = some o) (sz : Nat) : Met l yX7_setSound wsX7_setSound rm_X7_setSound (va_Pc [.ref a_t, .int x1, .int x2, .int x3] (gPre D cI cZ cS [(a_t, .inr (7, [.ref a_now, .ref a_past, .int v_saved, .ref a_errors, .ref a_text, .int v_textLength, .ref a_pad, .int v_padLength, .ref a_sounds, .int v_soundMany, .ref a_proposed, .ref a_given, .int v_proposals, .ref a_readings, .int v_readingMany, .long v_hash])), (a_now, .inl (cI, 150, .inl m_now)), (a_past, .inl (cI, 750, .inl m_past)), (a_errors, .inl (cI, 4, .inl m_errors))] sz)) (va_Qi (fun r (_ : Unit) => r = o.1) (fun _ => gB D [(a_t, .inr (7, [.ref a_now, .ref a_past, .int o.2.1, .ref a_errors, .ref a_text, .int v_textLength, .ref a_pad, .int v_padLength, .ref a_sounds, .int v_soundMany, .ref a_proposed, .ref a_given, .int v_proposals, .ref a_readings, .int v_readingMany, .long v_hash])), (a_now, .inl (cI, 150, .inl o.2.2.1)), (a_past, .inl (cI, 750, .inl o.2.2.2.1)), (a_errors, .inl (cI, 4, .inl o.2.2.2.2))] (va_A [(a_t, .inr (7, [.ref a_now, .ref a_past, .int v_saved, .ref a_errors, .ref a_text, .int v_textLength, .ref a_pad, .int v_padLength, .ref a_sounds, .int v_soundMany, .ref a_proposed, .ref a_given, .int v_proposals, .ref a_readings, .int v_readingMany, .long v_hash])), (a_now, .inl (cI, 150, .inl m_now)), (a_past, .inl (cI, 750, .inl m_past)), (a_errors, .inl (cI, 4, .inl m_errors))] sz)) (va_A [(a_t, .inr (7, [.ref a_now, .ref a_past, .int v_saved, .ref a_errors, .ref a_text, .int v_textLength, .ref a_pad, .int v_padLength, .ref a_sounds, .int v_soundMany, .ref a_proposed, .ref a_given, .int v_proposals, .ref a_readings, .int v_readingMany, .long v_hash])), (a_now, .inl (cI, 150, .inl m_now)), (a_past, .inl (cI, 750, .inl m_past)), (a_errors, .inl (cI, 4, .inl m_errors))] sz)) 0 0 (va_A [(a_t, .inr (7, [.ref a_now, .ref a_past, .int v_saved, .ref a_errors, .ref a_text, .int v_textLength, .ref a_pad, .int v_padLength, .ref a_sounds, .int v_soundMany, .ref a_proposed, .ref a_given, .int v_proposals, .ref a_readings, .int v_readingMany, .long v_hash])), (a_now, .inl (cI, 150, .inl m_now)), (a_past, .inl (cI, 750, .inl m_past)), (a_errors, .inl (cI, 4, .inl m_errors))] sz) := by
  refine g_entry (Qc := fun A => va_Qi (fun r (_ : Unit) => r = o.1) (fun _ => gB D [(a_t, .inr (7, [.ref a_now, .ref a_past, .int o.2.1, .ref a_errors, .ref a_text, .int v_textLength, .ref a_pad, .int v_padLength, .ref a_sounds, .int v_soundMany, .ref a_proposed, .ref a_given, .int v_proposals, .ref a_readings, .int v_readingMany, .long v_hash])), (a_now, .inl (cI, 150, .inl o.2.2.1)), (a_past, .inl (cI, 750, .inl o.2.2.2.1)), (a_errors, .inl (cI, 4, .inl o.2.2.2.2))] A) A) (cc := cX7_setSound) (maxL := 5) (ret := (some .int)) (by decide) rfl (Nat.le_of_ble_eq_true rfl) ?_ sz
  intro p e s m below meth c A ls Cx hP hD hS hl
  obtain ⟨hx, hb, hml, hr, hlk, hown, hin, hts, hK, hA⟩ := id Cx
  have hown : s.vm.findClass RX7 = some m.cls := hown
  have hl : lv_has ls 5 [(0, .ref a_t), (1, .int x1), (2, .int x2), (3, .int x3)] := hl
  unfold fn_X7_setSound at hf
  refine lv_iload_n hx hb dX7_setSound_0 rfl (lv_at hl 1 rfl) ?_
  refine lv_iconst (v := 0) hx hb dX7_setSound_1 (by decide) ?_
  refine lv_bipush (v := 7) hx hb dX7_setSound_2 (by decide) ?_
  obtain ⟨u1, hc1, hf⟩ := ob hf
  refine g_ki (wc := []) (wc' := []) (wr := [(a_t, .inr (7, [.ref a_now, .ref a_past, .int v_saved, .ref a_errors, .ref a_text, .int v_textLength, .ref a_pad, .int v_padLength, .ref a_sounds, .int v_soundMany, .ref a_proposed, .ref a_given, .int v_proposals, .ref a_readings, .int v_readingMany, .long v_hash])), (a_now, .inl (cI, 150, .inl m_now)), (a_past, .inl (cI, 750, .inl m_past)), (a_errors, .inl (cI, 4, .inl m_errors))]) (va_runS (As := [.int x1, .int (0 : Int32), .int (7 : Int32)]) (rest := []) ⟨hx, hb, hml, hown, hts⟩ (kt_X7_within l D cI cZ cS x1 (0 : Int32) (7 : Int32) u1 hc1 _) (va_cwS 3 hts gX7_setSound_X7_within rfl rfl rfl sg_X7_within.2 ⟨(Nat.le_of_ble_eq_true rfl), (Nat.le_of_ble_eq_true rfl)⟩) (g_ps hK hP hD [] rfl (by decide)) rfl rfl hl.1 rfl (lv_room (Nat.le_of_ble_eq_true rfl)) dX7_setSound_4 ⟨Nat.zero_le _, Nat.zero_le _⟩) hP hD hS hA [] [0, 1, 2, 3] rfl rfl (by decide) (by decide) (fun H locs hP hD hS => ?_)
  have hP : va_P D vwCl [(a_t, .inr (7, [.ref a_now, .ref a_past, .int v_saved, .ref a_errors, .ref a_text, .int v_textLength, .ref a_pad, .int v_padLength, .ref a_sounds, .int v_soundMany, .ref a_proposed, .ref a_given, .int v_proposals, .ref a_readings, .int v_readingMany, .long v_hash])), (a_now, .inl (cI, 150, .inl m_now)), (a_past, .inl (cI, 750, .inl m_past)), (a_errors, .inl (cI, 4, .inl m_errors))] H := hP
  have hD : va_D A [(a_t, .inr (7, [.ref a_now, .ref a_past, .int v_saved, .ref a_errors, .ref a_text, .int v_textLength, .ref a_pad, .int v_padLength, .ref a_sounds, .int v_soundMany, .ref a_proposed, .ref a_given, .int v_proposals, .ref a_readings, .int v_readingMany, .long v_hash])), (a_now, .inl (cI, 150, .inl m_now)), (a_past, .inl (cI, 750, .inl m_past)), (a_errors, .inl (cI, 4, .inl m_errors))] := hD
  refine lv_if_eq (tgt := 27) hx hb dX7_setSound_7 (by decide) (fun hb2 => ?_) (fun hb2 => ?_)
  · replace hf := if_t hb2 hf
    refine lv_aload_n hx hb dX7_setSound_27 rfl (lv_at hl 0 rfl) ?_
    refine lv_bipush (v := -2) hx hb dX7_setSound_28 (by decide) ?_
    obtain ⟨u2, hc3, hf⟩ := ob hf
    refine g_ki (wc := [(a_t, .inr (7, [.ref a_now, .ref a_past, .int v_saved, .ref a_errors, .ref a_text, .int v_textLength, .ref a_pad, .int v_padLength, .ref a_sounds, .int v_soundMany, .ref a_proposed, .ref a_given, .int v_proposals, .ref a_readings, .int v_readingMany, .long v_hash])), (a_errors, .inl (cI, 4, .inl m_errors))]) (wc' := [(a_t, .inr (7, [.ref a_now, .ref a_past, .int v_saved, .ref a_errors, .ref a_text, .int v_textLength, .ref a_pad, .int v_padLength, .ref a_sounds, .int v_soundMany, .ref a_proposed, .ref a_given, .int v_proposals, .ref a_readings, .int v_readingMany, .long v_hash])), (a_errors, .inl (cI, 4, .inl u2.2))]) (wr := [(a_now, .inl (cI, 150, .inl m_now)), (a_past, .inl (cI, 750, .inl m_past))]) (va_runV (As := [.int (-2 : Int32)]) (rest := []) ⟨hx, hb, hml, hown, hts⟩ (kt_X7_fails l D cI cZ cS a_t a_errors a_now a_past a_text a_pad a_sounds a_proposed a_given a_readings v_saved v_textLength v_padLength v_soundMany v_proposals v_readingMany v_hash m_errors (-2 : Int32) u2 hc3 _) (cwV 1 hts gX7_setSound_X7_fails rfl rfl rfl sg_X7_fails ⟨(Nat.le_of_ble_eq_true rfl), (Nat.le_of_ble_eq_true rfl)⟩) (g_pv (q := (RX7, TX7, 16)) hK hP hD [0, 3] rfl (by decide) rfl rfl) rfl rfl hl.1 rfl (lv_room (Nat.le_of_ble_eq_true rfl)) dX7_setSound_30 ⟨Nat.zero_le _, Nat.zero_le _⟩) hP hD hS hA [0, 3] [1, 2] rfl rfl (by decide) (by decide) (fun H locs hP hD hS => ?_)
    have hP : va_P D vwCl [(a_now, .inl (cI, 150, .inl m_now)), (a_past, .inl (cI, 750, .inl m_past)), (a_t, .inr (7, [.ref a_now, .ref a_past, .int v_saved, .ref a_errors, .ref a_text, .int v_textLength, .ref a_pad, .int v_padLength, .ref a_sounds, .int v_soundMany, .ref a_proposed, .ref a_given, .int v_proposals, .ref a_readings, .int v_readingMany, .long v_hash])), (a_errors, .inl (cI, 4, .inl u2.2))] H := hP
    have hD : va_D A [(a_now, .inl (cI, 150, .inl m_now)), (a_past, .inl (cI, 750, .inl m_past)), (a_t, .inr (7, [.ref a_now, .ref a_past, .int v_saved, .ref a_errors, .ref a_text, .int v_textLength, .ref a_pad, .int v_padLength, .ref a_sounds, .int v_soundMany, .ref a_proposed, .ref a_given, .int v_proposals, .ref a_readings, .int v_readingMany, .long v_hash])), (a_errors, .inl (cI, 4, .inl u2.2))] := hD
    have hP : va_P D vwCl [(a_t, .inr (7, [.ref a_now, .ref a_past, .int v_saved, .ref a_errors, .ref a_text, .int v_textLength, .ref a_pad, .int v_padLength, .ref a_sounds, .int v_soundMany, .ref a_proposed, .ref a_given, .int v_proposals, .ref a_readings, .int v_readingMany, .long v_hash])), (a_now, .inl (cI, 150, .inl m_now)), (a_past, .inl (cI, 750, .inl m_past)), (a_errors, .inl (cI, 4, .inl u2.2))] H := hP.sub [2, 0, 1, 3] rfl
    have hD : va_D A [(a_t, .inr (7, [.ref a_now, .ref a_past, .int v_saved, .ref a_errors, .ref a_text, .int v_textLength, .ref a_pad, .int v_padLength, .ref a_sounds, .int v_soundMany, .ref a_proposed, .ref a_given, .int v_proposals, .ref a_readings, .int v_readingMany, .long v_hash])), (a_now, .inl (cI, 150, .inl m_now)), (a_past, .inl (cI, 750, .inl m_past)), (a_errors, .inl (cI, 4, .inl u2.2))] := hD.sub [2, 0, 1, 3] (by decide +kernel) rfl
    have ho := so hf
    subst ho
    exact g_iret hx hb hr hlk hP hD hS dX7_setSound_33
  · replace hf := if_f hb2 hf
    refine lv_iload_n hx hb dX7_setSound_10 rfl (lv_at hl 2 rfl) ?_
    obtain ⟨u3, hc4, hf⟩ := ob hf
    refine g_ki (wc := []) (wc' := []) (wr := [(a_t, .inr (7, [.ref a_now, .ref a_past, .int v_saved, .ref a_errors, .ref a_text, .int v_textLength, .ref a_pad, .int v_padLength, .ref a_sounds, .int v_soundMany, .ref a_proposed, .ref a_given, .int v_proposals, .ref a_readings, .int v_readingMany, .long v_hash])), (a_now, .inl (cI, 150, .inl m_now)), (a_past, .inl (cI, 750, .inl m_past)), (a_errors, .inl (cI, 4, .inl m_errors))]) (va_runS (As := [.int x2]) (rest := []) ⟨hx, hb, hml, hown, hts⟩ (kt_X7_isCode l D cI cZ cS x2 u3 hc4 _) (va_cwS 1 hts gX7_setSound_X7_isCode rfl rfl rfl sg_X7_isCode.2 ⟨(Nat.le_of_ble_eq_true rfl), (Nat.le_of_ble_eq_true rfl)⟩) (g_ps hK hP hD [] rfl (by decide)) rfl rfl hl.1 rfl (lv_room (Nat.le_of_ble_eq_true rfl)) dX7_setSound_11 ⟨Nat.zero_le _, Nat.zero_le _⟩) hP hD hS hA [] [0, 1, 2, 3] rfl rfl (by decide) (by decide) (fun H locs hP hD hS => ?_)
    have hP : va_P D vwCl [(a_t, .inr (7, [.ref a_now, .ref a_past, .int v_saved, .ref a_errors, .ref a_text, .int v_textLength, .ref a_pad, .int v_padLength, .ref a_sounds, .int v_soundMany, .ref a_proposed, .ref a_given, .int v_proposals, .ref a_readings, .int v_readingMany, .long v_hash])), (a_now, .inl (cI, 150, .inl m_now)), (a_past, .inl (cI, 750, .inl m_past)), (a_errors, .inl (cI, 4, .inl m_errors))] H := hP
    have hD : va_D A [(a_t, .inr (7, [.ref a_now, .ref a_past, .int v_saved, .ref a_errors, .ref a_text, .int v_textLength, .ref a_pad, .int v_padLength, .ref a_sounds, .int v_soundMany, .ref a_proposed, .ref a_given, .int v_proposals, .ref a_readings, .int v_readingMany, .long v_hash])), (a_now, .inl (cI, 150, .inl m_now)), (a_past, .inl (cI, 750, .inl m_past)), (a_errors, .inl (cI, 4, .inl m_errors))] := hD
    refine lv_if_eq (tgt := 27) hx hb dX7_setSound_14 (by decide) (fun hb5 => ?_) (fun hb5 => ?_)
    · replace hf := if_t hb5 hf
      refine lv_aload_n hx hb dX7_setSound_27 rfl (lv_at hl 0 rfl) ?_
      refine lv_bipush (v := -2) hx hb dX7_setSound_28 (by decide) ?_
      obtain ⟨u4, hc6, hf⟩ := ob hf
      refine g_ki (wc := [(a_t, .inr (7, [.ref a_now, .ref a_past, .int v_saved, .ref a_errors, .ref a_text, .int v_textLength, .ref a_pad, .int v_padLength, .ref a_sounds, .int v_soundMany, .ref a_proposed, .ref a_given, .int v_proposals, .ref a_readings, .int v_readingMany, .long v_hash])), (a_errors, .inl (cI, 4, .inl m_errors))]) (wc' := [(a_t, .inr (7, [.ref a_now, .ref a_past, .int v_saved, .ref a_errors, .ref a_text, .int v_textLength, .ref a_pad, .int v_padLength, .ref a_sounds, .int v_soundMany, .ref a_proposed, .ref a_given, .int v_proposals, .ref a_readings, .int v_readingMany, .long v_hash])), (a_errors, .inl (cI, 4, .inl u4.2))]) (wr := [(a_now, .inl (cI, 150, .inl m_now)), (a_past, .inl (cI, 750, .inl m_past))]) (va_runV (As := [.int (-2 : Int32)]) (rest := []) ⟨hx, hb, hml, hown, hts⟩ (kt_X7_fails l D cI cZ cS a_t a_errors a_now a_past a_text a_pad a_sounds a_proposed a_given a_readings v_saved v_textLength v_padLength v_soundMany v_proposals v_readingMany v_hash m_errors (-2 : Int32) u4 hc6 _) (cwV 1 hts gX7_setSound_X7_fails rfl rfl rfl sg_X7_fails ⟨(Nat.le_of_ble_eq_true rfl), (Nat.le_of_ble_eq_true rfl)⟩) (g_pv (q := (RX7, TX7, 16)) hK hP hD [0, 3] rfl (by decide) rfl rfl) rfl rfl hl.1 rfl (lv_room (Nat.le_of_ble_eq_true rfl)) dX7_setSound_30 ⟨Nat.zero_le _, Nat.zero_le _⟩) hP hD hS hA [0, 3] [1, 2] rfl rfl (by decide) (by decide) (fun H locs hP hD hS => ?_)
      have hP : va_P D vwCl [(a_now, .inl (cI, 150, .inl m_now)), (a_past, .inl (cI, 750, .inl m_past)), (a_t, .inr (7, [.ref a_now, .ref a_past, .int v_saved, .ref a_errors, .ref a_text, .int v_textLength, .ref a_pad, .int v_padLength, .ref a_sounds, .int v_soundMany, .ref a_proposed, .ref a_given, .int v_proposals, .ref a_readings, .int v_readingMany, .long v_hash])), (a_errors, .inl (cI, 4, .inl u4.2))] H := hP
      have hD : va_D A [(a_now, .inl (cI, 150, .inl m_now)), (a_past, .inl (cI, 750, .inl m_past)), (a_t, .inr (7, [.ref a_now, .ref a_past, .int v_saved, .ref a_errors, .ref a_text, .int v_textLength, .ref a_pad, .int v_padLength, .ref a_sounds, .int v_soundMany, .ref a_proposed, .ref a_given, .int v_proposals, .ref a_readings, .int v_readingMany, .long v_hash])), (a_errors, .inl (cI, 4, .inl u4.2))] := hD
      have hP : va_P D vwCl [(a_t, .inr (7, [.ref a_now, .ref a_past, .int v_saved, .ref a_errors, .ref a_text, .int v_textLength, .ref a_pad, .int v_padLength, .ref a_sounds, .int v_soundMany, .ref a_proposed, .ref a_given, .int v_proposals, .ref a_readings, .int v_readingMany, .long v_hash])), (a_now, .inl (cI, 150, .inl m_now)), (a_past, .inl (cI, 750, .inl m_past)), (a_errors, .inl (cI, 4, .inl u4.2))] H := hP.sub [2, 0, 1, 3] rfl
      have hD : va_D A [(a_t, .inr (7, [.ref a_now, .ref a_past, .int v_saved, .ref a_errors, .ref a_text, .int v_textLength, .ref a_pad, .int v_padLength, .ref a_sounds, .int v_soundMany, .ref a_proposed, .ref a_given, .int v_proposals, .ref a_readings, .int v_readingMany, .long v_hash])), (a_now, .inl (cI, 150, .inl m_now)), (a_past, .inl (cI, 750, .inl m_past)), (a_errors, .inl (cI, 4, .inl u4.2))] := hD.sub [2, 0, 1, 3] (by decide +kernel) rfl
      have ho := so hf
      subst ho
      exact g_iret hx hb hr hlk hP hD hS dX7_setSound_33
    · replace hf := if_f hb5 hf
      refine lv_iload_n hx hb dX7_setSound_17 rfl (lv_at hl 3 rfl) ?_
      refine lv_iconst (v := -1) hx hb dX7_setSound_18 (by decide) ?_
      refine lv_bipush (v := 23) hx hb dX7_setSound_19 (by decide) ?_
      obtain ⟨u5, hc7, hf⟩ := ob hf
      refine g_ki (wc := []) (wc' := []) (wr := [(a_t, .inr (7, [.ref a_now, .ref a_past, .int v_saved, .ref a_errors, .ref a_text, .int v_textLength, .ref a_pad, .int v_padLength, .ref a_sounds, .int v_soundMany, .ref a_proposed, .ref a_given, .int v_proposals, .ref a_readings, .int v_readingMany, .long v_hash])), (a_now, .inl (cI, 150, .inl m_now)), (a_past, .inl (cI, 750, .inl m_past)), (a_errors, .inl (cI, 4, .inl m_errors))]) (va_runS (As := [.int x3, .int (-1 : Int32), .int (23 : Int32)]) (rest := []) ⟨hx, hb, hml, hown, hts⟩ (kt_X7_within l D cI cZ cS x3 (-1 : Int32) (23 : Int32) u5 hc7 _) (va_cwS 3 hts gX7_setSound_X7_within rfl rfl rfl sg_X7_within.2 ⟨(Nat.le_of_ble_eq_true rfl), (Nat.le_of_ble_eq_true rfl)⟩) (g_ps hK hP hD [] rfl (by decide)) rfl rfl hl.1 rfl (lv_room (Nat.le_of_ble_eq_true rfl)) dX7_setSound_21 ⟨Nat.zero_le _, Nat.zero_le _⟩) hP hD hS hA [] [0, 1, 2, 3] rfl rfl (by decide) (by decide) (fun H locs hP hD hS => ?_)
      have hP : va_P D vwCl [(a_t, .inr (7, [.ref a_now, .ref a_past, .int v_saved, .ref a_errors, .ref a_text, .int v_textLength, .ref a_pad, .int v_padLength, .ref a_sounds, .int v_soundMany, .ref a_proposed, .ref a_given, .int v_proposals, .ref a_readings, .int v_readingMany, .long v_hash])), (a_now, .inl (cI, 150, .inl m_now)), (a_past, .inl (cI, 750, .inl m_past)), (a_errors, .inl (cI, 4, .inl m_errors))] H := hP
      have hD : va_D A [(a_t, .inr (7, [.ref a_now, .ref a_past, .int v_saved, .ref a_errors, .ref a_text, .int v_textLength, .ref a_pad, .int v_padLength, .ref a_sounds, .int v_soundMany, .ref a_proposed, .ref a_given, .int v_proposals, .ref a_readings, .int v_readingMany, .long v_hash])), (a_now, .inl (cI, 150, .inl m_now)), (a_past, .inl (cI, 750, .inl m_past)), (a_errors, .inl (cI, 4, .inl m_errors))] := hD
      refine lv_if_ne (tgt := 34) hx hb dX7_setSound_24 (by decide) (fun hb8 => ?_) (fun hb8 => ?_)
      · replace hf := if_f hb8 hf
        refine lv_aload_n hx hb dX7_setSound_34 rfl (lv_at hl 0 rfl) ?_
        obtain ⟨u6, hc9, hf⟩ := ob hf
        refine g_kv (wc := [(a_t, .inr (7, [.ref a_now, .ref a_past, .int v_saved, .ref a_errors, .ref a_text, .int v_textLength, .ref a_pad, .int v_padLength, .ref a_sounds, .int v_soundMany, .ref a_proposed, .ref a_given, .int v_proposals, .ref a_readings, .int v_readingMany, .long v_hash])), (a_now, .inl (cI, 150, .inl m_now)), (a_past, .inl (cI, 750, .inl m_past))]) (wc' := [(a_t, .inr (7, [.ref a_now, .ref a_past, .int u6.1, .ref a_errors, .ref a_text, .int v_textLength, .ref a_pad, .int v_padLength, .ref a_sounds, .int v_soundMany, .ref a_proposed, .ref a_given, .int v_proposals, .ref a_readings, .int v_readingMany, .long v_hash])), (a_now, .inl (cI, 150, .inl m_now)), (a_past, .inl (cI, 750, .inl u6.2))]) (wr := [(a_errors, .inl (cI, 4, .inl m_errors))]) (va_runV (As := []) (rest := []) ⟨hx, hb, hml, hown, hts⟩ (kt_X7_saves l D cI cZ cS a_t a_now a_past a_errors a_text a_pad a_sounds a_proposed a_given a_readings v_textLength v_padLength v_soundMany v_proposals v_readingMany v_hash v_saved m_now m_past u6 hc9 _) (cwV 0 hts gX7_setSound_X7_saves rfl rfl rfl sg_X7_saves ⟨(Nat.le_of_ble_eq_true rfl), (Nat.le_of_ble_eq_true rfl)⟩) (g_pv (q := (RX7, TX7, 16)) hK hP hD [0, 1, 2] rfl (by decide) rfl rfl) rfl rfl hl.1 rfl (lv_room (Nat.le_of_ble_eq_true rfl)) dX7_setSound_35 ⟨Nat.zero_le _, Nat.zero_le _⟩) hP hD hS hA [0, 1, 2] [3] rfl rfl (by decide) (by decide) (fun H locs hP hD hS => ?_)
        have hP : va_P D vwCl [(a_errors, .inl (cI, 4, .inl m_errors)), (a_t, .inr (7, [.ref a_now, .ref a_past, .int u6.1, .ref a_errors, .ref a_text, .int v_textLength, .ref a_pad, .int v_padLength, .ref a_sounds, .int v_soundMany, .ref a_proposed, .ref a_given, .int v_proposals, .ref a_readings, .int v_readingMany, .long v_hash])), (a_now, .inl (cI, 150, .inl m_now)), (a_past, .inl (cI, 750, .inl u6.2))] H := hP
        have hD : va_D A [(a_errors, .inl (cI, 4, .inl m_errors)), (a_t, .inr (7, [.ref a_now, .ref a_past, .int u6.1, .ref a_errors, .ref a_text, .int v_textLength, .ref a_pad, .int v_padLength, .ref a_sounds, .int v_soundMany, .ref a_proposed, .ref a_given, .int v_proposals, .ref a_readings, .int v_readingMany, .long v_hash])), (a_now, .inl (cI, 150, .inl m_now)), (a_past, .inl (cI, 750, .inl u6.2))] := hD
        refine lv_aload_n hx hb dX7_setSound_38 rfl (lv_at hl 0 rfl) ?_
        refine va_get (D := D) (ci := 7) (v := .ref a_now) (C := RX7) (T := TX7) (N := 16) hx hb hts ly_X7_setSound_X7 hown hK.1 hP 1 rfl rfl 0 (by decide) (hts (.fieldLink RX7 7 "ShorthandOutlinesModel" "now" "[I") wd_X7_setSound_0) (fun _ h9 => h9) rfl dX7_setSound_39 ?_
        refine lv_iconst (v := 1) hx hb dX7_setSound_42 (by decide) ?_
        refine lv_iload_n hx hb dX7_setSound_43 rfl (lv_at hl 1 rfl) ?_
        refine lv_iadd hx hb dX7_setSound_44 ?_
        have hi10 := gd_1 hf
        replace hf := gd_2 hf
        refine va_iald hx hb hK.1 hP 2 0 rfl rfl (inb_in hi10) dX7_setSound_45 ?_
        refine lv_istore (lv' := [(4, .int (m_now ((1 : Int32) + x1).toNatClampNeg)), (0, .ref a_t), (1, .int x1), (2, .int x2), (3, .int x3)]) hx hb dX7_setSound_46 hl (by decide) rfl (fun ls hl => ?_)
        refine lv_aload_n hx hb dX7_setSound_48 rfl (lv_at hl 1 rfl) ?_
        refine va_get (D := D) (ci := 7) (v := .ref a_now) (C := RX7) (T := TX7) (N := 16) hx hb hts ly_X7_setSound_X7 hown hK.1 hP 1 rfl rfl 0 (by decide) (hts (.fieldLink RX7 7 "ShorthandOutlinesModel" "now" "[I") wd_X7_setSound_0) (fun _ h9 => h9) rfl dX7_setSound_49 ?_
        refine lv_iconst (v := 1) hx hb dX7_setSound_52 (by decide) ?_
        refine lv_iload_n hx hb dX7_setSound_53 rfl (lv_at hl 2 rfl) ?_
        refine lv_iadd hx hb dX7_setSound_54 ?_
        refine lv_iload_n hx hb dX7_setSound_55 rfl (lv_at hl 3 rfl) ?_
        have hi11 := gd_1 hf
        replace hf := gd_2 hf
        refine va_iast hx hb hK.1 hP hD hS 2 0 rfl rfl (inb_in hi11) dX7_setSound_56 (fun H locs hP hD hS => ?_)
        have hP : va_P D vwCl [(a_errors, .inl (cI, 4, .inl m_errors)), (a_t, .inr (7, [.ref a_now, .ref a_past, .int u6.1, .ref a_errors, .ref a_text, .int v_textLength, .ref a_pad, .int v_padLength, .ref a_sounds, .int v_soundMany, .ref a_proposed, .ref a_given, .int v_proposals, .ref a_readings, .int v_readingMany, .long v_hash])), (a_now, .inl (cI, 150, .inl (upd m_now ((1 : Int32) + x1).toNatClampNeg x2))), (a_past, .inl (cI, 750, .inl u6.2))] H := hP
        have hD : va_D A [(a_errors, .inl (cI, 4, .inl m_errors)), (a_t, .inr (7, [.ref a_now, .ref a_past, .int u6.1, .ref a_errors, .ref a_text, .int v_textLength, .ref a_pad, .int v_padLength, .ref a_sounds, .int v_soundMany, .ref a_proposed, .ref a_given, .int v_proposals, .ref a_readings, .int v_readingMany, .long v_hash])), (a_now, .inl (cI, 150, .inl (upd m_now ((1 : Int32) + x1).toNatClampNeg x2))), (a_past, .inl (cI, 750, .inl u6.2))] := hD
        refine lv_aload_n hx hb dX7_setSound_57 rfl (lv_at hl 1 rfl) ?_
        refine va_get (D := D) (ci := 7) (v := .ref a_now) (C := RX7) (T := TX7) (N := 16) hx hb hts ly_X7_setSound_X7 hown hK.1 hP 1 rfl rfl 0 (by decide) (hts (.fieldLink RX7 7 "ShorthandOutlinesModel" "now" "[I") wd_X7_setSound_0) (fun _ h9 => h9) rfl dX7_setSound_58 ?_
        refine lv_bipush (v := 9) hx hb dX7_setSound_61 (by decide) ?_
        refine lv_iload_n hx hb dX7_setSound_63 rfl (lv_at hl 2 rfl) ?_
        refine lv_iadd hx hb dX7_setSound_64 ?_
        refine lv_iload_n hx hb dX7_setSound_65 rfl (lv_at hl 4 rfl) ?_
        have hi12 := gd_1 hf
        replace hf := gd_2 hf
        refine va_iast hx hb hK.1 hP hD hS 2 0 rfl rfl (inb_in hi12) dX7_setSound_66 (fun H locs hP hD hS => ?_)
        have hP : va_P D vwCl [(a_errors, .inl (cI, 4, .inl m_errors)), (a_t, .inr (7, [.ref a_now, .ref a_past, .int u6.1, .ref a_errors, .ref a_text, .int v_textLength, .ref a_pad, .int v_padLength, .ref a_sounds, .int v_soundMany, .ref a_proposed, .ref a_given, .int v_proposals, .ref a_readings, .int v_readingMany, .long v_hash])), (a_now, .inl (cI, 150, .inl (upd (upd m_now ((1 : Int32) + x1).toNatClampNeg x2) ((9 : Int32) + x1).toNatClampNeg x3))), (a_past, .inl (cI, 750, .inl u6.2))] H := hP
        have hD : va_D A [(a_errors, .inl (cI, 4, .inl m_errors)), (a_t, .inr (7, [.ref a_now, .ref a_past, .int u6.1, .ref a_errors, .ref a_text, .int v_textLength, .ref a_pad, .int v_padLength, .ref a_sounds, .int v_soundMany, .ref a_proposed, .ref a_given, .int v_proposals, .ref a_readings, .int v_readingMany, .long v_hash])), (a_now, .inl (cI, 150, .inl (upd (upd m_now ((1 : Int32) + x1).toNatClampNeg x2) ((9 : Int32) + x1).toNatClampNeg x3))), (a_past, .inl (cI, 750, .inl u6.2))] := hD
        refine lv_iload hx hb dX7_setSound_67 (lv_at hl 0 rfl) ?_
        have hP : va_P D vwCl [(a_t, .inr (7, [.ref a_now, .ref a_past, .int u6.1, .ref a_errors, .ref a_text, .int v_textLength, .ref a_pad, .int v_padLength, .ref a_sounds, .int v_soundMany, .ref a_proposed, .ref a_given, .int v_proposals, .ref a_readings, .int v_readingMany, .long v_hash])), (a_now, .inl (cI, 150, .inl (upd (upd m_now ((1 : Int32) + x1).toNatClampNeg x2) ((9 : Int32) + x1).toNatClampNeg x3))), (a_past, .inl (cI, 750, .inl u6.2)), (a_errors, .inl (cI, 4, .inl m_errors))] H := hP.sub [1, 2, 3, 0] rfl
        have hD : va_D A [(a_t, .inr (7, [.ref a_now, .ref a_past, .int u6.1, .ref a_errors, .ref a_text, .int v_textLength, .ref a_pad, .int v_padLength, .ref a_sounds, .int v_soundMany, .ref a_proposed, .ref a_given, .int v_proposals, .ref a_readings, .int v_readingMany, .long v_hash])), (a_now, .inl (cI, 150, .inl (upd (upd m_now ((1 : Int32) + x1).toNatClampNeg x2) ((9 : Int32) + x1).toNatClampNeg x3))), (a_past, .inl (cI, 750, .inl u6.2)), (a_errors, .inl (cI, 4, .inl m_errors))] := hD.sub [1, 2, 3, 0] (by decide +kernel) rfl
        have ho := so hf
        subst ho
        exact g_iret hx hb hr hlk hP hD hS dX7_setSound_69
      · replace hf := if_t hb8 hf
        refine lv_aload_n hx hb dX7_setSound_27 rfl (lv_at hl 0 rfl) ?_
        refine lv_bipush (v := -2) hx hb dX7_setSound_28 (by decide) ?_
        obtain ⟨u7, hc13, hf⟩ := ob hf
        refine g_ki (wc := [(a_t, .inr (7, [.ref a_now, .ref a_past, .int v_saved, .ref a_errors, .ref a_text, .int v_textLength, .ref a_pad, .int v_padLength, .ref a_sounds, .int v_soundMany, .ref a_proposed, .ref a_given, .int v_proposals, .ref a_readings, .int v_readingMany, .long v_hash])), (a_errors, .inl (cI, 4, .inl m_errors))]) (wc' := [(a_t, .inr (7, [.ref a_now, .ref a_past, .int v_saved, .ref a_errors, .ref a_text, .int v_textLength, .ref a_pad, .int v_padLength, .ref a_sounds, .int v_soundMany, .ref a_proposed, .ref a_given, .int v_proposals, .ref a_readings, .int v_readingMany, .long v_hash])), (a_errors, .inl (cI, 4, .inl u7.2))]) (wr := [(a_now, .inl (cI, 150, .inl m_now)), (a_past, .inl (cI, 750, .inl m_past))]) (va_runV (As := [.int (-2 : Int32)]) (rest := []) ⟨hx, hb, hml, hown, hts⟩ (kt_X7_fails l D cI cZ cS a_t a_errors a_now a_past a_text a_pad a_sounds a_proposed a_given a_readings v_saved v_textLength v_padLength v_soundMany v_proposals v_readingMany v_hash m_errors (-2 : Int32) u7 hc13 _) (cwV 1 hts gX7_setSound_X7_fails rfl rfl rfl sg_X7_fails ⟨(Nat.le_of_ble_eq_true rfl), (Nat.le_of_ble_eq_true rfl)⟩) (g_pv (q := (RX7, TX7, 16)) hK hP hD [0, 3] rfl (by decide) rfl rfl) rfl rfl hl.1 rfl (lv_room (Nat.le_of_ble_eq_true rfl)) dX7_setSound_30 ⟨Nat.zero_le _, Nat.zero_le _⟩) hP hD hS hA [0, 3] [1, 2] rfl rfl (by decide) (by decide) (fun H locs hP hD hS => ?_)
        have hP : va_P D vwCl [(a_now, .inl (cI, 150, .inl m_now)), (a_past, .inl (cI, 750, .inl m_past)), (a_t, .inr (7, [.ref a_now, .ref a_past, .int v_saved, .ref a_errors, .ref a_text, .int v_textLength, .ref a_pad, .int v_padLength, .ref a_sounds, .int v_soundMany, .ref a_proposed, .ref a_given, .int v_proposals, .ref a_readings, .int v_readingMany, .long v_hash])), (a_errors, .inl (cI, 4, .inl u7.2))] H := hP
        have hD : va_D A [(a_now, .inl (cI, 150, .inl m_now)), (a_past, .inl (cI, 750, .inl m_past)), (a_t, .inr (7, [.ref a_now, .ref a_past, .int v_saved, .ref a_errors, .ref a_text, .int v_textLength, .ref a_pad, .int v_padLength, .ref a_sounds, .int v_soundMany, .ref a_proposed, .ref a_given, .int v_proposals, .ref a_readings, .int v_readingMany, .long v_hash])), (a_errors, .inl (cI, 4, .inl u7.2))] := hD
        have hP : va_P D vwCl [(a_t, .inr (7, [.ref a_now, .ref a_past, .int v_saved, .ref a_errors, .ref a_text, .int v_textLength, .ref a_pad, .int v_padLength, .ref a_sounds, .int v_soundMany, .ref a_proposed, .ref a_given, .int v_proposals, .ref a_readings, .int v_readingMany, .long v_hash])), (a_now, .inl (cI, 150, .inl m_now)), (a_past, .inl (cI, 750, .inl m_past)), (a_errors, .inl (cI, 4, .inl u7.2))] H := hP.sub [2, 0, 1, 3] rfl
        have hD : va_D A [(a_t, .inr (7, [.ref a_now, .ref a_past, .int v_saved, .ref a_errors, .ref a_text, .int v_textLength, .ref a_pad, .int v_padLength, .ref a_sounds, .int v_soundMany, .ref a_proposed, .ref a_given, .int v_proposals, .ref a_readings, .int v_readingMany, .long v_hash])), (a_now, .inl (cI, 150, .inl m_now)), (a_past, .inl (cI, 750, .inl m_past)), (a_errors, .inl (cI, 4, .inl u7.2))] := hD.sub [2, 0, 1, 3] (by decide +kernel) rfl
        have ho := so hf
        subst ho
        exact g_iret hx hb hr hlk hP hD hS dX7_setSound_33

theorem sg_X7_setVowels : yX7_setVowels.cls = RX7 ∧ yX7_setVowels.cls ≠ "java/lang/invoke/MethodHandle" ∧ yX7_setVowels.cls ≠ "java/lang/invoke/VarHandle" ∧ (parseMethodDescriptor yX7_setVowels.desc).map (fun d => d.parameters.length) = some 1 := by decide +kernel
abbrev rm_X7_setVowels : Room := { frames := 1, cells := 0, slots := 0, locals := 22 }
theorem wd_X7_setVowels_0 : (.fieldLink RX7 7 "ShorthandOutlinesModel" "now" "[I" : Cond) ∈ wsX7_setVowels := by decide +kernel
theorem ly_X7_setVowels_X7 : ∀ w ∈ u_ws RX7 TX7 16, w ∈ wsX7_setVowels := by decide +kernel
set_option maxHeartbeats 4000000 in
set_option maxRecDepth 100000 in
theorem kt_X7_setVowels (l : Launch) (D : va_G) (cI cZ cS : ClassId) (a_t : Nat) (a_now : Nat) (a_past : Nat) (a_errors : Nat) (a_text : Nat) (a_pad : Nat) (a_sounds : Nat) (a_proposed : Nat) (a_given : Nat) (a_readings : Nat) (v_textLength : Int32) (v_padLength : Int32) (v_soundMany : Int32) (v_proposals : Int32) (v_readingMany : Int32) (v_hash : Int64) (v_saved : Int32) (m_now : Nat → Int32) (m_past : Nat → Int32) (m_errors : Nat → Int32) (x1 : Int32) (o : Int32 × Int32 × (Nat → Int32) × (Nat → Int32) × (Nat → Int32)) (hf : fn_X7_setVowels v_saved m_now m_past m_errors x1 = some o) (sz : Nat) : Met l yX7_setVowels wsX7_setVowels rm_X7_setVowels (va_Pc [.ref a_t, .int x1] (gPre D cI cZ cS [(a_t, .inr (7, [.ref a_now, .ref a_past, .int v_saved, .ref a_errors, .ref a_text, .int v_textLength, .ref a_pad, .int v_padLength, .ref a_sounds, .int v_soundMany, .ref a_proposed, .ref a_given, .int v_proposals, .ref a_readings, .int v_readingMany, .long v_hash])), (a_now, .inl (cI, 150, .inl m_now)), (a_past, .inl (cI, 750, .inl m_past)), (a_errors, .inl (cI, 4, .inl m_errors))] sz)) (va_Qi (fun r (_ : Unit) => r = o.1) (fun _ => gB D [(a_t, .inr (7, [.ref a_now, .ref a_past, .int o.2.1, .ref a_errors, .ref a_text, .int v_textLength, .ref a_pad, .int v_padLength, .ref a_sounds, .int v_soundMany, .ref a_proposed, .ref a_given, .int v_proposals, .ref a_readings, .int v_readingMany, .long v_hash])), (a_now, .inl (cI, 150, .inl o.2.2.1)), (a_past, .inl (cI, 750, .inl o.2.2.2.1)), (a_errors, .inl (cI, 4, .inl o.2.2.2.2))] (va_A [(a_t, .inr (7, [.ref a_now, .ref a_past, .int v_saved, .ref a_errors, .ref a_text, .int v_textLength, .ref a_pad, .int v_padLength, .ref a_sounds, .int v_soundMany, .ref a_proposed, .ref a_given, .int v_proposals, .ref a_readings, .int v_readingMany, .long v_hash])), (a_now, .inl (cI, 150, .inl m_now)), (a_past, .inl (cI, 750, .inl m_past)), (a_errors, .inl (cI, 4, .inl m_errors))] sz)) (va_A [(a_t, .inr (7, [.ref a_now, .ref a_past, .int v_saved, .ref a_errors, .ref a_text, .int v_textLength, .ref a_pad, .int v_padLength, .ref a_sounds, .int v_soundMany, .ref a_proposed, .ref a_given, .int v_proposals, .ref a_readings, .int v_readingMany, .long v_hash])), (a_now, .inl (cI, 150, .inl m_now)), (a_past, .inl (cI, 750, .inl m_past)), (a_errors, .inl (cI, 4, .inl m_errors))] sz)) 0 0 (va_A [(a_t, .inr (7, [.ref a_now, .ref a_past, .int v_saved, .ref a_errors, .ref a_text, .int v_textLength, .ref a_pad, .int v_padLength, .ref a_sounds, .int v_soundMany, .ref a_proposed, .ref a_given, .int v_proposals, .ref a_readings, .int v_readingMany, .long v_hash])), (a_now, .inl (cI, 150, .inl m_now)), (a_past, .inl (cI, 750, .inl m_past)), (a_errors, .inl (cI, 4, .inl m_errors))] sz) := by
  refine g_entry (Qc := fun A => va_Qi (fun r (_ : Unit) => r = o.1) (fun _ => gB D [(a_t, .inr (7, [.ref a_now, .ref a_past, .int o.2.1, .ref a_errors, .ref a_text, .int v_textLength, .ref a_pad, .int v_padLength, .ref a_sounds, .int v_soundMany, .ref a_proposed, .ref a_given, .int v_proposals, .ref a_readings, .int v_readingMany, .long v_hash])), (a_now, .inl (cI, 150, .inl o.2.2.1)), (a_past, .inl (cI, 750, .inl o.2.2.2.1)), (a_errors, .inl (cI, 4, .inl o.2.2.2.2))] A) A) (cc := cX7_setVowels) (maxL := 3) (ret := (some .int)) (by decide) rfl (Nat.le_of_ble_eq_true rfl) ?_ sz
  intro p e s m below meth c A ls Cx hP hD hS hl
  obtain ⟨hx, hb, hml, hr, hlk, hown, hin, hts, hK, hA⟩ := id Cx
  have hown : s.vm.findClass RX7 = some m.cls := hown
  have hl : lv_has ls 3 [(0, .ref a_t), (1, .int x1)] := hl
  unfold fn_X7_setVowels at hf
  refine lv_iload_n hx hb dX7_setVowels_0 rfl (lv_at hl 1 rfl) ?_
  refine lv_iconst (v := 0) hx hb dX7_setVowels_1 (by decide) ?_
  refine lv_sipush (v := 255) hx hb dX7_setVowels_2 (by decide) ?_
  obtain ⟨u1, hc1, hf⟩ := ob hf
  refine g_ki (wc := []) (wc' := []) (wr := [(a_t, .inr (7, [.ref a_now, .ref a_past, .int v_saved, .ref a_errors, .ref a_text, .int v_textLength, .ref a_pad, .int v_padLength, .ref a_sounds, .int v_soundMany, .ref a_proposed, .ref a_given, .int v_proposals, .ref a_readings, .int v_readingMany, .long v_hash])), (a_now, .inl (cI, 150, .inl m_now)), (a_past, .inl (cI, 750, .inl m_past)), (a_errors, .inl (cI, 4, .inl m_errors))]) (va_runS (As := [.int x1, .int (0 : Int32), .int (255 : Int32)]) (rest := []) ⟨hx, hb, hml, hown, hts⟩ (kt_X7_within l D cI cZ cS x1 (0 : Int32) (255 : Int32) u1 hc1 _) (va_cwS 3 hts gX7_setVowels_X7_within rfl rfl rfl sg_X7_within.2 ⟨(Nat.le_of_ble_eq_true rfl), (Nat.le_of_ble_eq_true rfl)⟩) (g_ps hK hP hD [] rfl (by decide)) rfl rfl hl.1 rfl (lv_room (Nat.le_of_ble_eq_true rfl)) dX7_setVowels_5 ⟨Nat.zero_le _, Nat.zero_le _⟩) hP hD hS hA [] [0, 1, 2, 3] rfl rfl (by decide) (by decide) (fun H locs hP hD hS => ?_)
  have hP : va_P D vwCl [(a_t, .inr (7, [.ref a_now, .ref a_past, .int v_saved, .ref a_errors, .ref a_text, .int v_textLength, .ref a_pad, .int v_padLength, .ref a_sounds, .int v_soundMany, .ref a_proposed, .ref a_given, .int v_proposals, .ref a_readings, .int v_readingMany, .long v_hash])), (a_now, .inl (cI, 150, .inl m_now)), (a_past, .inl (cI, 750, .inl m_past)), (a_errors, .inl (cI, 4, .inl m_errors))] H := hP
  have hD : va_D A [(a_t, .inr (7, [.ref a_now, .ref a_past, .int v_saved, .ref a_errors, .ref a_text, .int v_textLength, .ref a_pad, .int v_padLength, .ref a_sounds, .int v_soundMany, .ref a_proposed, .ref a_given, .int v_proposals, .ref a_readings, .int v_readingMany, .long v_hash])), (a_now, .inl (cI, 150, .inl m_now)), (a_past, .inl (cI, 750, .inl m_past)), (a_errors, .inl (cI, 4, .inl m_errors))] := hD
  refine lv_if_ne (tgt := 18) hx hb dX7_setVowels_8 (by decide) (fun hb2 => ?_) (fun hb2 => ?_)
  · replace hf := if_f hb2 hf
    refine lv_aload_n hx hb dX7_setVowels_18 rfl (lv_at hl 0 rfl) ?_
    obtain ⟨u2, hc3, hf⟩ := ob hf
    refine g_kv (wc := [(a_t, .inr (7, [.ref a_now, .ref a_past, .int v_saved, .ref a_errors, .ref a_text, .int v_textLength, .ref a_pad, .int v_padLength, .ref a_sounds, .int v_soundMany, .ref a_proposed, .ref a_given, .int v_proposals, .ref a_readings, .int v_readingMany, .long v_hash])), (a_now, .inl (cI, 150, .inl m_now)), (a_past, .inl (cI, 750, .inl m_past))]) (wc' := [(a_t, .inr (7, [.ref a_now, .ref a_past, .int u2.1, .ref a_errors, .ref a_text, .int v_textLength, .ref a_pad, .int v_padLength, .ref a_sounds, .int v_soundMany, .ref a_proposed, .ref a_given, .int v_proposals, .ref a_readings, .int v_readingMany, .long v_hash])), (a_now, .inl (cI, 150, .inl m_now)), (a_past, .inl (cI, 750, .inl u2.2))]) (wr := [(a_errors, .inl (cI, 4, .inl m_errors))]) (va_runV (As := []) (rest := []) ⟨hx, hb, hml, hown, hts⟩ (kt_X7_saves l D cI cZ cS a_t a_now a_past a_errors a_text a_pad a_sounds a_proposed a_given a_readings v_textLength v_padLength v_soundMany v_proposals v_readingMany v_hash v_saved m_now m_past u2 hc3 _) (cwV 0 hts gX7_setVowels_X7_saves rfl rfl rfl sg_X7_saves ⟨(Nat.le_of_ble_eq_true rfl), (Nat.le_of_ble_eq_true rfl)⟩) (g_pv (q := (RX7, TX7, 16)) hK hP hD [0, 1, 2] rfl (by decide) rfl rfl) rfl rfl hl.1 rfl (lv_room (Nat.le_of_ble_eq_true rfl)) dX7_setVowels_19 ⟨Nat.zero_le _, Nat.zero_le _⟩) hP hD hS hA [0, 1, 2] [3] rfl rfl (by decide) (by decide) (fun H locs hP hD hS => ?_)
    have hP : va_P D vwCl [(a_errors, .inl (cI, 4, .inl m_errors)), (a_t, .inr (7, [.ref a_now, .ref a_past, .int u2.1, .ref a_errors, .ref a_text, .int v_textLength, .ref a_pad, .int v_padLength, .ref a_sounds, .int v_soundMany, .ref a_proposed, .ref a_given, .int v_proposals, .ref a_readings, .int v_readingMany, .long v_hash])), (a_now, .inl (cI, 150, .inl m_now)), (a_past, .inl (cI, 750, .inl u2.2))] H := hP
    have hD : va_D A [(a_errors, .inl (cI, 4, .inl m_errors)), (a_t, .inr (7, [.ref a_now, .ref a_past, .int u2.1, .ref a_errors, .ref a_text, .int v_textLength, .ref a_pad, .int v_padLength, .ref a_sounds, .int v_soundMany, .ref a_proposed, .ref a_given, .int v_proposals, .ref a_readings, .int v_readingMany, .long v_hash])), (a_now, .inl (cI, 150, .inl m_now)), (a_past, .inl (cI, 750, .inl u2.2))] := hD
    refine lv_aload_n hx hb dX7_setVowels_22 rfl (lv_at hl 0 rfl) ?_
    refine va_get (D := D) (ci := 7) (v := .ref a_now) (C := RX7) (T := TX7) (N := 16) hx hb hts ly_X7_setVowels_X7 hown hK.1 hP 1 rfl rfl 0 (by decide) (hts (.fieldLink RX7 7 "ShorthandOutlinesModel" "now" "[I") wd_X7_setVowels_0) (fun _ h9 => h9) rfl dX7_setVowels_23 ?_
    refine lv_iconst (v := 0) hx hb dX7_setVowels_26 (by decide) ?_
    refine va_iald hx hb hK.1 hP 2 0 rfl rfl (by unfold vp_in; decide) dX7_setVowels_27 ?_
    refine lv_istore_n (lv' := [(2, .int (m_now (0 : Int32).toNatClampNeg)), (0, .ref a_t), (1, .int x1)]) hx hb dX7_setVowels_28 rfl hl (by decide) rfl (fun ls hl => ?_)
    refine lv_aload_n hx hb dX7_setVowels_29 rfl (lv_at hl 1 rfl) ?_
    refine va_get (D := D) (ci := 7) (v := .ref a_now) (C := RX7) (T := TX7) (N := 16) hx hb hts ly_X7_setVowels_X7 hown hK.1 hP 1 rfl rfl 0 (by decide) (hts (.fieldLink RX7 7 "ShorthandOutlinesModel" "now" "[I") wd_X7_setVowels_0) (fun _ h9 => h9) rfl dX7_setVowels_30 ?_
    refine lv_iconst (v := 0) hx hb dX7_setVowels_33 (by decide) ?_
    refine lv_iload_n hx hb dX7_setVowels_34 rfl (lv_at hl 2 rfl) ?_
    refine va_iast hx hb hK.1 hP hD hS 2 0 rfl rfl (by unfold vp_in; decide) dX7_setVowels_35 (fun H locs hP hD hS => ?_)
    have hP : va_P D vwCl [(a_errors, .inl (cI, 4, .inl m_errors)), (a_t, .inr (7, [.ref a_now, .ref a_past, .int u2.1, .ref a_errors, .ref a_text, .int v_textLength, .ref a_pad, .int v_padLength, .ref a_sounds, .int v_soundMany, .ref a_proposed, .ref a_given, .int v_proposals, .ref a_readings, .int v_readingMany, .long v_hash])), (a_now, .inl (cI, 150, .inl (upd m_now (0 : Int32).toNatClampNeg x1))), (a_past, .inl (cI, 750, .inl u2.2))] H := hP
    have hD : va_D A [(a_errors, .inl (cI, 4, .inl m_errors)), (a_t, .inr (7, [.ref a_now, .ref a_past, .int u2.1, .ref a_errors, .ref a_text, .int v_textLength, .ref a_pad, .int v_padLength, .ref a_sounds, .int v_soundMany, .ref a_proposed, .ref a_given, .int v_proposals, .ref a_readings, .int v_readingMany, .long v_hash])), (a_now, .inl (cI, 150, .inl (upd m_now (0 : Int32).toNatClampNeg x1))), (a_past, .inl (cI, 750, .inl u2.2))] := hD
    refine lv_iload_n hx hb dX7_setVowels_36 rfl (lv_at hl 0 rfl) ?_
    have hP : va_P D vwCl [(a_t, .inr (7, [.ref a_now, .ref a_past, .int u2.1, .ref a_errors, .ref a_text, .int v_textLength, .ref a_pad, .int v_padLength, .ref a_sounds, .int v_soundMany, .ref a_proposed, .ref a_given, .int v_proposals, .ref a_readings, .int v_readingMany, .long v_hash])), (a_now, .inl (cI, 150, .inl (upd m_now (0 : Int32).toNatClampNeg x1))), (a_past, .inl (cI, 750, .inl u2.2)), (a_errors, .inl (cI, 4, .inl m_errors))] H := hP.sub [1, 2, 3, 0] rfl
    have hD : va_D A [(a_t, .inr (7, [.ref a_now, .ref a_past, .int u2.1, .ref a_errors, .ref a_text, .int v_textLength, .ref a_pad, .int v_padLength, .ref a_sounds, .int v_soundMany, .ref a_proposed, .ref a_given, .int v_proposals, .ref a_readings, .int v_readingMany, .long v_hash])), (a_now, .inl (cI, 150, .inl (upd m_now (0 : Int32).toNatClampNeg x1))), (a_past, .inl (cI, 750, .inl u2.2)), (a_errors, .inl (cI, 4, .inl m_errors))] := hD.sub [1, 2, 3, 0] (by decide +kernel) rfl
    have ho := so hf
    subst ho
    exact g_iret hx hb hr hlk hP hD hS dX7_setVowels_37
  · replace hf := if_t hb2 hf
    refine lv_aload_n hx hb dX7_setVowels_11 rfl (lv_at hl 0 rfl) ?_
    refine lv_bipush (v := -2) hx hb dX7_setVowels_12 (by decide) ?_
    obtain ⟨u3, hc4, hf⟩ := ob hf
    refine g_ki (wc := [(a_t, .inr (7, [.ref a_now, .ref a_past, .int v_saved, .ref a_errors, .ref a_text, .int v_textLength, .ref a_pad, .int v_padLength, .ref a_sounds, .int v_soundMany, .ref a_proposed, .ref a_given, .int v_proposals, .ref a_readings, .int v_readingMany, .long v_hash])), (a_errors, .inl (cI, 4, .inl m_errors))]) (wc' := [(a_t, .inr (7, [.ref a_now, .ref a_past, .int v_saved, .ref a_errors, .ref a_text, .int v_textLength, .ref a_pad, .int v_padLength, .ref a_sounds, .int v_soundMany, .ref a_proposed, .ref a_given, .int v_proposals, .ref a_readings, .int v_readingMany, .long v_hash])), (a_errors, .inl (cI, 4, .inl u3.2))]) (wr := [(a_now, .inl (cI, 150, .inl m_now)), (a_past, .inl (cI, 750, .inl m_past))]) (va_runV (As := [.int (-2 : Int32)]) (rest := []) ⟨hx, hb, hml, hown, hts⟩ (kt_X7_fails l D cI cZ cS a_t a_errors a_now a_past a_text a_pad a_sounds a_proposed a_given a_readings v_saved v_textLength v_padLength v_soundMany v_proposals v_readingMany v_hash m_errors (-2 : Int32) u3 hc4 _) (cwV 1 hts gX7_setVowels_X7_fails rfl rfl rfl sg_X7_fails ⟨(Nat.le_of_ble_eq_true rfl), (Nat.le_of_ble_eq_true rfl)⟩) (g_pv (q := (RX7, TX7, 16)) hK hP hD [0, 3] rfl (by decide) rfl rfl) rfl rfl hl.1 rfl (lv_room (Nat.le_of_ble_eq_true rfl)) dX7_setVowels_14 ⟨Nat.zero_le _, Nat.zero_le _⟩) hP hD hS hA [0, 3] [1, 2] rfl rfl (by decide) (by decide) (fun H locs hP hD hS => ?_)
    have hP : va_P D vwCl [(a_now, .inl (cI, 150, .inl m_now)), (a_past, .inl (cI, 750, .inl m_past)), (a_t, .inr (7, [.ref a_now, .ref a_past, .int v_saved, .ref a_errors, .ref a_text, .int v_textLength, .ref a_pad, .int v_padLength, .ref a_sounds, .int v_soundMany, .ref a_proposed, .ref a_given, .int v_proposals, .ref a_readings, .int v_readingMany, .long v_hash])), (a_errors, .inl (cI, 4, .inl u3.2))] H := hP
    have hD : va_D A [(a_now, .inl (cI, 150, .inl m_now)), (a_past, .inl (cI, 750, .inl m_past)), (a_t, .inr (7, [.ref a_now, .ref a_past, .int v_saved, .ref a_errors, .ref a_text, .int v_textLength, .ref a_pad, .int v_padLength, .ref a_sounds, .int v_soundMany, .ref a_proposed, .ref a_given, .int v_proposals, .ref a_readings, .int v_readingMany, .long v_hash])), (a_errors, .inl (cI, 4, .inl u3.2))] := hD
    have hP : va_P D vwCl [(a_t, .inr (7, [.ref a_now, .ref a_past, .int v_saved, .ref a_errors, .ref a_text, .int v_textLength, .ref a_pad, .int v_padLength, .ref a_sounds, .int v_soundMany, .ref a_proposed, .ref a_given, .int v_proposals, .ref a_readings, .int v_readingMany, .long v_hash])), (a_now, .inl (cI, 150, .inl m_now)), (a_past, .inl (cI, 750, .inl m_past)), (a_errors, .inl (cI, 4, .inl u3.2))] H := hP.sub [2, 0, 1, 3] rfl
    have hD : va_D A [(a_t, .inr (7, [.ref a_now, .ref a_past, .int v_saved, .ref a_errors, .ref a_text, .int v_textLength, .ref a_pad, .int v_padLength, .ref a_sounds, .int v_soundMany, .ref a_proposed, .ref a_given, .int v_proposals, .ref a_readings, .int v_readingMany, .long v_hash])), (a_now, .inl (cI, 150, .inl m_now)), (a_past, .inl (cI, 750, .inl m_past)), (a_errors, .inl (cI, 4, .inl u3.2))] := hD.sub [2, 0, 1, 3] (by decide +kernel) rfl
    have ho := so hf
    subst ho
    exact g_iret hx hb hr hlk hP hD hS dX7_setVowels_17

theorem sg_X7_append : yX7_append.cls = RX7 ∧ yX7_append.cls ≠ "java/lang/invoke/MethodHandle" ∧ yX7_append.cls ≠ "java/lang/invoke/VarHandle" ∧ (parseMethodDescriptor yX7_append.desc).map (fun d => d.parameters.length) = some 1 := by decide +kernel
abbrev rm_X7_append : Room := { frames := 1, cells := 0, slots := 0, locals := 22 }
theorem wd_X7_append_0 : (.fieldLink RX7 56 "ShorthandOutlinesModel" "textLength" "I" : Cond) ∈ wsX7_append := by decide +kernel
theorem wd_X7_append_1 : (.fieldLink RX7 19 "ShorthandOutlinesModel" "text" "[I" : Cond) ∈ wsX7_append := by decide +kernel
theorem ly_X7_append_X7 : ∀ w ∈ u_ws RX7 TX7 16, w ∈ wsX7_append := by decide +kernel
set_option maxHeartbeats 4000000 in
set_option maxRecDepth 100000 in
theorem kt_X7_append (l : Launch) (D : va_G) (cI cZ cS : ClassId) (a_t : Nat) (a_errors : Nat) (a_text : Nat) (a_now : Nat) (a_past : Nat) (a_pad : Nat) (a_sounds : Nat) (a_proposed : Nat) (a_given : Nat) (a_readings : Nat) (v_saved : Int32) (v_padLength : Int32) (v_soundMany : Int32) (v_proposals : Int32) (v_readingMany : Int32) (v_hash : Int64) (v_textLength : Int32) (m_errors : Nat → Int32) (m_text : Nat → Int32) (x1 : Int32) (o : Int32 × Int32 × (Nat → Int32) × (Nat → Int32)) (hf : fn_X7_append v_textLength m_errors m_text x1 = some o) (sz : Nat) : Met l yX7_append wsX7_append rm_X7_append (va_Pc [.ref a_t, .int x1] (gPre D cI cZ cS [(a_t, .inr (7, [.ref a_now, .ref a_past, .int v_saved, .ref a_errors, .ref a_text, .int v_textLength, .ref a_pad, .int v_padLength, .ref a_sounds, .int v_soundMany, .ref a_proposed, .ref a_given, .int v_proposals, .ref a_readings, .int v_readingMany, .long v_hash])), (a_errors, .inl (cI, 4, .inl m_errors)), (a_text, .inl (cI, 8, .inl m_text))] sz)) (va_Qi (fun r (_ : Unit) => r = o.1) (fun _ => gB D [(a_t, .inr (7, [.ref a_now, .ref a_past, .int v_saved, .ref a_errors, .ref a_text, .int o.2.1, .ref a_pad, .int v_padLength, .ref a_sounds, .int v_soundMany, .ref a_proposed, .ref a_given, .int v_proposals, .ref a_readings, .int v_readingMany, .long v_hash])), (a_errors, .inl (cI, 4, .inl o.2.2.1)), (a_text, .inl (cI, 8, .inl o.2.2.2))] (va_A [(a_t, .inr (7, [.ref a_now, .ref a_past, .int v_saved, .ref a_errors, .ref a_text, .int v_textLength, .ref a_pad, .int v_padLength, .ref a_sounds, .int v_soundMany, .ref a_proposed, .ref a_given, .int v_proposals, .ref a_readings, .int v_readingMany, .long v_hash])), (a_errors, .inl (cI, 4, .inl m_errors)), (a_text, .inl (cI, 8, .inl m_text))] sz)) (va_A [(a_t, .inr (7, [.ref a_now, .ref a_past, .int v_saved, .ref a_errors, .ref a_text, .int v_textLength, .ref a_pad, .int v_padLength, .ref a_sounds, .int v_soundMany, .ref a_proposed, .ref a_given, .int v_proposals, .ref a_readings, .int v_readingMany, .long v_hash])), (a_errors, .inl (cI, 4, .inl m_errors)), (a_text, .inl (cI, 8, .inl m_text))] sz)) 0 0 (va_A [(a_t, .inr (7, [.ref a_now, .ref a_past, .int v_saved, .ref a_errors, .ref a_text, .int v_textLength, .ref a_pad, .int v_padLength, .ref a_sounds, .int v_soundMany, .ref a_proposed, .ref a_given, .int v_proposals, .ref a_readings, .int v_readingMany, .long v_hash])), (a_errors, .inl (cI, 4, .inl m_errors)), (a_text, .inl (cI, 8, .inl m_text))] sz) := by
  refine g_entry (Qc := fun A => va_Qi (fun r (_ : Unit) => r = o.1) (fun _ => gB D [(a_t, .inr (7, [.ref a_now, .ref a_past, .int v_saved, .ref a_errors, .ref a_text, .int o.2.1, .ref a_pad, .int v_padLength, .ref a_sounds, .int v_soundMany, .ref a_proposed, .ref a_given, .int v_proposals, .ref a_readings, .int v_readingMany, .long v_hash])), (a_errors, .inl (cI, 4, .inl o.2.2.1)), (a_text, .inl (cI, 8, .inl o.2.2.2))] A) A) (cc := cX7_append) (maxL := 2) (ret := (some .int)) (by decide) rfl (Nat.le_of_ble_eq_true rfl) ?_ sz
  intro p e s m below meth c A ls Cx hP hD hS hl
  obtain ⟨hx, hb, hml, hr, hlk, hown, hin, hts, hK, hA⟩ := id Cx
  have hown : s.vm.findClass RX7 = some m.cls := hown
  have hl : lv_has ls 2 [(0, .ref a_t), (1, .int x1)] := hl
  unfold fn_X7_append at hf
  refine lv_iload_n hx hb dX7_append_0 rfl (lv_at hl 1 rfl) ?_
  refine lv_iconst (v := 0) hx hb dX7_append_1 (by decide) ?_
  refine lv_bipush (v := 127) hx hb dX7_append_2 (by decide) ?_
  obtain ⟨u1, hc1, hf⟩ := ob hf
  refine g_ki (wc := []) (wc' := []) (wr := [(a_t, .inr (7, [.ref a_now, .ref a_past, .int v_saved, .ref a_errors, .ref a_text, .int v_textLength, .ref a_pad, .int v_padLength, .ref a_sounds, .int v_soundMany, .ref a_proposed, .ref a_given, .int v_proposals, .ref a_readings, .int v_readingMany, .long v_hash])), (a_errors, .inl (cI, 4, .inl m_errors)), (a_text, .inl (cI, 8, .inl m_text))]) (va_runS (As := [.int x1, .int (0 : Int32), .int (127 : Int32)]) (rest := []) ⟨hx, hb, hml, hown, hts⟩ (kt_X7_within l D cI cZ cS x1 (0 : Int32) (127 : Int32) u1 hc1 _) (va_cwS 3 hts gX7_append_X7_within rfl rfl rfl sg_X7_within.2 ⟨(Nat.le_of_ble_eq_true rfl), (Nat.le_of_ble_eq_true rfl)⟩) (g_ps hK hP hD [] rfl (by decide)) rfl rfl hl.1 rfl (lv_room (Nat.le_of_ble_eq_true rfl)) dX7_append_4 ⟨Nat.zero_le _, Nat.zero_le _⟩) hP hD hS hA [] [0, 1, 2] rfl rfl (by decide) (by decide) (fun H locs hP hD hS => ?_)
  have hP : va_P D vwCl [(a_t, .inr (7, [.ref a_now, .ref a_past, .int v_saved, .ref a_errors, .ref a_text, .int v_textLength, .ref a_pad, .int v_padLength, .ref a_sounds, .int v_soundMany, .ref a_proposed, .ref a_given, .int v_proposals, .ref a_readings, .int v_readingMany, .long v_hash])), (a_errors, .inl (cI, 4, .inl m_errors)), (a_text, .inl (cI, 8, .inl m_text))] H := hP
  have hD : va_D A [(a_t, .inr (7, [.ref a_now, .ref a_past, .int v_saved, .ref a_errors, .ref a_text, .int v_textLength, .ref a_pad, .int v_padLength, .ref a_sounds, .int v_soundMany, .ref a_proposed, .ref a_given, .int v_proposals, .ref a_readings, .int v_readingMany, .long v_hash])), (a_errors, .inl (cI, 4, .inl m_errors)), (a_text, .inl (cI, 8, .inl m_text))] := hD
  refine lv_if_ne (tgt := 17) hx hb dX7_append_7 (by decide) (fun hb2 => ?_) (fun hb2 => ?_)
  · replace hf := if_f hb2 hf
    refine lv_aload_n hx hb dX7_append_17 rfl (lv_at hl 0 rfl) ?_
    refine va_get (D := D) (ci := 7) (v := .int v_textLength) (C := RX7) (T := TX7) (N := 16) hx hb hts ly_X7_append_X7 hown hK.1 hP 0 rfl rfl 5 (by decide) (hts (.fieldLink RX7 56 "ShorthandOutlinesModel" "textLength" "I") wd_X7_append_0) (fun _ h9 => h9) rfl dX7_append_18 ?_
    refine lv_bipush (v := 8) hx hb dX7_append_21 (by decide) ?_
    refine lv_icmp_ne (tgt := 33) hx hb dX7_append_23 (by decide) (fun hb3 => ?_) (fun hb3 => ?_)
    · replace hf := if_f hb3 hf
      refine lv_aload_n hx hb dX7_append_33 rfl (lv_at hl 0 rfl) ?_
      refine va_get (D := D) (ci := 7) (v := .ref a_text) (C := RX7) (T := TX7) (N := 16) hx hb hts ly_X7_append_X7 hown hK.1 hP 0 rfl rfl 4 (by decide) (hts (.fieldLink RX7 19 "ShorthandOutlinesModel" "text" "[I") wd_X7_append_1) (fun _ h9 => h9) rfl dX7_append_34 ?_
      refine lv_aload_n hx hb dX7_append_37 rfl (lv_at hl 0 rfl) ?_
      refine va_get (D := D) (ci := 7) (v := .int v_textLength) (C := RX7) (T := TX7) (N := 16) hx hb hts ly_X7_append_X7 hown hK.1 hP 0 rfl rfl 5 (by decide) (hts (.fieldLink RX7 56 "ShorthandOutlinesModel" "textLength" "I") wd_X7_append_0) (fun _ h9 => h9) rfl dX7_append_38 ?_
      refine lv_iload_n hx hb dX7_append_41 rfl (lv_at hl 1 rfl) ?_
      have hi4 := gd_1 hf
      replace hf := gd_2 hf
      refine va_iast hx hb hK.1 hP hD hS 2 0 rfl rfl (inb_in hi4) dX7_append_42 (fun H locs hP hD hS => ?_)
      have hP : va_P D vwCl [(a_t, .inr (7, [.ref a_now, .ref a_past, .int v_saved, .ref a_errors, .ref a_text, .int v_textLength, .ref a_pad, .int v_padLength, .ref a_sounds, .int v_soundMany, .ref a_proposed, .ref a_given, .int v_proposals, .ref a_readings, .int v_readingMany, .long v_hash])), (a_errors, .inl (cI, 4, .inl m_errors)), (a_text, .inl (cI, 8, .inl (upd m_text v_textLength.toNatClampNeg x1)))] H := hP
      have hD : va_D A [(a_t, .inr (7, [.ref a_now, .ref a_past, .int v_saved, .ref a_errors, .ref a_text, .int v_textLength, .ref a_pad, .int v_padLength, .ref a_sounds, .int v_soundMany, .ref a_proposed, .ref a_given, .int v_proposals, .ref a_readings, .int v_readingMany, .long v_hash])), (a_errors, .inl (cI, 4, .inl m_errors)), (a_text, .inl (cI, 8, .inl (upd m_text v_textLength.toNatClampNeg x1)))] := hD
      refine lv_aload_n hx hb dX7_append_43 rfl (lv_at hl 0 rfl) ?_
      refine lv_dup hx hb dX7_append_44 rfl ?_
      refine va_get (D := D) (ci := 7) (v := .int v_textLength) (C := RX7) (T := TX7) (N := 16) hx hb hts ly_X7_append_X7 hown hK.1 hP 0 rfl rfl 5 (by decide) (hts (.fieldLink RX7 56 "ShorthandOutlinesModel" "textLength" "I") wd_X7_append_0) (fun _ h9 => h9) rfl dX7_append_45 ?_
      refine lv_iconst (v := 1) hx hb dX7_append_48 (by decide) ?_
      refine lv_iadd hx hb dX7_append_49 ?_
      refine va_put (D := D) (ci := 7) (v := .int (v_textLength + (1 : Int32))) (ty := .int) (C := RX7) (T := TX7) (N := 16) hx hb hts ly_X7_append_X7 tyX7 tyX7_ok nmX7 hown hK.1 hP hD hS 0 rfl rfl 5 (by decide) (hts (.fieldLink RX7 56 "ShorthandOutlinesModel" "textLength" "I") wd_X7_append_0) (fun _ h9 => h9) rfl (by decide +kernel) rfl rfl (Nat.le_of_ble_eq_true rfl) dX7_append_50 (fun H locs hP hD hS => ?_)
      have hP : va_P D vwCl [(a_t, .inr (7, [.ref a_now, .ref a_past, .int v_saved, .ref a_errors, .ref a_text, .int (v_textLength + (1 : Int32)), .ref a_pad, .int v_padLength, .ref a_sounds, .int v_soundMany, .ref a_proposed, .ref a_given, .int v_proposals, .ref a_readings, .int v_readingMany, .long v_hash])), (a_errors, .inl (cI, 4, .inl m_errors)), (a_text, .inl (cI, 8, .inl (upd m_text v_textLength.toNatClampNeg x1)))] H := hP
      have hD : va_D A [(a_t, .inr (7, [.ref a_now, .ref a_past, .int v_saved, .ref a_errors, .ref a_text, .int (v_textLength + (1 : Int32)), .ref a_pad, .int v_padLength, .ref a_sounds, .int v_soundMany, .ref a_proposed, .ref a_given, .int v_proposals, .ref a_readings, .int v_readingMany, .long v_hash])), (a_errors, .inl (cI, 4, .inl m_errors)), (a_text, .inl (cI, 8, .inl (upd m_text v_textLength.toNatClampNeg x1)))] := hD
      refine lv_aload_n hx hb dX7_append_53 rfl (lv_at hl 0 rfl) ?_
      refine va_get (D := D) (ci := 7) (v := .int (v_textLength + (1 : Int32))) (C := RX7) (T := TX7) (N := 16) hx hb hts ly_X7_append_X7 hown hK.1 hP 0 rfl rfl 5 (by decide) (hts (.fieldLink RX7 56 "ShorthandOutlinesModel" "textLength" "I") wd_X7_append_0) (fun _ h9 => h9) rfl dX7_append_54 ?_
      have ho := so hf
      subst ho
      exact g_iret hx hb hr hlk hP hD hS dX7_append_57
    · replace hf := if_t hb3 hf
      refine lv_aload_n hx hb dX7_append_26 rfl (lv_at hl 0 rfl) ?_
      refine lv_bipush (v := -4) hx hb dX7_append_27 (by decide) ?_
      obtain ⟨u2, hc5, hf⟩ := ob hf
      refine g_ki (wc := [(a_t, .inr (7, [.ref a_now, .ref a_past, .int v_saved, .ref a_errors, .ref a_text, .int v_textLength, .ref a_pad, .int v_padLength, .ref a_sounds, .int v_soundMany, .ref a_proposed, .ref a_given, .int v_proposals, .ref a_readings, .int v_readingMany, .long v_hash])), (a_errors, .inl (cI, 4, .inl m_errors))]) (wc' := [(a_t, .inr (7, [.ref a_now, .ref a_past, .int v_saved, .ref a_errors, .ref a_text, .int v_textLength, .ref a_pad, .int v_padLength, .ref a_sounds, .int v_soundMany, .ref a_proposed, .ref a_given, .int v_proposals, .ref a_readings, .int v_readingMany, .long v_hash])), (a_errors, .inl (cI, 4, .inl u2.2))]) (wr := [(a_text, .inl (cI, 8, .inl m_text))]) (va_runV (As := [.int (-4 : Int32)]) (rest := []) ⟨hx, hb, hml, hown, hts⟩ (kt_X7_fails l D cI cZ cS a_t a_errors a_now a_past a_text a_pad a_sounds a_proposed a_given a_readings v_saved v_textLength v_padLength v_soundMany v_proposals v_readingMany v_hash m_errors (-4 : Int32) u2 hc5 _) (cwV 1 hts gX7_append_X7_fails rfl rfl rfl sg_X7_fails ⟨(Nat.le_of_ble_eq_true rfl), (Nat.le_of_ble_eq_true rfl)⟩) (g_pv (q := (RX7, TX7, 16)) hK hP hD [0, 1] rfl (by decide) rfl rfl) rfl rfl hl.1 rfl (lv_room (Nat.le_of_ble_eq_true rfl)) dX7_append_29 ⟨Nat.zero_le _, Nat.zero_le _⟩) hP hD hS hA [0, 1] [2] rfl rfl (by decide) (by decide) (fun H locs hP hD hS => ?_)
      have hP : va_P D vwCl [(a_text, .inl (cI, 8, .inl m_text)), (a_t, .inr (7, [.ref a_now, .ref a_past, .int v_saved, .ref a_errors, .ref a_text, .int v_textLength, .ref a_pad, .int v_padLength, .ref a_sounds, .int v_soundMany, .ref a_proposed, .ref a_given, .int v_proposals, .ref a_readings, .int v_readingMany, .long v_hash])), (a_errors, .inl (cI, 4, .inl u2.2))] H := hP
      have hD : va_D A [(a_text, .inl (cI, 8, .inl m_text)), (a_t, .inr (7, [.ref a_now, .ref a_past, .int v_saved, .ref a_errors, .ref a_text, .int v_textLength, .ref a_pad, .int v_padLength, .ref a_sounds, .int v_soundMany, .ref a_proposed, .ref a_given, .int v_proposals, .ref a_readings, .int v_readingMany, .long v_hash])), (a_errors, .inl (cI, 4, .inl u2.2))] := hD
      have hP : va_P D vwCl [(a_t, .inr (7, [.ref a_now, .ref a_past, .int v_saved, .ref a_errors, .ref a_text, .int v_textLength, .ref a_pad, .int v_padLength, .ref a_sounds, .int v_soundMany, .ref a_proposed, .ref a_given, .int v_proposals, .ref a_readings, .int v_readingMany, .long v_hash])), (a_errors, .inl (cI, 4, .inl u2.2)), (a_text, .inl (cI, 8, .inl m_text))] H := hP.sub [1, 2, 0] rfl
      have hD : va_D A [(a_t, .inr (7, [.ref a_now, .ref a_past, .int v_saved, .ref a_errors, .ref a_text, .int v_textLength, .ref a_pad, .int v_padLength, .ref a_sounds, .int v_soundMany, .ref a_proposed, .ref a_given, .int v_proposals, .ref a_readings, .int v_readingMany, .long v_hash])), (a_errors, .inl (cI, 4, .inl u2.2)), (a_text, .inl (cI, 8, .inl m_text))] := hD.sub [1, 2, 0] (by decide +kernel) rfl
      have ho := so hf
      subst ho
      exact g_iret hx hb hr hlk hP hD hS dX7_append_32
  · replace hf := if_t hb2 hf
    refine lv_aload_n hx hb dX7_append_10 rfl (lv_at hl 0 rfl) ?_
    refine lv_bipush (v := -2) hx hb dX7_append_11 (by decide) ?_
    obtain ⟨u3, hc6, hf⟩ := ob hf
    refine g_ki (wc := [(a_t, .inr (7, [.ref a_now, .ref a_past, .int v_saved, .ref a_errors, .ref a_text, .int v_textLength, .ref a_pad, .int v_padLength, .ref a_sounds, .int v_soundMany, .ref a_proposed, .ref a_given, .int v_proposals, .ref a_readings, .int v_readingMany, .long v_hash])), (a_errors, .inl (cI, 4, .inl m_errors))]) (wc' := [(a_t, .inr (7, [.ref a_now, .ref a_past, .int v_saved, .ref a_errors, .ref a_text, .int v_textLength, .ref a_pad, .int v_padLength, .ref a_sounds, .int v_soundMany, .ref a_proposed, .ref a_given, .int v_proposals, .ref a_readings, .int v_readingMany, .long v_hash])), (a_errors, .inl (cI, 4, .inl u3.2))]) (wr := [(a_text, .inl (cI, 8, .inl m_text))]) (va_runV (As := [.int (-2 : Int32)]) (rest := []) ⟨hx, hb, hml, hown, hts⟩ (kt_X7_fails l D cI cZ cS a_t a_errors a_now a_past a_text a_pad a_sounds a_proposed a_given a_readings v_saved v_textLength v_padLength v_soundMany v_proposals v_readingMany v_hash m_errors (-2 : Int32) u3 hc6 _) (cwV 1 hts gX7_append_X7_fails rfl rfl rfl sg_X7_fails ⟨(Nat.le_of_ble_eq_true rfl), (Nat.le_of_ble_eq_true rfl)⟩) (g_pv (q := (RX7, TX7, 16)) hK hP hD [0, 1] rfl (by decide) rfl rfl) rfl rfl hl.1 rfl (lv_room (Nat.le_of_ble_eq_true rfl)) dX7_append_13 ⟨Nat.zero_le _, Nat.zero_le _⟩) hP hD hS hA [0, 1] [2] rfl rfl (by decide) (by decide) (fun H locs hP hD hS => ?_)
    have hP : va_P D vwCl [(a_text, .inl (cI, 8, .inl m_text)), (a_t, .inr (7, [.ref a_now, .ref a_past, .int v_saved, .ref a_errors, .ref a_text, .int v_textLength, .ref a_pad, .int v_padLength, .ref a_sounds, .int v_soundMany, .ref a_proposed, .ref a_given, .int v_proposals, .ref a_readings, .int v_readingMany, .long v_hash])), (a_errors, .inl (cI, 4, .inl u3.2))] H := hP
    have hD : va_D A [(a_text, .inl (cI, 8, .inl m_text)), (a_t, .inr (7, [.ref a_now, .ref a_past, .int v_saved, .ref a_errors, .ref a_text, .int v_textLength, .ref a_pad, .int v_padLength, .ref a_sounds, .int v_soundMany, .ref a_proposed, .ref a_given, .int v_proposals, .ref a_readings, .int v_readingMany, .long v_hash])), (a_errors, .inl (cI, 4, .inl u3.2))] := hD
    have hP : va_P D vwCl [(a_t, .inr (7, [.ref a_now, .ref a_past, .int v_saved, .ref a_errors, .ref a_text, .int v_textLength, .ref a_pad, .int v_padLength, .ref a_sounds, .int v_soundMany, .ref a_proposed, .ref a_given, .int v_proposals, .ref a_readings, .int v_readingMany, .long v_hash])), (a_errors, .inl (cI, 4, .inl u3.2)), (a_text, .inl (cI, 8, .inl m_text))] H := hP.sub [1, 2, 0] rfl
    have hD : va_D A [(a_t, .inr (7, [.ref a_now, .ref a_past, .int v_saved, .ref a_errors, .ref a_text, .int v_textLength, .ref a_pad, .int v_padLength, .ref a_sounds, .int v_soundMany, .ref a_proposed, .ref a_given, .int v_proposals, .ref a_readings, .int v_readingMany, .long v_hash])), (a_errors, .inl (cI, 4, .inl u3.2)), (a_text, .inl (cI, 8, .inl m_text))] := hD.sub [1, 2, 0] (by decide +kernel) rfl
    have ho := so hf
    subst ho
    exact g_iret hx hb hr hlk hP hD hS dX7_append_16

theorem sg_X7_clearText : yX7_clearText.cls = RX7 ∧ yX7_clearText.cls ≠ "java/lang/invoke/MethodHandle" ∧ yX7_clearText.cls ≠ "java/lang/invoke/VarHandle" ∧ (parseMethodDescriptor yX7_clearText.desc).map (fun d => d.parameters.length) = some 0 := by decide +kernel
abbrev rm_X7_clearText : Room := { frames := 0, cells := 0, slots := 0, locals := 0 }
theorem wd_X7_clearText_0 : (.fieldLink RX7 56 "ShorthandOutlinesModel" "textLength" "I" : Cond) ∈ wsX7_clearText := by decide +kernel
theorem ly_X7_clearText_X7 : ∀ w ∈ u_ws RX7 TX7 16, w ∈ wsX7_clearText := by decide +kernel
set_option maxHeartbeats 4000000 in
set_option maxRecDepth 100000 in
theorem kt_X7_clearText (l : Launch) (D : va_G) (cI cZ cS : ClassId) (a_t : Nat) (a_now : Nat) (a_past : Nat) (a_errors : Nat) (a_text : Nat) (a_pad : Nat) (a_sounds : Nat) (a_proposed : Nat) (a_given : Nat) (a_readings : Nat) (v_saved : Int32) (v_padLength : Int32) (v_soundMany : Int32) (v_proposals : Int32) (v_readingMany : Int32) (v_hash : Int64) (v_textLength : Int32) (o : Int32 × Int32) (hf : fn_X7_clearText v_textLength = some o) (sz : Nat) : Met l yX7_clearText wsX7_clearText rm_X7_clearText (va_Pc [.ref a_t] (gPre D cI cZ cS [(a_t, .inr (7, [.ref a_now, .ref a_past, .int v_saved, .ref a_errors, .ref a_text, .int v_textLength, .ref a_pad, .int v_padLength, .ref a_sounds, .int v_soundMany, .ref a_proposed, .ref a_given, .int v_proposals, .ref a_readings, .int v_readingMany, .long v_hash]))] sz)) (va_Qi (fun r (_ : Unit) => r = o.1) (fun _ => gB D [(a_t, .inr (7, [.ref a_now, .ref a_past, .int v_saved, .ref a_errors, .ref a_text, .int o.2, .ref a_pad, .int v_padLength, .ref a_sounds, .int v_soundMany, .ref a_proposed, .ref a_given, .int v_proposals, .ref a_readings, .int v_readingMany, .long v_hash]))] (va_A [(a_t, .inr (7, [.ref a_now, .ref a_past, .int v_saved, .ref a_errors, .ref a_text, .int v_textLength, .ref a_pad, .int v_padLength, .ref a_sounds, .int v_soundMany, .ref a_proposed, .ref a_given, .int v_proposals, .ref a_readings, .int v_readingMany, .long v_hash]))] sz)) (va_A [(a_t, .inr (7, [.ref a_now, .ref a_past, .int v_saved, .ref a_errors, .ref a_text, .int v_textLength, .ref a_pad, .int v_padLength, .ref a_sounds, .int v_soundMany, .ref a_proposed, .ref a_given, .int v_proposals, .ref a_readings, .int v_readingMany, .long v_hash]))] sz)) 0 0 (va_A [(a_t, .inr (7, [.ref a_now, .ref a_past, .int v_saved, .ref a_errors, .ref a_text, .int v_textLength, .ref a_pad, .int v_padLength, .ref a_sounds, .int v_soundMany, .ref a_proposed, .ref a_given, .int v_proposals, .ref a_readings, .int v_readingMany, .long v_hash]))] sz) := by
  refine g_entry (Qc := fun A => va_Qi (fun r (_ : Unit) => r = o.1) (fun _ => gB D [(a_t, .inr (7, [.ref a_now, .ref a_past, .int v_saved, .ref a_errors, .ref a_text, .int o.2, .ref a_pad, .int v_padLength, .ref a_sounds, .int v_soundMany, .ref a_proposed, .ref a_given, .int v_proposals, .ref a_readings, .int v_readingMany, .long v_hash]))] A) A) (cc := cX7_clearText) (maxL := 2) (ret := (some .int)) (by decide) rfl (Nat.le_of_ble_eq_true rfl) ?_ sz
  intro p e s m below meth c A ls Cx hP hD hS hl
  obtain ⟨hx, hb, hml, hr, hlk, hown, hin, hts, hK, hA⟩ := id Cx
  have hown : s.vm.findClass RX7 = some m.cls := hown
  have hl : lv_has ls 2 [(0, .ref a_t)] := hl
  unfold fn_X7_clearText at hf
  refine lv_aload_n hx hb dX7_clearText_0 rfl (lv_at hl 0 rfl) ?_
  refine va_get (D := D) (ci := 7) (v := .int v_textLength) (C := RX7) (T := TX7) (N := 16) hx hb hts ly_X7_clearText_X7 hown hK.1 hP 0 rfl rfl 5 (by decide) (hts (.fieldLink RX7 56 "ShorthandOutlinesModel" "textLength" "I") wd_X7_clearText_0) (fun _ h9 => h9) rfl dX7_clearText_1 ?_
  refine lv_istore_n (lv' := [(1, .int v_textLength), (0, .ref a_t)]) hx hb dX7_clearText_4 rfl hl (by decide) rfl (fun ls hl => ?_)
  refine lv_aload_n hx hb dX7_clearText_5 rfl (lv_at hl 1 rfl) ?_
  refine lv_iconst (v := 0) hx hb dX7_clearText_6 (by decide) ?_
  refine va_put (D := D) (ci := 7) (v := .int (0 : Int32)) (ty := .int) (C := RX7) (T := TX7) (N := 16) hx hb hts ly_X7_clearText_X7 tyX7 tyX7_ok nmX7 hown hK.1 hP hD hS 0 rfl rfl 5 (by decide) (hts (.fieldLink RX7 56 "ShorthandOutlinesModel" "textLength" "I") wd_X7_clearText_0) (fun _ h9 => h9) rfl (by decide +kernel) rfl rfl (Nat.le_of_ble_eq_true rfl) dX7_clearText_7 (fun H locs hP hD hS => ?_)
  have hP : va_P D vwCl [(a_t, .inr (7, [.ref a_now, .ref a_past, .int v_saved, .ref a_errors, .ref a_text, .int (0 : Int32), .ref a_pad, .int v_padLength, .ref a_sounds, .int v_soundMany, .ref a_proposed, .ref a_given, .int v_proposals, .ref a_readings, .int v_readingMany, .long v_hash]))] H := hP
  have hD : va_D A [(a_t, .inr (7, [.ref a_now, .ref a_past, .int v_saved, .ref a_errors, .ref a_text, .int (0 : Int32), .ref a_pad, .int v_padLength, .ref a_sounds, .int v_soundMany, .ref a_proposed, .ref a_given, .int v_proposals, .ref a_readings, .int v_readingMany, .long v_hash]))] := hD
  refine lv_iload_n hx hb dX7_clearText_10 rfl (lv_at hl 0 rfl) ?_
  have ho := so hf
  subst ho
  exact g_iret hx hb hr hlk hP hD hS dX7_clearText_11

theorem sg_X7_isText : yX7_isText.cls = RX7 ∧ yX7_isText.cls ≠ "java/lang/invoke/MethodHandle" ∧ yX7_isText.cls ≠ "java/lang/invoke/VarHandle" ∧ (parseMethodDescriptor yX7_isText.desc).map (fun d => d.parameters.length) = some 0 := by decide +kernel
abbrev rm_X7_isText : Room := { frames := 1, cells := 0, slots := 0, locals := 22 }
theorem wd_X7_isText_0 : (.fieldLink RX7 56 "ShorthandOutlinesModel" "textLength" "I" : Cond) ∈ wsX7_isText := by decide +kernel
theorem wd_X7_isText_1 : (.fieldLink RX7 19 "ShorthandOutlinesModel" "text" "[I" : Cond) ∈ wsX7_isText := by decide +kernel
theorem ly_X7_isText_X7 : ∀ w ∈ u_ws RX7 TX7 16, w ∈ wsX7_isText := by decide +kernel
set_option maxHeartbeats 4000000 in
set_option maxRecDepth 100000 in
theorem lt_X7_isText_15 {p : Program} {l : Launch} {e : Env} {s : State} {m : MethodId} {args : Array Value} {below : List Frame} {meth : Method} {c : Code} {D : va_G} {cI cZ cS : ClassId} {A : Nat → Prop} {Q : State → Prop} (Cx : gCx p s m meth c args cX7_isText 3 (some .boolean) yX7_isText wsX7_isText D cI cZ cS A) (a_t : Nat) (a_now : Nat) (a_past : Nat) (v_saved : Int32) (a_errors : Nat) (a_text : Nat) (v_textLength : Int32) (a_pad : Nat) (v_padLength : Int32) (a_sounds : Nat) (v_soundMany : Int32) (a_proposed : Nat) (a_given : Nat) (v_proposals : Int32) (a_readings : Nat) (v_readingMany : Int32) (v_hash : Int64) (m_text : Nat → Int32) : ∀ (n : Nat) (y1 : Int32) (y2 : Int32) (o : Int32) (H : Heap) (locs : List Loc) (ls : Array Slot), lp_X7_isText_15 v_textLength m_text n y1 y2 = some o → va_P D vwCl [(a_t, .inr (7, [.ref a_now, .ref a_past, .int v_saved, .ref a_errors, .ref a_text, .int v_textLength, .ref a_pad, .int v_padLength, .ref a_sounds, .int v_soundMany, .ref a_proposed, .ref a_given, .int v_proposals, .ref a_readings, .int v_readingMany, .long v_hash])), (a_text, .inl (cI, 8, .inl m_text))] H → va_D A [(a_t, .inr (7, [.ref a_now, .ref a_past, .int v_saved, .ref a_errors, .ref a_text, .int v_textLength, .ref a_pad, .int v_padLength, .ref a_sounds, .int v_soundMany, .ref a_proposed, .ref a_given, .int v_proposals, .ref a_readings, .int v_readingMany, .long v_hash])), (a_text, .inl (cI, 8, .inl m_text))] → va_S A s.heap H locs → lv_has ls 3 [(0, .ref a_t), (1, .int y1), (2, .int y2)] → (∀ (H : Heap) (locs : List Loc) (ls : Array Slot), va_P D vwCl [(a_t, .inr (7, [.ref a_now, .ref a_past, .int v_saved, .ref a_errors, .ref a_text, .int v_textLength, .ref a_pad, .int v_padLength, .ref a_sounds, .int v_soundMany, .ref a_proposed, .ref a_given, .int v_proposals, .ref a_readings, .int v_readingMany, .long v_hash])), (a_text, .inl (cI, 8, .inl m_text))] H → va_D A [(a_t, .inr (7, [.ref a_now, .ref a_past, .int v_saved, .ref a_errors, .ref a_text, .int v_textLength, .ref a_pad, .int v_padLength, .ref a_sounds, .int v_soundMany, .ref a_proposed, .ref a_given, .int v_proposals, .ref a_readings, .int v_readingMany, .long v_hash])), (a_text, .inl (cI, 8, .inl m_text))] → va_S A s.heap H locs → lv_has ls 3 [(1, .int o)] → W p l e rm_X7_isText s m args below meth c H locs 0 0 Q (F0 m 55 ls [])) → W p l e rm_X7_isText s m args below meth c H locs 0 0 Q (F0 m 15 ls []) := by
  obtain ⟨hx, hb, hml, hr, hlk, hown, hin, hts, hK, hA⟩ := id Cx
  have hown : s.vm.findClass RX7 = some m.cls := hown
  intro n
  induction n with
  | zero =>
    intro y1 y2 o H locs ls hf
    rw [lp_X7_isText_15] at hf
    cases hf
  | succ n ih =>
    intro y1 y2 o H locs ls hf hP hD hS hl kk
    rw [lp_X7_isText_15] at hf
    refine lv_iload_n hx hb dX7_isText_15 rfl (lv_at hl 2 rfl) ?_
    refine lv_aload_n hx hb dX7_isText_16 rfl (lv_at hl 0 rfl) ?_
    refine va_get (D := D) (ci := 7) (v := .int v_textLength) (C := RX7) (T := TX7) (N := 16) hx hb hts ly_X7_isText_X7 hown hK.1 hP 0 rfl rfl 5 (by decide) (hts (.fieldLink RX7 56 "ShorthandOutlinesModel" "textLength" "I") wd_X7_isText_0) (fun _ h9 => h9) rfl dX7_isText_17 ?_
    refine lv_icmp_ge (tgt := 55) hx hb dX7_isText_20 (by decide) (fun hb1 => ?_) (fun hb1 => ?_)
    · replace hf := if_t hb1 hf
      have ho := so hf
      subst ho
      exact kk _ _ _ hP hD hS (lv_sub hl [1] rfl)
    · replace hf := if_f hb1 hf
      refine lv_iload_n hx hb dX7_isText_23 rfl (lv_at hl 1 rfl) ?_
      refine lv_if_eq (tgt := 47) hx hb dX7_isText_24 (by decide) (fun hb2 => ?_) (fun hb2 => ?_)
      · replace hf := if_t hb2 hf
        refine lv_iconst (v := 0) hx hb dX7_isText_47 (by decide) ?_
        refine lv_istore_n (lv' := [(1, .int (0 : Int32)), (0, .ref a_t), (2, .int y2)]) hx hb dX7_isText_48 rfl hl (by decide) rfl (fun ls hl => ?_)
        refine lv_iinc (v := (y2 + 1)) (lv' := [(2, .int (y2 + 1)), (1, .int (0 : Int32)), (0, .ref a_t)]) hx hb dX7_isText_49 hl (k := 2) rfl rfl (by decide) rfl (fun ls hl => ?_)
        refine lv_goto (tgt := 15) hx hb dX7_isText_52 (by decide) ?_
        exact ih (0 : Int32) (y2 + 1) o _ _ _ hf hP hD hS (lv_sub hl [2, 1, 0] rfl) kk
      · replace hf := if_f hb2 hf
        refine lv_aload_n hx hb dX7_isText_27 rfl (lv_at hl 0 rfl) ?_
        refine va_get (D := D) (ci := 7) (v := .ref a_text) (C := RX7) (T := TX7) (N := 16) hx hb hts ly_X7_isText_X7 hown hK.1 hP 0 rfl rfl 4 (by decide) (hts (.fieldLink RX7 19 "ShorthandOutlinesModel" "text" "[I") wd_X7_isText_1) (fun _ h9 => h9) rfl dX7_isText_28 ?_
        refine lv_iload_n hx hb dX7_isText_31 rfl (lv_at hl 2 rfl) ?_
        have hi3 := gd_1 hf
        replace hf := gd_2 hf
        refine va_iald hx hb hK.1 hP 1 0 rfl rfl (inb_in hi3) dX7_isText_32 ?_
        refine lv_bipush (v := 97) hx hb dX7_isText_33 (by decide) ?_
        refine lv_bipush (v := 104) hx hb dX7_isText_35 (by decide) ?_
        obtain ⟨u1, hc4, hf⟩ := ob hf
        refine g_ki (wc := []) (wc' := []) (wr := [(a_t, .inr (7, [.ref a_now, .ref a_past, .int v_saved, .ref a_errors, .ref a_text, .int v_textLength, .ref a_pad, .int v_padLength, .ref a_sounds, .int v_soundMany, .ref a_proposed, .ref a_given, .int v_proposals, .ref a_readings, .int v_readingMany, .long v_hash])), (a_text, .inl (cI, 8, .inl m_text))]) (va_runS (As := [.int (m_text y2.toNatClampNeg), .int (97 : Int32), .int (104 : Int32)]) (rest := []) ⟨hx, hb, hml, hown, hts⟩ (kt_X7_within l D cI cZ cS (m_text y2.toNatClampNeg) (97 : Int32) (104 : Int32) u1 hc4 _) (va_cwS 3 hts gX7_isText_X7_within rfl rfl rfl sg_X7_within.2 ⟨(Nat.le_of_ble_eq_true rfl), (Nat.le_of_ble_eq_true rfl)⟩) (g_ps hK hP hD [] rfl (by decide)) rfl rfl hl.1 rfl (lv_room (Nat.le_of_ble_eq_true rfl)) dX7_isText_37 ⟨Nat.zero_le _, Nat.zero_le _⟩) hP hD hS hA [] [0, 1] rfl rfl (by decide) (by decide) (fun H locs hP hD hS => ?_)
        have hP : va_P D vwCl [(a_t, .inr (7, [.ref a_now, .ref a_past, .int v_saved, .ref a_errors, .ref a_text, .int v_textLength, .ref a_pad, .int v_padLength, .ref a_sounds, .int v_soundMany, .ref a_proposed, .ref a_given, .int v_proposals, .ref a_readings, .int v_readingMany, .long v_hash])), (a_text, .inl (cI, 8, .inl m_text))] H := hP
        have hD : va_D A [(a_t, .inr (7, [.ref a_now, .ref a_past, .int v_saved, .ref a_errors, .ref a_text, .int v_textLength, .ref a_pad, .int v_padLength, .ref a_sounds, .int v_soundMany, .ref a_proposed, .ref a_given, .int v_proposals, .ref a_readings, .int v_readingMany, .long v_hash])), (a_text, .inl (cI, 8, .inl m_text))] := hD
        refine lv_if_eq (tgt := 47) hx hb dX7_isText_40 (by decide) (fun hb5 => ?_) (fun hb5 => ?_)
        · replace hf := if_t hb5 hf
          refine lv_iconst (v := 0) hx hb dX7_isText_47 (by decide) ?_
          refine lv_istore_n (lv' := [(1, .int (0 : Int32)), (0, .ref a_t), (2, .int y2)]) hx hb dX7_isText_48 rfl hl (by decide) rfl (fun ls hl => ?_)
          refine lv_iinc (v := (y2 + 1)) (lv' := [(2, .int (y2 + 1)), (1, .int (0 : Int32)), (0, .ref a_t)]) hx hb dX7_isText_49 hl (k := 2) rfl rfl (by decide) rfl (fun ls hl => ?_)
          refine lv_goto (tgt := 15) hx hb dX7_isText_52 (by decide) ?_
          exact ih (0 : Int32) (y2 + 1) o _ _ _ hf hP hD hS (lv_sub hl [2, 1, 0] rfl) kk
        · replace hf := if_f hb5 hf
          refine lv_iconst (v := 1) hx hb dX7_isText_43 (by decide) ?_
          refine lv_goto (tgt := 48) hx hb dX7_isText_44 (by decide) ?_
          refine lv_istore_n (lv' := [(1, .int (1 : Int32)), (0, .ref a_t), (2, .int y2)]) hx hb dX7_isText_48 rfl hl (by decide) rfl (fun ls hl => ?_)
          refine lv_iinc (v := (y2 + 1)) (lv' := [(2, .int (y2 + 1)), (1, .int (1 : Int32)), (0, .ref a_t)]) hx hb dX7_isText_49 hl (k := 2) rfl rfl (by decide) rfl (fun ls hl => ?_)
          refine lv_goto (tgt := 15) hx hb dX7_isText_52 (by decide) ?_
          exact ih (1 : Int32) (y2 + 1) o _ _ _ hf hP hD hS (lv_sub hl [2, 1, 0] rfl) kk
set_option maxHeartbeats 4000000 in
set_option maxRecDepth 100000 in
theorem kt_X7_isText (l : Launch) (D : va_G) (cI cZ cS : ClassId) (a_t : Nat) (a_text : Nat) (a_now : Nat) (a_past : Nat) (a_errors : Nat) (a_pad : Nat) (a_sounds : Nat) (a_proposed : Nat) (a_given : Nat) (a_readings : Nat) (v_saved : Int32) (v_padLength : Int32) (v_soundMany : Int32) (v_proposals : Int32) (v_readingMany : Int32) (v_hash : Int64) (v_textLength : Int32) (m_text : Nat → Int32) (o : Int32) (hf : fn_X7_isText v_textLength m_text = some o) (sz : Nat) : Met l yX7_isText wsX7_isText rm_X7_isText (va_Pc [.ref a_t] (gPre D cI cZ cS [(a_t, .inr (7, [.ref a_now, .ref a_past, .int v_saved, .ref a_errors, .ref a_text, .int v_textLength, .ref a_pad, .int v_padLength, .ref a_sounds, .int v_soundMany, .ref a_proposed, .ref a_given, .int v_proposals, .ref a_readings, .int v_readingMany, .long v_hash])), (a_text, .inl (cI, 8, .inl m_text))] sz)) (va_Qi (fun r (_ : Unit) => r = o) (fun _ => gB D [(a_t, .inr (7, [.ref a_now, .ref a_past, .int v_saved, .ref a_errors, .ref a_text, .int v_textLength, .ref a_pad, .int v_padLength, .ref a_sounds, .int v_soundMany, .ref a_proposed, .ref a_given, .int v_proposals, .ref a_readings, .int v_readingMany, .long v_hash])), (a_text, .inl (cI, 8, .inl m_text))] (va_A [(a_t, .inr (7, [.ref a_now, .ref a_past, .int v_saved, .ref a_errors, .ref a_text, .int v_textLength, .ref a_pad, .int v_padLength, .ref a_sounds, .int v_soundMany, .ref a_proposed, .ref a_given, .int v_proposals, .ref a_readings, .int v_readingMany, .long v_hash])), (a_text, .inl (cI, 8, .inl m_text))] sz)) (va_A [(a_t, .inr (7, [.ref a_now, .ref a_past, .int v_saved, .ref a_errors, .ref a_text, .int v_textLength, .ref a_pad, .int v_padLength, .ref a_sounds, .int v_soundMany, .ref a_proposed, .ref a_given, .int v_proposals, .ref a_readings, .int v_readingMany, .long v_hash])), (a_text, .inl (cI, 8, .inl m_text))] sz)) 0 0 (va_A [(a_t, .inr (7, [.ref a_now, .ref a_past, .int v_saved, .ref a_errors, .ref a_text, .int v_textLength, .ref a_pad, .int v_padLength, .ref a_sounds, .int v_soundMany, .ref a_proposed, .ref a_given, .int v_proposals, .ref a_readings, .int v_readingMany, .long v_hash])), (a_text, .inl (cI, 8, .inl m_text))] sz) := by
  refine g_entry (Qc := fun A => va_Qi (fun r (_ : Unit) => r = o) (fun _ => gB D [(a_t, .inr (7, [.ref a_now, .ref a_past, .int v_saved, .ref a_errors, .ref a_text, .int v_textLength, .ref a_pad, .int v_padLength, .ref a_sounds, .int v_soundMany, .ref a_proposed, .ref a_given, .int v_proposals, .ref a_readings, .int v_readingMany, .long v_hash])), (a_text, .inl (cI, 8, .inl m_text))] A) A) (cc := cX7_isText) (maxL := 3) (ret := (some .boolean)) (by decide) rfl (Nat.le_of_ble_eq_true rfl) ?_ sz
  intro p e s m below meth c A ls Cx hP hD hS hl
  obtain ⟨hx, hb, hml, hr, hlk, hown, hin, hts, hK, hA⟩ := id Cx
  have hown : s.vm.findClass RX7 = some m.cls := hown
  have hl : lv_has ls 3 [(0, .ref a_t)] := hl
  unfold fn_X7_isText at hf
  refine lv_aload_n hx hb dX7_isText_0 rfl (lv_at hl 0 rfl) ?_
  refine va_get (D := D) (ci := 7) (v := .int v_textLength) (C := RX7) (T := TX7) (N := 16) hx hb hts ly_X7_isText_X7 hown hK.1 hP 0 rfl rfl 5 (by decide) (hts (.fieldLink RX7 56 "ShorthandOutlinesModel" "textLength" "I") wd_X7_isText_0) (fun _ h9 => h9) rfl dX7_isText_1 ?_
  refine lv_if_le (tgt := 11) hx hb dX7_isText_4 (by decide) (fun hb1 => ?_) (fun hb1 => ?_)
  · replace hf := if_t hb1 hf
    refine lv_iconst (v := 0) hx hb dX7_isText_11 (by decide) ?_
    refine lv_istore_n (lv' := [(1, .int (0 : Int32)), (0, .ref a_t)]) hx hb dX7_isText_12 rfl hl (by decide) rfl (fun ls hl => ?_)
    refine lv_iconst (v := 0) hx hb dX7_isText_13 (by decide) ?_
    refine lv_istore_n (lv' := [(2, .int (0 : Int32)), (1, .int (0 : Int32)), (0, .ref a_t)]) hx hb dX7_isText_14 rfl hl (by decide) rfl (fun ls hl => ?_)
    obtain ⟨u1, hc2, hf⟩ := ob hf
    refine lt_X7_isText_15 Cx a_t a_now a_past v_saved a_errors a_text v_textLength a_pad v_padLength a_sounds v_soundMany a_proposed a_given v_proposals a_readings v_readingMany v_hash m_text 1024 (0 : Int32) (0 : Int32) u1 _ _ _ hc2 hP hD hS (lv_sub hl [2, 1, 0] rfl) (fun H locs ls hP hD hS hl => ?_)
    have hP : va_P D vwCl [(a_t, .inr (7, [.ref a_now, .ref a_past, .int v_saved, .ref a_errors, .ref a_text, .int v_textLength, .ref a_pad, .int v_padLength, .ref a_sounds, .int v_soundMany, .ref a_proposed, .ref a_given, .int v_proposals, .ref a_readings, .int v_readingMany, .long v_hash])), (a_text, .inl (cI, 8, .inl m_text))] H := hP
    have hD : va_D A [(a_t, .inr (7, [.ref a_now, .ref a_past, .int v_saved, .ref a_errors, .ref a_text, .int v_textLength, .ref a_pad, .int v_padLength, .ref a_sounds, .int v_soundMany, .ref a_proposed, .ref a_given, .int v_proposals, .ref a_readings, .int v_readingMany, .long v_hash])), (a_text, .inl (cI, 8, .inl m_text))] := hD
    have hl : lv_has ls 3 [(1, .int u1)] := hl
    refine lv_iload_n hx hb dX7_isText_55 rfl (lv_at hl 0 rfl) ?_
    have hz3 := gd_1 hf
    replace hf := gd_2 hf
    have ho := so hf
    subst ho
    exact g_zret hx hb hr hlk (bo_nar hz3) hP hD hS dX7_isText_56
  · replace hf := if_f hb1 hf
    refine lv_iconst (v := 1) hx hb dX7_isText_7 (by decide) ?_
    refine lv_goto (tgt := 12) hx hb dX7_isText_8 (by decide) ?_
    refine lv_istore_n (lv' := [(1, .int (1 : Int32)), (0, .ref a_t)]) hx hb dX7_isText_12 rfl hl (by decide) rfl (fun ls hl => ?_)
    refine lv_iconst (v := 0) hx hb dX7_isText_13 (by decide) ?_
    refine lv_istore_n (lv' := [(2, .int (0 : Int32)), (1, .int (1 : Int32)), (0, .ref a_t)]) hx hb dX7_isText_14 rfl hl (by decide) rfl (fun ls hl => ?_)
    obtain ⟨u2, hc4, hf⟩ := ob hf
    refine lt_X7_isText_15 Cx a_t a_now a_past v_saved a_errors a_text v_textLength a_pad v_padLength a_sounds v_soundMany a_proposed a_given v_proposals a_readings v_readingMany v_hash m_text 1024 (1 : Int32) (0 : Int32) u2 _ _ _ hc4 hP hD hS (lv_sub hl [2, 1, 0] rfl) (fun H locs ls hP hD hS hl => ?_)
    have hP : va_P D vwCl [(a_t, .inr (7, [.ref a_now, .ref a_past, .int v_saved, .ref a_errors, .ref a_text, .int v_textLength, .ref a_pad, .int v_padLength, .ref a_sounds, .int v_soundMany, .ref a_proposed, .ref a_given, .int v_proposals, .ref a_readings, .int v_readingMany, .long v_hash])), (a_text, .inl (cI, 8, .inl m_text))] H := hP
    have hD : va_D A [(a_t, .inr (7, [.ref a_now, .ref a_past, .int v_saved, .ref a_errors, .ref a_text, .int v_textLength, .ref a_pad, .int v_padLength, .ref a_sounds, .int v_soundMany, .ref a_proposed, .ref a_given, .int v_proposals, .ref a_readings, .int v_readingMany, .long v_hash])), (a_text, .inl (cI, 8, .inl m_text))] := hD
    have hl : lv_has ls 3 [(1, .int u2)] := hl
    refine lv_iload_n hx hb dX7_isText_55 rfl (lv_at hl 0 rfl) ?_
    have hz5 := gd_1 hf
    replace hf := gd_2 hf
    have ho := so hf
    subst ho
    exact g_zret hx hb hr hlk (bo_nar hz5) hP hD hS dX7_isText_56

theorem sg_X7_addWord : yX7_addWord.cls = RX7 ∧ yX7_addWord.cls ≠ "java/lang/invoke/MethodHandle" ∧ yX7_addWord.cls ≠ "java/lang/invoke/VarHandle" ∧ (parseMethodDescriptor yX7_addWord.desc).map (fun d => d.parameters.length) = some 1 := by decide +kernel
abbrev rm_X7_addWord : Room := { frames := 2, cells := 0, slots := 0, locals := 44 }
theorem wd_X7_addWord_0 : (.fieldLink RX7 7 "ShorthandOutlinesModel" "now" "[I" : Cond) ∈ wsX7_addWord := by decide +kernel
theorem wd_X7_addWord_1 : (.fieldLink RX7 56 "ShorthandOutlinesModel" "textLength" "I" : Cond) ∈ wsX7_addWord := by decide +kernel
theorem wd_X7_addWord_2 : (.fieldLink RX7 19 "ShorthandOutlinesModel" "text" "[I" : Cond) ∈ wsX7_addWord := by decide +kernel
theorem ly_X7_addWord_X7 : ∀ w ∈ u_ws RX7 TX7 16, w ∈ wsX7_addWord := by decide +kernel
set_option maxHeartbeats 4000000 in
set_option maxRecDepth 100000 in
theorem lt_X7_addWord_98 {p : Program} {l : Launch} {e : Env} {s : State} {m : MethodId} {args : Array Value} {below : List Frame} {meth : Method} {c : Code} {D : va_G} {cI cZ cS : ClassId} {A : Nat → Prop} {Q : State → Prop} (Cx : gCx p s m meth c args cX7_addWord 4 (some .int) yX7_addWord wsX7_addWord D cI cZ cS A) (a_t : Nat) (a_now : Nat) (a_past : Nat) (v_saved : Int32) (a_errors : Nat) (a_text : Nat) (v_textLength : Int32) (a_pad : Nat) (v_padLength : Int32) (a_sounds : Nat) (v_soundMany : Int32) (a_proposed : Nat) (a_given : Nat) (v_proposals : Int32) (a_readings : Nat) (v_readingMany : Int32) (v_hash : Int64) (m_past : Nat → Int32) (m_errors : Nat → Int32) (m_text : Nat → Int32) (y2 : Int32) : ∀ (n : Nat) (y3 : Int32) (m_now : Nat → Int32) (o : (Nat → Int32)) (H : Heap) (locs : List Loc) (ls : Array Slot), lp_X7_addWord_98 v_textLength y2 m_text n y3 m_now = some o → va_P D vwCl [(a_t, .inr (7, [.ref a_now, .ref a_past, .int v_saved, .ref a_errors, .ref a_text, .int v_textLength, .ref a_pad, .int v_padLength, .ref a_sounds, .int v_soundMany, .ref a_proposed, .ref a_given, .int v_proposals, .ref a_readings, .int v_readingMany, .long v_hash])), (a_now, .inl (cI, 150, .inl m_now)), (a_past, .inl (cI, 750, .inl m_past)), (a_errors, .inl (cI, 4, .inl m_errors)), (a_text, .inl (cI, 8, .inl m_text))] H → va_D A [(a_t, .inr (7, [.ref a_now, .ref a_past, .int v_saved, .ref a_errors, .ref a_text, .int v_textLength, .ref a_pad, .int v_padLength, .ref a_sounds, .int v_soundMany, .ref a_proposed, .ref a_given, .int v_proposals, .ref a_readings, .int v_readingMany, .long v_hash])), (a_now, .inl (cI, 150, .inl m_now)), (a_past, .inl (cI, 750, .inl m_past)), (a_errors, .inl (cI, 4, .inl m_errors)), (a_text, .inl (cI, 8, .inl m_text))] → va_S A s.heap H locs → lv_has ls 4 [(0, .ref a_t), (2, .int y2), (3, .int y3)] → (∀ (H : Heap) (locs : List Loc) (ls : Array Slot), va_P D vwCl [(a_t, .inr (7, [.ref a_now, .ref a_past, .int v_saved, .ref a_errors, .ref a_text, .int v_textLength, .ref a_pad, .int v_padLength, .ref a_sounds, .int v_soundMany, .ref a_proposed, .ref a_given, .int v_proposals, .ref a_readings, .int v_readingMany, .long v_hash])), (a_now, .inl (cI, 150, .inl o)), (a_past, .inl (cI, 750, .inl m_past)), (a_errors, .inl (cI, 4, .inl m_errors)), (a_text, .inl (cI, 8, .inl m_text))] H → va_D A [(a_t, .inr (7, [.ref a_now, .ref a_past, .int v_saved, .ref a_errors, .ref a_text, .int v_textLength, .ref a_pad, .int v_padLength, .ref a_sounds, .int v_soundMany, .ref a_proposed, .ref a_given, .int v_proposals, .ref a_readings, .int v_readingMany, .long v_hash])), (a_now, .inl (cI, 150, .inl o)), (a_past, .inl (cI, 750, .inl m_past)), (a_errors, .inl (cI, 4, .inl m_errors)), (a_text, .inl (cI, 8, .inl m_text))] → va_S A s.heap H locs → lv_has ls 4 [(0, .ref a_t), (2, .int y2)] → W p l e rm_X7_addWord s m args below meth c H locs 0 0 Q (F0 m 135 ls [])) → W p l e rm_X7_addWord s m args below meth c H locs 0 0 Q (F0 m 98 ls []) := by
  obtain ⟨hx, hb, hml, hr, hlk, hown, hin, hts, hK, hA⟩ := id Cx
  have hown : s.vm.findClass RX7 = some m.cls := hown
  intro n
  induction n with
  | zero =>
    intro y3 m_now o H locs ls hf
    rw [lp_X7_addWord_98] at hf
    cases hf
  | succ n ih =>
    intro y3 m_now o H locs ls hf hP hD hS hl kk
    rw [lp_X7_addWord_98] at hf
    refine lv_iload_n hx hb dX7_addWord_98 rfl (lv_at hl 2 rfl) ?_
    refine lv_aload_n hx hb dX7_addWord_99 rfl (lv_at hl 0 rfl) ?_
    refine va_get (D := D) (ci := 7) (v := .int v_textLength) (C := RX7) (T := TX7) (N := 16) hx hb hts ly_X7_addWord_X7 hown hK.1 hP 0 rfl rfl 5 (by decide) (hts (.fieldLink RX7 56 "ShorthandOutlinesModel" "textLength" "I") wd_X7_addWord_1) (fun _ h9 => h9) rfl dX7_addWord_100 ?_
    refine lv_icmp_ge (tgt := 135) hx hb dX7_addWord_103 (by decide) (fun hb1 => ?_) (fun hb1 => ?_)
    · replace hf := if_t hb1 hf
      have ho := so hf
      subst ho
      exact kk _ _ _ hP hD hS (lv_sub hl [0, 1] rfl)
    · replace hf := if_f hb1 hf
      refine lv_aload_n hx hb dX7_addWord_106 rfl (lv_at hl 0 rfl) ?_
      refine va_get (D := D) (ci := 7) (v := .ref a_now) (C := RX7) (T := TX7) (N := 16) hx hb hts ly_X7_addWord_X7 hown hK.1 hP 0 rfl rfl 0 (by decide) (hts (.fieldLink RX7 7 "ShorthandOutlinesModel" "now" "[I") wd_X7_addWord_0) (fun _ h9 => h9) rfl dX7_addWord_107 ?_
      refine lv_bipush (v := 54) hx hb dX7_addWord_110 (by decide) ?_
      refine lv_bipush (v := 8) hx hb dX7_addWord_112 (by decide) ?_
      refine lv_iload_n hx hb dX7_addWord_114 rfl (lv_at hl 1 rfl) ?_
      refine lv_imul hx hb dX7_addWord_115 ?_
      refine lv_iadd hx hb dX7_addWord_116 ?_
      refine lv_iload_n hx hb dX7_addWord_117 rfl (lv_at hl 2 rfl) ?_
      refine lv_iadd hx hb dX7_addWord_118 ?_
      refine lv_aload_n hx hb dX7_addWord_119 rfl (lv_at hl 0 rfl) ?_
      refine va_get (D := D) (ci := 7) (v := .ref a_text) (C := RX7) (T := TX7) (N := 16) hx hb hts ly_X7_addWord_X7 hown hK.1 hP 0 rfl rfl 4 (by decide) (hts (.fieldLink RX7 19 "ShorthandOutlinesModel" "text" "[I") wd_X7_addWord_2) (fun _ h9 => h9) rfl dX7_addWord_120 ?_
      refine lv_iload_n hx hb dX7_addWord_123 rfl (lv_at hl 2 rfl) ?_
      have hi2 := gd_1 hf
      replace hf := gd_2 hf
      refine va_iald hx hb hK.1 hP 4 0 rfl rfl (inb_in hi2) dX7_addWord_124 ?_
      refine lv_bipush (v := 97) hx hb dX7_addWord_125 (by decide) ?_
      refine lv_isub hx hb dX7_addWord_127 ?_
      have hi3 := gd_1 hf
      replace hf := gd_2 hf
      refine va_iast hx hb hK.1 hP hD hS 1 0 rfl rfl (inb_in hi3) dX7_addWord_128 (fun H locs hP hD hS => ?_)
      have hP : va_P D vwCl [(a_t, .inr (7, [.ref a_now, .ref a_past, .int v_saved, .ref a_errors, .ref a_text, .int v_textLength, .ref a_pad, .int v_padLength, .ref a_sounds, .int v_soundMany, .ref a_proposed, .ref a_given, .int v_proposals, .ref a_readings, .int v_readingMany, .long v_hash])), (a_now, .inl (cI, 150, .inl (upd m_now (((54 : Int32) + ((8 : Int32) * y2)) + y3).toNatClampNeg ((m_text y3.toNatClampNeg) - (97 : Int32))))), (a_past, .inl (cI, 750, .inl m_past)), (a_errors, .inl (cI, 4, .inl m_errors)), (a_text, .inl (cI, 8, .inl m_text))] H := hP
      have hD : va_D A [(a_t, .inr (7, [.ref a_now, .ref a_past, .int v_saved, .ref a_errors, .ref a_text, .int v_textLength, .ref a_pad, .int v_padLength, .ref a_sounds, .int v_soundMany, .ref a_proposed, .ref a_given, .int v_proposals, .ref a_readings, .int v_readingMany, .long v_hash])), (a_now, .inl (cI, 150, .inl (upd m_now (((54 : Int32) + ((8 : Int32) * y2)) + y3).toNatClampNeg ((m_text y3.toNatClampNeg) - (97 : Int32))))), (a_past, .inl (cI, 750, .inl m_past)), (a_errors, .inl (cI, 4, .inl m_errors)), (a_text, .inl (cI, 8, .inl m_text))] := hD
      refine lv_iinc (v := (y3 + 1)) (lv' := [(3, .int (y3 + 1)), (0, .ref a_t), (2, .int y2)]) hx hb dX7_addWord_129 hl (k := 2) rfl rfl (by decide) rfl (fun ls hl => ?_)
      refine lv_goto (tgt := 98) hx hb dX7_addWord_132 (by decide) ?_
      exact ih (y3 + 1) (upd m_now (((54 : Int32) + ((8 : Int32) * y2)) + y3).toNatClampNeg ((m_text y3.toNatClampNeg) - (97 : Int32))) o _ _ _ hf hP hD hS (lv_sub hl [1, 2, 0] rfl) kk
set_option maxHeartbeats 4000000 in
set_option maxRecDepth 100000 in
theorem kt_X7_addWord (l : Launch) (D : va_G) (cI cZ cS : ClassId) (a_t : Nat) (a_now : Nat) (a_past : Nat) (a_errors : Nat) (a_text : Nat) (a_pad : Nat) (a_sounds : Nat) (a_proposed : Nat) (a_given : Nat) (a_readings : Nat) (v_padLength : Int32) (v_soundMany : Int32) (v_proposals : Int32) (v_readingMany : Int32) (v_hash : Int64) (v_saved : Int32) (v_textLength : Int32) (m_now : Nat → Int32) (m_past : Nat → Int32) (m_errors : Nat → Int32) (m_text : Nat → Int32) (x1 : Int32) (o : Int32 × Int32 × (Nat → Int32) × (Nat → Int32) × (Nat → Int32)) (hf : fn_X7_addWord v_saved v_textLength m_now m_past m_errors m_text x1 = some o) (sz : Nat) : Met l yX7_addWord wsX7_addWord rm_X7_addWord (va_Pc [.ref a_t, .int x1] (gPre D cI cZ cS [(a_t, .inr (7, [.ref a_now, .ref a_past, .int v_saved, .ref a_errors, .ref a_text, .int v_textLength, .ref a_pad, .int v_padLength, .ref a_sounds, .int v_soundMany, .ref a_proposed, .ref a_given, .int v_proposals, .ref a_readings, .int v_readingMany, .long v_hash])), (a_now, .inl (cI, 150, .inl m_now)), (a_past, .inl (cI, 750, .inl m_past)), (a_errors, .inl (cI, 4, .inl m_errors)), (a_text, .inl (cI, 8, .inl m_text))] sz)) (va_Qi (fun r (_ : Unit) => r = o.1) (fun _ => gB D [(a_t, .inr (7, [.ref a_now, .ref a_past, .int o.2.1, .ref a_errors, .ref a_text, .int v_textLength, .ref a_pad, .int v_padLength, .ref a_sounds, .int v_soundMany, .ref a_proposed, .ref a_given, .int v_proposals, .ref a_readings, .int v_readingMany, .long v_hash])), (a_now, .inl (cI, 150, .inl o.2.2.1)), (a_past, .inl (cI, 750, .inl o.2.2.2.1)), (a_errors, .inl (cI, 4, .inl o.2.2.2.2)), (a_text, .inl (cI, 8, .inl m_text))] (va_A [(a_t, .inr (7, [.ref a_now, .ref a_past, .int v_saved, .ref a_errors, .ref a_text, .int v_textLength, .ref a_pad, .int v_padLength, .ref a_sounds, .int v_soundMany, .ref a_proposed, .ref a_given, .int v_proposals, .ref a_readings, .int v_readingMany, .long v_hash])), (a_now, .inl (cI, 150, .inl m_now)), (a_past, .inl (cI, 750, .inl m_past)), (a_errors, .inl (cI, 4, .inl m_errors)), (a_text, .inl (cI, 8, .inl m_text))] sz)) (va_A [(a_t, .inr (7, [.ref a_now, .ref a_past, .int v_saved, .ref a_errors, .ref a_text, .int v_textLength, .ref a_pad, .int v_padLength, .ref a_sounds, .int v_soundMany, .ref a_proposed, .ref a_given, .int v_proposals, .ref a_readings, .int v_readingMany, .long v_hash])), (a_now, .inl (cI, 150, .inl m_now)), (a_past, .inl (cI, 750, .inl m_past)), (a_errors, .inl (cI, 4, .inl m_errors)), (a_text, .inl (cI, 8, .inl m_text))] sz)) 0 0 (va_A [(a_t, .inr (7, [.ref a_now, .ref a_past, .int v_saved, .ref a_errors, .ref a_text, .int v_textLength, .ref a_pad, .int v_padLength, .ref a_sounds, .int v_soundMany, .ref a_proposed, .ref a_given, .int v_proposals, .ref a_readings, .int v_readingMany, .long v_hash])), (a_now, .inl (cI, 150, .inl m_now)), (a_past, .inl (cI, 750, .inl m_past)), (a_errors, .inl (cI, 4, .inl m_errors)), (a_text, .inl (cI, 8, .inl m_text))] sz) := by
  refine g_entry (Qc := fun A => va_Qi (fun r (_ : Unit) => r = o.1) (fun _ => gB D [(a_t, .inr (7, [.ref a_now, .ref a_past, .int o.2.1, .ref a_errors, .ref a_text, .int v_textLength, .ref a_pad, .int v_padLength, .ref a_sounds, .int v_soundMany, .ref a_proposed, .ref a_given, .int v_proposals, .ref a_readings, .int v_readingMany, .long v_hash])), (a_now, .inl (cI, 150, .inl o.2.2.1)), (a_past, .inl (cI, 750, .inl o.2.2.2.1)), (a_errors, .inl (cI, 4, .inl o.2.2.2.2)), (a_text, .inl (cI, 8, .inl m_text))] A) A) (cc := cX7_addWord) (maxL := 4) (ret := (some .int)) (by decide) rfl (Nat.le_of_ble_eq_true rfl) ?_ sz
  intro p e s m below meth c A ls Cx hP hD hS hl
  obtain ⟨hx, hb, hml, hr, hlk, hown, hin, hts, hK, hA⟩ := id Cx
  have hown : s.vm.findClass RX7 = some m.cls := hown
  have hl : lv_has ls 4 [(0, .ref a_t), (1, .int x1)] := hl
  unfold fn_X7_addWord at hf
  refine lv_iload_n hx hb dX7_addWord_0 rfl (lv_at hl 1 rfl) ?_
  refine lv_iconst (v := 1) hx hb dX7_addWord_1 (by decide) ?_
  refine lv_sipush (v := 999) hx hb dX7_addWord_2 (by decide) ?_
  obtain ⟨u1, hc1, hf⟩ := ob hf
  refine g_ki (wc := []) (wc' := []) (wr := [(a_t, .inr (7, [.ref a_now, .ref a_past, .int v_saved, .ref a_errors, .ref a_text, .int v_textLength, .ref a_pad, .int v_padLength, .ref a_sounds, .int v_soundMany, .ref a_proposed, .ref a_given, .int v_proposals, .ref a_readings, .int v_readingMany, .long v_hash])), (a_now, .inl (cI, 150, .inl m_now)), (a_past, .inl (cI, 750, .inl m_past)), (a_errors, .inl (cI, 4, .inl m_errors)), (a_text, .inl (cI, 8, .inl m_text))]) (va_runS (As := [.int x1, .int (1 : Int32), .int (999 : Int32)]) (rest := []) ⟨hx, hb, hml, hown, hts⟩ (kt_X7_within l D cI cZ cS x1 (1 : Int32) (999 : Int32) u1 hc1 _) (va_cwS 3 hts gX7_addWord_X7_within rfl rfl rfl sg_X7_within.2 ⟨(Nat.le_of_ble_eq_true rfl), (Nat.le_of_ble_eq_true rfl)⟩) (g_ps hK hP hD [] rfl (by decide)) rfl rfl hl.1 rfl (lv_room (Nat.le_of_ble_eq_true rfl)) dX7_addWord_5 ⟨Nat.zero_le _, Nat.zero_le _⟩) hP hD hS hA [] [0, 1, 2, 3, 4] rfl rfl (by decide) (by decide) (fun H locs hP hD hS => ?_)
  have hP : va_P D vwCl [(a_t, .inr (7, [.ref a_now, .ref a_past, .int v_saved, .ref a_errors, .ref a_text, .int v_textLength, .ref a_pad, .int v_padLength, .ref a_sounds, .int v_soundMany, .ref a_proposed, .ref a_given, .int v_proposals, .ref a_readings, .int v_readingMany, .long v_hash])), (a_now, .inl (cI, 150, .inl m_now)), (a_past, .inl (cI, 750, .inl m_past)), (a_errors, .inl (cI, 4, .inl m_errors)), (a_text, .inl (cI, 8, .inl m_text))] H := hP
  have hD : va_D A [(a_t, .inr (7, [.ref a_now, .ref a_past, .int v_saved, .ref a_errors, .ref a_text, .int v_textLength, .ref a_pad, .int v_padLength, .ref a_sounds, .int v_soundMany, .ref a_proposed, .ref a_given, .int v_proposals, .ref a_readings, .int v_readingMany, .long v_hash])), (a_now, .inl (cI, 150, .inl m_now)), (a_past, .inl (cI, 750, .inl m_past)), (a_errors, .inl (cI, 4, .inl m_errors)), (a_text, .inl (cI, 8, .inl m_text))] := hD
  refine lv_if_ne (tgt := 18) hx hb dX7_addWord_8 (by decide) (fun hb2 => ?_) (fun hb2 => ?_)
  · replace hf := if_f hb2 hf
    refine lv_aload_n hx hb dX7_addWord_18 rfl (lv_at hl 0 rfl) ?_
    obtain ⟨u2, hc3, hf⟩ := ob hf
    refine g_ki (wc := [(a_t, .inr (7, [.ref a_now, .ref a_past, .int v_saved, .ref a_errors, .ref a_text, .int v_textLength, .ref a_pad, .int v_padLength, .ref a_sounds, .int v_soundMany, .ref a_proposed, .ref a_given, .int v_proposals, .ref a_readings, .int v_readingMany, .long v_hash])), (a_text, .inl (cI, 8, .inl m_text))]) (wc' := [(a_t, .inr (7, [.ref a_now, .ref a_past, .int v_saved, .ref a_errors, .ref a_text, .int v_textLength, .ref a_pad, .int v_padLength, .ref a_sounds, .int v_soundMany, .ref a_proposed, .ref a_given, .int v_proposals, .ref a_readings, .int v_readingMany, .long v_hash])), (a_text, .inl (cI, 8, .inl m_text))]) (wr := [(a_now, .inl (cI, 150, .inl m_now)), (a_past, .inl (cI, 750, .inl m_past)), (a_errors, .inl (cI, 4, .inl m_errors))]) (va_runV (As := []) (rest := []) ⟨hx, hb, hml, hown, hts⟩ (kt_X7_isText l D cI cZ cS a_t a_text a_now a_past a_errors a_pad a_sounds a_proposed a_given a_readings v_saved v_padLength v_soundMany v_proposals v_readingMany v_hash v_textLength m_text u2 hc3 _) (cwV 0 hts gX7_addWord_X7_isText rfl rfl rfl sg_X7_isText ⟨(Nat.le_of_ble_eq_true rfl), (Nat.le_of_ble_eq_true rfl)⟩) (g_pv (q := (RX7, TX7, 16)) hK hP hD [0, 4] rfl (by decide) rfl rfl) rfl rfl hl.1 rfl (lv_room (Nat.le_of_ble_eq_true rfl)) dX7_addWord_19 ⟨Nat.zero_le _, Nat.zero_le _⟩) hP hD hS hA [0, 4] [1, 2, 3] rfl rfl (by decide) (by decide) (fun H locs hP hD hS => ?_)
    have hP : va_P D vwCl [(a_now, .inl (cI, 150, .inl m_now)), (a_past, .inl (cI, 750, .inl m_past)), (a_errors, .inl (cI, 4, .inl m_errors)), (a_t, .inr (7, [.ref a_now, .ref a_past, .int v_saved, .ref a_errors, .ref a_text, .int v_textLength, .ref a_pad, .int v_padLength, .ref a_sounds, .int v_soundMany, .ref a_proposed, .ref a_given, .int v_proposals, .ref a_readings, .int v_readingMany, .long v_hash])), (a_text, .inl (cI, 8, .inl m_text))] H := hP
    have hD : va_D A [(a_now, .inl (cI, 150, .inl m_now)), (a_past, .inl (cI, 750, .inl m_past)), (a_errors, .inl (cI, 4, .inl m_errors)), (a_t, .inr (7, [.ref a_now, .ref a_past, .int v_saved, .ref a_errors, .ref a_text, .int v_textLength, .ref a_pad, .int v_padLength, .ref a_sounds, .int v_soundMany, .ref a_proposed, .ref a_given, .int v_proposals, .ref a_readings, .int v_readingMany, .long v_hash])), (a_text, .inl (cI, 8, .inl m_text))] := hD
    refine lv_if_ne (tgt := 32) hx hb dX7_addWord_22 (by decide) (fun hb4 => ?_) (fun hb4 => ?_)
    · replace hf := if_f hb4 hf
      refine lv_aload_n hx hb dX7_addWord_32 rfl (lv_at hl 0 rfl) ?_
      refine va_get (D := D) (ci := 7) (v := .ref a_now) (C := RX7) (T := TX7) (N := 16) hx hb hts ly_X7_addWord_X7 hown hK.1 hP 3 rfl rfl 0 (by decide) (hts (.fieldLink RX7 7 "ShorthandOutlinesModel" "now" "[I") wd_X7_addWord_0) (fun _ h9 => h9) rfl dX7_addWord_33 ?_
      refine lv_bipush (v := 17) hx hb dX7_addWord_36 (by decide) ?_
      refine va_iald hx hb hK.1 hP 0 0 rfl rfl (by unfold vp_in; decide) dX7_addWord_38 ?_
      refine lv_bipush (v := 12) hx hb dX7_addWord_39 (by decide) ?_
      refine lv_icmp_ne (tgt := 51) hx hb dX7_addWord_41 (by decide) (fun hb5 => ?_) (fun hb5 => ?_)
      · replace hf := if_f hb5 hf
        refine lv_aload_n hx hb dX7_addWord_51 rfl (lv_at hl 0 rfl) ?_
        obtain ⟨u3, hc6, hf⟩ := ob hf
        refine g_kv (wc := [(a_t, .inr (7, [.ref a_now, .ref a_past, .int v_saved, .ref a_errors, .ref a_text, .int v_textLength, .ref a_pad, .int v_padLength, .ref a_sounds, .int v_soundMany, .ref a_proposed, .ref a_given, .int v_proposals, .ref a_readings, .int v_readingMany, .long v_hash])), (a_now, .inl (cI, 150, .inl m_now)), (a_past, .inl (cI, 750, .inl m_past))]) (wc' := [(a_t, .inr (7, [.ref a_now, .ref a_past, .int u3.1, .ref a_errors, .ref a_text, .int v_textLength, .ref a_pad, .int v_padLength, .ref a_sounds, .int v_soundMany, .ref a_proposed, .ref a_given, .int v_proposals, .ref a_readings, .int v_readingMany, .long v_hash])), (a_now, .inl (cI, 150, .inl m_now)), (a_past, .inl (cI, 750, .inl u3.2))]) (wr := [(a_errors, .inl (cI, 4, .inl m_errors)), (a_text, .inl (cI, 8, .inl m_text))]) (va_runV (As := []) (rest := []) ⟨hx, hb, hml, hown, hts⟩ (kt_X7_saves l D cI cZ cS a_t a_now a_past a_errors a_text a_pad a_sounds a_proposed a_given a_readings v_textLength v_padLength v_soundMany v_proposals v_readingMany v_hash v_saved m_now m_past u3 hc6 _) (cwV 0 hts gX7_addWord_X7_saves rfl rfl rfl sg_X7_saves ⟨(Nat.le_of_ble_eq_true rfl), (Nat.le_of_ble_eq_true rfl)⟩) (g_pv (q := (RX7, TX7, 16)) hK hP hD [3, 0, 1] rfl (by decide) rfl rfl) rfl rfl hl.1 rfl (lv_room (Nat.le_of_ble_eq_true rfl)) dX7_addWord_52 ⟨Nat.zero_le _, Nat.zero_le _⟩) hP hD hS hA [3, 0, 1] [2, 4] rfl rfl (by decide) (by decide) (fun H locs hP hD hS => ?_)
        have hP : va_P D vwCl [(a_errors, .inl (cI, 4, .inl m_errors)), (a_text, .inl (cI, 8, .inl m_text)), (a_t, .inr (7, [.ref a_now, .ref a_past, .int u3.1, .ref a_errors, .ref a_text, .int v_textLength, .ref a_pad, .int v_padLength, .ref a_sounds, .int v_soundMany, .ref a_proposed, .ref a_given, .int v_proposals, .ref a_readings, .int v_readingMany, .long v_hash])), (a_now, .inl (cI, 150, .inl m_now)), (a_past, .inl (cI, 750, .inl u3.2))] H := hP
        have hD : va_D A [(a_errors, .inl (cI, 4, .inl m_errors)), (a_text, .inl (cI, 8, .inl m_text)), (a_t, .inr (7, [.ref a_now, .ref a_past, .int u3.1, .ref a_errors, .ref a_text, .int v_textLength, .ref a_pad, .int v_padLength, .ref a_sounds, .int v_soundMany, .ref a_proposed, .ref a_given, .int v_proposals, .ref a_readings, .int v_readingMany, .long v_hash])), (a_now, .inl (cI, 150, .inl m_now)), (a_past, .inl (cI, 750, .inl u3.2))] := hD
        refine lv_aload_n hx hb dX7_addWord_55 rfl (lv_at hl 0 rfl) ?_
        refine va_get (D := D) (ci := 7) (v := .ref a_now) (C := RX7) (T := TX7) (N := 16) hx hb hts ly_X7_addWord_X7 hown hK.1 hP 2 rfl rfl 0 (by decide) (hts (.fieldLink RX7 7 "ShorthandOutlinesModel" "now" "[I") wd_X7_addWord_0) (fun _ h9 => h9) rfl dX7_addWord_56 ?_
        refine lv_bipush (v := 17) hx hb dX7_addWord_59 (by decide) ?_
        refine va_iald hx hb hK.1 hP 3 0 rfl rfl (by unfold vp_in; decide) dX7_addWord_61 ?_
        refine lv_istore_n (lv' := [(2, .int (m_now (17 : Int32).toNatClampNeg)), (0, .ref a_t), (1, .int x1)]) hx hb dX7_addWord_62 rfl hl (by decide) rfl (fun ls hl => ?_)
        refine lv_aload_n hx hb dX7_addWord_63 rfl (lv_at hl 1 rfl) ?_
        refine va_get (D := D) (ci := 7) (v := .ref a_now) (C := RX7) (T := TX7) (N := 16) hx hb hts ly_X7_addWord_X7 hown hK.1 hP 2 rfl rfl 0 (by decide) (hts (.fieldLink RX7 7 "ShorthandOutlinesModel" "now" "[I") wd_X7_addWord_0) (fun _ h9 => h9) rfl dX7_addWord_64 ?_
        refine lv_bipush (v := 18) hx hb dX7_addWord_67 (by decide) ?_
        refine lv_iload_n hx hb dX7_addWord_69 rfl (lv_at hl 0 rfl) ?_
        refine lv_iadd hx hb dX7_addWord_70 ?_
        refine lv_aload_n hx hb dX7_addWord_71 rfl (lv_at hl 1 rfl) ?_
        refine va_get (D := D) (ci := 7) (v := .int v_textLength) (C := RX7) (T := TX7) (N := 16) hx hb hts ly_X7_addWord_X7 hown hK.1 hP 2 rfl rfl 5 (by decide) (hts (.fieldLink RX7 56 "ShorthandOutlinesModel" "textLength" "I") wd_X7_addWord_1) (fun _ h9 => h9) rfl dX7_addWord_72 ?_
        have hi7 := gd_1 hf
        replace hf := gd_2 hf
        refine va_iast hx hb hK.1 hP hD hS 3 0 rfl rfl (inb_in hi7) dX7_addWord_75 (fun H locs hP hD hS => ?_)
        have hP : va_P D vwCl [(a_errors, .inl (cI, 4, .inl m_errors)), (a_text, .inl (cI, 8, .inl m_text)), (a_t, .inr (7, [.ref a_now, .ref a_past, .int u3.1, .ref a_errors, .ref a_text, .int v_textLength, .ref a_pad, .int v_padLength, .ref a_sounds, .int v_soundMany, .ref a_proposed, .ref a_given, .int v_proposals, .ref a_readings, .int v_readingMany, .long v_hash])), (a_now, .inl (cI, 150, .inl (upd m_now ((18 : Int32) + (m_now (17 : Int32).toNatClampNeg)).toNatClampNeg v_textLength))), (a_past, .inl (cI, 750, .inl u3.2))] H := hP
        have hD : va_D A [(a_errors, .inl (cI, 4, .inl m_errors)), (a_text, .inl (cI, 8, .inl m_text)), (a_t, .inr (7, [.ref a_now, .ref a_past, .int u3.1, .ref a_errors, .ref a_text, .int v_textLength, .ref a_pad, .int v_padLength, .ref a_sounds, .int v_soundMany, .ref a_proposed, .ref a_given, .int v_proposals, .ref a_readings, .int v_readingMany, .long v_hash])), (a_now, .inl (cI, 150, .inl (upd m_now ((18 : Int32) + (m_now (17 : Int32).toNatClampNeg)).toNatClampNeg v_textLength))), (a_past, .inl (cI, 750, .inl u3.2))] := hD
        refine lv_aload_n hx hb dX7_addWord_76 rfl (lv_at hl 1 rfl) ?_
        refine va_get (D := D) (ci := 7) (v := .ref a_now) (C := RX7) (T := TX7) (N := 16) hx hb hts ly_X7_addWord_X7 hown hK.1 hP 2 rfl rfl 0 (by decide) (hts (.fieldLink RX7 7 "ShorthandOutlinesModel" "now" "[I") wd_X7_addWord_0) (fun _ h9 => h9) rfl dX7_addWord_77 ?_
        refine lv_bipush (v := 30) hx hb dX7_addWord_80 (by decide) ?_
        refine lv_iload_n hx hb dX7_addWord_82 rfl (lv_at hl 0 rfl) ?_
        refine lv_iadd hx hb dX7_addWord_83 ?_
        refine lv_iload_n hx hb dX7_addWord_84 rfl (lv_at hl 2 rfl) ?_
        have hi8 := gd_1 hf
        replace hf := gd_2 hf
        refine va_iast hx hb hK.1 hP hD hS 3 0 rfl rfl (inb_in hi8) dX7_addWord_85 (fun H locs hP hD hS => ?_)
        have hP : va_P D vwCl [(a_errors, .inl (cI, 4, .inl m_errors)), (a_text, .inl (cI, 8, .inl m_text)), (a_t, .inr (7, [.ref a_now, .ref a_past, .int u3.1, .ref a_errors, .ref a_text, .int v_textLength, .ref a_pad, .int v_padLength, .ref a_sounds, .int v_soundMany, .ref a_proposed, .ref a_given, .int v_proposals, .ref a_readings, .int v_readingMany, .long v_hash])), (a_now, .inl (cI, 150, .inl (upd (upd m_now ((18 : Int32) + (m_now (17 : Int32).toNatClampNeg)).toNatClampNeg v_textLength) ((30 : Int32) + (m_now (17 : Int32).toNatClampNeg)).toNatClampNeg x1))), (a_past, .inl (cI, 750, .inl u3.2))] H := hP
        have hD : va_D A [(a_errors, .inl (cI, 4, .inl m_errors)), (a_text, .inl (cI, 8, .inl m_text)), (a_t, .inr (7, [.ref a_now, .ref a_past, .int u3.1, .ref a_errors, .ref a_text, .int v_textLength, .ref a_pad, .int v_padLength, .ref a_sounds, .int v_soundMany, .ref a_proposed, .ref a_given, .int v_proposals, .ref a_readings, .int v_readingMany, .long v_hash])), (a_now, .inl (cI, 150, .inl (upd (upd m_now ((18 : Int32) + (m_now (17 : Int32).toNatClampNeg)).toNatClampNeg v_textLength) ((30 : Int32) + (m_now (17 : Int32).toNatClampNeg)).toNatClampNeg x1))), (a_past, .inl (cI, 750, .inl u3.2))] := hD
        refine lv_aload_n hx hb dX7_addWord_86 rfl (lv_at hl 1 rfl) ?_
        refine va_get (D := D) (ci := 7) (v := .ref a_now) (C := RX7) (T := TX7) (N := 16) hx hb hts ly_X7_addWord_X7 hown hK.1 hP 2 rfl rfl 0 (by decide) (hts (.fieldLink RX7 7 "ShorthandOutlinesModel" "now" "[I") wd_X7_addWord_0) (fun _ h9 => h9) rfl dX7_addWord_87 ?_
        refine lv_bipush (v := 42) hx hb dX7_addWord_90 (by decide) ?_
        refine lv_iload_n hx hb dX7_addWord_92 rfl (lv_at hl 0 rfl) ?_
        refine lv_iadd hx hb dX7_addWord_93 ?_
        refine lv_iconst (v := -1) hx hb dX7_addWord_94 (by decide) ?_
        have hi9 := gd_1 hf
        replace hf := gd_2 hf
        refine va_iast hx hb hK.1 hP hD hS 3 0 rfl rfl (inb_in hi9) dX7_addWord_95 (fun H locs hP hD hS => ?_)
        have hP : va_P D vwCl [(a_errors, .inl (cI, 4, .inl m_errors)), (a_text, .inl (cI, 8, .inl m_text)), (a_t, .inr (7, [.ref a_now, .ref a_past, .int u3.1, .ref a_errors, .ref a_text, .int v_textLength, .ref a_pad, .int v_padLength, .ref a_sounds, .int v_soundMany, .ref a_proposed, .ref a_given, .int v_proposals, .ref a_readings, .int v_readingMany, .long v_hash])), (a_now, .inl (cI, 150, .inl (upd (upd (upd m_now ((18 : Int32) + (m_now (17 : Int32).toNatClampNeg)).toNatClampNeg v_textLength) ((30 : Int32) + (m_now (17 : Int32).toNatClampNeg)).toNatClampNeg x1) ((42 : Int32) + (m_now (17 : Int32).toNatClampNeg)).toNatClampNeg (-1 : Int32)))), (a_past, .inl (cI, 750, .inl u3.2))] H := hP
        have hD : va_D A [(a_errors, .inl (cI, 4, .inl m_errors)), (a_text, .inl (cI, 8, .inl m_text)), (a_t, .inr (7, [.ref a_now, .ref a_past, .int u3.1, .ref a_errors, .ref a_text, .int v_textLength, .ref a_pad, .int v_padLength, .ref a_sounds, .int v_soundMany, .ref a_proposed, .ref a_given, .int v_proposals, .ref a_readings, .int v_readingMany, .long v_hash])), (a_now, .inl (cI, 150, .inl (upd (upd (upd m_now ((18 : Int32) + (m_now (17 : Int32).toNatClampNeg)).toNatClampNeg v_textLength) ((30 : Int32) + (m_now (17 : Int32).toNatClampNeg)).toNatClampNeg x1) ((42 : Int32) + (m_now (17 : Int32).toNatClampNeg)).toNatClampNeg (-1 : Int32)))), (a_past, .inl (cI, 750, .inl u3.2))] := hD
        refine lv_iconst (v := 0) hx hb dX7_addWord_96 (by decide) ?_
        refine lv_istore_n (lv' := [(3, .int (0 : Int32)), (2, .int (m_now (17 : Int32).toNatClampNeg)), (0, .ref a_t), (1, .int x1)]) hx hb dX7_addWord_97 rfl hl (by decide) rfl (fun ls hl => ?_)
        have hP : va_P D vwCl [(a_t, .inr (7, [.ref a_now, .ref a_past, .int u3.1, .ref a_errors, .ref a_text, .int v_textLength, .ref a_pad, .int v_padLength, .ref a_sounds, .int v_soundMany, .ref a_proposed, .ref a_given, .int v_proposals, .ref a_readings, .int v_readingMany, .long v_hash])), (a_now, .inl (cI, 150, .inl (upd (upd (upd m_now ((18 : Int32) + (m_now (17 : Int32).toNatClampNeg)).toNatClampNeg v_textLength) ((30 : Int32) + (m_now (17 : Int32).toNatClampNeg)).toNatClampNeg x1) ((42 : Int32) + (m_now (17 : Int32).toNatClampNeg)).toNatClampNeg (-1 : Int32)))), (a_past, .inl (cI, 750, .inl u3.2)), (a_errors, .inl (cI, 4, .inl m_errors)), (a_text, .inl (cI, 8, .inl m_text))] H := hP.sub [2, 3, 4, 0, 1] rfl
        have hD : va_D A [(a_t, .inr (7, [.ref a_now, .ref a_past, .int u3.1, .ref a_errors, .ref a_text, .int v_textLength, .ref a_pad, .int v_padLength, .ref a_sounds, .int v_soundMany, .ref a_proposed, .ref a_given, .int v_proposals, .ref a_readings, .int v_readingMany, .long v_hash])), (a_now, .inl (cI, 150, .inl (upd (upd (upd m_now ((18 : Int32) + (m_now (17 : Int32).toNatClampNeg)).toNatClampNeg v_textLength) ((30 : Int32) + (m_now (17 : Int32).toNatClampNeg)).toNatClampNeg x1) ((42 : Int32) + (m_now (17 : Int32).toNatClampNeg)).toNatClampNeg (-1 : Int32)))), (a_past, .inl (cI, 750, .inl u3.2)), (a_errors, .inl (cI, 4, .inl m_errors)), (a_text, .inl (cI, 8, .inl m_text))] := hD.sub [2, 3, 4, 0, 1] (by decide +kernel) rfl
        obtain ⟨u4, hc10, hf⟩ := ob hf
        refine lt_X7_addWord_98 Cx a_t a_now a_past u3.1 a_errors a_text v_textLength a_pad v_padLength a_sounds v_soundMany a_proposed a_given v_proposals a_readings v_readingMany v_hash u3.2 m_errors m_text (m_now (17 : Int32).toNatClampNeg) 1024 (0 : Int32) (upd (upd (upd m_now ((18 : Int32) + (m_now (17 : Int32).toNatClampNeg)).toNatClampNeg v_textLength) ((30 : Int32) + (m_now (17 : Int32).toNatClampNeg)).toNatClampNeg x1) ((42 : Int32) + (m_now (17 : Int32).toNatClampNeg)).toNatClampNeg (-1 : Int32)) u4 _ _ _ hc10 hP hD hS (lv_sub hl [2, 1, 0] rfl) (fun H locs ls hP hD hS hl => ?_)
        have hP : va_P D vwCl [(a_t, .inr (7, [.ref a_now, .ref a_past, .int u3.1, .ref a_errors, .ref a_text, .int v_textLength, .ref a_pad, .int v_padLength, .ref a_sounds, .int v_soundMany, .ref a_proposed, .ref a_given, .int v_proposals, .ref a_readings, .int v_readingMany, .long v_hash])), (a_now, .inl (cI, 150, .inl u4)), (a_past, .inl (cI, 750, .inl u3.2)), (a_errors, .inl (cI, 4, .inl m_errors)), (a_text, .inl (cI, 8, .inl m_text))] H := hP
        have hD : va_D A [(a_t, .inr (7, [.ref a_now, .ref a_past, .int u3.1, .ref a_errors, .ref a_text, .int v_textLength, .ref a_pad, .int v_padLength, .ref a_sounds, .int v_soundMany, .ref a_proposed, .ref a_given, .int v_proposals, .ref a_readings, .int v_readingMany, .long v_hash])), (a_now, .inl (cI, 150, .inl u4)), (a_past, .inl (cI, 750, .inl u3.2)), (a_errors, .inl (cI, 4, .inl m_errors)), (a_text, .inl (cI, 8, .inl m_text))] := hD
        have hl : lv_has ls 4 [(0, .ref a_t), (2, .int (m_now (17 : Int32).toNatClampNeg))] := hl
        refine lv_aload_n hx hb dX7_addWord_135 rfl (lv_at hl 0 rfl) ?_
        refine va_get (D := D) (ci := 7) (v := .ref a_now) (C := RX7) (T := TX7) (N := 16) hx hb hts ly_X7_addWord_X7 hown hK.1 hP 0 rfl rfl 0 (by decide) (hts (.fieldLink RX7 7 "ShorthandOutlinesModel" "now" "[I") wd_X7_addWord_0) (fun _ h9 => h9) rfl dX7_addWord_136 ?_
        refine lv_bipush (v := 17) hx hb dX7_addWord_139 (by decide) ?_
        refine lv_dup2_11 hx hb dX7_addWord_141 rfl rfl ?_
        refine va_iald hx hb hK.1 hP 1 0 rfl rfl (by unfold vp_in; decide) dX7_addWord_142 ?_
        refine lv_iconst (v := 1) hx hb dX7_addWord_143 (by decide) ?_
        refine lv_iadd hx hb dX7_addWord_144 ?_
        refine va_iast hx hb hK.1 hP hD hS 1 0 rfl rfl (by unfold vp_in; decide) dX7_addWord_145 (fun H locs hP hD hS => ?_)
        have hP : va_P D vwCl [(a_t, .inr (7, [.ref a_now, .ref a_past, .int u3.1, .ref a_errors, .ref a_text, .int v_textLength, .ref a_pad, .int v_padLength, .ref a_sounds, .int v_soundMany, .ref a_proposed, .ref a_given, .int v_proposals, .ref a_readings, .int v_readingMany, .long v_hash])), (a_now, .inl (cI, 150, .inl (upd u4 (17 : Int32).toNatClampNeg ((u4 (17 : Int32).toNatClampNeg) + (1 : Int32))))), (a_past, .inl (cI, 750, .inl u3.2)), (a_errors, .inl (cI, 4, .inl m_errors)), (a_text, .inl (cI, 8, .inl m_text))] H := hP
        have hD : va_D A [(a_t, .inr (7, [.ref a_now, .ref a_past, .int u3.1, .ref a_errors, .ref a_text, .int v_textLength, .ref a_pad, .int v_padLength, .ref a_sounds, .int v_soundMany, .ref a_proposed, .ref a_given, .int v_proposals, .ref a_readings, .int v_readingMany, .long v_hash])), (a_now, .inl (cI, 150, .inl (upd u4 (17 : Int32).toNatClampNeg ((u4 (17 : Int32).toNatClampNeg) + (1 : Int32))))), (a_past, .inl (cI, 750, .inl u3.2)), (a_errors, .inl (cI, 4, .inl m_errors)), (a_text, .inl (cI, 8, .inl m_text))] := hD
        refine lv_iload_n hx hb dX7_addWord_146 rfl (lv_at hl 1 rfl) ?_
        have ho := so hf
        subst ho
        exact g_iret hx hb hr hlk hP hD hS dX7_addWord_147
      · replace hf := if_t hb5 hf
        refine lv_aload_n hx hb dX7_addWord_44 rfl (lv_at hl 0 rfl) ?_
        refine lv_bipush (v := -4) hx hb dX7_addWord_45 (by decide) ?_
        obtain ⟨u5, hc11, hf⟩ := ob hf
        refine g_ki (wc := [(a_t, .inr (7, [.ref a_now, .ref a_past, .int v_saved, .ref a_errors, .ref a_text, .int v_textLength, .ref a_pad, .int v_padLength, .ref a_sounds, .int v_soundMany, .ref a_proposed, .ref a_given, .int v_proposals, .ref a_readings, .int v_readingMany, .long v_hash])), (a_errors, .inl (cI, 4, .inl m_errors))]) (wc' := [(a_t, .inr (7, [.ref a_now, .ref a_past, .int v_saved, .ref a_errors, .ref a_text, .int v_textLength, .ref a_pad, .int v_padLength, .ref a_sounds, .int v_soundMany, .ref a_proposed, .ref a_given, .int v_proposals, .ref a_readings, .int v_readingMany, .long v_hash])), (a_errors, .inl (cI, 4, .inl u5.2))]) (wr := [(a_now, .inl (cI, 150, .inl m_now)), (a_past, .inl (cI, 750, .inl m_past)), (a_text, .inl (cI, 8, .inl m_text))]) (va_runV (As := [.int (-4 : Int32)]) (rest := []) ⟨hx, hb, hml, hown, hts⟩ (kt_X7_fails l D cI cZ cS a_t a_errors a_now a_past a_text a_pad a_sounds a_proposed a_given a_readings v_saved v_textLength v_padLength v_soundMany v_proposals v_readingMany v_hash m_errors (-4 : Int32) u5 hc11 _) (cwV 1 hts gX7_addWord_X7_fails rfl rfl rfl sg_X7_fails ⟨(Nat.le_of_ble_eq_true rfl), (Nat.le_of_ble_eq_true rfl)⟩) (g_pv (q := (RX7, TX7, 16)) hK hP hD [3, 2] rfl (by decide) rfl rfl) rfl rfl hl.1 rfl (lv_room (Nat.le_of_ble_eq_true rfl)) dX7_addWord_47 ⟨Nat.zero_le _, Nat.zero_le _⟩) hP hD hS hA [3, 2] [0, 1, 4] rfl rfl (by decide) (by decide) (fun H locs hP hD hS => ?_)
        have hP : va_P D vwCl [(a_now, .inl (cI, 150, .inl m_now)), (a_past, .inl (cI, 750, .inl m_past)), (a_text, .inl (cI, 8, .inl m_text)), (a_t, .inr (7, [.ref a_now, .ref a_past, .int v_saved, .ref a_errors, .ref a_text, .int v_textLength, .ref a_pad, .int v_padLength, .ref a_sounds, .int v_soundMany, .ref a_proposed, .ref a_given, .int v_proposals, .ref a_readings, .int v_readingMany, .long v_hash])), (a_errors, .inl (cI, 4, .inl u5.2))] H := hP
        have hD : va_D A [(a_now, .inl (cI, 150, .inl m_now)), (a_past, .inl (cI, 750, .inl m_past)), (a_text, .inl (cI, 8, .inl m_text)), (a_t, .inr (7, [.ref a_now, .ref a_past, .int v_saved, .ref a_errors, .ref a_text, .int v_textLength, .ref a_pad, .int v_padLength, .ref a_sounds, .int v_soundMany, .ref a_proposed, .ref a_given, .int v_proposals, .ref a_readings, .int v_readingMany, .long v_hash])), (a_errors, .inl (cI, 4, .inl u5.2))] := hD
        have hP : va_P D vwCl [(a_t, .inr (7, [.ref a_now, .ref a_past, .int v_saved, .ref a_errors, .ref a_text, .int v_textLength, .ref a_pad, .int v_padLength, .ref a_sounds, .int v_soundMany, .ref a_proposed, .ref a_given, .int v_proposals, .ref a_readings, .int v_readingMany, .long v_hash])), (a_now, .inl (cI, 150, .inl m_now)), (a_past, .inl (cI, 750, .inl m_past)), (a_errors, .inl (cI, 4, .inl u5.2)), (a_text, .inl (cI, 8, .inl m_text))] H := hP.sub [3, 0, 1, 4, 2] rfl
        have hD : va_D A [(a_t, .inr (7, [.ref a_now, .ref a_past, .int v_saved, .ref a_errors, .ref a_text, .int v_textLength, .ref a_pad, .int v_padLength, .ref a_sounds, .int v_soundMany, .ref a_proposed, .ref a_given, .int v_proposals, .ref a_readings, .int v_readingMany, .long v_hash])), (a_now, .inl (cI, 150, .inl m_now)), (a_past, .inl (cI, 750, .inl m_past)), (a_errors, .inl (cI, 4, .inl u5.2)), (a_text, .inl (cI, 8, .inl m_text))] := hD.sub [3, 0, 1, 4, 2] (by decide +kernel) rfl
        have ho := so hf
        subst ho
        exact g_iret hx hb hr hlk hP hD hS dX7_addWord_50
    · replace hf := if_t hb4 hf
      refine lv_aload_n hx hb dX7_addWord_25 rfl (lv_at hl 0 rfl) ?_
      refine lv_bipush (v := -3) hx hb dX7_addWord_26 (by decide) ?_
      obtain ⟨u6, hc12, hf⟩ := ob hf
      refine g_ki (wc := [(a_t, .inr (7, [.ref a_now, .ref a_past, .int v_saved, .ref a_errors, .ref a_text, .int v_textLength, .ref a_pad, .int v_padLength, .ref a_sounds, .int v_soundMany, .ref a_proposed, .ref a_given, .int v_proposals, .ref a_readings, .int v_readingMany, .long v_hash])), (a_errors, .inl (cI, 4, .inl m_errors))]) (wc' := [(a_t, .inr (7, [.ref a_now, .ref a_past, .int v_saved, .ref a_errors, .ref a_text, .int v_textLength, .ref a_pad, .int v_padLength, .ref a_sounds, .int v_soundMany, .ref a_proposed, .ref a_given, .int v_proposals, .ref a_readings, .int v_readingMany, .long v_hash])), (a_errors, .inl (cI, 4, .inl u6.2))]) (wr := [(a_now, .inl (cI, 150, .inl m_now)), (a_past, .inl (cI, 750, .inl m_past)), (a_text, .inl (cI, 8, .inl m_text))]) (va_runV (As := [.int (-3 : Int32)]) (rest := []) ⟨hx, hb, hml, hown, hts⟩ (kt_X7_fails l D cI cZ cS a_t a_errors a_now a_past a_text a_pad a_sounds a_proposed a_given a_readings v_saved v_textLength v_padLength v_soundMany v_proposals v_readingMany v_hash m_errors (-3 : Int32) u6 hc12 _) (cwV 1 hts gX7_addWord_X7_fails rfl rfl rfl sg_X7_fails ⟨(Nat.le_of_ble_eq_true rfl), (Nat.le_of_ble_eq_true rfl)⟩) (g_pv (q := (RX7, TX7, 16)) hK hP hD [3, 2] rfl (by decide) rfl rfl) rfl rfl hl.1 rfl (lv_room (Nat.le_of_ble_eq_true rfl)) dX7_addWord_28 ⟨Nat.zero_le _, Nat.zero_le _⟩) hP hD hS hA [3, 2] [0, 1, 4] rfl rfl (by decide) (by decide) (fun H locs hP hD hS => ?_)
      have hP : va_P D vwCl [(a_now, .inl (cI, 150, .inl m_now)), (a_past, .inl (cI, 750, .inl m_past)), (a_text, .inl (cI, 8, .inl m_text)), (a_t, .inr (7, [.ref a_now, .ref a_past, .int v_saved, .ref a_errors, .ref a_text, .int v_textLength, .ref a_pad, .int v_padLength, .ref a_sounds, .int v_soundMany, .ref a_proposed, .ref a_given, .int v_proposals, .ref a_readings, .int v_readingMany, .long v_hash])), (a_errors, .inl (cI, 4, .inl u6.2))] H := hP
      have hD : va_D A [(a_now, .inl (cI, 150, .inl m_now)), (a_past, .inl (cI, 750, .inl m_past)), (a_text, .inl (cI, 8, .inl m_text)), (a_t, .inr (7, [.ref a_now, .ref a_past, .int v_saved, .ref a_errors, .ref a_text, .int v_textLength, .ref a_pad, .int v_padLength, .ref a_sounds, .int v_soundMany, .ref a_proposed, .ref a_given, .int v_proposals, .ref a_readings, .int v_readingMany, .long v_hash])), (a_errors, .inl (cI, 4, .inl u6.2))] := hD
      have hP : va_P D vwCl [(a_t, .inr (7, [.ref a_now, .ref a_past, .int v_saved, .ref a_errors, .ref a_text, .int v_textLength, .ref a_pad, .int v_padLength, .ref a_sounds, .int v_soundMany, .ref a_proposed, .ref a_given, .int v_proposals, .ref a_readings, .int v_readingMany, .long v_hash])), (a_now, .inl (cI, 150, .inl m_now)), (a_past, .inl (cI, 750, .inl m_past)), (a_errors, .inl (cI, 4, .inl u6.2)), (a_text, .inl (cI, 8, .inl m_text))] H := hP.sub [3, 0, 1, 4, 2] rfl
      have hD : va_D A [(a_t, .inr (7, [.ref a_now, .ref a_past, .int v_saved, .ref a_errors, .ref a_text, .int v_textLength, .ref a_pad, .int v_padLength, .ref a_sounds, .int v_soundMany, .ref a_proposed, .ref a_given, .int v_proposals, .ref a_readings, .int v_readingMany, .long v_hash])), (a_now, .inl (cI, 150, .inl m_now)), (a_past, .inl (cI, 750, .inl m_past)), (a_errors, .inl (cI, 4, .inl u6.2)), (a_text, .inl (cI, 8, .inl m_text))] := hD.sub [3, 0, 1, 4, 2] (by decide +kernel) rfl
      have ho := so hf
      subst ho
      exact g_iret hx hb hr hlk hP hD hS dX7_addWord_31
  · replace hf := if_t hb2 hf
    refine lv_aload_n hx hb dX7_addWord_11 rfl (lv_at hl 0 rfl) ?_
    refine lv_bipush (v := -2) hx hb dX7_addWord_12 (by decide) ?_
    obtain ⟨u7, hc13, hf⟩ := ob hf
    refine g_ki (wc := [(a_t, .inr (7, [.ref a_now, .ref a_past, .int v_saved, .ref a_errors, .ref a_text, .int v_textLength, .ref a_pad, .int v_padLength, .ref a_sounds, .int v_soundMany, .ref a_proposed, .ref a_given, .int v_proposals, .ref a_readings, .int v_readingMany, .long v_hash])), (a_errors, .inl (cI, 4, .inl m_errors))]) (wc' := [(a_t, .inr (7, [.ref a_now, .ref a_past, .int v_saved, .ref a_errors, .ref a_text, .int v_textLength, .ref a_pad, .int v_padLength, .ref a_sounds, .int v_soundMany, .ref a_proposed, .ref a_given, .int v_proposals, .ref a_readings, .int v_readingMany, .long v_hash])), (a_errors, .inl (cI, 4, .inl u7.2))]) (wr := [(a_now, .inl (cI, 150, .inl m_now)), (a_past, .inl (cI, 750, .inl m_past)), (a_text, .inl (cI, 8, .inl m_text))]) (va_runV (As := [.int (-2 : Int32)]) (rest := []) ⟨hx, hb, hml, hown, hts⟩ (kt_X7_fails l D cI cZ cS a_t a_errors a_now a_past a_text a_pad a_sounds a_proposed a_given a_readings v_saved v_textLength v_padLength v_soundMany v_proposals v_readingMany v_hash m_errors (-2 : Int32) u7 hc13 _) (cwV 1 hts gX7_addWord_X7_fails rfl rfl rfl sg_X7_fails ⟨(Nat.le_of_ble_eq_true rfl), (Nat.le_of_ble_eq_true rfl)⟩) (g_pv (q := (RX7, TX7, 16)) hK hP hD [0, 3] rfl (by decide) rfl rfl) rfl rfl hl.1 rfl (lv_room (Nat.le_of_ble_eq_true rfl)) dX7_addWord_14 ⟨Nat.zero_le _, Nat.zero_le _⟩) hP hD hS hA [0, 3] [1, 2, 4] rfl rfl (by decide) (by decide) (fun H locs hP hD hS => ?_)
    have hP : va_P D vwCl [(a_now, .inl (cI, 150, .inl m_now)), (a_past, .inl (cI, 750, .inl m_past)), (a_text, .inl (cI, 8, .inl m_text)), (a_t, .inr (7, [.ref a_now, .ref a_past, .int v_saved, .ref a_errors, .ref a_text, .int v_textLength, .ref a_pad, .int v_padLength, .ref a_sounds, .int v_soundMany, .ref a_proposed, .ref a_given, .int v_proposals, .ref a_readings, .int v_readingMany, .long v_hash])), (a_errors, .inl (cI, 4, .inl u7.2))] H := hP
    have hD : va_D A [(a_now, .inl (cI, 150, .inl m_now)), (a_past, .inl (cI, 750, .inl m_past)), (a_text, .inl (cI, 8, .inl m_text)), (a_t, .inr (7, [.ref a_now, .ref a_past, .int v_saved, .ref a_errors, .ref a_text, .int v_textLength, .ref a_pad, .int v_padLength, .ref a_sounds, .int v_soundMany, .ref a_proposed, .ref a_given, .int v_proposals, .ref a_readings, .int v_readingMany, .long v_hash])), (a_errors, .inl (cI, 4, .inl u7.2))] := hD
    have hP : va_P D vwCl [(a_t, .inr (7, [.ref a_now, .ref a_past, .int v_saved, .ref a_errors, .ref a_text, .int v_textLength, .ref a_pad, .int v_padLength, .ref a_sounds, .int v_soundMany, .ref a_proposed, .ref a_given, .int v_proposals, .ref a_readings, .int v_readingMany, .long v_hash])), (a_now, .inl (cI, 150, .inl m_now)), (a_past, .inl (cI, 750, .inl m_past)), (a_errors, .inl (cI, 4, .inl u7.2)), (a_text, .inl (cI, 8, .inl m_text))] H := hP.sub [3, 0, 1, 4, 2] rfl
    have hD : va_D A [(a_t, .inr (7, [.ref a_now, .ref a_past, .int v_saved, .ref a_errors, .ref a_text, .int v_textLength, .ref a_pad, .int v_padLength, .ref a_sounds, .int v_soundMany, .ref a_proposed, .ref a_given, .int v_proposals, .ref a_readings, .int v_readingMany, .long v_hash])), (a_now, .inl (cI, 150, .inl m_now)), (a_past, .inl (cI, 750, .inl m_past)), (a_errors, .inl (cI, 4, .inl u7.2)), (a_text, .inl (cI, 8, .inl m_text))] := hD.sub [3, 0, 1, 4, 2] (by decide +kernel) rfl
    have ho := so hf
    subst ho
    exact g_iret hx hb hr hlk hP hD hS dX7_addWord_17

theorem sg_X7_removeWord : yX7_removeWord.cls = RX7 ∧ yX7_removeWord.cls ≠ "java/lang/invoke/MethodHandle" ∧ yX7_removeWord.cls ≠ "java/lang/invoke/VarHandle" ∧ (parseMethodDescriptor yX7_removeWord.desc).map (fun d => d.parameters.length) = some 1 := by decide +kernel
abbrev rm_X7_removeWord : Room := { frames := 2, cells := 0, slots := 0, locals := 43 }
theorem wd_X7_removeWord_0 : (.fieldLink RX7 7 "ShorthandOutlinesModel" "now" "[I" : Cond) ∈ wsX7_removeWord := by decide +kernel
theorem ly_X7_removeWord_X7 : ∀ w ∈ u_ws RX7 TX7 16, w ∈ wsX7_removeWord := by decide +kernel
set_option maxHeartbeats 4000000 in
set_option maxRecDepth 100000 in
theorem lt_X7_removeWord_105 {p : Program} {l : Launch} {e : Env} {s : State} {m : MethodId} {args : Array Value} {below : List Frame} {meth : Method} {c : Code} {D : va_G} {cI cZ cS : ClassId} {A : Nat → Prop} {Q : State → Prop} (Cx : gCx p s m meth c args cX7_removeWord 4 (some .int) yX7_removeWord wsX7_removeWord D cI cZ cS A) (a_t : Nat) (a_now : Nat) (a_past : Nat) (v_saved : Int32) (a_errors : Nat) (a_text : Nat) (v_textLength : Int32) (a_pad : Nat) (v_padLength : Int32) (a_sounds : Nat) (v_soundMany : Int32) (a_proposed : Nat) (a_given : Nat) (v_proposals : Int32) (a_readings : Nat) (v_readingMany : Int32) (v_hash : Int64) (m_past : Nat → Int32) (m_errors : Nat → Int32) (y2 : Int32) : ∀ (n : Nat) (y3 : Int32) (m_now : Nat → Int32) (o : (Nat → Int32)) (H : Heap) (locs : List Loc) (ls : Array Slot), lp_X7_removeWord_105 y2 n y3 m_now = some o → va_P D vwCl [(a_t, .inr (7, [.ref a_now, .ref a_past, .int v_saved, .ref a_errors, .ref a_text, .int v_textLength, .ref a_pad, .int v_padLength, .ref a_sounds, .int v_soundMany, .ref a_proposed, .ref a_given, .int v_proposals, .ref a_readings, .int v_readingMany, .long v_hash])), (a_now, .inl (cI, 150, .inl m_now)), (a_past, .inl (cI, 750, .inl m_past)), (a_errors, .inl (cI, 4, .inl m_errors))] H → va_D A [(a_t, .inr (7, [.ref a_now, .ref a_past, .int v_saved, .ref a_errors, .ref a_text, .int v_textLength, .ref a_pad, .int v_padLength, .ref a_sounds, .int v_soundMany, .ref a_proposed, .ref a_given, .int v_proposals, .ref a_readings, .int v_readingMany, .long v_hash])), (a_now, .inl (cI, 150, .inl m_now)), (a_past, .inl (cI, 750, .inl m_past)), (a_errors, .inl (cI, 4, .inl m_errors))] → va_S A s.heap H locs → lv_has ls 4 [(0, .ref a_t), (2, .int y2), (3, .int y3)] → (∀ (H : Heap) (locs : List Loc) (ls : Array Slot), va_P D vwCl [(a_t, .inr (7, [.ref a_now, .ref a_past, .int v_saved, .ref a_errors, .ref a_text, .int v_textLength, .ref a_pad, .int v_padLength, .ref a_sounds, .int v_soundMany, .ref a_proposed, .ref a_given, .int v_proposals, .ref a_readings, .int v_readingMany, .long v_hash])), (a_now, .inl (cI, 150, .inl o)), (a_past, .inl (cI, 750, .inl m_past)), (a_errors, .inl (cI, 4, .inl m_errors))] H → va_D A [(a_t, .inr (7, [.ref a_now, .ref a_past, .int v_saved, .ref a_errors, .ref a_text, .int v_textLength, .ref a_pad, .int v_padLength, .ref a_sounds, .int v_soundMany, .ref a_proposed, .ref a_given, .int v_proposals, .ref a_readings, .int v_readingMany, .long v_hash])), (a_now, .inl (cI, 150, .inl o)), (a_past, .inl (cI, 750, .inl m_past)), (a_errors, .inl (cI, 4, .inl m_errors))] → va_S A s.heap H locs → lv_has ls 4 [(0, .ref a_t), (2, .int y2)] → W p l e rm_X7_removeWord s m args below meth c H locs 0 0 Q (F0 m 148 ls [])) → W p l e rm_X7_removeWord s m args below meth c H locs 0 0 Q (F0 m 105 ls []) := by
  obtain ⟨hx, hb, hml, hr, hlk, hown, hin, hts, hK, hA⟩ := id Cx
  have hown : s.vm.findClass RX7 = some m.cls := hown
  intro n
  induction n with
  | zero =>
    intro y3 m_now o H locs ls hf
    rw [lp_X7_removeWord_105] at hf
    cases hf
  | succ n ih =>
    intro y3 m_now o H locs ls hf hP hD hS hl kk
    rw [lp_X7_removeWord_105] at hf
    refine lv_iload_n hx hb dX7_removeWord_105 rfl (lv_at hl 2 rfl) ?_
    refine lv_bipush (v := 8) hx hb dX7_removeWord_106 (by decide) ?_
    refine lv_icmp_ge (tgt := 148) hx hb dX7_removeWord_108 (by decide) (fun hb1 => ?_) (fun hb1 => ?_)
    · replace hf := if_t hb1 hf
      have ho := so hf
      subst ho
      exact kk _ _ _ hP hD hS (lv_sub hl [0, 1] rfl)
    · replace hf := if_f hb1 hf
      refine lv_aload_n hx hb dX7_removeWord_111 rfl (lv_at hl 0 rfl) ?_
      refine va_get (D := D) (ci := 7) (v := .ref a_now) (C := RX7) (T := TX7) (N := 16) hx hb hts ly_X7_removeWord_X7 hown hK.1 hP 0 rfl rfl 0 (by decide) (hts (.fieldLink RX7 7 "ShorthandOutlinesModel" "now" "[I") wd_X7_removeWord_0) (fun _ h9 => h9) rfl dX7_removeWord_112 ?_
      refine lv_bipush (v := 54) hx hb dX7_removeWord_115 (by decide) ?_
      refine lv_bipush (v := 8) hx hb dX7_removeWord_117 (by decide) ?_
      refine lv_iload_n hx hb dX7_removeWord_119 rfl (lv_at hl 1 rfl) ?_
      refine lv_imul hx hb dX7_removeWord_120 ?_
      refine lv_iadd hx hb dX7_removeWord_121 ?_
      refine lv_iload_n hx hb dX7_removeWord_122 rfl (lv_at hl 2 rfl) ?_
      refine lv_iadd hx hb dX7_removeWord_123 ?_
      refine lv_aload_n hx hb dX7_removeWord_124 rfl (lv_at hl 0 rfl) ?_
      refine va_get (D := D) (ci := 7) (v := .ref a_now) (C := RX7) (T := TX7) (N := 16) hx hb hts ly_X7_removeWord_X7 hown hK.1 hP 0 rfl rfl 0 (by decide) (hts (.fieldLink RX7 7 "ShorthandOutlinesModel" "now" "[I") wd_X7_removeWord_0) (fun _ h9 => h9) rfl dX7_removeWord_125 ?_
      refine lv_bipush (v := 54) hx hb dX7_removeWord_128 (by decide) ?_
      refine lv_bipush (v := 8) hx hb dX7_removeWord_130 (by decide) ?_
      refine lv_iload_n hx hb dX7_removeWord_132 rfl (lv_at hl 1 rfl) ?_
      refine lv_imul hx hb dX7_removeWord_133 ?_
      refine lv_iadd hx hb dX7_removeWord_134 ?_
      refine lv_bipush (v := 8) hx hb dX7_removeWord_135 (by decide) ?_
      refine lv_iadd hx hb dX7_removeWord_137 ?_
      refine lv_iload_n hx hb dX7_removeWord_138 rfl (lv_at hl 2 rfl) ?_
      refine lv_iadd hx hb dX7_removeWord_139 ?_
      have hi2 := gd_1 hf
      replace hf := gd_2 hf
      refine va_iald hx hb hK.1 hP 1 0 rfl rfl (inb_in hi2) dX7_removeWord_140 ?_
      have hi3 := gd_1 hf
      replace hf := gd_2 hf
      refine va_iast hx hb hK.1 hP hD hS 1 0 rfl rfl (inb_in hi3) dX7_removeWord_141 (fun H locs hP hD hS => ?_)
      have hP : va_P D vwCl [(a_t, .inr (7, [.ref a_now, .ref a_past, .int v_saved, .ref a_errors, .ref a_text, .int v_textLength, .ref a_pad, .int v_padLength, .ref a_sounds, .int v_soundMany, .ref a_proposed, .ref a_given, .int v_proposals, .ref a_readings, .int v_readingMany, .long v_hash])), (a_now, .inl (cI, 150, .inl (upd m_now (((54 : Int32) + ((8 : Int32) * y2)) + y3).toNatClampNeg (m_now ((((54 : Int32) + ((8 : Int32) * y2)) + (8 : Int32)) + y3).toNatClampNeg)))), (a_past, .inl (cI, 750, .inl m_past)), (a_errors, .inl (cI, 4, .inl m_errors))] H := hP
      have hD : va_D A [(a_t, .inr (7, [.ref a_now, .ref a_past, .int v_saved, .ref a_errors, .ref a_text, .int v_textLength, .ref a_pad, .int v_padLength, .ref a_sounds, .int v_soundMany, .ref a_proposed, .ref a_given, .int v_proposals, .ref a_readings, .int v_readingMany, .long v_hash])), (a_now, .inl (cI, 150, .inl (upd m_now (((54 : Int32) + ((8 : Int32) * y2)) + y3).toNatClampNeg (m_now ((((54 : Int32) + ((8 : Int32) * y2)) + (8 : Int32)) + y3).toNatClampNeg)))), (a_past, .inl (cI, 750, .inl m_past)), (a_errors, .inl (cI, 4, .inl m_errors))] := hD
      refine lv_iinc (v := (y3 + 1)) (lv' := [(3, .int (y3 + 1)), (0, .ref a_t), (2, .int y2)]) hx hb dX7_removeWord_142 hl (k := 2) rfl rfl (by decide) rfl (fun ls hl => ?_)
      refine lv_goto (tgt := 105) hx hb dX7_removeWord_145 (by decide) ?_
      exact ih (y3 + 1) (upd m_now (((54 : Int32) + ((8 : Int32) * y2)) + y3).toNatClampNeg (m_now ((((54 : Int32) + ((8 : Int32) * y2)) + (8 : Int32)) + y3).toNatClampNeg)) o _ _ _ hf hP hD hS (lv_sub hl [1, 2, 0] rfl) kk
set_option maxHeartbeats 4000000 in
set_option maxRecDepth 100000 in
theorem lt_X7_removeWord_32 {p : Program} {l : Launch} {e : Env} {s : State} {m : MethodId} {args : Array Value} {below : List Frame} {meth : Method} {c : Code} {D : va_G} {cI cZ cS : ClassId} {A : Nat → Prop} {Q : State → Prop} (Cx : gCx p s m meth c args cX7_removeWord 4 (some .int) yX7_removeWord wsX7_removeWord D cI cZ cS A) (a_t : Nat) (a_now : Nat) (a_past : Nat) (v_saved : Int32) (a_errors : Nat) (a_text : Nat) (v_textLength : Int32) (a_pad : Nat) (v_padLength : Int32) (a_sounds : Nat) (v_soundMany : Int32) (a_proposed : Nat) (a_given : Nat) (v_proposals : Int32) (a_readings : Nat) (v_readingMany : Int32) (v_hash : Int64) (m_past : Nat → Int32) (m_errors : Nat → Int32) : ∀ (n : Nat) (y2 : Int32) (m_now : Nat → Int32) (o : (Nat → Int32)) (H : Heap) (locs : List Loc) (ls : Array Slot), lp_X7_removeWord_32 n y2 m_now = some o → va_P D vwCl [(a_t, .inr (7, [.ref a_now, .ref a_past, .int v_saved, .ref a_errors, .ref a_text, .int v_textLength, .ref a_pad, .int v_padLength, .ref a_sounds, .int v_soundMany, .ref a_proposed, .ref a_given, .int v_proposals, .ref a_readings, .int v_readingMany, .long v_hash])), (a_now, .inl (cI, 150, .inl m_now)), (a_past, .inl (cI, 750, .inl m_past)), (a_errors, .inl (cI, 4, .inl m_errors))] H → va_D A [(a_t, .inr (7, [.ref a_now, .ref a_past, .int v_saved, .ref a_errors, .ref a_text, .int v_textLength, .ref a_pad, .int v_padLength, .ref a_sounds, .int v_soundMany, .ref a_proposed, .ref a_given, .int v_proposals, .ref a_readings, .int v_readingMany, .long v_hash])), (a_now, .inl (cI, 150, .inl m_now)), (a_past, .inl (cI, 750, .inl m_past)), (a_errors, .inl (cI, 4, .inl m_errors))] → va_S A s.heap H locs → lv_has ls 4 [(0, .ref a_t), (2, .int y2)] → (∀ (H : Heap) (locs : List Loc) (ls : Array Slot), va_P D vwCl [(a_t, .inr (7, [.ref a_now, .ref a_past, .int v_saved, .ref a_errors, .ref a_text, .int v_textLength, .ref a_pad, .int v_padLength, .ref a_sounds, .int v_soundMany, .ref a_proposed, .ref a_given, .int v_proposals, .ref a_readings, .int v_readingMany, .long v_hash])), (a_now, .inl (cI, 150, .inl o)), (a_past, .inl (cI, 750, .inl m_past)), (a_errors, .inl (cI, 4, .inl m_errors))] H → va_D A [(a_t, .inr (7, [.ref a_now, .ref a_past, .int v_saved, .ref a_errors, .ref a_text, .int v_textLength, .ref a_pad, .int v_padLength, .ref a_sounds, .int v_soundMany, .ref a_proposed, .ref a_given, .int v_proposals, .ref a_readings, .int v_readingMany, .long v_hash])), (a_now, .inl (cI, 150, .inl o)), (a_past, .inl (cI, 750, .inl m_past)), (a_errors, .inl (cI, 4, .inl m_errors))] → va_S A s.heap H locs → lv_has ls 4 [(0, .ref a_t)] → W p l e rm_X7_removeWord s m args below meth c H locs 0 0 Q (F0 m 154 ls [])) → W p l e rm_X7_removeWord s m args below meth c H locs 0 0 Q (F0 m 32 ls []) := by
  obtain ⟨hx, hb, hml, hr, hlk, hown, hin, hts, hK, hA⟩ := id Cx
  have hown : s.vm.findClass RX7 = some m.cls := hown
  intro n
  induction n with
  | zero =>
    intro y2 m_now o H locs ls hf
    rw [lp_X7_removeWord_32] at hf
    cases hf
  | succ n ih =>
    intro y2 m_now o H locs ls hf hP hD hS hl kk
    rw [lp_X7_removeWord_32] at hf
    refine lv_iload_n hx hb dX7_removeWord_32 rfl (lv_at hl 1 rfl) ?_
    refine lv_aload_n hx hb dX7_removeWord_33 rfl (lv_at hl 0 rfl) ?_
    refine va_get (D := D) (ci := 7) (v := .ref a_now) (C := RX7) (T := TX7) (N := 16) hx hb hts ly_X7_removeWord_X7 hown hK.1 hP 0 rfl rfl 0 (by decide) (hts (.fieldLink RX7 7 "ShorthandOutlinesModel" "now" "[I") wd_X7_removeWord_0) (fun _ h9 => h9) rfl dX7_removeWord_34 ?_
    refine lv_bipush (v := 17) hx hb dX7_removeWord_37 (by decide) ?_
    refine va_iald hx hb hK.1 hP 1 0 rfl rfl (by unfold vp_in; decide) dX7_removeWord_39 ?_
    refine lv_icmp_ge (tgt := 154) hx hb dX7_removeWord_40 (by decide) (fun hb1 => ?_) (fun hb1 => ?_)
    · replace hf := if_t hb1 hf
      have ho := so hf
      subst ho
      exact kk _ _ _ hP hD hS (lv_sub hl [0] rfl)
    · replace hf := if_f hb1 hf
      refine lv_aload_n hx hb dX7_removeWord_43 rfl (lv_at hl 0 rfl) ?_
      refine va_get (D := D) (ci := 7) (v := .ref a_now) (C := RX7) (T := TX7) (N := 16) hx hb hts ly_X7_removeWord_X7 hown hK.1 hP 0 rfl rfl 0 (by decide) (hts (.fieldLink RX7 7 "ShorthandOutlinesModel" "now" "[I") wd_X7_removeWord_0) (fun _ h9 => h9) rfl dX7_removeWord_44 ?_
      refine lv_bipush (v := 18) hx hb dX7_removeWord_47 (by decide) ?_
      refine lv_iload_n hx hb dX7_removeWord_49 rfl (lv_at hl 1 rfl) ?_
      refine lv_iadd hx hb dX7_removeWord_50 ?_
      refine lv_aload_n hx hb dX7_removeWord_51 rfl (lv_at hl 0 rfl) ?_
      refine va_get (D := D) (ci := 7) (v := .ref a_now) (C := RX7) (T := TX7) (N := 16) hx hb hts ly_X7_removeWord_X7 hown hK.1 hP 0 rfl rfl 0 (by decide) (hts (.fieldLink RX7 7 "ShorthandOutlinesModel" "now" "[I") wd_X7_removeWord_0) (fun _ h9 => h9) rfl dX7_removeWord_52 ?_
      refine lv_bipush (v := 18) hx hb dX7_removeWord_55 (by decide) ?_
      refine lv_iload_n hx hb dX7_removeWord_57 rfl (lv_at hl 1 rfl) ?_
      refine lv_iadd hx hb dX7_removeWord_58 ?_
      refine lv_iconst (v := 1) hx hb dX7_removeWord_59 (by decide) ?_
      refine lv_iadd hx hb dX7_removeWord_60 ?_
      have hi2 := gd_1 hf
      replace hf := gd_2 hf
      refine va_iald hx hb hK.1 hP 1 0 rfl rfl (inb_in hi2) dX7_removeWord_61 ?_
      have hi3 := gd_1 hf
      replace hf := gd_2 hf
      refine va_iast hx hb hK.1 hP hD hS 1 0 rfl rfl (inb_in hi3) dX7_removeWord_62 (fun H locs hP hD hS => ?_)
      have hP : va_P D vwCl [(a_t, .inr (7, [.ref a_now, .ref a_past, .int v_saved, .ref a_errors, .ref a_text, .int v_textLength, .ref a_pad, .int v_padLength, .ref a_sounds, .int v_soundMany, .ref a_proposed, .ref a_given, .int v_proposals, .ref a_readings, .int v_readingMany, .long v_hash])), (a_now, .inl (cI, 150, .inl (upd m_now ((18 : Int32) + y2).toNatClampNeg (m_now (((18 : Int32) + y2) + (1 : Int32)).toNatClampNeg)))), (a_past, .inl (cI, 750, .inl m_past)), (a_errors, .inl (cI, 4, .inl m_errors))] H := hP
      have hD : va_D A [(a_t, .inr (7, [.ref a_now, .ref a_past, .int v_saved, .ref a_errors, .ref a_text, .int v_textLength, .ref a_pad, .int v_padLength, .ref a_sounds, .int v_soundMany, .ref a_proposed, .ref a_given, .int v_proposals, .ref a_readings, .int v_readingMany, .long v_hash])), (a_now, .inl (cI, 150, .inl (upd m_now ((18 : Int32) + y2).toNatClampNeg (m_now (((18 : Int32) + y2) + (1 : Int32)).toNatClampNeg)))), (a_past, .inl (cI, 750, .inl m_past)), (a_errors, .inl (cI, 4, .inl m_errors))] := hD
      refine lv_aload_n hx hb dX7_removeWord_63 rfl (lv_at hl 0 rfl) ?_
      refine va_get (D := D) (ci := 7) (v := .ref a_now) (C := RX7) (T := TX7) (N := 16) hx hb hts ly_X7_removeWord_X7 hown hK.1 hP 0 rfl rfl 0 (by decide) (hts (.fieldLink RX7 7 "ShorthandOutlinesModel" "now" "[I") wd_X7_removeWord_0) (fun _ h9 => h9) rfl dX7_removeWord_64 ?_
      refine lv_bipush (v := 30) hx hb dX7_removeWord_67 (by decide) ?_
      refine lv_iload_n hx hb dX7_removeWord_69 rfl (lv_at hl 1 rfl) ?_
      refine lv_iadd hx hb dX7_removeWord_70 ?_
      refine lv_aload_n hx hb dX7_removeWord_71 rfl (lv_at hl 0 rfl) ?_
      refine va_get (D := D) (ci := 7) (v := .ref a_now) (C := RX7) (T := TX7) (N := 16) hx hb hts ly_X7_removeWord_X7 hown hK.1 hP 0 rfl rfl 0 (by decide) (hts (.fieldLink RX7 7 "ShorthandOutlinesModel" "now" "[I") wd_X7_removeWord_0) (fun _ h9 => h9) rfl dX7_removeWord_72 ?_
      refine lv_bipush (v := 30) hx hb dX7_removeWord_75 (by decide) ?_
      refine lv_iload_n hx hb dX7_removeWord_77 rfl (lv_at hl 1 rfl) ?_
      refine lv_iadd hx hb dX7_removeWord_78 ?_
      refine lv_iconst (v := 1) hx hb dX7_removeWord_79 (by decide) ?_
      refine lv_iadd hx hb dX7_removeWord_80 ?_
      have hi4 := gd_1 hf
      replace hf := gd_2 hf
      refine va_iald hx hb hK.1 hP 1 0 rfl rfl (inb_in hi4) dX7_removeWord_81 ?_
      have hi5 := gd_1 hf
      replace hf := gd_2 hf
      refine va_iast hx hb hK.1 hP hD hS 1 0 rfl rfl (inb_in hi5) dX7_removeWord_82 (fun H locs hP hD hS => ?_)
      have hP : va_P D vwCl [(a_t, .inr (7, [.ref a_now, .ref a_past, .int v_saved, .ref a_errors, .ref a_text, .int v_textLength, .ref a_pad, .int v_padLength, .ref a_sounds, .int v_soundMany, .ref a_proposed, .ref a_given, .int v_proposals, .ref a_readings, .int v_readingMany, .long v_hash])), (a_now, .inl (cI, 150, .inl (upd (upd m_now ((18 : Int32) + y2).toNatClampNeg (m_now (((18 : Int32) + y2) + (1 : Int32)).toNatClampNeg)) ((30 : Int32) + y2).toNatClampNeg ((upd m_now ((18 : Int32) + y2).toNatClampNeg (m_now (((18 : Int32) + y2) + (1 : Int32)).toNatClampNeg)) (((30 : Int32) + y2) + (1 : Int32)).toNatClampNeg)))), (a_past, .inl (cI, 750, .inl m_past)), (a_errors, .inl (cI, 4, .inl m_errors))] H := hP
      have hD : va_D A [(a_t, .inr (7, [.ref a_now, .ref a_past, .int v_saved, .ref a_errors, .ref a_text, .int v_textLength, .ref a_pad, .int v_padLength, .ref a_sounds, .int v_soundMany, .ref a_proposed, .ref a_given, .int v_proposals, .ref a_readings, .int v_readingMany, .long v_hash])), (a_now, .inl (cI, 150, .inl (upd (upd m_now ((18 : Int32) + y2).toNatClampNeg (m_now (((18 : Int32) + y2) + (1 : Int32)).toNatClampNeg)) ((30 : Int32) + y2).toNatClampNeg ((upd m_now ((18 : Int32) + y2).toNatClampNeg (m_now (((18 : Int32) + y2) + (1 : Int32)).toNatClampNeg)) (((30 : Int32) + y2) + (1 : Int32)).toNatClampNeg)))), (a_past, .inl (cI, 750, .inl m_past)), (a_errors, .inl (cI, 4, .inl m_errors))] := hD
      refine lv_aload_n hx hb dX7_removeWord_83 rfl (lv_at hl 0 rfl) ?_
      refine va_get (D := D) (ci := 7) (v := .ref a_now) (C := RX7) (T := TX7) (N := 16) hx hb hts ly_X7_removeWord_X7 hown hK.1 hP 0 rfl rfl 0 (by decide) (hts (.fieldLink RX7 7 "ShorthandOutlinesModel" "now" "[I") wd_X7_removeWord_0) (fun _ h9 => h9) rfl dX7_removeWord_84 ?_
      refine lv_bipush (v := 42) hx hb dX7_removeWord_87 (by decide) ?_
      refine lv_iload_n hx hb dX7_removeWord_89 rfl (lv_at hl 1 rfl) ?_
      refine lv_iadd hx hb dX7_removeWord_90 ?_
      refine lv_aload_n hx hb dX7_removeWord_91 rfl (lv_at hl 0 rfl) ?_
      refine va_get (D := D) (ci := 7) (v := .ref a_now) (C := RX7) (T := TX7) (N := 16) hx hb hts ly_X7_removeWord_X7 hown hK.1 hP 0 rfl rfl 0 (by decide) (hts (.fieldLink RX7 7 "ShorthandOutlinesModel" "now" "[I") wd_X7_removeWord_0) (fun _ h9 => h9) rfl dX7_removeWord_92 ?_
      refine lv_bipush (v := 42) hx hb dX7_removeWord_95 (by decide) ?_
      refine lv_iload_n hx hb dX7_removeWord_97 rfl (lv_at hl 1 rfl) ?_
      refine lv_iadd hx hb dX7_removeWord_98 ?_
      refine lv_iconst (v := 1) hx hb dX7_removeWord_99 (by decide) ?_
      refine lv_iadd hx hb dX7_removeWord_100 ?_
      have hi6 := gd_1 hf
      replace hf := gd_2 hf
      refine va_iald hx hb hK.1 hP 1 0 rfl rfl (inb_in hi6) dX7_removeWord_101 ?_
      have hi7 := gd_1 hf
      replace hf := gd_2 hf
      refine va_iast hx hb hK.1 hP hD hS 1 0 rfl rfl (inb_in hi7) dX7_removeWord_102 (fun H locs hP hD hS => ?_)
      have hP : va_P D vwCl [(a_t, .inr (7, [.ref a_now, .ref a_past, .int v_saved, .ref a_errors, .ref a_text, .int v_textLength, .ref a_pad, .int v_padLength, .ref a_sounds, .int v_soundMany, .ref a_proposed, .ref a_given, .int v_proposals, .ref a_readings, .int v_readingMany, .long v_hash])), (a_now, .inl (cI, 150, .inl (upd (upd (upd m_now ((18 : Int32) + y2).toNatClampNeg (m_now (((18 : Int32) + y2) + (1 : Int32)).toNatClampNeg)) ((30 : Int32) + y2).toNatClampNeg ((upd m_now ((18 : Int32) + y2).toNatClampNeg (m_now (((18 : Int32) + y2) + (1 : Int32)).toNatClampNeg)) (((30 : Int32) + y2) + (1 : Int32)).toNatClampNeg)) ((42 : Int32) + y2).toNatClampNeg ((upd (upd m_now ((18 : Int32) + y2).toNatClampNeg (m_now (((18 : Int32) + y2) + (1 : Int32)).toNatClampNeg)) ((30 : Int32) + y2).toNatClampNeg ((upd m_now ((18 : Int32) + y2).toNatClampNeg (m_now (((18 : Int32) + y2) + (1 : Int32)).toNatClampNeg)) (((30 : Int32) + y2) + (1 : Int32)).toNatClampNeg)) (((42 : Int32) + y2) + (1 : Int32)).toNatClampNeg)))), (a_past, .inl (cI, 750, .inl m_past)), (a_errors, .inl (cI, 4, .inl m_errors))] H := hP
      have hD : va_D A [(a_t, .inr (7, [.ref a_now, .ref a_past, .int v_saved, .ref a_errors, .ref a_text, .int v_textLength, .ref a_pad, .int v_padLength, .ref a_sounds, .int v_soundMany, .ref a_proposed, .ref a_given, .int v_proposals, .ref a_readings, .int v_readingMany, .long v_hash])), (a_now, .inl (cI, 150, .inl (upd (upd (upd m_now ((18 : Int32) + y2).toNatClampNeg (m_now (((18 : Int32) + y2) + (1 : Int32)).toNatClampNeg)) ((30 : Int32) + y2).toNatClampNeg ((upd m_now ((18 : Int32) + y2).toNatClampNeg (m_now (((18 : Int32) + y2) + (1 : Int32)).toNatClampNeg)) (((30 : Int32) + y2) + (1 : Int32)).toNatClampNeg)) ((42 : Int32) + y2).toNatClampNeg ((upd (upd m_now ((18 : Int32) + y2).toNatClampNeg (m_now (((18 : Int32) + y2) + (1 : Int32)).toNatClampNeg)) ((30 : Int32) + y2).toNatClampNeg ((upd m_now ((18 : Int32) + y2).toNatClampNeg (m_now (((18 : Int32) + y2) + (1 : Int32)).toNatClampNeg)) (((30 : Int32) + y2) + (1 : Int32)).toNatClampNeg)) (((42 : Int32) + y2) + (1 : Int32)).toNatClampNeg)))), (a_past, .inl (cI, 750, .inl m_past)), (a_errors, .inl (cI, 4, .inl m_errors))] := hD
      refine lv_iconst (v := 0) hx hb dX7_removeWord_103 (by decide) ?_
      refine lv_istore_n (lv' := [(3, .int (0 : Int32)), (0, .ref a_t), (2, .int y2)]) hx hb dX7_removeWord_104 rfl hl (by decide) rfl (fun ls hl => ?_)
      obtain ⟨u1, hc8, hf⟩ := ob hf
      refine lt_X7_removeWord_105 Cx a_t a_now a_past v_saved a_errors a_text v_textLength a_pad v_padLength a_sounds v_soundMany a_proposed a_given v_proposals a_readings v_readingMany v_hash m_past m_errors y2 1024 (0 : Int32) (upd (upd (upd m_now ((18 : Int32) + y2).toNatClampNeg (m_now (((18 : Int32) + y2) + (1 : Int32)).toNatClampNeg)) ((30 : Int32) + y2).toNatClampNeg ((upd m_now ((18 : Int32) + y2).toNatClampNeg (m_now (((18 : Int32) + y2) + (1 : Int32)).toNatClampNeg)) (((30 : Int32) + y2) + (1 : Int32)).toNatClampNeg)) ((42 : Int32) + y2).toNatClampNeg ((upd (upd m_now ((18 : Int32) + y2).toNatClampNeg (m_now (((18 : Int32) + y2) + (1 : Int32)).toNatClampNeg)) ((30 : Int32) + y2).toNatClampNeg ((upd m_now ((18 : Int32) + y2).toNatClampNeg (m_now (((18 : Int32) + y2) + (1 : Int32)).toNatClampNeg)) (((30 : Int32) + y2) + (1 : Int32)).toNatClampNeg)) (((42 : Int32) + y2) + (1 : Int32)).toNatClampNeg)) u1 _ _ _ hc8 hP hD hS (lv_sub hl [1, 2, 0] rfl) (fun H locs ls hP hD hS hl => ?_)
      have hP : va_P D vwCl [(a_t, .inr (7, [.ref a_now, .ref a_past, .int v_saved, .ref a_errors, .ref a_text, .int v_textLength, .ref a_pad, .int v_padLength, .ref a_sounds, .int v_soundMany, .ref a_proposed, .ref a_given, .int v_proposals, .ref a_readings, .int v_readingMany, .long v_hash])), (a_now, .inl (cI, 150, .inl u1)), (a_past, .inl (cI, 750, .inl m_past)), (a_errors, .inl (cI, 4, .inl m_errors))] H := hP
      have hD : va_D A [(a_t, .inr (7, [.ref a_now, .ref a_past, .int v_saved, .ref a_errors, .ref a_text, .int v_textLength, .ref a_pad, .int v_padLength, .ref a_sounds, .int v_soundMany, .ref a_proposed, .ref a_given, .int v_proposals, .ref a_readings, .int v_readingMany, .long v_hash])), (a_now, .inl (cI, 150, .inl u1)), (a_past, .inl (cI, 750, .inl m_past)), (a_errors, .inl (cI, 4, .inl m_errors))] := hD
      have hl : lv_has ls 4 [(0, .ref a_t), (2, .int y2)] := hl
      refine lv_iinc (v := (y2 + 1)) (lv' := [(2, .int (y2 + 1)), (0, .ref a_t)]) hx hb dX7_removeWord_148 hl (k := 1) rfl rfl (by decide) rfl (fun ls hl => ?_)
      refine lv_goto (tgt := 32) hx hb dX7_removeWord_151 (by decide) ?_
      exact ih (y2 + 1) u1 o _ _ _ hf hP hD hS (lv_sub hl [1, 0] rfl) kk
set_option maxHeartbeats 4000000 in
set_option maxRecDepth 100000 in
theorem kt_X7_removeWord (l : Launch) (D : va_G) (cI cZ cS : ClassId) (a_t : Nat) (a_now : Nat) (a_past : Nat) (a_errors : Nat) (a_text : Nat) (a_pad : Nat) (a_sounds : Nat) (a_proposed : Nat) (a_given : Nat) (a_readings : Nat) (v_textLength : Int32) (v_padLength : Int32) (v_soundMany : Int32) (v_proposals : Int32) (v_readingMany : Int32) (v_hash : Int64) (v_saved : Int32) (m_now : Nat → Int32) (m_past : Nat → Int32) (m_errors : Nat → Int32) (x1 : Int32) (o : Int32 × Int32 × (Nat → Int32) × (Nat → Int32) × (Nat → Int32)) (hf : fn_X7_removeWord v_saved m_now m_past m_errors x1 = some o) (sz : Nat) : Met l yX7_removeWord wsX7_removeWord rm_X7_removeWord (va_Pc [.ref a_t, .int x1] (gPre D cI cZ cS [(a_t, .inr (7, [.ref a_now, .ref a_past, .int v_saved, .ref a_errors, .ref a_text, .int v_textLength, .ref a_pad, .int v_padLength, .ref a_sounds, .int v_soundMany, .ref a_proposed, .ref a_given, .int v_proposals, .ref a_readings, .int v_readingMany, .long v_hash])), (a_now, .inl (cI, 150, .inl m_now)), (a_past, .inl (cI, 750, .inl m_past)), (a_errors, .inl (cI, 4, .inl m_errors))] sz)) (va_Qi (fun r (_ : Unit) => r = o.1) (fun _ => gB D [(a_t, .inr (7, [.ref a_now, .ref a_past, .int o.2.1, .ref a_errors, .ref a_text, .int v_textLength, .ref a_pad, .int v_padLength, .ref a_sounds, .int v_soundMany, .ref a_proposed, .ref a_given, .int v_proposals, .ref a_readings, .int v_readingMany, .long v_hash])), (a_now, .inl (cI, 150, .inl o.2.2.1)), (a_past, .inl (cI, 750, .inl o.2.2.2.1)), (a_errors, .inl (cI, 4, .inl o.2.2.2.2))] (va_A [(a_t, .inr (7, [.ref a_now, .ref a_past, .int v_saved, .ref a_errors, .ref a_text, .int v_textLength, .ref a_pad, .int v_padLength, .ref a_sounds, .int v_soundMany, .ref a_proposed, .ref a_given, .int v_proposals, .ref a_readings, .int v_readingMany, .long v_hash])), (a_now, .inl (cI, 150, .inl m_now)), (a_past, .inl (cI, 750, .inl m_past)), (a_errors, .inl (cI, 4, .inl m_errors))] sz)) (va_A [(a_t, .inr (7, [.ref a_now, .ref a_past, .int v_saved, .ref a_errors, .ref a_text, .int v_textLength, .ref a_pad, .int v_padLength, .ref a_sounds, .int v_soundMany, .ref a_proposed, .ref a_given, .int v_proposals, .ref a_readings, .int v_readingMany, .long v_hash])), (a_now, .inl (cI, 150, .inl m_now)), (a_past, .inl (cI, 750, .inl m_past)), (a_errors, .inl (cI, 4, .inl m_errors))] sz)) 0 0 (va_A [(a_t, .inr (7, [.ref a_now, .ref a_past, .int v_saved, .ref a_errors, .ref a_text, .int v_textLength, .ref a_pad, .int v_padLength, .ref a_sounds, .int v_soundMany, .ref a_proposed, .ref a_given, .int v_proposals, .ref a_readings, .int v_readingMany, .long v_hash])), (a_now, .inl (cI, 150, .inl m_now)), (a_past, .inl (cI, 750, .inl m_past)), (a_errors, .inl (cI, 4, .inl m_errors))] sz) := by
  refine g_entry (Qc := fun A => va_Qi (fun r (_ : Unit) => r = o.1) (fun _ => gB D [(a_t, .inr (7, [.ref a_now, .ref a_past, .int o.2.1, .ref a_errors, .ref a_text, .int v_textLength, .ref a_pad, .int v_padLength, .ref a_sounds, .int v_soundMany, .ref a_proposed, .ref a_given, .int v_proposals, .ref a_readings, .int v_readingMany, .long v_hash])), (a_now, .inl (cI, 150, .inl o.2.2.1)), (a_past, .inl (cI, 750, .inl o.2.2.2.1)), (a_errors, .inl (cI, 4, .inl o.2.2.2.2))] A) A) (cc := cX7_removeWord) (maxL := 4) (ret := (some .int)) (by decide) rfl (Nat.le_of_ble_eq_true rfl) ?_ sz
  intro p e s m below meth c A ls Cx hP hD hS hl
  obtain ⟨hx, hb, hml, hr, hlk, hown, hin, hts, hK, hA⟩ := id Cx
  have hown : s.vm.findClass RX7 = some m.cls := hown
  have hl : lv_has ls 4 [(0, .ref a_t), (1, .int x1)] := hl
  unfold fn_X7_removeWord at hf
  refine lv_aload_n hx hb dX7_removeWord_0 rfl (lv_at hl 0 rfl) ?_
  refine lv_iload_n hx hb dX7_removeWord_1 rfl (lv_at hl 1 rfl) ?_
  obtain ⟨u1, hc1, hf⟩ := ob hf
  refine g_ki (wc := [(a_t, .inr (7, [.ref a_now, .ref a_past, .int v_saved, .ref a_errors, .ref a_text, .int v_textLength, .ref a_pad, .int v_padLength, .ref a_sounds, .int v_soundMany, .ref a_proposed, .ref a_given, .int v_proposals, .ref a_readings, .int v_readingMany, .long v_hash])), (a_now, .inl (cI, 150, .inl m_now))]) (wc' := [(a_t, .inr (7, [.ref a_now, .ref a_past, .int v_saved, .ref a_errors, .ref a_text, .int v_textLength, .ref a_pad, .int v_padLength, .ref a_sounds, .int v_soundMany, .ref a_proposed, .ref a_given, .int v_proposals, .ref a_readings, .int v_readingMany, .long v_hash])), (a_now, .inl (cI, 150, .inl m_now))]) (wr := [(a_past, .inl (cI, 750, .inl m_past)), (a_errors, .inl (cI, 4, .inl m_errors))]) (va_runV (As := [.int x1]) (rest := []) ⟨hx, hb, hml, hown, hts⟩ (kt_X7_isWord l D cI cZ cS a_t a_now a_past a_errors a_text a_pad a_sounds a_proposed a_given a_readings v_saved v_textLength v_padLength v_soundMany v_proposals v_readingMany v_hash m_now x1 u1 hc1 _) (cwV 1 hts gX7_removeWord_X7_isWord rfl rfl rfl sg_X7_isWord ⟨(Nat.le_of_ble_eq_true rfl), (Nat.le_of_ble_eq_true rfl)⟩) (g_pv (q := (RX7, TX7, 16)) hK hP hD [0, 1] rfl (by decide) rfl rfl) rfl rfl hl.1 rfl (lv_room (Nat.le_of_ble_eq_true rfl)) dX7_removeWord_2 ⟨Nat.zero_le _, Nat.zero_le _⟩) hP hD hS hA [0, 1] [2, 3] rfl rfl (by decide) (by decide) (fun H locs hP hD hS => ?_)
  have hP : va_P D vwCl [(a_past, .inl (cI, 750, .inl m_past)), (a_errors, .inl (cI, 4, .inl m_errors)), (a_t, .inr (7, [.ref a_now, .ref a_past, .int v_saved, .ref a_errors, .ref a_text, .int v_textLength, .ref a_pad, .int v_padLength, .ref a_sounds, .int v_soundMany, .ref a_proposed, .ref a_given, .int v_proposals, .ref a_readings, .int v_readingMany, .long v_hash])), (a_now, .inl (cI, 150, .inl m_now))] H := hP
  have hD : va_D A [(a_past, .inl (cI, 750, .inl m_past)), (a_errors, .inl (cI, 4, .inl m_errors)), (a_t, .inr (7, [.ref a_now, .ref a_past, .int v_saved, .ref a_errors, .ref a_text, .int v_textLength, .ref a_pad, .int v_padLength, .ref a_sounds, .int v_soundMany, .ref a_proposed, .ref a_given, .int v_proposals, .ref a_readings, .int v_readingMany, .long v_hash])), (a_now, .inl (cI, 150, .inl m_now))] := hD
  refine lv_if_ne (tgt := 15) hx hb dX7_removeWord_5 (by decide) (fun hb2 => ?_) (fun hb2 => ?_)
  · replace hf := if_f hb2 hf
    refine lv_aload_n hx hb dX7_removeWord_15 rfl (lv_at hl 0 rfl) ?_
    obtain ⟨u2, hc3, hf⟩ := ob hf
    refine g_kv (wc := [(a_t, .inr (7, [.ref a_now, .ref a_past, .int v_saved, .ref a_errors, .ref a_text, .int v_textLength, .ref a_pad, .int v_padLength, .ref a_sounds, .int v_soundMany, .ref a_proposed, .ref a_given, .int v_proposals, .ref a_readings, .int v_readingMany, .long v_hash])), (a_now, .inl (cI, 150, .inl m_now)), (a_past, .inl (cI, 750, .inl m_past))]) (wc' := [(a_t, .inr (7, [.ref a_now, .ref a_past, .int u2.1, .ref a_errors, .ref a_text, .int v_textLength, .ref a_pad, .int v_padLength, .ref a_sounds, .int v_soundMany, .ref a_proposed, .ref a_given, .int v_proposals, .ref a_readings, .int v_readingMany, .long v_hash])), (a_now, .inl (cI, 150, .inl m_now)), (a_past, .inl (cI, 750, .inl u2.2))]) (wr := [(a_errors, .inl (cI, 4, .inl m_errors))]) (va_runV (As := []) (rest := []) ⟨hx, hb, hml, hown, hts⟩ (kt_X7_saves l D cI cZ cS a_t a_now a_past a_errors a_text a_pad a_sounds a_proposed a_given a_readings v_textLength v_padLength v_soundMany v_proposals v_readingMany v_hash v_saved m_now m_past u2 hc3 _) (cwV 0 hts gX7_removeWord_X7_saves rfl rfl rfl sg_X7_saves ⟨(Nat.le_of_ble_eq_true rfl), (Nat.le_of_ble_eq_true rfl)⟩) (g_pv (q := (RX7, TX7, 16)) hK hP hD [2, 3, 0] rfl (by decide) rfl rfl) rfl rfl hl.1 rfl (lv_room (Nat.le_of_ble_eq_true rfl)) dX7_removeWord_16 ⟨Nat.zero_le _, Nat.zero_le _⟩) hP hD hS hA [2, 3, 0] [1] rfl rfl (by decide) (by decide) (fun H locs hP hD hS => ?_)
    have hP : va_P D vwCl [(a_errors, .inl (cI, 4, .inl m_errors)), (a_t, .inr (7, [.ref a_now, .ref a_past, .int u2.1, .ref a_errors, .ref a_text, .int v_textLength, .ref a_pad, .int v_padLength, .ref a_sounds, .int v_soundMany, .ref a_proposed, .ref a_given, .int v_proposals, .ref a_readings, .int v_readingMany, .long v_hash])), (a_now, .inl (cI, 150, .inl m_now)), (a_past, .inl (cI, 750, .inl u2.2))] H := hP
    have hD : va_D A [(a_errors, .inl (cI, 4, .inl m_errors)), (a_t, .inr (7, [.ref a_now, .ref a_past, .int u2.1, .ref a_errors, .ref a_text, .int v_textLength, .ref a_pad, .int v_padLength, .ref a_sounds, .int v_soundMany, .ref a_proposed, .ref a_given, .int v_proposals, .ref a_readings, .int v_readingMany, .long v_hash])), (a_now, .inl (cI, 150, .inl m_now)), (a_past, .inl (cI, 750, .inl u2.2))] := hD
    refine lv_aload_n hx hb dX7_removeWord_19 rfl (lv_at hl 0 rfl) ?_
    refine va_get (D := D) (ci := 7) (v := .ref a_now) (C := RX7) (T := TX7) (N := 16) hx hb hts ly_X7_removeWord_X7 hown hK.1 hP 1 rfl rfl 0 (by decide) (hts (.fieldLink RX7 7 "ShorthandOutlinesModel" "now" "[I") wd_X7_removeWord_0) (fun _ h9 => h9) rfl dX7_removeWord_20 ?_
    refine lv_bipush (v := 17) hx hb dX7_removeWord_23 (by decide) ?_
    refine lv_dup2_11 hx hb dX7_removeWord_25 rfl rfl ?_
    refine va_iald hx hb hK.1 hP 2 0 rfl rfl (by unfold vp_in; decide) dX7_removeWord_26 ?_
    refine lv_iconst (v := 1) hx hb dX7_removeWord_27 (by decide) ?_
    refine lv_isub hx hb dX7_removeWord_28 ?_
    refine va_iast hx hb hK.1 hP hD hS 2 0 rfl rfl (by unfold vp_in; decide) dX7_removeWord_29 (fun H locs hP hD hS => ?_)
    have hP : va_P D vwCl [(a_errors, .inl (cI, 4, .inl m_errors)), (a_t, .inr (7, [.ref a_now, .ref a_past, .int u2.1, .ref a_errors, .ref a_text, .int v_textLength, .ref a_pad, .int v_padLength, .ref a_sounds, .int v_soundMany, .ref a_proposed, .ref a_given, .int v_proposals, .ref a_readings, .int v_readingMany, .long v_hash])), (a_now, .inl (cI, 150, .inl (upd m_now (17 : Int32).toNatClampNeg ((m_now (17 : Int32).toNatClampNeg) - (1 : Int32))))), (a_past, .inl (cI, 750, .inl u2.2))] H := hP
    have hD : va_D A [(a_errors, .inl (cI, 4, .inl m_errors)), (a_t, .inr (7, [.ref a_now, .ref a_past, .int u2.1, .ref a_errors, .ref a_text, .int v_textLength, .ref a_pad, .int v_padLength, .ref a_sounds, .int v_soundMany, .ref a_proposed, .ref a_given, .int v_proposals, .ref a_readings, .int v_readingMany, .long v_hash])), (a_now, .inl (cI, 150, .inl (upd m_now (17 : Int32).toNatClampNeg ((m_now (17 : Int32).toNatClampNeg) - (1 : Int32))))), (a_past, .inl (cI, 750, .inl u2.2))] := hD
    refine lv_iload_n hx hb dX7_removeWord_30 rfl (lv_at hl 1 rfl) ?_
    refine lv_istore_n (lv' := [(2, .int x1), (0, .ref a_t), (1, .int x1)]) hx hb dX7_removeWord_31 rfl hl (by decide) rfl (fun ls hl => ?_)
    have hP : va_P D vwCl [(a_t, .inr (7, [.ref a_now, .ref a_past, .int u2.1, .ref a_errors, .ref a_text, .int v_textLength, .ref a_pad, .int v_padLength, .ref a_sounds, .int v_soundMany, .ref a_proposed, .ref a_given, .int v_proposals, .ref a_readings, .int v_readingMany, .long v_hash])), (a_now, .inl (cI, 150, .inl (upd m_now (17 : Int32).toNatClampNeg ((m_now (17 : Int32).toNatClampNeg) - (1 : Int32))))), (a_past, .inl (cI, 750, .inl u2.2)), (a_errors, .inl (cI, 4, .inl m_errors))] H := hP.sub [1, 2, 3, 0] rfl
    have hD : va_D A [(a_t, .inr (7, [.ref a_now, .ref a_past, .int u2.1, .ref a_errors, .ref a_text, .int v_textLength, .ref a_pad, .int v_padLength, .ref a_sounds, .int v_soundMany, .ref a_proposed, .ref a_given, .int v_proposals, .ref a_readings, .int v_readingMany, .long v_hash])), (a_now, .inl (cI, 150, .inl (upd m_now (17 : Int32).toNatClampNeg ((m_now (17 : Int32).toNatClampNeg) - (1 : Int32))))), (a_past, .inl (cI, 750, .inl u2.2)), (a_errors, .inl (cI, 4, .inl m_errors))] := hD.sub [1, 2, 3, 0] (by decide +kernel) rfl
    obtain ⟨u3, hc4, hf⟩ := ob hf
    refine lt_X7_removeWord_32 Cx a_t a_now a_past u2.1 a_errors a_text v_textLength a_pad v_padLength a_sounds v_soundMany a_proposed a_given v_proposals a_readings v_readingMany v_hash u2.2 m_errors 1024 x1 (upd m_now (17 : Int32).toNatClampNeg ((m_now (17 : Int32).toNatClampNeg) - (1 : Int32))) u3 _ _ _ hc4 hP hD hS (lv_sub hl [1, 0] rfl) (fun H locs ls hP hD hS hl => ?_)
    have hP : va_P D vwCl [(a_t, .inr (7, [.ref a_now, .ref a_past, .int u2.1, .ref a_errors, .ref a_text, .int v_textLength, .ref a_pad, .int v_padLength, .ref a_sounds, .int v_soundMany, .ref a_proposed, .ref a_given, .int v_proposals, .ref a_readings, .int v_readingMany, .long v_hash])), (a_now, .inl (cI, 150, .inl u3)), (a_past, .inl (cI, 750, .inl u2.2)), (a_errors, .inl (cI, 4, .inl m_errors))] H := hP
    have hD : va_D A [(a_t, .inr (7, [.ref a_now, .ref a_past, .int u2.1, .ref a_errors, .ref a_text, .int v_textLength, .ref a_pad, .int v_padLength, .ref a_sounds, .int v_soundMany, .ref a_proposed, .ref a_given, .int v_proposals, .ref a_readings, .int v_readingMany, .long v_hash])), (a_now, .inl (cI, 150, .inl u3)), (a_past, .inl (cI, 750, .inl u2.2)), (a_errors, .inl (cI, 4, .inl m_errors))] := hD
    have hl : lv_has ls 4 [(0, .ref a_t)] := hl
    refine lv_aload_n hx hb dX7_removeWord_154 rfl (lv_at hl 0 rfl) ?_
    refine va_get (D := D) (ci := 7) (v := .ref a_now) (C := RX7) (T := TX7) (N := 16) hx hb hts ly_X7_removeWord_X7 hown hK.1 hP 0 rfl rfl 0 (by decide) (hts (.fieldLink RX7 7 "ShorthandOutlinesModel" "now" "[I") wd_X7_removeWord_0) (fun _ h9 => h9) rfl dX7_removeWord_155 ?_
    refine lv_bipush (v := 17) hx hb dX7_removeWord_158 (by decide) ?_
    refine va_iald hx hb hK.1 hP 1 0 rfl rfl (by unfold vp_in; decide) dX7_removeWord_160 ?_
    have ho := so hf
    subst ho
    exact g_iret hx hb hr hlk hP hD hS dX7_removeWord_161
  · replace hf := if_t hb2 hf
    refine lv_aload_n hx hb dX7_removeWord_8 rfl (lv_at hl 0 rfl) ?_
    refine lv_bipush (v := -2) hx hb dX7_removeWord_9 (by decide) ?_
    obtain ⟨u4, hc5, hf⟩ := ob hf
    refine g_ki (wc := [(a_t, .inr (7, [.ref a_now, .ref a_past, .int v_saved, .ref a_errors, .ref a_text, .int v_textLength, .ref a_pad, .int v_padLength, .ref a_sounds, .int v_soundMany, .ref a_proposed, .ref a_given, .int v_proposals, .ref a_readings, .int v_readingMany, .long v_hash])), (a_errors, .inl (cI, 4, .inl m_errors))]) (wc' := [(a_t, .inr (7, [.ref a_now, .ref a_past, .int v_saved, .ref a_errors, .ref a_text, .int v_textLength, .ref a_pad, .int v_padLength, .ref a_sounds, .int v_soundMany, .ref a_proposed, .ref a_given, .int v_proposals, .ref a_readings, .int v_readingMany, .long v_hash])), (a_errors, .inl (cI, 4, .inl u4.2))]) (wr := [(a_past, .inl (cI, 750, .inl m_past)), (a_now, .inl (cI, 150, .inl m_now))]) (va_runV (As := [.int (-2 : Int32)]) (rest := []) ⟨hx, hb, hml, hown, hts⟩ (kt_X7_fails l D cI cZ cS a_t a_errors a_now a_past a_text a_pad a_sounds a_proposed a_given a_readings v_saved v_textLength v_padLength v_soundMany v_proposals v_readingMany v_hash m_errors (-2 : Int32) u4 hc5 _) (cwV 1 hts gX7_removeWord_X7_fails rfl rfl rfl sg_X7_fails ⟨(Nat.le_of_ble_eq_true rfl), (Nat.le_of_ble_eq_true rfl)⟩) (g_pv (q := (RX7, TX7, 16)) hK hP hD [2, 1] rfl (by decide) rfl rfl) rfl rfl hl.1 rfl (lv_room (Nat.le_of_ble_eq_true rfl)) dX7_removeWord_11 ⟨Nat.zero_le _, Nat.zero_le _⟩) hP hD hS hA [2, 1] [0, 3] rfl rfl (by decide) (by decide) (fun H locs hP hD hS => ?_)
    have hP : va_P D vwCl [(a_past, .inl (cI, 750, .inl m_past)), (a_now, .inl (cI, 150, .inl m_now)), (a_t, .inr (7, [.ref a_now, .ref a_past, .int v_saved, .ref a_errors, .ref a_text, .int v_textLength, .ref a_pad, .int v_padLength, .ref a_sounds, .int v_soundMany, .ref a_proposed, .ref a_given, .int v_proposals, .ref a_readings, .int v_readingMany, .long v_hash])), (a_errors, .inl (cI, 4, .inl u4.2))] H := hP
    have hD : va_D A [(a_past, .inl (cI, 750, .inl m_past)), (a_now, .inl (cI, 150, .inl m_now)), (a_t, .inr (7, [.ref a_now, .ref a_past, .int v_saved, .ref a_errors, .ref a_text, .int v_textLength, .ref a_pad, .int v_padLength, .ref a_sounds, .int v_soundMany, .ref a_proposed, .ref a_given, .int v_proposals, .ref a_readings, .int v_readingMany, .long v_hash])), (a_errors, .inl (cI, 4, .inl u4.2))] := hD
    have hP : va_P D vwCl [(a_t, .inr (7, [.ref a_now, .ref a_past, .int v_saved, .ref a_errors, .ref a_text, .int v_textLength, .ref a_pad, .int v_padLength, .ref a_sounds, .int v_soundMany, .ref a_proposed, .ref a_given, .int v_proposals, .ref a_readings, .int v_readingMany, .long v_hash])), (a_now, .inl (cI, 150, .inl m_now)), (a_past, .inl (cI, 750, .inl m_past)), (a_errors, .inl (cI, 4, .inl u4.2))] H := hP.sub [2, 1, 0, 3] rfl
    have hD : va_D A [(a_t, .inr (7, [.ref a_now, .ref a_past, .int v_saved, .ref a_errors, .ref a_text, .int v_textLength, .ref a_pad, .int v_padLength, .ref a_sounds, .int v_soundMany, .ref a_proposed, .ref a_given, .int v_proposals, .ref a_readings, .int v_readingMany, .long v_hash])), (a_now, .inl (cI, 150, .inl m_now)), (a_past, .inl (cI, 750, .inl m_past)), (a_errors, .inl (cI, 4, .inl u4.2))] := hD.sub [2, 1, 0, 3] (by decide +kernel) rfl
    have ho := so hf
    subst ho
    exact g_iret hx hb hr hlk hP hD hS dX7_removeWord_14

theorem sg_X7_words : yX7_words.cls = RX7 ∧ yX7_words.cls ≠ "java/lang/invoke/MethodHandle" ∧ yX7_words.cls ≠ "java/lang/invoke/VarHandle" ∧ (parseMethodDescriptor yX7_words.desc).map (fun d => d.parameters.length) = some 0 := by decide +kernel
abbrev rm_X7_words : Room := { frames := 0, cells := 0, slots := 0, locals := 0 }
theorem wd_X7_words_0 : (.fieldLink RX7 7 "ShorthandOutlinesModel" "now" "[I" : Cond) ∈ wsX7_words := by decide +kernel
theorem ly_X7_words_X7 : ∀ w ∈ u_ws RX7 TX7 16, w ∈ wsX7_words := by decide +kernel
set_option maxHeartbeats 4000000 in
set_option maxRecDepth 100000 in
theorem kt_X7_words (l : Launch) (D : va_G) (cI cZ cS : ClassId) (a_t : Nat) (a_now : Nat) (a_past : Nat) (a_errors : Nat) (a_text : Nat) (a_pad : Nat) (a_sounds : Nat) (a_proposed : Nat) (a_given : Nat) (a_readings : Nat) (v_saved : Int32) (v_textLength : Int32) (v_padLength : Int32) (v_soundMany : Int32) (v_proposals : Int32) (v_readingMany : Int32) (v_hash : Int64) (m_now : Nat → Int32) (o : Int32) (hf : fn_X7_words m_now = some o) (sz : Nat) : Met l yX7_words wsX7_words rm_X7_words (va_Pc [.ref a_t] (gPre D cI cZ cS [(a_t, .inr (7, [.ref a_now, .ref a_past, .int v_saved, .ref a_errors, .ref a_text, .int v_textLength, .ref a_pad, .int v_padLength, .ref a_sounds, .int v_soundMany, .ref a_proposed, .ref a_given, .int v_proposals, .ref a_readings, .int v_readingMany, .long v_hash])), (a_now, .inl (cI, 150, .inl m_now))] sz)) (va_Qi (fun r (_ : Unit) => r = o) (fun _ => gB D [(a_t, .inr (7, [.ref a_now, .ref a_past, .int v_saved, .ref a_errors, .ref a_text, .int v_textLength, .ref a_pad, .int v_padLength, .ref a_sounds, .int v_soundMany, .ref a_proposed, .ref a_given, .int v_proposals, .ref a_readings, .int v_readingMany, .long v_hash])), (a_now, .inl (cI, 150, .inl m_now))] (va_A [(a_t, .inr (7, [.ref a_now, .ref a_past, .int v_saved, .ref a_errors, .ref a_text, .int v_textLength, .ref a_pad, .int v_padLength, .ref a_sounds, .int v_soundMany, .ref a_proposed, .ref a_given, .int v_proposals, .ref a_readings, .int v_readingMany, .long v_hash])), (a_now, .inl (cI, 150, .inl m_now))] sz)) (va_A [(a_t, .inr (7, [.ref a_now, .ref a_past, .int v_saved, .ref a_errors, .ref a_text, .int v_textLength, .ref a_pad, .int v_padLength, .ref a_sounds, .int v_soundMany, .ref a_proposed, .ref a_given, .int v_proposals, .ref a_readings, .int v_readingMany, .long v_hash])), (a_now, .inl (cI, 150, .inl m_now))] sz)) 0 0 (va_A [(a_t, .inr (7, [.ref a_now, .ref a_past, .int v_saved, .ref a_errors, .ref a_text, .int v_textLength, .ref a_pad, .int v_padLength, .ref a_sounds, .int v_soundMany, .ref a_proposed, .ref a_given, .int v_proposals, .ref a_readings, .int v_readingMany, .long v_hash])), (a_now, .inl (cI, 150, .inl m_now))] sz) := by
  refine g_entry (Qc := fun A => va_Qi (fun r (_ : Unit) => r = o) (fun _ => gB D [(a_t, .inr (7, [.ref a_now, .ref a_past, .int v_saved, .ref a_errors, .ref a_text, .int v_textLength, .ref a_pad, .int v_padLength, .ref a_sounds, .int v_soundMany, .ref a_proposed, .ref a_given, .int v_proposals, .ref a_readings, .int v_readingMany, .long v_hash])), (a_now, .inl (cI, 150, .inl m_now))] A) A) (cc := cX7_words) (maxL := 1) (ret := (some .int)) (by decide) rfl (Nat.le_of_ble_eq_true rfl) ?_ sz
  intro p e s m below meth c A ls Cx hP hD hS hl
  obtain ⟨hx, hb, hml, hr, hlk, hown, hin, hts, hK, hA⟩ := id Cx
  have hown : s.vm.findClass RX7 = some m.cls := hown
  have hl : lv_has ls 1 [(0, .ref a_t)] := hl
  unfold fn_X7_words at hf
  refine lv_aload_n hx hb dX7_words_0 rfl (lv_at hl 0 rfl) ?_
  refine va_get (D := D) (ci := 7) (v := .ref a_now) (C := RX7) (T := TX7) (N := 16) hx hb hts ly_X7_words_X7 hown hK.1 hP 0 rfl rfl 0 (by decide) (hts (.fieldLink RX7 7 "ShorthandOutlinesModel" "now" "[I") wd_X7_words_0) (fun _ h9 => h9) rfl dX7_words_1 ?_
  refine lv_bipush (v := 17) hx hb dX7_words_4 (by decide) ?_
  refine va_iald hx hb hK.1 hP 1 0 rfl rfl (by unfold vp_in; decide) dX7_words_6 ?_
  have ho := so hf
  subst ho
  exact g_iret hx hb hr hlk hP hD hS dX7_words_7

theorem sg_X7_letters : yX7_letters.cls = RX7 ∧ yX7_letters.cls ≠ "java/lang/invoke/MethodHandle" ∧ yX7_letters.cls ≠ "java/lang/invoke/VarHandle" ∧ (parseMethodDescriptor yX7_letters.desc).map (fun d => d.parameters.length) = some 1 := by decide +kernel
abbrev rm_X7_letters : Room := { frames := 2, cells := 0, slots := 0, locals := 43 }
theorem wd_X7_letters_0 : (.fieldLink RX7 7 "ShorthandOutlinesModel" "now" "[I" : Cond) ∈ wsX7_letters := by decide +kernel
theorem ly_X7_letters_X7 : ∀ w ∈ u_ws RX7 TX7 16, w ∈ wsX7_letters := by decide +kernel
set_option maxHeartbeats 4000000 in
set_option maxRecDepth 100000 in
theorem kt_X7_letters (l : Launch) (D : va_G) (cI cZ cS : ClassId) (a_t : Nat) (a_now : Nat) (a_errors : Nat) (a_past : Nat) (a_text : Nat) (a_pad : Nat) (a_sounds : Nat) (a_proposed : Nat) (a_given : Nat) (a_readings : Nat) (v_saved : Int32) (v_textLength : Int32) (v_padLength : Int32) (v_soundMany : Int32) (v_proposals : Int32) (v_readingMany : Int32) (v_hash : Int64) (m_now : Nat → Int32) (m_errors : Nat → Int32) (x1 : Int32) (o : Int32 × (Nat → Int32)) (hf : fn_X7_letters m_now m_errors x1 = some o) (sz : Nat) : Met l yX7_letters wsX7_letters rm_X7_letters (va_Pc [.ref a_t, .int x1] (gPre D cI cZ cS [(a_t, .inr (7, [.ref a_now, .ref a_past, .int v_saved, .ref a_errors, .ref a_text, .int v_textLength, .ref a_pad, .int v_padLength, .ref a_sounds, .int v_soundMany, .ref a_proposed, .ref a_given, .int v_proposals, .ref a_readings, .int v_readingMany, .long v_hash])), (a_now, .inl (cI, 150, .inl m_now)), (a_errors, .inl (cI, 4, .inl m_errors))] sz)) (va_Qi (fun r (_ : Unit) => r = o.1) (fun _ => gB D [(a_t, .inr (7, [.ref a_now, .ref a_past, .int v_saved, .ref a_errors, .ref a_text, .int v_textLength, .ref a_pad, .int v_padLength, .ref a_sounds, .int v_soundMany, .ref a_proposed, .ref a_given, .int v_proposals, .ref a_readings, .int v_readingMany, .long v_hash])), (a_now, .inl (cI, 150, .inl m_now)), (a_errors, .inl (cI, 4, .inl o.2))] (va_A [(a_t, .inr (7, [.ref a_now, .ref a_past, .int v_saved, .ref a_errors, .ref a_text, .int v_textLength, .ref a_pad, .int v_padLength, .ref a_sounds, .int v_soundMany, .ref a_proposed, .ref a_given, .int v_proposals, .ref a_readings, .int v_readingMany, .long v_hash])), (a_now, .inl (cI, 150, .inl m_now)), (a_errors, .inl (cI, 4, .inl m_errors))] sz)) (va_A [(a_t, .inr (7, [.ref a_now, .ref a_past, .int v_saved, .ref a_errors, .ref a_text, .int v_textLength, .ref a_pad, .int v_padLength, .ref a_sounds, .int v_soundMany, .ref a_proposed, .ref a_given, .int v_proposals, .ref a_readings, .int v_readingMany, .long v_hash])), (a_now, .inl (cI, 150, .inl m_now)), (a_errors, .inl (cI, 4, .inl m_errors))] sz)) 0 0 (va_A [(a_t, .inr (7, [.ref a_now, .ref a_past, .int v_saved, .ref a_errors, .ref a_text, .int v_textLength, .ref a_pad, .int v_padLength, .ref a_sounds, .int v_soundMany, .ref a_proposed, .ref a_given, .int v_proposals, .ref a_readings, .int v_readingMany, .long v_hash])), (a_now, .inl (cI, 150, .inl m_now)), (a_errors, .inl (cI, 4, .inl m_errors))] sz) := by
  refine g_entry (Qc := fun A => va_Qi (fun r (_ : Unit) => r = o.1) (fun _ => gB D [(a_t, .inr (7, [.ref a_now, .ref a_past, .int v_saved, .ref a_errors, .ref a_text, .int v_textLength, .ref a_pad, .int v_padLength, .ref a_sounds, .int v_soundMany, .ref a_proposed, .ref a_given, .int v_proposals, .ref a_readings, .int v_readingMany, .long v_hash])), (a_now, .inl (cI, 150, .inl m_now)), (a_errors, .inl (cI, 4, .inl o.2))] A) A) (cc := cX7_letters) (maxL := 2) (ret := (some .int)) (by decide) rfl (Nat.le_of_ble_eq_true rfl) ?_ sz
  intro p e s m below meth c A ls Cx hP hD hS hl
  obtain ⟨hx, hb, hml, hr, hlk, hown, hin, hts, hK, hA⟩ := id Cx
  have hown : s.vm.findClass RX7 = some m.cls := hown
  have hl : lv_has ls 2 [(0, .ref a_t), (1, .int x1)] := hl
  unfold fn_X7_letters at hf
  refine lv_aload_n hx hb dX7_letters_0 rfl (lv_at hl 0 rfl) ?_
  refine lv_iload_n hx hb dX7_letters_1 rfl (lv_at hl 1 rfl) ?_
  obtain ⟨u1, hc1, hf⟩ := ob hf
  refine g_ki (wc := [(a_t, .inr (7, [.ref a_now, .ref a_past, .int v_saved, .ref a_errors, .ref a_text, .int v_textLength, .ref a_pad, .int v_padLength, .ref a_sounds, .int v_soundMany, .ref a_proposed, .ref a_given, .int v_proposals, .ref a_readings, .int v_readingMany, .long v_hash])), (a_now, .inl (cI, 150, .inl m_now))]) (wc' := [(a_t, .inr (7, [.ref a_now, .ref a_past, .int v_saved, .ref a_errors, .ref a_text, .int v_textLength, .ref a_pad, .int v_padLength, .ref a_sounds, .int v_soundMany, .ref a_proposed, .ref a_given, .int v_proposals, .ref a_readings, .int v_readingMany, .long v_hash])), (a_now, .inl (cI, 150, .inl m_now))]) (wr := [(a_errors, .inl (cI, 4, .inl m_errors))]) (va_runV (As := [.int x1]) (rest := []) ⟨hx, hb, hml, hown, hts⟩ (kt_X7_isWord l D cI cZ cS a_t a_now a_past a_errors a_text a_pad a_sounds a_proposed a_given a_readings v_saved v_textLength v_padLength v_soundMany v_proposals v_readingMany v_hash m_now x1 u1 hc1 _) (cwV 1 hts gX7_letters_X7_isWord rfl rfl rfl sg_X7_isWord ⟨(Nat.le_of_ble_eq_true rfl), (Nat.le_of_ble_eq_true rfl)⟩) (g_pv (q := (RX7, TX7, 16)) hK hP hD [0, 1] rfl (by decide) rfl rfl) rfl rfl hl.1 rfl (lv_room (Nat.le_of_ble_eq_true rfl)) dX7_letters_2 ⟨Nat.zero_le _, Nat.zero_le _⟩) hP hD hS hA [0, 1] [2] rfl rfl (by decide) (by decide) (fun H locs hP hD hS => ?_)
  have hP : va_P D vwCl [(a_errors, .inl (cI, 4, .inl m_errors)), (a_t, .inr (7, [.ref a_now, .ref a_past, .int v_saved, .ref a_errors, .ref a_text, .int v_textLength, .ref a_pad, .int v_padLength, .ref a_sounds, .int v_soundMany, .ref a_proposed, .ref a_given, .int v_proposals, .ref a_readings, .int v_readingMany, .long v_hash])), (a_now, .inl (cI, 150, .inl m_now))] H := hP
  have hD : va_D A [(a_errors, .inl (cI, 4, .inl m_errors)), (a_t, .inr (7, [.ref a_now, .ref a_past, .int v_saved, .ref a_errors, .ref a_text, .int v_textLength, .ref a_pad, .int v_padLength, .ref a_sounds, .int v_soundMany, .ref a_proposed, .ref a_given, .int v_proposals, .ref a_readings, .int v_readingMany, .long v_hash])), (a_now, .inl (cI, 150, .inl m_now))] := hD
  refine lv_if_eq (tgt := 20) hx hb dX7_letters_5 (by decide) (fun hb2 => ?_) (fun hb2 => ?_)
  · replace hf := if_t hb2 hf
    refine lv_aload_n hx hb dX7_letters_20 rfl (lv_at hl 0 rfl) ?_
    refine lv_bipush (v := -2) hx hb dX7_letters_21 (by decide) ?_
    obtain ⟨u2, hc3, hf⟩ := ob hf
    refine g_ki (wc := [(a_t, .inr (7, [.ref a_now, .ref a_past, .int v_saved, .ref a_errors, .ref a_text, .int v_textLength, .ref a_pad, .int v_padLength, .ref a_sounds, .int v_soundMany, .ref a_proposed, .ref a_given, .int v_proposals, .ref a_readings, .int v_readingMany, .long v_hash])), (a_errors, .inl (cI, 4, .inl m_errors))]) (wc' := [(a_t, .inr (7, [.ref a_now, .ref a_past, .int v_saved, .ref a_errors, .ref a_text, .int v_textLength, .ref a_pad, .int v_padLength, .ref a_sounds, .int v_soundMany, .ref a_proposed, .ref a_given, .int v_proposals, .ref a_readings, .int v_readingMany, .long v_hash])), (a_errors, .inl (cI, 4, .inl u2.2))]) (wr := [(a_now, .inl (cI, 150, .inl m_now))]) (va_runV (As := [.int (-2 : Int32)]) (rest := []) ⟨hx, hb, hml, hown, hts⟩ (kt_X7_fails l D cI cZ cS a_t a_errors a_now a_past a_text a_pad a_sounds a_proposed a_given a_readings v_saved v_textLength v_padLength v_soundMany v_proposals v_readingMany v_hash m_errors (-2 : Int32) u2 hc3 _) (cwV 1 hts gX7_letters_X7_fails rfl rfl rfl sg_X7_fails ⟨(Nat.le_of_ble_eq_true rfl), (Nat.le_of_ble_eq_true rfl)⟩) (g_pv (q := (RX7, TX7, 16)) hK hP hD [1, 0] rfl (by decide) rfl rfl) rfl rfl hl.1 rfl (lv_room (Nat.le_of_ble_eq_true rfl)) dX7_letters_23 ⟨Nat.zero_le _, Nat.zero_le _⟩) hP hD hS hA [1, 0] [2] rfl rfl (by decide) (by decide) (fun H locs hP hD hS => ?_)
    have hP : va_P D vwCl [(a_now, .inl (cI, 150, .inl m_now)), (a_t, .inr (7, [.ref a_now, .ref a_past, .int v_saved, .ref a_errors, .ref a_text, .int v_textLength, .ref a_pad, .int v_padLength, .ref a_sounds, .int v_soundMany, .ref a_proposed, .ref a_given, .int v_proposals, .ref a_readings, .int v_readingMany, .long v_hash])), (a_errors, .inl (cI, 4, .inl u2.2))] H := hP
    have hD : va_D A [(a_now, .inl (cI, 150, .inl m_now)), (a_t, .inr (7, [.ref a_now, .ref a_past, .int v_saved, .ref a_errors, .ref a_text, .int v_textLength, .ref a_pad, .int v_padLength, .ref a_sounds, .int v_soundMany, .ref a_proposed, .ref a_given, .int v_proposals, .ref a_readings, .int v_readingMany, .long v_hash])), (a_errors, .inl (cI, 4, .inl u2.2))] := hD
    have hP : va_P D vwCl [(a_t, .inr (7, [.ref a_now, .ref a_past, .int v_saved, .ref a_errors, .ref a_text, .int v_textLength, .ref a_pad, .int v_padLength, .ref a_sounds, .int v_soundMany, .ref a_proposed, .ref a_given, .int v_proposals, .ref a_readings, .int v_readingMany, .long v_hash])), (a_now, .inl (cI, 150, .inl m_now)), (a_errors, .inl (cI, 4, .inl u2.2))] H := hP.sub [1, 0, 2] rfl
    have hD : va_D A [(a_t, .inr (7, [.ref a_now, .ref a_past, .int v_saved, .ref a_errors, .ref a_text, .int v_textLength, .ref a_pad, .int v_padLength, .ref a_sounds, .int v_soundMany, .ref a_proposed, .ref a_given, .int v_proposals, .ref a_readings, .int v_readingMany, .long v_hash])), (a_now, .inl (cI, 150, .inl m_now)), (a_errors, .inl (cI, 4, .inl u2.2))] := hD.sub [1, 0, 2] (by decide +kernel) rfl
    have ho := so hf
    subst ho
    exact g_iret hx hb hr hlk hP hD hS dX7_letters_26
  · replace hf := if_f hb2 hf
    refine lv_aload_n hx hb dX7_letters_8 rfl (lv_at hl 0 rfl) ?_
    refine va_get (D := D) (ci := 7) (v := .ref a_now) (C := RX7) (T := TX7) (N := 16) hx hb hts ly_X7_letters_X7 hown hK.1 hP 1 rfl rfl 0 (by decide) (hts (.fieldLink RX7 7 "ShorthandOutlinesModel" "now" "[I") wd_X7_letters_0) (fun _ h9 => h9) rfl dX7_letters_9 ?_
    refine lv_bipush (v := 18) hx hb dX7_letters_12 (by decide) ?_
    refine lv_iload_n hx hb dX7_letters_14 rfl (lv_at hl 1 rfl) ?_
    refine lv_iadd hx hb dX7_letters_15 ?_
    have hi4 := gd_1 hf
    replace hf := gd_2 hf
    refine va_iald hx hb hK.1 hP 2 0 rfl rfl (inb_in hi4) dX7_letters_16 ?_
    refine lv_goto (tgt := 26) hx hb dX7_letters_17 (by decide) ?_
    have hP : va_P D vwCl [(a_t, .inr (7, [.ref a_now, .ref a_past, .int v_saved, .ref a_errors, .ref a_text, .int v_textLength, .ref a_pad, .int v_padLength, .ref a_sounds, .int v_soundMany, .ref a_proposed, .ref a_given, .int v_proposals, .ref a_readings, .int v_readingMany, .long v_hash])), (a_now, .inl (cI, 150, .inl m_now)), (a_errors, .inl (cI, 4, .inl m_errors))] H := hP.sub [1, 2, 0] rfl
    have hD : va_D A [(a_t, .inr (7, [.ref a_now, .ref a_past, .int v_saved, .ref a_errors, .ref a_text, .int v_textLength, .ref a_pad, .int v_padLength, .ref a_sounds, .int v_soundMany, .ref a_proposed, .ref a_given, .int v_proposals, .ref a_readings, .int v_readingMany, .long v_hash])), (a_now, .inl (cI, 150, .inl m_now)), (a_errors, .inl (cI, 4, .inl m_errors))] := hD.sub [1, 2, 0] (by decide +kernel) rfl
    have ho := so hf
    subst ho
    exact g_iret hx hb hr hlk hP hD hS dX7_letters_26

theorem sg_X7_frequency : yX7_frequency.cls = RX7 ∧ yX7_frequency.cls ≠ "java/lang/invoke/MethodHandle" ∧ yX7_frequency.cls ≠ "java/lang/invoke/VarHandle" ∧ (parseMethodDescriptor yX7_frequency.desc).map (fun d => d.parameters.length) = some 1 := by decide +kernel
abbrev rm_X7_frequency : Room := { frames := 2, cells := 0, slots := 0, locals := 43 }
theorem wd_X7_frequency_0 : (.fieldLink RX7 7 "ShorthandOutlinesModel" "now" "[I" : Cond) ∈ wsX7_frequency := by decide +kernel
theorem ly_X7_frequency_X7 : ∀ w ∈ u_ws RX7 TX7 16, w ∈ wsX7_frequency := by decide +kernel
set_option maxHeartbeats 4000000 in
set_option maxRecDepth 100000 in
theorem kt_X7_frequency (l : Launch) (D : va_G) (cI cZ cS : ClassId) (a_t : Nat) (a_now : Nat) (a_errors : Nat) (a_past : Nat) (a_text : Nat) (a_pad : Nat) (a_sounds : Nat) (a_proposed : Nat) (a_given : Nat) (a_readings : Nat) (v_saved : Int32) (v_textLength : Int32) (v_padLength : Int32) (v_soundMany : Int32) (v_proposals : Int32) (v_readingMany : Int32) (v_hash : Int64) (m_now : Nat → Int32) (m_errors : Nat → Int32) (x1 : Int32) (o : Int32 × (Nat → Int32)) (hf : fn_X7_frequency m_now m_errors x1 = some o) (sz : Nat) : Met l yX7_frequency wsX7_frequency rm_X7_frequency (va_Pc [.ref a_t, .int x1] (gPre D cI cZ cS [(a_t, .inr (7, [.ref a_now, .ref a_past, .int v_saved, .ref a_errors, .ref a_text, .int v_textLength, .ref a_pad, .int v_padLength, .ref a_sounds, .int v_soundMany, .ref a_proposed, .ref a_given, .int v_proposals, .ref a_readings, .int v_readingMany, .long v_hash])), (a_now, .inl (cI, 150, .inl m_now)), (a_errors, .inl (cI, 4, .inl m_errors))] sz)) (va_Qi (fun r (_ : Unit) => r = o.1) (fun _ => gB D [(a_t, .inr (7, [.ref a_now, .ref a_past, .int v_saved, .ref a_errors, .ref a_text, .int v_textLength, .ref a_pad, .int v_padLength, .ref a_sounds, .int v_soundMany, .ref a_proposed, .ref a_given, .int v_proposals, .ref a_readings, .int v_readingMany, .long v_hash])), (a_now, .inl (cI, 150, .inl m_now)), (a_errors, .inl (cI, 4, .inl o.2))] (va_A [(a_t, .inr (7, [.ref a_now, .ref a_past, .int v_saved, .ref a_errors, .ref a_text, .int v_textLength, .ref a_pad, .int v_padLength, .ref a_sounds, .int v_soundMany, .ref a_proposed, .ref a_given, .int v_proposals, .ref a_readings, .int v_readingMany, .long v_hash])), (a_now, .inl (cI, 150, .inl m_now)), (a_errors, .inl (cI, 4, .inl m_errors))] sz)) (va_A [(a_t, .inr (7, [.ref a_now, .ref a_past, .int v_saved, .ref a_errors, .ref a_text, .int v_textLength, .ref a_pad, .int v_padLength, .ref a_sounds, .int v_soundMany, .ref a_proposed, .ref a_given, .int v_proposals, .ref a_readings, .int v_readingMany, .long v_hash])), (a_now, .inl (cI, 150, .inl m_now)), (a_errors, .inl (cI, 4, .inl m_errors))] sz)) 0 0 (va_A [(a_t, .inr (7, [.ref a_now, .ref a_past, .int v_saved, .ref a_errors, .ref a_text, .int v_textLength, .ref a_pad, .int v_padLength, .ref a_sounds, .int v_soundMany, .ref a_proposed, .ref a_given, .int v_proposals, .ref a_readings, .int v_readingMany, .long v_hash])), (a_now, .inl (cI, 150, .inl m_now)), (a_errors, .inl (cI, 4, .inl m_errors))] sz) := by
  refine g_entry (Qc := fun A => va_Qi (fun r (_ : Unit) => r = o.1) (fun _ => gB D [(a_t, .inr (7, [.ref a_now, .ref a_past, .int v_saved, .ref a_errors, .ref a_text, .int v_textLength, .ref a_pad, .int v_padLength, .ref a_sounds, .int v_soundMany, .ref a_proposed, .ref a_given, .int v_proposals, .ref a_readings, .int v_readingMany, .long v_hash])), (a_now, .inl (cI, 150, .inl m_now)), (a_errors, .inl (cI, 4, .inl o.2))] A) A) (cc := cX7_frequency) (maxL := 2) (ret := (some .int)) (by decide) rfl (Nat.le_of_ble_eq_true rfl) ?_ sz
  intro p e s m below meth c A ls Cx hP hD hS hl
  obtain ⟨hx, hb, hml, hr, hlk, hown, hin, hts, hK, hA⟩ := id Cx
  have hown : s.vm.findClass RX7 = some m.cls := hown
  have hl : lv_has ls 2 [(0, .ref a_t), (1, .int x1)] := hl
  unfold fn_X7_frequency at hf
  refine lv_aload_n hx hb dX7_frequency_0 rfl (lv_at hl 0 rfl) ?_
  refine lv_iload_n hx hb dX7_frequency_1 rfl (lv_at hl 1 rfl) ?_
  obtain ⟨u1, hc1, hf⟩ := ob hf
  refine g_ki (wc := [(a_t, .inr (7, [.ref a_now, .ref a_past, .int v_saved, .ref a_errors, .ref a_text, .int v_textLength, .ref a_pad, .int v_padLength, .ref a_sounds, .int v_soundMany, .ref a_proposed, .ref a_given, .int v_proposals, .ref a_readings, .int v_readingMany, .long v_hash])), (a_now, .inl (cI, 150, .inl m_now))]) (wc' := [(a_t, .inr (7, [.ref a_now, .ref a_past, .int v_saved, .ref a_errors, .ref a_text, .int v_textLength, .ref a_pad, .int v_padLength, .ref a_sounds, .int v_soundMany, .ref a_proposed, .ref a_given, .int v_proposals, .ref a_readings, .int v_readingMany, .long v_hash])), (a_now, .inl (cI, 150, .inl m_now))]) (wr := [(a_errors, .inl (cI, 4, .inl m_errors))]) (va_runV (As := [.int x1]) (rest := []) ⟨hx, hb, hml, hown, hts⟩ (kt_X7_isWord l D cI cZ cS a_t a_now a_past a_errors a_text a_pad a_sounds a_proposed a_given a_readings v_saved v_textLength v_padLength v_soundMany v_proposals v_readingMany v_hash m_now x1 u1 hc1 _) (cwV 1 hts gX7_frequency_X7_isWord rfl rfl rfl sg_X7_isWord ⟨(Nat.le_of_ble_eq_true rfl), (Nat.le_of_ble_eq_true rfl)⟩) (g_pv (q := (RX7, TX7, 16)) hK hP hD [0, 1] rfl (by decide) rfl rfl) rfl rfl hl.1 rfl (lv_room (Nat.le_of_ble_eq_true rfl)) dX7_frequency_2 ⟨Nat.zero_le _, Nat.zero_le _⟩) hP hD hS hA [0, 1] [2] rfl rfl (by decide) (by decide) (fun H locs hP hD hS => ?_)
  have hP : va_P D vwCl [(a_errors, .inl (cI, 4, .inl m_errors)), (a_t, .inr (7, [.ref a_now, .ref a_past, .int v_saved, .ref a_errors, .ref a_text, .int v_textLength, .ref a_pad, .int v_padLength, .ref a_sounds, .int v_soundMany, .ref a_proposed, .ref a_given, .int v_proposals, .ref a_readings, .int v_readingMany, .long v_hash])), (a_now, .inl (cI, 150, .inl m_now))] H := hP
  have hD : va_D A [(a_errors, .inl (cI, 4, .inl m_errors)), (a_t, .inr (7, [.ref a_now, .ref a_past, .int v_saved, .ref a_errors, .ref a_text, .int v_textLength, .ref a_pad, .int v_padLength, .ref a_sounds, .int v_soundMany, .ref a_proposed, .ref a_given, .int v_proposals, .ref a_readings, .int v_readingMany, .long v_hash])), (a_now, .inl (cI, 150, .inl m_now))] := hD
  refine lv_if_eq (tgt := 20) hx hb dX7_frequency_5 (by decide) (fun hb2 => ?_) (fun hb2 => ?_)
  · replace hf := if_t hb2 hf
    refine lv_aload_n hx hb dX7_frequency_20 rfl (lv_at hl 0 rfl) ?_
    refine lv_bipush (v := -2) hx hb dX7_frequency_21 (by decide) ?_
    obtain ⟨u2, hc3, hf⟩ := ob hf
    refine g_ki (wc := [(a_t, .inr (7, [.ref a_now, .ref a_past, .int v_saved, .ref a_errors, .ref a_text, .int v_textLength, .ref a_pad, .int v_padLength, .ref a_sounds, .int v_soundMany, .ref a_proposed, .ref a_given, .int v_proposals, .ref a_readings, .int v_readingMany, .long v_hash])), (a_errors, .inl (cI, 4, .inl m_errors))]) (wc' := [(a_t, .inr (7, [.ref a_now, .ref a_past, .int v_saved, .ref a_errors, .ref a_text, .int v_textLength, .ref a_pad, .int v_padLength, .ref a_sounds, .int v_soundMany, .ref a_proposed, .ref a_given, .int v_proposals, .ref a_readings, .int v_readingMany, .long v_hash])), (a_errors, .inl (cI, 4, .inl u2.2))]) (wr := [(a_now, .inl (cI, 150, .inl m_now))]) (va_runV (As := [.int (-2 : Int32)]) (rest := []) ⟨hx, hb, hml, hown, hts⟩ (kt_X7_fails l D cI cZ cS a_t a_errors a_now a_past a_text a_pad a_sounds a_proposed a_given a_readings v_saved v_textLength v_padLength v_soundMany v_proposals v_readingMany v_hash m_errors (-2 : Int32) u2 hc3 _) (cwV 1 hts gX7_frequency_X7_fails rfl rfl rfl sg_X7_fails ⟨(Nat.le_of_ble_eq_true rfl), (Nat.le_of_ble_eq_true rfl)⟩) (g_pv (q := (RX7, TX7, 16)) hK hP hD [1, 0] rfl (by decide) rfl rfl) rfl rfl hl.1 rfl (lv_room (Nat.le_of_ble_eq_true rfl)) dX7_frequency_23 ⟨Nat.zero_le _, Nat.zero_le _⟩) hP hD hS hA [1, 0] [2] rfl rfl (by decide) (by decide) (fun H locs hP hD hS => ?_)
    have hP : va_P D vwCl [(a_now, .inl (cI, 150, .inl m_now)), (a_t, .inr (7, [.ref a_now, .ref a_past, .int v_saved, .ref a_errors, .ref a_text, .int v_textLength, .ref a_pad, .int v_padLength, .ref a_sounds, .int v_soundMany, .ref a_proposed, .ref a_given, .int v_proposals, .ref a_readings, .int v_readingMany, .long v_hash])), (a_errors, .inl (cI, 4, .inl u2.2))] H := hP
    have hD : va_D A [(a_now, .inl (cI, 150, .inl m_now)), (a_t, .inr (7, [.ref a_now, .ref a_past, .int v_saved, .ref a_errors, .ref a_text, .int v_textLength, .ref a_pad, .int v_padLength, .ref a_sounds, .int v_soundMany, .ref a_proposed, .ref a_given, .int v_proposals, .ref a_readings, .int v_readingMany, .long v_hash])), (a_errors, .inl (cI, 4, .inl u2.2))] := hD
    have hP : va_P D vwCl [(a_t, .inr (7, [.ref a_now, .ref a_past, .int v_saved, .ref a_errors, .ref a_text, .int v_textLength, .ref a_pad, .int v_padLength, .ref a_sounds, .int v_soundMany, .ref a_proposed, .ref a_given, .int v_proposals, .ref a_readings, .int v_readingMany, .long v_hash])), (a_now, .inl (cI, 150, .inl m_now)), (a_errors, .inl (cI, 4, .inl u2.2))] H := hP.sub [1, 0, 2] rfl
    have hD : va_D A [(a_t, .inr (7, [.ref a_now, .ref a_past, .int v_saved, .ref a_errors, .ref a_text, .int v_textLength, .ref a_pad, .int v_padLength, .ref a_sounds, .int v_soundMany, .ref a_proposed, .ref a_given, .int v_proposals, .ref a_readings, .int v_readingMany, .long v_hash])), (a_now, .inl (cI, 150, .inl m_now)), (a_errors, .inl (cI, 4, .inl u2.2))] := hD.sub [1, 0, 2] (by decide +kernel) rfl
    have ho := so hf
    subst ho
    exact g_iret hx hb hr hlk hP hD hS dX7_frequency_26
  · replace hf := if_f hb2 hf
    refine lv_aload_n hx hb dX7_frequency_8 rfl (lv_at hl 0 rfl) ?_
    refine va_get (D := D) (ci := 7) (v := .ref a_now) (C := RX7) (T := TX7) (N := 16) hx hb hts ly_X7_frequency_X7 hown hK.1 hP 1 rfl rfl 0 (by decide) (hts (.fieldLink RX7 7 "ShorthandOutlinesModel" "now" "[I") wd_X7_frequency_0) (fun _ h9 => h9) rfl dX7_frequency_9 ?_
    refine lv_bipush (v := 30) hx hb dX7_frequency_12 (by decide) ?_
    refine lv_iload_n hx hb dX7_frequency_14 rfl (lv_at hl 1 rfl) ?_
    refine lv_iadd hx hb dX7_frequency_15 ?_
    have hi4 := gd_1 hf
    replace hf := gd_2 hf
    refine va_iald hx hb hK.1 hP 2 0 rfl rfl (inb_in hi4) dX7_frequency_16 ?_
    refine lv_goto (tgt := 26) hx hb dX7_frequency_17 (by decide) ?_
    have hP : va_P D vwCl [(a_t, .inr (7, [.ref a_now, .ref a_past, .int v_saved, .ref a_errors, .ref a_text, .int v_textLength, .ref a_pad, .int v_padLength, .ref a_sounds, .int v_soundMany, .ref a_proposed, .ref a_given, .int v_proposals, .ref a_readings, .int v_readingMany, .long v_hash])), (a_now, .inl (cI, 150, .inl m_now)), (a_errors, .inl (cI, 4, .inl m_errors))] H := hP.sub [1, 2, 0] rfl
    have hD : va_D A [(a_t, .inr (7, [.ref a_now, .ref a_past, .int v_saved, .ref a_errors, .ref a_text, .int v_textLength, .ref a_pad, .int v_padLength, .ref a_sounds, .int v_soundMany, .ref a_proposed, .ref a_given, .int v_proposals, .ref a_readings, .int v_readingMany, .long v_hash])), (a_now, .inl (cI, 150, .inl m_now)), (a_errors, .inl (cI, 4, .inl m_errors))] := hD.sub [1, 2, 0] (by decide +kernel) rfl
    have ho := so hf
    subst ho
    exact g_iret hx hb hr hlk hP hD hS dX7_frequency_26
