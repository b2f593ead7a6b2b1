theorem sg_X5_soundAt : yX5_soundAt.cls = RX5 ∧ yX5_soundAt.cls ≠ "java/lang/invoke/MethodHandle" ∧ yX5_soundAt.cls ≠ "java/lang/invoke/VarHandle" ∧ (parseMethodDescriptor yX5_soundAt.desc).map (fun d => d.parameters.length) = some 2 := by decide +kernel
abbrev rm_X5_soundAt : Room := { frames := 0, cells := 0, slots := 0, locals := 0 }
theorem wd_X5_soundAt_0 : (.fieldLink RX5 25 "ShorthandOutlines$State" "spelling" "[I" : Cond) ∈ wsX5_soundAt := by decide +kernel
theorem ly_X5_soundAt_X5 : ∀ w ∈ u_ws RX5 TX5 8, w ∈ wsX5_soundAt := by decide +kernel
set_option maxHeartbeats 4000000 in
set_option maxRecDepth 100000 in
theorem kt_X5_soundAt (l : Launch) (D : va_G) (cI cZ cS : ClassId) (a_t : Nat) (a_spelling : Nat) (a_first : Nat) (a_second : Nat) (a_lengths : Nat) (a_frequencies : Nat) (a_briefs : Nat) (v_vowels : Int32) (v_wordCount : Int32) (m_spelling : Nat → Int32) (x1 : Int32) (x2 : Int32) (o : Int32) (hf : fn_X5_soundAt m_spelling x1 x2 = some o) (sz : Nat) : Met l yX5_soundAt wsX5_soundAt rm_X5_soundAt (va_Pc [.ref a_t, .int x1, .int x2] (gPre D cI cZ cS [(a_t, .inr (5, [.ref a_first, .ref a_second, .int v_vowels, .int v_wordCount, .ref a_spelling, .ref a_lengths, .ref a_frequencies, .ref a_briefs])), (a_spelling, .inl (cI, 96, .inl m_spelling))] sz)) (va_Qi (fun r (_ : Unit) => r = o) (fun _ => gB D [(a_t, .inr (5, [.ref a_first, .ref a_second, .int v_vowels, .int v_wordCount, .ref a_spelling, .ref a_lengths, .ref a_frequencies, .ref a_briefs])), (a_spelling, .inl (cI, 96, .inl m_spelling))] (va_A [(a_t, .inr (5, [.ref a_first, .ref a_second, .int v_vowels, .int v_wordCount, .ref a_spelling, .ref a_lengths, .ref a_frequencies, .ref a_briefs])), (a_spelling, .inl (cI, 96, .inl m_spelling))] sz)) (va_A [(a_t, .inr (5, [.ref a_first, .ref a_second, .int v_vowels, .int v_wordCount, .ref a_spelling, .ref a_lengths, .ref a_frequencies, .ref a_briefs])), (a_spelling, .inl (cI, 96, .inl m_spelling))] sz)) 0 0 (va_A [(a_t, .inr (5, [.ref a_first, .ref a_second, .int v_vowels, .int v_wordCount, .ref a_spelling, .ref a_lengths, .ref a_frequencies, .ref a_briefs])), (a_spelling, .inl (cI, 96, .inl m_spelling))] sz) := by
  refine g_entry (y := yX5_soundAt) (av := [.ref a_t, .int x1, .int x2]) (wi := [(a_t, .inr (5, [.ref a_first, .ref a_second, .int v_vowels, .int v_wordCount, .ref a_spelling, .ref a_lengths, .ref a_frequencies, .ref a_briefs])), (a_spelling, .inl (cI, 96, .inl m_spelling))]) (Qc := fun A => va_Qi (fun r (_ : Unit) => r = o) (fun _ => gB D [(a_t, .inr (5, [.ref a_first, .ref a_second, .int v_vowels, .int v_wordCount, .ref a_spelling, .ref a_lengths, .ref a_frequencies, .ref a_briefs])), (a_spelling, .inl (cI, 96, .inl m_spelling))] A) A) (cc := cX5_soundAt) (maxL := 3) (ret := (some .int)) (by decide) rfl (Nat.le_of_ble_eq_true rfl) ?_ sz
  intro p e s m below meth c A ls Cx hP hD hS hl
  obtain ⟨hx, hb, hml, hr, hlk, hown, hin, hts, hK, hA⟩ := id Cx
  have hown : s.vm.findClass RX5 = some m.cls := hown
  have hl : lv_has ls 3 [(0, .ref a_t), (1, .int x1), (2, .int x2)] := hl
  unfold fn_X5_soundAt at hf
  refine lv_aload_n hx hb dX5_soundAt_0 rfl (lv_at hl 0 rfl) ?_
  refine va_get (D := D) (ci := 5) (v := .ref a_spelling) (C := RX5) (T := TX5) (N := 8) hx hb hts ly_X5_soundAt_X5 hown hK.1 hP 0 rfl rfl 4 (by decide) (hts (.fieldLink RX5 25 "ShorthandOutlines$State" "spelling" "[I") wd_X5_soundAt_0) (fun _ h9 => h9) rfl dX5_soundAt_1 ?_
  refine lv_iload_n hx hb dX5_soundAt_4 rfl (lv_at hl 1 rfl) ?_
  refine lv_bipush (v := 8) hx hb dX5_soundAt_5 (by decide) ?_
  refine lv_imul hx hb dX5_soundAt_7 ?_
  refine lv_iload_n hx hb dX5_soundAt_8 rfl (lv_at hl 2 rfl) ?_
  refine lv_iadd hx hb dX5_soundAt_9 ?_
  have hi1 := gd_1 hf
  replace hf := gd_2 hf
  refine va_iald hx hb hK.1 hP 1 0 rfl rfl (inb_in hi1) dX5_soundAt_10 ?_
  have ho := so hf
  subst ho
  exact g_iret (v := (m_spelling ((x1 * (8 : Int32)) + x2).toNatClampNeg)) hx hb hr hlk hP hD hS dX5_soundAt_11

theorem sg_X5_isWritten : yX5_isWritten.cls = RX5 ∧ yX5_isWritten.cls ≠ "java/lang/invoke/MethodHandle" ∧ yX5_isWritten.cls ≠ "java/lang/invoke/VarHandle" ∧ (parseMethodDescriptor yX5_isWritten.desc).map (fun d => d.parameters.length) = some 2 := by decide +kernel
abbrev rm_X5_isWritten : Room := { frames := 1, cells := 0, slots := 0, locals := 22 }
theorem wd_X5_isWritten_0 : (.fieldLink RX5 18 "ShorthandOutlines$State" "vowels" "I" : Cond) ∈ wsX5_isWritten := by decide +kernel
theorem ly_X5_isWritten_X5 : ∀ w ∈ u_ws RX5 TX5 8, w ∈ wsX5_isWritten := by decide +kernel
set_option maxHeartbeats 4000000 in
set_option maxRecDepth 100000 in
theorem kt_X5_isWritten (l : Launch) (D : va_G) (cI cZ cS : ClassId) (a_t : Nat) (a_spelling : Nat) (a_first : Nat) (a_second : Nat) (a_lengths : Nat) (a_frequencies : Nat) (a_briefs : Nat) (v_wordCount : Int32) (v_vowels : Int32) (m_spelling : Nat → Int32) (x1 : Int32) (x2 : Int32) (o : Int32) (hf : fn_X5_isWritten v_vowels m_spelling x1 x2 = some o) (sz : Nat) : Met l yX5_isWritten wsX5_isWritten rm_X5_isWritten (va_Pc [.ref a_t, .int x1, .int x2] (gPre D cI cZ cS [(a_t, .inr (5, [.ref a_first, .ref a_second, .int v_vowels, .int v_wordCount, .ref a_spelling, .ref a_lengths, .ref a_frequencies, .ref a_briefs])), (a_spelling, .inl (cI, 96, .inl m_spelling))] sz)) (va_Qi (fun r (_ : Unit) => r = o) (fun _ => gB D [(a_t, .inr (5, [.ref a_first, .ref a_second, .int v_vowels, .int v_wordCount, .ref a_spelling, .ref a_lengths, .ref a_frequencies, .ref a_briefs])), (a_spelling, .inl (cI, 96, .inl m_spelling))] (va_A [(a_t, .inr (5, [.ref a_first, .ref a_second, .int v_vowels, .int v_wordCount, .ref a_spelling, .ref a_lengths, .ref a_frequencies, .ref a_briefs])), (a_spelling, .inl (cI, 96, .inl m_spelling))] sz)) (va_A [(a_t, .inr (5, [.ref a_first, .ref a_second, .int v_vowels, .int v_wordCount, .ref a_spelling, .ref a_lengths, .ref a_frequencies, .ref a_briefs])), (a_spelling, .inl (cI, 96, .inl m_spelling))] sz)) 0 0 (va_A [(a_t, .inr (5, [.ref a_first, .ref a_second, .int v_vowels, .int v_wordCount, .ref a_spelling, .ref a_lengths, .ref a_frequencies, .ref a_briefs])), (a_spelling, .inl (cI, 96, .inl m_spelling))] sz) := by
  refine g_entry (y := yX5_isWritten) (av := [.ref a_t, .int x1, .int x2]) (wi := [(a_t, .inr (5, [.ref a_first, .ref a_second, .int v_vowels, .int v_wordCount, .ref a_spelling, .ref a_lengths, .ref a_frequencies, .ref a_briefs])), (a_spelling, .inl (cI, 96, .inl m_spelling))]) (Qc := fun A => va_Qi (fun r (_ : Unit) => r = o) (fun _ => gB D [(a_t, .inr (5, [.ref a_first, .ref a_second, .int v_vowels, .int v_wordCount, .ref a_spelling, .ref a_lengths, .ref a_frequencies, .ref a_briefs])), (a_spelling, .inl (cI, 96, .inl m_spelling))] A) A) (cc := cX5_isWritten) (maxL := 3) (ret := (some .boolean)) (by decide) rfl (Nat.le_of_ble_eq_true rfl) ?_ sz
  intro p e s m below meth c A ls Cx hP hD hS hl
  obtain ⟨hx, hb, hml, hr, hlk, hown, hin, hts, hK, hA⟩ := id Cx
  have hown : s.vm.findClass RX5 = some m.cls := hown
  have hl : lv_has ls 3 [(0, .ref a_t), (1, .int x1), (2, .int x2)] := hl
  unfold fn_X5_isWritten at hf
  refine lv_iload_n hx hb dX5_isWritten_0 rfl (lv_at hl 2 rfl) ?_
  refine lv_if_eq (tgt := 20) hx hb dX5_isWritten_1 (by decide) (fun hb1 => ?_) (fun hb1 => ?_)
  · replace hf := if_t hb1 hf
    refine lv_iconst (v := 1) hx hb dX5_isWritten_20 (by decide) ?_
    refine lv_goto (tgt := 25) hx hb dX5_isWritten_21 (by decide) ?_
    have ho := so hf
    subst ho
    exact g_zret (v := (1 : Int32)) hx hb hr hlk rfl hP hD hS dX5_isWritten_25
  · replace hf := if_f hb1 hf
    refine lv_aload_n hx hb dX5_isWritten_4 rfl (lv_at hl 0 rfl) ?_
    refine va_get (D := D) (ci := 5) (v := .int v_vowels) (C := RX5) (T := TX5) (N := 8) hx hb hts ly_X5_isWritten_X5 hown hK.1 hP 0 rfl rfl 2 (by decide) (hts (.fieldLink RX5 18 "ShorthandOutlines$State" "vowels" "I") wd_X5_isWritten_0) (fun _ h9 => h9) rfl dX5_isWritten_5 ?_
    refine lv_aload_n hx hb dX5_isWritten_8 rfl (lv_at hl 0 rfl) ?_
    refine lv_iload_n hx hb dX5_isWritten_9 rfl (lv_at hl 1 rfl) ?_
    refine lv_iload_n hx hb dX5_isWritten_10 rfl (lv_at hl 2 rfl) ?_
    obtain ⟨u1, hc2, hf⟩ := ob hf
    refine g_ki (wc := [(a_t, .inr (5, [.ref a_first, .ref a_second, .int v_vowels, .int v_wordCount, .ref a_spelling, .ref a_lengths, .ref a_frequencies, .ref a_briefs])), (a_spelling, .inl (cI, 96, .inl m_spelling))]) (wc' := [(a_t, .inr (5, [.ref a_first, .ref a_second, .int v_vowels, .int v_wordCount, .ref a_spelling, .ref a_lengths, .ref a_frequencies, .ref a_briefs])), (a_spelling, .inl (cI, 96, .inl m_spelling))]) (wr := []) (va_runV (As := [.int x1, .int x2]) (rest := [.int v_vowels]) ⟨hx, hb, hml, hown, hts⟩ (kt_X5_soundAt l D cI cZ cS a_t a_spelling a_first a_second a_lengths a_frequencies a_briefs v_vowels v_wordCount m_spelling x1 x2 u1 hc2 _) (cwV 2 hts gX5_isWritten_X5_soundAt rfl rfl rfl sg_X5_soundAt ⟨(Nat.le_of_ble_eq_true rfl), (Nat.le_of_ble_eq_true rfl)⟩) (g_pv (q := (RX5, TX5, 8)) hK hP hD [0, 1] rfl (by decide) rfl rfl) rfl rfl hl.1 rfl (lv_room (Nat.le_of_ble_eq_true rfl)) dX5_isWritten_11 ⟨Nat.zero_le _, Nat.zero_le _⟩) hP hD hS hA [0, 1] [] rfl rfl (by decide) (by decide) (fun H locs hP hD hS => ?_)
    have hP : va_P D vwCl [(a_t, .inr (5, [.ref a_first, .ref a_second, .int v_vowels, .int v_wordCount, .ref a_spelling, .ref a_lengths, .ref a_frequencies, .ref a_briefs])), (a_spelling, .inl (cI, 96, .inl m_spelling))] H := hP
    have hD : va_D A [(a_t, .inr (5, [.ref a_first, .ref a_second, .int v_vowels, .int v_wordCount, .ref a_spelling, .ref a_lengths, .ref a_frequencies, .ref a_briefs])), (a_spelling, .inl (cI, 96, .inl m_spelling))] := hD
    refine lv_ishr hx hb dX5_isWritten_14 ?_
    refine lv_iconst (v := 1) hx hb dX5_isWritten_15 (by decide) ?_
    refine lv_iand hx hb dX5_isWritten_16 ?_
    refine lv_if_ne (tgt := 24) hx hb dX5_isWritten_17 (by decide) (fun hb3 => ?_) (fun hb3 => ?_)
    · replace hf := if_f hb3 hf
      refine lv_iconst (v := 0) hx hb dX5_isWritten_24 (by decide) ?_
      have ho := so hf
      subst ho
      exact g_zret (v := (0 : Int32)) hx hb hr hlk rfl hP hD hS dX5_isWritten_25
    · replace hf := if_t hb3 hf
      refine lv_iconst (v := 1) hx hb dX5_isWritten_20 (by decide) ?_
      refine lv_goto (tgt := 25) hx hb dX5_isWritten_21 (by decide) ?_
      have ho := so hf
      subst ho
      exact g_zret (v := (1 : Int32)) hx hb hr hlk rfl hP hD hS dX5_isWritten_25

theorem sg_X5_writtenCount : yX5_writtenCount.cls = RX5 ∧ yX5_writtenCount.cls ≠ "java/lang/invoke/MethodHandle" ∧ yX5_writtenCount.cls ≠ "java/lang/invoke/VarHandle" ∧ (parseMethodDescriptor yX5_writtenCount.desc).map (fun d => d.parameters.length) = some 1 := by decide +kernel
abbrev rm_X5_writtenCount : Room := { frames := 2, cells := 0, slots := 0, locals := 44 }
theorem wd_X5_writtenCount_0 : (.fieldLink RX5 28 "ShorthandOutlines$State" "lengths" "[I" : Cond) ∈ wsX5_writtenCount := by decide +kernel
theorem ly_X5_writtenCount_X5 : ∀ w ∈ u_ws RX5 TX5 8, w ∈ wsX5_writtenCount := by decide +kernel
set_option maxHeartbeats 4000000 in
set_option maxRecDepth 100000 in
theorem lt_X5_writtenCount_4 {p : Program} {l : Launch} {e : Env} {s : State} {m : MethodId} {args : Array Value} {below : List Frame} {meth : Method} {c : Code} {D : va_G} {cI cZ cS : ClassId} {A : Nat → Prop} {Q : State → Prop} (Cx : gCx p s m meth c args cX5_writtenCount 4 (some .int) yX5_writtenCount wsX5_writtenCount D cI cZ cS A) (a_t : Nat) (a_first : Nat) (a_second : Nat) (v_vowels : Int32) (v_wordCount : Int32) (a_spelling : Nat) (a_lengths : Nat) (a_frequencies : Nat) (a_briefs : Nat) (m_spelling : Nat → Int32) (m_lengths : Nat → Int32) (y1 : Int32) : ∀ (n : Nat) (y2 : Int32) (y3 : Int32) (o : Int32) (H : Heap) (locs : List Loc) (ls : Array Slot), lp_X5_writtenCount_4 y1 m_lengths v_vowels m_spelling n y2 y3 = some o → va_P D vwCl [(a_t, .inr (5, [.ref a_first, .ref a_second, .int v_vowels, .int v_wordCount, .ref a_spelling, .ref a_lengths, .ref a_frequencies, .ref a_briefs])), (a_spelling, .inl (cI, 96, .inl m_spelling)), (a_lengths, .inl (cI, 12, .inl m_lengths))] H → va_D A [(a_t, .inr (5, [.ref a_first, .ref a_second, .int v_vowels, .int v_wordCount, .ref a_spelling, .ref a_lengths, .ref a_frequencies, .ref a_briefs])), (a_spelling, .inl (cI, 96, .inl m_spelling)), (a_lengths, .inl (cI, 12, .inl m_lengths))] → va_S A s.heap H locs → lv_has ls 4 [(0, .ref a_t), (1, .int y1), (2, .int y2), (3, .int y3)] → (∀ (H : Heap) (locs : List Loc) (ls : Array Slot), va_P D vwCl [(a_t, .inr (5, [.ref a_first, .ref a_second, .int v_vowels, .int v_wordCount, .ref a_spelling, .ref a_lengths, .ref a_frequencies, .ref a_briefs])), (a_spelling, .inl (cI, 96, .inl m_spelling)), (a_lengths, .inl (cI, 12, .inl m_lengths))] H → va_D A [(a_t, .inr (5, [.ref a_first, .ref a_second, .int v_vowels, .int v_wordCount, .ref a_spelling, .ref a_lengths, .ref a_frequencies, .ref a_briefs])), (a_spelling, .inl (cI, 96, .inl m_spelling)), (a_lengths, .inl (cI, 12, .inl m_lengths))] → va_S A s.heap H locs → lv_has ls 4 [(2, .int o)] → W p l e rm_X5_writtenCount s m args below meth c H locs 0 0 Q (F0 m 32 ls [])) → W p l e rm_X5_writtenCount s m args below meth c H locs 0 0 Q (F0 m 4 ls []) := by
  obtain ⟨hx, hb, hml, hr, hlk, hown, hin, hts, hK, hA⟩ := id Cx
  have hown : s.vm.findClass RX5 = some m.cls := hown
  intro n
  induction n with
  | zero =>
    intro y2 y3 o H locs ls hf
    rw [lp_X5_writtenCount_4] at hf
    cases hf
  | succ n ih =>
    intro y2 y3 o H locs ls hf hP hD hS hl kk
    rw [lp_X5_writtenCount_4] at hf
    refine lv_iload_n hx hb dX5_writtenCount_4 rfl (lv_at hl 3 rfl) ?_
    refine lv_aload_n hx hb dX5_writtenCount_5 rfl (lv_at hl 0 rfl) ?_
    refine va_get (D := D) (ci := 5) (v := .ref a_lengths) (C := RX5) (T := TX5) (N := 8) hx hb hts ly_X5_writtenCount_X5 hown hK.1 hP 0 rfl rfl 5 (by decide) (hts (.fieldLink RX5 28 "ShorthandOutlines$State" "lengths" "[I") wd_X5_writtenCount_0) (fun _ h9 => h9) rfl dX5_writtenCount_6 ?_
    refine lv_iload_n hx hb dX5_writtenCount_9 rfl (lv_at hl 1 rfl) ?_
    have hi1 := gd_1 hf
    replace hf := gd_2 hf
    refine va_iald hx hb hK.1 hP 2 0 rfl rfl (inb_in hi1) dX5_writtenCount_10 ?_
    refine lv_icmp_ge (tgt := 32) hx hb dX5_writtenCount_11 (by decide) (fun hb2 => ?_) (fun hb2 => ?_)
    · replace hf := if_t hb2 hf
      have ho := so hf
      subst ho
      exact kk _ _ _ hP hD hS (lv_sub hl [2] rfl)
    · replace hf := if_f hb2 hf
      refine lv_aload_n hx hb dX5_writtenCount_14 rfl (lv_at hl 0 rfl) ?_
      refine lv_iload_n hx hb dX5_writtenCount_15 rfl (lv_at hl 1 rfl) ?_
      refine lv_iload_n hx hb dX5_writtenCount_16 rfl (lv_at hl 3 rfl) ?_
      obtain ⟨u1, hc3, hf⟩ := ob hf
      refine g_ki (wc := [(a_t, .inr (5, [.ref a_first, .ref a_second, .int v_vowels, .int v_wordCount, .ref a_spelling, .ref a_lengths, .ref a_frequencies, .ref a_briefs])), (a_spelling, .inl (cI, 96, .inl m_spelling))]) (wc' := [(a_t, .inr (5, [.ref a_first, .ref a_second, .int v_vowels, .int v_wordCount, .ref a_spelling, .ref a_lengths, .ref a_frequencies, .ref a_briefs])), (a_spelling, .inl (cI, 96, .inl m_spelling))]) (wr := [(a_lengths, .inl (cI, 12, .inl m_lengths))]) (va_runV (As := [.int y1, .int y3]) (rest := []) ⟨hx, hb, hml, hown, hts⟩ (kt_X5_isWritten l D cI cZ cS a_t a_spelling a_first a_second a_lengths a_frequencies a_briefs v_wordCount v_vowels m_spelling y1 y3 u1 hc3 _) (cwV 2 hts gX5_writtenCount_X5_isWritten rfl rfl rfl sg_X5_isWritten ⟨(Nat.le_of_ble_eq_true rfl), (Nat.le_of_ble_eq_true rfl)⟩) (g_pv (q := (RX5, TX5, 8)) hK hP hD [0, 1] rfl (by decide) rfl rfl) rfl rfl hl.1 rfl (lv_room (Nat.le_of_ble_eq_true rfl)) dX5_writtenCount_17 ⟨Nat.zero_le _, Nat.zero_le _⟩) hP hD hS hA [0, 1] [2] rfl rfl (by decide) (by decide) (fun H locs hP hD hS => ?_)
      have hP : va_P D vwCl [(a_lengths, .inl (cI, 12, .inl m_lengths)), (a_t, .inr (5, [.ref a_first, .ref a_second, .int v_vowels, .int v_wordCount, .ref a_spelling, .ref a_lengths, .ref a_frequencies, .ref a_briefs])), (a_spelling, .inl (cI, 96, .inl m_spelling))] H := hP
      have hD : va_D A [(a_lengths, .inl (cI, 12, .inl m_lengths)), (a_t, .inr (5, [.ref a_first, .ref a_second, .int v_vowels, .int v_wordCount, .ref a_spelling, .ref a_lengths, .ref a_frequencies, .ref a_briefs])), (a_spelling, .inl (cI, 96, .inl m_spelling))] := hD
      refine lv_if_eq (tgt := 26) hx hb dX5_writtenCount_20 (by decide) (fun hb4 => ?_) (fun hb4 => ?_)
      · replace hf := if_t hb4 hf
        refine lv_iinc (v := (y3 + 1)) (lv' := [(3, .int (y3 + 1)), (0, .ref a_t), (1, .int y1), (2, .int y2)]) hx hb dX5_writtenCount_26 hl (k := 3) rfl rfl (by decide) rfl (fun ls hl => ?_)
        refine lv_goto (tgt := 4) hx hb dX5_writtenCount_29 (by decide) ?_
        have hP : va_P D vwCl [(a_t, .inr (5, [.ref a_first, .ref a_second, .int v_vowels, .int v_wordCount, .ref a_spelling, .ref a_lengths, .ref a_frequencies, .ref a_briefs])), (a_spelling, .inl (cI, 96, .inl m_spelling)), (a_lengths, .inl (cI, 12, .inl m_lengths))] H := hP.sub [1, 2, 0] rfl
        have hD : va_D A [(a_t, .inr (5, [.ref a_first, .ref a_second, .int v_vowels, .int v_wordCount, .ref a_spelling, .ref a_lengths, .ref a_frequencies, .ref a_briefs])), (a_spelling, .inl (cI, 96, .inl m_spelling)), (a_lengths, .inl (cI, 12, .inl m_lengths))] := hD.sub [1, 2, 0] (by decide +kernel) rfl
        exact ih y2 (y3 + 1) o _ _ _ hf hP hD hS (lv_sub hl [1, 2, 3, 0] rfl) kk
      · replace hf := if_f hb4 hf
        refine lv_iinc (v := (y2 + 1)) (lv' := [(2, .int (y2 + 1)), (0, .ref a_t), (1, .int y1), (3, .int y3)]) hx hb dX5_writtenCount_23 hl (k := 2) rfl rfl (by decide) rfl (fun ls hl => ?_)
        refine lv_iinc (v := (y3 + 1)) (lv' := [(3, .int (y3 + 1)), (2, .int (y2 + 1)), (0, .ref a_t), (1, .int y1)]) hx hb dX5_writtenCount_26 hl (k := 3) rfl rfl (by decide) rfl (fun ls hl => ?_)
        refine lv_goto (tgt := 4) hx hb dX5_writtenCount_29 (by decide) ?_
        have hP : va_P D vwCl [(a_t, .inr (5, [.ref a_first, .ref a_second, .int v_vowels, .int v_wordCount, .ref a_spelling, .ref a_lengths, .ref a_frequencies, .ref a_briefs])), (a_spelling, .inl (cI, 96, .inl m_spelling)), (a_lengths, .inl (cI, 12, .inl m_lengths))] H := hP.sub [1, 2, 0] rfl
        have hD : va_D A [(a_t, .inr (5, [.ref a_first, .ref a_second, .int v_vowels, .int v_wordCount, .ref a_spelling, .ref a_lengths, .ref a_frequencies, .ref a_briefs])), (a_spelling, .inl (cI, 96, .inl m_spelling)), (a_lengths, .inl (cI, 12, .inl m_lengths))] := hD.sub [1, 2, 0] (by decide +kernel) rfl
        exact ih (y2 + 1) (y3 + 1) o _ _ _ hf hP hD hS (lv_sub hl [2, 3, 1, 0] rfl) kk
set_option maxHeartbeats 4000000 in
set_option maxRecDepth 100000 in
theorem kt_X5_writtenCount (l : Launch) (D : va_G) (cI cZ cS : ClassId) (a_t : Nat) (a_spelling : Nat) (a_lengths : Nat) (a_first : Nat) (a_second : Nat) (a_frequencies : Nat) (a_briefs : Nat) (v_wordCount : Int32) (v_vowels : Int32) (m_spelling : Nat → Int32) (m_lengths : Nat → Int32) (x1 : Int32) (o : Int32) (hf : fn_X5_writtenCount v_vowels m_spelling m_lengths x1 = some o) (sz : Nat) : Met l yX5_writtenCount wsX5_writtenCount rm_X5_writtenCount (va_Pc [.ref a_t, .int x1] (gPre D cI cZ cS [(a_t, .inr (5, [.ref a_first, .ref a_second, .int v_vowels, .int v_wordCount, .ref a_spelling, .ref a_lengths, .ref a_frequencies, .ref a_briefs])), (a_spelling, .inl (cI, 96, .inl m_spelling)), (a_lengths, .inl (cI, 12, .inl m_lengths))] sz)) (va_Qi (fun r (_ : Unit) => r = o) (fun _ => gB D [(a_t, .inr (5, [.ref a_first, .ref a_second, .int v_vowels, .int v_wordCount, .ref a_spelling, .ref a_lengths, .ref a_frequencies, .ref a_briefs])), (a_spelling, .inl (cI, 96, .inl m_spelling)), (a_lengths, .inl (cI, 12, .inl m_lengths))] (va_A [(a_t, .inr (5, [.ref a_first, .ref a_second, .int v_vowels, .int v_wordCount, .ref a_spelling, .ref a_lengths, .ref a_frequencies, .ref a_briefs])), (a_spelling, .inl (cI, 96, .inl m_spelling)), (a_lengths, .inl (cI, 12, .inl m_lengths))] sz)) (va_A [(a_t, .inr (5, [.ref a_first, .ref a_second, .int v_vowels, .int v_wordCount, .ref a_spelling, .ref a_lengths, .ref a_frequencies, .ref a_briefs])), (a_spelling, .inl (cI, 96, .inl m_spelling)), (a_lengths, .inl (cI, 12, .inl m_lengths))] sz)) 0 0 (va_A [(a_t, .inr (5, [.ref a_first, .ref a_second, .int v_vowels, .int v_wordCount, .ref a_spelling, .ref a_lengths, .ref a_frequencies, .ref a_briefs])), (a_spelling, .inl (cI, 96, .inl m_spelling)), (a_lengths, .inl (cI, 12, .inl m_lengths))] sz) := by
  refine g_entry (y := yX5_writtenCount) (av := [.ref a_t, .int x1]) (wi := [(a_t, .inr (5, [.ref a_first, .ref a_second, .int v_vowels, .int v_wordCount, .ref a_spelling, .ref a_lengths, .ref a_frequencies, .ref a_briefs])), (a_spelling, .inl (cI, 96, .inl m_spelling)), (a_lengths, .inl (cI, 12, .inl m_lengths))]) (Qc := fun A => va_Qi (fun r (_ : Unit) => r = o) (fun _ => gB D [(a_t, .inr (5, [.ref a_first, .ref a_second, .int v_vowels, .int v_wordCount, .ref a_spelling, .ref a_lengths, .ref a_frequencies, .ref a_briefs])), (a_spelling, .inl (cI, 96, .inl m_spelling)), (a_lengths, .inl (cI, 12, .inl m_lengths))] A) A) (cc := cX5_writtenCount) (maxL := 4) (ret := (some .int)) (by decide) rfl (Nat.le_of_ble_eq_true rfl) ?_ sz
  intro p e s m below meth c A ls Cx hP hD hS hl
  obtain ⟨hx, hb, hml, hr, hlk, hown, hin, hts, hK, hA⟩ := id Cx
  have hown : s.vm.findClass RX5 = some m.cls := hown
  have hl : lv_has ls 4 [(0, .ref a_t), (1, .int x1)] := hl
  unfold fn_X5_writtenCount at hf
  refine lv_iconst (v := 0) hx hb dX5_writtenCount_0 (by decide) ?_
  refine lv_istore_n (lv' := [(2, .int (0 : Int32)), (0, .ref a_t), (1, .int x1)]) hx hb dX5_writtenCount_1 rfl hl (by decide) rfl (fun ls hl => ?_)
  refine lv_iconst (v := 0) hx hb dX5_writtenCount_2 (by decide) ?_
  refine lv_istore_n (lv' := [(3, .int (0 : Int32)), (2, .int (0 : Int32)), (0, .ref a_t), (1, .int x1)]) hx hb dX5_writtenCount_3 rfl hl (by decide) rfl (fun ls hl => ?_)
  obtain ⟨u1, hc1, hf⟩ := ob hf
  refine lt_X5_writtenCount_4 Cx a_t a_first a_second v_vowels v_wordCount a_spelling a_lengths a_frequencies a_briefs m_spelling m_lengths x1 1024 (0 : Int32) (0 : Int32) u1 _ _ _ hc1 hP hD hS (lv_sub hl [2, 3, 1, 0] rfl) (fun H locs ls hP hD hS hl => ?_)
  have hP : va_P D vwCl [(a_t, .inr (5, [.ref a_first, .ref a_second, .int v_vowels, .int v_wordCount, .ref a_spelling, .ref a_lengths, .ref a_frequencies, .ref a_briefs])), (a_spelling, .inl (cI, 96, .inl m_spelling)), (a_lengths, .inl (cI, 12, .inl m_lengths))] H := hP
  have hD : va_D A [(a_t, .inr (5, [.ref a_first, .ref a_second, .int v_vowels, .int v_wordCount, .ref a_spelling, .ref a_lengths, .ref a_frequencies, .ref a_briefs])), (a_spelling, .inl (cI, 96, .inl m_spelling)), (a_lengths, .inl (cI, 12, .inl m_lengths))] := hD
  have hl : lv_has ls 4 [(2, .int u1)] := hl
  refine lv_iload_n hx hb dX5_writtenCount_32 rfl (lv_at hl 0 rfl) ?_
  have ho := so hf
  subst ho
  exact g_iret (v := u1) hx hb hr hlk hP hD hS dX5_writtenCount_33

theorem sg_X5_gainOf : yX5_gainOf.cls = RX5 ∧ yX5_gainOf.cls ≠ "java/lang/invoke/MethodHandle" ∧ yX5_gainOf.cls ≠ "java/lang/invoke/VarHandle" ∧ (parseMethodDescriptor yX5_gainOf.desc).map (fun d => d.parameters.length) = some 1 := by decide +kernel
abbrev rm_X5_gainOf : Room := { frames := 3, cells := 0, slots := 0, locals := 67 }
theorem wd_X5_gainOf_0 : (.fieldLink RX5 31 "ShorthandOutlines$State" "frequencies" "[I" : Cond) ∈ wsX5_gainOf := by decide +kernel
theorem ly_X5_gainOf_X5 : ∀ w ∈ u_ws RX5 TX5 8, w ∈ wsX5_gainOf := by decide +kernel
set_option maxHeartbeats 4000000 in
set_option maxRecDepth 100000 in
theorem kt_X5_gainOf (l : Launch) (D : va_G) (cI cZ cS : ClassId) (a_t : Nat) (a_spelling : Nat) (a_lengths : Nat) (a_frequencies : Nat) (a_first : Nat) (a_second : Nat) (a_briefs : Nat) (v_wordCount : Int32) (v_vowels : Int32) (m_spelling : Nat → Int32) (m_lengths : Nat → Int32) (m_frequencies : Nat → Int32) (x1 : Int32) (o : Int32) (hf : fn_X5_gainOf v_vowels m_spelling m_lengths m_frequencies x1 = some o) (sz : Nat) : Met l yX5_gainOf wsX5_gainOf rm_X5_gainOf (va_Pc [.ref a_t, .int x1] (gPre D cI cZ cS [(a_t, .inr (5, [.ref a_first, .ref a_second, .int v_vowels, .int v_wordCount, .ref a_spelling, .ref a_lengths, .ref a_frequencies, .ref a_briefs])), (a_spelling, .inl (cI, 96, .inl m_spelling)), (a_lengths, .inl (cI, 12, .inl m_lengths)), (a_frequencies, .inl (cI, 12, .inl m_frequencies))] sz)) (va_Qi (fun r (_ : Unit) => r = o) (fun _ => gB D [(a_t, .inr (5, [.ref a_first, .ref a_second, .int v_vowels, .int v_wordCount, .ref a_spelling, .ref a_lengths, .ref a_frequencies, .ref a_briefs])), (a_spelling, .inl (cI, 96, .inl m_spelling)), (a_lengths, .inl (cI, 12, .inl m_lengths)), (a_frequencies, .inl (cI, 12, .inl m_frequencies))] (va_A [(a_t, .inr (5, [.ref a_first, .ref a_second, .int v_vowels, .int v_wordCount, .ref a_spelling, .ref a_lengths, .ref a_frequencies, .ref a_briefs])), (a_spelling, .inl (cI, 96, .inl m_spelling)), (a_lengths, .inl (cI, 12, .inl m_lengths)), (a_frequencies, .inl (cI, 12, .inl m_frequencies))] sz)) (va_A [(a_t, .inr (5, [.ref a_first, .ref a_second, .int v_vowels, .int v_wordCount, .ref a_spelling, .ref a_lengths, .ref a_frequencies, .ref a_briefs])), (a_spelling, .inl (cI, 96, .inl m_spelling)), (a_lengths, .inl (cI, 12, .inl m_lengths)), (a_frequencies, .inl (cI, 12, .inl m_frequencies))] sz)) 0 0 (va_A [(a_t, .inr (5, [.ref a_first, .ref a_second, .int v_vowels, .int v_wordCount, .ref a_spelling, .ref a_lengths, .ref a_frequencies, .ref a_briefs])), (a_spelling, .inl (cI, 96, .inl m_spelling)), (a_lengths, .inl (cI, 12, .inl m_lengths)), (a_frequencies, .inl (cI, 12, .inl m_frequencies))] sz) := by
  refine g_entry (y := yX5_gainOf) (av := [.ref a_t, .int x1]) (wi := [(a_t, .inr (5, [.ref a_first, .ref a_second, .int v_vowels, .int v_wordCount, .ref a_spelling, .ref a_lengths, .ref a_frequencies, .ref a_briefs])), (a_spelling, .inl (cI, 96, .inl m_spelling)), (a_lengths, .inl (cI, 12, .inl m_lengths)), (a_frequencies, .inl (cI, 12, .inl m_frequencies))]) (Qc := fun A => va_Qi (fun r (_ : Unit) => r = o) (fun _ => gB D [(a_t, .inr (5, [.ref a_first, .ref a_second, .int v_vowels, .int v_wordCount, .ref a_spelling, .ref a_lengths, .ref a_frequencies, .ref a_briefs])), (a_spelling, .inl (cI, 96, .inl m_spelling)), (a_lengths, .inl (cI, 12, .inl m_lengths)), (a_frequencies, .inl (cI, 12, .inl m_frequencies))] A) A) (cc := cX5_gainOf) (maxL := 2) (ret := (some .int)) (by decide) rfl (Nat.le_of_ble_eq_true rfl) ?_ sz
  intro p e s m below meth c A ls Cx hP hD hS hl
  obtain ⟨hx, hb, hml, hr, hlk, hown, hin, hts, hK, hA⟩ := id Cx
  have hown : s.vm.findClass RX5 = some m.cls := hown
  have hl : lv_has ls 2 [(0, .ref a_t), (1, .int x1)] := hl
  unfold fn_X5_gainOf at hf
  refine lv_aload_n hx hb dX5_gainOf_0 rfl (lv_at hl 0 rfl) ?_
  refine va_get (D := D) (ci := 5) (v := .ref a_frequencies) (C := RX5) (T := TX5) (N := 8) hx hb hts ly_X5_gainOf_X5 hown hK.1 hP 0 rfl rfl 6 (by decide) (hts (.fieldLink RX5 31 "ShorthandOutlines$State" "frequencies" "[I") wd_X5_gainOf_0) (fun _ h9 => h9) rfl dX5_gainOf_1 ?_
  refine lv_iload_n hx hb dX5_gainOf_4 rfl (lv_at hl 1 rfl) ?_
  have hi1 := gd_1 hf
  replace hf := gd_2 hf
  refine va_iald hx hb hK.1 hP 3 0 rfl rfl (inb_in hi1) dX5_gainOf_5 ?_
  refine lv_aload_n hx hb dX5_gainOf_6 rfl (lv_at hl 0 rfl) ?_
  refine lv_iload_n hx hb dX5_gainOf_7 rfl (lv_at hl 1 rfl) ?_
  obtain ⟨u1, hc2, hf⟩ := ob hf
  refine g_ki (wc := [(a_t, .inr (5, [.ref a_first, .ref a_second, .int v_vowels, .int v_wordCount, .ref a_spelling, .ref a_lengths, .ref a_frequencies, .ref a_briefs])), (a_spelling, .inl (cI, 96, .inl m_spelling)), (a_lengths, .inl (cI, 12, .inl m_lengths))]) (wc' := [(a_t, .inr (5, [.ref a_first, .ref a_second, .int v_vowels, .int v_wordCount, .ref a_spelling, .ref a_lengths, .ref a_frequencies, .ref a_briefs])), (a_spelling, .inl (cI, 96, .inl m_spelling)), (a_lengths, .inl (cI, 12, .inl m_lengths))]) (wr := [(a_frequencies, .inl (cI, 12, .inl m_frequencies))]) (va_runV (As := [.int x1]) (rest := [.int (m_frequencies x1.toNatClampNeg)]) ⟨hx, hb, hml, hown, hts⟩ (kt_X5_writtenCount l D cI cZ cS a_t a_spelling a_lengths a_first a_second a_frequencies a_briefs v_wordCount v_vowels m_spelling m_lengths x1 u1 hc2 _) (cwV 1 hts gX5_gainOf_X5_writtenCount rfl rfl rfl sg_X5_writtenCount ⟨(Nat.le_of_ble_eq_true rfl), (Nat.le_of_ble_eq_true rfl)⟩) (g_pv (q := (RX5, TX5, 8)) hK hP hD [0, 1, 2] rfl (by decide) rfl rfl) rfl rfl hl.1 rfl (lv_room (Nat.le_of_ble_eq_true rfl)) dX5_gainOf_8 ⟨Nat.zero_le _, Nat.zero_le _⟩) hP hD hS hA [0, 1, 2] [3] rfl rfl (by decide) (by decide) (fun H locs hP hD hS => ?_)
  have hP : va_P D vwCl [(a_frequencies, .inl (cI, 12, .inl m_frequencies)), (a_t, .inr (5, [.ref a_first, .ref a_second, .int v_vowels, .int v_wordCount, .ref a_spelling, .ref a_lengths, .ref a_frequencies, .ref a_briefs])), (a_spelling, .inl (cI, 96, .inl m_spelling)), (a_lengths, .inl (cI, 12, .inl m_lengths))] H := hP
  have hD : va_D A [(a_frequencies, .inl (cI, 12, .inl m_frequencies)), (a_t, .inr (5, [.ref a_first, .ref a_second, .int v_vowels, .int v_wordCount, .ref a_spelling, .ref a_lengths, .ref a_frequencies, .ref a_briefs])), (a_spelling, .inl (cI, 96, .inl m_spelling)), (a_lengths, .inl (cI, 12, .inl m_lengths))] := hD
  refine lv_iconst (v := 1) hx hb dX5_gainOf_11 (by decide) ?_
  refine lv_isub hx hb dX5_gainOf_12 ?_
  refine lv_imul hx hb dX5_gainOf_13 ?_
  have hP : va_P D vwCl [(a_t, .inr (5, [.ref a_first, .ref a_second, .int v_vowels, .int v_wordCount, .ref a_spelling, .ref a_lengths, .ref a_frequencies, .ref a_briefs])), (a_spelling, .inl (cI, 96, .inl m_spelling)), (a_lengths, .inl (cI, 12, .inl m_lengths)), (a_frequencies, .inl (cI, 12, .inl m_frequencies))] H := hP.sub [1, 2, 3, 0] rfl
  have hD : va_D A [(a_t, .inr (5, [.ref a_first, .ref a_second, .int v_vowels, .int v_wordCount, .ref a_spelling, .ref a_lengths, .ref a_frequencies, .ref a_briefs])), (a_spelling, .inl (cI, 96, .inl m_spelling)), (a_lengths, .inl (cI, 12, .inl m_lengths)), (a_frequencies, .inl (cI, 12, .inl m_frequencies))] := hD.sub [1, 2, 3, 0] (by decide +kernel) rfl
  have ho := so hf
  subst ho
  exact g_iret (v := ((m_frequencies x1.toNatClampNeg) * (u1 - (1 : Int32)))) hx hb hr hlk hP hD hS dX5_gainOf_14

theorem sg_X5_keptStroke : yX5_keptStroke.cls = RX5 ∧ yX5_keptStroke.cls ≠ "java/lang/invoke/MethodHandle" ∧ yX5_keptStroke.cls ≠ "java/lang/invoke/VarHandle" ∧ (parseMethodDescriptor yX5_keptStroke.desc).map (fun d => d.parameters.length) = some 1 := by decide +kernel
abbrev rm_X5_keptStroke : Room := { frames := 3, cells := 0, slots := 0, locals := 67 }
theorem wd_X5_keptStroke_0 : (.fieldLink RX5 34 "ShorthandOutlines$State" "briefs" "[I" : Cond) ∈ wsX5_keptStroke := by decide +kernel
theorem wd_X5_keptStroke_1 : (.fieldLink RX5 9 "ShorthandOutlines$State" "first" "[I" : Cond) ∈ wsX5_keptStroke := by decide +kernel
theorem ly_X5_keptStroke_X5 : ∀ w ∈ u_ws RX5 TX5 8, w ∈ wsX5_keptStroke := by decide +kernel
set_option maxHeartbeats 4000000 in
set_option maxRecDepth 100000 in
theorem kt_X5_keptStroke (l : Launch) (D : va_G) (cI cZ cS : ClassId) (a_t : Nat) (a_first : Nat) (a_spelling : Nat) (a_lengths : Nat) (a_briefs : Nat) (a_second : Nat) (a_frequencies : Nat) (v_wordCount : Int32) (v_vowels : Int32) (m_first : Nat → Int32) (m_spelling : Nat → Int32) (m_lengths : Nat → Int32) (m_briefs : Nat → Int32) (x1 : Int32) (o : Int32) (hf : fn_X5_keptStroke v_vowels m_first m_spelling m_lengths m_briefs x1 = some o) (sz : Nat) : Met l yX5_keptStroke wsX5_keptStroke rm_X5_keptStroke (va_Pc [.ref a_t, .int x1] (gPre D cI cZ cS [(a_t, .inr (5, [.ref a_first, .ref a_second, .int v_vowels, .int v_wordCount, .ref a_spelling, .ref a_lengths, .ref a_frequencies, .ref a_briefs])), (a_first, .inl (cI, 8, .inl m_first)), (a_spelling, .inl (cI, 96, .inl m_spelling)), (a_lengths, .inl (cI, 12, .inl m_lengths)), (a_briefs, .inl (cI, 12, .inl m_briefs))] sz)) (va_Qi (fun r (_ : Unit) => r = o) (fun _ => gB D [(a_t, .inr (5, [.ref a_first, .ref a_second, .int v_vowels, .int v_wordCount, .ref a_spelling, .ref a_lengths, .ref a_frequencies, .ref a_briefs])), (a_first, .inl (cI, 8, .inl m_first)), (a_spelling, .inl (cI, 96, .inl m_spelling)), (a_lengths, .inl (cI, 12, .inl m_lengths)), (a_briefs, .inl (cI, 12, .inl m_briefs))] (va_A [(a_t, .inr (5, [.ref a_first, .ref a_second, .int v_vowels, .int v_wordCount, .ref a_spelling, .ref a_lengths, .ref a_frequencies, .ref a_briefs])), (a_first, .inl (cI, 8, .inl m_first)), (a_spelling, .inl (cI, 96, .inl m_spelling)), (a_lengths, .inl (cI, 12, .inl m_lengths)), (a_briefs, .inl (cI, 12, .inl m_briefs))] sz)) (va_A [(a_t, .inr (5, [.ref a_first, .ref a_second, .int v_vowels, .int v_wordCount, .ref a_spelling, .ref a_lengths, .ref a_frequencies, .ref a_briefs])), (a_first, .inl (cI, 8, .inl m_first)), (a_spelling, .inl (cI, 96, .inl m_spelling)), (a_lengths, .inl (cI, 12, .inl m_lengths)), (a_briefs, .inl (cI, 12, .inl m_briefs))] sz)) 0 0 (va_A [(a_t, .inr (5, [.ref a_first, .ref a_second, .int v_vowels, .int v_wordCount, .ref a_spelling, .ref a_lengths, .ref a_frequencies, .ref a_briefs])), (a_first, .inl (cI, 8, .inl m_first)), (a_spelling, .inl (cI, 96, .inl m_spelling)), (a_lengths, .inl (cI, 12, .inl m_lengths)), (a_briefs, .inl (cI, 12, .inl m_briefs))] sz) := by
  refine g_entry (y := yX5_keptStroke) (av := [.ref a_t, .int x1]) (wi := [(a_t, .inr (5, [.ref a_first, .ref a_second, .int v_vowels, .int v_wordCount, .ref a_spelling, .ref a_lengths, .ref a_frequencies, .ref a_briefs])), (a_first, .inl (cI, 8, .inl m_first)), (a_spelling, .inl (cI, 96, .inl m_spelling)), (a_lengths, .inl (cI, 12, .inl m_lengths)), (a_briefs, .inl (cI, 12, .inl m_briefs))]) (Qc := fun A => va_Qi (fun r (_ : Unit) => r = o) (fun _ => gB D [(a_t, .inr (5, [.ref a_first, .ref a_second, .int v_vowels, .int v_wordCount, .ref a_spelling, .ref a_lengths, .ref a_frequencies, .ref a_briefs])), (a_first, .inl (cI, 8, .inl m_first)), (a_spelling, .inl (cI, 96, .inl m_spelling)), (a_lengths, .inl (cI, 12, .inl m_lengths)), (a_briefs, .inl (cI, 12, .inl m_briefs))] A) A) (cc := cX5_keptStroke) (maxL := 2) (ret := (some .int)) (by decide) rfl (Nat.le_of_ble_eq_true rfl) ?_ sz
  intro p e s m below meth c A ls Cx hP hD hS hl
  obtain ⟨hx, hb, hml, hr, hlk, hown, hin, hts, hK, hA⟩ := id Cx
  have hown : s.vm.findClass RX5 = some m.cls := hown
  have hl : lv_has ls 2 [(0, .ref a_t), (1, .int x1)] := hl
  unfold fn_X5_keptStroke at hf
  refine lv_aload_n hx hb dX5_keptStroke_0 rfl (lv_at hl 0 rfl) ?_
  refine va_get (D := D) (ci := 5) (v := .ref a_briefs) (C := RX5) (T := TX5) (N := 8) hx hb hts ly_X5_keptStroke_X5 hown hK.1 hP 0 rfl rfl 7 (by decide) (hts (.fieldLink RX5 34 "ShorthandOutlines$State" "briefs" "[I") wd_X5_keptStroke_0) (fun _ h9 => h9) rfl dX5_keptStroke_1 ?_
  refine lv_iload_n hx hb dX5_keptStroke_4 rfl (lv_at hl 1 rfl) ?_
  have hi1 := gd_1 hf
  replace hf := gd_2 hf
  refine va_iald hx hb hK.1 hP 4 0 rfl rfl (inb_in hi1) dX5_keptStroke_5 ?_
  refine lv_iconst (v := -1) hx hb dX5_keptStroke_6 (by decide) ?_
  refine lv_icmp_eq (tgt := 17) hx hb dX5_keptStroke_7 (by decide) (fun hb2 => ?_) (fun hb2 => ?_)
  · replace hf := if_t hb2 hf
    refine lv_aload_n hx hb dX5_keptStroke_17 rfl (lv_at hl 0 rfl) ?_
    refine lv_iload_n hx hb dX5_keptStroke_18 rfl (lv_at hl 1 rfl) ?_
    obtain ⟨u1, hc3, hf⟩ := ob hf
    refine g_ki (wc := [(a_t, .inr (5, [.ref a_first, .ref a_second, .int v_vowels, .int v_wordCount, .ref a_spelling, .ref a_lengths, .ref a_frequencies, .ref a_briefs])), (a_spelling, .inl (cI, 96, .inl m_spelling)), (a_lengths, .inl (cI, 12, .inl m_lengths))]) (wc' := [(a_t, .inr (5, [.ref a_first, .ref a_second, .int v_vowels, .int v_wordCount, .ref a_spelling, .ref a_lengths, .ref a_frequencies, .ref a_briefs])), (a_spelling, .inl (cI, 96, .inl m_spelling)), (a_lengths, .inl (cI, 12, .inl m_lengths))]) (wr := [(a_first, .inl (cI, 8, .inl m_first)), (a_briefs, .inl (cI, 12, .inl m_briefs))]) (va_runV (As := [.int x1]) (rest := []) ⟨hx, hb, hml, hown, hts⟩ (kt_X5_writtenCount l D cI cZ cS a_t a_spelling a_lengths a_first a_second a_frequencies a_briefs v_wordCount v_vowels m_spelling m_lengths x1 u1 hc3 _) (cwV 1 hts gX5_keptStroke_X5_writtenCount rfl rfl rfl sg_X5_writtenCount ⟨(Nat.le_of_ble_eq_true rfl), (Nat.le_of_ble_eq_true rfl)⟩) (g_pv (q := (RX5, TX5, 8)) hK hP hD [0, 2, 3] rfl (by decide) rfl rfl) rfl rfl hl.1 rfl (lv_room (Nat.le_of_ble_eq_true rfl)) dX5_keptStroke_19 ⟨Nat.zero_le _, Nat.zero_le _⟩) hP hD hS hA [0, 2, 3] [1, 4] rfl rfl (by decide) (by decide) (fun H locs hP hD hS => ?_)
    have hP : va_P D vwCl [(a_first, .inl (cI, 8, .inl m_first)), (a_briefs, .inl (cI, 12, .inl m_briefs)), (a_t, .inr (5, [.ref a_first, .ref a_second, .int v_vowels, .int v_wordCount, .ref a_spelling, .ref a_lengths, .ref a_frequencies, .ref a_briefs])), (a_spelling, .inl (cI, 96, .inl m_spelling)), (a_lengths, .inl (cI, 12, .inl m_lengths))] H := hP
    have hD : va_D A [(a_first, .inl (cI, 8, .inl m_first)), (a_briefs, .inl (cI, 12, .inl m_briefs)), (a_t, .inr (5, [.ref a_first, .ref a_second, .int v_vowels, .int v_wordCount, .ref a_spelling, .ref a_lengths, .ref a_frequencies, .ref a_briefs])), (a_spelling, .inl (cI, 96, .inl m_spelling)), (a_lengths, .inl (cI, 12, .inl m_lengths))] := hD
    refine lv_iconst (v := 1) hx hb dX5_keptStroke_22 (by decide) ?_
    refine lv_icmp_ne (tgt := 40) hx hb dX5_keptStroke_23 (by decide) (fun hb4 => ?_) (fun hb4 => ?_)
    · replace hf := if_f hb4 hf
      refine lv_iconst (v := -1) hx hb dX5_keptStroke_40 (by decide) ?_
      have hP : va_P D vwCl [(a_t, .inr (5, [.ref a_first, .ref a_second, .int v_vowels, .int v_wordCount, .ref a_spelling, .ref a_lengths, .ref a_frequencies, .ref a_briefs])), (a_first, .inl (cI, 8, .inl m_first)), (a_spelling, .inl (cI, 96, .inl m_spelling)), (a_lengths, .inl (cI, 12, .inl m_lengths)), (a_briefs, .inl (cI, 12, .inl m_briefs))] H := hP.sub [2, 0, 3, 4, 1] rfl
      have hD : va_D A [(a_t, .inr (5, [.ref a_first, .ref a_second, .int v_vowels, .int v_wordCount, .ref a_spelling, .ref a_lengths, .ref a_frequencies, .ref a_briefs])), (a_first, .inl (cI, 8, .inl m_first)), (a_spelling, .inl (cI, 96, .inl m_spelling)), (a_lengths, .inl (cI, 12, .inl m_lengths)), (a_briefs, .inl (cI, 12, .inl m_briefs))] := hD.sub [2, 0, 3, 4, 1] (by decide +kernel) rfl
      have ho := so hf
      subst ho
      exact g_iret (v := (-1 : Int32)) hx hb hr hlk hP hD hS dX5_keptStroke_41
    · replace hf := if_t hb4 hf
      refine lv_aload_n hx hb dX5_keptStroke_26 rfl (lv_at hl 0 rfl) ?_
      refine va_get (D := D) (ci := 5) (v := .ref a_first) (C := RX5) (T := TX5) (N := 8) hx hb hts ly_X5_keptStroke_X5 hown hK.1 hP 2 rfl rfl 0 (by decide) (hts (.fieldLink RX5 9 "ShorthandOutlines$State" "first" "[I") wd_X5_keptStroke_1) (fun _ h9 => h9) rfl dX5_keptStroke_27 ?_
      refine lv_aload_n hx hb dX5_keptStroke_30 rfl (lv_at hl 0 rfl) ?_
      refine lv_iload_n hx hb dX5_keptStroke_31 rfl (lv_at hl 1 rfl) ?_
      refine lv_iconst (v := 0) hx hb dX5_keptStroke_32 (by decide) ?_
      obtain ⟨u2, hc5, hf⟩ := ob hf
      refine g_ki (wc := [(a_t, .inr (5, [.ref a_first, .ref a_second, .int v_vowels, .int v_wordCount, .ref a_spelling, .ref a_lengths, .ref a_frequencies, .ref a_briefs])), (a_spelling, .inl (cI, 96, .inl m_spelling))]) (wc' := [(a_t, .inr (5, [.ref a_first, .ref a_second, .int v_vowels, .int v_wordCount, .ref a_spelling, .ref a_lengths, .ref a_frequencies, .ref a_briefs])), (a_spelling, .inl (cI, 96, .inl m_spelling))]) (wr := [(a_first, .inl (cI, 8, .inl m_first)), (a_briefs, .inl (cI, 12, .inl m_briefs)), (a_lengths, .inl (cI, 12, .inl m_lengths))]) (va_runV (As := [.int x1, .int (0 : Int32)]) (rest := [.ref a_first]) ⟨hx, hb, hml, hown, hts⟩ (kt_X5_soundAt l D cI cZ cS a_t a_spelling a_first a_second a_lengths a_frequencies a_briefs v_vowels v_wordCount m_spelling x1 (0 : Int32) u2 hc5 _) (cwV 2 hts gX5_keptStroke_X5_soundAt rfl rfl rfl sg_X5_soundAt ⟨(Nat.le_of_ble_eq_true rfl), (Nat.le_of_ble_eq_true rfl)⟩) (g_pv (q := (RX5, TX5, 8)) hK hP hD [2, 3] rfl (by decide) rfl rfl) rfl rfl hl.1 rfl (lv_room (Nat.le_of_ble_eq_true rfl)) dX5_keptStroke_33 ⟨Nat.zero_le _, Nat.zero_le _⟩) hP hD hS hA [2, 3] [0, 1, 4] rfl rfl (by decide) (by decide) (fun H locs hP hD hS => ?_)
      have hP : va_P D vwCl [(a_first, .inl (cI, 8, .inl m_first)), (a_briefs, .inl (cI, 12, .inl m_briefs)), (a_lengths, .inl (cI, 12, .inl m_lengths)), (a_t, .inr (5, [.ref a_first, .ref a_second, .int v_vowels, .int v_wordCount, .ref a_spelling, .ref a_lengths, .ref a_frequencies, .ref a_briefs])), (a_spelling, .inl (cI, 96, .inl m_spelling))] H := hP
      have hD : va_D A [(a_first, .inl (cI, 8, .inl m_first)), (a_briefs, .inl (cI, 12, .inl m_briefs)), (a_lengths, .inl (cI, 12, .inl m_lengths)), (a_t, .inr (5, [.ref a_first, .ref a_second, .int v_vowels, .int v_wordCount, .ref a_spelling, .ref a_lengths, .ref a_frequencies, .ref a_briefs])), (a_spelling, .inl (cI, 96, .inl m_spelling))] := hD
      have hi6 := gd_1 hf
      replace hf := gd_2 hf
      refine va_iald hx hb hK.1 hP 0 0 rfl rfl (inb_in hi6) dX5_keptStroke_36 ?_
      refine lv_goto (tgt := 41) hx hb dX5_keptStroke_37 (by decide) ?_
      have hP : va_P D vwCl [(a_t, .inr (5, [.ref a_first, .ref a_second, .int v_vowels, .int v_wordCount, .ref a_spelling, .ref a_lengths, .ref a_frequencies, .ref a_briefs])), (a_first, .inl (cI, 8, .inl m_first)), (a_spelling, .inl (cI, 96, .inl m_spelling)), (a_lengths, .inl (cI, 12, .inl m_lengths)), (a_briefs, .inl (cI, 12, .inl m_briefs))] H := hP.sub [3, 0, 4, 2, 1] rfl
      have hD : va_D A [(a_t, .inr (5, [.ref a_first, .ref a_second, .int v_vowels, .int v_wordCount, .ref a_spelling, .ref a_lengths, .ref a_frequencies, .ref a_briefs])), (a_first, .inl (cI, 8, .inl m_first)), (a_spelling, .inl (cI, 96, .inl m_spelling)), (a_lengths, .inl (cI, 12, .inl m_lengths)), (a_briefs, .inl (cI, 12, .inl m_briefs))] := hD.sub [3, 0, 4, 2, 1] (by decide +kernel) rfl
      have ho := so hf
      subst ho
      exact g_iret (v := (m_first u2.toNatClampNeg)) hx hb hr hlk hP hD hS dX5_keptStroke_41
  · replace hf := if_f hb2 hf
    refine lv_aload_n hx hb dX5_keptStroke_10 rfl (lv_at hl 0 rfl) ?_
    refine va_get (D := D) (ci := 5) (v := .ref a_briefs) (C := RX5) (T := TX5) (N := 8) hx hb hts ly_X5_keptStroke_X5 hown hK.1 hP 0 rfl rfl 7 (by decide) (hts (.fieldLink RX5 34 "ShorthandOutlines$State" "briefs" "[I") wd_X5_keptStroke_0) (fun _ h9 => h9) rfl dX5_keptStroke_11 ?_
    refine lv_iload_n hx hb dX5_keptStroke_14 rfl (lv_at hl 1 rfl) ?_
    have hi7 := gd_1 hf
    replace hf := gd_2 hf
    refine va_iald hx hb hK.1 hP 4 0 rfl rfl (inb_in hi7) dX5_keptStroke_15 ?_
    have ho := so hf
    subst ho
    exact g_iret (v := (m_briefs x1.toNatClampNeg)) hx hb hr hlk hP hD hS dX5_keptStroke_16

theorem sg_X5_hasWord : yX5_hasWord.cls = RX5 ∧ yX5_hasWord.cls ≠ "java/lang/invoke/MethodHandle" ∧ yX5_hasWord.cls ≠ "java/lang/invoke/VarHandle" ∧ (parseMethodDescriptor yX5_hasWord.desc).map (fun d => d.parameters.length) = some 1 := by decide +kernel
abbrev rm_X5_hasWord : Room := { frames := 0, cells := 0, slots := 0, locals := 0 }
theorem wd_X5_hasWord_0 : (.fieldLink RX5 22 "ShorthandOutlines$State" "wordCount" "I" : Cond) ∈ wsX5_hasWord := by decide +kernel
theorem ly_X5_hasWord_X5 : ∀ w ∈ u_ws RX5 TX5 8, w ∈ wsX5_hasWord := by decide +kernel
set_option maxHeartbeats 4000000 in
set_option maxRecDepth 100000 in
theorem kt_X5_hasWord (l : Launch) (D : va_G) (cI cZ cS : ClassId) (a_t : Nat) (a_first : Nat) (a_second : Nat) (a_spelling : Nat) (a_lengths : Nat) (a_frequencies : Nat) (a_briefs : Nat) (v_vowels : Int32) (v_wordCount : Int32) (x1 : Int32) (o : Int32) (hf : fn_X5_hasWord v_wordCount x1 = some o) (sz : Nat) : Met l yX5_hasWord wsX5_hasWord rm_X5_hasWord (va_Pc [.ref a_t, .int x1] (gPre D cI cZ cS [(a_t, .inr (5, [.ref a_first, .ref a_second, .int v_vowels, .int v_wordCount, .ref a_spelling, .ref a_lengths, .ref a_frequencies, .ref a_briefs]))] sz)) (va_Qi (fun r (_ : Unit) => r = o) (fun _ => gB D [(a_t, .inr (5, [.ref a_first, .ref a_second, .int v_vowels, .int v_wordCount, .ref a_spelling, .ref a_lengths, .ref a_frequencies, .ref a_briefs]))] (va_A [(a_t, .inr (5, [.ref a_first, .ref a_second, .int v_vowels, .int v_wordCount, .ref a_spelling, .ref a_lengths, .ref a_frequencies, .ref a_briefs]))] sz)) (va_A [(a_t, .inr (5, [.ref a_first, .ref a_second, .int v_vowels, .int v_wordCount, .ref a_spelling, .ref a_lengths, .ref a_frequencies, .ref a_briefs]))] sz)) 0 0 (va_A [(a_t, .inr (5, [.ref a_first, .ref a_second, .int v_vowels, .int v_wordCount, .ref a_spelling, .ref a_lengths, .ref a_frequencies, .ref a_briefs]))] sz) := by
  refine g_entry (y := yX5_hasWord) (av := [.ref a_t, .int x1]) (wi := [(a_t, .inr (5, [.ref a_first, .ref a_second, .int v_vowels, .int v_wordCount, .ref a_spelling, .ref a_lengths, .ref a_frequencies, .ref a_briefs]))]) (Qc := fun A => va_Qi (fun r (_ : Unit) => r = o) (fun _ => gB D [(a_t, .inr (5, [.ref a_first, .ref a_second, .int v_vowels, .int v_wordCount, .ref a_spelling, .ref a_lengths, .ref a_frequencies, .ref a_briefs]))] A) A) (cc := cX5_hasWord) (maxL := 2) (ret := (some .boolean)) (by decide) rfl (Nat.le_of_ble_eq_true rfl) ?_ sz
  intro p e s m below meth c A ls Cx hP hD hS hl
  obtain ⟨hx, hb, hml, hr, hlk, hown, hin, hts, hK, hA⟩ := id Cx
  have hown : s.vm.findClass RX5 = some m.cls := hown
  have hl : lv_has ls 2 [(0, .ref a_t), (1, .int x1)] := hl
  unfold fn_X5_hasWord at hf
  refine lv_iload_n hx hb dX5_hasWord_0 rfl (lv_at hl 1 rfl) ?_
  refine lv_if_lt (tgt := 16) hx hb dX5_hasWord_1 (by decide) (fun hb1 => ?_) (fun hb1 => ?_)
  · replace hf := if_t hb1 hf
    refine lv_iconst (v := 0) hx hb dX5_hasWord_16 (by decide) ?_
    have ho := so hf
    subst ho
    exact g_zret (v := (0 : Int32)) hx hb hr hlk rfl hP hD hS dX5_hasWord_17
  · replace hf := if_f hb1 hf
    refine lv_iload_n hx hb dX5_hasWord_4 rfl (lv_at hl 1 rfl) ?_
    refine lv_aload_n hx hb dX5_hasWord_5 rfl (lv_at hl 0 rfl) ?_
    refine va_get (D := D) (ci := 5) (v := .int v_wordCount) (C := RX5) (T := TX5) (N := 8) hx hb hts ly_X5_hasWord_X5 hown hK.1 hP 0 rfl rfl 3 (by decide) (hts (.fieldLink RX5 22 "ShorthandOutlines$State" "wordCount" "I") wd_X5_hasWord_0) (fun _ h9 => h9) rfl dX5_hasWord_6 ?_
    refine lv_icmp_ge (tgt := 16) hx hb dX5_hasWord_9 (by decide) (fun hb2 => ?_) (fun hb2 => ?_)
    · replace hf := if_t hb2 hf
      refine lv_iconst (v := 0) hx hb dX5_hasWord_16 (by decide) ?_
      have ho := so hf
      subst ho
      exact g_zret (v := (0 : Int32)) hx hb hr hlk rfl hP hD hS dX5_hasWord_17
    · replace hf := if_f hb2 hf
      refine lv_iconst (v := 1) hx hb dX5_hasWord_12 (by decide) ?_
      refine lv_goto (tgt := 17) hx hb dX5_hasWord_13 (by decide) ?_
      have ho := so hf
      subst ho
      exact g_zret (v := (1 : Int32)) hx hb hr hlk rfl hP hD hS dX5_hasWord_17

theorem sg_X5_isFree : yX5_isFree.cls = RX5 ∧ yX5_isFree.cls ≠ "java/lang/invoke/MethodHandle" ∧ yX5_isFree.cls ≠ "java/lang/invoke/VarHandle" ∧ (parseMethodDescriptor yX5_isFree.desc).map (fun d => d.parameters.length) = some 2 := by decide +kernel
abbrev rm_X5_isFree : Room := { frames := 4, cells := 0, slots := 0, locals := 88 }
theorem wd_X5_isFree_0 : (.fieldLink RX5 22 "ShorthandOutlines$State" "wordCount" "I" : Cond) ∈ wsX5_isFree := by decide +kernel
theorem ly_X5_isFree_X5 : ∀ w ∈ u_ws RX5 TX5 8, w ∈ wsX5_isFree := by decide +kernel
set_option maxHeartbeats 4000000 in
set_option maxRecDepth 100000 in
theorem lt_X5_isFree_2 {p : Program} {l : Launch} {e : Env} {s : State} {m : MethodId} {args : Array Value} {below : List Frame} {meth : Method} {c : Code} {D : va_G} {cI cZ cS : ClassId} {A : Nat → Prop}  (Cx : gCx p s m meth c args cX5_isFree 4 (some .boolean) yX5_isFree wsX5_isFree D cI cZ cS A) (a_t : Nat) (a_first : Nat) (a_second : Nat) (v_vowels : Int32) (v_wordCount : Int32) (a_spelling : Nat) (a_lengths : Nat) (a_frequencies : Nat) (a_briefs : Nat) (m_first : Nat → Int32) (m_spelling : Nat → Int32) (m_lengths : Nat → Int32) (m_briefs : Nat → Int32) (y1 : Int32) (y2 : Int32) : ∀ (n : Nat) (y3 : Int32) (o : Int32) (H : Heap) (locs : List Loc) (ls : Array Slot), lp_X5_isFree_2 v_wordCount y2 v_vowels m_first m_spelling m_lengths m_briefs y1 n y3 = some o → va_P D vwCl [(a_t, .inr (5, [.ref a_first, .ref a_second, .int v_vowels, .int v_wordCount, .ref a_spelling, .ref a_lengths, .ref a_frequencies, .ref a_briefs])), (a_first, .inl (cI, 8, .inl m_first)), (a_spelling, .inl (cI, 96, .inl m_spelling)), (a_lengths, .inl (cI, 12, .inl m_lengths)), (a_briefs, .inl (cI, 12, .inl m_briefs))] H → va_D A [(a_t, .inr (5, [.ref a_first, .ref a_second, .int v_vowels, .int v_wordCount, .ref a_spelling, .ref a_lengths, .ref a_frequencies, .ref a_briefs])), (a_first, .inl (cI, 8, .inl m_first)), (a_spelling, .inl (cI, 96, .inl m_spelling)), (a_lengths, .inl (cI, 12, .inl m_lengths)), (a_briefs, .inl (cI, 12, .inl m_briefs))] → va_S A s.heap H locs → lv_has ls 4 [(0, .ref a_t), (1, .int y1), (2, .int y2), (3, .int y3)] → W p l e rm_X5_isFree s m args below meth c H locs 0 0 (MQ below (va_Qi (fun r (_ : Unit) => r = o) (fun _ => gB D [(a_t, .inr (5, [.ref a_first, .ref a_second, .int v_vowels, .int v_wordCount, .ref a_spelling, .ref a_lengths, .ref a_frequencies, .ref a_briefs])), (a_first, .inl (cI, 8, .inl m_first)), (a_spelling, .inl (cI, 96, .inl m_spelling)), (a_lengths, .inl (cI, 12, .inl m_lengths)), (a_briefs, .inl (cI, 12, .inl m_briefs))] A) A) args s 0 0 A) (F0 m 2 ls []) := by
  obtain ⟨hx, hb, hml, hr, hlk, hown, hin, hts, hK, hA⟩ := id Cx
  have hown : s.vm.findClass RX5 = some m.cls := hown
  intro n
  induction n with
  | zero =>
    intro y3 o H locs ls hf
    rw [lp_X5_isFree_2] at hf
    cases hf
  | succ n ih =>
    intro y3 o H locs ls hf hP hD hS hl
    rw [lp_X5_isFree_2] at hf
    refine lv_iload_n hx hb dX5_isFree_2 rfl (lv_at hl 3 rfl) ?_
    refine lv_aload_n hx hb dX5_isFree_3 rfl (lv_at hl 0 rfl) ?_
    refine va_get (D := D) (ci := 5) (v := .int v_wordCount) (C := RX5) (T := TX5) (N := 8) hx hb hts ly_X5_isFree_X5 hown hK.1 hP 0 rfl rfl 3 (by decide) (hts (.fieldLink RX5 22 "ShorthandOutlines$State" "wordCount" "I") wd_X5_isFree_0) (fun _ h9 => h9) rfl dX5_isFree_4 ?_
    refine lv_icmp_ge (tgt := 32) hx hb dX5_isFree_7 (by decide) (fun hb1 => ?_) (fun hb1 => ?_)
    · replace hf := if_t hb1 hf
      refine lv_iconst (v := 1) hx hb dX5_isFree_32 (by decide) ?_
      have ho := so hf
      subst ho
      exact g_zret (v := (1 : Int32)) hx hb hr hlk rfl hP hD hS dX5_isFree_33
    · replace hf := if_f hb1 hf
      refine lv_iload_n hx hb dX5_isFree_10 rfl (lv_at hl 3 rfl) ?_
      refine lv_iload_n hx hb dX5_isFree_11 rfl (lv_at hl 2 rfl) ?_
      refine lv_icmp_eq (tgt := 26) hx hb dX5_isFree_12 (by decide) (fun hb2 => ?_) (fun hb2 => ?_)
      · replace hf := if_t hb2 hf
        refine lv_iinc (v := (y3 + 1)) (lv' := [(3, .int (y3 + 1)), (0, .ref a_t), (1, .int y1), (2, .int y2)]) hx hb dX5_isFree_26 hl (k := 3) rfl rfl (by decide) rfl (fun ls hl => ?_)
        refine lv_goto (tgt := 2) hx hb dX5_isFree_29 (by decide) ?_
        exact ih (y3 + 1) o _ _ _ hf hP hD hS (lv_sub hl [1, 2, 3, 0] rfl)
      · replace hf := if_f hb2 hf
        refine lv_aload_n hx hb dX5_isFree_15 rfl (lv_at hl 0 rfl) ?_
        refine lv_iload_n hx hb dX5_isFree_16 rfl (lv_at hl 3 rfl) ?_
        obtain ⟨u1, hc3, hf⟩ := ob hf
        refine g_ki (wc := [(a_t, .inr (5, [.ref a_first, .ref a_second, .int v_vowels, .int v_wordCount, .ref a_spelling, .ref a_lengths, .ref a_frequencies, .ref a_briefs])), (a_first, .inl (cI, 8, .inl m_first)), (a_spelling, .inl (cI, 96, .inl m_spelling)), (a_lengths, .inl (cI, 12, .inl m_lengths)), (a_briefs, .inl (cI, 12, .inl m_briefs))]) (wc' := [(a_t, .inr (5, [.ref a_first, .ref a_second, .int v_vowels, .int v_wordCount, .ref a_spelling, .ref a_lengths, .ref a_frequencies, .ref a_briefs])), (a_first, .inl (cI, 8, .inl m_first)), (a_spelling, .inl (cI, 96, .inl m_spelling)), (a_lengths, .inl (cI, 12, .inl m_lengths)), (a_briefs, .inl (cI, 12, .inl m_briefs))]) (wr := []) (va_runV (As := [.int y3]) (rest := []) ⟨hx, hb, hml, hown, hts⟩ (kt_X5_keptStroke l D cI cZ cS a_t a_first a_spelling a_lengths a_briefs a_second a_frequencies v_wordCount v_vowels m_first m_spelling m_lengths m_briefs y3 u1 hc3 _) (cwV 1 hts gX5_isFree_X5_keptStroke rfl rfl rfl sg_X5_keptStroke ⟨(Nat.le_of_ble_eq_true rfl), (Nat.le_of_ble_eq_true rfl)⟩) (g_pv (q := (RX5, TX5, 8)) hK hP hD [0, 1, 2, 3, 4] rfl (by decide) rfl rfl) rfl rfl hl.1 rfl (lv_room (Nat.le_of_ble_eq_true rfl)) dX5_isFree_17 ⟨Nat.zero_le _, Nat.zero_le _⟩) hP hD hS hA [0, 1, 2, 3, 4] [] rfl rfl (by decide) (by decide) (fun H locs hP hD hS => ?_)
        have hP : va_P D vwCl [(a_t, .inr (5, [.ref a_first, .ref a_second, .int v_vowels, .int v_wordCount, .ref a_spelling, .ref a_lengths, .ref a_frequencies, .ref a_briefs])), (a_first, .inl (cI, 8, .inl m_first)), (a_spelling, .inl (cI, 96, .inl m_spelling)), (a_lengths, .inl (cI, 12, .inl m_lengths)), (a_briefs, .inl (cI, 12, .inl m_briefs))] H := hP
        have hD : va_D A [(a_t, .inr (5, [.ref a_first, .ref a_second, .int v_vowels, .int v_wordCount, .ref a_spelling, .ref a_lengths, .ref a_frequencies, .ref a_briefs])), (a_first, .inl (cI, 8, .inl m_first)), (a_spelling, .inl (cI, 96, .inl m_spelling)), (a_lengths, .inl (cI, 12, .inl m_lengths)), (a_briefs, .inl (cI, 12, .inl m_briefs))] := hD
        refine lv_iload_n hx hb dX5_isFree_20 rfl (lv_at hl 1 rfl) ?_
        refine lv_icmp_ne (tgt := 26) hx hb dX5_isFree_21 (by decide) (fun hb4 => ?_) (fun hb4 => ?_)
        · replace hf := if_f hb4 hf
          refine lv_iinc (v := (y3 + 1)) (lv' := [(3, .int (y3 + 1)), (0, .ref a_t), (1, .int y1), (2, .int y2)]) hx hb dX5_isFree_26 hl (k := 3) rfl rfl (by decide) rfl (fun ls hl => ?_)
          refine lv_goto (tgt := 2) hx hb dX5_isFree_29 (by decide) ?_
          exact ih (y3 + 1) o _ _ _ hf hP hD hS (lv_sub hl [1, 2, 3, 0] rfl)
        · replace hf := if_t hb4 hf
          refine lv_iconst (v := 0) hx hb dX5_isFree_24 (by decide) ?_
          have ho := so hf
          subst ho
          exact g_zret (v := (0 : Int32)) hx hb hr hlk rfl hP hD hS dX5_isFree_25
set_option maxHeartbeats 4000000 in
set_option maxRecDepth 100000 in
theorem kt_X5_isFree (l : Launch) (D : va_G) (cI cZ cS : ClassId) (a_t : Nat) (a_first : Nat) (a_spelling : Nat) (a_lengths : Nat) (a_briefs : Nat) (a_second : Nat) (a_frequencies : Nat) (v_vowels : Int32) (v_wordCount : Int32) (m_first : Nat → Int32) (m_spelling : Nat → Int32) (m_lengths : Nat → Int32) (m_briefs : Nat → Int32) (x1 : Int32) (x2 : Int32) (o : Int32) (hf : fn_X5_isFree v_vowels v_wordCount m_first m_spelling m_lengths m_briefs x1 x2 = some o) (sz : Nat) : Met l yX5_isFree wsX5_isFree rm_X5_isFree (va_Pc [.ref a_t, .int x1, .int x2] (gPre D cI cZ cS [(a_t, .inr (5, [.ref a_first, .ref a_second, .int v_vowels, .int v_wordCount, .ref a_spelling, .ref a_lengths, .ref a_frequencies, .ref a_briefs])), (a_first, .inl (cI, 8, .inl m_first)), (a_spelling, .inl (cI, 96, .inl m_spelling)), (a_lengths, .inl (cI, 12, .inl m_lengths)), (a_briefs, .inl (cI, 12, .inl m_briefs))] sz)) (va_Qi (fun r (_ : Unit) => r = o) (fun _ => gB D [(a_t, .inr (5, [.ref a_first, .ref a_second, .int v_vowels, .int v_wordCount, .ref a_spelling, .ref a_lengths, .ref a_frequencies, .ref a_briefs])), (a_first, .inl (cI, 8, .inl m_first)), (a_spelling, .inl (cI, 96, .inl m_spelling)), (a_lengths, .inl (cI, 12, .inl m_lengths)), (a_briefs, .inl (cI, 12, .inl m_briefs))] (va_A [(a_t, .inr (5, [.ref a_first, .ref a_second, .int v_vowels, .int v_wordCount, .ref a_spelling, .ref a_lengths, .ref a_frequencies, .ref a_briefs])), (a_first, .inl (cI, 8, .inl m_first)), (a_spelling, .inl (cI, 96, .inl m_spelling)), (a_lengths, .inl (cI, 12, .inl m_lengths)), (a_briefs, .inl (cI, 12, .inl m_briefs))] sz)) (va_A [(a_t, .inr (5, [.ref a_first, .ref a_second, .int v_vowels, .int v_wordCount, .ref a_spelling, .ref a_lengths, .ref a_frequencies, .ref a_briefs])), (a_first, .inl (cI, 8, .inl m_first)), (a_spelling, .inl (cI, 96, .inl m_spelling)), (a_lengths, .inl (cI, 12, .inl m_lengths)), (a_briefs, .inl (cI, 12, .inl m_briefs))] sz)) 0 0 (va_A [(a_t, .inr (5, [.ref a_first, .ref a_second, .int v_vowels, .int v_wordCount, .ref a_spelling, .ref a_lengths, .ref a_frequencies, .ref a_briefs])), (a_first, .inl (cI, 8, .inl m_first)), (a_spelling, .inl (cI, 96, .inl m_spelling)), (a_lengths, .inl (cI, 12, .inl m_lengths)), (a_briefs, .inl (cI, 12, .inl m_briefs))] sz) := by
  refine g_entry (y := yX5_isFree) (av := [.ref a_t, .int x1, .int x2]) (wi := [(a_t, .inr (5, [.ref a_first, .ref a_second, .int v_vowels, .int v_wordCount, .ref a_spelling, .ref a_lengths, .ref a_frequencies, .ref a_briefs])), (a_first, .inl (cI, 8, .inl m_first)), (a_spelling, .inl (cI, 96, .inl m_spelling)), (a_lengths, .inl (cI, 12, .inl m_lengths)), (a_briefs, .inl (cI, 12, .inl m_briefs))]) (Qc := fun A => va_Qi (fun r (_ : Unit) => r = o) (fun _ => gB D [(a_t, .inr (5, [.ref a_first, .ref a_second, .int v_vowels, .int v_wordCount, .ref a_spelling, .ref a_lengths, .ref a_frequencies, .ref a_briefs])), (a_first, .inl (cI, 8, .inl m_first)), (a_spelling, .inl (cI, 96, .inl m_spelling)), (a_lengths, .inl (cI, 12, .inl m_lengths)), (a_briefs, .inl (cI, 12, .inl m_briefs))] A) A) (cc := cX5_isFree) (maxL := 4) (ret := (some .boolean)) (by decide) rfl (Nat.le_of_ble_eq_true rfl) ?_ sz
  intro p e s m below meth c A ls Cx hP hD hS hl
  obtain ⟨hx, hb, hml, hr, hlk, hown, hin, hts, hK, hA⟩ := id Cx
  have hown : s.vm.findClass RX5 = some m.cls := hown
  have hl : lv_has ls 4 [(0, .ref a_t), (1, .int x1), (2, .int x2)] := hl
  unfold fn_X5_isFree at hf
  refine lv_iconst (v := 0) hx hb dX5_isFree_0 (by decide) ?_
  refine lv_istore_n (lv' := [(3, .int (0 : Int32)), (0, .ref a_t), (1, .int x1), (2, .int x2)]) hx hb dX5_isFree_1 rfl hl (by decide) rfl (fun ls hl => ?_)
  exact lt_X5_isFree_2 Cx a_t a_first a_second v_vowels v_wordCount a_spelling a_lengths a_frequencies a_briefs m_first m_spelling m_lengths m_briefs x1 x2 1024 (0 : Int32) o _ _ _ hf hP hD hS (lv_sub hl [1, 2, 3, 0] rfl)
