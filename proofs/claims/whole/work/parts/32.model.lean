theorem sg_X7_proposes : yX7_proposes.cls = RX7 ∧ yX7_proposes.cls ≠ "java/lang/invoke/MethodHandle" ∧ yX7_proposes.cls ≠ "java/lang/invoke/VarHandle" ∧ (parseMethodDescriptor yX7_proposes.desc).map (fun d => d.parameters.length) = some 0 := by decide +kernel
abbrev rm_X7_proposes : Room := { frames := 5, cells := 0, slots := 0, locals := 114 }
theorem wd_X7_proposes_0 : (.fieldLink RX7 99 "ShorthandOutlinesModel" "proposals" "I" : Cond) ∈ wsX7_proposes := by decide +kernel
theorem wd_X7_proposes_1 : (.fieldLink RX7 7 "ShorthandOutlinesModel" "now" "[I" : Cond) ∈ wsX7_proposes := by decide +kernel
theorem wd_X7_proposes_2 : (.fieldLink RX7 28 "ShorthandOutlinesModel" "proposed" "[I" : Cond) ∈ wsX7_proposes := by decide +kernel
theorem wd_X7_proposes_3 : (.fieldLink RX7 31 "ShorthandOutlinesModel" "given" "[I" : Cond) ∈ wsX7_proposes := by decide +kernel
theorem ly_X7_proposes_X7 : ∀ w ∈ u_ws RX7 TX7 16, w ∈ wsX7_proposes := by decide +kernel
set_option maxHeartbeats 4000000 in
set_option maxRecDepth 100000 in
theorem lt_X7_proposes_28 {p : Program} {l : Launch} {e : Env} {s : State} {m : MethodId} {args : Array Value} {below : List Frame} {meth : Method} {c : Code} {D : va_G} {cI cZ cS : ClassId} {A : Nat → Prop} {Q : State → Prop} (Cx : gCx p s m meth c args cX7_proposes 7 none yX7_proposes wsX7_proposes D cI cZ cS A) (a_t : Nat) (a_now : Nat) (a_past : Nat) (v_saved : Int32) (a_errors : Nat) (a_text : Nat) (v_textLength : Int32) (a_pad : Nat) (v_padLength : Int32) (a_sounds : Nat) (a_proposed : Nat) (a_given : Nat) (v_proposals : Int32) (a_readings : Nat) (v_readingMany : Int32) (v_hash : Int64) (m_now : Nat → Int32) (m_proposed : Nat → Int32) (m_given : Nat → Int32) (y1 : Int32) (y2 : Int32) (y3 : Int32) : ∀ (n : Nat) (y4 : Int32) (y5 : Int32) (v_soundMany : Int32) (m_sounds : Nat → Int32) (o : Int32 × Int32 × (Nat → Int32)) (H : Heap) (locs : List Loc) (ls : Array Slot), lp_X7_proposes_28 m_now y1 n y4 y5 v_soundMany m_sounds = some o → va_P D vwCl [(a_t, .inr (7, [.ref a_now, .ref a_past, .int v_saved, .ref a_errors, .ref a_text, .int v_textLength, .ref a_pad, .int v_padLength, .ref a_sounds, .int v_soundMany, .ref a_proposed, .ref a_given, .int v_proposals, .ref a_readings, .int v_readingMany, .long v_hash])), (a_now, .inl (cI, 150, .inl m_now)), (a_sounds, .inl (cI, 8, .inl m_sounds)), (a_proposed, .inl (cI, 12, .inl m_proposed)), (a_given, .inl (cI, 12, .inl m_given))] H → va_D A [(a_t, .inr (7, [.ref a_now, .ref a_past, .int v_saved, .ref a_errors, .ref a_text, .int v_textLength, .ref a_pad, .int v_padLength, .ref a_sounds, .int v_soundMany, .ref a_proposed, .ref a_given, .int v_proposals, .ref a_readings, .int v_readingMany, .long v_hash])), (a_now, .inl (cI, 150, .inl m_now)), (a_sounds, .inl (cI, 8, .inl m_sounds)), (a_proposed, .inl (cI, 12, .inl m_proposed)), (a_given, .inl (cI, 12, .inl m_given))] → va_S A s.heap H locs → lv_has ls 7 [(0, .ref a_t), (1, .int y1), (2, .int y2), (3, .int y3), (4, .int y4), (5, .int y5)] → (∀ (H : Heap) (locs : List Loc) (ls : Array Slot), va_P D vwCl [(a_t, .inr (7, [.ref a_now, .ref a_past, .int v_saved, .ref a_errors, .ref a_text, .int v_textLength, .ref a_pad, .int v_padLength, .ref a_sounds, .int o.2.1, .ref a_proposed, .ref a_given, .int v_proposals, .ref a_readings, .int v_readingMany, .long v_hash])), (a_now, .inl (cI, 150, .inl m_now)), (a_sounds, .inl (cI, 8, .inl o.2.2)), (a_proposed, .inl (cI, 12, .inl m_proposed)), (a_given, .inl (cI, 12, .inl m_given))] H → va_D A [(a_t, .inr (7, [.ref a_now, .ref a_past, .int v_saved, .ref a_errors, .ref a_text, .int v_textLength, .ref a_pad, .int v_padLength, .ref a_sounds, .int o.2.1, .ref a_proposed, .ref a_given, .int v_proposals, .ref a_readings, .int v_readingMany, .long v_hash])), (a_now, .inl (cI, 150, .inl m_now)), (a_sounds, .inl (cI, 8, .inl o.2.2)), (a_proposed, .inl (cI, 12, .inl m_proposed)), (a_given, .inl (cI, 12, .inl m_given))] → va_S A s.heap H locs → lv_has ls 7 [(0, .ref a_t), (1, .int y1), (2, .int y2), (3, .int y3), (4, .int o.1)] → W p l e rm_X7_proposes s m args below meth c H locs 0 0 Q (F0 m 120 ls [])) → W p l e rm_X7_proposes s m args below meth c H locs 0 0 Q (F0 m 28 ls []) := by
  obtain ⟨hx, hb, hml, hr, hlk, hown, hin, hts, hK, hA⟩ := id Cx
  have hown : s.vm.findClass RX7 = some m.cls := hown
  intro n
  induction n with
  | zero =>
    intro y4 y5 v_soundMany m_sounds o H locs ls hf
    rw [lp_X7_proposes_28] at hf
    cases hf
  | succ n ih =>
    intro y4 y5 v_soundMany m_sounds o H locs ls hf hP hD hS hl kk
    rw [lp_X7_proposes_28] at hf
    refine lv_iload hx hb dX7_proposes_28 (lv_at hl 5 rfl) ?_
    refine lv_aload_n hx hb dX7_proposes_30 rfl (lv_at hl 0 rfl) ?_
    refine va_get (D := D) (ci := 7) (v := .ref a_now) (C := RX7) (T := TX7) (N := 16) hx hb hts ly_X7_proposes_X7 hown hK.1 hP 0 rfl rfl 0 (by decide) (hts (.fieldLink RX7 7 "ShorthandOutlinesModel" "now" "[I") wd_X7_proposes_1) (fun _ h9 => h9) rfl dX7_proposes_31 ?_
    refine lv_bipush (v := 17) hx hb dX7_proposes_34 (by decide) ?_
    refine va_iald hx hb hK.1 hP 1 0 rfl rfl (by unfold vp_in; decide) dX7_proposes_36 ?_
    refine lv_icmp_ge (tgt := 120) hx hb dX7_proposes_37 (by decide) (fun hb1 => ?_) (fun hb1 => ?_)
    · replace hf := if_t hb1 hf
      have ho := so hf
      subst ho
      exact kk _ _ _ hP hD hS (lv_sub hl [0, 1, 2, 3, 4] rfl)
    · replace hf := if_f hb1 hf
      refine lv_iload_n hx hb dX7_proposes_40 rfl (lv_at hl 1 rfl) ?_
      refine lv_iload hx hb dX7_proposes_41 (lv_at hl 5 rfl) ?_
      refine lv_ishr hx hb dX7_proposes_43 ?_
      refine lv_iconst (v := 1) hx hb dX7_proposes_44 (by decide) ?_
      refine lv_iand hx hb dX7_proposes_45 ?_
      refine lv_if_ne (tgt := 76) hx hb dX7_proposes_46 (by decide) (fun hb2 => ?_) (fun hb2 => ?_)
      · replace hf := if_f hb2 hf
        refine lv_iconst (v := 0) hx hb dX7_proposes_76 (by decide) ?_
        refine lv_istore (lv' := [(6, .int (0 : Int32)), (0, .ref a_t), (1, .int y1), (2, .int y2), (3, .int y3), (4, .int y4), (5, .int y5)]) hx hb dX7_proposes_77 hl (by decide) rfl (fun ls hl => ?_)
        refine lv_iload hx hb dX7_proposes_79 (lv_at hl 0 rfl) ?_
        refine lv_if_eq (tgt := 110) hx hb dX7_proposes_81 (by decide) (fun _ => ?_) (fun h0 => absurd h0 (by decide))
        refine lv_iload hx hb dX7_proposes_110 (lv_at hl 5 rfl) ?_
        refine lv_istore (lv' := [(4, .int y4), (6, .int (0 : Int32)), (0, .ref a_t), (1, .int y1), (2, .int y2), (3, .int y3), (5, .int y5)]) hx hb dX7_proposes_112 hl (by decide) rfl (fun ls hl => ?_)
        refine lv_iinc (v := (y5 + 1)) (lv' := [(5, .int (y5 + 1)), (4, .int y4), (6, .int (0 : Int32)), (0, .ref a_t), (1, .int y1), (2, .int y2), (3, .int y3)]) hx hb dX7_proposes_114 hl (k := 6) rfl rfl (by decide) rfl (fun ls hl => ?_)
        refine lv_goto (tgt := 28) hx hb dX7_proposes_117 (by decide) ?_
        exact ih y4 (y5 + 1) v_soundMany m_sounds o _ _ _ hf hP hD hS (lv_sub hl [3, 4, 5, 6, 1, 0] rfl) kk
      · replace hf := if_t hb2 hf
        refine lv_aload_n hx hb dX7_proposes_49 rfl (lv_at hl 0 rfl) ?_
        refine va_get (D := D) (ci := 7) (v := .ref a_now) (C := RX7) (T := TX7) (N := 16) hx hb hts ly_X7_proposes_X7 hown hK.1 hP 0 rfl rfl 0 (by decide) (hts (.fieldLink RX7 7 "ShorthandOutlinesModel" "now" "[I") wd_X7_proposes_1) (fun _ h9 => h9) rfl dX7_proposes_50 ?_
        refine lv_bipush (v := 42) hx hb dX7_proposes_53 (by decide) ?_
        refine lv_iload hx hb dX7_proposes_55 (lv_at hl 5 rfl) ?_
        refine lv_iadd hx hb dX7_proposes_57 ?_
        have hi3 := gd_1 hf
        replace hf := gd_2 hf
        refine va_iald hx hb hK.1 hP 1 0 rfl rfl (inb_in hi3) dX7_proposes_58 ?_
        refine lv_iconst (v := -1) hx hb dX7_proposes_59 (by decide) ?_
        refine lv_icmp_ne (tgt := 76) hx hb dX7_proposes_60 (by decide) (fun hb4 => ?_) (fun hb4 => ?_)
        · replace hf := if_f hb4 hf
          refine lv_iconst (v := 0) hx hb dX7_proposes_76 (by decide) ?_
          refine lv_istore (lv' := [(6, .int (0 : Int32)), (0, .ref a_t), (1, .int y1), (2, .int y2), (3, .int y3), (4, .int y4), (5, .int y5)]) hx hb dX7_proposes_77 hl (by decide) rfl (fun ls hl => ?_)
          refine lv_iload hx hb dX7_proposes_79 (lv_at hl 0 rfl) ?_
          refine lv_if_eq (tgt := 110) hx hb dX7_proposes_81 (by decide) (fun _ => ?_) (fun h0 => absurd h0 (by decide))
          refine lv_iload hx hb dX7_proposes_110 (lv_at hl 5 rfl) ?_
          refine lv_istore (lv' := [(4, .int y4), (6, .int (0 : Int32)), (0, .ref a_t), (1, .int y1), (2, .int y2), (3, .int y3), (5, .int y5)]) hx hb dX7_proposes_112 hl (by decide) rfl (fun ls hl => ?_)
          refine lv_iinc (v := (y5 + 1)) (lv' := [(5, .int (y5 + 1)), (4, .int y4), (6, .int (0 : Int32)), (0, .ref a_t), (1, .int y1), (2, .int y2), (3, .int y3)]) hx hb dX7_proposes_114 hl (k := 6) rfl rfl (by decide) rfl (fun ls hl => ?_)
          refine lv_goto (tgt := 28) hx hb dX7_proposes_117 (by decide) ?_
          exact ih y4 (y5 + 1) v_soundMany m_sounds o _ _ _ hf hP hD hS (lv_sub hl [3, 4, 5, 6, 1, 0] rfl) kk
        · replace hf := if_t hb4 hf
          refine lv_aload_n hx hb dX7_proposes_63 rfl (lv_at hl 0 rfl) ?_
          refine lv_iload hx hb dX7_proposes_64 (lv_at hl 5 rfl) ?_
          obtain ⟨u1, hc5, hf⟩ := ob hf
          refine g_ki (wc := [(a_t, .inr (7, [.ref a_now, .ref a_past, .int v_saved, .ref a_errors, .ref a_text, .int v_textLength, .ref a_pad, .int v_padLength, .ref a_sounds, .int v_soundMany, .ref a_proposed, .ref a_given, .int v_proposals, .ref a_readings, .int v_readingMany, .long v_hash])), (a_now, .inl (cI, 150, .inl m_now)), (a_sounds, .inl (cI, 8, .inl m_sounds))]) (wc' := [(a_t, .inr (7, [.ref a_now, .ref a_past, .int v_saved, .ref a_errors, .ref a_text, .int v_textLength, .ref a_pad, .int v_padLength, .ref a_sounds, .int u1.2.1, .ref a_proposed, .ref a_given, .int v_proposals, .ref a_readings, .int v_readingMany, .long v_hash])), (a_now, .inl (cI, 150, .inl m_now)), (a_sounds, .inl (cI, 8, .inl u1.2.2))]) (wr := [(a_proposed, .inl (cI, 12, .inl m_proposed)), (a_given, .inl (cI, 12, .inl m_given))]) (va_runV (As := [.int y5]) (rest := []) ⟨hx, hb, hml, hown, hts⟩ (kt_X7_gainOf l D cI cZ cS a_t a_now a_sounds a_past a_errors a_text a_pad a_proposed a_given a_readings v_saved v_textLength v_padLength v_proposals v_readingMany v_hash v_soundMany m_now m_sounds y5 u1 hc5 _) (cwV 1 hts gX7_proposes_X7_gainOf rfl rfl rfl sg_X7_gainOf ⟨(Nat.le_of_ble_eq_true rfl), (Nat.le_of_ble_eq_true rfl)⟩) (g_pv (q := (RX7, TX7, 16)) hK hP hD [0, 1, 2] rfl (by decide) rfl rfl) rfl rfl hl.1 rfl (lv_room (Nat.le_of_ble_eq_true rfl)) dX7_proposes_66 ⟨Nat.zero_le _, Nat.zero_le _⟩) hP hD hS hA [0, 1, 2] [3, 4] rfl rfl (by decide) (by decide) (fun H locs hP hD hS => ?_)
          have hP : va_P D vwCl [(a_proposed, .inl (cI, 12, .inl m_proposed)), (a_given, .inl (cI, 12, .inl m_given)), (a_t, .inr (7, [.ref a_now, .ref a_past, .int v_saved, .ref a_errors, .ref a_text, .int v_textLength, .ref a_pad, .int v_padLength, .ref a_sounds, .int u1.2.1, .ref a_proposed, .ref a_given, .int v_proposals, .ref a_readings, .int v_readingMany, .long v_hash])), (a_now, .inl (cI, 150, .inl m_now)), (a_sounds, .inl (cI, 8, .inl u1.2.2))] H := hP
          have hD : va_D A [(a_proposed, .inl (cI, 12, .inl m_proposed)), (a_given, .inl (cI, 12, .inl m_given)), (a_t, .inr (7, [.ref a_now, .ref a_past, .int v_saved, .ref a_errors, .ref a_text, .int v_textLength, .ref a_pad, .int v_padLength, .ref a_sounds, .int u1.2.1, .ref a_proposed, .ref a_given, .int v_proposals, .ref a_readings, .int v_readingMany, .long v_hash])), (a_now, .inl (cI, 150, .inl m_now)), (a_sounds, .inl (cI, 8, .inl u1.2.2))] := hD
          refine lv_if_le (tgt := 76) hx hb dX7_proposes_69 (by decide) (fun hb6 => ?_) (fun hb6 => ?_)
          · replace hf := if_t hb6 hf
            refine lv_iconst (v := 0) hx hb dX7_proposes_76 (by decide) ?_
            refine lv_istore (lv' := [(6, .int (0 : Int32)), (0, .ref a_t), (1, .int y1), (2, .int y2), (3, .int y3), (4, .int y4), (5, .int y5)]) hx hb dX7_proposes_77 hl (by decide) rfl (fun ls hl => ?_)
            refine lv_iload hx hb dX7_proposes_79 (lv_at hl 0 rfl) ?_
            refine lv_if_eq (tgt := 110) hx hb dX7_proposes_81 (by decide) (fun _ => ?_) (fun h0 => absurd h0 (by decide))
            refine lv_iload hx hb dX7_proposes_110 (lv_at hl 5 rfl) ?_
            refine lv_istore (lv' := [(4, .int y4), (6, .int (0 : Int32)), (0, .ref a_t), (1, .int y1), (2, .int y2), (3, .int y3), (5, .int y5)]) hx hb dX7_proposes_112 hl (by decide) rfl (fun ls hl => ?_)
            refine lv_iinc (v := (y5 + 1)) (lv' := [(5, .int (y5 + 1)), (4, .int y4), (6, .int (0 : Int32)), (0, .ref a_t), (1, .int y1), (2, .int y2), (3, .int y3)]) hx hb dX7_proposes_114 hl (k := 6) rfl rfl (by decide) rfl (fun ls hl => ?_)
            refine lv_goto (tgt := 28) hx hb dX7_proposes_117 (by decide) ?_
            have hP : va_P D vwCl [(a_t, .inr (7, [.ref a_now, .ref a_past, .int v_saved, .ref a_errors, .ref a_text, .int v_textLength, .ref a_pad, .int v_padLength, .ref a_sounds, .int u1.2.1, .ref a_proposed, .ref a_given, .int v_proposals, .ref a_readings, .int v_readingMany, .long v_hash])), (a_now, .inl (cI, 150, .inl m_now)), (a_sounds, .inl (cI, 8, .inl u1.2.2)), (a_proposed, .inl (cI, 12, .inl m_proposed)), (a_given, .inl (cI, 12, .inl m_given))] H := hP.sub [2, 3, 4, 0, 1] rfl
            have hD : va_D A [(a_t, .inr (7, [.ref a_now, .ref a_past, .int v_saved, .ref a_errors, .ref a_text, .int v_textLength, .ref a_pad, .int v_padLength, .ref a_sounds, .int u1.2.1, .ref a_proposed, .ref a_given, .int v_proposals, .ref a_readings, .int v_readingMany, .long v_hash])), (a_now, .inl (cI, 150, .inl m_now)), (a_sounds, .inl (cI, 8, .inl u1.2.2)), (a_proposed, .inl (cI, 12, .inl m_proposed)), (a_given, .inl (cI, 12, .inl m_given))] := hD.sub [2, 3, 4, 0, 1] (by decide +kernel) rfl
            exact ih y4 (y5 + 1) u1.2.1 u1.2.2 o _ _ _ hf hP hD hS (lv_sub hl [3, 4, 5, 6, 1, 0] rfl) kk
          · replace hf := if_f hb6 hf
            refine lv_iconst (v := 1) hx hb dX7_proposes_72 (by decide) ?_
            refine lv_goto (tgt := 77) hx hb dX7_proposes_73 (by decide) ?_
            refine lv_istore (lv' := [(6, .int (1 : Int32)), (0, .ref a_t), (1, .int y1), (2, .int y2), (3, .int y3), (4, .int y4), (5, .int y5)]) hx hb dX7_proposes_77 hl (by decide) rfl (fun ls hl => ?_)
            refine lv_iload hx hb dX7_proposes_79 (lv_at hl 0 rfl) ?_
            refine lv_if_eq (tgt := 110) hx hb dX7_proposes_81 (by decide) (fun h0 => absurd h0 (by decide)) (fun _ => ?_)
            refine lv_iload hx hb dX7_proposes_84 (lv_at hl 5 rfl) ?_
            refine lv_iconst (v := -1) hx hb dX7_proposes_86 (by decide) ?_
            refine lv_icmp_eq (tgt := 105) hx hb dX7_proposes_87 (by decide) (fun hb7 => ?_) (fun hb7 => ?_)
            · replace hf := if_t hb7 hf
              refine lv_iload hx hb dX7_proposes_105 (lv_at hl 6 rfl) ?_
              refine lv_goto (tgt := 112) hx hb dX7_proposes_107 (by decide) ?_
              refine lv_istore (lv' := [(4, .int y5), (6, .int (1 : Int32)), (0, .ref a_t), (1, .int y1), (2, .int y2), (3, .int y3), (5, .int y5)]) hx hb dX7_proposes_112 hl (by decide) rfl (fun ls hl => ?_)
              refine lv_iinc (v := (y5 + 1)) (lv' := [(5, .int (y5 + 1)), (4, .int y5), (6, .int (1 : Int32)), (0, .ref a_t), (1, .int y1), (2, .int y2), (3, .int y3)]) hx hb dX7_proposes_114 hl (k := 6) rfl rfl (by decide) rfl (fun ls hl => ?_)
              refine lv_goto (tgt := 28) hx hb dX7_proposes_117 (by decide) ?_
              have hP : va_P D vwCl [(a_t, .inr (7, [.ref a_now, .ref a_past, .int v_saved, .ref a_errors, .ref a_text, .int v_textLength, .ref a_pad, .int v_padLength, .ref a_sounds, .int u1.2.1, .ref a_proposed, .ref a_given, .int v_proposals, .ref a_readings, .int v_readingMany, .long v_hash])), (a_now, .inl (cI, 150, .inl m_now)), (a_sounds, .inl (cI, 8, .inl u1.2.2)), (a_proposed, .inl (cI, 12, .inl m_proposed)), (a_given, .inl (cI, 12, .inl m_given))] H := hP.sub [2, 3, 4, 0, 1] rfl
              have hD : va_D A [(a_t, .inr (7, [.ref a_now, .ref a_past, .int v_saved, .ref a_errors, .ref a_text, .int v_textLength, .ref a_pad, .int v_padLength, .ref a_sounds, .int u1.2.1, .ref a_proposed, .ref a_given, .int v_proposals, .ref a_readings, .int v_readingMany, .long v_hash])), (a_now, .inl (cI, 150, .inl m_now)), (a_sounds, .inl (cI, 8, .inl u1.2.2)), (a_proposed, .inl (cI, 12, .inl m_proposed)), (a_given, .inl (cI, 12, .inl m_given))] := hD.sub [2, 3, 4, 0, 1] (by decide +kernel) rfl
              exact ih y5 (y5 + 1) u1.2.1 u1.2.2 o _ _ _ hf hP hD hS (lv_sub hl [3, 4, 5, 6, 1, 0] rfl) kk
            · replace hf := if_f hb7 hf
              refine lv_aload_n hx hb dX7_proposes_90 rfl (lv_at hl 1 rfl) ?_
              refine lv_iload hx hb dX7_proposes_91 (lv_at hl 6 rfl) ?_
              obtain ⟨u2, hc8, hf⟩ := ob hf
              refine g_ki (wc := [(a_t, .inr (7, [.ref a_now, .ref a_past, .int v_saved, .ref a_errors, .ref a_text, .int v_textLength, .ref a_pad, .int v_padLength, .ref a_sounds, .int u1.2.1, .ref a_proposed, .ref a_given, .int v_proposals, .ref a_readings, .int v_readingMany, .long v_hash])), (a_now, .inl (cI, 150, .inl m_now)), (a_sounds, .inl (cI, 8, .inl u1.2.2))]) (wc' := [(a_t, .inr (7, [.ref a_now, .ref a_past, .int v_saved, .ref a_errors, .ref a_text, .int v_textLength, .ref a_pad, .int v_padLength, .ref a_sounds, .int u2.2.1, .ref a_proposed, .ref a_given, .int v_proposals, .ref a_readings, .int v_readingMany, .long v_hash])), (a_now, .inl (cI, 150, .inl m_now)), (a_sounds, .inl (cI, 8, .inl u2.2.2))]) (wr := [(a_proposed, .inl (cI, 12, .inl m_proposed)), (a_given, .inl (cI, 12, .inl m_given))]) (va_runV (As := [.int y5]) (rest := []) ⟨hx, hb, hml, hown, hts⟩ (kt_X7_gainOf l D cI cZ cS a_t a_now a_sounds a_past a_errors a_text a_pad a_proposed a_given a_readings v_saved v_textLength v_padLength v_proposals v_readingMany v_hash u1.2.1 m_now u1.2.2 y5 u2 hc8 _) (cwV 1 hts gX7_proposes_X7_gainOf rfl rfl rfl sg_X7_gainOf ⟨(Nat.le_of_ble_eq_true rfl), (Nat.le_of_ble_eq_true rfl)⟩) (g_pv (q := (RX7, TX7, 16)) hK hP hD [2, 3, 4] rfl (by decide) rfl rfl) rfl rfl hl.1 rfl (lv_room (Nat.le_of_ble_eq_true rfl)) dX7_proposes_93 ⟨Nat.zero_le _, Nat.zero_le _⟩) hP hD hS hA [2, 3, 4] [0, 1] rfl rfl (by decide) (by decide) (fun H locs hP hD hS => ?_)
              have hP : va_P D vwCl [(a_proposed, .inl (cI, 12, .inl m_proposed)), (a_given, .inl (cI, 12, .inl m_given)), (a_t, .inr (7, [.ref a_now, .ref a_past, .int v_saved, .ref a_errors, .ref a_text, .int v_textLength, .ref a_pad, .int v_padLength, .ref a_sounds, .int u2.2.1, .ref a_proposed, .ref a_given, .int v_proposals, .ref a_readings, .int v_readingMany, .long v_hash])), (a_now, .inl (cI, 150, .inl m_now)), (a_sounds, .inl (cI, 8, .inl u2.2.2))] H := hP
              have hD : va_D A [(a_proposed, .inl (cI, 12, .inl m_proposed)), (a_given, .inl (cI, 12, .inl m_given)), (a_t, .inr (7, [.ref a_now, .ref a_past, .int v_saved, .ref a_errors, .ref a_text, .int v_textLength, .ref a_pad, .int v_padLength, .ref a_sounds, .int u2.2.1, .ref a_proposed, .ref a_given, .int v_proposals, .ref a_readings, .int v_readingMany, .long v_hash])), (a_now, .inl (cI, 150, .inl m_now)), (a_sounds, .inl (cI, 8, .inl u2.2.2))] := hD
              refine lv_aload_n hx hb dX7_proposes_96 rfl (lv_at hl 1 rfl) ?_
              refine lv_iload hx hb dX7_proposes_97 (lv_at hl 5 rfl) ?_
              obtain ⟨u3, hc9, hf⟩ := ob hf
              refine g_ki (wc := [(a_t, .inr (7, [.ref a_now, .ref a_past, .int v_saved, .ref a_errors, .ref a_text, .int v_textLength, .ref a_pad, .int v_padLength, .ref a_sounds, .int u2.2.1, .ref a_proposed, .ref a_given, .int v_proposals, .ref a_readings, .int v_readingMany, .long v_hash])), (a_now, .inl (cI, 150, .inl m_now)), (a_sounds, .inl (cI, 8, .inl u2.2.2))]) (wc' := [(a_t, .inr (7, [.ref a_now, .ref a_past, .int v_saved, .ref a_errors, .ref a_text, .int v_textLength, .ref a_pad, .int v_padLength, .ref a_sounds, .int u3.2.1, .ref a_proposed, .ref a_given, .int v_proposals, .ref a_readings, .int v_readingMany, .long v_hash])), (a_now, .inl (cI, 150, .inl m_now)), (a_sounds, .inl (cI, 8, .inl u3.2.2))]) (wr := [(a_proposed, .inl (cI, 12, .inl m_proposed)), (a_given, .inl (cI, 12, .inl m_given))]) (va_runV (As := [.int y4]) (rest := [.int u2.1]) ⟨hx, hb, hml, hown, hts⟩ (kt_X7_gainOf l D cI cZ cS a_t a_now a_sounds a_past a_errors a_text a_pad a_proposed a_given a_readings v_saved v_textLength v_padLength v_proposals v_readingMany v_hash u2.2.1 m_now u2.2.2 y4 u3 hc9 _) (cwV 1 hts gX7_proposes_X7_gainOf rfl rfl rfl sg_X7_gainOf ⟨(Nat.le_of_ble_eq_true rfl), (Nat.le_of_ble_eq_true rfl)⟩) (g_pv (q := (RX7, TX7, 16)) hK hP hD [2, 3, 4] rfl (by decide) rfl rfl) rfl rfl hl.1 rfl (lv_room (Nat.le_of_ble_eq_true rfl)) dX7_proposes_99 ⟨Nat.zero_le _, Nat.zero_le _⟩) hP hD hS hA [2, 3, 4] [0, 1] rfl rfl (by decide) (by decide) (fun H locs hP hD hS => ?_)
              have hP : va_P D vwCl [(a_proposed, .inl (cI, 12, .inl m_proposed)), (a_given, .inl (cI, 12, .inl m_given)), (a_t, .inr (7, [.ref a_now, .ref a_past, .int v_saved, .ref a_errors, .ref a_text, .int v_textLength, .ref a_pad, .int v_padLength, .ref a_sounds, .int u3.2.1, .ref a_proposed, .ref a_given, .int v_proposals, .ref a_readings, .int v_readingMany, .long v_hash])), (a_now, .inl (cI, 150, .inl m_now)), (a_sounds, .inl (cI, 8, .inl u3.2.2))] H := hP
              have hD : va_D A [(a_proposed, .inl (cI, 12, .inl m_proposed)), (a_given, .inl (cI, 12, .inl m_given)), (a_t, .inr (7, [.ref a_now, .ref a_past, .int v_saved, .ref a_errors, .ref a_text, .int v_textLength, .ref a_pad, .int v_padLength, .ref a_sounds, .int u3.2.1, .ref a_proposed, .ref a_given, .int v_proposals, .ref a_readings, .int v_readingMany, .long v_hash])), (a_now, .inl (cI, 150, .inl m_now)), (a_sounds, .inl (cI, 8, .inl u3.2.2))] := hD
              refine lv_icmp_le (tgt := 110) hx hb dX7_proposes_102 (by decide) (fun hb10 => ?_) (fun hb10 => ?_)
              · replace hf := if_t hb10 hf
                refine lv_iload hx hb dX7_proposes_110 (lv_at hl 5 rfl) ?_
                refine lv_istore (lv' := [(4, .int y4), (6, .int (1 : Int32)), (0, .ref a_t), (1, .int y1), (2, .int y2), (3, .int y3), (5, .int y5)]) hx hb dX7_proposes_112 hl (by decide) rfl (fun ls hl => ?_)
                refine lv_iinc (v := (y5 + 1)) (lv' := [(5, .int (y5 + 1)), (4, .int y4), (6, .int (1 : Int32)), (0, .ref a_t), (1, .int y1), (2, .int y2), (3, .int y3)]) hx hb dX7_proposes_114 hl (k := 6) rfl rfl (by decide) rfl (fun ls hl => ?_)
                refine lv_goto (tgt := 28) hx hb dX7_proposes_117 (by decide) ?_
                have hP : va_P D vwCl [(a_t, .inr (7, [.ref a_now, .ref a_past, .int v_saved, .ref a_errors, .ref a_text, .int v_textLength, .ref a_pad, .int v_padLength, .ref a_sounds, .int u3.2.1, .ref a_proposed, .ref a_given, .int v_proposals, .ref a_readings, .int v_readingMany, .long v_hash])), (a_now, .inl (cI, 150, .inl m_now)), (a_sounds, .inl (cI, 8, .inl u3.2.2)), (a_proposed, .inl (cI, 12, .inl m_proposed)), (a_given, .inl (cI, 12, .inl m_given))] H := hP.sub [2, 3, 4, 0, 1] rfl
                have hD : va_D A [(a_t, .inr (7, [.ref a_now, .ref a_past, .int v_saved, .ref a_errors, .ref a_text, .int v_textLength, .ref a_pad, .int v_padLength, .ref a_sounds, .int u3.2.1, .ref a_proposed, .ref a_given, .int v_proposals, .ref a_readings, .int v_readingMany, .long v_hash])), (a_now, .inl (cI, 150, .inl m_now)), (a_sounds, .inl (cI, 8, .inl u3.2.2)), (a_proposed, .inl (cI, 12, .inl m_proposed)), (a_given, .inl (cI, 12, .inl m_given))] := hD.sub [2, 3, 4, 0, 1] (by decide +kernel) rfl
                exact ih y4 (y5 + 1) u3.2.1 u3.2.2 o _ _ _ hf hP hD hS (lv_sub hl [3, 4, 5, 6, 1, 0] rfl) kk
              · replace hf := if_f hb10 hf
                refine lv_iload hx hb dX7_proposes_105 (lv_at hl 6 rfl) ?_
                refine lv_goto (tgt := 112) hx hb dX7_proposes_107 (by decide) ?_
                refine lv_istore (lv' := [(4, .int y5), (6, .int (1 : Int32)), (0, .ref a_t), (1, .int y1), (2, .int y2), (3, .int y3), (5, .int y5)]) hx hb dX7_proposes_112 hl (by decide) rfl (fun ls hl => ?_)
                refine lv_iinc (v := (y5 + 1)) (lv' := [(5, .int (y5 + 1)), (4, .int y5), (6, .int (1 : Int32)), (0, .ref a_t), (1, .int y1), (2, .int y2), (3, .int y3)]) hx hb dX7_proposes_114 hl (k := 6) rfl rfl (by decide) rfl (fun ls hl => ?_)
                refine lv_goto (tgt := 28) hx hb dX7_proposes_117 (by decide) ?_
                have hP : va_P D vwCl [(a_t, .inr (7, [.ref a_now, .ref a_past, .int v_saved, .ref a_errors, .ref a_text, .int v_textLength, .ref a_pad, .int v_padLength, .ref a_sounds, .int u3.2.1, .ref a_proposed, .ref a_given, .int v_proposals, .ref a_readings, .int v_readingMany, .long v_hash])), (a_now, .inl (cI, 150, .inl m_now)), (a_sounds, .inl (cI, 8, .inl u3.2.2)), (a_proposed, .inl (cI, 12, .inl m_proposed)), (a_given, .inl (cI, 12, .inl m_given))] H := hP.sub [2, 3, 4, 0, 1] rfl
                have hD : va_D A [(a_t, .inr (7, [.ref a_now, .ref a_past, .int v_saved, .ref a_errors, .ref a_text, .int v_textLength, .ref a_pad, .int v_padLength, .ref a_sounds, .int u3.2.1, .ref a_proposed, .ref a_given, .int v_proposals, .ref a_readings, .int v_readingMany, .long v_hash])), (a_now, .inl (cI, 150, .inl m_now)), (a_sounds, .inl (cI, 8, .inl u3.2.2)), (a_proposed, .inl (cI, 12, .inl m_proposed)), (a_given, .inl (cI, 12, .inl m_given))] := hD.sub [2, 3, 4, 0, 1] (by decide +kernel) rfl
                exact ih y5 (y5 + 1) u3.2.1 u3.2.2 o _ _ _ hf hP hD hS (lv_sub hl [3, 4, 5, 6, 1, 0] rfl) kk
set_option maxHeartbeats 4000000 in
set_option maxRecDepth 100000 in
theorem lt_X7_proposes_137 {p : Program} {l : Launch} {e : Env} {s : State} {m : MethodId} {args : Array Value} {below : List Frame} {meth : Method} {c : Code} {D : va_G} {cI cZ cS : ClassId} {A : Nat → Prop} {Q : State → Prop} (Cx : gCx p s m meth c args cX7_proposes 7 none yX7_proposes wsX7_proposes D cI cZ cS A) (a_t : Nat) (a_now : Nat) (a_past : Nat) (v_saved : Int32) (a_errors : Nat) (a_text : Nat) (v_textLength : Int32) (a_pad : Nat) (v_padLength : Int32) (a_sounds : Nat) (a_proposed : Nat) (a_given : Nat) (v_proposals : Int32) (a_readings : Nat) (v_readingMany : Int32) (v_hash : Int64) (m_now : Nat → Int32) (m_proposed : Nat → Int32) (m_given : Nat → Int32) (y1 : Int32) (y2 : Int32) (y3 : Int32) (y4 : Int32) : ∀ (n : Nat) (y5 : Int32) (v_soundMany : Int32) (m_sounds : Nat → Int32) (o : Int32 × Int32 × (Nat → Int32)) (H : Heap) (locs : List Loc) (ls : Array Slot), lp_X7_proposes_137 y2 m_now y4 n y5 v_soundMany m_sounds = some o → va_P D vwCl [(a_t, .inr (7, [.ref a_now, .ref a_past, .int v_saved, .ref a_errors, .ref a_text, .int v_textLength, .ref a_pad, .int v_padLength, .ref a_sounds, .int v_soundMany, .ref a_proposed, .ref a_given, .int v_proposals, .ref a_readings, .int v_readingMany, .long v_hash])), (a_now, .inl (cI, 150, .inl m_now)), (a_sounds, .inl (cI, 8, .inl m_sounds)), (a_proposed, .inl (cI, 12, .inl m_proposed)), (a_given, .inl (cI, 12, .inl m_given))] H → va_D A [(a_t, .inr (7, [.ref a_now, .ref a_past, .int v_saved, .ref a_errors, .ref a_text, .int v_textLength, .ref a_pad, .int v_padLength, .ref a_sounds, .int v_soundMany, .ref a_proposed, .ref a_given, .int v_proposals, .ref a_readings, .int v_readingMany, .long v_hash])), (a_now, .inl (cI, 150, .inl m_now)), (a_sounds, .inl (cI, 8, .inl m_sounds)), (a_proposed, .inl (cI, 12, .inl m_proposed)), (a_given, .inl (cI, 12, .inl m_given))] → va_S A s.heap H locs → lv_has ls 7 [(0, .ref a_t), (1, .int y1), (2, .int y2), (3, .int y3), (4, .int y4), (5, .int y5)] → (∀ (H : Heap) (locs : List Loc) (ls : Array Slot), va_P D vwCl [(a_t, .inr (7, [.ref a_now, .ref a_past, .int v_saved, .ref a_errors, .ref a_text, .int v_textLength, .ref a_pad, .int v_padLength, .ref a_sounds, .int o.2.1, .ref a_proposed, .ref a_given, .int v_proposals, .ref a_readings, .int v_readingMany, .long v_hash])), (a_now, .inl (cI, 150, .inl m_now)), (a_sounds, .inl (cI, 8, .inl o.2.2)), (a_proposed, .inl (cI, 12, .inl m_proposed)), (a_given, .inl (cI, 12, .inl m_given))] H → va_D A [(a_t, .inr (7, [.ref a_now, .ref a_past, .int v_saved, .ref a_errors, .ref a_text, .int v_textLength, .ref a_pad, .int v_padLength, .ref a_sounds, .int o.2.1, .ref a_proposed, .ref a_given, .int v_proposals, .ref a_readings, .int v_readingMany, .long v_hash])), (a_now, .inl (cI, 150, .inl m_now)), (a_sounds, .inl (cI, 8, .inl o.2.2)), (a_proposed, .inl (cI, 12, .inl m_proposed)), (a_given, .inl (cI, 12, .inl m_given))] → va_S A s.heap H locs → lv_has ls 7 [(0, .ref a_t), (1, .int y1), (2, .int y2), (3, .int y3), (4, .int y4), (5, .int o.1)] → W p l e rm_X7_proposes s m args below meth c H locs 0 0 Q (F0 m 171 ls [])) → W p l e rm_X7_proposes s m args below meth c H locs 0 0 Q (F0 m 137 ls []) := by
  obtain ⟨hx, hb, hml, hr, hlk, hown, hin, hts, hK, hA⟩ := id Cx
  have hown : s.vm.findClass RX7 = some m.cls := hown
  intro n
  induction n with
  | zero =>
    intro y5 v_soundMany m_sounds o H locs ls hf
    rw [lp_X7_proposes_137] at hf
    cases hf
  | succ n ih =>
    intro y5 v_soundMany m_sounds o H locs ls hf hP hD hS hl kk
    rw [lp_X7_proposes_137] at hf
    refine lv_iload hx hb dX7_proposes_137 (lv_at hl 5 rfl) ?_
    refine lv_bipush (v := 24) hx hb dX7_proposes_139 (by decide) ?_
    refine lv_icmp_ge (tgt := 171) hx hb dX7_proposes_141 (by decide) (fun hb1 => ?_) (fun hb1 => ?_)
    · replace hf := if_t hb1 hf
      have ho := so hf
      subst ho
      exact kk _ _ _ hP hD hS (lv_sub hl [0, 1, 2, 3, 4, 5] rfl)
    · replace hf := if_f hb1 hf
      refine lv_iload_n hx hb dX7_proposes_144 rfl (lv_at hl 2 rfl) ?_
      refine lv_iload hx hb dX7_proposes_145 (lv_at hl 5 rfl) ?_
      refine lv_ishr hx hb dX7_proposes_147 ?_
      refine lv_iconst (v := 1) hx hb dX7_proposes_148 (by decide) ?_
      refine lv_iand hx hb dX7_proposes_149 ?_
      refine lv_iconst (v := 1) hx hb dX7_proposes_150 (by decide) ?_
      refine lv_icmp_eq (tgt := 165) hx hb dX7_proposes_151 (by decide) (fun hb2 => ?_) (fun hb2 => ?_)
      · replace hf := if_t hb2 hf
        refine lv_iinc (v := (y5 + 1)) (lv' := [(5, .int (y5 + 1)), (0, .ref a_t), (1, .int y1), (2, .int y2), (3, .int y3), (4, .int y4)]) hx hb dX7_proposes_165 hl (k := 5) rfl rfl (by decide) rfl (fun ls hl => ?_)
        refine lv_goto (tgt := 137) hx hb dX7_proposes_168 (by decide) ?_
        exact ih (y5 + 1) v_soundMany m_sounds o _ _ _ hf hP hD hS (lv_sub hl [1, 2, 3, 4, 5, 0] rfl) kk
      · replace hf := if_f hb2 hf
        refine lv_aload_n hx hb dX7_proposes_154 rfl (lv_at hl 0 rfl) ?_
        refine lv_iload hx hb dX7_proposes_155 (lv_at hl 4 rfl) ?_
        refine lv_iload hx hb dX7_proposes_157 (lv_at hl 5 rfl) ?_
        obtain ⟨u1, hc3, hf⟩ := ob hf
        refine g_ki (wc := [(a_t, .inr (7, [.ref a_now, .ref a_past, .int v_saved, .ref a_errors, .ref a_text, .int v_textLength, .ref a_pad, .int v_padLength, .ref a_sounds, .int v_soundMany, .ref a_proposed, .ref a_given, .int v_proposals, .ref a_readings, .int v_readingMany, .long v_hash])), (a_now, .inl (cI, 150, .inl m_now)), (a_sounds, .inl (cI, 8, .inl m_sounds))]) (wc' := [(a_t, .inr (7, [.ref a_now, .ref a_past, .int v_saved, .ref a_errors, .ref a_text, .int v_textLength, .ref a_pad, .int v_padLength, .ref a_sounds, .int u1.2.1, .ref a_proposed, .ref a_given, .int v_proposals, .ref a_readings, .int v_readingMany, .long v_hash])), (a_now, .inl (cI, 150, .inl m_now)), (a_sounds, .inl (cI, 8, .inl u1.2.2))]) (wr := [(a_proposed, .inl (cI, 12, .inl m_proposed)), (a_given, .inl (cI, 12, .inl m_given))]) (va_runV (As := [.int y4, .int y5]) (rest := []) ⟨hx, hb, hml, hown, hts⟩ (kt_X7_isFree l D cI cZ cS a_t a_now a_sounds a_past a_errors a_text a_pad a_proposed a_given a_readings v_saved v_textLength v_padLength v_proposals v_readingMany v_hash v_soundMany m_now m_sounds y4 y5 u1 hc3 _) (cwV 2 hts gX7_proposes_X7_isFree rfl rfl rfl sg_X7_isFree ⟨(Nat.le_of_ble_eq_true rfl), (Nat.le_of_ble_eq_true rfl)⟩) (g_pv (q := (RX7, TX7, 16)) hK hP hD [0, 1, 2] rfl (by decide) rfl rfl) rfl rfl hl.1 rfl (lv_room (Nat.le_of_ble_eq_true rfl)) dX7_proposes_159 ⟨Nat.zero_le _, Nat.zero_le _⟩) hP hD hS hA [0, 1, 2] [3, 4] rfl rfl (by decide) (by decide) (fun H locs hP hD hS => ?_)
        have hP : va_P D vwCl [(a_proposed, .inl (cI, 12, .inl m_proposed)), (a_given, .inl (cI, 12, .inl m_given)), (a_t, .inr (7, [.ref a_now, .ref a_past, .int v_saved, .ref a_errors, .ref a_text, .int v_textLength, .ref a_pad, .int v_padLength, .ref a_sounds, .int u1.2.1, .ref a_proposed, .ref a_given, .int v_proposals, .ref a_readings, .int v_readingMany, .long v_hash])), (a_now, .inl (cI, 150, .inl m_now)), (a_sounds, .inl (cI, 8, .inl u1.2.2))] H := hP
        have hD : va_D A [(a_proposed, .inl (cI, 12, .inl m_proposed)), (a_given, .inl (cI, 12, .inl m_given)), (a_t, .inr (7, [.ref a_now, .ref a_past, .int v_saved, .ref a_errors, .ref a_text, .int v_textLength, .ref a_pad, .int v_padLength, .ref a_sounds, .int u1.2.1, .ref a_proposed, .ref a_given, .int v_proposals, .ref a_readings, .int v_readingMany, .long v_hash])), (a_now, .inl (cI, 150, .inl m_now)), (a_sounds, .inl (cI, 8, .inl u1.2.2))] := hD
        refine lv_if_ne (tgt := 171) hx hb dX7_proposes_162 (by decide) (fun hb4 => ?_) (fun hb4 => ?_)
        · replace hf := if_f hb4 hf
          have hP : va_P D vwCl [(a_t, .inr (7, [.ref a_now, .ref a_past, .int v_saved, .ref a_errors, .ref a_text, .int v_textLength, .ref a_pad, .int v_padLength, .ref a_sounds, .int u1.2.1, .ref a_proposed, .ref a_given, .int v_proposals, .ref a_readings, .int v_readingMany, .long v_hash])), (a_now, .inl (cI, 150, .inl m_now)), (a_sounds, .inl (cI, 8, .inl u1.2.2)), (a_proposed, .inl (cI, 12, .inl m_proposed)), (a_given, .inl (cI, 12, .inl m_given))] H := hP.sub [2, 3, 4, 0, 1] rfl
          have hD : va_D A [(a_t, .inr (7, [.ref a_now, .ref a_past, .int v_saved, .ref a_errors, .ref a_text, .int v_textLength, .ref a_pad, .int v_padLength, .ref a_sounds, .int u1.2.1, .ref a_proposed, .ref a_given, .int v_proposals, .ref a_readings, .int v_readingMany, .long v_hash])), (a_now, .inl (cI, 150, .inl m_now)), (a_sounds, .inl (cI, 8, .inl u1.2.2)), (a_proposed, .inl (cI, 12, .inl m_proposed)), (a_given, .inl (cI, 12, .inl m_given))] := hD.sub [2, 3, 4, 0, 1] (by decide +kernel) rfl
          have ho := so hf
          subst ho
          exact kk _ _ _ hP hD hS (lv_sub hl [0, 1, 2, 3, 4, 5] rfl)
        · replace hf := if_t hb4 hf
          refine lv_iinc (v := (y5 + 1)) (lv' := [(5, .int (y5 + 1)), (0, .ref a_t), (1, .int y1), (2, .int y2), (3, .int y3), (4, .int y4)]) hx hb dX7_proposes_165 hl (k := 5) rfl rfl (by decide) rfl (fun ls hl => ?_)
          refine lv_goto (tgt := 137) hx hb dX7_proposes_168 (by decide) ?_
          have hP : va_P D vwCl [(a_t, .inr (7, [.ref a_now, .ref a_past, .int v_saved, .ref a_errors, .ref a_text, .int v_textLength, .ref a_pad, .int v_padLength, .ref a_sounds, .int u1.2.1, .ref a_proposed, .ref a_given, .int v_proposals, .ref a_readings, .int v_readingMany, .long v_hash])), (a_now, .inl (cI, 150, .inl m_now)), (a_sounds, .inl (cI, 8, .inl u1.2.2)), (a_proposed, .inl (cI, 12, .inl m_proposed)), (a_given, .inl (cI, 12, .inl m_given))] H := hP.sub [2, 3, 4, 0, 1] rfl
          have hD : va_D A [(a_t, .inr (7, [.ref a_now, .ref a_past, .int v_saved, .ref a_errors, .ref a_text, .int v_textLength, .ref a_pad, .int v_padLength, .ref a_sounds, .int u1.2.1, .ref a_proposed, .ref a_given, .int v_proposals, .ref a_readings, .int v_readingMany, .long v_hash])), (a_now, .inl (cI, 150, .inl m_now)), (a_sounds, .inl (cI, 8, .inl u1.2.2)), (a_proposed, .inl (cI, 12, .inl m_proposed)), (a_given, .inl (cI, 12, .inl m_given))] := hD.sub [2, 3, 4, 0, 1] (by decide +kernel) rfl
          exact ih (y5 + 1) u1.2.1 u1.2.2 o _ _ _ hf hP hD hS (lv_sub hl [1, 2, 3, 4, 5, 0] rfl) kk
set_option maxHeartbeats 4000000 in
set_option maxRecDepth 100000 in
theorem lt_X7_proposes_11 {p : Program} {l : Launch} {e : Env} {s : State} {m : MethodId} {args : Array Value} {below : List Frame} {meth : Method} {c : Code} {D : va_G} {cI cZ cS : ClassId} {A : Nat → Prop}  (Cx : gCx p s m meth c args cX7_proposes 7 none yX7_proposes wsX7_proposes D cI cZ cS A) (a_t : Nat) (a_now : Nat) (a_past : Nat) (v_saved : Int32) (a_errors : Nat) (a_text : Nat) (v_textLength : Int32) (a_pad : Nat) (v_padLength : Int32) (a_sounds : Nat) (a_proposed : Nat) (a_given : Nat) (a_readings : Nat) (v_readingMany : Int32) (v_hash : Int64) (m_now : Nat → Int32) : ∀ (n : Nat) (y1 : Int32) (y2 : Int32) (y3 : Int32) (v_soundMany : Int32) (v_proposals : Int32) (m_sounds : Nat → Int32) (m_proposed : Nat → Int32) (m_given : Nat → Int32) (o : Int32 × Int32 × (Nat → Int32) × (Nat → Int32) × (Nat → Int32)) (H : Heap) (locs : List Loc) (ls : Array Slot), lp_X7_proposes_11 m_now n y1 y2 y3 v_soundMany v_proposals m_sounds m_proposed m_given = some o → va_P D vwCl [(a_t, .inr (7, [.ref a_now, .ref a_past, .int v_saved, .ref a_errors, .ref a_text, .int v_textLength, .ref a_pad, .int v_padLength, .ref a_sounds, .int v_soundMany, .ref a_proposed, .ref a_given, .int v_proposals, .ref a_readings, .int v_readingMany, .long v_hash])), (a_now, .inl (cI, 150, .inl m_now)), (a_sounds, .inl (cI, 8, .inl m_sounds)), (a_proposed, .inl (cI, 12, .inl m_proposed)), (a_given, .inl (cI, 12, .inl m_given))] H → va_D A [(a_t, .inr (7, [.ref a_now, .ref a_past, .int v_saved, .ref a_errors, .ref a_text, .int v_textLength, .ref a_pad, .int v_padLength, .ref a_sounds, .int v_soundMany, .ref a_proposed, .ref a_given, .int v_proposals, .ref a_readings, .int v_readingMany, .long v_hash])), (a_now, .inl (cI, 150, .inl m_now)), (a_sounds, .inl (cI, 8, .inl m_sounds)), (a_proposed, .inl (cI, 12, .inl m_proposed)), (a_given, .inl (cI, 12, .inl m_given))] → va_S A s.heap H locs → lv_has ls 7 [(0, .ref a_t), (1, .int y1), (2, .int y2), (3, .int y3)] → W p l e rm_X7_proposes s m args below meth c H locs 0 0 (MQ below (va_Qv (fun (_ : Unit) => True) (fun _ => gB D [(a_t, .inr (7, [.ref a_now, .ref a_past, .int v_saved, .ref a_errors, .ref a_text, .int v_textLength, .ref a_pad, .int v_padLength, .ref a_sounds, .int o.1, .ref a_proposed, .ref a_given, .int o.2.1, .ref a_readings, .int v_readingMany, .long v_hash])), (a_now, .inl (cI, 150, .inl m_now)), (a_sounds, .inl (cI, 8, .inl o.2.2.1)), (a_proposed, .inl (cI, 12, .inl o.2.2.2.1)), (a_given, .inl (cI, 12, .inl o.2.2.2.2))] A) A) args s 0 0 A) (F0 m 11 ls []) := by
  obtain ⟨hx, hb, hml, hr, hlk, hown, hin, hts, hK, hA⟩ := id Cx
  have hown : s.vm.findClass RX7 = some m.cls := hown
  intro n
  induction n with
  | zero =>
    intro y1 y2 y3 v_soundMany v_proposals m_sounds m_proposed m_given o H locs ls hf
    rw [lp_X7_proposes_11] at hf
    cases hf
  | succ n ih =>
    intro y1 y2 y3 v_soundMany v_proposals m_sounds m_proposed m_given o H locs ls hf hP hD hS hl
    rw [lp_X7_proposes_11] at hf
    refine lv_iload_n hx hb dX7_proposes_11 rfl (lv_at hl 3 rfl) ?_
    refine lv_aload_n hx hb dX7_proposes_12 rfl (lv_at hl 0 rfl) ?_
    refine va_get (D := D) (ci := 7) (v := .ref a_now) (C := RX7) (T := TX7) (N := 16) hx hb hts ly_X7_proposes_X7 hown hK.1 hP 0 rfl rfl 0 (by decide) (hts (.fieldLink RX7 7 "ShorthandOutlinesModel" "now" "[I") wd_X7_proposes_1) (fun _ h9 => h9) rfl dX7_proposes_13 ?_
    refine lv_bipush (v := 17) hx hb dX7_proposes_16 (by decide) ?_
    refine va_iald hx hb hK.1 hP 1 0 rfl rfl (by unfold vp_in; decide) dX7_proposes_18 ?_
    refine lv_icmp_ge (tgt := 223) hx hb dX7_proposes_19 (by decide) (fun hb1 => ?_) (fun hb1 => ?_)
    · replace hf := if_t hb1 hf
      have ho := so hf
      subst ho
      exact g_vret hx hb hr hlk hP hD hS dX7_proposes_223
    · replace hf := if_f hb1 hf
      refine lv_iconst (v := -1) hx hb dX7_proposes_22 (by decide) ?_
      refine lv_istore (lv' := [(4, .int (-1 : Int32)), (0, .ref a_t), (1, .int y1), (2, .int y2), (3, .int y3)]) hx hb dX7_proposes_23 hl (by decide) rfl (fun ls hl => ?_)
      refine lv_iconst (v := 0) hx hb dX7_proposes_25 (by decide) ?_
      refine lv_istore (lv' := [(5, .int (0 : Int32)), (4, .int (-1 : Int32)), (0, .ref a_t), (1, .int y1), (2, .int y2), (3, .int y3)]) hx hb dX7_proposes_26 hl (by decide) rfl (fun ls hl => ?_)
      obtain ⟨u1, hc2, hf⟩ := ob hf
      refine lt_X7_proposes_28 Cx a_t a_now a_past v_saved a_errors a_text v_textLength a_pad v_padLength a_sounds a_proposed a_given v_proposals a_readings v_readingMany v_hash m_now m_proposed m_given y1 y2 y3 1024 (-1 : Int32) (0 : Int32) v_soundMany m_sounds u1 _ _ _ hc2 hP hD hS (lv_sub hl [2, 3, 4, 5, 1, 0] rfl) (fun H locs ls hP hD hS hl => ?_)
      have hP : va_P D vwCl [(a_t, .inr (7, [.ref a_now, .ref a_past, .int v_saved, .ref a_errors, .ref a_text, .int v_textLength, .ref a_pad, .int v_padLength, .ref a_sounds, .int u1.2.1, .ref a_proposed, .ref a_given, .int v_proposals, .ref a_readings, .int v_readingMany, .long v_hash])), (a_now, .inl (cI, 150, .inl m_now)), (a_sounds, .inl (cI, 8, .inl u1.2.2)), (a_proposed, .inl (cI, 12, .inl m_proposed)), (a_given, .inl (cI, 12, .inl m_given))] H := hP
      have hD : va_D A [(a_t, .inr (7, [.ref a_now, .ref a_past, .int v_saved, .ref a_errors, .ref a_text, .int v_textLength, .ref a_pad, .int v_padLength, .ref a_sounds, .int u1.2.1, .ref a_proposed, .ref a_given, .int v_proposals, .ref a_readings, .int v_readingMany, .long v_hash])), (a_now, .inl (cI, 150, .inl m_now)), (a_sounds, .inl (cI, 8, .inl u1.2.2)), (a_proposed, .inl (cI, 12, .inl m_proposed)), (a_given, .inl (cI, 12, .inl m_given))] := hD
      have hl : lv_has ls 7 [(0, .ref a_t), (1, .int y1), (2, .int y2), (3, .int y3), (4, .int u1.1)] := hl
      refine lv_iload hx hb dX7_proposes_120 (lv_at hl 4 rfl) ?_
      refine lv_iconst (v := -1) hx hb dX7_proposes_122 (by decide) ?_
      refine lv_icmp_ne (tgt := 127) hx hb dX7_proposes_123 (by decide) (fun hb3 => ?_) (fun hb3 => ?_)
      · replace hf := if_f hb3 hf
        refine lv_iload_n hx hb dX7_proposes_127 rfl (lv_at hl 1 rfl) ?_
        refine lv_iconst (v := 1) hx hb dX7_proposes_128 (by decide) ?_
        refine lv_iload hx hb dX7_proposes_129 (lv_at hl 4 rfl) ?_
        refine lv_ishl hx hb dX7_proposes_131 ?_
        refine lv_ior hx hb dX7_proposes_132 ?_
        refine lv_istore_n (lv' := [(1, .int (y1 ||| ((1 : Int32) <<< (u1.1 &&& 31)))), (0, .ref a_t), (2, .int y2), (3, .int y3), (4, .int u1.1)]) hx hb dX7_proposes_133 rfl hl (by decide) rfl (fun ls hl => ?_)
        refine lv_iconst (v := 0) hx hb dX7_proposes_134 (by decide) ?_
        refine lv_istore (lv' := [(5, .int (0 : Int32)), (1, .int (y1 ||| ((1 : Int32) <<< (u1.1 &&& 31)))), (0, .ref a_t), (2, .int y2), (3, .int y3), (4, .int u1.1)]) hx hb dX7_proposes_135 hl (by decide) rfl (fun ls hl => ?_)
        obtain ⟨u2, hc4, hf⟩ := ob hf
        refine lt_X7_proposes_137 Cx a_t a_now a_past v_saved a_errors a_text v_textLength a_pad v_padLength a_sounds a_proposed a_given v_proposals a_readings v_readingMany v_hash m_now m_proposed m_given (y1 ||| ((1 : Int32) <<< (u1.1 &&& 31))) y2 y3 u1.1 1024 (0 : Int32) u1.2.1 u1.2.2 u2 _ _ _ hc4 hP hD hS (lv_sub hl [2, 1, 3, 4, 5, 0] rfl) (fun H locs ls hP hD hS hl => ?_)
        have hP : va_P D vwCl [(a_t, .inr (7, [.ref a_now, .ref a_past, .int v_saved, .ref a_errors, .ref a_text, .int v_textLength, .ref a_pad, .int v_padLength, .ref a_sounds, .int u2.2.1, .ref a_proposed, .ref a_given, .int v_proposals, .ref a_readings, .int v_readingMany, .long v_hash])), (a_now, .inl (cI, 150, .inl m_now)), (a_sounds, .inl (cI, 8, .inl u2.2.2)), (a_proposed, .inl (cI, 12, .inl m_proposed)), (a_given, .inl (cI, 12, .inl m_given))] H := hP
        have hD : va_D A [(a_t, .inr (7, [.ref a_now, .ref a_past, .int v_saved, .ref a_errors, .ref a_text, .int v_textLength, .ref a_pad, .int v_padLength, .ref a_sounds, .int u2.2.1, .ref a_proposed, .ref a_given, .int v_proposals, .ref a_readings, .int v_readingMany, .long v_hash])), (a_now, .inl (cI, 150, .inl m_now)), (a_sounds, .inl (cI, 8, .inl u2.2.2)), (a_proposed, .inl (cI, 12, .inl m_proposed)), (a_given, .inl (cI, 12, .inl m_given))] := hD
        have hl : lv_has ls 7 [(0, .ref a_t), (1, .int (y1 ||| ((1 : Int32) <<< (u1.1 &&& 31)))), (2, .int y2), (3, .int y3), (4, .int u1.1), (5, .int u2.1)] := hl
        refine lv_iload hx hb dX7_proposes_171 (lv_at hl 5 rfl) ?_
        refine lv_bipush (v := 24) hx hb dX7_proposes_173 (by decide) ?_
        refine lv_icmp_ge (tgt := 217) hx hb dX7_proposes_175 (by decide) (fun hb5 => ?_) (fun hb5 => ?_)
        · replace hf := if_t hb5 hf
          refine lv_iinc (v := (y3 + 1)) (lv' := [(3, .int (y3 + 1)), (0, .ref a_t), (1, .int (y1 ||| ((1 : Int32) <<< (u1.1 &&& 31)))), (2, .int y2), (4, .int u1.1), (5, .int u2.1)]) hx hb dX7_proposes_217 hl (k := 3) rfl rfl (by decide) rfl (fun ls hl => ?_)
          refine lv_goto (tgt := 11) hx hb dX7_proposes_220 (by decide) ?_
          exact ih (y1 ||| ((1 : Int32) <<< (u1.1 &&& 31))) y2 (y3 + 1) u2.2.1 v_proposals u2.2.2 m_proposed m_given o _ _ _ hf hP hD hS (lv_sub hl [1, 2, 3, 0] rfl)
        · replace hf := if_f hb5 hf
          refine lv_iload_n hx hb dX7_proposes_178 rfl (lv_at hl 2 rfl) ?_
          refine lv_iconst (v := 1) hx hb dX7_proposes_179 (by decide) ?_
          refine lv_iload hx hb dX7_proposes_180 (lv_at hl 5 rfl) ?_
          refine lv_ishl hx hb dX7_proposes_182 ?_
          refine lv_ior hx hb dX7_proposes_183 ?_
          refine lv_istore_n (lv' := [(2, .int (y2 ||| ((1 : Int32) <<< (u2.1 &&& 31)))), (0, .ref a_t), (1, .int (y1 ||| ((1 : Int32) <<< (u1.1 &&& 31)))), (3, .int y3), (4, .int u1.1), (5, .int u2.1)]) hx hb dX7_proposes_184 rfl hl (by decide) rfl (fun ls hl => ?_)
          refine lv_aload_n hx hb dX7_proposes_185 rfl (lv_at hl 1 rfl) ?_
          refine va_get (D := D) (ci := 7) (v := .ref a_proposed) (C := RX7) (T := TX7) (N := 16) hx hb hts ly_X7_proposes_X7 hown hK.1 hP 0 rfl rfl 10 (by decide) (hts (.fieldLink RX7 28 "ShorthandOutlinesModel" "proposed" "[I") wd_X7_proposes_2) (fun _ h9 => h9) rfl dX7_proposes_186 ?_
          refine lv_aload_n hx hb dX7_proposes_189 rfl (lv_at hl 1 rfl) ?_
          refine va_get (D := D) (ci := 7) (v := .int v_proposals) (C := RX7) (T := TX7) (N := 16) hx hb hts ly_X7_proposes_X7 hown hK.1 hP 0 rfl rfl 12 (by decide) (hts (.fieldLink RX7 99 "ShorthandOutlinesModel" "proposals" "I") wd_X7_proposes_0) (fun _ h9 => h9) rfl dX7_proposes_190 ?_
          refine lv_iload hx hb dX7_proposes_193 (lv_at hl 4 rfl) ?_
          have hi6 := gd_1 hf
          replace hf := gd_2 hf
          refine va_iast hx hb hK.1 hP hD hS 3 0 rfl rfl (inb_in hi6) dX7_proposes_195 (fun H locs hP hD hS => ?_)
          have hP : va_P D vwCl [(a_t, .inr (7, [.ref a_now, .ref a_past, .int v_saved, .ref a_errors, .ref a_text, .int v_textLength, .ref a_pad, .int v_padLength, .ref a_sounds, .int u2.2.1, .ref a_proposed, .ref a_given, .int v_proposals, .ref a_readings, .int v_readingMany, .long v_hash])), (a_now, .inl (cI, 150, .inl m_now)), (a_sounds, .inl (cI, 8, .inl u2.2.2)), (a_proposed, .inl (cI, 12, .inl (upd m_proposed v_proposals.toNatClampNeg u1.1))), (a_given, .inl (cI, 12, .inl m_given))] H := hP
          have hD : va_D A [(a_t, .inr (7, [.ref a_now, .ref a_past, .int v_saved, .ref a_errors, .ref a_text, .int v_textLength, .ref a_pad, .int v_padLength, .ref a_sounds, .int u2.2.1, .ref a_proposed, .ref a_given, .int v_proposals, .ref a_readings, .int v_readingMany, .long v_hash])), (a_now, .inl (cI, 150, .inl m_now)), (a_sounds, .inl (cI, 8, .inl u2.2.2)), (a_proposed, .inl (cI, 12, .inl (upd m_proposed v_proposals.toNatClampNeg u1.1))), (a_given, .inl (cI, 12, .inl m_given))] := hD
          refine lv_aload_n hx hb dX7_proposes_196 rfl (lv_at hl 1 rfl) ?_
          refine va_get (D := D) (ci := 7) (v := .ref a_given) (C := RX7) (T := TX7) (N := 16) hx hb hts ly_X7_proposes_X7 hown hK.1 hP 0 rfl rfl 11 (by decide) (hts (.fieldLink RX7 31 "ShorthandOutlinesModel" "given" "[I") wd_X7_proposes_3) (fun _ h9 => h9) rfl dX7_proposes_197 ?_
          refine lv_aload_n hx hb dX7_proposes_200 rfl (lv_at hl 1 rfl) ?_
          refine va_get (D := D) (ci := 7) (v := .int v_proposals) (C := RX7) (T := TX7) (N := 16) hx hb hts ly_X7_proposes_X7 hown hK.1 hP 0 rfl rfl 12 (by decide) (hts (.fieldLink RX7 99 "ShorthandOutlinesModel" "proposals" "I") wd_X7_proposes_0) (fun _ h9 => h9) rfl dX7_proposes_201 ?_
          refine lv_iload hx hb dX7_proposes_204 (lv_at hl 5 rfl) ?_
          have hi7 := gd_1 hf
          replace hf := gd_2 hf
          refine va_iast hx hb hK.1 hP hD hS 4 0 rfl rfl (inb_in hi7) dX7_proposes_206 (fun H locs hP hD hS => ?_)
          have hP : va_P D vwCl [(a_t, .inr (7, [.ref a_now, .ref a_past, .int v_saved, .ref a_errors, .ref a_text, .int v_textLength, .ref a_pad, .int v_padLength, .ref a_sounds, .int u2.2.1, .ref a_proposed, .ref a_given, .int v_proposals, .ref a_readings, .int v_readingMany, .long v_hash])), (a_now, .inl (cI, 150, .inl m_now)), (a_sounds, .inl (cI, 8, .inl u2.2.2)), (a_proposed, .inl (cI, 12, .inl (upd m_proposed v_proposals.toNatClampNeg u1.1))), (a_given, .inl (cI, 12, .inl (upd m_given v_proposals.toNatClampNeg u2.1)))] H := hP
          have hD : va_D A [(a_t, .inr (7, [.ref a_now, .ref a_past, .int v_saved, .ref a_errors, .ref a_text, .int v_textLength, .ref a_pad, .int v_padLength, .ref a_sounds, .int u2.2.1, .ref a_proposed, .ref a_given, .int v_proposals, .ref a_readings, .int v_readingMany, .long v_hash])), (a_now, .inl (cI, 150, .inl m_now)), (a_sounds, .inl (cI, 8, .inl u2.2.2)), (a_proposed, .inl (cI, 12, .inl (upd m_proposed v_proposals.toNatClampNeg u1.1))), (a_given, .inl (cI, 12, .inl (upd m_given v_proposals.toNatClampNeg u2.1)))] := hD
          refine lv_aload_n hx hb dX7_proposes_207 rfl (lv_at hl 1 rfl) ?_
          refine lv_dup hx hb dX7_proposes_208 rfl ?_
          refine va_get (D := D) (ci := 7) (v := .int v_proposals) (C := RX7) (T := TX7) (N := 16) hx hb hts ly_X7_proposes_X7 hown hK.1 hP 0 rfl rfl 12 (by decide) (hts (.fieldLink RX7 99 "ShorthandOutlinesModel" "proposals" "I") wd_X7_proposes_0) (fun _ h9 => h9) rfl dX7_proposes_209 ?_
          refine lv_iconst (v := 1) hx hb dX7_proposes_212 (by decide) ?_
          refine lv_iadd hx hb dX7_proposes_213 ?_
          refine va_put (D := D) (ci := 7) (v := .int (v_proposals + (1 : Int32))) (ty := .int) (C := RX7) (T := TX7) (N := 16) hx hb hts ly_X7_proposes_X7 tyX7 tyX7_ok nmX7 hown hK.1 hP hD hS 0 rfl rfl 12 (by decide) (hts (.fieldLink RX7 99 "ShorthandOutlinesModel" "proposals" "I") wd_X7_proposes_0) (fun _ h9 => h9) rfl (by decide +kernel) rfl rfl (Nat.le_of_ble_eq_true rfl) dX7_proposes_214 (fun H locs hP hD hS => ?_)
          have hP : va_P D vwCl [(a_t, .inr (7, [.ref a_now, .ref a_past, .int v_saved, .ref a_errors, .ref a_text, .int v_textLength, .ref a_pad, .int v_padLength, .ref a_sounds, .int u2.2.1, .ref a_proposed, .ref a_given, .int (v_proposals + (1 : Int32)), .ref a_readings, .int v_readingMany, .long v_hash])), (a_now, .inl (cI, 150, .inl m_now)), (a_sounds, .inl (cI, 8, .inl u2.2.2)), (a_proposed, .inl (cI, 12, .inl (upd m_proposed v_proposals.toNatClampNeg u1.1))), (a_given, .inl (cI, 12, .inl (upd m_given v_proposals.toNatClampNeg u2.1)))] H := hP
          have hD : va_D A [(a_t, .inr (7, [.ref a_now, .ref a_past, .int v_saved, .ref a_errors, .ref a_text, .int v_textLength, .ref a_pad, .int v_padLength, .ref a_sounds, .int u2.2.1, .ref a_proposed, .ref a_given, .int (v_proposals + (1 : Int32)), .ref a_readings, .int v_readingMany, .long v_hash])), (a_now, .inl (cI, 150, .inl m_now)), (a_sounds, .inl (cI, 8, .inl u2.2.2)), (a_proposed, .inl (cI, 12, .inl (upd m_proposed v_proposals.toNatClampNeg u1.1))), (a_given, .inl (cI, 12, .inl (upd m_given v_proposals.toNatClampNeg u2.1)))] := hD
          refine lv_iinc (v := (y3 + 1)) (lv' := [(3, .int (y3 + 1)), (2, .int (y2 ||| ((1 : Int32) <<< (u2.1 &&& 31)))), (0, .ref a_t), (1, .int (y1 ||| ((1 : Int32) <<< (u1.1 &&& 31)))), (4, .int u1.1), (5, .int u2.1)]) hx hb dX7_proposes_217 hl (k := 3) rfl rfl (by decide) rfl (fun ls hl => ?_)
          refine lv_goto (tgt := 11) hx hb dX7_proposes_220 (by decide) ?_
          exact ih (y1 ||| ((1 : Int32) <<< (u1.1 &&& 31))) (y2 ||| ((1 : Int32) <<< (u2.1 &&& 31))) (y3 + 1) u2.2.1 (v_proposals + (1 : Int32)) u2.2.2 (upd m_proposed v_proposals.toNatClampNeg u1.1) (upd m_given v_proposals.toNatClampNeg u2.1) o _ _ _ hf hP hD hS (lv_sub hl [2, 3, 1, 0] rfl)
      · replace hf := if_t hb3 hf
        have ho := so hf
        subst ho
        exact g_vret hx hb hr hlk hP hD hS dX7_proposes_126
set_option maxHeartbeats 4000000 in
set_option maxRecDepth 100000 in
theorem kt_X7_proposes (l : Launch) (D : va_G) (cI cZ cS : ClassId) (a_t : Nat) (a_now : Nat) (a_sounds : Nat) (a_proposed : Nat) (a_given : Nat) (a_past : Nat) (a_errors : Nat) (a_text : Nat) (a_pad : Nat) (a_readings : Nat) (v_saved : Int32) (v_textLength : Int32) (v_padLength : Int32) (v_readingMany : Int32) (v_hash : Int64) (v_soundMany : Int32) (v_proposals : Int32) (m_now : Nat → Int32) (m_sounds : Nat → Int32) (m_proposed : Nat → Int32) (m_given : Nat → Int32) (o : Int32 × Int32 × (Nat → Int32) × (Nat → Int32) × (Nat → Int32)) (hf : fn_X7_proposes v_soundMany v_proposals m_now m_sounds m_proposed m_given = some o) (sz : Nat) : Met l yX7_proposes wsX7_proposes rm_X7_proposes (va_Pc [.ref a_t] (gPre D cI cZ cS [(a_t, .inr (7, [.ref a_now, .ref a_past, .int v_saved, .ref a_errors, .ref a_text, .int v_textLength, .ref a_pad, .int v_padLength, .ref a_sounds, .int v_soundMany, .ref a_proposed, .ref a_given, .int v_proposals, .ref a_readings, .int v_readingMany, .long v_hash])), (a_now, .inl (cI, 150, .inl m_now)), (a_sounds, .inl (cI, 8, .inl m_sounds)), (a_proposed, .inl (cI, 12, .inl m_proposed)), (a_given, .inl (cI, 12, .inl m_given))] sz)) (va_Qv (fun (_ : Unit) => True) (fun _ => gB D [(a_t, .inr (7, [.ref a_now, .ref a_past, .int v_saved, .ref a_errors, .ref a_text, .int v_textLength, .ref a_pad, .int v_padLength, .ref a_sounds, .int o.1, .ref a_proposed, .ref a_given, .int o.2.1, .ref a_readings, .int v_readingMany, .long v_hash])), (a_now, .inl (cI, 150, .inl m_now)), (a_sounds, .inl (cI, 8, .inl o.2.2.1)), (a_proposed, .inl (cI, 12, .inl o.2.2.2.1)), (a_given, .inl (cI, 12, .inl o.2.2.2.2))] (va_A [(a_t, .inr (7, [.ref a_now, .ref a_past, .int v_saved, .ref a_errors, .ref a_text, .int v_textLength, .ref a_pad, .int v_padLength, .ref a_sounds, .int v_soundMany, .ref a_proposed, .ref a_given, .int v_proposals, .ref a_readings, .int v_readingMany, .long v_hash])), (a_now, .inl (cI, 150, .inl m_now)), (a_sounds, .inl (cI, 8, .inl m_sounds)), (a_proposed, .inl (cI, 12, .inl m_proposed)), (a_given, .inl (cI, 12, .inl m_given))] sz)) (va_A [(a_t, .inr (7, [.ref a_now, .ref a_past, .int v_saved, .ref a_errors, .ref a_text, .int v_textLength, .ref a_pad, .int v_padLength, .ref a_sounds, .int v_soundMany, .ref a_proposed, .ref a_given, .int v_proposals, .ref a_readings, .int v_readingMany, .long v_hash])), (a_now, .inl (cI, 150, .inl m_now)), (a_sounds, .inl (cI, 8, .inl m_sounds)), (a_proposed, .inl (cI, 12, .inl m_proposed)), (a_given, .inl (cI, 12, .inl m_given))] sz)) 0 0 (va_A [(a_t, .inr (7, [.ref a_now, .ref a_past, .int v_saved, .ref a_errors, .ref a_text, .int v_textLength, .ref a_pad, .int v_padLength, .ref a_sounds, .int v_soundMany, .ref a_proposed, .ref a_given, .int v_proposals, .ref a_readings, .int v_readingMany, .long v_hash])), (a_now, .inl (cI, 150, .inl m_now)), (a_sounds, .inl (cI, 8, .inl m_sounds)), (a_proposed, .inl (cI, 12, .inl m_proposed)), (a_given, .inl (cI, 12, .inl m_given))] sz) := by
  refine g_entry (Qc := fun A => va_Qv (fun (_ : Unit) => True) (fun _ => gB D [(a_t, .inr (7, [.ref a_now, .ref a_past, .int v_saved, .ref a_errors, .ref a_text, .int v_textLength, .ref a_pad, .int v_padLength, .ref a_sounds, .int o.1, .ref a_proposed, .ref a_given, .int o.2.1, .ref a_readings, .int v_readingMany, .long v_hash])), (a_now, .inl (cI, 150, .inl m_now)), (a_sounds, .inl (cI, 8, .inl o.2.2.1)), (a_proposed, .inl (cI, 12, .inl o.2.2.2.1)), (a_given, .inl (cI, 12, .inl o.2.2.2.2))] A) A) (cc := cX7_proposes) (maxL := 7) (ret := none) (by decide) rfl (Nat.le_of_ble_eq_true rfl) ?_ sz
  intro p e s m below meth c A ls Cx hP hD hS hl
  obtain ⟨hx, hb, hml, hr, hlk, hown, hin, hts, hK, hA⟩ := id Cx
  have hown : s.vm.findClass RX7 = some m.cls := hown
  have hl : lv_has ls 7 [(0, .ref a_t)] := hl
  unfold fn_X7_proposes at hf
  refine lv_aload_n hx hb dX7_proposes_0 rfl (lv_at hl 0 rfl) ?_
  refine lv_iconst (v := 0) hx hb dX7_proposes_1 (by decide) ?_
  refine va_put (D := D) (ci := 7) (v := .int (0 : Int32)) (ty := .int) (C := RX7) (T := TX7) (N := 16) hx hb hts ly_X7_proposes_X7 tyX7 tyX7_ok nmX7 hown hK.1 hP hD hS 0 rfl rfl 12 (by decide) (hts (.fieldLink RX7 99 "ShorthandOutlinesModel" "proposals" "I") wd_X7_proposes_0) (fun _ h9 => h9) rfl (by decide +kernel) rfl rfl (Nat.le_of_ble_eq_true rfl) dX7_proposes_2 (fun H locs hP hD hS => ?_)
  have hP : va_P D vwCl [(a_t, .inr (7, [.ref a_now, .ref a_past, .int v_saved, .ref a_errors, .ref a_text, .int v_textLength, .ref a_pad, .int v_padLength, .ref a_sounds, .int v_soundMany, .ref a_proposed, .ref a_given, .int (0 : Int32), .ref a_readings, .int v_readingMany, .long v_hash])), (a_now, .inl (cI, 150, .inl m_now)), (a_sounds, .inl (cI, 8, .inl m_sounds)), (a_proposed, .inl (cI, 12, .inl m_proposed)), (a_given, .inl (cI, 12, .inl m_given))] H := hP
  have hD : va_D A [(a_t, .inr (7, [.ref a_now, .ref a_past, .int v_saved, .ref a_errors, .ref a_text, .int v_textLength, .ref a_pad, .int v_padLength, .ref a_sounds, .int v_soundMany, .ref a_proposed, .ref a_given, .int (0 : Int32), .ref a_readings, .int v_readingMany, .long v_hash])), (a_now, .inl (cI, 150, .inl m_now)), (a_sounds, .inl (cI, 8, .inl m_sounds)), (a_proposed, .inl (cI, 12, .inl m_proposed)), (a_given, .inl (cI, 12, .inl m_given))] := hD
  refine lv_iconst (v := 0) hx hb dX7_proposes_5 (by decide) ?_
  refine lv_istore_n (lv' := [(1, .int (0 : Int32)), (0, .ref a_t)]) hx hb dX7_proposes_6 rfl hl (by decide) rfl (fun ls hl => ?_)
  refine lv_iconst (v := 0) hx hb dX7_proposes_7 (by decide) ?_
  refine lv_istore_n (lv' := [(2, .int (0 : Int32)), (1, .int (0 : Int32)), (0, .ref a_t)]) hx hb dX7_proposes_8 rfl hl (by decide) rfl (fun ls hl => ?_)
  refine lv_iconst (v := 0) hx hb dX7_proposes_9 (by decide) ?_
  refine lv_istore_n (lv' := [(3, .int (0 : Int32)), (2, .int (0 : Int32)), (1, .int (0 : Int32)), (0, .ref a_t)]) hx hb dX7_proposes_10 rfl hl (by decide) rfl (fun ls hl => ?_)
  exact lt_X7_proposes_11 Cx a_t a_now a_past v_saved a_errors a_text v_textLength a_pad v_padLength a_sounds a_proposed a_given a_readings v_readingMany v_hash m_now 1024 (0 : Int32) (0 : Int32) (0 : Int32) v_soundMany (0 : Int32) m_sounds m_proposed m_given o _ _ _ hf hP hD hS (lv_sub hl [3, 2, 1, 0] rfl)

theorem sg_X7_proposedWord : yX7_proposedWord.cls = RX7 ∧ yX7_proposedWord.cls ≠ "java/lang/invoke/MethodHandle" ∧ yX7_proposedWord.cls ≠ "java/lang/invoke/VarHandle" ∧ (parseMethodDescriptor yX7_proposedWord.desc).map (fun d => d.parameters.length) = some 1 := by decide +kernel
abbrev rm_X7_proposedWord : Room := { frames := 6, cells := 0, slots := 0, locals := 140 }
theorem wd_X7_proposedWord_0 : (.fieldLink RX7 99 "ShorthandOutlinesModel" "proposals" "I" : Cond) ∈ wsX7_proposedWord := by decide +kernel
theorem wd_X7_proposedWord_1 : (.fieldLink RX7 28 "ShorthandOutlinesModel" "proposed" "[I" : Cond) ∈ wsX7_proposedWord := by decide +kernel
theorem ly_X7_proposedWord_X7 : ∀ w ∈ u_ws RX7 TX7 16, w ∈ wsX7_proposedWord := by decide +kernel
set_option maxHeartbeats 4000000 in
set_option maxRecDepth 100000 in
theorem kt_X7_proposedWord (l : Launch) (D : va_G) (cI cZ cS : ClassId) (a_t : Nat) (a_now : Nat) (a_errors : Nat) (a_sounds : Nat) (a_proposed : Nat) (a_given : Nat) (a_past : Nat) (a_text : Nat) (a_pad : Nat) (a_readings : Nat) (v_saved : Int32) (v_textLength : Int32) (v_padLength : Int32) (v_readingMany : Int32) (v_hash : Int64) (v_soundMany : Int32) (v_proposals : Int32) (m_now : Nat → Int32) (m_errors : Nat → Int32) (m_sounds : Nat → Int32) (m_proposed : Nat → Int32) (m_given : Nat → Int32) (x1 : Int32) (o : Int32 × Int32 × Int32 × (Nat → Int32) × (Nat → Int32) × (Nat → Int32) × (Nat → Int32)) (hf : fn_X7_proposedWord v_soundMany v_proposals m_now m_errors m_sounds m_proposed m_given x1 = some o) (sz : Nat) : Met l yX7_proposedWord wsX7_proposedWord rm_X7_proposedWord (va_Pc [.ref a_t, .int x1] (gPre D cI cZ cS [(a_t, .inr (7, [.ref a_now, .ref a_past, .int v_saved, .ref a_errors, .ref a_text, .int v_textLength, .ref a_pad, .int v_padLength, .ref a_sounds, .int v_soundMany, .ref a_proposed, .ref a_given, .int v_proposals, .ref a_readings, .int v_readingMany, .long v_hash])), (a_now, .inl (cI, 150, .inl m_now)), (a_errors, .inl (cI, 4, .inl m_errors)), (a_sounds, .inl (cI, 8, .inl m_sounds)), (a_proposed, .inl (cI, 12, .inl m_proposed)), (a_given, .inl (cI, 12, .inl m_given))] sz)) (va_Qi (fun r (_ : Unit) => r = o.1) (fun _ => gB D [(a_t, .inr (7, [.ref a_now, .ref a_past, .int v_saved, .ref a_errors, .ref a_text, .int v_textLength, .ref a_pad, .int v_padLength, .ref a_sounds, .int o.2.1, .ref a_proposed, .ref a_given, .int o.2.2.1, .ref a_readings, .int v_readingMany, .long v_hash])), (a_now, .inl (cI, 150, .inl m_now)), (a_errors, .inl (cI, 4, .inl o.2.2.2.1)), (a_sounds, .inl (cI, 8, .inl o.2.2.2.2.1)), (a_proposed, .inl (cI, 12, .inl o.2.2.2.2.2.1)), (a_given, .inl (cI, 12, .inl o.2.2.2.2.2.2))] (va_A [(a_t, .inr (7, [.ref a_now, .ref a_past, .int v_saved, .ref a_errors, .ref a_text, .int v_textLength, .ref a_pad, .int v_padLength, .ref a_sounds, .int v_soundMany, .ref a_proposed, .ref a_given, .int v_proposals, .ref a_readings, .int v_readingMany, .long v_hash])), (a_now, .inl (cI, 150, .inl m_now)), (a_errors, .inl (cI, 4, .inl m_errors)), (a_sounds, .inl (cI, 8, .inl m_sounds)), (a_proposed, .inl (cI, 12, .inl m_proposed)), (a_given, .inl (cI, 12, .inl m_given))] sz)) (va_A [(a_t, .inr (7, [.ref a_now, .ref a_past, .int v_saved, .ref a_errors, .ref a_text, .int v_textLength, .ref a_pad, .int v_padLength, .ref a_sounds, .int v_soundMany, .ref a_proposed, .ref a_given, .int v_proposals, .ref a_readings, .int v_readingMany, .long v_hash])), (a_now, .inl (cI, 150, .inl m_now)), (a_errors, .inl (cI, 4, .inl m_errors)), (a_sounds, .inl (cI, 8, .inl m_sounds)), (a_proposed, .inl (cI, 12, .inl m_proposed)), (a_given, .inl (cI, 12, .inl m_given))] sz)) 0 0 (va_A [(a_t, .inr (7, [.ref a_now, .ref a_past, .int v_saved, .ref a_errors, .ref a_text, .int v_textLength, .ref a_pad, .int v_padLength, .ref a_sounds, .int v_soundMany, .ref a_proposed, .ref a_given, .int v_proposals, .ref a_readings, .int v_readingMany, .long v_hash])), (a_now, .inl (cI, 150, .inl m_now)), (a_errors, .inl (cI, 4, .inl m_errors)), (a_sounds, .inl (cI, 8, .inl m_sounds)), (a_proposed, .inl (cI, 12, .inl m_proposed)), (a_given, .inl (cI, 12, .inl m_given))] sz) := by
  refine g_entry (Qc := fun A => va_Qi (fun r (_ : Unit) => r = o.1) (fun _ => gB D [(a_t, .inr (7, [.ref a_now, .ref a_past, .int v_saved, .ref a_errors, .ref a_text, .int v_textLength, .ref a_pad, .int v_padLength, .ref a_sounds, .int o.2.1, .ref a_proposed, .ref a_given, .int o.2.2.1, .ref a_readings, .int v_readingMany, .long v_hash])), (a_now, .inl (cI, 150, .inl m_now)), (a_errors, .inl (cI, 4, .inl o.2.2.2.1)), (a_sounds, .inl (cI, 8, .inl o.2.2.2.2.1)), (a_proposed, .inl (cI, 12, .inl o.2.2.2.2.2.1)), (a_given, .inl (cI, 12, .inl o.2.2.2.2.2.2))] A) A) (cc := cX7_proposedWord) (maxL := 2) (ret := (some .int)) (by decide) rfl (Nat.le_of_ble_eq_true rfl) ?_ sz
  intro p e s m below meth c A ls Cx hP hD hS hl
  obtain ⟨hx, hb, hml, hr, hlk, hown, hin, hts, hK, hA⟩ := id Cx
  have hown : s.vm.findClass RX7 = some m.cls := hown
  have hl : lv_has ls 2 [(0, .ref a_t), (1, .int x1)] := hl
  unfold fn_X7_proposedWord at hf
  refine lv_iload_n hx hb dX7_proposedWord_0 rfl (lv_at hl 1 rfl) ?_
  refine lv_iconst (v := -1) hx hb dX7_proposedWord_1 (by decide) ?_
  refine lv_icmp_ge (tgt := 12) hx hb dX7_proposedWord_2 (by decide) (fun hb1 => ?_) (fun hb1 => ?_)
  · replace hf := if_t hb1 hf
    refine lv_aload_n hx hb dX7_proposedWord_12 rfl (lv_at hl 0 rfl) ?_
    obtain ⟨u1, hc2, hf⟩ := ob hf
    refine g_kv (wc := [(a_t, .inr (7, [.ref a_now, .ref a_past, .int v_saved, .ref a_errors, .ref a_text, .int v_textLength, .ref a_pad, .int v_padLength, .ref a_sounds, .int v_soundMany, .ref a_proposed, .ref a_given, .int v_proposals, .ref a_readings, .int v_readingMany, .long v_hash])), (a_now, .inl (cI, 150, .inl m_now)), (a_sounds, .inl (cI, 8, .inl m_sounds)), (a_proposed, .inl (cI, 12, .inl m_proposed)), (a_given, .inl (cI, 12, .inl m_given))]) (wc' := [(a_t, .inr (7, [.ref a_now, .ref a_past, .int v_saved, .ref a_errors, .ref a_text, .int v_textLength, .ref a_pad, .int v_padLength, .ref a_sounds, .int u1.1, .ref a_proposed, .ref a_given, .int u1.2.1, .ref a_readings, .int v_readingMany, .long v_hash])), (a_now, .inl (cI, 150, .inl m_now)), (a_sounds, .inl (cI, 8, .inl u1.2.2.1)), (a_proposed, .inl (cI, 12, .inl u1.2.2.2.1)), (a_given, .inl (cI, 12, .inl u1.2.2.2.2))]) (wr := [(a_errors, .inl (cI, 4, .inl m_errors))]) (va_runV (As := []) (rest := []) ⟨hx, hb, hml, hown, hts⟩ (kt_X7_proposes l D cI cZ cS a_t a_now a_sounds a_proposed a_given a_past a_errors a_text a_pad a_readings v_saved v_textLength v_padLength v_readingMany v_hash v_soundMany v_proposals m_now m_sounds m_proposed m_given u1 hc2 _) (cwV 0 hts gX7_proposedWord_X7_proposes rfl rfl rfl sg_X7_proposes ⟨(Nat.le_of_ble_eq_true rfl), (Nat.le_of_ble_eq_true rfl)⟩) (g_pv (q := (RX7, TX7, 16)) hK hP hD [0, 1, 3, 4, 5] rfl (by decide) rfl rfl) rfl rfl hl.1 rfl (lv_room (Nat.le_of_ble_eq_true rfl)) dX7_proposedWord_13 ⟨Nat.zero_le _, Nat.zero_le _⟩) hP hD hS hA [0, 1, 3, 4, 5] [2] rfl rfl (by decide) (by decide) (fun H locs hP hD hS => ?_)
    have hP : va_P D vwCl [(a_errors, .inl (cI, 4, .inl m_errors)), (a_t, .inr (7, [.ref a_now, .ref a_past, .int v_saved, .ref a_errors, .ref a_text, .int v_textLength, .ref a_pad, .int v_padLength, .ref a_sounds, .int u1.1, .ref a_proposed, .ref a_given, .int u1.2.1, .ref a_readings, .int v_readingMany, .long v_hash])), (a_now, .inl (cI, 150, .inl m_now)), (a_sounds, .inl (cI, 8, .inl u1.2.2.1)), (a_proposed, .inl (cI, 12, .inl u1.2.2.2.1)), (a_given, .inl (cI, 12, .inl u1.2.2.2.2))] H := hP
    have hD : va_D A [(a_errors, .inl (cI, 4, .inl m_errors)), (a_t, .inr (7, [.ref a_now, .ref a_past, .int v_saved, .ref a_errors, .ref a_text, .int v_textLength, .ref a_pad, .int v_padLength, .ref a_sounds, .int u1.1, .ref a_proposed, .ref a_given, .int u1.2.1, .ref a_readings, .int v_readingMany, .long v_hash])), (a_now, .inl (cI, 150, .inl m_now)), (a_sounds, .inl (cI, 8, .inl u1.2.2.1)), (a_proposed, .inl (cI, 12, .inl u1.2.2.2.1)), (a_given, .inl (cI, 12, .inl u1.2.2.2.2))] := hD
    refine lv_iload_n hx hb dX7_proposedWord_16 rfl (lv_at hl 1 rfl) ?_
    refine lv_iconst (v := -1) hx hb dX7_proposedWord_17 (by decide) ?_
    refine lv_icmp_ne (tgt := 28) hx hb dX7_proposedWord_18 (by decide) (fun hb3 => ?_) (fun hb3 => ?_)
    · replace hf := if_f hb3 hf
      refine lv_iload_n hx hb dX7_proposedWord_28 rfl (lv_at hl 1 rfl) ?_
      refine lv_aload_n hx hb dX7_proposedWord_29 rfl (lv_at hl 0 rfl) ?_
      refine va_get (D := D) (ci := 7) (v := .int u1.2.1) (C := RX7) (T := TX7) (N := 16) hx hb hts ly_X7_proposedWord_X7 hown hK.1 hP 1 rfl rfl 12 (by decide) (hts (.fieldLink RX7 99 "ShorthandOutlinesModel" "proposals" "I") wd_X7_proposedWord_0) (fun _ h9 => h9) rfl dX7_proposedWord_30 ?_
      refine lv_icmp_ge (tgt := 45) hx hb dX7_proposedWord_33 (by decide) (fun hb4 => ?_) (fun hb4 => ?_)
      · replace hf := if_t hb4 hf
        refine lv_iconst (v := -1) hx hb dX7_proposedWord_45 (by decide) ?_
        have hP : va_P D vwCl [(a_t, .inr (7, [.ref a_now, .ref a_past, .int v_saved, .ref a_errors, .ref a_text, .int v_textLength, .ref a_pad, .int v_padLength, .ref a_sounds, .int u1.1, .ref a_proposed, .ref a_given, .int u1.2.1, .ref a_readings, .int v_readingMany, .long v_hash])), (a_now, .inl (cI, 150, .inl m_now)), (a_errors, .inl (cI, 4, .inl m_errors)), (a_sounds, .inl (cI, 8, .inl u1.2.2.1)), (a_proposed, .inl (cI, 12, .inl u1.2.2.2.1)), (a_given, .inl (cI, 12, .inl u1.2.2.2.2))] H := hP.sub [1, 2, 0, 3, 4, 5] rfl
        have hD : va_D A [(a_t, .inr (7, [.ref a_now, .ref a_past, .int v_saved, .ref a_errors, .ref a_text, .int v_textLength, .ref a_pad, .int v_padLength, .ref a_sounds, .int u1.1, .ref a_proposed, .ref a_given, .int u1.2.1, .ref a_readings, .int v_readingMany, .long v_hash])), (a_now, .inl (cI, 150, .inl m_now)), (a_errors, .inl (cI, 4, .inl m_errors)), (a_sounds, .inl (cI, 8, .inl u1.2.2.1)), (a_proposed, .inl (cI, 12, .inl u1.2.2.2.1)), (a_given, .inl (cI, 12, .inl u1.2.2.2.2))] := hD.sub [1, 2, 0, 3, 4, 5] (by decide +kernel) rfl
        have ho := so hf
        subst ho
        exact g_iret hx hb hr hlk hP hD hS dX7_proposedWord_46
      · replace hf := if_f hb4 hf
        refine lv_aload_n hx hb dX7_proposedWord_36 rfl (lv_at hl 0 rfl) ?_
        refine va_get (D := D) (ci := 7) (v := .ref a_proposed) (C := RX7) (T := TX7) (N := 16) hx hb hts ly_X7_proposedWord_X7 hown hK.1 hP 1 rfl rfl 10 (by decide) (hts (.fieldLink RX7 28 "ShorthandOutlinesModel" "proposed" "[I") wd_X7_proposedWord_1) (fun _ h9 => h9) rfl dX7_proposedWord_37 ?_
        refine lv_iload_n hx hb dX7_proposedWord_40 rfl (lv_at hl 1 rfl) ?_
        have hi5 := gd_1 hf
        replace hf := gd_2 hf
        refine va_iald hx hb hK.1 hP 4 0 rfl rfl (inb_in hi5) dX7_proposedWord_41 ?_
        refine lv_goto (tgt := 46) hx hb dX7_proposedWord_42 (by decide) ?_
        have hP : va_P D vwCl [(a_t, .inr (7, [.ref a_now, .ref a_past, .int v_saved, .ref a_errors, .ref a_text, .int v_textLength, .ref a_pad, .int v_padLength, .ref a_sounds, .int u1.1, .ref a_proposed, .ref a_given, .int u1.2.1, .ref a_readings, .int v_readingMany, .long v_hash])), (a_now, .inl (cI, 150, .inl m_now)), (a_errors, .inl (cI, 4, .inl m_errors)), (a_sounds, .inl (cI, 8, .inl u1.2.2.1)), (a_proposed, .inl (cI, 12, .inl u1.2.2.2.1)), (a_given, .inl (cI, 12, .inl u1.2.2.2.2))] H := hP.sub [1, 2, 0, 3, 4, 5] rfl
        have hD : va_D A [(a_t, .inr (7, [.ref a_now, .ref a_past, .int v_saved, .ref a_errors, .ref a_text, .int v_textLength, .ref a_pad, .int v_padLength, .ref a_sounds, .int u1.1, .ref a_proposed, .ref a_given, .int u1.2.1, .ref a_readings, .int v_readingMany, .long v_hash])), (a_now, .inl (cI, 150, .inl m_now)), (a_errors, .inl (cI, 4, .inl m_errors)), (a_sounds, .inl (cI, 8, .inl u1.2.2.1)), (a_proposed, .inl (cI, 12, .inl u1.2.2.2.1)), (a_given, .inl (cI, 12, .inl u1.2.2.2.2))] := hD.sub [1, 2, 0, 3, 4, 5] (by decide +kernel) rfl
        have ho := so hf
        subst ho
        exact g_iret hx hb hr hlk hP hD hS dX7_proposedWord_46
    · replace hf := if_t hb3 hf
      refine lv_aload_n hx hb dX7_proposedWord_21 rfl (lv_at hl 0 rfl) ?_
      refine va_get (D := D) (ci := 7) (v := .int u1.2.1) (C := RX7) (T := TX7) (N := 16) hx hb hts ly_X7_proposedWord_X7 hown hK.1 hP 1 rfl rfl 12 (by decide) (hts (.fieldLink RX7 99 "ShorthandOutlinesModel" "proposals" "I") wd_X7_proposedWord_0) (fun _ h9 => h9) rfl dX7_proposedWord_22 ?_
      refine lv_goto (tgt := 46) hx hb dX7_proposedWord_25 (by decide) ?_
      have hP : va_P D vwCl [(a_t, .inr (7, [.ref a_now, .ref a_past, .int v_saved, .ref a_errors, .ref a_text, .int v_textLength, .ref a_pad, .int v_padLength, .ref a_sounds, .int u1.1, .ref a_proposed, .ref a_given, .int u1.2.1, .ref a_readings, .int v_readingMany, .long v_hash])), (a_now, .inl (cI, 150, .inl m_now)), (a_errors, .inl (cI, 4, .inl m_errors)), (a_sounds, .inl (cI, 8, .inl u1.2.2.1)), (a_proposed, .inl (cI, 12, .inl u1.2.2.2.1)), (a_given, .inl (cI, 12, .inl u1.2.2.2.2))] H := hP.sub [1, 2, 0, 3, 4, 5] rfl
      have hD : va_D A [(a_t, .inr (7, [.ref a_now, .ref a_past, .int v_saved, .ref a_errors, .ref a_text, .int v_textLength, .ref a_pad, .int v_padLength, .ref a_sounds, .int u1.1, .ref a_proposed, .ref a_given, .int u1.2.1, .ref a_readings, .int v_readingMany, .long v_hash])), (a_now, .inl (cI, 150, .inl m_now)), (a_errors, .inl (cI, 4, .inl m_errors)), (a_sounds, .inl (cI, 8, .inl u1.2.2.1)), (a_proposed, .inl (cI, 12, .inl u1.2.2.2.1)), (a_given, .inl (cI, 12, .inl u1.2.2.2.2))] := hD.sub [1, 2, 0, 3, 4, 5] (by decide +kernel) rfl
      have ho := so hf
      subst ho
      exact g_iret hx hb hr hlk hP hD hS dX7_proposedWord_46
  · replace hf := if_f hb1 hf
    refine lv_aload_n hx hb dX7_proposedWord_5 rfl (lv_at hl 0 rfl) ?_
    refine lv_bipush (v := -2) hx hb dX7_proposedWord_6 (by decide) ?_
    obtain ⟨u2, hc6, hf⟩ := ob hf
    refine g_ki (wc := [(a_t, .inr (7, [.ref a_now, .ref a_past, .int v_saved, .ref a_errors, .ref a_text, .int v_textLength, .ref a_pad, .int v_padLength, .ref a_sounds, .int v_soundMany, .ref a_proposed, .ref a_given, .int v_proposals, .ref a_readings, .int v_readingMany, .long v_hash])), (a_errors, .inl (cI, 4, .inl m_errors))]) (wc' := [(a_t, .inr (7, [.ref a_now, .ref a_past, .int v_saved, .ref a_errors, .ref a_text, .int v_textLength, .ref a_pad, .int v_padLength, .ref a_sounds, .int v_soundMany, .ref a_proposed, .ref a_given, .int v_proposals, .ref a_readings, .int v_readingMany, .long v_hash])), (a_errors, .inl (cI, 4, .inl u2.2))]) (wr := [(a_now, .inl (cI, 150, .inl m_now)), (a_sounds, .inl (cI, 8, .inl m_sounds)), (a_proposed, .inl (cI, 12, .inl m_proposed)), (a_given, .inl (cI, 12, .inl m_given))]) (va_runV (As := [.int (-2 : Int32)]) (rest := []) ⟨hx, hb, hml, hown, hts⟩ (kt_X7_fails l D cI cZ cS a_t a_errors a_now a_past a_text a_pad a_sounds a_proposed a_given a_readings v_saved v_textLength v_padLength v_soundMany v_proposals v_readingMany v_hash m_errors (-2 : Int32) u2 hc6 _) (cwV 1 hts gX7_proposedWord_X7_fails rfl rfl rfl sg_X7_fails ⟨(Nat.le_of_ble_eq_true rfl), (Nat.le_of_ble_eq_true rfl)⟩) (g_pv (q := (RX7, TX7, 16)) hK hP hD [0, 2] rfl (by decide) rfl rfl) rfl rfl hl.1 rfl (lv_room (Nat.le_of_ble_eq_true rfl)) dX7_proposedWord_8 ⟨Nat.zero_le _, Nat.zero_le _⟩) hP hD hS hA [0, 2] [1, 3, 4, 5] rfl rfl (by decide) (by decide) (fun H locs hP hD hS => ?_)
    have hP : va_P D vwCl [(a_now, .inl (cI, 150, .inl m_now)), (a_sounds, .inl (cI, 8, .inl m_sounds)), (a_proposed, .inl (cI, 12, .inl m_proposed)), (a_given, .inl (cI, 12, .inl m_given)), (a_t, .inr (7, [.ref a_now, .ref a_past, .int v_saved, .ref a_errors, .ref a_text, .int v_textLength, .ref a_pad, .int v_padLength, .ref a_sounds, .int v_soundMany, .ref a_proposed, .ref a_given, .int v_proposals, .ref a_readings, .int v_readingMany, .long v_hash])), (a_errors, .inl (cI, 4, .inl u2.2))] H := hP
    have hD : va_D A [(a_now, .inl (cI, 150, .inl m_now)), (a_sounds, .inl (cI, 8, .inl m_sounds)), (a_proposed, .inl (cI, 12, .inl m_proposed)), (a_given, .inl (cI, 12, .inl m_given)), (a_t, .inr (7, [.ref a_now, .ref a_past, .int v_saved, .ref a_errors, .ref a_text, .int v_textLength, .ref a_pad, .int v_padLength, .ref a_sounds, .int v_soundMany, .ref a_proposed, .ref a_given, .int v_proposals, .ref a_readings, .int v_readingMany, .long v_hash])), (a_errors, .inl (cI, 4, .inl u2.2))] := hD
    have hP : va_P D vwCl [(a_t, .inr (7, [.ref a_now, .ref a_past, .int v_saved, .ref a_errors, .ref a_text, .int v_textLength, .ref a_pad, .int v_padLength, .ref a_sounds, .int v_soundMany, .ref a_proposed, .ref a_given, .int v_proposals, .ref a_readings, .int v_readingMany, .long v_hash])), (a_now, .inl (cI, 150, .inl m_now)), (a_errors, .inl (cI, 4, .inl u2.2)), (a_sounds, .inl (cI, 8, .inl m_sounds)), (a_proposed, .inl (cI, 12, .inl m_proposed)), (a_given, .inl (cI, 12, .inl m_given))] H := hP.sub [4, 0, 5, 1, 2, 3] rfl
    have hD : va_D A [(a_t, .inr (7, [.ref a_now, .ref a_past, .int v_saved, .ref a_errors, .ref a_text, .int v_textLength, .ref a_pad, .int v_padLength, .ref a_sounds, .int v_soundMany, .ref a_proposed, .ref a_given, .int v_proposals, .ref a_readings, .int v_readingMany, .long v_hash])), (a_now, .inl (cI, 150, .inl m_now)), (a_errors, .inl (cI, 4, .inl u2.2)), (a_sounds, .inl (cI, 8, .inl m_sounds)), (a_proposed, .inl (cI, 12, .inl m_proposed)), (a_given, .inl (cI, 12, .inl m_given))] := hD.sub [4, 0, 5, 1, 2, 3] (by decide +kernel) rfl
    have ho := so hf
    subst ho
    exact g_iret hx hb hr hlk hP hD hS dX7_proposedWord_11

theorem sg_X7_proposedStroke : yX7_proposedStroke.cls = RX7 ∧ yX7_proposedStroke.cls ≠ "java/lang/invoke/MethodHandle" ∧ yX7_proposedStroke.cls ≠ "java/lang/invoke/VarHandle" ∧ (parseMethodDescriptor yX7_proposedStroke.desc).map (fun d => d.parameters.length) = some 1 := by decide +kernel
abbrev rm_X7_proposedStroke : Room := { frames := 6, cells := 0, slots := 0, locals := 140 }
theorem wd_X7_proposedStroke_0 : (.fieldLink RX7 99 "ShorthandOutlinesModel" "proposals" "I" : Cond) ∈ wsX7_proposedStroke := by decide +kernel
theorem wd_X7_proposedStroke_1 : (.fieldLink RX7 31 "ShorthandOutlinesModel" "given" "[I" : Cond) ∈ wsX7_proposedStroke := by decide +kernel
theorem ly_X7_proposedStroke_X7 : ∀ w ∈ u_ws RX7 TX7 16, w ∈ wsX7_proposedStroke := by decide +kernel
set_option maxHeartbeats 4000000 in
set_option maxRecDepth 100000 in
theorem kt_X7_proposedStroke (l : Launch) (D : va_G) (cI cZ cS : ClassId) (a_t : Nat) (a_now : Nat) (a_errors : Nat) (a_sounds : Nat) (a_proposed : Nat) (a_given : Nat) (a_past : Nat) (a_text : Nat) (a_pad : Nat) (a_readings : Nat) (v_saved : Int32) (v_textLength : Int32) (v_padLength : Int32) (v_readingMany : Int32) (v_hash : Int64) (v_soundMany : Int32) (v_proposals : Int32) (m_now : Nat → Int32) (m_errors : Nat → Int32) (m_sounds : Nat → Int32) (m_proposed : Nat → Int32) (m_given : Nat → Int32) (x1 : Int32) (o : Int32 × Int32 × Int32 × (Nat → Int32) × (Nat → Int32) × (Nat → Int32) × (Nat → Int32)) (hf : fn_X7_proposedStroke v_soundMany v_proposals m_now m_errors m_sounds m_proposed m_given x1 = some o) (sz : Nat) : Met l yX7_proposedStroke wsX7_proposedStroke rm_X7_proposedStroke (va_Pc [.ref a_t, .int x1] (gPre D cI cZ cS [(a_t, .inr (7, [.ref a_now, .ref a_past, .int v_saved, .ref a_errors, .ref a_text, .int v_textLength, .ref a_pad, .int v_padLength, .ref a_sounds, .int v_soundMany, .ref a_proposed, .ref a_given, .int v_proposals, .ref a_readings, .int v_readingMany, .long v_hash])), (a_now, .inl (cI, 150, .inl m_now)), (a_errors, .inl (cI, 4, .inl m_errors)), (a_sounds, .inl (cI, 8, .inl m_sounds)), (a_proposed, .inl (cI, 12, .inl m_proposed)), (a_given, .inl (cI, 12, .inl m_given))] sz)) (va_Qi (fun r (_ : Unit) => r = o.1) (fun _ => gB D [(a_t, .inr (7, [.ref a_now, .ref a_past, .int v_saved, .ref a_errors, .ref a_text, .int v_textLength, .ref a_pad, .int v_padLength, .ref a_sounds, .int o.2.1, .ref a_proposed, .ref a_given, .int o.2.2.1, .ref a_readings, .int v_readingMany, .long v_hash])), (a_now, .inl (cI, 150, .inl m_now)), (a_errors, .inl (cI, 4, .inl o.2.2.2.1)), (a_sounds, .inl (cI, 8, .inl o.2.2.2.2.1)), (a_proposed, .inl (cI, 12, .inl o.2.2.2.2.2.1)), (a_given, .inl (cI, 12, .inl o.2.2.2.2.2.2))] (va_A [(a_t, .inr (7, [.ref a_now, .ref a_past, .int v_saved, .ref a_errors, .ref a_text, .int v_textLength, .ref a_pad, .int v_padLength, .ref a_sounds, .int v_soundMany, .ref a_proposed, .ref a_given, .int v_proposals, .ref a_readings, .int v_readingMany, .long v_hash])), (a_now, .inl (cI, 150, .inl m_now)), (a_errors, .inl (cI, 4, .inl m_errors)), (a_sounds, .inl (cI, 8, .inl m_sounds)), (a_proposed, .inl (cI, 12, .inl m_proposed)), (a_given, .inl (cI, 12, .inl m_given))] sz)) (va_A [(a_t, .inr (7, [.ref a_now, .ref a_past, .int v_saved, .ref a_errors, .ref a_text, .int v_textLength, .ref a_pad, .int v_padLength, .ref a_sounds, .int v_soundMany, .ref a_proposed, .ref a_given, .int v_proposals, .ref a_readings, .int v_readingMany, .long v_hash])), (a_now, .inl (cI, 150, .inl m_now)), (a_errors, .inl (cI, 4, .inl m_errors)), (a_sounds, .inl (cI, 8, .inl m_sounds)), (a_proposed, .inl (cI, 12, .inl m_proposed)), (a_given, .inl (cI, 12, .inl m_given))] sz)) 0 0 (va_A [(a_t, .inr (7, [.ref a_now, .ref a_past, .int v_saved, .ref a_errors, .ref a_text, .int v_textLength, .ref a_pad, .int v_padLength, .ref a_sounds, .int v_soundMany, .ref a_proposed, .ref a_given, .int v_proposals, .ref a_readings, .int v_readingMany, .long v_hash])), (a_now, .inl (cI, 150, .inl m_now)), (a_errors, .inl (cI, 4, .inl m_errors)), (a_sounds, .inl (cI, 8, .inl m_sounds)), (a_proposed, .inl (cI, 12, .inl m_proposed)), (a_given, .inl (cI, 12, .inl m_given))] sz) := by
  refine g_entry (Qc := fun A => va_Qi (fun r (_ : Unit) => r = o.1) (fun _ => gB D [(a_t, .inr (7, [.ref a_now, .ref a_past, .int v_saved, .ref a_errors, .ref a_text, .int v_textLength, .ref a_pad, .int v_padLength, .ref a_sounds, .int o.2.1, .ref a_proposed, .ref a_given, .int o.2.2.1, .ref a_readings, .int v_readingMany, .long v_hash])), (a_now, .inl (cI, 150, .inl m_now)), (a_errors, .inl (cI, 4, .inl o.2.2.2.1)), (a_sounds, .inl (cI, 8, .inl o.2.2.2.2.1)), (a_proposed, .inl (cI, 12, .inl o.2.2.2.2.2.1)), (a_given, .inl (cI, 12, .inl o.2.2.2.2.2.2))] A) A) (cc := cX7_proposedStroke) (maxL := 2) (ret := (some .int)) (by decide) rfl (Nat.le_of_ble_eq_true rfl) ?_ sz
  intro p e s m below meth c A ls Cx hP hD hS hl
  obtain ⟨hx, hb, hml, hr, hlk, hown, hin, hts, hK, hA⟩ := id Cx
  have hown : s.vm.findClass RX7 = some m.cls := hown
  have hl : lv_has ls 2 [(0, .ref a_t), (1, .int x1)] := hl
  unfold fn_X7_proposedStroke at hf
  refine lv_iload_n hx hb dX7_proposedStroke_0 rfl (lv_at hl 1 rfl) ?_
  refine lv_if_ge (tgt := 11) hx hb dX7_proposedStroke_1 (by decide) (fun hb1 => ?_) (fun hb1 => ?_)
  · replace hf := if_t hb1 hf
    refine lv_aload_n hx hb dX7_proposedStroke_11 rfl (lv_at hl 0 rfl) ?_
    obtain ⟨u1, hc2, hf⟩ := ob hf
    refine g_kv (wc := [(a_t, .inr (7, [.ref a_now, .ref a_past, .int v_saved, .ref a_errors, .ref a_text, .int v_textLength, .ref a_pad, .int v_padLength, .ref a_sounds, .int v_soundMany, .ref a_proposed, .ref a_given, .int v_proposals, .ref a_readings, .int v_readingMany, .long v_hash])), (a_now, .inl (cI, 150, .inl m_now)), (a_sounds, .inl (cI, 8, .inl m_sounds)), (a_proposed, .inl (cI, 12, .inl m_proposed)), (a_given, .inl (cI, 12, .inl m_given))]) (wc' := [(a_t, .inr (7, [.ref a_now, .ref a_past, .int v_saved, .ref a_errors, .ref a_text, .int v_textLength, .ref a_pad, .int v_padLength, .ref a_sounds, .int u1.1, .ref a_proposed, .ref a_given, .int u1.2.1, .ref a_readings, .int v_readingMany, .long v_hash])), (a_now, .inl (cI, 150, .inl m_now)), (a_sounds, .inl (cI, 8, .inl u1.2.2.1)), (a_proposed, .inl (cI, 12, .inl u1.2.2.2.1)), (a_given, .inl (cI, 12, .inl u1.2.2.2.2))]) (wr := [(a_errors, .inl (cI, 4, .inl m_errors))]) (va_runV (As := []) (rest := []) ⟨hx, hb, hml, hown, hts⟩ (kt_X7_proposes l D cI cZ cS a_t a_now a_sounds a_proposed a_given a_past a_errors a_text a_pad a_readings v_saved v_textLength v_padLength v_readingMany v_hash v_soundMany v_proposals m_now m_sounds m_proposed m_given u1 hc2 _) (cwV 0 hts gX7_proposedStroke_X7_proposes rfl rfl rfl sg_X7_proposes ⟨(Nat.le_of_ble_eq_true rfl), (Nat.le_of_ble_eq_true rfl)⟩) (g_pv (q := (RX7, TX7, 16)) hK hP hD [0, 1, 3, 4, 5] rfl (by decide) rfl rfl) rfl rfl hl.1 rfl (lv_room (Nat.le_of_ble_eq_true rfl)) dX7_proposedStroke_12 ⟨Nat.zero_le _, Nat.zero_le _⟩) hP hD hS hA [0, 1, 3, 4, 5] [2] rfl rfl (by decide) (by decide) (fun H locs hP hD hS => ?_)
    have hP : va_P D vwCl [(a_errors, .inl (cI, 4, .inl m_errors)), (a_t, .inr (7, [.ref a_now, .ref a_past, .int v_saved, .ref a_errors, .ref a_text, .int v_textLength, .ref a_pad, .int v_padLength, .ref a_sounds, .int u1.1, .ref a_proposed, .ref a_given, .int u1.2.1, .ref a_readings, .int v_readingMany, .long v_hash])), (a_now, .inl (cI, 150, .inl m_now)), (a_sounds, .inl (cI, 8, .inl u1.2.2.1)), (a_proposed, .inl (cI, 12, .inl u1.2.2.2.1)), (a_given, .inl (cI, 12, .inl u1.2.2.2.2))] H := hP
    have hD : va_D A [(a_errors, .inl (cI, 4, .inl m_errors)), (a_t, .inr (7, [.ref a_now, .ref a_past, .int v_saved, .ref a_errors, .ref a_text, .int v_textLength, .ref a_pad, .int v_padLength, .ref a_sounds, .int u1.1, .ref a_proposed, .ref a_given, .int u1.2.1, .ref a_readings, .int v_readingMany, .long v_hash])), (a_now, .inl (cI, 150, .inl m_now)), (a_sounds, .inl (cI, 8, .inl u1.2.2.1)), (a_proposed, .inl (cI, 12, .inl u1.2.2.2.1)), (a_given, .inl (cI, 12, .inl u1.2.2.2.2))] := hD
    refine lv_iload_n hx hb dX7_proposedStroke_15 rfl (lv_at hl 1 rfl) ?_
    refine lv_aload_n hx hb dX7_proposedStroke_16 rfl (lv_at hl 0 rfl) ?_
    refine va_get (D := D) (ci := 7) (v := .int u1.2.1) (C := RX7) (T := TX7) (N := 16) hx hb hts ly_X7_proposedStroke_X7 hown hK.1 hP 1 rfl rfl 12 (by decide) (hts (.fieldLink RX7 99 "ShorthandOutlinesModel" "proposals" "I") wd_X7_proposedStroke_0) (fun _ h9 => h9) rfl dX7_proposedStroke_17 ?_
    refine lv_icmp_ge (tgt := 32) hx hb dX7_proposedStroke_20 (by decide) (fun hb3 => ?_) (fun hb3 => ?_)
    · replace hf := if_t hb3 hf
      refine lv_iconst (v := -1) hx hb dX7_proposedStroke_32 (by decide) ?_
      have hP : va_P D vwCl [(a_t, .inr (7, [.ref a_now, .ref a_past, .int v_saved, .ref a_errors, .ref a_text, .int v_textLength, .ref a_pad, .int v_padLength, .ref a_sounds, .int u1.1, .ref a_proposed, .ref a_given, .int u1.2.1, .ref a_readings, .int v_readingMany, .long v_hash])), (a_now, .inl (cI, 150, .inl m_now)), (a_errors, .inl (cI, 4, .inl m_errors)), (a_sounds, .inl (cI, 8, .inl u1.2.2.1)), (a_proposed, .inl (cI, 12, .inl u1.2.2.2.1)), (a_given, .inl (cI, 12, .inl u1.2.2.2.2))] H := hP.sub [1, 2, 0, 3, 4, 5] rfl
      have hD : va_D A [(a_t, .inr (7, [.ref a_now, .ref a_past, .int v_saved, .ref a_errors, .ref a_text, .int v_textLength, .ref a_pad, .int v_padLength, .ref a_sounds, .int u1.1, .ref a_proposed, .ref a_given, .int u1.2.1, .ref a_readings, .int v_readingMany, .long v_hash])), (a_now, .inl (cI, 150, .inl m_now)), (a_errors, .inl (cI, 4, .inl m_errors)), (a_sounds, .inl (cI, 8, .inl u1.2.2.1)), (a_proposed, .inl (cI, 12, .inl u1.2.2.2.1)), (a_given, .inl (cI, 12, .inl u1.2.2.2.2))] := hD.sub [1, 2, 0, 3, 4, 5] (by decide +kernel) rfl
      have ho := so hf
      subst ho
      exact g_iret hx hb hr hlk hP hD hS dX7_proposedStroke_33
    · replace hf := if_f hb3 hf
      refine lv_aload_n hx hb dX7_proposedStroke_23 rfl (lv_at hl 0 rfl) ?_
      refine va_get (D := D) (ci := 7) (v := .ref a_given) (C := RX7) (T := TX7) (N := 16) hx hb hts ly_X7_proposedStroke_X7 hown hK.1 hP 1 rfl rfl 11 (by decide) (hts (.fieldLink RX7 31 "ShorthandOutlinesModel" "given" "[I") wd_X7_proposedStroke_1) (fun _ h9 => h9) rfl dX7_proposedStroke_24 ?_
      refine lv_iload_n hx hb dX7_proposedStroke_27 rfl (lv_at hl 1 rfl) ?_
      have hi4 := gd_1 hf
      replace hf := gd_2 hf
      refine va_iald hx hb hK.1 hP 5 0 rfl rfl (inb_in hi4) dX7_proposedStroke_28 ?_
      refine lv_goto (tgt := 33) hx hb dX7_proposedStroke_29 (by decide) ?_
      have hP : va_P D vwCl [(a_t, .inr (7, [.ref a_now, .ref a_past, .int v_saved, .ref a_errors, .ref a_text, .int v_textLength, .ref a_pad, .int v_padLength, .ref a_sounds, .int u1.1, .ref a_proposed, .ref a_given, .int u1.2.1, .ref a_readings, .int v_readingMany, .long v_hash])), (a_now, .inl (cI, 150, .inl m_now)), (a_errors, .inl (cI, 4, .inl m_errors)), (a_sounds, .inl (cI, 8, .inl u1.2.2.1)), (a_proposed, .inl (cI, 12, .inl u1.2.2.2.1)), (a_given, .inl (cI, 12, .inl u1.2.2.2.2))] H := hP.sub [1, 2, 0, 3, 4, 5] rfl
      have hD : va_D A [(a_t, .inr (7, [.ref a_now, .ref a_past, .int v_saved, .ref a_errors, .ref a_text, .int v_textLength, .ref a_pad, .int v_padLength, .ref a_sounds, .int u1.1, .ref a_proposed, .ref a_given, .int u1.2.1, .ref a_readings, .int v_readingMany, .long v_hash])), (a_now, .inl (cI, 150, .inl m_now)), (a_errors, .inl (cI, 4, .inl m_errors)), (a_sounds, .inl (cI, 8, .inl u1.2.2.1)), (a_proposed, .inl (cI, 12, .inl u1.2.2.2.1)), (a_given, .inl (cI, 12, .inl u1.2.2.2.2))] := hD.sub [1, 2, 0, 3, 4, 5] (by decide +kernel) rfl
      have ho := so hf
      subst ho
      exact g_iret hx hb hr hlk hP hD hS dX7_proposedStroke_33
  · replace hf := if_f hb1 hf
    refine lv_aload_n hx hb dX7_proposedStroke_4 rfl (lv_at hl 0 rfl) ?_
    refine lv_bipush (v := -2) hx hb dX7_proposedStroke_5 (by decide) ?_
    obtain ⟨u2, hc5, hf⟩ := ob hf
    refine g_ki (wc := [(a_t, .inr (7, [.ref a_now, .ref a_past, .int v_saved, .ref a_errors, .ref a_text, .int v_textLength, .ref a_pad, .int v_padLength, .ref a_sounds, .int v_soundMany, .ref a_proposed, .ref a_given, .int v_proposals, .ref a_readings, .int v_readingMany, .long v_hash])), (a_errors, .inl (cI, 4, .inl m_errors))]) (wc' := [(a_t, .inr (7, [.ref a_now, .ref a_past, .int v_saved, .ref a_errors, .ref a_text, .int v_textLength, .ref a_pad, .int v_padLength, .ref a_sounds, .int v_soundMany, .ref a_proposed, .ref a_given, .int v_proposals, .ref a_readings, .int v_readingMany, .long v_hash])), (a_errors, .inl (cI, 4, .inl u2.2))]) (wr := [(a_now, .inl (cI, 150, .inl m_now)), (a_sounds, .inl (cI, 8, .inl m_sounds)), (a_proposed, .inl (cI, 12, .inl m_proposed)), (a_given, .inl (cI, 12, .inl m_given))]) (va_runV (As := [.int (-2 : Int32)]) (rest := []) ⟨hx, hb, hml, hown, hts⟩ (kt_X7_fails l D cI cZ cS a_t a_errors a_now a_past a_text a_pad a_sounds a_proposed a_given a_readings v_saved v_textLength v_padLength v_soundMany v_proposals v_readingMany v_hash m_errors (-2 : Int32) u2 hc5 _) (cwV 1 hts gX7_proposedStroke_X7_fails rfl rfl rfl sg_X7_fails ⟨(Nat.le_of_ble_eq_true rfl), (Nat.le_of_ble_eq_true rfl)⟩) (g_pv (q := (RX7, TX7, 16)) hK hP hD [0, 2] rfl (by decide) rfl rfl) rfl rfl hl.1 rfl (lv_room (Nat.le_of_ble_eq_true rfl)) dX7_proposedStroke_7 ⟨Nat.zero_le _, Nat.zero_le _⟩) hP hD hS hA [0, 2] [1, 3, 4, 5] rfl rfl (by decide) (by decide) (fun H locs hP hD hS => ?_)
    have hP : va_P D vwCl [(a_now, .inl (cI, 150, .inl m_now)), (a_sounds, .inl (cI, 8, .inl m_sounds)), (a_proposed, .inl (cI, 12, .inl m_proposed)), (a_given, .inl (cI, 12, .inl m_given)), (a_t, .inr (7, [.ref a_now, .ref a_past, .int v_saved, .ref a_errors, .ref a_text, .int v_textLength, .ref a_pad, .int v_padLength, .ref a_sounds, .int v_soundMany, .ref a_proposed, .ref a_given, .int v_proposals, .ref a_readings, .int v_readingMany, .long v_hash])), (a_errors, .inl (cI, 4, .inl u2.2))] H := hP
    have hD : va_D A [(a_now, .inl (cI, 150, .inl m_now)), (a_sounds, .inl (cI, 8, .inl m_sounds)), (a_proposed, .inl (cI, 12, .inl m_proposed)), (a_given, .inl (cI, 12, .inl m_given)), (a_t, .inr (7, [.ref a_now, .ref a_past, .int v_saved, .ref a_errors, .ref a_text, .int v_textLength, .ref a_pad, .int v_padLength, .ref a_sounds, .int v_soundMany, .ref a_proposed, .ref a_given, .int v_proposals, .ref a_readings, .int v_readingMany, .long v_hash])), (a_errors, .inl (cI, 4, .inl u2.2))] := hD
    have hP : va_P D vwCl [(a_t, .inr (7, [.ref a_now, .ref a_past, .int v_saved, .ref a_errors, .ref a_text, .int v_textLength, .ref a_pad, .int v_padLength, .ref a_sounds, .int v_soundMany, .ref a_proposed, .ref a_given, .int v_proposals, .ref a_readings, .int v_readingMany, .long v_hash])), (a_now, .inl (cI, 150, .inl m_now)), (a_errors, .inl (cI, 4, .inl u2.2)), (a_sounds, .inl (cI, 8, .inl m_sounds)), (a_proposed, .inl (cI, 12, .inl m_proposed)), (a_given, .inl (cI, 12, .inl m_given))] H := hP.sub [4, 0, 5, 1, 2, 3] rfl
    have hD : va_D A [(a_t, .inr (7, [.ref a_now, .ref a_past, .int v_saved, .ref a_errors, .ref a_text, .int v_textLength, .ref a_pad, .int v_padLength, .ref a_sounds, .int v_soundMany, .ref a_proposed, .ref a_given, .int v_proposals, .ref a_readings, .int v_readingMany, .long v_hash])), (a_now, .inl (cI, 150, .inl m_now)), (a_errors, .inl (cI, 4, .inl u2.2)), (a_sounds, .inl (cI, 8, .inl m_sounds)), (a_proposed, .inl (cI, 12, .inl m_proposed)), (a_given, .inl (cI, 12, .inl m_given))] := hD.sub [4, 0, 5, 1, 2, 3] (by decide +kernel) rfl
    have ho := so hf
    subst ho
    exact g_iret hx hb hr hlk hP hD hS dX7_proposedStroke_10

theorem sg_X7_acceptProposal : yX7_acceptProposal.cls = RX7 ∧ yX7_acceptProposal.cls ≠ "java/lang/invoke/MethodHandle" ∧ yX7_acceptProposal.cls ≠ "java/lang/invoke/VarHandle" ∧ (parseMethodDescriptor yX7_acceptProposal.desc).map (fun d => d.parameters.length) = some 0 := by decide +kernel
abbrev rm_X7_acceptProposal : Room := { frames := 6, cells := 0, slots := 0, locals := 140 }
theorem wd_X7_acceptProposal_0 : (.fieldLink RX7 99 "ShorthandOutlinesModel" "proposals" "I" : Cond) ∈ wsX7_acceptProposal := by decide +kernel
theorem wd_X7_acceptProposal_1 : (.fieldLink RX7 7 "ShorthandOutlinesModel" "now" "[I" : Cond) ∈ wsX7_acceptProposal := by decide +kernel
theorem wd_X7_acceptProposal_2 : (.fieldLink RX7 28 "ShorthandOutlinesModel" "proposed" "[I" : Cond) ∈ wsX7_acceptProposal := by decide +kernel
theorem wd_X7_acceptProposal_3 : (.fieldLink RX7 31 "ShorthandOutlinesModel" "given" "[I" : Cond) ∈ wsX7_acceptProposal := by decide +kernel
theorem ly_X7_acceptProposal_X7 : ∀ w ∈ u_ws RX7 TX7 16, w ∈ wsX7_acceptProposal := by decide +kernel
set_option maxHeartbeats 4000000 in
set_option maxRecDepth 100000 in
theorem lt_X7_acceptProposal_10 {p : Program} {l : Launch} {e : Env} {s : State} {m : MethodId} {args : Array Value} {below : List Frame} {meth : Method} {c : Code} {D : va_G} {cI cZ cS : ClassId} {A : Nat → Prop} {Q : State → Prop} (Cx : gCx p s m meth c args cX7_acceptProposal 2 (some .int) yX7_acceptProposal wsX7_acceptProposal D cI cZ cS A) (a_t : Nat) (a_now : Nat) (a_past : Nat) (v_saved : Int32) (a_errors : Nat) (a_text : Nat) (v_textLength : Int32) (a_pad : Nat) (v_padLength : Int32) (a_sounds : Nat) (v_soundMany : Int32) (a_proposed : Nat) (a_given : Nat) (v_proposals : Int32) (a_readings : Nat) (v_readingMany : Int32) (v_hash : Int64) (m_past : Nat → Int32) (m_sounds : Nat → Int32) (m_proposed : Nat → Int32) (m_given : Nat → Int32) : ∀ (n : Nat) (y1 : Int32) (m_now : Nat → Int32) (o : (Nat → Int32)) (H : Heap) (locs : List Loc) (ls : Array Slot), lp_X7_acceptProposal_10 v_proposals m_proposed m_given n y1 m_now = some o → va_P D vwCl [(a_t, .inr (7, [.ref a_now, .ref a_past, .int v_saved, .ref a_errors, .ref a_text, .int v_textLength, .ref a_pad, .int v_padLength, .ref a_sounds, .int v_soundMany, .ref a_proposed, .ref a_given, .int v_proposals, .ref a_readings, .int v_readingMany, .long v_hash])), (a_now, .inl (cI, 150, .inl m_now)), (a_past, .inl (cI, 750, .inl m_past)), (a_sounds, .inl (cI, 8, .inl m_sounds)), (a_proposed, .inl (cI, 12, .inl m_proposed)), (a_given, .inl (cI, 12, .inl m_given))] H → va_D A [(a_t, .inr (7, [.ref a_now, .ref a_past, .int v_saved, .ref a_errors, .ref a_text, .int v_textLength, .ref a_pad, .int v_padLength, .ref a_sounds, .int v_soundMany, .ref a_proposed, .ref a_given, .int v_proposals, .ref a_readings, .int v_readingMany, .long v_hash])), (a_now, .inl (cI, 150, .inl m_now)), (a_past, .inl (cI, 750, .inl m_past)), (a_sounds, .inl (cI, 8, .inl m_sounds)), (a_proposed, .inl (cI, 12, .inl m_proposed)), (a_given, .inl (cI, 12, .inl m_given))] → va_S A s.heap H locs → lv_has ls 2 [(0, .ref a_t), (1, .int y1)] → (∀ (H : Heap) (locs : List Loc) (ls : Array Slot), va_P D vwCl [(a_t, .inr (7, [.ref a_now, .ref a_past, .int v_saved, .ref a_errors, .ref a_text, .int v_textLength, .ref a_pad, .int v_padLength, .ref a_sounds, .int v_soundMany, .ref a_proposed, .ref a_given, .int v_proposals, .ref a_readings, .int v_readingMany, .long v_hash])), (a_now, .inl (cI, 150, .inl o)), (a_past, .inl (cI, 750, .inl m_past)), (a_sounds, .inl (cI, 8, .inl m_sounds)), (a_proposed, .inl (cI, 12, .inl m_proposed)), (a_given, .inl (cI, 12, .inl m_given))] H → va_D A [(a_t, .inr (7, [.ref a_now, .ref a_past, .int v_saved, .ref a_errors, .ref a_text, .int v_textLength, .ref a_pad, .int v_padLength, .ref a_sounds, .int v_soundMany, .ref a_proposed, .ref a_given, .int v_proposals, .ref a_readings, .int v_readingMany, .long v_hash])), (a_now, .inl (cI, 150, .inl o)), (a_past, .inl (cI, 750, .inl m_past)), (a_sounds, .inl (cI, 8, .inl m_sounds)), (a_proposed, .inl (cI, 12, .inl m_proposed)), (a_given, .inl (cI, 12, .inl m_given))] → va_S A s.heap H locs → lv_has ls 2 [(0, .ref a_t)] → W p l e rm_X7_acceptProposal s m args below meth c H locs 0 0 Q (F0 m 44 ls [])) → W p l e rm_X7_acceptProposal s m args below meth c H locs 0 0 Q (F0 m 10 ls []) := by
  obtain ⟨hx, hb, hml, hr, hlk, hown, hin, hts, hK, hA⟩ := id Cx
  have hown : s.vm.findClass RX7 = some m.cls := hown
  intro n
  induction n with
  | zero =>
    intro y1 m_now o H locs ls hf
    rw [lp_X7_acceptProposal_10] at hf
    cases hf
  | succ n ih =>
    intro y1 m_now o H locs ls hf hP hD hS hl kk
    rw [lp_X7_acceptProposal_10] at hf
    refine lv_iload_n hx hb dX7_acceptProposal_10 rfl (lv_at hl 1 rfl) ?_
    refine lv_aload_n hx hb dX7_acceptProposal_11 rfl (lv_at hl 0 rfl) ?_
    refine va_get (D := D) (ci := 7) (v := .int v_proposals) (C := RX7) (T := TX7) (N := 16) hx hb hts ly_X7_acceptProposal_X7 hown hK.1 hP 0 rfl rfl 12 (by decide) (hts (.fieldLink RX7 99 "ShorthandOutlinesModel" "proposals" "I") wd_X7_acceptProposal_0) (fun _ h9 => h9) rfl dX7_acceptProposal_12 ?_
    refine lv_icmp_ge (tgt := 44) hx hb dX7_acceptProposal_15 (by decide) (fun hb1 => ?_) (fun hb1 => ?_)
    · replace hf := if_t hb1 hf
      have ho := so hf
      subst ho
      exact kk _ _ _ hP hD hS (lv_sub hl [0] rfl)
    · replace hf := if_f hb1 hf
      refine lv_aload_n hx hb dX7_acceptProposal_18 rfl (lv_at hl 0 rfl) ?_
      refine va_get (D := D) (ci := 7) (v := .ref a_now) (C := RX7) (T := TX7) (N := 16) hx hb hts ly_X7_acceptProposal_X7 hown hK.1 hP 0 rfl rfl 0 (by decide) (hts (.fieldLink RX7 7 "ShorthandOutlinesModel" "now" "[I") wd_X7_acceptProposal_1) (fun _ h9 => h9) rfl dX7_acceptProposal_19 ?_
      refine lv_bipush (v := 42) hx hb dX7_acceptProposal_22 (by decide) ?_
      refine lv_aload_n hx hb dX7_acceptProposal_24 rfl (lv_at hl 0 rfl) ?_
      refine va_get (D := D) (ci := 7) (v := .ref a_proposed) (C := RX7) (T := TX7) (N := 16) hx hb hts ly_X7_acceptProposal_X7 hown hK.1 hP 0 rfl rfl 10 (by decide) (hts (.fieldLink RX7 28 "ShorthandOutlinesModel" "proposed" "[I") wd_X7_acceptProposal_2) (fun _ h9 => h9) rfl dX7_acceptProposal_25 ?_
      refine lv_iload_n hx hb dX7_acceptProposal_28 rfl (lv_at hl 1 rfl) ?_
      have hi2 := gd_1 hf
      replace hf := gd_2 hf
      refine va_iald hx hb hK.1 hP 4 0 rfl rfl (inb_in hi2) dX7_acceptProposal_29 ?_
      refine lv_iadd hx hb dX7_acceptProposal_30 ?_
      refine lv_aload_n hx hb dX7_acceptProposal_31 rfl (lv_at hl 0 rfl) ?_
      refine va_get (D := D) (ci := 7) (v := .ref a_given) (C := RX7) (T := TX7) (N := 16) hx hb hts ly_X7_acceptProposal_X7 hown hK.1 hP 0 rfl rfl 11 (by decide) (hts (.fieldLink RX7 31 "ShorthandOutlinesModel" "given" "[I") wd_X7_acceptProposal_3) (fun _ h9 => h9) rfl dX7_acceptProposal_32 ?_
      refine lv_iload_n hx hb dX7_acceptProposal_35 rfl (lv_at hl 1 rfl) ?_
      have hi3 := gd_1 hf
      replace hf := gd_2 hf
      refine va_iald hx hb hK.1 hP 5 0 rfl rfl (inb_in hi3) dX7_acceptProposal_36 ?_
      have hi4 := gd_1 hf
      replace hf := gd_2 hf
      refine va_iast hx hb hK.1 hP hD hS 1 0 rfl rfl (inb_in hi4) dX7_acceptProposal_37 (fun H locs hP hD hS => ?_)
      have hP : va_P D vwCl [(a_t, .inr (7, [.ref a_now, .ref a_past, .int v_saved, .ref a_errors, .ref a_text, .int v_textLength, .ref a_pad, .int v_padLength, .ref a_sounds, .int v_soundMany, .ref a_proposed, .ref a_given, .int v_proposals, .ref a_readings, .int v_readingMany, .long v_hash])), (a_now, .inl (cI, 150, .inl (upd m_now ((42 : Int32) + (m_proposed y1.toNatClampNeg)).toNatClampNeg (m_given y1.toNatClampNeg)))), (a_past, .inl (cI, 750, .inl m_past)), (a_sounds, .inl (cI, 8, .inl m_sounds)), (a_proposed, .inl (cI, 12, .inl m_proposed)), (a_given, .inl (cI, 12, .inl m_given))] H := hP
      have hD : va_D A [(a_t, .inr (7, [.ref a_now, .ref a_past, .int v_saved, .ref a_errors, .ref a_text, .int v_textLength, .ref a_pad, .int v_padLength, .ref a_sounds, .int v_soundMany, .ref a_proposed, .ref a_given, .int v_proposals, .ref a_readings, .int v_readingMany, .long v_hash])), (a_now, .inl (cI, 150, .inl (upd m_now ((42 : Int32) + (m_proposed y1.toNatClampNeg)).toNatClampNeg (m_given y1.toNatClampNeg)))), (a_past, .inl (cI, 750, .inl m_past)), (a_sounds, .inl (cI, 8, .inl m_sounds)), (a_proposed, .inl (cI, 12, .inl m_proposed)), (a_given, .inl (cI, 12, .inl m_given))] := hD
      refine lv_iinc (v := (y1 + 1)) (lv' := [(1, .int (y1 + 1)), (0, .ref a_t)]) hx hb dX7_acceptProposal_38 hl (k := 1) rfl rfl (by decide) rfl (fun ls hl => ?_)
      refine lv_goto (tgt := 10) hx hb dX7_acceptProposal_41 (by decide) ?_
      exact ih (y1 + 1) (upd m_now ((42 : Int32) + (m_proposed y1.toNatClampNeg)).toNatClampNeg (m_given y1.toNatClampNeg)) o _ _ _ hf hP hD hS (lv_sub hl [1, 0] rfl) kk
set_option maxHeartbeats 4000000 in
set_option maxRecDepth 100000 in
theorem kt_X7_acceptProposal (l : Launch) (D : va_G) (cI cZ cS : ClassId) (a_t : Nat) (a_now : Nat) (a_past : Nat) (a_sounds : Nat) (a_proposed : Nat) (a_given : Nat) (a_errors : Nat) (a_text : Nat) (a_pad : Nat) (a_readings : Nat) (v_textLength : Int32) (v_padLength : Int32) (v_readingMany : Int32) (v_hash : Int64) (v_saved : Int32) (v_soundMany : Int32) (v_proposals : Int32) (m_now : Nat → Int32) (m_past : Nat → Int32) (m_sounds : Nat → Int32) (m_proposed : Nat → Int32) (m_given : Nat → Int32) (o : Int32 × Int32 × Int32 × Int32 × (Nat → Int32) × (Nat → Int32) × (Nat → Int32) × (Nat → Int32) × (Nat → Int32)) (hf : fn_X7_acceptProposal v_saved v_soundMany v_proposals m_now m_past m_sounds m_proposed m_given = some o) (sz : Nat) : Met l yX7_acceptProposal wsX7_acceptProposal rm_X7_acceptProposal (va_Pc [.ref a_t] (gPre D cI cZ cS [(a_t, .inr (7, [.ref a_now, .ref a_past, .int v_saved, .ref a_errors, .ref a_text, .int v_textLength, .ref a_pad, .int v_padLength, .ref a_sounds, .int v_soundMany, .ref a_proposed, .ref a_given, .int v_proposals, .ref a_readings, .int v_readingMany, .long v_hash])), (a_now, .inl (cI, 150, .inl m_now)), (a_past, .inl (cI, 750, .inl m_past)), (a_sounds, .inl (cI, 8, .inl m_sounds)), (a_proposed, .inl (cI, 12, .inl m_proposed)), (a_given, .inl (cI, 12, .inl m_given))] sz)) (va_Qi (fun r (_ : Unit) => r = o.1) (fun _ => gB D [(a_t, .inr (7, [.ref a_now, .ref a_past, .int o.2.1, .ref a_errors, .ref a_text, .int v_textLength, .ref a_pad, .int v_padLength, .ref a_sounds, .int o.2.2.1, .ref a_proposed, .ref a_given, .int o.2.2.2.1, .ref a_readings, .int v_readingMany, .long v_hash])), (a_now, .inl (cI, 150, .inl o.2.2.2.2.1)), (a_past, .inl (cI, 750, .inl o.2.2.2.2.2.1)), (a_sounds, .inl (cI, 8, .inl o.2.2.2.2.2.2.1)), (a_proposed, .inl (cI, 12, .inl o.2.2.2.2.2.2.2.1)), (a_given, .inl (cI, 12, .inl o.2.2.2.2.2.2.2.2))] (va_A [(a_t, .inr (7, [.ref a_now, .ref a_past, .int v_saved, .ref a_errors, .ref a_text, .int v_textLength, .ref a_pad, .int v_padLength, .ref a_sounds, .int v_soundMany, .ref a_proposed, .ref a_given, .int v_proposals, .ref a_readings, .int v_readingMany, .long v_hash])), (a_now, .inl (cI, 150, .inl m_now)), (a_past, .inl (cI, 750, .inl m_past)), (a_sounds, .inl (cI, 8, .inl m_sounds)), (a_proposed, .inl (cI, 12, .inl m_proposed)), (a_given, .inl (cI, 12, .inl m_given))] sz)) (va_A [(a_t, .inr (7, [.ref a_now, .ref a_past, .int v_saved, .ref a_errors, .ref a_text, .int v_textLength, .ref a_pad, .int v_padLength, .ref a_sounds, .int v_soundMany, .ref a_proposed, .ref a_given, .int v_proposals, .ref a_readings, .int v_readingMany, .long v_hash])), (a_now, .inl (cI, 150, .inl m_now)), (a_past, .inl (cI, 750, .inl m_past)), (a_sounds, .inl (cI, 8, .inl m_sounds)), (a_proposed, .inl (cI, 12, .inl m_proposed)), (a_given, .inl (cI, 12, .inl m_given))] sz)) 0 0 (va_A [(a_t, .inr (7, [.ref a_now, .ref a_past, .int v_saved, .ref a_errors, .ref a_text, .int v_textLength, .ref a_pad, .int v_padLength, .ref a_sounds, .int v_soundMany, .ref a_proposed, .ref a_given, .int v_proposals, .ref a_readings, .int v_readingMany, .long v_hash])), (a_now, .inl (cI, 150, .inl m_now)), (a_past, .inl (cI, 750, .inl m_past)), (a_sounds, .inl (cI, 8, .inl m_sounds)), (a_proposed, .inl (cI, 12, .inl m_proposed)), (a_given, .inl (cI, 12, .inl m_given))] sz) := by
  refine g_entry (Qc := fun A => va_Qi (fun r (_ : Unit) => r = o.1) (fun _ => gB D [(a_t, .inr (7, [.ref a_now, .ref a_past, .int o.2.1, .ref a_errors, .ref a_text, .int v_textLength, .ref a_pad, .int v_padLength, .ref a_sounds, .int o.2.2.1, .ref a_proposed, .ref a_given, .int o.2.2.2.1, .ref a_readings, .int v_readingMany, .long v_hash])), (a_now, .inl (cI, 150, .inl o.2.2.2.2.1)), (a_past, .inl (cI, 750, .inl o.2.2.2.2.2.1)), (a_sounds, .inl (cI, 8, .inl o.2.2.2.2.2.2.1)), (a_proposed, .inl (cI, 12, .inl o.2.2.2.2.2.2.2.1)), (a_given, .inl (cI, 12, .inl o.2.2.2.2.2.2.2.2))] A) A) (cc := cX7_acceptProposal) (maxL := 2) (ret := (some .int)) (by decide) rfl (Nat.le_of_ble_eq_true rfl) ?_ sz
  intro p e s m below meth c A ls Cx hP hD hS hl
  obtain ⟨hx, hb, hml, hr, hlk, hown, hin, hts, hK, hA⟩ := id Cx
  have hown : s.vm.findClass RX7 = some m.cls := hown
  have hl : lv_has ls 2 [(0, .ref a_t)] := hl
  unfold fn_X7_acceptProposal at hf
  refine lv_aload_n hx hb dX7_acceptProposal_0 rfl (lv_at hl 0 rfl) ?_
  obtain ⟨u1, hc1, hf⟩ := ob hf
  refine g_kv (wc := [(a_t, .inr (7, [.ref a_now, .ref a_past, .int v_saved, .ref a_errors, .ref a_text, .int v_textLength, .ref a_pad, .int v_padLength, .ref a_sounds, .int v_soundMany, .ref a_proposed, .ref a_given, .int v_proposals, .ref a_readings, .int v_readingMany, .long v_hash])), (a_now, .inl (cI, 150, .inl m_now)), (a_past, .inl (cI, 750, .inl m_past))]) (wc' := [(a_t, .inr (7, [.ref a_now, .ref a_past, .int u1.1, .ref a_errors, .ref a_text, .int v_textLength, .ref a_pad, .int v_padLength, .ref a_sounds, .int v_soundMany, .ref a_proposed, .ref a_given, .int v_proposals, .ref a_readings, .int v_readingMany, .long v_hash])), (a_now, .inl (cI, 150, .inl m_now)), (a_past, .inl (cI, 750, .inl u1.2))]) (wr := [(a_sounds, .inl (cI, 8, .inl m_sounds)), (a_proposed, .inl (cI, 12, .inl m_proposed)), (a_given, .inl (cI, 12, .inl m_given))]) (va_runV (As := []) (rest := []) ⟨hx, hb, hml, hown, hts⟩ (kt_X7_saves l D cI cZ cS a_t a_now a_past a_errors a_text a_pad a_sounds a_proposed a_given a_readings v_textLength v_padLength v_soundMany v_proposals v_readingMany v_hash v_saved m_now m_past u1 hc1 _) (cwV 0 hts gX7_acceptProposal_X7_saves rfl rfl rfl sg_X7_saves ⟨(Nat.le_of_ble_eq_true rfl), (Nat.le_of_ble_eq_true rfl)⟩) (g_pv (q := (RX7, TX7, 16)) hK hP hD [0, 1, 2] rfl (by decide) rfl rfl) rfl rfl hl.1 rfl (lv_room (Nat.le_of_ble_eq_true rfl)) dX7_acceptProposal_1 ⟨Nat.zero_le _, Nat.zero_le _⟩) hP hD hS hA [0, 1, 2] [3, 4, 5] rfl rfl (by decide) (by decide) (fun H locs hP hD hS => ?_)
  have hP : va_P D vwCl [(a_sounds, .inl (cI, 8, .inl m_sounds)), (a_proposed, .inl (cI, 12, .inl m_proposed)), (a_given, .inl (cI, 12, .inl m_given)), (a_t, .inr (7, [.ref a_now, .ref a_past, .int u1.1, .ref a_errors, .ref a_text, .int v_textLength, .ref a_pad, .int v_padLength, .ref a_sounds, .int v_soundMany, .ref a_proposed, .ref a_given, .int v_proposals, .ref a_readings, .int v_readingMany, .long v_hash])), (a_now, .inl (cI, 150, .inl m_now)), (a_past, .inl (cI, 750, .inl u1.2))] H := hP
  have hD : va_D A [(a_sounds, .inl (cI, 8, .inl m_sounds)), (a_proposed, .inl (cI, 12, .inl m_proposed)), (a_given, .inl (cI, 12, .inl m_given)), (a_t, .inr (7, [.ref a_now, .ref a_past, .int u1.1, .ref a_errors, .ref a_text, .int v_textLength, .ref a_pad, .int v_padLength, .ref a_sounds, .int v_soundMany, .ref a_proposed, .ref a_given, .int v_proposals, .ref a_readings, .int v_readingMany, .long v_hash])), (a_now, .inl (cI, 150, .inl m_now)), (a_past, .inl (cI, 750, .inl u1.2))] := hD
  refine lv_aload_n hx hb dX7_acceptProposal_4 rfl (lv_at hl 0 rfl) ?_
  obtain ⟨u2, hc2, hf⟩ := ob hf
  refine g_kv (wc := [(a_t, .inr (7, [.ref a_now, .ref a_past, .int u1.1, .ref a_errors, .ref a_text, .int v_textLength, .ref a_pad, .int v_padLength, .ref a_sounds, .int v_soundMany, .ref a_proposed, .ref a_given, .int v_proposals, .ref a_readings, .int v_readingMany, .long v_hash])), (a_now, .inl (cI, 150, .inl m_now)), (a_sounds, .inl (cI, 8, .inl m_sounds)), (a_proposed, .inl (cI, 12, .inl m_proposed)), (a_given, .inl (cI, 12, .inl m_given))]) (wc' := [(a_t, .inr (7, [.ref a_now, .ref a_past, .int u1.1, .ref a_errors, .ref a_text, .int v_textLength, .ref a_pad, .int v_padLength, .ref a_sounds, .int u2.1, .ref a_proposed, .ref a_given, .int u2.2.1, .ref a_readings, .int v_readingMany, .long v_hash])), (a_now, .inl (cI, 150, .inl m_now)), (a_sounds, .inl (cI, 8, .inl u2.2.2.1)), (a_proposed, .inl (cI, 12, .inl u2.2.2.2.1)), (a_given, .inl (cI, 12, .inl u2.2.2.2.2))]) (wr := [(a_past, .inl (cI, 750, .inl u1.2))]) (va_runV (As := []) (rest := []) ⟨hx, hb, hml, hown, hts⟩ (kt_X7_proposes l D cI cZ cS a_t a_now a_sounds a_proposed a_given a_past a_errors a_text a_pad a_readings u1.1 v_textLength v_padLength v_readingMany v_hash v_soundMany v_proposals m_now m_sounds m_proposed m_given u2 hc2 _) (cwV 0 hts gX7_acceptProposal_X7_proposes rfl rfl rfl sg_X7_proposes ⟨(Nat.le_of_ble_eq_true rfl), (Nat.le_of_ble_eq_true rfl)⟩) (g_pv (q := (RX7, TX7, 16)) hK hP hD [3, 4, 0, 1, 2] rfl (by decide) rfl rfl) rfl rfl hl.1 rfl (lv_room (Nat.le_of_ble_eq_true rfl)) dX7_acceptProposal_5 ⟨Nat.zero_le _, Nat.zero_le _⟩) hP hD hS hA [3, 4, 0, 1, 2] [5] rfl rfl (by decide) (by decide) (fun H locs hP hD hS => ?_)
  have hP : va_P D vwCl [(a_past, .inl (cI, 750, .inl u1.2)), (a_t, .inr (7, [.ref a_now, .ref a_past, .int u1.1, .ref a_errors, .ref a_text, .int v_textLength, .ref a_pad, .int v_padLength, .ref a_sounds, .int u2.1, .ref a_proposed, .ref a_given, .int u2.2.1, .ref a_readings, .int v_readingMany, .long v_hash])), (a_now, .inl (cI, 150, .inl m_now)), (a_sounds, .inl (cI, 8, .inl u2.2.2.1)), (a_proposed, .inl (cI, 12, .inl u2.2.2.2.1)), (a_given, .inl (cI, 12, .inl u2.2.2.2.2))] H := hP
  have hD : va_D A [(a_past, .inl (cI, 750, .inl u1.2)), (a_t, .inr (7, [.ref a_now, .ref a_past, .int u1.1, .ref a_errors, .ref a_text, .int v_textLength, .ref a_pad, .int v_padLength, .ref a_sounds, .int u2.1, .ref a_proposed, .ref a_given, .int u2.2.1, .ref a_readings, .int v_readingMany, .long v_hash])), (a_now, .inl (cI, 150, .inl m_now)), (a_sounds, .inl (cI, 8, .inl u2.2.2.1)), (a_proposed, .inl (cI, 12, .inl u2.2.2.2.1)), (a_given, .inl (cI, 12, .inl u2.2.2.2.2))] := hD
  refine lv_iconst (v := 0) hx hb dX7_acceptProposal_8 (by decide) ?_
  refine lv_istore_n (lv' := [(1, .int (0 : Int32)), (0, .ref a_t)]) hx hb dX7_acceptProposal_9 rfl hl (by decide) rfl (fun ls hl => ?_)
  have hP : va_P D vwCl [(a_t, .inr (7, [.ref a_now, .ref a_past, .int u1.1, .ref a_errors, .ref a_text, .int v_textLength, .ref a_pad, .int v_padLength, .ref a_sounds, .int u2.1, .ref a_proposed, .ref a_given, .int u2.2.1, .ref a_readings, .int v_readingMany, .long v_hash])), (a_now, .inl (cI, 150, .inl m_now)), (a_past, .inl (cI, 750, .inl u1.2)), (a_sounds, .inl (cI, 8, .inl u2.2.2.1)), (a_proposed, .inl (cI, 12, .inl u2.2.2.2.1)), (a_given, .inl (cI, 12, .inl u2.2.2.2.2))] H := hP.sub [1, 2, 0, 3, 4, 5] rfl
  have hD : va_D A [(a_t, .inr (7, [.ref a_now, .ref a_past, .int u1.1, .ref a_errors, .ref a_text, .int v_textLength, .ref a_pad, .int v_padLength, .ref a_sounds, .int u2.1, .ref a_proposed, .ref a_given, .int u2.2.1, .ref a_readings, .int v_readingMany, .long v_hash])), (a_now, .inl (cI, 150, .inl m_now)), (a_past, .inl (cI, 750, .inl u1.2)), (a_sounds, .inl (cI, 8, .inl u2.2.2.1)), (a_proposed, .inl (cI, 12, .inl u2.2.2.2.1)), (a_given, .inl (cI, 12, .inl u2.2.2.2.2))] := hD.sub [1, 2, 0, 3, 4, 5] (by decide +kernel) rfl
  obtain ⟨u3, hc3, hf⟩ := ob hf
  refine lt_X7_acceptProposal_10 Cx a_t a_now a_past u1.1 a_errors a_text v_textLength a_pad v_padLength a_sounds u2.1 a_proposed a_given u2.2.1 a_readings v_readingMany v_hash u1.2 u2.2.2.1 u2.2.2.2.1 u2.2.2.2.2 1024 (0 : Int32) m_now u3 _ _ _ hc3 hP hD hS (lv_sub hl [1, 0] rfl) (fun H locs ls hP hD hS hl => ?_)
  have hP : va_P D vwCl [(a_t, .inr (7, [.ref a_now, .ref a_past, .int u1.1, .ref a_errors, .ref a_text, .int v_textLength, .ref a_pad, .int v_padLength, .ref a_sounds, .int u2.1, .ref a_proposed, .ref a_given, .int u2.2.1, .ref a_readings, .int v_readingMany, .long v_hash])), (a_now, .inl (cI, 150, .inl u3)), (a_past, .inl (cI, 750, .inl u1.2)), (a_sounds, .inl (cI, 8, .inl u2.2.2.1)), (a_proposed, .inl (cI, 12, .inl u2.2.2.2.1)), (a_given, .inl (cI, 12, .inl u2.2.2.2.2))] H := hP
  have hD : va_D A [(a_t, .inr (7, [.ref a_now, .ref a_past, .int u1.1, .ref a_errors, .ref a_text, .int v_textLength, .ref a_pad, .int v_padLength, .ref a_sounds, .int u2.1, .ref a_proposed, .ref a_given, .int u2.2.1, .ref a_readings, .int v_readingMany, .long v_hash])), (a_now, .inl (cI, 150, .inl u3)), (a_past, .inl (cI, 750, .inl u1.2)), (a_sounds, .inl (cI, 8, .inl u2.2.2.1)), (a_proposed, .inl (cI, 12, .inl u2.2.2.2.1)), (a_given, .inl (cI, 12, .inl u2.2.2.2.2))] := hD
  have hl : lv_has ls 2 [(0, .ref a_t)] := hl
  refine lv_aload_n hx hb dX7_acceptProposal_44 rfl (lv_at hl 0 rfl) ?_
  refine va_get (D := D) (ci := 7) (v := .int u2.2.1) (C := RX7) (T := TX7) (N := 16) hx hb hts ly_X7_acceptProposal_X7 hown hK.1 hP 0 rfl rfl 12 (by decide) (hts (.fieldLink RX7 99 "ShorthandOutlinesModel" "proposals" "I") wd_X7_acceptProposal_0) (fun _ h9 => h9) rfl dX7_acceptProposal_45 ?_
  have ho := so hf
  subst ho
  exact g_iret hx hb hr hlk hP hD hS dX7_acceptProposal_48

theorem sg_X7_write : yX7_write.cls = RX7 ∧ yX7_write.cls ≠ "java/lang/invoke/MethodHandle" ∧ yX7_write.cls ≠ "java/lang/invoke/VarHandle" ∧ (parseMethodDescriptor yX7_write.desc).map (fun d => d.parameters.length) = some 1 := by decide +kernel
abbrev rm_X7_write : Room := { frames := 2, cells := 0, slots := 0, locals := 42 }
theorem wd_X7_write_0 : (.fieldLink RX7 105 "ShorthandOutlinesModel" "padLength" "I" : Cond) ∈ wsX7_write := by decide +kernel
theorem wd_X7_write_1 : (.fieldLink RX7 22 "ShorthandOutlinesModel" "pad" "[I" : Cond) ∈ wsX7_write := by decide +kernel
theorem ly_X7_write_X7 : ∀ w ∈ u_ws RX7 TX7 16, w ∈ wsX7_write := by decide +kernel
set_option maxHeartbeats 4000000 in
set_option maxRecDepth 100000 in
theorem kt_X7_write (l : Launch) (D : va_G) (cI cZ cS : ClassId) (a_t : Nat) (a_errors : Nat) (a_pad : Nat) (a_now : Nat) (a_past : Nat) (a_text : Nat) (a_sounds : Nat) (a_proposed : Nat) (a_given : Nat) (a_readings : Nat) (v_saved : Int32) (v_textLength : Int32) (v_soundMany : Int32) (v_proposals : Int32) (v_readingMany : Int32) (v_hash : Int64) (v_padLength : Int32) (m_errors : Nat → Int32) (m_pad : Nat → Int32) (x1 : Int32) (o : Int32 × Int32 × (Nat → Int32) × (Nat → Int32)) (hf : fn_X7_write v_padLength m_errors m_pad x1 = some o) (sz : Nat) : Met l yX7_write wsX7_write rm_X7_write (va_Pc [.ref a_t, .int x1] (gPre D cI cZ cS [(a_t, .inr (7, [.ref a_now, .ref a_past, .int v_saved, .ref a_errors, .ref a_text, .int v_textLength, .ref a_pad, .int v_padLength, .ref a_sounds, .int v_soundMany, .ref a_proposed, .ref a_given, .int v_proposals, .ref a_readings, .int v_readingMany, .long v_hash])), (a_errors, .inl (cI, 4, .inl m_errors)), (a_pad, .inl (cI, 8, .inl m_pad))] sz)) (va_Qi (fun r (_ : Unit) => r = o.1) (fun _ => gB D [(a_t, .inr (7, [.ref a_now, .ref a_past, .int v_saved, .ref a_errors, .ref a_text, .int v_textLength, .ref a_pad, .int o.2.1, .ref a_sounds, .int v_soundMany, .ref a_proposed, .ref a_given, .int v_proposals, .ref a_readings, .int v_readingMany, .long v_hash])), (a_errors, .inl (cI, 4, .inl o.2.2.1)), (a_pad, .inl (cI, 8, .inl o.2.2.2))] (va_A [(a_t, .inr (7, [.ref a_now, .ref a_past, .int v_saved, .ref a_errors, .ref a_text, .int v_textLength, .ref a_pad, .int v_padLength, .ref a_sounds, .int v_soundMany, .ref a_proposed, .ref a_given, .int v_proposals, .ref a_readings, .int v_readingMany, .long v_hash])), (a_errors, .inl (cI, 4, .inl m_errors)), (a_pad, .inl (cI, 8, .inl m_pad))] sz)) (va_A [(a_t, .inr (7, [.ref a_now, .ref a_past, .int v_saved, .ref a_errors, .ref a_text, .int v_textLength, .ref a_pad, .int v_padLength, .ref a_sounds, .int v_soundMany, .ref a_proposed, .ref a_given, .int v_proposals, .ref a_readings, .int v_readingMany, .long v_hash])), (a_errors, .inl (cI, 4, .inl m_errors)), (a_pad, .inl (cI, 8, .inl m_pad))] sz)) 0 0 (va_A [(a_t, .inr (7, [.ref a_now, .ref a_past, .int v_saved, .ref a_errors, .ref a_text, .int v_textLength, .ref a_pad, .int v_padLength, .ref a_sounds, .int v_soundMany, .ref a_proposed, .ref a_given, .int v_proposals, .ref a_readings, .int v_readingMany, .long v_hash])), (a_errors, .inl (cI, 4, .inl m_errors)), (a_pad, .inl (cI, 8, .inl m_pad))] sz) := by
  refine g_entry (Qc := fun A => va_Qi (fun r (_ : Unit) => r = o.1) (fun _ => gB D [(a_t, .inr (7, [.ref a_now, .ref a_past, .int v_saved, .ref a_errors, .ref a_text, .int v_textLength, .ref a_pad, .int o.2.1, .ref a_sounds, .int v_soundMany, .ref a_proposed, .ref a_given, .int v_proposals, .ref a_readings, .int v_readingMany, .long v_hash])), (a_errors, .inl (cI, 4, .inl o.2.2.1)), (a_pad, .inl (cI, 8, .inl o.2.2.2))] A) A) (cc := cX7_write) (maxL := 2) (ret := (some .int)) (by decide) rfl (Nat.le_of_ble_eq_true rfl) ?_ sz
  intro p e s m below meth c A ls Cx hP hD hS hl
  obtain ⟨hx, hb, hml, hr, hlk, hown, hin, hts, hK, hA⟩ := id Cx
  have hown : s.vm.findClass RX7 = some m.cls := hown
  have hl : lv_has ls 2 [(0, .ref a_t), (1, .int x1)] := hl
  unfold fn_X7_write at hf
  refine lv_iload_n hx hb dX7_write_0 rfl (lv_at hl 1 rfl) ?_
  obtain ⟨u1, hc1, hf⟩ := ob hf
  refine g_ki (wc := []) (wc' := []) (wr := [(a_t, .inr (7, [.ref a_now, .ref a_past, .int v_saved, .ref a_errors, .ref a_text, .int v_textLength, .ref a_pad, .int v_padLength, .ref a_sounds, .int v_soundMany, .ref a_proposed, .ref a_given, .int v_proposals, .ref a_readings, .int v_readingMany, .long v_hash])), (a_errors, .inl (cI, 4, .inl m_errors)), (a_pad, .inl (cI, 8, .inl m_pad))]) (va_runS (As := [.int x1]) (rest := []) ⟨hx, hb, hml, hown, hts⟩ (kt_X7_isCode l D cI cZ cS x1 u1 hc1 _) (va_cwS 1 hts gX7_write_X7_isCode rfl rfl rfl sg_X7_isCode.2 ⟨(Nat.le_of_ble_eq_true rfl), (Nat.le_of_ble_eq_true rfl)⟩) (g_ps hK hP hD [] rfl (by decide)) rfl rfl hl.1 rfl (lv_room (Nat.le_of_ble_eq_true rfl)) dX7_write_1 ⟨Nat.zero_le _, Nat.zero_le _⟩) hP hD hS hA [] [0, 1, 2] rfl rfl (by decide) (by decide) (fun H locs hP hD hS => ?_)
  have hP : va_P D vwCl [(a_t, .inr (7, [.ref a_now, .ref a_past, .int v_saved, .ref a_errors, .ref a_text, .int v_textLength, .ref a_pad, .int v_padLength, .ref a_sounds, .int v_soundMany, .ref a_proposed, .ref a_given, .int v_proposals, .ref a_readings, .int v_readingMany, .long v_hash])), (a_errors, .inl (cI, 4, .inl m_errors)), (a_pad, .inl (cI, 8, .inl m_pad))] H := hP
  have hD : va_D A [(a_t, .inr (7, [.ref a_now, .ref a_past, .int v_saved, .ref a_errors, .ref a_text, .int v_textLength, .ref a_pad, .int v_padLength, .ref a_sounds, .int v_soundMany, .ref a_proposed, .ref a_given, .int v_proposals, .ref a_readings, .int v_readingMany, .long v_hash])), (a_errors, .inl (cI, 4, .inl m_errors)), (a_pad, .inl (cI, 8, .inl m_pad))] := hD
  refine lv_if_ne (tgt := 14) hx hb dX7_write_4 (by decide) (fun hb2 => ?_) (fun hb2 => ?_)
  · replace hf := if_f hb2 hf
    refine lv_aload_n hx hb dX7_write_14 rfl (lv_at hl 0 rfl) ?_
    refine va_get (D := D) (ci := 7) (v := .int v_padLength) (C := RX7) (T := TX7) (N := 16) hx hb hts ly_X7_write_X7 hown hK.1 hP 0 rfl rfl 7 (by decide) (hts (.fieldLink RX7 105 "ShorthandOutlinesModel" "padLength" "I") wd_X7_write_0) (fun _ h9 => h9) rfl dX7_write_15 ?_
    refine lv_bipush (v := 8) hx hb dX7_write_18 (by decide) ?_
    refine lv_icmp_ne (tgt := 30) hx hb dX7_write_20 (by decide) (fun hb3 => ?_) (fun hb3 => ?_)
    · replace hf := if_f hb3 hf
      refine lv_aload_n hx hb dX7_write_30 rfl (lv_at hl 0 rfl) ?_
      refine va_get (D := D) (ci := 7) (v := .ref a_pad) (C := RX7) (T := TX7) (N := 16) hx hb hts ly_X7_write_X7 hown hK.1 hP 0 rfl rfl 6 (by decide) (hts (.fieldLink RX7 22 "ShorthandOutlinesModel" "pad" "[I") wd_X7_write_1) (fun _ h9 => h9) rfl dX7_write_31 ?_
      refine lv_aload_n hx hb dX7_write_34 rfl (lv_at hl 0 rfl) ?_
      refine va_get (D := D) (ci := 7) (v := .int v_padLength) (C := RX7) (T := TX7) (N := 16) hx hb hts ly_X7_write_X7 hown hK.1 hP 0 rfl rfl 7 (by decide) (hts (.fieldLink RX7 105 "ShorthandOutlinesModel" "padLength" "I") wd_X7_write_0) (fun _ h9 => h9) rfl dX7_write_35 ?_
      refine lv_iload_n hx hb dX7_write_38 rfl (lv_at hl 1 rfl) ?_
      have hi4 := gd_1 hf
      replace hf := gd_2 hf
      refine va_iast hx hb hK.1 hP hD hS 2 0 rfl rfl (inb_in hi4) dX7_write_39 (fun H locs hP hD hS => ?_)
      have hP : va_P D vwCl [(a_t, .inr (7, [.ref a_now, .ref a_past, .int v_saved, .ref a_errors, .ref a_text, .int v_textLength, .ref a_pad, .int v_padLength, .ref a_sounds, .int v_soundMany, .ref a_proposed, .ref a_given, .int v_proposals, .ref a_readings, .int v_readingMany, .long v_hash])), (a_errors, .inl (cI, 4, .inl m_errors)), (a_pad, .inl (cI, 8, .inl (upd m_pad v_padLength.toNatClampNeg x1)))] H := hP
      have hD : va_D A [(a_t, .inr (7, [.ref a_now, .ref a_past, .int v_saved, .ref a_errors, .ref a_text, .int v_textLength, .ref a_pad, .int v_padLength, .ref a_sounds, .int v_soundMany, .ref a_proposed, .ref a_given, .int v_proposals, .ref a_readings, .int v_readingMany, .long v_hash])), (a_errors, .inl (cI, 4, .inl m_errors)), (a_pad, .inl (cI, 8, .inl (upd m_pad v_padLength.toNatClampNeg x1)))] := hD
      refine lv_aload_n hx hb dX7_write_40 rfl (lv_at hl 0 rfl) ?_
      refine lv_dup hx hb dX7_write_41 rfl ?_
      refine va_get (D := D) (ci := 7) (v := .int v_padLength) (C := RX7) (T := TX7) (N := 16) hx hb hts ly_X7_write_X7 hown hK.1 hP 0 rfl rfl 7 (by decide) (hts (.fieldLink RX7 105 "ShorthandOutlinesModel" "padLength" "I") wd_X7_write_0) (fun _ h9 => h9) rfl dX7_write_42 ?_
      refine lv_iconst (v := 1) hx hb dX7_write_45 (by decide) ?_
      refine lv_iadd hx hb dX7_write_46 ?_
      refine va_put (D := D) (ci := 7) (v := .int (v_padLength + (1 : Int32))) (ty := .int) (C := RX7) (T := TX7) (N := 16) hx hb hts ly_X7_write_X7 tyX7 tyX7_ok nmX7 hown hK.1 hP hD hS 0 rfl rfl 7 (by decide) (hts (.fieldLink RX7 105 "ShorthandOutlinesModel" "padLength" "I") wd_X7_write_0) (fun _ h9 => h9) rfl (by decide +kernel) rfl rfl (Nat.le_of_ble_eq_true rfl) dX7_write_47 (fun H locs hP hD hS => ?_)
      have hP : va_P D vwCl [(a_t, .inr (7, [.ref a_now, .ref a_past, .int v_saved, .ref a_errors, .ref a_text, .int v_textLength, .ref a_pad, .int (v_padLength + (1 : Int32)), .ref a_sounds, .int v_soundMany, .ref a_proposed, .ref a_given, .int v_proposals, .ref a_readings, .int v_readingMany, .long v_hash])), (a_errors, .inl (cI, 4, .inl m_errors)), (a_pad, .inl (cI, 8, .inl (upd m_pad v_padLength.toNatClampNeg x1)))] H := hP
      have hD : va_D A [(a_t, .inr (7, [.ref a_now, .ref a_past, .int v_saved, .ref a_errors, .ref a_text, .int v_textLength, .ref a_pad, .int (v_padLength + (1 : Int32)), .ref a_sounds, .int v_soundMany, .ref a_proposed, .ref a_given, .int v_proposals, .ref a_readings, .int v_readingMany, .long v_hash])), (a_errors, .inl (cI, 4, .inl m_errors)), (a_pad, .inl (cI, 8, .inl (upd m_pad v_padLength.toNatClampNeg x1)))] := hD
      refine lv_aload_n hx hb dX7_write_50 rfl (lv_at hl 0 rfl) ?_
      refine va_get (D := D) (ci := 7) (v := .int (v_padLength + (1 : Int32))) (C := RX7) (T := TX7) (N := 16) hx hb hts ly_X7_write_X7 hown hK.1 hP 0 rfl rfl 7 (by decide) (hts (.fieldLink RX7 105 "ShorthandOutlinesModel" "padLength" "I") wd_X7_write_0) (fun _ h9 => h9) rfl dX7_write_51 ?_
      have ho := so hf
      subst ho
      exact g_iret hx hb hr hlk hP hD hS dX7_write_54
    · replace hf := if_t hb3 hf
      refine lv_aload_n hx hb dX7_write_23 rfl (lv_at hl 0 rfl) ?_
      refine lv_bipush (v := -4) hx hb dX7_write_24 (by decide) ?_
      obtain ⟨u2, hc5, hf⟩ := ob hf
      refine g_ki (wc := [(a_t, .inr (7, [.ref a_now, .ref a_past, .int v_saved, .ref a_errors, .ref a_text, .int v_textLength, .ref a_pad, .int v_padLength, .ref a_sounds, .int v_soundMany, .ref a_proposed, .ref a_given, .int v_proposals, .ref a_readings, .int v_readingMany, .long v_hash])), (a_errors, .inl (cI, 4, .inl m_errors))]) (wc' := [(a_t, .inr (7, [.ref a_now, .ref a_past, .int v_saved, .ref a_errors, .ref a_text, .int v_textLength, .ref a_pad, .int v_padLength, .ref a_sounds, .int v_soundMany, .ref a_proposed, .ref a_given, .int v_proposals, .ref a_readings, .int v_readingMany, .long v_hash])), (a_errors, .inl (cI, 4, .inl u2.2))]) (wr := [(a_pad, .inl (cI, 8, .inl m_pad))]) (va_runV (As := [.int (-4 : Int32)]) (rest := []) ⟨hx, hb, hml, hown, hts⟩ (kt_X7_fails l D cI cZ cS a_t a_errors a_now a_past a_text a_pad a_sounds a_proposed a_given a_readings v_saved v_textLength v_padLength v_soundMany v_proposals v_readingMany v_hash m_errors (-4 : Int32) u2 hc5 _) (cwV 1 hts gX7_write_X7_fails rfl rfl rfl sg_X7_fails ⟨(Nat.le_of_ble_eq_true rfl), (Nat.le_of_ble_eq_true rfl)⟩) (g_pv (q := (RX7, TX7, 16)) hK hP hD [0, 1] rfl (by decide) rfl rfl) rfl rfl hl.1 rfl (lv_room (Nat.le_of_ble_eq_true rfl)) dX7_write_26 ⟨Nat.zero_le _, Nat.zero_le _⟩) hP hD hS hA [0, 1] [2] rfl rfl (by decide) (by decide) (fun H locs hP hD hS => ?_)
      have hP : va_P D vwCl [(a_pad, .inl (cI, 8, .inl m_pad)), (a_t, .inr (7, [.ref a_now, .ref a_past, .int v_saved, .ref a_errors, .ref a_text, .int v_textLength, .ref a_pad, .int v_padLength, .ref a_sounds, .int v_soundMany, .ref a_proposed, .ref a_given, .int v_proposals, .ref a_readings, .int v_readingMany, .long v_hash])), (a_errors, .inl (cI, 4, .inl u2.2))] H := hP
      have hD : va_D A [(a_pad, .inl (cI, 8, .inl m_pad)), (a_t, .inr (7, [.ref a_now, .ref a_past, .int v_saved, .ref a_errors, .ref a_text, .int v_textLength, .ref a_pad, .int v_padLength, .ref a_sounds, .int v_soundMany, .ref a_proposed, .ref a_given, .int v_proposals, .ref a_readings, .int v_readingMany, .long v_hash])), (a_errors, .inl (cI, 4, .inl u2.2))] := hD
      have hP : va_P D vwCl [(a_t, .inr (7, [.ref a_now, .ref a_past, .int v_saved, .ref a_errors, .ref a_text, .int v_textLength, .ref a_pad, .int v_padLength, .ref a_sounds, .int v_soundMany, .ref a_proposed, .ref a_given, .int v_proposals, .ref a_readings, .int v_readingMany, .long v_hash])), (a_errors, .inl (cI, 4, .inl u2.2)), (a_pad, .inl (cI, 8, .inl m_pad))] H := hP.sub [1, 2, 0] rfl
      have hD : va_D A [(a_t, .inr (7, [.ref a_now, .ref a_past, .int v_saved, .ref a_errors, .ref a_text, .int v_textLength, .ref a_pad, .int v_padLength, .ref a_sounds, .int v_soundMany, .ref a_proposed, .ref a_given, .int v_proposals, .ref a_readings, .int v_readingMany, .long v_hash])), (a_errors, .inl (cI, 4, .inl u2.2)), (a_pad, .inl (cI, 8, .inl m_pad))] := hD.sub [1, 2, 0] (by decide +kernel) rfl
      have ho := so hf
      subst ho
      exact g_iret hx hb hr hlk hP hD hS dX7_write_29
  · replace hf := if_t hb2 hf
    refine lv_aload_n hx hb dX7_write_7 rfl (lv_at hl 0 rfl) ?_
    refine lv_bipush (v := -2) hx hb dX7_write_8 (by decide) ?_
    obtain ⟨u3, hc6, hf⟩ := ob hf
    refine g_ki (wc := [(a_t, .inr (7, [.ref a_now, .ref a_past, .int v_saved, .ref a_errors, .ref a_text, .int v_textLength, .ref a_pad, .int v_padLength, .ref a_sounds, .int v_soundMany, .ref a_proposed, .ref a_given, .int v_proposals, .ref a_readings, .int v_readingMany, .long v_hash])), (a_errors, .inl (cI, 4, .inl m_errors))]) (wc' := [(a_t, .inr (7, [.ref a_now, .ref a_past, .int v_saved, .ref a_errors, .ref a_text, .int v_textLength, .ref a_pad, .int v_padLength, .ref a_sounds, .int v_soundMany, .ref a_proposed, .ref a_given, .int v_proposals, .ref a_readings, .int v_readingMany, .long v_hash])), (a_errors, .inl (cI, 4, .inl u3.2))]) (wr := [(a_pad, .inl (cI, 8, .inl m_pad))]) (va_runV (As := [.int (-2 : Int32)]) (rest := []) ⟨hx, hb, hml, hown, hts⟩ (kt_X7_fails l D cI cZ cS a_t a_errors a_now a_past a_text a_pad a_sounds a_proposed a_given a_readings v_saved v_textLength v_padLength v_soundMany v_proposals v_readingMany v_hash m_errors (-2 : Int32) u3 hc6 _) (cwV 1 hts gX7_write_X7_fails rfl rfl rfl sg_X7_fails ⟨(Nat.le_of_ble_eq_true rfl), (Nat.le_of_ble_eq_true rfl)⟩) (g_pv (q := (RX7, TX7, 16)) hK hP hD [0, 1] rfl (by decide) rfl rfl) rfl rfl hl.1 rfl (lv_room (Nat.le_of_ble_eq_true rfl)) dX7_write_10 ⟨Nat.zero_le _, Nat.zero_le _⟩) hP hD hS hA [0, 1] [2] rfl rfl (by decide) (by decide) (fun H locs hP hD hS => ?_)
    have hP : va_P D vwCl [(a_pad, .inl (cI, 8, .inl m_pad)), (a_t, .inr (7, [.ref a_now, .ref a_past, .int v_saved, .ref a_errors, .ref a_text, .int v_textLength, .ref a_pad, .int v_padLength, .ref a_sounds, .int v_soundMany, .ref a_proposed, .ref a_given, .int v_proposals, .ref a_readings, .int v_readingMany, .long v_hash])), (a_errors, .inl (cI, 4, .inl u3.2))] H := hP
    have hD : va_D A [(a_pad, .inl (cI, 8, .inl m_pad)), (a_t, .inr (7, [.ref a_now, .ref a_past, .int v_saved, .ref a_errors, .ref a_text, .int v_textLength, .ref a_pad, .int v_padLength, .ref a_sounds, .int v_soundMany, .ref a_proposed, .ref a_given, .int v_proposals, .ref a_readings, .int v_readingMany, .long v_hash])), (a_errors, .inl (cI, 4, .inl u3.2))] := hD
    have hP : va_P D vwCl [(a_t, .inr (7, [.ref a_now, .ref a_past, .int v_saved, .ref a_errors, .ref a_text, .int v_textLength, .ref a_pad, .int v_padLength, .ref a_sounds, .int v_soundMany, .ref a_proposed, .ref a_given, .int v_proposals, .ref a_readings, .int v_readingMany, .long v_hash])), (a_errors, .inl (cI, 4, .inl u3.2)), (a_pad, .inl (cI, 8, .inl m_pad))] H := hP.sub [1, 2, 0] rfl
    have hD : va_D A [(a_t, .inr (7, [.ref a_now, .ref a_past, .int v_saved, .ref a_errors, .ref a_text, .int v_textLength, .ref a_pad, .int v_padLength, .ref a_sounds, .int v_soundMany, .ref a_proposed, .ref a_given, .int v_proposals, .ref a_readings, .int v_readingMany, .long v_hash])), (a_errors, .inl (cI, 4, .inl u3.2)), (a_pad, .inl (cI, 8, .inl m_pad))] := hD.sub [1, 2, 0] (by decide +kernel) rfl
    have ho := so hf
    subst ho
    exact g_iret hx hb hr hlk hP hD hS dX7_write_13

theorem sg_X7_clearPad : yX7_clearPad.cls = RX7 ∧ yX7_clearPad.cls ≠ "java/lang/invoke/MethodHandle" ∧ yX7_clearPad.cls ≠ "java/lang/invoke/VarHandle" ∧ (parseMethodDescriptor yX7_clearPad.desc).map (fun d => d.parameters.length) = some 0 := by decide +kernel
abbrev rm_X7_clearPad : Room := { frames := 0, cells := 0, slots := 0, locals := 0 }
theorem wd_X7_clearPad_0 : (.fieldLink RX7 105 "ShorthandOutlinesModel" "padLength" "I" : Cond) ∈ wsX7_clearPad := by decide +kernel
theorem ly_X7_clearPad_X7 : ∀ w ∈ u_ws RX7 TX7 16, w ∈ wsX7_clearPad := by decide +kernel
set_option maxHeartbeats 4000000 in
set_option maxRecDepth 100000 in
theorem kt_X7_clearPad (l : Launch) (D : va_G) (cI cZ cS : ClassId) (a_t : Nat) (a_now : Nat) (a_past : Nat) (a_errors : Nat) (a_text : Nat) (a_pad : Nat) (a_sounds : Nat) (a_proposed : Nat) (a_given : Nat) (a_readings : Nat) (v_saved : Int32) (v_textLength : Int32) (v_soundMany : Int32) (v_proposals : Int32) (v_readingMany : Int32) (v_hash : Int64) (v_padLength : Int32) (o : Int32 × Int32) (hf : fn_X7_clearPad v_padLength = some o) (sz : Nat) : Met l yX7_clearPad wsX7_clearPad rm_X7_clearPad (va_Pc [.ref a_t] (gPre D cI cZ cS [(a_t, .inr (7, [.ref a_now, .ref a_past, .int v_saved, .ref a_errors, .ref a_text, .int v_textLength, .ref a_pad, .int v_padLength, .ref a_sounds, .int v_soundMany, .ref a_proposed, .ref a_given, .int v_proposals, .ref a_readings, .int v_readingMany, .long v_hash]))] sz)) (va_Qi (fun r (_ : Unit) => r = o.1) (fun _ => gB D [(a_t, .inr (7, [.ref a_now, .ref a_past, .int v_saved, .ref a_errors, .ref a_text, .int v_textLength, .ref a_pad, .int o.2, .ref a_sounds, .int v_soundMany, .ref a_proposed, .ref a_given, .int v_proposals, .ref a_readings, .int v_readingMany, .long v_hash]))] (va_A [(a_t, .inr (7, [.ref a_now, .ref a_past, .int v_saved, .ref a_errors, .ref a_text, .int v_textLength, .ref a_pad, .int v_padLength, .ref a_sounds, .int v_soundMany, .ref a_proposed, .ref a_given, .int v_proposals, .ref a_readings, .int v_readingMany, .long v_hash]))] sz)) (va_A [(a_t, .inr (7, [.ref a_now, .ref a_past, .int v_saved, .ref a_errors, .ref a_text, .int v_textLength, .ref a_pad, .int v_padLength, .ref a_sounds, .int v_soundMany, .ref a_proposed, .ref a_given, .int v_proposals, .ref a_readings, .int v_readingMany, .long v_hash]))] sz)) 0 0 (va_A [(a_t, .inr (7, [.ref a_now, .ref a_past, .int v_saved, .ref a_errors, .ref a_text, .int v_textLength, .ref a_pad, .int v_padLength, .ref a_sounds, .int v_soundMany, .ref a_proposed, .ref a_given, .int v_proposals, .ref a_readings, .int v_readingMany, .long v_hash]))] sz) := by
  refine g_entry (Qc := fun A => va_Qi (fun r (_ : Unit) => r = o.1) (fun _ => gB D [(a_t, .inr (7, [.ref a_now, .ref a_past, .int v_saved, .ref a_errors, .ref a_text, .int v_textLength, .ref a_pad, .int o.2, .ref a_sounds, .int v_soundMany, .ref a_proposed, .ref a_given, .int v_proposals, .ref a_readings, .int v_readingMany, .long v_hash]))] A) A) (cc := cX7_clearPad) (maxL := 2) (ret := (some .int)) (by decide) rfl (Nat.le_of_ble_eq_true rfl) ?_ sz
  intro p e s m below meth c A ls Cx hP hD hS hl
  obtain ⟨hx, hb, hml, hr, hlk, hown, hin, hts, hK, hA⟩ := id Cx
  have hown : s.vm.findClass RX7 = some m.cls := hown
  have hl : lv_has ls 2 [(0, .ref a_t)] := hl
  unfold fn_X7_clearPad at hf
  refine lv_aload_n hx hb dX7_clearPad_0 rfl (lv_at hl 0 rfl) ?_
  refine va_get (D := D) (ci := 7) (v := .int v_padLength) (C := RX7) (T := TX7) (N := 16) hx hb hts ly_X7_clearPad_X7 hown hK.1 hP 0 rfl rfl 7 (by decide) (hts (.fieldLink RX7 105 "ShorthandOutlinesModel" "padLength" "I") wd_X7_clearPad_0) (fun _ h9 => h9) rfl dX7_clearPad_1 ?_
  refine lv_istore_n (lv' := [(1, .int v_padLength), (0, .ref a_t)]) hx hb dX7_clearPad_4 rfl hl (by decide) rfl (fun ls hl => ?_)
  refine lv_aload_n hx hb dX7_clearPad_5 rfl (lv_at hl 1 rfl) ?_
  refine lv_iconst (v := 0) hx hb dX7_clearPad_6 (by decide) ?_
  refine va_put (D := D) (ci := 7) (v := .int (0 : Int32)) (ty := .int) (C := RX7) (T := TX7) (N := 16) hx hb hts ly_X7_clearPad_X7 tyX7 tyX7_ok nmX7 hown hK.1 hP hD hS 0 rfl rfl 7 (by decide) (hts (.fieldLink RX7 105 "ShorthandOutlinesModel" "padLength" "I") wd_X7_clearPad_0) (fun _ h9 => h9) rfl (by decide +kernel) rfl rfl (Nat.le_of_ble_eq_true rfl) dX7_clearPad_7 (fun H locs hP hD hS => ?_)
  have hP : va_P D vwCl [(a_t, .inr (7, [.ref a_now, .ref a_past, .int v_saved, .ref a_errors, .ref a_text, .int v_textLength, .ref a_pad, .int (0 : Int32), .ref a_sounds, .int v_soundMany, .ref a_proposed, .ref a_given, .int v_proposals, .ref a_readings, .int v_readingMany, .long v_hash]))] H := hP
  have hD : va_D A [(a_t, .inr (7, [.ref a_now, .ref a_past, .int v_saved, .ref a_errors, .ref a_text, .int v_textLength, .ref a_pad, .int (0 : Int32), .ref a_sounds, .int v_soundMany, .ref a_proposed, .ref a_given, .int v_proposals, .ref a_readings, .int v_readingMany, .long v_hash]))] := hD
  refine lv_iload_n hx hb dX7_clearPad_10 rfl (lv_at hl 0 rfl) ?_
  have ho := so hf
  subst ho
  exact g_iret hx hb hr hlk hP hD hS dX7_clearPad_11

theorem sg_X7_differs : yX7_differs.cls = RX7 ∧ yX7_differs.cls ≠ "java/lang/invoke/MethodHandle" ∧ yX7_differs.cls ≠ "java/lang/invoke/VarHandle" ∧ (parseMethodDescriptor yX7_differs.desc).map (fun d => d.parameters.length) = some 2 := by decide +kernel
abbrev rm_X7_differs : Room := { frames := 1, cells := 0, slots := 0, locals := 22 }
set_option maxHeartbeats 4000000 in
set_option maxRecDepth 100000 in
theorem kt_X7_differs (l : Launch) (D : va_G) (cI cZ cS : ClassId) (x0 : Int32) (x1 : Int32) (o : Int32) (hf : fn_X7_differs x0 x1 = some o) (sz : Nat) : Met l yX7_differs wsX7_differs rm_X7_differs (va_Pc [.int x0, .int x1] (gPre D cI cZ cS [] sz)) (va_Qi (fun r (_ : Unit) => r = o) (fun _ => gB D [] (va_A [] sz)) (va_A [] sz)) 0 0 (va_A [] sz) := by
  refine g_entry (Qc := fun A => va_Qi (fun r (_ : Unit) => r = o) (fun _ => gB D [] A) A) (cc := cX7_differs) (maxL := 3) (ret := (some .int)) (by decide) rfl (Nat.le_of_ble_eq_true rfl) ?_ sz
  intro p e s m below meth c A ls Cx hP hD hS hl
  obtain ⟨hx, hb, hml, hr, hlk, hown, hin, hts, hK, hA⟩ := id Cx
  have hown : s.vm.findClass RX7 = some m.cls := hown
  have hl : lv_has ls 3 [(0, .int x0), (1, .int x1)] := hl
  unfold fn_X7_differs at hf
  refine lv_iload_n hx hb dX7_differs_0 rfl (lv_at hl 0 rfl) ?_
  refine lv_iconst (v := 3) hx hb dX7_differs_1 (by decide) ?_
  refine lv_irem hx hb dX7_differs_2 (by decide) ?_
  refine lv_iload_n hx hb dX7_differs_3 rfl (lv_at hl 1 rfl) ?_
  refine lv_iconst (v := 3) hx hb dX7_differs_4 (by decide) ?_
  refine lv_irem hx hb dX7_differs_5 (by decide) ?_
  refine lv_isub hx hb dX7_differs_6 ?_
  refine lv_istore_n (lv' := [(2, .int ((x0 - x0 / (3 : Int32) * (3 : Int32)) - (x1 - x1 / (3 : Int32) * (3 : Int32)))), (0, .int x0), (1, .int x1)]) hx hb dX7_differs_7 rfl hl (by decide) rfl (fun ls hl => ?_)
  refine lv_iload_n hx hb dX7_differs_8 rfl (lv_at hl 1 rfl) ?_
  refine lv_iload_n hx hb dX7_differs_9 rfl (lv_at hl 2 rfl) ?_
  obtain ⟨u1, hc1, hf⟩ := ob hf
  refine g_ki (wc := []) (wc' := []) (wr := []) (va_runS (As := [.int x0, .int x1]) (rest := []) ⟨hx, hb, hml, hown, hts⟩ (kt_X7_turn l D cI cZ cS x0 x1 u1 hc1 _) (va_cwS 2 hts gX7_differs_X7_turn rfl rfl rfl sg_X7_turn.2 ⟨(Nat.le_of_ble_eq_true rfl), (Nat.le_of_ble_eq_true rfl)⟩) (g_ps hK hP hD [] rfl (by decide)) rfl rfl hl.1 rfl (lv_room (Nat.le_of_ble_eq_true rfl)) dX7_differs_10 ⟨Nat.zero_le _, Nat.zero_le _⟩) hP hD hS hA [] [] rfl rfl (by decide) (by decide) (fun H locs hP hD hS => ?_)
  have hP : va_P D vwCl [] H := hP
  have hD : va_D A [] := hD
  refine lv_iload_n hx hb dX7_differs_13 rfl (lv_at hl 0 rfl) ?_
  refine lv_if_ge (tgt := 22) hx hb dX7_differs_14 (by decide) (fun hb2 => ?_) (fun hb2 => ?_)
  · replace hf := if_t hb2 hf
    refine lv_iload_n hx hb dX7_differs_22 rfl (lv_at hl 0 rfl) ?_
    refine lv_iadd hx hb dX7_differs_23 ?_
    have ho := so hf
    subst ho
    exact g_iret hx hb hr hlk hP hD hS dX7_differs_24
  · replace hf := if_f hb2 hf
    refine lv_iload_n hx hb dX7_differs_17 rfl (lv_at hl 0 rfl) ?_
    refine lv_ineg hx hb dX7_differs_18 ?_
    refine lv_goto (tgt := 23) hx hb dX7_differs_19 (by decide) ?_
    refine lv_iadd hx hb dX7_differs_23 ?_
    have ho := so hf
    subst ho
    exact g_iret hx hb hr hlk hP hD hS dX7_differs_24

theorem sg_X7_doubtOf : yX7_doubtOf.cls = RX7 ∧ yX7_doubtOf.cls ≠ "java/lang/invoke/MethodHandle" ∧ yX7_doubtOf.cls ≠ "java/lang/invoke/VarHandle" ∧ (parseMethodDescriptor yX7_doubtOf.desc).map (fun d => d.parameters.length) = some 1 := by decide +kernel
abbrev rm_X7_doubtOf : Room := { frames := 2, cells := 0, slots := 0, locals := 44 }
theorem wd_X7_doubtOf_0 : (.fieldLink RX7 7 "ShorthandOutlinesModel" "now" "[I" : Cond) ∈ wsX7_doubtOf := by decide +kernel
theorem wd_X7_doubtOf_1 : (.fieldLink RX7 105 "ShorthandOutlinesModel" "padLength" "I" : Cond) ∈ wsX7_doubtOf := by decide +kernel
theorem wd_X7_doubtOf_2 : (.fieldLink RX7 22 "ShorthandOutlinesModel" "pad" "[I" : Cond) ∈ wsX7_doubtOf := by decide +kernel
theorem wd_X7_doubtOf_3 : (.fieldLink RX7 70 "ShorthandOutlinesModel" "soundMany" "I" : Cond) ∈ wsX7_doubtOf := by decide +kernel
theorem wd_X7_doubtOf_4 : (.fieldLink RX7 25 "ShorthandOutlinesModel" "sounds" "[I" : Cond) ∈ wsX7_doubtOf := by decide +kernel
theorem ly_X7_doubtOf_X7 : ∀ w ∈ u_ws RX7 TX7 16, w ∈ wsX7_doubtOf := by decide +kernel
set_option maxHeartbeats 4000000 in
set_option maxRecDepth 100000 in
theorem lt_X7_doubtOf_66 {p : Program} {l : Launch} {e : Env} {s : State} {m : MethodId} {args : Array Value} {below : List Frame} {meth : Method} {c : Code} {D : va_G} {cI cZ cS : ClassId} {A : Nat → Prop} {Q : State → Prop} (Cx : gCx p s m meth c args cX7_doubtOf 7 (some .int) yX7_doubtOf wsX7_doubtOf D cI cZ cS A) (a_t : Nat) (a_now : Nat) (a_past : Nat) (v_saved : Int32) (a_errors : Nat) (a_text : Nat) (v_textLength : Int32) (a_pad : Nat) (v_padLength : Int32) (a_sounds : Nat) (v_soundMany : Int32) (a_proposed : Nat) (a_given : Nat) (v_proposals : Int32) (a_readings : Nat) (v_readingMany : Int32) (v_hash : Int64) (m_now : Nat → Int32) (m_pad : Nat → Int32) (m_sounds : Nat → Int32) : ∀ (n : Nat) (y3 : Int32) (y4 : Int32) (o : Int32) (H : Heap) (locs : List Loc) (ls : Array Slot), lp_X7_doubtOf_66 v_soundMany m_sounds m_pad m_now n y3 y4 = some o → va_P D vwCl [(a_t, .inr (7, [.ref a_now, .ref a_past, .int v_saved, .ref a_errors, .ref a_text, .int v_textLength, .ref a_pad, .int v_padLength, .ref a_sounds, .int v_soundMany, .ref a_proposed, .ref a_given, .int v_proposals, .ref a_readings, .int v_readingMany, .long v_hash])), (a_now, .inl (cI, 150, .inl m_now)), (a_pad, .inl (cI, 8, .inl m_pad)), (a_sounds, .inl (cI, 8, .inl m_sounds))] H → va_D A [(a_t, .inr (7, [.ref a_now, .ref a_past, .int v_saved, .ref a_errors, .ref a_text, .int v_textLength, .ref a_pad, .int v_padLength, .ref a_sounds, .int v_soundMany, .ref a_proposed, .ref a_given, .int v_proposals, .ref a_readings, .int v_readingMany, .long v_hash])), (a_now, .inl (cI, 150, .inl m_now)), (a_pad, .inl (cI, 8, .inl m_pad)), (a_sounds, .inl (cI, 8, .inl m_sounds))] → va_S A s.heap H locs → lv_has ls 7 [(0, .ref a_t), (3, .int y3), (4, .int y4)] → (∀ (H : Heap) (locs : List Loc) (ls : Array Slot), va_P D vwCl [(a_t, .inr (7, [.ref a_now, .ref a_past, .int v_saved, .ref a_errors, .ref a_text, .int v_textLength, .ref a_pad, .int v_padLength, .ref a_sounds, .int v_soundMany, .ref a_proposed, .ref a_given, .int v_proposals, .ref a_readings, .int v_readingMany, .long v_hash])), (a_now, .inl (cI, 150, .inl m_now)), (a_pad, .inl (cI, 8, .inl m_pad)), (a_sounds, .inl (cI, 8, .inl m_sounds))] H → va_D A [(a_t, .inr (7, [.ref a_now, .ref a_past, .int v_saved, .ref a_errors, .ref a_text, .int v_textLength, .ref a_pad, .int v_padLength, .ref a_sounds, .int v_soundMany, .ref a_proposed, .ref a_given, .int v_proposals, .ref a_readings, .int v_readingMany, .long v_hash])), (a_now, .inl (cI, 150, .inl m_now)), (a_pad, .inl (cI, 8, .inl m_pad)), (a_sounds, .inl (cI, 8, .inl m_sounds))] → va_S A s.heap H locs → lv_has ls 7 [(3, .int o)] → W p l e rm_X7_doubtOf s m args below meth c H locs 0 0 Q (F0 m 175 ls [])) → W p l e rm_X7_doubtOf s m args below meth c H locs 0 0 Q (F0 m 66 ls []) := by
  obtain ⟨hx, hb, hml, hr, hlk, hown, hin, hts, hK, hA⟩ := id Cx
  have hown : s.vm.findClass RX7 = some m.cls := hown
  intro n
  induction n with
  | zero =>
    intro y3 y4 o H locs ls hf
    rw [lp_X7_doubtOf_66] at hf
    cases hf
  | succ n ih =>
    intro y3 y4 o H locs ls hf hP hD hS hl kk
    rw [lp_X7_doubtOf_66] at hf
    refine lv_iload hx hb dX7_doubtOf_66 (lv_at hl 2 rfl) ?_
    refine lv_aload_n hx hb dX7_doubtOf_68 rfl (lv_at hl 0 rfl) ?_
    refine va_get (D := D) (ci := 7) (v := .int v_soundMany) (C := RX7) (T := TX7) (N := 16) hx hb hts ly_X7_doubtOf_X7 hown hK.1 hP 0 rfl rfl 9 (by decide) (hts (.fieldLink RX7 70 "ShorthandOutlinesModel" "soundMany" "I") wd_X7_doubtOf_3) (fun _ h9 => h9) rfl dX7_doubtOf_69 ?_
    refine lv_icmp_ge (tgt := 175) hx hb dX7_doubtOf_72 (by decide) (fun hb1 => ?_) (fun hb1 => ?_)
    · replace hf := if_t hb1 hf
      have ho := so hf
      subst ho
      exact kk _ _ _ hP hD hS (lv_sub hl [1] rfl)
    · replace hf := if_f hb1 hf
      refine lv_aload_n hx hb dX7_doubtOf_75 rfl (lv_at hl 0 rfl) ?_
      refine va_get (D := D) (ci := 7) (v := .ref a_pad) (C := RX7) (T := TX7) (N := 16) hx hb hts ly_X7_doubtOf_X7 hown hK.1 hP 0 rfl rfl 6 (by decide) (hts (.fieldLink RX7 22 "ShorthandOutlinesModel" "pad" "[I") wd_X7_doubtOf_2) (fun _ h9 => h9) rfl dX7_doubtOf_76 ?_
      refine lv_iload hx hb dX7_doubtOf_79 (lv_at hl 2 rfl) ?_
      have hi2 := gd_1 hf
      replace hf := gd_2 hf
      refine va_iald hx hb hK.1 hP 2 0 rfl rfl (inb_in hi2) dX7_doubtOf_81 ?_
      refine lv_aload_n hx hb dX7_doubtOf_82 rfl (lv_at hl 0 rfl) ?_
      refine va_get (D := D) (ci := 7) (v := .ref a_now) (C := RX7) (T := TX7) (N := 16) hx hb hts ly_X7_doubtOf_X7 hown hK.1 hP 0 rfl rfl 0 (by decide) (hts (.fieldLink RX7 7 "ShorthandOutlinesModel" "now" "[I") wd_X7_doubtOf_0) (fun _ h9 => h9) rfl dX7_doubtOf_83 ?_
      refine lv_iconst (v := 1) hx hb dX7_doubtOf_86 (by decide) ?_
      refine lv_aload_n hx hb dX7_doubtOf_87 rfl (lv_at hl 0 rfl) ?_
      refine va_get (D := D) (ci := 7) (v := .ref a_sounds) (C := RX7) (T := TX7) (N := 16) hx hb hts ly_X7_doubtOf_X7 hown hK.1 hP 0 rfl rfl 8 (by decide) (hts (.fieldLink RX7 25 "ShorthandOutlinesModel" "sounds" "[I") wd_X7_doubtOf_4) (fun _ h9 => h9) rfl dX7_doubtOf_88 ?_
      refine lv_iload hx hb dX7_doubtOf_91 (lv_at hl 2 rfl) ?_
      have hi3 := gd_1 hf
      replace hf := gd_2 hf
      refine va_iald hx hb hK.1 hP 3 0 rfl rfl (inb_in hi3) dX7_doubtOf_93 ?_
      refine lv_iadd hx hb dX7_doubtOf_94 ?_
      have hi4 := gd_1 hf
      replace hf := gd_2 hf
      refine va_iald hx hb hK.1 hP 1 0 rfl rfl (inb_in hi4) dX7_doubtOf_95 ?_
      obtain ⟨u1, hc5, hf⟩ := ob hf
      refine g_ki (wc := []) (wc' := []) (wr := [(a_t, .inr (7, [.ref a_now, .ref a_past, .int v_saved, .ref a_errors, .ref a_text, .int v_textLength, .ref a_pad, .int v_padLength, .ref a_sounds, .int v_soundMany, .ref a_proposed, .ref a_given, .int v_proposals, .ref a_readings, .int v_readingMany, .long v_hash])), (a_now, .inl (cI, 150, .inl m_now)), (a_pad, .inl (cI, 8, .inl m_pad)), (a_sounds, .inl (cI, 8, .inl m_sounds))]) (va_runS (As := [.int (m_pad y4.toNatClampNeg), .int (m_now ((1 : Int32) + (m_sounds y4.toNatClampNeg)).toNatClampNeg)]) (rest := []) ⟨hx, hb, hml, hown, hts⟩ (kt_X7_differs l D cI cZ cS (m_pad y4.toNatClampNeg) (m_now ((1 : Int32) + (m_sounds y4.toNatClampNeg)).toNatClampNeg) u1 hc5 _) (va_cwS 2 hts gX7_doubtOf_X7_differs rfl rfl rfl sg_X7_differs.2 ⟨(Nat.le_of_ble_eq_true rfl), (Nat.le_of_ble_eq_true rfl)⟩) (g_ps hK hP hD [] rfl (by decide)) rfl rfl hl.1 rfl (lv_room (Nat.le_of_ble_eq_true rfl)) dX7_doubtOf_96 ⟨Nat.zero_le _, Nat.zero_le _⟩) hP hD hS hA [] [0, 1, 2, 3] rfl rfl (by decide) (by decide) (fun H locs hP hD hS => ?_)
      have hP : va_P D vwCl [(a_t, .inr (7, [.ref a_now, .ref a_past, .int v_saved, .ref a_errors, .ref a_text, .int v_textLength, .ref a_pad, .int v_padLength, .ref a_sounds, .int v_soundMany, .ref a_proposed, .ref a_given, .int v_proposals, .ref a_readings, .int v_readingMany, .long v_hash])), (a_now, .inl (cI, 150, .inl m_now)), (a_pad, .inl (cI, 8, .inl m_pad)), (a_sounds, .inl (cI, 8, .inl m_sounds))] H := hP
      have hD : va_D A [(a_t, .inr (7, [.ref a_now, .ref a_past, .int v_saved, .ref a_errors, .ref a_text, .int v_textLength, .ref a_pad, .int v_padLength, .ref a_sounds, .int v_soundMany, .ref a_proposed, .ref a_given, .int v_proposals, .ref a_readings, .int v_readingMany, .long v_hash])), (a_now, .inl (cI, 150, .inl m_now)), (a_pad, .inl (cI, 8, .inl m_pad)), (a_sounds, .inl (cI, 8, .inl m_sounds))] := hD
      refine lv_istore (lv' := [(5, .int u1), (0, .ref a_t), (3, .int y3), (4, .int y4)]) hx hb dX7_doubtOf_99 hl (by decide) rfl (fun ls hl => ?_)
      refine lv_aload_n hx hb dX7_doubtOf_101 rfl (lv_at hl 1 rfl) ?_
      refine va_get (D := D) (ci := 7) (v := .ref a_now) (C := RX7) (T := TX7) (N := 16) hx hb hts ly_X7_doubtOf_X7 hown hK.1 hP 0 rfl rfl 0 (by decide) (hts (.fieldLink RX7 7 "ShorthandOutlinesModel" "now" "[I") wd_X7_doubtOf_0) (fun _ h9 => h9) rfl dX7_doubtOf_102 ?_
      refine lv_bipush (v := 9) hx hb dX7_doubtOf_105 (by decide) ?_
      refine lv_aload_n hx hb dX7_doubtOf_107 rfl (lv_at hl 1 rfl) ?_
      refine va_get (D := D) (ci := 7) (v := .ref a_sounds) (C := RX7) (T := TX7) (N := 16) hx hb hts ly_X7_doubtOf_X7 hown hK.1 hP 0 rfl rfl 8 (by decide) (hts (.fieldLink RX7 25 "ShorthandOutlinesModel" "sounds" "[I") wd_X7_doubtOf_4) (fun _ h9 => h9) rfl dX7_doubtOf_108 ?_
      refine lv_iload hx hb dX7_doubtOf_111 (lv_at hl 3 rfl) ?_
      have hi6 := gd_1 hf
      replace hf := gd_2 hf
      refine va_iald hx hb hK.1 hP 3 0 rfl rfl (inb_in hi6) dX7_doubtOf_113 ?_
      refine lv_iadd hx hb dX7_doubtOf_114 ?_
      have hi7 := gd_1 hf
      replace hf := gd_2 hf
      refine va_iald hx hb hK.1 hP 1 0 rfl rfl (inb_in hi7) dX7_doubtOf_115 ?_
      refine lv_iconst (v := -1) hx hb dX7_doubtOf_116 (by decide) ?_
      refine lv_icmp_ne (tgt := 125) hx hb dX7_doubtOf_117 (by decide) (fun hb8 => ?_) (fun hb8 => ?_)
      · replace hf := if_f hb8 hf
        refine lv_aload_n hx hb dX7_doubtOf_125 rfl (lv_at hl 1 rfl) ?_
        refine va_get (D := D) (ci := 7) (v := .ref a_pad) (C := RX7) (T := TX7) (N := 16) hx hb hts ly_X7_doubtOf_X7 hown hK.1 hP 0 rfl rfl 6 (by decide) (hts (.fieldLink RX7 22 "ShorthandOutlinesModel" "pad" "[I") wd_X7_doubtOf_2) (fun _ h9 => h9) rfl dX7_doubtOf_126 ?_
        refine lv_iload hx hb dX7_doubtOf_129 (lv_at hl 3 rfl) ?_
        have hi9 := gd_1 hf
        replace hf := gd_2 hf
        refine va_iald hx hb hK.1 hP 2 0 rfl rfl (inb_in hi9) dX7_doubtOf_131 ?_
        refine lv_aload_n hx hb dX7_doubtOf_132 rfl (lv_at hl 1 rfl) ?_
        refine va_get (D := D) (ci := 7) (v := .ref a_now) (C := RX7) (T := TX7) (N := 16) hx hb hts ly_X7_doubtOf_X7 hown hK.1 hP 0 rfl rfl 0 (by decide) (hts (.fieldLink RX7 7 "ShorthandOutlinesModel" "now" "[I") wd_X7_doubtOf_0) (fun _ h9 => h9) rfl dX7_doubtOf_133 ?_
        refine lv_bipush (v := 9) hx hb dX7_doubtOf_136 (by decide) ?_
        refine lv_aload_n hx hb dX7_doubtOf_138 rfl (lv_at hl 1 rfl) ?_
        refine va_get (D := D) (ci := 7) (v := .ref a_sounds) (C := RX7) (T := TX7) (N := 16) hx hb hts ly_X7_doubtOf_X7 hown hK.1 hP 0 rfl rfl 8 (by decide) (hts (.fieldLink RX7 25 "ShorthandOutlinesModel" "sounds" "[I") wd_X7_doubtOf_4) (fun _ h9 => h9) rfl dX7_doubtOf_139 ?_
        refine lv_iload hx hb dX7_doubtOf_142 (lv_at hl 3 rfl) ?_
        have hi10 := gd_1 hf
        replace hf := gd_2 hf
        refine va_iald hx hb hK.1 hP 3 0 rfl rfl (inb_in hi10) dX7_doubtOf_144 ?_
        refine lv_iadd hx hb dX7_doubtOf_145 ?_
        have hi11 := gd_1 hf
        replace hf := gd_2 hf
        refine va_iald hx hb hK.1 hP 1 0 rfl rfl (inb_in hi11) dX7_doubtOf_146 ?_
        obtain ⟨u2, hc12, hf⟩ := ob hf
        refine g_ki (wc := []) (wc' := []) (wr := [(a_t, .inr (7, [.ref a_now, .ref a_past, .int v_saved, .ref a_errors, .ref a_text, .int v_textLength, .ref a_pad, .int v_padLength, .ref a_sounds, .int v_soundMany, .ref a_proposed, .ref a_given, .int v_proposals, .ref a_readings, .int v_readingMany, .long v_hash])), (a_now, .inl (cI, 150, .inl m_now)), (a_pad, .inl (cI, 8, .inl m_pad)), (a_sounds, .inl (cI, 8, .inl m_sounds))]) (va_runS (As := [.int (m_pad y4.toNatClampNeg), .int (m_now ((9 : Int32) + (m_sounds y4.toNatClampNeg)).toNatClampNeg)]) (rest := []) ⟨hx, hb, hml, hown, hts⟩ (kt_X7_differs l D cI cZ cS (m_pad y4.toNatClampNeg) (m_now ((9 : Int32) + (m_sounds y4.toNatClampNeg)).toNatClampNeg) u2 hc12 _) (va_cwS 2 hts gX7_doubtOf_X7_differs rfl rfl rfl sg_X7_differs.2 ⟨(Nat.le_of_ble_eq_true rfl), (Nat.le_of_ble_eq_true rfl)⟩) (g_ps hK hP hD [] rfl (by decide)) rfl rfl hl.1 rfl (lv_room (Nat.le_of_ble_eq_true rfl)) dX7_doubtOf_147 ⟨Nat.zero_le _, Nat.zero_le _⟩) hP hD hS hA [] [0, 1, 2, 3] rfl rfl (by decide) (by decide) (fun H locs hP hD hS => ?_)
        have hP : va_P D vwCl [(a_t, .inr (7, [.ref a_now, .ref a_past, .int v_saved, .ref a_errors, .ref a_text, .int v_textLength, .ref a_pad, .int v_padLength, .ref a_sounds, .int v_soundMany, .ref a_proposed, .ref a_given, .int v_proposals, .ref a_readings, .int v_readingMany, .long v_hash])), (a_now, .inl (cI, 150, .inl m_now)), (a_pad, .inl (cI, 8, .inl m_pad)), (a_sounds, .inl (cI, 8, .inl m_sounds))] H := hP
        have hD : va_D A [(a_t, .inr (7, [.ref a_now, .ref a_past, .int v_saved, .ref a_errors, .ref a_text, .int v_textLength, .ref a_pad, .int v_padLength, .ref a_sounds, .int v_soundMany, .ref a_proposed, .ref a_given, .int v_proposals, .ref a_readings, .int v_readingMany, .long v_hash])), (a_now, .inl (cI, 150, .inl m_now)), (a_pad, .inl (cI, 8, .inl m_pad)), (a_sounds, .inl (cI, 8, .inl m_sounds))] := hD
        refine lv_istore (lv' := [(6, .int u2), (5, .int u1), (0, .ref a_t), (3, .int y3), (4, .int y4)]) hx hb dX7_doubtOf_150 hl (by decide) rfl (fun ls hl => ?_)
        refine lv_iload_n hx hb dX7_doubtOf_152 rfl (lv_at hl 3 rfl) ?_
        refine lv_iload hx hb dX7_doubtOf_153 (lv_at hl 1 rfl) ?_
        refine lv_iload hx hb dX7_doubtOf_155 (lv_at hl 0 rfl) ?_
        refine lv_icmp_ge (tgt := 165) hx hb dX7_doubtOf_157 (by decide) (fun hb13 => ?_) (fun hb13 => ?_)
        · replace hf := if_t hb13 hf
          refine lv_iload hx hb dX7_doubtOf_165 (lv_at hl 0 rfl) ?_
          refine lv_iadd hx hb dX7_doubtOf_167 ?_
          refine lv_istore_n (lv' := [(3, .int (y3 + u2)), (6, .int u2), (5, .int u1), (0, .ref a_t), (4, .int y4)]) hx hb dX7_doubtOf_168 rfl hl (by decide) rfl (fun ls hl => ?_)
          refine lv_iinc (v := (y4 + 1)) (lv' := [(4, .int (y4 + 1)), (3, .int (y3 + u2)), (6, .int u2), (5, .int u1), (0, .ref a_t)]) hx hb dX7_doubtOf_169 hl (k := 4) rfl rfl (by decide) rfl (fun ls hl => ?_)
          refine lv_goto (tgt := 66) hx hb dX7_doubtOf_172 (by decide) ?_
          exact ih (y3 + u2) (y4 + 1) o _ _ _ hf hP hD hS (lv_sub hl [4, 1, 0] rfl) kk
        · replace hf := if_f hb13 hf
          refine lv_iload hx hb dX7_doubtOf_160 (lv_at hl 1 rfl) ?_
          refine lv_goto (tgt := 167) hx hb dX7_doubtOf_162 (by decide) ?_
          refine lv_iadd hx hb dX7_doubtOf_167 ?_
          refine lv_istore_n (lv' := [(3, .int (y3 + u1)), (6, .int u2), (5, .int u1), (0, .ref a_t), (4, .int y4)]) hx hb dX7_doubtOf_168 rfl hl (by decide) rfl (fun ls hl => ?_)
          refine lv_iinc (v := (y4 + 1)) (lv' := [(4, .int (y4 + 1)), (3, .int (y3 + u1)), (6, .int u2), (5, .int u1), (0, .ref a_t)]) hx hb dX7_doubtOf_169 hl (k := 4) rfl rfl (by decide) rfl (fun ls hl => ?_)
          refine lv_goto (tgt := 66) hx hb dX7_doubtOf_172 (by decide) ?_
          exact ih (y3 + u1) (y4 + 1) o _ _ _ hf hP hD hS (lv_sub hl [4, 1, 0] rfl) kk
      · replace hf := if_t hb8 hf
        refine lv_bipush (v := 99) hx hb dX7_doubtOf_120 (by decide) ?_
        refine lv_goto (tgt := 150) hx hb dX7_doubtOf_122 (by decide) ?_
        refine lv_istore (lv' := [(6, .int (99 : Int32)), (5, .int u1), (0, .ref a_t), (3, .int y3), (4, .int y4)]) hx hb dX7_doubtOf_150 hl (by decide) rfl (fun ls hl => ?_)
        refine lv_iload_n hx hb dX7_doubtOf_152 rfl (lv_at hl 3 rfl) ?_
        refine lv_iload hx hb dX7_doubtOf_153 (lv_at hl 1 rfl) ?_
        refine lv_iload hx hb dX7_doubtOf_155 (lv_at hl 0 rfl) ?_
        refine lv_icmp_ge (tgt := 165) hx hb dX7_doubtOf_157 (by decide) (fun hb14 => ?_) (fun hb14 => ?_)
        · replace hf := if_t hb14 hf
          refine lv_iload hx hb dX7_doubtOf_165 (lv_at hl 0 rfl) ?_
          refine lv_iadd hx hb dX7_doubtOf_167 ?_
          refine lv_istore_n (lv' := [(3, .int (y3 + (99 : Int32))), (6, .int (99 : Int32)), (5, .int u1), (0, .ref a_t), (4, .int y4)]) hx hb dX7_doubtOf_168 rfl hl (by decide) rfl (fun ls hl => ?_)
          refine lv_iinc (v := (y4 + 1)) (lv' := [(4, .int (y4 + 1)), (3, .int (y3 + (99 : Int32))), (6, .int (99 : Int32)), (5, .int u1), (0, .ref a_t)]) hx hb dX7_doubtOf_169 hl (k := 4) rfl rfl (by decide) rfl (fun ls hl => ?_)
          refine lv_goto (tgt := 66) hx hb dX7_doubtOf_172 (by decide) ?_
          exact ih (y3 + (99 : Int32)) (y4 + 1) o _ _ _ hf hP hD hS (lv_sub hl [4, 1, 0] rfl) kk
        · replace hf := if_f hb14 hf
          refine lv_iload hx hb dX7_doubtOf_160 (lv_at hl 1 rfl) ?_
          refine lv_goto (tgt := 167) hx hb dX7_doubtOf_162 (by decide) ?_
          refine lv_iadd hx hb dX7_doubtOf_167 ?_
          refine lv_istore_n (lv' := [(3, .int (y3 + u1)), (6, .int (99 : Int32)), (5, .int u1), (0, .ref a_t), (4, .int y4)]) hx hb dX7_doubtOf_168 rfl hl (by decide) rfl (fun ls hl => ?_)
          refine lv_iinc (v := (y4 + 1)) (lv' := [(4, .int (y4 + 1)), (3, .int (y3 + u1)), (6, .int (99 : Int32)), (5, .int u1), (0, .ref a_t)]) hx hb dX7_doubtOf_169 hl (k := 4) rfl rfl (by decide) rfl (fun ls hl => ?_)
          refine lv_goto (tgt := 66) hx hb dX7_doubtOf_172 (by decide) ?_
          exact ih (y3 + u1) (y4 + 1) o _ _ _ hf hP hD hS (lv_sub hl [4, 1, 0] rfl) kk
set_option maxHeartbeats 4000000 in
set_option maxRecDepth 100000 in
theorem kt_X7_doubtOf (l : Launch) (D : va_G) (cI cZ cS : ClassId) (a_t : Nat) (a_now : Nat) (a_pad : Nat) (a_sounds : Nat) (a_past : Nat) (a_errors : Nat) (a_text : Nat) (a_proposed : Nat) (a_given : Nat) (a_readings : Nat) (v_saved : Int32) (v_textLength : Int32) (v_proposals : Int32) (v_readingMany : Int32) (v_hash : Int64) (v_padLength : Int32) (v_soundMany : Int32) (m_now : Nat → Int32) (m_pad : Nat → Int32) (m_sounds : Nat → Int32) (x1 : Int32) (o : Int32 × Int32 × (Nat → Int32)) (hf : fn_X7_doubtOf v_padLength v_soundMany m_now m_pad m_sounds x1 = some o) (sz : Nat) : Met l yX7_doubtOf wsX7_doubtOf rm_X7_doubtOf (va_Pc [.ref a_t, .int x1] (gPre D cI cZ cS [(a_t, .inr (7, [.ref a_now, .ref a_past, .int v_saved, .ref a_errors, .ref a_text, .int v_textLength, .ref a_pad, .int v_padLength, .ref a_sounds, .int v_soundMany, .ref a_proposed, .ref a_given, .int v_proposals, .ref a_readings, .int v_readingMany, .long v_hash])), (a_now, .inl (cI, 150, .inl m_now)), (a_pad, .inl (cI, 8, .inl m_pad)), (a_sounds, .inl (cI, 8, .inl m_sounds))] sz)) (va_Qi (fun r (_ : Unit) => r = o.1) (fun _ => gB D [(a_t, .inr (7, [.ref a_now, .ref a_past, .int v_saved, .ref a_errors, .ref a_text, .int v_textLength, .ref a_pad, .int v_padLength, .ref a_sounds, .int o.2.1, .ref a_proposed, .ref a_given, .int v_proposals, .ref a_readings, .int v_readingMany, .long v_hash])), (a_now, .inl (cI, 150, .inl m_now)), (a_pad, .inl (cI, 8, .inl m_pad)), (a_sounds, .inl (cI, 8, .inl o.2.2))] (va_A [(a_t, .inr (7, [.ref a_now, .ref a_past, .int v_saved, .ref a_errors, .ref a_text, .int v_textLength, .ref a_pad, .int v_padLength, .ref a_sounds, .int v_soundMany, .ref a_proposed, .ref a_given, .int v_proposals, .ref a_readings, .int v_readingMany, .long v_hash])), (a_now, .inl (cI, 150, .inl m_now)), (a_pad, .inl (cI, 8, .inl m_pad)), (a_sounds, .inl (cI, 8, .inl m_sounds))] sz)) (va_A [(a_t, .inr (7, [.ref a_now, .ref a_past, .int v_saved, .ref a_errors, .ref a_text, .int v_textLength, .ref a_pad, .int v_padLength, .ref a_sounds, .int v_soundMany, .ref a_proposed, .ref a_given, .int v_proposals, .ref a_readings, .int v_readingMany, .long v_hash])), (a_now, .inl (cI, 150, .inl m_now)), (a_pad, .inl (cI, 8, .inl m_pad)), (a_sounds, .inl (cI, 8, .inl m_sounds))] sz)) 0 0 (va_A [(a_t, .inr (7, [.ref a_now, .ref a_past, .int v_saved, .ref a_errors, .ref a_text, .int v_textLength, .ref a_pad, .int v_padLength, .ref a_sounds, .int v_soundMany, .ref a_proposed, .ref a_given, .int v_proposals, .ref a_readings, .int v_readingMany, .long v_hash])), (a_now, .inl (cI, 150, .inl m_now)), (a_pad, .inl (cI, 8, .inl m_pad)), (a_sounds, .inl (cI, 8, .inl m_sounds))] sz) := by
  refine g_entry (Qc := fun A => va_Qi (fun r (_ : Unit) => r = o.1) (fun _ => gB D [(a_t, .inr (7, [.ref a_now, .ref a_past, .int v_saved, .ref a_errors, .ref a_text, .int v_textLength, .ref a_pad, .int v_padLength, .ref a_sounds, .int o.2.1, .ref a_proposed, .ref a_given, .int v_proposals, .ref a_readings, .int v_readingMany, .long v_hash])), (a_now, .inl (cI, 150, .inl m_now)), (a_pad, .inl (cI, 8, .inl m_pad)), (a_sounds, .inl (cI, 8, .inl o.2.2))] A) A) (cc := cX7_doubtOf) (maxL := 7) (ret := (some .int)) (by decide) rfl (Nat.le_of_ble_eq_true rfl) ?_ sz
  intro p e s m below meth c A ls Cx hP hD hS hl
  obtain ⟨hx, hb, hml, hr, hlk, hown, hin, hts, hK, hA⟩ := id Cx
  have hown : s.vm.findClass RX7 = some m.cls := hown
  have hl : lv_has ls 7 [(0, .ref a_t), (1, .int x1)] := hl
  unfold fn_X7_doubtOf at hf
  refine lv_aload_n hx hb dX7_doubtOf_0 rfl (lv_at hl 0 rfl) ?_
  refine va_get (D := D) (ci := 7) (v := .ref a_now) (C := RX7) (T := TX7) (N := 16) hx hb hts ly_X7_doubtOf_X7 hown hK.1 hP 0 rfl rfl 0 (by decide) (hts (.fieldLink RX7 7 "ShorthandOutlinesModel" "now" "[I") wd_X7_doubtOf_0) (fun _ h9 => h9) rfl dX7_doubtOf_1 ?_
  refine lv_bipush (v := 42) hx hb dX7_doubtOf_4 (by decide) ?_
  refine lv_iload_n hx hb dX7_doubtOf_6 rfl (lv_at hl 1 rfl) ?_
  refine lv_iadd hx hb dX7_doubtOf_7 ?_
  have hi1 := gd_1 hf
  replace hf := gd_2 hf
  refine va_iald hx hb hK.1 hP 1 0 rfl rfl (inb_in hi1) dX7_doubtOf_8 ?_
  refine lv_istore_n (lv' := [(2, .int (m_now ((42 : Int32) + x1).toNatClampNeg)), (0, .ref a_t), (1, .int x1)]) hx hb dX7_doubtOf_9 rfl hl (by decide) rfl (fun ls hl => ?_)
  refine lv_aload_n hx hb dX7_doubtOf_10 rfl (lv_at hl 1 rfl) ?_
  refine lv_iload_n hx hb dX7_doubtOf_11 rfl (lv_at hl 2 rfl) ?_
  obtain ⟨u1, hc2, hf⟩ := ob hf
  refine g_kv (wc := [(a_t, .inr (7, [.ref a_now, .ref a_past, .int v_saved, .ref a_errors, .ref a_text, .int v_textLength, .ref a_pad, .int v_padLength, .ref a_sounds, .int v_soundMany, .ref a_proposed, .ref a_given, .int v_proposals, .ref a_readings, .int v_readingMany, .long v_hash])), (a_now, .inl (cI, 150, .inl m_now)), (a_sounds, .inl (cI, 8, .inl m_sounds))]) (wc' := [(a_t, .inr (7, [.ref a_now, .ref a_past, .int v_saved, .ref a_errors, .ref a_text, .int v_textLength, .ref a_pad, .int v_padLength, .ref a_sounds, .int u1.1, .ref a_proposed, .ref a_given, .int v_proposals, .ref a_readings, .int v_readingMany, .long v_hash])), (a_now, .inl (cI, 150, .inl m_now)), (a_sounds, .inl (cI, 8, .inl u1.2))]) (wr := [(a_pad, .inl (cI, 8, .inl m_pad))]) (va_runV (As := [.int x1]) (rest := []) ⟨hx, hb, hml, hown, hts⟩ (kt_X7_laysSounds l D cI cZ cS a_t a_now a_sounds a_past a_errors a_text a_pad a_proposed a_given a_readings v_saved v_textLength v_padLength v_proposals v_readingMany v_hash v_soundMany m_now m_sounds x1 u1 hc2 _) (cwV 1 hts gX7_doubtOf_X7_laysSounds rfl rfl rfl sg_X7_laysSounds ⟨(Nat.le_of_ble_eq_true rfl), (Nat.le_of_ble_eq_true rfl)⟩) (g_pv (q := (RX7, TX7, 16)) hK hP hD [0, 1, 3] rfl (by decide) rfl rfl) rfl rfl hl.1 rfl (lv_room (Nat.le_of_ble_eq_true rfl)) dX7_doubtOf_12 ⟨Nat.zero_le _, Nat.zero_le _⟩) hP hD hS hA [0, 1, 3] [2] rfl rfl (by decide) (by decide) (fun H locs hP hD hS => ?_)
  have hP : va_P D vwCl [(a_pad, .inl (cI, 8, .inl m_pad)), (a_t, .inr (7, [.ref a_now, .ref a_past, .int v_saved, .ref a_errors, .ref a_text, .int v_textLength, .ref a_pad, .int v_padLength, .ref a_sounds, .int u1.1, .ref a_proposed, .ref a_given, .int v_proposals, .ref a_readings, .int v_readingMany, .long v_hash])), (a_now, .inl (cI, 150, .inl m_now)), (a_sounds, .inl (cI, 8, .inl u1.2))] H := hP
  have hD : va_D A [(a_pad, .inl (cI, 8, .inl m_pad)), (a_t, .inr (7, [.ref a_now, .ref a_past, .int v_saved, .ref a_errors, .ref a_text, .int v_textLength, .ref a_pad, .int v_padLength, .ref a_sounds, .int u1.1, .ref a_proposed, .ref a_given, .int v_proposals, .ref a_readings, .int v_readingMany, .long v_hash])), (a_now, .inl (cI, 150, .inl m_now)), (a_sounds, .inl (cI, 8, .inl u1.2))] := hD
  refine lv_bipush (v := 99) hx hb dX7_doubtOf_15 (by decide) ?_
  refine lv_istore_n (lv' := [(3, .int (99 : Int32)), (2, .int (m_now ((42 : Int32) + x1).toNatClampNeg)), (0, .ref a_t), (1, .int x1)]) hx hb dX7_doubtOf_17 rfl hl (by decide) rfl (fun ls hl => ?_)
  refine lv_iload_n hx hb dX7_doubtOf_18 rfl (lv_at hl 1 rfl) ?_
  refine lv_iconst (v := -1) hx hb dX7_doubtOf_19 (by decide) ?_
  refine lv_icmp_eq (tgt := 50) hx hb dX7_doubtOf_20 (by decide) (fun hb3 => ?_) (fun hb3 => ?_)
  · replace hf := if_t hb3 hf
    refine lv_aload_n hx hb dX7_doubtOf_50 rfl (lv_at hl 2 rfl) ?_
    refine va_get (D := D) (ci := 7) (v := .int u1.1) (C := RX7) (T := TX7) (N := 16) hx hb hts ly_X7_doubtOf_X7 hown hK.1 hP 1 rfl rfl 9 (by decide) (hts (.fieldLink RX7 70 "ShorthandOutlinesModel" "soundMany" "I") wd_X7_doubtOf_3) (fun _ h9 => h9) rfl dX7_doubtOf_51 ?_
    refine lv_aload_n hx hb dX7_doubtOf_54 rfl (lv_at hl 2 rfl) ?_
    refine va_get (D := D) (ci := 7) (v := .int v_padLength) (C := RX7) (T := TX7) (N := 16) hx hb hts ly_X7_doubtOf_X7 hown hK.1 hP 1 rfl rfl 7 (by decide) (hts (.fieldLink RX7 105 "ShorthandOutlinesModel" "padLength" "I") wd_X7_doubtOf_1) (fun _ h9 => h9) rfl dX7_doubtOf_55 ?_
    refine lv_icmp_ne (tgt := 175) hx hb dX7_doubtOf_58 (by decide) (fun hb4 => ?_) (fun hb4 => ?_)
    · replace hf := if_f hb4 hf
      refine lv_iload_n hx hb dX7_doubtOf_175 rfl (lv_at hl 0 rfl) ?_
      refine lv_iconst (v := 3) hx hb dX7_doubtOf_176 (by decide) ?_
      refine lv_icmp_le (tgt := 184) hx hb dX7_doubtOf_177 (by decide) (fun h0 => absurd h0 (by decide)) (fun _ => ?_)
      refine lv_iconst (v := -1) hx hb dX7_doubtOf_180 (by decide) ?_
      refine lv_goto (tgt := 185) hx hb dX7_doubtOf_181 (by decide) ?_
      have hP : va_P D vwCl [(a_t, .inr (7, [.ref a_now, .ref a_past, .int v_saved, .ref a_errors, .ref a_text, .int v_textLength, .ref a_pad, .int v_padLength, .ref a_sounds, .int u1.1, .ref a_proposed, .ref a_given, .int v_proposals, .ref a_readings, .int v_readingMany, .long v_hash])), (a_now, .inl (cI, 150, .inl m_now)), (a_pad, .inl (cI, 8, .inl m_pad)), (a_sounds, .inl (cI, 8, .inl u1.2))] H := hP.sub [1, 2, 0, 3] rfl
      have hD : va_D A [(a_t, .inr (7, [.ref a_now, .ref a_past, .int v_saved, .ref a_errors, .ref a_text, .int v_textLength, .ref a_pad, .int v_padLength, .ref a_sounds, .int u1.1, .ref a_proposed, .ref a_given, .int v_proposals, .ref a_readings, .int v_readingMany, .long v_hash])), (a_now, .inl (cI, 150, .inl m_now)), (a_pad, .inl (cI, 8, .inl m_pad)), (a_sounds, .inl (cI, 8, .inl u1.2))] := hD.sub [1, 2, 0, 3] (by decide +kernel) rfl
      have ho := so hf
      subst ho
      exact g_iret hx hb hr hlk hP hD hS dX7_doubtOf_185
    · replace hf := if_t hb4 hf
      refine lv_iconst (v := 0) hx hb dX7_doubtOf_61 (by decide) ?_
      refine lv_istore_n (lv' := [(3, .int (0 : Int32)), (2, .int (m_now ((42 : Int32) + x1).toNatClampNeg)), (0, .ref a_t), (1, .int x1)]) hx hb dX7_doubtOf_62 rfl hl (by decide) rfl (fun ls hl => ?_)
      refine lv_iconst (v := 0) hx hb dX7_doubtOf_63 (by decide) ?_
      refine lv_istore (lv' := [(4, .int (0 : Int32)), (3, .int (0 : Int32)), (2, .int (m_now ((42 : Int32) + x1).toNatClampNeg)), (0, .ref a_t), (1, .int x1)]) hx hb dX7_doubtOf_64 hl (by decide) rfl (fun ls hl => ?_)
      have hP : va_P D vwCl [(a_t, .inr (7, [.ref a_now, .ref a_past, .int v_saved, .ref a_errors, .ref a_text, .int v_textLength, .ref a_pad, .int v_padLength, .ref a_sounds, .int u1.1, .ref a_proposed, .ref a_given, .int v_proposals, .ref a_readings, .int v_readingMany, .long v_hash])), (a_now, .inl (cI, 150, .inl m_now)), (a_pad, .inl (cI, 8, .inl m_pad)), (a_sounds, .inl (cI, 8, .inl u1.2))] H := hP.sub [1, 2, 0, 3] rfl
      have hD : va_D A [(a_t, .inr (7, [.ref a_now, .ref a_past, .int v_saved, .ref a_errors, .ref a_text, .int v_textLength, .ref a_pad, .int v_padLength, .ref a_sounds, .int u1.1, .ref a_proposed, .ref a_given, .int v_proposals, .ref a_readings, .int v_readingMany, .long v_hash])), (a_now, .inl (cI, 150, .inl m_now)), (a_pad, .inl (cI, 8, .inl m_pad)), (a_sounds, .inl (cI, 8, .inl u1.2))] := hD.sub [1, 2, 0, 3] (by decide +kernel) rfl
      obtain ⟨u2, hc5, hf⟩ := ob hf
      refine lt_X7_doubtOf_66 Cx a_t a_now a_past v_saved a_errors a_text v_textLength a_pad v_padLength a_sounds u1.1 a_proposed a_given v_proposals a_readings v_readingMany v_hash m_now m_pad u1.2 1024 (0 : Int32) (0 : Int32) u2 _ _ _ hc5 hP hD hS (lv_sub hl [3, 1, 0] rfl) (fun H locs ls hP hD hS hl => ?_)
      have hP : va_P D vwCl [(a_t, .inr (7, [.ref a_now, .ref a_past, .int v_saved, .ref a_errors, .ref a_text, .int v_textLength, .ref a_pad, .int v_padLength, .ref a_sounds, .int u1.1, .ref a_proposed, .ref a_given, .int v_proposals, .ref a_readings, .int v_readingMany, .long v_hash])), (a_now, .inl (cI, 150, .inl m_now)), (a_pad, .inl (cI, 8, .inl m_pad)), (a_sounds, .inl (cI, 8, .inl u1.2))] H := hP
      have hD : va_D A [(a_t, .inr (7, [.ref a_now, .ref a_past, .int v_saved, .ref a_errors, .ref a_text, .int v_textLength, .ref a_pad, .int v_padLength, .ref a_sounds, .int u1.1, .ref a_proposed, .ref a_given, .int v_proposals, .ref a_readings, .int v_readingMany, .long v_hash])), (a_now, .inl (cI, 150, .inl m_now)), (a_pad, .inl (cI, 8, .inl m_pad)), (a_sounds, .inl (cI, 8, .inl u1.2))] := hD
      have hl : lv_has ls 7 [(3, .int u2)] := hl
      refine lv_iload_n hx hb dX7_doubtOf_175 rfl (lv_at hl 0 rfl) ?_
      refine lv_iconst (v := 3) hx hb dX7_doubtOf_176 (by decide) ?_
      refine lv_icmp_le (tgt := 184) hx hb dX7_doubtOf_177 (by decide) (fun hb6 => ?_) (fun hb6 => ?_)
      · replace hf := if_t hb6 hf
        refine lv_iload_n hx hb dX7_doubtOf_184 rfl (lv_at hl 0 rfl) ?_
        have ho := so hf
        subst ho
        exact g_iret hx hb hr hlk hP hD hS dX7_doubtOf_185
      · replace hf := if_f hb6 hf
        refine lv_iconst (v := -1) hx hb dX7_doubtOf_180 (by decide) ?_
        refine lv_goto (tgt := 185) hx hb dX7_doubtOf_181 (by decide) ?_
        have ho := so hf
        subst ho
        exact g_iret hx hb hr hlk hP hD hS dX7_doubtOf_185
  · replace hf := if_f hb3 hf
    refine lv_aload_n hx hb dX7_doubtOf_23 rfl (lv_at hl 2 rfl) ?_
    refine va_get (D := D) (ci := 7) (v := .int v_padLength) (C := RX7) (T := TX7) (N := 16) hx hb hts ly_X7_doubtOf_X7 hown hK.1 hP 1 rfl rfl 7 (by decide) (hts (.fieldLink RX7 105 "ShorthandOutlinesModel" "padLength" "I") wd_X7_doubtOf_1) (fun _ h9 => h9) rfl dX7_doubtOf_24 ?_
    refine lv_iconst (v := 1) hx hb dX7_doubtOf_27 (by decide) ?_
    refine lv_icmp_ne (tgt := 44) hx hb dX7_doubtOf_28 (by decide) (fun hb7 => ?_) (fun hb7 => ?_)
    · replace hf := if_f hb7 hf
      refine lv_bipush (v := 99) hx hb dX7_doubtOf_44 (by decide) ?_
      refine lv_istore_n (lv' := [(3, .int (99 : Int32)), (2, .int (m_now ((42 : Int32) + x1).toNatClampNeg)), (0, .ref a_t), (1, .int x1)]) hx hb dX7_doubtOf_46 rfl hl (by decide) rfl (fun ls hl => ?_)
      refine lv_goto (tgt := 175) hx hb dX7_doubtOf_47 (by decide) ?_
      refine lv_iload_n hx hb dX7_doubtOf_175 rfl (lv_at hl 0 rfl) ?_
      refine lv_iconst (v := 3) hx hb dX7_doubtOf_176 (by decide) ?_
      refine lv_icmp_le (tgt := 184) hx hb dX7_doubtOf_177 (by decide) (fun h0 => absurd h0 (by decide)) (fun _ => ?_)
      refine lv_iconst (v := -1) hx hb dX7_doubtOf_180 (by decide) ?_
      refine lv_goto (tgt := 185) hx hb dX7_doubtOf_181 (by decide) ?_
      have hP : va_P D vwCl [(a_t, .inr (7, [.ref a_now, .ref a_past, .int v_saved, .ref a_errors, .ref a_text, .int v_textLength, .ref a_pad, .int v_padLength, .ref a_sounds, .int u1.1, .ref a_proposed, .ref a_given, .int v_proposals, .ref a_readings, .int v_readingMany, .long v_hash])), (a_now, .inl (cI, 150, .inl m_now)), (a_pad, .inl (cI, 8, .inl m_pad)), (a_sounds, .inl (cI, 8, .inl u1.2))] H := hP.sub [1, 2, 0, 3] rfl
      have hD : va_D A [(a_t, .inr (7, [.ref a_now, .ref a_past, .int v_saved, .ref a_errors, .ref a_text, .int v_textLength, .ref a_pad, .int v_padLength, .ref a_sounds, .int u1.1, .ref a_proposed, .ref a_given, .int v_proposals, .ref a_readings, .int v_readingMany, .long v_hash])), (a_now, .inl (cI, 150, .inl m_now)), (a_pad, .inl (cI, 8, .inl m_pad)), (a_sounds, .inl (cI, 8, .inl u1.2))] := hD.sub [1, 2, 0, 3] (by decide +kernel) rfl
      have ho := so hf
      subst ho
      exact g_iret hx hb hr hlk hP hD hS dX7_doubtOf_185
    · replace hf := if_t hb7 hf
      refine lv_aload_n hx hb dX7_doubtOf_31 rfl (lv_at hl 2 rfl) ?_
      refine va_get (D := D) (ci := 7) (v := .ref a_pad) (C := RX7) (T := TX7) (N := 16) hx hb hts ly_X7_doubtOf_X7 hown hK.1 hP 1 rfl rfl 6 (by decide) (hts (.fieldLink RX7 22 "ShorthandOutlinesModel" "pad" "[I") wd_X7_doubtOf_2) (fun _ h9 => h9) rfl dX7_doubtOf_32 ?_
      refine lv_iconst (v := 0) hx hb dX7_doubtOf_35 (by decide) ?_
      refine va_iald hx hb hK.1 hP 0 0 rfl rfl (by unfold vp_in; decide) dX7_doubtOf_36 ?_
      refine lv_iload_n hx hb dX7_doubtOf_37 rfl (lv_at hl 1 rfl) ?_
      obtain ⟨u3, hc8, hf⟩ := ob hf
      refine g_ki (wc := []) (wc' := []) (wr := [(a_pad, .inl (cI, 8, .inl m_pad)), (a_t, .inr (7, [.ref a_now, .ref a_past, .int v_saved, .ref a_errors, .ref a_text, .int v_textLength, .ref a_pad, .int v_padLength, .ref a_sounds, .int u1.1, .ref a_proposed, .ref a_given, .int v_proposals, .ref a_readings, .int v_readingMany, .long v_hash])), (a_now, .inl (cI, 150, .inl m_now)), (a_sounds, .inl (cI, 8, .inl u1.2))]) (va_runS (As := [.int (m_pad (0 : Int32).toNatClampNeg), .int (m_now ((42 : Int32) + x1).toNatClampNeg)]) (rest := []) ⟨hx, hb, hml, hown, hts⟩ (kt_X7_differs l D cI cZ cS (m_pad (0 : Int32).toNatClampNeg) (m_now ((42 : Int32) + x1).toNatClampNeg) u3 hc8 _) (va_cwS 2 hts gX7_doubtOf_X7_differs rfl rfl rfl sg_X7_differs.2 ⟨(Nat.le_of_ble_eq_true rfl), (Nat.le_of_ble_eq_true rfl)⟩) (g_ps hK hP hD [] rfl (by decide)) rfl rfl hl.1 rfl (lv_room (Nat.le_of_ble_eq_true rfl)) dX7_doubtOf_38 ⟨Nat.zero_le _, Nat.zero_le _⟩) hP hD hS hA [] [0, 1, 2, 3] rfl rfl (by decide) (by decide) (fun H locs hP hD hS => ?_)
      have hP : va_P D vwCl [(a_pad, .inl (cI, 8, .inl m_pad)), (a_t, .inr (7, [.ref a_now, .ref a_past, .int v_saved, .ref a_errors, .ref a_text, .int v_textLength, .ref a_pad, .int v_padLength, .ref a_sounds, .int u1.1, .ref a_proposed, .ref a_given, .int v_proposals, .ref a_readings, .int v_readingMany, .long v_hash])), (a_now, .inl (cI, 150, .inl m_now)), (a_sounds, .inl (cI, 8, .inl u1.2))] H := hP
      have hD : va_D A [(a_pad, .inl (cI, 8, .inl m_pad)), (a_t, .inr (7, [.ref a_now, .ref a_past, .int v_saved, .ref a_errors, .ref a_text, .int v_textLength, .ref a_pad, .int v_padLength, .ref a_sounds, .int u1.1, .ref a_proposed, .ref a_given, .int v_proposals, .ref a_readings, .int v_readingMany, .long v_hash])), (a_now, .inl (cI, 150, .inl m_now)), (a_sounds, .inl (cI, 8, .inl u1.2))] := hD
      refine lv_goto (tgt := 46) hx hb dX7_doubtOf_41 (by decide) ?_
      refine lv_istore_n (lv' := [(3, .int u3), (2, .int (m_now ((42 : Int32) + x1).toNatClampNeg)), (0, .ref a_t), (1, .int x1)]) hx hb dX7_doubtOf_46 rfl hl (by decide) rfl (fun ls hl => ?_)
      refine lv_goto (tgt := 175) hx hb dX7_doubtOf_47 (by decide) ?_
      refine lv_iload_n hx hb dX7_doubtOf_175 rfl (lv_at hl 0 rfl) ?_
      refine lv_iconst (v := 3) hx hb dX7_doubtOf_176 (by decide) ?_
      refine lv_icmp_le (tgt := 184) hx hb dX7_doubtOf_177 (by decide) (fun hb9 => ?_) (fun hb9 => ?_)
      · replace hf := if_t hb9 hf
        refine lv_iload_n hx hb dX7_doubtOf_184 rfl (lv_at hl 0 rfl) ?_
        have hP : va_P D vwCl [(a_t, .inr (7, [.ref a_now, .ref a_past, .int v_saved, .ref a_errors, .ref a_text, .int v_textLength, .ref a_pad, .int v_padLength, .ref a_sounds, .int u1.1, .ref a_proposed, .ref a_given, .int v_proposals, .ref a_readings, .int v_readingMany, .long v_hash])), (a_now, .inl (cI, 150, .inl m_now)), (a_pad, .inl (cI, 8, .inl m_pad)), (a_sounds, .inl (cI, 8, .inl u1.2))] H := hP.sub [1, 2, 0, 3] rfl
        have hD : va_D A [(a_t, .inr (7, [.ref a_now, .ref a_past, .int v_saved, .ref a_errors, .ref a_text, .int v_textLength, .ref a_pad, .int v_padLength, .ref a_sounds, .int u1.1, .ref a_proposed, .ref a_given, .int v_proposals, .ref a_readings, .int v_readingMany, .long v_hash])), (a_now, .inl (cI, 150, .inl m_now)), (a_pad, .inl (cI, 8, .inl m_pad)), (a_sounds, .inl (cI, 8, .inl u1.2))] := hD.sub [1, 2, 0, 3] (by decide +kernel) rfl
        have ho := so hf
        subst ho
        exact g_iret hx hb hr hlk hP hD hS dX7_doubtOf_185
      · replace hf := if_f hb9 hf
        refine lv_iconst (v := -1) hx hb dX7_doubtOf_180 (by decide) ?_
        refine lv_goto (tgt := 185) hx hb dX7_doubtOf_181 (by decide) ?_
        have hP : va_P D vwCl [(a_t, .inr (7, [.ref a_now, .ref a_past, .int v_saved, .ref a_errors, .ref a_text, .int v_textLength, .ref a_pad, .int v_padLength, .ref a_sounds, .int u1.1, .ref a_proposed, .ref a_given, .int v_proposals, .ref a_readings, .int v_readingMany, .long v_hash])), (a_now, .inl (cI, 150, .inl m_now)), (a_pad, .inl (cI, 8, .inl m_pad)), (a_sounds, .inl (cI, 8, .inl u1.2))] H := hP.sub [1, 2, 0, 3] rfl
        have hD : va_D A [(a_t, .inr (7, [.ref a_now, .ref a_past, .int v_saved, .ref a_errors, .ref a_text, .int v_textLength, .ref a_pad, .int v_padLength, .ref a_sounds, .int u1.1, .ref a_proposed, .ref a_given, .int v_proposals, .ref a_readings, .int v_readingMany, .long v_hash])), (a_now, .inl (cI, 150, .inl m_now)), (a_pad, .inl (cI, 8, .inl m_pad)), (a_sounds, .inl (cI, 8, .inl u1.2))] := hD.sub [1, 2, 0, 3] (by decide +kernel) rfl
        have ho := so hf
        subst ho
        exact g_iret hx hb hr hlk hP hD hS dX7_doubtOf_185

theorem sg_X7_isAhead : yX7_isAhead.cls = RX7 ∧ yX7_isAhead.cls ≠ "java/lang/invoke/MethodHandle" ∧ yX7_isAhead.cls ≠ "java/lang/invoke/VarHandle" ∧ (parseMethodDescriptor yX7_isAhead.desc).map (fun d => d.parameters.length) = some 2 := by decide +kernel
abbrev rm_X7_isAhead : Room := { frames := 3, cells := 0, slots := 0, locals := 70 }
theorem wd_X7_isAhead_0 : (.fieldLink RX7 7 "ShorthandOutlinesModel" "now" "[I" : Cond) ∈ wsX7_isAhead := by decide +kernel
theorem ly_X7_isAhead_X7 : ∀ w ∈ u_ws RX7 TX7 16, w ∈ wsX7_isAhead := by decide +kernel
set_option maxHeartbeats 4000000 in
set_option maxRecDepth 100000 in
theorem kt_X7_isAhead (l : Launch) (D : va_G) (cI cZ cS : ClassId) (a_t : Nat) (a_now : Nat) (a_pad : Nat) (a_sounds : Nat) (a_past : Nat) (a_errors : Nat) (a_text : Nat) (a_proposed : Nat) (a_given : Nat) (a_readings : Nat) (v_saved : Int32) (v_textLength : Int32) (v_proposals : Int32) (v_readingMany : Int32) (v_hash : Int64) (v_padLength : Int32) (v_soundMany : Int32) (m_now : Nat → Int32) (m_pad : Nat → Int32) (m_sounds : Nat → Int32) (x1 : Int32) (x2 : Int32) (o : Int32 × Int32 × (Nat → Int32)) (hf : fn_X7_isAhead v_padLength v_soundMany m_now m_pad m_sounds x1 x2 = some o) (sz : Nat) : Met l yX7_isAhead wsX7_isAhead rm_X7_isAhead (va_Pc [.ref a_t, .int x1, .int x2] (gPre D cI cZ cS [(a_t, .inr (7, [.ref a_now, .ref a_past, .int v_saved, .ref a_errors, .ref a_text, .int v_textLength, .ref a_pad, .int v_padLength, .ref a_sounds, .int v_soundMany, .ref a_proposed, .ref a_given, .int v_proposals, .ref a_readings, .int v_readingMany, .long v_hash])), (a_now, .inl (cI, 150, .inl m_now)), (a_pad, .inl (cI, 8, .inl m_pad)), (a_sounds, .inl (cI, 8, .inl m_sounds))] sz)) (va_Qi (fun r (_ : Unit) => r = o.1) (fun _ => gB D [(a_t, .inr (7, [.ref a_now, .ref a_past, .int v_saved, .ref a_errors, .ref a_text, .int v_textLength, .ref a_pad, .int v_padLength, .ref a_sounds, .int o.2.1, .ref a_proposed, .ref a_given, .int v_proposals, .ref a_readings, .int v_readingMany, .long v_hash])), (a_now, .inl (cI, 150, .inl m_now)), (a_pad, .inl (cI, 8, .inl m_pad)), (a_sounds, .inl (cI, 8, .inl o.2.2))] (va_A [(a_t, .inr (7, [.ref a_now, .ref a_past, .int v_saved, .ref a_errors, .ref a_text, .int v_textLength, .ref a_pad, .int v_padLength, .ref a_sounds, .int v_soundMany, .ref a_proposed, .ref a_given, .int v_proposals, .ref a_readings, .int v_readingMany, .long v_hash])), (a_now, .inl (cI, 150, .inl m_now)), (a_pad, .inl (cI, 8, .inl m_pad)), (a_sounds, .inl (cI, 8, .inl m_sounds))] sz)) (va_A [(a_t, .inr (7, [.ref a_now, .ref a_past, .int v_saved, .ref a_errors, .ref a_text, .int v_textLength, .ref a_pad, .int v_padLength, .ref a_sounds, .int v_soundMany, .ref a_proposed, .ref a_given, .int v_proposals, .ref a_readings, .int v_readingMany, .long v_hash])), (a_now, .inl (cI, 150, .inl m_now)), (a_pad, .inl (cI, 8, .inl m_pad)), (a_sounds, .inl (cI, 8, .inl m_sounds))] sz)) 0 0 (va_A [(a_t, .inr (7, [.ref a_now, .ref a_past, .int v_saved, .ref a_errors, .ref a_text, .int v_textLength, .ref a_pad, .int v_padLength, .ref a_sounds, .int v_soundMany, .ref a_proposed, .ref a_given, .int v_proposals, .ref a_readings, .int v_readingMany, .long v_hash])), (a_now, .inl (cI, 150, .inl m_now)), (a_pad, .inl (cI, 8, .inl m_pad)), (a_sounds, .inl (cI, 8, .inl m_sounds))] sz) := by
  refine g_entry (Qc := fun A => va_Qi (fun r (_ : Unit) => r = o.1) (fun _ => gB D [(a_t, .inr (7, [.ref a_now, .ref a_past, .int v_saved, .ref a_errors, .ref a_text, .int v_textLength, .ref a_pad, .int v_padLength, .ref a_sounds, .int o.2.1, .ref a_proposed, .ref a_given, .int v_proposals, .ref a_readings, .int v_readingMany, .long v_hash])), (a_now, .inl (cI, 150, .inl m_now)), (a_pad, .inl (cI, 8, .inl m_pad)), (a_sounds, .inl (cI, 8, .inl o.2.2))] A) A) (cc := cX7_isAhead) (maxL := 5) (ret := (some .boolean)) (by decide) rfl (Nat.le_of_ble_eq_true rfl) ?_ sz
  intro p e s m below meth c A ls Cx hP hD hS hl
  obtain ⟨hx, hb, hml, hr, hlk, hown, hin, hts, hK, hA⟩ := id Cx
  have hown : s.vm.findClass RX7 = some m.cls := hown
  have hl : lv_has ls 5 [(0, .ref a_t), (1, .int x1), (2, .int x2)] := hl
  unfold fn_X7_isAhead at hf
  refine lv_aload_n hx hb dX7_isAhead_0 rfl (lv_at hl 0 rfl) ?_
  refine lv_iload_n hx hb dX7_isAhead_1 rfl (lv_at hl 1 rfl) ?_
  obtain ⟨u1, hc1, hf⟩ := ob hf
  refine g_ki (wc := [(a_t, .inr (7, [.ref a_now, .ref a_past, .int v_saved, .ref a_errors, .ref a_text, .int v_textLength, .ref a_pad, .int v_padLength, .ref a_sounds, .int v_soundMany, .ref a_proposed, .ref a_given, .int v_proposals, .ref a_readings, .int v_readingMany, .long v_hash])), (a_now, .inl (cI, 150, .inl m_now)), (a_pad, .inl (cI, 8, .inl m_pad)), (a_sounds, .inl (cI, 8, .inl m_sounds))]) (wc' := [(a_t, .inr (7, [.ref a_now, .ref a_past, .int v_saved, .ref a_errors, .ref a_text, .int v_textLength, .ref a_pad, .int v_padLength, .ref a_sounds, .int u1.2.1, .ref a_proposed, .ref a_given, .int v_proposals, .ref a_readings, .int v_readingMany, .long v_hash])), (a_now, .inl (cI, 150, .inl m_now)), (a_pad, .inl (cI, 8, .inl m_pad)), (a_sounds, .inl (cI, 8, .inl u1.2.2))]) (wr := []) (va_runV (As := [.int x1]) (rest := []) ⟨hx, hb, hml, hown, hts⟩ (kt_X7_doubtOf l D cI cZ cS a_t a_now a_pad a_sounds a_past a_errors a_text a_proposed a_given a_readings v_saved v_textLength v_proposals v_readingMany v_hash v_padLength v_soundMany m_now m_pad m_sounds x1 u1 hc1 _) (cwV 1 hts gX7_isAhead_X7_doubtOf rfl rfl rfl sg_X7_doubtOf ⟨(Nat.le_of_ble_eq_true rfl), (Nat.le_of_ble_eq_true rfl)⟩) (g_pv (q := (RX7, TX7, 16)) hK hP hD [0, 1, 2, 3] rfl (by decide) rfl rfl) rfl rfl hl.1 rfl (lv_room (Nat.le_of_ble_eq_true rfl)) dX7_isAhead_2 ⟨Nat.zero_le _, Nat.zero_le _⟩) hP hD hS hA [0, 1, 2, 3] [] rfl rfl (by decide) (by decide) (fun H locs hP hD hS => ?_)
  have hP : va_P D vwCl [(a_t, .inr (7, [.ref a_now, .ref a_past, .int v_saved, .ref a_errors, .ref a_text, .int v_textLength, .ref a_pad, .int v_padLength, .ref a_sounds, .int u1.2.1, .ref a_proposed, .ref a_given, .int v_proposals, .ref a_readings, .int v_readingMany, .long v_hash])), (a_now, .inl (cI, 150, .inl m_now)), (a_pad, .inl (cI, 8, .inl m_pad)), (a_sounds, .inl (cI, 8, .inl u1.2.2))] H := hP
  have hD : va_D A [(a_t, .inr (7, [.ref a_now, .ref a_past, .int v_saved, .ref a_errors, .ref a_text, .int v_textLength, .ref a_pad, .int v_padLength, .ref a_sounds, .int u1.2.1, .ref a_proposed, .ref a_given, .int v_proposals, .ref a_readings, .int v_readingMany, .long v_hash])), (a_now, .inl (cI, 150, .inl m_now)), (a_pad, .inl (cI, 8, .inl m_pad)), (a_sounds, .inl (cI, 8, .inl u1.2.2))] := hD
  refine lv_aload_n hx hb dX7_isAhead_5 rfl (lv_at hl 0 rfl) ?_
  refine lv_iload_n hx hb dX7_isAhead_6 rfl (lv_at hl 2 rfl) ?_
  obtain ⟨u2, hc2, hf⟩ := ob hf
  refine g_ki (wc := [(a_t, .inr (7, [.ref a_now, .ref a_past, .int v_saved, .ref a_errors, .ref a_text, .int v_textLength, .ref a_pad, .int v_padLength, .ref a_sounds, .int u1.2.1, .ref a_proposed, .ref a_given, .int v_proposals, .ref a_readings, .int v_readingMany, .long v_hash])), (a_now, .inl (cI, 150, .inl m_now)), (a_pad, .inl (cI, 8, .inl m_pad)), (a_sounds, .inl (cI, 8, .inl u1.2.2))]) (wc' := [(a_t, .inr (7, [.ref a_now, .ref a_past, .int v_saved, .ref a_errors, .ref a_text, .int v_textLength, .ref a_pad, .int v_padLength, .ref a_sounds, .int u2.2.1, .ref a_proposed, .ref a_given, .int v_proposals, .ref a_readings, .int v_readingMany, .long v_hash])), (a_now, .inl (cI, 150, .inl m_now)), (a_pad, .inl (cI, 8, .inl m_pad)), (a_sounds, .inl (cI, 8, .inl u2.2.2))]) (wr := []) (va_runV (As := [.int x2]) (rest := [.int u1.1]) ⟨hx, hb, hml, hown, hts⟩ (kt_X7_doubtOf l D cI cZ cS a_t a_now a_pad a_sounds a_past a_errors a_text a_proposed a_given a_readings v_saved v_textLength v_proposals v_readingMany v_hash v_padLength u1.2.1 m_now m_pad u1.2.2 x2 u2 hc2 _) (cwV 1 hts gX7_isAhead_X7_doubtOf rfl rfl rfl sg_X7_doubtOf ⟨(Nat.le_of_ble_eq_true rfl), (Nat.le_of_ble_eq_true rfl)⟩) (g_pv (q := (RX7, TX7, 16)) hK hP hD [0, 1, 2, 3] rfl (by decide) rfl rfl) rfl rfl hl.1 rfl (lv_room (Nat.le_of_ble_eq_true rfl)) dX7_isAhead_7 ⟨Nat.zero_le _, Nat.zero_le _⟩) hP hD hS hA [0, 1, 2, 3] [] rfl rfl (by decide) (by decide) (fun H locs hP hD hS => ?_)
  have hP : va_P D vwCl [(a_t, .inr (7, [.ref a_now, .ref a_past, .int v_saved, .ref a_errors, .ref a_text, .int v_textLength, .ref a_pad, .int v_padLength, .ref a_sounds, .int u2.2.1, .ref a_proposed, .ref a_given, .int v_proposals, .ref a_readings, .int v_readingMany, .long v_hash])), (a_now, .inl (cI, 150, .inl m_now)), (a_pad, .inl (cI, 8, .inl m_pad)), (a_sounds, .inl (cI, 8, .inl u2.2.2))] H := hP
  have hD : va_D A [(a_t, .inr (7, [.ref a_now, .ref a_past, .int v_saved, .ref a_errors, .ref a_text, .int v_textLength, .ref a_pad, .int v_padLength, .ref a_sounds, .int u2.2.1, .ref a_proposed, .ref a_given, .int v_proposals, .ref a_readings, .int v_readingMany, .long v_hash])), (a_now, .inl (cI, 150, .inl m_now)), (a_pad, .inl (cI, 8, .inl m_pad)), (a_sounds, .inl (cI, 8, .inl u2.2.2))] := hD
  refine lv_isub hx hb dX7_isAhead_10 ?_
  refine lv_istore_n (lv' := [(3, .int (u1.1 - u2.1)), (0, .ref a_t), (1, .int x1), (2, .int x2)]) hx hb dX7_isAhead_11 rfl hl (by decide) rfl (fun ls hl => ?_)
  refine lv_aload_n hx hb dX7_isAhead_12 rfl (lv_at hl 1 rfl) ?_
  refine va_get (D := D) (ci := 7) (v := .ref a_now) (C := RX7) (T := TX7) (N := 16) hx hb hts ly_X7_isAhead_X7 hown hK.1 hP 0 rfl rfl 0 (by decide) (hts (.fieldLink RX7 7 "ShorthandOutlinesModel" "now" "[I") wd_X7_isAhead_0) (fun _ h9 => h9) rfl dX7_isAhead_13 ?_
  refine lv_bipush (v := 30) hx hb dX7_isAhead_16 (by decide) ?_
  refine lv_iload_n hx hb dX7_isAhead_18 rfl (lv_at hl 2 rfl) ?_
  refine lv_iadd hx hb dX7_isAhead_19 ?_
  have hi3 := gd_1 hf
  replace hf := gd_2 hf
  refine va_iald hx hb hK.1 hP 1 0 rfl rfl (inb_in hi3) dX7_isAhead_20 ?_
  refine lv_aload_n hx hb dX7_isAhead_21 rfl (lv_at hl 1 rfl) ?_
  refine va_get (D := D) (ci := 7) (v := .ref a_now) (C := RX7) (T := TX7) (N := 16) hx hb hts ly_X7_isAhead_X7 hown hK.1 hP 0 rfl rfl 0 (by decide) (hts (.fieldLink RX7 7 "ShorthandOutlinesModel" "now" "[I") wd_X7_isAhead_0) (fun _ h9 => h9) rfl dX7_isAhead_22 ?_
  refine lv_bipush (v := 30) hx hb dX7_isAhead_25 (by decide) ?_
  refine lv_iload_n hx hb dX7_isAhead_27 rfl (lv_at hl 3 rfl) ?_
  refine lv_iadd hx hb dX7_isAhead_28 ?_
  have hi4 := gd_1 hf
  replace hf := gd_2 hf
  refine va_iald hx hb hK.1 hP 1 0 rfl rfl (inb_in hi4) dX7_isAhead_29 ?_
  refine lv_isub hx hb dX7_isAhead_30 ?_
  refine lv_istore (lv' := [(4, .int ((m_now ((30 : Int32) + x1).toNatClampNeg) - (m_now ((30 : Int32) + x2).toNatClampNeg))), (3, .int (u1.1 - u2.1)), (0, .ref a_t), (1, .int x1), (2, .int x2)]) hx hb dX7_isAhead_31 hl (by decide) rfl (fun ls hl => ?_)
  refine lv_iload_n hx hb dX7_isAhead_33 rfl (lv_at hl 1 rfl) ?_
  refine lv_if_eq (tgt := 49) hx hb dX7_isAhead_34 (by decide) (fun hb5 => ?_) (fun hb5 => ?_)
  · replace hf := if_t hb5 hf
    refine lv_iload hx hb dX7_isAhead_49 (lv_at hl 0 rfl) ?_
    refine lv_if_eq (tgt := 67) hx hb dX7_isAhead_51 (by decide) (fun hb6 => ?_) (fun hb6 => ?_)
    · replace hf := if_t hb6 hf
      refine lv_iload_n hx hb dX7_isAhead_67 rfl (lv_at hl 3 rfl) ?_
      refine lv_iload_n hx hb dX7_isAhead_68 rfl (lv_at hl 4 rfl) ?_
      refine lv_icmp_ge (tgt := 76) hx hb dX7_isAhead_69 (by decide) (fun hb7 => ?_) (fun hb7 => ?_)
      · replace hf := if_t hb7 hf
        refine lv_iconst (v := 0) hx hb dX7_isAhead_76 (by decide) ?_
        have ho := so hf
        subst ho
        exact g_zret hx hb hr hlk rfl hP hD hS dX7_isAhead_77
      · replace hf := if_f hb7 hf
        refine lv_iconst (v := 1) hx hb dX7_isAhead_72 (by decide) ?_
        refine lv_goto (tgt := 77) hx hb dX7_isAhead_73 (by decide) ?_
        have ho := so hf
        subst ho
        exact g_zret hx hb hr hlk rfl hP hD hS dX7_isAhead_77
    · replace hf := if_f hb6 hf
      refine lv_iload hx hb dX7_isAhead_54 (lv_at hl 0 rfl) ?_
      refine lv_if_le (tgt := 63) hx hb dX7_isAhead_56 (by decide) (fun hb8 => ?_) (fun hb8 => ?_)
      · replace hf := if_t hb8 hf
        refine lv_iconst (v := 0) hx hb dX7_isAhead_63 (by decide) ?_
        refine lv_goto (tgt := 77) hx hb dX7_isAhead_64 (by decide) ?_
        have ho := so hf
        subst ho
        exact g_zret hx hb hr hlk rfl hP hD hS dX7_isAhead_77
      · replace hf := if_f hb8 hf
        refine lv_iconst (v := 1) hx hb dX7_isAhead_59 (by decide) ?_
        refine lv_goto (tgt := 77) hx hb dX7_isAhead_60 (by decide) ?_
        have ho := so hf
        subst ho
        exact g_zret hx hb hr hlk rfl hP hD hS dX7_isAhead_77
  · replace hf := if_f hb5 hf
    refine lv_iload_n hx hb dX7_isAhead_37 rfl (lv_at hl 1 rfl) ?_
    refine lv_if_ge (tgt := 45) hx hb dX7_isAhead_38 (by decide) (fun hb9 => ?_) (fun hb9 => ?_)
    · replace hf := if_t hb9 hf
      refine lv_iconst (v := 0) hx hb dX7_isAhead_45 (by decide) ?_
      refine lv_goto (tgt := 77) hx hb dX7_isAhead_46 (by decide) ?_
      have ho := so hf
      subst ho
      exact g_zret hx hb hr hlk rfl hP hD hS dX7_isAhead_77
    · replace hf := if_f hb9 hf
      refine lv_iconst (v := 1) hx hb dX7_isAhead_41 (by decide) ?_
      refine lv_goto (tgt := 77) hx hb dX7_isAhead_42 (by decide) ?_
      have ho := so hf
      subst ho
      exact g_zret hx hb hr hlk rfl hP hD hS dX7_isAhead_77

theorem sg_X7_reads : yX7_reads.cls = RX7 ∧ yX7_reads.cls ≠ "java/lang/invoke/MethodHandle" ∧ yX7_reads.cls ≠ "java/lang/invoke/VarHandle" ∧ (parseMethodDescriptor yX7_reads.desc).map (fun d => d.parameters.length) = some 0 := by decide +kernel
abbrev rm_X7_reads : Room := { frames := 4, cells := 0, slots := 0, locals := 94 }
theorem wd_X7_reads_0 : (.fieldLink RX7 114 "ShorthandOutlinesModel" "readingMany" "I" : Cond) ∈ wsX7_reads := by decide +kernel
theorem wd_X7_reads_1 : (.fieldLink RX7 7 "ShorthandOutlinesModel" "now" "[I" : Cond) ∈ wsX7_reads := by decide +kernel
theorem wd_X7_reads_2 : (.fieldLink RX7 34 "ShorthandOutlinesModel" "readings" "[I" : Cond) ∈ wsX7_reads := by decide +kernel
theorem ly_X7_reads_X7 : ∀ w ∈ u_ws RX7 TX7 16, w ∈ wsX7_reads := by decide +kernel
set_option maxHeartbeats 4000000 in
set_option maxRecDepth 100000 in
theorem lt_X7_reads_32 {p : Program} {l : Launch} {e : Env} {s : State} {m : MethodId} {args : Array Value} {below : List Frame} {meth : Method} {c : Code} {D : va_G} {cI cZ cS : ClassId} {A : Nat → Prop} {Q : State → Prop} (Cx : gCx p s m meth c args cX7_reads 3 none yX7_reads wsX7_reads D cI cZ cS A) (a_t : Nat) (a_now : Nat) (a_past : Nat) (v_saved : Int32) (a_errors : Nat) (a_text : Nat) (v_textLength : Int32) (a_pad : Nat) (v_padLength : Int32) (a_sounds : Nat) (a_proposed : Nat) (a_given : Nat) (v_proposals : Int32) (a_readings : Nat) (v_readingMany : Int32) (v_hash : Int64) (m_now : Nat → Int32) (m_pad : Nat → Int32) (y1 : Int32) : ∀ (n : Nat) (y2 : Int32) (v_soundMany : Int32) (m_sounds : Nat → Int32) (m_readings : Nat → Int32) (o : Int32 × Int32 × (Nat → Int32) × (Nat → Int32)) (H : Heap) (locs : List Loc) (ls : Array Slot), lp_X7_reads_32 v_padLength m_now m_pad y1 n y2 v_soundMany m_sounds m_readings = some o → va_P D vwCl [(a_t, .inr (7, [.ref a_now, .ref a_past, .int v_saved, .ref a_errors, .ref a_text, .int v_textLength, .ref a_pad, .int v_padLength, .ref a_sounds, .int v_soundMany, .ref a_proposed, .ref a_given, .int v_proposals, .ref a_readings, .int v_readingMany, .long v_hash])), (a_now, .inl (cI, 150, .inl m_now)), (a_pad, .inl (cI, 8, .inl m_pad)), (a_sounds, .inl (cI, 8, .inl m_sounds)), (a_readings, .inl (cI, 12, .inl m_readings))] H → va_D A [(a_t, .inr (7, [.ref a_now, .ref a_past, .int v_saved, .ref a_errors, .ref a_text, .int v_textLength, .ref a_pad, .int v_padLength, .ref a_sounds, .int v_soundMany, .ref a_proposed, .ref a_given, .int v_proposals, .ref a_readings, .int v_readingMany, .long v_hash])), (a_now, .inl (cI, 150, .inl m_now)), (a_pad, .inl (cI, 8, .inl m_pad)), (a_sounds, .inl (cI, 8, .inl m_sounds)), (a_readings, .inl (cI, 12, .inl m_readings))] → va_S A s.heap H locs → lv_has ls 3 [(0, .ref a_t), (1, .int y1), (2, .int y2)] → (∀ (H : Heap) (locs : List Loc) (ls : Array Slot), va_P D vwCl [(a_t, .inr (7, [.ref a_now, .ref a_past, .int v_saved, .ref a_errors, .ref a_text, .int v_textLength, .ref a_pad, .int v_padLength, .ref a_sounds, .int o.2.1, .ref a_proposed, .ref a_given, .int v_proposals, .ref a_readings, .int v_readingMany, .long v_hash])), (a_now, .inl (cI, 150, .inl m_now)), (a_pad, .inl (cI, 8, .inl m_pad)), (a_sounds, .inl (cI, 8, .inl o.2.2.1)), (a_readings, .inl (cI, 12, .inl o.2.2.2))] H → va_D A [(a_t, .inr (7, [.ref a_now, .ref a_past, .int v_saved, .ref a_errors, .ref a_text, .int v_textLength, .ref a_pad, .int v_padLength, .ref a_sounds, .int o.2.1, .ref a_proposed, .ref a_given, .int v_proposals, .ref a_readings, .int v_readingMany, .long v_hash])), (a_now, .inl (cI, 150, .inl m_now)), (a_pad, .inl (cI, 8, .inl m_pad)), (a_sounds, .inl (cI, 8, .inl o.2.2.1)), (a_readings, .inl (cI, 12, .inl o.2.2.2))] → va_S A s.heap H locs → lv_has ls 3 [(0, .ref a_t), (1, .int y1), (2, .int o.1)] → W p l e rm_X7_reads s m args below meth c H locs 0 0 Q (F0 m 72 ls [])) → W p l e rm_X7_reads s m args below meth c H locs 0 0 Q (F0 m 32 ls []) := by
  obtain ⟨hx, hb, hml, hr, hlk, hown, hin, hts, hK, hA⟩ := id Cx
  have hown : s.vm.findClass RX7 = some m.cls := hown
  intro n
  induction n with
  | zero =>
    intro y2 v_soundMany m_sounds m_readings o H locs ls hf
    rw [lp_X7_reads_32] at hf
    cases hf
  | succ n ih =>
    intro y2 v_soundMany m_sounds m_readings o H locs ls hf hP hD hS hl kk
    rw [lp_X7_reads_32] at hf
    refine lv_iload_n hx hb dX7_reads_32 rfl (lv_at hl 2 rfl) ?_
    refine lv_if_le (tgt := 72) hx hb dX7_reads_33 (by decide) (fun hb1 => ?_) (fun hb1 => ?_)
    · replace hf := if_t hb1 hf
      have ho := so hf
      subst ho
      exact kk _ _ _ hP hD hS (lv_sub hl [0, 1, 2] rfl)
    · replace hf := if_f hb1 hf
      refine lv_aload_n hx hb dX7_reads_36 rfl (lv_at hl 0 rfl) ?_
      refine lv_iload_n hx hb dX7_reads_37 rfl (lv_at hl 1 rfl) ?_
      refine lv_aload_n hx hb dX7_reads_38 rfl (lv_at hl 0 rfl) ?_
      refine va_get (D := D) (ci := 7) (v := .ref a_readings) (C := RX7) (T := TX7) (N := 16) hx hb hts ly_X7_reads_X7 hown hK.1 hP 0 rfl rfl 13 (by decide) (hts (.fieldLink RX7 34 "ShorthandOutlinesModel" "readings" "[I") wd_X7_reads_2) (fun _ h9 => h9) rfl dX7_reads_39 ?_
      refine lv_iload_n hx hb dX7_reads_42 rfl (lv_at hl 2 rfl) ?_
      refine lv_iconst (v := 1) hx hb dX7_reads_43 (by decide) ?_
      refine lv_isub hx hb dX7_reads_44 ?_
      have hi2 := gd_1 hf
      replace hf := gd_2 hf
      refine va_iald hx hb hK.1 hP 4 0 rfl rfl (inb_in hi2) dX7_reads_45 ?_
      obtain ⟨u1, hc3, hf⟩ := ob hf
      refine g_ki (wc := [(a_t, .inr (7, [.ref a_now, .ref a_past, .int v_saved, .ref a_errors, .ref a_text, .int v_textLength, .ref a_pad, .int v_padLength, .ref a_sounds, .int v_soundMany, .ref a_proposed, .ref a_given, .int v_proposals, .ref a_readings, .int v_readingMany, .long v_hash])), (a_now, .inl (cI, 150, .inl m_now)), (a_pad, .inl (cI, 8, .inl m_pad)), (a_sounds, .inl (cI, 8, .inl m_sounds))]) (wc' := [(a_t, .inr (7, [.ref a_now, .ref a_past, .int v_saved, .ref a_errors, .ref a_text, .int v_textLength, .ref a_pad, .int v_padLength, .ref a_sounds, .int u1.2.1, .ref a_proposed, .ref a_given, .int v_proposals, .ref a_readings, .int v_readingMany, .long v_hash])), (a_now, .inl (cI, 150, .inl m_now)), (a_pad, .inl (cI, 8, .inl m_pad)), (a_sounds, .inl (cI, 8, .inl u1.2.2))]) (wr := [(a_readings, .inl (cI, 12, .inl m_readings))]) (va_runV (As := [.int y1, .int (m_readings (y2 - (1 : Int32)).toNatClampNeg)]) (rest := []) ⟨hx, hb, hml, hown, hts⟩ (kt_X7_isAhead l D cI cZ cS a_t a_now a_pad a_sounds a_past a_errors a_text a_proposed a_given a_readings v_saved v_textLength v_proposals v_readingMany v_hash v_padLength v_soundMany m_now m_pad m_sounds y1 (m_readings (y2 - (1 : Int32)).toNatClampNeg) u1 hc3 _) (cwV 2 hts gX7_reads_X7_isAhead rfl rfl rfl sg_X7_isAhead ⟨(Nat.le_of_ble_eq_true rfl), (Nat.le_of_ble_eq_true rfl)⟩) (g_pv (q := (RX7, TX7, 16)) hK hP hD [0, 1, 2, 3] rfl (by decide) rfl rfl) rfl rfl hl.1 rfl (lv_room (Nat.le_of_ble_eq_true rfl)) dX7_reads_46 ⟨Nat.zero_le _, Nat.zero_le _⟩) hP hD hS hA [0, 1, 2, 3] [4] rfl rfl (by decide) (by decide) (fun H locs hP hD hS => ?_)
      have hP : va_P D vwCl [(a_readings, .inl (cI, 12, .inl m_readings)), (a_t, .inr (7, [.ref a_now, .ref a_past, .int v_saved, .ref a_errors, .ref a_text, .int v_textLength, .ref a_pad, .int v_padLength, .ref a_sounds, .int u1.2.1, .ref a_proposed, .ref a_given, .int v_proposals, .ref a_readings, .int v_readingMany, .long v_hash])), (a_now, .inl (cI, 150, .inl m_now)), (a_pad, .inl (cI, 8, .inl m_pad)), (a_sounds, .inl (cI, 8, .inl u1.2.2))] H := hP
      have hD : va_D A [(a_readings, .inl (cI, 12, .inl m_readings)), (a_t, .inr (7, [.ref a_now, .ref a_past, .int v_saved, .ref a_errors, .ref a_text, .int v_textLength, .ref a_pad, .int v_padLength, .ref a_sounds, .int u1.2.1, .ref a_proposed, .ref a_given, .int v_proposals, .ref a_readings, .int v_readingMany, .long v_hash])), (a_now, .inl (cI, 150, .inl m_now)), (a_pad, .inl (cI, 8, .inl m_pad)), (a_sounds, .inl (cI, 8, .inl u1.2.2))] := hD
      refine lv_if_eq (tgt := 72) hx hb dX7_reads_49 (by decide) (fun hb4 => ?_) (fun hb4 => ?_)
      · replace hf := if_t hb4 hf
        have hP : va_P D vwCl [(a_t, .inr (7, [.ref a_now, .ref a_past, .int v_saved, .ref a_errors, .ref a_text, .int v_textLength, .ref a_pad, .int v_padLength, .ref a_sounds, .int u1.2.1, .ref a_proposed, .ref a_given, .int v_proposals, .ref a_readings, .int v_readingMany, .long v_hash])), (a_now, .inl (cI, 150, .inl m_now)), (a_pad, .inl (cI, 8, .inl m_pad)), (a_sounds, .inl (cI, 8, .inl u1.2.2)), (a_readings, .inl (cI, 12, .inl m_readings))] H := hP.sub [1, 2, 3, 4, 0] rfl
        have hD : va_D A [(a_t, .inr (7, [.ref a_now, .ref a_past, .int v_saved, .ref a_errors, .ref a_text, .int v_textLength, .ref a_pad, .int v_padLength, .ref a_sounds, .int u1.2.1, .ref a_proposed, .ref a_given, .int v_proposals, .ref a_readings, .int v_readingMany, .long v_hash])), (a_now, .inl (cI, 150, .inl m_now)), (a_pad, .inl (cI, 8, .inl m_pad)), (a_sounds, .inl (cI, 8, .inl u1.2.2)), (a_readings, .inl (cI, 12, .inl m_readings))] := hD.sub [1, 2, 3, 4, 0] (by decide +kernel) rfl
        have ho := so hf
        subst ho
        exact kk _ _ _ hP hD hS (lv_sub hl [0, 1, 2] rfl)
      · replace hf := if_f hb4 hf
        refine lv_aload_n hx hb dX7_reads_52 rfl (lv_at hl 0 rfl) ?_
        refine va_get (D := D) (ci := 7) (v := .ref a_readings) (C := RX7) (T := TX7) (N := 16) hx hb hts ly_X7_reads_X7 hown hK.1 hP 1 rfl rfl 13 (by decide) (hts (.fieldLink RX7 34 "ShorthandOutlinesModel" "readings" "[I") wd_X7_reads_2) (fun _ h9 => h9) rfl dX7_reads_53 ?_
        refine lv_iload_n hx hb dX7_reads_56 rfl (lv_at hl 2 rfl) ?_
        refine lv_aload_n hx hb dX7_reads_57 rfl (lv_at hl 0 rfl) ?_
        refine va_get (D := D) (ci := 7) (v := .ref a_readings) (C := RX7) (T := TX7) (N := 16) hx hb hts ly_X7_reads_X7 hown hK.1 hP 1 rfl rfl 13 (by decide) (hts (.fieldLink RX7 34 "ShorthandOutlinesModel" "readings" "[I") wd_X7_reads_2) (fun _ h9 => h9) rfl dX7_reads_58 ?_
        refine lv_iload_n hx hb dX7_reads_61 rfl (lv_at hl 2 rfl) ?_
        refine lv_iconst (v := 1) hx hb dX7_reads_62 (by decide) ?_
        refine lv_isub hx hb dX7_reads_63 ?_
        have hi5 := gd_1 hf
        replace hf := gd_2 hf
        refine va_iald hx hb hK.1 hP 0 0 rfl rfl (inb_in hi5) dX7_reads_64 ?_
        have hi6 := gd_1 hf
        replace hf := gd_2 hf
        refine va_iast hx hb hK.1 hP hD hS 0 0 rfl rfl (inb_in hi6) dX7_reads_65 (fun H locs hP hD hS => ?_)
        have hP : va_P D vwCl [(a_readings, .inl (cI, 12, .inl (upd m_readings y2.toNatClampNeg (m_readings (y2 - (1 : Int32)).toNatClampNeg)))), (a_t, .inr (7, [.ref a_now, .ref a_past, .int v_saved, .ref a_errors, .ref a_text, .int v_textLength, .ref a_pad, .int v_padLength, .ref a_sounds, .int u1.2.1, .ref a_proposed, .ref a_given, .int v_proposals, .ref a_readings, .int v_readingMany, .long v_hash])), (a_now, .inl (cI, 150, .inl m_now)), (a_pad, .inl (cI, 8, .inl m_pad)), (a_sounds, .inl (cI, 8, .inl u1.2.2))] H := hP
        have hD : va_D A [(a_readings, .inl (cI, 12, .inl (upd m_readings y2.toNatClampNeg (m_readings (y2 - (1 : Int32)).toNatClampNeg)))), (a_t, .inr (7, [.ref a_now, .ref a_past, .int v_saved, .ref a_errors, .ref a_text, .int v_textLength, .ref a_pad, .int v_padLength, .ref a_sounds, .int u1.2.1, .ref a_proposed, .ref a_given, .int v_proposals, .ref a_readings, .int v_readingMany, .long v_hash])), (a_now, .inl (cI, 150, .inl m_now)), (a_pad, .inl (cI, 8, .inl m_pad)), (a_sounds, .inl (cI, 8, .inl u1.2.2))] := hD
        refine lv_iinc (v := (y2 + (-1))) (lv' := [(2, .int (y2 + (-1))), (0, .ref a_t), (1, .int y1)]) hx hb dX7_reads_66 hl (k := 2) rfl rfl (by decide) rfl (fun ls hl => ?_)
        refine lv_goto (tgt := 32) hx hb dX7_reads_69 (by decide) ?_
        have hP : va_P D vwCl [(a_t, .inr (7, [.ref a_now, .ref a_past, .int v_saved, .ref a_errors, .ref a_text, .int v_textLength, .ref a_pad, .int v_padLength, .ref a_sounds, .int u1.2.1, .ref a_proposed, .ref a_given, .int v_proposals, .ref a_readings, .int v_readingMany, .long v_hash])), (a_now, .inl (cI, 150, .inl m_now)), (a_pad, .inl (cI, 8, .inl m_pad)), (a_sounds, .inl (cI, 8, .inl u1.2.2)), (a_readings, .inl (cI, 12, .inl (upd m_readings y2.toNatClampNeg (m_readings (y2 - (1 : Int32)).toNatClampNeg))))] H := hP.sub [1, 2, 3, 4, 0] rfl
        have hD : va_D A [(a_t, .inr (7, [.ref a_now, .ref a_past, .int v_saved, .ref a_errors, .ref a_text, .int v_textLength, .ref a_pad, .int v_padLength, .ref a_sounds, .int u1.2.1, .ref a_proposed, .ref a_given, .int v_proposals, .ref a_readings, .int v_readingMany, .long v_hash])), (a_now, .inl (cI, 150, .inl m_now)), (a_pad, .inl (cI, 8, .inl m_pad)), (a_sounds, .inl (cI, 8, .inl u1.2.2)), (a_readings, .inl (cI, 12, .inl (upd m_readings y2.toNatClampNeg (m_readings (y2 - (1 : Int32)).toNatClampNeg))))] := hD.sub [1, 2, 3, 4, 0] (by decide +kernel) rfl
        exact ih (y2 + (-1)) u1.2.1 u1.2.2 (upd m_readings y2.toNatClampNeg (m_readings (y2 - (1 : Int32)).toNatClampNeg)) o _ _ _ hf hP hD hS (lv_sub hl [1, 2, 0] rfl) kk
set_option maxHeartbeats 4000000 in
set_option maxRecDepth 100000 in
theorem lt_X7_reads_7 {p : Program} {l : Launch} {e : Env} {s : State} {m : MethodId} {args : Array Value} {below : List Frame} {meth : Method} {c : Code} {D : va_G} {cI cZ cS : ClassId} {A : Nat → Prop} {Q : State → Prop} (Cx : gCx p s m meth c args cX7_reads 3 none yX7_reads wsX7_reads D cI cZ cS A) (a_t : Nat) (a_now : Nat) (a_past : Nat) (v_saved : Int32) (a_errors : Nat) (a_text : Nat) (v_textLength : Int32) (a_pad : Nat) (v_padLength : Int32) (a_sounds : Nat) (a_proposed : Nat) (a_given : Nat) (v_proposals : Int32) (a_readings : Nat) (v_hash : Int64) (m_now : Nat → Int32) (m_pad : Nat → Int32) : ∀ (n : Nat) (y1 : Int32) (v_soundMany : Int32) (v_readingMany : Int32) (m_sounds : Nat → Int32) (m_readings : Nat → Int32) (o : Int32 × Int32 × (Nat → Int32) × (Nat → Int32)) (H : Heap) (locs : List Loc) (ls : Array Slot), lp_X7_reads_7 m_now v_padLength m_pad n y1 v_soundMany v_readingMany m_sounds m_readings = some o → va_P D vwCl [(a_t, .inr (7, [.ref a_now, .ref a_past, .int v_saved, .ref a_errors, .ref a_text, .int v_textLength, .ref a_pad, .int v_padLength, .ref a_sounds, .int v_soundMany, .ref a_proposed, .ref a_given, .int v_proposals, .ref a_readings, .int v_readingMany, .long v_hash])), (a_now, .inl (cI, 150, .inl m_now)), (a_pad, .inl (cI, 8, .inl m_pad)), (a_sounds, .inl (cI, 8, .inl m_sounds)), (a_readings, .inl (cI, 12, .inl m_readings))] H → va_D A [(a_t, .inr (7, [.ref a_now, .ref a_past, .int v_saved, .ref a_errors, .ref a_text, .int v_textLength, .ref a_pad, .int v_padLength, .ref a_sounds, .int v_soundMany, .ref a_proposed, .ref a_given, .int v_proposals, .ref a_readings, .int v_readingMany, .long v_hash])), (a_now, .inl (cI, 150, .inl m_now)), (a_pad, .inl (cI, 8, .inl m_pad)), (a_sounds, .inl (cI, 8, .inl m_sounds)), (a_readings, .inl (cI, 12, .inl m_readings))] → va_S A s.heap H locs → lv_has ls 3 [(0, .ref a_t), (1, .int y1)] → (∀ (H : Heap) (locs : List Loc) (ls : Array Slot), va_P D vwCl [(a_t, .inr (7, [.ref a_now, .ref a_past, .int v_saved, .ref a_errors, .ref a_text, .int v_textLength, .ref a_pad, .int v_padLength, .ref a_sounds, .int o.1, .ref a_proposed, .ref a_given, .int v_proposals, .ref a_readings, .int o.2.1, .long v_hash])), (a_now, .inl (cI, 150, .inl m_now)), (a_pad, .inl (cI, 8, .inl m_pad)), (a_sounds, .inl (cI, 8, .inl o.2.2.1)), (a_readings, .inl (cI, 12, .inl o.2.2.2))] H → va_D A [(a_t, .inr (7, [.ref a_now, .ref a_past, .int v_saved, .ref a_errors, .ref a_text, .int v_textLength, .ref a_pad, .int v_padLength, .ref a_sounds, .int o.1, .ref a_proposed, .ref a_given, .int v_proposals, .ref a_readings, .int o.2.1, .long v_hash])), (a_now, .inl (cI, 150, .inl m_now)), (a_pad, .inl (cI, 8, .inl m_pad)), (a_sounds, .inl (cI, 8, .inl o.2.2.1)), (a_readings, .inl (cI, 12, .inl o.2.2.2))] → va_S A s.heap H locs → lv_has ls 3 [] → W p l e rm_X7_reads s m args below meth c H locs 0 0 Q (F0 m 95 ls [])) → W p l e rm_X7_reads s m args below meth c H locs 0 0 Q (F0 m 7 ls []) := by
  obtain ⟨hx, hb, hml, hr, hlk, hown, hin, hts, hK, hA⟩ := id Cx
  have hown : s.vm.findClass RX7 = some m.cls := hown
  intro n
  induction n with
  | zero =>
    intro y1 v_soundMany v_readingMany m_sounds m_readings o H locs ls hf
    rw [lp_X7_reads_7] at hf
    cases hf
  | succ n ih =>
    intro y1 v_soundMany v_readingMany m_sounds m_readings o H locs ls hf hP hD hS hl kk
    rw [lp_X7_reads_7] at hf
    refine lv_iload_n hx hb dX7_reads_7 rfl (lv_at hl 1 rfl) ?_
    refine lv_aload_n hx hb dX7_reads_8 rfl (lv_at hl 0 rfl) ?_
    refine va_get (D := D) (ci := 7) (v := .ref a_now) (C := RX7) (T := TX7) (N := 16) hx hb hts ly_X7_reads_X7 hown hK.1 hP 0 rfl rfl 0 (by decide) (hts (.fieldLink RX7 7 "ShorthandOutlinesModel" "now" "[I") wd_X7_reads_1) (fun _ h9 => h9) rfl dX7_reads_9 ?_
    refine lv_bipush (v := 17) hx hb dX7_reads_12 (by decide) ?_
    refine va_iald hx hb hK.1 hP 1 0 rfl rfl (by unfold vp_in; decide) dX7_reads_14 ?_
    refine lv_icmp_ge (tgt := 95) hx hb dX7_reads_15 (by decide) (fun hb1 => ?_) (fun hb1 => ?_)
    · replace hf := if_t hb1 hf
      have ho := so hf
      subst ho
      exact kk _ _ _ hP hD hS (lv_sub hl [] rfl)
    · replace hf := if_f hb1 hf
      refine lv_aload_n hx hb dX7_reads_18 rfl (lv_at hl 0 rfl) ?_
      refine lv_iload_n hx hb dX7_reads_19 rfl (lv_at hl 1 rfl) ?_
      obtain ⟨u1, hc2, hf⟩ := ob hf
      refine g_ki (wc := [(a_t, .inr (7, [.ref a_now, .ref a_past, .int v_saved, .ref a_errors, .ref a_text, .int v_textLength, .ref a_pad, .int v_padLength, .ref a_sounds, .int v_soundMany, .ref a_proposed, .ref a_given, .int v_proposals, .ref a_readings, .int v_readingMany, .long v_hash])), (a_now, .inl (cI, 150, .inl m_now)), (a_pad, .inl (cI, 8, .inl m_pad)), (a_sounds, .inl (cI, 8, .inl m_sounds))]) (wc' := [(a_t, .inr (7, [.ref a_now, .ref a_past, .int v_saved, .ref a_errors, .ref a_text, .int v_textLength, .ref a_pad, .int v_padLength, .ref a_sounds, .int u1.2.1, .ref a_proposed, .ref a_given, .int v_proposals, .ref a_readings, .int v_readingMany, .long v_hash])), (a_now, .inl (cI, 150, .inl m_now)), (a_pad, .inl (cI, 8, .inl m_pad)), (a_sounds, .inl (cI, 8, .inl u1.2.2))]) (wr := [(a_readings, .inl (cI, 12, .inl m_readings))]) (va_runV (As := [.int y1]) (rest := []) ⟨hx, hb, hml, hown, hts⟩ (kt_X7_doubtOf l D cI cZ cS a_t a_now a_pad a_sounds a_past a_errors a_text a_proposed a_given a_readings v_saved v_textLength v_proposals v_readingMany v_hash v_padLength v_soundMany m_now m_pad m_sounds y1 u1 hc2 _) (cwV 1 hts gX7_reads_X7_doubtOf rfl rfl rfl sg_X7_doubtOf ⟨(Nat.le_of_ble_eq_true rfl), (Nat.le_of_ble_eq_true rfl)⟩) (g_pv (q := (RX7, TX7, 16)) hK hP hD [0, 1, 2, 3] rfl (by decide) rfl rfl) rfl rfl hl.1 rfl (lv_room (Nat.le_of_ble_eq_true rfl)) dX7_reads_20 ⟨Nat.zero_le _, Nat.zero_le _⟩) hP hD hS hA [0, 1, 2, 3] [4] rfl rfl (by decide) (by decide) (fun H locs hP hD hS => ?_)
      have hP : va_P D vwCl [(a_readings, .inl (cI, 12, .inl m_readings)), (a_t, .inr (7, [.ref a_now, .ref a_past, .int v_saved, .ref a_errors, .ref a_text, .int v_textLength, .ref a_pad, .int v_padLength, .ref a_sounds, .int u1.2.1, .ref a_proposed, .ref a_given, .int v_proposals, .ref a_readings, .int v_readingMany, .long v_hash])), (a_now, .inl (cI, 150, .inl m_now)), (a_pad, .inl (cI, 8, .inl m_pad)), (a_sounds, .inl (cI, 8, .inl u1.2.2))] H := hP
      have hD : va_D A [(a_readings, .inl (cI, 12, .inl m_readings)), (a_t, .inr (7, [.ref a_now, .ref a_past, .int v_saved, .ref a_errors, .ref a_text, .int v_textLength, .ref a_pad, .int v_padLength, .ref a_sounds, .int u1.2.1, .ref a_proposed, .ref a_given, .int v_proposals, .ref a_readings, .int v_readingMany, .long v_hash])), (a_now, .inl (cI, 150, .inl m_now)), (a_pad, .inl (cI, 8, .inl m_pad)), (a_sounds, .inl (cI, 8, .inl u1.2.2))] := hD
      refine lv_iconst (v := -1) hx hb dX7_reads_23 (by decide) ?_
      refine lv_icmp_eq (tgt := 89) hx hb dX7_reads_24 (by decide) (fun hb3 => ?_) (fun hb3 => ?_)
      · replace hf := if_t hb3 hf
        refine lv_iinc (v := (y1 + 1)) (lv' := [(1, .int (y1 + 1)), (0, .ref a_t)]) hx hb dX7_reads_89 hl (k := 1) rfl rfl (by decide) rfl (fun ls hl => ?_)
        refine lv_goto (tgt := 7) hx hb dX7_reads_92 (by decide) ?_
        have hP : va_P D vwCl [(a_t, .inr (7, [.ref a_now, .ref a_past, .int v_saved, .ref a_errors, .ref a_text, .int v_textLength, .ref a_pad, .int v_padLength, .ref a_sounds, .int u1.2.1, .ref a_proposed, .ref a_given, .int v_proposals, .ref a_readings, .int v_readingMany, .long v_hash])), (a_now, .inl (cI, 150, .inl m_now)), (a_pad, .inl (cI, 8, .inl m_pad)), (a_sounds, .inl (cI, 8, .inl u1.2.2)), (a_readings, .inl (cI, 12, .inl m_readings))] H := hP.sub [1, 2, 3, 4, 0] rfl
        have hD : va_D A [(a_t, .inr (7, [.ref a_now, .ref a_past, .int v_saved, .ref a_errors, .ref a_text, .int v_textLength, .ref a_pad, .int v_padLength, .ref a_sounds, .int u1.2.1, .ref a_proposed, .ref a_given, .int v_proposals, .ref a_readings, .int v_readingMany, .long v_hash])), (a_now, .inl (cI, 150, .inl m_now)), (a_pad, .inl (cI, 8, .inl m_pad)), (a_sounds, .inl (cI, 8, .inl u1.2.2)), (a_readings, .inl (cI, 12, .inl m_readings))] := hD.sub [1, 2, 3, 4, 0] (by decide +kernel) rfl
        exact ih (y1 + 1) u1.2.1 v_readingMany u1.2.2 m_readings o _ _ _ hf hP hD hS (lv_sub hl [1, 0] rfl) kk
      · replace hf := if_f hb3 hf
        refine lv_aload_n hx hb dX7_reads_27 rfl (lv_at hl 0 rfl) ?_
        refine va_get (D := D) (ci := 7) (v := .int v_readingMany) (C := RX7) (T := TX7) (N := 16) hx hb hts ly_X7_reads_X7 hown hK.1 hP 1 rfl rfl 14 (by decide) (hts (.fieldLink RX7 114 "ShorthandOutlinesModel" "readingMany" "I") wd_X7_reads_0) (fun _ h9 => h9) rfl dX7_reads_28 ?_
        refine lv_istore_n (lv' := [(2, .int v_readingMany), (0, .ref a_t), (1, .int y1)]) hx hb dX7_reads_31 rfl hl (by decide) rfl (fun ls hl => ?_)
        have hP : va_P D vwCl [(a_t, .inr (7, [.ref a_now, .ref a_past, .int v_saved, .ref a_errors, .ref a_text, .int v_textLength, .ref a_pad, .int v_padLength, .ref a_sounds, .int u1.2.1, .ref a_proposed, .ref a_given, .int v_proposals, .ref a_readings, .int v_readingMany, .long v_hash])), (a_now, .inl (cI, 150, .inl m_now)), (a_pad, .inl (cI, 8, .inl m_pad)), (a_sounds, .inl (cI, 8, .inl u1.2.2)), (a_readings, .inl (cI, 12, .inl m_readings))] H := hP.sub [1, 2, 3, 4, 0] rfl
        have hD : va_D A [(a_t, .inr (7, [.ref a_now, .ref a_past, .int v_saved, .ref a_errors, .ref a_text, .int v_textLength, .ref a_pad, .int v_padLength, .ref a_sounds, .int u1.2.1, .ref a_proposed, .ref a_given, .int v_proposals, .ref a_readings, .int v_readingMany, .long v_hash])), (a_now, .inl (cI, 150, .inl m_now)), (a_pad, .inl (cI, 8, .inl m_pad)), (a_sounds, .inl (cI, 8, .inl u1.2.2)), (a_readings, .inl (cI, 12, .inl m_readings))] := hD.sub [1, 2, 3, 4, 0] (by decide +kernel) rfl
        obtain ⟨u2, hc4, hf⟩ := ob hf
        refine lt_X7_reads_32 Cx a_t a_now a_past v_saved a_errors a_text v_textLength a_pad v_padLength a_sounds a_proposed a_given v_proposals a_readings v_readingMany v_hash m_now m_pad y1 1024 v_readingMany u1.2.1 u1.2.2 m_readings u2 _ _ _ hc4 hP hD hS (lv_sub hl [1, 2, 0] rfl) (fun H locs ls hP hD hS hl => ?_)
        have hP : va_P D vwCl [(a_t, .inr (7, [.ref a_now, .ref a_past, .int v_saved, .ref a_errors, .ref a_text, .int v_textLength, .ref a_pad, .int v_padLength, .ref a_sounds, .int u2.2.1, .ref a_proposed, .ref a_given, .int v_proposals, .ref a_readings, .int v_readingMany, .long v_hash])), (a_now, .inl (cI, 150, .inl m_now)), (a_pad, .inl (cI, 8, .inl m_pad)), (a_sounds, .inl (cI, 8, .inl u2.2.2.1)), (a_readings, .inl (cI, 12, .inl u2.2.2.2))] H := hP
        have hD : va_D A [(a_t, .inr (7, [.ref a_now, .ref a_past, .int v_saved, .ref a_errors, .ref a_text, .int v_textLength, .ref a_pad, .int v_padLength, .ref a_sounds, .int u2.2.1, .ref a_proposed, .ref a_given, .int v_proposals, .ref a_readings, .int v_readingMany, .long v_hash])), (a_now, .inl (cI, 150, .inl m_now)), (a_pad, .inl (cI, 8, .inl m_pad)), (a_sounds, .inl (cI, 8, .inl u2.2.2.1)), (a_readings, .inl (cI, 12, .inl u2.2.2.2))] := hD
        have hl : lv_has ls 3 [(0, .ref a_t), (1, .int y1), (2, .int u2.1)] := hl
        refine lv_aload_n hx hb dX7_reads_72 rfl (lv_at hl 0 rfl) ?_
        refine va_get (D := D) (ci := 7) (v := .ref a_readings) (C := RX7) (T := TX7) (N := 16) hx hb hts ly_X7_reads_X7 hown hK.1 hP 0 rfl rfl 13 (by decide) (hts (.fieldLink RX7 34 "ShorthandOutlinesModel" "readings" "[I") wd_X7_reads_2) (fun _ h9 => h9) rfl dX7_reads_73 ?_
        refine lv_iload_n hx hb dX7_reads_76 rfl (lv_at hl 2 rfl) ?_
        refine lv_iload_n hx hb dX7_reads_77 rfl (lv_at hl 1 rfl) ?_
        have hi5 := gd_1 hf
        replace hf := gd_2 hf
        refine va_iast hx hb hK.1 hP hD hS 4 0 rfl rfl (inb_in hi5) dX7_reads_78 (fun H locs hP hD hS => ?_)
        have hP : va_P D vwCl [(a_t, .inr (7, [.ref a_now, .ref a_past, .int v_saved, .ref a_errors, .ref a_text, .int v_textLength, .ref a_pad, .int v_padLength, .ref a_sounds, .int u2.2.1, .ref a_proposed, .ref a_given, .int v_proposals, .ref a_readings, .int v_readingMany, .long v_hash])), (a_now, .inl (cI, 150, .inl m_now)), (a_pad, .inl (cI, 8, .inl m_pad)), (a_sounds, .inl (cI, 8, .inl u2.2.2.1)), (a_readings, .inl (cI, 12, .inl (upd u2.2.2.2 (u2.1).toNatClampNeg y1)))] H := hP
        have hD : va_D A [(a_t, .inr (7, [.ref a_now, .ref a_past, .int v_saved, .ref a_errors, .ref a_text, .int v_textLength, .ref a_pad, .int v_padLength, .ref a_sounds, .int u2.2.1, .ref a_proposed, .ref a_given, .int v_proposals, .ref a_readings, .int v_readingMany, .long v_hash])), (a_now, .inl (cI, 150, .inl m_now)), (a_pad, .inl (cI, 8, .inl m_pad)), (a_sounds, .inl (cI, 8, .inl u2.2.2.1)), (a_readings, .inl (cI, 12, .inl (upd u2.2.2.2 (u2.1).toNatClampNeg y1)))] := hD
        refine lv_aload_n hx hb dX7_reads_79 rfl (lv_at hl 0 rfl) ?_
        refine lv_dup hx hb dX7_reads_80 rfl ?_
        refine va_get (D := D) (ci := 7) (v := .int v_readingMany) (C := RX7) (T := TX7) (N := 16) hx hb hts ly_X7_reads_X7 hown hK.1 hP 0 rfl rfl 14 (by decide) (hts (.fieldLink RX7 114 "ShorthandOutlinesModel" "readingMany" "I") wd_X7_reads_0) (fun _ h9 => h9) rfl dX7_reads_81 ?_
        refine lv_iconst (v := 1) hx hb dX7_reads_84 (by decide) ?_
        refine lv_iadd hx hb dX7_reads_85 ?_
        refine va_put (D := D) (ci := 7) (v := .int (v_readingMany + (1 : Int32))) (ty := .int) (C := RX7) (T := TX7) (N := 16) hx hb hts ly_X7_reads_X7 tyX7 tyX7_ok nmX7 hown hK.1 hP hD hS 0 rfl rfl 14 (by decide) (hts (.fieldLink RX7 114 "ShorthandOutlinesModel" "readingMany" "I") wd_X7_reads_0) (fun _ h9 => h9) rfl (by decide +kernel) rfl rfl (Nat.le_of_ble_eq_true rfl) dX7_reads_86 (fun H locs hP hD hS => ?_)
        have hP : va_P D vwCl [(a_t, .inr (7, [.ref a_now, .ref a_past, .int v_saved, .ref a_errors, .ref a_text, .int v_textLength, .ref a_pad, .int v_padLength, .ref a_sounds, .int u2.2.1, .ref a_proposed, .ref a_given, .int v_proposals, .ref a_readings, .int (v_readingMany + (1 : Int32)), .long v_hash])), (a_now, .inl (cI, 150, .inl m_now)), (a_pad, .inl (cI, 8, .inl m_pad)), (a_sounds, .inl (cI, 8, .inl u2.2.2.1)), (a_readings, .inl (cI, 12, .inl (upd u2.2.2.2 (u2.1).toNatClampNeg y1)))] H := hP
        have hD : va_D A [(a_t, .inr (7, [.ref a_now, .ref a_past, .int v_saved, .ref a_errors, .ref a_text, .int v_textLength, .ref a_pad, .int v_padLength, .ref a_sounds, .int u2.2.1, .ref a_proposed, .ref a_given, .int v_proposals, .ref a_readings, .int (v_readingMany + (1 : Int32)), .long v_hash])), (a_now, .inl (cI, 150, .inl m_now)), (a_pad, .inl (cI, 8, .inl m_pad)), (a_sounds, .inl (cI, 8, .inl u2.2.2.1)), (a_readings, .inl (cI, 12, .inl (upd u2.2.2.2 (u2.1).toNatClampNeg y1)))] := hD
        refine lv_iinc (v := (y1 + 1)) (lv' := [(1, .int (y1 + 1)), (0, .ref a_t), (2, .int u2.1)]) hx hb dX7_reads_89 hl (k := 1) rfl rfl (by decide) rfl (fun ls hl => ?_)
        refine lv_goto (tgt := 7) hx hb dX7_reads_92 (by decide) ?_
        exact ih (y1 + 1) u2.2.1 (v_readingMany + (1 : Int32)) u2.2.2.1 (upd u2.2.2.2 (u2.1).toNatClampNeg y1) o _ _ _ hf hP hD hS (lv_sub hl [1, 0] rfl) kk
set_option maxHeartbeats 4000000 in
set_option maxRecDepth 100000 in
theorem kt_X7_reads (l : Launch) (D : va_G) (cI cZ cS : ClassId) (a_t : Nat) (a_now : Nat) (a_pad : Nat) (a_sounds : Nat) (a_readings : Nat) (a_past : Nat) (a_errors : Nat) (a_text : Nat) (a_proposed : Nat) (a_given : Nat) (v_saved : Int32) (v_textLength : Int32) (v_proposals : Int32) (v_hash : Int64) (v_padLength : Int32) (v_soundMany : Int32) (v_readingMany : Int32) (m_now : Nat → Int32) (m_pad : Nat → Int32) (m_sounds : Nat → Int32) (m_readings : Nat → Int32) (o : Int32 × Int32 × (Nat → Int32) × (Nat → Int32)) (hf : fn_X7_reads v_padLength v_soundMany v_readingMany m_now m_pad m_sounds m_readings = some o) (sz : Nat) : Met l yX7_reads wsX7_reads rm_X7_reads (va_Pc [.ref a_t] (gPre D cI cZ cS [(a_t, .inr (7, [.ref a_now, .ref a_past, .int v_saved, .ref a_errors, .ref a_text, .int v_textLength, .ref a_pad, .int v_padLength, .ref a_sounds, .int v_soundMany, .ref a_proposed, .ref a_given, .int v_proposals, .ref a_readings, .int v_readingMany, .long v_hash])), (a_now, .inl (cI, 150, .inl m_now)), (a_pad, .inl (cI, 8, .inl m_pad)), (a_sounds, .inl (cI, 8, .inl m_sounds)), (a_readings, .inl (cI, 12, .inl m_readings))] sz)) (va_Qv (fun (_ : Unit) => True) (fun _ => gB D [(a_t, .inr (7, [.ref a_now, .ref a_past, .int v_saved, .ref a_errors, .ref a_text, .int v_textLength, .ref a_pad, .int v_padLength, .ref a_sounds, .int o.1, .ref a_proposed, .ref a_given, .int v_proposals, .ref a_readings, .int o.2.1, .long v_hash])), (a_now, .inl (cI, 150, .inl m_now)), (a_pad, .inl (cI, 8, .inl m_pad)), (a_sounds, .inl (cI, 8, .inl o.2.2.1)), (a_readings, .inl (cI, 12, .inl o.2.2.2))] (va_A [(a_t, .inr (7, [.ref a_now, .ref a_past, .int v_saved, .ref a_errors, .ref a_text, .int v_textLength, .ref a_pad, .int v_padLength, .ref a_sounds, .int v_soundMany, .ref a_proposed, .ref a_given, .int v_proposals, .ref a_readings, .int v_readingMany, .long v_hash])), (a_now, .inl (cI, 150, .inl m_now)), (a_pad, .inl (cI, 8, .inl m_pad)), (a_sounds, .inl (cI, 8, .inl m_sounds)), (a_readings, .inl (cI, 12, .inl m_readings))] sz)) (va_A [(a_t, .inr (7, [.ref a_now, .ref a_past, .int v_saved, .ref a_errors, .ref a_text, .int v_textLength, .ref a_pad, .int v_padLength, .ref a_sounds, .int v_soundMany, .ref a_proposed, .ref a_given, .int v_proposals, .ref a_readings, .int v_readingMany, .long v_hash])), (a_now, .inl (cI, 150, .inl m_now)), (a_pad, .inl (cI, 8, .inl m_pad)), (a_sounds, .inl (cI, 8, .inl m_sounds)), (a_readings, .inl (cI, 12, .inl m_readings))] sz)) 0 0 (va_A [(a_t, .inr (7, [.ref a_now, .ref a_past, .int v_saved, .ref a_errors, .ref a_text, .int v_textLength, .ref a_pad, .int v_padLength, .ref a_sounds, .int v_soundMany, .ref a_proposed, .ref a_given, .int v_proposals, .ref a_readings, .int v_readingMany, .long v_hash])), (a_now, .inl (cI, 150, .inl m_now)), (a_pad, .inl (cI, 8, .inl m_pad)), (a_sounds, .inl (cI, 8, .inl m_sounds)), (a_readings, .inl (cI, 12, .inl m_readings))] sz) := by
  refine g_entry (Qc := fun A => va_Qv (fun (_ : Unit) => True) (fun _ => gB D [(a_t, .inr (7, [.ref a_now, .ref a_past, .int v_saved, .ref a_errors, .ref a_text, .int v_textLength, .ref a_pad, .int v_padLength, .ref a_sounds, .int o.1, .ref a_proposed, .ref a_given, .int v_proposals, .ref a_readings, .int o.2.1, .long v_hash])), (a_now, .inl (cI, 150, .inl m_now)), (a_pad, .inl (cI, 8, .inl m_pad)), (a_sounds, .inl (cI, 8, .inl o.2.2.1)), (a_readings, .inl (cI, 12, .inl o.2.2.2))] A) A) (cc := cX7_reads) (maxL := 3) (ret := none) (by decide) rfl (Nat.le_of_ble_eq_true rfl) ?_ sz
  intro p e s m below meth c A ls Cx hP hD hS hl
  obtain ⟨hx, hb, hml, hr, hlk, hown, hin, hts, hK, hA⟩ := id Cx
  have hown : s.vm.findClass RX7 = some m.cls := hown
  have hl : lv_has ls 3 [(0, .ref a_t)] := hl
  unfold fn_X7_reads at hf
  refine lv_aload_n hx hb dX7_reads_0 rfl (lv_at hl 0 rfl) ?_
  refine lv_iconst (v := 0) hx hb dX7_reads_1 (by decide) ?_
  refine va_put (D := D) (ci := 7) (v := .int (0 : Int32)) (ty := .int) (C := RX7) (T := TX7) (N := 16) hx hb hts ly_X7_reads_X7 tyX7 tyX7_ok nmX7 hown hK.1 hP hD hS 0 rfl rfl 14 (by decide) (hts (.fieldLink RX7 114 "ShorthandOutlinesModel" "readingMany" "I") wd_X7_reads_0) (fun _ h9 => h9) rfl (by decide +kernel) rfl rfl (Nat.le_of_ble_eq_true rfl) dX7_reads_2 (fun H locs hP hD hS => ?_)
  have hP : va_P D vwCl [(a_t, .inr (7, [.ref a_now, .ref a_past, .int v_saved, .ref a_errors, .ref a_text, .int v_textLength, .ref a_pad, .int v_padLength, .ref a_sounds, .int v_soundMany, .ref a_proposed, .ref a_given, .int v_proposals, .ref a_readings, .int (0 : Int32), .long v_hash])), (a_now, .inl (cI, 150, .inl m_now)), (a_pad, .inl (cI, 8, .inl m_pad)), (a_sounds, .inl (cI, 8, .inl m_sounds)), (a_readings, .inl (cI, 12, .inl m_readings))] H := hP
  have hD : va_D A [(a_t, .inr (7, [.ref a_now, .ref a_past, .int v_saved, .ref a_errors, .ref a_text, .int v_textLength, .ref a_pad, .int v_padLength, .ref a_sounds, .int v_soundMany, .ref a_proposed, .ref a_given, .int v_proposals, .ref a_readings, .int (0 : Int32), .long v_hash])), (a_now, .inl (cI, 150, .inl m_now)), (a_pad, .inl (cI, 8, .inl m_pad)), (a_sounds, .inl (cI, 8, .inl m_sounds)), (a_readings, .inl (cI, 12, .inl m_readings))] := hD
  refine lv_iconst (v := 0) hx hb dX7_reads_5 (by decide) ?_
  refine lv_istore_n (lv' := [(1, .int (0 : Int32)), (0, .ref a_t)]) hx hb dX7_reads_6 rfl hl (by decide) rfl (fun ls hl => ?_)
  obtain ⟨u1, hc1, hf⟩ := ob hf
  refine lt_X7_reads_7 Cx a_t a_now a_past v_saved a_errors a_text v_textLength a_pad v_padLength a_sounds a_proposed a_given v_proposals a_readings v_hash m_now m_pad 1024 (0 : Int32) v_soundMany (0 : Int32) m_sounds m_readings u1 _ _ _ hc1 hP hD hS (lv_sub hl [1, 0] rfl) (fun H locs ls hP hD hS hl => ?_)
  have hP : va_P D vwCl [(a_t, .inr (7, [.ref a_now, .ref a_past, .int v_saved, .ref a_errors, .ref a_text, .int v_textLength, .ref a_pad, .int v_padLength, .ref a_sounds, .int u1.1, .ref a_proposed, .ref a_given, .int v_proposals, .ref a_readings, .int u1.2.1, .long v_hash])), (a_now, .inl (cI, 150, .inl m_now)), (a_pad, .inl (cI, 8, .inl m_pad)), (a_sounds, .inl (cI, 8, .inl u1.2.2.1)), (a_readings, .inl (cI, 12, .inl u1.2.2.2))] H := hP
  have hD : va_D A [(a_t, .inr (7, [.ref a_now, .ref a_past, .int v_saved, .ref a_errors, .ref a_text, .int v_textLength, .ref a_pad, .int v_padLength, .ref a_sounds, .int u1.1, .ref a_proposed, .ref a_given, .int v_proposals, .ref a_readings, .int u1.2.1, .long v_hash])), (a_now, .inl (cI, 150, .inl m_now)), (a_pad, .inl (cI, 8, .inl m_pad)), (a_sounds, .inl (cI, 8, .inl u1.2.2.1)), (a_readings, .inl (cI, 12, .inl u1.2.2.2))] := hD
  have hl : lv_has ls 3 [] := hl
  have ho := so hf
  subst ho
  exact g_vret hx hb hr hlk hP hD hS dX7_reads_95

theorem sg_X7_reading : yX7_reading.cls = RX7 ∧ yX7_reading.cls ≠ "java/lang/invoke/MethodHandle" ∧ yX7_reading.cls ≠ "java/lang/invoke/VarHandle" ∧ (parseMethodDescriptor yX7_reading.desc).map (fun d => d.parameters.length) = some 1 := by decide +kernel
abbrev rm_X7_reading : Room := { frames := 5, cells := 0, slots := 0, locals := 116 }
theorem wd_X7_reading_0 : (.fieldLink RX7 114 "ShorthandOutlinesModel" "readingMany" "I" : Cond) ∈ wsX7_reading := by decide +kernel
theorem wd_X7_reading_1 : (.fieldLink RX7 34 "ShorthandOutlinesModel" "readings" "[I" : Cond) ∈ wsX7_reading := by decide +kernel
theorem ly_X7_reading_X7 : ∀ w ∈ u_ws RX7 TX7 16, w ∈ wsX7_reading := by decide +kernel
set_option maxHeartbeats 4000000 in
set_option maxRecDepth 100000 in
theorem kt_X7_reading (l : Launch) (D : va_G) (cI cZ cS : ClassId) (a_t : Nat) (a_now : Nat) (a_errors : Nat) (a_pad : Nat) (a_sounds : Nat) (a_readings : Nat) (a_past : Nat) (a_text : Nat) (a_proposed : Nat) (a_given : Nat) (v_saved : Int32) (v_textLength : Int32) (v_proposals : Int32) (v_hash : Int64) (v_padLength : Int32) (v_soundMany : Int32) (v_readingMany : Int32) (m_now : Nat → Int32) (m_errors : Nat → Int32) (m_pad : Nat → Int32) (m_sounds : Nat → Int32) (m_readings : Nat → Int32) (x1 : Int32) (o : Int32 × Int32 × Int32 × (Nat → Int32) × (Nat → Int32) × (Nat → Int32)) (hf : fn_X7_reading v_padLength v_soundMany v_readingMany m_now m_errors m_pad m_sounds m_readings x1 = some o) (sz : Nat) : Met l yX7_reading wsX7_reading rm_X7_reading (va_Pc [.ref a_t, .int x1] (gPre D cI cZ cS [(a_t, .inr (7, [.ref a_now, .ref a_past, .int v_saved, .ref a_errors, .ref a_text, .int v_textLength, .ref a_pad, .int v_padLength, .ref a_sounds, .int v_soundMany, .ref a_proposed, .ref a_given, .int v_proposals, .ref a_readings, .int v_readingMany, .long v_hash])), (a_now, .inl (cI, 150, .inl m_now)), (a_errors, .inl (cI, 4, .inl m_errors)), (a_pad, .inl (cI, 8, .inl m_pad)), (a_sounds, .inl (cI, 8, .inl m_sounds)), (a_readings, .inl (cI, 12, .inl m_readings))] sz)) (va_Qi (fun r (_ : Unit) => r = o.1) (fun _ => gB D [(a_t, .inr (7, [.ref a_now, .ref a_past, .int v_saved, .ref a_errors, .ref a_text, .int v_textLength, .ref a_pad, .int v_padLength, .ref a_sounds, .int o.2.1, .ref a_proposed, .ref a_given, .int v_proposals, .ref a_readings, .int o.2.2.1, .long v_hash])), (a_now, .inl (cI, 150, .inl m_now)), (a_errors, .inl (cI, 4, .inl o.2.2.2.1)), (a_pad, .inl (cI, 8, .inl m_pad)), (a_sounds, .inl (cI, 8, .inl o.2.2.2.2.1)), (a_readings, .inl (cI, 12, .inl o.2.2.2.2.2))] (va_A [(a_t, .inr (7, [.ref a_now, .ref a_past, .int v_saved, .ref a_errors, .ref a_text, .int v_textLength, .ref a_pad, .int v_padLength, .ref a_sounds, .int v_soundMany, .ref a_proposed, .ref a_given, .int v_proposals, .ref a_readings, .int v_readingMany, .long v_hash])), (a_now, .inl (cI, 150, .inl m_now)), (a_errors, .inl (cI, 4, .inl m_errors)), (a_pad, .inl (cI, 8, .inl m_pad)), (a_sounds, .inl (cI, 8, .inl m_sounds)), (a_readings, .inl (cI, 12, .inl m_readings))] sz)) (va_A [(a_t, .inr (7, [.ref a_now, .ref a_past, .int v_saved, .ref a_errors, .ref a_text, .int v_textLength, .ref a_pad, .int v_padLength, .ref a_sounds, .int v_soundMany, .ref a_proposed, .ref a_given, .int v_proposals, .ref a_readings, .int v_readingMany, .long v_hash])), (a_now, .inl (cI, 150, .inl m_now)), (a_errors, .inl (cI, 4, .inl m_errors)), (a_pad, .inl (cI, 8, .inl m_pad)), (a_sounds, .inl (cI, 8, .inl m_sounds)), (a_readings, .inl (cI, 12, .inl m_readings))] sz)) 0 0 (va_A [(a_t, .inr (7, [.ref a_now, .ref a_past, .int v_saved, .ref a_errors, .ref a_text, .int v_textLength, .ref a_pad, .int v_padLength, .ref a_sounds, .int v_soundMany, .ref a_proposed, .ref a_given, .int v_proposals, .ref a_readings, .int v_readingMany, .long v_hash])), (a_now, .inl (cI, 150, .inl m_now)), (a_errors, .inl (cI, 4, .inl m_errors)), (a_pad, .inl (cI, 8, .inl m_pad)), (a_sounds, .inl (cI, 8, .inl m_sounds)), (a_readings, .inl (cI, 12, .inl m_readings))] sz) := by
  refine g_entry (Qc := fun A => va_Qi (fun r (_ : Unit) => r = o.1) (fun _ => gB D [(a_t, .inr (7, [.ref a_now, .ref a_past, .int v_saved, .ref a_errors, .ref a_text, .int v_textLength, .ref a_pad, .int v_padLength, .ref a_sounds, .int o.2.1, .ref a_proposed, .ref a_given, .int v_proposals, .ref a_readings, .int o.2.2.1, .long v_hash])), (a_now, .inl (cI, 150, .inl m_now)), (a_errors, .inl (cI, 4, .inl o.2.2.2.1)), (a_pad, .inl (cI, 8, .inl m_pad)), (a_sounds, .inl (cI, 8, .inl o.2.2.2.2.1)), (a_readings, .inl (cI, 12, .inl o.2.2.2.2.2))] A) A) (cc := cX7_reading) (maxL := 2) (ret := (some .int)) (by decide) rfl (Nat.le_of_ble_eq_true rfl) ?_ sz
  intro p e s m below meth c A ls Cx hP hD hS hl
  obtain ⟨hx, hb, hml, hr, hlk, hown, hin, hts, hK, hA⟩ := id Cx
  have hown : s.vm.findClass RX7 = some m.cls := hown
  have hl : lv_has ls 2 [(0, .ref a_t), (1, .int x1)] := hl
  unfold fn_X7_reading at hf
  refine lv_iload_n hx hb dX7_reading_0 rfl (lv_at hl 1 rfl) ?_
  refine lv_iconst (v := -1) hx hb dX7_reading_1 (by decide) ?_
  refine lv_icmp_ge (tgt := 12) hx hb dX7_reading_2 (by decide) (fun hb1 => ?_) (fun hb1 => ?_)
  · replace hf := if_t hb1 hf
    refine lv_aload_n hx hb dX7_reading_12 rfl (lv_at hl 0 rfl) ?_
    obtain ⟨u1, hc2, hf⟩ := ob hf
    refine g_kv (wc := [(a_t, .inr (7, [.ref a_now, .ref a_past, .int v_saved, .ref a_errors, .ref a_text, .int v_textLength, .ref a_pad, .int v_padLength, .ref a_sounds, .int v_soundMany, .ref a_proposed, .ref a_given, .int v_proposals, .ref a_readings, .int v_readingMany, .long v_hash])), (a_now, .inl (cI, 150, .inl m_now)), (a_pad, .inl (cI, 8, .inl m_pad)), (a_sounds, .inl (cI, 8, .inl m_sounds)), (a_readings, .inl (cI, 12, .inl m_readings))]) (wc' := [(a_t, .inr (7, [.ref a_now, .ref a_past, .int v_saved, .ref a_errors, .ref a_text, .int v_textLength, .ref a_pad, .int v_padLength, .ref a_sounds, .int u1.1, .ref a_proposed, .ref a_given, .int v_proposals, .ref a_readings, .int u1.2.1, .long v_hash])), (a_now, .inl (cI, 150, .inl m_now)), (a_pad, .inl (cI, 8, .inl m_pad)), (a_sounds, .inl (cI, 8, .inl u1.2.2.1)), (a_readings, .inl (cI, 12, .inl u1.2.2.2))]) (wr := [(a_errors, .inl (cI, 4, .inl m_errors))]) (va_runV (As := []) (rest := []) ⟨hx, hb, hml, hown, hts⟩ (kt_X7_reads l D cI cZ cS a_t a_now a_pad a_sounds a_readings a_past a_errors a_text a_proposed a_given v_saved v_textLength v_proposals v_hash v_padLength v_soundMany v_readingMany m_now m_pad m_sounds m_readings u1 hc2 _) (cwV 0 hts gX7_reading_X7_reads rfl rfl rfl sg_X7_reads ⟨(Nat.le_of_ble_eq_true rfl), (Nat.le_of_ble_eq_true rfl)⟩) (g_pv (q := (RX7, TX7, 16)) hK hP hD [0, 1, 3, 4, 5] rfl (by decide) rfl rfl) rfl rfl hl.1 rfl (lv_room (Nat.le_of_ble_eq_true rfl)) dX7_reading_13 ⟨Nat.zero_le _, Nat.zero_le _⟩) hP hD hS hA [0, 1, 3, 4, 5] [2] rfl rfl (by decide) (by decide) (fun H locs hP hD hS => ?_)
    have hP : va_P D vwCl [(a_errors, .inl (cI, 4, .inl m_errors)), (a_t, .inr (7, [.ref a_now, .ref a_past, .int v_saved, .ref a_errors, .ref a_text, .int v_textLength, .ref a_pad, .int v_padLength, .ref a_sounds, .int u1.1, .ref a_proposed, .ref a_given, .int v_proposals, .ref a_readings, .int u1.2.1, .long v_hash])), (a_now, .inl (cI, 150, .inl m_now)), (a_pad, .inl (cI, 8, .inl m_pad)), (a_sounds, .inl (cI, 8, .inl u1.2.2.1)), (a_readings, .inl (cI, 12, .inl u1.2.2.2))] H := hP
    have hD : va_D A [(a_errors, .inl (cI, 4, .inl m_errors)), (a_t, .inr (7, [.ref a_now, .ref a_past, .int v_saved, .ref a_errors, .ref a_text, .int v_textLength, .ref a_pad, .int v_padLength, .ref a_sounds, .int u1.1, .ref a_proposed, .ref a_given, .int v_proposals, .ref a_readings, .int u1.2.1, .long v_hash])), (a_now, .inl (cI, 150, .inl m_now)), (a_pad, .inl (cI, 8, .inl m_pad)), (a_sounds, .inl (cI, 8, .inl u1.2.2.1)), (a_readings, .inl (cI, 12, .inl u1.2.2.2))] := hD
    refine lv_iload_n hx hb dX7_reading_16 rfl (lv_at hl 1 rfl) ?_
    refine lv_iconst (v := -1) hx hb dX7_reading_17 (by decide) ?_
    refine lv_icmp_ne (tgt := 28) hx hb dX7_reading_18 (by decide) (fun hb3 => ?_) (fun hb3 => ?_)
    · replace hf := if_f hb3 hf
      refine lv_iload_n hx hb dX7_reading_28 rfl (lv_at hl 1 rfl) ?_
      refine lv_aload_n hx hb dX7_reading_29 rfl (lv_at hl 0 rfl) ?_
      refine va_get (D := D) (ci := 7) (v := .int u1.2.1) (C := RX7) (T := TX7) (N := 16) hx hb hts ly_X7_reading_X7 hown hK.1 hP 1 rfl rfl 14 (by decide) (hts (.fieldLink RX7 114 "ShorthandOutlinesModel" "readingMany" "I") wd_X7_reading_0) (fun _ h9 => h9) rfl dX7_reading_30 ?_
      refine lv_icmp_ge (tgt := 45) hx hb dX7_reading_33 (by decide) (fun hb4 => ?_) (fun hb4 => ?_)
      · replace hf := if_t hb4 hf
        refine lv_iconst (v := -1) hx hb dX7_reading_45 (by decide) ?_
        have hP : va_P D vwCl [(a_t, .inr (7, [.ref a_now, .ref a_past, .int v_saved, .ref a_errors, .ref a_text, .int v_textLength, .ref a_pad, .int v_padLength, .ref a_sounds, .int u1.1, .ref a_proposed, .ref a_given, .int v_proposals, .ref a_readings, .int u1.2.1, .long v_hash])), (a_now, .inl (cI, 150, .inl m_now)), (a_errors, .inl (cI, 4, .inl m_errors)), (a_pad, .inl (cI, 8, .inl m_pad)), (a_sounds, .inl (cI, 8, .inl u1.2.2.1)), (a_readings, .inl (cI, 12, .inl u1.2.2.2))] H := hP.sub [1, 2, 0, 3, 4, 5] rfl
        have hD : va_D A [(a_t, .inr (7, [.ref a_now, .ref a_past, .int v_saved, .ref a_errors, .ref a_text, .int v_textLength, .ref a_pad, .int v_padLength, .ref a_sounds, .int u1.1, .ref a_proposed, .ref a_given, .int v_proposals, .ref a_readings, .int u1.2.1, .long v_hash])), (a_now, .inl (cI, 150, .inl m_now)), (a_errors, .inl (cI, 4, .inl m_errors)), (a_pad, .inl (cI, 8, .inl m_pad)), (a_sounds, .inl (cI, 8, .inl u1.2.2.1)), (a_readings, .inl (cI, 12, .inl u1.2.2.2))] := hD.sub [1, 2, 0, 3, 4, 5] (by decide +kernel) rfl
        have ho := so hf
        subst ho
        exact g_iret hx hb hr hlk hP hD hS dX7_reading_46
      · replace hf := if_f hb4 hf
        refine lv_aload_n hx hb dX7_reading_36 rfl (lv_at hl 0 rfl) ?_
        refine va_get (D := D) (ci := 7) (v := .ref a_readings) (C := RX7) (T := TX7) (N := 16) hx hb hts ly_X7_reading_X7 hown hK.1 hP 1 rfl rfl 13 (by decide) (hts (.fieldLink RX7 34 "ShorthandOutlinesModel" "readings" "[I") wd_X7_reading_1) (fun _ h9 => h9) rfl dX7_reading_37 ?_
        refine lv_iload_n hx hb dX7_reading_40 rfl (lv_at hl 1 rfl) ?_
        have hi5 := gd_1 hf
        replace hf := gd_2 hf
        refine va_iald hx hb hK.1 hP 5 0 rfl rfl (inb_in hi5) dX7_reading_41 ?_
        refine lv_goto (tgt := 46) hx hb dX7_reading_42 (by decide) ?_
        have hP : va_P D vwCl [(a_t, .inr (7, [.ref a_now, .ref a_past, .int v_saved, .ref a_errors, .ref a_text, .int v_textLength, .ref a_pad, .int v_padLength, .ref a_sounds, .int u1.1, .ref a_proposed, .ref a_given, .int v_proposals, .ref a_readings, .int u1.2.1, .long v_hash])), (a_now, .inl (cI, 150, .inl m_now)), (a_errors, .inl (cI, 4, .inl m_errors)), (a_pad, .inl (cI, 8, .inl m_pad)), (a_sounds, .inl (cI, 8, .inl u1.2.2.1)), (a_readings, .inl (cI, 12, .inl u1.2.2.2))] H := hP.sub [1, 2, 0, 3, 4, 5] rfl
        have hD : va_D A [(a_t, .inr (7, [.ref a_now, .ref a_past, .int v_saved, .ref a_errors, .ref a_text, .int v_textLength, .ref a_pad, .int v_padLength, .ref a_sounds, .int u1.1, .ref a_proposed, .ref a_given, .int v_proposals, .ref a_readings, .int u1.2.1, .long v_hash])), (a_now, .inl (cI, 150, .inl m_now)), (a_errors, .inl (cI, 4, .inl m_errors)), (a_pad, .inl (cI, 8, .inl m_pad)), (a_sounds, .inl (cI, 8, .inl u1.2.2.1)), (a_readings, .inl (cI, 12, .inl u1.2.2.2))] := hD.sub [1, 2, 0, 3, 4, 5] (by decide +kernel) rfl
        have ho := so hf
        subst ho
        exact g_iret hx hb hr hlk hP hD hS dX7_reading_46
    · replace hf := if_t hb3 hf
      refine lv_aload_n hx hb dX7_reading_21 rfl (lv_at hl 0 rfl) ?_
      refine va_get (D := D) (ci := 7) (v := .int u1.2.1) (C := RX7) (T := TX7) (N := 16) hx hb hts ly_X7_reading_X7 hown hK.1 hP 1 rfl rfl 14 (by decide) (hts (.fieldLink RX7 114 "ShorthandOutlinesModel" "readingMany" "I") wd_X7_reading_0) (fun _ h9 => h9) rfl dX7_reading_22 ?_
      refine lv_goto (tgt := 46) hx hb dX7_reading_25 (by decide) ?_
      have hP : va_P D vwCl [(a_t, .inr (7, [.ref a_now, .ref a_past, .int v_saved, .ref a_errors, .ref a_text, .int v_textLength, .ref a_pad, .int v_padLength, .ref a_sounds, .int u1.1, .ref a_proposed, .ref a_given, .int v_proposals, .ref a_readings, .int u1.2.1, .long v_hash])), (a_now, .inl (cI, 150, .inl m_now)), (a_errors, .inl (cI, 4, .inl m_errors)), (a_pad, .inl (cI, 8, .inl m_pad)), (a_sounds, .inl (cI, 8, .inl u1.2.2.1)), (a_readings, .inl (cI, 12, .inl u1.2.2.2))] H := hP.sub [1, 2, 0, 3, 4, 5] rfl
      have hD : va_D A [(a_t, .inr (7, [.ref a_now, .ref a_past, .int v_saved, .ref a_errors, .ref a_text, .int v_textLength, .ref a_pad, .int v_padLength, .ref a_sounds, .int u1.1, .ref a_proposed, .ref a_given, .int v_proposals, .ref a_readings, .int u1.2.1, .long v_hash])), (a_now, .inl (cI, 150, .inl m_now)), (a_errors, .inl (cI, 4, .inl m_errors)), (a_pad, .inl (cI, 8, .inl m_pad)), (a_sounds, .inl (cI, 8, .inl u1.2.2.1)), (a_readings, .inl (cI, 12, .inl u1.2.2.2))] := hD.sub [1, 2, 0, 3, 4, 5] (by decide +kernel) rfl
      have ho := so hf
      subst ho
      exact g_iret hx hb hr hlk hP hD hS dX7_reading_46
  · replace hf := if_f hb1 hf
    refine lv_aload_n hx hb dX7_reading_5 rfl (lv_at hl 0 rfl) ?_
    refine lv_bipush (v := -2) hx hb dX7_reading_6 (by decide) ?_
    obtain ⟨u2, hc6, hf⟩ := ob hf
    refine g_ki (wc := [(a_t, .inr (7, [.ref a_now, .ref a_past, .int v_saved, .ref a_errors, .ref a_text, .int v_textLength, .ref a_pad, .int v_padLength, .ref a_sounds, .int v_soundMany, .ref a_proposed, .ref a_given, .int v_proposals, .ref a_readings, .int v_readingMany, .long v_hash])), (a_errors, .inl (cI, 4, .inl m_errors))]) (wc' := [(a_t, .inr (7, [.ref a_now, .ref a_past, .int v_saved, .ref a_errors, .ref a_text, .int v_textLength, .ref a_pad, .int v_padLength, .ref a_sounds, .int v_soundMany, .ref a_proposed, .ref a_given, .int v_proposals, .ref a_readings, .int v_readingMany, .long v_hash])), (a_errors, .inl (cI, 4, .inl u2.2))]) (wr := [(a_now, .inl (cI, 150, .inl m_now)), (a_pad, .inl (cI, 8, .inl m_pad)), (a_sounds, .inl (cI, 8, .inl m_sounds)), (a_readings, .inl (cI, 12, .inl m_readings))]) (va_runV (As := [.int (-2 : Int32)]) (rest := []) ⟨hx, hb, hml, hown, hts⟩ (kt_X7_fails l D cI cZ cS a_t a_errors a_now a_past a_text a_pad a_sounds a_proposed a_given a_readings v_saved v_textLength v_padLength v_soundMany v_proposals v_readingMany v_hash m_errors (-2 : Int32) u2 hc6 _) (cwV 1 hts gX7_reading_X7_fails rfl rfl rfl sg_X7_fails ⟨(Nat.le_of_ble_eq_true rfl), (Nat.le_of_ble_eq_true rfl)⟩) (g_pv (q := (RX7, TX7, 16)) hK hP hD [0, 2] rfl (by decide) rfl rfl) rfl rfl hl.1 rfl (lv_room (Nat.le_of_ble_eq_true rfl)) dX7_reading_8 ⟨Nat.zero_le _, Nat.zero_le _⟩) hP hD hS hA [0, 2] [1, 3, 4, 5] rfl rfl (by decide) (by decide) (fun H locs hP hD hS => ?_)
    have hP : va_P D vwCl [(a_now, .inl (cI, 150, .inl m_now)), (a_pad, .inl (cI, 8, .inl m_pad)), (a_sounds, .inl (cI, 8, .inl m_sounds)), (a_readings, .inl (cI, 12, .inl m_readings)), (a_t, .inr (7, [.ref a_now, .ref a_past, .int v_saved, .ref a_errors, .ref a_text, .int v_textLength, .ref a_pad, .int v_padLength, .ref a_sounds, .int v_soundMany, .ref a_proposed, .ref a_given, .int v_proposals, .ref a_readings, .int v_readingMany, .long v_hash])), (a_errors, .inl (cI, 4, .inl u2.2))] H := hP
    have hD : va_D A [(a_now, .inl (cI, 150, .inl m_now)), (a_pad, .inl (cI, 8, .inl m_pad)), (a_sounds, .inl (cI, 8, .inl m_sounds)), (a_readings, .inl (cI, 12, .inl m_readings)), (a_t, .inr (7, [.ref a_now, .ref a_past, .int v_saved, .ref a_errors, .ref a_text, .int v_textLength, .ref a_pad, .int v_padLength, .ref a_sounds, .int v_soundMany, .ref a_proposed, .ref a_given, .int v_proposals, .ref a_readings, .int v_readingMany, .long v_hash])), (a_errors, .inl (cI, 4, .inl u2.2))] := hD
    have hP : va_P D vwCl [(a_t, .inr (7, [.ref a_now, .ref a_past, .int v_saved, .ref a_errors, .ref a_text, .int v_textLength, .ref a_pad, .int v_padLength, .ref a_sounds, .int v_soundMany, .ref a_proposed, .ref a_given, .int v_proposals, .ref a_readings, .int v_readingMany, .long v_hash])), (a_now, .inl (cI, 150, .inl m_now)), (a_errors, .inl (cI, 4, .inl u2.2)), (a_pad, .inl (cI, 8, .inl m_pad)), (a_sounds, .inl (cI, 8, .inl m_sounds)), (a_readings, .inl (cI, 12, .inl m_readings))] H := hP.sub [4, 0, 5, 1, 2, 3] rfl
    have hD : va_D A [(a_t, .inr (7, [.ref a_now, .ref a_past, .int v_saved, .ref a_errors, .ref a_text, .int v_textLength, .ref a_pad, .int v_padLength, .ref a_sounds, .int v_soundMany, .ref a_proposed, .ref a_given, .int v_proposals, .ref a_readings, .int v_readingMany, .long v_hash])), (a_now, .inl (cI, 150, .inl m_now)), (a_errors, .inl (cI, 4, .inl u2.2)), (a_pad, .inl (cI, 8, .inl m_pad)), (a_sounds, .inl (cI, 8, .inl m_sounds)), (a_readings, .inl (cI, 12, .inl m_readings))] := hD.sub [4, 0, 5, 1, 2, 3] (by decide +kernel) rfl
    have ho := so hf
    subst ho
    exact g_iret hx hb hr hlk hP hD hS dX7_reading_11

theorem sg_X7_doubt : yX7_doubt.cls = RX7 ∧ yX7_doubt.cls ≠ "java/lang/invoke/MethodHandle" ∧ yX7_doubt.cls ≠ "java/lang/invoke/VarHandle" ∧ (parseMethodDescriptor yX7_doubt.desc).map (fun d => d.parameters.length) = some 1 := by decide +kernel
abbrev rm_X7_doubt : Room := { frames := 5, cells := 0, slots := 0, locals := 116 }
theorem wd_X7_doubt_0 : (.fieldLink RX7 114 "ShorthandOutlinesModel" "readingMany" "I" : Cond) ∈ wsX7_doubt := by decide +kernel
theorem wd_X7_doubt_1 : (.fieldLink RX7 34 "ShorthandOutlinesModel" "readings" "[I" : Cond) ∈ wsX7_doubt := by decide +kernel
theorem ly_X7_doubt_X7 : ∀ w ∈ u_ws RX7 TX7 16, w ∈ wsX7_doubt := by decide +kernel
set_option maxHeartbeats 4000000 in
set_option maxRecDepth 100000 in
theorem kt_X7_doubt (l : Launch) (D : va_G) (cI cZ cS : ClassId) (a_t : Nat) (a_now : Nat) (a_errors : Nat) (a_pad : Nat) (a_sounds : Nat) (a_readings : Nat) (a_past : Nat) (a_text : Nat) (a_proposed : Nat) (a_given : Nat) (v_saved : Int32) (v_textLength : Int32) (v_proposals : Int32) (v_hash : Int64) (v_padLength : Int32) (v_soundMany : Int32) (v_readingMany : Int32) (m_now : Nat → Int32) (m_errors : Nat → Int32) (m_pad : Nat → Int32) (m_sounds : Nat → Int32) (m_readings : Nat → Int32) (x1 : Int32) (o : Int32 × Int32 × Int32 × (Nat → Int32) × (Nat → Int32) × (Nat → Int32)) (hf : fn_X7_doubt v_padLength v_soundMany v_readingMany m_now m_errors m_pad m_sounds m_readings x1 = some o) (sz : Nat) : Met l yX7_doubt wsX7_doubt rm_X7_doubt (va_Pc [.ref a_t, .int x1] (gPre D cI cZ cS [(a_t, .inr (7, [.ref a_now, .ref a_past, .int v_saved, .ref a_errors, .ref a_text, .int v_textLength, .ref a_pad, .int v_padLength, .ref a_sounds, .int v_soundMany, .ref a_proposed, .ref a_given, .int v_proposals, .ref a_readings, .int v_readingMany, .long v_hash])), (a_now, .inl (cI, 150, .inl m_now)), (a_errors, .inl (cI, 4, .inl m_errors)), (a_pad, .inl (cI, 8, .inl m_pad)), (a_sounds, .inl (cI, 8, .inl m_sounds)), (a_readings, .inl (cI, 12, .inl m_readings))] sz)) (va_Qi (fun r (_ : Unit) => r = o.1) (fun _ => gB D [(a_t, .inr (7, [.ref a_now, .ref a_past, .int v_saved, .ref a_errors, .ref a_text, .int v_textLength, .ref a_pad, .int v_padLength, .ref a_sounds, .int o.2.1, .ref a_proposed, .ref a_given, .int v_proposals, .ref a_readings, .int o.2.2.1, .long v_hash])), (a_now, .inl (cI, 150, .inl m_now)), (a_errors, .inl (cI, 4, .inl o.2.2.2.1)), (a_pad, .inl (cI, 8, .inl m_pad)), (a_sounds, .inl (cI, 8, .inl o.2.2.2.2.1)), (a_readings, .inl (cI, 12, .inl o.2.2.2.2.2))] (va_A [(a_t, .inr (7, [.ref a_now, .ref a_past, .int v_saved, .ref a_errors, .ref a_text, .int v_textLength, .ref a_pad, .int v_padLength, .ref a_sounds, .int v_soundMany, .ref a_proposed, .ref a_given, .int v_proposals, .ref a_readings, .int v_readingMany, .long v_hash])), (a_now, .inl (cI, 150, .inl m_now)), (a_errors, .inl (cI, 4, .inl m_errors)), (a_pad, .inl (cI, 8, .inl m_pad)), (a_sounds, .inl (cI, 8, .inl m_sounds)), (a_readings, .inl (cI, 12, .inl m_readings))] sz)) (va_A [(a_t, .inr (7, [.ref a_now, .ref a_past, .int v_saved, .ref a_errors, .ref a_text, .int v_textLength, .ref a_pad, .int v_padLength, .ref a_sounds, .int v_soundMany, .ref a_proposed, .ref a_given, .int v_proposals, .ref a_readings, .int v_readingMany, .long v_hash])), (a_now, .inl (cI, 150, .inl m_now)), (a_errors, .inl (cI, 4, .inl m_errors)), (a_pad, .inl (cI, 8, .inl m_pad)), (a_sounds, .inl (cI, 8, .inl m_sounds)), (a_readings, .inl (cI, 12, .inl m_readings))] sz)) 0 0 (va_A [(a_t, .inr (7, [.ref a_now, .ref a_past, .int v_saved, .ref a_errors, .ref a_text, .int v_textLength, .ref a_pad, .int v_padLength, .ref a_sounds, .int v_soundMany, .ref a_proposed, .ref a_given, .int v_proposals, .ref a_readings, .int v_readingMany, .long v_hash])), (a_now, .inl (cI, 150, .inl m_now)), (a_errors, .inl (cI, 4, .inl m_errors)), (a_pad, .inl (cI, 8, .inl m_pad)), (a_sounds, .inl (cI, 8, .inl m_sounds)), (a_readings, .inl (cI, 12, .inl m_readings))] sz) := by
  refine g_entry (Qc := fun A => va_Qi (fun r (_ : Unit) => r = o.1) (fun _ => gB D [(a_t, .inr (7, [.ref a_now, .ref a_past, .int v_saved, .ref a_errors, .ref a_text, .int v_textLength, .ref a_pad, .int v_padLength, .ref a_sounds, .int o.2.1, .ref a_proposed, .ref a_given, .int v_proposals, .ref a_readings, .int o.2.2.1, .long v_hash])), (a_now, .inl (cI, 150, .inl m_now)), (a_errors, .inl (cI, 4, .inl o.2.2.2.1)), (a_pad, .inl (cI, 8, .inl m_pad)), (a_sounds, .inl (cI, 8, .inl o.2.2.2.2.1)), (a_readings, .inl (cI, 12, .inl o.2.2.2.2.2))] A) A) (cc := cX7_doubt) (maxL := 2) (ret := (some .int)) (by decide) rfl (Nat.le_of_ble_eq_true rfl) ?_ sz
  intro p e s m below meth c A ls Cx hP hD hS hl
  obtain ⟨hx, hb, hml, hr, hlk, hown, hin, hts, hK, hA⟩ := id Cx
  have hown : s.vm.findClass RX7 = some m.cls := hown
  have hl : lv_has ls 2 [(0, .ref a_t), (1, .int x1)] := hl
  unfold fn_X7_doubt at hf
  refine lv_iload_n hx hb dX7_doubt_0 rfl (lv_at hl 1 rfl) ?_
  refine lv_if_ge (tgt := 11) hx hb dX7_doubt_1 (by decide) (fun hb1 => ?_) (fun hb1 => ?_)
  · replace hf := if_t hb1 hf
    refine lv_aload_n hx hb dX7_doubt_11 rfl (lv_at hl 0 rfl) ?_
    obtain ⟨u1, hc2, hf⟩ := ob hf
    refine g_kv (wc := [(a_t, .inr (7, [.ref a_now, .ref a_past, .int v_saved, .ref a_errors, .ref a_text, .int v_textLength, .ref a_pad, .int v_padLength, .ref a_sounds, .int v_soundMany, .ref a_proposed, .ref a_given, .int v_proposals, .ref a_readings, .int v_readingMany, .long v_hash])), (a_now, .inl (cI, 150, .inl m_now)), (a_pad, .inl (cI, 8, .inl m_pad)), (a_sounds, .inl (cI, 8, .inl m_sounds)), (a_readings, .inl (cI, 12, .inl m_readings))]) (wc' := [(a_t, .inr (7, [.ref a_now, .ref a_past, .int v_saved, .ref a_errors, .ref a_text, .int v_textLength, .ref a_pad, .int v_padLength, .ref a_sounds, .int u1.1, .ref a_proposed, .ref a_given, .int v_proposals, .ref a_readings, .int u1.2.1, .long v_hash])), (a_now, .inl (cI, 150, .inl m_now)), (a_pad, .inl (cI, 8, .inl m_pad)), (a_sounds, .inl (cI, 8, .inl u1.2.2.1)), (a_readings, .inl (cI, 12, .inl u1.2.2.2))]) (wr := [(a_errors, .inl (cI, 4, .inl m_errors))]) (va_runV (As := []) (rest := []) ⟨hx, hb, hml, hown, hts⟩ (kt_X7_reads l D cI cZ cS a_t a_now a_pad a_sounds a_readings a_past a_errors a_text a_proposed a_given v_saved v_textLength v_proposals v_hash v_padLength v_soundMany v_readingMany m_now m_pad m_sounds m_readings u1 hc2 _) (cwV 0 hts gX7_doubt_X7_reads rfl rfl rfl sg_X7_reads ⟨(Nat.le_of_ble_eq_true rfl), (Nat.le_of_ble_eq_true rfl)⟩) (g_pv (q := (RX7, TX7, 16)) hK hP hD [0, 1, 3, 4, 5] rfl (by decide) rfl rfl) rfl rfl hl.1 rfl (lv_room (Nat.le_of_ble_eq_true rfl)) dX7_doubt_12 ⟨Nat.zero_le _, Nat.zero_le _⟩) hP hD hS hA [0, 1, 3, 4, 5] [2] rfl rfl (by decide) (by decide) (fun H locs hP hD hS => ?_)
    have hP : va_P D vwCl [(a_errors, .inl (cI, 4, .inl m_errors)), (a_t, .inr (7, [.ref a_now, .ref a_past, .int v_saved, .ref a_errors, .ref a_text, .int v_textLength, .ref a_pad, .int v_padLength, .ref a_sounds, .int u1.1, .ref a_proposed, .ref a_given, .int v_proposals, .ref a_readings, .int u1.2.1, .long v_hash])), (a_now, .inl (cI, 150, .inl m_now)), (a_pad, .inl (cI, 8, .inl m_pad)), (a_sounds, .inl (cI, 8, .inl u1.2.2.1)), (a_readings, .inl (cI, 12, .inl u1.2.2.2))] H := hP
    have hD : va_D A [(a_errors, .inl (cI, 4, .inl m_errors)), (a_t, .inr (7, [.ref a_now, .ref a_past, .int v_saved, .ref a_errors, .ref a_text, .int v_textLength, .ref a_pad, .int v_padLength, .ref a_sounds, .int u1.1, .ref a_proposed, .ref a_given, .int v_proposals, .ref a_readings, .int u1.2.1, .long v_hash])), (a_now, .inl (cI, 150, .inl m_now)), (a_pad, .inl (cI, 8, .inl m_pad)), (a_sounds, .inl (cI, 8, .inl u1.2.2.1)), (a_readings, .inl (cI, 12, .inl u1.2.2.2))] := hD
    refine lv_iload_n hx hb dX7_doubt_15 rfl (lv_at hl 1 rfl) ?_
    refine lv_aload_n hx hb dX7_doubt_16 rfl (lv_at hl 0 rfl) ?_
    refine va_get (D := D) (ci := 7) (v := .int u1.2.1) (C := RX7) (T := TX7) (N := 16) hx hb hts ly_X7_doubt_X7 hown hK.1 hP 1 rfl rfl 14 (by decide) (hts (.fieldLink RX7 114 "ShorthandOutlinesModel" "readingMany" "I") wd_X7_doubt_0) (fun _ h9 => h9) rfl dX7_doubt_17 ?_
    refine lv_icmp_ge (tgt := 36) hx hb dX7_doubt_20 (by decide) (fun hb3 => ?_) (fun hb3 => ?_)
    · replace hf := if_t hb3 hf
      refine lv_iconst (v := -1) hx hb dX7_doubt_36 (by decide) ?_
      have hP : va_P D vwCl [(a_t, .inr (7, [.ref a_now, .ref a_past, .int v_saved, .ref a_errors, .ref a_text, .int v_textLength, .ref a_pad, .int v_padLength, .ref a_sounds, .int u1.1, .ref a_proposed, .ref a_given, .int v_proposals, .ref a_readings, .int u1.2.1, .long v_hash])), (a_now, .inl (cI, 150, .inl m_now)), (a_errors, .inl (cI, 4, .inl m_errors)), (a_pad, .inl (cI, 8, .inl m_pad)), (a_sounds, .inl (cI, 8, .inl u1.2.2.1)), (a_readings, .inl (cI, 12, .inl u1.2.2.2))] H := hP.sub [1, 2, 0, 3, 4, 5] rfl
      have hD : va_D A [(a_t, .inr (7, [.ref a_now, .ref a_past, .int v_saved, .ref a_errors, .ref a_text, .int v_textLength, .ref a_pad, .int v_padLength, .ref a_sounds, .int u1.1, .ref a_proposed, .ref a_given, .int v_proposals, .ref a_readings, .int u1.2.1, .long v_hash])), (a_now, .inl (cI, 150, .inl m_now)), (a_errors, .inl (cI, 4, .inl m_errors)), (a_pad, .inl (cI, 8, .inl m_pad)), (a_sounds, .inl (cI, 8, .inl u1.2.2.1)), (a_readings, .inl (cI, 12, .inl u1.2.2.2))] := hD.sub [1, 2, 0, 3, 4, 5] (by decide +kernel) rfl
      have ho := so hf
      subst ho
      exact g_iret hx hb hr hlk hP hD hS dX7_doubt_37
    · replace hf := if_f hb3 hf
      refine lv_aload_n hx hb dX7_doubt_23 rfl (lv_at hl 0 rfl) ?_
      refine lv_aload_n hx hb dX7_doubt_24 rfl (lv_at hl 0 rfl) ?_
      refine va_get (D := D) (ci := 7) (v := .ref a_readings) (C := RX7) (T := TX7) (N := 16) hx hb hts ly_X7_doubt_X7 hown hK.1 hP 1 rfl rfl 13 (by decide) (hts (.fieldLink RX7 34 "ShorthandOutlinesModel" "readings" "[I") wd_X7_doubt_1) (fun _ h9 => h9) rfl dX7_doubt_25 ?_
      refine lv_iload_n hx hb dX7_doubt_28 rfl (lv_at hl 1 rfl) ?_
      have hi4 := gd_1 hf
      replace hf := gd_2 hf
      refine va_iald hx hb hK.1 hP 5 0 rfl rfl (inb_in hi4) dX7_doubt_29 ?_
      obtain ⟨u2, hc5, hf⟩ := ob hf
      refine g_ki (wc := [(a_t, .inr (7, [.ref a_now, .ref a_past, .int v_saved, .ref a_errors, .ref a_text, .int v_textLength, .ref a_pad, .int v_padLength, .ref a_sounds, .int u1.1, .ref a_proposed, .ref a_given, .int v_proposals, .ref a_readings, .int u1.2.1, .long v_hash])), (a_now, .inl (cI, 150, .inl m_now)), (a_pad, .inl (cI, 8, .inl m_pad)), (a_sounds, .inl (cI, 8, .inl u1.2.2.1))]) (wc' := [(a_t, .inr (7, [.ref a_now, .ref a_past, .int v_saved, .ref a_errors, .ref a_text, .int v_textLength, .ref a_pad, .int v_padLength, .ref a_sounds, .int u2.2.1, .ref a_proposed, .ref a_given, .int v_proposals, .ref a_readings, .int u1.2.1, .long v_hash])), (a_now, .inl (cI, 150, .inl m_now)), (a_pad, .inl (cI, 8, .inl m_pad)), (a_sounds, .inl (cI, 8, .inl u2.2.2))]) (wr := [(a_errors, .inl (cI, 4, .inl m_errors)), (a_readings, .inl (cI, 12, .inl u1.2.2.2))]) (va_runV (As := [.int (u1.2.2.2 x1.toNatClampNeg)]) (rest := []) ⟨hx, hb, hml, hown, hts⟩ (kt_X7_doubtOf l D cI cZ cS a_t a_now a_pad a_sounds a_past a_errors a_text a_proposed a_given a_readings v_saved v_textLength v_proposals u1.2.1 v_hash v_padLength u1.1 m_now m_pad u1.2.2.1 (u1.2.2.2 x1.toNatClampNeg) u2 hc5 _) (cwV 1 hts gX7_doubt_X7_doubtOf rfl rfl rfl sg_X7_doubtOf ⟨(Nat.le_of_ble_eq_true rfl), (Nat.le_of_ble_eq_true rfl)⟩) (g_pv (q := (RX7, TX7, 16)) hK hP hD [1, 2, 3, 4] rfl (by decide) rfl rfl) rfl rfl hl.1 rfl (lv_room (Nat.le_of_ble_eq_true rfl)) dX7_doubt_30 ⟨Nat.zero_le _, Nat.zero_le _⟩) hP hD hS hA [1, 2, 3, 4] [0, 5] rfl rfl (by decide) (by decide) (fun H locs hP hD hS => ?_)
      have hP : va_P D vwCl [(a_errors, .inl (cI, 4, .inl m_errors)), (a_readings, .inl (cI, 12, .inl u1.2.2.2)), (a_t, .inr (7, [.ref a_now, .ref a_past, .int v_saved, .ref a_errors, .ref a_text, .int v_textLength, .ref a_pad, .int v_padLength, .ref a_sounds, .int u2.2.1, .ref a_proposed, .ref a_given, .int v_proposals, .ref a_readings, .int u1.2.1, .long v_hash])), (a_now, .inl (cI, 150, .inl m_now)), (a_pad, .inl (cI, 8, .inl m_pad)), (a_sounds, .inl (cI, 8, .inl u2.2.2))] H := hP
      have hD : va_D A [(a_errors, .inl (cI, 4, .inl m_errors)), (a_readings, .inl (cI, 12, .inl u1.2.2.2)), (a_t, .inr (7, [.ref a_now, .ref a_past, .int v_saved, .ref a_errors, .ref a_text, .int v_textLength, .ref a_pad, .int v_padLength, .ref a_sounds, .int u2.2.1, .ref a_proposed, .ref a_given, .int v_proposals, .ref a_readings, .int u1.2.1, .long v_hash])), (a_now, .inl (cI, 150, .inl m_now)), (a_pad, .inl (cI, 8, .inl m_pad)), (a_sounds, .inl (cI, 8, .inl u2.2.2))] := hD
      refine lv_goto (tgt := 37) hx hb dX7_doubt_33 (by decide) ?_
      have hP : va_P D vwCl [(a_t, .inr (7, [.ref a_now, .ref a_past, .int v_saved, .ref a_errors, .ref a_text, .int v_textLength, .ref a_pad, .int v_padLength, .ref a_sounds, .int u2.2.1, .ref a_proposed, .ref a_given, .int v_proposals, .ref a_readings, .int u1.2.1, .long v_hash])), (a_now, .inl (cI, 150, .inl m_now)), (a_errors, .inl (cI, 4, .inl m_errors)), (a_pad, .inl (cI, 8, .inl m_pad)), (a_sounds, .inl (cI, 8, .inl u2.2.2)), (a_readings, .inl (cI, 12, .inl u1.2.2.2))] H := hP.sub [2, 3, 0, 4, 5, 1] rfl
      have hD : va_D A [(a_t, .inr (7, [.ref a_now, .ref a_past, .int v_saved, .ref a_errors, .ref a_text, .int v_textLength, .ref a_pad, .int v_padLength, .ref a_sounds, .int u2.2.1, .ref a_proposed, .ref a_given, .int v_proposals, .ref a_readings, .int u1.2.1, .long v_hash])), (a_now, .inl (cI, 150, .inl m_now)), (a_errors, .inl (cI, 4, .inl m_errors)), (a_pad, .inl (cI, 8, .inl m_pad)), (a_sounds, .inl (cI, 8, .inl u2.2.2)), (a_readings, .inl (cI, 12, .inl u1.2.2.2))] := hD.sub [2, 3, 0, 4, 5, 1] (by decide +kernel) rfl
      have ho := so hf
      subst ho
      exact g_iret hx hb hr hlk hP hD hS dX7_doubt_37
  · replace hf := if_f hb1 hf
    refine lv_aload_n hx hb dX7_doubt_4 rfl (lv_at hl 0 rfl) ?_
    refine lv_bipush (v := -2) hx hb dX7_doubt_5 (by decide) ?_
    obtain ⟨u3, hc6, hf⟩ := ob hf
    refine g_ki (wc := [(a_t, .inr (7, [.ref a_now, .ref a_past, .int v_saved, .ref a_errors, .ref a_text, .int v_textLength, .ref a_pad, .int v_padLength, .ref a_sounds, .int v_soundMany, .ref a_proposed, .ref a_given, .int v_proposals, .ref a_readings, .int v_readingMany, .long v_hash])), (a_errors, .inl (cI, 4, .inl m_errors))]) (wc' := [(a_t, .inr (7, [.ref a_now, .ref a_past, .int v_saved, .ref a_errors, .ref a_text, .int v_textLength, .ref a_pad, .int v_padLength, .ref a_sounds, .int v_soundMany, .ref a_proposed, .ref a_given, .int v_proposals, .ref a_readings, .int v_readingMany, .long v_hash])), (a_errors, .inl (cI, 4, .inl u3.2))]) (wr := [(a_now, .inl (cI, 150, .inl m_now)), (a_pad, .inl (cI, 8, .inl m_pad)), (a_sounds, .inl (cI, 8, .inl m_sounds)), (a_readings, .inl (cI, 12, .inl m_readings))]) (va_runV (As := [.int (-2 : Int32)]) (rest := []) ⟨hx, hb, hml, hown, hts⟩ (kt_X7_fails l D cI cZ cS a_t a_errors a_now a_past a_text a_pad a_sounds a_proposed a_given a_readings v_saved v_textLength v_padLength v_soundMany v_proposals v_readingMany v_hash m_errors (-2 : Int32) u3 hc6 _) (cwV 1 hts gX7_doubt_X7_fails rfl rfl rfl sg_X7_fails ⟨(Nat.le_of_ble_eq_true rfl), (Nat.le_of_ble_eq_true rfl)⟩) (g_pv (q := (RX7, TX7, 16)) hK hP hD [0, 2] rfl (by decide) rfl rfl) rfl rfl hl.1 rfl (lv_room (Nat.le_of_ble_eq_true rfl)) dX7_doubt_7 ⟨Nat.zero_le _, Nat.zero_le _⟩) hP hD hS hA [0, 2] [1, 3, 4, 5] rfl rfl (by decide) (by decide) (fun H locs hP hD hS => ?_)
    have hP : va_P D vwCl [(a_now, .inl (cI, 150, .inl m_now)), (a_pad, .inl (cI, 8, .inl m_pad)), (a_sounds, .inl (cI, 8, .inl m_sounds)), (a_readings, .inl (cI, 12, .inl m_readings)), (a_t, .inr (7, [.ref a_now, .ref a_past, .int v_saved, .ref a_errors, .ref a_text, .int v_textLength, .ref a_pad, .int v_padLength, .ref a_sounds, .int v_soundMany, .ref a_proposed, .ref a_given, .int v_proposals, .ref a_readings, .int v_readingMany, .long v_hash])), (a_errors, .inl (cI, 4, .inl u3.2))] H := hP
    have hD : va_D A [(a_now, .inl (cI, 150, .inl m_now)), (a_pad, .inl (cI, 8, .inl m_pad)), (a_sounds, .inl (cI, 8, .inl m_sounds)), (a_readings, .inl (cI, 12, .inl m_readings)), (a_t, .inr (7, [.ref a_now, .ref a_past, .int v_saved, .ref a_errors, .ref a_text, .int v_textLength, .ref a_pad, .int v_padLength, .ref a_sounds, .int v_soundMany, .ref a_proposed, .ref a_given, .int v_proposals, .ref a_readings, .int v_readingMany, .long v_hash])), (a_errors, .inl (cI, 4, .inl u3.2))] := hD
    have hP : va_P D vwCl [(a_t, .inr (7, [.ref a_now, .ref a_past, .int v_saved, .ref a_errors, .ref a_text, .int v_textLength, .ref a_pad, .int v_padLength, .ref a_sounds, .int v_soundMany, .ref a_proposed, .ref a_given, .int v_proposals, .ref a_readings, .int v_readingMany, .long v_hash])), (a_now, .inl (cI, 150, .inl m_now)), (a_errors, .inl (cI, 4, .inl u3.2)), (a_pad, .inl (cI, 8, .inl m_pad)), (a_sounds, .inl (cI, 8, .inl m_sounds)), (a_readings, .inl (cI, 12, .inl m_readings))] H := hP.sub [4, 0, 5, 1, 2, 3] rfl
    have hD : va_D A [(a_t, .inr (7, [.ref a_now, .ref a_past, .int v_saved, .ref a_errors, .ref a_text, .int v_textLength, .ref a_pad, .int v_padLength, .ref a_sounds, .int v_soundMany, .ref a_proposed, .ref a_given, .int v_proposals, .ref a_readings, .int v_readingMany, .long v_hash])), (a_now, .inl (cI, 150, .inl m_now)), (a_errors, .inl (cI, 4, .inl u3.2)), (a_pad, .inl (cI, 8, .inl m_pad)), (a_sounds, .inl (cI, 8, .inl m_sounds)), (a_readings, .inl (cI, 12, .inl m_readings))] := hD.sub [4, 0, 5, 1, 2, 3] (by decide +kernel) rfl
    have ho := so hf
    subst ho
    exact g_iret hx hb hr hlk hP hD hS dX7_doubt_10

theorem sg_X7_errorCount : yX7_errorCount.cls = RX7 ∧ yX7_errorCount.cls ≠ "java/lang/invoke/MethodHandle" ∧ yX7_errorCount.cls ≠ "java/lang/invoke/VarHandle" ∧ (parseMethodDescriptor yX7_errorCount.desc).map (fun d => d.parameters.length) = some 1 := by decide +kernel
abbrev rm_X7_errorCount : Room := { frames := 1, cells := 0, slots := 0, locals := 22 }
theorem wd_X7_errorCount_0 : (.fieldLink RX7 16 "ShorthandOutlinesModel" "errors" "[I" : Cond) ∈ wsX7_errorCount := by decide +kernel
theorem ly_X7_errorCount_X7 : ∀ w ∈ u_ws RX7 TX7 16, w ∈ wsX7_errorCount := by decide +kernel
set_option maxHeartbeats 4000000 in
set_option maxRecDepth 100000 in
theorem kt_X7_errorCount (l : Launch) (D : va_G) (cI cZ cS : ClassId) (a_t : Nat) (a_errors : Nat) (a_now : Nat) (a_past : Nat) (a_text : Nat) (a_pad : Nat) (a_sounds : Nat) (a_proposed : Nat) (a_given : Nat) (a_readings : Nat) (v_saved : Int32) (v_textLength : Int32) (v_padLength : Int32) (v_soundMany : Int32) (v_proposals : Int32) (v_readingMany : Int32) (v_hash : Int64) (m_errors : Nat → Int32) (x1 : Int32) (o : Int32 × (Nat → Int32)) (hf : fn_X7_errorCount m_errors x1 = some o) (sz : Nat) : Met l yX7_errorCount wsX7_errorCount rm_X7_errorCount (va_Pc [.ref a_t, .int x1] (gPre D cI cZ cS [(a_t, .inr (7, [.ref a_now, .ref a_past, .int v_saved, .ref a_errors, .ref a_text, .int v_textLength, .ref a_pad, .int v_padLength, .ref a_sounds, .int v_soundMany, .ref a_proposed, .ref a_given, .int v_proposals, .ref a_readings, .int v_readingMany, .long v_hash])), (a_errors, .inl (cI, 4, .inl m_errors))] sz)) (va_Qi (fun r (_ : Unit) => r = o.1) (fun _ => gB D [(a_t, .inr (7, [.ref a_now, .ref a_past, .int v_saved, .ref a_errors, .ref a_text, .int v_textLength, .ref a_pad, .int v_padLength, .ref a_sounds, .int v_soundMany, .ref a_proposed, .ref a_given, .int v_proposals, .ref a_readings, .int v_readingMany, .long v_hash])), (a_errors, .inl (cI, 4, .inl o.2))] (va_A [(a_t, .inr (7, [.ref a_now, .ref a_past, .int v_saved, .ref a_errors, .ref a_text, .int v_textLength, .ref a_pad, .int v_padLength, .ref a_sounds, .int v_soundMany, .ref a_proposed, .ref a_given, .int v_proposals, .ref a_readings, .int v_readingMany, .long v_hash])), (a_errors, .inl (cI, 4, .inl m_errors))] sz)) (va_A [(a_t, .inr (7, [.ref a_now, .ref a_past, .int v_saved, .ref a_errors, .ref a_text, .int v_textLength, .ref a_pad, .int v_padLength, .ref a_sounds, .int v_soundMany, .ref a_proposed, .ref a_given, .int v_proposals, .ref a_readings, .int v_readingMany, .long v_hash])), (a_errors, .inl (cI, 4, .inl m_errors))] sz)) 0 0 (va_A [(a_t, .inr (7, [.ref a_now, .ref a_past, .int v_saved, .ref a_errors, .ref a_text, .int v_textLength, .ref a_pad, .int v_padLength, .ref a_sounds, .int v_soundMany, .ref a_proposed, .ref a_given, .int v_proposals, .ref a_readings, .int v_readingMany, .long v_hash])), (a_errors, .inl (cI, 4, .inl m_errors))] sz) := by
  refine g_entry (Qc := fun A => va_Qi (fun r (_ : Unit) => r = o.1) (fun _ => gB D [(a_t, .inr (7, [.ref a_now, .ref a_past, .int v_saved, .ref a_errors, .ref a_text, .int v_textLength, .ref a_pad, .int v_padLength, .ref a_sounds, .int v_soundMany, .ref a_proposed, .ref a_given, .int v_proposals, .ref a_readings, .int v_readingMany, .long v_hash])), (a_errors, .inl (cI, 4, .inl o.2))] A) A) (cc := cX7_errorCount) (maxL := 2) (ret := (some .int)) (by decide) rfl (Nat.le_of_ble_eq_true rfl) ?_ sz
  intro p e s m below meth c A ls Cx hP hD hS hl
  obtain ⟨hx, hb, hml, hr, hlk, hown, hin, hts, hK, hA⟩ := id Cx
  have hown : s.vm.findClass RX7 = some m.cls := hown
  have hl : lv_has ls 2 [(0, .ref a_t), (1, .int x1)] := hl
  unfold fn_X7_errorCount at hf
  refine lv_iload_n hx hb dX7_errorCount_0 rfl (lv_at hl 1 rfl) ?_
  refine lv_bipush (v := -5) hx hb dX7_errorCount_1 (by decide) ?_
  refine lv_bipush (v := -2) hx hb dX7_errorCount_3 (by decide) ?_
  obtain ⟨u1, hc1, hf⟩ := ob hf
  refine g_ki (wc := []) (wc' := []) (wr := [(a_t, .inr (7, [.ref a_now, .ref a_past, .int v_saved, .ref a_errors, .ref a_text, .int v_textLength, .ref a_pad, .int v_padLength, .ref a_sounds, .int v_soundMany, .ref a_proposed, .ref a_given, .int v_proposals, .ref a_readings, .int v_readingMany, .long v_hash])), (a_errors, .inl (cI, 4, .inl m_errors))]) (va_runS (As := [.int x1, .int (-5 : Int32), .int (-2 : Int32)]) (rest := []) ⟨hx, hb, hml, hown, hts⟩ (kt_X7_within l D cI cZ cS x1 (-5 : Int32) (-2 : Int32) u1 hc1 _) (va_cwS 3 hts gX7_errorCount_X7_within rfl rfl rfl sg_X7_within.2 ⟨(Nat.le_of_ble_eq_true rfl), (Nat.le_of_ble_eq_true rfl)⟩) (g_ps hK hP hD [] rfl (by decide)) rfl rfl hl.1 rfl (lv_room (Nat.le_of_ble_eq_true rfl)) dX7_errorCount_5 ⟨Nat.zero_le _, Nat.zero_le _⟩) hP hD hS hA [] [0, 1] rfl rfl (by decide) (by decide) (fun H locs hP hD hS => ?_)
  have hP : va_P D vwCl [(a_t, .inr (7, [.ref a_now, .ref a_past, .int v_saved, .ref a_errors, .ref a_text, .int v_textLength, .ref a_pad, .int v_padLength, .ref a_sounds, .int v_soundMany, .ref a_proposed, .ref a_given, .int v_proposals, .ref a_readings, .int v_readingMany, .long v_hash])), (a_errors, .inl (cI, 4, .inl m_errors))] H := hP
  have hD : va_D A [(a_t, .inr (7, [.ref a_now, .ref a_past, .int v_saved, .ref a_errors, .ref a_text, .int v_textLength, .ref a_pad, .int v_padLength, .ref a_sounds, .int v_soundMany, .ref a_proposed, .ref a_given, .int v_proposals, .ref a_readings, .int v_readingMany, .long v_hash])), (a_errors, .inl (cI, 4, .inl m_errors))] := hD
  refine lv_if_eq (tgt := 23) hx hb dX7_errorCount_8 (by decide) (fun hb2 => ?_) (fun hb2 => ?_)
  · replace hf := if_t hb2 hf
    refine lv_aload_n hx hb dX7_errorCount_23 rfl (lv_at hl 0 rfl) ?_
    refine lv_bipush (v := -2) hx hb dX7_errorCount_24 (by decide) ?_
    obtain ⟨u2, hc3, hf⟩ := ob hf
    refine g_ki (wc := [(a_t, .inr (7, [.ref a_now, .ref a_past, .int v_saved, .ref a_errors, .ref a_text, .int v_textLength, .ref a_pad, .int v_padLength, .ref a_sounds, .int v_soundMany, .ref a_proposed, .ref a_given, .int v_proposals, .ref a_readings, .int v_readingMany, .long v_hash])), (a_errors, .inl (cI, 4, .inl m_errors))]) (wc' := [(a_t, .inr (7, [.ref a_now, .ref a_past, .int v_saved, .ref a_errors, .ref a_text, .int v_textLength, .ref a_pad, .int v_padLength, .ref a_sounds, .int v_soundMany, .ref a_proposed, .ref a_given, .int v_proposals, .ref a_readings, .int v_readingMany, .long v_hash])), (a_errors, .inl (cI, 4, .inl u2.2))]) (wr := []) (va_runV (As := [.int (-2 : Int32)]) (rest := []) ⟨hx, hb, hml, hown, hts⟩ (kt_X7_fails l D cI cZ cS a_t a_errors a_now a_past a_text a_pad a_sounds a_proposed a_given a_readings v_saved v_textLength v_padLength v_soundMany v_proposals v_readingMany v_hash m_errors (-2 : Int32) u2 hc3 _) (cwV 1 hts gX7_errorCount_X7_fails rfl rfl rfl sg_X7_fails ⟨(Nat.le_of_ble_eq_true rfl), (Nat.le_of_ble_eq_true rfl)⟩) (g_pv (q := (RX7, TX7, 16)) hK hP hD [0, 1] rfl (by decide) rfl rfl) rfl rfl hl.1 rfl (lv_room (Nat.le_of_ble_eq_true rfl)) dX7_errorCount_26 ⟨Nat.zero_le _, Nat.zero_le _⟩) hP hD hS hA [0, 1] [] rfl rfl (by decide) (by decide) (fun H locs hP hD hS => ?_)
    have hP : va_P D vwCl [(a_t, .inr (7, [.ref a_now, .ref a_past, .int v_saved, .ref a_errors, .ref a_text, .int v_textLength, .ref a_pad, .int v_padLength, .ref a_sounds, .int v_soundMany, .ref a_proposed, .ref a_given, .int v_proposals, .ref a_readings, .int v_readingMany, .long v_hash])), (a_errors, .inl (cI, 4, .inl u2.2))] H := hP
    have hD : va_D A [(a_t, .inr (7, [.ref a_now, .ref a_past, .int v_saved, .ref a_errors, .ref a_text, .int v_textLength, .ref a_pad, .int v_padLength, .ref a_sounds, .int v_soundMany, .ref a_proposed, .ref a_given, .int v_proposals, .ref a_readings, .int v_readingMany, .long v_hash])), (a_errors, .inl (cI, 4, .inl u2.2))] := hD
    have ho := so hf
    subst ho
    exact g_iret hx hb hr hlk hP hD hS dX7_errorCount_29
  · replace hf := if_f hb2 hf
    refine lv_aload_n hx hb dX7_errorCount_11 rfl (lv_at hl 0 rfl) ?_
    refine va_get (D := D) (ci := 7) (v := .ref a_errors) (C := RX7) (T := TX7) (N := 16) hx hb hts ly_X7_errorCount_X7 hown hK.1 hP 0 rfl rfl 3 (by decide) (hts (.fieldLink RX7 16 "ShorthandOutlinesModel" "errors" "[I") wd_X7_errorCount_0) (fun _ h9 => h9) rfl dX7_errorCount_12 ?_
    refine lv_bipush (v := -2) hx hb dX7_errorCount_15 (by decide) ?_
    refine lv_iload_n hx hb dX7_errorCount_17 rfl (lv_at hl 1 rfl) ?_
    refine lv_isub hx hb dX7_errorCount_18 ?_
    have hi4 := gd_1 hf
    replace hf := gd_2 hf
    refine va_iald hx hb hK.1 hP 1 0 rfl rfl (inb_in hi4) dX7_errorCount_19 ?_
    refine lv_goto (tgt := 29) hx hb dX7_errorCount_20 (by decide) ?_
    have ho := so hf
    subst ho
    exact g_iret hx hb hr hlk hP hD hS dX7_errorCount_29

theorem sg_X7_mix : yX7_mix.cls = RX7 ∧ yX7_mix.cls ≠ "java/lang/invoke/MethodHandle" ∧ yX7_mix.cls ≠ "java/lang/invoke/VarHandle" ∧ (parseMethodDescriptor yX7_mix.desc).map (fun d => d.parameters.length) = some 1 := by decide +kernel
abbrev rm_X7_mix : Room := { frames := 0, cells := 0, slots := 0, locals := 0 }
theorem wd_X7_mix_0 : (.constantLong RX7 123 (31) : Cond) ∈ wsX7_mix := by decide +kernel
theorem wd_X7_mix_1 : (.fieldLink RX7 125 "ShorthandOutlinesModel" "hash" "J" : Cond) ∈ wsX7_mix := by decide +kernel
theorem ly_X7_mix_X7 : ∀ w ∈ u_ws RX7 TX7 16, w ∈ wsX7_mix := by decide +kernel
set_option maxHeartbeats 4000000 in
set_option maxRecDepth 100000 in
theorem kt_X7_mix (l : Launch) (D : va_G) (cI cZ cS : ClassId) (a_t : Nat) (a_now : Nat) (a_past : Nat) (a_errors : Nat) (a_text : Nat) (a_pad : Nat) (a_sounds : Nat) (a_proposed : Nat) (a_given : Nat) (a_readings : Nat) (v_saved : Int32) (v_textLength : Int32) (v_padLength : Int32) (v_soundMany : Int32) (v_proposals : Int32) (v_readingMany : Int32) (v_hash : Int64) (x1 : Int32) (o : Int64) (hf : fn_X7_mix v_hash x1 = some o) (sz : Nat) : Met l yX7_mix wsX7_mix rm_X7_mix (va_Pc [.ref a_t, .int x1] (gPre D cI cZ cS [(a_t, .inr (7, [.ref a_now, .ref a_past, .int v_saved, .ref a_errors, .ref a_text, .int v_textLength, .ref a_pad, .int v_padLength, .ref a_sounds, .int v_soundMany, .ref a_proposed, .ref a_given, .int v_proposals, .ref a_readings, .int v_readingMany, .long v_hash]))] sz)) (va_Qv (fun (_ : Unit) => True) (fun _ => gB D [(a_t, .inr (7, [.ref a_now, .ref a_past, .int v_saved, .ref a_errors, .ref a_text, .int v_textLength, .ref a_pad, .int v_padLength, .ref a_sounds, .int v_soundMany, .ref a_proposed, .ref a_given, .int v_proposals, .ref a_readings, .int v_readingMany, .long o]))] (va_A [(a_t, .inr (7, [.ref a_now, .ref a_past, .int v_saved, .ref a_errors, .ref a_text, .int v_textLength, .ref a_pad, .int v_padLength, .ref a_sounds, .int v_soundMany, .ref a_proposed, .ref a_given, .int v_proposals, .ref a_readings, .int v_readingMany, .long v_hash]))] sz)) (va_A [(a_t, .inr (7, [.ref a_now, .ref a_past, .int v_saved, .ref a_errors, .ref a_text, .int v_textLength, .ref a_pad, .int v_padLength, .ref a_sounds, .int v_soundMany, .ref a_proposed, .ref a_given, .int v_proposals, .ref a_readings, .int v_readingMany, .long v_hash]))] sz)) 0 0 (va_A [(a_t, .inr (7, [.ref a_now, .ref a_past, .int v_saved, .ref a_errors, .ref a_text, .int v_textLength, .ref a_pad, .int v_padLength, .ref a_sounds, .int v_soundMany, .ref a_proposed, .ref a_given, .int v_proposals, .ref a_readings, .int v_readingMany, .long v_hash]))] sz) := by
  refine g_entry (Qc := fun A => va_Qv (fun (_ : Unit) => True) (fun _ => gB D [(a_t, .inr (7, [.ref a_now, .ref a_past, .int v_saved, .ref a_errors, .ref a_text, .int v_textLength, .ref a_pad, .int v_padLength, .ref a_sounds, .int v_soundMany, .ref a_proposed, .ref a_given, .int v_proposals, .ref a_readings, .int v_readingMany, .long o]))] A) A) (cc := cX7_mix) (maxL := 2) (ret := none) (by decide) rfl (Nat.le_of_ble_eq_true rfl) ?_ sz
  intro p e s m below meth c A ls Cx hP hD hS hl
  obtain ⟨hx, hb, hml, hr, hlk, hown, hin, hts, hK, hA⟩ := id Cx
  have hown : s.vm.findClass RX7 = some m.cls := hown
  have hl : lv_has ls 2 [(0, .ref a_t), (1, .int x1)] := hl
  unfold fn_X7_mix at hf
  refine lv_aload_n hx hb dX7_mix_0 rfl (lv_at hl 0 rfl) ?_
  refine lv_ldc2 (v := 31) hx hb hown (hts (.constantLong RX7 123 (31)) wd_X7_mix_0) dX7_mix_1 ?_
  refine lv_aload_n hx hb dX7_mix_4 rfl (lv_at hl 0 rfl) ?_
  refine va_get (D := D) (ci := 7) (v := .long v_hash) (C := RX7) (T := TX7) (N := 16) hx hb hts ly_X7_mix_X7 hown hK.1 hP 0 rfl rfl 15 (by decide) (hts (.fieldLink RX7 125 "ShorthandOutlinesModel" "hash" "J") wd_X7_mix_1) (fun _ h9 => h9) rfl dX7_mix_5 ?_
  refine lv_lmul hx hb dX7_mix_8 ?_
  refine lv_iload_n hx hb dX7_mix_9 rfl (lv_at hl 1 rfl) ?_
  refine lv_i2l (v := (x1).toInt64) hx hb dX7_mix_10 rfl ?_
  refine lv_ladd hx hb dX7_mix_11 ?_
  refine va_put (D := D) (ci := 7) (v := .long (((31 : Int64) * v_hash) + (x1).toInt64)) (ty := .long) (C := RX7) (T := TX7) (N := 16) hx hb hts ly_X7_mix_X7 tyX7 tyX7_ok nmX7 hown hK.1 hP hD hS 0 rfl rfl 15 (by decide) (hts (.fieldLink RX7 125 "ShorthandOutlinesModel" "hash" "J") wd_X7_mix_1) (fun _ h9 => h9) rfl (by decide +kernel) rfl rfl (Nat.le_of_ble_eq_true rfl) dX7_mix_12 (fun H locs hP hD hS => ?_)
  have hP : va_P D vwCl [(a_t, .inr (7, [.ref a_now, .ref a_past, .int v_saved, .ref a_errors, .ref a_text, .int v_textLength, .ref a_pad, .int v_padLength, .ref a_sounds, .int v_soundMany, .ref a_proposed, .ref a_given, .int v_proposals, .ref a_readings, .int v_readingMany, .long (((31 : Int64) * v_hash) + (x1).toInt64)]))] H := hP
  have hD : va_D A [(a_t, .inr (7, [.ref a_now, .ref a_past, .int v_saved, .ref a_errors, .ref a_text, .int v_textLength, .ref a_pad, .int v_padLength, .ref a_sounds, .int v_soundMany, .ref a_proposed, .ref a_given, .int v_proposals, .ref a_readings, .int v_readingMany, .long (((31 : Int64) * v_hash) + (x1).toInt64)]))] := hD
  have ho := so hf
  subst ho
  exact g_vret hx hb hr hlk hP hD hS dX7_mix_15

theorem sg_X7_mixWord : yX7_mixWord.cls = RX7 ∧ yX7_mixWord.cls ≠ "java/lang/invoke/MethodHandle" ∧ yX7_mixWord.cls ≠ "java/lang/invoke/VarHandle" ∧ (parseMethodDescriptor yX7_mixWord.desc).map (fun d => d.parameters.length) = some 1 := by decide +kernel
abbrev rm_X7_mixWord : Room := { frames := 4, cells := 0, slots := 0, locals := 89 }
theorem wd_X7_mixWord_0 : (.fieldLink RX7 7 "ShorthandOutlinesModel" "now" "[I" : Cond) ∈ wsX7_mixWord := by decide +kernel
theorem wd_X7_mixWord_1 : (.fieldLink RX7 70 "ShorthandOutlinesModel" "soundMany" "I" : Cond) ∈ wsX7_mixWord := by decide +kernel
theorem ly_X7_mixWord_X7 : ∀ w ∈ u_ws RX7 TX7 16, w ∈ wsX7_mixWord := by decide +kernel
set_option maxHeartbeats 4000000 in
set_option maxRecDepth 100000 in
theorem lt_X7_mixWord_51 {p : Program} {l : Launch} {e : Env} {s : State} {m : MethodId} {args : Array Value} {below : List Frame} {meth : Method} {c : Code} {D : va_G} {cI cZ cS : ClassId} {A : Nat → Prop} {Q : State → Prop} (Cx : gCx p s m meth c args cX7_mixWord 4 none yX7_mixWord wsX7_mixWord D cI cZ cS A) (a_t : Nat) (a_now : Nat) (a_past : Nat) (v_saved : Int32) (a_errors : Nat) (a_text : Nat) (v_textLength : Int32) (a_pad : Nat) (v_padLength : Int32) (a_sounds : Nat) (v_soundMany : Int32) (a_proposed : Nat) (a_given : Nat) (v_proposals : Int32) (a_readings : Nat) (v_readingMany : Int32) (m_now : Nat → Int32) (m_sounds : Nat → Int32) (y2 : Int32) : ∀ (n : Nat) (y3 : Int32) (v_hash : Int64) (o : Int64) (H : Heap) (locs : List Loc) (ls : Array Slot), lp_X7_mixWord_51 v_soundMany m_now m_sounds y2 n y3 v_hash = some o → va_P D vwCl [(a_t, .inr (7, [.ref a_now, .ref a_past, .int v_saved, .ref a_errors, .ref a_text, .int v_textLength, .ref a_pad, .int v_padLength, .ref a_sounds, .int v_soundMany, .ref a_proposed, .ref a_given, .int v_proposals, .ref a_readings, .int v_readingMany, .long v_hash])), (a_now, .inl (cI, 150, .inl m_now)), (a_sounds, .inl (cI, 8, .inl m_sounds))] H → va_D A [(a_t, .inr (7, [.ref a_now, .ref a_past, .int v_saved, .ref a_errors, .ref a_text, .int v_textLength, .ref a_pad, .int v_padLength, .ref a_sounds, .int v_soundMany, .ref a_proposed, .ref a_given, .int v_proposals, .ref a_readings, .int v_readingMany, .long v_hash])), (a_now, .inl (cI, 150, .inl m_now)), (a_sounds, .inl (cI, 8, .inl m_sounds))] → va_S A s.heap H locs → lv_has ls 4 [(0, .ref a_t), (2, .int y2), (3, .int y3)] → (∀ (H : Heap) (locs : List Loc) (ls : Array Slot), va_P D vwCl [(a_t, .inr (7, [.ref a_now, .ref a_past, .int v_saved, .ref a_errors, .ref a_text, .int v_textLength, .ref a_pad, .int v_padLength, .ref a_sounds, .int v_soundMany, .ref a_proposed, .ref a_given, .int v_proposals, .ref a_readings, .int v_readingMany, .long o])), (a_now, .inl (cI, 150, .inl m_now)), (a_sounds, .inl (cI, 8, .inl m_sounds))] H → va_D A [(a_t, .inr (7, [.ref a_now, .ref a_past, .int v_saved, .ref a_errors, .ref a_text, .int v_textLength, .ref a_pad, .int v_padLength, .ref a_sounds, .int v_soundMany, .ref a_proposed, .ref a_given, .int v_proposals, .ref a_readings, .int v_readingMany, .long o])), (a_now, .inl (cI, 150, .inl m_now)), (a_sounds, .inl (cI, 8, .inl m_sounds))] → va_S A s.heap H locs → lv_has ls 4 [] → W p l e rm_X7_mixWord s m args below meth c H locs 0 0 Q (F0 m 75 ls [])) → W p l e rm_X7_mixWord s m args below meth c H locs 0 0 Q (F0 m 51 ls []) := by
  obtain ⟨hx, hb, hml, hr, hlk, hown, hin, hts, hK, hA⟩ := id Cx
  have hown : s.vm.findClass RX7 = some m.cls := hown
  intro n
  induction n with
  | zero =>
    intro y3 v_hash o H locs ls hf
    rw [lp_X7_mixWord_51] at hf
    cases hf
  | succ n ih =>
    intro y3 v_hash o H locs ls hf hP hD hS hl kk
    rw [lp_X7_mixWord_51] at hf
    refine lv_iload_n hx hb dX7_mixWord_51 rfl (lv_at hl 2 rfl) ?_
    refine lv_aload_n hx hb dX7_mixWord_52 rfl (lv_at hl 0 rfl) ?_
    refine va_get (D := D) (ci := 7) (v := .int v_soundMany) (C := RX7) (T := TX7) (N := 16) hx hb hts ly_X7_mixWord_X7 hown hK.1 hP 0 rfl rfl 9 (by decide) (hts (.fieldLink RX7 70 "ShorthandOutlinesModel" "soundMany" "I") wd_X7_mixWord_1) (fun _ h9 => h9) rfl dX7_mixWord_53 ?_
    refine lv_icmp_ge (tgt := 75) hx hb dX7_mixWord_56 (by decide) (fun hb1 => ?_) (fun hb1 => ?_)
    · replace hf := if_t hb1 hf
      have ho := so hf
      subst ho
      exact kk _ _ _ hP hD hS (lv_sub hl [] rfl)
    · replace hf := if_f hb1 hf
      refine lv_aload_n hx hb dX7_mixWord_59 rfl (lv_at hl 0 rfl) ?_
      refine lv_aload_n hx hb dX7_mixWord_60 rfl (lv_at hl 0 rfl) ?_
      refine lv_iload_n hx hb dX7_mixWord_61 rfl (lv_at hl 1 rfl) ?_
      refine lv_iload_n hx hb dX7_mixWord_62 rfl (lv_at hl 2 rfl) ?_
      obtain ⟨u1, hc2, hf⟩ := ob hf
      refine g_ki (wc := [(a_t, .inr (7, [.ref a_now, .ref a_past, .int v_saved, .ref a_errors, .ref a_text, .int v_textLength, .ref a_pad, .int v_padLength, .ref a_sounds, .int v_soundMany, .ref a_proposed, .ref a_given, .int v_proposals, .ref a_readings, .int v_readingMany, .long v_hash])), (a_now, .inl (cI, 150, .inl m_now)), (a_sounds, .inl (cI, 8, .inl m_sounds))]) (wc' := [(a_t, .inr (7, [.ref a_now, .ref a_past, .int v_saved, .ref a_errors, .ref a_text, .int v_textLength, .ref a_pad, .int v_padLength, .ref a_sounds, .int v_soundMany, .ref a_proposed, .ref a_given, .int v_proposals, .ref a_readings, .int v_readingMany, .long v_hash])), (a_now, .inl (cI, 150, .inl m_now)), (a_sounds, .inl (cI, 8, .inl m_sounds))]) (wr := []) (va_runV (As := [.int y2, .int y3]) (rest := [.ref a_t]) ⟨hx, hb, hml, hown, hts⟩ (kt_X7_strokeOf l D cI cZ cS a_t a_now a_sounds a_past a_errors a_text a_pad a_proposed a_given a_readings v_saved v_textLength v_padLength v_proposals v_readingMany v_hash v_soundMany m_now m_sounds y2 y3 u1 hc2 _) (cwV 2 hts gX7_mixWord_X7_strokeOf rfl rfl rfl sg_X7_strokeOf ⟨(Nat.le_of_ble_eq_true rfl), (Nat.le_of_ble_eq_true rfl)⟩) (g_pv (q := (RX7, TX7, 16)) hK hP hD [0, 1, 2] rfl (by decide) rfl rfl) rfl rfl hl.1 rfl (lv_room (Nat.le_of_ble_eq_true rfl)) dX7_mixWord_63 ⟨Nat.zero_le _, Nat.zero_le _⟩) hP hD hS hA [0, 1, 2] [] rfl rfl (by decide) (by decide) (fun H locs hP hD hS => ?_)
      have hP : va_P D vwCl [(a_t, .inr (7, [.ref a_now, .ref a_past, .int v_saved, .ref a_errors, .ref a_text, .int v_textLength, .ref a_pad, .int v_padLength, .ref a_sounds, .int v_soundMany, .ref a_proposed, .ref a_given, .int v_proposals, .ref a_readings, .int v_readingMany, .long v_hash])), (a_now, .inl (cI, 150, .inl m_now)), (a_sounds, .inl (cI, 8, .inl m_sounds))] H := hP
      have hD : va_D A [(a_t, .inr (7, [.ref a_now, .ref a_past, .int v_saved, .ref a_errors, .ref a_text, .int v_textLength, .ref a_pad, .int v_padLength, .ref a_sounds, .int v_soundMany, .ref a_proposed, .ref a_given, .int v_proposals, .ref a_readings, .int v_readingMany, .long v_hash])), (a_now, .inl (cI, 150, .inl m_now)), (a_sounds, .inl (cI, 8, .inl m_sounds))] := hD
      obtain ⟨u2, hc3, hf⟩ := ob hf
      refine g_kv (wc := [(a_t, .inr (7, [.ref a_now, .ref a_past, .int v_saved, .ref a_errors, .ref a_text, .int v_textLength, .ref a_pad, .int v_padLength, .ref a_sounds, .int v_soundMany, .ref a_proposed, .ref a_given, .int v_proposals, .ref a_readings, .int v_readingMany, .long v_hash]))]) (wc' := [(a_t, .inr (7, [.ref a_now, .ref a_past, .int v_saved, .ref a_errors, .ref a_text, .int v_textLength, .ref a_pad, .int v_padLength, .ref a_sounds, .int v_soundMany, .ref a_proposed, .ref a_given, .int v_proposals, .ref a_readings, .int v_readingMany, .long u2]))]) (wr := [(a_now, .inl (cI, 150, .inl m_now)), (a_sounds, .inl (cI, 8, .inl m_sounds))]) (va_runV (As := [.int u1]) (rest := []) ⟨hx, hb, hml, hown, hts⟩ (kt_X7_mix l D cI cZ cS a_t a_now a_past a_errors a_text a_pad a_sounds a_proposed a_given a_readings v_saved v_textLength v_padLength v_soundMany v_proposals v_readingMany v_hash u1 u2 hc3 _) (cwV 1 hts gX7_mixWord_X7_mix rfl rfl rfl sg_X7_mix ⟨(Nat.le_of_ble_eq_true rfl), (Nat.le_of_ble_eq_true rfl)⟩) (g_pv (q := (RX7, TX7, 16)) hK hP hD [0] rfl (by decide) rfl rfl) rfl rfl hl.1 rfl (lv_room (Nat.le_of_ble_eq_true rfl)) dX7_mixWord_66 ⟨Nat.zero_le _, Nat.zero_le _⟩) hP hD hS hA [0] [1, 2] rfl rfl (by decide) (by decide) (fun H locs hP hD hS => ?_)
      have hP : va_P D vwCl [(a_now, .inl (cI, 150, .inl m_now)), (a_sounds, .inl (cI, 8, .inl m_sounds)), (a_t, .inr (7, [.ref a_now, .ref a_past, .int v_saved, .ref a_errors, .ref a_text, .int v_textLength, .ref a_pad, .int v_padLength, .ref a_sounds, .int v_soundMany, .ref a_proposed, .ref a_given, .int v_proposals, .ref a_readings, .int v_readingMany, .long u2]))] H := hP
      have hD : va_D A [(a_now, .inl (cI, 150, .inl m_now)), (a_sounds, .inl (cI, 8, .inl m_sounds)), (a_t, .inr (7, [.ref a_now, .ref a_past, .int v_saved, .ref a_errors, .ref a_text, .int v_textLength, .ref a_pad, .int v_padLength, .ref a_sounds, .int v_soundMany, .ref a_proposed, .ref a_given, .int v_proposals, .ref a_readings, .int v_readingMany, .long u2]))] := hD
      refine lv_iinc (v := (y3 + 1)) (lv' := [(3, .int (y3 + 1)), (0, .ref a_t), (2, .int y2)]) hx hb dX7_mixWord_69 hl (k := 2) rfl rfl (by decide) rfl (fun ls hl => ?_)
      refine lv_goto (tgt := 51) hx hb dX7_mixWord_72 (by decide) ?_
      have hP : va_P D vwCl [(a_t, .inr (7, [.ref a_now, .ref a_past, .int v_saved, .ref a_errors, .ref a_text, .int v_textLength, .ref a_pad, .int v_padLength, .ref a_sounds, .int v_soundMany, .ref a_proposed, .ref a_given, .int v_proposals, .ref a_readings, .int v_readingMany, .long u2])), (a_now, .inl (cI, 150, .inl m_now)), (a_sounds, .inl (cI, 8, .inl m_sounds))] H := hP.sub [2, 0, 1] rfl
      have hD : va_D A [(a_t, .inr (7, [.ref a_now, .ref a_past, .int v_saved, .ref a_errors, .ref a_text, .int v_textLength, .ref a_pad, .int v_padLength, .ref a_sounds, .int v_soundMany, .ref a_proposed, .ref a_given, .int v_proposals, .ref a_readings, .int v_readingMany, .long u2])), (a_now, .inl (cI, 150, .inl m_now)), (a_sounds, .inl (cI, 8, .inl m_sounds))] := hD.sub [2, 0, 1] (by decide +kernel) rfl
      exact ih (y3 + 1) u2 o _ _ _ hf hP hD hS (lv_sub hl [1, 2, 0] rfl) kk
set_option maxHeartbeats 4000000 in
set_option maxRecDepth 100000 in
theorem kt_X7_mixWord (l : Launch) (D : va_G) (cI cZ cS : ClassId) (a_t : Nat) (a_now : Nat) (a_sounds : Nat) (a_past : Nat) (a_errors : Nat) (a_text : Nat) (a_pad : Nat) (a_proposed : Nat) (a_given : Nat) (a_readings : Nat) (v_saved : Int32) (v_textLength : Int32) (v_padLength : Int32) (v_proposals : Int32) (v_readingMany : Int32) (v_soundMany : Int32) (v_hash : Int64) (m_now : Nat → Int32) (m_sounds : Nat → Int32) (x1 : Int32) (o : Int32 × Int64 × (Nat → Int32)) (hf : fn_X7_mixWord v_soundMany v_hash m_now m_sounds x1 = some o) (sz : Nat) : Met l yX7_mixWord wsX7_mixWord rm_X7_mixWord (va_Pc [.ref a_t, .int x1] (gPre D cI cZ cS [(a_t, .inr (7, [.ref a_now, .ref a_past, .int v_saved, .ref a_errors, .ref a_text, .int v_textLength, .ref a_pad, .int v_padLength, .ref a_sounds, .int v_soundMany, .ref a_proposed, .ref a_given, .int v_proposals, .ref a_readings, .int v_readingMany, .long v_hash])), (a_now, .inl (cI, 150, .inl m_now)), (a_sounds, .inl (cI, 8, .inl m_sounds))] sz)) (va_Qv (fun (_ : Unit) => True) (fun _ => gB D [(a_t, .inr (7, [.ref a_now, .ref a_past, .int v_saved, .ref a_errors, .ref a_text, .int v_textLength, .ref a_pad, .int v_padLength, .ref a_sounds, .int o.1, .ref a_proposed, .ref a_given, .int v_proposals, .ref a_readings, .int v_readingMany, .long o.2.1])), (a_now, .inl (cI, 150, .inl m_now)), (a_sounds, .inl (cI, 8, .inl o.2.2))] (va_A [(a_t, .inr (7, [.ref a_now, .ref a_past, .int v_saved, .ref a_errors, .ref a_text, .int v_textLength, .ref a_pad, .int v_padLength, .ref a_sounds, .int v_soundMany, .ref a_proposed, .ref a_given, .int v_proposals, .ref a_readings, .int v_readingMany, .long v_hash])), (a_now, .inl (cI, 150, .inl m_now)), (a_sounds, .inl (cI, 8, .inl m_sounds))] sz)) (va_A [(a_t, .inr (7, [.ref a_now, .ref a_past, .int v_saved, .ref a_errors, .ref a_text, .int v_textLength, .ref a_pad, .int v_padLength, .ref a_sounds, .int v_soundMany, .ref a_proposed, .ref a_given, .int v_proposals, .ref a_readings, .int v_readingMany, .long v_hash])), (a_now, .inl (cI, 150, .inl m_now)), (a_sounds, .inl (cI, 8, .inl m_sounds))] sz)) 0 0 (va_A [(a_t, .inr (7, [.ref a_now, .ref a_past, .int v_saved, .ref a_errors, .ref a_text, .int v_textLength, .ref a_pad, .int v_padLength, .ref a_sounds, .int v_soundMany, .ref a_proposed, .ref a_given, .int v_proposals, .ref a_readings, .int v_readingMany, .long v_hash])), (a_now, .inl (cI, 150, .inl m_now)), (a_sounds, .inl (cI, 8, .inl m_sounds))] sz) := by
  refine g_entry (Qc := fun A => va_Qv (fun (_ : Unit) => True) (fun _ => gB D [(a_t, .inr (7, [.ref a_now, .ref a_past, .int v_saved, .ref a_errors, .ref a_text, .int v_textLength, .ref a_pad, .int v_padLength, .ref a_sounds, .int o.1, .ref a_proposed, .ref a_given, .int v_proposals, .ref a_readings, .int v_readingMany, .long o.2.1])), (a_now, .inl (cI, 150, .inl m_now)), (a_sounds, .inl (cI, 8, .inl o.2.2))] A) A) (cc := cX7_mixWord) (maxL := 4) (ret := none) (by decide) rfl (Nat.le_of_ble_eq_true rfl) ?_ sz
  intro p e s m below meth c A ls Cx hP hD hS hl
  obtain ⟨hx, hb, hml, hr, hlk, hown, hin, hts, hK, hA⟩ := id Cx
  have hown : s.vm.findClass RX7 = some m.cls := hown
  have hl : lv_has ls 4 [(0, .ref a_t), (1, .int x1)] := hl
  unfold fn_X7_mixWord at hf
  refine lv_aload_n hx hb dX7_mixWord_0 rfl (lv_at hl 0 rfl) ?_
  refine lv_aload_n hx hb dX7_mixWord_1 rfl (lv_at hl 0 rfl) ?_
  refine va_get (D := D) (ci := 7) (v := .ref a_now) (C := RX7) (T := TX7) (N := 16) hx hb hts ly_X7_mixWord_X7 hown hK.1 hP 0 rfl rfl 0 (by decide) (hts (.fieldLink RX7 7 "ShorthandOutlinesModel" "now" "[I") wd_X7_mixWord_0) (fun _ h9 => h9) rfl dX7_mixWord_2 ?_
  refine lv_bipush (v := 30) hx hb dX7_mixWord_5 (by decide) ?_
  refine lv_iload_n hx hb dX7_mixWord_7 rfl (lv_at hl 1 rfl) ?_
  refine lv_iadd hx hb dX7_mixWord_8 ?_
  have hi1 := gd_1 hf
  replace hf := gd_2 hf
  refine va_iald hx hb hK.1 hP 1 0 rfl rfl (inb_in hi1) dX7_mixWord_9 ?_
  obtain ⟨u1, hc2, hf⟩ := ob hf
  refine g_kv (wc := [(a_t, .inr (7, [.ref a_now, .ref a_past, .int v_saved, .ref a_errors, .ref a_text, .int v_textLength, .ref a_pad, .int v_padLength, .ref a_sounds, .int v_soundMany, .ref a_proposed, .ref a_given, .int v_proposals, .ref a_readings, .int v_readingMany, .long v_hash]))]) (wc' := [(a_t, .inr (7, [.ref a_now, .ref a_past, .int v_saved, .ref a_errors, .ref a_text, .int v_textLength, .ref a_pad, .int v_padLength, .ref a_sounds, .int v_soundMany, .ref a_proposed, .ref a_given, .int v_proposals, .ref a_readings, .int v_readingMany, .long u1]))]) (wr := [(a_now, .inl (cI, 150, .inl m_now)), (a_sounds, .inl (cI, 8, .inl m_sounds))]) (va_runV (As := [.int (m_now ((30 : Int32) + x1).toNatClampNeg)]) (rest := []) ⟨hx, hb, hml, hown, hts⟩ (kt_X7_mix l D cI cZ cS a_t a_now a_past a_errors a_text a_pad a_sounds a_proposed a_given a_readings v_saved v_textLength v_padLength v_soundMany v_proposals v_readingMany v_hash (m_now ((30 : Int32) + x1).toNatClampNeg) u1 hc2 _) (cwV 1 hts gX7_mixWord_X7_mix rfl rfl rfl sg_X7_mix ⟨(Nat.le_of_ble_eq_true rfl), (Nat.le_of_ble_eq_true rfl)⟩) (g_pv (q := (RX7, TX7, 16)) hK hP hD [0] rfl (by decide) rfl rfl) rfl rfl hl.1 rfl (lv_room (Nat.le_of_ble_eq_true rfl)) dX7_mixWord_10 ⟨Nat.zero_le _, Nat.zero_le _⟩) hP hD hS hA [0] [1, 2] rfl rfl (by decide) (by decide) (fun H locs hP hD hS => ?_)
  have hP : va_P D vwCl [(a_now, .inl (cI, 150, .inl m_now)), (a_sounds, .inl (cI, 8, .inl m_sounds)), (a_t, .inr (7, [.ref a_now, .ref a_past, .int v_saved, .ref a_errors, .ref a_text, .int v_textLength, .ref a_pad, .int v_padLength, .ref a_sounds, .int v_soundMany, .ref a_proposed, .ref a_given, .int v_proposals, .ref a_readings, .int v_readingMany, .long u1]))] H := hP
  have hD : va_D A [(a_now, .inl (cI, 150, .inl m_now)), (a_sounds, .inl (cI, 8, .inl m_sounds)), (a_t, .inr (7, [.ref a_now, .ref a_past, .int v_saved, .ref a_errors, .ref a_text, .int v_textLength, .ref a_pad, .int v_padLength, .ref a_sounds, .int v_soundMany, .ref a_proposed, .ref a_given, .int v_proposals, .ref a_readings, .int v_readingMany, .long u1]))] := hD
  refine lv_aload_n hx hb dX7_mixWord_13 rfl (lv_at hl 0 rfl) ?_
  refine lv_aload_n hx hb dX7_mixWord_14 rfl (lv_at hl 0 rfl) ?_
  refine va_get (D := D) (ci := 7) (v := .ref a_now) (C := RX7) (T := TX7) (N := 16) hx hb hts ly_X7_mixWord_X7 hown hK.1 hP 2 rfl rfl 0 (by decide) (hts (.fieldLink RX7 7 "ShorthandOutlinesModel" "now" "[I") wd_X7_mixWord_0) (fun _ h9 => h9) rfl dX7_mixWord_15 ?_
  refine lv_bipush (v := 42) hx hb dX7_mixWord_18 (by decide) ?_
  refine lv_iload_n hx hb dX7_mixWord_20 rfl (lv_at hl 1 rfl) ?_
  refine lv_iadd hx hb dX7_mixWord_21 ?_
  have hi3 := gd_1 hf
  replace hf := gd_2 hf
  refine va_iald hx hb hK.1 hP 0 0 rfl rfl (inb_in hi3) dX7_mixWord_22 ?_
  obtain ⟨u2, hc4, hf⟩ := ob hf
  refine g_kv (wc := [(a_t, .inr (7, [.ref a_now, .ref a_past, .int v_saved, .ref a_errors, .ref a_text, .int v_textLength, .ref a_pad, .int v_padLength, .ref a_sounds, .int v_soundMany, .ref a_proposed, .ref a_given, .int v_proposals, .ref a_readings, .int v_readingMany, .long u1]))]) (wc' := [(a_t, .inr (7, [.ref a_now, .ref a_past, .int v_saved, .ref a_errors, .ref a_text, .int v_textLength, .ref a_pad, .int v_padLength, .ref a_sounds, .int v_soundMany, .ref a_proposed, .ref a_given, .int v_proposals, .ref a_readings, .int v_readingMany, .long u2]))]) (wr := [(a_now, .inl (cI, 150, .inl m_now)), (a_sounds, .inl (cI, 8, .inl m_sounds))]) (va_runV (As := [.int (m_now ((42 : Int32) + x1).toNatClampNeg)]) (rest := []) ⟨hx, hb, hml, hown, hts⟩ (kt_X7_mix l D cI cZ cS a_t a_now a_past a_errors a_text a_pad a_sounds a_proposed a_given a_readings v_saved v_textLength v_padLength v_soundMany v_proposals v_readingMany u1 (m_now ((42 : Int32) + x1).toNatClampNeg) u2 hc4 _) (cwV 1 hts gX7_mixWord_X7_mix rfl rfl rfl sg_X7_mix ⟨(Nat.le_of_ble_eq_true rfl), (Nat.le_of_ble_eq_true rfl)⟩) (g_pv (q := (RX7, TX7, 16)) hK hP hD [2] rfl (by decide) rfl rfl) rfl rfl hl.1 rfl (lv_room (Nat.le_of_ble_eq_true rfl)) dX7_mixWord_23 ⟨Nat.zero_le _, Nat.zero_le _⟩) hP hD hS hA [2] [0, 1] rfl rfl (by decide) (by decide) (fun H locs hP hD hS => ?_)
  have hP : va_P D vwCl [(a_now, .inl (cI, 150, .inl m_now)), (a_sounds, .inl (cI, 8, .inl m_sounds)), (a_t, .inr (7, [.ref a_now, .ref a_past, .int v_saved, .ref a_errors, .ref a_text, .int v_textLength, .ref a_pad, .int v_padLength, .ref a_sounds, .int v_soundMany, .ref a_proposed, .ref a_given, .int v_proposals, .ref a_readings, .int v_readingMany, .long u2]))] H := hP
  have hD : va_D A [(a_now, .inl (cI, 150, .inl m_now)), (a_sounds, .inl (cI, 8, .inl m_sounds)), (a_t, .inr (7, [.ref a_now, .ref a_past, .int v_saved, .ref a_errors, .ref a_text, .int v_textLength, .ref a_pad, .int v_padLength, .ref a_sounds, .int v_soundMany, .ref a_proposed, .ref a_given, .int v_proposals, .ref a_readings, .int v_readingMany, .long u2]))] := hD
  refine lv_aload_n hx hb dX7_mixWord_26 rfl (lv_at hl 0 rfl) ?_
  refine lv_iload_n hx hb dX7_mixWord_27 rfl (lv_at hl 1 rfl) ?_
  obtain ⟨u3, hc5, hf⟩ := ob hf
  refine g_ki (wc := [(a_t, .inr (7, [.ref a_now, .ref a_past, .int v_saved, .ref a_errors, .ref a_text, .int v_textLength, .ref a_pad, .int v_padLength, .ref a_sounds, .int v_soundMany, .ref a_proposed, .ref a_given, .int v_proposals, .ref a_readings, .int v_readingMany, .long u2])), (a_now, .inl (cI, 150, .inl m_now)), (a_sounds, .inl (cI, 8, .inl m_sounds))]) (wc' := [(a_t, .inr (7, [.ref a_now, .ref a_past, .int v_saved, .ref a_errors, .ref a_text, .int v_textLength, .ref a_pad, .int v_padLength, .ref a_sounds, .int u3.2.1, .ref a_proposed, .ref a_given, .int v_proposals, .ref a_readings, .int v_readingMany, .long u2])), (a_now, .inl (cI, 150, .inl m_now)), (a_sounds, .inl (cI, 8, .inl u3.2.2))]) (wr := []) (va_runV (As := [.int x1]) (rest := []) ⟨hx, hb, hml, hown, hts⟩ (kt_X7_written l D cI cZ cS a_t a_now a_sounds a_past a_errors a_text a_pad a_proposed a_given a_readings v_saved v_textLength v_padLength v_proposals v_readingMany u2 v_soundMany m_now m_sounds x1 u3 hc5 _) (cwV 1 hts gX7_mixWord_X7_written rfl rfl rfl sg_X7_written ⟨(Nat.le_of_ble_eq_true rfl), (Nat.le_of_ble_eq_true rfl)⟩) (g_pv (q := (RX7, TX7, 16)) hK hP hD [2, 0, 1] rfl (by decide) rfl rfl) rfl rfl hl.1 rfl (lv_room (Nat.le_of_ble_eq_true rfl)) dX7_mixWord_28 ⟨Nat.zero_le _, Nat.zero_le _⟩) hP hD hS hA [2, 0, 1] [] rfl rfl (by decide) (by decide) (fun H locs hP hD hS => ?_)
  have hP : va_P D vwCl [(a_t, .inr (7, [.ref a_now, .ref a_past, .int v_saved, .ref a_errors, .ref a_text, .int v_textLength, .ref a_pad, .int v_padLength, .ref a_sounds, .int u3.2.1, .ref a_proposed, .ref a_given, .int v_proposals, .ref a_readings, .int v_readingMany, .long u2])), (a_now, .inl (cI, 150, .inl m_now)), (a_sounds, .inl (cI, 8, .inl u3.2.2))] H := hP
  have hD : va_D A [(a_t, .inr (7, [.ref a_now, .ref a_past, .int v_saved, .ref a_errors, .ref a_text, .int v_textLength, .ref a_pad, .int v_padLength, .ref a_sounds, .int u3.2.1, .ref a_proposed, .ref a_given, .int v_proposals, .ref a_readings, .int v_readingMany, .long u2])), (a_now, .inl (cI, 150, .inl m_now)), (a_sounds, .inl (cI, 8, .inl u3.2.2))] := hD
  refine lv_istore_n (lv' := [(2, .int u3.1), (0, .ref a_t), (1, .int x1)]) hx hb dX7_mixWord_31 rfl hl (by decide) rfl (fun ls hl => ?_)
  refine lv_aload_n hx hb dX7_mixWord_32 rfl (lv_at hl 1 rfl) ?_
  refine lv_aload_n hx hb dX7_mixWord_33 rfl (lv_at hl 1 rfl) ?_
  refine lv_iload_n hx hb dX7_mixWord_34 rfl (lv_at hl 0 rfl) ?_
  obtain ⟨u4, hc6, hf⟩ := ob hf
  refine g_ki (wc := [(a_t, .inr (7, [.ref a_now, .ref a_past, .int v_saved, .ref a_errors, .ref a_text, .int v_textLength, .ref a_pad, .int v_padLength, .ref a_sounds, .int u3.2.1, .ref a_proposed, .ref a_given, .int v_proposals, .ref a_readings, .int v_readingMany, .long u2])), (a_now, .inl (cI, 150, .inl m_now)), (a_sounds, .inl (cI, 8, .inl u3.2.2))]) (wc' := [(a_t, .inr (7, [.ref a_now, .ref a_past, .int v_saved, .ref a_errors, .ref a_text, .int v_textLength, .ref a_pad, .int v_padLength, .ref a_sounds, .int u3.2.1, .ref a_proposed, .ref a_given, .int v_proposals, .ref a_readings, .int v_readingMany, .long u2])), (a_now, .inl (cI, 150, .inl m_now)), (a_sounds, .inl (cI, 8, .inl u3.2.2))]) (wr := []) (va_runV (As := [.int u3.1]) (rest := [.ref a_t]) ⟨hx, hb, hml, hown, hts⟩ (kt_X7_costOf l D cI cZ cS a_t a_now a_sounds a_past a_errors a_text a_pad a_proposed a_given a_readings v_saved v_textLength v_padLength v_proposals v_readingMany u2 u3.2.1 m_now u3.2.2 u3.1 u4 hc6 _) (cwV 1 hts gX7_mixWord_X7_costOf rfl rfl rfl sg_X7_costOf ⟨(Nat.le_of_ble_eq_true rfl), (Nat.le_of_ble_eq_true rfl)⟩) (g_pv (q := (RX7, TX7, 16)) hK hP hD [0, 1, 2] rfl (by decide) rfl rfl) rfl rfl hl.1 rfl (lv_room (Nat.le_of_ble_eq_true rfl)) dX7_mixWord_35 ⟨Nat.zero_le _, Nat.zero_le _⟩) hP hD hS hA [0, 1, 2] [] rfl rfl (by decide) (by decide) (fun H locs hP hD hS => ?_)
  have hP : va_P D vwCl [(a_t, .inr (7, [.ref a_now, .ref a_past, .int v_saved, .ref a_errors, .ref a_text, .int v_textLength, .ref a_pad, .int v_padLength, .ref a_sounds, .int u3.2.1, .ref a_proposed, .ref a_given, .int v_proposals, .ref a_readings, .int v_readingMany, .long u2])), (a_now, .inl (cI, 150, .inl m_now)), (a_sounds, .inl (cI, 8, .inl u3.2.2))] H := hP
  have hD : va_D A [(a_t, .inr (7, [.ref a_now, .ref a_past, .int v_saved, .ref a_errors, .ref a_text, .int v_textLength, .ref a_pad, .int v_padLength, .ref a_sounds, .int u3.2.1, .ref a_proposed, .ref a_given, .int v_proposals, .ref a_readings, .int v_readingMany, .long u2])), (a_now, .inl (cI, 150, .inl m_now)), (a_sounds, .inl (cI, 8, .inl u3.2.2))] := hD
  obtain ⟨u5, hc7, hf⟩ := ob hf
  refine g_kv (wc := [(a_t, .inr (7, [.ref a_now, .ref a_past, .int v_saved, .ref a_errors, .ref a_text, .int v_textLength, .ref a_pad, .int v_padLength, .ref a_sounds, .int u3.2.1, .ref a_proposed, .ref a_given, .int v_proposals, .ref a_readings, .int v_readingMany, .long u2]))]) (wc' := [(a_t, .inr (7, [.ref a_now, .ref a_past, .int v_saved, .ref a_errors, .ref a_text, .int v_textLength, .ref a_pad, .int v_padLength, .ref a_sounds, .int u3.2.1, .ref a_proposed, .ref a_given, .int v_proposals, .ref a_readings, .int v_readingMany, .long u5]))]) (wr := [(a_now, .inl (cI, 150, .inl m_now)), (a_sounds, .inl (cI, 8, .inl u3.2.2))]) (va_runV (As := [.int u4]) (rest := []) ⟨hx, hb, hml, hown, hts⟩ (kt_X7_mix l D cI cZ cS a_t a_now a_past a_errors a_text a_pad a_sounds a_proposed a_given a_readings v_saved v_textLength v_padLength u3.2.1 v_proposals v_readingMany u2 u4 u5 hc7 _) (cwV 1 hts gX7_mixWord_X7_mix rfl rfl rfl sg_X7_mix ⟨(Nat.le_of_ble_eq_true rfl), (Nat.le_of_ble_eq_true rfl)⟩) (g_pv (q := (RX7, TX7, 16)) hK hP hD [0] rfl (by decide) rfl rfl) rfl rfl hl.1 rfl (lv_room (Nat.le_of_ble_eq_true rfl)) dX7_mixWord_38 ⟨Nat.zero_le _, Nat.zero_le _⟩) hP hD hS hA [0] [1, 2] rfl rfl (by decide) (by decide) (fun H locs hP hD hS => ?_)
  have hP : va_P D vwCl [(a_now, .inl (cI, 150, .inl m_now)), (a_sounds, .inl (cI, 8, .inl u3.2.2)), (a_t, .inr (7, [.ref a_now, .ref a_past, .int v_saved, .ref a_errors, .ref a_text, .int v_textLength, .ref a_pad, .int v_padLength, .ref a_sounds, .int u3.2.1, .ref a_proposed, .ref a_given, .int v_proposals, .ref a_readings, .int v_readingMany, .long u5]))] H := hP
  have hD : va_D A [(a_now, .inl (cI, 150, .inl m_now)), (a_sounds, .inl (cI, 8, .inl u3.2.2)), (a_t, .inr (7, [.ref a_now, .ref a_past, .int v_saved, .ref a_errors, .ref a_text, .int v_textLength, .ref a_pad, .int v_padLength, .ref a_sounds, .int u3.2.1, .ref a_proposed, .ref a_given, .int v_proposals, .ref a_readings, .int v_readingMany, .long u5]))] := hD
  refine lv_aload_n hx hb dX7_mixWord_41 rfl (lv_at hl 1 rfl) ?_
  refine lv_aload_n hx hb dX7_mixWord_42 rfl (lv_at hl 1 rfl) ?_
  refine va_get (D := D) (ci := 7) (v := .int u3.2.1) (C := RX7) (T := TX7) (N := 16) hx hb hts ly_X7_mixWord_X7 hown hK.1 hP 2 rfl rfl 9 (by decide) (hts (.fieldLink RX7 70 "ShorthandOutlinesModel" "soundMany" "I") wd_X7_mixWord_1) (fun _ h9 => h9) rfl dX7_mixWord_43 ?_
  obtain ⟨u6, hc8, hf⟩ := ob hf
  refine g_kv (wc := [(a_t, .inr (7, [.ref a_now, .ref a_past, .int v_saved, .ref a_errors, .ref a_text, .int v_textLength, .ref a_pad, .int v_padLength, .ref a_sounds, .int u3.2.1, .ref a_proposed, .ref a_given, .int v_proposals, .ref a_readings, .int v_readingMany, .long u5]))]) (wc' := [(a_t, .inr (7, [.ref a_now, .ref a_past, .int v_saved, .ref a_errors, .ref a_text, .int v_textLength, .ref a_pad, .int v_padLength, .ref a_sounds, .int u3.2.1, .ref a_proposed, .ref a_given, .int v_proposals, .ref a_readings, .int v_readingMany, .long u6]))]) (wr := [(a_now, .inl (cI, 150, .inl m_now)), (a_sounds, .inl (cI, 8, .inl u3.2.2))]) (va_runV (As := [.int u3.2.1]) (rest := []) ⟨hx, hb, hml, hown, hts⟩ (kt_X7_mix l D cI cZ cS a_t a_now a_past a_errors a_text a_pad a_sounds a_proposed a_given a_readings v_saved v_textLength v_padLength u3.2.1 v_proposals v_readingMany u5 u3.2.1 u6 hc8 _) (cwV 1 hts gX7_mixWord_X7_mix rfl rfl rfl sg_X7_mix ⟨(Nat.le_of_ble_eq_true rfl), (Nat.le_of_ble_eq_true rfl)⟩) (g_pv (q := (RX7, TX7, 16)) hK hP hD [2] rfl (by decide) rfl rfl) rfl rfl hl.1 rfl (lv_room (Nat.le_of_ble_eq_true rfl)) dX7_mixWord_46 ⟨Nat.zero_le _, Nat.zero_le _⟩) hP hD hS hA [2] [0, 1] rfl rfl (by decide) (by decide) (fun H locs hP hD hS => ?_)
  have hP : va_P D vwCl [(a_now, .inl (cI, 150, .inl m_now)), (a_sounds, .inl (cI, 8, .inl u3.2.2)), (a_t, .inr (7, [.ref a_now, .ref a_past, .int v_saved, .ref a_errors, .ref a_text, .int v_textLength, .ref a_pad, .int v_padLength, .ref a_sounds, .int u3.2.1, .ref a_proposed, .ref a_given, .int v_proposals, .ref a_readings, .int v_readingMany, .long u6]))] H := hP
  have hD : va_D A [(a_now, .inl (cI, 150, .inl m_now)), (a_sounds, .inl (cI, 8, .inl u3.2.2)), (a_t, .inr (7, [.ref a_now, .ref a_past, .int v_saved, .ref a_errors, .ref a_text, .int v_textLength, .ref a_pad, .int v_padLength, .ref a_sounds, .int u3.2.1, .ref a_proposed, .ref a_given, .int v_proposals, .ref a_readings, .int v_readingMany, .long u6]))] := hD
  refine lv_iconst (v := 0) hx hb dX7_mixWord_49 (by decide) ?_
  refine lv_istore_n (lv' := [(3, .int (0 : Int32)), (2, .int u3.1), (0, .ref a_t), (1, .int x1)]) hx hb dX7_mixWord_50 rfl hl (by decide) rfl (fun ls hl => ?_)
  have hP : va_P D vwCl [(a_t, .inr (7, [.ref a_now, .ref a_past, .int v_saved, .ref a_errors, .ref a_text, .int v_textLength, .ref a_pad, .int v_padLength, .ref a_sounds, .int u3.2.1, .ref a_proposed, .ref a_given, .int v_proposals, .ref a_readings, .int v_readingMany, .long u6])), (a_now, .inl (cI, 150, .inl m_now)), (a_sounds, .inl (cI, 8, .inl u3.2.2))] H := hP.sub [2, 0, 1] rfl
  have hD : va_D A [(a_t, .inr (7, [.ref a_now, .ref a_past, .int v_saved, .ref a_errors, .ref a_text, .int v_textLength, .ref a_pad, .int v_padLength, .ref a_sounds, .int u3.2.1, .ref a_proposed, .ref a_given, .int v_proposals, .ref a_readings, .int v_readingMany, .long u6])), (a_now, .inl (cI, 150, .inl m_now)), (a_sounds, .inl (cI, 8, .inl u3.2.2))] := hD.sub [2, 0, 1] (by decide +kernel) rfl
  obtain ⟨u7, hc9, hf⟩ := ob hf
  refine lt_X7_mixWord_51 Cx a_t a_now a_past v_saved a_errors a_text v_textLength a_pad v_padLength a_sounds u3.2.1 a_proposed a_given v_proposals a_readings v_readingMany m_now u3.2.2 u3.1 1024 (0 : Int32) u6 u7 _ _ _ hc9 hP hD hS (lv_sub hl [2, 1, 0] rfl) (fun H locs ls hP hD hS hl => ?_)
  have hP : va_P D vwCl [(a_t, .inr (7, [.ref a_now, .ref a_past, .int v_saved, .ref a_errors, .ref a_text, .int v_textLength, .ref a_pad, .int v_padLength, .ref a_sounds, .int u3.2.1, .ref a_proposed, .ref a_given, .int v_proposals, .ref a_readings, .int v_readingMany, .long u7])), (a_now, .inl (cI, 150, .inl m_now)), (a_sounds, .inl (cI, 8, .inl u3.2.2))] H := hP
  have hD : va_D A [(a_t, .inr (7, [.ref a_now, .ref a_past, .int v_saved, .ref a_errors, .ref a_text, .int v_textLength, .ref a_pad, .int v_padLength, .ref a_sounds, .int u3.2.1, .ref a_proposed, .ref a_given, .int v_proposals, .ref a_readings, .int v_readingMany, .long u7])), (a_now, .inl (cI, 150, .inl m_now)), (a_sounds, .inl (cI, 8, .inl u3.2.2))] := hD
  have hl : lv_has ls 4 [] := hl
  have ho := so hf
  subst ho
  exact g_vret hx hb hr hlk hP hD hS dX7_mixWord_75
