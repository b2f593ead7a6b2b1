theorem sg_X4_empty : yX4_empty.cls = RX4 ∧ yX4_empty.cls ≠ "java/lang/invoke/MethodHandle" ∧ yX4_empty.cls ≠ "java/lang/invoke/VarHandle" ∧ (parseMethodDescriptor yX4_empty.desc).map (fun d => d.parameters.length) = some 0 := by decide +kernel
abbrev rm_X4_empty : Room := { frames := 0, cells := 0, slots := 0, locals := 0 }
theorem wd_X4_empty_0 : (.fieldLink RX4 21 "ShorthandOutlines$Ranking" "size" "I" : Cond) ∈ wsX4_empty := by decide +kernel
theorem ly_X4_empty_X4 : ∀ w ∈ u_ws RX4 TX4 4, w ∈ wsX4_empty := by decide +kernel
set_option maxHeartbeats 4000000 in
set_option maxRecDepth 100000 in
theorem kt_X4_empty (l : Launch) (D : va_G) (cI cZ cS : ClassId) (a_t : Nat) (a_words : Nat) (a_values : Nat) (a_weights : Nat) (v_size : Int32) (o : Int32) (hf : fn_X4_empty v_size = some o) (sz : Nat) : Met l yX4_empty wsX4_empty rm_X4_empty (va_Pc [.ref a_t] (gPre D cI cZ cS [(a_t, .inr (4, [.ref a_words, .ref a_values, .ref a_weights, .int v_size]))] sz)) (va_Qv (fun (_ : Unit) => True) (fun _ => gB D [(a_t, .inr (4, [.ref a_words, .ref a_values, .ref a_weights, .int o]))] (va_A [(a_t, .inr (4, [.ref a_words, .ref a_values, .ref a_weights, .int v_size]))] sz)) (va_A [(a_t, .inr (4, [.ref a_words, .ref a_values, .ref a_weights, .int v_size]))] sz)) 0 0 (va_A [(a_t, .inr (4, [.ref a_words, .ref a_values, .ref a_weights, .int v_size]))] sz) := by
  refine g_entry (y := yX4_empty) (av := [.ref a_t]) (wi := [(a_t, .inr (4, [.ref a_words, .ref a_values, .ref a_weights, .int v_size]))]) (Qc := fun A => va_Qv (fun (_ : Unit) => True) (fun _ => gB D [(a_t, .inr (4, [.ref a_words, .ref a_values, .ref a_weights, .int o]))] A) A) (cc := cX4_empty) (maxL := 1) (ret := none) (by decide) rfl (Nat.le_of_ble_eq_true rfl) ?_ sz
  intro p e s m below meth c A ls Cx hP hD hS hl
  obtain ⟨hx, hb, hml, hr, hlk, hown, hin, hts, hK, hA⟩ := id Cx
  have hown : s.vm.findClass RX4 = some m.cls := hown
  have hl : lv_has ls 1 [(0, .ref a_t)] := hl
  unfold fn_X4_empty at hf
  refine lv_aload_n hx hb dX4_empty_0 rfl (lv_at hl 0 rfl) ?_
  refine lv_iconst (v := 0) hx hb dX4_empty_1 (by decide) ?_
  refine va_put (D := D) (ci := 4) (v := .int (0 : Int32)) (ty := .int) (C := RX4) (T := TX4) (N := 4) hx hb hts ly_X4_empty_X4 tyX4 tyX4_ok nmX4 hown hK.1 hP hD hS 0 rfl rfl 3 (by decide) (hts (.fieldLink RX4 21 "ShorthandOutlines$Ranking" "size" "I") wd_X4_empty_0) (fun _ h9 => h9) rfl (by decide +kernel) rfl rfl (Nat.le_of_ble_eq_true rfl) dX4_empty_2 (fun H locs hP hD hS => ?_)
  have hP : va_P D vwCl [(a_t, .inr (4, [.ref a_words, .ref a_values, .ref a_weights, .int (0 : Int32)]))] H := hP
  have hD : va_D A [(a_t, .inr (4, [.ref a_words, .ref a_values, .ref a_weights, .int (0 : Int32)]))] := hD
  have ho := so hf
  subst ho
  exact g_vret hx hb hr hlk hP hD hS dX4_empty_5

theorem sg_X4_insert : yX4_insert.cls = RX4 ∧ yX4_insert.cls ≠ "java/lang/invoke/MethodHandle" ∧ yX4_insert.cls ≠ "java/lang/invoke/VarHandle" ∧ (parseMethodDescriptor yX4_insert.desc).map (fun d => d.parameters.length) = some 3 := by decide +kernel
abbrev rm_X4_insert : Room := { frames := 0, cells := 0, slots := 0, locals := 0 }
theorem wd_X4_insert_0 : (.fieldLink RX4 21 "ShorthandOutlines$Ranking" "size" "I" : Cond) ∈ wsX4_insert := by decide +kernel
theorem wd_X4_insert_1 : (.fieldLink RX4 18 "ShorthandOutlines$Ranking" "weights" "[I" : Cond) ∈ wsX4_insert := by decide +kernel
theorem wd_X4_insert_2 : (.fieldLink RX4 9 "ShorthandOutlines$Ranking" "words" "[I" : Cond) ∈ wsX4_insert := by decide +kernel
theorem wd_X4_insert_3 : (.fieldLink RX4 15 "ShorthandOutlines$Ranking" "values" "[I" : Cond) ∈ wsX4_insert := by decide +kernel
theorem ly_X4_insert_X4 : ∀ w ∈ u_ws RX4 TX4 4, w ∈ wsX4_insert := by decide +kernel
set_option maxHeartbeats 4000000 in
set_option maxRecDepth 100000 in
theorem lt_X4_insert_16 {p : Program} {l : Launch} {e : Env} {s : State} {m : MethodId} {args : Array Value} {below : List Frame} {meth : Method} {c : Code} {D : va_G} {cI cZ cS : ClassId} {A : Nat → Prop} {Q : State → Prop} (Cx : gCx p s m meth c args cX4_insert 5 none yX4_insert wsX4_insert D cI cZ cS A) (a_t : Nat) (a_words : Nat) (a_values : Nat) (a_weights : Nat) (v_size : Int32) (y1 : Int32) (y2 : Int32) (y3 : Int32) : ∀ (n : Nat) (y4 : Int32) (m_words : Nat → Int32) (m_values : Nat → Int32) (m_weights : Nat → Int32) (o : Int32 × (Nat → Int32) × (Nat → Int32) × (Nat → Int32)) (H : Heap) (locs : List Loc) (ls : Array Slot), lp_X4_insert_16 y3 n y4 m_words m_values m_weights = some o → va_P D vwCl [(a_t, .inr (4, [.ref a_words, .ref a_values, .ref a_weights, .int v_size])), (a_words, .inl (cI, 12, .inl m_words)), (a_values, .inl (cI, 12, .inl m_values)), (a_weights, .inl (cI, 12, .inl m_weights))] H → va_D A [(a_t, .inr (4, [.ref a_words, .ref a_values, .ref a_weights, .int v_size])), (a_words, .inl (cI, 12, .inl m_words)), (a_values, .inl (cI, 12, .inl m_values)), (a_weights, .inl (cI, 12, .inl m_weights))] → va_S A s.heap H locs → lv_has ls 5 [(0, .ref a_t), (1, .int y1), (2, .int y2), (3, .int y3), (4, .int y4)] → (∀ (H : Heap) (locs : List Loc) (ls : Array Slot), va_P D vwCl [(a_t, .inr (4, [.ref a_words, .ref a_values, .ref a_weights, .int v_size])), (a_words, .inl (cI, 12, .inl o.2.1)), (a_values, .inl (cI, 12, .inl o.2.2.1)), (a_weights, .inl (cI, 12, .inl o.2.2.2))] H → va_D A [(a_t, .inr (4, [.ref a_words, .ref a_values, .ref a_weights, .int v_size])), (a_words, .inl (cI, 12, .inl o.2.1)), (a_values, .inl (cI, 12, .inl o.2.2.1)), (a_weights, .inl (cI, 12, .inl o.2.2.2))] → va_S A s.heap H locs → lv_has ls 5 [(0, .ref a_t), (1, .int y1), (2, .int y2), (3, .int y3), (4, .int o.1)] → W p l e rm_X4_insert s m args below meth c H locs 0 0 Q (F0 m 88 ls [])) → W p l e rm_X4_insert s m args below meth c H locs 0 0 Q (F0 m 16 ls []) := by
  obtain ⟨hx, hb, hml, hr, hlk, hown, hin, hts, hK, hA⟩ := id Cx
  have hown : s.vm.findClass RX4 = some m.cls := hown
  intro n
  induction n with
  | zero =>
    intro y4 m_words m_values m_weights o H locs ls hf
    rw [lp_X4_insert_16] at hf
    cases hf
  | succ n ih =>
    intro y4 m_words m_values m_weights o H locs ls hf hP hD hS hl kk
    rw [lp_X4_insert_16] at hf
    refine lv_iload hx hb dX4_insert_16 (lv_at hl 4 rfl) ?_
    refine lv_if_le (tgt := 88) hx hb dX4_insert_18 (by decide) (fun hb1 => ?_) (fun hb1 => ?_)
    · replace hf := if_t hb1 hf
      have ho := so hf
      subst ho
      exact kk _ _ _ hP hD hS (lv_sub hl [0, 1, 2, 3, 4] rfl)
    · replace hf := if_f hb1 hf
      refine lv_aload_n hx hb dX4_insert_21 rfl (lv_at hl 0 rfl) ?_
      refine va_get (D := D) (ci := 4) (v := .ref a_weights) (C := RX4) (T := TX4) (N := 4) hx hb hts ly_X4_insert_X4 hown hK.1 hP 0 rfl rfl 2 (by decide) (hts (.fieldLink RX4 18 "ShorthandOutlines$Ranking" "weights" "[I") wd_X4_insert_1) (fun _ h9 => h9) rfl dX4_insert_22 ?_
      refine lv_iload hx hb dX4_insert_25 (lv_at hl 4 rfl) ?_
      refine lv_iconst (v := 1) hx hb dX4_insert_27 (by decide) ?_
      refine lv_isub hx hb dX4_insert_28 ?_
      have hi2 := gd_1 hf
      replace hf := gd_2 hf
      refine va_iald hx hb hK.1 hP 3 0 rfl rfl (inb_in hi2) dX4_insert_29 ?_
      refine lv_iload_n hx hb dX4_insert_30 rfl (lv_at hl 3 rfl) ?_
      refine lv_icmp_ge (tgt := 88) hx hb dX4_insert_31 (by decide) (fun hb3 => ?_) (fun hb3 => ?_)
      · replace hf := if_t hb3 hf
        have ho := so hf
        subst ho
        exact kk _ _ _ hP hD hS (lv_sub hl [0, 1, 2, 3, 4] rfl)
      · replace hf := if_f hb3 hf
        refine lv_aload_n hx hb dX4_insert_34 rfl (lv_at hl 0 rfl) ?_
        refine va_get (D := D) (ci := 4) (v := .ref a_words) (C := RX4) (T := TX4) (N := 4) hx hb hts ly_X4_insert_X4 hown hK.1 hP 0 rfl rfl 0 (by decide) (hts (.fieldLink RX4 9 "ShorthandOutlines$Ranking" "words" "[I") wd_X4_insert_2) (fun _ h9 => h9) rfl dX4_insert_35 ?_
        refine lv_iload hx hb dX4_insert_38 (lv_at hl 4 rfl) ?_
        refine lv_aload_n hx hb dX4_insert_40 rfl (lv_at hl 0 rfl) ?_
        refine va_get (D := D) (ci := 4) (v := .ref a_words) (C := RX4) (T := TX4) (N := 4) hx hb hts ly_X4_insert_X4 hown hK.1 hP 0 rfl rfl 0 (by decide) (hts (.fieldLink RX4 9 "ShorthandOutlines$Ranking" "words" "[I") wd_X4_insert_2) (fun _ h9 => h9) rfl dX4_insert_41 ?_
        refine lv_iload hx hb dX4_insert_44 (lv_at hl 4 rfl) ?_
        refine lv_iconst (v := 1) hx hb dX4_insert_46 (by decide) ?_
        refine lv_isub hx hb dX4_insert_47 ?_
        have hi4 := gd_1 hf
        replace hf := gd_2 hf
        refine va_iald hx hb hK.1 hP 1 0 rfl rfl (inb_in hi4) dX4_insert_48 ?_
        have hi5 := gd_1 hf
        replace hf := gd_2 hf
        refine va_iast hx hb hK.1 hP hD hS 1 0 rfl rfl (inb_in hi5) dX4_insert_49 (fun H locs hP hD hS => ?_)
        have hP : va_P D vwCl [(a_t, .inr (4, [.ref a_words, .ref a_values, .ref a_weights, .int v_size])), (a_words, .inl (cI, 12, .inl (upd m_words y4.toNatClampNeg (m_words (y4 - (1 : Int32)).toNatClampNeg)))), (a_values, .inl (cI, 12, .inl m_values)), (a_weights, .inl (cI, 12, .inl m_weights))] H := hP
        have hD : va_D A [(a_t, .inr (4, [.ref a_words, .ref a_values, .ref a_weights, .int v_size])), (a_words, .inl (cI, 12, .inl (upd m_words y4.toNatClampNeg (m_words (y4 - (1 : Int32)).toNatClampNeg)))), (a_values, .inl (cI, 12, .inl m_values)), (a_weights, .inl (cI, 12, .inl m_weights))] := hD
        refine lv_aload_n hx hb dX4_insert_50 rfl (lv_at hl 0 rfl) ?_
        refine va_get (D := D) (ci := 4) (v := .ref a_values) (C := RX4) (T := TX4) (N := 4) hx hb hts ly_X4_insert_X4 hown hK.1 hP 0 rfl rfl 1 (by decide) (hts (.fieldLink RX4 15 "ShorthandOutlines$Ranking" "values" "[I") wd_X4_insert_3) (fun _ h9 => h9) rfl dX4_insert_51 ?_
        refine lv_iload hx hb dX4_insert_54 (lv_at hl 4 rfl) ?_
        refine lv_aload_n hx hb dX4_insert_56 rfl (lv_at hl 0 rfl) ?_
        refine va_get (D := D) (ci := 4) (v := .ref a_values) (C := RX4) (T := TX4) (N := 4) hx hb hts ly_X4_insert_X4 hown hK.1 hP 0 rfl rfl 1 (by decide) (hts (.fieldLink RX4 15 "ShorthandOutlines$Ranking" "values" "[I") wd_X4_insert_3) (fun _ h9 => h9) rfl dX4_insert_57 ?_
        refine lv_iload hx hb dX4_insert_60 (lv_at hl 4 rfl) ?_
        refine lv_iconst (v := 1) hx hb dX4_insert_62 (by decide) ?_
        refine lv_isub hx hb dX4_insert_63 ?_
        have hi6 := gd_1 hf
        replace hf := gd_2 hf
        refine va_iald hx hb hK.1 hP 2 0 rfl rfl (inb_in hi6) dX4_insert_64 ?_
        have hi7 := gd_1 hf
        replace hf := gd_2 hf
        refine va_iast hx hb hK.1 hP hD hS 2 0 rfl rfl (inb_in hi7) dX4_insert_65 (fun H locs hP hD hS => ?_)
        have hP : va_P D vwCl [(a_t, .inr (4, [.ref a_words, .ref a_values, .ref a_weights, .int v_size])), (a_words, .inl (cI, 12, .inl (upd m_words y4.toNatClampNeg (m_words (y4 - (1 : Int32)).toNatClampNeg)))), (a_values, .inl (cI, 12, .inl (upd m_values y4.toNatClampNeg (m_values (y4 - (1 : Int32)).toNatClampNeg)))), (a_weights, .inl (cI, 12, .inl m_weights))] H := hP
        have hD : va_D A [(a_t, .inr (4, [.ref a_words, .ref a_values, .ref a_weights, .int v_size])), (a_words, .inl (cI, 12, .inl (upd m_words y4.toNatClampNeg (m_words (y4 - (1 : Int32)).toNatClampNeg)))), (a_values, .inl (cI, 12, .inl (upd m_values y4.toNatClampNeg (m_values (y4 - (1 : Int32)).toNatClampNeg)))), (a_weights, .inl (cI, 12, .inl m_weights))] := hD
        refine lv_aload_n hx hb dX4_insert_66 rfl (lv_at hl 0 rfl) ?_
        refine va_get (D := D) (ci := 4) (v := .ref a_weights) (C := RX4) (T := TX4) (N := 4) hx hb hts ly_X4_insert_X4 hown hK.1 hP 0 rfl rfl 2 (by decide) (hts (.fieldLink RX4 18 "ShorthandOutlines$Ranking" "weights" "[I") wd_X4_insert_1) (fun _ h9 => h9) rfl dX4_insert_67 ?_
        refine lv_iload hx hb dX4_insert_70 (lv_at hl 4 rfl) ?_
        refine lv_aload_n hx hb dX4_insert_72 rfl (lv_at hl 0 rfl) ?_
        refine va_get (D := D) (ci := 4) (v := .ref a_weights) (C := RX4) (T := TX4) (N := 4) hx hb hts ly_X4_insert_X4 hown hK.1 hP 0 rfl rfl 2 (by decide) (hts (.fieldLink RX4 18 "ShorthandOutlines$Ranking" "weights" "[I") wd_X4_insert_1) (fun _ h9 => h9) rfl dX4_insert_73 ?_
        refine lv_iload hx hb dX4_insert_76 (lv_at hl 4 rfl) ?_
        refine lv_iconst (v := 1) hx hb dX4_insert_78 (by decide) ?_
        refine lv_isub hx hb dX4_insert_79 ?_
        have hi8 := gd_1 hf
        replace hf := gd_2 hf
        refine va_iald hx hb hK.1 hP 3 0 rfl rfl (inb_in hi8) dX4_insert_80 ?_
        have hi9 := gd_1 hf
        replace hf := gd_2 hf
        refine va_iast hx hb hK.1 hP hD hS 3 0 rfl rfl (inb_in hi9) dX4_insert_81 (fun H locs hP hD hS => ?_)
        have hP : va_P D vwCl [(a_t, .inr (4, [.ref a_words, .ref a_values, .ref a_weights, .int v_size])), (a_words, .inl (cI, 12, .inl (upd m_words y4.toNatClampNeg (m_words (y4 - (1 : Int32)).toNatClampNeg)))), (a_values, .inl (cI, 12, .inl (upd m_values y4.toNatClampNeg (m_values (y4 - (1 : Int32)).toNatClampNeg)))), (a_weights, .inl (cI, 12, .inl (upd m_weights y4.toNatClampNeg (m_weights (y4 - (1 : Int32)).toNatClampNeg))))] H := hP
        have hD : va_D A [(a_t, .inr (4, [.ref a_words, .ref a_values, .ref a_weights, .int v_size])), (a_words, .inl (cI, 12, .inl (upd m_words y4.toNatClampNeg (m_words (y4 - (1 : Int32)).toNatClampNeg)))), (a_values, .inl (cI, 12, .inl (upd m_values y4.toNatClampNeg (m_values (y4 - (1 : Int32)).toNatClampNeg)))), (a_weights, .inl (cI, 12, .inl (upd m_weights y4.toNatClampNeg (m_weights (y4 - (1 : Int32)).toNatClampNeg))))] := hD
        refine lv_iinc (v := (y4 + (-1))) (lv' := [(4, .int (y4 + (-1))), (0, .ref a_t), (1, .int y1), (2, .int y2), (3, .int y3)]) hx hb dX4_insert_82 hl (k := 4) rfl rfl (by decide) rfl (fun ls hl => ?_)
        refine lv_goto (tgt := 16) hx hb dX4_insert_85 (by decide) ?_
        exact ih (y4 + (-1)) (upd m_words y4.toNatClampNeg (m_words (y4 - (1 : Int32)).toNatClampNeg)) (upd m_values y4.toNatClampNeg (m_values (y4 - (1 : Int32)).toNatClampNeg)) (upd m_weights y4.toNatClampNeg (m_weights (y4 - (1 : Int32)).toNatClampNeg)) o _ _ _ hf hP hD hS (lv_sub hl [1, 2, 3, 4, 0] rfl) kk
set_option maxHeartbeats 4000000 in
set_option maxRecDepth 100000 in
theorem kt_X4_insert (l : Launch) (D : va_G) (cI cZ cS : ClassId) (a_t : Nat) (a_words : Nat) (a_values : Nat) (a_weights : Nat) (v_size : Int32) (m_words : Nat → Int32) (m_values : Nat → Int32) (m_weights : Nat → Int32) (x1 : Int32) (x2 : Int32) (x3 : Int32) (o : Int32 × (Nat → Int32) × (Nat → Int32) × (Nat → Int32)) (hf : fn_X4_insert v_size m_words m_values m_weights x1 x2 x3 = some o) (sz : Nat) : Met l yX4_insert wsX4_insert rm_X4_insert (va_Pc [.ref a_t, .int x1, .int x2, .int x3] (gPre D cI cZ cS [(a_t, .inr (4, [.ref a_words, .ref a_values, .ref a_weights, .int v_size])), (a_words, .inl (cI, 12, .inl m_words)), (a_values, .inl (cI, 12, .inl m_values)), (a_weights, .inl (cI, 12, .inl m_weights))] sz)) (va_Qv (fun (_ : Unit) => True) (fun _ => gB D [(a_t, .inr (4, [.ref a_words, .ref a_values, .ref a_weights, .int o.1])), (a_words, .inl (cI, 12, .inl o.2.1)), (a_values, .inl (cI, 12, .inl o.2.2.1)), (a_weights, .inl (cI, 12, .inl o.2.2.2))] (va_A [(a_t, .inr (4, [.ref a_words, .ref a_values, .ref a_weights, .int v_size])), (a_words, .inl (cI, 12, .inl m_words)), (a_values, .inl (cI, 12, .inl m_values)), (a_weights, .inl (cI, 12, .inl m_weights))] sz)) (va_A [(a_t, .inr (4, [.ref a_words, .ref a_values, .ref a_weights, .int v_size])), (a_words, .inl (cI, 12, .inl m_words)), (a_values, .inl (cI, 12, .inl m_values)), (a_weights, .inl (cI, 12, .inl m_weights))] sz)) 0 0 (va_A [(a_t, .inr (4, [.ref a_words, .ref a_values, .ref a_weights, .int v_size])), (a_words, .inl (cI, 12, .inl m_words)), (a_values, .inl (cI, 12, .inl m_values)), (a_weights, .inl (cI, 12, .inl m_weights))] sz) := by
  refine g_entry (y := yX4_insert) (av := [.ref a_t, .int x1, .int x2, .int x3]) (wi := [(a_t, .inr (4, [.ref a_words, .ref a_values, .ref a_weights, .int v_size])), (a_words, .inl (cI, 12, .inl m_words)), (a_values, .inl (cI, 12, .inl m_values)), (a_weights, .inl (cI, 12, .inl m_weights))]) (Qc := fun A => va_Qv (fun (_ : Unit) => True) (fun _ => gB D [(a_t, .inr (4, [.ref a_words, .ref a_values, .ref a_weights, .int o.1])), (a_words, .inl (cI, 12, .inl o.2.1)), (a_values, .inl (cI, 12, .inl o.2.2.1)), (a_weights, .inl (cI, 12, .inl o.2.2.2))] A) A) (cc := cX4_insert) (maxL := 5) (ret := none) (by decide) rfl (Nat.le_of_ble_eq_true rfl) ?_ sz
  intro p e s m below meth c A ls Cx hP hD hS hl
  obtain ⟨hx, hb, hml, hr, hlk, hown, hin, hts, hK, hA⟩ := id Cx
  have hown : s.vm.findClass RX4 = some m.cls := hown
  have hl : lv_has ls 5 [(0, .ref a_t), (1, .int x1), (2, .int x2), (3, .int x3)] := hl
  unfold fn_X4_insert at hf
  refine lv_aload_n hx hb dX4_insert_0 rfl (lv_at hl 0 rfl) ?_
  refine va_get (D := D) (ci := 4) (v := .int v_size) (C := RX4) (T := TX4) (N := 4) hx hb hts ly_X4_insert_X4 hown hK.1 hP 0 rfl rfl 3 (by decide) (hts (.fieldLink RX4 21 "ShorthandOutlines$Ranking" "size" "I") wd_X4_insert_0) (fun _ h9 => h9) rfl dX4_insert_1 ?_
  refine lv_bipush (v := 12) hx hb dX4_insert_4 (by decide) ?_
  refine lv_icmp_lt (tgt := 10) hx hb dX4_insert_6 (by decide) (fun hb1 => ?_) (fun hb1 => ?_)
  · replace hf := if_t hb1 hf
    refine lv_aload_n hx hb dX4_insert_10 rfl (lv_at hl 0 rfl) ?_
    refine va_get (D := D) (ci := 4) (v := .int v_size) (C := RX4) (T := TX4) (N := 4) hx hb hts ly_X4_insert_X4 hown hK.1 hP 0 rfl rfl 3 (by decide) (hts (.fieldLink RX4 21 "ShorthandOutlines$Ranking" "size" "I") wd_X4_insert_0) (fun _ h9 => h9) rfl dX4_insert_11 ?_
    refine lv_istore (lv' := [(4, .int v_size), (0, .ref a_t), (1, .int x1), (2, .int x2), (3, .int x3)]) hx hb dX4_insert_14 hl (by decide) rfl (fun ls hl => ?_)
    obtain ⟨u1, hc2, hf⟩ := ob hf
    refine lt_X4_insert_16 Cx a_t a_words a_values a_weights v_size x1 x2 x3 1024 v_size m_words m_values m_weights u1 _ _ _ hc2 hP hD hS (lv_sub hl [1, 2, 3, 4, 0] rfl) (fun H locs ls hP hD hS hl => ?_)
    have hP : va_P D vwCl [(a_t, .inr (4, [.ref a_words, .ref a_values, .ref a_weights, .int v_size])), (a_words, .inl (cI, 12, .inl u1.2.1)), (a_values, .inl (cI, 12, .inl u1.2.2.1)), (a_weights, .inl (cI, 12, .inl u1.2.2.2))] H := hP
    have hD : va_D A [(a_t, .inr (4, [.ref a_words, .ref a_values, .ref a_weights, .int v_size])), (a_words, .inl (cI, 12, .inl u1.2.1)), (a_values, .inl (cI, 12, .inl u1.2.2.1)), (a_weights, .inl (cI, 12, .inl u1.2.2.2))] := hD
    have hl : lv_has ls 5 [(0, .ref a_t), (1, .int x1), (2, .int x2), (3, .int x3), (4, .int u1.1)] := hl
    refine lv_aload_n hx hb dX4_insert_88 rfl (lv_at hl 0 rfl) ?_
    refine va_get (D := D) (ci := 4) (v := .ref a_words) (C := RX4) (T := TX4) (N := 4) hx hb hts ly_X4_insert_X4 hown hK.1 hP 0 rfl rfl 0 (by decide) (hts (.fieldLink RX4 9 "ShorthandOutlines$Ranking" "words" "[I") wd_X4_insert_2) (fun _ h9 => h9) rfl dX4_insert_89 ?_
    refine lv_iload hx hb dX4_insert_92 (lv_at hl 4 rfl) ?_
    refine lv_iload_n hx hb dX4_insert_94 rfl (lv_at hl 1 rfl) ?_
    have hi3 := gd_1 hf
    replace hf := gd_2 hf
    refine va_iast hx hb hK.1 hP hD hS 1 0 rfl rfl (inb_in hi3) dX4_insert_95 (fun H locs hP hD hS => ?_)
    have hP : va_P D vwCl [(a_t, .inr (4, [.ref a_words, .ref a_values, .ref a_weights, .int v_size])), (a_words, .inl (cI, 12, .inl (upd u1.2.1 (u1.1).toNatClampNeg x1))), (a_values, .inl (cI, 12, .inl u1.2.2.1)), (a_weights, .inl (cI, 12, .inl u1.2.2.2))] H := hP
    have hD : va_D A [(a_t, .inr (4, [.ref a_words, .ref a_values, .ref a_weights, .int v_size])), (a_words, .inl (cI, 12, .inl (upd u1.2.1 (u1.1).toNatClampNeg x1))), (a_values, .inl (cI, 12, .inl u1.2.2.1)), (a_weights, .inl (cI, 12, .inl u1.2.2.2))] := hD
    refine lv_aload_n hx hb dX4_insert_96 rfl (lv_at hl 0 rfl) ?_
    refine va_get (D := D) (ci := 4) (v := .ref a_values) (C := RX4) (T := TX4) (N := 4) hx hb hts ly_X4_insert_X4 hown hK.1 hP 0 rfl rfl 1 (by decide) (hts (.fieldLink RX4 15 "ShorthandOutlines$Ranking" "values" "[I") wd_X4_insert_3) (fun _ h9 => h9) rfl dX4_insert_97 ?_
    refine lv_iload hx hb dX4_insert_100 (lv_at hl 4 rfl) ?_
    refine lv_iload_n hx hb dX4_insert_102 rfl (lv_at hl 2 rfl) ?_
    have hi4 := gd_1 hf
    replace hf := gd_2 hf
    refine va_iast hx hb hK.1 hP hD hS 2 0 rfl rfl (inb_in hi4) dX4_insert_103 (fun H locs hP hD hS => ?_)
    have hP : va_P D vwCl [(a_t, .inr (4, [.ref a_words, .ref a_values, .ref a_weights, .int v_size])), (a_words, .inl (cI, 12, .inl (upd u1.2.1 (u1.1).toNatClampNeg x1))), (a_values, .inl (cI, 12, .inl (upd u1.2.2.1 (u1.1).toNatClampNeg x2))), (a_weights, .inl (cI, 12, .inl u1.2.2.2))] H := hP
    have hD : va_D A [(a_t, .inr (4, [.ref a_words, .ref a_values, .ref a_weights, .int v_size])), (a_words, .inl (cI, 12, .inl (upd u1.2.1 (u1.1).toNatClampNeg x1))), (a_values, .inl (cI, 12, .inl (upd u1.2.2.1 (u1.1).toNatClampNeg x2))), (a_weights, .inl (cI, 12, .inl u1.2.2.2))] := hD
    refine lv_aload_n hx hb dX4_insert_104 rfl (lv_at hl 0 rfl) ?_
    refine va_get (D := D) (ci := 4) (v := .ref a_weights) (C := RX4) (T := TX4) (N := 4) hx hb hts ly_X4_insert_X4 hown hK.1 hP 0 rfl rfl 2 (by decide) (hts (.fieldLink RX4 18 "ShorthandOutlines$Ranking" "weights" "[I") wd_X4_insert_1) (fun _ h9 => h9) rfl dX4_insert_105 ?_
    refine lv_iload hx hb dX4_insert_108 (lv_at hl 4 rfl) ?_
    refine lv_iload_n hx hb dX4_insert_110 rfl (lv_at hl 3 rfl) ?_
    have hi5 := gd_1 hf
    replace hf := gd_2 hf
    refine va_iast hx hb hK.1 hP hD hS 3 0 rfl rfl (inb_in hi5) dX4_insert_111 (fun H locs hP hD hS => ?_)
    have hP : va_P D vwCl [(a_t, .inr (4, [.ref a_words, .ref a_values, .ref a_weights, .int v_size])), (a_words, .inl (cI, 12, .inl (upd u1.2.1 (u1.1).toNatClampNeg x1))), (a_values, .inl (cI, 12, .inl (upd u1.2.2.1 (u1.1).toNatClampNeg x2))), (a_weights, .inl (cI, 12, .inl (upd u1.2.2.2 (u1.1).toNatClampNeg x3)))] H := hP
    have hD : va_D A [(a_t, .inr (4, [.ref a_words, .ref a_values, .ref a_weights, .int v_size])), (a_words, .inl (cI, 12, .inl (upd u1.2.1 (u1.1).toNatClampNeg x1))), (a_values, .inl (cI, 12, .inl (upd u1.2.2.1 (u1.1).toNatClampNeg x2))), (a_weights, .inl (cI, 12, .inl (upd u1.2.2.2 (u1.1).toNatClampNeg x3)))] := hD
    refine lv_aload_n hx hb dX4_insert_112 rfl (lv_at hl 0 rfl) ?_
    refine lv_dup hx hb dX4_insert_113 rfl ?_
    refine va_get (D := D) (ci := 4) (v := .int v_size) (C := RX4) (T := TX4) (N := 4) hx hb hts ly_X4_insert_X4 hown hK.1 hP 0 rfl rfl 3 (by decide) (hts (.fieldLink RX4 21 "ShorthandOutlines$Ranking" "size" "I") wd_X4_insert_0) (fun _ h9 => h9) rfl dX4_insert_114 ?_
    refine lv_iconst (v := 1) hx hb dX4_insert_117 (by decide) ?_
    refine lv_iadd hx hb dX4_insert_118 ?_
    refine va_put (D := D) (ci := 4) (v := .int (v_size + (1 : Int32))) (ty := .int) (C := RX4) (T := TX4) (N := 4) hx hb hts ly_X4_insert_X4 tyX4 tyX4_ok nmX4 hown hK.1 hP hD hS 0 rfl rfl 3 (by decide) (hts (.fieldLink RX4 21 "ShorthandOutlines$Ranking" "size" "I") wd_X4_insert_0) (fun _ h9 => h9) rfl (by decide +kernel) rfl rfl (Nat.le_of_ble_eq_true rfl) dX4_insert_119 (fun H locs hP hD hS => ?_)
    have hP : va_P D vwCl [(a_t, .inr (4, [.ref a_words, .ref a_values, .ref a_weights, .int (v_size + (1 : Int32))])), (a_words, .inl (cI, 12, .inl (upd u1.2.1 (u1.1).toNatClampNeg x1))), (a_values, .inl (cI, 12, .inl (upd u1.2.2.1 (u1.1).toNatClampNeg x2))), (a_weights, .inl (cI, 12, .inl (upd u1.2.2.2 (u1.1).toNatClampNeg x3)))] H := hP
    have hD : va_D A [(a_t, .inr (4, [.ref a_words, .ref a_values, .ref a_weights, .int (v_size + (1 : Int32))])), (a_words, .inl (cI, 12, .inl (upd u1.2.1 (u1.1).toNatClampNeg x1))), (a_values, .inl (cI, 12, .inl (upd u1.2.2.1 (u1.1).toNatClampNeg x2))), (a_weights, .inl (cI, 12, .inl (upd u1.2.2.2 (u1.1).toNatClampNeg x3)))] := hD
    have ho := so hf
    subst ho
    exact g_vret hx hb hr hlk hP hD hS dX4_insert_122
  · replace hf := if_f hb1 hf
    have ho := so hf
    subst ho
    exact g_vret hx hb hr hlk hP hD hS dX4_insert_9

theorem sg_X4_sizeOrWord : yX4_sizeOrWord.cls = RX4 ∧ yX4_sizeOrWord.cls ≠ "java/lang/invoke/MethodHandle" ∧ yX4_sizeOrWord.cls ≠ "java/lang/invoke/VarHandle" ∧ (parseMethodDescriptor yX4_sizeOrWord.desc).map (fun d => d.parameters.length) = some 1 := by decide +kernel
abbrev rm_X4_sizeOrWord : Room := { frames := 0, cells := 0, slots := 0, locals := 0 }
theorem wd_X4_sizeOrWord_0 : (.fieldLink RX4 21 "ShorthandOutlines$Ranking" "size" "I" : Cond) ∈ wsX4_sizeOrWord := by decide +kernel
theorem wd_X4_sizeOrWord_1 : (.fieldLink RX4 9 "ShorthandOutlines$Ranking" "words" "[I" : Cond) ∈ wsX4_sizeOrWord := by decide +kernel
theorem ly_X4_sizeOrWord_X4 : ∀ w ∈ u_ws RX4 TX4 4, w ∈ wsX4_sizeOrWord := by decide +kernel
set_option maxHeartbeats 4000000 in
set_option maxRecDepth 100000 in
theorem kt_X4_sizeOrWord (l : Launch) (D : va_G) (cI cZ cS : ClassId) (a_t : Nat) (a_words : Nat) (a_values : Nat) (a_weights : Nat) (v_size : Int32) (m_words : Nat → Int32) (x1 : Int32) (o : Int32) (hf : fn_X4_sizeOrWord v_size m_words x1 = some o) (sz : Nat) : Met l yX4_sizeOrWord wsX4_sizeOrWord rm_X4_sizeOrWord (va_Pc [.ref a_t, .int x1] (gPre D cI cZ cS [(a_t, .inr (4, [.ref a_words, .ref a_values, .ref a_weights, .int v_size])), (a_words, .inl (cI, 12, .inl m_words))] sz)) (va_Qi (fun r (_ : Unit) => r = o) (fun _ => gB D [(a_t, .inr (4, [.ref a_words, .ref a_values, .ref a_weights, .int v_size])), (a_words, .inl (cI, 12, .inl m_words))] (va_A [(a_t, .inr (4, [.ref a_words, .ref a_values, .ref a_weights, .int v_size])), (a_words, .inl (cI, 12, .inl m_words))] sz)) (va_A [(a_t, .inr (4, [.ref a_words, .ref a_values, .ref a_weights, .int v_size])), (a_words, .inl (cI, 12, .inl m_words))] sz)) 0 0 (va_A [(a_t, .inr (4, [.ref a_words, .ref a_values, .ref a_weights, .int v_size])), (a_words, .inl (cI, 12, .inl m_words))] sz) := by
  refine g_entry (y := yX4_sizeOrWord) (av := [.ref a_t, .int x1]) (wi := [(a_t, .inr (4, [.ref a_words, .ref a_values, .ref a_weights, .int v_size])), (a_words, .inl (cI, 12, .inl m_words))]) (Qc := fun A => va_Qi (fun r (_ : Unit) => r = o) (fun _ => gB D [(a_t, .inr (4, [.ref a_words, .ref a_values, .ref a_weights, .int v_size])), (a_words, .inl (cI, 12, .inl m_words))] A) A) (cc := cX4_sizeOrWord) (maxL := 2) (ret := (some .int)) (by decide) rfl (Nat.le_of_ble_eq_true rfl) ?_ sz
  intro p e s m below meth c A ls Cx hP hD hS hl
  obtain ⟨hx, hb, hml, hr, hlk, hown, hin, hts, hK, hA⟩ := id Cx
  have hown : s.vm.findClass RX4 = some m.cls := hown
  have hl : lv_has ls 2 [(0, .ref a_t), (1, .int x1)] := hl
  unfold fn_X4_sizeOrWord at hf
  refine lv_iload_n hx hb dX4_sizeOrWord_0 rfl (lv_at hl 1 rfl) ?_
  refine lv_iconst (v := -1) hx hb dX4_sizeOrWord_1 (by decide) ?_
  refine lv_icmp_ne (tgt := 10) hx hb dX4_sizeOrWord_2 (by decide) (fun hb1 => ?_) (fun hb1 => ?_)
  · replace hf := if_f hb1 hf
    refine lv_iload_n hx hb dX4_sizeOrWord_10 rfl (lv_at hl 1 rfl) ?_
    refine lv_if_lt (tgt := 31) hx hb dX4_sizeOrWord_11 (by decide) (fun hb2 => ?_) (fun hb2 => ?_)
    · replace hf := if_t hb2 hf
      refine lv_iconst (v := -1) hx hb dX4_sizeOrWord_31 (by decide) ?_
      have ho := so hf
      subst ho
      exact g_iret (v := (-1 : Int32)) hx hb hr hlk hP hD hS dX4_sizeOrWord_32
    · replace hf := if_f hb2 hf
      refine lv_iload_n hx hb dX4_sizeOrWord_14 rfl (lv_at hl 1 rfl) ?_
      refine lv_aload_n hx hb dX4_sizeOrWord_15 rfl (lv_at hl 0 rfl) ?_
      refine va_get (D := D) (ci := 4) (v := .int v_size) (C := RX4) (T := TX4) (N := 4) hx hb hts ly_X4_sizeOrWord_X4 hown hK.1 hP 0 rfl rfl 3 (by decide) (hts (.fieldLink RX4 21 "ShorthandOutlines$Ranking" "size" "I") wd_X4_sizeOrWord_0) (fun _ h9 => h9) rfl dX4_sizeOrWord_16 ?_
      refine lv_icmp_ge (tgt := 31) hx hb dX4_sizeOrWord_19 (by decide) (fun hb3 => ?_) (fun hb3 => ?_)
      · replace hf := if_t hb3 hf
        refine lv_iconst (v := -1) hx hb dX4_sizeOrWord_31 (by decide) ?_
        have ho := so hf
        subst ho
        exact g_iret (v := (-1 : Int32)) hx hb hr hlk hP hD hS dX4_sizeOrWord_32
      · replace hf := if_f hb3 hf
        refine lv_aload_n hx hb dX4_sizeOrWord_22 rfl (lv_at hl 0 rfl) ?_
        refine va_get (D := D) (ci := 4) (v := .ref a_words) (C := RX4) (T := TX4) (N := 4) hx hb hts ly_X4_sizeOrWord_X4 hown hK.1 hP 0 rfl rfl 0 (by decide) (hts (.fieldLink RX4 9 "ShorthandOutlines$Ranking" "words" "[I") wd_X4_sizeOrWord_1) (fun _ h9 => h9) rfl dX4_sizeOrWord_23 ?_
        refine lv_iload_n hx hb dX4_sizeOrWord_26 rfl (lv_at hl 1 rfl) ?_
        have hi4 := gd_1 hf
        replace hf := gd_2 hf
        refine va_iald hx hb hK.1 hP 1 0 rfl rfl (inb_in hi4) dX4_sizeOrWord_27 ?_
        refine lv_goto (tgt := 32) hx hb dX4_sizeOrWord_28 (by decide) ?_
        have ho := so hf
        subst ho
        exact g_iret (v := (m_words x1.toNatClampNeg)) hx hb hr hlk hP hD hS dX4_sizeOrWord_32
  · replace hf := if_t hb1 hf
    refine lv_aload_n hx hb dX4_sizeOrWord_5 rfl (lv_at hl 0 rfl) ?_
    refine va_get (D := D) (ci := 4) (v := .int v_size) (C := RX4) (T := TX4) (N := 4) hx hb hts ly_X4_sizeOrWord_X4 hown hK.1 hP 0 rfl rfl 3 (by decide) (hts (.fieldLink RX4 21 "ShorthandOutlines$Ranking" "size" "I") wd_X4_sizeOrWord_0) (fun _ h9 => h9) rfl dX4_sizeOrWord_6 ?_
    have ho := so hf
    subst ho
    exact g_iret (v := v_size) hx hb hr hlk hP hD hS dX4_sizeOrWord_9

theorem sg_X4_valueAt : yX4_valueAt.cls = RX4 ∧ yX4_valueAt.cls ≠ "java/lang/invoke/MethodHandle" ∧ yX4_valueAt.cls ≠ "java/lang/invoke/VarHandle" ∧ (parseMethodDescriptor yX4_valueAt.desc).map (fun d => d.parameters.length) = some 1 := by decide +kernel
abbrev rm_X4_valueAt : Room := { frames := 0, cells := 0, slots := 0, locals := 0 }
theorem wd_X4_valueAt_0 : (.fieldLink RX4 21 "ShorthandOutlines$Ranking" "size" "I" : Cond) ∈ wsX4_valueAt := by decide +kernel
theorem wd_X4_valueAt_1 : (.fieldLink RX4 15 "ShorthandOutlines$Ranking" "values" "[I" : Cond) ∈ wsX4_valueAt := by decide +kernel
theorem ly_X4_valueAt_X4 : ∀ w ∈ u_ws RX4 TX4 4, w ∈ wsX4_valueAt := by decide +kernel
set_option maxHeartbeats 4000000 in
set_option maxRecDepth 100000 in
theorem kt_X4_valueAt (l : Launch) (D : va_G) (cI cZ cS : ClassId) (a_t : Nat) (a_values : Nat) (a_words : Nat) (a_weights : Nat) (v_size : Int32) (m_values : Nat → Int32) (x1 : Int32) (o : Int32) (hf : fn_X4_valueAt v_size m_values x1 = some o) (sz : Nat) : Met l yX4_valueAt wsX4_valueAt rm_X4_valueAt (va_Pc [.ref a_t, .int x1] (gPre D cI cZ cS [(a_t, .inr (4, [.ref a_words, .ref a_values, .ref a_weights, .int v_size])), (a_values, .inl (cI, 12, .inl m_values))] sz)) (va_Qi (fun r (_ : Unit) => r = o) (fun _ => gB D [(a_t, .inr (4, [.ref a_words, .ref a_values, .ref a_weights, .int v_size])), (a_values, .inl (cI, 12, .inl m_values))] (va_A [(a_t, .inr (4, [.ref a_words, .ref a_values, .ref a_weights, .int v_size])), (a_values, .inl (cI, 12, .inl m_values))] sz)) (va_A [(a_t, .inr (4, [.ref a_words, .ref a_values, .ref a_weights, .int v_size])), (a_values, .inl (cI, 12, .inl m_values))] sz)) 0 0 (va_A [(a_t, .inr (4, [.ref a_words, .ref a_values, .ref a_weights, .int v_size])), (a_values, .inl (cI, 12, .inl m_values))] sz) := by
  refine g_entry (y := yX4_valueAt) (av := [.ref a_t, .int x1]) (wi := [(a_t, .inr (4, [.ref a_words, .ref a_values, .ref a_weights, .int v_size])), (a_values, .inl (cI, 12, .inl m_values))]) (Qc := fun A => va_Qi (fun r (_ : Unit) => r = o) (fun _ => gB D [(a_t, .inr (4, [.ref a_words, .ref a_values, .ref a_weights, .int v_size])), (a_values, .inl (cI, 12, .inl m_values))] A) A) (cc := cX4_valueAt) (maxL := 2) (ret := (some .int)) (by decide) rfl (Nat.le_of_ble_eq_true rfl) ?_ sz
  intro p e s m below meth c A ls Cx hP hD hS hl
  obtain ⟨hx, hb, hml, hr, hlk, hown, hin, hts, hK, hA⟩ := id Cx
  have hown : s.vm.findClass RX4 = some m.cls := hown
  have hl : lv_has ls 2 [(0, .ref a_t), (1, .int x1)] := hl
  unfold fn_X4_valueAt at hf
  refine lv_iload_n hx hb dX4_valueAt_0 rfl (lv_at hl 1 rfl) ?_
  refine lv_if_lt (tgt := 21) hx hb dX4_valueAt_1 (by decide) (fun hb1 => ?_) (fun hb1 => ?_)
  · replace hf := if_t hb1 hf
    refine lv_iconst (v := -1) hx hb dX4_valueAt_21 (by decide) ?_
    have ho := so hf
    subst ho
    exact g_iret (v := (-1 : Int32)) hx hb hr hlk hP hD hS dX4_valueAt_22
  · replace hf := if_f hb1 hf
    refine lv_iload_n hx hb dX4_valueAt_4 rfl (lv_at hl 1 rfl) ?_
    refine lv_aload_n hx hb dX4_valueAt_5 rfl (lv_at hl 0 rfl) ?_
    refine va_get (D := D) (ci := 4) (v := .int v_size) (C := RX4) (T := TX4) (N := 4) hx hb hts ly_X4_valueAt_X4 hown hK.1 hP 0 rfl rfl 3 (by decide) (hts (.fieldLink RX4 21 "ShorthandOutlines$Ranking" "size" "I") wd_X4_valueAt_0) (fun _ h9 => h9) rfl dX4_valueAt_6 ?_
    refine lv_icmp_ge (tgt := 21) hx hb dX4_valueAt_9 (by decide) (fun hb2 => ?_) (fun hb2 => ?_)
    · replace hf := if_t hb2 hf
      refine lv_iconst (v := -1) hx hb dX4_valueAt_21 (by decide) ?_
      have ho := so hf
      subst ho
      exact g_iret (v := (-1 : Int32)) hx hb hr hlk hP hD hS dX4_valueAt_22
    · replace hf := if_f hb2 hf
      refine lv_aload_n hx hb dX4_valueAt_12 rfl (lv_at hl 0 rfl) ?_
      refine va_get (D := D) (ci := 4) (v := .ref a_values) (C := RX4) (T := TX4) (N := 4) hx hb hts ly_X4_valueAt_X4 hown hK.1 hP 0 rfl rfl 1 (by decide) (hts (.fieldLink RX4 15 "ShorthandOutlines$Ranking" "values" "[I") wd_X4_valueAt_1) (fun _ h9 => h9) rfl dX4_valueAt_13 ?_
      refine lv_iload_n hx hb dX4_valueAt_16 rfl (lv_at hl 1 rfl) ?_
      have hi3 := gd_1 hf
      replace hf := gd_2 hf
      refine va_iald hx hb hK.1 hP 1 0 rfl rfl (inb_in hi3) dX4_valueAt_17 ?_
      refine lv_goto (tgt := 22) hx hb dX4_valueAt_18 (by decide) ?_
      have ho := so hf
      subst ho
      exact g_iret (v := (m_values x1.toNatClampNeg)) hx hb hr hlk hP hD hS dX4_valueAt_22
