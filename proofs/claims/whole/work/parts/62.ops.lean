/-! the answers of the calls that leave the dictionary as it is -/
def bump (E : Nat → Int32) (i : Nat) : Nat → Int32 := upd E i (E i + 1)
theorem fl2 (E : Nat → Int32) : fn_X6_fail E (-2) = some (-2, bump E 0) := by
  unfold fn_X6_fail
  rw [if_neg (by decide), if_neg (by decide)]
  rfl
theorem fl3 (E : Nat → Int32) : fn_X6_fail E (-3) = some (-3, bump E 1) := by
  unfold fn_X6_fail
  rw [if_neg (by decide), if_neg (by decide)]
  rfl
theorem fl4 (E : Nat → Int32) : fn_X6_fail E (-4) = some (-4, bump E 2) := by
  unfold fn_X6_fail
  rw [if_neg (by decide), if_neg (by decide)]
  rfl
theorem fl5 (E : Nat → Int32) : fn_X6_fail E (-5) = some (-5, bump E 3) := by
  unfold fn_X6_fail
  rw [if_neg (by decide), if_neg (by decide)]
  rfl
theorem ml2 (E : Nat → Int32) : fn_X7_fails E (-2) = some (-2, bump E 0) := rfl
theorem ml3 (E : Nat → Int32) : fn_X7_fails E (-3) = some (-3, bump E 1) := rfl
theorem ml4 (E : Nat → Int32) : fn_X7_fails E (-4) = some (-4, bump E 2) := rfl
theorem ml5 (E : Nat → Int32) : fn_X7_fails E (-5) = some (-5, bump E 3) := rfl
theorem isw {N : Nat → Int32} (h : WF N) (x : Int32) : (∃ w, w < cn N ∧ x = nI w ∧ fn_X5_hasWord (N 17) x = some 1 ∧ fn_X7_isWord N x = some 1) ∨ (fn_X5_hasWord (N 17) x = some 0 ∧ fn_X7_isWord N x = some 0) := by
  have h12 := h.1.2
  unfold fn_X5_hasWord fn_X7_isWord fn_X7_within
  rw [show (17 : Int32).toNatClampNeg = 17 from rfl, h.1.1]
  by_cases h0 : x < 0
  · exact Or.inr ⟨by rw [if_pos h0], by rw [if_pos h0]; rfl⟩
  · rcases pk_ix x (n := cn N) (by omega) with q | q | ⟨w, hw, rfl⟩
    · exact absurd q h0
    · refine Or.inr ⟨by rw [if_neg h0, if_pos q], ?_⟩
      have : nI (cn N) - 1 < x := by
        rw [Int32.lt_iff_toInt_lt]
        have h1 := Int32.le_iff_toInt_le.mp q
        rw [nI_toInt (by omega)] at h1
        rw [l1, pk_sub_toInt (by omega) (by omega)]
        omega
      rw [if_neg h0, if_pos this]
      rfl
    · refine Or.inl ⟨w, hw, rfl, by rw [if_neg h0, if_neg (nI_ge hw (by omega))], ?_⟩
      rw [if_neg h0, l1, pk_sub (by omega), if_neg (nI_nlt (by omega) (by omega))]
      rfl
theorem iss (x : Int32) : (∃ a, a < 24 ∧ x = nI a ∧ fn_X6_isStroke x = some 1 ∧ fn_X7_isCode x = some 1) ∨ (fn_X6_isStroke x = some 0 ∧ fn_X7_isCode x = some 0) := by
  unfold fn_X6_isStroke fn_X7_isCode fn_X7_within
  by_cases h0 : x < 0
  · exact Or.inr ⟨by rw [if_pos h0], by rw [if_pos h0]; rfl⟩
  · rcases pk_ix x (n := 24) (by omega) with q | q | ⟨w, hw, rfl⟩
    · exact absurd q h0
    · refine Or.inr ⟨by rw [if_neg h0, if_pos (show (24 : Int32) ≤ x from q)], ?_⟩
      have : (23 : Int32) < x := by
        rw [Int32.lt_iff_toInt_lt]
        have h1 := Int32.le_iff_toInt_le.mp q
        rw [nI_toInt (by omega)] at h1
        have : (23 : Int32).toInt = 23 := by decide
        omega
      rw [if_neg h0, if_pos this]
      rfl
    · refine Or.inl ⟨w, hw, rfl, by rw [if_neg h0, l24, if_neg (nI_ge hw (by omega))], ?_⟩
      rw [if_neg h0, show (23 : Int32) = nI 23 from rfl, if_neg (nI_nlt (by omega) (by omega))]
      rfl
theorem stroke_at {N : Nat → Int32} {w j : Nat} (h : WF N) (hW : WFw N w) (hj : j < (wl N w).length) (m : Nat → Int32) (hm : HM N w m) : ∃ y, (ptop (chs N w))[j]? = some y ∧ y < 24 ∧ fn_X7_strokeOf (nI (wl N w).length) N m (nI (btop (chs N w))) (nI j) = some (nI y) := by
  have hl := wl_len hW
  have e := chs_len N w
  obtain ⟨g1, g2⟩ := ptop_ys (chs N w)
  have hb := btop_lt (chs N w)
  have hp := pw8 (n := (chs N w).length) (by omega)
  obtain ⟨x, hx⟩ := at_lt (L := xs (btop (chs N w)) (chs N w)) (j := j) (by rw [xs_len]; omega)
  obtain ⟨y, rfl, h2, h3⟩ := ys_at _ (chs_ok h hW) g2 j x hx
  refine ⟨y, by rw [← g1]; exact h2, h3, ?_⟩
  rw [m_strokeOf h hW hm (by omega) hx]
  rfl
theorem ptop_len (L : List (Nat × Option Nat)) : (ptop L).length = L.length := by rw [← (ptop_ys L).1, ys_len]
theorem m_costb {N : Nat → Int32} {w : Nat} (h : WF N) (hW : WFw N w) (m : Nat → Int32) (hm : HM N w m) : fn_X7_costOf (nI (wl N w).length) N m (nI (btop (chs N w))) = some (nI (rtop (chs N w))) := by
  have hl := wl_len hW
  have e := chs_len N w
  obtain ⟨g1, g2⟩ := ptop_ys (chs N w)
  have hb := btop_lt (chs N w)
  have hp := pw8 (n := (chs N w).length) (by omega)
  rw [m_cost h hW hm (by omega) g2, g1, cst_ptop]
theorem put_row {l : List Int32} {F : Nat → Int32} {j : Nat} {x : Int32} (h : l[j]? = some x) : putL F 0 l j = x := by
  have := putL_at l F 0 j x h
  rwa [Nat.zero_add] at this
theorem ge_m1 {x : Int32} (h1 : (-1 : Int32) ≤ x) (h2 : ¬ x = -1) : ¬ x < 0 := by
  intro h3
  have a := Int32.le_iff_toInt_le.mp h1
  have b := Int32.lt_iff_toInt_lt.mp h3
  have e1 : (-1 : Int32).toInt = -1 := by decide
  have e2 : (0 : Int32).toInt = 0 := by decide
  exact h2 (Int32.toInt_inj.mp (by omega))
theorem op_append {N : Nat → Int32} {hc : Int32} {G0 : GT} {G1 : GT} {G2 : GT} {G3 : GT} {G4 : GT} {pa : Nat → Int32} {tl : Int32} {P : Nat → Int32} {pl : Int32} (h : INVQ N hc G0 G1 G2 G3 G4 pa tl P pl) (E : Nat → Int32) (T : Nat → Int32) (x1 : Int32) : ∃ (r : Int32) (tl' : Int32) (T' : Nat → Int32) (E' : Nat → Int32), fn_X6_append tl T E x1 = some (r, tl', T', E') ∧ fn_X7_append tl E T x1 = some (r, tl', E', T') ∧ INVP N (vF N) (vE N) (N 0) (N 17) (vS N) (vL N) (vQ N) (vB N) hc G0 G1 G2 G3 G4 pa tl' P pl := by
  obtain ⟨a, ha, rfl⟩ := h.2.2.1
  by_cases h0 : x1 < 0
  · refine ⟨-2, nI a, T, bump E 0, ?_, ?_, SR_self N, h⟩
    · unfold fn_X6_append
      rw [if_pos h0, fl2, obs]
    · unfold fn_X7_append fn_X7_within
      rw [if_pos h0, obs, if_pos rfl, ml2, obs]
  · by_cases h1 : x1 ≤ (127 : Int32)
    · by_cases h8 : a = 8
      · subst h8
        refine ⟨-4, nI 8, T, bump E 2, ?_, ?_, SR_self N, h⟩
        · unfold fn_X6_append
          rw [if_neg h0, if_pos h1, if_neg (by decide), fl4, obs]
        · unfold fn_X7_append fn_X7_within
          rw [if_neg h0, if_neg (Int32.not_lt.mpr h1), obs, if_neg (by decide), if_pos (show nI 8 = 8 from rfl), ml4, obs]
      · refine ⟨nI (a + 1), nI (a + 1), upd T a x1, E, ?_, ?_, SR_self N, h.1, h.2.1, ⟨a + 1, by omega, rfl⟩, h.2.2.2⟩
        · unfold fn_X6_append
          rw [if_neg h0, if_pos h1, if_pos (show nI a < 8 by rw [l8]; exact nI_lt (by omega) (by omega)), gin (by omega) (by omega), nI_clamp (by omega), nI_1]
        · unfold fn_X7_append fn_X7_within
          rw [if_neg h0, if_neg (Int32.not_lt.mpr h1), obs, if_neg (by decide), if_neg (show ¬ nI a = 8 by rw [l8, nI_eq (by omega) (by omega)]; exact h8), gin (by omega) (by omega), nI_clamp (by omega), nI_1]
    · refine ⟨-2, nI a, T, bump E 0, ?_, ?_, SR_self N, h⟩
      · unfold fn_X6_append
        rw [if_neg h0, if_neg h1, fl2, obs]
      · unfold fn_X7_append fn_X7_within
        rw [if_neg h0, if_pos (Int32.not_le.mp h1), obs, if_pos rfl, ml2, obs]
theorem op_clearText {N : Nat → Int32} {hc : Int32} {G0 : GT} {G1 : GT} {G2 : GT} {G3 : GT} {G4 : GT} {pa : Nat → Int32} {tl : Int32} {P : Nat → Int32} {pl : Int32} (h : INVQ N hc G0 G1 G2 G3 G4 pa tl P pl) : ∃ (r : Int32) (tl' : Int32), fn_X6_clearText tl = some (r, tl') ∧ fn_X7_clearText tl = some (r, tl') ∧ INVP N (vF N) (vE N) (N 0) (N 17) (vS N) (vL N) (vQ N) (vB N) hc G0 G1 G2 G3 G4 pa tl' P pl := by
  refine ⟨tl, 0, rfl, rfl, SR_self N, h.1, h.2.1, ⟨0, by omega, rfl⟩, h.2.2.2⟩
theorem op_words {N : Nat → Int32} {hc : Int32} {G0 : GT} {G1 : GT} {G2 : GT} {G3 : GT} {G4 : GT} {pa : Nat → Int32} {tl : Int32} {P : Nat → Int32} {pl : Int32} (h : INVQ N hc G0 G1 G2 G3 G4 pa tl P pl) : ∃ (r : Int32), fn_X6_words (N 17) = some r ∧ fn_X7_words N = some r ∧ INVP N (vF N) (vE N) (N 0) (N 17) (vS N) (vL N) (vQ N) (vB N) hc G0 G1 G2 G3 G4 pa tl P pl := by
  exact ⟨N 17, rfl, rfl, SR_self N, h⟩
theorem op_letters {N : Nat → Int32} {hc : Int32} {G0 : GT} {G1 : GT} {G2 : GT} {G3 : GT} {G4 : GT} {pa : Nat → Int32} {tl : Int32} {P : Nat → Int32} {pl : Int32} (h : INVQ N hc G0 G1 G2 G3 G4 pa tl P pl) (E : Nat → Int32) (x1 : Int32) : ∃ (r : Int32) (E' : Nat → Int32), fn_X6_letters (N 17) (vL N) E x1 = some (r, E') ∧ fn_X7_letters N E x1 = some (r, E') ∧ INVP N (vF N) (vE N) (N 0) (N 17) (vS N) (vL N) (vQ N) (vB N) hc G0 G1 G2 G3 G4 pa tl P pl := by
  rcases isw h.1 x1 with ⟨w, hw, rfl, e1, e2⟩ | ⟨e1, e2⟩
  · have h12 := h.1.1.2
    refine ⟨N (18 + w), E, ?_, ?_, SR_self N, h⟩
    · unfold fn_X6_letters
      rw [e1, obs, if_neg (by decide), gin (by omega) (by omega), nI_clamp (by omega)]
    · unfold fn_X7_letters
      rw [e2, obs, if_neg (by decide), l18, nI_add, gin (by omega) (by omega), nI_clamp (by omega)]
  · refine ⟨-2, bump E 0, ?_, ?_, SR_self N, h⟩
    · unfold fn_X6_letters
      rw [e1, obs, if_pos rfl, fl2, obs]
    · unfold fn_X7_letters
      rw [e2, obs, if_pos rfl, ml2, obs]
theorem op_frequency {N : Nat → Int32} {hc : Int32} {G0 : GT} {G1 : GT} {G2 : GT} {G3 : GT} {G4 : GT} {pa : Nat → Int32} {tl : Int32} {P : Nat → Int32} {pl : Int32} (h : INVQ N hc G0 G1 G2 G3 G4 pa tl P pl) (E : Nat → Int32) (x1 : Int32) : ∃ (r : Int32) (E' : Nat → Int32), fn_X6_frequency (N 17) (vQ N) E x1 = some (r, E') ∧ fn_X7_frequency N E x1 = some (r, E') ∧ INVP N (vF N) (vE N) (N 0) (N 17) (vS N) (vL N) (vQ N) (vB N) hc G0 G1 G2 G3 G4 pa tl P pl := by
  rcases isw h.1 x1 with ⟨w, hw, rfl, e1, e2⟩ | ⟨e1, e2⟩
  · have h12 := h.1.1.2
    refine ⟨N (30 + w), E, ?_, ?_, SR_self N, h⟩
    · unfold fn_X6_frequency
      rw [e1, obs, if_neg (by decide), gin (by omega) (by omega), nI_clamp (by omega)]
    · unfold fn_X7_frequency
      rw [e2, obs, if_neg (by decide), l30, nI_add, gin (by omega) (by omega), nI_clamp (by omega)]
  · refine ⟨-2, bump E 0, ?_, ?_, SR_self N, h⟩
    · unfold fn_X6_frequency
      rw [e1, obs, if_pos rfl, fl2, obs]
    · unfold fn_X7_frequency
      rw [e2, obs, if_pos rfl, ml2, obs]
theorem op_strokes {N : Nat → Int32} {hc : Int32} {G0 : GT} {G1 : GT} {G2 : GT} {G3 : GT} {G4 : GT} {pa : Nat → Int32} {tl : Int32} {P : Nat → Int32} {pl : Int32} (h : INVQ N hc G0 G1 G2 G3 G4 pa tl P pl) (E : Nat → Int32) (m1 : Nat → Int32) (m2 : Int32) (x1 : Int32) : ∃ (r : Int32) (E' : Nat → Int32) (m2' : Int32) (m1' : Nat → Int32), fn_X6_strokes (N 0) (N 17) (vS N) (vL N) E x1 = some (r, E') ∧ fn_X7_strokes m2 N E m1 x1 = some (r, m2', E', m1') ∧ INVP N (vF N) (vE N) (N 0) (N 17) (vS N) (vL N) (vQ N) (vB N) hc G0 G1 G2 G3 G4 pa tl P pl := by
  rcases isw h.1 x1 with ⟨w, hw, rfl, e1, e2⟩ | ⟨e1, e2⟩
  · have h12 := h.1.1.2
    have hW := h.1.2.2.2 w hw
    refine ⟨nI (wl N w).length, E, nI (wl N w).length, putL m1 0 ((wl N w).map nI), ?_, ?_, SR_self N, h⟩
    · unfold fn_X6_strokes
      rw [e1, obs, if_neg (by decide), p_wcount (by omega) hW, obs]
    · unfold fn_X7_strokes
      rw [e2, obs, if_neg (by decide), m_lays (by omega) hW, obs]
  · refine ⟨-2, bump E 0, m2, m1, ?_, ?_, SR_self N, h⟩
    · unfold fn_X6_strokes
      rw [e1, obs, if_pos rfl, fl2, obs]
    · unfold fn_X7_strokes
      rw [e2, obs, if_pos rfl, ml2, obs]
theorem op_stroke {N : Nat → Int32} {hc : Int32} {G0 : GT} {G1 : GT} {G2 : GT} {G3 : GT} {G4 : GT} {pa : Nat → Int32} {tl : Int32} {P : Nat → Int32} {pl : Int32} (h : INVQ N hc G0 G1 G2 G3 G4 pa tl P pl) (E : Nat → Int32) (o1 : Int32) (o2 : Int32) (o3 : Nat → Int32) (o4 : Nat → Int32) (o5 : Nat → Int32) (o6 : Nat → Int32) (o7 : Nat → Int32) (m1 : Nat → Int32) (m2 : Int32) (x1 : Int32) (x2 : Int32) : ∃ (r : Int32) (o1' : Int32) (o2' : Int32) (o3' : Nat → Int32) (o4' : Nat → Int32) (o5' : Nat → Int32) (o6' : Nat → Int32) (o7' : Nat → Int32) (E' : Nat → Int32) (m2' : Int32) (m1' : Nat → Int32), fn_X6_stroke (N 0) (N 17) (vF N) (vE N) (vS N) (vL N) o1 o2 o3 o4 o5 o6 o7 E x1 x2 = some (r, o1', o2', o3', o4', o5', o6', o7', E') ∧ fn_X7_stroke m2 N E m1 x1 x2 = some (r, m2', E', m1') ∧ INVP N (vF N) (vE N) (N 0) (N 17) (vS N) (vL N) (vQ N) (vB N) hc G0 G1 G2 G3 G4 pa tl P pl := by
  rcases isw h.1 x1 with ⟨w, hw, rfl, e1, e2⟩ | ⟨e1, e2⟩
  · have h12 := h.1.1.2
    have hW := h.1.2.2.2 w hw
    have hl := wl_len hW
    have hmod : ∀ u : Int32, fn_X7_within x2 0 (nI (wl N w).length - 1) = some u → u = 0 → fn_X7_stroke m2 N E m1 (nI w) x2 = some (-2, nI (wl N w).length, bump E 0, putL m1 0 ((wl N w).map nI)) := by
      intro u hu h0
      unfold fn_X7_stroke
      rw [e2, obs, if_neg (by decide), m_written (by omega) h.1 hW, obs]
      show Option.bind (fn_X7_within x2 0 (nI (wl N w).length - 1)) _ = _
      rw [hu, obs, if_pos h0, ml2, obs]
    by_cases h0 : x2 < 0
    · refine ⟨-2, o1, o2, o3, o4, o5, o6, o7, bump E 0, nI (wl N w).length, putL m1 0 ((wl N w).map nI), ?_, ?_, SR_self N, h⟩
      · unfold fn_X6_stroke
        rw [e1, obs, if_neg (by decide), if_pos h0, fl2, obs]
      · exact hmod 0 (by unfold fn_X7_within; rw [if_pos h0]) rfl
    · rcases pk_ix x2 (n := (wl N w).length) (by omega) with q | q | ⟨j, hj, rfl⟩
      · exact absurd q h0
      · refine ⟨-2, o1, o2, o3, o4, o5, o6, o7, bump E 0, nI (wl N w).length, putL m1 0 ((wl N w).map nI), ?_, ?_, SR_self N, h⟩
        · unfold fn_X6_stroke
          rw [e1, obs, if_neg (by decide), if_neg h0, p_wcount (by omega) hW, obs, if_neg (Int32.not_lt.mpr q), fl2, obs]
        · refine hmod 0 ?_ rfl
          unfold fn_X7_within
          rw [if_neg h0, if_pos]
          rw [Int32.lt_iff_toInt_lt, l1, pk_sub_toInt (by omega) (by omega)]
          have h1 := Int32.le_iff_toInt_le.mp q
          rw [nI_toInt (by omega)] at h1
          omega
      · obtain ⟨y, hy, hy24, hs⟩ := stroke_at h.1 hW hj (putL m1 0 ((wl N w).map nI)) (HM_put N w m1)
        obtain ⟨R1', R2', hb⟩ := p_build (by omega) h.1 hW o1 o2 o3 o4 o5 o6 o7
        refine ⟨nI y, nI (wl N w).length, nI (rtop (chs N w)), putL o3 0 ((ptop (chs N w)).map nI), putL o4 0 ((wl N w).map (fun s => N (1 + s))), putL o5 0 ((wl N w).map (fun s => N (9 + s))), R1', R2', E, nI (wl N w).length, putL m1 0 ((wl N w).map nI), ?_, ?_, SR_self N, h⟩
        · unfold fn_X6_stroke
          rw [e1, obs, if_neg (by decide), if_neg h0, p_wcount (by omega) hW, obs, if_pos (nI_lt hj (by omega)), hb, obs, gin (by omega) (by omega), nI_clamp (by omega)]
          dsimp only
          rw [put_row (l := (ptop (chs N w)).map nI) (x := nI y) (by rw [List.getElem?_map, hy]; rfl)]
        · unfold fn_X7_stroke
          rw [e2, obs, if_neg (by decide), m_written (by omega) h.1 hW, obs]
          show Option.bind (fn_X7_within (nI j) 0 (nI (wl N w).length - 1)) _ = _
          unfold fn_X7_within
          rw [if_neg h0, l1, pk_sub (by omega), if_neg (nI_nlt (by omega) (by omega)), obs, if_neg (by decide)]
          show Option.bind (fn_X7_strokeOf (nI (wl N w).length) N (putL m1 0 ((wl N w).map nI)) (nI (btop (chs N w))) (nI j)) _ = _
          rw [hs, obs]
  · refine ⟨-2, o1, o2, o3, o4, o5, o6, o7, bump E 0, m2, m1, ?_, ?_, SR_self N, h⟩
    · unfold fn_X6_stroke
      rw [e1, obs, if_pos rfl, fl2, obs]
    · unfold fn_X7_stroke
      rw [e2, obs, if_pos rfl, ml2, obs]
theorem op_cost {N : Nat → Int32} {hc : Int32} {G0 : GT} {G1 : GT} {G2 : GT} {G3 : GT} {G4 : GT} {pa : Nat → Int32} {tl : Int32} {P : Nat → Int32} {pl : Int32} (h : INVQ N hc G0 G1 G2 G3 G4 pa tl P pl) (E : Nat → Int32) (o1 : Int32) (o2 : Int32) (o3 : Nat → Int32) (o4 : Nat → Int32) (o5 : Nat → Int32) (o6 : Nat → Int32) (o7 : Nat → Int32) (m1 : Nat → Int32) (m2 : Int32) (x1 : Int32) : ∃ (r : Int32) (o1' : Int32) (o2' : Int32) (o3' : Nat → Int32) (o4' : Nat → Int32) (o5' : Nat → Int32) (o6' : Nat → Int32) (o7' : Nat → Int32) (E' : Nat → Int32) (m2' : Int32) (m1' : Nat → Int32), fn_X6_cost (N 0) (N 17) (vF N) (vE N) (vS N) (vL N) o1 o2 o3 o4 o5 o6 o7 E x1 = some (r, o1', o2', o3', o4', o5', o6', o7', E') ∧ fn_X7_cost m2 N E m1 x1 = some (r, m2', E', m1') ∧ INVP N (vF N) (vE N) (N 0) (N 17) (vS N) (vL N) (vQ N) (vB N) hc G0 G1 G2 G3 G4 pa tl P pl := by
  rcases isw h.1 x1 with ⟨w, hw, rfl, e1, e2⟩ | ⟨e1, e2⟩
  · have h12 := h.1.1.2
    have hW := h.1.2.2.2 w hw
    obtain ⟨R1', R2', hb⟩ := p_build (by omega) h.1 hW o1 o2 o3 o4 o5 o6 o7
    refine ⟨nI (rtop (chs N w)), nI (wl N w).length, nI (rtop (chs N w)), putL o3 0 ((ptop (chs N w)).map nI), putL o4 0 ((wl N w).map (fun s => N (1 + s))), putL o5 0 ((wl N w).map (fun s => N (9 + s))), R1', R2', E, nI (wl N w).length, putL m1 0 ((wl N w).map nI), ?_, ?_, SR_self N, h⟩
    · unfold fn_X6_cost
      rw [e1, obs, if_neg (by decide), hb, obs]
    · unfold fn_X7_cost
      rw [e2, obs, if_neg (by decide), m_written (by omega) h.1 hW, obs]
      show Option.bind (fn_X7_costOf (nI (wl N w).length) N (putL m1 0 ((wl N w).map nI)) (nI (btop (chs N w)))) _ = _
      rw [m_costb h.1 hW _ (HM_put N w m1), obs]
  · refine ⟨-2, o1, o2, o3, o4, o5, o6, o7, bump E 0, m2, m1, ?_, ?_, SR_self N, h⟩
    · unfold fn_X6_cost
      rw [e1, obs, if_pos rfl, fl2, obs]
    · unfold fn_X7_cost
      rw [e2, obs, if_pos rfl, ml2, obs]
theorem op_outlines {N : Nat → Int32} {hc : Int32} {G0 : GT} {G1 : GT} {G2 : GT} {G3 : GT} {G4 : GT} {pa : Nat → Int32} {tl : Int32} {P : Nat → Int32} {pl : Int32} (h : INVQ N hc G0 G1 G2 G3 G4 pa tl P pl) (E : Nat → Int32) (o1 : Int32) (o2 : Int32) (o3 : Nat → Int32) (o4 : Nat → Int32) (o5 : Nat → Int32) (o6 : Nat → Int32) (o7 : Nat → Int32) (m1 : Nat → Int32) (m2 : Int32) (x1 : Int32) : ∃ (r : Int32) (o1' : Int32) (o2' : Int32) (o3' : Nat → Int32) (o4' : Nat → Int32) (o5' : Nat → Int32) (o6' : Nat → Int32) (o7' : Nat → Int32) (E' : Nat → Int32) (m2' : Int32) (m1' : Nat → Int32), fn_X6_outlines (N 0) (N 17) (vF N) (vE N) (vS N) (vL N) o1 o2 o3 o4 o5 o6 o7 E x1 = some (r, o1', o2', o3', o4', o5', o6', o7', E') ∧ fn_X7_outlines m2 N E m1 x1 = some (r, m2', E', m1') ∧ INVP N (vF N) (vE N) (N 0) (N 17) (vS N) (vL N) (vQ N) (vB N) hc G0 G1 G2 G3 G4 pa tl P pl := by
  rcases isw h.1 x1 with ⟨w, hw, rfl, e1, e2⟩ | ⟨e1, e2⟩
  · have h12 := h.1.1.2
    have hW := h.1.2.2.2 w hw
    have hl := wl_len hW
    have hlen := chs_len N w
    have hA : HA (chs N w) (putL o4 0 ((wl N w).map (fun s => N (1 + s)))) (putL o5 0 ((wl N w).map (fun s => N (9 + s)))) := chs_row h.1 hW o4 o5
    have hways := p_ways (chs_ok h.1 hW) (by omega) hA
    rw [hlen] at hways
    obtain ⟨R1', R2', hb⟩ := p_build (by omega) h.1 hW o1 o2 o3 o4 o5 o6 o7
    refine ⟨nI (nw (chs N w)), nI (wl N w).length, nI (rtop (chs N w)), putL o3 0 ((ptop (chs N w)).map nI), putL o4 0 ((wl N w).map (fun s => N (1 + s))), putL o5 0 ((wl N w).map (fun s => N (9 + s))), R1', R2', E, nI (wl N w).length, putL m1 0 ((wl N w).map nI), ?_, ?_, SR_self N, h⟩
    · unfold fn_X6_outlines
      rw [e1, obs, if_neg (by decide), hb, obs]
      dsimp only
      rw [hways, obs]
    · unfold fn_X7_outlines
      rw [e2, obs, if_neg (by decide), m_lays (by omega) hW, obs]
      show Option.bind (lp_X7_outlines_24 (nI (wl N w).length) N (putL m1 0 ((wl N w).map nI)) 1024 0 0) _ = _
      rw [m_outlines h.1 hW (HM_put N w m1), obs]
  · refine ⟨-2, o1, o2, o3, o4, o5, o6, o7, bump E 0, m2, m1, ?_, ?_, SR_self N, h⟩
    · unfold fn_X6_outlines
      rw [e1, obs, if_pos rfl, fl2, obs]
    · unfold fn_X7_outlines
      rw [e2, obs, if_pos rfl, ml2, obs]
theorem op_joinCost {N : Nat → Int32} {hc : Int32} {G0 : GT} {G1 : GT} {G2 : GT} {G3 : GT} {G4 : GT} {pa : Nat → Int32} {tl : Int32} {P : Nat → Int32} {pl : Int32} (h : INVQ N hc G0 G1 G2 G3 G4 pa tl P pl) (E : Nat → Int32) (x1 : Int32) (x2 : Int32) : ∃ (r : Int32) (E' : Nat → Int32), fn_X6_joinCost E x1 x2 = some (r, E') ∧ fn_X7_joinCost E x1 x2 = some (r, E') ∧ INVP N (vF N) (vE N) (N 0) (N 17) (vS N) (vL N) (vQ N) (vB N) hc G0 G1 G2 G3 G4 pa tl P pl := by
  rcases iss x1 with ⟨a, ha, rfl, e1, e2⟩ | ⟨e1, e2⟩
  · rcases iss x2 with ⟨b, hb, rfl, e3, e4⟩ | ⟨e3, e4⟩
    · refine ⟨nI (jn a b), E, ?_, ?_, SR_self N, h⟩
      · unfold fn_X6_joinCost
        rw [e1, obs, if_neg (by decide), e3, obs, if_neg (by decide), p_join24 a ha b hb, obs]
      · unfold fn_X7_joinCost
        rw [e2, obs, if_neg (by decide), e4, obs, if_neg (by decide), m_join24 a ha b hb, obs]
    · refine ⟨-2, bump E 0, ?_, ?_, SR_self N, h⟩
      · unfold fn_X6_joinCost
        rw [e1, obs, if_neg (by decide), e3, obs, if_pos rfl, fl2, obs]
      · unfold fn_X7_joinCost
        rw [e2, obs, if_neg (by decide), e4, obs, if_pos rfl, ml2, obs]
  · refine ⟨-2, bump E 0, ?_, ?_, SR_self N, h⟩
    · unfold fn_X6_joinCost
      rw [e1, obs, if_pos rfl, fl2, obs]
    · unfold fn_X7_joinCost
      rw [e2, obs, if_pos rfl, ml2, obs]
theorem op_brief {N : Nat → Int32} {hc : Int32} {G0 : GT} {G1 : GT} {G2 : GT} {G3 : GT} {G4 : GT} {pa : Nat → Int32} {tl : Int32} {P : Nat → Int32} {pl : Int32} (h : INVQ N hc G0 G1 G2 G3 G4 pa tl P pl) (E : Nat → Int32) (x1 : Int32) : ∃ (r : Int32) (E' : Nat → Int32), fn_X6_brief (N 17) (vB N) E x1 = some (r, E') ∧ fn_X7_brief N E x1 = some (r, E') ∧ INVP N (vF N) (vE N) (N 0) (N 17) (vS N) (vL N) (vQ N) (vB N) hc G0 G1 G2 G3 G4 pa tl P pl := by
  rcases isw h.1 x1 with ⟨w, hw, rfl, e1, e2⟩ | ⟨e1, e2⟩
  · have h12 := h.1.1.2
    refine ⟨N (42 + w), E, ?_, ?_, SR_self N, h⟩
    · unfold fn_X6_brief
      rw [e1, obs, if_neg (by decide), gin (by omega) (by omega), nI_clamp (by omega)]
    · unfold fn_X7_brief
      rw [e2, obs, if_neg (by decide), l42, nI_add, gin (by omega) (by omega), nI_clamp (by omega)]
  · refine ⟨-2, bump E 0, ?_, ?_, SR_self N, h⟩
    · unfold fn_X6_brief
      rw [e1, obs, if_pos rfl, fl2, obs]
    · unfold fn_X7_brief
      rw [e2, obs, if_pos rfl, ml2, obs]
theorem op_gain {N : Nat → Int32} {hc : Int32} {G0 : GT} {G1 : GT} {G2 : GT} {G3 : GT} {G4 : GT} {pa : Nat → Int32} {tl : Int32} {P : Nat → Int32} {pl : Int32} (h : INVQ N hc G0 G1 G2 G3 G4 pa tl P pl) (E : Nat → Int32) (m1 : Nat → Int32) (m2 : Int32) (x1 : Int32) : ∃ (r : Int32) (E' : Nat → Int32) (m2' : Int32) (m1' : Nat → Int32), fn_X6_gain (N 0) (N 17) (vS N) (vL N) (vQ N) E x1 = some (r, E') ∧ fn_X7_gain m2 N E m1 x1 = some (r, m2', E', m1') ∧ INVP N (vF N) (vE N) (N 0) (N 17) (vS N) (vL N) (vQ N) (vB N) hc G0 G1 G2 G3 G4 pa tl P pl := by
  rcases isw h.1 x1 with ⟨w, hw, rfl, e1, e2⟩ | ⟨e1, e2⟩
  · have h12 := h.1.1.2
    have hW := h.1.2.2.2 w hw
    refine ⟨nI (gn N w), E, nI (wl N w).length, putL m1 0 ((wl N w).map nI), ?_, ?_, SR_self N, h⟩
    · unfold fn_X6_gain
      rw [e1, obs, if_neg (by decide), p_gain (by omega) hW, obs]
    · unfold fn_X7_gain
      rw [e2, obs, if_neg (by decide), m_gain (by omega) hW, obs]
  · refine ⟨-2, bump E 0, m2, m1, ?_, ?_, SR_self N, h⟩
    · unfold fn_X6_gain
      rw [e1, obs, if_pos rfl, fl2, obs]
    · unfold fn_X7_gain
      rw [e2, obs, if_pos rfl, ml2, obs]
theorem op_proposedWord {N : Nat → Int32} {hc : Int32} {G0 : GT} {G1 : GT} {G2 : GT} {G3 : GT} {G4 : GT} {pa : Nat → Int32} {tl : Int32} {P : Nat → Int32} {pl : Int32} (h : INVQ N hc G0 G1 G2 G3 G4 pa tl P pl) (E : Nat → Int32) (q1 : Int32) (q2 : Nat → Int32) (q3 : Nat → Int32) (q4 : Nat → Int32) (q5 : Int32) (q6 : Nat → Int32) (q7 : Nat → Int32) (q8 : Nat → Int32) (q9 : Nat → Int32) (m1 : Nat → Int32) (m2 : Int32) (m3 : Nat → Int32) (m4 : Nat → Int32) (m5 : Int32) (x1 : Int32) : ∃ (r : Int32) (q1' : Int32) (q2' : Nat → Int32) (q3' : Nat → Int32) (q4' : Nat → Int32) (q5' : Int32) (q6' : Nat → Int32) (q7' : Nat → Int32) (q8' : Nat → Int32) (q9' : Nat → Int32) (E' : Nat → Int32) (m2' : Int32) (m5' : Int32) (m1' : Nat → Int32) (m3' : Nat → Int32) (m4' : Nat → Int32), fn_X6_proposedWord (N 0) (N 17) (vF N) (vS N) (vL N) (vQ N) (vB N) q1 q2 q3 q4 q5 q6 q7 q8 q9 E x1 = some (r, q1', q2', q3', q4', q5', q6', q7', q8', q9', E') ∧ fn_X7_proposedWord m2 m5 N E m1 m3 m4 x1 = some (r, m2', m5', E', m1', m3', m4') ∧ INVP N (vF N) (vE N) (N 0) (N 17) (vS N) (vL N) (vQ N) (vB N) hc G0 G1 G2 G3 G4 pa tl P pl := by
  obtain ⟨wd, vl, wt, c1, c2, c3, tk, hc, hr⟩ := p_make h.1 q1 q5 q2 q3 q4 q6 q7 q8 q9
  obtain ⟨v', m', hm⟩ := m_prop h.1 m2 m5 m1 m3 m4
  have hlen : (prp N).length ≤ 12 := by
    have := asg_len (cds N) (fun s => !fr0 N s)
    have := (cds_ok N).2.1
    have := h.1.1.2
    unfold prp
    omega
  by_cases h1 : (-1 : Int32) ≤ x1
  · by_cases h2 : x1 = -1
    · subst h2
      refine ⟨nI (prp N).length, nI (prp N).length, wd, vl, wt, nI (cds N).length, c1, c2, c3, tk, E, v', nI (prp N).length, m', putL m3 0 ((prp N).map (fun q => nI q.1)), putL m4 0 ((prp N).map (fun q => nI q.2)), ?_, ?_, SR_self N, h⟩
      · unfold fn_X6_proposedWord
        rw [if_pos h1, hc, obs]
        show Option.bind (fn_X4_sizeOrWord (nI (prp N).length) wd (-1)) _ = _
        unfold fn_X4_sizeOrWord
        rw [if_pos rfl, obs]
      · unfold fn_X7_proposedWord
        rw [if_pos h1, hm, obs, if_pos rfl]
    · have h3 := ge_m1 h1 h2
      rcases pk_ix x1 (n := (prp N).length) (by omega) with q | q | ⟨j, hj, rfl⟩
      · exact absurd q h3
      · refine ⟨-1, nI (prp N).length, wd, vl, wt, nI (cds N).length, c1, c2, c3, tk, E, v', nI (prp N).length, m', putL m3 0 ((prp N).map (fun q => nI q.1)), putL m4 0 ((prp N).map (fun q => nI q.2)), ?_, ?_, SR_self N, h⟩
        · unfold fn_X6_proposedWord
          rw [if_pos h1, hc, obs]
          show Option.bind (fn_X4_sizeOrWord (nI (prp N).length) wd x1) _ = _
          unfold fn_X4_sizeOrWord
          rw [if_neg h2, if_neg h3, if_pos q, obs]
        · unfold fn_X7_proposedWord
          rw [if_pos h1, hm, obs, if_neg h2, if_pos q]
      · obtain ⟨z, hz⟩ := at_lt hj
        have hv := (hr j (trc z) (by rw [List.getElem?_map, hz]; rfl)).1
        refine ⟨nI z.1, nI (prp N).length, wd, vl, wt, nI (cds N).length, c1, c2, c3, tk, E, v', nI (prp N).length, m', putL m3 0 ((prp N).map (fun q => nI q.1)), putL m4 0 ((prp N).map (fun q => nI q.2)), ?_, ?_, SR_self N, h⟩
        · unfold fn_X6_proposedWord
          rw [if_pos h1, hc, obs]
          show Option.bind (fn_X4_sizeOrWord (nI (prp N).length) wd (nI j)) _ = _
          unfold fn_X4_sizeOrWord
          rw [if_neg h2, if_neg h3, if_neg (nI_ge hj (by omega)), gin (by omega) (by omega), obs, nI_clamp (by omega), hv]
          rfl
        · unfold fn_X7_proposedWord
          rw [if_pos h1, hm, obs, if_neg h2, if_neg (show ¬ nI (prp N).length ≤ nI j from nI_ge hj (by omega)), gin (by omega) (by omega), nI_clamp (by omega)]
          dsimp only
          rw [put_row (l := (prp N).map (fun q => nI q.1)) (x := nI z.1) (by rw [List.getElem?_map, hz]; rfl)]
  · refine ⟨-2, q1, q2, q3, q4, q5, q6, q7, q8, q9, bump E 0, m2, m5, m1, m3, m4, ?_, ?_, SR_self N, h⟩
    · unfold fn_X6_proposedWord
      rw [if_neg h1, fl2, obs]
    · unfold fn_X7_proposedWord
      rw [if_neg h1, ml2, obs]
theorem op_proposedStroke {N : Nat → Int32} {hc : Int32} {G0 : GT} {G1 : GT} {G2 : GT} {G3 : GT} {G4 : GT} {pa : Nat → Int32} {tl : Int32} {P : Nat → Int32} {pl : Int32} (h : INVQ N hc G0 G1 G2 G3 G4 pa tl P pl) (E : Nat → Int32) (q1 : Int32) (q2 : Nat → Int32) (q3 : Nat → Int32) (q4 : Nat → Int32) (q5 : Int32) (q6 : Nat → Int32) (q7 : Nat → Int32) (q8 : Nat → Int32) (q9 : Nat → Int32) (m1 : Nat → Int32) (m2 : Int32) (m3 : Nat → Int32) (m4 : Nat → Int32) (m5 : Int32) (x1 : Int32) : ∃ (r : Int32) (q1' : Int32) (q2' : Nat → Int32) (q3' : Nat → Int32) (q4' : Nat → Int32) (q5' : Int32) (q6' : Nat → Int32) (q7' : Nat → Int32) (q8' : Nat → Int32) (q9' : Nat → Int32) (E' : Nat → Int32) (m2' : Int32) (m5' : Int32) (m1' : Nat → Int32) (m3' : Nat → Int32) (m4' : Nat → Int32), fn_X6_proposedStroke (N 0) (N 17) (vF N) (vS N) (vL N) (vQ N) (vB N) q1 q2 q3 q4 q5 q6 q7 q8 q9 E x1 = some (r, q1', q2', q3', q4', q5', q6', q7', q8', q9', E') ∧ fn_X7_proposedStroke m2 m5 N E m1 m3 m4 x1 = some (r, m2', m5', E', m1', m3', m4') ∧ INVP N (vF N) (vE N) (N 0) (N 17) (vS N) (vL N) (vQ N) (vB N) hc G0 G1 G2 G3 G4 pa tl P pl := by
  obtain ⟨wd, vl, wt, c1, c2, c3, tk, hc, hr⟩ := p_make h.1 q1 q5 q2 q3 q4 q6 q7 q8 q9
  obtain ⟨v', m', hm⟩ := m_prop h.1 m2 m5 m1 m3 m4
  have hlen : (prp N).length ≤ 12 := by
    have := asg_len (cds N) (fun s => !fr0 N s)
    have := (cds_ok N).2.1
    have := h.1.1.2
    unfold prp
    omega
  by_cases h1 : (0 : Int32) ≤ x1
  · have h3 : ¬ x1 < 0 := Int32.not_lt.mpr h1
    rcases pk_ix x1 (n := (prp N).length) (by omega) with q | q | ⟨j, hj, rfl⟩
    · exact absurd q h3
    · refine ⟨-1, nI (prp N).length, wd, vl, wt, nI (cds N).length, c1, c2, c3, tk, E, v', nI (prp N).length, m', putL m3 0 ((prp N).map (fun q => nI q.1)), putL m4 0 ((prp N).map (fun q => nI q.2)), ?_, ?_, SR_self N, h⟩
      · unfold fn_X6_proposedStroke
        rw [if_pos h1, hc, obs]
        show Option.bind (fn_X4_valueAt (nI (prp N).length) vl x1) _ = _
        unfold fn_X4_valueAt
        rw [if_neg h3, if_pos q, obs]
      · unfold fn_X7_proposedStroke
        rw [if_pos h1, hm, obs, if_pos q]
    · obtain ⟨z, hz⟩ := at_lt hj
      have hv := (hr j (trc z) (by rw [List.getElem?_map, hz]; rfl)).2.1
      refine ⟨nI z.2, nI (prp N).length, wd, vl, wt, nI (cds N).length, c1, c2, c3, tk, E, v', nI (prp N).length, m', putL m3 0 ((prp N).map (fun q => nI q.1)), putL m4 0 ((prp N).map (fun q => nI q.2)), ?_, ?_, SR_self N, h⟩
      · unfold fn_X6_proposedStroke
        rw [if_pos h1, hc, obs]
        show Option.bind (fn_X4_valueAt (nI (prp N).length) vl (nI j)) _ = _
        unfold fn_X4_valueAt
        rw [if_neg h3, if_neg (nI_ge hj (by omega)), gin (by omega) (by omega), obs, nI_clamp (by omega), hv]
        rfl
      · unfold fn_X7_proposedStroke
        rw [if_pos h1, hm, obs, if_neg (show ¬ nI (prp N).length ≤ nI j from nI_ge hj (by omega)), gin (by omega) (by omega), nI_clamp (by omega)]
        dsimp only
        rw [put_row (l := (prp N).map (fun q => nI q.2)) (x := nI z.2) (by rw [List.getElem?_map, hz]; rfl)]
  · refine ⟨-2, q1, q2, q3, q4, q5, q6, q7, q8, q9, bump E 0, m2, m5, m1, m3, m4, ?_, ?_, SR_self N, h⟩
    · unfold fn_X6_proposedStroke
      rw [if_neg h1, fl2, obs]
    · unfold fn_X7_proposedStroke
      rw [if_neg h1, ml2, obs]
theorem op_write {N : Nat → Int32} {hc : Int32} {G0 : GT} {G1 : GT} {G2 : GT} {G3 : GT} {G4 : GT} {pa : Nat → Int32} {tl : Int32} {P : Nat → Int32} {pl : Int32} (h : INVQ N hc G0 G1 G2 G3 G4 pa tl P pl) (E : Nat → Int32) (x1 : Int32) : ∃ (r : Int32) (pl' : Int32) (P' : Nat → Int32) (E' : Nat → Int32), fn_X6_write pl P E x1 = some (r, pl', P', E') ∧ fn_X7_write pl E P x1 = some (r, pl', E', P') ∧ INVP N (vF N) (vE N) (N 0) (N 17) (vS N) (vL N) (vQ N) (vB N) hc G0 G1 G2 G3 G4 pa tl P' pl' := by
  obtain ⟨b, rfl, hP⟩ := h.2.2.2
  have hb := hP.1
  rcases iss x1 with ⟨a, ha, rfl, e1, e2⟩ | ⟨e1, e2⟩
  · by_cases h8 : b = 8
    · subst h8
      refine ⟨-4, nI 8, P, bump E 2, ?_, ?_, SR_self N, h⟩
      · unfold fn_X6_write
        rw [e1, obs, if_neg (by decide), if_neg (by decide), fl4, obs]
      · unfold fn_X7_write
        rw [e2, obs, if_neg (by decide), if_pos (show nI 8 = 8 from rfl), ml4, obs]
    · refine ⟨nI (b + 1), nI (b + 1), upd P b (nI a), E, ?_, ?_, SR_self N, h.1, h.2.1, h.2.2.1, b + 1, rfl, by omega, fun j hj => ?_⟩
      · unfold fn_X6_write
        rw [e1, obs, if_neg (by decide), if_pos (show nI b < 8 by rw [l8]; exact nI_lt (by omega) (by omega)), gin (by omega) (by omega), nI_clamp (by omega), nI_1]
      · unfold fn_X7_write
        rw [e2, obs, if_neg (by decide), if_neg (show ¬ nI b = 8 by rw [l8, nI_eq (by omega) (by omega)]; exact h8), gin (by omega) (by omega), nI_clamp (by omega), nI_1]
      · unfold pc
        by_cases e : j = b
        · subst e
          rw [upd_s, nI_clamp (by omega)]
          exact ⟨rfl, ha⟩
        · rw [upd_n _ _ e]
          exact hP.2 j (by omega)
  · refine ⟨-2, nI b, P, bump E 0, ?_, ?_, SR_self N, h⟩
    · unfold fn_X6_write
      rw [e1, obs, if_pos rfl, fl2, obs]
    · unfold fn_X7_write
      rw [e2, obs, if_pos rfl, ml2, obs]
theorem op_clearPad {N : Nat → Int32} {hc : Int32} {G0 : GT} {G1 : GT} {G2 : GT} {G3 : GT} {G4 : GT} {pa : Nat → Int32} {tl : Int32} {P : Nat → Int32} {pl : Int32} (h : INVQ N hc G0 G1 G2 G3 G4 pa tl P pl) : ∃ (r : Int32) (pl' : Int32), fn_X6_clearPad pl = some (r, pl') ∧ fn_X7_clearPad pl = some (r, pl') ∧ INVP N (vF N) (vE N) (N 0) (N 17) (vS N) (vL N) (vQ N) (vB N) hc G0 G1 G2 G3 G4 pa tl P pl' := by
  refine ⟨pl, 0, rfl, rfl, SR_self N, h.1, h.2.1, h.2.2.1, 0, rfl, by omega, fun j hj => by omega⟩
theorem op_reading {N : Nat → Int32} {hc : Int32} {G0 : GT} {G1 : GT} {G2 : GT} {G3 : GT} {G4 : GT} {pa : Nat → Int32} {tl : Int32} {P : Nat → Int32} {pl : Int32} (h : INVQ N hc G0 G1 G2 G3 G4 pa tl P pl) (E : Nat → Int32) (s1 : Int32) (s2 : Nat → Int32) (s3 : Nat → Int32) (s4 : Nat → Int32) (m1 : Nat → Int32) (m2 : Int32) (m6 : Nat → Int32) (m7 : Int32) (x1 : Int32) : ∃ (r : Int32) (s1' : Int32) (s2' : Nat → Int32) (s3' : Nat → Int32) (s4' : Nat → Int32) (E' : Nat → Int32) (m2' : Int32) (m7' : Int32) (m1' : Nat → Int32) (m6' : Nat → Int32), fn_X6_reading (N 0) (N 17) (vF N) (vE N) (vS N) (vL N) (vQ N) (vB N) pl P s1 s2 s3 s4 E x1 = some (r, s1', s2', s3', s4', E') ∧ fn_X7_reading pl m2 m7 N E P m1 m6 x1 = some (r, m2', m7', E', m1', m6') ∧ INVP N (vF N) (vE N) (N 0) (N 17) (vS N) (vL N) (vQ N) (vB N) hc G0 G1 G2 G3 G4 pa tl P pl := by
  obtain ⟨b, hb, hP⟩ := h.2.2.2
  have hb8 := hP.1
  obtain ⟨wd, vl, wt, hc, hr⟩ := p_read h.1 hP s1 s2 s3 s4
  obtain ⟨v', m', rd, hm, hrd⟩ := m_reads h.1 hP m2 m7 m1 m6
  rw [← hb] at hc hm
  have hlen : (rds N P b).length ≤ 12 := by
    have := (rds_ok N P b).2
    have := h.1.1.2
    omega
  by_cases h1 : (-1 : Int32) ≤ x1
  · by_cases h2 : x1 = -1
    · subst h2
      refine ⟨nI (rds N P b).length, nI (rds N P b).length, wd, vl, wt, E, v', nI (rds N P b).length, m', rd, ?_, ?_, SR_self N, h⟩
      · unfold fn_X6_reading
        rw [if_pos h1, hc, obs]
        show Option.bind (fn_X4_sizeOrWord (nI (rds N P b).length) wd (-1)) _ = _
        unfold fn_X4_sizeOrWord
        rw [if_pos rfl, obs]
      · unfold fn_X7_reading
        rw [if_pos h1, hm, obs, if_pos rfl]
    · have h3 := ge_m1 h1 h2
      rcases pk_ix x1 (n := (rds N P b).length) (by omega) with q | q | ⟨j, hj, rfl⟩
      · exact absurd q h3
      · refine ⟨-1, nI (rds N P b).length, wd, vl, wt, E, v', nI (rds N P b).length, m', rd, ?_, ?_, SR_self N, h⟩
        · unfold fn_X6_reading
          rw [if_pos h1, hc, obs]
          show Option.bind (fn_X4_sizeOrWord (nI (rds N P b).length) wd x1) _ = _
          unfold fn_X4_sizeOrWord
          rw [if_neg h2, if_neg h3, if_pos q, obs]
        · unfold fn_X7_reading
          rw [if_pos h1, hm, obs, if_neg h2, if_pos q]
      · obtain ⟨z, hz⟩ := at_lt hj
        have hv := (hr j (trp N P b z) (by rw [List.getElem?_map, hz]; rfl)).1
        refine ⟨nI z, nI (rds N P b).length, wd, vl, wt, E, v', nI (rds N P b).length, m', rd, ?_, ?_, SR_self N, h⟩
        · unfold fn_X6_reading
          rw [if_pos h1, hc, obs]
          show Option.bind (fn_X4_sizeOrWord (nI (rds N P b).length) wd (nI j)) _ = _
          unfold fn_X4_sizeOrWord
          rw [if_neg h2, if_neg h3, if_neg (nI_ge hj (by omega)), gin (by omega) (by omega), obs, nI_clamp (by omega), hv]
          rfl
        · unfold fn_X7_reading
          rw [if_pos h1, hm, obs, if_neg h2, if_neg (show ¬ nI (rds N P b).length ≤ nI j from nI_ge hj (by omega)), gin (by omega) (by omega), nI_clamp (by omega)]
          dsimp only
          rw [hrd j z hz]
  · refine ⟨-2, s1, s2, s3, s4, bump E 0, m2, m7, m1, m6, ?_, ?_, SR_self N, h⟩
    · unfold fn_X6_reading
      rw [if_neg h1, fl2, obs]
    · unfold fn_X7_reading
      rw [if_neg h1, ml2, obs]
theorem op_doubt {N : Nat → Int32} {hc : Int32} {G0 : GT} {G1 : GT} {G2 : GT} {G3 : GT} {G4 : GT} {pa : Nat → Int32} {tl : Int32} {P : Nat → Int32} {pl : Int32} (h : INVQ N hc G0 G1 G2 G3 G4 pa tl P pl) (E : Nat → Int32) (s1 : Int32) (s2 : Nat → Int32) (s3 : Nat → Int32) (s4 : Nat → Int32) (m1 : Nat → Int32) (m2 : Int32) (m6 : Nat → Int32) (m7 : Int32) (x1 : Int32) : ∃ (r : Int32) (s1' : Int32) (s2' : Nat → Int32) (s3' : Nat → Int32) (s4' : Nat → Int32) (E' : Nat → Int32) (m2' : Int32) (m7' : Int32) (m1' : Nat → Int32) (m6' : Nat → Int32), fn_X6_doubt (N 0) (N 17) (vF N) (vE N) (vS N) (vL N) (vQ N) (vB N) pl P s1 s2 s3 s4 E x1 = some (r, s1', s2', s3', s4', E') ∧ fn_X7_doubt pl m2 m7 N E P m1 m6 x1 = some (r, m2', m7', E', m1', m6') ∧ INVP N (vF N) (vE N) (N 0) (N 17) (vS N) (vL N) (vQ N) (vB N) hc G0 G1 G2 G3 G4 pa tl P pl := by
  obtain ⟨b, hb, hP⟩ := h.2.2.2
  have hb8 := hP.1
  obtain ⟨wd, vl, wt, hc, hr⟩ := p_read h.1 hP s1 s2 s3 s4
  obtain ⟨v', m', rd, hm, hrd⟩ := m_reads h.1 hP m2 m7 m1 m6
  rw [← hb] at hc hm
  have h12 := h.1.1.2
  have hok := rds_ok N P b
  by_cases h1 : (0 : Int32) ≤ x1
  · have h3 : ¬ x1 < 0 := Int32.not_lt.mpr h1
    rcases pk_ix x1 (n := (rds N P b).length) (by omega) with q | q | ⟨j, hj, rfl⟩
    · exact absurd q h3
    · refine ⟨-1, nI (rds N P b).length, wd, vl, wt, E, v', nI (rds N P b).length, m', rd, ?_, ?_, SR_self N, h⟩
      · unfold fn_X6_doubt
        rw [if_pos h1, hc, obs]
        show Option.bind (fn_X4_valueAt (nI (rds N P b).length) vl x1) _ = _
        unfold fn_X4_valueAt
        rw [if_neg h3, if_pos q, obs]
      · unfold fn_X7_doubt
        rw [if_pos h1, hm, obs, if_pos q]
    · obtain ⟨z, hz⟩ := at_lt hj
      have hv := (hr j (trp N P b z) (by rw [List.getElem?_map, hz]; rfl)).2.1
      have hzr := hok.1 z (List.mem_of_getElem? hz)
      have hzl := hzr.1
      have hd := m_dbt (m := m') (w := z) (by omega) h.1 (h.1.2.2.2 z hzr.1) hP v'
      rw [← hb, hzr.2] at hd
      refine ⟨nI (dd N P b z), nI (rds N P b).length, wd, vl, wt, E, nI (wl N z).length, nI (rds N P b).length, putL m' 0 ((wl N z).map nI), rd, ?_, ?_, SR_self N, h⟩
      · unfold fn_X6_doubt
        rw [if_pos h1, hc, obs]
        show Option.bind (fn_X4_valueAt (nI (rds N P b).length) vl (nI j)) _ = _
        unfold fn_X4_valueAt
        rw [if_neg h3, if_neg (nI_ge hj (by omega)), gin (by omega) (by omega), obs, nI_clamp (by omega), hv]
        rfl
      · unfold fn_X7_doubt
        rw [if_pos h1, hm, obs, if_neg (show ¬ nI (rds N P b).length ≤ nI j from nI_ge hj (by omega)), gin (by omega) (by omega), nI_clamp (by omega)]
        dsimp only
        rw [hrd j z hz, hd, obs]
        rfl
  · refine ⟨-2, s1, s2, s3, s4, bump E 0, m2, m7, m1, m6, ?_, ?_, SR_self N, h⟩
    · unfold fn_X6_doubt
      rw [if_neg h1, fl2, obs]
    · unfold fn_X7_doubt
      rw [if_neg h1, ml2, obs]
theorem op_errorCount {N : Nat → Int32} {hc : Int32} {G0 : GT} {G1 : GT} {G2 : GT} {G3 : GT} {G4 : GT} {pa : Nat → Int32} {tl : Int32} {P : Nat → Int32} {pl : Int32} (h : INVQ N hc G0 G1 G2 G3 G4 pa tl P pl) (E : Nat → Int32) (x1 : Int32) : ∃ (r : Int32) (E' : Nat → Int32), fn_X6_errorCount E x1 = some (r, E') ∧ fn_X7_errorCount E x1 = some (r, E') ∧ INVP N (vF N) (vE N) (N 0) (N 17) (vS N) (vL N) (vQ N) (vB N) hc G0 G1 G2 G3 G4 pa tl P pl := by
  by_cases h1 : (-2 : Int32) < x1
  · have h2 : ¬ x1 < (-5 : Int32) := by
      intro h3
      have a := Int32.lt_iff_toInt_lt.mp h1
      have b := Int32.lt_iff_toInt_lt.mp h3
      have e1 : (-2 : Int32).toInt = -2 := by decide
      have e2 : (-5 : Int32).toInt = -5 := by decide
      omega
    refine ⟨-2, bump E 0, ?_, ?_, SR_self N, h⟩
    · unfold fn_X6_errorCount
      rw [if_pos h1, fl2, obs]
    · unfold fn_X7_errorCount fn_X7_within
      rw [if_neg h2, if_pos h1, obs, if_pos rfl, ml2, obs]
  · by_cases h2 : (-5 : Int32) ≤ x1
    · have h3 : x1 = -2 ∨ x1 = -3 ∨ x1 = -4 ∨ x1 = -5 := by
        have a := Int32.le_iff_toInt_le.mp (Int32.not_lt.mp h1)
        have b := Int32.le_iff_toInt_le.mp h2
        have e1 : (-2 : Int32).toInt = -2 := by decide
        have e2 : (-5 : Int32).toInt = -5 := by decide
        have e3 : (-3 : Int32).toInt = -3 := by decide
        have e4 : (-4 : Int32).toInt = -4 := by decide
        rcases (show x1.toInt = -2 ∨ x1.toInt = -3 ∨ x1.toInt = -4 ∨ x1.toInt = -5 by omega) with q | q | q | q
        · exact Or.inl (Int32.toInt_inj.mp (by omega))
        · exact Or.inr (Or.inl (Int32.toInt_inj.mp (by omega)))
        · exact Or.inr (Or.inr (Or.inl (Int32.toInt_inj.mp (by omega))))
        · exact Or.inr (Or.inr (Or.inr (Int32.toInt_inj.mp (by omega))))
      have hin : inb ((-2 : Int32) - x1) 4 = true := by rcases h3 with rfl | rfl | rfl | rfl <;> decide
      refine ⟨E ((-2 : Int32) - x1).toNatClampNeg, E, ?_, ?_, SR_self N, h⟩
      · unfold fn_X6_errorCount
        rw [if_neg h1, if_pos h2, hin]
        rfl
      · unfold fn_X7_errorCount fn_X7_within
        rw [if_neg (Int32.not_lt.mpr h2), if_neg h1, obs, if_neg (by decide), hin]
        rfl
    · refine ⟨-2, bump E 0, ?_, ?_, SR_self N, h⟩
      · unfold fn_X6_errorCount
        rw [if_neg h1, if_neg h2, fl2, obs]
      · unfold fn_X7_errorCount fn_X7_within
        rw [if_pos (Int32.not_le.mp h2), obs, if_pos rfl, ml2, obs]
