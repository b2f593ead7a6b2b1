/-! the calls that change the dictionary -/
def WFy (N : Nat → Int32) (w : Nat) : Prop := (∃ l : Nat, 1 ≤ l ∧ l ≤ 8 ∧ N (18 + w) = nI l ∧ ∀ i, i < l → ∃ s : Nat, s < 8 ∧ N (54 + (8 * w + i)) = nI s) ∧ (∃ f : Nat, 1 ≤ f ∧ f ≤ 999 ∧ N (30 + w) = nI f) ∧ isM (N (42 + w))
def WFx (N : Nat → Int32) (c : Nat) : Prop := N 17 = nI c ∧ c ≤ 12 ∧ (∀ s, s < 8 → ∃ a : Nat, a < 24 ∧ N (1 + s) = nI a) ∧ (∀ s, s < 8 → isM (N (9 + s))) ∧ ∀ w, w < c → WFy N w
theorem WF_x {N : Nat → Int32} (h : WF N) : WFx N (cn N) := by
  obtain ⟨⟨h1, h2⟩, h3, h4, h5⟩ := h
  refine ⟨h1, h2, fun s hs => ⟨_, (h3 s hs).2, (h3 s hs).1⟩, h4, fun w hw => ?_⟩
  obtain ⟨⟨g1, g2, g3⟩, ⟨g4, g5, g6⟩, g7, g8⟩ := h5 w hw
  exact ⟨⟨_, g2, g3, g1, fun i hi => ⟨_, (g8 i hi).2, (g8 i hi).1⟩⟩, ⟨_, g5, g6, g4⟩, g7⟩
theorem WF_of {N : Nat → Int32} {c : Nat} (h : WFx N c) : WF N := by
  obtain ⟨h1, h2, h3, h4, h5⟩ := h
  have ec : cn N = c := by unfold cn; rw [h1, nI_clamp (by omega)]
  refine ⟨⟨by rw [ec]; exact h1, by omega⟩, fun s hs => ?_, h4, fun w hw => ?_⟩
  · obtain ⟨a, ha, e⟩ := h3 s hs
    have : fs N s = a := by unfold fs; rw [e, nI_clamp (by omega)]
    rw [this]
    exact ⟨e, ha⟩
  · rw [ec] at hw
    obtain ⟨⟨l, g1, g2, g3, g4⟩, ⟨f, g5, g6, g7⟩, g8⟩ := h5 w hw
    have e1 : ln N w = l := by unfold ln; rw [g3, nI_clamp (by omega)]
    have e2 : fq N w = f := by unfold fq; rw [g7, nI_clamp (by omega)]
    refine ⟨by rw [e1]; exact ⟨g3, g1, g2⟩, by rw [e2]; exact ⟨g7, g5, g6⟩, g8, fun i hi => ?_⟩
    rw [e1] at hi
    obtain ⟨s, hs, e⟩ := g4 i hi
    have e3 : sd N w i = s := by unfold sd; rw [e, nI_clamp (by omega)]
    rw [e3]
    exact ⟨e, hs⟩
theorem WF_brief {N : Nat → Int32} {w : Nat} {v : Int32} (h : WF N) (hw : w < 12) (hv : isM v) : WF (upd N (42 + w) v) := by
  obtain ⟨h1, h2, h3, h4, h5⟩ := WF_x h
  refine WF_of (c := cn N) ⟨by rw [upd_n _ _ (by omega)]; exact h1, h2, fun s hs => by rw [upd_n _ _ (by omega)]; exact h3 s hs, fun s hs => by rw [upd_n _ _ (by omega)]; exact h4 s hs, fun u hu => ?_⟩
  obtain ⟨⟨l, g1, g2, g3, g4⟩, ⟨f, g5, g6, g7⟩, g8⟩ := h5 u hu
  refine ⟨⟨l, g1, g2, by rw [upd_n _ _ (by omega)]; exact g3, fun i hi => by rw [upd_n _ _ (by omega)]; exact g4 i hi⟩, ⟨f, g5, g6, by rw [upd_n _ _ (by omega)]; exact g7⟩, ?_⟩
  by_cases e : u = w
  · subst e
    rw [upd_s]
    exact hv
  · rw [upd_n _ _ (by omega)]
    exact g8
theorem SR_brief (N : Nat → Int32) {w : Nat} (v : Int32) (hw : w < 12) : SR (upd N (42 + w) v) (vF N) (vE N) (N 0) (N 17) (vS N) (vL N) (vQ N) (upd (vB N) w v) := by
  refine ⟨fun j hj => by rw [upd_n _ _ (by omega)], fun j hj => by rw [upd_n _ _ (by omega)], by rw [upd_n _ _ (by omega)], by rw [upd_n _ _ (by omega)], fun j hj => by rw [upd_n _ _ (by omega)], fun j hj => by rw [upd_n _ _ (by omega)], fun j hj => by rw [upd_n _ _ (by omega)], fun j hj => ?_⟩
  by_cases e : j = w
  · subst e
    rw [upd_s, upd_s]
  · rw [upd_n _ _ e, upd_n _ _ (by omega)]
theorem ws7 (x : Int32) : (∃ s, s < 8 ∧ x = nI s ∧ ¬ x < 0 ∧ ¬ (8 : Int32) ≤ x ∧ fn_X7_within x 0 7 = some 1) ∨ ((x < 0 ∨ (¬ x < 0 ∧ (8 : Int32) ≤ x)) ∧ fn_X7_within x 0 7 = some 0) := by
  unfold fn_X7_within
  by_cases h0 : x < 0
  · exact Or.inr ⟨Or.inl h0, by rw [if_pos h0]⟩
  · rcases pk_ix x (n := 8) (by omega) with q | q | ⟨w, hw, rfl⟩
    · exact absurd q h0
    · refine Or.inr ⟨Or.inr ⟨h0, q⟩, ?_⟩
      have : (7 : Int32) < x := by
        rw [Int32.lt_iff_toInt_lt]
        have h1 := Int32.le_iff_toInt_le.mp q
        rw [nI_toInt (by omega)] at h1
        have : (7 : Int32).toInt = 7 := by decide
        omega
      rw [if_neg h0, if_pos this]
    · refine Or.inl ⟨w, hw, rfl, h0, by rw [l8]; exact nI_ge hw (by omega), ?_⟩
      rw [if_neg h0, show (7 : Int32) = nI 7 from rfl, if_neg (nI_nlt (by omega) (by omega))]
theorem ws3 (x : Int32) : (x = -1 ∧ fn_X7_within x (-1) 23 = some 1) ∨ (¬ x = -1 ∧ ∃ a, a < 24 ∧ x = nI a ∧ fn_X6_isStroke x = some 1 ∧ fn_X7_within x (-1) 23 = some 1) ∨ (¬ x = -1 ∧ fn_X6_isStroke x = some 0 ∧ fn_X7_within x (-1) 23 = some 0) := by
  by_cases h1 : x = -1
  · exact Or.inl ⟨h1, by rw [h1]; rfl⟩
  · have e1 : (-1 : Int32).toInt = -1 := by decide
    have e2 : (23 : Int32).toInt = 23 := by decide
    have e0 : (0 : Int32).toInt = 0 := by decide
    have e24 : (24 : Int32).toInt = 24 := by decide
    refine Or.inr ?_
    rcases iss x with ⟨a, ha, rfl, g1, g2⟩ | ⟨g1, g2⟩
    · refine Or.inl ⟨h1, a, ha, rfl, g1, ?_⟩
      have h2 := nI_toInt (n := a) (by omega)
      unfold fn_X7_within
      rw [if_neg (by rw [Int32.lt_iff_toInt_lt]; omega), if_neg (by rw [Int32.lt_iff_toInt_lt]; omega)]
    · refine Or.inr ⟨h1, g1, ?_⟩
      have hx : x.toInt ≠ -1 := fun z => h1 (Int32.toInt_inj.mp (by omega))
      unfold fn_X7_within
      unfold fn_X6_isStroke at g1
      by_cases h0 : x < 0
      · have := Int32.lt_iff_toInt_lt.mp h0
        rw [if_pos (by rw [Int32.lt_iff_toInt_lt]; omega)]
      · rw [if_neg h0] at g1
        by_cases h24 : (24 : Int32) ≤ x
        · have := Int32.le_iff_toInt_le.mp h24
          rw [if_neg (by rw [Int32.lt_iff_toInt_lt]; omega), if_pos (by rw [Int32.lt_iff_toInt_lt]; omega)]
        · rw [if_neg h24] at g1
          cases g1
theorem nI_rng {x : Int32} {a b : Nat} (hb : b < 2 ^ 31) (ha : 0 < a) (h1 : ¬ x < nI a) (h2 : x ≤ nI b) (hab : a ≤ b) : ∃ j : Nat, a ≤ j ∧ j ≤ b ∧ x = nI j := by
  have g1 := Int32.le_iff_toInt_le.mp (Int32.not_lt.mp h1)
  have g2 := Int32.le_iff_toInt_le.mp h2
  rw [nI_toInt (by omega)] at g1 g2
  refine ⟨x.toInt.toNat, by omega, by omega, Int32.toInt_inj.mp ?_⟩
  rw [nI_toInt (by omega)]
  omega
def stB : List (Nat × Nat) → (Nat → Int32) → Nat → Int32
  | [], f => f
  | q :: t, f => stB t (upd f q.1 (nI q.2))
def stN : List (Nat × Nat) → (Nat → Int32) → Nat → Int32
  | [], f => f
  | q :: t, f => stN t (upd f (42 + q.1) (nI q.2))
theorem stN_out : ∀ (l : List (Nat × Nat)) (N : Nat → Int32) (x : Nat), (∀ q ∈ l, q.1 < 12) → (x < 42 ∨ 54 ≤ x) → stN l N x = N x
  | [], N, x, _, _ => rfl
  | q :: t, N, x, h, hx => by
    have h1 := h q List.mem_cons_self
    rw [stN, stN_out t _ x (fun z hz => h z (List.mem_cons_of_mem _ hz)) hx, upd_n _ _ (by omega)]
theorem stN_WF : ∀ (l : List (Nat × Nat)) (N : Nat → Int32), (∀ q ∈ l, q.1 < 12 ∧ q.2 < 24) → WF N → WF (stN l N)
  | [], N, _, h => h
  | q :: t, N, hl, h => by
    have h1 := hl q List.mem_cons_self
    rw [stN]
    exact stN_WF t _ (fun z hz => hl z (List.mem_cons_of_mem _ hz)) (WF_brief h h1.1 (Or.inr ⟨q.2, h1.2, rfl⟩))
theorem stB_N : ∀ (l : List (Nat × Nat)) (f N : Nat → Int32), (∀ q ∈ l, q.1 < 12) → (∀ j, j < 12 → f j = N (42 + j)) → ∀ j, j < 12 → stB l f j = stN l N (42 + j)
  | [], f, N, _, h, j, hj => h j hj
  | q :: t, f, N, hl, h, j, hj => by
    rw [stB, stN]
    refine stB_N t _ _ (fun z hz => hl z (List.mem_cons_of_mem _ hz)) (fun i hi => ?_) j hj
    by_cases e : i = q.1
    · subst e
      rw [upd_s, upd_s]
    · rw [upd_n _ _ e, upd_n _ _ (by omega), h i hi]
theorem p_acc_lp {l : List (Nat × Nat)} {wd vl : Nat → Int32} (h12 : l.length ≤ 12) (hl : ∀ q ∈ l, q.1 < 12) (hr : ∀ j q, l[j]? = some q → wd j = nI q.1 ∧ vl j = nI q.2) : ∀ r i n br, i + r = l.length → r < n → lp_X6_acceptProposal_32 (nI l.length) wd vl n (nI i) br = some (stB (l.drop i) br) := by
  intro r
  induction r with
  | zero =>
    intro i n br hi hn
    obtain ⟨n, rfl⟩ : ∃ m, n = m + 1 := ⟨n - 1, by omega⟩
    rw [lp_X6_acceptProposal_32, if_pos (nI_le (by omega) (by omega)), List.drop_eq_nil_of_le (by omega)]
    rfl
  | succ r ih =>
    intro i n br hi hn
    obtain ⟨n, rfl⟩ : ∃ m, n = m + 1 := ⟨n - 1, by omega⟩
    obtain ⟨q, hq⟩ := at_lt (L := l) (j := i) (by omega)
    have hq1 := hl q (List.mem_of_getElem? hq)
    rw [lp_X6_acceptProposal_32, if_neg (nI_ge (by omega) (by omega)), gin (by omega) (by omega), gin (by omega) (by omega), nI_clamp (n := i) (by omega), (hr i q hq).1, (hr i q hq).2, gin hq1 (by omega), nI_clamp (by omega), nI_1, ih (i + 1) n _ (by omega) (by omega), drop_at hq, stB]
theorem m_acc_lp {l : List (Nat × Nat)} {pw pg : Nat → Int32} (h12 : l.length ≤ 12) (hl : ∀ q ∈ l, q.1 < 12) (hr : ∀ j q, l[j]? = some q → pw j = nI q.1 ∧ pg j = nI q.2) : ∀ r i n N, i + r = l.length → r < n → lp_X7_acceptProposal_10 (nI l.length) pw pg n (nI i) N = some (stN (l.drop i) N) := by
  intro r
  induction r with
  | zero =>
    intro i n br hi hn
    obtain ⟨n, rfl⟩ : ∃ m, n = m + 1 := ⟨n - 1, by omega⟩
    rw [lp_X7_acceptProposal_10, if_pos (nI_le (by omega) (by omega)), List.drop_eq_nil_of_le (by omega)]
    rfl
  | succ r ih =>
    intro i n br hi hn
    obtain ⟨n, rfl⟩ : ∃ m, n = m + 1 := ⟨n - 1, by omega⟩
    obtain ⟨q, hq⟩ := at_lt (L := l) (j := i) (by omega)
    have hq1 := hl q (List.mem_of_getElem? hq)
    rw [lp_X7_acceptProposal_10, if_neg (nI_ge (by omega) (by omega)), gin (by omega) (by omega), gin (by omega) (by omega), nI_clamp (n := i) (by omega), (hr i q hq).1, (hr i q hq).2, l42, nI_add, gin (by omega) (by omega), nI_clamp (by omega), nI_1, ih (i + 1) n _ (by omega) (by omega), drop_at hq, stN]
theorem op_setSound {N : Nat → Int32} {hc : Int32} {G0 : GT} {G1 : GT} {G2 : GT} {G3 : GT} {G4 : GT} {pa : Nat → Int32} {tl : Int32} {P : Nat → Int32} {pl : Int32} (h : INVQ N hc G0 G1 G2 G3 G4 pa tl P pl) (E : Nat → Int32) (x1 : Int32) (x2 : Int32) (x3 : Int32) : ∃ (r : Int32) (cF' : Nat → Int32) (cE' : Nat → Int32) (hc' : Int32) (G0' : GT) (G1' : GT) (G2' : GT) (G3' : GT) (G4' : GT) (E' : Nat → Int32) (N' : Nat → Int32) (pa' : Nat → Int32), fn_X6_setSound (N 0) (N 17) (vF N) (vE N) (vS N) (vL N) (vQ N) (vB N) hc G0 G1 G2 G3 G4 E x1 x2 x3 = some (r, cF', cE', hc', G0', G1', G2', G3', G4', E') ∧ fn_X7_setSound hc N pa E x1 x2 x3 = some (r, hc', N', pa', E') ∧ INVP N' cF' cE' (N 0) (N 17) (vS N) (vL N) (vQ N) (vB N) hc' G0' G1' G2' G3' G4' pa' tl P pl := by
  obtain ⟨hc', G0', G1', G2', G3', G4', pa', hs1, hs2, hh⟩ := p_save h.1 h.2.1
  have bad : fn_X6_setSound (N 0) (N 17) (vF N) (vE N) (vS N) (vL N) (vQ N) (vB N) hc G0 G1 G2 G3 G4 E x1 x2 x3 = some (-2, vF N, vE N, hc, G0, G1, G2, G3, G4, bump E 0) → fn_X7_setSound hc N pa E x1 x2 x3 = some (-2, hc, N, pa, bump E 0) → ∃ (r : Int32) (cF' : Nat → Int32) (cE' : Nat → Int32) (hc' : Int32) (G0' : GT) (G1' : GT) (G2' : GT) (G3' : GT) (G4' : GT) (E' : Nat → Int32) (N' : Nat → Int32) (pa' : Nat → Int32), fn_X6_setSound (N 0) (N 17) (vF N) (vE N) (vS N) (vL N) (vQ N) (vB N) hc G0 G1 G2 G3 G4 E x1 x2 x3 = some (r, cF', cE', hc', G0', G1', G2', G3', G4', E') ∧ fn_X7_setSound hc N pa E x1 x2 x3 = some (r, hc', N', pa', E') ∧ INVP N' cF' cE' (N 0) (N 17) (vS N) (vL N) (vQ N) (vB N) hc' G0' G1' G2' G3' G4' pa' tl P pl := fun e1 e2 => ⟨-2, vF N, vE N, hc, G0, G1, G2, G3, G4, bump E 0, N, pa, e1, e2, SR_self N, h⟩
  rcases ws3 x3 with ⟨h3, w3⟩ | ⟨h3, b, hb, h3b, e3, w3⟩ | ⟨h3, e3, w3⟩
  · skip
    rcases ws7 x1 with ⟨s, hs, rfl, q0, q8, w1⟩ | ⟨qb, w1⟩
    · rcases iss x2 with ⟨a, ha, rfl, e1, e2⟩ | ⟨e1, e2⟩
      · refine ⟨N (1 + s), upd (vF N) s (nI a), upd (vE N) s x3, hc', G0', G1', G2', G3', G4', E, upd (upd N (1 + s) (nI a)) (9 + s) x3, pa', ?_, ?_, ?_, ?_, hh, h.2.2⟩
        · unfold fn_X6_setSound
          rw [if_pos h3, if_neg q0, if_neg q8, e1, obs, if_neg (by decide), hs1, obs, gin hs (by omega), gin hs (by omega), gin hs (by omega), nI_clamp (by omega)]
        · unfold fn_X7_setSound
          rw [w1, obs, if_neg (by decide), e2, obs, if_neg (by decide), w3, obs, if_neg (by decide), hs2, obs, l1, nI_add, gin (by omega) (by omega), gin (by omega) (by omega), l9, nI_add, gin (by omega) (by omega), nI_clamp (by omega), nI_clamp (by omega)]
        · refine ⟨fun j hj => ?_, fun j hj => ?_, by rw [upd_n _ _ (by omega), upd_n _ _ (by omega)], by rw [upd_n _ _ (by omega), upd_n _ _ (by omega)], fun j hj => by rw [upd_n _ _ (by omega), upd_n _ _ (by omega)], fun j hj => by rw [upd_n _ _ (by omega), upd_n _ _ (by omega)], fun j hj => by rw [upd_n _ _ (by omega), upd_n _ _ (by omega)], fun j hj => by rw [upd_n _ _ (by omega), upd_n _ _ (by omega)]⟩
          · by_cases e : j = s
            · subst e
              rw [upd_s, upd_n _ _ (by omega), upd_s]
            · rw [upd_n _ _ e, upd_n _ _ (by omega), upd_n _ _ (by omega)]
          · by_cases e : j = s
            · subst e
              rw [upd_s, upd_s]
            · rw [upd_n _ _ e, upd_n _ _ (by omega), upd_n _ _ (by omega)]
        · obtain ⟨h1, h2, h3x, h4, h5⟩ := WF_x h.1
          refine WF_of (c := cn N) ⟨by rw [upd_n _ _ (by omega), upd_n _ _ (by omega)]; exact h1, h2, fun u hu => ?_, fun u hu => ?_, fun u hu => ?_⟩
          · rw [upd_n _ _ (by omega)]
            by_cases e : u = s
            · subst e
              rw [upd_s]
              exact ⟨a, ha, rfl⟩
            · rw [upd_n _ _ (by omega)]
              exact h3x u hu
          · by_cases e : u = s
            · subst e
              rw [upd_s]
              exact Or.inl h3
            · rw [upd_n _ _ (by omega), upd_n _ _ (by omega)]
              exact h4 u hu
          · obtain ⟨⟨l, g1, g2, g3, g4⟩, ⟨f, g5, g6, g7⟩, g8⟩ := h5 u hu
            exact ⟨⟨l, g1, g2, by rw [upd_n _ _ (by omega), upd_n _ _ (by omega)]; exact g3, fun i hi => by rw [upd_n _ _ (by omega), upd_n _ _ (by omega)]; exact g4 i hi⟩, ⟨f, g5, g6, by rw [upd_n _ _ (by omega), upd_n _ _ (by omega)]; exact g7⟩, by rw [upd_n _ _ (by omega), upd_n _ _ (by omega)]; exact g8⟩
      · refine bad ?_ ?_
        · unfold fn_X6_setSound
          rw [if_pos h3, if_neg q0, if_neg q8, e1, obs, if_pos rfl, fl2, obs]
        · unfold fn_X7_setSound
          rw [w1, obs, if_neg (by decide), e2, obs, if_pos rfl, ml2, obs]
    · refine bad ?_ ?_
      · unfold fn_X6_setSound
        rcases qb with q | ⟨q, q2⟩
        · rw [if_pos h3, if_pos q, fl2, obs]
        · rw [if_pos h3, if_neg q, if_pos q2, fl2, obs]
      · unfold fn_X7_setSound
        rw [w1, obs, if_pos rfl, ml2, obs]
  · skip
    rcases ws7 x1 with ⟨s, hs, rfl, q0, q8, w1⟩ | ⟨qb, w1⟩
    · rcases iss x2 with ⟨a, ha, rfl, e1, e2⟩ | ⟨e1, e2⟩
      · refine ⟨N (1 + s), upd (vF N) s (nI a), upd (vE N) s x3, hc', G0', G1', G2', G3', G4', E, upd (upd N (1 + s) (nI a)) (9 + s) x3, pa', ?_, ?_, ?_, ?_, hh, h.2.2⟩
        · unfold fn_X6_setSound
          rw [if_neg h3, e3, obs, if_neg (by decide), if_neg q0, if_neg q8, e1, obs, if_neg (by decide), hs1, obs, gin hs (by omega), gin hs (by omega), gin hs (by omega), nI_clamp (by omega)]
        · unfold fn_X7_setSound
          rw [w1, obs, if_neg (by decide), e2, obs, if_neg (by decide), w3, obs, if_neg (by decide), hs2, obs, l1, nI_add, gin (by omega) (by omega), gin (by omega) (by omega), l9, nI_add, gin (by omega) (by omega), nI_clamp (by omega), nI_clamp (by omega)]
        · refine ⟨fun j hj => ?_, fun j hj => ?_, by rw [upd_n _ _ (by omega), upd_n _ _ (by omega)], by rw [upd_n _ _ (by omega), upd_n _ _ (by omega)], fun j hj => by rw [upd_n _ _ (by omega), upd_n _ _ (by omega)], fun j hj => by rw [upd_n _ _ (by omega), upd_n _ _ (by omega)], fun j hj => by rw [upd_n _ _ (by omega), upd_n _ _ (by omega)], fun j hj => by rw [upd_n _ _ (by omega), upd_n _ _ (by omega)]⟩
          · by_cases e : j = s
            · subst e
              rw [upd_s, upd_n _ _ (by omega), upd_s]
            · rw [upd_n _ _ e, upd_n _ _ (by omega), upd_n _ _ (by omega)]
          · by_cases e : j = s
            · subst e
              rw [upd_s, upd_s]
            · rw [upd_n _ _ e, upd_n _ _ (by omega), upd_n _ _ (by omega)]
        · obtain ⟨h1, h2, h3x, h4, h5⟩ := WF_x h.1
          refine WF_of (c := cn N) ⟨by rw [upd_n _ _ (by omega), upd_n _ _ (by omega)]; exact h1, h2, fun u hu => ?_, fun u hu => ?_, fun u hu => ?_⟩
          · rw [upd_n _ _ (by omega)]
            by_cases e : u = s
            · subst e
              rw [upd_s]
              exact ⟨a, ha, rfl⟩
            · rw [upd_n _ _ (by omega)]
              exact h3x u hu
          · by_cases e : u = s
            · subst e
              rw [upd_s]
              exact Or.inr ⟨b, hb, h3b⟩
            · rw [upd_n _ _ (by omega), upd_n _ _ (by omega)]
              exact h4 u hu
          · obtain ⟨⟨l, g1, g2, g3, g4⟩, ⟨f, g5, g6, g7⟩, g8⟩ := h5 u hu
            exact ⟨⟨l, g1, g2, by rw [upd_n _ _ (by omega), upd_n _ _ (by omega)]; exact g3, fun i hi => by rw [upd_n _ _ (by omega), upd_n _ _ (by omega)]; exact g4 i hi⟩, ⟨f, g5, g6, by rw [upd_n _ _ (by omega), upd_n _ _ (by omega)]; exact g7⟩, by rw [upd_n _ _ (by omega), upd_n _ _ (by omega)]; exact g8⟩
      · refine bad ?_ ?_
        · unfold fn_X6_setSound
          rw [if_neg h3, e3, obs, if_neg (by decide), if_neg q0, if_neg q8, e1, obs, if_pos rfl, fl2, obs]
        · unfold fn_X7_setSound
          rw [w1, obs, if_neg (by decide), e2, obs, if_pos rfl, ml2, obs]
    · refine bad ?_ ?_
      · unfold fn_X6_setSound
        rcases qb with q | ⟨q, q2⟩
        · rw [if_neg h3, e3, obs, if_neg (by decide), if_pos q, fl2, obs]
        · rw [if_neg h3, e3, obs, if_neg (by decide), if_neg q, if_pos q2, fl2, obs]
      · unfold fn_X7_setSound
        rw [w1, obs, if_pos rfl, ml2, obs]
  · refine bad ?_ ?_
    · unfold fn_X6_setSound
      rw [if_neg h3, e3, obs, if_pos rfl]
      rcases ws7 x1 with ⟨s, hs, rfl, q0, q8, w1⟩ | ⟨q | ⟨q, q2⟩, w1⟩
      · rw [if_neg q0, if_neg q8]
        rcases iss x2 with ⟨a, ha, rfl, e1, e2⟩ | ⟨e1, e2⟩
        · rw [e1, obs, if_neg (by decide), fl2, obs]
        · rw [e1, obs, if_pos rfl, fl2, obs]
      · rw [if_pos q, fl2, obs]
      · rw [if_neg q, if_pos q2, fl2, obs]
    · unfold fn_X7_setSound
      rcases ws7 x1 with ⟨s, hs, rfl, q0, q8, w1⟩ | ⟨q, w1⟩
      · rw [w1, obs, if_neg (by decide)]
        rcases iss x2 with ⟨a, ha, rfl, e1, e2⟩ | ⟨e1, e2⟩
        · rw [e2, obs, if_neg (by decide), w3, obs, if_pos rfl, ml2, obs]
        · rw [e2, obs, if_pos rfl, ml2, obs]
      · rw [w1, obs, if_pos rfl, ml2, obs]
theorem op_setVowels {N : Nat → Int32} {hc : Int32} {G0 : GT} {G1 : GT} {G2 : GT} {G3 : GT} {G4 : GT} {pa : Nat → Int32} {tl : Int32} {P : Nat → Int32} {pl : Int32} (h : INVQ N hc G0 G1 G2 G3 G4 pa tl P pl) (E : Nat → Int32) (x1 : Int32) : ∃ (r : Int32) (vo' : Int32) (hc' : Int32) (G0' : GT) (G1' : GT) (G2' : GT) (G3' : GT) (G4' : GT) (E' : Nat → Int32) (N' : Nat → Int32) (pa' : Nat → Int32), fn_X6_setVowels (N 0) (N 17) (vF N) (vE N) (vS N) (vL N) (vQ N) (vB N) hc G0 G1 G2 G3 G4 E x1 = some (r, vo', hc', G0', G1', G2', G3', G4', E') ∧ fn_X7_setVowels hc N pa E x1 = some (r, hc', N', pa', E') ∧ INVP N' (vF N) (vE N) vo' (N 17) (vS N) (vL N) (vQ N) (vB N) hc' G0' G1' G2' G3' G4' pa' tl P pl := by
  obtain ⟨hc', G0', G1', G2', G3', G4', pa', hs1, hs2, hh⟩ := p_save h.1 h.2.1
  by_cases h0 : x1 < 0
  · refine ⟨-2, N 0, hc, G0, G1, G2, G3, G4, bump E 0, N, pa, ?_, ?_, SR_self N, h⟩
    · unfold fn_X6_setVowels
      rw [if_pos h0, fl2, obs]
    · unfold fn_X7_setVowels fn_X7_within
      rw [if_pos h0, obs, if_pos rfl, ml2, obs]
  · by_cases h1 : x1 ≤ (255 : Int32)
    · refine ⟨N 0, x1, hc', G0', G1', G2', G3', G4', E, upd N 0 x1, pa', ?_, ?_, ?_, ?_, hh, h.2.2⟩
      · unfold fn_X6_setVowels
        rw [if_neg h0, if_pos h1, hs1, obs]
      · unfold fn_X7_setVowels fn_X7_within
        rw [if_neg h0, if_neg (Int32.not_lt.mpr h1), obs, if_neg (by decide), hs2, obs, sb_cl0]
      · exact ⟨fun j hj => by rw [upd_n _ _ (by omega)], fun j hj => by rw [upd_n _ _ (by omega)], by rw [upd_s], by rw [upd_n _ _ (by omega)], fun j hj => by rw [upd_n _ _ (by omega)], fun j hj => by rw [upd_n _ _ (by omega)], fun j hj => by rw [upd_n _ _ (by omega)], fun j hj => by rw [upd_n _ _ (by omega)]⟩
      · obtain ⟨g1, g2, g3, g4, g5⟩ := WF_x h.1
        refine WF_of (c := cn N) ⟨by rw [upd_n _ _ (by omega)]; exact g1, g2, fun s hs => by rw [upd_n _ _ (by omega)]; exact g3 s hs, fun s hs => by rw [upd_n _ _ (by omega)]; exact g4 s hs, fun u hu => ?_⟩
        obtain ⟨⟨l, k1, k2, k3, k4⟩, ⟨f, k5, k6, k7⟩, k8⟩ := g5 u hu
        exact ⟨⟨l, k1, k2, by rw [upd_n _ _ (by omega)]; exact k3, fun i hi => by rw [upd_n _ _ (by omega)]; exact k4 i hi⟩, ⟨f, k5, k6, by rw [upd_n _ _ (by omega)]; exact k7⟩, by rw [upd_n _ _ (by omega)]; exact k8⟩
    · refine ⟨-2, N 0, hc, G0, G1, G2, G3, G4, bump E 0, N, pa, ?_, ?_, SR_self N, h⟩
      · unfold fn_X6_setVowels
        rw [if_neg h0, if_neg h1, fl2, obs]
      · unfold fn_X7_setVowels fn_X7_within
        rw [if_neg h0, if_pos (Int32.not_le.mp h1), obs, if_pos rfl, ml2, obs]
theorem op_setBrief {N : Nat → Int32} {hc : Int32} {G0 : GT} {G1 : GT} {G2 : GT} {G3 : GT} {G4 : GT} {pa : Nat → Int32} {tl : Int32} {P : Nat → Int32} {pl : Int32} (h : INVQ N hc G0 G1 G2 G3 G4 pa tl P pl) (E : Nat → Int32) (m1 : Nat → Int32) (m2 : Int32) (x1 : Int32) (x2 : Int32) : ∃ (r : Int32) (cB' : Nat → Int32) (hc' : Int32) (G0' : GT) (G1' : GT) (G2' : GT) (G3' : GT) (G4' : GT) (E' : Nat → Int32) (m2' : Int32) (N' : Nat → Int32) (pa' : Nat → Int32) (m1' : Nat → Int32), fn_X6_setBrief (N 0) (N 17) (vF N) (vE N) (vS N) (vL N) (vQ N) (vB N) hc G0 G1 G2 G3 G4 E x1 x2 = some (r, cB', hc', G0', G1', G2', G3', G4', E') ∧ fn_X7_setBrief hc m2 N pa E m1 x1 x2 = some (r, hc', m2', N', pa', E', m1') ∧ INVP N' (vF N) (vE N) (N 0) (N 17) (vS N) (vL N) (vQ N) cB' hc' G0' G1' G2' G3' G4' pa' tl P pl := by
  obtain ⟨hc', G0', G1', G2', G3', G4', pa', hs1, hs2, hh⟩ := p_save h.1 h.2.1
  have h12 := h.1.1.2
  rcases isw h.1 x1 with ⟨w, hw, rfl, e1, e2⟩ | ⟨e1, e2⟩
  · rcases iss x2 with ⟨a, ha, rfl, e3, e4⟩ | ⟨e3, e4⟩
    · obtain ⟨v', m', hf⟩ := m_isFree (w := w) (st := a) (by omega) ha h.1 m2 m1
      have hp := p_isFree (w := w) (st := a) (by omega) h.1
      cases hfr : frb N w a (cn N) 0 with
      | true =>
        rw [hfr] at hf hp
        refine ⟨N (42 + w), upd (vB N) w (nI a), hc', G0', G1', G2', G3', G4', E, v', upd N (42 + w) (nI a), pa', m', ?_, ?_, SR_brief N (nI a) (by omega), WF_brief h.1 (by omega) (Or.inr ⟨a, ha, rfl⟩), hh, h.2.2⟩
        · unfold fn_X6_setBrief
          rw [e1, obs, if_neg (by decide), e3, obs, if_neg (by decide), hp, obs, if_neg (by decide), hs1, obs, gin (by omega) (by omega), gin (by omega) (by omega), nI_clamp (by omega)]
        · unfold fn_X7_setBrief
          rw [e2, obs, if_neg (by decide), e4, obs, if_neg (by decide), hf, obs, if_neg (show ¬ ((if true = true then (1 : Int32) else 0), v', m').1 = 0 from (by decide : ¬ (if true = true then (1 : Int32) else 0) = 0)), hs2, obs, l42, nI_add, gin (by omega) (by omega), gin (by omega) (by omega), nI_clamp (by omega)]
      | false =>
        rw [hfr] at hf hp
        refine ⟨-3, vB N, hc, G0, G1, G2, G3, G4, bump E 1, v', N, pa, m', ?_, ?_, SR_self N, h⟩
        · unfold fn_X6_setBrief
          rw [e1, obs, if_neg (by decide), e3, obs, if_neg (by decide), hp, obs, if_pos (show (if false = true then (1 : Int32) else 0) = 0 from rfl), fl3, obs]
        · unfold fn_X7_setBrief
          rw [e2, obs, if_neg (by decide), e4, obs, if_neg (by decide), hf, obs, if_pos (show ((if false = true then (1 : Int32) else 0), v', m').1 = 0 from rfl), ml3, obs]
    · refine ⟨-2, vB N, hc, G0, G1, G2, G3, G4, bump E 0, m2, N, pa, m1, ?_, ?_, SR_self N, h⟩
      · unfold fn_X6_setBrief
        rw [e1, obs, if_neg (by decide), e3, obs, if_pos rfl, fl2, obs]
      · unfold fn_X7_setBrief
        rw [e2, obs, if_neg (by decide), e4, obs, if_pos rfl, ml2, obs]
  · refine ⟨-2, vB N, hc, G0, G1, G2, G3, G4, bump E 0, m2, N, pa, m1, ?_, ?_, SR_self N, h⟩
    · unfold fn_X6_setBrief
      rw [e1, obs, if_pos rfl, fl2, obs]
    · unfold fn_X7_setBrief
      rw [e2, obs, if_pos rfl, ml2, obs]
theorem op_clearBrief {N : Nat → Int32} {hc : Int32} {G0 : GT} {G1 : GT} {G2 : GT} {G3 : GT} {G4 : GT} {pa : Nat → Int32} {tl : Int32} {P : Nat → Int32} {pl : Int32} (h : INVQ N hc G0 G1 G2 G3 G4 pa tl P pl) (E : Nat → Int32) (x1 : Int32) : ∃ (r : Int32) (cB' : Nat → Int32) (hc' : Int32) (G0' : GT) (G1' : GT) (G2' : GT) (G3' : GT) (G4' : GT) (E' : Nat → Int32) (N' : Nat → Int32) (pa' : Nat → Int32), fn_X6_clearBrief (N 0) (N 17) (vF N) (vE N) (vS N) (vL N) (vQ N) (vB N) hc G0 G1 G2 G3 G4 E x1 = some (r, cB', hc', G0', G1', G2', G3', G4', E') ∧ fn_X7_clearBrief hc N pa E x1 = some (r, hc', N', pa', E') ∧ INVP N' (vF N) (vE N) (N 0) (N 17) (vS N) (vL N) (vQ N) cB' hc' G0' G1' G2' G3' G4' pa' tl P pl := by
  obtain ⟨hc', G0', G1', G2', G3', G4', pa', hs1, hs2, hh⟩ := p_save h.1 h.2.1
  have h12 := h.1.1.2
  rcases isw h.1 x1 with ⟨w, hw, rfl, e1, e2⟩ | ⟨e1, e2⟩
  · by_cases hb : N (42 + w) = -1
    · refine ⟨-3, vB N, hc, G0, G1, G2, G3, G4, bump E 1, N, pa, ?_, ?_, SR_self N, h⟩
      · unfold fn_X6_clearBrief
        rw [e1, obs, if_neg (by decide), gin (by omega) (by omega), nI_clamp (by omega), vBa, if_pos hb, fl3, obs]
      · unfold fn_X7_clearBrief
        rw [e2, obs, if_neg (by decide), l42, nI_add, gin (by omega) (by omega), nI_clamp (by omega), if_pos hb, ml3, obs]
    · refine ⟨N (42 + w), upd (vB N) w (-1), hc', G0', G1', G2', G3', G4', E, upd N (42 + w) (-1), pa', ?_, ?_, SR_brief N (-1) (by omega), WF_brief h.1 (by omega) (Or.inl rfl), hh, h.2.2⟩
      · unfold fn_X6_clearBrief
        rw [e1, obs, if_neg (by decide), gin (by omega) (by omega), nI_clamp (by omega), vBa, if_neg hb, hs1, obs, gin (by omega) (by omega)]
      · unfold fn_X7_clearBrief
        rw [e2, obs, if_neg (by decide), l42, nI_add, gin (by omega) (by omega), nI_clamp (by omega), if_neg hb, hs2, obs, gin (by omega) (by omega)]
  · refine ⟨-2, vB N, hc, G0, G1, G2, G3, G4, bump E 0, N, pa, ?_, ?_, SR_self N, h⟩
    · unfold fn_X6_clearBrief
      rw [e1, obs, if_pos rfl, fl2, obs]
    · unfold fn_X7_clearBrief
      rw [e2, obs, if_pos rfl, ml2, obs]
theorem op_acceptProposal {N : Nat → Int32} {hc : Int32} {G0 : GT} {G1 : GT} {G2 : GT} {G3 : GT} {G4 : GT} {pa : Nat → Int32} {tl : Int32} {P : Nat → Int32} {pl : Int32} (h : INVQ N hc G0 G1 G2 G3 G4 pa tl P pl) (q1 : Int32) (q2 : Nat → Int32) (q3 : Nat → Int32) (q4 : Nat → Int32) (q5 : Int32) (q6 : Nat → Int32) (q7 : Nat → Int32) (q8 : Nat → Int32) (q9 : Nat → Int32) (m1 : Nat → Int32) (m2 : Int32) (m3 : Nat → Int32) (m4 : Nat → Int32) (m5 : Int32) : ∃ (r : Int32) (cB' : Nat → Int32) (hc' : Int32) (G0' : GT) (G1' : GT) (G2' : GT) (G3' : GT) (G4' : GT) (q1' : Int32) (q2' : Nat → Int32) (q3' : Nat → Int32) (q4' : Nat → Int32) (q5' : Int32) (q6' : Nat → Int32) (q7' : Nat → Int32) (q8' : Nat → Int32) (q9' : Nat → Int32) (m2' : Int32) (m5' : Int32) (N' : Nat → Int32) (pa' : Nat → Int32) (m1' : Nat → Int32) (m3' : Nat → Int32) (m4' : Nat → Int32), fn_X6_acceptProposal (N 0) (N 17) (vF N) (vE N) (vS N) (vL N) (vQ N) (vB N) hc G0 G1 G2 G3 G4 q1 q2 q3 q4 q5 q6 q7 q8 q9 = some (r, cB', hc', G0', G1', G2', G3', G4', q1', q2', q3', q4', q5', q6', q7', q8', q9') ∧ fn_X7_acceptProposal hc m2 m5 N pa m1 m3 m4 = some (r, hc', m2', m5', N', pa', m1', m3', m4') ∧ INVP N' (vF N) (vE N) (N 0) (N 17) (vS N) (vL N) (vQ N) cB' hc' G0' G1' G2' G3' G4' pa' tl P pl := by
  obtain ⟨hc', G0', G1', G2', G3', G4', pa', hs1, hs2, hh⟩ := p_save h.1 h.2.1
  obtain ⟨wd, vl, wt, c1, c2, c3, tk, hc1, hr⟩ := p_make h.1 q1 q5 q2 q3 q4 q6 q7 q8 q9
  obtain ⟨v', m', hm⟩ := m_prop h.1 m2 m5 m1 m3 m4
  have h12 := h.1.1.2
  have hcd := cds_ok N
  have hlen : (prp N).length ≤ 12 := by
    have := asg_len (cds N) (fun s => !fr0 N s)
    unfold prp
    omega
  have hl : ∀ q ∈ prp N, q.1 < 12 ∧ q.2 < 24 := fun q hq => by
    have h1 := asg_ok _ _ q hq
    have h2 := (hcd.2.2 q.1).mp h1.1
    exact ⟨by omega, h1.2⟩
  have e1 := p_acc_lp (wd := wd) (vl := vl) hlen (fun q hq => (hl q hq).1) (fun j q hj => by
    have := hr j (trc q) (by rw [List.getElem?_map, hj]; rfl)
    exact ⟨this.1, this.2.1⟩) (prp N).length 0 1024 (vB N) (by omega) (by omega)
  have e2 := m_acc_lp (pw := putL m3 0 ((prp N).map (fun q => nI q.1))) (pg := putL m4 0 ((prp N).map (fun q => nI q.2))) hlen (fun q hq => (hl q hq).1) (fun j q hj => ⟨put_row (by rw [List.getElem?_map, hj]; rfl), put_row (by rw [List.getElem?_map, hj]; rfl)⟩) (prp N).length 0 1024 N (by omega) (by omega)
  rw [List.drop_zero] at e1 e2
  have ho := fun x hx => stN_out (prp N) N x (fun q hq => (hl q hq).1) hx
  refine ⟨nI (prp N).length, stB (prp N) (vB N), hc', G0', G1', G2', G3', G4', nI (prp N).length, wd, vl, wt, nI (cds N).length, c1, c2, c3, tk, v', nI (prp N).length, stN (prp N) N, pa', m', putL m3 0 ((prp N).map (fun q => nI q.1)), putL m4 0 ((prp N).map (fun q => nI q.2)), ?_, ?_, ?_, stN_WF _ _ hl h.1, hh, h.2.2⟩
  · unfold fn_X6_acceptProposal
    rw [hs1, obs, hc1, obs]
    show Option.bind (lp_X6_acceptProposal_32 (nI (prp N).length) wd vl 1024 (nI 0) (vB N)) _ = _
    rw [e1, obs]
  · unfold fn_X7_acceptProposal
    rw [hs2, obs, hm, obs]
    show Option.bind (lp_X7_acceptProposal_10 (nI (prp N).length) (putL m3 0 ((prp N).map (fun q => nI q.1))) (putL m4 0 ((prp N).map (fun q => nI q.2))) 1024 (nI 0) N) _ = _
    rw [e2, obs]
  · exact ⟨fun j hj => (ho _ (by omega)).symm, fun j hj => (ho _ (by omega)).symm, (ho _ (by omega)).symm, (ho _ (by omega)).symm, fun j hj => (ho _ (by omega)).symm, fun j hj => (ho _ (by omega)).symm, fun j hj => (ho _ (by omega)).symm, stB_N _ _ _ (fun q hq => (hl q hq).1) (fun j _ => rfl)⟩
theorem op_undo {N : Nat → Int32} {hc : Int32} {G0 : GT} {G1 : GT} {G2 : GT} {G3 : GT} {G4 : GT} {pa : Nat → Int32} {tl : Int32} {P : Nat → Int32} {pl : Int32} (h : INVQ N hc G0 G1 G2 G3 G4 pa tl P pl) (E : Nat → Int32) : ∃ (r : Int32) (vo' : Int32) (wc' : Int32) (cF' : Nat → Int32) (cE' : Nat → Int32) (cS' : Nat → Int32) (cL' : Nat → Int32) (cQ' : Nat → Int32) (cB' : Nat → Int32) (hc' : Int32) (E' : Nat → Int32) (N' : Nat → Int32), fn_X6_undo (N 0) (N 17) (vF N) (vE N) (vS N) (vL N) (vQ N) (vB N) hc G0 G1 G2 G3 G4 E = some (r, vo', wc', cF', cE', cS', cL', cQ', cB', hc', E') ∧ fn_X7_undo hc N pa E = some (r, hc', N', E') ∧ INVP N' cF' cE' vo' wc' cS' cL' cQ' cB' hc' G0 G1 G2 G3 G4 pa tl P pl := by
  obtain ⟨k, Rw, rfl, hk, hr⟩ := h.2.1
  cases k with
  | zero =>
    refine ⟨-5, N 0, N 17, vF N, vE N, vS N, vL N, vQ N, vB N, nI 0, bump E 3, N, ?_, ?_, SR_self N, h⟩
    · unfold fn_X6_undo
      rw [if_pos (show nI 0 = 0 from rfl), fl5, obs]
    · unfold fn_X7_undo
      rw [if_pos (show nI 0 = 0 from rfl), ml5, obs]
  | succ k =>
    obtain ⟨N', cF', cE', vo', wc', cS', cL', cQ', cB', e1, e2, hw, hs, hh⟩ := p_undo (N := N) (k := k) (by omega) hr (N 0) (N 17) (vF N) (vE N) (vS N) (vL N) (vQ N) (vB N)
    refine ⟨nI k, vo', wc', cF', cE', cS', cL', cQ', cB', nI k, E, N', ?_, ?_, hs, hw, ⟨k, Rw, rfl, by omega, hh⟩, h.2.2⟩
    · unfold fn_X6_undo
      rw [if_neg (nI_ne0 (by omega) (by omega)), e1, obs]
    · unfold fn_X7_undo
      rw [if_neg (nI_ne0 (by omega) (by omega)), l1, pk_sub (by omega), Nat.add_sub_cancel, e2, obs]
