/-! the law's invariant; saving and undoing -/
def SR (N cF cE : Nat → Int32) (vo wc : Int32) (cS cL cQ cB : Nat → Int32) : Prop := (∀ j, j < 8 → cF j = N (1 + j)) ∧ (∀ j, j < 8 → cE j = N (9 + j)) ∧ vo = N 0 ∧ wc = N 17 ∧ (∀ j, j < 96 → cS j = N (54 + j)) ∧ (∀ j, j < 12 → cL j = N (18 + j)) ∧ (∀ j, j < 12 → cQ j = N (30 + j)) ∧ ∀ j, j < 12 → cB j = N (42 + j)
def GR (G : GT) (R : Nat → Int32) : Prop := SR R G.2.1 G.2.2.1 G.2.2.2.1 G.2.2.2.2.1 G.2.2.2.2.2.1 G.2.2.2.2.2.2.1 G.2.2.2.2.2.2.2.1 G.2.2.2.2.2.2.2.2
def gsel (G0 G1 G2 G3 G4 : GT) (i : Nat) : GT := match i with
  | 0 => G0
  | 1 => G1
  | 2 => G2
  | 3 => G3
  | _ => G4
def HSk (k : Nat) (Rw : Nat → Nat → Int32) (G0 G1 G2 G3 G4 : GT) (pa : Nat → Int32) : Prop := ∀ i, i < k → WF (Rw i) ∧ GR (gsel G0 G1 G2 G3 G4 i) (Rw i) ∧ ∀ j, j < 150 → pa (150 * i + j) = Rw i j
def HS (hc : Int32) (G0 G1 G2 G3 G4 : GT) (pa : Nat → Int32) : Prop := ∃ (k : Nat) (Rw : Nat → Nat → Int32), hc = nI k ∧ k ≤ 5 ∧ HSk k Rw G0 G1 G2 G3 G4 pa
def INVQ (N : Nat → Int32) (hc : Int32) (G0 G1 G2 G3 G4 : GT) (pa : Nat → Int32) (tl : Int32) (P : Nat → Int32) (pl : Int32) : Prop := WF N ∧ HS hc G0 G1 G2 G3 G4 pa ∧ (∃ a : Nat, a ≤ 8 ∧ tl = nI a) ∧ ∃ b : Nat, pl = nI b ∧ PadOK P b
def INVP (N cF cE : Nat → Int32) (vo wc : Int32) (cS cL cQ cB : Nat → Int32) (hc : Int32) (G0 G1 G2 G3 G4 : GT) (pa : Nat → Int32) (tl : Int32) (P : Nat → Int32) (pl : Int32) : Prop := SR N cF cE vo wc cS cL cQ cB ∧ INVQ N hc G0 G1 G2 G3 G4 pa tl P pl
theorem SR_self (N : Nat → Int32) : SR N (vF N) (vE N) (N 0) (N 17) (vS N) (vL N) (vQ N) (vB N) := ⟨fun _ _ => rfl, fun _ _ => rfl, rfl, rfl, fun _ _ => rfl, fun _ _ => rfl, fun _ _ => rfl, fun _ _ => rfl⟩
theorem WF_congr {N M : Nat → Int32} (e : ∀ j, j < 150 → N j = M j) (h : WF M) : WF N := by
  have ec : cn N = cn M := by unfold cn; rw [e 17 (by omega)]
  obtain ⟨⟨h1, h2⟩, h3, h4, h5⟩ := h
  refine ⟨⟨by rw [ec, e 17 (by omega)]; exact h1, by omega⟩, fun s hs => ?_, fun s hs => by rw [e (9 + s) (by omega)]; exact h4 s hs, fun w hw => ?_⟩
  · have : fs N s = fs M s := by unfold fs; rw [e (1 + s) (by omega)]
    rw [this, e (1 + s) (by omega)]
    exact h3 s hs
  · rw [ec] at hw
    obtain ⟨g1, g2, g3, g4⟩ := h5 w hw
    have e1 : ln N w = ln M w := by unfold ln; rw [e (18 + w) (by omega)]
    have e2 : fq N w = fq M w := by unfold fq; rw [e (30 + w) (by omega)]
    refine ⟨by rw [e1, e (18 + w) (by omega)]; exact g1, by rw [e2, e (30 + w) (by omega)]; exact g2, by rw [e (42 + w) (by omega)]; exact g3, fun i hi => ?_⟩
    rw [e1] at hi
    have e3 : sd N w i = sd M w i := by unfold sd; rw [e (54 + (8 * w + i)) (by omega)]
    rw [e3, e (54 + (8 * w + i)) (by omega)]
    exact g4 i hi
theorem SR_congr {N M cF cE : Nat → Int32} {vo wc : Int32} {cS cL cQ cB : Nat → Int32} (e : ∀ j, j < 150 → N j = M j) (h : SR M cF cE vo wc cS cL cQ cB) : SR N cF cE vo wc cS cL cQ cB := by
  obtain ⟨h1, h2, h3, h4, h5, h6, h7, h8⟩ := h
  exact ⟨fun j hj => by rw [e _ (by omega)]; exact h1 j hj, fun j hj => by rw [e _ (by omega)]; exact h2 j hj, by rw [e _ (by omega)]; exact h3, by rw [e _ (by omega)]; exact h4, fun j hj => by rw [e _ (by omega)]; exact h5 j hj, fun j hj => by rw [e _ (by omega)]; exact h6 j hj, fun j hj => by rw [e _ (by omega)]; exact h7 j hj, fun j hj => by rw [e _ (by omega)]; exact h8 j hj⟩
/-- what copyFrom makes of any state -/
theorem SR_cpy {N cF cE : Nat → Int32} {vo wc : Int32} {cS cL cQ cB : Nat → Int32} (h : SR N cF cE vo wc cS cL cQ cB) (f1 f2 f3 f4 f5 f6 : Nat → Int32) : SR N (va_cpy cF f1 (0 : Int32).toNatClampNeg (0 : Int32).toNatClampNeg (8 : Int32).toNatClampNeg) (va_cpy cE f2 (0 : Int32).toNatClampNeg (0 : Int32).toNatClampNeg (8 : Int32).toNatClampNeg) vo wc (va_cpy cS f3 (0 : Int32).toNatClampNeg (0 : Int32).toNatClampNeg (96 : Int32).toNatClampNeg) (va_cpy cL f4 (0 : Int32).toNatClampNeg (0 : Int32).toNatClampNeg (12 : Int32).toNatClampNeg) (va_cpy cQ f5 (0 : Int32).toNatClampNeg (0 : Int32).toNatClampNeg (12 : Int32).toNatClampNeg) (va_cpy cB f6 (0 : Int32).toNatClampNeg (0 : Int32).toNatClampNeg (12 : Int32).toNatClampNeg) := by
  obtain ⟨h1, h2, h3, h4, h5, h6, h7, h8⟩ := h
  rw [sb_cl0, show (8 : Int32).toNatClampNeg = 8 from rfl, show (96 : Int32).toNatClampNeg = 96 from rfl, show (12 : Int32).toNatClampNeg = 12 from rfl]
  exact ⟨fun j hj => (sb_cpy0 hj).trans (h1 j hj), fun j hj => (sb_cpy0 hj).trans (h2 j hj), h3, h4, fun j hj => (sb_cpy0 hj).trans (h5 j hj), fun j hj => (sb_cpy0 hj).trans (h6 j hj), fun j hj => (sb_cpy0 hj).trans (h7 j hj), fun j hj => (sb_cpy0 hj).trans (h8 j hj)⟩
theorem m_cpy_lp {N : Nat → Int32} {k : Nat} (hk : k < 5) : ∀ r i n pa, i + r = 150 → r < n → ∃ pa', lp_X7_saves_51 (nI k) N n (nI i) pa = some pa' ∧ (∀ j, i ≤ j → j < 150 → pa' (150 * k + j) = N j) ∧ ∀ x, (x < 150 * k + i ∨ 150 * k + 150 ≤ x) → pa' x = pa x := by
  intro r
  induction r with
  | zero =>
    intro i n pa hi hn
    obtain ⟨n, rfl⟩ : ∃ m, n = m + 1 := ⟨n - 1, by omega⟩
    refine ⟨pa, ?_, fun j h1 h2 => by omega, fun _ _ => rfl⟩
    rw [lp_X7_saves_51, l150, if_pos (nI_le (by omega) (by omega))]
  | succ r ih =>
    intro i n pa hi hn
    obtain ⟨n, rfl⟩ : ∃ m, n = m + 1 := ⟨n - 1, by omega⟩
    obtain ⟨pa', e1, e2, e3⟩ := ih (i + 1) n (upd pa (150 * k + i) (N i)) (by omega) (by omega)
    refine ⟨pa', ?_, fun j h1 h2 => ?_, fun x hx => ?_⟩
    · rw [lp_X7_saves_51, l150, if_neg (nI_ge (by omega) (by omega)), gin (by omega) (by omega), pk_mul, nI_add, gin (by omega) (by omega), nI_clamp (by omega), nI_clamp (by omega), nI_1]
      exact e1
    · by_cases e : j = i
      · subst e
        rw [e3 _ (by omega), upd_s]
      · exact e2 j (by omega) h2
    · rw [e3 x (by omega), upd_n _ _ (by omega)]
theorem m_shift_lp {pa0 : Nat → Int32} : ∀ r i n pa, i + r = 600 → (∀ x, x < i → pa x = pa0 (x + 150)) → (∀ x, i ≤ x → pa x = pa0 x) → r < n → ∃ pa', lp_X7_saves_10 n (nI i) pa = some pa' ∧ ∀ x, x < 600 → pa' x = pa0 (x + 150) := by
  intro r
  induction r with
  | zero =>
    intro i n pa hi h1 h2 hn
    obtain ⟨n, rfl⟩ : ∃ m, n = m + 1 := ⟨n - 1, by omega⟩
    refine ⟨pa, ?_, fun x hx => h1 x (by omega)⟩
    rw [lp_X7_saves_10, l600, if_pos (nI_le (by omega) (by omega))]
  | succ r ih =>
    intro i n pa hi h1 h2 hn
    obtain ⟨n, rfl⟩ : ∃ m, n = m + 1 := ⟨n - 1, by omega⟩
    rw [lp_X7_saves_10, l600, if_neg (nI_ge (by omega) (by omega)), l150, nI_add, gin (by omega) (by omega), gin (by omega) (by omega), nI_clamp (n := i) (by omega), nI_clamp (n := i + 150) (by omega), nI_1]
    refine ih (i + 1) n _ (by omega) (fun x hx => ?_) (fun x hx => ?_) (by omega)
    · by_cases e : x = i
      · subst e
        rw [upd_s, h2 _ (by omega)]
      · rw [upd_n _ _ e, h1 x (by omega)]
    · rw [upd_n _ _ (by omega), h2 x (by omega)]
theorem m_back_lp {pa : Nat → Int32} {k : Nat} (hk : k < 5) : ∀ r i n N, i + r = 150 → r < n → ∃ N', lp_X7_undo_26 (nI k) pa n (nI i) N = some N' ∧ (∀ j, i ≤ j → j < 150 → N' j = pa (150 * k + j)) ∧ ∀ x, x < i → N' x = N x := by
  intro r
  induction r with
  | zero =>
    intro i n N hi hn
    obtain ⟨n, rfl⟩ : ∃ m, n = m + 1 := ⟨n - 1, by omega⟩
    refine ⟨N, ?_, fun j h1 h2 => by omega, fun _ _ => rfl⟩
    rw [lp_X7_undo_26, l150, if_pos (nI_le (by omega) (by omega))]
  | succ r ih =>
    intro i n N hi hn
    obtain ⟨n, rfl⟩ : ∃ m, n = m + 1 := ⟨n - 1, by omega⟩
    obtain ⟨N', e1, e2, e3⟩ := ih (i + 1) n (upd N i (pa (150 * k + i))) (by omega) (by omega)
    refine ⟨N', ?_, fun j h1 h2 => ?_, fun x hx => ?_⟩
    · rw [lp_X7_undo_26, l150, if_neg (nI_ge (by omega) (by omega)), pk_mul, nI_add, gin (by omega) (by omega), gin (by omega) (by omega), nI_clamp (n := i) (by omega), nI_clamp (n := 150 * k + i) (by omega), nI_1]
      exact e1
    · by_cases e : j = i
      · subst e
        rw [e3 _ (by omega), upd_s]
      · exact e2 j (by omega) h2
    · rw [e3 x (by omega), upd_n _ _ (by omega)]

theorem m_save {N pa : Nat → Int32} {k : Nat} (hk : k < 5) : ∃ pa', fn_X7_saves (nI k) N pa = some (nI (k + 1), pa') ∧ (∀ j, j < 150 → pa' (150 * k + j) = N j) ∧ ∀ x, (x < 150 * k ∨ 150 * k + 150 ≤ x) → pa' x = pa x := by
  obtain ⟨pa', e1, e2, e3⟩ := m_cpy_lp (N := N) hk 150 0 1024 pa (by omega) (by omega)
  refine ⟨pa', ?_, fun j hj => e2 j (by omega) hj, fun x hx => e3 x (by omega)⟩
  unfold fn_X7_saves
  rw [if_neg (show ¬ nI k = 5 by rw [l5, nI_eq (by omega) (by omega)]; omega), show lp_X7_saves_51 (nI k) N 1024 0 pa = _ from e1, obs, nI_1]
theorem m_save5 {N pa : Nat → Int32} : ∃ pa', fn_X7_saves (nI 5) N pa = some (nI 5, pa') ∧ (∀ j, j < 150 → pa' (150 * 4 + j) = N j) ∧ ∀ x, x < 600 → pa' x = pa (x + 150) := by
  obtain ⟨p1, g1, g2⟩ := m_shift_lp (pa0 := pa) 600 0 1024 pa (by omega) (fun x hx => by omega) (fun _ _ => rfl) (by omega)
  obtain ⟨p2, e1, e2, e3⟩ := m_cpy_lp (N := N) (k := 4) (by omega) 150 0 1024 p1 (by omega) (by omega)
  refine ⟨p2, ?_, fun j hj => e2 j (by omega) hj, fun x hx => by rw [e3 x (by omega), g2 x hx]⟩
  unfold fn_X7_saves
  rw [if_pos (show nI 5 = 5 from rfl), show lp_X7_saves_10 1024 0 pa = _ from g1, obs, show nI 5 - 1 = nI 4 by decide, show lp_X7_saves_51 (nI 4) N 1024 0 p1 = _ from e1, obs]
  rfl
theorem p_save {N : Nat → Int32} {hc : Int32} {G0 G1 G2 G3 G4 : GT} {pa : Nat → Int32} (hN : WF N) (h : HS hc G0 G1 G2 G3 G4 pa) : ∃ (hc' : Int32) (G0' G1' G2' G3' G4' : GT) (pa' : Nat → Int32), fn_X0_save hc G0 G1 G2 G3 G4 (N 0) (N 17) (vF N) (vE N) (vS N) (vL N) (vQ N) (vB N) = some (hc', G0', G1', G2', G3', G4') ∧ fn_X7_saves hc N pa = some (hc', pa') ∧ HS hc' G0' G1' G2' G3' G4' pa' := by
  obtain ⟨k, Rw, rfl, hk, hr⟩ := h
  have hS := SR_self N
  rcases (show k = 0 ∨ k = 1 ∨ k = 2 ∨ k = 3 ∨ k = 4 ∨ k = 5 by omega) with rfl | rfl | rfl | rfl | rfl | rfl
  · obtain ⟨pa', e1, e2, e3⟩ := m_save (N := N) (pa := pa) (k := 0) (by omega)
    unfold fn_X0_save
    rw [if_pos (show nI 0 < 5 by decide), if_pos (show nI 0 = 0 by decide)]
    refine ⟨_, _, _, _, _, _, pa', rfl, e1, 1, fun i => if i = 0 then N else Rw i, rfl, by omega, fun i hi => ?_⟩
    by_cases e : i = 0
    · subst e
      dsimp only
      rw [if_pos rfl]
      exact ⟨hN, SR_cpy hS _ _ _ _ _ _, e2⟩
    · dsimp only
      rw [if_neg e]
      obtain ⟨h1, h2, h3⟩ := hr i (by omega)
      refine ⟨h1, ?_, fun j hj => by rw [e3 _ (by omega)]; exact h3 j hj⟩
      omega
  · obtain ⟨pa', e1, e2, e3⟩ := m_save (N := N) (pa := pa) (k := 1) (by omega)
    unfold fn_X0_save
    rw [if_pos (show nI 1 < 5 by decide), if_neg (show ¬ nI 1 = 0 by decide), if_pos (show nI 1 = 1 by decide)]
    refine ⟨_, _, _, _, _, _, pa', rfl, e1, 2, fun i => if i = 1 then N else Rw i, rfl, by omega, fun i hi => ?_⟩
    by_cases e : i = 1
    · subst e
      dsimp only
      rw [if_pos rfl]
      exact ⟨hN, SR_cpy hS _ _ _ _ _ _, e2⟩
    · dsimp only
      rw [if_neg e]
      obtain ⟨h1, h2, h3⟩ := hr i (by omega)
      refine ⟨h1, ?_, fun j hj => by rw [e3 _ (by omega)]; exact h3 j hj⟩
      rcases (show i = 0 by omega) with rfl
      · exact h2
  · obtain ⟨pa', e1, e2, e3⟩ := m_save (N := N) (pa := pa) (k := 2) (by omega)
    unfold fn_X0_save
    rw [if_pos (show nI 2 < 5 by decide), if_neg (show ¬ nI 2 = 0 by decide), if_neg (show ¬ nI 2 = 1 by decide), if_pos (show nI 2 = 2 by decide)]
    refine ⟨_, _, _, _, _, _, pa', rfl, e1, 3, fun i => if i = 2 then N else Rw i, rfl, by omega, fun i hi => ?_⟩
    by_cases e : i = 2
    · subst e
      dsimp only
      rw [if_pos rfl]
      exact ⟨hN, SR_cpy hS _ _ _ _ _ _, e2⟩
    · dsimp only
      rw [if_neg e]
      obtain ⟨h1, h2, h3⟩ := hr i (by omega)
      refine ⟨h1, ?_, fun j hj => by rw [e3 _ (by omega)]; exact h3 j hj⟩
      rcases (show i = 0 ∨ i = 1 by omega) with rfl | rfl
      · exact h2
      · exact h2
  · obtain ⟨pa', e1, e2, e3⟩ := m_save (N := N) (pa := pa) (k := 3) (by omega)
    unfold fn_X0_save
    rw [if_pos (show nI 3 < 5 by decide), if_neg (show ¬ nI 3 = 0 by decide), if_neg (show ¬ nI 3 = 1 by decide), if_neg (show ¬ nI 3 = 2 by decide), if_pos (show nI 3 = 3 by decide)]
    refine ⟨_, _, _, _, _, _, pa', rfl, e1, 4, fun i => if i = 3 then N else Rw i, rfl, by omega, fun i hi => ?_⟩
    by_cases e : i = 3
    · subst e
      dsimp only
      rw [if_pos rfl]
      exact ⟨hN, SR_cpy hS _ _ _ _ _ _, e2⟩
    · dsimp only
      rw [if_neg e]
      obtain ⟨h1, h2, h3⟩ := hr i (by omega)
      refine ⟨h1, ?_, fun j hj => by rw [e3 _ (by omega)]; exact h3 j hj⟩
      rcases (show i = 0 ∨ i = 1 ∨ i = 2 by omega) with rfl | rfl | rfl
      · exact h2
      · exact h2
      · exact h2
  · obtain ⟨pa', e1, e2, e3⟩ := m_save (N := N) (pa := pa) (k := 4) (by omega)
    unfold fn_X0_save
    rw [if_pos (show nI 4 < 5 by decide), if_neg (show ¬ nI 4 = 0 by decide), if_neg (show ¬ nI 4 = 1 by decide), if_neg (show ¬ nI 4 = 2 by decide), if_neg (show ¬ nI 4 = 3 by decide), if_pos (show nI 4 = 4 by decide)]
    refine ⟨_, _, _, _, _, _, pa', rfl, e1, 5, fun i => if i = 4 then N else Rw i, rfl, by omega, fun i hi => ?_⟩
    by_cases e : i = 4
    · subst e
      dsimp only
      rw [if_pos rfl]
      exact ⟨hN, SR_cpy hS _ _ _ _ _ _, e2⟩
    · dsimp only
      rw [if_neg e]
      obtain ⟨h1, h2, h3⟩ := hr i (by omega)
      refine ⟨h1, ?_, fun j hj => by rw [e3 _ (by omega)]; exact h3 j hj⟩
      rcases (show i = 0 ∨ i = 1 ∨ i = 2 ∨ i = 3 by omega) with rfl | rfl | rfl | rfl
      · exact h2
      · exact h2
      · exact h2
      · exact h2
  · obtain ⟨pa', e1, e2, e3⟩ := m_save5 (N := N) (pa := pa)
    unfold fn_X0_save
    rw [if_neg (show ¬ nI 5 < 5 by decide)]
    refine ⟨_, _, _, _, _, _, pa', rfl, e1, 5, fun i => if i = 4 then N else Rw (i + 1), rfl, by omega, fun i hi => ?_⟩
    by_cases e : i = 4
    · subst e
      dsimp only
      rw [if_pos rfl]
      exact ⟨hN, SR_cpy hS _ _ _ _ _ _, e2⟩
    · dsimp only
      rw [if_neg e]
      obtain ⟨h1, h2, h3⟩ := hr (i + 1) (by omega)
      refine ⟨h1, ?_, fun j hj => by rw [e3 _ (by omega), show 150 * i + j + 150 = 150 * (i + 1) + j by omega]; exact h3 j hj⟩
      rcases (show i = 0 ∨ i = 1 ∨ i = 2 ∨ i = 3 by omega) with rfl | rfl | rfl | rfl
      · exact h2
      · exact h2
      · exact h2
      · exact h2
theorem p_undo {N : Nat → Int32} {k : Nat} {Rw : Nat → Nat → Int32} {G0 G1 G2 G3 G4 : GT} {pa : Nat → Int32} (hk : k < 5) (h : HSk (k + 1) Rw G0 G1 G2 G3 G4 pa) (vo wc : Int32) (f1 f2 f3 f4 f5 f6 : Nat → Int32) : ∃ (N' cF' cE' : Nat → Int32) (vo' wc' : Int32) (cS' cL' cQ' cB' : Nat → Int32), fn_X0_restore (nI (k + 1)) G0 G1 G2 G3 G4 vo wc f1 f2 f3 f4 f5 f6 = some (nI k, vo', wc', cF', cE', cS', cL', cQ', cB') ∧ lp_X7_undo_26 (nI k) pa 1024 0 N = some N' ∧ WF N' ∧ SR N' cF' cE' vo' wc' cS' cL' cQ' cB' ∧ HSk k Rw G0 G1 G2 G3 G4 pa := by
  obtain ⟨h1, h2, h3⟩ := h k (by omega)
  obtain ⟨N', e1, e2, -⟩ := m_back_lp (pa := pa) hk 150 0 1024 N (by omega) (by omega)
  have hn : ∀ j, j < 150 → N' j = Rw k j := fun j hj => by rw [e2 j (by omega) hj, h3 j hj]
  have hrest : HSk k Rw G0 G1 G2 G3 G4 pa := fun i hi => h i (by omega)
  have hw := WF_congr hn h1
  have hs : ∀ G : GT, GR G (Rw k) → SR N' (va_cpy G.2.1 f1 (0 : Int32).toNatClampNeg (0 : Int32).toNatClampNeg (8 : Int32).toNatClampNeg) (va_cpy G.2.2.1 f2 (0 : Int32).toNatClampNeg (0 : Int32).toNatClampNeg (8 : Int32).toNatClampNeg) G.2.2.2.1 G.2.2.2.2.1 (va_cpy G.2.2.2.2.2.1 f3 (0 : Int32).toNatClampNeg (0 : Int32).toNatClampNeg (96 : Int32).toNatClampNeg) (va_cpy G.2.2.2.2.2.2.1 f4 (0 : Int32).toNatClampNeg (0 : Int32).toNatClampNeg (12 : Int32).toNatClampNeg) (va_cpy G.2.2.2.2.2.2.2.1 f5 (0 : Int32).toNatClampNeg (0 : Int32).toNatClampNeg (12 : Int32).toNatClampNeg) (va_cpy G.2.2.2.2.2.2.2.2 f6 (0 : Int32).toNatClampNeg (0 : Int32).toNatClampNeg (12 : Int32).toNatClampNeg) := fun G hG => SR_congr hn (SR_cpy hG _ _ _ _ _ _)
  unfold fn_X0_restore
  rw [if_pos (show (0 : Int32) < nI (k + 1) by rw [l0]; exact nI_lt (by omega) (by omega)), l1, pk_sub (by omega), Nat.add_sub_cancel]
  rcases (show k = 0 ∨ k = 1 ∨ k = 2 ∨ k = 3 ∨ k = 4 by omega) with rfl | rfl | rfl | rfl | rfl
  · rw [if_pos (show nI 0 = 0 by decide)]
    exact ⟨N', _, _, _, _, _, _, _, _, rfl, e1, hw, hs _ h2, hrest⟩
  · rw [if_neg (show ¬ nI 1 = 0 by decide), if_pos (show nI 1 = nI 1 by decide)]
    exact ⟨N', _, _, _, _, _, _, _, _, rfl, e1, hw, hs _ h2, hrest⟩
  · rw [if_neg (show ¬ nI 2 = 0 by decide), if_neg (show ¬ nI 2 = nI 1 by decide), if_pos (show nI 2 = 2 by decide)]
    exact ⟨N', _, _, _, _, _, _, _, _, rfl, e1, hw, hs _ h2, hrest⟩
  · rw [if_neg (show ¬ nI 3 = 0 by decide), if_neg (show ¬ nI 3 = nI 1 by decide), if_neg (show ¬ nI 3 = 2 by decide), if_pos (show nI 3 = 3 by decide)]
    exact ⟨N', _, _, _, _, _, _, _, _, rfl, e1, hw, hs _ h2, hrest⟩
  · rw [if_neg (show ¬ nI 4 = 0 by decide), if_neg (show ¬ nI 4 = nI 1 by decide), if_neg (show ¬ nI 4 = 2 by decide), if_neg (show ¬ nI 4 = 3 by decide), if_pos (show nI 4 = 4 by decide)]
    exact ⟨N', _, _, _, _, _, _, _, _, rfl, e1, hw, hs _ h2, hrest⟩
