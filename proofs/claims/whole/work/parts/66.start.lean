/-! the state that the makers leave -/
theorem i5_lp : ∀ r i n (a b : Nat → Int32), i + r = 8 → r < n → ∃ a' b', lp_X5_init_65 n (nI i) a b = some (a', b') ∧ (∀ j, j < i → a' j = a j ∧ b' j = b j) ∧ ∀ j, i ≤ j → j < 8 → a' j = nI (3 * j) ∧ b' j = mI := by
  intro r
  induction r with
  | zero =>
    intro i n a b hi hr
    obtain ⟨n, rfl⟩ : ∃ m, n = m + 1 := ⟨n - 1, by omega⟩
    exact ⟨a, b, by rw [lp_X5_init_65, l8, if_pos (nI_le (by omega) (by omega))], fun j _ => ⟨rfl, rfl⟩, fun j h1 h2 => by omega⟩
  | succ r ih =>
    intro i n a b hi hr
    obtain ⟨n, rfl⟩ : ∃ m, n = m + 1 := ⟨n - 1, by omega⟩
    obtain ⟨a', b', e, h1, h2⟩ := ih (i + 1) n (upd a i (nI (3 * i))) (upd b i mI) (by omega) (by omega)
    refine ⟨a', b', ?_, fun j hj => ?_, fun j hj1 hj2 => ?_⟩
    · rw [lp_X5_init_65, l8, if_neg (nI_ge (by omega) (by omega)), gin (by omega) (by omega), gin (by omega) (by omega), lm1, l3, pk_mul, nI_clamp (by omega), nI_1]
      exact e
    · obtain ⟨e1, e2⟩ := h1 j (by omega)
      rw [e1, e2, upd_n _ _ (by omega), upd_n _ _ (by omega)]
      exact ⟨rfl, rfl⟩
    · by_cases q : j = i
      · subst q
        obtain ⟨e1, e2⟩ := h1 j (by omega)
        rw [e1, e2, upd_s, upd_s]
        exact ⟨rfl, rfl⟩
      · exact h2 j (by omega) hj2
theorem i5 : ∃ a b, fn_X5_init = some (a, b) ∧ ∀ j, j < 8 → a j = nI (3 * j) ∧ b j = mI := by
  obtain ⟨a, b, e, _, h⟩ := i5_lp 8 0 1024 (fun _ => 0) (fun _ => 0) (by omega) (by omega)
  exact ⟨a, b, by unfold fn_X5_init; rw [show lp_X5_init_65 1024 (0 : Int32) (fun _ => 0) (fun _ => 0) = _ from e, obs], fun j hj => h j (by omega) hj⟩
theorem i7_lp : ∀ r i n (a : Nat → Int32), i + r = 8 → r < n → ∃ a', lp_X7_init_87 n (nI i) a = some a' ∧ (∀ j, (j < 1 + i ∨ (8 < j ∧ j < 9 + i) ∨ 16 < j) → a' j = a j) ∧ ∀ j, i ≤ j → j < 8 → a' (1 + j) = nI (3 * j) ∧ a' (9 + j) = mI := by
  intro r
  induction r with
  | zero =>
    intro i n a hi hr
    obtain ⟨n, rfl⟩ : ∃ m, n = m + 1 := ⟨n - 1, by omega⟩
    exact ⟨a, by rw [lp_X7_init_87, l8, if_pos (nI_le (by omega) (by omega))], fun j _ => rfl, fun j h1 h2 => by omega⟩
  | succ r ih =>
    intro i n a hi hr
    obtain ⟨n, rfl⟩ : ∃ m, n = m + 1 := ⟨n - 1, by omega⟩
    obtain ⟨a', e, h1, h2⟩ := ih (i + 1) n (upd (upd a (1 + i) (nI (3 * i))) (9 + i) mI) (by omega) (by omega)
    refine ⟨a', ?_, fun j hj => ?_, fun j hj1 hj2 => ?_⟩
    · rw [lp_X7_init_87, l8, if_neg (nI_ge (by omega) (by omega)), lm1, l1, l9, l3, nI_add, nI_add, nI_add, pk_mul, gin (by omega) (by omega), gin (by omega) (by omega), nI_clamp (n := 1 + i) (by omega), nI_clamp (n := 9 + i) (by omega)]
      exact e
    · rw [h1 j (by omega), upd_n _ _ (by omega), upd_n _ _ (by omega)]
    · by_cases q : j = i
      · subst q
        rw [h1 (1 + j) (by omega), h1 (9 + j) (by omega), upd_s, upd_n _ _ (by omega), upd_s]
        exact ⟨rfl, rfl⟩
      · exact h2 j (by omega) hj2
theorem i7 : ∃ N, fn_X7_init = some N ∧ N 0 = 17 ∧ (∀ j, 17 ≤ j → N j = 0) ∧ ∀ j, j < 8 → N (1 + j) = nI (3 * j) ∧ N (9 + j) = mI := by
  obtain ⟨a, e, h1, h⟩ := i7_lp 8 0 1024 (upd (fun _ => 0) 0 17) (by omega) (by omega)
  refine ⟨a, ?_, ?_, fun j hj => ?_, fun j hj => h j (by omega) hj⟩
  · unfold fn_X7_init
    rw [show (0 : Int32).toNatClampNeg = 0 from rfl, l0]
    show Option.bind (lp_X7_init_87 1024 (nI 0) (upd (fun _ => 0) 0 17)) _ = _
    rw [e, obs]
  · rw [h1 0 (by omega), upd_s]
  · rw [h1 j (by omega), upd_n _ _ (by omega)]
theorem start_WF {N : Nat → Int32} (h0 : ∀ j, 17 ≤ j → N j = 0) (h1 : ∀ j, j < 8 → N (1 + j) = nI (3 * j) ∧ N (9 + j) = mI) : WF N := by
  have h17 : N 17 = nI 0 := h0 17 (by omega)
  have hc : cn N = 0 := by unfold cn; rw [h17]; rfl
  refine ⟨⟨by rw [hc]; exact h17, by omega⟩, fun s hs => ?_, fun s hs => Or.inl (h1 s hs).2, fun w hw => by omega⟩
  have : fs N s = 3 * s := by unfold fs; rw [(h1 s hs).1, nI_clamp (by omega)]
  rw [this]
  exact ⟨(h1 s hs).1, by omega⟩
theorem op_start (G0 G1 G2 G3 G4 : GT) : ∃ (a b N : Nat → Int32), fn_X6_init = some (a, b, a, b, a, b, a, b, a, b, a, b) ∧ fn_X7_init = some N ∧ INVP N a b 17 0 (fun _ => 0) (fun _ => 0) (fun _ => 0) (fun _ => 0) 0 G0 G1 G2 G3 G4 (fun _ => 0) 0 (fun _ => 0) 0 := by
  obtain ⟨a, b, e5, h5⟩ := i5
  obtain ⟨N, e7, h70, h7, h71⟩ := i7
  refine ⟨a, b, N, ?_, e7, ⟨fun j hj => by rw [(h5 j hj).1, (h71 j hj).1], fun j hj => by rw [(h5 j hj).2, (h71 j hj).2], h70.symm, (h7 17 (by omega)).symm, fun j hj => (h7 _ (by omega)).symm, fun j hj => (h7 _ (by omega)).symm, fun j hj => (h7 _ (by omega)).symm, fun j hj => (h7 _ (by omega)).symm⟩, start_WF h7 h71, ⟨0, fun _ => N, rfl, by omega, fun i hi => by omega⟩, ⟨0, by omega, rfl⟩, 0, rfl, ?_⟩
  · unfold fn_X6_init fn_X0_init
    rw [e5]
    rfl
  · exact ⟨by omega, fun j hj => by omega⟩
