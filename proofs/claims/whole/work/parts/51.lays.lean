/-! written sounds: the class's choices, the model's row of sounds -/
theorem or_if {α : Type} {p q r : Prop} [Decidable p] [Decidable q] [Decidable r] {x y : α} (h : p ↔ r) : (if p then x else if q then x else y) = (if r ∨ q then x else y) := by
  by_cases hp : p
  · rw [if_pos hp, if_pos (Or.inl (h.mp hp))]
  · by_cases hq : q
    · rw [if_neg hp, if_pos hq, if_pos (Or.inr hq)]
    · rw [if_neg hp, if_neg hq, if_neg (fun z => z.elim (fun a => hp (h.mpr a)) hq)]
theorem nI_is0 {i : Nat} (h : i < 2 ^ 31) : nI i = 0 ↔ i = 0 := by rw [l0, nI_eq h (by omega)]
theorem m_lays_lp {N : Nat → Int32} {w : Nat} (hw : w < 12) (h : WFw N w) : ∀ k n c i m, i + k = ln N w → c ≤ i → k < n → lp_X7_laysSounds_7 (nI w) N n (nI i) (nI c) m = some (nI (c + (wsn N w k i).length), putL m c ((wsn N w k i).map nI)) := by
  obtain ⟨⟨h1, h2, h3⟩, -, -, h4⟩ := h
  intro k
  induction k with
  | zero =>
    intro n c i m hi hc hn
    obtain ⟨n, rfl⟩ : ∃ m, n = m + 1 := ⟨n - 1, by omega⟩
    rw [lp_X7_laysSounds_7, l18, nI_add, gin (by omega) (by omega), nI_clamp (by omega), h1, if_pos (nI_le (by omega) (by omega))]
    rfl
  | succ k ih =>
    intro n c i m hi hc hn
    obtain ⟨n, rfl⟩ : ∃ m, n = m + 1 := ⟨n - 1, by omega⟩
    rw [lp_X7_laysSounds_7, l18, nI_add, gin (by omega) (by omega), nI_clamp (by omega), h1, if_neg (nI_ge (by omega) (by omega)), l54, l8, pk_mul, nI_add, nI_add, gin (by omega) (by omega), nI_clamp (n := 54 + 8 * w + i) (by omega), sb_cl0, Nat.add_assoc, or_if (nI_is0 (i := i) (by omega)), wsn]
    by_cases hc0 : i = 0 ∨ ((N 0 >>> (N (54 + (8 * w + i)) &&& 31)) &&& 1) = 0
    · rw [if_pos hc0, if_pos hc0, gin (by omega) (by omega), nI_clamp (by omega), nI_1, nI_1, (h4 i (by omega)).1, ih n (c + 1) (i + 1) _ (by omega) (by omega) (by omega), List.map_cons, putL, List.length_cons]
      congr 3
      omega
    · rw [if_neg hc0, if_neg hc0, nI_1, ih n c (i + 1) _ (by omega) (by omega) (by omega)]
theorem m_lays {N : Nat → Int32} {w : Nat} (hw : w < 12) (h : WFw N w) (v : Int32) (m : Nat → Int32) : fn_X7_laysSounds v N m (nI w) = some (nI (wl N w).length, putL m 0 ((wl N w).map nI)) := by
  have hl := h.1
  unfold fn_X7_laysSounds
  rw [l0, m_lays_lp hw h (ln N w) 1024 0 0 m (by omega) (by omega) (by omega), obs, Nat.zero_add]
  rfl
theorem p_coll_lp {N : Nat → Int32} {w : Nat} (hw : w < 12) (h : WFw N w) : ∀ k n c i F S, i + k = ln N w → c ≤ i → k < n → lp_X1_collectChoices_7 (nI w) (vL N) (N 0) (vS N) (vF N) (vE N) n (nI i) (nI c) F S = some (nI (c + (wsn N w k i).length), putL F c ((wsn N w k i).map (fun s => N (1 + s))), putL S c ((wsn N w k i).map (fun s => N (9 + s)))) := by
  obtain ⟨⟨h1, h2, h3⟩, -, -, h4⟩ := h
  intro k
  induction k with
  | zero =>
    intro n c i F S hi hc hn
    obtain ⟨n, rfl⟩ : ∃ m, n = m + 1 := ⟨n - 1, by omega⟩
    rw [lp_X1_collectChoices_7, gin hw (by omega), nI_clamp (by omega), vLa, h1, if_pos (nI_le (by omega) (by omega))]
    rfl
  | succ k ih =>
    intro n c i F S hi hc hn
    obtain ⟨n, rfl⟩ : ∃ m, n = m + 1 := ⟨n - 1, by omega⟩
    rw [lp_X1_collectChoices_7, gin hw (by omega), nI_clamp (by omega), vLa, h1, if_neg (nI_ge (by omega) (by omega)), p_isWritten N hw (by omega), obs, wsn, nI_1]
    by_cases hc0 : i = 0 ∨ ((N 0 >>> (N (54 + (8 * w + i)) &&& 31)) &&& 1) = 0
    · have hs := h4 i (by omega)
      rw [if_pos hc0, if_pos hc0, if_neg (by decide), p_soundAt N hw (by omega), obs, hs.1, gin hs.2 (by omega), gin (by omega) (by omega), gin hs.2 (by omega), gin (by omega) (by omega), nI_clamp (by omega), nI_clamp (by omega), vFa, vEa, nI_1, ih n (c + 1) (i + 1) _ _ (by omega) (by omega) (by omega), List.map_cons, List.map_cons, putL, putL, List.length_cons]
      congr 3
      omega
    · rw [if_neg hc0, if_neg hc0, if_pos rfl, ih n c (i + 1) _ _ (by omega) (by omega) (by omega)]
theorem p_coll {N : Nat → Int32} {w : Nat} (hw : w < 12) (h : WFw N w) (v : Int32) (F S : Nat → Int32) : fn_X1_collectChoices v F S (N 0) (vF N) (vE N) (vS N) (vL N) (nI w) = some (nI (wl N w).length, putL F 0 ((wl N w).map (fun s => N (1 + s))), putL S 0 ((wl N w).map (fun s => N (9 + s)))) := by
  have hl := h.1
  unfold fn_X1_collectChoices
  rw [l0, p_coll_lp hw h (ln N w) 1024 0 0 F S (by omega) (by omega) (by omega), obs, Nat.zero_add]
  rfl
/-! turns, joins, differences of codes: both sides by the kernel -/
def tn (a b : Nat) : Nat := if (a / 3 + 8 - b / 3) % 8 ≤ 4 then (a / 3 + 8 - b / 3) % 8 else 8 - (a / 3 + 8 - b / 3) % 8
def jn (a b : Nat) : Nat := if a = b then 3 else tn a b
def df (a b : Nat) : Nat := tn a b + (if b % 3 ≤ a % 3 then a % 3 - b % 3 else b % 3 - a % 3)
theorem p_join24 : ∀ a, a < 24 → ∀ b, b < 24 → fn_X6_join (nI a) (nI b) = some (nI (jn a b)) := by decide +kernel
theorem m_join24 : ∀ a, a < 24 → ∀ b, b < 24 → fn_X7_joins (nI a) (nI b) = some (nI (jn a b)) := by decide +kernel
theorem p_diff24 : ∀ a, a < 24 → ∀ b, b < 24 → fn_X6_difference (nI a) (nI b) = some (nI (df a b)) := by decide +kernel
theorem m_diff24 : ∀ a, a < 24 → ∀ b, b < 24 → fn_X7_differs (nI a) (nI b) = some (nI (df a b)) := by decide +kernel
theorem jn_le : ∀ a, a < 24 → ∀ b, b < 24 → jn a b ≤ 4 := by decide +kernel
theorem df_le : ∀ a, a < 24 → ∀ b, b < 24 → df a b ≤ 6 := by decide +kernel
