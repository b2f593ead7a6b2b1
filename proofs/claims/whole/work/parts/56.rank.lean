/-! insertion from the end -/
def insE {α : Type} (p : α → Bool) (x : α) : List α → List α
  | [] => [x]
  | a :: t => if (a :: t).all p = true then x :: a :: t else a :: insE p x t
theorem insE_len {α : Type} (p : α → Bool) (x : α) : ∀ l, (insE p x l).length = l.length + 1
  | [] => rfl
  | a :: t => by
    rw [insE]
    split
    · rfl
    · rw [List.length_cons, insE_len p x t, List.length_cons]
theorem insE_mem {α : Type} (p : α → Bool) (x r : α) : ∀ l, r ∈ insE p x l ↔ r = x ∨ r ∈ l
  | [] => by simp [insE]
  | a :: t => by
    rw [insE]
    split
    · exact List.mem_cons
    · rw [List.mem_cons, insE_mem p x r t, List.mem_cons]
      constructor
      · rintro (h | h | h)
        · exact Or.inr (Or.inl h)
        · exact Or.inl h
        · exact Or.inr (Or.inr h)
      · rintro (h | h | h)
        · exact Or.inr (Or.inl h)
        · exact Or.inl h
        · exact Or.inr (Or.inr h)
theorem insE_map {α β : Type} (f : α → β) (p : α → Bool) (q : β → Bool) (x : α) : ∀ l : List α, (∀ r ∈ l, p r = q (f r)) → (insE p x l).map f = insE q (f x) (l.map f)
  | [], _ => rfl
  | a :: t, h => by
    have h2 : ∀ l : List α, (∀ r ∈ l, p r = q (f r)) → l.all p = (l.map f).all q := by
      intro l
      induction l with
      | nil => intro _; rfl
      | cons b u ih =>
        intro hb
        rw [List.all_cons, List.map_cons, List.all_cons, hb b List.mem_cons_self, ih (fun r hr => hb r (List.mem_cons_of_mem _ hr))]
    rw [insE, List.map_cons, insE, ← List.map_cons, ← h2 (a :: t) h]
    split
    · rfl
    · rw [List.map_cons, insE_map f p q x t (fun r hr => h r (List.mem_cons_of_mem _ hr))]
theorem insE_at {α : Type} (p : α → Bool) (x : α) : ∀ (l : List α) (k : Nat), k ≤ l.length → (l.drop k).all p = true → (k = 0 ∨ ∃ y, l[k - 1]? = some y ∧ p y = false) → insE p x l = l.take k ++ x :: l.drop k
  | [], k, h, _, _ => by
    have : k = 0 := by simpa using h
    subst this
    rfl
  | a :: t, 0, _, h, _ => by
    rw [List.drop_zero] at h
    rw [insE, if_pos h]
    rfl
  | a :: t, k + 1, hk, h, hs => by
    rw [List.length_cons] at hk
    obtain ⟨y, h1, h2⟩ : ∃ y, (a :: t)[k]? = some y ∧ p y = false := by
      rcases hs with h0 | h0
      · exact absurd h0 (by omega)
      · exact h0
    have hna : ¬ (a :: t).all p = true := by
      intro hall
      have := List.all_eq_true.mp hall y (List.mem_of_getElem? h1)
      rw [h2] at this
      cases this
    rw [insE, if_neg hna, List.take_succ_cons, List.drop_succ_cons, List.cons_append]
    congr 1
    refine insE_at p x t k (by omega) h ?_
    cases k with
    | zero => exact Or.inl rfl
    | succ k =>
      rw [List.getElem?_cons_succ] at h1
      exact Or.inr ⟨y, by rw [show k + 1 - 1 = k by omega]; exact h1, h2⟩
theorem insE_end {α : Type} (p : α → Bool) (x : α) (l : List α) (h : ∀ r ∈ l, p r = false) : insE p x l = l ++ [x] := by
  rw [insE_at p x l l.length (Nat.le_refl _) (by rw [List.drop_length]; rfl), List.take_length, List.drop_length]
  cases l with
  | nil => exact Or.inl rfl
  | cons a t =>
    obtain ⟨y, hy⟩ := at_lt (L := a :: t) (j := (a :: t).length - 1) (by rw [List.length_cons]; omega)
    exact Or.inr ⟨y, hy, h y (List.mem_of_getElem? hy)⟩
/-- the three rows hold the list -/
def RK (R : List (Int32 × Int32 × Int32)) (wd vl wt : Nat → Int32) : Prop := ∀ j t, R[j]? = some t → wd j = t.1 ∧ vl j = t.2.1 ∧ wt j = t.2.2
def IK (R : List (Int32 × Int32 × Int32)) (k : Nat) (wd vl wt : Nat → Int32) : Prop := (∀ j t, j < k → R[j]? = some t → wd j = t.1 ∧ vl j = t.2.1 ∧ wt j = t.2.2) ∧ (∀ j t, k ≤ j → R[j]? = some t → wd (j + 1) = t.1 ∧ vl (j + 1) = t.2.1 ∧ wt (j + 1) = t.2.2)
theorem all_drop {α : Type} {p : α → Bool} {l : List α} {k : Nat} {y : α} (hy : l[k]? = some y) (h : (l.drop (k + 1)).all p = true) (hp : p y = true) : (l.drop k).all p = true := by
  rw [drop_at hy, List.all_cons, hp, h]
  rfl
theorem p_ins_lp {R : List (Int32 × Int32 × Int32)} (c : Int32) (h11 : R.length ≤ 11) : ∀ k n wd vl wt, k ≤ R.length → IK R k wd vl wt → (R.drop k).all (fun t => decide (t.2.2 < c)) = true → k < n → ∃ k' wd' vl' wt', lp_X4_insert_16 c n (nI k) wd vl wt = some (nI k', wd', vl', wt') ∧ k' ≤ R.length ∧ IK R k' wd' vl' wt' ∧ (R.drop k').all (fun t => decide (t.2.2 < c)) = true ∧ (k' = 0 ∨ ∃ y, R[k' - 1]? = some y ∧ decide (y.2.2 < c) = false) := by
  intro k
  induction k with
  | zero =>
    intro n wd vl wt hk hI ha hn
    obtain ⟨n, rfl⟩ : ∃ m, n = m + 1 := ⟨n - 1, by omega⟩
    refine ⟨0, wd, vl, wt, ?_, hk, hI, ha, Or.inl rfl⟩
    rw [lp_X4_insert_16, if_pos (by decide)]
  | succ k ih =>
    intro n wd vl wt hk hI ha hn
    obtain ⟨n, rfl⟩ : ∃ m, n = m + 1 := ⟨n - 1, by omega⟩
    obtain ⟨⟨y1, y2, y3⟩, hy⟩ := at_lt (L := R) (j := k) (by omega)
    obtain ⟨e1, e2, e3⟩ := hI.1 k _ (by omega) hy
    rw [lp_X4_insert_16, if_neg (nI_nle (by omega) (by omega)), l1, pk_sub (by omega), show k + 1 - 1 = k by omega, gin (by omega) (by omega), nI_clamp (n := k) (by omega), e3]
    by_cases hc : y3 < c
    · rw [if_neg (by rw [Int32.not_le]; exact hc), gin (by omega) (by omega), gin (by omega) (by omega), gin (by omega) (by omega), gin (by omega) (by omega), gin (by omega) (by omega), gin (by omega) (by omega), nI_clamp (by omega), show nI (k + 1) + (-nI 1) = nI k from pk_m1 k, e1, e2]
      refine ih n _ _ _ (by omega) ⟨fun j t hj ht => ?_, fun j t hj ht => ?_⟩ (all_drop hy ha (decide_eq_true hc)) (by omega)
      · rw [upd_n _ _ (by omega), upd_n _ _ (by omega), upd_n _ _ (by omega)]
        exact hI.1 j t (by omega) ht
      · by_cases ej : j = k
        · subst ej
          rw [hy] at ht
          cases ht
          rw [upd_s, upd_s, upd_s]
          exact ⟨rfl, rfl, rfl⟩
        · rw [upd_n _ _ (by omega), upd_n _ _ (by omega), upd_n _ _ (by omega)]
          exact hI.2 j t (by omega) ht
    · rw [if_pos (Int32.not_lt.mp hc)]
      exact ⟨k + 1, wd, vl, wt, rfl, hk, hI, ha, Or.inr ⟨(y1, y2, y3), by rw [show k + 1 - 1 = k by omega]; exact hy, decide_eq_false hc⟩⟩
theorem RK_put {R : List (Int32 × Int32 × Int32)} {k : Nat} {wd vl wt : Nat → Int32} (hk : k ≤ R.length) (hI : IK R k wd vl wt) (a b c : Int32) : RK (R.take k ++ (a, b, c) :: R.drop k) (upd wd k a) (upd vl k b) (upd wt k c) := by
  intro j t hj
  have hlen : (R.take k).length = k := by rw [List.length_take]; omega
  rcases Nat.lt_trichotomy j k with h | h | h
  · rw [List.getElem?_append_left (by omega), List.getElem?_take, if_pos h] at hj
    rw [upd_n _ _ (by omega), upd_n _ _ (by omega), upd_n _ _ (by omega)]
    exact hI.1 j t h hj
  · subst h
    rw [List.getElem?_append_right (by omega), hlen, Nat.sub_self, List.getElem?_cons_zero] at hj
    cases hj
    rw [upd_s, upd_s, upd_s]
    exact ⟨rfl, rfl, rfl⟩
  · obtain ⟨i, rfl⟩ : ∃ i, j = k + i + 1 := ⟨j - k - 1, by omega⟩
    rw [List.getElem?_append_right (by omega), hlen, show k + i + 1 - k = i + 1 by omega, List.getElem?_cons_succ, List.getElem?_drop] at hj
    rw [upd_n _ _ (by omega), upd_n _ _ (by omega), upd_n _ _ (by omega)]
    exact hI.2 (k + i) t (by omega) hj
theorem p_insert {R : List (Int32 × Int32 × Int32)} {wd vl wt : Nat → Int32} (h11 : R.length ≤ 11) (hR : RK R wd vl wt) (a b c : Int32) : ∃ wd' vl' wt', fn_X4_insert (nI R.length) wd vl wt a b c = some (nI (R.length + 1), wd', vl', wt') ∧ RK (insE (fun t => decide (t.2.2 < c)) (a, b, c) R) wd' vl' wt' := by
  have hI : IK R R.length wd vl wt := ⟨fun j t _ ht => hR j t ht, fun j t hj ht => by
    have := idx_lt ht
    omega⟩
  obtain ⟨k, wd', vl', wt', h1, h2, h3, h4, h5⟩ := p_ins_lp c h11 R.length 1024 wd vl wt (Nat.le_refl _) hI (by rw [List.drop_length]; rfl) (by omega)
  refine ⟨upd wd' k a, upd vl' k b, upd wt' k c, ?_, ?_⟩
  · unfold fn_X4_insert
    rw [if_pos (by rw [l12]; exact nI_lt (by omega) (by omega)), h1, obs]
    show gd (inb (nI k) 12) (gd (inb (nI k) 12) (gd (inb (nI k) 12) (some (nI R.length + 1, upd wd' (nI k).toNatClampNeg a, upd vl' (nI k).toNatClampNeg b, upd wt' (nI k).toNatClampNeg c)))) = _
    rw [gin (by omega) (by omega), gin (by omega) (by omega), gin (by omega) (by omega), nI_clamp (by omega), nI_1]
  · rw [insE_at _ _ R k h2 h4 h5]
    exact RK_put h2 h3 a b c
theorem RK_nil (wd vl wt : Nat → Int32) : RK [] wd vl wt := fun j t h => by simp at h
