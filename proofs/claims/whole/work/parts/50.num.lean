/-! numbers and rows, for the pure functions -/
theorem gin {α : Type} {k n : Nat} (h : k < n) (hn : n < 2 ^ 31) (x : Option α) : gd (inb (nI k) n) x = x := by
  have h1 : inb (nI k) n = true := decide_eq_true (vp_in_nI h hn)
  rw [h1]
  rfl
def mI : Int32 := -1
theorem lm1 : (-1 : Int32) = mI := rfl
theorem l0 : (0 : Int32) = nI 0 := rfl
theorem l1 : (1 : Int32) = nI 1 := rfl
theorem l2 : (2 : Int32) = nI 2 := rfl
theorem l3 : (3 : Int32) = nI 3 := rfl
theorem l4 : (4 : Int32) = nI 4 := rfl
theorem l5 : (5 : Int32) = nI 5 := rfl
theorem l8 : (8 : Int32) = nI 8 := rfl
theorem l9 : (9 : Int32) = nI 9 := rfl
theorem l12 : (12 : Int32) = nI 12 := rfl
theorem l17 : (17 : Int32) = nI 17 := rfl
theorem l18 : (18 : Int32) = nI 18 := rfl
theorem l24 : (24 : Int32) = nI 24 := rfl
theorem l30 : (30 : Int32) = nI 30 := rfl
theorem l42 : (42 : Int32) = nI 42 := rfl
theorem l54 : (54 : Int32) = nI 54 := rfl
theorem l97 : (97 : Int32) = nI 97 := rfl
theorem l99 : (99 : Int32) = nI 99 := rfl
theorem l150 : (150 : Int32) = nI 150 := rfl
theorem l600 : (600 : Int32) = nI 600 := rfl
theorem l1000 : (1000 : Int32) = nI 1000 := rfl
theorem nI_nm {a : Nat} (h : a < 2 ^ 31) : ¬ nI a = mI := by
  intro e
  have h1 := nI_toInt h
  rw [e] at h1
  have h2 : mI.toInt = -1 := by decide
  omega
theorem mI_n {a : Nat} (h : a < 2 ^ 31) : ¬ mI = nI a := fun e => nI_nm h e.symm
theorem mI_le {a : Nat} (h : a < 2 ^ 31) : mI ≤ nI a := by
  rw [Int32.le_iff_toInt_le, nI_toInt h]
  have h2 : mI.toInt = -1 := by decide
  omega
theorem upd_s (f : Nat → Int32) (k : Nat) (x : Int32) : upd f k x k = x := by simp [upd]
theorem upd_n (f : Nat → Int32) {k j : Nat} (x : Int32) (h : ¬ j = k) : upd f k x j = f j := by simp [upd, h]
/-- a list laid into a row from a place on -/
def putL (F : Nat → Int32) (c : Nat) : List Int32 → Nat → Int32
  | [] => F
  | x :: t => putL (upd F c x) (c + 1) t
theorem putL_lt : ∀ (l : List Int32) (F : Nat → Int32) (c j : Nat), j < c → putL F c l j = F j
  | [], F, c, j, h => rfl
  | x :: t, F, c, j, h => by
    rw [putL, putL_lt t (upd F c x) (c + 1) j (by omega), upd_n F x (by omega)]
theorem putL_ge : ∀ (l : List Int32) (F : Nat → Int32) (c j : Nat), c + l.length ≤ j → putL F c l j = F j
  | [], F, c, j, h => rfl
  | x :: t, F, c, j, h => by
    rw [List.length_cons] at h
    rw [putL, putL_ge t (upd F c x) (c + 1) j (by omega), upd_n F x (by omega)]
theorem putL_at : ∀ (l : List Int32) (F : Nat → Int32) (c j : Nat) (x : Int32), l[j]? = some x → putL F c l (c + j) = x
  | [], F, c, j, x, h => by simp at h
  | y :: t, F, c, 0, x, h => by
    simp at h
    show putL (upd F c y) (c + 1) t c = x
    rw [putL_lt t (upd F c y) (c + 1) c (by omega), upd_s, h]
  | y :: t, F, c, j + 1, x, h => by
    rw [List.getElem?_cons_succ] at h
    rw [putL, show c + (j + 1) = (c + 1) + j by omega]
    exact putL_at t (upd F c y) (c + 1) j x h
theorem putL_app : ∀ (l : List Int32) (F : Nat → Int32) (c : Nat) (x : Int32), putL F c (l ++ [x]) = upd (putL F c l) (c + l.length) x
  | [], F, c, x => by simp [putL]
  | y :: t, F, c, x => by
    rw [List.cons_append, putL, putL, putL_app t (upd F c y) (c + 1) x, List.length_cons]
    congr 1
    omega
theorem obs {α β : Type} (a : α) (f : α → Option β) : (some a).bind f = f a := rfl
/-! the state, read as numbers -/
def cn (N : Nat → Int32) : Nat := (N 17).toNatClampNeg
def ln (N : Nat → Int32) (w : Nat) : Nat := (N (18 + w)).toNatClampNeg
def sd (N : Nat → Int32) (w i : Nat) : Nat := (N (54 + (8 * w + i))).toNatClampNeg
def fs (N : Nat → Int32) (s : Nat) : Nat := (N (1 + s)).toNatClampNeg
def fq (N : Nat → Int32) (w : Nat) : Nat := (N (30 + w)).toNatClampNeg
def isM (x : Int32) : Prop := x = mI ∨ ∃ b : Nat, b < 24 ∧ x = nI b
def WFw (N : Nat → Int32) (w : Nat) : Prop := (N (18 + w) = nI (ln N w) ∧ 1 ≤ ln N w ∧ ln N w ≤ 8) ∧ (N (30 + w) = nI (fq N w) ∧ 1 ≤ fq N w ∧ fq N w ≤ 999) ∧ isM (N (42 + w)) ∧ ∀ i, i < ln N w → N (54 + (8 * w + i)) = nI (sd N w i) ∧ sd N w i < 8
def WF (N : Nat → Int32) : Prop := (N 17 = nI (cn N) ∧ cn N ≤ 12) ∧ (∀ s, s < 8 → N (1 + s) = nI (fs N s) ∧ fs N s < 24) ∧ (∀ s, s < 8 → isM (N (9 + s))) ∧ ∀ w, w < cn N → WFw N w
/-- position i of word w is written -/
def wrt (N : Nat → Int32) (w i : Nat) : Prop := i = 0 ∨ ((N 0 >>> (N (54 + (8 * w + i)) &&& 31)) &&& 1) = 0
def wsn (N : Nat → Int32) (w : Nat) : Nat → Nat → List Nat
  | 0, _ => []
  | k + 1, i => if i = 0 ∨ ((N 0 >>> (N (54 + (8 * w + i)) &&& 31)) &&& 1) = 0 then sd N w i :: wsn N w k (i + 1) else wsn N w k (i + 1)
/-- the written sounds of word w -/
def wl (N : Nat → Int32) (w : Nat) : List Nat := wsn N w (ln N w) 0
theorem wsn_len (N : Nat → Int32) (w : Nat) : ∀ k i, (wsn N w k i).length ≤ k
  | 0, i => Nat.le_refl 0
  | k + 1, i => by
    have := wsn_len N w k (i + 1)
    rw [wsn]
    split
    · rw [List.length_cons]; omega
    · omega
theorem wsn_lt {N : Nat → Int32} {w L : Nat} (h : ∀ i, i < L → sd N w i < 8) : ∀ k i, i + k ≤ L → ∀ s ∈ wsn N w k i, s < 8
  | 0, i, _, s, hs => by cases hs
  | k + 1, i, hi, s, hs => by
    rw [wsn] at hs
    split at hs
    · rcases List.mem_cons.mp hs with e | e
      · rw [e]; exact h i (by omega)
      · exact wsn_lt h k (i + 1) (by omega) s e
    · exact wsn_lt h k (i + 1) (by omega) s hs
theorem wl_lt {N : Nat → Int32} {w : Nat} (h : WFw N w) : ∀ s ∈ wl N w, s < 8 := wsn_lt (fun i hi => (h.2.2.2 i hi).2) (ln N w) 0 (by omega)
theorem wl_len {N : Nat → Int32} {w : Nat} (h : WFw N w) : 1 ≤ (wl N w).length ∧ (wl N w).length ≤ 8 := by
  have h1 := wsn_len N w (ln N w) 0
  obtain ⟨⟨-, h2, h3⟩, -⟩ := h
  refine ⟨?_, by unfold wl; omega⟩
  obtain ⟨k, hk⟩ : ∃ k, ln N w = k + 1 := ⟨ln N w - 1, by omega⟩
  unfold wl
  rw [hk, wsn, if_pos (Or.inl rfl), List.length_cons]
  omega
/-! the class: written sounds -/
abbrev vS (N : Nat → Int32) : Nat → Int32 := fun j => N (54 + j)
abbrev vL (N : Nat → Int32) : Nat → Int32 := fun j => N (18 + j)
abbrev vQ (N : Nat → Int32) : Nat → Int32 := fun j => N (30 + j)
abbrev vB (N : Nat → Int32) : Nat → Int32 := fun j => N (42 + j)
abbrev vF (N : Nat → Int32) : Nat → Int32 := fun j => N (1 + j)
abbrev vE (N : Nat → Int32) : Nat → Int32 := fun j => N (9 + j)
theorem vSa (N : Nat → Int32) (j : Nat) : vS N j = N (54 + j) := rfl
theorem vLa (N : Nat → Int32) (j : Nat) : vL N j = N (18 + j) := rfl
theorem vQa (N : Nat → Int32) (j : Nat) : vQ N j = N (30 + j) := rfl
theorem vBa (N : Nat → Int32) (j : Nat) : vB N j = N (42 + j) := rfl
theorem vFa (N : Nat → Int32) (j : Nat) : vF N j = N (1 + j) := rfl
theorem vEa (N : Nat → Int32) (j : Nat) : vE N j = N (9 + j) := rfl
theorem p_soundAt (N : Nat → Int32) {w i : Nat} (hw : w < 12) (hi : i < 8) : fn_X5_soundAt (vS N) (nI w) (nI i) = some (N (54 + (8 * w + i))) := by
  unfold fn_X5_soundAt
  rw [l8, pk_mul, nI_add, gin (by omega) (by omega), nI_clamp (by omega), Nat.mul_comm w 8, vSa]
theorem p_isWritten (N : Nat → Int32) {w i : Nat} (hw : w < 12) (hi : i < 8) : fn_X5_isWritten (N 0) (vS N) (nI w) (nI i) = some (if i = 0 ∨ ((N 0 >>> (N (54 + (8 * w + i)) &&& 31)) &&& 1) = 0 then 1 else 0) := by
  unfold fn_X5_isWritten
  by_cases h0 : i = 0
  · subst h0
    rw [if_pos nI_0, if_pos (Or.inl rfl)]
  · rw [if_neg (nI_ne0 (by omega) (by omega)), p_soundAt N hw hi, obs]
    by_cases h1 : ((N 0 >>> (N (54 + (8 * w + i)) &&& 31)) &&& 1) = 0
    · rw [if_pos h1, if_pos (Or.inr h1)]
    · rw [if_neg h1, if_neg (by intro h; rcases h with h | h <;> contradiction)]
theorem p_wcount_lp {N : Nat → Int32} {w : Nat} (hw : w < 12) (h : WFw N w) : ∀ k n c i, i + k = ln N w → k < n → lp_X5_writtenCount_4 (nI w) (vL N) (N 0) (vS N) n (nI c) (nI i) = some (nI (c + (wsn N w k i).length)) := by
  obtain ⟨⟨h1, h2, h3⟩, -⟩ := h
  intro k
  induction k with
  | zero =>
    intro n c i hi hn
    obtain ⟨n, rfl⟩ : ∃ m, n = m + 1 := ⟨n - 1, by omega⟩
    rw [lp_X5_writtenCount_4, gin hw (by omega), nI_clamp (by omega), vLa, h1, if_pos (nI_le (by omega) (by omega))]
    simp [wsn]
  | succ k ih =>
    intro n c i hi hn
    obtain ⟨n, rfl⟩ : ∃ m, n = m + 1 := ⟨n - 1, by omega⟩
    rw [lp_X5_writtenCount_4, gin hw (by omega), nI_clamp (by omega), vLa, h1, if_neg (nI_ge (by omega) (by omega)), p_isWritten N hw (by omega), obs, wsn, nI_1, nI_1]
    by_cases hc : i = 0 ∨ ((N 0 >>> (N (54 + (8 * w + i)) &&& 31)) &&& 1) = 0
    · rw [if_pos hc, if_pos hc, if_neg (by decide), ih n (c + 1) (i + 1) (by omega) (by omega), List.length_cons]
      congr 2
      omega
    · rw [if_neg hc, if_neg hc, if_pos rfl, ih n c (i + 1) (by omega) (by omega)]
theorem p_wcount {N : Nat → Int32} {w : Nat} (hw : w < 12) (h : WFw N w) : fn_X5_writtenCount (N 0) (vS N) (vL N) (nI w) = some (nI (wl N w).length) := by
  have hl := h.1
  unfold fn_X5_writtenCount
  rw [l0, p_wcount_lp hw h (ln N w) 1024 0 0 (by omega) (by omega), obs, Nat.zero_add]
  rfl
/-- the gain of word w -/
def gn (N : Nat → Int32) (w : Nat) : Nat := fq N w * ((wl N w).length - 1)
theorem p_gain {N : Nat → Int32} {w : Nat} (hw : w < 12) (h : WFw N w) : fn_X5_gainOf (N 0) (vS N) (vL N) (vQ N) (nI w) = some (nI (gn N w)) := by
  have hl := wl_len h
  unfold fn_X5_gainOf gn
  rw [gin hw (by omega), p_wcount hw h, obs, nI_clamp (by omega), vQa, h.2.1.1, l1, pk_sub (by omega), pk_mul]
theorem p_kept {N : Nat → Int32} {w : Nat} (hw : w < 12) (h : WFw N w) : fn_X5_keptStroke (N 0) (vF N) (vS N) (vL N) (vB N) (nI w) = some (if N (42 + w) = mI then (if (wl N w).length = 1 then N (1 + sd N w 0) else mI) else N (42 + w)) := by
  have hl := wl_len h
  have hs := h.2.2.2 0 (by have := h.1; omega)
  unfold fn_X5_keptStroke
  rw [gin hw (by omega), gin hw (by omega), nI_clamp (by omega), lm1, vBa]
  by_cases hb : N (42 + w) = mI
  · rw [if_pos hb, if_pos hb, p_wcount hw h, obs]
    by_cases hk : (wl N w).length = 1
    · rw [if_pos hk, if_pos (by rw [hk]; rfl), l0, p_soundAt N hw (by omega), obs, hs.1, gin hs.2 (by omega), nI_clamp (by omega), vFa]
    · rw [if_neg hk, if_neg (by rw [l1, nI_eq (by omega) (by omega)]; exact hk)]
  · rw [if_neg hb, if_neg hb]
theorem p_hasWord {N : Nat → Int32} (h : WF N) (x : Int32) : fn_X5_hasWord (N 17) x = some (if x < 0 then 0 else if N 17 ≤ x then 0 else 1) := by
  unfold fn_X5_hasWord
  split
  · rfl
  · split <;> rfl
