/-! words come and go -/
def txb (T : Nat → Int32) : Nat → Nat → Bool
  | 0, _ => true
  | r + 1, i => (!decide (T i < 97) && decide (T i ≤ 104)) && txb T r (i + 1)
theorem txb_at (T : Nat → Int32) : ∀ r i, txb T r i = true → ∀ j, i ≤ j → j < i + r → ¬ T j < 97 ∧ T j ≤ 104
  | 0, i, _, j, h1, h2 => by omega
  | r + 1, i, h, j, h1, h2 => by
    rw [txb, Bool.and_eq_true, Bool.and_eq_true] at h
    by_cases e : j = i
    · subst e
      exact ⟨by simpa using h.1.1, of_decide_eq_true h.1.2⟩
    · exact txb_at T r (i + 1) h.2 j (by omega) (by omega)
theorem p_text_lp {T : Nat → Int32} {a : Nat} (ha : a ≤ 8) : ∀ r i n, i + r = a → r < n → lp_X6_textIsWord_2 (nI a) T n (nI i) = some (b2i (txb T r i && decide (0 < a))) := by
  intro r
  induction r with
  | zero =>
    intro i n hi hn
    obtain ⟨n, rfl⟩ : ∃ m, n = m + 1 := ⟨n - 1, by omega⟩
    rw [lp_X6_textIsWord_2, if_pos (nI_le (by omega) (by omega)), txb, Bool.true_and]
    by_cases h0 : a = 0
    · subst h0
      rfl
    · rw [if_neg (nI_nle (by omega) (by omega)), decide_eq_true (by omega)]
      rfl
  | succ r ih =>
    intro i n hi hn
    obtain ⟨n, rfl⟩ : ∃ m, n = m + 1 := ⟨n - 1, by omega⟩
    rw [lp_X6_textIsWord_2, if_neg (nI_ge (by omega) (by omega)), gin (by omega) (by omega), gin (by omega) (by omega), nI_clamp (by omega), nI_1, ih (i + 1) n (by omega) (by omega), txb]
    by_cases h1 : T i < 97
    · rw [if_pos h1, decide_eq_true h1]
      rfl
    · rw [if_neg h1, decide_eq_false h1]
      by_cases h2 : T i ≤ 104
      · rw [if_pos h2, decide_eq_true h2]
        rfl
      · rw [if_neg h2, decide_eq_false h2]
        rfl
theorem m_text_lp {T : Nat → Int32} {a : Nat} (ha : a ≤ 8) : ∀ r i n (b : Bool), i + r = a → r < n → lp_X7_isText_15 (nI a) T n (b2i b) (nI i) = some (b2i (b && txb T r i)) := by
  intro r
  induction r with
  | zero =>
    intro i n b hi hn
    obtain ⟨n, rfl⟩ : ∃ m, n = m + 1 := ⟨n - 1, by omega⟩
    rw [lp_X7_isText_15, if_pos (nI_le (by omega) (by omega)), txb, Bool.and_true]
  | succ r ih =>
    intro i n b hi hn
    obtain ⟨n, rfl⟩ : ∃ m, n = m + 1 := ⟨n - 1, by omega⟩
    have hf := ih (i + 1) n false (by omega) (by omega)
    have ht := ih (i + 1) n true (by omega) (by omega)
    rw [Bool.false_and] at hf
    rw [Bool.true_and] at ht
    rw [lp_X7_isText_15, if_neg (nI_ge (by omega) (by omega)), gin (by omega) (by omega), nI_clamp (by omega), nI_1, txb]
    cases b with
    | false =>
      rw [if_pos (show b2i false = 0 from rfl), Bool.false_and]
      exact hf
    | true =>
      rw [if_neg (show ¬ b2i true = 0 by decide), Bool.true_and]
      unfold fn_X7_within
      by_cases h1 : T i < 97
      · rw [if_pos h1, obs, if_pos rfl, decide_eq_true h1]
        exact hf
      · rw [if_neg h1, decide_eq_false h1]
        by_cases h2 : T i ≤ 104
        · rw [if_neg (Int32.not_lt.mpr h2), obs, if_neg (by decide), decide_eq_true h2]
          exact ht
        · rw [if_pos (Int32.not_le.mp h2), obs, if_pos rfl, decide_eq_false h2]
          exact hf
theorem p_text {T : Nat → Int32} {a : Nat} (ha : a ≤ 8) : fn_X6_textIsWord (nI a) T = some (b2i (txb T a 0 && decide (0 < a))) ∧ fn_X7_isText (nI a) T = some (b2i (txb T a 0 && decide (0 < a))) := by
  refine ⟨p_text_lp ha a 0 1024 (by omega) (by omega), ?_⟩
  have hf := m_text_lp (T := T) ha a 0 1024 false (by omega) (by omega)
  have ht := m_text_lp (T := T) ha a 0 1024 true (by omega) (by omega)
  unfold fn_X7_isText
  by_cases h0 : a = 0
  · subst h0
    rfl
  · rw [if_neg (nI_nle (by omega) (by omega)), show lp_X7_isText_15 (nI a) T 1024 1 0 = _ from ht, obs, Bool.true_and, decide_eq_true (show 0 < a by omega), Bool.and_true]
    cases txb T a 0 <;> rfl
def tls (T : Nat → Int32) : Nat → Nat → List Int32
  | 0, _ => []
  | r + 1, i => (T i - 97) :: tls T r (i + 1)
theorem tls_len (T : Nat → Int32) : ∀ r i, (tls T r i).length = r
  | 0, i => rfl
  | r + 1, i => by rw [tls, List.length_cons, tls_len T r (i + 1)]
theorem tls_at (T : Nat → Int32) : ∀ r i j, j < r → (tls T r i)[j]? = some (T (i + j) - 97)
  | 0, i, j, h => by omega
  | r + 1, i, 0, h => rfl
  | r + 1, i, j + 1, h => by rw [tls, List.getElem?_cons_succ, tls_at T r (i + 1) j (by omega), show i + 1 + j = i + (j + 1) by omega]
theorem p_enter_lp {T : Nat → Int32} {a c : Nat} (ha : a ≤ 8) (hc : c < 12) : ∀ r i n sp, i + r = a → r < n → lp_X5_enter_9 (nI a) (nI c) T n (nI i) sp = some (putL sp (8 * c + i) (tls T r i)) := by
  intro r
  induction r with
  | zero =>
    intro i n sp hi hn
    obtain ⟨n, rfl⟩ : ∃ m, n = m + 1 := ⟨n - 1, by omega⟩
    rw [lp_X5_enter_9, if_pos (nI_le (by omega) (by omega))]
    rfl
  | succ r ih =>
    intro i n sp hi hn
    obtain ⟨n, rfl⟩ : ∃ m, n = m + 1 := ⟨n - 1, by omega⟩
    rw [lp_X5_enter_9, if_neg (nI_ge (by omega) (by omega)), gin (by omega) (by omega), l8, pk_mul, nI_add, gin (by omega) (by omega), nI_clamp (n := c * 8 + i) (by omega), nI_clamp (n := i) (by omega), nI_1, ih (i + 1) n _ (by omega) (by omega), tls, putL, Nat.mul_comm c 8]
    rfl
theorem m_enter_lp {T : Nat → Int32} {a c : Nat} (ha : a ≤ 8) (hc : c < 12) : ∀ r i n N, i + r = a → r < n → lp_X7_addWord_98 (nI a) (nI c) T n (nI i) N = some (putL N (54 + 8 * c + i) (tls T r i)) := by
  intro r
  induction r with
  | zero =>
    intro i n sp hi hn
    obtain ⟨n, rfl⟩ : ∃ m, n = m + 1 := ⟨n - 1, by omega⟩
    rw [lp_X7_addWord_98, if_pos (nI_le (by omega) (by omega))]
    rfl
  | succ r ih =>
    intro i n sp hi hn
    obtain ⟨n, rfl⟩ : ∃ m, n = m + 1 := ⟨n - 1, by omega⟩
    rw [lp_X7_addWord_98, if_neg (nI_ge (by omega) (by omega)), gin (by omega) (by omega), l54, l8, pk_mul, nI_add, nI_add, gin (by omega) (by omega), nI_clamp (n := 54 + 8 * c + i) (by omega), nI_clamp (n := i) (by omega), nI_1, ih (i + 1) n _ (by omega) (by omega), tls, putL]
    rfl
theorem putL_sh : ∀ (l : List Int32) (F M : Nat → Int32) (c : Nat), (∀ j, F j = M (54 + j)) → ∀ j, putL F c l j = putL M (54 + c) l (54 + j)
  | [], F, M, c, h, j => h j
  | x :: t, F, M, c, h, j => by
    rw [putL, putL]
    refine putL_sh t (upd F c x) (upd M (54 + c) x) (c + 1) (fun i => ?_) j
    by_cases e : i = c
    · subst e
      rw [upd_s, upd_s]
    · rw [upd_n _ _ e, upd_n _ _ (by omega), h i]
/-! removal: everything behind the word moves down -/
def sh1 (f : Nat → Int32) (w t : Nat) : Nat → Int32 := fun u => if w ≤ u ∧ u < t then f (u + 1) else f u
def sh8 (f : Nat → Int32) (w t : Nat) : Nat → Int32 := fun j => if 8 * w ≤ j ∧ j < 8 * t then f (j + 8) else f j
def mv8 (f : Nat → Int32) (t i : Nat) : Nat → Int32 := fun j => if 8 * t ≤ j ∧ j < 8 * t + i then f (j + 8) else f j
theorem mv8_s (f : Nat → Int32) (t i : Nat) : upd (mv8 f t i) (8 * t + i) (f (8 * t + 8 + i)) = mv8 f t (i + 1) := by
  funext j
  by_cases e : j = 8 * t + i
  · subst e
    rw [upd_s, mv8, if_pos (by omega)]
    congr 1
    omega
  · rw [upd_n _ _ e, mv8, mv8]
    by_cases h : 8 * t ≤ j ∧ j < 8 * t + i
    · rw [if_pos h, if_pos (by omega)]
    · rw [if_neg h, if_neg (by omega)]
theorem mv8_0 (f : Nat → Int32) (t : Nat) : mv8 f t 0 = f := by
  funext j
  rw [mv8, if_neg (by omega)]
theorem p_move_lp {f : Nat → Int32} {t : Nat} (ht : t < 11) : ∀ r i n, i + r = 8 → r < n → lp_X5_moveDown_6 (nI (t + 1)) (nI t) n (nI i) (mv8 f t i) = some (mv8 f t 8) := by
  intro r
  induction r with
  | zero =>
    intro i n hi hn
    obtain ⟨n, rfl⟩ : ∃ m, n = m + 1 := ⟨n - 1, by omega⟩
    have e : i = 8 := by omega
    subst e
    rw [lp_X5_moveDown_6, if_pos (by decide)]
  | succ r ih =>
    intro i n hi hn
    obtain ⟨n, rfl⟩ : ∃ m, n = m + 1 := ⟨n - 1, by omega⟩
    rw [lp_X5_moveDown_6, l8, if_neg (nI_ge (by omega) (by omega)), pk_mul, pk_mul, nI_add, nI_add, gin (by omega) (by omega), gin (by omega) (by omega), nI_clamp (n := (t + 1) * 8 + i) (by omega), nI_clamp (n := t * 8 + i) (by omega), nI_1]
    have e1 : mv8 f t i ((t + 1) * 8 + i) = f (8 * t + 8 + i) := by
      rw [mv8, if_neg (by omega)]
      congr 1
      omega
    rw [e1, show t * 8 + i = 8 * t + i by omega, mv8_s]
    exact ih (i + 1) n (by omega) (by omega)
theorem sh8_s (f : Nat → Int32) {w t : Nat} (h : w ≤ t) : mv8 (sh8 f w t) t 8 = sh8 f w (t + 1) := by
  funext j
  rw [mv8, sh8, sh8, sh8]
  by_cases h1 : 8 * t ≤ j ∧ j < 8 * t + 8
  · rw [if_pos h1, if_neg (by omega), if_pos (by omega)]
  · rw [if_neg h1]
    by_cases h2 : 8 * w ≤ j ∧ j < 8 * t
    · rw [if_pos h2, if_pos (by omega)]
    · rw [if_neg h2, if_neg (by omega)]
theorem sh1_s (f : Nat → Int32) {w t : Nat} (h : w ≤ t) : upd (sh1 f w t) t (sh1 f w t (t + 1)) = sh1 f w (t + 1) := by
  funext j
  by_cases e : j = t
  · subst e
    rw [upd_s, sh1, if_neg (by omega), sh1, if_pos (by omega)]
  · rw [upd_n _ _ e, sh1, sh1]
    by_cases h2 : w ≤ j ∧ j < t
    · rw [if_pos h2, if_pos (by omega)]
    · rw [if_neg h2, if_neg (by omega)]
theorem sh1_0 (f : Nat → Int32) (w : Nat) : sh1 f w w = f := by
  funext j
  rw [sh1, if_neg (by omega)]
theorem sh8_0 (f : Nat → Int32) (w : Nat) : sh8 f w w = f := by
  funext j
  rw [sh8, if_neg (by omega)]
theorem p_moveDown (sp le fr br : Nat → Int32) {w t : Nat} (h : w ≤ t) (ht : t < 11) : fn_X5_moveDown (sh8 sp w t) (sh1 le w t) (sh1 fr w t) (sh1 br w t) (nI (t + 1)) = some (sh8 sp w (t + 1), sh1 le w (t + 1), sh1 fr w (t + 1), sh1 br w (t + 1)) := by
  have h1 := p_move_lp (f := sh8 sp w t) ht 8 0 1024 (by omega) (by omega)
  rw [mv8_0, sh8_s sp h] at h1
  unfold fn_X5_moveDown
  rw [l1, pk_sub (by omega), Nat.add_sub_cancel, show lp_X5_moveDown_6 (nI (t + 1)) (nI t) 1024 0 (sh8 sp w t) = _ from h1, obs, gin (by omega) (by omega), gin (by omega) (by omega), gin (by omega) (by omega), gin (by omega) (by omega), gin (by omega) (by omega), gin (by omega) (by omega), nI_clamp (n := t + 1) (by omega), nI_clamp (n := t) (by omega), sh1_s le h, sh1_s fr h, sh1_s br h]
theorem p_drop_lp (sp le fr br : Nat → Int32) {w c : Nat} (hc : c ≤ 12) : ∀ r t n, w ≤ t → t + 1 + r = c → r < n → lp_X5_drop_4 (nI c) n (nI (t + 1)) (sh8 sp w t) (sh1 le w t) (sh1 fr w t) (sh1 br w t) = some (sh8 sp w (c - 1), sh1 le w (c - 1), sh1 fr w (c - 1), sh1 br w (c - 1)) := by
  intro r
  induction r with
  | zero =>
    intro t n hw ht hn
    obtain ⟨n, rfl⟩ : ∃ m, n = m + 1 := ⟨n - 1, by omega⟩
    rw [lp_X5_drop_4, if_pos (nI_le (by omega) (by omega)), show c - 1 = t by omega]
  | succ r ih =>
    intro t n hw ht hn
    obtain ⟨n, rfl⟩ : ∃ m, n = m + 1 := ⟨n - 1, by omega⟩
    rw [lp_X5_drop_4, if_neg (nI_ge (by omega) (by omega)), p_moveDown sp le fr br hw (by omega), obs, nI_1]
    exact ih (t + 1) n (by omega) (by omega) (by omega)
theorem p_drop (sp le fr br : Nat → Int32) {w c : Nat} (hc : c ≤ 12) (hw : w < c) : fn_X5_drop (nI c) sp le fr br (nI w) = some (nI (c - 1), sh8 sp w (c - 1), sh1 le w (c - 1), sh1 fr w (c - 1), sh1 br w (c - 1)) := by
  have h1 := p_drop_lp sp le fr br (w := w) hc (c - (w + 1)) w 1024 (Nat.le_refl _) (by omega) (by omega)
  rw [sh8_0, sh1_0, sh1_0, sh1_0] at h1
  unfold fn_X5_drop
  rw [nI_1, h1, obs, l1, pk_sub (by omega)]
def shN (N : Nat → Int32) (w t : Nat) : Nat → Int32 := fun j => if 18 + w ≤ j ∧ j < 18 + t then N (j + 1) else if 30 + w ≤ j ∧ j < 30 + t then N (j + 1) else if 42 + w ≤ j ∧ j < 42 + t then N (j + 1) else if 54 + 8 * w ≤ j ∧ j < 54 + 8 * t then N (j + 8) else N j
def mvN (N : Nat → Int32) (t i : Nat) : Nat → Int32 := fun j => if 54 + 8 * t ≤ j ∧ j < 54 + 8 * t + i then N (j + 8) else N j
theorem mvN_s (f : Nat → Int32) (t i : Nat) : upd (mvN f t i) (54 + 8 * t + i) (f (54 + 8 * t + 8 + i)) = mvN f t (i + 1) := by
  funext j
  by_cases e : j = 54 + 8 * t + i
  · subst e
    rw [upd_s, mvN, if_pos (by omega)]
    congr 1
    omega
  · rw [upd_n _ _ e, mvN, mvN]
    by_cases h : 54 + 8 * t ≤ j ∧ j < 54 + 8 * t + i
    · rw [if_pos h, if_pos (by omega)]
    · rw [if_neg h, if_neg (by omega)]
theorem mvN_0 (f : Nat → Int32) (t : Nat) : mvN f t 0 = f := by
  funext j
  rw [mvN, if_neg (by omega)]
theorem m_move_lp {f : Nat → Int32} {t : Nat} (ht : t < 11) : ∀ r i n, i + r = 8 → r < n → lp_X7_removeWord_105 (nI t) n (nI i) (mvN f t i) = some (mvN f t 8) := by
  intro r
  induction r with
  | zero =>
    intro i n hi hn
    obtain ⟨n, rfl⟩ : ∃ m, n = m + 1 := ⟨n - 1, by omega⟩
    have e : i = 8 := by omega
    subst e
    rw [lp_X7_removeWord_105, if_pos (by decide)]
  | succ r ih =>
    intro i n hi hn
    obtain ⟨n, rfl⟩ : ∃ m, n = m + 1 := ⟨n - 1, by omega⟩
    rw [lp_X7_removeWord_105, l8, l54, if_neg (nI_ge (by omega) (by omega)), pk_mul, nI_add, nI_add, nI_add, nI_add, gin (by omega) (by omega), gin (by omega) (by omega), nI_clamp (n := 54 + 8 * t + 8 + i) (by omega), nI_clamp (n := 54 + 8 * t + i) (by omega), nI_1]
    have e1 : mvN f t i (54 + 8 * t + 8 + i) = f (54 + 8 * t + 8 + i) := by rw [mvN, if_neg (by omega)]
    rw [e1, mvN_s]
    exact ih (i + 1) n (by omega) (by omega)
theorem shN_s (N : Nat → Int32) {w t : Nat} (h : w ≤ t) (ht : t < 11) : mvN (upd (upd (upd (shN N w t) (18 + t) (shN N w t (18 + t + 1))) (30 + t) (upd (shN N w t) (18 + t) (shN N w t (18 + t + 1)) (30 + t + 1))) (42 + t) (upd (upd (shN N w t) (18 + t) (shN N w t (18 + t + 1))) (30 + t) (upd (shN N w t) (18 + t) (shN N w t (18 + t + 1)) (30 + t + 1)) (42 + t + 1))) t 8 = shN N w (t + 1) := by
  have a1 : shN N w t (18 + t + 1) = N (18 + t + 1) := by
    rw [shN, if_neg (by omega), if_neg (by omega), if_neg (by omega), if_neg (by omega)]
  have a2 : shN N w t (30 + t + 1) = N (30 + t + 1) := by
    rw [shN, if_neg (by omega), if_neg (by omega), if_neg (by omega), if_neg (by omega)]
  have a3 : shN N w t (42 + t + 1) = N (42 + t + 1) := by
    rw [shN, if_neg (by omega), if_neg (by omega), if_neg (by omega), if_neg (by omega)]
  rw [a1, upd_n (shN N w t) _ (show ¬ 30 + t + 1 = 18 + t by omega), a2, upd_n _ _ (show ¬ 42 + t + 1 = 30 + t by omega), upd_n (shN N w t) _ (show ¬ 42 + t + 1 = 18 + t by omega), a3]
  funext j
  have key : ∀ x, ¬ x = 18 + t → ¬ x = 30 + t → ¬ x = 42 + t → upd (upd (upd (shN N w t) (18 + t) (N (18 + t + 1))) (30 + t) (N (30 + t + 1))) (42 + t) (N (42 + t + 1)) x = shN N w t x := fun x h1 h2 h3 => by rw [upd_n _ _ h3, upd_n _ _ h2, upd_n _ _ h1]
  rw [mvN]
  by_cases hm : 54 + 8 * t ≤ j ∧ j < 54 + 8 * t + 8
  · rw [if_pos hm, key (j + 8) (by omega) (by omega) (by omega), shN, if_neg (by omega), if_neg (by omega), if_neg (by omega), if_neg (by omega), shN, if_neg (by omega), if_neg (by omega), if_neg (by omega), if_pos (by omega)]
  · rw [if_neg hm]
    by_cases h1 : j = 18 + t
    · subst h1
      rw [upd_n _ _ (by omega), upd_n _ _ (by omega), upd_s, shN, if_pos (by omega)]
    · by_cases h2 : j = 30 + t
      · subst h2
        rw [upd_n _ _ (by omega), upd_s, shN, if_neg (by omega), if_pos (by omega)]
      · by_cases h3 : j = 42 + t
        · subst h3
          rw [upd_s, shN, if_neg (by omega), if_neg (by omega), if_pos (by omega)]
        · rw [key j h1 h2 h3, shN, shN]
          by_cases b1 : 18 + w ≤ j ∧ j < 18 + t
          · rw [if_pos b1, if_pos (by omega)]
          · rw [if_neg b1, if_neg (show ¬ (18 + w ≤ j ∧ j < 18 + (t + 1)) by omega)]
            by_cases b2 : 30 + w ≤ j ∧ j < 30 + t
            · rw [if_pos b2, if_pos (by omega)]
            · rw [if_neg b2, if_neg (show ¬ (30 + w ≤ j ∧ j < 30 + (t + 1)) by omega)]
              by_cases b3 : 42 + w ≤ j ∧ j < 42 + t
              · rw [if_pos b3, if_pos (by omega)]
              · rw [if_neg b3, if_neg (show ¬ (42 + w ≤ j ∧ j < 42 + (t + 1)) by omega)]
                by_cases b4 : 54 + 8 * w ≤ j ∧ j < 54 + 8 * t
                · rw [if_pos b4, if_pos (by omega)]
                · rw [if_neg b4, if_neg (by omega)]
theorem shN_17 (N : Nat → Int32) (w t : Nat) : shN N w t 17 = N 17 := by rw [shN, if_neg (by omega), if_neg (by omega), if_neg (by omega), if_neg (by omega)]
theorem shN_0 (N : Nat → Int32) (w : Nat) : shN N w w = N := by
  funext j
  rw [shN, if_neg (by omega), if_neg (by omega), if_neg (by omega), if_neg (by omega)]
theorem m_drop_lp (N : Nat → Int32) {w c : Nat} (hc : c ≤ 11) (h17 : N 17 = nI c) : ∀ r t n, w ≤ t → t + r = c → r < n → lp_X7_removeWord_32 n (nI t) (shN N w t) = some (shN N w c) := by
  intro r
  induction r with
  | zero =>
    intro t n hw ht hn
    obtain ⟨n, rfl⟩ : ∃ m, n = m + 1 := ⟨n - 1, by omega⟩
    have e : t = c := by omega
    subst e
    rw [lp_X7_removeWord_32, show (17 : Int32).toNatClampNeg = 17 from rfl, shN_17, h17, if_pos (nI_le (by omega) (by omega))]
  | succ r ih =>
    intro t n hw ht hn
    obtain ⟨n, rfl⟩ : ∃ m, n = m + 1 := ⟨n - 1, by omega⟩
    have h1 := m_move_lp (f := upd (upd (upd (shN N w t) (18 + t) (shN N w t (18 + t + 1))) (30 + t) (upd (shN N w t) (18 + t) (shN N w t (18 + t + 1)) (30 + t + 1))) (42 + t) (upd (upd (shN N w t) (18 + t) (shN N w t (18 + t + 1))) (30 + t) (upd (shN N w t) (18 + t) (shN N w t (18 + t + 1)) (30 + t + 1)) (42 + t + 1))) (t := t) (by omega) 8 0 1024 (by omega) (by omega)
    rw [mvN_0, shN_s N hw (by omega)] at h1
    rw [lp_X7_removeWord_32, show (17 : Int32).toNatClampNeg = 17 from rfl, shN_17, h17, if_neg (nI_ge (by omega) (by omega)), l18, l30, l42, nI_add, nI_add, nI_add, nI_1, nI_1, nI_1, nI_1, gin (by omega) (by omega), gin (by omega) (by omega), gin (by omega) (by omega), gin (by omega) (by omega), gin (by omega) (by omega), gin (by omega) (by omega), nI_clamp (n := 18 + t + 1) (by omega), nI_clamp (n := 18 + t) (by omega), nI_clamp (n := 30 + t + 1) (by omega), nI_clamp (n := 30 + t) (by omega), nI_clamp (n := 42 + t + 1) (by omega), nI_clamp (n := 42 + t) (by omega), l0, h1, obs]
    exact ih (t + 1) n (by omega) (by omega) (by omega)
theorem op_addWord {N : Nat → Int32} {hc : Int32} {G0 : GT} {G1 : GT} {G2 : GT} {G3 : GT} {G4 : GT} {pa : Nat → Int32} {tl : Int32} {P : Nat → Int32} {pl : Int32} (h : INVQ N hc G0 G1 G2 G3 G4 pa tl P pl) (E : Nat → Int32) (T : Nat → Int32) (x1 : Int32) : ∃ (r : Int32) (wc' : Int32) (cS' : Nat → Int32) (cL' : Nat → Int32) (cQ' : Nat → Int32) (cB' : Nat → Int32) (hc' : Int32) (G0' : GT) (G1' : GT) (G2' : GT) (G3' : GT) (G4' : GT) (E' : Nat → Int32) (N' : Nat → Int32) (pa' : Nat → Int32), fn_X6_addWord tl (N 0) (N 17) (vF N) (vE N) (vS N) (vL N) (vQ N) (vB N) hc G0 G1 G2 G3 G4 T E x1 = some (r, wc', cS', cL', cQ', cB', hc', G0', G1', G2', G3', G4', E') ∧ fn_X7_addWord hc tl N pa E T x1 = some (r, hc', N', pa', E') ∧ INVP N' (vF N) (vE N) (N 0) wc' cS' cL' cQ' cB' hc' G0' G1' G2' G3' G4' pa' tl P pl := by
  obtain ⟨hc', G0', G1', G2', G3', G4', pa', hs1, hs2, hh⟩ := p_save h.1 h.2.1
  obtain ⟨a, ha, rfl⟩ := h.2.2.1
  have h12 := h.1.1.2
  have h17 := h.1.1.1
  obtain ⟨t1, t2⟩ := p_text (T := T) ha
  have bad : ∀ (e : Int32) (i : Nat), fn_X6_addWord (nI a) (N 0) (N 17) (vF N) (vE N) (vS N) (vL N) (vQ N) (vB N) hc G0 G1 G2 G3 G4 T E x1 = some (e, N 17, vS N, vL N, vQ N, vB N, hc, G0, G1, G2, G3, G4, bump E i) → fn_X7_addWord hc (nI a) N pa E T x1 = some (e, hc, N, pa, bump E i) → ∃ (r : Int32) (wc' : Int32) (cS' : Nat → Int32) (cL' : Nat → Int32) (cQ' : Nat → Int32) (cB' : Nat → Int32) (hc' : Int32) (G0' : GT) (G1' : GT) (G2' : GT) (G3' : GT) (G4' : GT) (E' : Nat → Int32) (N' : Nat → Int32) (pa' : Nat → Int32), fn_X6_addWord (nI a) (N 0) (N 17) (vF N) (vE N) (vS N) (vL N) (vQ N) (vB N) hc G0 G1 G2 G3 G4 T E x1 = some (r, wc', cS', cL', cQ', cB', hc', G0', G1', G2', G3', G4', E') ∧ fn_X7_addWord hc (nI a) N pa E T x1 = some (r, hc', N', pa', E') ∧ INVP N' (vF N) (vE N) (N 0) wc' cS' cL' cQ' cB' hc' G0' G1' G2' G3' G4' pa' (nI a) P pl := fun e i e1 e2 => ⟨e, N 17, vS N, vL N, vQ N, vB N, hc, G0, G1, G2, G3, G4, bump E i, N, pa, e1, e2, SR_self N, h⟩
  by_cases h0 : x1 < 1
  · refine bad (-2) 0 ?_ ?_
    · unfold fn_X6_addWord
      rw [if_pos h0, fl2, obs]
    · unfold fn_X7_addWord fn_X7_within
      rw [if_pos h0, obs, if_pos rfl, ml2, obs]
  · by_cases h1 : x1 ≤ (999 : Int32)
    · cases htx : (txb T a 0 && decide (0 < a)) with
      | false =>
        rw [htx] at t1 t2
        refine bad (-3) 1 ?_ ?_
        · unfold fn_X6_addWord
          rw [if_neg h0, if_pos h1, t1, obs, if_pos (show b2i false = 0 from rfl), fl3, obs]
        · unfold fn_X7_addWord fn_X7_within
          rw [if_neg h0, if_neg (Int32.not_lt.mpr h1), obs, if_neg (by decide), t2, obs, if_pos (show b2i false = 0 from rfl), ml3, obs]
      | true =>
        rw [htx] at t1 t2
        rw [Bool.and_eq_true, decide_eq_true_iff] at htx
        by_cases hc12 : cn N = 12
        · have h17b : N 17 = 12 := by rw [h17, hc12]; rfl
          refine bad (-4) 2 ?_ ?_
          · unfold fn_X6_addWord
            rw [if_neg h0, if_pos h1, t1, obs, if_neg (show ¬ b2i true = 0 by decide), h17b, if_neg (by decide), fl4, obs]
          · unfold fn_X7_addWord fn_X7_within
            rw [if_neg h0, if_neg (Int32.not_lt.mpr h1), obs, if_neg (by decide), t2, obs, if_neg (show ¬ b2i true = 0 by decide), show (17 : Int32).toNatClampNeg = 17 from rfl, if_pos h17b, ml4, obs]
        · obtain ⟨f, f1, f2, rfl⟩ := nI_rng (a := 1) (b := 999) (by omega) (by omega) h0 h1 (by omega)
          obtain ⟨g1, g2, g3, g4, g5⟩ := WF_x h.1
          have hl := tls_len T a 0
          let N3 := upd (upd (upd N (18 + cn N) (nI a)) (30 + cn N) (nI f)) (42 + cn N) (-1)
          have hN3 : N3 = upd (upd (upd N (18 + cn N) (nI a)) (30 + cn N) (nI f)) (42 + cn N) (-1) := rfl
          have n3 : ∀ x, ¬ x = 18 + cn N → ¬ x = 30 + cn N → ¬ x = 42 + cn N → N3 x = N x := fun x q1 q2 q3 => by rw [hN3, upd_n _ _ q3, upd_n _ _ q2, upd_n _ _ q1]
          have n18 : N3 (18 + cn N) = nI a := by rw [hN3, upd_n _ _ (by omega), upd_n _ _ (by omega), upd_s]
          have n30 : N3 (30 + cn N) = nI f := by rw [hN3, upd_n _ _ (by omega), upd_s]
          have n42 : N3 (42 + cn N) = -1 := by rw [hN3, upd_s]
          let N4 := putL N3 (54 + 8 * cn N) (tls T a 0)
          have hN4 : N4 = putL N3 (54 + 8 * cn N) (tls T a 0) := rfl
          have n4 : ∀ x, x < 54 + 8 * cn N → N4 x = N3 x := fun x q => putL_lt _ _ _ _ q
          have n4g : ∀ x, 54 + 8 * cn N + a ≤ x → N4 x = N3 x := fun x q => putL_ge _ _ _ _ (by rw [hl]; exact q)
          have n4t : ∀ i, i < a → N4 (54 + 8 * cn N + i) = T i - 97 := fun i hi => putL_at _ _ _ _ _ (by rw [tls_at T a 0 i hi, Nat.zero_add])
          have n17 : N4 17 = nI (cn N) := by rw [n4 _ (by omega), n3 _ (by omega) (by omega) (by omega)]; exact h17
          let N5 := upd N4 17 (nI (cn N + 1))
          have hN5 : N5 = upd N4 17 (nI (cn N + 1)) := rfl
          have n5 : ∀ x, ¬ x = 17 → N5 x = N4 x := fun x q => by rw [hN5, upd_n _ _ q]
          refine ⟨nI (cn N), nI (cn N + 1), putL (vS N) (8 * cn N) (tls T a 0), upd (vL N) (cn N) (nI a), upd (vQ N) (cn N) (nI f), upd (vB N) (cn N) (-1), hc', G0', G1', G2', G3', G4', E, N5, pa', ?_, ?_, ?_, ?_, hh, ⟨a, ha, rfl⟩, h.2.2.2⟩
          · unfold fn_X6_addWord
            rw [if_neg h0, if_pos h1, t1, obs, if_neg (show ¬ b2i true = 0 by decide), hs1, obs, h17, if_pos (show nI (cn N) < 12 by rw [l12]; exact nI_lt (by omega) (by omega)), fn_X5_enter, l0, p_enter_lp ha (by omega) a 0 1024 _ (by omega) (by omega), obs, gin (by omega) (by omega), gin (by omega) (by omega), gin (by omega) (by omega), obs, nI_clamp (by omega), nI_1]
            rfl
          · unfold fn_X7_addWord fn_X7_within
            rw [if_neg h0, if_neg (Int32.not_lt.mpr h1), obs, if_neg (by decide), t2, obs, if_neg (show ¬ b2i true = 0 by decide), show (17 : Int32).toNatClampNeg = 17 from rfl, h17, if_neg (show ¬ nI (cn N) = 12 by rw [l12, nI_eq (by omega) (by omega)]; exact hc12), hs2, obs, l18, l30, l42, nI_add, nI_add, nI_add, gin (by omega) (by omega), gin (by omega) (by omega), gin (by omega) (by omega), nI_clamp (n := 18 + cn N) (by omega), nI_clamp (n := 30 + cn N) (by omega), nI_clamp (n := 42 + cn N) (by omega), l0, m_enter_lp ha (by omega) a 0 1024 _ (by omega) (by omega), obs, Nat.add_zero]
            show some (nI (cn N), hc', upd N4 17 (N4 17 + 1), pa', E) = _
            rw [n17, nI_1]
          · refine ⟨fun j hj => ?_, fun j hj => ?_, ?_, ?_, fun j hj => ?_, fun j hj => ?_, fun j hj => ?_, fun j hj => ?_⟩
            · rw [n5 _ (by omega), n4 _ (by omega), n3 _ (by omega) (by omega) (by omega)]
            · rw [n5 _ (by omega), n4 _ (by omega), n3 _ (by omega) (by omega) (by omega)]
            · rw [n5 _ (by omega), n4 _ (by omega), n3 _ (by omega) (by omega) (by omega)]
            · rw [hN5, upd_s]
            · rw [n5 _ (by omega), hN4, ← putL_sh (tls T a 0) (fun j => N3 (54 + j)) N3 (8 * cn N) (fun _ => rfl) j]
              have e9 : (fun j => N3 (54 + j)) = vS N := by
                funext i
                exact n3 _ (by omega) (by omega) (by omega)
              rw [e9]
            · rw [n5 _ (by omega), n4 _ (by omega)]
              by_cases e : j = cn N
              · subst e
                rw [upd_s, n18]
              · rw [upd_n _ _ e, n3 _ (by omega) (by omega) (by omega)]
            · rw [n5 _ (by omega), n4 _ (by omega)]
              by_cases e : j = cn N
              · subst e
                rw [upd_s, n30]
              · rw [upd_n _ _ e, n3 _ (by omega) (by omega) (by omega)]
            · rw [n5 _ (by omega), n4 _ (by omega)]
              by_cases e : j = cn N
              · subst e
                rw [upd_s, n42]
              · rw [upd_n _ _ e, n3 _ (by omega) (by omega) (by omega)]
          · refine WF_of (c := cn N + 1) ⟨by rw [hN5, upd_s], by omega, fun s hs => ?_, fun s hs => ?_, fun w hw => ?_⟩
            · rw [n5 _ (by omega), n4 _ (by omega), n3 _ (by omega) (by omega) (by omega)]
              exact g3 s hs
            · rw [n5 _ (by omega), n4 _ (by omega), n3 _ (by omega) (by omega) (by omega)]
              exact g4 s hs
            · by_cases e : w = cn N
              · subst e
                refine ⟨⟨a, by omega, ha, by rw [n5 _ (by omega), n4 _ (by omega), n18], fun i hi => ?_⟩, ⟨f, f1, f2, by rw [n5 _ (by omega), n4 _ (by omega), n30]⟩, by rw [n5 _ (by omega), n4 _ (by omega), n42]; exact Or.inl rfl⟩
                obtain ⟨q1, q2⟩ := txb_at T a 0 htx.1 i (by omega) (by omega)
                obtain ⟨z, z1, z2, z3⟩ := nI_rng (a := 97) (b := 104) (by omega) (by omega) q1 q2 (by omega)
                refine ⟨z - 97, by omega, ?_⟩
                rw [n5 _ (by omega), ← Nat.add_assoc, n4t i hi, z3, l97, pk_sub z1]
              · obtain ⟨⟨l, k1, k2, k3, k4⟩, ⟨f', k5, k6, k7⟩, k8⟩ := g5 w (by omega)
                refine ⟨⟨l, k1, k2, by rw [n5 _ (by omega), n4 _ (by omega), n3 _ (by omega) (by omega) (by omega)]; exact k3, fun i hi => by rw [n5 _ (by omega), n4 _ (by omega), n3 _ (by omega) (by omega) (by omega)]; exact k4 i hi⟩, ⟨f', k5, k6, by rw [n5 _ (by omega), n4 _ (by omega), n3 _ (by omega) (by omega) (by omega)]; exact k7⟩, by rw [n5 _ (by omega), n4 _ (by omega), n3 _ (by omega) (by omega) (by omega)]; exact k8⟩
    · refine bad (-2) 0 ?_ ?_
      · unfold fn_X6_addWord
        rw [if_neg h0, if_neg h1, fl2, obs]
      · unfold fn_X7_addWord fn_X7_within
        rw [if_neg h0, if_pos (Int32.not_le.mp h1), obs, if_pos rfl, ml2, obs]
theorem op_removeWord {N : Nat → Int32} {hc : Int32} {G0 : GT} {G1 : GT} {G2 : GT} {G3 : GT} {G4 : GT} {pa : Nat → Int32} {tl : Int32} {P : Nat → Int32} {pl : Int32} (h : INVQ N hc G0 G1 G2 G3 G4 pa tl P pl) (E : Nat → Int32) (x1 : Int32) : ∃ (r : Int32) (wc' : Int32) (cS' : Nat → Int32) (cL' : Nat → Int32) (cQ' : Nat → Int32) (cB' : Nat → Int32) (hc' : Int32) (G0' : GT) (G1' : GT) (G2' : GT) (G3' : GT) (G4' : GT) (E' : Nat → Int32) (N' : Nat → Int32) (pa' : Nat → Int32), fn_X6_removeWord (N 0) (N 17) (vF N) (vE N) (vS N) (vL N) (vQ N) (vB N) hc G0 G1 G2 G3 G4 E x1 = some (r, wc', cS', cL', cQ', cB', hc', G0', G1', G2', G3', G4', E') ∧ fn_X7_removeWord hc N pa E x1 = some (r, hc', N', pa', E') ∧ INVP N' (vF N) (vE N) (N 0) wc' cS' cL' cQ' cB' hc' G0' G1' G2' G3' G4' pa' tl P pl := by
  obtain ⟨hc', G0', G1', G2', G3', G4', pa', hs1, hs2, hh⟩ := p_save h.1 h.2.1
  have h12 := h.1.1.2
  have h17 := h.1.1.1
  rcases isw h.1 x1 with ⟨w, hw, rfl, e1, e2⟩ | ⟨e1, e2⟩
  · have hm1 := m_drop_lp (upd N 17 (nI (cn N - 1))) (w := w) (c := cn N - 1) (by omega) (by rw [upd_s]) (cn N - 1 - w) w 1024 (Nat.le_refl _) (by omega) (by omega)
    rw [shN_0] at hm1
    obtain ⟨g1, g2, g3, g4, g5⟩ := WF_x h.1
    let M := upd N 17 (nI (cn N - 1))
    have hM : M = upd N 17 (nI (cn N - 1)) := rfl
    have mo : ∀ x, ¬ x = 17 → M x = N x := fun x q => by rw [hM, upd_n _ _ q]
    have lo : ∀ x, ¬ x = 17 → x < 18 → shN M w (cn N - 1) x = N x := fun x q q2 => by
      rw [shN, if_neg (by omega), if_neg (by omega), if_neg (by omega), if_neg (by omega), mo x q]
    have a18 : ∀ u, u < 12 → shN M w (cn N - 1) (18 + u) = sh1 (vL N) w (cn N - 1) u := fun u hu => by
      rw [shN, sh1]
      by_cases q : w ≤ u ∧ u < cn N - 1
      · rw [if_pos (by omega), if_pos q, mo _ (by omega)]
        rfl
      · rw [if_neg (by omega), if_neg (by omega), if_neg (by omega), if_neg (by omega), if_neg q, mo _ (by omega)]
    have a30 : ∀ u, u < 12 → shN M w (cn N - 1) (30 + u) = sh1 (vQ N) w (cn N - 1) u := fun u hu => by
      rw [shN, sh1, if_neg (by omega)]
      by_cases q : w ≤ u ∧ u < cn N - 1
      · rw [if_pos (by omega), if_pos q, mo _ (by omega)]
        rfl
      · rw [if_neg (by omega), if_neg (by omega), if_neg (by omega), if_neg q, mo _ (by omega)]
    have a42 : ∀ u, u < 12 → shN M w (cn N - 1) (42 + u) = sh1 (vB N) w (cn N - 1) u := fun u hu => by
      rw [shN, sh1, if_neg (by omega), if_neg (by omega)]
      by_cases q : w ≤ u ∧ u < cn N - 1
      · rw [if_pos (by omega), if_pos q, mo _ (by omega)]
        rfl
      · rw [if_neg (by omega), if_neg (by omega), if_neg q, mo _ (by omega)]
    have a54 : ∀ u, u < 96 → shN M w (cn N - 1) (54 + u) = sh8 (vS N) w (cn N - 1) u := fun u hu => by
      rw [shN, sh8, if_neg (by omega), if_neg (by omega), if_neg (by omega)]
      by_cases q : 8 * w ≤ u ∧ u < 8 * (cn N - 1)
      · rw [if_pos (by omega), if_pos q, mo _ (by omega)]
        rfl
      · rw [if_neg (by omega), if_neg q, mo _ (by omega)]
    have m17 : shN M w (cn N - 1) 17 = nI (cn N - 1) := by rw [shN_17, hM, upd_s]
    refine ⟨nI (cn N - 1), nI (cn N - 1), sh8 (vS N) w (cn N - 1), sh1 (vL N) w (cn N - 1), sh1 (vQ N) w (cn N - 1), sh1 (vB N) w (cn N - 1), hc', G0', G1', G2', G3', G4', E, shN M w (cn N - 1), pa', ?_, ?_, ⟨fun j hj => (lo _ (by omega) (by omega)).symm, fun j hj => (lo _ (by omega) (by omega)).symm, (lo _ (by omega) (by omega)).symm, m17.symm, fun j hj => (a54 j hj).symm, fun j hj => (a18 j hj).symm, fun j hj => (a30 j hj).symm, fun j hj => (a42 j hj).symm⟩, ?_, hh, h.2.2⟩
    · unfold fn_X6_removeWord
      rw [e1, obs, if_neg (by decide), hs1, obs, h17, p_drop _ _ _ _ h12 hw, obs]
    · unfold fn_X7_removeWord
      rw [e2, obs, if_neg (by decide), hs2, obs, show (17 : Int32).toNatClampNeg = 17 from rfl, h17, l1, pk_sub (by omega), hm1, obs]
      show some (shN M w (cn N - 1) 17, hc', shN M w (cn N - 1), pa', E) = _
      rw [m17]
    · refine WF_of (c := cn N - 1) ⟨m17, by omega, fun s hs => by rw [lo _ (by omega) (by omega)]; exact g3 s hs, fun s hs => by rw [lo _ (by omega) (by omega)]; exact g4 s hs, fun u hu => ?_⟩
      have key : ∃ v, v < cn N ∧ sh1 (vL N) w (cn N - 1) u = N (18 + v) ∧ sh1 (vQ N) w (cn N - 1) u = N (30 + v) ∧ sh1 (vB N) w (cn N - 1) u = N (42 + v) ∧ ∀ i, i < 8 → sh8 (vS N) w (cn N - 1) (8 * u + i) = N (54 + (8 * v + i)) := by
        by_cases q : w ≤ u
        · refine ⟨u + 1, by omega, ?_, ?_, ?_, fun i hi => ?_⟩
          · rw [sh1, if_pos ⟨q, hu⟩]
          · rw [sh1, if_pos ⟨q, hu⟩]
          · rw [sh1, if_pos ⟨q, hu⟩]
          · rw [sh8, if_pos (by omega), vSa]
            congr 1
            omega
        · refine ⟨u, by omega, ?_, ?_, ?_, fun i hi => ?_⟩
          · rw [sh1, if_neg (by omega)]
          · rw [sh1, if_neg (by omega)]
          · rw [sh1, if_neg (by omega)]
          · rw [sh8, if_neg (by omega)]
      obtain ⟨v, hv, v1, v2, v3, v4⟩ := key
      obtain ⟨⟨l, k1, k2, k3, k4⟩, ⟨f, k5, k6, k7⟩, k8⟩ := g5 v hv
      refine ⟨⟨l, k1, k2, by rw [a18 u (by omega), v1]; exact k3, fun i hi => by rw [a54 (8 * u + i) (by omega), v4 i (by omega)]; exact k4 i hi⟩, ⟨f, k5, k6, by rw [a30 u (by omega), v2]; exact k7⟩, by rw [a42 u (by omega), v3]; exact k8⟩
  · refine ⟨-2, N 17, vS N, vL N, vQ N, vB N, hc, G0, G1, G2, G3, G4, bump E 0, N, pa, ?_, ?_, SR_self N, h⟩
    · unfold fn_X6_removeWord
      rw [e1, obs, if_pos rfl, fl2, obs]
    · unfold fn_X7_removeWord
      rw [e2, obs, if_pos rfl, ml2, obs]
