/-! how many outlines; free strokes; gains of the model -/
def nw : List (Nat × Option Nat) → Nat
  | [] => 1
  | (_, none) :: t => nw t
  | (_, some _) :: t => 2 * nw t
theorem nw_le : ∀ L, nw L ≤ 2 ^ L.length
  | [] => Nat.le_refl _
  | (f, none) :: t => by
    have := nw_le t
    rw [nw, List.length_cons, Nat.pow_succ]
    omega
  | (f, some s) :: t => by
    have := nw_le t
    rw [nw, List.length_cons, Nat.pow_succ]
    omega
theorem p_ways_lp {L : List (Nat × Option Nat)} {F S : Nat → Int32} (hL : lok L) (h8 : L.length ≤ 8) (hA : HA L F S) : ∀ r i n a, i + r = L.length → r < n → lp_X1_ways_4 (nI L.length) S n (nI a) (nI i) = some (nI (a * nw (L.drop i))) := by
  intro r
  induction r with
  | zero =>
    intro i n a hi hn
    obtain ⟨n, rfl⟩ : ∃ m, n = m + 1 := ⟨n - 1, by omega⟩
    rw [lp_X1_ways_4, if_pos (nI_le (by omega) (by omega)), List.drop_eq_nil_of_le (by omega), nw, Nat.mul_one]
  | succ r ih =>
    intro i n a hi hn
    obtain ⟨n, rfl⟩ : ∃ m, n = m + 1 := ⟨n - 1, by omega⟩
    obtain ⟨⟨f, s⟩, hx⟩ := at_lt (L := L) (j := i) (by omega)
    rw [lp_X1_ways_4, if_neg (nI_ge (by omega) (by omega)), gin (by omega) (by omega), nI_clamp (by omega), (hA i f s hx).2, nI_1, l2, pk_mul, lm1, drop_at hx]
    cases s with
    | none => rw [if_pos (show enc none = mI from rfl), ih (i + 1) n a (by omega) (by omega), nw]
    | some b =>
      have hb := (lok_at hL hx).2 b rfl
      rw [if_neg (show ¬ enc (some b) = mI from nI_nm (by omega)), ih (i + 1) n (a * 2) (by omega) (by omega), nw, Nat.mul_assoc]
theorem p_ways {L : List (Nat × Option Nat)} {F S : Nat → Int32} (hL : lok L) (h8 : L.length ≤ 8) (hA : HA L F S) : fn_X1_ways (nI L.length) S = some (nI (nw L)) := by
  unfold fn_X1_ways
  rw [l0, l1, p_ways_lp hL h8 hA L.length 0 1024 1 (by omega) (by omega), obs, Nat.one_mul, List.drop_zero]
def vcnt (L : List (Nat × Option Nat)) : Nat → Nat
  | 0 => 0
  | n + 1 => vcnt L n + (if vldb n L = true then 1 else 0)
theorem vcnt_le (L : List (Nat × Option Nat)) : ∀ n, vcnt L n ≤ n
  | 0 => Nat.le_refl 0
  | n + 1 => by
    have := vcnt_le L n
    rw [vcnt]
    split <;> omega
theorem vldb_lo {c f : Nat} {s : Option Nat} {t : List (Nat × Option Nat)} (h : c < 2 ^ t.length) : vldb c ((f, s) :: t) = vldb c t := by
  unfold vldb
  rw [xs, if_neg (bit_lo _ _ h), List.all_cons]
  rfl
theorem vldb_hi {d f : Nat} {s : Option Nat} {t : List (Nat × Option Nat)} (h : d < 2 ^ t.length) : vldb (2 ^ t.length + d) ((f, s) :: t) = (s.isSome && vldb d t) := by
  unfold vldb
  rw [xs, if_pos (bit_hi _ _ h), List.all_cons, xs_add _ _ _ (Nat.le_refl _)]
theorem vcnt_lo {f : Nat} {s : Option Nat} {t : List (Nat × Option Nat)} : ∀ k, k ≤ 2 ^ t.length → vcnt ((f, s) :: t) k = vcnt t k
  | 0, _ => rfl
  | k + 1, h => by rw [vcnt, vcnt, vldb_lo (by omega), vcnt_lo k (by omega)]
theorem vcnt_hi {f : Nat} {s : Option Nat} {t : List (Nat × Option Nat)} : ∀ k, k ≤ 2 ^ t.length → vcnt ((f, s) :: t) (2 ^ t.length + k) = vcnt t (2 ^ t.length) + (if s.isSome = true then vcnt t k else 0)
  | 0, _ => by
    rw [Nat.add_zero, vcnt_lo _ (Nat.le_refl _)]
    split <;> rfl
  | k + 1, h => by
    rw [← Nat.add_assoc, vcnt, vldb_hi (by omega), vcnt_hi k (by omega)]
    cases s with
    | none => rfl
    | some b =>
      simp only [Option.isSome_some, Bool.true_and, if_true, vcnt]
      omega
theorem vcnt_nw : ∀ L : List (Nat × Option Nat), vcnt L (2 ^ L.length) = nw L
  | [] => rfl
  | (f, s) :: t => by
    have ih := vcnt_nw t
    rw [List.length_cons, Nat.pow_succ, show 2 ^ t.length * 2 = 2 ^ t.length + 2 ^ t.length by omega, vcnt_hi _ (Nat.le_refl _), ih]
    cases s with
    | none => rfl
    | some b =>
      simp only [Option.isSome_some, if_true, nw]
      omega
theorem m_out_lp {N : Nat → Int32} {w : Nat} {m : Nat → Int32} (h : WF N) (hW : WFw N w) (hm : HM N w m) : ∀ r c n, c + r = 2 ^ (wl N w).length → r < n → lp_X7_outlines_24 (nI (wl N w).length) N m n (nI (vcnt (chs N w) c)) (nI c) = some (nI (nw (chs N w))) := by
  have hl := wl_len hW
  have e := chs_len N w
  have hp := pw8 hl.2
  intro r
  induction r with
  | zero =>
    intro c n hc hn
    obtain ⟨n, rfl⟩ : ∃ m, n = m + 1 := ⟨n - 1, by omega⟩
    have hc2 : c = 2 ^ (chs N w).length := by rw [e]; omega
    rw [lp_X7_outlines_24, shl_n _ (by omega), if_pos (nI_le (by omega) (by omega)), hc2, vcnt_nw]
  | succ r ih =>
    intro c n hc hn
    obtain ⟨n, rfl⟩ : ∃ m, n = m + 1 := ⟨n - 1, by omega⟩
    have h2 := ih (c + 1) n (by omega) (by omega)
    rw [vcnt] at h2
    rw [lp_X7_outlines_24, shl_n _ (by omega), if_neg (nI_ge (by omega) (by omega)), m_isChoice h hW hm (by omega), obs, nI_1]
    by_cases hv : vldb c (chs N w) = true
    · rw [if_pos hv] at h2
      rw [if_pos hv, if_neg (by decide), nI_1]
      exact h2
    · rw [if_neg hv] at h2
      rw [if_neg hv, if_pos rfl, l0, nI_add]
      exact h2
theorem m_outlines {N : Nat → Int32} {w : Nat} {m : Nat → Int32} (h : WF N) (hW : WFw N w) (hm : HM N w m) : lp_X7_outlines_24 (nI (wl N w).length) N m 1024 0 0 = some (nI (nw (chs N w))) := by
  have hl := wl_len hW
  have hp := pw8 hl.2
  exact m_out_lp h hW hm (2 ^ (wl N w).length) 0 1024 (by omega) (by omega)
/-! the stroke that a word keeps from the others -/
def kp (N : Nat → Int32) (w : Nat) : Int32 := if N (42 + w) = mI then (if (wl N w).length = 1 then N (1 + sd N w 0) else mI) else N (42 + w)
theorem wl_hd {N : Nat → Int32} {w : Nat} (h : WFw N w) : ∃ t, wl N w = sd N w 0 :: t := by
  obtain ⟨k, hk⟩ : ∃ k, ln N w = k + 1 := ⟨ln N w - 1, by have := h.1; omega⟩
  exact ⟨wsn N w k 1, by unfold wl; rw [hk, wsn, if_pos (Or.inl rfl)]⟩
theorem kp_isM {N : Nat → Int32} {w : Nat} (h : WF N) (hW : WFw N w) : isM (kp N w) := by
  unfold kp
  by_cases h1 : N (42 + w) = mI
  · rw [if_pos h1]
    split
    · have h8 := (hW.2.2.2 0 (by have := hW.1; omega)).2
      exact Or.inr ⟨_, (h.2.1 _ h8).2, (h.2.1 _ h8).1⟩
    · exact Or.inl rfl
  · rw [if_neg h1]
    exact hW.2.2.1
/-- no word from i on, r of them, other than w, keeps the stroke -/
def frb (N : Nat → Int32) (w st : Nat) : Nat → Nat → Bool
  | 0, _ => true
  | r + 1, i => (decide (i = w) || !decide (kp N i = nI st)) && frb N w st r (i + 1)
theorem p_isFree_lp {N : Nat → Int32} {w st : Nat} (hw : w < 2 ^ 31) (h : WF N) : ∀ r i n, i + r = cn N → r < n → lp_X5_isFree_2 (N 17) (nI w) (N 0) (vF N) (vS N) (vL N) (vB N) (nI st) n (nI i) = some (if frb N w st r i = true then 1 else 0) := by
  obtain ⟨⟨h1, h2⟩, h3, h4, h5⟩ := id h
  intro r
  induction r with
  | zero =>
    intro i n hi hn
    obtain ⟨n, rfl⟩ : ∃ m, n = m + 1 := ⟨n - 1, by omega⟩
    rw [lp_X5_isFree_2, h1, if_pos (nI_le (by omega) (by omega))]
    rfl
  | succ r ih =>
    intro i n hi hn
    obtain ⟨n, rfl⟩ : ∃ m, n = m + 1 := ⟨n - 1, by omega⟩
    have hk : fn_X5_keptStroke (N 0) (vF N) (vS N) (vL N) (vB N) (nI i) = some (kp N i) := p_kept (by omega) (h5 i (by omega))
    rw [lp_X5_isFree_2, nI_1, ih (i + 1) n (by omega) (by omega), hk, obs, frb, h1, if_neg (nI_ge (by omega) (by omega))]
    by_cases e : i = w
    · rw [if_pos (by rw [e]), decide_eq_true e]
      simp
    · rw [if_neg (by rw [nI_eq (by omega) hw]; exact e), decide_eq_false e]
      by_cases e2 : kp N i = nI st
      · rw [if_pos e2, decide_eq_true e2]
        simp
      · rw [if_neg e2, decide_eq_false e2]
        simp
theorem p_isFree {N : Nat → Int32} {w st : Nat} (hw : w < 2 ^ 31) (h : WF N) : fn_X5_isFree (N 0) (N 17) (vF N) (vS N) (vL N) (vB N) (nI st) (nI w) = some (if frb N w st (cn N) 0 = true then 1 else 0) := by
  have := h.1.2
  exact p_isFree_lp hw h (cn N) 0 1024 (by omega) (by omega)
theorem m_isFree_lp {N : Nat → Int32} {w st : Nat} (hw : w < 2 ^ 31) (hst : st < 24) (h : WF N) : ∀ r i n (b : Bool) v m, i + r = cn N → r < n → ∃ v' m', lp_X7_isFree_5 N (nI w) (nI st) n (if b = true then 1 else 0) (nI i) v m = some (if (b && frb N w st r i) = true then 1 else 0, v', m') := by
  obtain ⟨⟨h1, h2⟩, h3, h4, h5⟩ := id h
  intro r
  induction r with
  | zero =>
    intro i n b v m hi hn
    obtain ⟨n, rfl⟩ : ∃ m, n = m + 1 := ⟨n - 1, by omega⟩
    refine ⟨v, m, ?_⟩
    rw [lp_X7_isFree_5, show (17 : Int32).toNatClampNeg = 17 from rfl, h1, if_pos (nI_le (by omega) (by omega)), frb, Bool.and_true]
  | succ r ih =>
    intro i n b v m hi hn
    obtain ⟨n, rfl⟩ : ∃ m, n = m + 1 := ⟨n - 1, by omega⟩
    have hW := h5 i (by omega)
    have hl := wl_len hW
    have hf := ih (i + 1) n false
    simp only [Bool.false_and, Bool.false_eq_true, if_false] at hf
    have ht := ih (i + 1) n true
    simp only [Bool.true_and, if_true] at ht
    rw [lp_X7_isFree_5, show (17 : Int32).toNatClampNeg = 17 from rfl, h1, if_neg (nI_ge (by omega) (by omega)), nI_1, m_written (by omega) h hW, obs, l42, nI_add, gin (by omega) (by omega), nI_clamp (by omega), gin (by omega) (by omega), lm1, frb]
    by_cases e : i = w
    · rw [if_pos (by rw [e]), decide_eq_true e, Bool.true_or, Bool.true_and]
      exact ih (i + 1) n b v m (by omega) (by omega)
    · rw [if_neg (by rw [nI_eq (by omega) hw]; exact e), decide_eq_false e, Bool.false_or]
      cases b with
      | false =>
        rw [if_pos (by decide), Bool.false_and]
        exact hf _ _ (by omega) (by omega)
      | true =>
        rw [if_neg (by decide), Bool.true_and]
        by_cases e1 : N (42 + i) = mI
        · rw [if_pos e1]
          by_cases e2 : (wl N i).length = 1
          · obtain ⟨t, htl⟩ := wl_hd hW
            have ht0 : t = [] := by
              rw [htl, List.length_cons] at e2
              exact List.length_eq_zero_iff.mp (by omega)
            have hc : chs N i = [(fs N (sd N i 0), sE N (sd N i 0))] := by
              unfold chs
              rw [htl, ht0]
              rfl
            have hb : btop (chs N i) = 0 := by
              rw [hc]
              cases sE N (sd N i 0) with
              | none => rfl
              | some z => rfl
            have h8 := (hW.2.2.2 0 (by have := hW.1; omega)).2
            have hx : (xs 0 (chs N i))[0]? = some (some (fs N (sd N i 0))) := by
              rw [hc]
              rfl
            have hstr : fn_X7_strokeOf (nI (wl N i).length) N (putL m 0 ((wl N i).map nI)) (nI (btop (chs N i))) (nI 0) = some (N (1 + sd N i 0)) := by
              rw [hb, m_strokeOf h hW (HM_put N i m) (by omega) hx, (h.2.1 _ h8).1]
              rfl
            have hkp : kp N i = N (1 + sd N i 0) := by unfold kp; rw [if_pos e1, if_pos e2]
            rw [if_neg (show ¬ (1 : Int32) < nI (wl N i).length by rw [e2]; decide), l0, hstr, obs, hkp]
            by_cases e3 : N (1 + sd N i 0) = nI st
            · rw [if_pos e3, decide_eq_true e3]
              exact hf _ _ (by omega) (by omega)
            · rw [if_neg e3, decide_eq_false e3, Bool.not_false, Bool.true_and]
              exact ht _ _ (by omega) (by omega)
          · have hkp : kp N i = mI := by unfold kp; rw [if_pos e1, if_neg e2]
            rw [if_pos (show (1 : Int32) < nI (wl N i).length by rw [l1]; exact nI_lt (by omega) (by omega)), hkp]
            rw [decide_eq_false (mI_n (by omega)), Bool.not_false, Bool.true_and]
            exact ht _ _ (by omega) (by omega)
        · have hkp : kp N i = N (42 + i) := by unfold kp; rw [if_neg e1]
          rw [if_neg e1, hkp]
          by_cases e3 : N (42 + i) = nI st
          · rw [if_pos e3, decide_eq_true e3]
            exact hf _ _ (by omega) (by omega)
          · rw [if_neg e3, decide_eq_false e3, Bool.not_false, Bool.true_and]
            exact ht _ _ (by omega) (by omega)
theorem m_isFree {N : Nat → Int32} {w st : Nat} (hw : w < 2 ^ 31) (hst : st < 24) (h : WF N) (v : Int32) (m : Nat → Int32) : ∃ v' m', fn_X7_isFree v N m (nI w) (nI st) = some (if frb N w st (cn N) 0 = true then 1 else 0, v', m') := by
  have h12 := h.1.2
  obtain ⟨v', m', h1⟩ := m_isFree_lp hw hst h (cn N) 0 1024 true v m (by omega) (by omega)
  refine ⟨v', m', ?_⟩
  rw [if_pos rfl, Bool.true_and] at h1
  unfold fn_X7_isFree
  rw [l0, h1, obs]
  show gd (bo01 (if frb N w st (cn N) 0 = true then 1 else 0)) _ = _
  split <;> rfl
theorem m_gain {N : Nat → Int32} {w : Nat} (hw : w < 12) (h : WFw N w) (v : Int32) (m : Nat → Int32) : fn_X7_gainOf v N m (nI w) = some (nI (gn N w), nI (wl N w).length, putL m 0 ((wl N w).map nI)) := by
  have hl := wl_len h
  unfold fn_X7_gainOf gn
  rw [m_lays hw h, obs, l30, nI_add, gin (by omega) (by omega), nI_clamp (by omega), h.2.1.1, l1]
  show some (nI (fq N w) * (nI (wl N w).length - nI 1), _, _) = _
  rw [pk_sub (by omega), pk_mul]
theorem gn_le {N : Nat → Int32} {w : Nat} (h : WFw N w) : gn N w ≤ 6993 := by
  have hl := wl_len h
  have hq := h.2.1
  have h1 : fq N w * ((wl N w).length - 1) ≤ 999 * 7 := Nat.mul_le_mul (by omega) (by omega)
  unfold gn
  omega
