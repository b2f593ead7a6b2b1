/-! the model's choices, gone through one by one -/
theorem sh5 : ∀ j, j < 32 → ((nI j &&& 31).toBitVec.smod 32).toNat = j := by decide +kernel
theorem bit_n {c j : Nat} (hc : c < 2 ^ 31) (hj : j < 32) : ((nI c >>> (nI j &&& 31)) &&& 1) = nI (c / 2 ^ j % 2) := by
  have h1 : c / 2 ^ j ≤ c := Nat.div_le_self _ _
  rw [pk_shrN hc (nI j &&& 31) j (sh5 j hj), pk_andN (by omega) 1 (by decide)]
theorem shl_n : ∀ j, j < 31 → (1 : Int32) <<< (nI j &&& 31) = nI (2 ^ j) := by decide +kernel
theorem xs_at (c : Nat) : ∀ (L : List (Nat × Option Nat)) (k f : Nat) (s : Option Nat), L[k]? = some (f, s) → (xs c L)[k]? = some (if c / 2 ^ (L.length - 1 - k) % 2 = 1 then s else some f)
  | [], k, f, s, h => by simp at h
  | (g, z) :: t, 0, f, s, h => by
    simp at h
    obtain ⟨rfl, rfl⟩ := h
    rw [xs, List.length_cons]
    rfl
  | (g, z) :: t, k + 1, f, s, h => by
    rw [List.getElem?_cons_succ] at h
    rw [xs, List.getElem?_cons_succ, xs_at c t k f s h, List.length_cons, show t.length + 1 - 1 - (k + 1) = t.length - 1 - k by omega]
/-- the model's row of sounds -/
def HM (N : Nat → Int32) (w : Nat) (m : Nat → Int32) : Prop := ∀ j s, (wl N w)[j]? = some s → m j = nI s
theorem HM_put (N : Nat → Int32) (w : Nat) (m : Nat → Int32) : HM N w (putL m 0 ((wl N w).map nI)) := by
  intro j s hj
  have h1 := putL_at ((wl N w).map nI) m 0 j (nI s) (by rw [List.getElem?_map, hj]; rfl)
  rwa [Nat.zero_add] at h1
theorem m_strokeOf {N : Nat → Int32} {w c k : Nat} {m : Nat → Int32} {x : Option Nat} (h : WF N) (hW : WFw N w) (hm : HM N w m) (hc : c < 2 ^ 31) (hx : (xs c (chs N w))[k]? = some x) : fn_X7_strokeOf (nI (wl N w).length) N m (nI c) (nI k) = some (enc x) := by
  have hl := wl_len hW
  have e := chs_len N w
  have hk : k < (wl N w).length := by
    have := idx_lt hx
    rw [xs_len] at this
    omega
  obtain ⟨s, hs⟩ := at_lt hk
  have h8 := wl_lt hW s (List.mem_of_getElem? hs)
  have hq : (chs N w)[k]? = some (fs N s, sE N s) := by
    unfold chs
    rw [List.getElem?_map, hs]
    rfl
  have hx2 := (xs_at c (chs N w) k _ _ hq).symm.trans hx
  rw [e] at hx2
  unfold fn_X7_strokeOf
  rw [show (nI (wl N w).length - 1 - nI k) = nI ((wl N w).length - 1 - k) by rw [l1, pk_sub (by omega), pk_sub (by omega)], bit_n hc (by omega), gin (by omega) (by omega), nI_clamp (n := k) (by omega), hm k s hs, l9, nI_add, gin (by omega) (by omega), nI_clamp (by omega), gin (by omega) (by omega)]
  have hb : c / 2 ^ ((wl N w).length - 1 - k) % 2 < 2 := Nat.mod_lt _ (by omega)
  cases hx2
  by_cases hbit : c / 2 ^ ((wl N w).length - 1 - k) % 2 = 1
  · rw [if_pos hbit, if_pos (by rw [hbit]; rfl), sE_enc h h8]
  · rw [if_neg hbit, if_neg (by rw [l1, nI_eq (by omega) (by omega)]; exact hbit), l1, nI_add, gin (by omega) (by omega), nI_clamp (by omega), (h.2.1 s h8).1]
    rfl
def vldb (c : Nat) (L : List (Nat × Option Nat)) : Bool := (xs c L).all (fun x => x.isSome)
theorem vldb_iff (c : Nat) (L : List (Nat × Option Nat)) : vldb c L = true ↔ vld c L := by
  unfold vldb vld
  rw [List.all_eq_true]
  constructor
  · intro h x hx e
    have := h x hx
    rw [e] at this
    cases this
  · intro h x hx
    cases x with
    | none => exact absurd rfl (h none hx)
    | some y => rfl
theorem m_isChoice_lp {N : Nat → Int32} {w c : Nat} {m : Nat → Int32} (h : WF N) (hW : WFw N w) (hm : HM N w m) (hc : c < 2 ^ 31) : ∀ r k n (b : Bool), k + r = (wl N w).length → r < n → lp_X7_isChoice_4 (nI (wl N w).length) N m (nI c) n (if b = true then 1 else 0) (nI k) = some (if (b && ((xs c (chs N w)).drop k).all (fun x => x.isSome)) = true then 1 else 0) := by
  have hl := wl_len hW
  have e := chs_len N w
  intro r
  induction r with
  | zero =>
    intro k n b hk hn
    obtain ⟨n, rfl⟩ : ∃ m, n = m + 1 := ⟨n - 1, by omega⟩
    rw [lp_X7_isChoice_4, if_pos (nI_le (by omega) (by omega)), List.drop_eq_nil_of_le (by rw [xs_len]; omega)]
    simp
  | succ r ih =>
    intro k n b hk hn
    obtain ⟨n, rfl⟩ : ∃ m, n = m + 1 := ⟨n - 1, by omega⟩
    obtain ⟨x, hx⟩ := at_lt (L := xs c (chs N w)) (j := k) (by rw [xs_len]; omega)
    rw [lp_X7_isChoice_4, if_neg (nI_ge (by omega) (by omega)), m_strokeOf h hW hm hc hx, obs, nI_1, drop_at hx, List.all_cons, lm1]
    cases b with
    | false =>
      rw [if_pos (by decide)]
      have := ih (k + 1) n false (by omega) (by omega)
      simp only [Bool.false_and] at this ⊢
      exact this
    | true =>
      rw [if_neg (by decide)]
      cases x with
      | none =>
        rw [if_pos (show enc none = mI from rfl)]
        have := ih (k + 1) n false (by omega) (by omega)
        simp only [Bool.false_and, Option.isSome_none, Bool.and_false] at this ⊢
        exact this
      | some y =>
        have hy : y < 24 := by
          have h2 := List.mem_of_getElem? hx
          have h3 : ∀ (L : List (Nat × Option Nat)), lok L → ∀ z, some z ∈ xs c L → z < 24 := by
            intro L
            induction L with
            | nil => intro _ z hz; cases hz
            | cons q t ih2 =>
              intro hL z hz
              obtain ⟨f, s⟩ := q
              rw [xs] at hz
              rcases List.mem_cons.mp hz with e1 | e1
              · by_cases hb : c / 2 ^ t.length % 2 = 1
                · rw [if_pos hb] at e1; exact (lok_h hL).2 z e1.symm
                · rw [if_neg hb] at e1; cases e1; exact (lok_h hL).1
              · exact ih2 (lok_t hL) z e1
          exact h3 _ (chs_ok h hW) y h2
        rw [if_neg (show ¬ enc (some y) = mI from nI_nm (by omega))]
        have := ih (k + 1) n true (by omega) (by omega)
        simp only [Bool.true_and, Option.isSome_some] at this ⊢
        exact this
theorem m_isChoice {N : Nat → Int32} {w c : Nat} {m : Nat → Int32} (h : WF N) (hW : WFw N w) (hm : HM N w m) (hc : c < 2 ^ 31) : fn_X7_isChoice (nI (wl N w).length) N m (nI c) = some (if vldb c (chs N w) = true then 1 else 0) := by
  have hl := wl_len hW
  have h1 := m_isChoice_lp h hW hm hc (wl N w).length 0 1024 true (by omega) (by omega)
  unfold fn_X7_isChoice
  rw [if_pos rfl] at h1
  rw [l0, h1, obs, List.drop_zero, Bool.true_and]
  unfold vldb
  split <;> rfl
theorem ys_at {c : Nat} : ∀ (L : List (Nat × Option Nat)), lok L → vld c L → ∀ (k : Nat) (x : Option Nat), (xs c L)[k]? = some x → ∃ y, x = some y ∧ (ys c L)[k]? = some y ∧ y < 24
  | [], _, _, k, x, hx => by simp [xs] at hx
  | (f, s) :: t, hL, hv, 0, x, hx => by
    rw [xs] at hx
    simp only [List.getElem?_cons_zero, Option.some.injEq] at hx
    have h0 := hv x (by rw [xs, hx]; exact List.mem_cons_self)
    rw [ys]
    by_cases hb : c / 2 ^ t.length % 2 = 1
    · rw [if_pos hb] at hx
      subst hx
      cases s with
      | none => exact absurd rfl h0
      | some b =>
        rw [if_pos hb]
        exact ⟨b, rfl, rfl, (lok_h hL).2 b rfl⟩
    · rw [if_neg hb] at hx
      subst hx
      rw [if_neg hb]
      exact ⟨f, rfl, rfl, (lok_h hL).1⟩
  | (f, s) :: t, hL, hv, k + 1, x, hx => by
    rw [xs, List.getElem?_cons_succ] at hx
    obtain ⟨y, h1, h2, h3⟩ := ys_at t (lok_t hL) (vld_t hv) k x hx
    exact ⟨y, h1, by rw [ys, List.getElem?_cons_succ]; exact h2, h3⟩
theorem cst_le : ∀ l : List Nat, (∀ y ∈ l, y < 24) → cst l ≤ 4 * l.length
  | [], _ => Nat.zero_le _
  | [a], _ => Nat.zero_le _
  | a :: b :: t, h => by
    have h1 := cst_le (b :: t) (fun y hy => h y (List.mem_cons_of_mem _ hy))
    have h2 := jn_le a (h a List.mem_cons_self) b (h b (List.mem_cons_of_mem _ List.mem_cons_self))
    rw [cst_cons, List.length_cons]
    omega
theorem m_cost_lp {N : Nat → Int32} {w c : Nat} {m : Nat → Int32} (h : WF N) (hW : WFw N w) (hm : HM N w m) (hc : c < 2 ^ 31) (hv : vld c (chs N w)) : ∀ r k n a, k + r = (wl N w).length → 1 ≤ k → r < n → lp_X7_costOf_4 (nI (wl N w).length) N m (nI c) n (nI a) (nI k) = some (nI (a + cst ((ys c (chs N w)).drop (k - 1)))) := by
  have hl := wl_len hW
  have e := chs_len N w
  intro r
  induction r with
  | zero =>
    intro k n a hk h1 hn
    obtain ⟨n, rfl⟩ : ∃ m, n = m + 1 := ⟨n - 1, by omega⟩
    obtain ⟨y, hy⟩ := at_lt (L := ys c (chs N w)) (j := k - 1) (by rw [ys_len]; omega)
    rw [lp_X7_costOf_4, if_pos (nI_le (by omega) (by omega)), drop_at hy, List.drop_eq_nil_of_le (by rw [ys_len]; omega)]
    rfl
  | succ r ih =>
    intro k n a hk h1 hn
    obtain ⟨n, rfl⟩ : ∃ m, n = m + 1 := ⟨n - 1, by omega⟩
    obtain ⟨x1, hx1⟩ := at_lt (L := xs c (chs N w)) (j := k - 1) (by rw [xs_len]; omega)
    obtain ⟨x2, hx2⟩ := at_lt (L := xs c (chs N w)) (j := k) (by rw [xs_len]; omega)
    obtain ⟨y1, rfl, hy1, b1⟩ := ys_at _ (chs_ok h hW) hv _ _ hx1
    obtain ⟨y2, rfl, hy2, b2⟩ := ys_at _ (chs_ok h hW) hv _ _ hx2
    rw [lp_X7_costOf_4, if_neg (nI_ge (by omega) (by omega)), l1, pk_sub h1, m_strokeOf h hW hm hc hx1, obs, m_strokeOf h hW hm hc hx2, obs, show enc (some y1) = nI y1 from rfl, show enc (some y2) = nI y2 from rfl, m_join24 y1 b1 y2 b2, obs, nI_add, ← l1, nI_1, ih (k + 1) n (a + jn y1 y2) (by omega) (by omega) (by omega), drop_at hy1, show k - 1 + 1 = k by omega, show k + 1 - 1 = k by omega, drop_at hy2, cst_cons, Nat.add_assoc]
theorem m_cost {N : Nat → Int32} {w c : Nat} {m : Nat → Int32} (h : WF N) (hW : WFw N w) (hm : HM N w m) (hc : c < 2 ^ 31) (hv : vld c (chs N w)) : fn_X7_costOf (nI (wl N w).length) N m (nI c) = some (nI (cst (ys c (chs N w)))) := by
  have hl := wl_len hW
  unfold fn_X7_costOf
  rw [l0, l1, m_cost_lp h hW hm hc hv ((wl N w).length - 1) 1 1024 0 (by omega) (by omega) (by omega), obs, Nat.zero_add]
  rfl
def cbest (L : List (Nat × Option Nat)) (b c : Nat) : Prop := vld b L ∧ b < c ∧ ∀ d, d < c → vld d L → cst (ys b L) < cst (ys d L) ∨ (cst (ys b L) = cst (ys d L) ∧ b ≤ d)
theorem cbest_end {L : List (Nat × Option Nat)} {b : Nat} (h : cbest L b (2 ^ L.length)) : b = btop L := by
  obtain ⟨h1, h2, h3⟩ := h
  obtain ⟨g1, g2⟩ := ptop_ys L
  have g3 := btop_lt L
  have g4 := btop_best L b h2 h1
  have g5 := h3 (btop L) g3 g2
  rw [← cst_ptop, ← g1] at g4
  omega
theorem ys_all {c : Nat} {L : List (Nat × Option Nat)} (hL : lok L) (hv : vld c L) : ∀ y ∈ ys c L, y < 24 := by
  intro y hy
  obtain ⟨k, hk⟩ := List.getElem?_of_mem hy
  have hl := idx_lt hk
  rw [ys_len] at hl
  obtain ⟨x, hx⟩ := at_lt (L := xs c L) (j := k) (by rw [xs_len]; exact hl)
  obtain ⟨z, -, h2, h3⟩ := ys_at L hL hv k x hx
  rw [hk] at h2
  cases h2
  exact h3
theorem pw8 {n : Nat} (h : n ≤ 8) : 2 ^ n ≤ 256 := Nat.pow_le_pow_right (by omega) h
theorem m_written_lp {N : Nat → Int32} {w : Nat} {m : Nat → Int32} (h : WF N) (hW : WFw N w) (hm : HM N w m) : ∀ r c n b, c + r = 2 ^ (wl N w).length → cbest (chs N w) b c → r < n → lp_X7_written_9 (nI (wl N w).length) N m n (nI b) (nI c) = some (nI (btop (chs N w))) := by
  have hl := wl_len hW
  have e := chs_len N w
  have hp := pw8 hl.2
  intro r
  induction r with
  | zero =>
    intro c n b hc hb hn
    obtain ⟨n, rfl⟩ : ∃ m, n = m + 1 := ⟨n - 1, by omega⟩
    have hbe : b = btop (chs N w) := cbest_end (by rw [e, ← hc]; exact hb)
    rw [lp_X7_written_9, shl_n _ (by omega), if_pos (nI_le (by omega) (by omega)), hbe]
  | succ r ih =>
    intro c n b hc hb hn
    obtain ⟨n, rfl⟩ : ∃ m, n = m + 1 := ⟨n - 1, by omega⟩
    obtain ⟨h1, h2, h3⟩ := hb
    have hL := chs_ok h hW
    have l2 := cst_le _ (ys_all hL h1)
    rw [ys_len] at l2
    rw [lp_X7_written_9, shl_n _ (by omega), if_neg (nI_ge (by omega) (by omega)), m_isChoice h hW hm (by omega), obs, nI_1]
    by_cases hv : vldb c (chs N w) = true
    · have hv2 := (vldb_iff _ _).mp hv
      have l3 := cst_le _ (ys_all hL hv2)
      rw [ys_len] at l3
      rw [if_pos hv, if_neg (by decide), m_cost h hW hm (by omega) hv2, obs, m_cost h hW hm (by omega) h1, obs]
      by_cases hcc : cst (ys b (chs N w)) ≤ cst (ys c (chs N w))
      · rw [if_pos (nI_le hcc (by omega))]
        refine ih (c + 1) n b (by omega) ⟨h1, by omega, fun d hd hvd => ?_⟩ (by omega)
        rcases Nat.lt_or_ge d c with hd2 | hd2
        · exact h3 d hd2 hvd
        · have : d = c := by omega
          subst this
          omega
      · rw [if_neg (nI_ge (by omega) (by omega))]
        refine ih (c + 1) n c (by omega) ⟨hv2, by omega, fun d hd hvd => ?_⟩ (by omega)
        rcases Nat.lt_or_ge d c with hd2 | hd2
        · rcases h3 d hd2 hvd with h4 | ⟨h4, h5⟩ <;> exact Or.inl (by omega)
        · have : d = c := by omega
          subst this
          exact Or.inr ⟨rfl, Nat.le_refl _⟩
    · rw [if_neg hv, if_pos rfl]
      refine ih (c + 1) n b (by omega) ⟨h1, by omega, fun d hd hvd => ?_⟩ (by omega)
      rcases Nat.lt_or_ge d c with hd2 | hd2
      · exact h3 d hd2 hvd
      · have : d = c := by omega
        subst this
        exact absurd ((vldb_iff _ _).mpr hvd) hv
theorem vld_0 : ∀ L : List (Nat × Option Nat), vld 0 L
  | [] => fun x hx => by cases hx
  | (f, s) :: t => fun x hx => by
    rw [xs, Nat.zero_div, if_neg (by decide)] at hx
    rcases List.mem_cons.mp hx with e | e
    · rw [e]; exact fun z => by cases z
    · exact vld_0 t x e
/-- the model finds the same choice -/
theorem m_written {N : Nat → Int32} {w : Nat} (hw : w < 12) (h : WF N) (hW : WFw N w) (v : Int32) (m : Nat → Int32) : fn_X7_written v N m (nI w) = some (nI (btop (chs N w)), nI (wl N w).length, putL m 0 ((wl N w).map nI)) := by
  have hl := wl_len hW
  have hp := pw8 hl.2
  have h1 : 2 ^ 1 ≤ 2 ^ (wl N w).length := Nat.pow_le_pow_right (by omega) hl.1
  unfold fn_X7_written
  rw [m_lays hw hW, obs]
  show Option.bind (lp_X7_written_9 (nI (wl N w).length) N (putL m 0 ((wl N w).map nI)) 1024 0 1) _ = _
  have hc0 : cbest (chs N w) 0 1 := ⟨vld_0 _, by omega, fun d hd _ => by
    have e0 : d = 0 := by omega
    subst e0
    exact Or.inr ⟨rfl, Nat.le_refl _⟩⟩
  rw [l0, l1, m_written_lp h hW (HM_put N w m) (2 ^ (wl N w).length - 1) 1 1024 0 (by omega) hc0 (by omega), obs]
