/-! readings of the pad -/
def pc (P : Nat → Int32) (j : Nat) : Nat := (P j).toNatClampNeg
def PadOK (P : Nat → Int32) (pl : Nat) : Prop := pl ≤ 8 ∧ ∀ j, j < pl → P j = nI (pc P j) ∧ pc P j < 24
def dmin (N : Nat → Int32) (q s : Nat) : Nat := match sE N s with
  | none => df q (fs N s)
  | some b => if df q b < df q (fs N s) then df q b else df q (fs N s)
theorem dmin_le {N : Nat → Int32} (h : WF N) {q s : Nat} (hq : q < 24) (hs : s < 8) : dmin N q s ≤ 6 := by
  have h1 := df_le q hq _ (h.2.1 s hs).2
  unfold dmin
  cases hse : sE N s with
  | none => exact h1
  | some b =>
    dsimp only
    split <;> omega
def dsum (N P : Nat → Int32) : Nat → List Nat → Nat
  | _, [] => 0
  | p, s :: t => dmin N (pc P p) s + dsum N P (p + 1) t
theorem dsum_le {N P : Nat → Int32} {pl : Nat} (h : WF N) (hP : PadOK P pl) : ∀ (l : List Nat) (p : Nat), (∀ s ∈ l, s < 8) → p + l.length ≤ pl → dsum N P p l ≤ 6 * l.length
  | [], p, _, _ => Nat.zero_le _
  | s :: t, p, hs, hp => by
    rw [List.length_cons] at hp
    have h1 := dsum_le h hP t (p + 1) (fun z hz => hs z (List.mem_cons_of_mem _ hz)) (by omega)
    have h2 := dmin_le h (hP.2 p (by omega)).2 (hs s List.mem_cons_self)
    rw [dsum, List.length_cons]
    omega
theorem p_dfs {N : Nat → Int32} (h : WF N) {q s : Nat} (hq : q < 24) (hs : s < 8) : fn_X5_differenceFromSound (vF N) (vE N) (nI q) (nI s) = some (nI (dmin N q s)) := by
  have hf := (h.2.1 s hs).2
  have h6 := df_le q hq _ hf
  unfold fn_X5_differenceFromSound dmin
  rw [gin hs (by omega), nI_clamp (by omega), vFa, (h.2.1 s hs).1, p_diff24 q hq _ hf, obs, gin hs (by omega), gin hs (by omega), vEa, sE_enc h hs, lm1]
  cases hse : sE N s with
  | none => rw [if_pos (show enc none = mI from rfl)]
  | some b =>
    have hb := sE_lt h hs hse
    have h7 := df_le q hq b hb
    rw [if_neg (show ¬ enc (some b) = mI from nI_nm (by omega)), show enc (some b) = nI b from rfl, p_diff24 q hq b hb, obs]
    dsimp only
    by_cases hc : df q b < df q (fs N s)
    · rw [if_pos hc, if_pos (nI_lt hc (by omega))]
    · rw [if_neg hc, if_neg (nI_nlt (by omega) (by omega))]
theorem p_dfw_lp {N P : Nat → Int32} {w pl : Nat} (hw : w < 12) (h : WF N) (hW : WFw N w) (hP : PadOK P pl) : ∀ k i n a p, i + k = ln N w → p + (wsn N w k i).length = pl → k < n → lp_X2_differenceFromWord_8 (nI w) (vL N) (nI pl) (N 0) (vS N) (vF N) (vE N) P n (nI a) (nI p) (nI i) = some (nI (a + dsum N P p (wsn N w k i))) := by
  obtain ⟨⟨h1, h2, h3⟩, -, -, h4⟩ := id hW
  have h8 := hP.1
  intro k
  induction k with
  | zero =>
    intro i n a p hi hp hn
    obtain ⟨n, rfl⟩ : ∃ m, n = m + 1 := ⟨n - 1, by omega⟩
    rw [lp_X2_differenceFromWord_8, gin hw (by omega), nI_clamp (by omega), vLa, h1, if_pos (nI_le (by omega) (by omega))]
    rfl
  | succ k ih =>
    intro i n a p hi hp hn
    obtain ⟨n, rfl⟩ : ∃ m, n = m + 1 := ⟨n - 1, by omega⟩
    rw [lp_X2_differenceFromWord_8, gin hw (by omega), nI_clamp (n := w) (by omega), vLa, h1, if_neg (nI_ge (by omega) (by omega))]
    rcases Nat.lt_or_ge p pl with hlt | hge
    · rw [if_neg (nI_ge hlt (by omega)), p_isWritten N hw (by omega), obs, nI_1, nI_1]
      rw [wsn] at hp ⊢
      by_cases hc0 : i = 0 ∨ ((N 0 >>> (N (54 + (8 * w + i)) &&& 31)) &&& 1) = 0
      · rw [if_pos hc0] at hp
        rw [List.length_cons] at hp
        have hs := h4 i (by omega)
        have hpp := hP.2 p hlt
        rw [if_pos hc0, if_pos hc0, if_neg (by decide), gin (by omega) (by omega), p_soundAt N hw (by omega), obs, hs.1, nI_clamp (by omega), hpp.1, p_dfs h hpp.2 hs.2, obs, nI_add, ih (i + 1) n _ (p + 1) (by omega) (by omega) (by omega), dsum, Nat.add_assoc]
      · rw [if_neg hc0] at hp
        rw [if_neg hc0, if_neg hc0, if_pos rfl, ih (i + 1) n a p (by omega) (by omega) (by omega)]
    · have e0 : wsn N w (k + 1) i = [] := List.length_eq_zero_iff.mp (by omega)
      rw [if_pos (nI_le hge (by omega)), e0]
      rfl
def cand (N P : Nat → Int32) (pl w : Nat) : Option Nat := if N (42 + w) = mI then (if (wl N w).length = pl then some (dsum N P 0 (wl N w)) else none) else (if pl = 1 then some (df (pc P 0) (N (42 + w)).toNatClampNeg) else none)
theorem cand_le {N P : Nat → Int32} {w pl d : Nat} (h : WF N) (hW : WFw N w) (hP : PadOK P pl) (e : cand N P pl w = some d) : d ≤ 48 := by
  unfold cand at e
  by_cases h1 : N (42 + w) = mI
  · rw [if_pos h1] at e
    by_cases h2 : (wl N w).length = pl
    · rw [if_pos h2] at e
      cases e
      have := dsum_le h hP (wl N w) 0 (wl_lt hW) (by omega)
      have := hP.1
      omega
    · rw [if_neg h2] at e; cases e
  · rw [if_neg h1] at e
    by_cases h2 : pl = 1
    · rw [if_pos h2] at e
      cases e
      rcases hW.2.2.1 with h3 | ⟨b, hb, h3⟩
      · exact absurd h3 h1
      · rw [h3, nI_clamp (by omega)]
        have := df_le _ (hP.2 0 (by omega)).2 b hb
        omega
    · rw [if_neg h2] at e; cases e
theorem p_cand {N P : Nat → Int32} {w pl : Nat} (hw : w < 12) (h : WF N) (hW : WFw N w) (hP : PadOK P pl) : fn_X2_candidateOf (nI pl) P (N 0) (vF N) (vE N) (vS N) (vL N) (vB N) (nI w) = some (enc (cand N P pl w)) := by
  have hl := wl_len hW
  have h8 := hP.1
  have hln := hW.1
  unfold fn_X2_candidateOf cand
  rw [gin hw (by omega), nI_clamp (by omega), vBa, lm1]
  by_cases h1 : N (42 + w) = mI
  · rw [if_pos h1, if_pos h1, p_wcount hw hW, obs]
    by_cases h2 : (wl N w).length = pl
    · rw [if_pos h2, if_pos (by rw [h2]), fn_X2_differenceFromWord, l0, p_dfw_lp hw h hW hP (ln N w) 0 1024 0 0 (by omega) (by rw [Nat.zero_add]; exact h2) (by omega), obs, obs, Nat.zero_add]
      rfl
    · rw [if_neg h2, if_neg (by rw [nI_eq (by omega) (by omega)]; exact h2)]
      rfl
  · rw [if_neg h1, if_neg h1]
    by_cases h2 : pl = 1
    · rw [if_pos h2, if_pos (by rw [h2]; rfl), sb_cl0]
      rcases hW.2.2.1 with h3 | ⟨b, hb, h3⟩
      · exact absurd h3 h1
      · have hp0 := hP.2 0 (by omega)
        rw [h3, hp0.1, p_diff24 _ hp0.2 b hb, obs, nI_clamp (n := b) (by omega)]
        rfl
    · rw [if_neg h2, if_neg (by rw [l1, nI_eq (by omega) (by omega)]; exact h2)]
      rfl
theorem m_dbt_lp {N P m : Nat → Int32} {w pl : Nat} (h : WF N) (hW : WFw N w) (hm : HM N w m) (hP : PadOK P pl) (hl : (wl N w).length = pl) : ∀ r j n a, j + r = (wl N w).length → r < n → lp_X7_doubtOf_66 (nI (wl N w).length) m P N n (nI a) (nI j) = some (nI (a + dsum N P j ((wl N w).drop j))) := by
  have h8 := hP.1
  intro r
  induction r with
  | zero =>
    intro j n a hj hn
    obtain ⟨n, rfl⟩ : ∃ m, n = m + 1 := ⟨n - 1, by omega⟩
    rw [lp_X7_doubtOf_66, if_pos (nI_le (by omega) (by omega)), List.drop_eq_nil_of_le (by omega)]
    rfl
  | succ r ih =>
    intro j n a hj hn
    obtain ⟨n, rfl⟩ : ∃ m, n = m + 1 := ⟨n - 1, by omega⟩
    obtain ⟨s, hs⟩ := at_lt (L := wl N w) (j := j) (by omega)
    have hs8 := wl_lt hW s (List.mem_of_getElem? hs)
    have hpp := hP.2 j (by omega)
    have hf := (h.2.1 s hs8)
    have h6 := df_le _ hpp.2 _ hf.2
    rw [lp_X7_doubtOf_66, if_neg (nI_ge (by omega) (by omega)), nI_1, lm1, l1, l9, gin (by omega) (by omega), gin (by omega) (by omega), nI_clamp (n := j) (by omega), hm j s hs, nI_add, nI_add, gin (by omega) (by omega), nI_clamp (n := 1 + s) (by omega), nI_clamp (n := 9 + s) (by omega), hpp.1, hf.1, m_diff24 _ hpp.2 _ hf.2, obs, gin (by omega) (by omega), gin (by omega) (by omega), gin (by omega) (by omega), gin (by omega) (by omega), gin (by omega) (by omega), sE_enc h hs8, drop_at hs, dsum]
    unfold dmin
    cases hse : sE N s with
    | none =>
      rw [if_pos (show enc none = mI from rfl), l99, if_neg (nI_ge (by omega) (by omega)), nI_add, ih (j + 1) n _ (by omega) (by omega), Nat.add_assoc]
    | some b =>
      have hb := sE_lt h hs8 hse
      have h7 := df_le _ hpp.2 b hb
      rw [if_neg (show ¬ enc (some b) = mI from nI_nm (by omega)), show enc (some b) = nI b from rfl, m_diff24 _ hpp.2 b hb, obs]
      dsimp only
      rw [nI_add, nI_add]
      by_cases hc : df (pc P j) b < df (pc P j) (fs N s)
      · rw [if_pos (nI_le (by omega) (by omega)), if_pos hc, ih (j + 1) n _ (by omega) (by omega), Nat.add_assoc]
      · rw [if_neg hc]
        by_cases he : df (pc P j) b = df (pc P j) (fs N s)
        · rw [if_pos (nI_le (by omega) (by omega)), he, ih (j + 1) n _ (by omega) (by omega), Nat.add_assoc]
        · rw [if_neg (nI_ge (by omega) (by omega)), ih (j + 1) n _ (by omega) (by omega), Nat.add_assoc]
def dbt (N P : Nat → Int32) (pl w : Nat) : Option Nat := match cand N P pl w with
  | none => none
  | some d => if d ≤ 3 then some d else none
theorem dbt_le {N P : Nat → Int32} {pl w d : Nat} (e : dbt N P pl w = some d) : d ≤ 3 := by
  unfold dbt at e
  cases hc : cand N P pl w with
  | none => rw [hc] at e; cases e
  | some z =>
    rw [hc] at e
    dsimp only at e
    by_cases h3 : z ≤ 3
    · rw [if_pos h3] at e; cases e; exact h3
    · rw [if_neg h3] at e; cases e
theorem m_dbt {N P m : Nat → Int32} {w pl : Nat} (hw : w < 12) (h : WF N) (hW : WFw N w) (hP : PadOK P pl) (v : Int32) : fn_X7_doubtOf (nI pl) v N P m (nI w) = some (enc (dbt N P pl w), nI (wl N w).length, putL m 0 ((wl N w).map nI)) := by
  have hl := wl_len hW
  have h8 := hP.1
  have hcl : ∀ d, cand N P pl w = some d → d ≤ 48 := fun d e => cand_le h hW hP e
  unfold fn_X7_doubtOf dbt
  rw [l42, nI_add, gin (by omega) (by omega), m_lays hw hW, obs, nI_clamp (n := 42 + w) (by omega), lm1]
  unfold cand at hcl ⊢
  by_cases h1 : N (42 + w) = mI
  · rw [if_pos h1] at hcl
    rw [if_pos h1, if_pos h1]
    by_cases h2 : (wl N w).length = pl
    · rw [if_pos h2] at hcl
      have hd := hcl _ rfl
      rw [if_pos h2, if_pos (show nI (wl N w).length = nI pl by rw [h2])]
      show Option.bind (lp_X7_doubtOf_66 (nI (wl N w).length) (putL m 0 ((wl N w).map nI)) P N 1024 0 0) _ = _
      rw [l0, m_dbt_lp h hW (HM_put N w m) hP h2 (wl N w).length 0 1024 0 (by omega) (by omega), obs, Nat.zero_add, List.drop_zero, l3]
      dsimp only
      by_cases h3 : dsum N P 0 (wl N w) ≤ 3
      · rw [if_pos h3, if_pos (nI_le h3 (by omega))]
        rfl
      · rw [if_neg h3, if_neg (nI_ge (by omega) (by omega))]
        rfl
    · rw [if_neg h2, if_neg (show ¬ nI (wl N w).length = nI pl by rw [nI_eq (by omega) (by omega)]; exact h2)]
      rfl
  · rw [if_neg h1] at hcl
    rw [if_neg h1, if_neg h1]
    by_cases h2 : pl = 1
    · rw [if_pos h2] at hcl
      have hd := hcl _ rfl
      rw [if_pos h2, if_pos (show nI pl = 1 by rw [h2]; rfl), sb_cl0]
      rcases hW.2.2.1 with h3 | ⟨b, hb, h3⟩
      · exact absurd h3 h1
      · have hp0 := hP.2 0 (by omega)
        rw [h3, nI_clamp (n := b) (by omega)] at hd
        rw [h3, hp0.1, m_diff24 _ hp0.2 b hb, obs, nI_clamp (n := b) (by omega), l3]
        dsimp only
        by_cases h4 : df (pc P 0) b ≤ 3
        · rw [if_pos h4, if_pos (nI_le h4 (by omega))]
          rfl
        · rw [if_neg h4, if_neg (nI_ge (by omega) (by omega))]
          rfl
    · rw [if_neg h2, if_neg (show ¬ nI pl = 1 by rw [l1, nI_eq (by omega) (by omega)]; exact h2)]
      rfl
