/-! proposals: candidates in their order, and the strokes that they take -/
def cdb (N : Nat → Int32) (w : Nat) : Bool := decide (N (42 + w) = mI) && decide (0 < gn N w)
def cdl (N : Nat → Int32) : Nat → Nat → List Nat → List Nat
  | 0, _, acc => acc
  | r + 1, i, acc => cdl N r (i + 1) (if cdb N i = true then insE (fun z => decide (gn N z < gn N i)) i acc else acc)
def cds (N : Nat → Int32) : List Nat := cdl N (cn N) 0 []
def hdo (N : Nat → Int32) (a b : Nat) : Prop := gn N b < gn N a ∨ (gn N a = gn N b ∧ a < b)
theorem ins_sorted {N : Nat → Int32} {i : Nat} : ∀ acc : List Nat, (∀ z ∈ acc, z < i) → acc.Pairwise (hdo N) → (insE (fun z => decide (gn N z < gn N i)) i acc).Pairwise (hdo N)
  | [], _, _ => List.pairwise_singleton _ _
  | a :: t, h, hp => by
    rw [insE]
    obtain ⟨h1, h2⟩ := List.pairwise_cons.mp hp
    by_cases hc : ((a :: t).all (fun z => decide (gn N z < gn N i))) = true
    · rw [if_pos hc]
      refine List.pairwise_cons.mpr ⟨fun z hz => ?_, hp⟩
      exact Or.inl (of_decide_eq_true (List.all_eq_true.mp hc z hz))
    · rw [if_neg hc]
      refine List.pairwise_cons.mpr ⟨fun z hz => ?_, ins_sorted t (fun z hz => h z (List.mem_cons_of_mem _ hz)) h2⟩
      rcases (insE_mem _ _ _ _).mp hz with e | e
      · subst e
        have hai := h a List.mem_cons_self
        have : ∃ y ∈ a :: t, ¬ gn N y < gn N z := by
          by_cases hex : ∃ y ∈ a :: t, ¬ gn N y < gn N z
          · exact hex
          · exfalso
            apply hc
            rw [List.all_eq_true]
            intro y hy
            by_cases hlt : gn N y < gn N z
            · exact decide_eq_true hlt
            · exact absurd ⟨y, hy, hlt⟩ hex
        obtain ⟨y, hy, hyl⟩ := this
        have hya : gn N y ≤ gn N a := by
          rcases List.mem_cons.mp hy with e2 | e2
          · rw [e2]; exact Nat.le_refl _
          · rcases h1 y e2 with q | q <;> omega
        unfold hdo
        omega
      · exact h1 z e
theorem cdl_ok {N : Nat → Int32} : ∀ r i acc, (∀ z ∈ acc, z < i) → acc.Pairwise (hdo N) → acc.length ≤ i → (cdl N r i acc).Pairwise (hdo N) ∧ (cdl N r i acc).length ≤ i + r ∧ ∀ z, z ∈ cdl N r i acc ↔ z ∈ acc ∨ (i ≤ z ∧ z < i + r ∧ cdb N z = true)
  | 0, i, acc, h, hp, hl => ⟨hp, hl, fun z => by
    rw [cdl]
    constructor
    · exact Or.inl
    · rintro (q | ⟨q1, q2, -⟩)
      · exact q
      · omega⟩
  | r + 1, i, acc, h, hp, hl => by
    rw [cdl]
    by_cases hc : cdb N i = true
    · rw [if_pos hc]
      obtain ⟨g1, g2, g3⟩ := cdl_ok (N := N) r (i + 1) (insE (fun z => decide (gn N z < gn N i)) i acc) (fun z hz => by
        rcases (insE_mem _ _ _ _).mp hz with e | e
        · omega
        · have := h z e
          omega) (ins_sorted acc h hp) (by rw [insE_len]; omega)
      refine ⟨g1, by omega, fun z => ?_⟩
      rw [g3, insE_mem]
      constructor
      · rintro ((q | q) | ⟨q1, q2, q3⟩)
        · subst q; exact Or.inr ⟨Nat.le_refl _, by omega, hc⟩
        · exact Or.inl q
        · exact Or.inr ⟨by omega, by omega, q3⟩
      · rintro (q | ⟨q1, q2, q3⟩)
        · exact Or.inl (Or.inr q)
        · by_cases e : z = i
          · exact Or.inl (Or.inl e)
          · exact Or.inr ⟨by omega, by omega, q3⟩
    · rw [if_neg hc]
      obtain ⟨g1, g2, g3⟩ := cdl_ok (N := N) r (i + 1) acc (fun z hz => by have := h z hz; omega) hp (by omega)
      refine ⟨g1, by omega, fun z => ?_⟩
      rw [g3]
      constructor
      · rintro (q | ⟨q1, q2, q3⟩)
        · exact Or.inl q
        · exact Or.inr ⟨by omega, by omega, q3⟩
      · rintro (q | ⟨q1, q2, q3⟩)
        · exact Or.inl q
        · by_cases e : z = i
          · rw [e] at q3; exact absurd q3 hc
          · exact Or.inr ⟨by omega, by omega, q3⟩
theorem cds_ok (N : Nat → Int32) : (cds N).Pairwise (hdo N) ∧ (cds N).length ≤ cn N ∧ ∀ z, z ∈ cds N ↔ z < cn N ∧ cdb N z = true := by
  obtain ⟨g1, g2, g3⟩ := cdl_ok (N := N) (cn N) 0 [] (fun z hz => by cases hz) List.Pairwise.nil (Nat.le_refl _)
  refine ⟨g1, by unfold cds; omega, fun z => ?_⟩
  unfold cds
  rw [g3]
  constructor
  · rintro (q | ⟨-, q2, q3⟩)
    · cases q
    · exact ⟨by omega, q3⟩
  · rintro ⟨q1, q2⟩
    exact Or.inr ⟨Nat.zero_le _, by omega, q2⟩
def trg (N : Nat → Int32) (r : Nat) : Int32 × Int32 × Int32 := (nI r, mI, nI (gn N r))
theorem cdb_iff (N : Nat → Int32) (w : Nat) : cdb N w = true ↔ N (42 + w) = mI ∧ 0 < gn N w := by
  unfold cdb
  rw [Bool.and_eq_true, decide_eq_true_iff, decide_eq_true_iff]
theorem p_rank_lp {N : Nat → Int32} (h : WF N) : ∀ r i n acc wd vl wt, i + r = cn N → (∀ z ∈ acc, z < i) → acc.length ≤ i → RK (acc.map (trg N)) wd vl wt → r < n → ∃ wd' vl' wt', lp_X3_rankCandidates_9 (N 17) (N 0) (vS N) (vL N) (vQ N) (vB N) n (nI i) (nI acc.length) wd vl wt = some (nI (cdl N r i acc).length, wd', vl', wt') ∧ RK ((cdl N r i acc).map (trg N)) wd' vl' wt' := by
  have h12 := h.1.2
  intro r
  induction r with
  | zero =>
    intro i n acc wd vl wt hi ha hal hr hn
    obtain ⟨n, rfl⟩ : ∃ m, n = m + 1 := ⟨n - 1, by omega⟩
    refine ⟨wd, vl, wt, ?_, hr⟩
    rw [lp_X3_rankCandidates_9, h.1.1, if_pos (nI_le (by omega) (by omega))]
    rfl
  | succ r ih =>
    intro i n acc wd vl wt hi ha hal hr hn
    obtain ⟨n, rfl⟩ : ∃ m, n = m + 1 := ⟨n - 1, by omega⟩
    have hW := h.2.2.2 i (by omega)
    have hg := gn_le hW
    rw [lp_X3_rankCandidates_9, h.1.1, if_neg (nI_ge (by omega) (by omega)), p_gain (by omega) hW, obs, gin (by omega) (by omega), nI_clamp (n := i) (by omega), vBa, nI_1, lm1, cdl]
    have skip : ¬ cdb N i = true → ∃ wd' vl' wt', lp_X3_rankCandidates_9 (nI (cn N)) (N 0) (vS N) (vL N) (vQ N) (vB N) n (nI (i + 1)) (nI acc.length) wd vl wt = some (nI (cdl N r (i + 1) (if cdb N i = true then insE (fun z => decide (gn N z < gn N i)) i acc else acc)).length, wd', vl', wt') ∧ RK ((cdl N r (i + 1) (if cdb N i = true then insE (fun z => decide (gn N z < gn N i)) i acc else acc)).map (trg N)) wd' vl' wt' := by
      intro hd
      have := ih (i + 1) n acc wd vl wt (by omega) (fun z hz => by have := ha z hz; omega) (by omega) hr (by omega)
      rw [h.1.1] at this
      rw [if_neg hd]
      exact this
    by_cases hb : N (42 + i) = mI
    · rw [if_pos hb]
      by_cases hg0 : gn N i = 0
      · rw [if_pos (show nI (gn N i) < 1 by rw [hg0]; decide)]
        exact skip (by rw [cdb_iff]; omega)
      · have hc : cdb N i = true := (cdb_iff N i).mpr ⟨hb, by omega⟩
        rw [if_neg (show ¬ nI (gn N i) < 1 by rw [l1]; exact nI_nlt (by omega) (by omega)), if_pos hc]
        obtain ⟨wd2, vl2, wt2, e1, e2⟩ := p_insert (R := acc.map (trg N)) (by rw [List.length_map]; omega) hr (nI i) mI (nI (gn N i))
        rw [List.length_map] at e1
        rw [e1, obs, ← h.1.1]
        have hmap : insE (fun t => decide (t.2.2 < nI (gn N i))) (nI i, mI, nI (gn N i)) (acc.map (trg N)) = (insE (fun z => decide (gn N z < gn N i)) i acc).map (trg N) := by
          rw [insE_map (trg N) (fun z => decide (gn N z < gn N i)) (fun t => decide (t.2.2 < nI (gn N i))) i acc (fun z hz => by
            have hz1 := ha z hz
            have hz2 := gn_le (h.2.2.2 z (by omega))
            unfold trg
            rw [decide_eq_decide, nI_ltI (by omega) (by omega)])]
          rfl
        rw [hmap] at e2
        rw [← insE_len (fun z => decide (gn N z < gn N i)) i acc]
        exact ih (i + 1) n _ _ _ _ (by omega) (fun z hz => by
          rcases (insE_mem _ _ _ _).mp hz with e | e
          · omega
          · have := ha z e
            omega) (by rw [insE_len]; omega) e2 (by omega)
    · rw [if_neg hb]
      exact skip (by rw [cdb_iff]; exact fun z => hb z.1)
theorem p_rank {N : Nat → Int32} (h : WF N) (q : Int32) (wd vl wt : Nat → Int32) : ∃ wd' vl' wt', fn_X3_rankCandidates q wd vl wt (N 0) (N 17) (vS N) (vL N) (vQ N) (vB N) = some (nI (cds N).length, wd', vl', wt') ∧ RK ((cds N).map (trg N)) wd' vl' wt' := by
  have h12 := h.1.2
  obtain ⟨wd', vl', wt', h1, h2⟩ := p_rank_lp h (cn N) 0 1024 [] wd vl wt (by omega) (fun z hz => by cases hz) (Nat.le_refl _) (RK_nil wd vl wt) (by omega)
  refine ⟨wd', vl', wt', ?_, h2⟩
  unfold fn_X3_rankCandidates fn_X4_empty
  rw [obs, show lp_X3_rankCandidates_9 (N 17) (N 0) (vS N) (vL N) (vQ N) (vB N) 1024 0 0 wd vl wt = _ from h1, obs]
  rfl
/-! marks -/
theorem frb_snoc (N : Nat → Int32) (w st : Nat) : ∀ r i, frb N w st (r + 1) i = (frb N w st r i && (decide (i + r = w) || !decide (kp N (i + r) = nI st)))
  | 0, i => by
    rw [frb, frb, frb, Bool.and_true, Bool.true_and, Nat.add_zero]
  | r + 1, i => by
    rw [frb, frb_snoc N w st r (i + 1), frb, Bool.and_assoc, show i + 1 + r = i + (r + 1) by omega]
def fr0 (N : Nat → Int32) (st : Nat) : Bool := frb N 99 st (cn N) 0
def b2i : Bool → Int32
  | true => 1
  | false => 0
def TK (tb : Nat → Bool) (tk : Nat → Int32) : Prop := ∀ s, s < 24 → tk s = b2i (tb s)
theorem p_clear_lp : ∀ r i n tk, i + r = 24 → (∀ s, s < i → tk s = 0) → r < n → ∃ tk', lp_X3_markKeptStrokes_2 n (nI i) tk = some tk' ∧ ∀ s, s < 24 → tk' s = 0 := by
  intro r
  induction r with
  | zero =>
    intro i n tk hi h hn
    obtain ⟨n, rfl⟩ : ∃ m, n = m + 1 := ⟨n - 1, by omega⟩
    refine ⟨tk, ?_, fun s hs => h s (by omega)⟩
    rw [lp_X3_markKeptStrokes_2, l24, if_pos (nI_le (by omega) (by omega))]
  | succ r ih =>
    intro i n tk hi h hn
    obtain ⟨n, rfl⟩ : ∃ m, n = m + 1 := ⟨n - 1, by omega⟩
    rw [lp_X3_markKeptStrokes_2, l24, if_neg (nI_ge (by omega) (by omega)), gin (by omega) (by omega), nI_clamp (by omega), nI_1]
    refine ih (i + 1) n _ (by omega) (fun s hs => ?_) (by omega)
    by_cases e : s = i
    · subst e
      rw [upd_s]
      rfl
    · rw [upd_n _ _ e]
      exact h s (by omega)
theorem p_mark_lp {N : Nat → Int32} (h : WF N) : ∀ r i n tk, i + r = cn N → TK (fun s => !frb N 99 s i 0) tk → r < n → ∃ tk', lp_X3_markKeptStrokes_23 (N 17) (N 0) (vF N) (vS N) (vL N) (vB N) n (nI i) tk = some tk' ∧ TK (fun s => !fr0 N s) tk' := by
  have h12 := h.1.2
  intro r
  induction r with
  | zero =>
    intro i n tk hi ht hn
    obtain ⟨n, rfl⟩ : ∃ m, n = m + 1 := ⟨n - 1, by omega⟩
    refine ⟨tk, ?_, ?_⟩
    · rw [lp_X3_markKeptStrokes_23, h.1.1, if_pos (nI_le (by omega) (by omega))]
    · unfold fr0
      rw [← hi, Nat.add_zero]
      exact ht
  | succ r ih =>
    intro i n tk hi ht hn
    obtain ⟨n, rfl⟩ : ∃ m, n = m + 1 := ⟨n - 1, by omega⟩
    have hW := h.2.2.2 i (by omega)
    have hk : fn_X5_keptStroke (N 0) (vF N) (vS N) (vL N) (vB N) (nI i) = some (kp N i) := p_kept (by omega) hW
    have hlp := ih (i + 1) n
    rw [lp_X3_markKeptStrokes_23, hk, obs, nI_1, lm1, if_neg (by rw [h.1.1]; exact nI_ge (by omega) (by omega))]
    rcases kp_isM h hW with hm | ⟨b, hb, hm⟩
    · rw [if_pos hm]
      refine hlp tk (by omega) (fun s hs => ?_) (by omega)
      have hts := ht s hs
      dsimp only at hts ⊢
      rw [hts, frb_snoc, Nat.zero_add, hm, decide_eq_false (mI_n (a := s) (by omega))]
      simp
    · rw [hm, if_neg (nI_nm (by omega)), gin hb (by omega), nI_clamp (by omega)]
      refine hlp _ (by omega) (fun s hs => ?_) (by omega)
      have hts := ht s hs
      dsimp only at hts ⊢
      rw [frb_snoc, Nat.zero_add, hm, decide_eq_false (show ¬ i = 99 by omega)]
      by_cases e : s = b
      · subst e
        rw [upd_s, decide_eq_true rfl]
        simp
        rfl
      · rw [upd_n _ _ e, hts, decide_eq_false (by rw [nI_eq (by omega) (by omega)]; exact fun z => e z.symm)]
        simp
theorem p_mark {N : Nat → Int32} (h : WF N) (tk : Nat → Int32) : ∃ tk', fn_X3_markKeptStrokes tk (N 0) (N 17) (vF N) (vS N) (vL N) (vB N) = some tk' ∧ TK (fun s => !fr0 N s) tk' := by
  have h12 := h.1.2
  obtain ⟨t1, e1, e2⟩ := p_clear_lp 24 0 1024 tk (by omega) (fun s hs => by omega) (by omega)
  obtain ⟨t2, e3, e4⟩ := p_mark_lp h (cn N) 0 1024 t1 (by omega) (fun s hs => e2 s hs) (by omega)
  refine ⟨t2, ?_, e4⟩
  unfold fn_X3_markKeptStrokes
  rw [show lp_X3_markKeptStrokes_2 1024 0 tk = _ from e1, obs, show lp_X3_markKeptStrokes_23 (N 17) (N 0) (vF N) (vS N) (vL N) (vB N) 1024 0 t1 = _ from e3, obs]
def low (tb : Nat → Bool) : Nat → Nat → Option Nat
  | 0, _ => none
  | r + 1, i => if tb i = true then low tb r (i + 1) else some i
theorem low_lt {tb : Nat → Bool} : ∀ r i s, low tb r i = some s → i ≤ s ∧ s < i + r ∧ tb s = false
  | 0, i, s, h => by cases h
  | r + 1, i, s, h => by
    rw [low] at h
    by_cases hb : tb i = true
    · rw [if_pos hb] at h
      have := low_lt r (i + 1) s h
      exact ⟨by omega, by omega, this.2.2⟩
    · rw [if_neg hb] at h
      cases h
      exact ⟨Nat.le_refl _, by omega, by simpa using hb⟩
theorem p_low_lp {tb : Nat → Bool} {tk : Nat → Int32} (h : TK tb tk) : ∀ r i n, i + r = 24 → r < n → lp_X3_lowestUntaken_2 tk n (nI i) = some (enc (low tb r i)) := by
  intro r
  induction r with
  | zero =>
    intro i n hi hn
    obtain ⟨n, rfl⟩ : ∃ m, n = m + 1 := ⟨n - 1, by omega⟩
    rw [lp_X3_lowestUntaken_2, l24, if_pos (nI_le (by omega) (by omega))]
    rfl
  | succ r ih =>
    intro i n hi hn
    obtain ⟨n, rfl⟩ : ∃ m, n = m + 1 := ⟨n - 1, by omega⟩
    rw [lp_X3_lowestUntaken_2, l24, if_neg (nI_ge (by omega) (by omega)), gin (by omega) (by omega), nI_clamp (by omega), h i (by omega), nI_1, low]
    by_cases hb : tb i = true
    · rw [if_pos hb, hb, if_neg (by decide), ih (i + 1) n (by omega) (by omega)]
    · have hb2 : tb i = false := by simpa using hb
      rw [if_neg hb, hb2, if_pos (show b2i false = 0 from rfl)]
      rfl
def asg : List Nat → (Nat → Bool) → List (Nat × Nat)
  | [], _ => []
  | w :: t, tb => match low tb 24 0 with
    | none => asg t tb
    | some s => (w, s) :: asg t (fun x => decide (x = s) || tb x)
theorem asg_len : ∀ l tb, (asg l tb).length ≤ l.length
  | [], tb => Nat.le_refl _
  | w :: t, tb => by
    rw [asg]
    cases low tb 24 0 with
    | none =>
      have := asg_len t tb
      rw [List.length_cons]
      dsimp only
      omega
    | some s =>
      have := asg_len t (fun x => decide (x = s) || tb x)
      dsimp only
      rw [List.length_cons, List.length_cons]
      omega
theorem asg_ok : ∀ l tb, ∀ q ∈ asg l tb, q.1 ∈ l ∧ q.2 < 24
  | [], tb, q, hq => by cases hq
  | w :: t, tb, q, hq => by
    rw [asg] at hq
    cases hl : low tb 24 0 with
    | none =>
      rw [hl] at hq
      have := asg_ok t tb q hq
      exact ⟨List.mem_cons_of_mem _ this.1, this.2⟩
    | some s =>
      rw [hl] at hq
      rcases List.mem_cons.mp hq with e | e
      · subst e
        exact ⟨List.mem_cons_self, by have := low_lt 24 0 s hl; omega⟩
      · have := asg_ok t _ q e
        exact ⟨List.mem_cons_of_mem _ this.1, this.2⟩
/-- the proposal -/
def prp (N : Nat → Int32) : List (Nat × Nat) := asg (cds N) (fun s => !fr0 N s)
def trc (q : Nat × Nat) : Int32 × Int32 × Int32 := (nI q.1, nI q.2, 0)
theorem TK_set {tb : Nat → Bool} {tk : Nat → Int32} (h : TK tb tk) (s : Nat) : TK (fun x => decide (x = s) || tb x) (upd tk s (vp_nar .boolean 1)) := by
  intro x hx
  dsimp only
  by_cases e : x = s
  · subst e
    rw [upd_s, decide_eq_true rfl]
    rfl
  · rw [upd_n _ _ e, decide_eq_false e, Bool.false_or]
    exact h x hx
theorem p_make_lp {S : List Nat} {cw : Nat → Int32} (h12 : S.length ≤ 12) (hc : ∀ j r, S[j]? = some r → cw j = nI r) : ∀ r i n acc wd vl wt tk tb, i + r = S.length → acc.length ≤ i → RK (acc.map trc) wd vl wt → TK tb tk → r < n → ∃ wd' vl' wt' tk', lp_X3_make_19 (nI S.length) cw n (nI i) (nI acc.length) wd vl wt tk = some (nI (acc ++ asg (S.drop i) tb).length, wd', vl', wt', tk') ∧ RK ((acc ++ asg (S.drop i) tb).map trc) wd' vl' wt' := by
  intro r
  induction r with
  | zero =>
    intro i n acc wd vl wt tk tb hi hal hr ht hn
    obtain ⟨n, rfl⟩ : ∃ m, n = m + 1 := ⟨n - 1, by omega⟩
    refine ⟨wd, vl, wt, tk, ?_, ?_⟩
    · rw [lp_X3_make_19, if_pos (nI_le (by omega) (by omega)), List.drop_eq_nil_of_le (by omega), asg, List.append_nil]
    · rw [List.drop_eq_nil_of_le (by omega), asg, List.append_nil]
      exact hr
  | succ r ih =>
    intro i n acc wd vl wt tk tb hi hal hr ht hn
    obtain ⟨n, rfl⟩ : ∃ m, n = m + 1 := ⟨n - 1, by omega⟩
    obtain ⟨w, hw⟩ := at_lt (L := S) (j := i) (by omega)
    have hlow : fn_X3_lowestUntaken tk = some (enc (low tb 24 0)) := p_low_lp ht 24 0 1024 (by omega) (by omega)
    rw [lp_X3_make_19, if_neg (nI_ge (by omega) (by omega)), hlow, obs, nI_1, lm1, drop_at hw, asg]
    cases hl : low tb 24 0 with
    | none =>
      rw [if_pos (show enc none = mI from rfl)]
      exact ih (i + 1) n acc wd vl wt tk tb (by omega) (by omega) hr ht (by omega)
    | some s =>
      have hs := low_lt 24 0 s hl
      rw [if_neg (show ¬ enc (some s) = mI from nI_nm (by omega)), show enc (some s) = nI s from rfl, gin (by omega) (by omega), gin (by omega) (by omega), nI_clamp (n := i) (by omega), nI_clamp (n := s) (by omega), hc i w hw]
      obtain ⟨wd2, vl2, wt2, e1, e2⟩ := p_insert (R := acc.map trc) (by rw [List.length_map]; omega) hr (nI w) (nI s) 0
      rw [List.length_map] at e1
      rw [insE_end _ _ _ (fun t ht2 => by
        obtain ⟨q, -, rfl⟩ := List.mem_map.mp ht2
        rfl)] at e2
      have e3 : acc.map trc ++ [(nI w, nI s, 0)] = (acc ++ [(w, s)]).map trc := by rw [List.map_append]; rfl
      rw [e3] at e2
      rw [e1, obs]
      have := ih (i + 1) n (acc ++ [(w, s)]) wd2 vl2 wt2 _ _ (by omega) (by rw [List.length_append]; simp; omega) e2 (TK_set ht s) (by omega)
      rw [List.length_append, List.append_assoc] at this
      exact this
theorem p_make {N : Nat → Int32} (h : WF N) (a b : Int32) (c1 c2 c3 d1 d2 d3 tk : Nat → Int32) : ∃ wd vl wt e1 e2 e3 tk', fn_X3_make a c1 c2 c3 b d1 d2 d3 tk (N 0) (N 17) (vF N) (vS N) (vL N) (vQ N) (vB N) = some (nI (prp N).length, wd, vl, wt, nI (cds N).length, e1, e2, e3, tk') ∧ RK ((prp N).map trc) wd vl wt := by
  have h12 := h.1.2
  have hcd := cds_ok N
  obtain ⟨x1, x2, x3, hx, hxr⟩ := p_rank h b d1 d2 d3
  obtain ⟨t1, ht, htk⟩ := p_mark h tk
  have hc : ∀ j r, (cds N)[j]? = some r → x1 j = nI r := fun j r hj => (hxr j (trg N r) (by rw [List.getElem?_map, hj]; rfl)).1
  obtain ⟨y1, y2, y3, y4, hy, hyr⟩ := p_make_lp (S := cds N) (by omega) hc (cds N).length 0 1024 [] c1 c2 c3 t1 _ (by omega) (Nat.le_refl _) (RK_nil _ _ _) htk (by omega)
  refine ⟨y1, y2, y3, x1, x2, x3, y4, ?_, hyr⟩
  unfold fn_X3_make fn_X4_empty
  rw [hx, obs, ht, obs, obs, show lp_X3_make_19 (nI (cds N).length) x1 1024 0 0 c1 c2 c3 t1 = _ from hy, obs]
  rfl
