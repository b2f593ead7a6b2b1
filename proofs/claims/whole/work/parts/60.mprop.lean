/-! the model's proposal: the best that is left, again and again -/
theorem nI_or (a b : Nat) : nI a ||| nI b = nI (a ||| b) := by
  apply Int32.toBitVec_inj.mp
  show BitVec.ofNat 32 a ||| BitVec.ofNat 32 b = BitVec.ofNat 32 (a ||| b)
  rw [BitVec.ofNat_or]
theorem bit_tb (a x : Nat) : a / 2 ^ x % 2 = 1 ↔ a.testBit x = true := by
  rw [Nat.testBit_eq_decide_div_mod_eq, decide_eq_true_iff]
theorem bit_or (a s x : Nat) : (a ||| 2 ^ s) / 2 ^ x % 2 = 1 ↔ (x = s ∨ a / 2 ^ x % 2 = 1) := by
  rw [bit_tb, bit_tb, Nat.testBit_or, Nat.testBit_two_pow, Bool.or_eq_true, decide_eq_true_iff]
  constructor
  · rintro (h | h)
    · exact Or.inr h
    · exact Or.inl h.symm
  · rintro (h | h)
    · exact Or.inr h.symm
    · exact Or.inl h
theorem or_lt {a s k : Nat} (ha : a < 2 ^ k) (hs : s < k) : a ||| 2 ^ s < 2 ^ k := Nat.or_lt_two_pow ha (Nat.pow_lt_pow_right (by omega) hs)
/-- the mask a holds the set lk -/
def MK (lk : Nat → Bool) (a k : Nat) : Prop := a < 2 ^ k ∧ ∀ x, x < k → (a / 2 ^ x % 2 = 1 ↔ lk x = true)
theorem MK_bit {lk : Nat → Bool} {a k x : Nat} (h : MK lk a k) (hk : k ≤ 24) (hx : x < k) : ((nI a >>> (nI x &&& 31)) &&& 1) = b2i (lk x) := by
  have hp : 2 ^ k ≤ 2 ^ 24 := Nat.pow_le_pow_right (by omega) hk
  have h1 := h.1
  rw [bit_n (by omega) (by omega)]
  have h2 := h.2 x hx
  have h3 : a / 2 ^ x % 2 < 2 := Nat.mod_lt _ (by omega)
  cases hl : lk x with
  | true =>
    rw [hl] at h2
    rw [h2.mpr rfl]
    rfl
  | false =>
    rw [hl] at h2
    have h4 : a / 2 ^ x % 2 = 0 := by
      have h5 : ¬ a / 2 ^ x % 2 = 1 := fun z => by cases h2.mp z
      omega
    rw [h4]
    rfl
theorem MK_set {lk : Nat → Bool} {a k s : Nat} (h : MK lk a k) (hs : s < k) : MK (fun x => decide (x = s) || lk x) (a ||| 2 ^ s) k := by
  refine ⟨or_lt h.1 hs, fun x hx => ?_⟩
  rw [bit_or, h.2 x hx, Bool.or_eq_true, decide_eq_true_iff]
theorem MK_0 (k : Nat) : MK (fun _ => false) 0 k := ⟨Nat.two_pow_pos k, fun x _ => by rw [Nat.zero_div]; simp⟩
def bI (N : Nat → Int32) (lk : Nat → Bool) (i : Nat) (b : Option Nat) : Prop := (∀ z, b = some z → z < i ∧ cdb N z = true ∧ lk z = false ∧ ∀ c, c < i → cdb N c = true → lk c = false → c = z ∨ hdo N z c) ∧ (b = none → ∀ c, c < i → cdb N c = true → lk c = true)
theorem bI_skip {N : Nat → Int32} {lk : Nat → Bool} {i : Nat} {b : Option Nat} (h : bI N lk i b) (hs : ¬ (cdb N i = true ∧ lk i = false)) : bI N lk (i + 1) b := by
  refine ⟨fun z hz => ?_, fun hb c hc hd => ?_⟩
  · obtain ⟨h1, h2, h3, h4⟩ := h.1 z hz
    refine ⟨by omega, h2, h3, fun c hc hd hl => ?_⟩
    by_cases e : c = i
    · subst e; exact absurd ⟨hd, hl⟩ hs
    · exact h4 c (by omega) hd hl
  · by_cases e : c = i
    · subst e
      cases hl : lk c with
      | true => rfl
      | false => exact absurd ⟨hd, hl⟩ hs
    · exact h.2 hb c (by omega) hd
theorem m_best_lp {N : Nat → Int32} (h : WF N) {lk : Nat → Bool} {a : Nat} (hM : MK lk a 12) : ∀ r i n b v m, i + r = cn N → bI N lk i b → r < n → ∃ b' v' m', lp_X7_proposes_28 N (nI a) n (enc b) (nI i) v m = some (enc b', v', m') ∧ bI N lk (cn N) b' := by
  have h12 := h.1.2
  intro r
  induction r with
  | zero =>
    intro i n b v m hi hb hn
    obtain ⟨n, rfl⟩ : ∃ m, n = m + 1 := ⟨n - 1, by omega⟩
    refine ⟨b, v, m, ?_, by rw [← hi]; exact hb⟩
    rw [lp_X7_proposes_28, show (17 : Int32).toNatClampNeg = 17 from rfl, h.1.1, if_pos (nI_le (by omega) (by omega))]
  | succ r ih =>
    intro i n b v m hi hb hn
    obtain ⟨n, rfl⟩ : ∃ m, n = m + 1 := ⟨n - 1, by omega⟩
    have hW := h.2.2.2 i (by omega)
    have hg := gn_le hW
    rw [lp_X7_proposes_28, show (17 : Int32).toNatClampNeg = 17 from rfl, h.1.1, if_neg (nI_ge (by omega) (by omega)), MK_bit hM (by omega) (by omega), nI_1, l42, nI_add, gin (by omega) (by omega), nI_clamp (by omega), lm1, m_gain (by omega) hW, obs]
    cases hl : lk i with
    | true =>
      rw [if_neg (show ¬ b2i true = 0 by decide)]
      exact ih (i + 1) n b _ _ (by omega) (bI_skip hb (by rw [hl]; exact fun z => by cases z.2)) (by omega)
    | false =>
      rw [if_pos (show b2i false = 0 from rfl)]
      by_cases hbr : N (42 + i) = mI
      · rw [if_pos hbr]
        show ∃ b' v' m', (if nI (gn N i) ≤ 0 then _ else _) = _ ∧ _
        by_cases hg0 : gn N i = 0
        · rw [if_pos (show nI (gn N i) ≤ 0 by rw [hg0]; decide)]
          exact ih (i + 1) n b _ _ (by omega) (bI_skip hb (fun z => by have := ((cdb_iff N i).mp z.1).2; omega)) (by omega)
        · have hc : cdb N i = true := (cdb_iff N i).mpr ⟨hbr, by omega⟩
          rw [if_neg (show ¬ nI (gn N i) ≤ 0 from nI_nle (by omega) (by omega))]
          have hnew : ∀ (hcond : ∀ c, c < i → cdb N c = true → lk c = false → hdo N i c), bI N lk (i + 1) (some i) := by
            intro hcond
            refine ⟨fun z hz => ?_, fun z => by cases z⟩
            cases hz
            refine ⟨by omega, hc, hl, fun c hcc hd hlc => ?_⟩
            by_cases e : c = i
            · exact Or.inl e
            · exact Or.inr (hcond c (by omega) hd hlc)
          cases b with
          | none =>
            rw [if_pos (show enc none = mI from rfl)]
            exact ih (i + 1) n (some i) _ _ (by omega) (hnew (fun c hcc hd hlc => by
              have := hb.2 rfl c hcc hd
              rw [hlc] at this
              cases this)) (by omega)
          | some z =>
            obtain ⟨z1, z2, z3, z4⟩ := hb.1 z rfl
            have hWz := h.2.2.2 z (by omega)
            have hgz := gn_le hWz
            rw [if_neg (show ¬ enc (some z) = mI from nI_nm (by omega))]
            show ∃ b' v' m', Option.bind (fn_X7_gainOf (nI (wl N i).length) N (putL m 0 ((wl N i).map nI)) (nI i)) _ = _ ∧ _
            rw [m_gain (by omega) hW, obs]
            show ∃ b' v' m', Option.bind (fn_X7_gainOf (nI (wl N i).length) N (putL (putL m 0 ((wl N i).map nI)) 0 ((wl N i).map nI)) (nI z)) _ = _ ∧ _
            rw [m_gain (by omega) hWz, obs]
            show ∃ b' v' m', (if nI (gn N i) ≤ nI (gn N z) then _ else _) = _ ∧ _
            by_cases hle : gn N i ≤ gn N z
            · rw [if_pos (nI_le hle (by omega))]
              refine ih (i + 1) n (some z) _ _ (by omega) ⟨fun y hy => ?_, fun y => by cases y⟩ (by omega)
              cases hy
              refine ⟨by omega, z2, z3, fun c hcc hd hlc => ?_⟩
              by_cases e : c = i
              · subst e
                refine Or.inr ?_
                unfold hdo
                omega
              · exact z4 c (by omega) hd hlc
            · rw [if_neg (nI_ge (by omega) (by omega))]
              refine ih (i + 1) n (some i) _ _ (by omega) (hnew (fun c hcc hd hlc => ?_)) (by omega)
              rcases z4 c hcc hd hlc with e | e
              · subst e
                exact Or.inl (by omega)
              · unfold hdo at e ⊢
                omega
      · rw [if_neg hbr]
        exact ih (i + 1) n b _ _ (by omega) (bI_skip hb (fun z => hbr ((cdb_iff N i).mp z.1).1)) (by omega)
/-- the best that is left is the next of the sorted candidates -/
theorem best_is {N : Nat → Int32} {lk : Nat → Bool} {k : Nat} {b : Option Nat} (hb : bI N lk (cn N) b) (hk : ∀ z, z ∈ cds N → (lk z = true ↔ z ∈ (cds N).take k)) : b = (cds N)[k]? := by
  obtain ⟨hs, hl, hm⟩ := cds_ok N
  have hirr : ∀ z, ¬ hdo N z z := fun z q => by unfold hdo at q; omega
  have hnd : ∀ i j x : Nat, (cds N)[i]? = some x → (cds N)[j]? = some x → i = j := by
    intro i j x hi hj
    rcases Nat.lt_trichotomy i j with q | q | q
    · obtain ⟨h1, h2⟩ := List.getElem?_eq_some_iff.mp hi
      obtain ⟨h3, h4⟩ := List.getElem?_eq_some_iff.mp hj
      have := List.pairwise_iff_getElem.mp hs i j h1 h3 q
      rw [h2, h4] at this
      exact absurd this (hirr x)
    · exact q
    · obtain ⟨h1, h2⟩ := List.getElem?_eq_some_iff.mp hi
      obtain ⟨h3, h4⟩ := List.getElem?_eq_some_iff.mp hj
      have := List.pairwise_iff_getElem.mp hs j i h3 h1 q
      rw [h2, h4] at this
      exact absurd this (hirr x)
  have hin : ∀ j x : Nat, (cds N)[j]? = some x → (lk x = true ↔ j < k) := by
    intro j x hj
    rw [hk x (List.mem_of_getElem? hj)]
    constructor
    · intro hx
      obtain ⟨i, hi⟩ := List.getElem?_of_mem hx
      rw [List.getElem?_take] at hi
      by_cases hik : i < k
      · rw [if_pos hik] at hi
        have := hnd i j x hi hj
        omega
      · rw [if_neg hik] at hi
        cases hi
    · intro hjk
      have : ((cds N).take k)[j]? = some x := by rw [List.getElem?_take, if_pos hjk]; exact hj
      exact List.mem_of_getElem? this
  cases e : (cds N)[k]? with
  | none =>
    cases b with
    | none => rfl
    | some z =>
      obtain ⟨h1, h2, h3, h4⟩ := hb.1 z rfl
      obtain ⟨j, hj⟩ := List.getElem?_of_mem ((hm z).mpr ⟨h1, h2⟩)
      have h5 := hin j z hj
      have h6 := idx_lt hj
      have h7 : (cds N).length ≤ k := by
        rcases Nat.lt_or_ge k (cds N).length with q | q
        · rw [List.getElem?_eq_getElem q] at e; cases e
        · exact q
      have := h5.mpr (by omega)
      rw [h3] at this
      cases this
  | some x =>
    have hx := (hm x).mp (List.mem_of_getElem? e)
    have hlx : lk x = false := by
      cases hq : lk x with
      | false => rfl
      | true => exact absurd ((hin k x e).mp hq) (by omega)
    cases b with
    | none =>
      have := hb.2 rfl x hx.1 hx.2
      rw [hlx] at this
      cases this
    | some z =>
      obtain ⟨h1, h2, h3, h4⟩ := hb.1 z rfl
      rcases h4 x hx.1 hx.2 hlx with q | q
      · rw [q]
      · obtain ⟨j, hj⟩ := List.getElem?_of_mem ((hm z).mpr ⟨h1, h2⟩)
        have hjk : ¬ j < k := fun y => by
          have := (hin j z hj).mpr y
          rw [h3] at this
          cases this
        by_cases ejk : j = k
        · subst ejk
          exact (hj.symm.trans e)
        · obtain ⟨g1, g2⟩ := List.getElem?_eq_some_iff.mp hj
          obtain ⟨g3, g4⟩ := List.getElem?_eq_some_iff.mp e
          have := List.pairwise_iff_getElem.mp hs k j g3 g1 (by omega)
          rw [g2, g4] at this
          unfold hdo at q this
          omega
theorem frb_c {N : Nat → Int32} {w st : Nat} (hk : kp N w = mI) (hst : st < 24) : ∀ r i, i + r ≤ 12 → frb N w st r i = frb N 99 st r i
  | 0, i, _ => rfl
  | r + 1, i, h => by
    rw [frb, frb, frb_c hk hst r (i + 1) (by omega), decide_eq_false (show ¬ i = 99 by omega), Bool.false_or]
    by_cases e : i = w
    · subst e
      rw [hk, decide_eq_true rfl, decide_eq_false (mI_n (a := st) (by omega))]
      rfl
    · rw [decide_eq_false e, Bool.false_or]
theorem kp_c {N : Nat → Int32} {w : Nat} (hc : cdb N w = true) : kp N w = mI := by
  obtain ⟨h1, h2⟩ := (cdb_iff N w).mp hc
  unfold kp
  rw [if_pos h1]
  by_cases h3 : (wl N w).length = 1
  · unfold gn at h2
    rw [h3] at h2
    simp at h2
  · rw [if_neg h3]
theorem m_str_lp {N : Nat → Int32} (h : WF N) {tb : Nat → Bool} {a w : Nat} (hw : w < 12) (hc : cdb N w = true) (hM : MK tb a 24) : ∀ r i n v m, i + r = 24 → r < n → ∃ v' m', lp_X7_proposes_137 (nI a) N (nI w) n (nI i) v m = some (nI ((low (fun s => tb s || !fr0 N s) r i).getD 24), v', m') := by
  have h12 := h.1.2
  intro r
  induction r with
  | zero =>
    intro i n v m hi hn
    obtain ⟨n, rfl⟩ : ∃ m, n = m + 1 := ⟨n - 1, by omega⟩
    refine ⟨v, m, ?_⟩
    have e : i = 24 := by omega
    subst e
    rw [lp_X7_proposes_137, l24, if_pos (nI_le (by omega) (by omega))]
    rfl
  | succ r ih =>
    intro i n v m hi hn
    obtain ⟨n, rfl⟩ : ∃ m, n = m + 1 := ⟨n - 1, by omega⟩
    obtain ⟨v2, m2, hf⟩ := m_isFree (w := w) (st := i) (by omega) (by omega) h v m
    have hfr : frb N w i (cn N) 0 = fr0 N i := frb_c (kp_c hc) (by omega) (cn N) 0 (by omega)
    rw [hfr] at hf
    rw [lp_X7_proposes_137, l24, if_neg (nI_ge (by omega) (by omega)), MK_bit hM (by omega) (by omega), hf, obs, nI_1, low]
    dsimp only
    cases htb : tb i with
    | true =>
      rw [if_pos (show b2i true = 1 from rfl), if_pos (show (true || !fr0 N i) = true by simp)]
      exact ih (i + 1) n v m (by omega) (by omega)
    | false =>
      rw [if_neg (show ¬ b2i false = 1 by decide)]
      cases hfi : fr0 N i with
      | true =>
        rw [if_pos rfl, if_neg (by decide), if_neg (show ¬ (false || !true) = true by decide)]
        exact ⟨v2, m2, rfl⟩
      | false =>
        rw [if_pos (show (if false = true then (1 : Int32) else 0) = 0 from rfl), if_pos (show (false || !false) = true by decide)]
        exact ih (i + 1) n v2 m2 (by omega) (by omega)
theorem low_congr {f g : Nat → Bool} : ∀ r i, (∀ s, i ≤ s → s < i + r → f s = g s) → low f r i = low g r i
  | 0, i, _ => rfl
  | r + 1, i, h => by rw [low, low, h i (Nat.le_refl _) (by omega), low_congr r (i + 1) (fun s h1 h2 => h s (by omega) (by omega))]
theorem asg_congr : ∀ (l : List Nat) (f g : Nat → Bool), (∀ s, s < 24 → f s = g s) → asg l f = asg l g
  | [], f, g, _ => rfl
  | w :: t, f, g, h => by
    rw [asg, asg, low_congr 24 0 (fun s _ h2 => h s (by omega))]
    cases low g 24 0 with
    | none => exact asg_congr t f g h
    | some s =>
      dsimp only
      rw [asg_congr t (fun x => decide (x = s) || f x) (fun x => decide (x = s) || g x) (fun x hx => by rw [h x hx])]
theorem m_prop_lp {N : Nat → Int32} (h : WF N) : ∀ r k n la ta lk tb p v m pw pg, k + r = cn N → MK lk la 12 → (∀ z, z ∈ cds N → (lk z = true ↔ z ∈ (cds N).take k)) → MK tb ta 24 → p ≤ k → r < n → ∃ v' m', lp_X7_proposes_11 N n (nI la) (nI ta) (nI k) v (nI p) m pw pg = some (v', nI (p + (asg ((cds N).drop k) (fun s => tb s || !fr0 N s)).length), m', putL pw p ((asg ((cds N).drop k) (fun s => tb s || !fr0 N s)).map (fun q => nI q.1)), putL pg p ((asg ((cds N).drop k) (fun s => tb s || !fr0 N s)).map (fun q => nI q.2))) := by
  have h12 := h.1.2
  obtain ⟨hs, hcl, hmem⟩ := cds_ok N
  intro r
  induction r with
  | zero =>
    intro k n la ta lk tb p v m pw pg hk hL hLk hT hp hn
    obtain ⟨n, rfl⟩ : ∃ m, n = m + 1 := ⟨n - 1, by omega⟩
    refine ⟨v, m, ?_⟩
    rw [lp_X7_proposes_11, show (17 : Int32).toNatClampNeg = 17 from rfl, h.1.1, if_pos (nI_le (by omega) (by omega)), List.drop_eq_nil_of_le (by omega)]
    rfl
  | succ r ih =>
    intro k n la ta lk tb p v m pw pg hk hL hLk hT hp hn
    obtain ⟨n, rfl⟩ : ∃ m, n = m + 1 := ⟨n - 1, by omega⟩
    obtain ⟨b, v2, m2, e1, e2⟩ := m_best_lp h hL (cn N) 0 1024 none v m (by omega) ⟨fun z hz => (by cases hz), fun _ c hc => (by omega)⟩ (by omega)
    have hbk := best_is e2 hLk
    rw [lp_X7_proposes_11, show (17 : Int32).toNatClampNeg = 17 from rfl, h.1.1, if_neg (nI_ge (by omega) (by omega)), show lp_X7_proposes_28 N (nI la) 1024 (-1) 0 v m = _ from e1, obs, nI_1, lm1]
    dsimp only
    cases e : (cds N)[k]? with
    | none =>
      have hb0 : b = none := hbk.trans e
      have hlen : (cds N).length ≤ k := by
        rcases Nat.lt_or_ge k (cds N).length with q | q
        · rw [List.getElem?_eq_getElem q] at e; cases e
        · exact q
      rw [hb0, if_pos (show enc none = mI from rfl), List.drop_eq_nil_of_le hlen]
      exact ⟨v2, m2, rfl⟩
    | some w =>
      have hb0 : b = some w := hbk.trans e
      have hw := (hmem w).mp (List.mem_of_getElem? e)
      obtain ⟨v3, m3, e3⟩ := m_str_lp h (w := w) (by omega) hw.2 hT 24 0 1024 v2 m2 (by omega) (by omega)
      rw [hb0, if_neg (show ¬ enc (some w) = mI from nI_nm (by omega)), show enc (some w) = nI w from rfl, show lp_X7_proposes_137 (nI ta) N (nI w) 1024 0 v2 m2 = _ from e3, obs, drop_at e, asg, shl_n w (by omega), nI_or]
      dsimp only
      have hL2 := MK_set hL (s := w) (by omega)
      have hLk2 : ∀ z, z ∈ cds N → ((decide (z = w) || lk z) = true ↔ z ∈ (cds N).take (k + 1)) := by
        intro z hz
        rw [Bool.or_eq_true, decide_eq_true_iff, hLk z hz, List.take_add_one, e, List.mem_append]
        simp
        constructor
        · rintro (q | q)
          · exact Or.inr q
          · exact Or.inl q
        · rintro (q | q)
          · exact Or.inr q
          · exact Or.inl q
      cases hl : low (fun s => tb s || !fr0 N s) 24 0 with
      | none =>
        rw [if_pos (show (24 : Int32) ≤ nI ((none : Option Nat).getD 24) by decide)]
        exact ih (k + 1) n _ ta _ tb p v3 m3 pw pg (by omega) hL2 hLk2 hT (by omega) (by omega)
      | some s =>
        have hs2 := low_lt 24 0 s hl
        rw [if_neg (show ¬ (24 : Int32) ≤ nI ((some s).getD 24) by rw [l24]; exact nI_ge (by show s < 24; omega) (by omega)), gin (by omega) (by omega), gin (by omega) (by omega), nI_clamp (by omega), show (some s : Option Nat).getD 24 = s from rfl, shl_n s (by omega), nI_or, nI_1]
        have hasg : asg ((cds N).drop (k + 1)) (fun x => decide (x = s) || (tb x || !fr0 N x)) = asg ((cds N).drop (k + 1)) (fun x => (decide (x = s) || tb x) || !fr0 N x) := asg_congr _ _ _ (fun x _ => by rw [Bool.or_assoc])
        obtain ⟨v4, m4, e4⟩ := ih (k + 1) n _ _ _ _ (p + 1) v3 m3 (upd pw p (nI w)) (upd pg p (nI s)) (by omega) hL2 hLk2 (MK_set hT (s := s) (by omega)) (by omega) (by omega)
        refine ⟨v4, m4, ?_⟩
        dsimp only
        rw [hasg, e4, List.length_cons, List.map_cons, List.map_cons, putL, putL]
        dsimp only
        congr 4
        omega
theorem m_prop {N : Nat → Int32} (h : WF N) (v q : Int32) (m pw pg : Nat → Int32) : ∃ v' m', fn_X7_proposes v q N m pw pg = some (v', nI (prp N).length, m', putL pw 0 ((prp N).map (fun q => nI q.1)), putL pg 0 ((prp N).map (fun q => nI q.2))) := by
  have h12 := h.1.2
  obtain ⟨v', m', e⟩ := m_prop_lp h (cn N) 0 1024 0 0 _ _ 0 v m pw pg (by omega) (MK_0 12) (fun z _ => by simp) (MK_0 24) (Nat.le_refl _) (by omega)
  refine ⟨v', m', ?_⟩
  have hp : asg ((cds N).drop 0) (fun s => false || !fr0 N s) = prp N := asg_congr _ _ _ (fun s _ => Bool.false_or _)
  rw [hp, Nat.zero_add] at e
  exact e
