/-! the class's outline: rests from the back, strokes from the front -/
def sE (N : Nat → Int32) (s : Nat) : Option Nat := if N (9 + s) = mI then none else some (N (9 + s)).toNatClampNeg
def chs (N : Nat → Int32) (w : Nat) : List (Nat × Option Nat) := (wl N w).map (fun s => (fs N s, sE N s))
theorem sE_enc {N : Nat → Int32} (h : WF N) {s : Nat} (hs : s < 8) : N (9 + s) = enc (sE N s) := by
  unfold sE
  by_cases h1 : N (9 + s) = mI
  · rw [if_pos h1]; exact h1
  · rw [if_neg h1]
    rcases h.2.2.1 s hs with h2 | ⟨b, hb, h2⟩
    · exact absurd h2 h1
    · rw [enc, h2, nI_clamp (by omega)]
theorem sE_lt {N : Nat → Int32} (h : WF N) {s : Nat} (hs : s < 8) {b : Nat} (e : sE N s = some b) : b < 24 := by
  unfold sE at e
  by_cases h1 : N (9 + s) = mI
  · rw [if_pos h1] at e; cases e
  · rw [if_neg h1] at e
    rcases h.2.2.1 s hs with h2 | ⟨c, hc, h2⟩
    · exact absurd h2 h1
    · rw [h2, nI_clamp (by omega)] at e
      cases e
      exact hc
theorem chs_len (N : Nat → Int32) (w : Nat) : (chs N w).length = (wl N w).length := List.length_map _
theorem chs_ok {N : Nat → Int32} {w : Nat} (h : WF N) (hw : WFw N w) : lok (chs N w) := by
  intro q hq
  obtain ⟨s, hs, rfl⟩ := List.mem_map.mp hq
  have h8 := wl_lt hw s hs
  exact ⟨(h.2.1 s h8).2, fun b e => sE_lt h h8 e⟩
theorem chs_at {N : Nat → Int32} {w j : Nat} {q : Nat × Option Nat} (h : (chs N w)[j]? = some q) : ∃ s, (wl N w)[j]? = some s ∧ q = (fs N s, sE N s) := by
  unfold chs at h
  rw [List.getElem?_map] at h
  cases e : (wl N w)[j]? with
  | none => rw [e] at h; cases h
  | some s => rw [e] at h; exact ⟨s, rfl, (Option.some.inj h).symm⟩
theorem chs_row {N : Nat → Int32} {w : Nat} (h : WF N) (hw : WFw N w) (F S : Nat → Int32) : ∀ j f s, (chs N w)[j]? = some (f, s) → putL F 0 ((wl N w).map (fun s => N (1 + s))) j = nI f ∧ putL S 0 ((wl N w).map (fun s => N (9 + s))) j = enc s := by
  intro j f s hj
  obtain ⟨z, hz, e⟩ := chs_at hj
  have h8 := wl_lt hw z (List.mem_of_getElem? hz)
  cases e
  have h1 := putL_at ((wl N w).map (fun s => N (1 + s))) F 0 j (N (1 + z)) (by rw [List.getElem?_map, hz]; rfl)
  have h2 := putL_at ((wl N w).map (fun s => N (9 + s))) S 0 j (N (9 + z)) (by rw [List.getElem?_map, hz]; rfl)
  rw [Nat.zero_add] at h1 h2
  exact ⟨h1.trans (h.2.1 z h8).1, h2.trans (sE_enc h h8)⟩
theorem drop_at {α : Type} {L : List α} {j : Nat} {x : α} (h : L[j]? = some x) : L.drop j = x :: L.drop (j + 1) := by
  obtain ⟨h1, h2⟩ := List.getElem?_eq_some_iff.mp h
  rw [List.drop_eq_getElem_cons h1, h2]
theorem at_lt {α : Type} {L : List α} {j : Nat} (h : j < L.length) : ∃ x, L[j]? = some x := ⟨L[j], List.getElem?_eq_getElem h⟩
def r2 (s : Option Nat) (t : List (Nat × Option Nat)) : Int32 := match s with
  | none => nI 1000
  | some b => nI (rst b t)
def c2 (q : Nat) (s : Option Nat) (t : List (Nat × Option Nat)) : Int32 := match s with
  | none => nI 1000
  | some b => nI (jn q b + rst b t)
def HA (L : List (Nat × Option Nat)) (F S : Nat → Int32) : Prop := ∀ j f s, L[j]? = some (f, s) → F j = nI f ∧ S j = enc s
def HR (L : List (Nat × Option Nat)) (R1 R2 : Nat → Int32) (i : Nat) : Prop := ∀ j f s, i ≤ j → L[j]? = some (f, s) → R1 j = nI (rst f (L.drop (j + 1))) ∧ R2 j = r2 s (L.drop (j + 1))
theorem lok_at {L : List (Nat × Option Nat)} (h : lok L) {j f : Nat} {s : Option Nat} (hj : L[j]? = some (f, s)) : f < 24 ∧ ∀ b, s = some b → b < 24 := h _ (List.mem_of_getElem? hj)
theorem lok_drop {L : List (Nat × Option Nat)} (h : lok L) (j : Nat) : lok (L.drop j) := fun q hq => h q (List.mem_of_mem_drop hq)
theorem idx_lt {α : Type} {L : List α} {j : Nat} {x : α} (h : L[j]? = some x) : j < L.length := (List.getElem?_eq_some_iff.mp h).1
theorem p_cof {L : List (Nat × Option Nat)} {F S R1 R2 : Nat → Int32} {i j q f : Nat} {s : Option Nat} (hL : lok L) (h8 : L.length ≤ 8) (hA : HA L F S) (hR : HR L R1 R2 i) (hi : i ≤ j) (hj : L[j]? = some (f, s)) (hq : q < 24) : fn_X1_costOverFirst F R1 (nI q) (nI j) = some (nI (jn q f + rst f (L.drop (j + 1)))) := by
  have hl := idx_lt hj
  unfold fn_X1_costOverFirst
  rw [gin (by omega) (by omega), nI_clamp (by omega), (hA j f s hj).1, p_join24 q hq f (lok_at hL hj).1, obs, gin (by omega) (by omega), (hR j f s hi hj).1, nI_add]
theorem p_cos {L : List (Nat × Option Nat)} {F S R1 R2 : Nat → Int32} {i j q f : Nat} {s : Option Nat} (hL : lok L) (h8 : L.length ≤ 8) (hA : HA L F S) (hR : HR L R1 R2 i) (hi : i ≤ j) (hj : L[j]? = some (f, s)) (hq : q < 24) : fn_X1_costOverSecond S R2 (nI q) (nI j) = some (c2 q s (L.drop (j + 1))) := by
  have hl := idx_lt hj
  unfold fn_X1_costOverSecond
  rw [gin (by omega) (by omega), gin (by omega) (by omega), nI_clamp (by omega), (hA j f s hj).2, lm1]
  cases s with
  | none =>
    rw [if_pos (show enc none = mI from rfl)]
    rfl
  | some b =>
    have hb := (lok_at hL hj).2 b rfl
    have h2 := (hR j f (some b) hi hj).2
    rw [if_neg (show ¬ enc (some b) = mI from nI_nm (by omega)), show enc (some b) = nI b from rfl, p_join24 q hq b hb, obs, gin (by omega) (by omega), h2]
    show some (nI (jn q b) + nI (rst b (L.drop (j + 1)))) = _
    rw [nI_add]
    rfl
theorem p_least {L : List (Nat × Option Nat)} {F S R1 R2 : Nat → Int32} {i j q : Nat} (hL : lok L) (h8 : L.length ≤ 8) (hA : HA L F S) (hR : HR L R1 R2 i) (hi : i ≤ j) (hj : j ≤ L.length) (hq : q < 24) : fn_X1_leastRest (nI L.length) F S R1 R2 (nI q) (nI j) = some (nI (rst q (L.drop j))) := by
  unfold fn_X1_leastRest
  rcases Nat.lt_or_ge j L.length with hlt | hge
  · obtain ⟨⟨f, s⟩, hx⟩ := at_lt hlt
    have hb := rst_le (L.drop (j + 1)) f (lok_at hL hx).1 (lok_drop hL _)
    have hjn := jn_le q hq f (lok_at hL hx).1
    rw [List.length_drop] at hb
    rw [if_pos (nI_lt hlt (by omega)), p_cof hL h8 hA hR hi hx hq, obs, p_cos hL h8 hA hR hi hx hq, obs, drop_at hx]
    cases s with
    | none =>
      rw [rst, c2, if_neg (nI_nlt (by omega) (by omega))]
    | some b =>
      have hb2 := rst_le (L.drop (j + 1)) b ((lok_at hL hx).2 b rfl) (lok_drop hL _)
      have hjn2 := jn_le q hq b ((lok_at hL hx).2 b rfl)
      rw [List.length_drop] at hb2
      rw [rst, c2]
      by_cases hc : jn q b + rst b (L.drop (j + 1)) < jn q f + rst f (L.drop (j + 1))
      · rw [if_pos hc, if_pos (nI_lt hc (by omega))]
      · rw [if_neg hc, if_neg (nI_nlt (by omega) (by omega))]
  · have e : j = L.length := by omega
    subst e
    rw [if_neg (nI_nlt (Nat.le_refl _) (by omega)), List.drop_length, rst]
    rfl
theorem HR_upd {L : List (Nat × Option Nat)} {R1 R2 : Nat → Int32} {i : Nat} (h : HR L R1 R2 (i + 1)) (x : Int32) : HR L (upd R1 i x) R2 (i + 1) := fun j f s hj hx => by
  rw [upd_n R1 x (by omega)]
  exact h j f s hj hx
theorem HR_step {L : List (Nat × Option Nat)} {R1 R2 : Nat → Int32} {i f : Nat} {s : Option Nat} (h : HR L R1 R2 (i + 1)) (hi : L[i]? = some (f, s)) : HR L (upd R1 i (nI (rst f (L.drop (i + 1))))) (upd R2 i (r2 s (L.drop (i + 1)))) i := fun j g z hj hx => by
  by_cases e : j = i
  · subst e
    rw [hi] at hx
    cases hx
    rw [upd_s, upd_s]
    exact ⟨rfl, rfl⟩
  · rw [upd_n _ _ e, upd_n _ _ e]
    exact h j g z (by omega) hx
theorem pm1 (n : Nat) : nI (n + 1) + mI = nI n := pk_m1 n
theorem p_weigh_lp {L : List (Nat × Option Nat)} {F S : Nat → Int32} (hL : lok L) (h8 : L.length ≤ 8) (hA : HA L F S) : ∀ i n R1 R2, i < L.length → HR L R1 R2 (i + 1) → i + 1 < n → ∃ R1' R2', lp_X1_build_13 (nI L.length) F S n (nI i) R1 R2 = some (R1', R2') ∧ HR L R1' R2' 0 := by
  intro i
  induction i with
  | zero =>
    intro n R1 R2 hi hR hn
    obtain ⟨n, rfl⟩ : ∃ m, n = m + 1 + 1 := ⟨n - 2, by omega⟩
    obtain ⟨⟨f, s⟩, hx⟩ := at_lt hi
    have hf := (lok_at hL hx).1
    have hS := (hA 0 f s hx).2
    have hm : nI 0 + mI = mI := by decide
    rw [lp_X1_build_13, if_neg (nI_pos (by omega)), gin (by omega) (by omega), nI_clamp (by omega), (hA 0 f s hx).1, nI_1, p_least hL h8 hA hR (by omega) (by omega) hf, obs, gin (by omega) (by omega), gin (by omega) (by omega), gin (by omega) (by omega), gin (by omega) (by omega), hS, lm1]
    cases s with
    | none =>
      rw [if_pos (show enc none = mI from rfl), hm, lp_X1_build_13, if_pos (by decide)]
      exact ⟨_, _, rfl, HR_step hR hx⟩
    | some b =>
      have hb := (lok_at hL hx).2 b rfl
      rw [if_neg (show ¬ enc (some b) = mI from nI_nm (by omega)), show enc (some b) = nI b from rfl, p_least hL h8 hA (HR_upd hR _) (by omega) (by omega) hb, obs, hm, gin (by omega) (by omega), lp_X1_build_13, if_pos (by decide)]
      exact ⟨_, _, rfl, HR_step hR hx⟩
  | succ i ih =>
    intro n R1 R2 hi hR hn
    obtain ⟨n, rfl⟩ : ∃ m, n = m + 1 := ⟨n - 1, by omega⟩
    obtain ⟨⟨f, s⟩, hx⟩ := at_lt hi
    have hf := (lok_at hL hx).1
    have hS := (hA (i + 1) f s hx).2
    rw [lp_X1_build_13, if_neg (nI_pos (by omega)), gin (by omega) (by omega), nI_clamp (by omega), (hA (i + 1) f s hx).1, nI_1, p_least hL h8 hA hR (by omega) (by omega) hf, obs, gin (by omega) (by omega), gin (by omega) (by omega), gin (by omega) (by omega), gin (by omega) (by omega), hS, lm1]
    cases s with
    | none =>
      rw [if_pos (show enc none = mI from rfl), pm1]
      exact ih n _ _ (by omega) (HR_step hR hx) (by omega)
    | some b =>
      have hb := (lok_at hL hx).2 b rfl
      rw [if_neg (show ¬ enc (some b) = mI from nI_nm (by omega)), show enc (some b) = nI b from rfl, p_least hL h8 hA (HR_upd hR _) (by omega) (by omega) hb, obs, pm1, gin (by omega) (by omega)]
      exact ih n _ _ (by omega) (HR_step hR hx) (by omega)
theorem p_weigh {L : List (Nat × Option Nat)} {F S : Nat → Int32} (hL : lok L) (h1 : 1 ≤ L.length) (h8 : L.length ≤ 8) (hA : HA L F S) (R1 R2 : Nat → Int32) : ∃ R1' R2', lp_X1_build_13 (nI L.length) F S 1024 (nI L.length - (1 : Int32)) R1 R2 = some (R1', R2') ∧ HR L R1' R2' 0 := by
  have hR : HR L R1 R2 (L.length - 1 + 1) := fun j f s hj hx => by
    have := idx_lt hx
    omega
  obtain ⟨a, b, h2, h3⟩ := p_weigh_lp hL h8 hA (L.length - 1) 1024 R1 R2 (by omega) hR (by omega)
  refine ⟨a, b, ?_, h3⟩
  rw [l1, pk_sub h1, h2]
theorem p_choose_lp {L : List (Nat × Option Nat)} {F S R1 R2 : Nat → Int32} (hL : lok L) (h8 : L.length ≤ 8) (hA : HA L F S) (hR : HR L R1 R2 0) : ∀ k i n st q, i + k = L.length → 1 ≤ i → st (i - 1) = nI q → q < 24 → k < n → lp_X1_chooseStrokes_57 (nI L.length) S R2 F R1 n (nI i) st = some (putL st i ((pk q (L.drop i)).map nI)) := by
  intro k
  induction k with
  | zero =>
    intro i n st q hi h1 hq hq2 hn
    obtain ⟨n, rfl⟩ : ∃ m, n = m + 1 := ⟨n - 1, by omega⟩
    have e : i = L.length := by omega
    subst e
    rw [lp_X1_chooseStrokes_57, if_pos (nI_le (Nat.le_refl _) (by omega)), List.drop_length]
    rfl
  | succ k ih =>
    intro i n st q hi h1 hq hq2 hn
    obtain ⟨n, rfl⟩ : ∃ m, n = m + 1 := ⟨n - 1, by omega⟩
    obtain ⟨⟨f, s⟩, hx⟩ := at_lt (L := L) (j := i) (by omega)
    have hb := rst_le (L.drop (i + 1)) f (lok_at hL hx).1 (lok_drop hL _)
    have hjn := jn_le q hq2 f (lok_at hL hx).1
    rw [List.length_drop] at hb
    have hF := (hA i f s hx).1
    have hS := (hA i f s hx).2
    rw [lp_X1_chooseStrokes_57, if_neg (nI_ge (by omega) (by omega)), l1, pk_sub h1, gin (by omega) (by omega), nI_clamp (n := i - 1) (by omega), hq, p_cos hL h8 hA hR (by omega) hx hq2, obs, p_cof hL h8 hA hR (by omega) hx hq2, obs, gin (by omega) (by omega), gin (by omega) (by omega), gin (by omega) (by omega), gin (by omega) (by omega), nI_clamp (n := i) (by omega), hF, hS, ← l1, nI_1, drop_at hx]
    cases s with
    | none =>
      rw [c2, if_pos (nI_le (by omega) (by omega)), pk, ih (i + 1) n (upd st i (nI f)) f (by omega) (by omega) (by rw [show i + 1 - 1 = i by omega, upd_s]) (lok_at hL hx).1 (by omega)]
      rfl
    | some b =>
      have hb24 := (lok_at hL hx).2 b rfl
      have hb2 := rst_le (L.drop (i + 1)) b hb24 (lok_drop hL _)
      have hjn2 := jn_le q hq2 b hb24
      rw [List.length_drop] at hb2
      rw [c2, pk]
      by_cases hc : jn q b + rst b (L.drop (i + 1)) < jn q f + rst f (L.drop (i + 1))
      · rw [if_pos hc, if_neg (nI_ge hc (by omega)), ih (i + 1) n _ b (by omega) (by omega) (by rw [show i + 1 - 1 = i by omega, upd_s]; rfl) hb24 (by omega)]
        rfl
      · rw [if_neg hc, if_pos (nI_le (by omega) (by omega)), ih (i + 1) n _ f (by omega) (by omega) (by rw [show i + 1 - 1 = i by omega, upd_s]) (lok_at hL hx).1 (by omega)]
        rfl
theorem p_choose {L : List (Nat × Option Nat)} {F S R1 R2 : Nat → Int32} (hL : lok L) (h1 : 1 ≤ L.length) (h8 : L.length ≤ 8) (hA : HA L F S) (hR : HR L R1 R2 0) (c : Int32) (st : Nat → Int32) : fn_X1_chooseStrokes (nI L.length) c st F S R1 R2 = some (nI (rtop L), putL st 0 ((ptop L).map nI)) := by
  match L, hL, h1, h8, hA, hR with
  | [], hL, h1, h8, hA, hR => exact absurd h1 (by decide)
  | (f, s) :: t, hL, h1, h8, hA, hR =>
    have hx : ((f, s) :: t)[0]? = some (f, s) := rfl
    have hF := (hA 0 f s hx).1
    have hS := (hA 0 f s hx).2
    have hr := hR 0 f s (Nat.le_refl 0) hx
    have hf := (lok_at hL hx).1
    have hb := rst_le t f hf (lok_t hL)
    rw [List.length_cons] at h8
    unfold fn_X1_chooseStrokes
    rw [sb_cl0, hF, hS, hr.1, hr.2, show ((f, s) :: t).drop (0 + 1) = t from rfl]
    cases s with
    | none =>
      rw [r2, if_pos (nI_le (by omega) (by omega)), if_neg (nI_nlt (by omega) (by omega)), l1, p_choose_lp hL (by rw [List.length_cons]; omega) hA hR t.length 1 1024 _ f (by rw [List.length_cons]; omega) (by omega) (by rw [show 1 - 1 = 0 from rfl, upd_s]) hf (by omega), obs]
      rfl
    | some b =>
      have hb24 := (lok_at hL hx).2 b rfl
      have hb2 := rst_le t b hb24 (lok_t hL)
      rw [r2, rtop, ptop]
      by_cases hc : rst b t < rst f t
      · rw [if_pos hc, if_pos hc, if_neg (nI_ge hc (by omega)), if_pos (nI_lt hc (by omega)), l1, p_choose_lp hL (by rw [List.length_cons]; omega) hA hR t.length 1 1024 _ b (by rw [List.length_cons]; omega) (by omega) (by rw [show 1 - 1 = 0 from rfl, upd_s]; rfl) hb24 (by omega), obs]
        rfl
      · rw [if_neg hc, if_neg hc, if_pos (nI_le (by omega) (by omega)), if_neg (nI_nlt (by omega) (by omega)), l1, p_choose_lp hL (by rw [List.length_cons]; omega) hA hR t.length 1 1024 _ f (by rw [List.length_cons]; omega) (by omega) (by rw [show 1 - 1 = 0 from rfl, upd_s]) hf (by omega), obs]
        rfl
/-- the class builds the outline of word w -/
theorem p_build {N : Nat → Int32} {w : Nat} (hw : w < 12) (h : WF N) (hW : WFw N w) (v c : Int32) (st F S R1 R2 : Nat → Int32) : ∃ R1' R2', fn_X1_build v c st F S R1 R2 (N 0) (vF N) (vE N) (vS N) (vL N) (nI w) = some (nI (wl N w).length, nI (rtop (chs N w)), putL st 0 ((ptop (chs N w)).map nI), putL F 0 ((wl N w).map (fun s => N (1 + s))), putL S 0 ((wl N w).map (fun s => N (9 + s))), R1', R2') := by
  have hl := wl_len hW
  have hA : HA (chs N w) _ _ := chs_row h hW F S
  have hc := chs_ok h hW
  have e := chs_len N w
  obtain ⟨a, b, h2, h3⟩ := p_weigh hc (by omega) (by omega) hA R1 R2
  refine ⟨a, b, ?_⟩
  unfold fn_X1_build
  rw [p_coll hw hW, obs]
  show Option.bind (lp_X1_build_13 (nI (wl N w).length) _ _ 1024 (nI (wl N w).length - (1 : Int32)) R1 R2) _ = _
  rw [← e, h2, obs]
  show Option.bind (fn_X1_chooseStrokes (nI (chs N w).length) c st _ _ a b) _ = _
  rw [p_choose hc (by omega) (by omega) hA h3, obs]
