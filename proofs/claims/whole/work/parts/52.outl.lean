/-! outlines: the cheapest choice, by recursion on the written sounds -/
def enc : Option Nat → Int32
  | none => mI
  | some b => nI b
def cok (q : Nat × Option Nat) : Prop := q.1 < 24 ∧ ∀ b, q.2 = some b → b < 24
def lok (L : List (Nat × Option Nat)) : Prop := ∀ q ∈ L, cok q
def rst (q : Nat) : List (Nat × Option Nat) → Nat
  | [] => 0
  | (f, none) :: t => jn q f + rst f t
  | (f, some s) :: t => if jn q s + rst s t < jn q f + rst f t then jn q s + rst s t else jn q f + rst f t
def pk (q : Nat) : List (Nat × Option Nat) → List Nat
  | [] => []
  | (f, none) :: t => f :: pk f t
  | (f, some s) :: t => if jn q s + rst s t < jn q f + rst f t then s :: pk s t else f :: pk f t
def bq (q : Nat) : List (Nat × Option Nat) → Nat
  | [] => 0
  | (f, none) :: t => bq f t
  | (f, some s) :: t => if jn q s + rst s t < jn q f + rst f t then 2 ^ t.length + bq s t else bq f t
def rtop : List (Nat × Option Nat) → Nat
  | [] => 0
  | (f, none) :: t => rst f t
  | (f, some s) :: t => if rst s t < rst f t then rst s t else rst f t
def ptop : List (Nat × Option Nat) → List Nat
  | [] => []
  | (f, none) :: t => f :: pk f t
  | (f, some s) :: t => if rst s t < rst f t then s :: pk s t else f :: pk f t
def btop : List (Nat × Option Nat) → Nat
  | [] => 0
  | (f, none) :: t => bq f t
  | (f, some s) :: t => if rst s t < rst f t then 2 ^ t.length + bq s t else bq f t
/-- the strokes of the choice c -/
def xs (c : Nat) : List (Nat × Option Nat) → List (Option Nat)
  | [] => []
  | (f, s) :: t => (if c / 2 ^ t.length % 2 = 1 then s else some f) :: xs c t
def ys (c : Nat) : List (Nat × Option Nat) → List Nat
  | [] => []
  | (f, s) :: t => (if c / 2 ^ t.length % 2 = 1 then s.getD 0 else f) :: ys c t
def vld (c : Nat) (L : List (Nat × Option Nat)) : Prop := ∀ x ∈ xs c L, x ≠ none
def cst : List Nat → Nat
  | [] => 0
  | [_] => 0
  | a :: b :: t => jn a b + cst (b :: t)
theorem cst_cons (a b : Nat) (t : List Nat) : cst (a :: b :: t) = jn a b + cst (b :: t) := rfl
theorem lok_t {q : Nat × Option Nat} {L : List (Nat × Option Nat)} (h : lok (q :: L)) : lok L := fun x hx => h x (List.mem_cons_of_mem _ hx)
theorem lok_h {q : Nat × Option Nat} {L : List (Nat × Option Nat)} (h : lok (q :: L)) : cok q := h q List.mem_cons_self
theorem rst_le : ∀ (L : List (Nat × Option Nat)) (q : Nat), q < 24 → lok L → rst q L ≤ 4 * L.length
  | [], q, _, _ => Nat.zero_le _
  | (f, none) :: t, q, hq, h => by
    have h1 := rst_le t f (lok_h h).1 (lok_t h)
    have h2 := jn_le q hq f (lok_h h).1
    rw [rst, List.length_cons]
    omega
  | (f, some s) :: t, q, hq, h => by
    have h1 := rst_le t f (lok_h h).1 (lok_t h)
    have h2 := jn_le q hq f (lok_h h).1
    rw [rst, List.length_cons]
    split <;> omega
theorem xs_len (c : Nat) : ∀ L, (xs c L).length = L.length
  | [] => rfl
  | (f, s) :: t => by rw [xs, List.length_cons, List.length_cons, xs_len c t]
theorem ys_len (c : Nat) : ∀ L, (ys c L).length = L.length
  | [] => rfl
  | (f, s) :: t => by rw [ys, List.length_cons, List.length_cons, ys_len c t]
theorem pk_len : ∀ (L : List (Nat × Option Nat)) (q : Nat), (pk q L).length = L.length
  | [], q => rfl
  | (f, none) :: t, q => by rw [pk, List.length_cons, List.length_cons, pk_len t f]
  | (f, some s) :: t, q => by
    rw [pk]
    split
    · rw [List.length_cons, List.length_cons, pk_len t s]
    · rw [List.length_cons, List.length_cons, pk_len t f]
theorem bq_lt : ∀ (L : List (Nat × Option Nat)) (q : Nat), bq q L < 2 ^ L.length
  | [], q => by rw [bq]; exact Nat.one_pos
  | (f, none) :: t, q => by
    have h1 := bq_lt t f
    rw [bq, List.length_cons, Nat.pow_succ]
    omega
  | (f, some s) :: t, q => by
    have h1 := bq_lt t f
    have h2 := bq_lt t s
    rw [bq, List.length_cons, Nat.pow_succ]
    split <;> omega
/-- higher bits don't matter to the rest -/
theorem bit_add (c m j : Nat) (h : j < m) : (2 ^ m + c) / 2 ^ j % 2 = c / 2 ^ j % 2 := by
  obtain ⟨d, rfl⟩ : ∃ d, m = j + 1 + d := ⟨m - (j + 1), by omega⟩
  have hp : 0 < 2 ^ j := Nat.two_pow_pos j
  rw [show 2 ^ (j + 1 + d) = 2 ^ j * (2 * 2 ^ d) by rw [Nat.pow_add, Nat.pow_succ, Nat.mul_assoc], Nat.mul_add_div hp]
  omega
theorem xs_add (m : Nat) (c : Nat) : ∀ L : List (Nat × Option Nat), L.length ≤ m → xs (2 ^ m + c) L = xs c L
  | [], _ => rfl
  | (f, s) :: t, h => by
    rw [List.length_cons] at h
    rw [xs, xs, bit_add c m t.length (by omega), xs_add m c t (by omega)]
theorem ys_add (m : Nat) (c : Nat) : ∀ L : List (Nat × Option Nat), L.length ≤ m → ys (2 ^ m + c) L = ys c L
  | [], _ => rfl
  | (f, s) :: t, h => by
    rw [List.length_cons] at h
    rw [ys, ys, bit_add c m t.length (by omega), ys_add m c t (by omega)]
theorem bit_hi (c m : Nat) (h : c < 2 ^ m) : (2 ^ m + c) / 2 ^ m % 2 = 1 := by
  have hp : 0 < 2 ^ m := Nat.two_pow_pos m
  rw [show 2 ^ m + c = c + 2 ^ m * 1 by omega, Nat.add_mul_div_left _ _ hp, Nat.div_eq_of_lt h]
theorem bit_lo (c m : Nat) (h : c < 2 ^ m) : ¬ c / 2 ^ m % 2 = 1 := by
  rw [Nat.div_eq_of_lt h]
  decide
theorem pk_ys : ∀ (L : List (Nat × Option Nat)) (q : Nat), ys (bq q L) L = pk q L ∧ vld (bq q L) L
  | [], q => ⟨rfl, fun x hx => by cases hx⟩
  | (f, none) :: t, q => by
    obtain ⟨h1, h2⟩ := pk_ys t f
    refine ⟨?_, ?_⟩
    · rw [bq, pk, ys, if_neg (bit_lo _ _ (bq_lt t f)), h1]
    · intro x hx
      rw [bq, xs, if_neg (bit_lo _ _ (bq_lt t f))] at hx
      rcases List.mem_cons.mp hx with e | e
      · rw [e]; exact fun z => by cases z
      · exact h2 x e
  | (f, some s) :: t, q => by
    obtain ⟨h1, h2⟩ := pk_ys t f
    obtain ⟨h3, h4⟩ := pk_ys t s
    by_cases hc : jn q s + rst s t < jn q f + rst f t
    · refine ⟨?_, ?_⟩
      · rw [bq, if_pos hc, pk, if_pos hc, ys, if_pos (bit_hi _ _ (bq_lt t s)), ys_add _ _ _ (Nat.le_refl _), h3]
        rfl
      · intro x hx
        rw [bq, if_pos hc, xs, if_pos (bit_hi _ _ (bq_lt t s)), xs_add _ _ _ (Nat.le_refl _)] at hx
        rcases List.mem_cons.mp hx with e | e
        · rw [e]; exact fun z => by cases z
        · exact h4 x e
    · refine ⟨?_, ?_⟩
      · rw [bq, if_neg hc, pk, if_neg hc, ys, if_neg (bit_lo _ _ (bq_lt t f)), h1]
      · intro x hx
        rw [bq, if_neg hc, xs, if_neg (bit_lo _ _ (bq_lt t f))] at hx
        rcases List.mem_cons.mp hx with e | e
        · rw [e]; exact fun z => by cases z
        · exact h2 x e
theorem cst_pk : ∀ (L : List (Nat × Option Nat)) (q : Nat), cst (q :: pk q L) = rst q L
  | [], q => rfl
  | (f, none) :: t, q => by rw [pk, rst, cst_cons, cst_pk t f]
  | (f, some s) :: t, q => by
    rw [pk, rst]
    split
    · rw [cst_cons, cst_pk t s]
    · rw [cst_cons, cst_pk t f]
/-- a choice of a longer list: its first bit, and the rest -/
theorem cho_split {c m : Nat} (h : c < 2 ^ (m + 1)) : (c < 2 ^ m) ∨ ∃ d, c = 2 ^ m + d ∧ d < 2 ^ m := by
  rw [Nat.pow_succ] at h
  rcases Nat.lt_or_ge c (2 ^ m) with h1 | h1
  · exact Or.inl h1
  · exact Or.inr ⟨c - 2 ^ m, by omega, by omega⟩
theorem vld_t {c : Nat} {q : Nat × Option Nat} {t : List (Nat × Option Nat)} (h : vld c (q :: t)) : vld c t := fun x hx => h x (by obtain ⟨f, s⟩ := q; rw [xs]; exact List.mem_cons_of_mem _ hx)
theorem bq_best : ∀ (L : List (Nat × Option Nat)) (q c : Nat), c < 2 ^ L.length → vld c L → rst q L < cst (q :: ys c L) ∨ (rst q L = cst (q :: ys c L) ∧ bq q L ≤ c)
  | [], q, c, hc, hv => Or.inr ⟨rfl, Nat.zero_le _⟩
  | (f, none) :: t, q, c, hc, hv => by
    rw [List.length_cons] at hc
    rcases cho_split hc with h | ⟨d, rfl, hd⟩
    · rw [ys, if_neg (bit_lo _ _ h), rst, cst_cons, bq]
      rcases bq_best t f c h (vld_t hv) with h1 | ⟨h1, h2⟩
      · exact Or.inl (by omega)
      · exact Or.inr ⟨by omega, h2⟩
    · exfalso
      refine hv none ?_ rfl
      rw [xs, if_pos (bit_hi _ _ hd)]
      exact List.mem_cons_self
  | (f, some s) :: t, q, c, hc, hv => by
    rw [List.length_cons] at hc
    rcases cho_split hc with h | ⟨d, rfl, hd⟩
    · have h3 := bq_best t f c h (vld_t hv)
      rw [ys, if_neg (bit_lo _ _ h), rst, cst_cons, bq]
      by_cases hb : jn q s + rst s t < jn q f + rst f t
      · rw [if_pos hb, if_pos hb]
        exact Or.inl (by rcases h3 with h1 | ⟨h1, h2⟩ <;> omega)
      · rw [if_neg hb, if_neg hb]
        rcases h3 with h1 | ⟨h1, h2⟩
        · exact Or.inl (by omega)
        · exact Or.inr ⟨by omega, h2⟩
    · have hv2 := vld_t hv
      unfold vld at hv2
      rw [xs_add _ _ _ (Nat.le_refl _)] at hv2
      have h3 := bq_best t s d hd hv2
      have hl := bq_lt t f
      rw [ys, if_pos (bit_hi _ _ hd), ys_add _ _ _ (Nat.le_refl _), rst, show (some s : Option Nat).getD 0 = s from rfl, cst_cons, bq]
      by_cases hb : jn q s + rst s t < jn q f + rst f t
      · rw [if_pos hb, if_pos hb]
        rcases h3 with h1 | ⟨h1, h2⟩
        · exact Or.inl (by omega)
        · exact Or.inr ⟨by omega, by omega⟩
      · rw [if_neg hb, if_neg hb]
        rcases h3 with h1 | ⟨h1, h2⟩
        · exact Or.inl (by omega)
        · rcases Nat.lt_or_ge (jn q f + rst f t) (jn q s + rst s t) with h4 | h4
          · exact Or.inl (by omega)
          · exact Or.inr ⟨by omega, by omega⟩
/-- the same at the first stroke, which has no join before it -/
theorem btop_lt (L : List (Nat × Option Nat)) : btop L < 2 ^ L.length := by
  match L with
  | [] => exact Nat.one_pos
  | (f, none) :: t =>
    have h1 := bq_lt t f
    rw [btop, List.length_cons, Nat.pow_succ]
    omega
  | (f, some s) :: t =>
    have h1 := bq_lt t f
    have h2 := bq_lt t s
    rw [btop, List.length_cons, Nat.pow_succ]
    split <;> omega
theorem ptop_ys (L : List (Nat × Option Nat)) : ys (btop L) L = ptop L ∧ vld (btop L) L := by
  match L with
  | [] => exact ⟨rfl, fun x hx => by cases hx⟩
  | (f, none) :: t =>
    obtain ⟨h1, h2⟩ := pk_ys t f
    refine ⟨?_, ?_⟩
    · rw [btop, ptop, ys, if_neg (bit_lo _ _ (bq_lt t f)), h1]
    · intro x hx
      rw [btop, xs, if_neg (bit_lo _ _ (bq_lt t f))] at hx
      rcases List.mem_cons.mp hx with e | e
      · rw [e]; exact fun z => by cases z
      · exact h2 x e
  | (f, some s) :: t =>
    obtain ⟨h1, h2⟩ := pk_ys t f
    obtain ⟨h3, h4⟩ := pk_ys t s
    by_cases hc : rst s t < rst f t
    · refine ⟨?_, ?_⟩
      · rw [btop, if_pos hc, ptop, if_pos hc, ys, if_pos (bit_hi _ _ (bq_lt t s)), ys_add _ _ _ (Nat.le_refl _), h3]
        rfl
      · intro x hx
        rw [btop, if_pos hc, xs, if_pos (bit_hi _ _ (bq_lt t s)), xs_add _ _ _ (Nat.le_refl _)] at hx
        rcases List.mem_cons.mp hx with e | e
        · rw [e]; exact fun z => by cases z
        · exact h4 x e
    · refine ⟨?_, ?_⟩
      · rw [btop, if_neg hc, ptop, if_neg hc, ys, if_neg (bit_lo _ _ (bq_lt t f)), h1]
      · intro x hx
        rw [btop, if_neg hc, xs, if_neg (bit_lo _ _ (bq_lt t f))] at hx
        rcases List.mem_cons.mp hx with e | e
        · rw [e]; exact fun z => by cases z
        · exact h2 x e
theorem cst_ptop (L : List (Nat × Option Nat)) : cst (ptop L) = rtop L := by
  match L with
  | [] => rfl
  | (f, none) :: t => rw [ptop, rtop, cst_pk]
  | (f, some s) :: t =>
    rw [ptop, rtop]
    split
    · rw [cst_pk]
    · rw [cst_pk]
theorem btop_best (L : List (Nat × Option Nat)) (c : Nat) (hc : c < 2 ^ L.length) (hv : vld c L) : rtop L < cst (ys c L) ∨ (rtop L = cst (ys c L) ∧ btop L ≤ c) := by
  match L, hc, hv with
  | [], hc, hv => exact Or.inr ⟨rfl, Nat.zero_le _⟩
  | (f, none) :: t, hc, hv =>
    rw [List.length_cons] at hc
    rcases cho_split hc with h | ⟨d, rfl, hd⟩
    · rw [ys, if_neg (bit_lo _ _ h), rtop, btop]
      exact bq_best t f c h (vld_t hv)
    · exfalso
      refine hv none ?_ rfl
      rw [xs, if_pos (bit_hi _ _ hd)]
      exact List.mem_cons_self
  | (f, some s) :: t, hc, hv =>
    rw [List.length_cons] at hc
    rcases cho_split hc with h | ⟨d, rfl, hd⟩
    · have h3 := bq_best t f c h (vld_t hv)
      rw [ys, if_neg (bit_lo _ _ h), rtop, btop]
      by_cases hb : rst s t < rst f t
      · rw [if_pos hb, if_pos hb]
        exact Or.inl (by rcases h3 with h1 | ⟨h1, h2⟩ <;> omega)
      · rw [if_neg hb, if_neg hb]
        exact h3
    · have hv2 := vld_t hv
      unfold vld at hv2
      rw [xs_add _ _ _ (Nat.le_refl _)] at hv2
      have h3 := bq_best t s d hd hv2
      have hl := bq_lt t f
      rw [ys, if_pos (bit_hi _ _ hd), ys_add _ _ _ (Nat.le_refl _), rtop, show (some s : Option Nat).getD 0 = s from rfl, btop]
      by_cases hb : rst s t < rst f t
      · rw [if_pos hb, if_pos hb]
        rcases h3 with h1 | ⟨h1, h2⟩
        · exact Or.inl h1
        · exact Or.inr ⟨h1, by omega⟩
      · rw [if_neg hb, if_neg hb]
        rcases h3 with h1 | ⟨h1, h2⟩
        · exact Or.inl (by omega)
        · rcases Nat.lt_or_ge (rst f t) (rst s t) with h4 | h4
          · exact Or.inl (by omega)
          · exact Or.inr ⟨by omega, by omega⟩
