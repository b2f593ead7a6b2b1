/-! the order of the readings, and both loops -/
theorem sub_0 {a b : Nat} (ha : a < 2 ^ 30) (hb : b < 2 ^ 30) : nI a - nI b = 0 ↔ a = b := by
  constructor
  · intro e
    have h1 := pk_sub_toInt ha hb
    rw [e] at h1
    have h2 : (0 : Int32).toInt = 0 := by decide
    omega
  · intro e
    subst e
    rw [pk_sub (Nat.le_refl a), Nat.sub_self]
    rfl
theorem sub_ge {a b : Nat} (ha : a < 2 ^ 30) (hb : b < 2 ^ 30) : 0 ≤ nI a - nI b ↔ b ≤ a := by
  rw [Int32.le_iff_toInt_le, pk_sub_toInt ha hb, show (0 : Int32).toInt = 0 by decide]
  omega
theorem sub_le {a b : Nat} (ha : a < 2 ^ 30) (hb : b < 2 ^ 30) : nI a - nI b ≤ 0 ↔ a ≤ b := by
  rw [Int32.le_iff_toInt_le, pk_sub_toInt ha hb, show (0 : Int32).toInt = 0 by decide]
  omega
def dd (N P : Nat → Int32) (pl w : Nat) : Nat := (dbt N P pl w).getD 0
/-- word a comes ahead of word b -/
def ahb (N P : Nat → Int32) (pl a b : Nat) : Bool := decide (dd N P pl a < dd N P pl b ∨ (dd N P pl a = dd N P pl b ∧ (fq N b < fq N a ∨ (fq N a = fq N b ∧ a < b))))
def isR (N P : Nat → Int32) (pl r : Nat) : Prop := r < cn N ∧ dbt N P pl r = some (dd N P pl r)
theorem dd_le {N P : Nat → Int32} {pl r : Nat} (h : isR N P pl r) : dd N P pl r ≤ 3 := dbt_le h.2
theorem m_ahead {N P m : Nat → Int32} {pl a b : Nat} (h : WF N) (hP : PadOK P pl) (ha : isR N P pl a) (hb : isR N P pl b) (v : Int32) : ∃ v' m', fn_X7_isAhead (nI pl) v N P m (nI a) (nI b) = some (if ahb N P pl a b = true then 1 else 0, v', m') := by
  have h12 := h.1.2
  have hWa := h.2.2.2 a ha.1
  have hWb := h.2.2.2 b hb.1
  have la := dd_le ha
  have lb := dd_le hb
  have qa := hWa.2.1
  have qb := hWb.2.1
  have h1 := ha.1
  have h2 := hb.1
  refine ⟨nI (wl N b).length, putL (putL m 0 ((wl N a).map nI)) 0 ((wl N b).map nI), ?_⟩
  unfold fn_X7_isAhead ahb
  rw [m_dbt (by omega) h hWa hP, obs]
  show Option.bind (fn_X7_doubtOf (nI pl) (nI (wl N a).length) N P (putL m 0 ((wl N a).map nI)) (nI b)) _ = _
  rw [m_dbt (by omega) h hWb hP, obs, l30, nI_add, nI_add, gin (by omega) (by omega), gin (by omega) (by omega), nI_clamp (n := 30 + a) (by omega), nI_clamp (n := 30 + b) (by omega), qa.1, qb.1, ha.2, hb.2]
  show (if nI (dd N P pl a) - nI (dd N P pl b) = 0 then _ else if 0 ≤ nI (dd N P pl a) - nI (dd N P pl b) then _ else _) = _
  rcases Nat.lt_trichotomy (dd N P pl a) (dd N P pl b) with hd | hd | hd
  · rw [if_neg (by rw [sub_0 (by omega) (by omega)]; omega), if_neg (by rw [sub_ge (by omega) (by omega)]; omega), if_pos (decide_eq_true (by omega))]
  · rw [if_pos (by rw [sub_0 (by omega) (by omega)]; exact hd)]
    rcases Nat.lt_trichotomy (fq N a) (fq N b) with hf | hf | hf
    · rw [if_neg (by rw [sub_0 (by omega) (by omega)]; omega), if_pos (by rw [sub_le (by omega) (by omega)]; omega), if_neg (by rw [decide_eq_true_iff]; omega)]
    · rw [if_pos (by rw [sub_0 (by omega) (by omega)]; exact hf)]
      rcases Nat.lt_or_ge a b with hab | hab
      · rw [if_neg (nI_ge hab (by omega)), if_pos (decide_eq_true (by omega))]
      · rw [if_pos (nI_le hab (by omega)), if_neg (by rw [decide_eq_true_iff]; omega)]
    · rw [if_neg (by rw [sub_0 (by omega) (by omega)]; omega), if_neg (by rw [sub_le (by omega) (by omega)]; omega), if_pos (decide_eq_true (by omega))]
  · rw [if_neg (by rw [sub_0 (by omega) (by omega)]; omega), if_pos (by rw [sub_ge (by omega) (by omega)]; omega), if_neg (by rw [decide_eq_true_iff]; omega)]
/-- one row holds the list -/
def R1 (l : List Nat) (rd : Nat → Int32) : Prop := ∀ j r, l[j]? = some r → rd j = nI r
def I1 (l : List Nat) (k : Nat) (rd : Nat → Int32) : Prop := (∀ j r, j < k → l[j]? = some r → rd j = nI r) ∧ (∀ j r, k ≤ j → l[j]? = some r → rd (j + 1) = nI r)
theorem m_rins_lp {N P : Nat → Int32} {pl i : Nat} {l : List Nat} (h : WF N) (hP : PadOK P pl) (hi : isR N P pl i) (hl : ∀ r ∈ l, isR N P pl r) (h11 : l.length ≤ 11) : ∀ k n v m rd, k ≤ l.length → I1 l k rd → (l.drop k).all (ahb N P pl i) = true → k < n → ∃ k' v' m' rd', lp_X7_reads_32 (nI pl) N P (nI i) n (nI k) v m rd = some (nI k', v', m', rd') ∧ k' ≤ l.length ∧ I1 l k' rd' ∧ (l.drop k').all (ahb N P pl i) = true ∧ (k' = 0 ∨ ∃ y, l[k' - 1]? = some y ∧ ahb N P pl i y = false) := by
  intro k
  induction k with
  | zero =>
    intro n v m rd hk hI ha hn
    obtain ⟨n, rfl⟩ : ∃ m, n = m + 1 := ⟨n - 1, by omega⟩
    refine ⟨0, v, m, rd, ?_, hk, hI, ha, Or.inl rfl⟩
    rw [lp_X7_reads_32, if_pos (by decide)]
  | succ k ih =>
    intro n v m rd hk hI ha hn
    obtain ⟨n, rfl⟩ : ∃ m, n = m + 1 := ⟨n - 1, by omega⟩
    obtain ⟨y, hy⟩ := at_lt (L := l) (j := k) (by omega)
    obtain ⟨v', m', hah⟩ := m_ahead (m := m) h hP hi (hl y (List.mem_of_getElem? hy)) v
    rw [lp_X7_reads_32, if_neg (nI_nle (by omega) (by omega)), l1, pk_sub (by omega), show k + 1 - 1 = k by omega, gin (by omega) (by omega), nI_clamp (n := k) (by omega), hI.1 k y (by omega) hy, hah, obs]
    by_cases hc : ahb N P pl i y = true
    · rw [if_pos hc, if_neg (show ¬ ((1 : Int32), v', m').1 = 0 from (by decide : ¬ (1 : Int32) = 0)), gin (by omega) (by omega), gin (by omega) (by omega), nI_clamp (by omega), show nI (k + 1) + (-nI 1) = nI k from pk_m1 k]
      refine ih n _ _ _ (by omega) ⟨fun j t hj ht => ?_, fun j t hj ht => ?_⟩ (all_drop hy ha hc) (by omega)
      · rw [upd_n _ _ (by omega)]
        exact hI.1 j t (by omega) ht
      · by_cases ej : j = k
        · subst ej
          rw [hy] at ht
          cases ht
          rw [upd_s]
        · rw [upd_n _ _ (by omega)]
          exact hI.2 j t (by omega) ht
    · rw [if_neg hc, if_pos rfl]
      exact ⟨k + 1, v', m', rd, rfl, hk, hI, ha, Or.inr ⟨y, by rw [show k + 1 - 1 = k by omega]; exact hy, by simpa using hc⟩⟩
theorem R1_put {l : List Nat} {k : Nat} {rd : Nat → Int32} (hk : k ≤ l.length) (hI : I1 l k rd) (a : Nat) : R1 (l.take k ++ a :: l.drop k) (upd rd k (nI a)) := by
  intro j t hj
  have hlen : (l.take k).length = k := by rw [List.length_take]; omega
  rcases Nat.lt_trichotomy j k with h | h | h
  · rw [List.getElem?_append_left (by omega), List.getElem?_take, if_pos h] at hj
    rw [upd_n _ _ (by omega)]
    exact hI.1 j t h hj
  · subst h
    rw [List.getElem?_append_right (by omega), hlen, Nat.sub_self, List.getElem?_cons_zero] at hj
    cases hj
    rw [upd_s]
  · obtain ⟨i, rfl⟩ : ∃ i, j = k + i + 1 := ⟨j - k - 1, by omega⟩
    rw [List.getElem?_append_right (by omega), hlen, show k + i + 1 - k = i + 1 by omega, List.getElem?_cons_succ, List.getElem?_drop] at hj
    rw [upd_n _ _ (by omega)]
    exact hI.2 (k + i) t (by omega) hj
def rdl (N P : Nat → Int32) (pl : Nat) : Nat → Nat → List Nat → List Nat
  | 0, _, acc => acc
  | r + 1, i, acc => rdl N P pl r (i + 1) (if dbt N P pl i = none then acc else insE (ahb N P pl i) i acc)
/-- the readings -/
def rds (N P : Nat → Int32) (pl : Nat) : List Nat := rdl N P pl (cn N) 0 []
theorem isR_of {N P : Nat → Int32} {pl i : Nat} (hi : i < cn N) (hd : ¬ dbt N P pl i = none) : isR N P pl i := by
  refine ⟨hi, ?_⟩
  unfold dd
  cases e : dbt N P pl i with
  | none => exact absurd e hd
  | some z => rfl
theorem rdl_ok {N P : Nat → Int32} {pl : Nat} : ∀ r i acc, i + r ≤ cn N → (∀ z ∈ acc, isR N P pl z ∧ z < i) → acc.length ≤ i → (∀ z ∈ rdl N P pl r i acc, isR N P pl z) ∧ (rdl N P pl r i acc).length ≤ i + r
  | 0, i, acc, _, h, hl => ⟨fun z hz => (h z hz).1, by rw [rdl]; omega⟩
  | r + 1, i, acc, hi, h, hl => by
    rw [rdl]
    by_cases hd : dbt N P pl i = none
    · rw [if_pos hd]
      have := rdl_ok (N := N) (P := P) (pl := pl) r (i + 1) acc (by omega) (fun z hz => ⟨(h z hz).1, by have := (h z hz).2; omega⟩) (by omega)
      exact ⟨this.1, by omega⟩
    · rw [if_neg hd]
      have := rdl_ok (N := N) (P := P) (pl := pl) r (i + 1) (insE (ahb N P pl i) i acc) (by omega) (fun z hz => by
        rcases (insE_mem _ _ _ _).mp hz with e | e
        · subst e
          exact ⟨isR_of (by omega) hd, by omega⟩
        · exact ⟨(h z e).1, by have := (h z e).2; omega⟩) (by rw [insE_len]; omega)
      exact ⟨this.1, by omega⟩
theorem rds_ok (N P : Nat → Int32) (pl : Nat) : (∀ z ∈ rds N P pl, isR N P pl z) ∧ (rds N P pl).length ≤ cn N := by
  have := rdl_ok (N := N) (P := P) (pl := pl) (cn N) 0 [] (by omega) (fun z hz => by cases hz) (Nat.le_refl _)
  exact ⟨this.1, by have := this.2; unfold rds; omega⟩
theorem m_reads_lp {N P : Nat → Int32} {pl : Nat} (h : WF N) (hP : PadOK P pl) : ∀ r i n acc v m rd, i + r = cn N → (∀ z ∈ acc, isR N P pl z ∧ z < i) → acc.length ≤ i → R1 acc rd → r < n → ∃ v' m' rd', lp_X7_reads_7 N (nI pl) P n (nI i) v (nI acc.length) m rd = some (v', nI (rdl N P pl r i acc).length, m', rd') ∧ R1 (rdl N P pl r i acc) rd' := by
  have h12 := h.1.2
  intro r
  induction r with
  | zero =>
    intro i n acc v m rd hi ha hal hr hn
    obtain ⟨n, rfl⟩ : ∃ m, n = m + 1 := ⟨n - 1, by omega⟩
    refine ⟨v, m, rd, ?_, hr⟩
    rw [lp_X7_reads_7, show (17 : Int32).toNatClampNeg = 17 from rfl, h.1.1, if_pos (nI_le (by omega) (by omega))]
    rfl
  | succ r ih =>
    intro i n acc v m rd hi ha hal hr hn
    obtain ⟨n, rfl⟩ : ∃ m, n = m + 1 := ⟨n - 1, by omega⟩
    have hW := h.2.2.2 i (by omega)
    rw [lp_X7_reads_7, show (17 : Int32).toNatClampNeg = 17 from rfl, h.1.1, if_neg (nI_ge (by omega) (by omega)), m_dbt (by omega) h hW hP, obs, nI_1, lm1, rdl]
    show ∃ v' m' rd', (if enc (dbt N P pl i) = mI then _ else _) = _ ∧ _
    by_cases hd : dbt N P pl i = none
    · rw [if_pos (by rw [hd]; rfl), if_pos hd]
      exact ih (i + 1) n acc _ _ _ (by omega) (fun z hz => ⟨(ha z hz).1, by have := (ha z hz).2; omega⟩) (by omega) hr (by omega)
    · have hR := isR_of (N := N) (P := P) (pl := pl) (i := i) (by omega) hd
      have hI : I1 acc acc.length rd := ⟨fun j t _ ht => hr j t ht, fun j t hj ht => by
        have := idx_lt ht
        omega⟩
      obtain ⟨k, v2, m2, rd2, e1, e2, e3, e4, e5⟩ := m_rins_lp (l := acc) h hP hR (fun z hz => (ha z hz).1) (by omega) acc.length 1024 (nI (wl N i).length) (putL m 0 ((wl N i).map nI)) rd (Nat.le_refl _) hI (by rw [List.drop_length]; rfl) (by omega)
      have hl3 := dd_le hR
      rw [if_neg (by rw [hR.2]; exact nI_nm (by omega)), if_neg hd]
      show ∃ v' m' rd', Option.bind (lp_X7_reads_32 (nI pl) N P (nI i) 1024 (nI acc.length) (nI (wl N i).length) (putL m 0 ((wl N i).map nI)) rd) _ = _ ∧ _
      rw [e1, obs]
      show ∃ v' m' rd', gd (inb (nI k) 12) (lp_X7_reads_7 N (nI pl) P n (nI (i + 1)) v2 (nI acc.length + 1) m2 (upd rd2 (nI k).toNatClampNeg (nI i))) = _ ∧ _
      have hR1 : R1 (insE (ahb N P pl i) i acc) (upd rd2 k (nI i)) := by
        rw [insE_at _ _ acc k e2 e4 e5]
        exact R1_put e2 e3 i
      rw [gin (by omega) (by omega), nI_clamp (n := k) (by omega), nI_1, ← insE_len (ahb N P pl i) i acc]
      exact ih (i + 1) n _ _ _ _ (by omega) (fun z hz => by
        rcases (insE_mem _ _ _ _).mp hz with e | e
        · subst e
          exact ⟨hR, by omega⟩
        · exact ⟨(ha z e).1, by have := (ha z e).2; omega⟩) (by rw [insE_len]; omega) hR1 (by omega)
theorem m_reads {N P : Nat → Int32} {pl : Nat} (h : WF N) (hP : PadOK P pl) (v q : Int32) (m rd : Nat → Int32) : ∃ v' m' rd', fn_X7_reads (nI pl) v q N P m rd = some (v', nI (rds N P pl).length, m', rd') ∧ R1 (rds N P pl) rd' := by
  have h12 := h.1.2
  obtain ⟨v', m', rd', h1, h2⟩ := m_reads_lp h hP (cn N) 0 1024 [] v m rd (by omega) (fun z hz => by cases hz) (Nat.le_refl _) (fun j t ht => by simp at ht) (by omega)
  refine ⟨v', m', rd', ?_, h2⟩
  unfold fn_X7_reads
  rw [show lp_X7_reads_7 N (nI pl) P 1024 0 v 0 m rd = _ from h1, obs]
  rfl
def wgt (N P : Nat → Int32) (pl r : Nat) : Nat := (3 - dd N P pl r) * 1000 + fq N r
def trp (N P : Nat → Int32) (pl r : Nat) : Int32 × Int32 × Int32 := (nI r, nI (dd N P pl r), nI (wgt N P pl r))
theorem ahb_wgt {N P : Nat → Int32} {pl i r : Nat} (h : WF N) (hi : isR N P pl i) (hr : isR N P pl r) (hlt : r < i) : ahb N P pl i r = decide ((trp N P pl r).2.2 < nI (wgt N P pl i)) := by
  have l1 := dd_le hi
  have l2 := dd_le hr
  have q1 := (h.2.2.2 i hi.1).2.1
  have q2 := (h.2.2.2 r hr.1).2.1
  have hw1 : wgt N P pl i = (3 - dd N P pl i) * 1000 + fq N i := rfl
  have hw2 : wgt N P pl r = (3 - dd N P pl r) * 1000 + fq N r := rfl
  unfold ahb trp
  rw [decide_eq_decide, nI_ltI (by omega) (by omega)]
  omega
theorem p_read_lp {N P : Nat → Int32} {pl : Nat} (h : WF N) (hP : PadOK P pl) : ∀ r i n acc wd vl wt, i + r = cn N → (∀ z ∈ acc, isR N P pl z ∧ z < i) → acc.length ≤ i → RK (acc.map (trp N P pl)) wd vl wt → r < n → ∃ wd' vl' wt', lp_X2_read_9 (N 17) (nI pl) P (N 0) (vF N) (vE N) (vS N) (vL N) (vB N) (vQ N) n (nI i) (nI acc.length) wd vl wt = some (nI (rdl N P pl r i acc).length, wd', vl', wt') ∧ RK ((rdl N P pl r i acc).map (trp N P pl)) wd' vl' wt' := by
  have h12 := h.1.2
  intro r
  induction r with
  | zero =>
    intro i n acc wd vl wt hi ha hal hr hn
    obtain ⟨n, rfl⟩ : ∃ m, n = m + 1 := ⟨n - 1, by omega⟩
    refine ⟨wd, vl, wt, ?_, hr⟩
    rw [lp_X2_read_9, h.1.1, if_pos (nI_le (by omega) (by omega))]
    rfl
  | succ r ih =>
    intro i n acc wd vl wt hi ha hal hr hn
    obtain ⟨n, rfl⟩ : ∃ m, n = m + 1 := ⟨n - 1, by omega⟩
    have hW := h.2.2.2 i (by omega)
    have hq := hW.2.1
    have hcl : ∀ d, cand N P pl i = some d → d ≤ 48 := fun d e => cand_le h hW hP e
    rw [lp_X2_read_9, h.1.1, if_neg (nI_ge (by omega) (by omega)), p_cand (by omega) h hW hP, obs, nI_1, lm1, rdl]
    have skip : dbt N P pl i = none → ∃ wd' vl' wt', lp_X2_read_9 (nI (cn N)) (nI pl) P (N 0) (vF N) (vE N) (vS N) (vL N) (vB N) (vQ N) n (nI (i + 1)) (nI acc.length) wd vl wt = some (nI (rdl N P pl r (i + 1) (if dbt N P pl i = none then acc else insE (ahb N P pl i) i acc)).length, wd', vl', wt') ∧ RK ((rdl N P pl r (i + 1) (if dbt N P pl i = none then acc else insE (ahb N P pl i) i acc)).map (trp N P pl)) wd' vl' wt' := by
      intro hd
      have := ih (i + 1) n acc wd vl wt (by omega) (fun z hz => ⟨(ha z hz).1, by have := (ha z hz).2; omega⟩) (by omega) hr (by omega)
      rw [h.1.1] at this
      rw [if_pos hd]
      exact this
    cases hc : cand N P pl i with
    | none =>
      rw [if_pos (show enc none = mI from rfl)]
      exact skip (by unfold dbt; rw [hc])
    | some d =>
      have hd48 := hcl d hc
      rw [if_neg (show ¬ enc (some d) = mI from nI_nm (by omega)), show enc (some d) = nI d from rfl, l3]
      by_cases h3 : d ≤ 3
      · have hdb : dbt N P pl i = some d := by unfold dbt; rw [hc]; exact if_pos h3
        have hdd : dd N P pl i = d := by unfold dd; rw [hdb]; rfl
        have hR : isR N P pl i := ⟨by omega, by rw [hdd]; exact hdb⟩
        rw [if_neg (nI_nlt h3 (by omega)), gin (by omega) (by omega), nI_clamp (n := i) (by omega), vQa, hq.1, if_neg (by rw [hdb]; exact fun z => by cases z)]
        have hrw : fn_X2_readingWeight (nI d) (nI (fq N i)) = some (nI (wgt N P pl i)) := by
          unfold fn_X2_readingWeight wgt
          rw [hdd, l3, l1000, pk_sub h3, pk_mul, nI_add]
        rw [hrw, obs]
        obtain ⟨wd2, vl2, wt2, e1, e2⟩ := p_insert (R := acc.map (trp N P pl)) (by rw [List.length_map]; omega) hr (nI i) (nI d) (nI (wgt N P pl i))
        rw [List.length_map] at e1
        rw [e1, obs, ← h.1.1]
        have hmap : insE (fun t => decide (t.2.2 < nI (wgt N P pl i))) (nI i, nI d, nI (wgt N P pl i)) (acc.map (trp N P pl)) = (insE (ahb N P pl i) i acc).map (trp N P pl) := by
          rw [insE_map (trp N P pl) (ahb N P pl i) (fun t => decide (t.2.2 < nI (wgt N P pl i))) i acc (fun z hz => ahb_wgt h hR (ha z hz).1 (ha z hz).2)]
          unfold trp
          rw [hdd]
        rw [hmap] at e2
        rw [← insE_len (ahb N P pl i) i acc]
        exact ih (i + 1) n _ _ _ _ (by omega) (fun z hz => by
          rcases (insE_mem _ _ _ _).mp hz with e | e
          · subst e
            exact ⟨hR, by omega⟩
          · exact ⟨(ha z e).1, by have := (ha z e).2; omega⟩) (by rw [insE_len]; omega) e2 (by omega)
      · rw [if_pos (nI_lt (by omega) (by omega))]
        exact skip (by unfold dbt; rw [hc]; exact if_neg h3)
theorem p_read {N P : Nat → Int32} {pl : Nat} (h : WF N) (hP : PadOK P pl) (q : Int32) (wd vl wt : Nat → Int32) : ∃ wd' vl' wt', fn_X2_read (nI pl) P q wd vl wt (N 0) (N 17) (vF N) (vE N) (vS N) (vL N) (vQ N) (vB N) = some (nI (rds N P pl).length, wd', vl', wt') ∧ RK ((rds N P pl).map (trp N P pl)) wd' vl' wt' := by
  have h12 := h.1.2
  obtain ⟨wd', vl', wt', h1, h2⟩ := p_read_lp h hP (cn N) 0 1024 [] wd vl wt (by omega) (fun z hz => by cases hz) (Nat.le_refl _) (RK_nil wd vl wt) (by omega)
  refine ⟨wd', vl', wt', ?_, h2⟩
  unfold fn_X2_read fn_X4_empty
  rw [obs, show lp_X2_read_9 (N 17) (nI pl) P (N 0) (vF N) (vE N) (vS N) (vL N) (vB N) (vQ N) 1024 0 0 wd vl wt = _ from h1, obs]
  rfl
