/-! the digest -/
def mx (h : Int64) (v : Int32) : Int64 := 31 * h + v.toInt64
theorem pmx (h : Int64) (v : Int32) : fn_X6_mix h v = some (mx h v) := rfl
theorem mmx (h : Int64) (v : Int32) : fn_X7_mix h v = some (mx h v) := rfl
def mxr (F : Nat → Int32) : Nat → Nat → Int64 → Int64
  | 0, _, h => h
  | r + 1, i, h => mxr F r (i + 1) (mx h (F i))
def mx2 (F G : Nat → Int32) : Nat → Nat → Int64 → Int64
  | 0, _, h => h
  | r + 1, i, h => mx2 F G r (i + 1) (mx (mx h (F i)) (G i))
theorem mxr_c {F G : Nat → Int32} : ∀ r i h, (∀ j, i ≤ j → j < i + r → F j = G j) → mxr F r i h = mxr G r i h
  | 0, i, h, e => rfl
  | r + 1, i, h, e => by rw [mxr, mxr, e i (by omega) (by omega), mxr_c r (i + 1) _ (fun j h1 h2 => e j (by omega) (by omega))]
theorem mx2_c {F G F' G' : Nat → Int32} : ∀ r i h, (∀ j, i ≤ j → j < i + r → F j = F' j ∧ G j = G' j) → mx2 F G r i h = mx2 F' G' r i h
  | 0, i, h, e => rfl
  | r + 1, i, h, e => by rw [mx2, mx2, (e i (by omega) (by omega)).1, (e i (by omega) (by omega)).2, mx2_c r (i + 1) _ (fun j h1 h2 => e j (by omega) (by omega))]
theorem p_all_lp {F : Nat → Int32} {k nn : Nat} (hk : k ≤ nn) (hn : nn ≤ 12) : ∀ r i n h, i + r = k → r < n → lp_X6_mixAll_6 (nI k) nn F n h (nI i) = some (mxr F r i h) := by
  intro r
  induction r with
  | zero =>
    intro i n h hi hr
    obtain ⟨n, rfl⟩ : ∃ m, n = m + 1 := ⟨n - 1, by omega⟩
    rw [lp_X6_mixAll_6, if_pos (nI_le (by omega) (by omega)), mxr]
  | succ r ih =>
    intro i n h hi hr
    obtain ⟨n, rfl⟩ : ∃ m, n = m + 1 := ⟨n - 1, by omega⟩
    rw [lp_X6_mixAll_6, if_neg (nI_ge (by omega) (by omega)), if_neg (show ¬ Int32.ofNat nn ≤ nI i from nI_ge (by omega) (by omega)), gin (by omega) (by omega), pmx, obs, nI_clamp (by omega), nI_1, ih (i + 1) n _ (by omega) (by omega), mxr]
theorem p_all {F : Nat → Int32} {k nn : Nat} (hk : k ≤ nn) (hn : nn ≤ 12) (h : Int64) : fn_X6_mixAll nn F h (nI k) = some (mxr F k 0 h) := by
  unfold fn_X6_mixAll
  rw [l0, p_all_lp hk hn k 0 1024 h (by omega) (by omega), obs]
theorem m_err_lp {F : Nat → Int32} : ∀ r i n h, i + r = 4 → r < n → lp_X7_digest_9 F n (nI i) h = some (mxr F r i h) := by
  intro r
  induction r with
  | zero =>
    intro i n h hi hr
    obtain ⟨n, rfl⟩ : ∃ m, n = m + 1 := ⟨n - 1, by omega⟩
    rw [lp_X7_digest_9, l4, if_pos (nI_le (by omega) (by omega)), mxr]
  | succ r ih =>
    intro i n h hi hr
    obtain ⟨n, rfl⟩ : ∃ m, n = m + 1 := ⟨n - 1, by omega⟩
    rw [lp_X7_digest_9, l4, if_neg (nI_ge (by omega) (by omega)), gin (by omega) (by omega), mmx, obs, nI_clamp (by omega), nI_1, ih (i + 1) n _ (by omega) (by omega), mxr]
theorem m_pad_lp {F : Nat → Int32} {k : Nat} (hk : k ≤ 8) : ∀ r i n h, i + r = k → r < n → lp_X7_digest_172 (nI k) F n (nI i) h = some (mxr F r i h) := by
  intro r
  induction r with
  | zero =>
    intro i n h hi hr
    obtain ⟨n, rfl⟩ : ∃ m, n = m + 1 := ⟨n - 1, by omega⟩
    rw [lp_X7_digest_172, if_pos (nI_le (by omega) (by omega)), mxr]
  | succ r ih =>
    intro i n h hi hr
    obtain ⟨n, rfl⟩ : ∃ m, n = m + 1 := ⟨n - 1, by omega⟩
    rw [lp_X7_digest_172, if_neg (nI_ge (by omega) (by omega)), gin (by omega) (by omega), mmx, obs, nI_clamp (by omega), nI_1, ih (i + 1) n _ (by omega) (by omega), mxr]
theorem p_snd_lp {F G : Nat → Int32} : ∀ r i n h, i + r = 8 → r < n → lp_X6_mixSounds_15 F G n h (nI i) = some (mx2 F G r i h) := by
  intro r
  induction r with
  | zero =>
    intro i n h hi hr
    obtain ⟨n, rfl⟩ : ∃ m, n = m + 1 := ⟨n - 1, by omega⟩
    rw [lp_X6_mixSounds_15, l8, if_pos (nI_le (by omega) (by omega)), mx2]
  | succ r ih =>
    intro i n h hi hr
    obtain ⟨n, rfl⟩ : ∃ m, n = m + 1 := ⟨n - 1, by omega⟩
    rw [lp_X6_mixSounds_15, l8, if_neg (nI_ge (by omega) (by omega)), gin (by omega) (by omega), pmx, obs, gin (by omega) (by omega), pmx, obs, nI_clamp (by omega), nI_1, ih (i + 1) n _ (by omega) (by omega), mx2]
theorem m_snd_lp {N : Nat → Int32} : ∀ r i n h, i + r = 8 → r < n → lp_X7_digest_42 N n (nI i) h = some (mx2 (vF N) (vE N) r i h) := by
  intro r
  induction r with
  | zero =>
    intro i n h hi hr
    obtain ⟨n, rfl⟩ : ∃ m, n = m + 1 := ⟨n - 1, by omega⟩
    rw [lp_X7_digest_42, l8, if_pos (nI_le (by omega) (by omega)), mx2]
  | succ r ih =>
    intro i n h hi hr
    obtain ⟨n, rfl⟩ : ∃ m, n = m + 1 := ⟨n - 1, by omega⟩
    rw [lp_X7_digest_42, l8, if_neg (nI_ge (by omega) (by omega)), l1, l9, nI_add, nI_add, nI_add, gin (by omega) (by omega), mmx, obs, gin (by omega) (by omega), mmx, obs, nI_clamp (n := 1 + i) (by omega), nI_clamp (n := 9 + i) (by omega), ih (i + 1) n _ (by omega) (by omega), mx2]
theorem p_rk_lp {F G : Nat → Int32} {k : Nat} (hk : k ≤ 12) : ∀ r i n h, i + r = k → r < n → lp_X6_mixRanking_12 (nI k) F G n h (nI i) = some (mx2 F G r i h) := by
  intro r
  induction r with
  | zero =>
    intro i n h hi hr
    obtain ⟨n, rfl⟩ : ∃ m, n = m + 1 := ⟨n - 1, by omega⟩
    rw [lp_X6_mixRanking_12, if_pos (nI_le (by omega) (by omega)), mx2]
  | succ r ih =>
    intro i n h hi hr
    obtain ⟨n, rfl⟩ : ∃ m, n = m + 1 := ⟨n - 1, by omega⟩
    rw [lp_X6_mixRanking_12, if_neg (nI_ge (by omega) (by omega)), gin (by omega) (by omega), pmx, obs, gin (by omega) (by omega), pmx, obs, nI_clamp (by omega), nI_1, ih (i + 1) n _ (by omega) (by omega), mx2]
theorem m_rk_lp {F G : Nat → Int32} {k : Nat} (hk : k ≤ 12) : ∀ r i n h, i + r = k → r < n → lp_X7_digest_128 (nI k) F G n (nI i) h = some (mx2 F G r i h) := by
  intro r
  induction r with
  | zero =>
    intro i n h hi hr
    obtain ⟨n, rfl⟩ : ∃ m, n = m + 1 := ⟨n - 1, by omega⟩
    rw [lp_X7_digest_128, if_pos (nI_le (by omega) (by omega)), mx2]
  | succ r ih =>
    intro i n h hi hr
    obtain ⟨n, rfl⟩ : ∃ m, n = m + 1 := ⟨n - 1, by omega⟩
    rw [lp_X7_digest_128, if_neg (nI_ge (by omega) (by omega)), gin (by omega) (by omega), mmx, obs, gin (by omega) (by omega), mmx, obs, nI_clamp (by omega), nI_1, ih (i + 1) n _ (by omega) (by omega), mx2]
theorem m_rd_lp {N P rd F G : Nat → Int32} {pl : Nat} (h : WF N) (hP : PadOK P pl) (h1 : R1 (rds N P pl) rd) (h2 : ∀ j z, (rds N P pl)[j]? = some z → F j = nI z ∧ G j = nI (dd N P pl z)) : ∀ r i n v hs m, i + r = (rds N P pl).length → r < n → ∃ v' m', lp_X7_digest_210 (nI (rds N P pl).length) rd (nI pl) N P n (nI i) v hs m = some (v', mx2 F G r i hs, m') := by
  have h12 := h.1.2
  have hok := rds_ok N P pl
  intro r
  induction r with
  | zero =>
    intro i n v hs m hi hr
    obtain ⟨n, rfl⟩ : ∃ m, n = m + 1 := ⟨n - 1, by omega⟩
    exact ⟨v, m, by rw [lp_X7_digest_210, if_pos (nI_le (by omega) (by omega)), mx2]⟩
  | succ r ih =>
    intro i n v hs m hi hr
    obtain ⟨n, rfl⟩ : ∃ m, n = m + 1 := ⟨n - 1, by omega⟩
    obtain ⟨z, hz⟩ := at_lt (L := rds N P pl) (j := i) (by omega)
    have hzr := hok.1 z (List.mem_of_getElem? hz)
    have hzl := hzr.1
    have hd := m_dbt (m := m) (w := z) (by omega) h (h.2.2.2 z hzr.1) hP v
    rw [hzr.2] at hd
    obtain ⟨v', m', e⟩ := ih (i + 1) n (nI (wl N z).length) (mx (mx hs (F i)) (G i)) (putL m 0 ((wl N z).map nI)) (by omega) (by omega)
    refine ⟨v', m', ?_⟩
    rw [lp_X7_digest_210, if_neg (nI_ge (by omega) (by omega)), gin (by omega) (by omega), mmx, obs, gin (by omega) (by omega), nI_clamp (by omega), nI_1, h1 i z hz, hd, obs, mmx, obs, mx2]
    rw [(h2 i z hz).1, (h2 i z hz).2] at e ⊢
    exact e
def mxw (N : Nat → Int32) (w : Nat) (h : Int64) : Int64 := mxr (putL (fun _ => 0) 0 ((ptop (chs N w)).map nI)) (wl N w).length 0 (mx (mx (mx (mx h (N (30 + w))) (N (42 + w))) (nI (rtop (chs N w)))) (nI (wl N w).length))
theorem put_c {N : Nat → Int32} {w : Nat} (st : Nat → Int32) (h : Int64) : mxr (putL st 0 ((ptop (chs N w)).map nI)) (wl N w).length 0 h = mxr (putL (fun _ => 0) 0 ((ptop (chs N w)).map nI)) (wl N w).length 0 h := by
  refine mxr_c _ _ _ (fun j _ hj => ?_)
  obtain ⟨y, hy⟩ := at_lt (L := (ptop (chs N w)).map nI) (j := j) (by rw [List.length_map, ptop_len, chs_len]; omega)
  rw [put_row hy, put_row hy]
theorem m_st_lp {N m : Nat → Int32} {w : Nat} (h : WF N) (hW : WFw N w) (hm : HM N w m) : ∀ r i n hs, i + r = (wl N w).length → r < n → lp_X7_mixWord_51 (nI (wl N w).length) N m (nI (btop (chs N w))) n (nI i) hs = some (mxr (putL (fun _ => 0) 0 ((ptop (chs N w)).map nI)) r i hs) := by
  have hl := wl_len hW
  intro r
  induction r with
  | zero =>
    intro i n hs hi hr
    obtain ⟨n, rfl⟩ : ∃ m, n = m + 1 := ⟨n - 1, by omega⟩
    rw [lp_X7_mixWord_51, if_pos (nI_le (by omega) (by omega)), mxr]
  | succ r ih =>
    intro i n hs hi hr
    obtain ⟨n, rfl⟩ : ∃ m, n = m + 1 := ⟨n - 1, by omega⟩
    obtain ⟨y, hy, hy24, hst⟩ := stroke_at (j := i) h hW (by omega) m hm
    rw [lp_X7_mixWord_51, if_neg (nI_ge (by omega) (by omega)), hst, obs, mmx, obs, nI_1, ih (i + 1) n _ (by omega) (by omega), mxr, put_row (l := (ptop (chs N w)).map nI) (x := nI y) (by rw [List.getElem?_map, hy]; rfl)]
theorem m_mixw {N m : Nat → Int32} {w : Nat} (hw : w < 12) (h : WF N) (hW : WFw N w) (v : Int32) (hs : Int64) : fn_X7_mixWord v hs N m (nI w) = some (nI (wl N w).length, mxw N w hs, putL m 0 ((wl N w).map nI)) := by
  have hl := wl_len hW
  unfold fn_X7_mixWord
  rw [l30, l42, nI_add, nI_add, gin (by omega) (by omega), mmx, obs, gin (by omega) (by omega), mmx, obs, m_written hw h hW, obs]
  dsimp only
  rw [m_costb h hW _ (HM_put N w m), obs, mmx, obs, mmx, obs, l0, m_st_lp h hW (HM_put N w m) (wl N w).length 0 1024 _ (by omega) (by omega), obs, nI_clamp (n := 30 + w) (by omega), nI_clamp (n := 42 + w) (by omega)]
  rfl
def mws (N : Nat → Int32) : Nat → Nat → Int64 → Int64
  | 0, _, h => h
  | r + 1, i, h => mws N r (i + 1) (mxw N i h)
theorem m_ws_lp {N : Nat → Int32} (h : WF N) : ∀ r i n v hs m, i + r = cn N → r < n → ∃ v' m', lp_X7_digest_92 N n (nI i) v hs m = some (v', mws N r i hs, m') := by
  have h12 := h.1.2
  have h17 := h.1.1
  intro r
  induction r with
  | zero =>
    intro i n v hs m hi hr
    obtain ⟨n, rfl⟩ : ∃ m, n = m + 1 := ⟨n - 1, by omega⟩
    exact ⟨v, m, by rw [lp_X7_digest_92, show (17 : Int32).toNatClampNeg = 17 from rfl, h17, if_pos (nI_le (by omega) (by omega)), mws]⟩
  | succ r ih =>
    intro i n v hs m hi hr
    obtain ⟨n, rfl⟩ : ∃ m, n = m + 1 := ⟨n - 1, by omega⟩
    obtain ⟨v', m', e⟩ := ih (i + 1) n (nI (wl N i).length) (mxw N i hs) (putL m 0 ((wl N i).map nI)) (by omega) (by omega)
    refine ⟨v', m', ?_⟩
    rw [lp_X7_digest_92, show (17 : Int32).toNatClampNeg = 17 from rfl, h17, if_neg (nI_ge (by omega) (by omega)), m_mixw (by omega) h (h.2.2.2 i (by omega)), obs, nI_1, mws]
    exact e
theorem p_ws_lp {N : Nat → Int32} (h : WF N) : ∀ r i n hs o1 o2 o3 o4 o5 o6 o7, i + r = cn N → r < n → ∃ o1' o2' o3' o4' o5' o6' o7', lp_X6_mixWords_15 (N 17) (N 0) (vF N) (vE N) (vS N) (vL N) (vQ N) (vB N) n hs (nI i) o1 o2 o3 o4 o5 o6 o7 = some (mws N r i hs, o1', o2', o3', o4', o5', o6', o7') := by
  have h12 := h.1.2
  have h17 := h.1.1
  intro r
  induction r with
  | zero =>
    intro i n hs o1 o2 o3 o4 o5 o6 o7 hi hr
    obtain ⟨n, rfl⟩ : ∃ m, n = m + 1 := ⟨n - 1, by omega⟩
    exact ⟨o1, o2, o3, o4, o5, o6, o7, by rw [lp_X6_mixWords_15, h17, if_pos (nI_le (by omega) (by omega)), mws]⟩
  | succ r ih =>
    intro i n hs o1 o2 o3 o4 o5 o6 o7 hi hr
    obtain ⟨n, rfl⟩ : ∃ m, n = m + 1 := ⟨n - 1, by omega⟩
    have hW := h.2.2.2 i (by omega)
    have hl := wl_len hW
    obtain ⟨R1', R2', hb⟩ := p_build (by omega) h hW o1 o2 o3 o4 o5 o6 o7
    obtain ⟨a1, a2, a3, a4, a5, a6, a7, e⟩ := ih (i + 1) n (mxw N i hs) (nI (wl N i).length) (nI (rtop (chs N i))) (putL o3 0 ((ptop (chs N i)).map nI)) (putL o4 0 ((wl N i).map (fun s => N (1 + s)))) (putL o5 0 ((wl N i).map (fun s => N (9 + s)))) R1' R2' (by omega) (by omega)
    refine ⟨a1, a2, a3, a4, a5, a6, a7, ?_⟩
    rw [lp_X6_mixWords_15, if_neg (show ¬ N 17 ≤ nI i by rw [h17]; exact nI_ge (by omega) (by omega)), hb, obs, gin (by omega) (by omega), pmx, obs, gin (by omega) (by omega), pmx, obs, pmx, obs, pmx, obs]
    dsimp only
    rw [p_all hl.2 (by omega), obs, nI_clamp (by omega), nI_1, put_c, mws]
    exact e
theorem op_digest {N : Nat → Int32} {hc : Int32} {G0 : GT} {G1 : GT} {G2 : GT} {G3 : GT} {G4 : GT} {pa : Nat → Int32} {tl : Int32} {P : Nat → Int32} {pl : Int32} (h : INVQ N hc G0 G1 G2 G3 G4 pa tl P pl) (E : Nat → Int32) (o1 : Int32) (o2 : Int32) (o3 : Nat → Int32) (o4 : Nat → Int32) (o5 : Nat → Int32) (o6 : Nat → Int32) (o7 : Nat → Int32) (q1 : Int32) (q2 : Nat → Int32) (q3 : Nat → Int32) (q4 : Nat → Int32) (q5 : Int32) (q6 : Nat → Int32) (q7 : Nat → Int32) (q8 : Nat → Int32) (q9 : Nat → Int32) (s1 : Int32) (s2 : Nat → Int32) (s3 : Nat → Int32) (s4 : Nat → Int32) (m1 : Nat → Int32) (m2 : Int32) (m3 : Nat → Int32) (m4 : Nat → Int32) (m5 : Int32) (m6 : Nat → Int32) (m7 : Int32) (m8 : Int64) : ∃ (r : Int64) (o1' : Int32) (o2' : Int32) (o3' : Nat → Int32) (o4' : Nat → Int32) (o5' : Nat → Int32) (o6' : Nat → Int32) (o7' : Nat → Int32) (q1' : Int32) (q2' : Nat → Int32) (q3' : Nat → Int32) (q4' : Nat → Int32) (q5' : Int32) (q6' : Nat → Int32) (q7' : Nat → Int32) (q8' : Nat → Int32) (q9' : Nat → Int32) (s1' : Int32) (s2' : Nat → Int32) (s3' : Nat → Int32) (s4' : Nat → Int32) (m2' : Int32) (m5' : Int32) (m7' : Int32) (m8' : Int64) (m1' : Nat → Int32) (m3' : Nat → Int32) (m4' : Nat → Int32) (m6' : Nat → Int32), fn_X6_digest tl (N 0) (N 17) (vF N) (vE N) (vS N) (vL N) (vQ N) (vB N) hc o1 o2 o3 o4 o5 o6 o7 q1 q2 q3 q4 q5 q6 q7 q8 q9 pl P s1 s2 s3 s4 E = some (r, o1', o2', o3', o4', o5', o6', o7', q1', q2', q3', q4', q5', q6', q7', q8', q9', s1', s2', s3', s4') ∧ fn_X7_digest hc tl pl m2 m5 m7 m8 N E P m1 m3 m4 m6 = some (r, m2', m5', m7', m8', m1', m3', m4', m6') ∧ INVP N (vF N) (vE N) (N 0) (N 17) (vS N) (vL N) (vQ N) (vB N) hc G0 G1 G2 G3 G4 pa tl P pl := by
  obtain ⟨b, hb, hP⟩ := h.2.2.2
  have hb8 := hP.1
  have h12 := h.1.1.2
  have hok := rds_ok N P b
  obtain ⟨wd, vl, wt, c1, c2, c3, tk, hmk, hmr⟩ := p_make h.1 q1 q5 q2 q3 q4 q6 q7 q8 q9
  obtain ⟨yd, yl, yt, hrd, hrr⟩ := p_read h.1 hP s1 s2 s3 s4
  have hlen : (prp N).length ≤ 12 := by
    have := asg_len (cds N) (fun s => !fr0 N s)
    have := (cds_ok N).2.1
    unfold prp
    omega
  let h1 := mxr E 4 0 2707
  let h2 := mx2 (vF N) (vE N) 8 0 (mx h1 (N 0))
  let h3 := mws N (cn N) 0 (mx h2 (N 17))
  let h4 := mx2 wd vl (prp N).length 0 (mx h3 (nI (prp N).length))
  let h5 := mxr P b 0 (mx h4 (nI b))
  let h6 := mx2 yd yl (rds N P b).length 0 (mx h5 (nI (rds N P b).length))
  obtain ⟨a1, a2, a3, a4, a5, a6, a7, hws⟩ := p_ws_lp h.1 (cn N) 0 1024 (mx h2 (N 17)) o1 o2 o3 o4 o5 o6 o7 (by omega) (by omega)
  obtain ⟨v1, w1, mws1⟩ := m_ws_lp h.1 (cn N) 0 1024 m2 (mx h2 (N 17)) m1 (by omega) (by omega)
  obtain ⟨v2, w2, hmp⟩ := m_prop h.1 v1 m5 w1 m3 m4
  obtain ⟨v3, w3, rd, hmd, hr1⟩ := m_reads h.1 hP v2 m7 w2 m6
  have hr2 : ∀ j z, (rds N P b)[j]? = some z → yd j = nI z ∧ yl j = nI (dd N P b z) := fun j z hz => by
    have := hrr j (trp N P b z) (by rw [List.getElem?_map, hz]; rfl)
    exact ⟨this.1, this.2.1⟩
  obtain ⟨v4, w4, hml⟩ := m_rd_lp h.1 hP hr1 hr2 (rds N P b).length 0 1024 v3 (mx h5 (nI (rds N P b).length)) w3 (by omega) (by omega)
  have e4 : mx2 (putL m3 0 ((prp N).map (fun q => nI q.1))) (putL m4 0 ((prp N).map (fun q => nI q.2))) (prp N).length 0 (mx h3 (nI (prp N).length)) = h4 := by
    refine mx2_c _ _ _ (fun j _ hj => ?_)
    obtain ⟨q, hq⟩ := at_lt (L := prp N) (j := j) (by omega)
    have hv := hmr j (trc q) (by rw [List.getElem?_map, hq]; rfl)
    rw [put_row (l := (prp N).map (fun q => nI q.1)) (x := nI q.1) (by rw [List.getElem?_map, hq]; rfl), put_row (l := (prp N).map (fun q => nI q.2)) (x := nI q.2) (by rw [List.getElem?_map, hq]; rfl), hv.1, hv.2.1]
    exact ⟨rfl, rfl⟩
  refine ⟨mx (mx h6 tl) hc, a1, a2, a3, a4, a5, a6, a7, nI (prp N).length, wd, vl, wt, nI (cds N).length, c1, c2, c3, tk, nI (rds N P b).length, yd, yl, yt, v4, nI (prp N).length, nI (rds N P b).length, mx (mx h6 tl) hc, w4, putL m3 0 ((prp N).map (fun q => nI q.1)), putL m4 0 ((prp N).map (fun q => nI q.2)), rd, ?_, ?_, SR_self N, h⟩
  · unfold fn_X6_digest
    rw [hmk, obs, hb, hrd, obs]
    dsimp only
    rw [show (4 : Int32) = nI 4 from rfl, p_all (by omega) (by omega), obs]
    have hS : fn_X6_mixSounds (N 0) (vF N) (vE N) (mxr E 4 0 2707) = some h2 := by
      unfold fn_X6_mixSounds
      rw [pmx, obs, l0, p_snd_lp 8 0 1024 _ (by omega) (by omega), obs]
    have hW : fn_X6_mixWords (N 0) (N 17) (vF N) (vE N) (vS N) (vL N) (vQ N) (vB N) o1 o2 o3 o4 o5 o6 o7 h2 = some (h3, a1, a2, a3, a4, a5, a6, a7) := by
      unfold fn_X6_mixWords
      rw [pmx, obs, show (0 : Int32) = nI 0 from rfl, hws, obs]
    have hR : fn_X6_mixRanking (nI (prp N).length) wd vl h3 = some h4 := by
      unfold fn_X6_mixRanking
      rw [pmx, obs, l0, p_rk_lp hlen (prp N).length 0 1024 _ (by omega) (by omega), obs]
    have hQ : fn_X6_mixRanking (nI (rds N P b).length) yd yl h5 = some h6 := by
      unfold fn_X6_mixRanking
      rw [pmx, obs, l0, p_rk_lp (by omega) (rds N P b).length 0 1024 _ (by omega) (by omega), obs]
    rw [hS, obs, hW, obs]
    dsimp only
    rw [hR, obs, pmx, obs, p_all hb8 (by omega), obs]
    show Option.bind (fn_X6_mixRanking (nI (rds N P b).length) yd yl h5) _ = _
    rw [hQ, obs, pmx, obs, pmx, obs]
  · unfold fn_X7_digest
    rw [show lp_X7_digest_9 E 1024 0 2707 = _ from m_err_lp 4 0 1024 2707 (by omega) (by omega), obs, mmx, obs]
    rw [show lp_X7_digest_42 N 1024 0 _ = _ from m_snd_lp 8 0 1024 _ (by omega) (by omega), obs, mmx, obs]
    show Option.bind (lp_X7_digest_92 N 1024 (nI 0) m2 (mx h2 (N 17)) m1) _ = _
    rw [mws1, obs]
    dsimp only
    rw [hmp, obs]
    dsimp only
    rw [mmx, obs, show lp_X7_digest_128 (nI (prp N).length) _ _ 1024 0 _ = _ from m_rk_lp hlen (prp N).length 0 1024 _ (by omega) (by omega), obs]
    show Option.bind (fn_X7_mix (mx2 (putL m3 0 ((prp N).map (fun q => nI q.1))) (putL m4 0 ((prp N).map (fun q => nI q.2))) (prp N).length 0 (mx h3 (nI (prp N).length))) pl) _ = _
    rw [e4, mmx, obs, hb, show lp_X7_digest_172 (nI b) P 1024 0 _ = _ from m_pad_lp hb8 b 0 1024 _ (by omega) (by omega), obs, hmd, obs]
    dsimp only
    rw [mmx, obs]
    show Option.bind (lp_X7_digest_210 (nI (rds N P b).length) rd (nI b) N P 1024 (nI 0) v3 (mx h5 (nI (rds N P b).length)) w3) _ = _
    rw [hml, obs]
    dsimp only
    rw [mmx, obs, mmx, obs]
