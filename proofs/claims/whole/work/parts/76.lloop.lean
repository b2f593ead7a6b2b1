/-! the law's loop -/
set_option maxHeartbeats 4000000 in
set_option maxRecDepth 100000 in
theorem law_loop {p : Program} {l : Launch} {e : Env} {s : State} {m : MethodId} {below : List Frame} {meth : Method} {c : Code} {D : va_G} {cI cZ cS : ClassId} {b L : Nat} {xs : Nat → Int32} {ea da : Nat → Nat} {Q : State → Prop} (hL : L ≤ 2048) (Cx : LX p s m c b L xs D cI cZ cS) (kx : ∀ (H : Heap) (locs : List Loc) (ls : Array Slot), va_S (fun q : Nat => s.heap.size ≤ q) s.heap H locs → W p l e room_1 s m #[Value.ref b] below meth c H locs 79 2148 Q (F0 m 801 ls [])) :
    ∀ (n k : Nat), k ≤ L → L < k + 4 * n → ∀ (cF : Nat → Int32) (cE : Nat → Int32) (vo : Int32) (wc : Int32) (cP : Nat → Int32) (cL : Nat → Int32) (cQ : Nat → Int32) (cB : Nat → Int32) (hc : Int32) (G0 : GT) (G1 : GT) (G2 : GT) (G3 : GT) (G4 : GT) (E : Nat → Int32) (T : Nat → Int32) (tl : Int32) (P : Nat → Int32) (pl : Int32) (o1 : Int32) (o2 : Int32) (o3 : Nat → Int32) (o4 : Nat → Int32) (o5 : Nat → Int32) (o6 : Nat → Int32) (o7 : Nat → Int32) (q1 : Int32) (q2 : Nat → Int32) (q3 : Nat → Int32) (q4 : Nat → Int32) (q5 : Int32) (q6 : Nat → Int32) (q7 : Nat → Int32) (q8 : Nat → Int32) (q9 : Nat → Int32) (s1 : Int32) (s2 : Nat → Int32) (s3 : Nat → Int32) (s4 : Nat → Int32) (N : Nat → Int32) (pa : Nat → Int32) (m1 : Nat → Int32) (m2 : Int32) (m3 : Nat → Int32) (m4 : Nat → Int32) (m5 : Int32) (m6 : Nat → Int32) (m7 : Int32) (m8 : Int64) (H : Heap) (locs : List Loc) (ls : Array Slot), INVP N cF cE vo wc cP cL cQ cB hc G0 G1 G2 G3 G4 pa tl P pl → va_P D vwCl (LW cI cZ cS ea da cF cE vo wc cP cL cQ cB hc G0 G1 G2 G3 G4 E T tl P pl o1 o2 o3 o4 o5 o6 o7 q1 q2 q3 q4 q5 q6 q7 q8 q9 s1 s2 s3 s4 N pa m1 m2 m3 m4 m5 m6 m7 m8) H → va_D (fun q : Nat => s.heap.size ≤ q) (LW cI cZ cS ea da cF cE vo wc cP cL cQ cB hc G0 G1 G2 G3 G4 E T tl P pl o1 o2 o3 o4 o5 o6 o7 q1 q2 q3 q4 q5 q6 q7 q8 q9 s1 s2 s3 s4 N pa m1 m2 m3 m4 m5 m6 m7 m8) → va_S (fun q : Nat => s.heap.size ≤ q) s.heap H locs → lv_has ls 4 [(0, .ref b), (1, .ref (ea 0)), (2, .ref (da 0)), (3, .int (nI k))] → W p l e room_1 s m #[Value.ref b] below meth c H locs 79 2148 Q (F0 m 18 ls []) := by
  obtain ⟨hx, hb, hml, hown, hts, hK, hX, hbl⟩ := id Cx
  have hbA : ¬ (fun q : Nat => s.heap.size ≤ q) b := Nat.not_le.mpr hbl
  intro n
  induction n with
  | zero =>
    intro k h1 h2
    exact absurd h2 (by omega)
  | succ n ih =>
    intro k hk1 hk2 cF cE vo wc cP cL cQ cB hc G0 G1 G2 G3 G4 E T tl P pl o1 o2 o3 o4 o5 o6 o7 q1 q2 q3 q4 q5 q6 q7 q8 q9 s1 s2 s3 s4 N pa m1 m2 m3 m4 m5 m6 m7 m8 H locs ls hI hP hD hS hl
    obtain ⟨hR, hQ⟩ := hI
    obtain ⟨hP, hD⟩ := LW_can hR hP hD
    refine lv_iload_n hx hb dL_law_18 rfl (lv_at hl 3 rfl) ?_
    refine lv_aload_n hx hb dL_law_19 rfl (lv_at hl 0 rfl) ?_
    refine va_slen hx hb hX hbl hbA hS dL_law_20 ?_
    refine lv_iconst (v := 4) hx hb dL_law_21 (by decide) ?_
    refine lv_isub hx hb dL_law_22 ?_
    refine lv_icmp_gt (tgt := 801) hx hb dL_law_23 (by decide) (fun _ => kx H locs ls hS) (fun hge => ?_)
    have hk : k + 4 ≤ L := by
      have h1 : ¬ (nI L - nI 4).toInt < (nI k).toInt := fun q => hge (Int32.lt_iff_toInt_lt.mpr q)
      rw [pk_sub_toInt (by omega) (by omega), nI_toInt (by omega)] at h1
      omega
    have g0 : vp_in (nI k) L := vp_in_nI (by omega) (by omega)
    have g1 : vp_in (nI k + (1 : Int32)) L := by rw [l1, nI_add]; exact vp_in_nI (by omega) (by omega)
    have g2 : vp_in (nI k + (2 : Int32)) L := by rw [l2, nI_add]; exact vp_in_nI (by omega) (by omega)
    have g3 : vp_in (nI k + (3 : Int32)) L := by rw [l3, nI_add]; exact vp_in_nI (by omega) (by omega)
    have hkk : LK p l e s m below meth c D cI cZ cS b ea da Q (nI k) := by
      intro cF' cE' vo' wc' cP' cL' cQ' cB' hc' G0' G1' G2' G3' G4' E' T' tl' P' pl' o1' o2' o3' o4' o5' o6' o7' q1' q2' q3' q4' q5' q6' q7' q8' q9' s1' s2' s3' s4' N' pa' m1' m2' m3' m4' m5' m6' m7' m8' H locs ls hI hP hD hS hl
      refine lv_iinc (v := nI (k + 4)) (lv' := [(3, .int (nI (k + 4))), (0, .ref b), (1, .ref (ea 0)), (2, .ref (da 0))]) hx hb dL_law_795 hl (k := 3) rfl (nI_add k 4) (by decide) rfl (fun ls hl => ?_)
      refine lv_goto (tgt := 18) hx hb dL_law_798 (by decide) ?_
      exact ih (k + 4) hk (by omega) cF' cE' vo' wc' cP' cL' cQ' cB' hc' G0' G1' G2' G3' G4' E' T' tl' P' pl' o1' o2' o3' o4' o5' o6' o7' q1' q2' q3' q4' q5' q6' q7' q8' q9' s1' s2' s3' s4' N' pa' m1' m2' m3' m4' m5' m6' m7' m8' H locs ls hI hP hD hS (lv_sub hl [1, 2, 3, 0] rfl)
    refine lv_aload_n hx hb dL_law_26 rfl (lv_at hl 0 rfl) ?_
    refine lv_iload_n hx hb dL_law_27 rfl (lv_at hl 3 rfl) ?_
    refine va_sld hx hb hX hbl hbA hS g0 dL_law_28 ?_
    refine lv_bipush (v := 31) hx hb dL_law_29 (by decide) ?_
    refine lv_iand hx hb dL_law_31 ?_
    refine lv_topi (fun t _ => ?_)
    by_cases ho : t.toInt < 0 ∨ 27 < t.toInt
    · refine lv_tableOut (tgt := 795) hx hb dL_law_32 ho (by decide) ?_
      exact hkk (vF N) (vE N) (N 0) (N 17) (vS N) (vL N) (vQ N) (vB N) hc G0 G1 G2 G3 G4 E T tl P pl o1 o2 o3 o4 o5 o6 o7 q1 q2 q3 q4 q5 q6 q7 q8 q9 s1 s2 s3 s4 N pa m1 m2 m3 m4 m5 m6 m7 m8 H locs ls ⟨SR_self N, hQ⟩ hP hD hS hl
    · have hj : t.toInt = 0 ∨ t.toInt = 1 ∨ t.toInt = 2 ∨ t.toInt = 3 ∨ t.toInt = 4 ∨ t.toInt = 5 ∨ t.toInt = 6 ∨ t.toInt = 7 ∨ t.toInt = 8 ∨ t.toInt = 9 ∨ t.toInt = 10 ∨ t.toInt = 11 ∨ t.toInt = 12 ∨ t.toInt = 13 ∨ t.toInt = 14 ∨ t.toInt = 15 ∨ t.toInt = 16 ∨ t.toInt = 17 ∨ t.toInt = 18 ∨ t.toInt = 19 ∨ t.toInt = 20 ∨ t.toInt = 21 ∨ t.toInt = 22 ∨ t.toInt = 23 ∨ t.toInt = 24 ∨ t.toInt = 25 ∨ t.toInt = 26 ∨ t.toInt = 27 := by omega
      have h1 : ¬ t.toInt < 0 := fun q => ho (Or.inl q)
      have h2 : ¬ 27 < t.toInt := fun q => ho (Or.inr q)
      rcases hj with hj | hj | hj | hj | hj | hj | hj | hj | hj | hj | hj | hj | hj | hj | hj | hj | hj | hj | hj | hj | hj | hj | hj | hj | hj | hj | hj | hj
      · refine lv_tableIn (off := 128) (tgt := 160) hx hb dL_law_32 h1 h2 (by rw [hj]; rfl) (by decide) ?_
        exact st_setSound Cx hc G0 G1 G2 G3 G4 E T tl P pl o1 o2 o3 o4 o5 o6 o7 q1 q2 q3 q4 q5 q6 q7 q8 q9 s1 s2 s3 s4 N pa m1 m2 m3 m4 m5 m6 m7 m8 hQ (nI k) g1 g2 g3 H locs ls hP hD hS hl hkk
      · refine lv_tableIn (off := 171) (tgt := 203) hx hb dL_law_32 h1 h2 (by rw [hj]; rfl) (by decide) ?_
        exact st_setVowels Cx hc G0 G1 G2 G3 G4 E T tl P pl o1 o2 o3 o4 o5 o6 o7 q1 q2 q3 q4 q5 q6 q7 q8 q9 s1 s2 s3 s4 N pa m1 m2 m3 m4 m5 m6 m7 m8 hQ (nI k) g1 g2 g3 H locs ls hP hD hS hl hkk
      · refine lv_tableIn (off := 194) (tgt := 226) hx hb dL_law_32 h1 h2 (by rw [hj]; rfl) (by decide) ?_
        exact st_append Cx hc G0 G1 G2 G3 G4 E T tl P pl o1 o2 o3 o4 o5 o6 o7 q1 q2 q3 q4 q5 q6 q7 q8 q9 s1 s2 s3 s4 N pa m1 m2 m3 m4 m5 m6 m7 m8 hQ (nI k) g1 g2 g3 H locs ls hP hD hS hl hkk
      · refine lv_tableIn (off := 217) (tgt := 249) hx hb dL_law_32 h1 h2 (by rw [hj]; rfl) (by decide) ?_
        exact st_clearText Cx hc G0 G1 G2 G3 G4 E T tl P pl o1 o2 o3 o4 o5 o6 o7 q1 q2 q3 q4 q5 q6 q7 q8 q9 s1 s2 s3 s4 N pa m1 m2 m3 m4 m5 m6 m7 m8 hQ (nI k) g1 g2 g3 H locs ls hP hD hS hl hkk
      · refine lv_tableIn (off := 230) (tgt := 262) hx hb dL_law_32 h1 h2 (by rw [hj]; rfl) (by decide) ?_
        exact st_addWord Cx hc G0 G1 G2 G3 G4 E T tl P pl o1 o2 o3 o4 o5 o6 o7 q1 q2 q3 q4 q5 q6 q7 q8 q9 s1 s2 s3 s4 N pa m1 m2 m3 m4 m5 m6 m7 m8 hQ (nI k) g1 g2 g3 H locs ls hP hD hS hl hkk
      · refine lv_tableIn (off := 253) (tgt := 285) hx hb dL_law_32 h1 h2 (by rw [hj]; rfl) (by decide) ?_
        exact st_removeWord Cx hc G0 G1 G2 G3 G4 E T tl P pl o1 o2 o3 o4 o5 o6 o7 q1 q2 q3 q4 q5 q6 q7 q8 q9 s1 s2 s3 s4 N pa m1 m2 m3 m4 m5 m6 m7 m8 hQ (nI k) g1 g2 g3 H locs ls hP hD hS hl hkk
      · refine lv_tableIn (off := 276) (tgt := 308) hx hb dL_law_32 h1 h2 (by rw [hj]; rfl) (by decide) ?_
        exact st_words Cx hc G0 G1 G2 G3 G4 E T tl P pl o1 o2 o3 o4 o5 o6 o7 q1 q2 q3 q4 q5 q6 q7 q8 q9 s1 s2 s3 s4 N pa m1 m2 m3 m4 m5 m6 m7 m8 hQ (nI k) g1 g2 g3 H locs ls hP hD hS hl hkk
      · refine lv_tableIn (off := 289) (tgt := 321) hx hb dL_law_32 h1 h2 (by rw [hj]; rfl) (by decide) ?_
        exact st_letters Cx hc G0 G1 G2 G3 G4 E T tl P pl o1 o2 o3 o4 o5 o6 o7 q1 q2 q3 q4 q5 q6 q7 q8 q9 s1 s2 s3 s4 N pa m1 m2 m3 m4 m5 m6 m7 m8 hQ (nI k) g1 g2 g3 H locs ls hP hD hS hl hkk
      · refine lv_tableIn (off := 312) (tgt := 344) hx hb dL_law_32 h1 h2 (by rw [hj]; rfl) (by decide) ?_
        exact st_frequency Cx hc G0 G1 G2 G3 G4 E T tl P pl o1 o2 o3 o4 o5 o6 o7 q1 q2 q3 q4 q5 q6 q7 q8 q9 s1 s2 s3 s4 N pa m1 m2 m3 m4 m5 m6 m7 m8 hQ (nI k) g1 g2 g3 H locs ls hP hD hS hl hkk
      · refine lv_tableIn (off := 335) (tgt := 367) hx hb dL_law_32 h1 h2 (by rw [hj]; rfl) (by decide) ?_
        exact st_strokes Cx hc G0 G1 G2 G3 G4 E T tl P pl o1 o2 o3 o4 o5 o6 o7 q1 q2 q3 q4 q5 q6 q7 q8 q9 s1 s2 s3 s4 N pa m1 m2 m3 m4 m5 m6 m7 m8 hQ (nI k) g1 g2 g3 H locs ls hP hD hS hl hkk
      · refine lv_tableIn (off := 358) (tgt := 390) hx hb dL_law_32 h1 h2 (by rw [hj]; rfl) (by decide) ?_
        exact st_stroke Cx hc G0 G1 G2 G3 G4 E T tl P pl o1 o2 o3 o4 o5 o6 o7 q1 q2 q3 q4 q5 q6 q7 q8 q9 s1 s2 s3 s4 N pa m1 m2 m3 m4 m5 m6 m7 m8 hQ (nI k) g1 g2 g3 H locs ls hP hD hS hl hkk
      · refine lv_tableIn (off := 391) (tgt := 423) hx hb dL_law_32 h1 h2 (by rw [hj]; rfl) (by decide) ?_
        exact st_cost Cx hc G0 G1 G2 G3 G4 E T tl P pl o1 o2 o3 o4 o5 o6 o7 q1 q2 q3 q4 q5 q6 q7 q8 q9 s1 s2 s3 s4 N pa m1 m2 m3 m4 m5 m6 m7 m8 hQ (nI k) g1 g2 g3 H locs ls hP hD hS hl hkk
      · refine lv_tableIn (off := 414) (tgt := 446) hx hb dL_law_32 h1 h2 (by rw [hj]; rfl) (by decide) ?_
        exact st_outlines Cx hc G0 G1 G2 G3 G4 E T tl P pl o1 o2 o3 o4 o5 o6 o7 q1 q2 q3 q4 q5 q6 q7 q8 q9 s1 s2 s3 s4 N pa m1 m2 m3 m4 m5 m6 m7 m8 hQ (nI k) g1 g2 g3 H locs ls hP hD hS hl hkk
      · refine lv_tableIn (off := 437) (tgt := 469) hx hb dL_law_32 h1 h2 (by rw [hj]; rfl) (by decide) ?_
        exact st_joinCost Cx hc G0 G1 G2 G3 G4 E T tl P pl o1 o2 o3 o4 o5 o6 o7 q1 q2 q3 q4 q5 q6 q7 q8 q9 s1 s2 s3 s4 N pa m1 m2 m3 m4 m5 m6 m7 m8 hQ (nI k) g1 g2 g3 H locs ls hP hD hS hl hkk
      · refine lv_tableIn (off := 470) (tgt := 502) hx hb dL_law_32 h1 h2 (by rw [hj]; rfl) (by decide) ?_
        exact st_setBrief Cx hc G0 G1 G2 G3 G4 E T tl P pl o1 o2 o3 o4 o5 o6 o7 q1 q2 q3 q4 q5 q6 q7 q8 q9 s1 s2 s3 s4 N pa m1 m2 m3 m4 m5 m6 m7 m8 hQ (nI k) g1 g2 g3 H locs ls hP hD hS hl hkk
      · refine lv_tableIn (off := 503) (tgt := 535) hx hb dL_law_32 h1 h2 (by rw [hj]; rfl) (by decide) ?_
        exact st_clearBrief Cx hc G0 G1 G2 G3 G4 E T tl P pl o1 o2 o3 o4 o5 o6 o7 q1 q2 q3 q4 q5 q6 q7 q8 q9 s1 s2 s3 s4 N pa m1 m2 m3 m4 m5 m6 m7 m8 hQ (nI k) g1 g2 g3 H locs ls hP hD hS hl hkk
      · refine lv_tableIn (off := 526) (tgt := 558) hx hb dL_law_32 h1 h2 (by rw [hj]; rfl) (by decide) ?_
        exact st_brief Cx hc G0 G1 G2 G3 G4 E T tl P pl o1 o2 o3 o4 o5 o6 o7 q1 q2 q3 q4 q5 q6 q7 q8 q9 s1 s2 s3 s4 N pa m1 m2 m3 m4 m5 m6 m7 m8 hQ (nI k) g1 g2 g3 H locs ls hP hD hS hl hkk
      · refine lv_tableIn (off := 549) (tgt := 581) hx hb dL_law_32 h1 h2 (by rw [hj]; rfl) (by decide) ?_
        exact st_gain Cx hc G0 G1 G2 G3 G4 E T tl P pl o1 o2 o3 o4 o5 o6 o7 q1 q2 q3 q4 q5 q6 q7 q8 q9 s1 s2 s3 s4 N pa m1 m2 m3 m4 m5 m6 m7 m8 hQ (nI k) g1 g2 g3 H locs ls hP hD hS hl hkk
      · refine lv_tableIn (off := 572) (tgt := 604) hx hb dL_law_32 h1 h2 (by rw [hj]; rfl) (by decide) ?_
        exact st_proposedWord Cx hc G0 G1 G2 G3 G4 E T tl P pl o1 o2 o3 o4 o5 o6 o7 q1 q2 q3 q4 q5 q6 q7 q8 q9 s1 s2 s3 s4 N pa m1 m2 m3 m4 m5 m6 m7 m8 hQ (nI k) g1 g2 g3 H locs ls hP hD hS hl hkk
      · refine lv_tableIn (off := 595) (tgt := 627) hx hb dL_law_32 h1 h2 (by rw [hj]; rfl) (by decide) ?_
        exact st_proposedStroke Cx hc G0 G1 G2 G3 G4 E T tl P pl o1 o2 o3 o4 o5 o6 o7 q1 q2 q3 q4 q5 q6 q7 q8 q9 s1 s2 s3 s4 N pa m1 m2 m3 m4 m5 m6 m7 m8 hQ (nI k) g1 g2 g3 H locs ls hP hD hS hl hkk
      · refine lv_tableIn (off := 618) (tgt := 650) hx hb dL_law_32 h1 h2 (by rw [hj]; rfl) (by decide) ?_
        exact st_acceptProposal Cx hc G0 G1 G2 G3 G4 E T tl P pl o1 o2 o3 o4 o5 o6 o7 q1 q2 q3 q4 q5 q6 q7 q8 q9 s1 s2 s3 s4 N pa m1 m2 m3 m4 m5 m6 m7 m8 hQ (nI k) g1 g2 g3 H locs ls hP hD hS hl hkk
      · refine lv_tableIn (off := 631) (tgt := 663) hx hb dL_law_32 h1 h2 (by rw [hj]; rfl) (by decide) ?_
        exact st_write Cx hc G0 G1 G2 G3 G4 E T tl P pl o1 o2 o3 o4 o5 o6 o7 q1 q2 q3 q4 q5 q6 q7 q8 q9 s1 s2 s3 s4 N pa m1 m2 m3 m4 m5 m6 m7 m8 hQ (nI k) g1 g2 g3 H locs ls hP hD hS hl hkk
      · refine lv_tableIn (off := 654) (tgt := 686) hx hb dL_law_32 h1 h2 (by rw [hj]; rfl) (by decide) ?_
        exact st_clearPad Cx hc G0 G1 G2 G3 G4 E T tl P pl o1 o2 o3 o4 o5 o6 o7 q1 q2 q3 q4 q5 q6 q7 q8 q9 s1 s2 s3 s4 N pa m1 m2 m3 m4 m5 m6 m7 m8 hQ (nI k) g1 g2 g3 H locs ls hP hD hS hl hkk
      · refine lv_tableIn (off := 667) (tgt := 699) hx hb dL_law_32 h1 h2 (by rw [hj]; rfl) (by decide) ?_
        exact st_reading Cx hc G0 G1 G2 G3 G4 E T tl P pl o1 o2 o3 o4 o5 o6 o7 q1 q2 q3 q4 q5 q6 q7 q8 q9 s1 s2 s3 s4 N pa m1 m2 m3 m4 m5 m6 m7 m8 hQ (nI k) g1 g2 g3 H locs ls hP hD hS hl hkk
      · refine lv_tableIn (off := 690) (tgt := 722) hx hb dL_law_32 h1 h2 (by rw [hj]; rfl) (by decide) ?_
        exact st_doubt Cx hc G0 G1 G2 G3 G4 E T tl P pl o1 o2 o3 o4 o5 o6 o7 q1 q2 q3 q4 q5 q6 q7 q8 q9 s1 s2 s3 s4 N pa m1 m2 m3 m4 m5 m6 m7 m8 hQ (nI k) g1 g2 g3 H locs ls hP hD hS hl hkk
      · refine lv_tableIn (off := 713) (tgt := 745) hx hb dL_law_32 h1 h2 (by rw [hj]; rfl) (by decide) ?_
        exact st_undo Cx hc G0 G1 G2 G3 G4 E T tl P pl o1 o2 o3 o4 o5 o6 o7 q1 q2 q3 q4 q5 q6 q7 q8 q9 s1 s2 s3 s4 N pa m1 m2 m3 m4 m5 m6 m7 m8 hQ (nI k) g1 g2 g3 H locs ls hP hD hS hl hkk
      · refine lv_tableIn (off := 726) (tgt := 758) hx hb dL_law_32 h1 h2 (by rw [hj]; rfl) (by decide) ?_
        exact st_errorCount Cx hc G0 G1 G2 G3 G4 E T tl P pl o1 o2 o3 o4 o5 o6 o7 q1 q2 q3 q4 q5 q6 q7 q8 q9 s1 s2 s3 s4 N pa m1 m2 m3 m4 m5 m6 m7 m8 hQ (nI k) g1 g2 g3 H locs ls hP hD hS hl hkk
      · refine lv_tableIn (off := 749) (tgt := 781) hx hb dL_law_32 h1 h2 (by rw [hj]; rfl) (by decide) ?_
        exact st_digest Cx hc G0 G1 G2 G3 G4 E T tl P pl o1 o2 o3 o4 o5 o6 o7 q1 q2 q3 q4 q5 q6 q7 q8 q9 s1 s2 s3 s4 N pa m1 m2 m3 m4 m5 m6 m7 m8 hQ (nI k) g1 g2 g3 H locs ls hP hD hS hl hkk
