/-! the law from its entry -/
theorem wl_0 : (Cond.classLink RL 7 RX6) ∈ lw_tbl := List.mem_of_getElem? (i := 44) (by decide +kernel)
theorem wl_1 : (Cond.instantiable RX6 8) ∈ lw_tbl := List.mem_of_getElem? (i := 45) (by decide +kernel)
theorem wl_2 : (Cond.initialized RX6) ∈ lw_tbl := List.mem_of_getElem? (i := 34) (by decide +kernel)
theorem wl_3 : (Cond.methodLink RL 9 yX6_init) ∈ lw_tbl := List.mem_of_getElem? (i := 46) (by decide +kernel)
theorem wl_4 : (Cond.instanceMethod yX6_init) ∈ lw_tbl := List.mem_of_getElem? (i := 47) (by decide +kernel)
theorem wl_5 : (Cond.classLink RL 10 RX7) ∈ lw_tbl := List.mem_of_getElem? (i := 545) (by decide +kernel)
theorem wl_6 : (Cond.instantiable RX7 16) ∈ lw_tbl := List.mem_of_getElem? (i := 546) (by decide +kernel)
theorem wl_7 : (Cond.initialized RX7) ∈ lw_tbl := List.mem_of_getElem? (i := 41) (by decide +kernel)
theorem wl_8 : (Cond.methodLink RL 12 yX7_init) ∈ lw_tbl := List.mem_of_getElem? (i := 547) (by decide +kernel)
theorem wl_9 : (Cond.instanceMethod yX7_init) ∈ lw_tbl := List.mem_of_getElem? (i := 548) (by decide +kernel)
theorem wl_10 : (Cond.instantiable RX0 2) ∈ lw_tbl := List.mem_of_getElem? (i := 101) (by decide +kernel)
theorem wl_11 : (Cond.instantiable RX1 7) ∈ lw_tbl := List.mem_of_getElem? (i := 118) (by decide +kernel)
theorem wl_12 : (Cond.instantiable RX2 3) ∈ lw_tbl := List.mem_of_getElem? (i := 191) (by decide +kernel)
theorem wl_13 : (Cond.instantiable RX3 3) ∈ lw_tbl := List.mem_of_getElem? (i := 149) (by decide +kernel)
theorem wl_14 : (Cond.instantiable RX4 4) ∈ lw_tbl := List.mem_of_getElem? (i := 155) (by decide +kernel)
theorem wl_15 : (Cond.instantiable RX5 8) ∈ lw_tbl := List.mem_of_getElem? (i := 53) (by decide +kernel)
theorem wl_16 : (Cond.arrayClass .int) ∈ lw_tbl := List.mem_of_getElem? (i := 99) (by decide +kernel)
theorem wl_17 : (Cond.arrayClass .boolean) ∈ lw_tbl := List.mem_of_getElem? (i := 189) (by decide +kernel)
theorem wl_18 : (Cond.arrayOver (.object RX5)) ∈ lw_tbl := List.mem_of_getElem? (i := 107) (by decide +kernel)
theorem wl_19 : (Cond.methodLinkNest RX6 25 yX1_init RX6) ∈ lw_tbl := List.mem_of_getElem? (i := 119) (by decide +kernel)
theorem wl_20 : (Cond.methodLinkNest RX6 32 yX3_init RX6) ∈ lw_tbl := List.mem_of_getElem? (i := 150) (by decide +kernel)
theorem wl_21 : (Cond.methodLinkNest RX3 11 yX4_init RX6) ∈ lw_tbl := List.mem_of_getElem? (i := 156) (by decide +kernel)
theorem wl_22 : (Cond.methodLinkNest RX6 39 yX2_init RX6) ∈ lw_tbl := List.mem_of_getElem? (i := 192) (by decide +kernel)
theorem wl_23 : (Cond.methodLinkNest RX2 21 yX4_init RX6) ∈ lw_tbl := List.mem_of_getElem? (i := 197) (by decide +kernel)
theorem wl_24 : (Cond.methodLinkNest RX1 74 yX6_join RX6) ∈ lw_tbl := List.mem_of_getElem? (i := 352) (by decide +kernel)
theorem wl_25 : (Cond.methodLinkNest RX2 52 yX6_difference RX6) ∈ lw_tbl := List.mem_of_getElem? (i := 486) (by decide +kernel)
theorem wl_26 : (Cond.methodLinkNest RX5 62 yX6_difference RX6) ∈ lw_tbl := List.mem_of_getElem? (i := 500) (by decide +kernel)
theorem ly_L_law_X6 : ∀ w ∈ wsX60, w ∈ wsL_law := fun _ h => List.mem_append_left _ (List.mem_append_left _ (List.mem_append_left _ (List.mem_append_left _ (List.mem_append_left _ (List.mem_append_left _ (List.mem_append_left _ (List.mem_append_left _ (List.mem_append_right _ h))))))))
theorem ly_L_law_X7 : ∀ w ∈ wsX70, w ∈ wsL_law := fun _ h => List.mem_append_left _ (List.mem_append_left _ (List.mem_append_left _ (List.mem_append_left _ (List.mem_append_left _ (List.mem_append_left _ (List.mem_append_left _ (List.mem_append_right _ h)))))))
theorem op_start0 : ∃ (u : (Nat → Int32) × (Nat → Int32) × (Nat → Int32) × (Nat → Int32) × (Nat → Int32) × (Nat → Int32) × (Nat → Int32) × (Nat → Int32) × (Nat → Int32) × (Nat → Int32) × (Nat → Int32) × (Nat → Int32)) (N : Nat → Int32), fn_X6_init = some u ∧ fn_X7_init = some N ∧ ∀ G0 G1 G2 G3 G4 : GT, INVP N u.1 u.2.1 17 0 (fun _ => 0) (fun _ => 0) (fun _ => 0) (fun _ => 0) 0 G0 G1 G2 G3 G4 (fun _ => 0) 0 (fun _ => 0) 0 := by
  let g : GT := ((0, 0, 0, 0, 0, 0, 0), fun _ => 0, fun _ => 0, 0, 0, fun _ => 0, fun _ => 0, fun _ => 0, fun _ => 0)
  obtain ⟨a, b, N, h1, h2, -⟩ := op_start g g g g g
  refine ⟨(a, b, a, b, a, b, a, b, a, b, a, b), N, h1, h2, fun G0 G1 G2 G3 G4 => ?_⟩
  obtain ⟨a', b', N', h3, h4, h5⟩ := op_start G0 G1 G2 G3 G4
  rw [h1] at h3
  rw [h2] at h4
  cases h3
  cases h4
  exact h5
def LWx (cI cZ cS : ClassId) (e0 e1 e2 e3 e4 e5 e6 e7 e8 e9 e45 e46 e47 e48 e49 e50 e51 e52 e53 e54 e55 e56 e57 e58 e59 e60 e61 e62 e63 e64 e65 e66 e67 e68 d0 d1 d2 d3 d4 d5 d6 d7 d8 d9 : Nat) (cF : Nat → Int32) (cE : Nat → Int32) (vo : Int32) (wc : Int32) (cP : Nat → Int32) (cL : Nat → Int32) (cQ : Nat → Int32) (cB : Nat → Int32) (hc : Int32) (G0 : GT) (G1 : GT) (G2 : GT) (G3 : GT) (G4 : GT) (E : Nat → Int32) (T : Nat → Int32) (tl : Int32) (P : Nat → Int32) (pl : Int32) (o1 : Int32) (o2 : Int32) (o3 : Nat → Int32) (o4 : Nat → Int32) (o5 : Nat → Int32) (o6 : Nat → Int32) (o7 : Nat → Int32) (q1 : Int32) (q2 : Nat → Int32) (q3 : Nat → Int32) (q4 : Nat → Int32) (q5 : Int32) (q6 : Nat → Int32) (q7 : Nat → Int32) (q8 : Nat → Int32) (q9 : Nat → Int32) (s1 : Int32) (s2 : Nat → Int32) (s3 : Nat → Int32) (s4 : Nat → Int32) (N : Nat → Int32) (pa : Nat → Int32) (m1 : Nat → Int32) (m2 : Int32) (m3 : Nat → Int32) (m4 : Nat → Int32) (m5 : Int32) (m6 : Nat → Int32) (m7 : Int32) (m8 : Int64) : va_W := [(e0, .inr (6, [.ref e1, .ref e8, .ref e45, .ref e51, .ref e61, .ref e67, .int tl, .ref e68])), (e1, .inr (5, [.ref e2, .ref e3, .int vo, .int wc, .ref e4, .ref e5, .ref e6, .ref e7])), (e2, .inl (cI, 8, .inl cF)), (e3, .inl (cI, 8, .inl cE)), (e4, .inl (cI, 96, .inl cP)), (e5, .inl (cI, 12, .inl cL)), (e6, .inl (cI, 12, .inl cQ)), (e7, .inl (cI, 12, .inl cB)), (e8, .inr (0, [.ref e9, .int hc])), (e9, .inl (cS, 5, .inr (.inr (.inr (.inr (hv5 (G0.1.1) (G1.1.1) (G2.1.1) (G3.1.1) (G4.1.1))))))), (G0.1.1, .inr (5, [.ref G0.1.2.1, .ref G0.1.2.2.1, .int G0.2.2.2.1, .int G0.2.2.2.2.1, .ref G0.1.2.2.2.1, .ref G0.1.2.2.2.2.1, .ref G0.1.2.2.2.2.2.1, .ref G0.1.2.2.2.2.2.2])), (G0.1.2.1, .inl (cI, 8, .inl G0.2.1)), (G0.1.2.2.1, .inl (cI, 8, .inl G0.2.2.1)), (G0.1.2.2.2.1, .inl (cI, 96, .inl G0.2.2.2.2.2.1)), (G0.1.2.2.2.2.1, .inl (cI, 12, .inl G0.2.2.2.2.2.2.1)), (G0.1.2.2.2.2.2.1, .inl (cI, 12, .inl G0.2.2.2.2.2.2.2.1)), (G0.1.2.2.2.2.2.2, .inl (cI, 12, .inl G0.2.2.2.2.2.2.2.2)), (G1.1.1, .inr (5, [.ref G1.1.2.1, .ref G1.1.2.2.1, .int G1.2.2.2.1, .int G1.2.2.2.2.1, .ref G1.1.2.2.2.1, .ref G1.1.2.2.2.2.1, .ref G1.1.2.2.2.2.2.1, .ref G1.1.2.2.2.2.2.2])), (G1.1.2.1, .inl (cI, 8, .inl G1.2.1)), (G1.1.2.2.1, .inl (cI, 8, .inl G1.2.2.1)), (G1.1.2.2.2.1, .inl (cI, 96, .inl G1.2.2.2.2.2.1)), (G1.1.2.2.2.2.1, .inl (cI, 12, .inl G1.2.2.2.2.2.2.1)), (G1.1.2.2.2.2.2.1, .inl (cI, 12, .inl G1.2.2.2.2.2.2.2.1)), (G1.1.2.2.2.2.2.2, .inl (cI, 12, .inl G1.2.2.2.2.2.2.2.2)), (G2.1.1, .inr (5, [.ref G2.1.2.1, .ref G2.1.2.2.1, .int G2.2.2.2.1, .int G2.2.2.2.2.1, .ref G2.1.2.2.2.1, .ref G2.1.2.2.2.2.1, .ref G2.1.2.2.2.2.2.1, .ref G2.1.2.2.2.2.2.2])), (G2.1.2.1, .inl (cI, 8, .inl G2.2.1)), (G2.1.2.2.1, .inl (cI, 8, .inl G2.2.2.1)), (G2.1.2.2.2.1, .inl (cI, 96, .inl G2.2.2.2.2.2.1)), (G2.1.2.2.2.2.1, .inl (cI, 12, .inl G2.2.2.2.2.2.2.1)), (G2.1.2.2.2.2.2.1, .inl (cI, 12, .inl G2.2.2.2.2.2.2.2.1)), (G2.1.2.2.2.2.2.2, .inl (cI, 12, .inl G2.2.2.2.2.2.2.2.2)), (G3.1.1, .inr (5, [.ref G3.1.2.1, .ref G3.1.2.2.1, .int G3.2.2.2.1, .int G3.2.2.2.2.1, .ref G3.1.2.2.2.1, .ref G3.1.2.2.2.2.1, .ref G3.1.2.2.2.2.2.1, .ref G3.1.2.2.2.2.2.2])), (G3.1.2.1, .inl (cI, 8, .inl G3.2.1)), (G3.1.2.2.1, .inl (cI, 8, .inl G3.2.2.1)), (G3.1.2.2.2.1, .inl (cI, 96, .inl G3.2.2.2.2.2.1)), (G3.1.2.2.2.2.1, .inl (cI, 12, .inl G3.2.2.2.2.2.2.1)), (G3.1.2.2.2.2.2.1, .inl (cI, 12, .inl G3.2.2.2.2.2.2.2.1)), (G3.1.2.2.2.2.2.2, .inl (cI, 12, .inl G3.2.2.2.2.2.2.2.2)), (G4.1.1, .inr (5, [.ref G4.1.2.1, .ref G4.1.2.2.1, .int G4.2.2.2.1, .int G4.2.2.2.2.1, .ref G4.1.2.2.2.1, .ref G4.1.2.2.2.2.1, .ref G4.1.2.2.2.2.2.1, .ref G4.1.2.2.2.2.2.2])), (G4.1.2.1, .inl (cI, 8, .inl G4.2.1)), (G4.1.2.2.1, .inl (cI, 8, .inl G4.2.2.1)), (G4.1.2.2.2.1, .inl (cI, 96, .inl G4.2.2.2.2.2.1)), (G4.1.2.2.2.2.1, .inl (cI, 12, .inl G4.2.2.2.2.2.2.1)), (G4.1.2.2.2.2.2.1, .inl (cI, 12, .inl G4.2.2.2.2.2.2.2.1)), (G4.1.2.2.2.2.2.2, .inl (cI, 12, .inl G4.2.2.2.2.2.2.2.2)), (e45, .inr (1, [.ref e46, .int o1, .int o2, .ref e47, .ref e48, .ref e49, .ref e50])), (e46, .inl (cI, 8, .inl o3)), (e47, .inl (cI, 8, .inl o4)), (e48, .inl (cI, 8, .inl o5)), (e49, .inl (cI, 8, .inl o6)), (e50, .inl (cI, 8, .inl o7)), (e51, .inr (3, [.ref e52, .ref e56, .ref e60])), (e52, .inr (4, [.ref e53, .ref e54, .ref e55, .int q1])), (e53, .inl (cI, 12, .inl q2)), (e54, .inl (cI, 12, .inl q3)), (e55, .inl (cI, 12, .inl q4)), (e56, .inr (4, [.ref e57, .ref e58, .ref e59, .int q5])), (e57, .inl (cI, 12, .inl q6)), (e58, .inl (cI, 12, .inl q7)), (e59, .inl (cI, 12, .inl q8)), (e60, .inl (cZ, 24, .inl q9)), (e61, .inr (2, [.ref e62, .int pl, .ref e63])), (e62, .inl (cI, 8, .inl P)), (e63, .inr (4, [.ref e64, .ref e65, .ref e66, .int s1])), (e64, .inl (cI, 12, .inl s2)), (e65, .inl (cI, 12, .inl s3)), (e66, .inl (cI, 12, .inl s4)), (e67, .inl (cI, 8, .inl T)), (e68, .inl (cI, 4, .inl E)), (d0, .inr (7, [.ref d1, .ref d2, .int hc, .ref d3, .ref d4, .int tl, .ref d5, .int pl, .ref d6, .int m2, .ref d7, .ref d8, .int m5, .ref d9, .int m7, .long m8])), (d1, .inl (cI, 150, .inl N)), (d2, .inl (cI, 750, .inl pa)), (d3, .inl (cI, 4, .inl E)), (d4, .inl (cI, 8, .inl T)), (d5, .inl (cI, 8, .inl P)), (d6, .inl (cI, 8, .inl m1)), (d7, .inl (cI, 12, .inl m3)), (d8, .inl (cI, 12, .inl m4)), (d9, .inl (cI, 12, .inl m6))]
set_option maxHeartbeats 8000000 in
set_option maxRecDepth 100000 in
theorem start_fin {p : Program} {l : Launch} {e : Env} {s : State} {m : MethodId} {below : List Frame} {meth : Method} {c : Code} {D : va_G} {cI cZ cS : ClassId} {b L : Nat} {xs : Nat → Int32} {Q : State → Prop} (hL : L ≤ 2048) (Cx : LX p s m c b L xs D cI cZ cS) (kx : ∀ (H : Heap) (locs : List Loc) (ls : Array Slot), va_S (fun q : Nat => s.heap.size ≤ q) s.heap H locs → W p l e room_1 s m #[Value.ref b] below meth c H locs 79 2148 Q (F0 m 801 ls [])) (e0 e1 e2 e3 e4 e5 e6 e7 e8 e9 e45 e46 e47 e48 e49 e50 e51 e52 e53 e54 e55 e56 e57 e58 e59 e60 e61 e62 e63 e64 e65 e66 e67 e68 d0 d1 d2 d3 d4 d5 d6 d7 d8 d9 : Nat) (G0 G1 G2 G3 G4 : GT) (a b2 N : Nat → Int32) (hI : INVP N a b2 17 0 (fun _ => 0) (fun _ => 0) (fun _ => 0) (fun _ => 0) 0 G0 G1 G2 G3 G4 (fun _ => 0) 0 (fun _ => 0) 0) (H : Heap) (locs : List Loc) (ls : Array Slot) (hP : va_P D vwCl (LWx cI cZ cS e0 e1 e2 e3 e4 e5 e6 e7 e8 e9 e45 e46 e47 e48 e49 e50 e51 e52 e53 e54 e55 e56 e57 e58 e59 e60 e61 e62 e63 e64 e65 e66 e67 e68 d0 d1 d2 d3 d4 d5 d6 d7 d8 d9 a b2 17 0 (fun _ => 0) (fun _ => 0) (fun _ => 0) (fun _ => 0) 0 G0 G1 G2 G3 G4 (fun _ => 0) (fun _ => 0) 0 (fun _ => 0) 0 0 0 (fun _ => 0) (fun _ => 0) (fun _ => 0) (fun _ => 0) (fun _ => 0) 0 (fun _ => 0) (fun _ => 0) (fun _ => 0) 0 (fun _ => 0) (fun _ => 0) (fun _ => 0) (fun _ => 0) 0 (fun _ => 0) (fun _ => 0) (fun _ => 0) N (fun _ => 0) (fun _ => 0) 0 (fun _ => 0) (fun _ => 0) 0 (fun _ => 0) 0 0) H) (hD : va_D (fun q : Nat => s.heap.size ≤ q) (LWx cI cZ cS e0 e1 e2 e3 e4 e5 e6 e7 e8 e9 e45 e46 e47 e48 e49 e50 e51 e52 e53 e54 e55 e56 e57 e58 e59 e60 e61 e62 e63 e64 e65 e66 e67 e68 d0 d1 d2 d3 d4 d5 d6 d7 d8 d9 a b2 17 0 (fun _ => 0) (fun _ => 0) (fun _ => 0) (fun _ => 0) 0 G0 G1 G2 G3 G4 (fun _ => 0) (fun _ => 0) 0 (fun _ => 0) 0 0 0 (fun _ => 0) (fun _ => 0) (fun _ => 0) (fun _ => 0) (fun _ => 0) 0 (fun _ => 0) (fun _ => 0) (fun _ => 0) 0 (fun _ => 0) (fun _ => 0) (fun _ => 0) (fun _ => 0) 0 (fun _ => 0) (fun _ => 0) (fun _ => 0) N (fun _ => 0) (fun _ => 0) 0 (fun _ => 0) (fun _ => 0) 0 (fun _ => 0) 0 0)) (hS : va_S (fun q : Nat => s.heap.size ≤ q) s.heap H locs) (hl : lv_has ls 4 [(0, .ref b), (1, .ref e0), (2, .ref d0), (3, .int (0 : Int32))]) : W p l e room_1 s m #[Value.ref b] below meth c H locs 79 2148 Q (F0 m 18 ls []) := by
  obtain ⟨ea, he0, he1, he2, he3, he4, he5, he6, he7, he8, he9, he45, he46, he47, he48, he49, he50, he51, he52, he53, he54, he55, he56, he57, he58, he59, he60, he61, he62, he63, he64, he65, he66, he67, he68⟩ : ∃ ea : Nat → Nat, ea 0 = e0 ∧ ea 1 = e1 ∧ ea 2 = e2 ∧ ea 3 = e3 ∧ ea 4 = e4 ∧ ea 5 = e5 ∧ ea 6 = e6 ∧ ea 7 = e7 ∧ ea 8 = e8 ∧ ea 9 = e9 ∧ ea 45 = e45 ∧ ea 46 = e46 ∧ ea 47 = e47 ∧ ea 48 = e48 ∧ ea 49 = e49 ∧ ea 50 = e50 ∧ ea 51 = e51 ∧ ea 52 = e52 ∧ ea 53 = e53 ∧ ea 54 = e54 ∧ ea 55 = e55 ∧ ea 56 = e56 ∧ ea 57 = e57 ∧ ea 58 = e58 ∧ ea 59 = e59 ∧ ea 60 = e60 ∧ ea 61 = e61 ∧ ea 62 = e62 ∧ ea 63 = e63 ∧ ea 64 = e64 ∧ ea 65 = e65 ∧ ea 66 = e66 ∧ ea 67 = e67 ∧ ea 68 = e68 := ⟨fun k => if k < 10 then ([e0, e1, e2, e3, e4, e5, e6, e7, e8, e9] : List Nat).getD k 0 else ([e45, e46, e47, e48, e49, e50, e51, e52, e53, e54, e55, e56, e57, e58, e59, e60, e61, e62, e63, e64, e65, e66, e67, e68] : List Nat).getD (k - 45) 0, rfl, rfl, rfl, rfl, rfl, rfl, rfl, rfl, rfl, rfl, rfl, rfl, rfl, rfl, rfl, rfl, rfl, rfl, rfl, rfl, rfl, rfl, rfl, rfl, rfl, rfl, rfl, rfl, rfl, rfl, rfl, rfl, rfl, rfl⟩
  obtain ⟨da, hd0, hd1, hd2, hd3, hd4, hd5, hd6, hd7, hd8, hd9⟩ : ∃ da : Nat → Nat, da 0 = d0 ∧ da 1 = d1 ∧ da 2 = d2 ∧ da 3 = d3 ∧ da 4 = d4 ∧ da 5 = d5 ∧ da 6 = d6 ∧ da 7 = d7 ∧ da 8 = d8 ∧ da 9 = d9 := ⟨fun k => ([d0, d1, d2, d3, d4, d5, d6, d7, d8, d9] : List Nat).getD k 0, rfl, rfl, rfl, rfl, rfl, rfl, rfl, rfl, rfl, rfl⟩
  subst he0
  subst he1
  subst he2
  subst he3
  subst he4
  subst he5
  subst he6
  subst he7
  subst he8
  subst he9
  subst he45
  subst he46
  subst he47
  subst he48
  subst he49
  subst he50
  subst he51
  subst he52
  subst he53
  subst he54
  subst he55
  subst he56
  subst he57
  subst he58
  subst he59
  subst he60
  subst he61
  subst he62
  subst he63
  subst he64
  subst he65
  subst he66
  subst he67
  subst he68
  subst hd0
  subst hd1
  subst hd2
  subst hd3
  subst hd4
  subst hd5
  subst hd6
  subst hd7
  subst hd8
  subst hd9
  exact law_loop (ea := ea) (da := da) hL Cx kx (L + 1) 0 (Nat.zero_le L) (by omega) a b2 17 0 (fun _ => 0) (fun _ => 0) (fun _ => 0) (fun _ => 0) 0 G0 G1 G2 G3 G4 (fun _ => 0) (fun _ => 0) 0 (fun _ => 0) 0 0 0 (fun _ => 0) (fun _ => 0) (fun _ => 0) (fun _ => 0) (fun _ => 0) 0 (fun _ => 0) (fun _ => 0) (fun _ => 0) 0 (fun _ => 0) (fun _ => 0) (fun _ => 0) (fun _ => 0) 0 (fun _ => 0) (fun _ => 0) (fun _ => 0) N (fun _ => 0) (fun _ => 0) 0 (fun _ => 0) (fun _ => 0) 0 (fun _ => 0) 0 0 H locs ls hI hP hD hS hl
