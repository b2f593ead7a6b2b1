/-! the law's walk: its world and what a step of it leaves -/
theorem lv_lcmpS {p : Program} {l : Launch} {e : Env} {R : Room} {s : State} {m : MethodId} {args : Array Value} {below : List Frame} {meth : Method} {c : Code} {H : Heap} {locs : List Loc} {cells slots : Nat} {Q : State → Prop} {cc : ByteArray} {pc : Nat} {ls : Array Slot} {rest : List Value} (hexec : p.tables.exec = Jvm.exec) (hb : c.code = cc) {x : Int64} (hdg : decode cc pc = .ok (.lcmp, 1))
    (k : W p l e R s m args below meth c H locs cells slots Q (F0 m (pc + 1) ls (.int 0 :: rest))) : W p l e R s m args below meth c H locs cells slots Q (F0 m pc ls (.long x :: .long x :: rest)) := by
  intro T hT X
  obtain ⟨t, a, b⟩ := k T hT X
  refine ⟨t, ?_, b⟩
  jvm_step X.here [X.here.top, hexec, hb, hdg]
  exact a
theorem arrV_c {cA : ClassId} {n : Nat} {f g : Nat → Value} (h : ∀ j, j < n → f j = g j) : arrV cA n f = arrV cA n g := by
  have e : (fun j : Fin n => f j.val) = fun j => g j.val := funext fun j => h j.val j.isLt
  unfold arrV
  rw [e]
theorem vp_c {cA : ClassId} {n : Nat} {f g : Nat → Int32} (h : ∀ j, j < n → f j = g j) : vp_cell cA (n, .inl f) = vp_cell cA (n, .inl g) := by
  rw [vp_cell_i, vp_cell_i]
  exact arrV_c (fun j hj => by rw [h j hj])
theorem P_set {D : va_G} {cl : List vw_C} {ws : va_W} {H : Heap} {q : Nat × va_E} (i : Nat) (h : va_P D cl ws H) (hq : va_at D cl q H) : va_P D cl (ws.set i q) H := by
  intro k x hk
  rw [List.getElem?_set] at hk
  split at hk
  · split at hk
    · cases hk
      exact hq
    · cases hk
  · exact h k x hk
theorem P_arr {D : va_G} {cl : List vw_C} {ws : va_W} {H : Heap} {a n : Nat} {cA : ClassId} {f g : Nat → Int32} (i : Nat) (h : va_P D cl ws H) (hi : ws[i]? = some (a, .inl (cA, n, .inl f))) (e : ∀ j, j < n → f j = g j) : va_P D cl (ws.set i (a, .inl (cA, n, .inl g))) H := by
  refine P_set i h ?_
  have h1 := h i _ hi
  show H[a]? = some (vp_cell cA (n, .inl g))
  rw [← vp_c e]
  exact h1
theorem D_map {A : Nat → Prop} {ws ws' : va_W} (h : va_D A ws) (e : ws'.map (fun q => q.1) = ws.map (fun q => q.1)) : va_D A ws' := by
  have key : ∀ (k : Nat) (q : Nat × va_E), ws'[k]? = some q → ∃ z, ws[k]? = some (q.1, z) := fun k q hk => by
    have h1 : (ws'.map (fun q => q.1))[k]? = some q.1 := by rw [List.getElem?_map, hk]; rfl
    rw [e, List.getElem?_map] at h1
    cases h2 : ws[k]? with
    | none => rw [h2] at h1; cases h1
    | some y =>
      rw [h2] at h1
      obtain ⟨y1, y2⟩ := y
      cases h1
      exact ⟨y2, rfl⟩
  refine ⟨fun i j p q hi hj hpq => ?_, fun k q hk => ?_⟩
  · obtain ⟨z1, e1⟩ := key i p hi
    obtain ⟨z2, e2⟩ := key j q hj
    exact h.1 i j _ _ e1 e2 hpq
  · obtain ⟨z, e1⟩ := key k q hk
    exact h.2 k (q.1, z) e1
def LW (cI cZ cS : ClassId) (ea da : Nat → Nat) (cF : Nat → Int32) (cE : Nat → Int32) (vo : Int32) (wc : Int32) (cP : Nat → Int32) (cL : Nat → Int32) (cQ : Nat → Int32) (cB : Nat → Int32) (hc : Int32) (G0 : GT) (G1 : GT) (G2 : GT) (G3 : GT) (G4 : GT) (E : Nat → Int32) (T : Nat → Int32) (tl : Int32) (P : Nat → Int32) (pl : Int32) (o1 : Int32) (o2 : Int32) (o3 : Nat → Int32) (o4 : Nat → Int32) (o5 : Nat → Int32) (o6 : Nat → Int32) (o7 : Nat → Int32) (q1 : Int32) (q2 : Nat → Int32) (q3 : Nat → Int32) (q4 : Nat → Int32) (q5 : Int32) (q6 : Nat → Int32) (q7 : Nat → Int32) (q8 : Nat → Int32) (q9 : Nat → Int32) (s1 : Int32) (s2 : Nat → Int32) (s3 : Nat → Int32) (s4 : Nat → Int32) (N : Nat → Int32) (pa : Nat → Int32) (m1 : Nat → Int32) (m2 : Int32) (m3 : Nat → Int32) (m4 : Nat → Int32) (m5 : Int32) (m6 : Nat → Int32) (m7 : Int32) (m8 : Int64) : va_W := [((ea 0), .inr (6, [.ref (ea 1), .ref (ea 8), .ref (ea 45), .ref (ea 51), .ref (ea 61), .ref (ea 67), .int tl, .ref (ea 68)])), ((ea 1), .inr (5, [.ref (ea 2), .ref (ea 3), .int vo, .int wc, .ref (ea 4), .ref (ea 5), .ref (ea 6), .ref (ea 7)])), ((ea 2), .inl (cI, 8, .inl cF)), ((ea 3), .inl (cI, 8, .inl cE)), ((ea 4), .inl (cI, 96, .inl cP)), ((ea 5), .inl (cI, 12, .inl cL)), ((ea 6), .inl (cI, 12, .inl cQ)), ((ea 7), .inl (cI, 12, .inl cB)), ((ea 8), .inr (0, [.ref (ea 9), .int hc])), ((ea 9), .inl (cS, 5, .inr (.inr (.inr (.inr (hv5 (G0.1.1) (G1.1.1) (G2.1.1) (G3.1.1) (G4.1.1))))))), (G0.1.1, .inr (5, [.ref G0.1.2.1, .ref G0.1.2.2.1, .int G0.2.2.2.1, .int G0.2.2.2.2.1, .ref G0.1.2.2.2.1, .ref G0.1.2.2.2.2.1, .ref G0.1.2.2.2.2.2.1, .ref G0.1.2.2.2.2.2.2])), (G0.1.2.1, .inl (cI, 8, .inl G0.2.1)), (G0.1.2.2.1, .inl (cI, 8, .inl G0.2.2.1)), (G0.1.2.2.2.1, .inl (cI, 96, .inl G0.2.2.2.2.2.1)), (G0.1.2.2.2.2.1, .inl (cI, 12, .inl G0.2.2.2.2.2.2.1)), (G0.1.2.2.2.2.2.1, .inl (cI, 12, .inl G0.2.2.2.2.2.2.2.1)), (G0.1.2.2.2.2.2.2, .inl (cI, 12, .inl G0.2.2.2.2.2.2.2.2)), (G1.1.1, .inr (5, [.ref G1.1.2.1, .ref G1.1.2.2.1, .int G1.2.2.2.1, .int G1.2.2.2.2.1, .ref G1.1.2.2.2.1, .ref G1.1.2.2.2.2.1, .ref G1.1.2.2.2.2.2.1, .ref G1.1.2.2.2.2.2.2])), (G1.1.2.1, .inl (cI, 8, .inl G1.2.1)), (G1.1.2.2.1, .inl (cI, 8, .inl G1.2.2.1)), (G1.1.2.2.2.1, .inl (cI, 96, .inl G1.2.2.2.2.2.1)), (G1.1.2.2.2.2.1, .inl (cI, 12, .inl G1.2.2.2.2.2.2.1)), (G1.1.2.2.2.2.2.1, .inl (cI, 12, .inl G1.2.2.2.2.2.2.2.1)), (G1.1.2.2.2.2.2.2, .inl (cI, 12, .inl G1.2.2.2.2.2.2.2.2)), (G2.1.1, .inr (5, [.ref G2.1.2.1, .ref G2.1.2.2.1, .int G2.2.2.2.1, .int G2.2.2.2.2.1, .ref G2.1.2.2.2.1, .ref G2.1.2.2.2.2.1, .ref G2.1.2.2.2.2.2.1, .ref G2.1.2.2.2.2.2.2])), (G2.1.2.1, .inl (cI, 8, .inl G2.2.1)), (G2.1.2.2.1, .inl (cI, 8, .inl G2.2.2.1)), (G2.1.2.2.2.1, .inl (cI, 96, .inl G2.2.2.2.2.2.1)), (G2.1.2.2.2.2.1, .inl (cI, 12, .inl G2.2.2.2.2.2.2.1)), (G2.1.2.2.2.2.2.1, .inl (cI, 12, .inl G2.2.2.2.2.2.2.2.1)), (G2.1.2.2.2.2.2.2, .inl (cI, 12, .inl G2.2.2.2.2.2.2.2.2)), (G3.1.1, .inr (5, [.ref G3.1.2.1, .ref G3.1.2.2.1, .int G3.2.2.2.1, .int G3.2.2.2.2.1, .ref G3.1.2.2.2.1, .ref G3.1.2.2.2.2.1, .ref G3.1.2.2.2.2.2.1, .ref G3.1.2.2.2.2.2.2])), (G3.1.2.1, .inl (cI, 8, .inl G3.2.1)), (G3.1.2.2.1, .inl (cI, 8, .inl G3.2.2.1)), (G3.1.2.2.2.1, .inl (cI, 96, .inl G3.2.2.2.2.2.1)), (G3.1.2.2.2.2.1, .inl (cI, 12, .inl G3.2.2.2.2.2.2.1)), (G3.1.2.2.2.2.2.1, .inl (cI, 12, .inl G3.2.2.2.2.2.2.2.1)), (G3.1.2.2.2.2.2.2, .inl (cI, 12, .inl G3.2.2.2.2.2.2.2.2)), (G4.1.1, .inr (5, [.ref G4.1.2.1, .ref G4.1.2.2.1, .int G4.2.2.2.1, .int G4.2.2.2.2.1, .ref G4.1.2.2.2.1, .ref G4.1.2.2.2.2.1, .ref G4.1.2.2.2.2.2.1, .ref G4.1.2.2.2.2.2.2])), (G4.1.2.1, .inl (cI, 8, .inl G4.2.1)), (G4.1.2.2.1, .inl (cI, 8, .inl G4.2.2.1)), (G4.1.2.2.2.1, .inl (cI, 96, .inl G4.2.2.2.2.2.1)), (G4.1.2.2.2.2.1, .inl (cI, 12, .inl G4.2.2.2.2.2.2.1)), (G4.1.2.2.2.2.2.1, .inl (cI, 12, .inl G4.2.2.2.2.2.2.2.1)), (G4.1.2.2.2.2.2.2, .inl (cI, 12, .inl G4.2.2.2.2.2.2.2.2)), ((ea 45), .inr (1, [.ref (ea 46), .int o1, .int o2, .ref (ea 47), .ref (ea 48), .ref (ea 49), .ref (ea 50)])), ((ea 46), .inl (cI, 8, .inl o3)), ((ea 47), .inl (cI, 8, .inl o4)), ((ea 48), .inl (cI, 8, .inl o5)), ((ea 49), .inl (cI, 8, .inl o6)), ((ea 50), .inl (cI, 8, .inl o7)), ((ea 51), .inr (3, [.ref (ea 52), .ref (ea 56), .ref (ea 60)])), ((ea 52), .inr (4, [.ref (ea 53), .ref (ea 54), .ref (ea 55), .int q1])), ((ea 53), .inl (cI, 12, .inl q2)), ((ea 54), .inl (cI, 12, .inl q3)), ((ea 55), .inl (cI, 12, .inl q4)), ((ea 56), .inr (4, [.ref (ea 57), .ref (ea 58), .ref (ea 59), .int q5])), ((ea 57), .inl (cI, 12, .inl q6)), ((ea 58), .inl (cI, 12, .inl q7)), ((ea 59), .inl (cI, 12, .inl q8)), ((ea 60), .inl (cZ, 24, .inl q9)), ((ea 61), .inr (2, [.ref (ea 62), .int pl, .ref (ea 63)])), ((ea 62), .inl (cI, 8, .inl P)), ((ea 63), .inr (4, [.ref (ea 64), .ref (ea 65), .ref (ea 66), .int s1])), ((ea 64), .inl (cI, 12, .inl s2)), ((ea 65), .inl (cI, 12, .inl s3)), ((ea 66), .inl (cI, 12, .inl s4)), ((ea 67), .inl (cI, 8, .inl T)), ((ea 68), .inl (cI, 4, .inl E)), ((da 0), .inr (7, [.ref (da 1), .ref (da 2), .int hc, .ref (da 3), .ref (da 4), .int tl, .ref (da 5), .int pl, .ref (da 6), .int m2, .ref (da 7), .ref (da 8), .int m5, .ref (da 9), .int m7, .long m8])), ((da 1), .inl (cI, 150, .inl N)), ((da 2), .inl (cI, 750, .inl pa)), ((da 3), .inl (cI, 4, .inl E)), ((da 4), .inl (cI, 8, .inl T)), ((da 5), .inl (cI, 8, .inl P)), ((da 6), .inl (cI, 8, .inl m1)), ((da 7), .inl (cI, 12, .inl m3)), ((da 8), .inl (cI, 12, .inl m4)), ((da 9), .inl (cI, 12, .inl m6))]
theorem LW_can {D : va_G} {A : Nat → Prop} {cI cZ cS : ClassId} {H : Heap} {ea da : Nat → Nat} {cF : Nat → Int32} {cE : Nat → Int32} {vo : Int32} {wc : Int32} {cP : Nat → Int32} {cL : Nat → Int32} {cQ : Nat → Int32} {cB : Nat → Int32} {hc : Int32} {G0 : GT} {G1 : GT} {G2 : GT} {G3 : GT} {G4 : GT} {E : Nat → Int32} {T : Nat → Int32} {tl : Int32} {P : Nat → Int32} {pl : Int32} {o1 : Int32} {o2 : Int32} {o3 : Nat → Int32} {o4 : Nat → Int32} {o5 : Nat → Int32} {o6 : Nat → Int32} {o7 : Nat → Int32} {q1 : Int32} {q2 : Nat → Int32} {q3 : Nat → Int32} {q4 : Nat → Int32} {q5 : Int32} {q6 : Nat → Int32} {q7 : Nat → Int32} {q8 : Nat → Int32} {q9 : Nat → Int32} {s1 : Int32} {s2 : Nat → Int32} {s3 : Nat → Int32} {s4 : Nat → Int32} {N : Nat → Int32} {pa : Nat → Int32} {m1 : Nat → Int32} {m2 : Int32} {m3 : Nat → Int32} {m4 : Nat → Int32} {m5 : Int32} {m6 : Nat → Int32} {m7 : Int32} {m8 : Int64} (hR : SR N cF cE vo wc cP cL cQ cB) (hP : va_P D vwCl (LW cI cZ cS ea da cF cE vo wc cP cL cQ cB hc G0 G1 G2 G3 G4 E T tl P pl o1 o2 o3 o4 o5 o6 o7 q1 q2 q3 q4 q5 q6 q7 q8 q9 s1 s2 s3 s4 N pa m1 m2 m3 m4 m5 m6 m7 m8) H) (hD : va_D A (LW cI cZ cS ea da cF cE vo wc cP cL cQ cB hc G0 G1 G2 G3 G4 E T tl P pl o1 o2 o3 o4 o5 o6 o7 q1 q2 q3 q4 q5 q6 q7 q8 q9 s1 s2 s3 s4 N pa m1 m2 m3 m4 m5 m6 m7 m8)) : va_P D vwCl (LW cI cZ cS ea da (vF N) (vE N) (N 0) (N 17) (vS N) (vL N) (vQ N) (vB N) hc G0 G1 G2 G3 G4 E T tl P pl o1 o2 o3 o4 o5 o6 o7 q1 q2 q3 q4 q5 q6 q7 q8 q9 s1 s2 s3 s4 N pa m1 m2 m3 m4 m5 m6 m7 m8) H ∧ va_D A (LW cI cZ cS ea da (vF N) (vE N) (N 0) (N 17) (vS N) (vL N) (vQ N) (vB N) hc G0 G1 G2 G3 G4 E T tl P pl o1 o2 o3 o4 o5 o6 o7 q1 q2 q3 q4 q5 q6 q7 q8 q9 s1 s2 s3 s4 N pa m1 m2 m3 m4 m5 m6 m7 m8) := by
  obtain ⟨h1, h2, h3, h4, h5, h6, h7, h8⟩ := hR
  subst h3
  subst h4
  refine ⟨?_, D_map hD rfl⟩
  have hP := P_arr 2 hP rfl h1
  have hP := P_arr 3 hP rfl h2
  have hP := P_arr 4 hP rfl h5
  have hP := P_arr 5 hP rfl h6
  have hP := P_arr 6 hP rfl h7
  have hP := P_arr 7 hP rfl h8
  exact hP
def LX (p : Program) (s : State) (m : MethodId) (c : Code) (b L : Nat) (xs : Nat → Int32) (D : va_G) (cI cZ cS : ClassId) : Prop := p.tables.exec = Jvm.exec ∧ c.code = code ∧ c.maxLocals = 4 ∧ s.vm.findClass RL = some m.cls ∧ (∀ w ∈ wsL_law, w.before #[Value.ref b] s = true) ∧ gK D cI cZ cS s ∧ va_X b L xs s s.heap ∧ b < s.heap.size
def LK (p : Program) (l : Launch) (e : Env) (s : State) (m : MethodId) (below : List Frame) (meth : Method) (c : Code) (D : va_G) (cI cZ cS : ClassId) (b : Nat) (ea da : Nat → Nat) (Q : State → Prop) (i : Int32) : Prop := ∀ (cF' : Nat → Int32) (cE' : Nat → Int32) (vo' : Int32) (wc' : Int32) (cP' : Nat → Int32) (cL' : Nat → Int32) (cQ' : Nat → Int32) (cB' : Nat → Int32) (hc' : Int32) (G0' : GT) (G1' : GT) (G2' : GT) (G3' : GT) (G4' : GT) (E' : Nat → Int32) (T' : Nat → Int32) (tl' : Int32) (P' : Nat → Int32) (pl' : Int32) (o1' : Int32) (o2' : Int32) (o3' : Nat → Int32) (o4' : Nat → Int32) (o5' : Nat → Int32) (o6' : Nat → Int32) (o7' : Nat → Int32) (q1' : Int32) (q2' : Nat → Int32) (q3' : Nat → Int32) (q4' : Nat → Int32) (q5' : Int32) (q6' : Nat → Int32) (q7' : Nat → Int32) (q8' : Nat → Int32) (q9' : Nat → Int32) (s1' : Int32) (s2' : Nat → Int32) (s3' : Nat → Int32) (s4' : Nat → Int32) (N' : Nat → Int32) (pa' : Nat → Int32) (m1' : Nat → Int32) (m2' : Int32) (m3' : Nat → Int32) (m4' : Nat → Int32) (m5' : Int32) (m6' : Nat → Int32) (m7' : Int32) (m8' : Int64) (H : Heap) (locs : List Loc) (ls : Array Slot), INVP N' cF' cE' vo' wc' cP' cL' cQ' cB' hc' G0' G1' G2' G3' G4' pa' tl' P' pl' → va_P D vwCl (LW cI cZ cS ea da cF' cE' vo' wc' cP' cL' cQ' cB' hc' G0' G1' G2' G3' G4' E' T' tl' P' pl' o1' o2' o3' o4' o5' o6' o7' q1' q2' q3' q4' q5' q6' q7' q8' q9' s1' s2' s3' s4' N' pa' m1' m2' m3' m4' m5' m6' m7' m8') H → va_D (fun q : Nat => s.heap.size ≤ q) (LW cI cZ cS ea da cF' cE' vo' wc' cP' cL' cQ' cB' hc' G0' G1' G2' G3' G4' E' T' tl' P' pl' o1' o2' o3' o4' o5' o6' o7' q1' q2' q3' q4' q5' q6' q7' q8' q9' s1' s2' s3' s4' N' pa' m1' m2' m3' m4' m5' m6' m7' m8') → va_S (fun q : Nat => s.heap.size ≤ q) s.heap H locs → lv_has ls 4 [(0, .ref b), (1, .ref (ea 0)), (2, .ref (da 0)), (3, .int i)] → W p l e room_1 s m #[Value.ref b] below meth c H locs 79 2148 Q (F0 m 795 ls [])
