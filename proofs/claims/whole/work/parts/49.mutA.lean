/-! ===== what each piece of the relation needs of the rows ===== -/
theorem gA_sA_nj {σ : ST} {k j k' j' : Nat} {v : Int32} (h : j' ≠ j) : gA (sA σ k j v) k' j' = gA σ k' j' := by
  rw [gA_sA, if_neg (fun q => h q.2)]
theorem VX.cg {S : Nat → Int64} {r n : Nat} {T : TT} {G : Nat → Nat → Nat} {σ σ' : ST} (h : VX S r T G n σ) (c1 : gB σ' 14 = gB σ 14) (c2 : gA σ' 4 3 = gA σ 4 3) (c3 : gA σ' 2 6 = gA σ 2 6) (c4 : ∀ t, t < 6 → gA σ' (25 + t) = gA σ (25 + t) ∧ gA σ' (32 + t) = gA σ (32 + t)) (c5 : gA σ' 15 = gA σ 15) (c6 : gA σ' 16 = gA σ 16) (c7 : gA σ' 17 = gA σ 17) (c8 : gA σ' 18 = gA σ 18) (c9 : gA σ' 19 = gA σ 19) (c10 : gA σ' 20 = gA σ 20) : VX S r T G n σ' := by
  obtain ⟨⟨⟨s0, s1, s2⟩, q1, q2, q3, q4, q5⟩, q6, q7, q8⟩ := h
  refine ⟨⟨⟨by rw [c1]; exact s0, by rw [c1]; exact s1, by rw [c1]; exact s2⟩, by rw [c2]; exact q1, q2, q3, fun i hi => ?_, fun p hp => ?_⟩, by rw [c3]; exact q6, q7, fun g hg => ⟨?_, (q8 g hg).2⟩⟩
  · rw [(c4 r q2).1]; exact q4 i hi
  · rw [(c4 r q2).2]; exact q5 p hp
  · unfold atX
    rw [c5, c6, c7, c8, c9, c10]
    exact (q8 g hg).1
theorem VM.cg {S : Nat → Int64} {r n : Nat} {T : TT} {G : Nat → Nat → Nat} {σ σ' : ST} (h : VM S r T G n σ) (c1 : gB σ' 1 = gB σ 1) (c2 : gA σ' 0 13 = gA σ 0 13) (c3 : gA σ' 0 1 = gA σ 0 1) (c4 : gA σ' 9 = gA σ 9) (c11 : gA σ' 10 = gA σ 10) (c5 : gA σ' 2 = gA σ 2) (c6 : gA σ' 3 = gA σ 3) (c7 : gA σ' 4 = gA σ 4) (c8 : gA σ' 5 = gA σ 5) (c9 : gA σ' 6 = gA σ 6) (c10 : gA σ' 7 = gA σ 7) : VM S r T G n σ' := by
  obtain ⟨⟨⟨s0, s1, s2⟩, q1, q2, q3, q4, q5⟩, q6, q7, q8⟩ := h
  refine ⟨⟨⟨by rw [c1]; exact s0, by rw [c1]; exact s1, by rw [c1]; exact s2⟩, by rw [c2]; exact q1, q2, q3, fun i hi => ?_, fun p hp => ?_⟩, by rw [c3]; exact q6, q7, fun g hg => ⟨?_, (q8 g hg).2⟩⟩
  · rw [c4]; exact q4 i hi
  · rw [c11]; exact q5 p hp
  · unfold atM
    rw [c5, c6, c7, c8, c9, c10]
    exact (q8 g hg).1
theorem RT.cg {nT : Nat} {Tx : Nat → TT} {σx σm σx' σm' : ST} (h : RT nT Tx σx σm) (c1 : gA σx' 4 2 = gA σx 4 2) (c2 : gA σm' 0 12 = gA σm 0 12) (c3 : ∀ t, t < 6 → gA σx' (25 + t) = gA σx (25 + t) ∧ gA σx' (32 + t) = gA σx (32 + t)) (c4 : gA σm' 9 = gA σm 9) (c5 : gA σm' 10 = gA σm 10) : RT nT Tx σx' σm' := by
  obtain ⟨t1, t2, t3, t4⟩ := h
  refine ⟨t1, by rw [c1]; exact t2, by rw [c2]; exact t3, fun t ht => ⟨(t4 t ht).1, ⟨fun i hi => ?_, fun p hp => ?_⟩, ⟨fun i hi => ?_, fun p hp => ?_⟩⟩⟩
  · rw [(c3 t (by omega)).1]; exact (t4 t ht).2.1.1 i hi
  · rw [(c3 t (by omega)).2]; exact (t4 t ht).2.1.2 p hp
  · rw [c4]; exact (t4 t ht).2.2.1 i hi
  · rw [c5]; exact (t4 t ht).2.2.2 p hp
theorem RP.cg {σx σm σx' σm' : ST} (h : RP σx σm) (c1 : gA σx' 3 1 = gA σx 3 1) (c2 : gA σm' 0 9 = gA σm 0 9) (c3 : gA σx' 21 = gA σx 21) (c4 : gA σm' 8 = gA σm 8) : RP σx' σm' := by
  obtain ⟨k, p1, p2, p3, p4⟩ := h
  exact ⟨k, p1, by rw [c1]; exact p2, by rw [c2]; exact p3, fun i hi => by rw [c3, c4]; exact p4 i hi⟩
theorem RI.cg {nT : Nat} {σx σm σx' σm' : ST} (h : RI nT σx σm) (c1 : gA σx' 8 = gA σx 8) (c2 : gA σx' 52 = gA σx 52) (c3 : gA σx' 53 = gA σx 53) (c4 : gB σx' 51 = gB σx 51) (d1 : gA σm' 0 14 = gA σm 0 14) (d2 : gA σm' 0 15 = gA σm 0 15) (d3 : gA σm' 0 16 = gA σm 0 16) (d4 : gA σm' 12 = gA σm 12) (d5 : gA σm' 13 = gA σm 13) (d6 : gB σm' 11 = gB σm 11) : RI nT σx' σm' := by
  unfold RI
  rw [c1, c2, c3, c4, d1, d2, d3, d4, d5, d6]
  exact h
theorem RI.nT {nT nT' : Nat} {σx σm : ST} (h : RI nT σx σm) (hn : nT ≤ nT') : RI nT' σx σm := ⟨h.1, fun q => by
  obtain ⟨⟨p, q1, q2, q3⟩, q4⟩ := h.2 q
  exact ⟨⟨p, by omega, q2, q3⟩, q4⟩⟩
theorem RS.cg {σx σm σx' σm' : ST} (h : RS σx σm) (c1 : ∀ s, s < 4 → gA σx' (9 + s) = gA σx (9 + s) ∧ gA σx' (54 + s) = gA σx (54 + s)) (d1 : gA σm' 14 = gA σm 14) (d2 : gA σm' 15 = gA σm 15) (d3 : gA σm' 16 = gA σm 16) : RS σx' σm' := fun s hs => by
  rw [(c1 s hs).1, (c1 s hs).2, d1, d2, d3]
  exact h s hs
theorem RW.cg {σm σm' : ST} (h : RW σm) (d1 : gA σm' 18 = gA σm 18) : RW σm' := fun i hi => by rw [d1]; exact h i hi
theorem stale {σ : ST} {P : Prop} : gA (sA σ 5 3 1) 5 3 = 0 → P := fun q => by
  rw [gA_sA, if_pos ⟨rfl, rfl⟩] at q
  exact absurd q (by decide)
theorem wNp (x : Int32) {n : Nat} (hn : n < 1000) : (∃ g, g < n ∧ x = nI g ∧ f_X9_isWithin x (nI n - 1) = 1 ∧ f_X10_in x 0 (nI n - 1) = 1) ∨ (f_X9_isWithin x (nI n - 1) = 0 ∧ f_X10_in x 0 (nI n - 1) = 0) := by
  match n, hn with
  | 0, _ =>
    refine Or.inr ?_
    have : f_X9_isWithin x (nI 0 - 1) = 0 := by
      unfold f_X9_isWithin
      by_cases q : x < 0
      · exact if_pos q
      · rw [if_neg q, if_pos]
        obtain ⟨j, hj, rfl⟩ := nI_of q
        rw [Int32.lt_iff_toInt_lt, nI_toInt hj]
        show (-1 : Int) < _
        omega
    exact ⟨this, this⟩
  | n + 1, hn =>
    rw [nI_pred]
    rcases wN x (m := n) (by omega) with ⟨c, h1, h2, h3⟩ | h
    · exact Or.inl ⟨c, by omega, h2, h3, h3⟩
    · exact Or.inr ⟨h, h⟩
/-! ===== the palace's cells ===== -/
theorem lay3 {S : Nat → Int64} {r n w r' n' : Nat} {T T' : TT} {G G' : Nat → Nat → Nat} {σx σm : ST} (hX : VX S r T G n σx) (hM : VM S r' T' G' n' σm) (hw : w < 3) : gB σx 14 w = S w ∧ gB σm 1 w = S w := by
  rcases (show w = 0 ∨ w = 1 ∨ w = 2 by omega) with rfl | rfl | rfl
  · exact ⟨hX.1.1.1, hM.1.1.1⟩
  · exact ⟨hX.1.1.2.1, hM.1.1.2.1⟩
  · exact ⟨hX.1.1.2.2, hM.1.1.2.2⟩
theorem REL.lay {S : Nat → Int64} {r n nT w : Nat} {G : Nat → Nat → Nat} {Tx : Nat → TT} {σx σm : ST} {v : Int64} (hS : WS36 S) (hX : VX S r (Tx r) G n σx) (hM : VM S r (Tx r) G n σm) (hr : r < nT) (hR : rest nT Tx σx σm) (hv : ∀ b, 36 ≤ b → bit v b = false) : REL (sA (sB σx 14 w v) 5 3 1) (sB σm 1 w v) := by
  obtain ⟨rt, rp, ri, rs, rw'⟩ := hR
  refine ⟨setS S w v, r, G, n, nT, Tx, fun i hi b hb => ?_, (hX.laid v).cg (by simp (disch := omega) only [gA_sA_ne, gA_sA_nj, gB_sA, gA_sB, gB_sB_ne, gA_rA_ne, gB_rA, gA_rB, gB_rB_ne]) (by simp (disch := omega) only [gA_sA_ne, gA_sA_nj, gB_sA, gA_sB, gB_sB_ne, gA_rA_ne, gB_rA, gA_rB, gB_rB_ne]) (by simp (disch := omega) only [gA_sA_ne, gA_sA_nj, gB_sA, gA_sB, gB_sB_ne, gA_rA_ne, gB_rA, gA_rB, gB_rB_ne]) (fun t ht => ⟨(by simp (disch := omega) only [gA_sA_ne, gA_sA_nj, gB_sA, gA_sB, gB_sB_ne, gA_rA_ne, gB_rA, gA_rB, gB_rB_ne]), (by simp (disch := omega) only [gA_sA_ne, gA_sA_nj, gB_sA, gA_sB, gB_sB_ne, gA_rA_ne, gB_rA, gA_rB, gB_rB_ne])⟩) (by simp (disch := omega) only [gA_sA_ne, gA_sA_nj, gB_sA, gA_sB, gB_sB_ne, gA_rA_ne, gB_rA, gA_rB, gB_rB_ne]) (by simp (disch := omega) only [gA_sA_ne, gA_sA_nj, gB_sA, gA_sB, gB_sB_ne, gA_rA_ne, gB_rA, gA_rB, gB_rB_ne]) (by simp (disch := omega) only [gA_sA_ne, gA_sA_nj, gB_sA, gA_sB, gB_sB_ne, gA_rA_ne, gB_rA, gA_rB, gB_rB_ne]) (by simp (disch := omega) only [gA_sA_ne, gA_sA_nj, gB_sA, gA_sB, gB_sB_ne, gA_rA_ne, gB_rA, gA_rB, gB_rB_ne]) (by simp (disch := omega) only [gA_sA_ne, gA_sA_nj, gB_sA, gA_sB, gB_sB_ne, gA_rA_ne, gB_rA, gA_rB, gB_rB_ne]) (by simp (disch := omega) only [gA_sA_ne, gA_sA_nj, gB_sA, gA_sB, gB_sB_ne, gA_rA_ne, gB_rA, gA_rB, gB_rB_ne]), hM.laid v, stale, hr, rt.cg (by simp (disch := omega) only [gA_sA_ne, gA_sA_nj, gB_sA, gA_sB, gB_sB_ne, gA_rA_ne, gB_rA, gA_rB, gB_rB_ne]) (by simp (disch := omega) only [gA_sA_ne, gA_sA_nj, gB_sA, gA_sB, gB_sB_ne, gA_rA_ne, gB_rA, gA_rB, gB_rB_ne]) (fun t ht => ⟨(by simp (disch := omega) only [gA_sA_ne, gA_sA_nj, gB_sA, gA_sB, gB_sB_ne, gA_rA_ne, gB_rA, gA_rB, gB_rB_ne]), (by simp (disch := omega) only [gA_sA_ne, gA_sA_nj, gB_sA, gA_sB, gB_sB_ne, gA_rA_ne, gB_rA, gA_rB, gB_rB_ne])⟩) (by simp (disch := omega) only [gA_sA_ne, gA_sA_nj, gB_sA, gA_sB, gB_sB_ne, gA_rA_ne, gB_rA, gA_rB, gB_rB_ne]) (by simp (disch := omega) only [gA_sA_ne, gA_sA_nj, gB_sA, gA_sB, gB_sB_ne, gA_rA_ne, gB_rA, gA_rB, gB_rB_ne]), rp.cg (by simp (disch := omega) only [gA_sA_ne, gA_sA_nj, gB_sA, gA_sB, gB_sB_ne, gA_rA_ne, gB_rA, gA_rB, gB_rB_ne]) (by simp (disch := omega) only [gA_sA_ne, gA_sA_nj, gB_sA, gA_sB, gB_sB_ne, gA_rA_ne, gB_rA, gA_rB, gB_rB_ne]) (by simp (disch := omega) only [gA_sA_ne, gA_sA_nj, gB_sA, gA_sB, gB_sB_ne, gA_rA_ne, gB_rA, gA_rB, gB_rB_ne]) (by simp (disch := omega) only [gA_sA_ne, gA_sA_nj, gB_sA, gA_sB, gB_sB_ne, gA_rA_ne, gB_rA, gA_rB, gB_rB_ne]), ri.cg (by simp (disch := omega) only [gA_sA_ne, gA_sA_nj, gB_sA, gA_sB, gB_sB_ne, gA_rA_ne, gB_rA, gA_rB, gB_rB_ne]) (by simp (disch := omega) only [gA_sA_ne, gA_sA_nj, gB_sA, gA_sB, gB_sB_ne, gA_rA_ne, gB_rA, gA_rB, gB_rB_ne]) (by simp (disch := omega) only [gA_sA_ne, gA_sA_nj, gB_sA, gA_sB, gB_sB_ne, gA_rA_ne, gB_rA, gA_rB, gB_rB_ne]) (by simp (disch := omega) only [gA_sA_ne, gA_sA_nj, gB_sA, gA_sB, gB_sB_ne, gA_rA_ne, gB_rA, gA_rB, gB_rB_ne]) (by simp (disch := omega) only [gA_sA_ne, gA_sA_nj, gB_sA, gA_sB, gB_sB_ne, gA_rA_ne, gB_rA, gA_rB, gB_rB_ne]) (by simp (disch := omega) only [gA_sA_ne, gA_sA_nj, gB_sA, gA_sB, gB_sB_ne, gA_rA_ne, gB_rA, gA_rB, gB_rB_ne]) (by simp (disch := omega) only [gA_sA_ne, gA_sA_nj, gB_sA, gA_sB, gB_sB_ne, gA_rA_ne, gB_rA, gA_rB, gB_rB_ne]) (by simp (disch := omega) only [gA_sA_ne, gA_sA_nj, gB_sA, gA_sB, gB_sB_ne, gA_rA_ne, gB_rA, gA_rB, gB_rB_ne]) (by simp (disch := omega) only [gA_sA_ne, gA_sA_nj, gB_sA, gA_sB, gB_sB_ne, gA_rA_ne, gB_rA, gA_rB, gB_rB_ne]) (by simp (disch := omega) only [gA_sA_ne, gA_sA_nj, gB_sA, gA_sB, gB_sB_ne, gA_rA_ne, gB_rA, gA_rB, gB_rB_ne]), rs.cg (fun t ht => ⟨(by simp (disch := omega) only [gA_sA_ne, gA_sA_nj, gB_sA, gA_sB, gB_sB_ne, gA_rA_ne, gB_rA, gA_rB, gB_rB_ne]), (by simp (disch := omega) only [gA_sA_ne, gA_sA_nj, gB_sA, gA_sB, gB_sB_ne, gA_rA_ne, gB_rA, gA_rB, gB_rB_ne])⟩) (by simp (disch := omega) only [gA_sA_ne, gA_sA_nj, gB_sA, gA_sB, gB_sB_ne, gA_rA_ne, gB_rA, gA_rB, gB_rB_ne]) (by simp (disch := omega) only [gA_sA_ne, gA_sA_nj, gB_sA, gA_sB, gB_sB_ne, gA_rA_ne, gB_rA, gA_rB, gB_rB_ne]) (by simp (disch := omega) only [gA_sA_ne, gA_sA_nj, gB_sA, gA_sB, gB_sB_ne, gA_rA_ne, gB_rA, gA_rB, gB_rB_ne]), rw'.cg (by simp (disch := omega) only [gA_sA_ne, gA_sA_nj, gB_sA, gA_sB, gB_sB_ne, gA_rA_ne, gB_rA, gA_rB, gB_rB_ne])⟩
  unfold setS
  split
  · exact hv b hb
  · exact hS i hi b hb
theorem op_laid : OP_laid REL := by
  intro σx σm x1 hRel
  obtain ⟨S, r, G, n, nT, Tx, hS, hX, hM, hC, hr, hR⟩ := id hRel
  unfold f_X9_laid f_X10_laid
  rcases wN x1 (m := 2) (by omega) with ⟨w, hw, rfl, e5⟩ | e5
  · obtain ⟨k1, k2⟩ := lay3 hX hM (show w < 3 by omega)
    simp (disch := omega) only [show f_X9_isLayer (nI w) = 1 from e5, show f_X10_in (nI w) 0 2 = 1 from e5, jlet_s, ifN1, ifN0, if10, if00, jix_t, nI_clamp, k1, k2]
    exact ⟨_, rfl, rfl, hRel⟩
  · rw [show f_X9_isLayer x1 = 0 from e5, show f_X10_in x1 0 2 = 0 from e5]
    exact ⟨_, rfl, rfl, hRel⟩
theorem op_lay : OP_lay REL := by
  intro σx σm x1 x2 hRel
  obtain ⟨S, r, G, n, nT, Tx, hS, hX, hM, hC, hr, hR⟩ := id hRel
  unfold f_X9_lay f_X10_lay
  rcases wN x1 (m := 2) (by omega) with ⟨w, hw, rfl, e5⟩ | e5
  · rcases cells2 x2 with ⟨e1, e2, hc⟩ | ⟨e1, e2⟩
    · obtain ⟨k1, k2⟩ := lay3 hX hM (show w < 3 by omega)
      simp (disch := omega) only [show f_X9_isLayer (nI w) = 1 from e5, show f_X10_in (nI w) 0 2 = 1 from e5, e1, e2, jlet_s, ifN1, ifN0, if10, if00, jix_t, nI_clamp, k1, k2]
      exact ⟨_, _, _, rfl, rfl, REL.lay hS hX hM hr hR hc⟩
    · simp (disch := omega) only [show f_X9_isLayer (nI w) = 1 from e5, show f_X10_in (nI w) 0 2 = 1 from e5, e1, e2, jlet_s, ifN1, ifN0, if10, if00, jix_t, nI_clamp]
      exact ⟨_, _, _, rfl, rfl, hRel⟩
  · rw [show f_X9_isLayer x1 = 0 from e5, show f_X10_in x1 0 2 = 0 from e5]
    exact ⟨_, _, _, rfl, rfl, hRel⟩
theorem one_hi {c b : Nat} (hc : c < 36) (hb : 36 ≤ b) : bit (jlshl 1 (nI c)) b = false := by
  rcases Nat.lt_or_ge b 64 with q | q
  · rw [bit_one (by omega) q]; exact decide_eq_false (by omega)
  · exact bit_big q
theorem put_1 (x : Int64) {c : Nat} (hc : c < 36) : (x &&& (jlshl 1 (nI c) ^^^ (-1))) ||| jlshl (Int32.toInt64 (nI 1)) (nI c) = x ||| jlshl 1 (nI c) := bit_ext (fun i hi => by
  rw [show Int32.toInt64 (nI 1) = 1 by decide, bit_or, bit_and, bit_not _ hi, bit_or, bit_one (by omega) hi]
  cases bit x i <;> cases decide (i = c) <;> rfl)
theorem put_0 (x : Int64) {c : Nat} (hc : c < 36) : x ||| jlshl (Int32.toInt64 (nI 0)) (nI c) = x := bit_ext (fun i hi => by
  rw [show Int32.toInt64 (nI 0) = 0 by decide, bit_or, bit_shl c (by omega) 0 hi, bit_0, Bool.and_false, Bool.or_false])
theorem op_put : OP_put REL := by
  intro σx σm x1 x2 x3 hRel
  obtain ⟨S, r, G, n, nT, Tx, hS, hX, hM, hC, hr, hR⟩ := id hRel
  unfold f_X9_put f_X10_put
  rcases w35 x1 with ⟨c, hc, rfl, e1, e2⟩ | ⟨e1, e2⟩
  · rcases wN x2 (m := 2) (by omega) with ⟨w, hw, rfl, e5⟩ | e5
    · rcases wN x3 (m := 1) (by omega) with ⟨i, hi, rfl, e6⟩ | e6
      · have hw3 : w < 3 := by omega
        obtain ⟨k1, k2⟩ := lay3 hX hM hw3
        simp (disch := omega) only [e1, e2, show f_X9_isLayer (nI w) = 1 from e5, show f_X10_in (nI w) 0 2 = 1 from e5, show f_X9_isWithin (nI i) 1 = 1 from e6, show f_X10_in (nI i) 0 1 = 1 from e6, jlet_s, ifN1, ifN0, if10, if00, jix_t, nI_clamp, k1, k2, isIn_b, has_b]
        unfold f_X10_put_L49 f_X10_put_L88
        simp (disch := omega) only [jlet_s, ifN1, ifN0, if10, if00, jix_t, nI_clamp, k2]
        have hw1 : ∀ b, 36 ≤ b → bit (S w &&& (jlshl 1 (nI c) ^^^ (-1))) b = false := fun b hb => by rw [bit_and, hS w hw3 b hb, Bool.false_and]
        have hw2 : ∀ b, 36 ≤ b → bit (S w ||| jlshl 1 (nI c)) b = false := fun b hb => by rw [bit_or, hS w hw3 b hb, one_hi hc hb]; rfl
        rcases (show i = 0 ∨ i = 1 by omega) with rfl | rfl
        · rw [put_0 _ hc, if_pos (show ¬ nI 0 = 1 by decide)]
          have fin := REL.lay (w := w) hS hX hM hr hR hw1
          cases bit (S w) c
          · exact ⟨_, _, _, rfl, rfl, fin⟩
          · exact ⟨_, _, _, rfl, rfl, fin⟩
        · rw [put_1 _ hc, if_neg (show ¬ ¬ nI 1 = 1 by decide)]
          have fin := REL.lay (w := w) hS hX hM hr hR hw2
          cases bit (S w) c
          · exact ⟨_, _, _, rfl, rfl, fin⟩
          · exact ⟨_, _, _, rfl, rfl, fin⟩
      · simp (disch := omega) only [e1, e2, show f_X9_isLayer (nI w) = 1 from e5, show f_X10_in (nI w) 0 2 = 1 from e5, show f_X9_isWithin x3 1 = 0 from e6, show f_X10_in x3 0 1 = 0 from e6, jlet_s, ifN1, ifN0, if10, if00, jix_t, nI_clamp]
        exact ⟨_, _, _, rfl, rfl, hRel⟩
    · simp (disch := omega) only [e1, e2, show f_X9_isLayer x2 = 0 from e5, show f_X10_in x2 0 2 = 0 from e5, jlet_s, ifN1, ifN0, if10, if00, jix_t, nI_clamp]
      exact ⟨_, _, _, rfl, rfl, hRel⟩
  · rw [e1, e2]
    exact ⟨_, _, _, rfl, rfl, hRel⟩
/-! ===== the law in force ===== -/
theorem op_force : OP_force REL := by
  intro σx σm x1 hRel
  obtain ⟨S, r, G, n, nT, Tx, hS, hX, hM, hC, hr, hR⟩ := id hRel
  obtain ⟨rt, rp, ri, rs, rw'⟩ := hR
  obtain ⟨t1, t2, t3, t4⟩ := id rt
  unfold f_X9_force f_X10_force
  rw [t2, t3]
  rcases wNp x1 (n := nT) (by omega) with ⟨t, ht, rfl, e1, e2⟩ | ⟨e1, e2⟩
  · simp (disch := omega) only [e1, e2, jlet_s, ifN1, ifN0, if10, if00, jix_t, nI_clamp, hX.1.2.1, hM.1.2.1]
    obtain ⟨w1, w2, w3⟩ := t4 t ht
    refine ⟨_, _, _, rfl, rfl, S, t, G, n, nT, Tx, hS, (hX.law (by omega) w1 w2).cg (by simp (disch := omega) only [gA_sA_ne, gA_sA_nj, gB_sA, gA_sB, gB_sB_ne, gA_rA_ne, gB_rA, gA_rB, gB_rB_ne]) (by simp (disch := omega) only [gA_sA_ne, gA_sA_nj, gB_sA, gA_sB, gB_sB_ne, gA_rA_ne, gB_rA, gA_rB, gB_rB_ne]) (by simp (disch := omega) only [gA_sA_ne, gA_sA_nj, gB_sA, gA_sB, gB_sB_ne, gA_rA_ne, gB_rA, gA_rB, gB_rB_ne]) (fun t ht => ⟨(by simp (disch := omega) only [gA_sA_ne, gA_sA_nj, gB_sA, gA_sB, gB_sB_ne, gA_rA_ne, gB_rA, gA_rB, gB_rB_ne]), (by simp (disch := omega) only [gA_sA_ne, gA_sA_nj, gB_sA, gA_sB, gB_sB_ne, gA_rA_ne, gB_rA, gA_rB, gB_rB_ne])⟩) (by simp (disch := omega) only [gA_sA_ne, gA_sA_nj, gB_sA, gA_sB, gB_sB_ne, gA_rA_ne, gB_rA, gA_rB, gB_rB_ne]) (by simp (disch := omega) only [gA_sA_ne, gA_sA_nj, gB_sA, gA_sB, gB_sB_ne, gA_rA_ne, gB_rA, gA_rB, gB_rB_ne]) (by simp (disch := omega) only [gA_sA_ne, gA_sA_nj, gB_sA, gA_sB, gB_sB_ne, gA_rA_ne, gB_rA, gA_rB, gB_rB_ne]) (by simp (disch := omega) only [gA_sA_ne, gA_sA_nj, gB_sA, gA_sB, gB_sB_ne, gA_rA_ne, gB_rA, gA_rB, gB_rB_ne]) (by simp (disch := omega) only [gA_sA_ne, gA_sA_nj, gB_sA, gA_sB, gB_sB_ne, gA_rA_ne, gB_rA, gA_rB, gB_rB_ne]) (by simp (disch := omega) only [gA_sA_ne, gA_sA_nj, gB_sA, gA_sB, gB_sB_ne, gA_rA_ne, gB_rA, gA_rB, gB_rB_ne]), hM.law (by omega) w1 w3, stale, ht, rt.cg (by simp (disch := omega) only [gA_sA_ne, gA_sA_nj, gB_sA, gA_sB, gB_sB_ne, gA_rA_ne, gB_rA, gA_rB, gB_rB_ne]) (by simp (disch := omega) only [gA_sA_ne, gA_sA_nj, gB_sA, gA_sB, gB_sB_ne, gA_rA_ne, gB_rA, gA_rB, gB_rB_ne]) (fun t ht => ⟨(by simp (disch := omega) only [gA_sA_ne, gA_sA_nj, gB_sA, gA_sB, gB_sB_ne, gA_rA_ne, gB_rA, gA_rB, gB_rB_ne]), (by simp (disch := omega) only [gA_sA_ne, gA_sA_nj, gB_sA, gA_sB, gB_sB_ne, gA_rA_ne, gB_rA, gA_rB, gB_rB_ne])⟩) (by simp (disch := omega) only [gA_sA_ne, gA_sA_nj, gB_sA, gA_sB, gB_sB_ne, gA_rA_ne, gB_rA, gA_rB, gB_rB_ne]) (by simp (disch := omega) only [gA_sA_ne, gA_sA_nj, gB_sA, gA_sB, gB_sB_ne, gA_rA_ne, gB_rA, gA_rB, gB_rB_ne]), rp.cg (by simp (disch := omega) only [gA_sA_ne, gA_sA_nj, gB_sA, gA_sB, gB_sB_ne, gA_rA_ne, gB_rA, gA_rB, gB_rB_ne]) (by simp (disch := omega) only [gA_sA_ne, gA_sA_nj, gB_sA, gA_sB, gB_sB_ne, gA_rA_ne, gB_rA, gA_rB, gB_rB_ne]) (by simp (disch := omega) only [gA_sA_ne, gA_sA_nj, gB_sA, gA_sB, gB_sB_ne, gA_rA_ne, gB_rA, gA_rB, gB_rB_ne]) (by simp (disch := omega) only [gA_sA_ne, gA_sA_nj, gB_sA, gA_sB, gB_sB_ne, gA_rA_ne, gB_rA, gA_rB, gB_rB_ne]), ri.cg (by simp (disch := omega) only [gA_sA_ne, gA_sA_nj, gB_sA, gA_sB, gB_sB_ne, gA_rA_ne, gB_rA, gA_rB, gB_rB_ne]) (by simp (disch := omega) only [gA_sA_ne, gA_sA_nj, gB_sA, gA_sB, gB_sB_ne, gA_rA_ne, gB_rA, gA_rB, gB_rB_ne]) (by simp (disch := omega) only [gA_sA_ne, gA_sA_nj, gB_sA, gA_sB, gB_sB_ne, gA_rA_ne, gB_rA, gA_rB, gB_rB_ne]) (by simp (disch := omega) only [gA_sA_ne, gA_sA_nj, gB_sA, gA_sB, gB_sB_ne, gA_rA_ne, gB_rA, gA_rB, gB_rB_ne]) (by simp (disch := omega) only [gA_sA_ne, gA_sA_nj, gB_sA, gA_sB, gB_sB_ne, gA_rA_ne, gB_rA, gA_rB, gB_rB_ne]) (by simp (disch := omega) only [gA_sA_ne, gA_sA_nj, gB_sA, gA_sB, gB_sB_ne, gA_rA_ne, gB_rA, gA_rB, gB_rB_ne]) (by simp (disch := omega) only [gA_sA_ne, gA_sA_nj, gB_sA, gA_sB, gB_sB_ne, gA_rA_ne, gB_rA, gA_rB, gB_rB_ne]) (by simp (disch := omega) only [gA_sA_ne, gA_sA_nj, gB_sA, gA_sB, gB_sB_ne, gA_rA_ne, gB_rA, gA_rB, gB_rB_ne]) (by simp (disch := omega) only [gA_sA_ne, gA_sA_nj, gB_sA, gA_sB, gB_sB_ne, gA_rA_ne, gB_rA, gA_rB, gB_rB_ne]) (by simp (disch := omega) only [gA_sA_ne, gA_sA_nj, gB_sA, gA_sB, gB_sB_ne, gA_rA_ne, gB_rA, gA_rB, gB_rB_ne]), rs.cg (fun t ht => ⟨(by simp (disch := omega) only [gA_sA_ne, gA_sA_nj, gB_sA, gA_sB, gB_sB_ne, gA_rA_ne, gB_rA, gA_rB, gB_rB_ne]), (by simp (disch := omega) only [gA_sA_ne, gA_sA_nj, gB_sA, gA_sB, gB_sB_ne, gA_rA_ne, gB_rA, gA_rB, gB_rB_ne])⟩) (by simp (disch := omega) only [gA_sA_ne, gA_sA_nj, gB_sA, gA_sB, gB_sB_ne, gA_rA_ne, gB_rA, gA_rB, gB_rB_ne]) (by simp (disch := omega) only [gA_sA_ne, gA_sA_nj, gB_sA, gA_sB, gB_sB_ne, gA_rA_ne, gB_rA, gA_rB, gB_rB_ne]) (by simp (disch := omega) only [gA_sA_ne, gA_sA_nj, gB_sA, gA_sB, gB_sB_ne, gA_rA_ne, gB_rA, gA_rB, gB_rB_ne]), rw'.cg (by simp (disch := omega) only [gA_sA_ne, gA_sA_nj, gB_sA, gA_sB, gB_sB_ne, gA_rA_ne, gB_rA, gA_rB, gB_rB_ne])⟩
  · rw [e1, e2]
    exact ⟨_, _, _, rfl, rfl, hRel⟩
/-! ===== what the law says of names that are told ===== -/
theorem op_asks : OP_asks REL := by
  intro σx σm x1 x2 x3 x4 x5 hRel
  obtain ⟨S, r, G, n, nT, Tx, hS, hX, hM, hC, hr, hR⟩ := id hRel
  unfold f_X9_asks f_X10_asks
  rcases wN x1 (m := 2) (by omega) with ⟨p, hp, rfl, e1⟩ | e1
  · rcases wN x2 (m := 99) (by omega) with ⟨q2, -, rfl, e2⟩ | e2
    · rcases wN x3 (m := 9) (by omega) with ⟨q3, -, rfl, e3⟩ | e3
      · rcases w23 x4 with ⟨t, ht, rfl, e4, e5⟩ | ⟨e4, e5⟩
        · rcases wN x5 (m := 999) (by omega) with ⟨q5, -, rfl, e6⟩ | e6
          · simp only [show f_X9_isWithin (nI p) 2 = 1 from e1, show f_X10_in (nI p) 0 2 = 1 from e1, show f_X9_isWithin (nI q2) 99 = 1 from e2, show f_X10_in (nI q2) 0 99 = 1 from e2, show f_X9_isWithin (nI q3) 9 = 1 from e3, show f_X10_in (nI q3) 0 9 = 1 from e3, e4, e5, show f_X9_isWithin (nI q5) 999 = 1 from e6, show f_X10_in (nI q5) 0 999 = 1 from e6, jlet_s, ifN1, ifN0, if10, if00]
            unfold f_X10_asks_L54
            rw [if10]
            generalize nI q2 / 10 = a1
            generalize jrem (nI q2) 10 = a2
            generalize nI q5 / 100 = a3
            generalize jrem (nI q5) 100 = a4
            have f1 : Fr aL bW σx (f_X6_nameGuard (nI q3) (nI t) a3 σx) := xnameG_fr Fr.rf rfl
            have n1 := xnameG (σ := σx) (x := nI q3) (y := nI t) (z := a3)
            generalize f_X6_nameGuard (nI q3) (nI t) a3 σx = σ1 at f1 n1 ⊢
            have f2 : Fr aL bW σx (f_X6_nameCell a1 a2 a4 σ1) := xnameC_fr f1 rfl
            have n2 := xnameC (a := a1) (b := a2) (f := a4) n1.1 n1.2.1 n1.2.2
            generalize f_X6_nameCell a1 a2 a4 σ1 = σ2 at f2 n2 ⊢
            have hv2 := hX.1.fr f2 ⟨okX_L.1, okX_L.2.1, rfl⟩
            obtain ⟨σ3, e7, f3⟩ := xsays (p := p) hv2.2.2.2.1 hv2.2.2.1 (by omega) hv2.2.1 hv2.2.2.2.2 n2
            obtain ⟨σ4, e8, f4⟩ := masks (p := p) hM.1.2.2.2.1 hM.1.2.2.1 (by omega) hM.1.2.1 hM.1.2.2.2.2 a1 a2 (nI q3) (nI t) a3 a4
            rw [e7, e8, jbp_s, jbp_s]
            have f5 : Fr aL bW σx σ3 := f2.trans (f3.mono a39L (fun _ q => q))
            refine ⟨_, _, _, rfl, rfl, REL.q hS hX hM hr hR (f5.mono (fun k q => by unfold aQ at q; unfold aL; simp at q ⊢; omega) (fun _ _ => rfl)) ((f4.toM rfl).mono (fun k q => by unfold aU at q; unfold aN; simp at q ⊢; exact q.1) (fun _ _ => rfl)) (fun q => ?_)⟩
            rw [f5.A rfl] at q
            exact (hC q).fr f5 hX.2.2.1 rfl (fun _ _ => rfl) rfl
          · simp only [show f_X9_isWithin (nI p) 2 = 1 from e1, show f_X10_in (nI p) 0 2 = 1 from e1, show f_X9_isWithin (nI q2) 99 = 1 from e2, show f_X10_in (nI q2) 0 99 = 1 from e2, show f_X9_isWithin (nI q3) 9 = 1 from e3, show f_X10_in (nI q3) 0 9 = 1 from e3, e4, e5, show f_X9_isWithin x5 999 = 0 from e6, show f_X10_in x5 0 999 = 0 from e6, jlet_s, ifN1, ifN0, if10, if00]
            exact ⟨_, _, _, rfl, rfl, hRel⟩
        · simp only [show f_X9_isWithin (nI p) 2 = 1 from e1, show f_X10_in (nI p) 0 2 = 1 from e1, show f_X9_isWithin (nI q2) 99 = 1 from e2, show f_X10_in (nI q2) 0 99 = 1 from e2, show f_X9_isWithin (nI q3) 9 = 1 from e3, show f_X10_in (nI q3) 0 9 = 1 from e3, e4, e5, jlet_s, ifN1, ifN0, if10, if00]
          exact ⟨_, _, _, rfl, rfl, hRel⟩
      · simp only [show f_X9_isWithin (nI p) 2 = 1 from e1, show f_X10_in (nI p) 0 2 = 1 from e1, show f_X9_isWithin (nI q2) 99 = 1 from e2, show f_X10_in (nI q2) 0 99 = 1 from e2, show f_X9_isWithin x3 9 = 0 from e3, show f_X10_in x3 0 9 = 0 from e3, jlet_s, ifN1, ifN0, if10, if00]
        exact ⟨_, _, _, rfl, rfl, hRel⟩
    · simp only [show f_X9_isWithin (nI p) 2 = 1 from e1, show f_X10_in (nI p) 0 2 = 1 from e1, show f_X9_isWithin x2 99 = 0 from e2, show f_X10_in x2 0 99 = 0 from e2, jlet_s, ifN1, ifN0, if10, if00]
      exact ⟨_, _, _, rfl, rfl, hRel⟩
  · rw [show f_X9_isWithin x1 2 = 0 from e1, show f_X10_in x1 0 2 = 0 from e1]
    exact ⟨_, _, _, rfl, rfl, hRel⟩
