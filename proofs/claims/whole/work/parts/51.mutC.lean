/-! ===== a guard's seconds ahead, his length ===== -/
def setL (G : Nat → Nat → Nat) (g a : Nat) : Nat → Nat → Nat := fun g' j => if g' = g ∧ j = 4 then a else G g' j
theorem setL_ne {G : Nat → Nat → Nat} {g a g' : Nat} (h : g' ≠ g) : setL G g a g' = G g' := by
  funext j
  unfold setL
  rw [if_neg (fun q => h q.1)]
theorem setL_GW {G : Nat → Nat → Nat} {g a : Nat} (h : GW (G g)) (ha : a < 6) : GW (setL G g a g) := by
  obtain ⟨h0, h1, h2, h3, h4, h5⟩ := h
  unfold GW setL
  exact ⟨by rw [if_neg (by omega)]; exact h0, by rw [if_neg (by omega)]; exact h1, by rw [if_neg (by omega)]; exact h2, by rw [if_neg (by omega)]; exact h3, by rw [if_pos ⟨rfl, rfl⟩]; exact ha, by rw [if_neg (by omega)]; exact h5⟩
theorem VX.len {S : Nat → Int64} {r n g a : Nat} {T : TT} {G : Nat → Nat → Nat} {σ : ST} (h : VX S r T G n σ) (hg : g < 5) (ha : a < 6) : VX S r T (setL G g a) n (sA σ 19 g (nI a)) := by
  obtain ⟨⟨s, q1, q2, q3, q4⟩, q6, q7, q8⟩ := h
  refine ⟨⟨s, by rw [gA_sA, if_neg (by omega)]; exact q1, q2, q3, ⟨fun i hi => ?_, fun p hp => ?_⟩⟩, by rw [gA_sA, if_neg (by omega)]; exact q6, q7, fun g' hg' => ?_⟩
  · rw [gA_sA, if_neg (by omega)]; exact q4.1 i hi
  · rw [gA_sA, if_neg (by omega)]; exact q4.2 p hp
  · by_cases e : g' = g
    · subst e
      refine ⟨?_, setL_GW (q8 g' hg').2 ha⟩
      obtain ⟨a0, a1, a2, a3, a4, a5⟩ := (q8 g' hg').1
      unfold atX setL
      simp only [gA_sA]
      simpa using ⟨a0, a1, a2, a3, a5⟩
    · rw [setL_ne e]
      refine ⟨?_, (q8 g' hg').2⟩
      obtain ⟨a0, a1, a2, a3, a4, a5⟩ := (q8 g' hg').1
      unfold atX
      simp only [gA_sA]
      simpa [e] using ⟨a0, a1, a2, a3, a4, a5⟩
theorem VM.len {S : Nat → Int64} {r n g a : Nat} {T : TT} {G : Nat → Nat → Nat} {σ : ST} (h : VM S r T G n σ) (hg : g < 5) (ha : a < 6) : VM S r T (setL G g a) n (sA σ 5 g (nI a)) := by
  obtain ⟨⟨s, q1, q2, q3, q4⟩, q6, q7, q8⟩ := h
  refine ⟨⟨s, by rw [gA_sA, if_neg (by omega)]; exact q1, q2, q3, ⟨fun i hi => ?_, fun p hp => ?_⟩⟩, by rw [gA_sA, if_neg (by omega)]; exact q6, q7, fun g' hg' => ?_⟩
  · rw [gA_sA, if_neg (by omega)]; exact q4.1 i hi
  · rw [gA_sA, if_neg (by omega)]; exact q4.2 p hp
  · by_cases e : g' = g
    · subst e
      refine ⟨?_, setL_GW (q8 g' hg').2 ha⟩
      obtain ⟨a0, a1, a2, a3, a4, a5⟩ := (q8 g' hg').1
      unfold atM setL
      simp only [gA_sA]
      simpa using ⟨a0, a1, a2, a3, a5⟩
    · rw [setL_ne e]
      refine ⟨?_, (q8 g' hg').2⟩
      obtain ⟨a0, a1, a2, a3, a4, a5⟩ := (q8 g' hg').1
      unfold atM
      simp only [gA_sA]
      simpa [e] using ⟨a0, a1, a2, a3, a4, a5⟩
theorem op_set : OP_set REL := by
  intro σx σm x1 x2 x3 hRel
  obtain ⟨S, r, G, n, nT, Tx, hS, hX, hM, hC, hr, hR⟩ := id hRel
  unfold f_X9_set f_X10_set
  rcases wG2 x1 hX.2.1 hM.2.1 hX.2.2.1 with ⟨g, hg, rfl, e1, e2⟩ | ⟨e1, e2⟩
  · have hn := hX.2.2.1
    have hg5 : g < 5 := by omega
    obtain ⟨a0, a1, a2, a3, a4, a5⟩ := (hX.2.2.2 g hg5).1
    obtain ⟨b0, b1, b2, b3, b4, b5⟩ := (hM.2.2.2 g hg5).1
    obtain ⟨rt, rp, ri, rs, rw'⟩ := hR
    rcases wN x2 (m := 1) (by omega) with ⟨w, hw, rfl, e5⟩ | e5
    · simp only [e1, e2, show f_X9_isWithin (nI w) 1 = 1 from e5, show f_X10_in (nI w) 0 1 = 1 from e5, jlet_s, ifN1, ifN0, if10, if00]
      unfold f_X9_set_L30 f_X10_set_L32 f_X9_set_L60 f_X10_set_L60 f_X10_set_L81 f_X10_set_L102
      rcases (show w = 0 ∨ w = 1 by omega) with rfl | rfl
      · rw [if_neg (show ¬ ¬ nI 0 = 0 by decide), if_neg (show ¬ ¬ nI 0 = 0 by decide)]
        rcases wN x3 (m := 23) (by omega) with ⟨v, hv, rfl, e6⟩ | e6
        · simp (disch := omega) only [show f_X9_isWithin (nI v) 23 = 1 from e6, show f_X10_in (nI v) 0 23 = 1 from e6, jlet_s, ifN1, ifN0, if10, if00, jix_t, nI_clamp, a5, b5]
          rw [if_neg (show ¬ ¬ nI 0 = 0 by decide), if_neg (show ¬ ¬ nI 0 = 0 by decide), if_neg (show ¬ ¬ nI 0 = 0 by decide), if_pos (show ¬ nI 0 = 1 by decide)]
          rw [sA_id (σ := sA σm 7 g (nI v)) (k := 5) (j := g) rfl]
          exact ⟨_, _, _, rfl, rfl, S, r, setA G g v, n, nT, Tx, hS, (hX.ahead hg5 (by omega)).cg (by simp (disch := omega) only [gA_sA_ne, gA_sA_nj, gB_sA, gA_sB, gB_sB_ne, gA_rA_ne, gB_rA, gA_rB, gB_rB_ne]) (by simp (disch := omega) only [gA_sA_ne, gA_sA_nj, gB_sA, gA_sB, gB_sB_ne, gA_rA_ne, gB_rA, gA_rB, gB_rB_ne]) (by simp (disch := omega) only [gA_sA_ne, gA_sA_nj, gB_sA, gA_sB, gB_sB_ne, gA_rA_ne, gB_rA, gA_rB, gB_rB_ne]) (fun t ht => ⟨(by simp (disch := omega) only [gA_sA_ne, gA_sA_nj, gB_sA, gA_sB, gB_sB_ne, gA_rA_ne, gB_rA, gA_rB, gB_rB_ne]), (by simp (disch := omega) only [gA_sA_ne, gA_sA_nj, gB_sA, gA_sB, gB_sB_ne, gA_rA_ne, gB_rA, gA_rB, gB_rB_ne])⟩) (by simp (disch := omega) only [gA_sA_ne, gA_sA_nj, gB_sA, gA_sB, gB_sB_ne, gA_rA_ne, gB_rA, gA_rB, gB_rB_ne]) (by simp (disch := omega) only [gA_sA_ne, gA_sA_nj, gB_sA, gA_sB, gB_sB_ne, gA_rA_ne, gB_rA, gA_rB, gB_rB_ne]) (by simp (disch := omega) only [gA_sA_ne, gA_sA_nj, gB_sA, gA_sB, gB_sB_ne, gA_rA_ne, gB_rA, gA_rB, gB_rB_ne]) (by simp (disch := omega) only [gA_sA_ne, gA_sA_nj, gB_sA, gA_sB, gB_sB_ne, gA_rA_ne, gB_rA, gA_rB, gB_rB_ne]) (by simp (disch := omega) only [gA_sA_ne, gA_sA_nj, gB_sA, gA_sB, gB_sB_ne, gA_rA_ne, gB_rA, gA_rB, gB_rB_ne]) (by simp (disch := omega) only [gA_sA_ne, gA_sA_nj, gB_sA, gA_sB, gB_sB_ne, gA_rA_ne, gB_rA, gA_rB, gB_rB_ne]), hM.ahead hg5 (by omega), stale, hr, rt.cg (by simp (disch := omega) only [gA_sA_ne, gA_sA_nj, gB_sA, gA_sB, gB_sB_ne, gA_rA_ne, gB_rA, gA_rB, gB_rB_ne]) (by simp (disch := omega) only [gA_sA_ne, gA_sA_nj, gB_sA, gA_sB, gB_sB_ne, gA_rA_ne, gB_rA, gA_rB, gB_rB_ne]) (fun t ht => ⟨(by simp (disch := omega) only [gA_sA_ne, gA_sA_nj, gB_sA, gA_sB, gB_sB_ne, gA_rA_ne, gB_rA, gA_rB, gB_rB_ne]), (by simp (disch := omega) only [gA_sA_ne, gA_sA_nj, gB_sA, gA_sB, gB_sB_ne, gA_rA_ne, gB_rA, gA_rB, gB_rB_ne])⟩) (by simp (disch := omega) only [gA_sA_ne, gA_sA_nj, gB_sA, gA_sB, gB_sB_ne, gA_rA_ne, gB_rA, gA_rB, gB_rB_ne]) (by simp (disch := omega) only [gA_sA_ne, gA_sA_nj, gB_sA, gA_sB, gB_sB_ne, gA_rA_ne, gB_rA, gA_rB, gB_rB_ne]), rp.cg (by simp (disch := omega) only [gA_sA_ne, gA_sA_nj, gB_sA, gA_sB, gB_sB_ne, gA_rA_ne, gB_rA, gA_rB, gB_rB_ne]) (by simp (disch := omega) only [gA_sA_ne, gA_sA_nj, gB_sA, gA_sB, gB_sB_ne, gA_rA_ne, gB_rA, gA_rB, gB_rB_ne]) (by simp (disch := omega) only [gA_sA_ne, gA_sA_nj, gB_sA, gA_sB, gB_sB_ne, gA_rA_ne, gB_rA, gA_rB, gB_rB_ne]) (by simp (disch := omega) only [gA_sA_ne, gA_sA_nj, gB_sA, gA_sB, gB_sB_ne, gA_rA_ne, gB_rA, gA_rB, gB_rB_ne]), ri.cg (by simp (disch := omega) only [gA_sA_ne, gA_sA_nj, gB_sA, gA_sB, gB_sB_ne, gA_rA_ne, gB_rA, gA_rB, gB_rB_ne]) (by simp (disch := omega) only [gA_sA_ne, gA_sA_nj, gB_sA, gA_sB, gB_sB_ne, gA_rA_ne, gB_rA, gA_rB, gB_rB_ne]) (by simp (disch := omega) only [gA_sA_ne, gA_sA_nj, gB_sA, gA_sB, gB_sB_ne, gA_rA_ne, gB_rA, gA_rB, gB_rB_ne]) (by simp (disch := omega) only [gA_sA_ne, gA_sA_nj, gB_sA, gA_sB, gB_sB_ne, gA_rA_ne, gB_rA, gA_rB, gB_rB_ne]) (by simp (disch := omega) only [gA_sA_ne, gA_sA_nj, gB_sA, gA_sB, gB_sB_ne, gA_rA_ne, gB_rA, gA_rB, gB_rB_ne]) (by simp (disch := omega) only [gA_sA_ne, gA_sA_nj, gB_sA, gA_sB, gB_sB_ne, gA_rA_ne, gB_rA, gA_rB, gB_rB_ne]) (by simp (disch := omega) only [gA_sA_ne, gA_sA_nj, gB_sA, gA_sB, gB_sB_ne, gA_rA_ne, gB_rA, gA_rB, gB_rB_ne]) (by simp (disch := omega) only [gA_sA_ne, gA_sA_nj, gB_sA, gA_sB, gB_sB_ne, gA_rA_ne, gB_rA, gA_rB, gB_rB_ne]) (by simp (disch := omega) only [gA_sA_ne, gA_sA_nj, gB_sA, gA_sB, gB_sB_ne, gA_rA_ne, gB_rA, gA_rB, gB_rB_ne]) (by simp (disch := omega) only [gA_sA_ne, gA_sA_nj, gB_sA, gA_sB, gB_sB_ne, gA_rA_ne, gB_rA, gA_rB, gB_rB_ne]), rs.cg (fun t ht => ⟨(by simp (disch := omega) only [gA_sA_ne, gA_sA_nj, gB_sA, gA_sB, gB_sB_ne, gA_rA_ne, gB_rA, gA_rB, gB_rB_ne]), (by simp (disch := omega) only [gA_sA_ne, gA_sA_nj, gB_sA, gA_sB, gB_sB_ne, gA_rA_ne, gB_rA, gA_rB, gB_rB_ne])⟩) (by simp (disch := omega) only [gA_sA_ne, gA_sA_nj, gB_sA, gA_sB, gB_sB_ne, gA_rA_ne, gB_rA, gA_rB, gB_rB_ne]) (by simp (disch := omega) only [gA_sA_ne, gA_sA_nj, gB_sA, gA_sB, gB_sB_ne, gA_rA_ne, gB_rA, gA_rB, gB_rB_ne]) (by simp (disch := omega) only [gA_sA_ne, gA_sA_nj, gB_sA, gA_sB, gB_sB_ne, gA_rA_ne, gB_rA, gA_rB, gB_rB_ne]), rw'.cg (by simp (disch := omega) only [gA_sA_ne, gA_sA_nj, gB_sA, gA_sB, gB_sB_ne, gA_rA_ne, gB_rA, gA_rB, gB_rB_ne])⟩
        · simp only [show f_X9_isWithin x3 23 = 0 from e6, show f_X10_in x3 0 23 = 0 from e6, jlet_s, ifN0]
          exact ⟨_, _, _, rfl, rfl, hRel⟩
      · rw [if_pos (show ¬ nI 1 = 0 by decide), if_pos (show ¬ nI 1 = 0 by decide)]
        rcases wN x3 (m := 5) (by omega) with ⟨v, hv, rfl, e6⟩ | e6
        · simp (disch := omega) only [show f_X9_isWithin (nI v) 5 = 1 from e6, show f_X10_in (nI v) 0 5 = 1 from e6, jlet_s, ifN1, ifN0, if10, if00, jix_t, nI_clamp, a4, b4]
          rw [if_pos (show ¬ nI 1 = 0 by decide), if_pos (show ¬ nI 1 = 0 by decide), if_pos (show ¬ nI 1 = 0 by decide), if_neg (show ¬ ¬ nI 1 = 1 by decide)]
          rw [sA_id (σ := σm) (k := 7) (j := g) rfl]
          exact ⟨_, _, _, rfl, rfl, S, r, setL G g v, n, nT, Tx, hS, (hX.len hg5 (by omega)).cg (by simp (disch := omega) only [gA_sA_ne, gA_sA_nj, gB_sA, gA_sB, gB_sB_ne, gA_rA_ne, gB_rA, gA_rB, gB_rB_ne]) (by simp (disch := omega) only [gA_sA_ne, gA_sA_nj, gB_sA, gA_sB, gB_sB_ne, gA_rA_ne, gB_rA, gA_rB, gB_rB_ne]) (by simp (disch := omega) only [gA_sA_ne, gA_sA_nj, gB_sA, gA_sB, gB_sB_ne, gA_rA_ne, gB_rA, gA_rB, gB_rB_ne]) (fun t ht => ⟨(by simp (disch := omega) only [gA_sA_ne, gA_sA_nj, gB_sA, gA_sB, gB_sB_ne, gA_rA_ne, gB_rA, gA_rB, gB_rB_ne]), (by simp (disch := omega) only [gA_sA_ne, gA_sA_nj, gB_sA, gA_sB, gB_sB_ne, gA_rA_ne, gB_rA, gA_rB, gB_rB_ne])⟩) (by simp (disch := omega) only [gA_sA_ne, gA_sA_nj, gB_sA, gA_sB, gB_sB_ne, gA_rA_ne, gB_rA, gA_rB, gB_rB_ne]) (by simp (disch := omega) only [gA_sA_ne, gA_sA_nj, gB_sA, gA_sB, gB_sB_ne, gA_rA_ne, gB_rA, gA_rB, gB_rB_ne]) (by simp (disch := omega) only [gA_sA_ne, gA_sA_nj, gB_sA, gA_sB, gB_sB_ne, gA_rA_ne, gB_rA, gA_rB, gB_rB_ne]) (by simp (disch := omega) only [gA_sA_ne, gA_sA_nj, gB_sA, gA_sB, gB_sB_ne, gA_rA_ne, gB_rA, gA_rB, gB_rB_ne]) (by simp (disch := omega) only [gA_sA_ne, gA_sA_nj, gB_sA, gA_sB, gB_sB_ne, gA_rA_ne, gB_rA, gA_rB, gB_rB_ne]) (by simp (disch := omega) only [gA_sA_ne, gA_sA_nj, gB_sA, gA_sB, gB_sB_ne, gA_rA_ne, gB_rA, gA_rB, gB_rB_ne]), hM.len hg5 (by omega), stale, hr, rt.cg (by simp (disch := omega) only [gA_sA_ne, gA_sA_nj, gB_sA, gA_sB, gB_sB_ne, gA_rA_ne, gB_rA, gA_rB, gB_rB_ne]) (by simp (disch := omega) only [gA_sA_ne, gA_sA_nj, gB_sA, gA_sB, gB_sB_ne, gA_rA_ne, gB_rA, gA_rB, gB_rB_ne]) (fun t ht => ⟨(by simp (disch := omega) only [gA_sA_ne, gA_sA_nj, gB_sA, gA_sB, gB_sB_ne, gA_rA_ne, gB_rA, gA_rB, gB_rB_ne]), (by simp (disch := omega) only [gA_sA_ne, gA_sA_nj, gB_sA, gA_sB, gB_sB_ne, gA_rA_ne, gB_rA, gA_rB, gB_rB_ne])⟩) (by simp (disch := omega) only [gA_sA_ne, gA_sA_nj, gB_sA, gA_sB, gB_sB_ne, gA_rA_ne, gB_rA, gA_rB, gB_rB_ne]) (by simp (disch := omega) only [gA_sA_ne, gA_sA_nj, gB_sA, gA_sB, gB_sB_ne, gA_rA_ne, gB_rA, gA_rB, gB_rB_ne]), rp.cg (by simp (disch := omega) only [gA_sA_ne, gA_sA_nj, gB_sA, gA_sB, gB_sB_ne, gA_rA_ne, gB_rA, gA_rB, gB_rB_ne]) (by simp (disch := omega) only [gA_sA_ne, gA_sA_nj, gB_sA, gA_sB, gB_sB_ne, gA_rA_ne, gB_rA, gA_rB, gB_rB_ne]) (by simp (disch := omega) only [gA_sA_ne, gA_sA_nj, gB_sA, gA_sB, gB_sB_ne, gA_rA_ne, gB_rA, gA_rB, gB_rB_ne]) (by simp (disch := omega) only [gA_sA_ne, gA_sA_nj, gB_sA, gA_sB, gB_sB_ne, gA_rA_ne, gB_rA, gA_rB, gB_rB_ne]), ri.cg (by simp (disch := omega) only [gA_sA_ne, gA_sA_nj, gB_sA, gA_sB, gB_sB_ne, gA_rA_ne, gB_rA, gA_rB, gB_rB_ne]) (by simp (disch := omega) only [gA_sA_ne, gA_sA_nj, gB_sA, gA_sB, gB_sB_ne, gA_rA_ne, gB_rA, gA_rB, gB_rB_ne]) (by simp (disch := omega) only [gA_sA_ne, gA_sA_nj, gB_sA, gA_sB, gB_sB_ne, gA_rA_ne, gB_rA, gA_rB, gB_rB_ne]) (by simp (disch := omega) only [gA_sA_ne, gA_sA_nj, gB_sA, gA_sB, gB_sB_ne, gA_rA_ne, gB_rA, gA_rB, gB_rB_ne]) (by simp (disch := omega) only [gA_sA_ne, gA_sA_nj, gB_sA, gA_sB, gB_sB_ne, gA_rA_ne, gB_rA, gA_rB, gB_rB_ne]) (by simp (disch := omega) only [gA_sA_ne, gA_sA_nj, gB_sA, gA_sB, gB_sB_ne, gA_rA_ne, gB_rA, gA_rB, gB_rB_ne]) (by simp (disch := omega) only [gA_sA_ne, gA_sA_nj, gB_sA, gA_sB, gB_sB_ne, gA_rA_ne, gB_rA, gA_rB, gB_rB_ne]) (by simp (disch := omega) only [gA_sA_ne, gA_sA_nj, gB_sA, gA_sB, gB_sB_ne, gA_rA_ne, gB_rA, gA_rB, gB_rB_ne]) (by simp (disch := omega) only [gA_sA_ne, gA_sA_nj, gB_sA, gA_sB, gB_sB_ne, gA_rA_ne, gB_rA, gA_rB, gB_rB_ne]) (by simp (disch := omega) only [gA_sA_ne, gA_sA_nj, gB_sA, gA_sB, gB_sB_ne, gA_rA_ne, gB_rA, gA_rB, gB_rB_ne]), rs.cg (fun t ht => ⟨(by simp (disch := omega) only [gA_sA_ne, gA_sA_nj, gB_sA, gA_sB, gB_sB_ne, gA_rA_ne, gB_rA, gA_rB, gB_rB_ne]), (by simp (disch := omega) only [gA_sA_ne, gA_sA_nj, gB_sA, gA_sB, gB_sB_ne, gA_rA_ne, gB_rA, gA_rB, gB_rB_ne])⟩) (by simp (disch := omega) only [gA_sA_ne, gA_sA_nj, gB_sA, gA_sB, gB_sB_ne, gA_rA_ne, gB_rA, gA_rB, gB_rB_ne]) (by simp (disch := omega) only [gA_sA_ne, gA_sA_nj, gB_sA, gA_sB, gB_sB_ne, gA_rA_ne, gB_rA, gA_rB, gB_rB_ne]) (by simp (disch := omega) only [gA_sA_ne, gA_sA_nj, gB_sA, gA_sB, gB_sB_ne, gA_rA_ne, gB_rA, gA_rB, gB_rB_ne]), rw'.cg (by simp (disch := omega) only [gA_sA_ne, gA_sA_nj, gB_sA, gA_sB, gB_sB_ne, gA_rA_ne, gB_rA, gA_rB, gB_rB_ne])⟩
        · simp only [show f_X9_isWithin x3 5 = 0 from e6, show f_X10_in x3 0 5 = 0 from e6, jlet_s, ifN0]
          exact ⟨_, _, _, rfl, rfl, hRel⟩
    · simp only [e1, e2, show f_X9_isWithin x2 1 = 0 from e5, show f_X10_in x2 0 1 = 0 from e5, jlet_s, ifN1, ifN0, if10, if00]
      exact ⟨_, _, _, rfl, rfl, hRel⟩
  · rw [e1, e2]
    exact ⟨_, _, _, rfl, rfl, hRel⟩
/-! ===== what lies at a place ===== -/
def Zly (S : Nat → Int64) (c : Nat) : Nat → Nat
  | 0 => 0
  | i + 1 => Zly S c i + (if bit (S i) c then 2 ^ i else 0)
theorem Zly_lt (S : Nat → Int64) (c : Nat) : ∀ i, Zly S c i < 2 ^ i
  | 0 => by show 0 < 1; omega
  | i + 1 => by
    have := Zly_lt S c i
    show Zly S c i + (if bit (S i) c then 2 ^ i else 0) < 2 ^ (i + 1)
    rw [Nat.pow_succ]
    split <;> omega
theorem shl_2 : ∀ i, i < 3 → jshl 1 (nI i) = nI (2 ^ i) := by decide +kernel
theorem or_2 : ∀ i, i < 3 → ∀ a, a < 2 ^ i → nI a ||| nI (2 ^ i) = nI (a + 2 ^ i) := by decide +kernel
theorem xlying {S : Nat → Int64} {c : Nat} {σ : ST} (h : ∀ w, w < 3 → gB σ 14 w = S w) (hc : c < 36) : f_X3_lying (nI c) σ = some (nI (Zly S c 3)) := by
  unfold f_X3_lying
  refine jloop (fun k i (a : Int32) => f_X3_lying_L4 k (nI c) a (nI i) σ) 3 (fun i a => a = nI (Zly S c i)) (fun r => r = some (nI (Zly S c 3))) ?_ ?_ FU 0 0 (by omega) (by unfold FU; omega) rfl
  · intro k i a hi hp
    refine Or.inr ⟨nI (Zly S c (i + 1)), rfl, ?_⟩
    show f_X3_lying_L4 (k + 1) (nI c) a (nI i) σ = _
    rw [ef_X3_lying_L4, if_neg (nle3 hi), jix_t hi (by omega), nI_clamp (by omega), h i hi, isIn_b _ (by omega), jlet_s, hp]
    unfold f_X3_lying_L28
    show _ = f_X3_lying_L4 k (nI c) (nI (Zly S c i + (if bit (S i) c then 2 ^ i else 0))) (nI (i + 1)) σ
    cases bit (S i) c with
    | false => rw [if_pos (show bI false = 0 from rfl), jlet_s, nI_1]; rfl
    | true => rw [if_neg (show ¬ bI true = 0 by decide), jlet_s, jlet_s, nI_1, shl_2 i hi, nI_add, if_pos rfl]
  · intro k a hp
    show f_X3_lying_L4 (k + 1) (nI c) a (nI 3) σ = _
    rw [ef_X3_lying_L4, if_pos (by decide), hp]
theorem mlying {S : Nat → Int64} {c q : Nat} {σ : ST} (h : ∀ w, w < 3 → gB σ 1 w = S w) (hc : c < 36) : f_X10_taken_L37 FU (nI c) (nI q) 0 0 σ = (if ¬ nI (Zly S c 3) = 0 then (if ¬ nI q = 6 then some (-13) else some (nI (Zly S c 3))) else some (-11)) := by
  refine jloop (fun k i (a : Int32) => f_X10_taken_L37 k (nI c) (nI q) a (nI i) σ) 3 (fun i a => a = nI (Zly S c i)) (fun r => r = (if ¬ nI (Zly S c 3) = 0 then (if ¬ nI q = 6 then some (-13) else some (nI (Zly S c 3))) else some (-11))) ?_ ?_ FU 0 0 (by omega) (by unfold FU; omega) rfl
  · intro k i a hi hp
    refine Or.inr ⟨nI (Zly S c (i + 1)), rfl, ?_⟩
    show f_X10_taken_L37 (k + 1) (nI c) (nI q) a (nI i) σ = _
    rw [ef_X10_taken_L37, if_neg (nle3 hi), jix_t hi (by omega), nI_clamp (by omega), h i hi, has_b _ (by omega), jlet_s, hp]
    unfold f_X10_taken_L66
    show _ = f_X10_taken_L37 k (nI c) (nI q) (nI (Zly S c i + (if bit (S i) c then 2 ^ i else 0))) (nI (i + 1)) σ
    cases bit (S i) c with
    | false => rw [if_pos (show bI false = 0 from rfl), jlet_s, jlet_s, nI_1, Int32.or_zero]; rfl
    | true => rw [if_neg (show ¬ bI true = 0 by decide), jlet_s, jlet_s, nI_1, shl_2 i hi, or_2 i hi _ (Zly_lt S c i), if_pos rfl]
  · intro k a hp
    show f_X10_taken_L37 (k + 1) (nI c) (nI q) a (nI 3) σ = _
    rw [ef_X10_taken_L37, if_pos (by decide), hp]
theorem isOf_0 : ∀ k, k < 6 → ∀ q, q < 6 → (if nI q = 0 then some (1 : Int32) else if nI q = nI k then some 1 else if ¬ nI q = tab0.getD k 0 then some 0 else some 1) = some (f_X10_isUnder (nI k) (nI q)) := by decide +kernel
theorem xisOf {σ : ST} {g k q : Nat} (hg : g < 5) (h : gA σ 15 g = nI k) (hk : k < 6) (hq : q < 6) : f_X1_isOf (nI g) (nI q) σ = some (f_X10_isUnder (nI k) (nI q)) := by
  rw [← isOf_0 k hk q hq]
  unfold f_X1_isOf
  simp (disch := omega) only [jlet_s, ifN1, ifN0, if10, if00, jix_t, nI_clamp, h]
theorem op_taken : OP_taken REL := by
  intro σx σm x1 x2 hRel
  obtain ⟨S, r, G, n, nT, Tx, hS, hX, hM, hC, hr, hR⟩ := id hRel
  have hn := hX.2.2.1
  unfold f_X9_taken f_X10_taken
  rcases wN x2 (m := 6) (by omega) with ⟨q, hq, rfl, e1⟩ | e1
  · rcases wN x1 (m := 40) (by omega) with ⟨i, hi, rfl, e2⟩ | e2
    · simp only [show f_X9_isWithin (nI q) 6 = 1 from e1, show f_X10_in (nI q) 0 6 = 1 from e1, show f_X9_isWithin (nI i) 40 = 1 from e2, show f_X10_in (nI i) 0 40 = 1 from e2, jlet_s, ifN1]
      rcases Nat.lt_or_ge i 36 with hc | hc
      · rw [if_neg (nle36 hc), if_neg (nle36 hc), xlying (S := S) (fun w hw => (lay3 hX hM hw).1) hc, mlying (S := S) (fun w hw => (lay3 hX hM hw).2) hc, jb_s]
        unfold f_X9_taken_L42 f_X9_taken_L70
        rw [if_neg (nle36 hc)]
        have hz := Zly_lt S i 3
        by_cases h0 : nI (Zly S i 3) = 0
        · rw [if_neg (fun z => z h0), if_neg (fun z => z h0)]
          exact ⟨_, rfl, rfl, hRel⟩
        · rw [if_pos h0, if_pos h0, if_neg (nle36 hc)]
          by_cases h6 : q = 6
          · subst h6
            rw [if_neg (show ¬ nI 6 ≤ 5 by decide), if_neg (show ¬ ¬ nI 6 = 6 by decide)]
            exact ⟨_, rfl, rfl, hRel⟩
          · rw [if_pos (show nI q ≤ 5 from nI_le (b := 5) (by omega) (by decide)), if_pos (show ¬ nI q = 6 from fun z => h6 ((nI_eq (b := 6) (by omega) (by omega)).mp z))]
            exact ⟨_, rfl, rfl, hRel⟩
      · obtain ⟨g, rfl⟩ : ∃ g, i = 36 + g := ⟨i - 36, by omega⟩
        have h36 : (36 : Int32) ≤ nI (36 + g) := nI_le (a := 36) (by omega) (by omega)
        rw [if_pos h36, if_pos h36]
        unfold f_X9_taken_L42 f_X9_taken_L70
        rw [if_pos h36, if_pos h36, show nI (36 + g) - 36 = nI g by rw [show (36 : Int32) = nI 36 from rfl, pk_sub (by omega)]; congr 1; omega, hM.2.1]
        have hg5 : g < 5 := by omega
        rcases wG2 (nI g) hX.2.1 hM.2.1 hX.2.2.1 with ⟨g', hg', e3, e4, e5⟩ | ⟨e4, e5⟩
        · have : g = g' := (nI_eq (by omega) (by omega)).mp e3
          subst this
          rw [e4, jlet_s, ifN1, if_pos (nI_lt hg' (by omega))]
          by_cases h6 : q = 6
          · subst h6
            rw [if_pos (show (5 : Int32) < nI 6 by decide), if_pos (show (6 : Int32) ≤ nI 6 by decide)]
            exact ⟨_, rfl, rfl, hRel⟩
          · rw [if_neg (show ¬ (5 : Int32) < nI q from nI_nlt (a := 5) (by omega) (by omega)), if_neg (show ¬ (6 : Int32) ≤ nI q from nI_ge (b := 6) (by omega) (by omega)), xisOf hg5 (hX.2.2.2 g hg5).1.1 (hX.2.2.2 g hg5).2.1 (by omega), jb_s, jix_t hg5 (by omega), nI_clamp (by omega), (hM.2.2.2 g hg5).1.1]
            by_cases z : f_X10_isUnder (nI (G g 0)) (nI q) = 0
            · rw [if_pos z]
              exact ⟨_, rfl, rfl, hRel⟩
            · rw [if_neg z]
              exact ⟨_, rfl, rfl, hRel⟩
        · have hng : ¬ nI g < nI n := fun z => by
            have w : f_X10_isGuard (nI g) σm = 1 := by
              unfold f_X10_isGuard
              rw [hM.2.1, jlet_s]
              have := (nI_ltI (by omega) (by omega)).mp z
              obtain ⟨k, rfl⟩ : ∃ k, n = k + 1 := ⟨n - 1, by omega⟩
              rw [nI_pred]
              exact in_1 (by omega) (by omega)
            rw [w] at e5
            exact absurd e5 (by decide)
          rw [e4, jlet_s, ifN0, if_neg hng]
          exact ⟨_, rfl, rfl, hRel⟩
    · simp only [show f_X9_isWithin (nI q) 6 = 1 from e1, show f_X10_in (nI q) 0 6 = 1 from e1, show f_X9_isWithin x1 40 = 0 from e2, show f_X10_in x1 0 40 = 0 from e2, jlet_s, ifN1, ifN0]
      exact ⟨_, rfl, rfl, hRel⟩
  · rw [show f_X9_isWithin x2 6 = 0 from e1, show f_X10_in x2 0 6 = 0 from e1]
    exact ⟨_, rfl, rfl, hRel⟩
/-! ===== the image ===== -/
theorem CX.cg {S : Nat → Int64} {T : TT} {G : Nat → Nat → Nat} {n : Nat} {σ σ' : ST} (h : CX S T G n σ) (h40 : gB σ' 40 = gB σ 40) (h43 : ∀ g, g < 5 → gB σ' (43 + g) = gB σ (43 + g)) (h48 : gB σ' 48 = gB σ 48) (hn : n ≤ 5) : CX S T G n σ' := ⟨fun g hg => ⟨fun t ht => by rw [h43 g (by omega)]; exact (h.1 g hg).1 t ht, by rw [h48]; exact (h.1 g hg).2⟩, fun t ht => by rw [h40]; exact h.2 t ht⟩
theorem mimg {σ : ST} : ∃ σ', f_X10_image_L23 FU 0 σ = some (gA σ 0 1, σ') ∧ (∀ k, k ≠ 12 → k ≠ 13 → gA σ' k = gA σ k) ∧ (∀ k, k ≠ 11 → gB σ' k = gB σ k) ∧ (∀ i, i < 3 → gB σ' 11 i = gB σ 1 i) ∧ ∀ g, g < 5 → gA σ' 12 g = gA σ 7 g ∧ gA σ' 13 g = gA σ 5 g := by
  refine jloop (fun k i s => f_X10_image_L23 k (nI i) s) 3 (fun i s => (∀ k, gA s k = gA σ k) ∧ (∀ k, k ≠ 11 → gB s k = gB σ k) ∧ ∀ j, j < i → gB s 11 j = gB σ 1 j) (fun r => ∃ σ', r = some (gA σ 0 1, σ') ∧ (∀ k, k ≠ 12 → k ≠ 13 → gA σ' k = gA σ k) ∧ (∀ k, k ≠ 11 → gB σ' k = gB σ k) ∧ (∀ i, i < 3 → gB σ' 11 i = gB σ 1 i) ∧ ∀ g, g < 5 → gA σ' 12 g = gA σ 7 g ∧ gA σ' 13 g = gA σ 5 g) ?_ ?_ FU 0 σ (by omega) (by unfold FU; omega) ⟨fun _ => rfl, fun _ _ => rfl, fun j hj => absurd hj (Nat.not_lt_zero _)⟩
  · intro k i s hi ⟨p1, p2, p3⟩
    refine Or.inr ⟨sB s 11 i (gB s 1 i), ⟨fun k => p1 k, fun k hk => by rw [gB_sB_ne hk]; exact p2 k hk, fun j hj => ?_⟩, ?_⟩
    · rw [gB_sB]
      split
      · rename_i q
        rw [q.2, p2 1 (by omega)]
      · exact p3 j (by omega)
    · show f_X10_image_L23 (k + 1) (nI i) s = _
      rw [ef_X10_image_L23, if_neg (nle3 hi)]
      simp (disch := omega) only [jlet_s, ifN1, ifN0, if10, if00, jix_t, nI_clamp, nI_1]
  · intro k s ⟨p1, p2, p3⟩
    show ∃ σ', f_X10_image_L23 (k + 1) (nI 3) s = some (gA σ 0 1, σ') ∧ _
    rw [ef_X10_image_L23, if_pos (show (3 : Int32) ≤ nI 3 by decide)]
    refine jloop (fun k i s' => f_X10_image_L48 k (nI i) s') 5 (fun i s' => (∀ k, k ≠ 12 → k ≠ 13 → gA s' k = gA σ k) ∧ (∀ k, gB s' k = gB s k) ∧ ∀ j, j < i → gA s' 12 j = gA σ 7 j ∧ gA s' 13 j = gA σ 5 j) (fun r => ∃ σ', r = some (gA σ 0 1, σ') ∧ (∀ k, k ≠ 12 → k ≠ 13 → gA σ' k = gA σ k) ∧ (∀ k, k ≠ 11 → gB σ' k = gB σ k) ∧ (∀ i, i < 3 → gB σ' 11 i = gB σ 1 i) ∧ ∀ g, g < 5 → gA σ' 12 g = gA σ 7 g ∧ gA σ' 13 g = gA σ 5 g) ?_ ?_ FU 0 s (by omega) (by unfold FU; omega) ⟨fun k _ _ => p1 k, fun _ => rfl, fun j hj => absurd hj (Nat.not_lt_zero _)⟩
    · intro k i s' hi ⟨r1, r2, r3⟩
      refine Or.inr ⟨sA (sA s' 12 i (gA s' 7 i)) 13 i (gA s' 5 i), ⟨fun k h12 h13 => by rw [gA_sA_ne h13, gA_sA_ne h12]; exact r1 k h12 h13, fun k => r2 k, fun j hj => ?_⟩, ?_⟩
      · by_cases e : j = i
        · subst e
          rw [gA_sA_ne (show 12 ≠ 13 by omega), gA_sA_eq, gA_sA_eq, r1 7 (by omega) (by omega), r1 5 (by omega) (by omega)]
          exact ⟨rfl, rfl⟩
        · rw [gA_sA_ne (show 12 ≠ 13 by omega), gA_sA_nj e, gA_sA_nj e, gA_sA_ne (show 13 ≠ 12 by omega)]
          exact r3 j (by omega)
      · show f_X10_image_L48 (k + 1) (nI i) s' = _
        rw [ef_X10_image_L48, if_neg (nle5 hi)]
        simp (disch := omega) only [jlet_s, ifN1, ifN0, if10, if00, jix_t, nI_clamp, nI_1, gA_sA_ne, gA_sA_nj, gB_sA, gA_sB, gB_sB_ne, gA_rA_ne, gB_rA, gA_rB, gB_rB_ne]
    · intro k s' ⟨r1, r2, r3⟩
      refine ⟨s', ?_, r1, fun k hk => by rw [r2 k]; exact p2 k hk, fun i hi => by rw [r2 11]; exact p3 i hi, r3⟩
      show f_X10_image_L48 (k + 1) (nI 5) s' = _
      rw [ef_X10_image_L48, if_pos (show (5 : Int32) ≤ nI 5 by decide), r1 0 (by omega) (by omega)]
theorem ximg {σ : ST} : ∃ σ', f_X9_image σ = (gA σ 2 6, σ') ∧ (∀ k, k ≠ 8 → k ≠ 52 → k ≠ 53 → gA σ' k = gA σ k) ∧ gA σ' 8 0 = 1 ∧ gA σ' 8 1 = gA σ 4 3 ∧ gA σ' 8 2 = gA σ 2 6 ∧ (∀ k, k ≠ 51 → gB σ' k = gB σ k) ∧ (∀ i, i < 3 → gB σ' 51 i = gB σ 14 i) ∧ ∀ g, g < 5 → gA σ' 52 g = gA σ 20 g ∧ gA σ' 53 g = gA σ 19 g := by
  unfold f_X9_image f_X2_take
  simp only [jlet_s]
  refine ⟨_, Prod.ext ?_ rfl, fun k h8 h52 h53 => ?_, ?_, ?_, ?_, fun k hk => ?_, fun i hi => ?_, fun g hg => ⟨?_, ?_⟩⟩
  · simp (disch := omega) only [gA_sA_ne, gA_sA_nj, gB_sA, gA_sB, gB_sB_ne, gA_rA_ne, gB_rA, gA_rB, gB_rB_ne, gA_sA_eq]
  · simp (disch := omega) only [gA_sA_ne, gA_sA_nj, gB_sA, gA_sB, gB_sB_ne, gA_rA_ne, gB_rA, gA_rB, gB_rB_ne]
  · simp (disch := omega) only [gA_sA_ne, gA_sA_nj, gB_sA, gA_sB, gB_sB_ne, gA_rA_ne, gB_rA, gA_rB, gB_rB_ne, gA_sA_eq]
  · simp (disch := omega) only [gA_sA_ne, gA_sA_nj, gB_sA, gA_sB, gB_sB_ne, gA_rA_ne, gB_rA, gA_rB, gB_rB_ne, gA_sA_eq]
  · simp (disch := omega) only [gA_sA_ne, gA_sA_nj, gB_sA, gA_sB, gB_sB_ne, gA_rA_ne, gB_rA, gA_rB, gB_rB_ne, gA_sA_eq]
  · simp (disch := omega) only [gA_sA_ne, gA_sA_nj, gB_sA, gA_sB, gB_sB_ne, gA_rA_ne, gB_rA, gA_rB, gB_rB_ne]
  · simp (disch := omega) only [gA_sA_ne, gA_sA_nj, gB_sA, gA_sB, gB_sB_ne, gA_rA_ne, gB_rA, gA_rB, gB_rB_ne, gB_rB]
    rw [show Int32.toNatClampNeg 0 = 0 from rfl, show Int32.toNatClampNeg 3 = 3 from rfl, pk_cpy_in (Nat.zero_le _) (by omega)]
    show gB σ 14 (0 + (i - 0)) = _
    rw [Nat.zero_add, Nat.sub_zero]
  · simp (disch := omega) only [gA_sA_ne, gA_sA_nj, gB_sA, gA_sB, gB_sB_ne, gA_rA_ne, gB_rA, gA_rB, gB_rB_ne, gA_rA]
    rw [show Int32.toNatClampNeg 0 = 0 from rfl, show Int32.toNatClampNeg 5 = 5 from rfl, pk_cpy_in (Nat.zero_le _) (by omega)]
    show gA σ 20 (0 + (g - 0)) = _
    rw [Nat.zero_add, Nat.sub_zero]
  · simp (disch := omega) only [gA_sA_ne, gA_sA_nj, gB_sA, gA_sB, gB_sB_ne, gA_rA_ne, gB_rA, gA_rB, gB_rB_ne, gA_rA]
    rw [show Int32.toNatClampNeg 0 = 0 from rfl, show Int32.toNatClampNeg 5 = 5 from rfl, pk_cpy_in (Nat.zero_le _) (by omega)]
    show gA σ 19 (0 + (g - 0)) = _
    rw [Nat.zero_add, Nat.sub_zero]
theorem op_image : OP_image REL := by
  intro σx σm hRel
  obtain ⟨S, r, G, n, nT, Tx, hS, hX, hM, hC, hr, hR⟩ := id hRel
  obtain ⟨rt, rp, ri, rs, rw'⟩ := hR
  have hn := hX.2.2.1
  obtain ⟨σ1, e1, f1, f2, f3, f4, f5, f6, f7⟩ := ximg (σ := σx)
  rw [e1]
  unfold f_X10_image
  rw [jlet_s, jlet_s, jlet_s]
  obtain ⟨σ', k1, k2, k3, k4, k5⟩ := mimg (σ := sA (sA (sA σm 0 14 1) 0 15 (gA (sA σm 0 14 1) 0 1)) 0 16 (gA (sA (sA σm 0 14 1) 0 15 (gA (sA σm 0 14 1) 0 1)) 0 13))
  rw [k1]
  have z1 : ∀ k, k ≠ 0 → k ≠ 12 → k ≠ 13 → gA σ' k = gA σm k := fun k h0 h1 h2 => by
    rw [k2 k h1 h2, gA_sA_ne h0, gA_sA_ne h0, gA_sA_ne h0]
  have z2 : ∀ j, j ≠ 14 → j ≠ 15 → j ≠ 16 → gA σ' 0 j = gA σm 0 j := fun j h1 h2 h3 => by
    rw [k2 0 (by omega) (by omega), gA_sA_nj h3, gA_sA_nj h2, gA_sA_nj h1]
  have z3 : ∀ k, k ≠ 11 → gB σ' k = gB σm k := fun k h => by
    rw [k3 k h]; rfl
  have zx : ∀ k, k ≠ 8 ∧ k ≠ 52 ∧ k ≠ 53 → gA σ1 k = gA σx k := fun k h => f1 k h.1 h.2.1 h.2.2
  refine ⟨nI n, σ1, σ', ?_, ?_, S, r, G, n, nT, Tx, hS, hX.cg (f5 14 (by omega)) (by rw [zx 4 (by omega)]) (by rw [zx 2 (by omega)]) (fun t ht => ⟨zx _ (by omega), zx _ (by omega)⟩) (zx 15 (by omega)) (zx 16 (by omega)) (zx 17 (by omega)) (zx 18 (by omega)) (zx 19 (by omega)) (zx 20 (by omega)), hM.cg (z3 1 (by omega)) (z2 13 (by omega) (by omega) (by omega)) (z2 1 (by omega) (by omega) (by omega)) (z1 9 (by omega) (by omega) (by omega)) (z1 10 (by omega) (by omega) (by omega)) (z1 2 (by omega) (by omega) (by omega)) (z1 3 (by omega) (by omega) (by omega)) (z1 4 (by omega) (by omega) (by omega)) (z1 5 (by omega) (by omega) (by omega)) (z1 6 (by omega) (by omega) (by omega)) (z1 7 (by omega) (by omega) (by omega)), fun q => (hC ?_).cg (f5 40 (by omega)) (fun g hg => f5 (43 + g) (by omega)) (f5 48 (by omega)) hn, hr, rt.cg (by rw [zx 4 (by omega)]) (z2 12 (by omega) (by omega) (by omega)) (fun t ht => ⟨zx _ (by omega), zx _ (by omega)⟩) (z1 9 (by omega) (by omega) (by omega)) (z1 10 (by omega) (by omega) (by omega)), rp.cg (by rw [zx 3 (by omega)]) (z2 9 (by omega) (by omega) (by omega)) (zx 21 (by omega)) (z1 8 (by omega) (by omega) (by omega)), ⟨?_, fun _ => ⟨⟨r, hr, ?_, ?_⟩, ⟨n, hn, ?_, ?_⟩, fun i hi => ⟨?_, ?_⟩, fun g hg => ⟨⟨G g 5, (hX.2.2.2 g hg).2.2.2.2.2.2, ?_, ?_⟩, ⟨G g 4, (hX.2.2.2 g hg).2.2.2.2.2.1, ?_, ?_⟩⟩⟩⟩, rs.cg (fun t ht => ⟨zx _ (by omega), zx _ (by omega)⟩) (z1 14 (by omega) (by omega) (by omega)) (z1 15 (by omega) (by omega) (by omega)) (z1 16 (by omega) (by omega) (by omega)), rw'.cg (z1 18 (by omega) (by omega) (by omega))⟩
  · rw [hX.2.1]
  · refine congrArg (fun z => some (z, σ')) ?_
    simp (disch := omega) only [gA_sA_ne, gA_sA_nj, gB_sA, gA_sB, gB_sB_ne, gA_rA_ne, gB_rA, gA_rB, gB_rB_ne]
    exact hM.2.1
  · rw [zx 5 (by omega)] at q
    exact q
  · rw [f2, k2 0 (by omega) (by omega)]
    simp (disch := omega) only [gA_sA_ne, gA_sA_nj, gB_sA, gA_sB, gB_sB_ne, gA_rA_ne, gB_rA, gA_rB, gB_rB_ne, gA_sA_eq]
  · rw [f3]; exact hX.1.2.1
  · rw [k2 0 (by omega) (by omega)]
    simp (disch := omega) only [gA_sA_ne, gA_sA_nj, gB_sA, gA_sB, gB_sB_ne, gA_rA_ne, gB_rA, gA_rB, gB_rB_ne, gA_sA_eq]
    exact hM.1.2.1
  · rw [f4]; exact hX.2.1
  · rw [k2 0 (by omega) (by omega)]
    simp (disch := omega) only [gA_sA_ne, gA_sA_nj, gB_sA, gA_sB, gB_sB_ne, gA_rA_ne, gB_rA, gA_rB, gB_rB_ne, gA_sA_eq]
    exact hM.2.1
  · rw [k4 i hi, f6 i hi]
    simp (disch := omega) only [gA_sA_ne, gA_sA_nj, gB_sA, gA_sB, gB_sB_ne, gA_rA_ne, gB_rA, gA_rB, gB_rB_ne]
    rw [(lay3 hX hM hi).1, (lay3 hX hM hi).2]
  · intro b hb
    rw [f6 i hi, (lay3 hX hM hi).1]
    exact hS i hi b hb
  · rw [(f7 g hg).1]; exact (hX.2.2.2 g hg).1.2.2.2.2.2
  · rw [(k5 g hg).1]
    simp (disch := omega) only [gA_sA_ne, gA_sA_nj, gB_sA, gA_sB, gB_sB_ne, gA_rA_ne, gB_rA, gA_rB, gB_rB_ne]
    exact (hM.2.2.2 g hg).1.2.2.2.2.2
  · rw [(f7 g hg).2]; exact (hX.2.2.2 g hg).1.2.2.2.2.1
  · rw [(k5 g hg).2]
    simp (disch := omega) only [gA_sA_ne, gA_sA_nj, gB_sA, gA_sB, gB_sB_ne, gA_rA_ne, gB_rA, gA_rB, gB_rB_ne]
    exact (hM.2.2.2 g hg).1.2.2.2.2.1
/-! ===== the image given back ===== -/
theorem mback {σ : ST} : ∃ σ', f_X10_back_L28 FU 0 σ = some (gA σ 0 1, σ') ∧ (∀ k, k ≠ 5 → k ≠ 7 → gA σ' k = gA σ k) ∧ (∀ k, k ≠ 1 → gB σ' k = gB σ k) ∧ (∀ i, i < 3 → gB σ' 1 i = gB σ 11 i) ∧ ∀ g, g < 5 → gA σ' 7 g = gA σ 12 g ∧ gA σ' 5 g = gA σ 13 g := by
  refine jloop (fun k i s => f_X10_back_L28 k (nI i) s) 3 (fun i s => (∀ k, gA s k = gA σ k) ∧ (∀ k, k ≠ 1 → gB s k = gB σ k) ∧ ∀ j, j < i → gB s 1 j = gB σ 11 j) (fun r => ∃ σ', r = some (gA σ 0 1, σ') ∧ (∀ k, k ≠ 5 → k ≠ 7 → gA σ' k = gA σ k) ∧ (∀ k, k ≠ 1 → gB σ' k = gB σ k) ∧ (∀ i, i < 3 → gB σ' 1 i = gB σ 11 i) ∧ ∀ g, g < 5 → gA σ' 7 g = gA σ 12 g ∧ gA σ' 5 g = gA σ 13 g) ?_ ?_ FU 0 σ (by omega) (by unfold FU; omega) ⟨fun _ => rfl, fun _ _ => rfl, fun j hj => absurd hj (Nat.not_lt_zero _)⟩
  · intro k i s hi ⟨p1, p2, p3⟩
    refine Or.inr ⟨sB s 1 i (gB s 11 i), ⟨fun k => p1 k, fun k hk => by rw [gB_sB_ne hk]; exact p2 k hk, fun j hj => ?_⟩, ?_⟩
    · rw [gB_sB]
      split
      · rename_i q
        rw [q.2, p2 11 (by omega)]
      · exact p3 j (by omega)
    · show f_X10_back_L28 (k + 1) (nI i) s = _
      rw [ef_X10_back_L28, if_neg (nle3 hi)]
      simp (disch := omega) only [jlet_s, ifN1, ifN0, if10, if00, jix_t, nI_clamp, nI_1]
  · intro k s ⟨p1, p2, p3⟩
    show ∃ σ', f_X10_back_L28 (k + 1) (nI 3) s = some (gA σ 0 1, σ') ∧ _
    rw [ef_X10_back_L28, if_pos (show (3 : Int32) ≤ nI 3 by decide)]
    refine jloop (fun k i s' => f_X10_back_L53 k (nI i) s') 5 (fun i s' => (∀ k, k ≠ 5 → k ≠ 7 → gA s' k = gA σ k) ∧ (∀ k, gB s' k = gB s k) ∧ ∀ j, j < i → gA s' 7 j = gA σ 12 j ∧ gA s' 5 j = gA σ 13 j) (fun r => ∃ σ', r = some (gA σ 0 1, σ') ∧ (∀ k, k ≠ 5 → k ≠ 7 → gA σ' k = gA σ k) ∧ (∀ k, k ≠ 1 → gB σ' k = gB σ k) ∧ (∀ i, i < 3 → gB σ' 1 i = gB σ 11 i) ∧ ∀ g, g < 5 → gA σ' 7 g = gA σ 12 g ∧ gA σ' 5 g = gA σ 13 g) ?_ ?_ FU 0 s (by omega) (by unfold FU; omega) ⟨fun k _ _ => p1 k, fun _ => rfl, fun j hj => absurd hj (Nat.not_lt_zero _)⟩
    · intro k i s' hi ⟨r1, r2, r3⟩
      refine Or.inr ⟨sA (sA s' 7 i (gA s' 12 i)) 5 i (gA s' 13 i), ⟨fun k h12 h13 => by rw [gA_sA_ne h12, gA_sA_ne h13]; exact r1 k h12 h13, fun k => r2 k, fun j hj => ?_⟩, ?_⟩
      · by_cases e : j = i
        · subst e
          rw [gA_sA_ne (show 7 ≠ 5 by omega), gA_sA_eq, gA_sA_eq, r1 12 (by omega) (by omega), r1 13 (by omega) (by omega)]
          exact ⟨rfl, rfl⟩
        · rw [gA_sA_ne (show 7 ≠ 5 by omega), gA_sA_nj e, gA_sA_nj e, gA_sA_ne (show 5 ≠ 7 by omega)]
          exact r3 j (by omega)
      · show f_X10_back_L53 (k + 1) (nI i) s' = _
        rw [ef_X10_back_L53, if_neg (nle5 hi)]
        simp (disch := omega) only [jlet_s, ifN1, ifN0, if10, if00, jix_t, nI_clamp, nI_1, gA_sA_ne, gA_sA_nj, gB_sA, gA_sB, gB_sB_ne, gA_rA_ne, gB_rA, gA_rB, gB_rB_ne]
    · intro k s' ⟨r1, r2, r3⟩
      refine ⟨s', ?_, r1, fun k hk => by rw [r2 k]; exact p2 k hk, fun i hi => by rw [r2 1]; exact p3 i hi, r3⟩
      show f_X10_back_L53 (k + 1) (nI 5) s' = _
      rw [ef_X10_back_L53, if_pos (show (5 : Int32) ≤ nI 5 by decide), r1 0 (by omega) (by omega)]
