/-! ===== the image given back ===== -/
theorem xback {σ : ST} (h0 : ¬ gA σ 8 0 = 0) : ∃ σ', f_X9_back σ = (gA σ 8 2, σ') ∧ (∀ k, k ≠ 2 → k ≠ 19 → k ≠ 20 → k ≠ 4 → k ≠ 5 → gA σ' k = gA σ k) ∧ (∀ j, j ≠ 3 → gA σ' 4 j = gA σ 4 j) ∧ gA σ' 2 6 = gA σ 8 2 ∧ gA σ' 4 3 = gA σ 8 1 ∧ gA σ' 5 3 = 1 ∧ (∀ k, k ≠ 14 → gB σ' k = gB σ k) ∧ (∀ i, i < 3 → gB σ' 14 i = gB σ 51 i) ∧ ∀ g, g < 5 → gA σ' 20 g = gA σ 52 g ∧ gA σ' 19 g = gA σ 53 g := by
  unfold f_X9_back f_X2_giveBack
  rw [if_pos h0]
  simp only [jlet_s]
  refine ⟨_, Prod.ext ?_ rfl, fun k h2 h19 h20 h4 h5 => ?_, fun j hj => ?_, ?_, ?_, gA_sA_eq, fun k hk => ?_, fun i hi => ?_, fun g hg => ⟨?_, ?_⟩⟩
  · simp (disch := omega) only [gA_sA_ne, gA_sA_nj, gB_sA, gA_sB, gB_sB_ne, gA_rA_ne, gB_rA, gA_rB, gB_rB_ne, gA_sA_eq]
  · simp (disch := omega) only [gA_sA_ne, gA_sA_nj, gB_sA, gA_sB, gB_sB_ne, gA_rA_ne, gB_rA, gA_rB, gB_rB_ne]
  · simp (disch := omega) only [gA_sA_ne, gA_sA_nj, gB_sA, gA_sB, gB_sB_ne, gA_rA_ne, gB_rA, gA_rB, gB_rB_ne]
  · simp (disch := omega) only [gA_sA_ne, gA_sA_nj, gB_sA, gA_sB, gB_sB_ne, gA_rA_ne, gB_rA, gA_rB, gB_rB_ne, gA_sA_eq]
  · simp (disch := omega) only [gA_sA_ne, gA_sA_nj, gB_sA, gA_sB, gB_sB_ne, gA_rA_ne, gB_rA, gA_rB, gB_rB_ne, gA_sA_eq]
  · simp (disch := omega) only [gA_sA_ne, gA_sA_nj, gB_sA, gA_sB, gB_sB_ne, gA_rA_ne, gB_rA, gA_rB, gB_rB_ne]
  · simp (disch := omega) only [gA_sA_ne, gA_sA_nj, gB_sA, gA_sB, gB_sB_ne, gA_rA_ne, gB_rA, gA_rB, gB_rB_ne, gB_rB]
    rw [show Int32.toNatClampNeg 0 = 0 from rfl, show Int32.toNatClampNeg 3 = 3 from rfl, pk_cpy_in (Nat.zero_le _) (by omega)]
    show gB σ 51 (0 + (i - 0)) = _
    rw [Nat.zero_add, Nat.sub_zero]
  · simp (disch := omega) only [gA_sA_ne, gA_sA_nj, gB_sA, gA_sB, gB_sB_ne, gA_rA_ne, gB_rA, gA_rB, gB_rB_ne, gA_rA]
    rw [show Int32.toNatClampNeg 0 = 0 from rfl, show Int32.toNatClampNeg 5 = 5 from rfl, pk_cpy_in (Nat.zero_le _) (by omega)]
    show gA σ 52 (0 + (g - 0)) = _
    rw [Nat.zero_add, Nat.sub_zero]
  · simp (disch := omega) only [gA_sA_ne, gA_sA_nj, gB_sA, gA_sB, gB_sB_ne, gA_rA_ne, gB_rA, gA_rB, gB_rB_ne, gA_rA]
    rw [show Int32.toNatClampNeg 0 = 0 from rfl, show Int32.toNatClampNeg 5 = 5 from rfl, pk_cpy_in (Nat.zero_le _) (by omega)]
    show gA σ 53 (0 + (g - 0)) = _
    rw [Nat.zero_add, Nat.sub_zero]
theorem op_back : OP_back REL := by
  intro σx σm hRel
  obtain ⟨S, r, G, n, nT, Tx, hS, hX, hM, hC, hr, hR⟩ := id hRel
  obtain ⟨rt, rp, ri, rs, rw'⟩ := hR
  obtain ⟨i1, i2⟩ := id ri
  by_cases h0 : gA σm 0 14 = 0
  · unfold f_X9_back f_X10_back
    rw [i1, if_neg (fun z => z h0), if_neg (fun z => z h0)]
    exact ⟨_, _, _, rfl, rfl, hRel⟩
  · obtain ⟨⟨q, hq, q1, q2⟩, ⟨m, hm, m1, m2⟩, hs, hg⟩ := i2 h0
    obtain ⟨σ1, e1, f1, f2, f3, f4, f5, f6, f7, f8⟩ := xback (σ := σx) (by rw [i1]; exact h0)
    unfold f_X10_back
    rw [if_pos h0, jlet_s, jlet_s]
    obtain ⟨σ', k1, k2, k3, k4, k5⟩ := mback (σ := sA (sA σm 0 1 (gA σm 0 15)) 0 13 (gA (sA σm 0 1 (gA σm 0 15)) 0 16))
    rw [k1, e1, m1]
    obtain ⟨t1, t2, t3, t4⟩ := id rt
    have z1 : ∀ k, k ≠ 0 → k ≠ 5 → k ≠ 7 → gA σ' k = gA σm k := fun k h0 h1 h2 => by
      rw [k2 k h1 h2, gA_sA_ne h0, gA_sA_ne h0]
    have z2 : ∀ j, j ≠ 1 → j ≠ 13 → gA σ' 0 j = gA σm 0 j := fun j h1 h2 => by
      rw [k2 0 (by omega) (by omega), gA_sA_nj h2, gA_sA_nj h1]
    have z3 : ∀ k, k ≠ 1 → gB σ' k = gB σm k := fun k h => by
      rw [k3 k h]; rfl
    have hgw : ∀ g, g < 5 → GW (fun j => if j = 5 then (gA σx 52 g).toNatClampNeg else if j = 4 then (gA σx 53 g).toNatClampNeg else G g j) := fun g hg5 => by
      obtain ⟨⟨a, ha, a1, a2⟩, l, hl, l1, l2⟩ := hg g hg5
      obtain ⟨y0, y1, y2, y3, y4, y5⟩ := (hX.2.2.2 g hg5).2
      exact ⟨y0, y1, y2, y3, by show (gA σx 53 g).toNatClampNeg < 6; rw [l1, nI_clamp (by omega)]; exact hl, by show (gA σx 52 g).toNatClampNeg < 24; rw [a1, nI_clamp (by omega)]; exact ha⟩
    obtain ⟨w1, w2, w3⟩ := t4 q hq
    refine ⟨nI m, σ1, σ', rfl, ?_, fun i => gB σx 51 i, q, fun g j => if j = 5 then (gA σx 52 g).toNatClampNeg else if j = 4 then (gA σx 53 g).toNatClampNeg else G g j, m, nT, Tx, fun i hi => (hs i hi).2, ⟨⟨⟨f7 0 (by omega), f7 1 (by omega), f7 2 (by omega)⟩, by rw [f4]; exact q1, by omega, w1, fun i hi => ?_, fun p hp => ?_⟩, by rw [f3]; exact m1, hm, fun g hg5 => ⟨?_, hgw g hg5⟩⟩, ⟨⟨⟨?_, ?_, ?_⟩, ?_, by omega, w1, fun i hi => ?_, fun p hp => ?_⟩, ?_, hm, fun g hg5 => ⟨?_, hgw g hg5⟩⟩, fun z => ?_, hq, rt.cg (f2 2 (by omega)) (z2 12 (by omega) (by omega)) (fun t ht => ⟨f1 _ (by omega) (by omega) (by omega) (by omega) (by omega), f1 _ (by omega) (by omega) (by omega) (by omega) (by omega)⟩) (z1 9 (by omega) (by omega) (by omega)) (z1 10 (by omega) (by omega) (by omega)), rp.cg (by rw [f1 3 (by omega) (by omega) (by omega) (by omega) (by omega)]) (z2 9 (by omega) (by omega)) (f1 21 (by omega) (by omega) (by omega) (by omega) (by omega)) (z1 8 (by omega) (by omega) (by omega)), ri.cg (f1 8 (by omega) (by omega) (by omega) (by omega) (by omega)) (f1 52 (by omega) (by omega) (by omega) (by omega) (by omega)) (f1 53 (by omega) (by omega) (by omega) (by omega) (by omega)) (f6 51 (by omega)) (z2 14 (by omega) (by omega)) (z2 15 (by omega) (by omega)) (z2 16 (by omega) (by omega)) (z1 12 (by omega) (by omega) (by omega)) (z1 13 (by omega) (by omega) (by omega)) (z3 11 (by omega)), rs.cg (fun t ht => ⟨f1 _ (by omega) (by omega) (by omega) (by omega) (by omega), f1 _ (by omega) (by omega) (by omega) (by omega) (by omega)⟩) (z1 14 (by omega) (by omega) (by omega)) (z1 15 (by omega) (by omega) (by omega)) (z1 16 (by omega) (by omega) (by omega)), rw'.cg (z1 18 (by omega) (by omega) (by omega))⟩
    · refine congrArg (fun z => some (z, σ')) ?_
      simp (disch := omega) only [gA_sA_ne, gA_sA_nj, gB_sA, gA_sB, gB_sB_ne, gA_rA_ne, gB_rA, gA_rB, gB_rB_ne, gA_sA_eq]
      exact m2
    · rw [f1 (25 + q) (by omega) (by omega) (by omega) (by omega) (by omega)]; exact w2.1 i hi
    · rw [f1 (32 + q) (by omega) (by omega) (by omega) (by omega) (by omega)]; exact w2.2 p hp
    · obtain ⟨⟨a, ha, a1, a2⟩, l, hl, l1, l2⟩ := hg g hg5
      obtain ⟨y0, y1, y2, y3, y4, y5⟩ := (hX.2.2.2 g hg5).1
      unfold atX
      rw [f1 15 (by omega) (by omega) (by omega) (by omega) (by omega), f1 16 (by omega) (by omega) (by omega) (by omega) (by omega), f1 17 (by omega) (by omega) (by omega) (by omega) (by omega), f1 18 (by omega) (by omega) (by omega) (by omega) (by omega), (f8 g hg5).1, (f8 g hg5).2]
      refine ⟨y0, y1, y2, y3, ?_, ?_⟩
      · show gA σx 53 g = nI (gA σx 53 g).toNatClampNeg
        rw [l1, nI_clamp (by omega)]
      · show gA σx 52 g = nI (gA σx 52 g).toNatClampNeg
        rw [a1, nI_clamp (by omega)]
    · rw [k4 0 (by omega)]; exact (hs 0 (by omega)).1.symm
    · rw [k4 1 (by omega)]; exact (hs 1 (by omega)).1.symm
    · rw [k4 2 (by omega)]; exact (hs 2 (by omega)).1.symm
    · rw [k2 0 (by omega) (by omega)]
      simp (disch := omega) only [gA_sA_ne, gA_sA_nj, gB_sA, gA_sB, gB_sB_ne, gA_rA_ne, gB_rA, gA_rB, gB_rB_ne, gA_sA_eq]
      exact q2
    · rw [z1 9 (by omega) (by omega) (by omega)]; exact w3.1 i hi
    · rw [z1 10 (by omega) (by omega) (by omega)]; exact w3.2 p hp
    · rw [k2 0 (by omega) (by omega)]
      simp (disch := omega) only [gA_sA_ne, gA_sA_nj, gB_sA, gA_sB, gB_sB_ne, gA_rA_ne, gB_rA, gA_rB, gB_rB_ne, gA_sA_eq]
      exact m2
    · obtain ⟨⟨a, ha, a1, a2⟩, l, hl, l1, l2⟩ := hg g hg5
      obtain ⟨y0, y1, y2, y3, y4, y5⟩ := (hM.2.2.2 g hg5).1
      unfold atM
      rw [z1 2 (by omega) (by omega) (by omega), z1 3 (by omega) (by omega) (by omega), z1 4 (by omega) (by omega) (by omega), z1 6 (by omega) (by omega) (by omega), (k5 g hg5).1, (k5 g hg5).2]
      refine ⟨y0, y1, y2, y3, ?_, ?_⟩
      · show gA (sA (sA σm 0 1 (gA σm 0 15)) 0 13 (gA (sA σm 0 1 (gA σm 0 15)) 0 16)) 13 g = nI (gA σx 53 g).toNatClampNeg
        simp (disch := omega) only [gA_sA_ne, gA_sA_nj, gB_sA, gA_sB, gB_sB_ne, gA_rA_ne, gB_rA, gA_rB, gB_rB_ne]
        rw [l1, nI_clamp (by omega)]; exact l2
      · show gA (sA (sA σm 0 1 (gA σm 0 15)) 0 13 (gA (sA σm 0 1 (gA σm 0 15)) 0 16)) 12 g = nI (gA σx 52 g).toNatClampNeg
        simp (disch := omega) only [gA_sA_ne, gA_sA_nj, gB_sA, gA_sB, gB_sB_ne, gA_rA_ne, gB_rA, gA_rB, gB_rB_ne]
        rw [a1, nI_clamp (by omega)]; exact a2
    · rw [f5] at z
      exact absurd z (by decide)
/-! ===== sheets ===== -/
theorem le_nlt {a b : Int32} : a ≤ b ↔ ¬ b < a := by
  rw [Int32.le_iff_toInt_le, Int32.lt_iff_toInt_lt]; omega
def FS (s : Nat) (σ σ' : ST) : Prop := (∀ k, k ≠ 9 + s → k ≠ 54 + s → gA σ' k = gA σ k) ∧ ∀ k, gB σ' k = gB σ k
def FSm (s : Nat) (σ σ' : ST) : Prop := (∀ k, k ≠ 14 → k ≠ 15 → k ≠ 16 → gA σ' k = gA σ k) ∧ (∀ k, gB σ' k = gB σ k) ∧ (∀ s', s' ≠ s → gA σ' 14 s' = gA σ 14 s' ∧ gA σ' 15 s' = gA σ 15 s') ∧ ∀ j, (j < 40 * s ∨ 40 * s + 40 ≤ j) → gA σ' 16 j = gA σ 16 j
theorem RS.upd {σx σm σx' σm' : ST} {s : Nat} (h : RS σx σm) (hs : s < 4) (fx : FS s σx σx') (fm : FSm s σm σm') (h1 : gA σx' (9 + s) 0 = gA σm' 14 s) (h2 : ∃ z, z ≤ 40 ∧ gA σx' (9 + s) 1 = nI z ∧ gA σm' 15 s = nI z) (h3 : ∀ i, i < 40 → gA σx' (54 + s) i = gA σm' 16 (40 * s + i)) : RS σx' σm' := fun s' hs' => by
  by_cases e : s' = s
  · subst e; exact ⟨h1, h2, h3⟩
  · obtain ⟨q1, q2, q3⟩ := h s' hs'
    rw [fx.1 (9 + s') (by omega) (by omega), fx.1 (54 + s') (by omega) (by omega), (fm.2.2.1 s' e).1, (fm.2.2.1 s' e).2]
    exact ⟨q1, q2, fun i hi => by rw [fm.2.2.2 _ (by omega)]; exact q3 i hi⟩
theorem REL.sheet {S : Nat → Int64} {r n nT s : Nat} {G : Nat → Nat → Nat} {Tx : Nat → TT} {σx σm σx' σm' : ST} (hS : WS36 S) (hX : VX S r (Tx r) G n σx) (hM : VM S r (Tx r) G n σm) (hC : gA σx 5 3 = 0 → CX S (Tx r) G n σx) (hr : r < nT) (hR : rest nT Tx σx σm) (hs : s < 4) (fx : FS s σx σx') (fm : FSm s σm σm') (rs' : RS σx' σm') : REL σx' σm' := by
  obtain ⟨rt, rp, ri, rs, rw'⟩ := hR
  have zx : ∀ k, k < 9 ∨ (13 ≤ k ∧ k < 54) → gA σx' k = gA σx k := fun k hk => fx.1 k (by omega) (by omega)
  have zm : ∀ k, k < 14 ∨ 17 ≤ k → gA σm' k = gA σm k := fun k hk => fm.1 k (by omega) (by omega) (by omega)
  refine ⟨S, r, G, n, nT, Tx, hS, hX.cg (fx.2 14) (by rw [zx 4 (by omega)]) (by rw [zx 2 (by omega)]) (fun t ht => ⟨zx _ (by omega), zx _ (by omega)⟩) (zx 15 (by omega)) (zx 16 (by omega)) (zx 17 (by omega)) (zx 18 (by omega)) (zx 19 (by omega)) (zx 20 (by omega)), hM.cg (fm.2.1 1) (by rw [zm 0 (by omega)]) (by rw [zm 0 (by omega)]) (zm 9 (by omega)) (zm 10 (by omega)) (zm 2 (by omega)) (zm 3 (by omega)) (zm 4 (by omega)) (zm 5 (by omega)) (zm 6 (by omega)) (zm 7 (by omega)), fun q => (hC ?_).cg (fx.2 40) (fun g _ => fx.2 (43 + g)) (fx.2 48) hX.2.2.1, hr, rt.cg (by rw [zx 4 (by omega)]) (by rw [zm 0 (by omega)]) (fun t ht => ⟨zx _ (by omega), zx _ (by omega)⟩) (zm 9 (by omega)) (zm 10 (by omega)), rp.cg (by rw [zx 3 (by omega)]) (by rw [zm 0 (by omega)]) (zx 21 (by omega)) (zm 8 (by omega)), ri.cg (zx 8 (by omega)) (zx 52 (by omega)) (zx 53 (by omega)) (fx.2 51) (by rw [zm 0 (by omega)]) (by rw [zm 0 (by omega)]) (by rw [zm 0 (by omega)]) (zm 12 (by omega)) (zm 13 (by omega)) (fm.2.1 11), rs', rw'.cg (zm 18 (by omega))⟩
  rw [zx 5 (by omega)] at q
  exact q
theorem xbecome {s : Nat} (hs : s < 4) (a b : Int32) (σ : ST) : ∃ σ', f_X5_become (9 + s) a b σ = some σ' ∧ FS s σ σ' ∧ gA σ' (9 + s) 0 = a ∧ gA σ' (9 + s) 1 = b ∧ ∀ i, i < 40 → gA σ' (54 + s) i = 0 := by
  unfold f_X5_become f_J7_fill_53178
  simp only [jlet_s]
  rw [show 9 + s + 45 = 54 + s by omega]
  have lp : ∃ σ', f_J7_fill_53178_L5 FU (54 + s) 0 0 40 (sA (sA σ (9 + s) 0 a) (9 + s) 1 b) = some σ' ∧ (∀ k, k ≠ 54 + s → gA σ' k = gA (sA (sA σ (9 + s) 0 a) (9 + s) 1 b) k) ∧ (∀ k, gB σ' k = gB σ k) ∧ ∀ i, i < 40 → gA σ' (54 + s) i = 0 := by
    refine jloop (fun k i s' => f_J7_fill_53178_L5 k (54 + s) 0 (nI i) 40 s') 40 (fun i s' => (∀ k, k ≠ 54 + s → gA s' k = gA (sA (sA σ (9 + s) 0 a) (9 + s) 1 b) k) ∧ (∀ k, gB s' k = gB σ k) ∧ ∀ j, j < i → gA s' (54 + s) j = 0) (fun r => ∃ σ', r = some σ' ∧ (∀ k, k ≠ 54 + s → gA σ' k = gA (sA (sA σ (9 + s) 0 a) (9 + s) 1 b) k) ∧ (∀ k, gB σ' k = gB σ k) ∧ ∀ i, i < 40 → gA σ' (54 + s) i = 0) ?_ ?_ FU 0 _ (by omega) (by unfold FU; omega) ⟨fun _ _ => rfl, fun _ => rfl, fun j hj => absurd hj (Nat.not_lt_zero _)⟩
    · intro k i s' hi ⟨p1, p2, p3⟩
      refine Or.inr ⟨sA s' (54 + s) i 0, ⟨fun k hk => by rw [gA_sA_ne hk]; exact p1 k hk, fun k => p2 k, fun j hj => ?_⟩, ?_⟩
      · rw [gA_sA]
        split
        · rfl
        · exact p3 j (by omega)
      · show f_J7_fill_53178_L5 (k + 1) (54 + s) 0 (nI i) 40 s' = _
        rw [ef_J7_fill_53178_L5, if_neg (nle40 hi)]
        simp (disch := omega) only [jlet_s, ifN1, ifN0, if10, if00, jix_t, nI_clamp, nI_1]
    · intro k s' ⟨p1, p2, p3⟩
      refine ⟨s', ?_, p1, p2, p3⟩
      show f_J7_fill_53178_L5 (k + 1) (54 + s) 0 (nI 40) 40 s' = _
      rw [ef_J7_fill_53178_L5, if_pos (show (40 : Int32) ≤ nI 40 by decide)]
  obtain ⟨σ', e1, e2, e3, e4⟩ := lp
  rw [e1, jb_s]
  refine ⟨σ', rfl, ⟨fun k h9 h54 => by rw [e2 k h54, gA_sA_ne h9, gA_sA_ne h9], e3⟩, ?_, ?_, e4⟩
  · rw [e2 _ (by omega), gA_sA_nj (by omega), gA_sA_eq]
  · rw [e2 _ (by omega), gA_sA_eq]
theorem msheet0 {s : Nat} (hs : s < 4) (σ : ST) : ∃ σ', f_X10_sheet_L70 FU (nI s) 0 σ = some (1, σ') ∧ (∀ k, k ≠ 16 → gA σ' k = gA σ k) ∧ (∀ k, gB σ' k = gB σ k) ∧ (∀ j, j < 40 → gA σ' 16 (40 * s + j) = 0) ∧ ∀ j, (j < 40 * s ∨ 40 * s + 40 ≤ j) → gA σ' 16 j = gA σ 16 j := by
  refine jloop (fun k i s' => f_X10_sheet_L70 k (nI s) (nI i) s') 40 (fun i s' => (∀ k, k ≠ 16 → gA s' k = gA σ k) ∧ (∀ k, gB s' k = gB σ k) ∧ (∀ j, j < i → gA s' 16 (40 * s + j) = 0) ∧ ∀ j, (j < 40 * s ∨ 40 * s + 40 ≤ j) → gA s' 16 j = gA σ 16 j) (fun r => ∃ σ', r = some (1, σ') ∧ (∀ k, k ≠ 16 → gA σ' k = gA σ k) ∧ (∀ k, gB σ' k = gB σ k) ∧ (∀ j, j < 40 → gA σ' 16 (40 * s + j) = 0) ∧ ∀ j, (j < 40 * s ∨ 40 * s + 40 ≤ j) → gA σ' 16 j = gA σ 16 j) ?_ ?_ FU 0 σ (by omega) (by unfold FU; omega) ⟨fun _ _ => rfl, fun _ => rfl, fun j hj => absurd hj (Nat.not_lt_zero _), fun _ _ => rfl⟩
  · intro k i s' hi ⟨p1, p2, p3, p4⟩
    refine Or.inr ⟨sA s' 16 (40 * s + i) 0, ⟨fun k hk => by rw [gA_sA_ne hk]; exact p1 k hk, fun k => p2 k, fun j hj => ?_, fun j hj => by rw [gA_sA_nj (by omega)]; exact p4 j hj⟩, ?_⟩
    · rw [gA_sA]
      split
      · rfl
      · exact p3 j (by omega)
    · show f_X10_sheet_L70 (k + 1) (nI s) (nI i) s' = _
      rw [ef_X10_sheet_L70, if_neg (nle40 hi), show (40 : Int32) = nI 40 from rfl, pk_mul, nI_add]
      simp (disch := omega) only [jlet_s, ifN1, ifN0, if10, if00, jix_t, nI_clamp, nI_1]
  · intro k s' ⟨p1, p2, p3, p4⟩
    refine ⟨s', ?_, p1, p2, p3, p4⟩
    show f_X10_sheet_L70 (k + 1) (nI s) (nI 40) s' = _
    rw [ef_X10_sheet_L70, if_pos (show (40 : Int32) ≤ nI 40 by decide)]
theorem xsheet2 {s z : Nat} (hs : s < 4) (hz : z ≤ 40) (v : Int32) {S : Nat → Int64} {r n nT : Nat} {G : Nat → Nat → Nat} {Tx : Nat → TT} {σx σm : ST} (hS : WS36 S) (hX : VX S r (Tx r) G n σx) (hM : VM S r (Tx r) G n σm) (hC : gA σx 5 3 = 0 → CX S (Tx r) G n σx) (hr : r < nT) (hR : rest nT Tx σx σm) : ∃ σx' σm', f_X9_sheet_L63 (9 + s) v (nI z) σx = some (1, σx') ∧ f_X10_sheet_L66 (nI s) (nI s) (nI z) (sA σm 14 s v) = some (1, σm') ∧ REL σx' σm' := by
  obtain ⟨σ1, e1, e2, e3, e4, e5⟩ := xbecome hs v (nI z) σx
  unfold f_X9_sheet_L63 f_X10_sheet_L66
  simp (disch := omega) only [jlet_s, ifN1, ifN0, if10, if00, jix_t, nI_clamp, e1, jb_s]
  obtain ⟨σ2, k1, k2, k3, k4, k5⟩ := msheet0 hs (sA (sA σm 14 s v) 15 s (nI z))
  have fm : FSm s σm σ2 := ⟨fun k h14 h15 h16 => by rw [k2 k h16, gA_sA_ne h15, gA_sA_ne h14], fun k => by rw [k3 k]; rfl, fun s' hs' => ⟨by rw [k2 14 (by omega), gA_sA_ne (by omega), gA_sA_nj hs'], by rw [k2 15 (by omega), gA_sA_nj hs', gA_sA_ne (by omega)]⟩, fun j hj => by rw [k5 j hj]; simp (disch := omega) only [gA_sA_ne, gA_sA_nj, gB_sA, gA_sB, gB_sB_ne, gA_rA_ne, gB_rA, gA_rB, gB_rB_ne]⟩
  refine ⟨σ1, σ2, rfl, k1, REL.sheet hS hX hM hC hr hR hs e2 fm (hR.2.2.2.1.upd hs e2 fm ?_ ⟨z, hz, e4, ?_⟩ (fun i hi => ?_))⟩
  · rw [e3, k2 14 (by omega), gA_sA_ne (by omega), gA_sA_eq]
  · rw [k2 15 (by omega), gA_sA_eq]
  · rw [e5 i hi, k4 i hi]
theorem op_sheet : OP_sheet REL := by
  intro σx σm x1 x2 x3 hRel
  obtain ⟨S, r, G, n, nT, Tx, hS, hX, hM, hC, hr, hR⟩ := id hRel
  unfold f_X9_sheet f_X10_sheet
  rcases wN x1 (m := 3) (by omega) with ⟨s, hs, rfl, e5⟩ | e5
  · simp only [show f_X9_isSheet (nI s) = 1 from e5, show f_X10_in (nI s) 0 3 = 1 from e5, jlet_s, if10]
    rw [show f_X10_in x2 (-1) 2 = if x2 < -1 then 0 else if 2 < x2 then 0 else 1 from rfl]
    by_cases h1 : x2 < -1
    · rw [if_pos h1, if_pos h1]
      exact ⟨_, _, _, rfl, rfl, hRel⟩
    · rw [if_neg h1, if_neg h1]
      by_cases h2 : 2 < x2
      · rw [if_pos h2, if_neg (fun q => le_nlt.mp q h2)]
        exact ⟨_, _, _, rfl, rfl, hRel⟩
      · rw [if_neg h2, if_pos (le_nlt.mpr h2), if10]
        unfold f_X9_sheet_L34 f_X10_sheet_L32 f_X9_sheet_L46 f_X10_sheet_L44
        by_cases hm : x2 = -1
        · subst hm
          simp (disch := omega) only [jlet_s, ifN1, ifN0, if10, if00, jix_t, nI_clamp]
          rw [if_pos trivial, if_pos trivial, if_pos trivial, if_pos trivial, if_neg (show ¬ ¬ True from fun z => z trivial), if_neg (show ¬ ¬ True from fun z => z trivial)]
          obtain ⟨σ1, σ2, k1, k2, k3⟩ := xsheet2 (s := s) (z := 0) (by omega) (by omega) (-1) hS hX hM hC hr hR
          exact ⟨1, σ1, σ2, k1, k2, k3⟩
        · rw [if_neg hm, if_neg hm, if_neg hm, if_neg hm]
          by_cases h40 : x3 ≤ 40
          · rw [if_pos h40, if_pos h40]
            by_cases h0 : 0 ≤ x3
            · rw [if_pos h0, if_pos h0]
              obtain ⟨z, hz, rfl⟩ := nI_of2 (M := 40) (n := 40) rfl (le_nlt.mp h0) h40
              simp (disch := omega) only [jlet_s, ifN1, ifN0, if10, if00, jix_t, nI_clamp]
              rw [if_pos hm, if_pos hm]
              obtain ⟨σ1, σ2, k1, k2, k3⟩ := xsheet2 (s := s) (z := z) (by omega) hz x2 hS hX hM hC hr hR
              exact ⟨1, σ1, σ2, k1, k2, k3⟩
            · rw [if_neg h0, if_neg h0]
              exact ⟨_, _, _, rfl, rfl, hRel⟩
          · rw [if_neg h40, if_neg h40]
            exact ⟨_, _, _, rfl, rfl, hRel⟩
  · rw [show f_X9_isSheet x1 = 0 from e5, show f_X10_in x1 0 3 = 0 from e5]
    exact ⟨_, _, _, rfl, rfl, hRel⟩
theorem cell2 {s i z : Nat} (hs : s < 4) (hi : i < 40) (v : Int32) {S : Nat → Int64} {r n nT : Nat} {G : Nat → Nat → Nat} {Tx : Nat → TT} {σx σm : ST} (hS : WS36 S) (hX : VX S r (Tx r) G n σx) (hM : VM S r (Tx r) G n σm) (hC : gA σx 5 3 = 0 → CX S (Tx r) G n σx) (hr : r < nT) (hR : rest nT Tx σx σm) : ∃ σx' σm', f_X9_cell_L81 (9 + s + 45) (nI i) v σx = some (1, σx') ∧ f_X10_cell_L84 (40 * nI s + nI i) v σm = some (1, σm') ∧ REL σx' σm' := by
  unfold f_X9_cell_L81 f_X10_cell_L84
  rw [show (40 : Int32) = nI 40 from rfl, pk_mul, nI_add]
  simp (disch := omega) only [jlet_s, ifN1, ifN0, if10, if00, jix_t, nI_clamp]
  have fx : FS s σx (sA σx (9 + s + 45) i v) := ⟨fun k h9 h54 => gA_sA_ne (by omega), fun k => rfl⟩
  have fm : FSm s σm (sA σm 16 (40 * s + i) v) := ⟨fun k h14 h15 h16 => gA_sA_ne h16, fun k => rfl, fun s' _ => ⟨(by simp (disch := omega) only [gA_sA_ne, gA_sA_nj, gB_sA, gA_sB, gB_sB_ne, gA_rA_ne, gB_rA, gA_rB, gB_rB_ne]), (by simp (disch := omega) only [gA_sA_ne, gA_sA_nj, gB_sA, gA_sB, gB_sB_ne, gA_rA_ne, gB_rA, gA_rB, gB_rB_ne])⟩, fun j hj => gA_sA_nj (by omega)⟩
  obtain ⟨q1, q2, q3⟩ := hR.2.2.2.1 s hs
  refine ⟨_, _, rfl, rfl, REL.sheet hS hX hM hC hr hR hs fx fm (hR.2.2.2.1.upd hs fx fm ?_ ?_ (fun j hj => ?_))⟩
  · simp (disch := omega) only [gA_sA_ne, gA_sA_nj, gB_sA, gA_sB, gB_sB_ne, gA_rA_ne, gB_rA, gA_rB, gB_rB_ne]; exact q1
  · simp (disch := omega) only [gA_sA_ne, gA_sA_nj, gB_sA, gA_sB, gB_sB_ne, gA_rA_ne, gB_rA, gA_rB, gB_rB_ne]; exact q2
  · rw [show 54 + s = 9 + s + 45 by omega, gA_sA, gA_sA]
    by_cases e : j = i
    · rw [if_pos ⟨rfl, e⟩, if_pos ⟨rfl, by omega⟩]
    · rw [if_neg (fun q => e q.2), if_neg (by omega), show 9 + s + 45 = 54 + s by omega]
      exact q3 j hj
theorem op_cell : OP_cell REL := by
  intro σx σm x1 x2 x3 hRel
  obtain ⟨S, r, G, n, nT, Tx, hS, hX, hM, hC, hr, hR⟩ := id hRel
  unfold f_X9_cell f_X10_cell
  rcases wN x1 (m := 3) (by omega) with ⟨s, hs, rfl, e5⟩ | e5
  · have hs4 : s < 4 := by omega
    obtain ⟨q1, ⟨z, hz, q2, q3⟩, q4⟩ := hR.2.2.2.1 s hs4
    simp (disch := omega) only [show f_X9_isSheet (nI s) = 1 from e5, show f_X10_in (nI s) 0 3 = 1 from e5, jlet_s, ifN1, ifN0, if10, if00, jix_t, nI_clamp, q1, q2, q3]
    by_cases h1 : gA σm 14 s = -1
    · rw [if_neg (fun q => q h1), if_neg (fun q => q h1)]
      exact ⟨_, _, _, rfl, rfl, hRel⟩
    · rw [if_pos h1, if_pos h1]
      rcases wNp x2 (n := z) (by omega) with ⟨i, hi, rfl, e1, e2⟩ | ⟨e1, e2⟩
      · rw [e1, e2, ifN1, ifN1]
        by_cases h2 : gA σm 14 s = 0
        · rw [if_neg (fun q => q h2), if_neg (fun q => q h2)]
          obtain ⟨σ1, σ2, k1, k2, k3⟩ := cell2 (z := z) hs4 (show i < 40 by omega) (ji2b x3) hS hX hM hC hr hR
          exact ⟨1, σ1, σ2, k1, k2, k3⟩
        · rw [if_pos h2, if_pos h2]
          by_cases h3 : gA σm 14 s = 1
          · rw [if_neg (fun q => q h3), if_neg (fun q => q h3)]
            obtain ⟨σ1, σ2, k1, k2, k3⟩ := cell2 (z := z) hs4 (show i < 40 by omega) (ji2s x3) hS hX hM hC hr hR
            exact ⟨1, σ1, σ2, k1, k2, k3⟩
          · rw [if_pos h3, if_pos h3]
            obtain ⟨σ1, σ2, k1, k2, k3⟩ := cell2 (z := z) hs4 (show i < 40 by omega) x3 hS hX hM hC hr hR
            exact ⟨1, σ1, σ2, k1, k2, k3⟩
      · rw [e1, e2, ifN0, ifN0]
        exact ⟨_, _, _, rfl, rfl, hRel⟩
  · rw [show f_X9_isSheet x1 = 0 from e5, show f_X10_in x1 0 3 = 0 from e5]
    exact ⟨_, _, _, rfl, rfl, hRel⟩
