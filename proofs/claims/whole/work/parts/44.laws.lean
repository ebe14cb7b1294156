/-! ===== by which law it fits ===== -/
theorem sA_sA {σ : ST} {k j : Nat} {a b : Int32} : sA (sA σ k j a) k j b = sA σ k j b := by
  unfold sA rA upd gA
  simp only [if_pos]
  congr 1
  funext i
  by_cases h : i = k
  · subst h
    simp only [if_pos]
    funext l
    by_cases h2 : l = j
    · simp [h2]
    · simp [h2]
  · simp [h]
theorem sA_id {σ : ST} {k j : Nat} {a : Int32} (h : gA σ k j = a) : sA σ k j a = σ := by
  unfold sA rA upd
  obtain ⟨f, g⟩ := σ
  simp only
  congr 1
  funext i
  by_cases q : i = k
  · subst q
    rw [if_pos rfl]
    funext l
    by_cases q2 : l = j
    · rw [if_pos q2, q2]; exact h.symm
    · rw [if_neg q2]; rfl
  · rw [if_neg q]
theorem fr_law {σ σ' : ST} {v v' : Int32} {b : Nat → Bool} (f : Fr aS b (sA σ 4 3 v) σ') (h : gA σ 4 3 = v') : Fr aS b σ (sA σ' 4 3 v') := ⟨fun k q => by
  by_cases hk : k = 4
  · subst hk
    funext j
    rw [gA_sA]
    by_cases hj : j = 3
    · rw [if_pos ⟨rfl, hj⟩, hj, h]
    · rw [if_neg (by omega), f.A q, gA_sA, if_neg (by omega)]
  · rw [gA_sA_ne hk, f.1 k q, gA_sA_ne hk], fun k q => by rw [gB_sA, f.2.1 k q, gB_sA], by
  rw [gA_sA, if_neg (by omega), f.2.2, gA_sA, if_neg (by omega)]⟩
theorem xsupLaw {S : Nat → Int64} {r n t : Nat} {T T' : TT} {G : Nat → Nat → Nat} {σ : ST} (hX : VX S r T G n σ) (ht : t < 6) (hT : TW T') (hx : txX σ t T') : ∃ σ', f_X8_supposeLaw (nI t) σ = some σ' ∧ Fr aS bF σ σ' ∧ ∀ i, i < 24 → gB σ' 41 i = ZV S T' G n (fun _ => true) i := by
  have hX1 := hX.law ht hT hx
  obtain ⟨s1, e1, f1, r1⟩ := xfill (sA σ 4 3 (nI t))
  have hX2 := hX1.fr f1 okXX_41
  obtain ⟨s2, e2, f2, r2⟩ := xallFound hX2 r1 (nI r)
  unfold f_X8_supposeLaw
  rw [hX.1.2.1, jlet_s, jlet_s, e1, jb_s]
  exact ⟨_, e2, fr_law (f1.O41.trans f2) hX.1.2.1, r2⟩
theorem fm_law {σ s s' : ST} {v : Int32} (f : FM aU bU σ (sA s 0 13 v)) {t : Int32} (h : Fr aN bT (sA s 0 13 t) s') : FM aU bU σ (sA s' 0 13 v) := by
  refine f.trans ⟨fun k q q2 => ?_, fun k q => ?_, fun j hj => ?_⟩
  · rw [gA_sA_ne q2, gA_sA_ne q2, h.1 k (by unfold aU at q; unfold aN; simp at q ⊢; exact q.1), gA_sA_ne q2]
  · rw [gB_sA, gB_sA, h.2.1 k (by unfold bU at q; unfold bT; simp at q ⊢; exact q.1), gB_sA]
  · rw [gA_sA, gA_sA]
    by_cases hj2 : j = 13
    · rw [if_pos ⟨rfl, hj2⟩, if_pos ⟨rfl, hj2⟩]
    · rw [if_neg (by omega), if_neg (by omega), h.A rfl, gA_sA, if_neg (by omega)]
theorem op_laws : OP_laws REL := by
  intro σx σm x1 x2 hRel
  obtain ⟨S, r, G, n, nT, Tx, hS, hX, hM, hC, hr, hR⟩ := id hRel
  unfold f_X9_laws f_X10_laws
  rcases told hR.2.2.2.1 x1 x2 with ⟨s, c, hs, hc, rfl, rfl, e1, e2⟩ | ⟨w, hw, e1, e2⟩
  · have hn := hX.2.2.1
    obtain ⟨⟨t1, t2, t3, t4⟩, -, -, hRS, -⟩ := id hR
    simp only [e1, e2, jlet_s, ifN1, ifN0, if10, if00, jb_s, hM.1.2.1]
    have oS : okXX aS bF := okXX_S
    have lx : ∀ k0 i acc fuel σ τ, i + k0 = nT → k0 < fuel → Fr aS bF σx σ → FM aU bU σm (sA τ 0 13 (nI r)) → ∃ a σ' τ', f_X9_laws_L19 fuel (nI s) (nI c) acc (nI i) σ = some (a, σ') ∧ Fr aS bF σx σ' ∧ (∀ fuel2, k0 < fuel2 → f_X10_laws_L25 fuel2 (nI s) (nI c) (nI r) acc (nI i) τ = some (a, τ')) ∧ FM aU bU σm τ' := by
      intro k0
      induction k0 with
      | zero =>
        intro i acc fuel σ τ hi hf hfr hfm
        obtain ⟨fuel, rfl⟩ : ∃ k, fuel = k + 1 := ⟨fuel - 1, by omega⟩
        have hT : gA τ 0 12 = nI nT := by
          have := hfm.2.2 12 (by omega)
          rw [gA_sA, if_neg (by omega)] at this
          rw [this, t3]
        refine ⟨acc, σ, sA τ 0 13 (nI r), ?_, hfr, fun fuel2 hf2 => ?_, hfm⟩
        · rw [ef_X9_laws_L19, hfr.A rfl, t2, if_pos (nI_le (by omega) (by omega))]
        · obtain ⟨fuel2, rfl⟩ : ∃ k, fuel2 = k + 1 := ⟨fuel2 - 1, by omega⟩
          rw [ef_X10_laws_L25, hT, if_pos (nI_le (by omega) (by omega)), jlet_s]
      | succ k0 ih =>
        intro i acc fuel σ τ hi hf hfr hfm
        obtain ⟨fuel, rfl⟩ : ∃ k, fuel = k + 1 := ⟨fuel - 1, by omega⟩
        have hin : i < nT := by omega
        obtain ⟨w1, w2, w3⟩ := t4 i hin
        have hT : gA τ 0 12 = nI nT := by
          have := hfm.2.2 12 (by omega)
          rw [gA_sA, if_neg (by omega)] at this
          rw [this, t3]
        -- the class
        have hXs := hX.fr hfr oS
        have w2' : txX σ i (Tx i) := ⟨fun j hj => by
          rw [hfr.A (show aS (25 + i) = false by unfold aS; simp; omega)]; exact w2.1 j hj, fun p hp => by
          rw [hfr.A (show aS (32 + i) = false by unfold aS; simp; omega)]; exact w2.2 p hp⟩
        obtain ⟨s3, e6, f6, r6⟩ := xsupLaw hXs (show i < 6 by omega) w1 w2'
        have f7 := hfr.trans f6
        have o6 : f_X5_firstOther (9 + s) 41 (nI c) s3 = some (Zun (gA s3 (54 + s)) (ZV S (Tx i) G n (fun _ => true)) c 24 0) := by
          unfold f_X5_firstOther
          exact xother hc r6 24 0 FU (by omega) (by unfold FU; omega)
        -- the reference
        have hMs := hM.fm hfm rfl rfl rfl rfl rfl rfl rfl rfl rfl
        have w3' : txM (sA τ 0 13 (nI r)) i (Tx i) := ⟨fun j hj => by rw [hfm.A rfl (by omega)]; exact w3.1 j hj, fun p hp => by rw [hfm.A rfl (by omega)]; exact w3.2 p hp⟩
        have hMi := hMs.law (show i < 6 by omega) w1 w3'
        rw [sA_sA] at hMi
        obtain ⟨s4, k1, k2, k3⟩ := mwatchesAll hMi
        have hM4 := hMi.fr k2 okMM_T
        obtain ⟨g1, g2⟩ := allG hM4.2.1 hn
        have hfm4 := fm_law hfm k2
        have m6 := munlike (σx := s3) (fun _ => true) g2 hM4 k3 hc hs (fun j hj => by
          rw [f7.A (show aS (54 + s) = false by unfold aS; simp; omega), (hRS s hs).2.2 j hj]
          have := hfm4.A (k := 16) rfl (by omega) (40 * s + j)
          rw [gA_sA, if_neg (by omega)] at this
          exact this.symm)
        by_cases hq : Zun (gA s3 (54 + s)) (ZV S (Tx i) G n (fun _ => true)) c 24 0 = -1
        · obtain ⟨a, σ', τ', r1, r2, r3, r4⟩ := ih (i + 1) (acc ||| jshl 1 (nI i)) fuel s3 s4 (by omega) (by omega) f7 hfm4
          refine ⟨a, σ', τ', ?_, r2, fun fuel2 hf2 => ?_, r4⟩
          · rw [ef_X9_laws_L19, hfr.A rfl, t2, if_neg (nI_ge hin (by omega)), e6, jb_s, jix_t hs (by omega), nI_clamp (by omega), jlet_s, o6, jb_s, if_neg (fun z => z hq), jlet_s]
            unfold f_X9_laws_L70
            rw [jlet_s, nI_1]; exact r1
          · obtain ⟨fuel2, rfl⟩ : ∃ k, fuel2 = k + 1 := ⟨fuel2 - 1, by omega⟩
            rw [ef_X10_laws_L25, hT, if_neg (nI_ge hin (by omega)), jlet_s, k1, jb_s, g1, jlet_s, m6, jb_s, if_neg (fun z => z hq)]
            unfold f_X10_laws_L68
            rw [jlet_s, jlet_s, nI_1]; exact r3 fuel2 (by omega)
        · obtain ⟨a, σ', τ', r1, r2, r3, r4⟩ := ih (i + 1) acc fuel s3 s4 (by omega) (by omega) f7 hfm4
          refine ⟨a, σ', τ', ?_, r2, fun fuel2 hf2 => ?_, r4⟩
          · rw [ef_X9_laws_L19, hfr.A rfl, t2, if_neg (nI_ge hin (by omega)), e6, jb_s, jix_t hs (by omega), nI_clamp (by omega), jlet_s, o6, jb_s, if_pos hq]
            unfold f_X9_laws_L70
            rw [jlet_s, nI_1]; exact r1
          · obtain ⟨fuel2, rfl⟩ : ∃ k, fuel2 = k + 1 := ⟨fuel2 - 1, by omega⟩
            rw [ef_X10_laws_L25, hT, if_neg (nI_ge hin (by omega)), jlet_s, k1, jb_s, g1, jlet_s, m6, jb_s, if_pos hq]
            unfold f_X10_laws_L68
            rw [jlet_s, jlet_s, nI_1, Int32.or_zero]; exact r3 fuel2 (by omega)
    obtain ⟨a, σ', τ', r1, r2, r3, r4⟩ := lx nT 0 0 FU σx σm (by omega) (by unfold FU; omega) Fr.rf (by rw [sA_id hM.1.2.1]; exact FM.rf)
    refine ⟨a, σ', τ', r1, r3 FU (by unfold FU; omega), REL.q hS hX hM hr hR (r2.mono (fun k q => by unfold aQ at q; unfold aS; simp at q ⊢; exact q.1) (fun k q => by unfold bQ at q; unfold bF; simp at q ⊢; omega)) r4 (fun q => ?_)⟩
    rw [r2.A rfl] at q
    exact (hC q).fr r2 hn rfl (fun g hg => by unfold bF; simp; omega) rfl
  · rw [e1, e2, jb_s, jb_s, if_neg hw, if_neg hw]
    exact ⟨_, _, _, rfl, rfl, hRel⟩
