/-! ===== the mean, in its lowest terms ===== -/
def S00 : ST := (fun _ _ => 0, fun _ _ => 0)
theorem L94_state : ∀ (n : Nat) (v2 v3 v4 v5 v6 : Int32) (s : ST), f_X9_mean_L94 n v2 v3 v4 v5 v6 s = (f_X9_mean_L94 n v2 v3 v4 v5 v6 S00).map (fun q => (q.1, s))
  | 0, _, _, _, _, _, _ => rfl
  | n + 1, v2, v3, v4, v5, v6, s => by
    rw [ef_X9_mean_L94, ef_X9_mean_L94]
    unfold f_X9_mean_L119 f_X9_mean_L135 jnz
    simp only [jlet_s]
    rw [L94_state n v2 v3 v4 v5 (v6 + 1) s, L94_state n v2 v3 v4 v6 (v6 + 1) s]
    repeat' split
    all_goals first | rfl | simp_all
def mean1 (sum seeds part : Nat) : Option Int64 := (f_X9_mean_L94 FU (nI seeds) (nI part) (nI sum) 1 2 S00).map (fun q => q.1)
def mean2 (sum seeds part : Nat) : Option Int64 := f_X10_lowest (lN sum) (nI seeds).toInt64 (nI part)
set_option maxRecDepth 100000 in
theorem mean_0 : ∀ part, part < 2 → ∀ seeds, seeds < 13 → 0 < seeds → ∀ sum, sum < 289 → mean1 sum seeds part = mean2 sum seeds part ∧ (mean1 sum seeds part).isSome = true := by decide +kernel
theorem op_mean : OP_mean REL := by
  intro σx σm x1 x2 x3 hRel
  obtain ⟨S, r, G, n, nT, Tx, hS, hX, hM, hC, hr, hR⟩ := id hRel
  unfold f_X9_mean f_X10_mean f_X10_isSeed f_X9_mean_L29 f_X10_mean_L26
  rcases wN x1 (m := 99999) (by omega) with ⟨s, hs, rfl, e5⟩ | e5
  · simp only [show f_X9_isWithin (nI s) 99999 = 1 from e5, show f_X10_in (nI s) 0 99999 = 1 from e5, jlet_s, ifN1, ifN0, if10, if00]
    have hin : f_X10_in x2 1 12 = if x2 < 1 then 0 else if 12 < x2 then 0 else 1 := rfl
    by_cases h1 : x2 < 1
    · rw [hin, if_pos h1, if_pos h1]
      exact ⟨_, _, _, rfl, rfl, hRel⟩
    · by_cases h2 : 12 < x2
      · rw [hin, if_neg h1, if_neg h1, if_pos h2, if_pos h2]
        exact ⟨_, _, _, rfl, rfl, hRel⟩
      · rw [hin, if_neg h1, if_neg h1, if_neg h2, if_neg h2]
        simp only [jlet_s, ifN1, ifN0, if10, if00]
        obtain ⟨k, hk1, hk2, rfl⟩ : ∃ k, 1 ≤ k ∧ k ≤ 12 ∧ x2 = nI k := by
          rw [Int32.lt_iff_toInt_lt] at h1 h2
          rw [show (1 : Int32).toInt = 1 from rfl] at h1
          rw [show (12 : Int32).toInt = 12 from rfl] at h2
          refine ⟨x2.toInt.toNat, by omega, by omega, ?_⟩
          apply Int32.toInt_inj.mp
          rw [nI_toInt (by omega)]
          omega
        rcases wN x3 (m := 1) (by omega) with ⟨p, hp, rfl, e7⟩ | e7
        · simp only [show f_X9_isWithin (nI p) 1 = 1 from e7, show f_X10_in (nI p) 0 1 = 1 from e7, jlet_s, ifN1, ifN0, if10, if00]
          have lx : ∀ k0 i sum fuel σ τ, i + k0 = k → k0 < fuel → sum ≤ 24 * i → Fr aS (fun q => q == 5 || q == 6 || q == 41 || q == 49) σx σ → FM aU bU σm τ → ∃ a σ' τ', f_X9_mean_L39 fuel (nI s) (nI k) (nI p) (nI sum) (nI i) σ = some (a, σ') ∧ Fr aS (fun q => q == 5 || q == 6 || q == 41 || q == 49) σx σ' ∧ (∀ fuel2, k0 < fuel2 → f_X10_mean_L36 fuel2 (nI s) (nI k) (nI p) (lN sum) (nI i) τ = some (a, τ')) ∧ FM aU bU σm τ' := by
            intro k0
            induction k0 with
            | zero =>
              intro i sum fuel σ τ hi hf hsum hfr hfm
              obtain ⟨fuel, rfl⟩ : ∃ k, fuel = k + 1 := ⟨fuel - 1, by omega⟩
              obtain ⟨m1, m2⟩ := mean_0 p (by omega) k (by omega) (by omega) sum (by omega)
              obtain ⟨a, ha⟩ := Option.isSome_iff_exists.mp m2
              refine ⟨a, σ, τ, ?_, hfr, fun fuel2 hf2 => ?_, hfm⟩
              · rw [ef_X9_mean_L39, if_pos (nI_le (by omega) (by omega)), L94_state]
                unfold mean1 at ha
                obtain ⟨q, hq1, hq2⟩ := Option.map_eq_some_iff.mp ha
                rw [hq1]
                show some (q.1, σ) = _
                rw [hq2]
              · obtain ⟨fuel2, rfl⟩ : ∃ k, fuel2 = k + 1 := ⟨fuel2 - 1, by omega⟩
                rw [ef_X10_mean_L36, if_pos (nI_le (by omega) (by omega))]
                rw [m1] at ha
                unfold mean2 at ha
                rw [ha]; rfl
            | succ k0 ih =>
              intro i sum fuel σ τ hi hf hsum hfr hfm
              obtain ⟨fuel, rfl⟩ : ∃ k, fuel = k + 1 := ⟨fuel - 1, by omega⟩
              have hbS : okXX aS (fun q => q == 5 || q == 6 || q == 41 || q == 49) := ⟨⟨rfl, fun t ht => by
                unfold aS
                refine ⟨?_, ?_⟩ <;> simp <;> omega, rfl⟩, rfl, rfl, rfl, rfl, rfl, rfl⟩
              have hXs := hX.fr hfr hbS
              have hMs := hM.fm hfm rfl rfl rfl rfl rfl rfl rfl rfl rfl
              obtain ⟨s1, e1, f1, r1⟩ := xsupLots hXs (show s + i < 200000 by omega)
              have f1' : Fr aS (fun q => q == 5 || q == 6 || q == 41 || q == 49) σ s1 := f1.mono (fun _ q => q) (fun k q => by unfold bF; simp at q ⊢; omega)
              have hX1 := hXs.fr f1' hbS
              obtain ⟨s2, v1, v2, v3, -⟩ := xfloorGap (S := S) (V := ZV S (Tx r) (GL G (s + i)) n (fun _ => true)) (o := 41) rfl hX1.1.1.1 r1
              obtain ⟨t1, u1, u2⟩ := mworstBy hMs (show s + i < 200000 by omega)
              obtain ⟨a, σ', τ', w1, w2, w3, w4⟩ := ih (i + 1) (sum + (Zfg (ZV S (Tx r) (GL G (s + i)) n (fun _ => true)) (S 0) 36).2.1) fuel s2 t1 (by omega) (by omega) (by omega) ((hfr.trans f1').trans (v2.mono (fun _ _ => rfl) (fun k q => by unfold bG; simp at q ⊢; omega))) (hfm.trans u2)
              refine ⟨a, σ', τ', ?_, w2, fun fuel2 hf2 => ?_, w4⟩
              · rw [ef_X9_mean_L39, if_neg (nI_ge (by omega) (by omega)), nI_add, e1, jb_s, jlet_s, v1, jbp_s, jlet_s, jlet_s, nI_add, nI_1]
                exact w1
              · obtain ⟨fuel2, rfl⟩ : ∃ k, fuel2 = k + 1 := ⟨fuel2 - 1, by omega⟩
                rw [ef_X10_mean_L36, if_neg (nI_ge (by omega) (by omega)), nI_add, u1, jbp_s, jlet_s, jlet_s, nI_l (by omega), lN_add, nI_1]
                exact w3 fuel2 (by omega)
          obtain ⟨a, σ', τ', w1, w2, w3, w4⟩ := lx k 0 0 FU σx σm (by omega) (by unfold FU; omega) (by omega) Fr.rf FM.rf
          refine ⟨a, σ', τ', w1, w3 FU (by unfold FU; omega), REL.q hS hX hM hr hR (w2.mono (fun k q => by unfold aQ at q; unfold aS; simp at q ⊢; exact q.1) (fun k q => by unfold bQ at q; simp at q ⊢; omega)) w4 (fun q => ?_)⟩
          rw [w2.A rfl] at q
          exact (hC q).fr w2 hX.2.2.1 rfl (fun g hg => by simp; omega) rfl
        · simp only [show f_X9_isWithin x3 1 = 0 from e7, show f_X10_in x3 0 1 = 0 from e7, jlet_s, ifN1, ifN0, if10, if00]
          exact ⟨_, _, _, rfl, rfl, hRel⟩
  · rw [show f_X9_isWithin x1 99999 = 0 from e5, show f_X10_in x1 0 99999 = 0 from e5]
    exact ⟨_, _, _, rfl, rfl, hRel⟩
