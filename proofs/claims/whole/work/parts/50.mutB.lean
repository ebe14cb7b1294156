/-! ===== the tape fed ===== -/
theorem gA_sA_eq {σ : ST} {k j : Nat} {v : Int32} : gA (sA σ k j v) k j = v := by rw [gA_sA, if_pos ⟨rfl, rfl⟩]
def pick (a b c d e : Int32) (i : Nat) : Int32 := if i = 0 then a else if i = 1 then b else if i = 2 then c else if i = 3 then d else e
theorem pick5 {β : Type} (F : Int32 → β) (a b c d e : Int32) : ∀ i, i < 5 → (if ¬ nI i = 0 then (if ¬ nI i = 1 then (if ¬ nI i = 2 then (if ¬ nI i = 3 then F e else F d) else F c) else F b) else F a) = F (pick a b c d e i) := by
  intro i hi
  rcases (show i = 0 ∨ i = 1 ∨ i = 2 ∨ i = 3 ∨ i = 4 by omega) with rfl | rfl | rfl | rfl | rfl
  · exact if_neg (show ¬ ¬ nI 0 = 0 by decide)
  · rw [if_pos (show ¬ nI 1 = 0 by decide)]
    exact if_neg (show ¬ ¬ nI 1 = 1 by decide)
  · rw [if_pos (show ¬ nI 2 = 0 by decide), if_pos (show ¬ nI 2 = 1 by decide)]
    exact if_neg (show ¬ ¬ nI 2 = 2 by decide)
  · rw [if_pos (show ¬ nI 3 = 0 by decide), if_pos (show ¬ nI 3 = 1 by decide), if_pos (show ¬ nI 3 = 2 by decide)]
    exact if_neg (show ¬ ¬ nI 3 = 3 by decide)
  · rw [if_pos (show ¬ nI 4 = 0 by decide), if_pos (show ¬ nI 4 = 1 by decide), if_pos (show ¬ nI 4 = 2 by decide)]
    exact if_pos (show ¬ nI 4 = 3 by decide)
theorem xadd {σ : ST} {k : Nat} {b : Int32} (h : gA σ 3 1 = nI k) (hk : k < 160) : f_X4_add b σ = some (sA (sA σ 3 1 (nI (k + 1))) 21 k b) := by
  unfold f_X4_add
  rw [h, if_neg (nle160 hk)]
  simp (disch := omega) only [jlet_s, ifN1, ifN0, if10, if00, jix_t, nI_clamp, nI_1]
def TX (σ σ' : ST) : Prop := (∀ k, k ≠ 3 → k ≠ 21 → gA σ' k = gA σ k) ∧ ∀ k, gB σ' k = gB σ k
def TM (σ σ' : ST) : Prop := (∀ k, k ≠ 0 → k ≠ 8 → gA σ' k = gA σ k) ∧ (∀ k, gB σ' k = gB σ k) ∧ ∀ j, j ≠ 9 → gA σ' 0 j = gA σ 0 j
theorem feed_loop {a b c d e : Int32} (hb : ∀ i, i < 5 → ∃ v, v < 256 ∧ pick a b c d e i = nI v) {k m : Nat} (hm : m ≤ 5) (hk : k + m ≤ 160) : ∀ q i σ τ fuel, i + q = m → q < fuel → gA σ 3 1 = nI (k + i) → gA τ 0 9 = nI (k + i) → (∀ j, j < k + i → ∃ v, v < 256 ∧ gA σ 21 j = nI v ∧ gA τ 8 j = nI v) → ∃ σ' τ', f_X9_feed_L72 fuel (nI m) a b c d e (nI i) σ = some (nI (k + m), σ') ∧ (∀ fuel2, q < fuel2 → f_X10_feed_L68 fuel2 (nI m) a b c d e (nI i) τ = some (nI (k + m), τ')) ∧ TX σ σ' ∧ TM τ τ' ∧ RP σ' τ' := by
  intro q
  induction q with
  | zero =>
    intro i σ τ fuel hi hf h1 h2 h3
    obtain ⟨fuel, rfl⟩ : ∃ k, fuel = k + 1 := ⟨fuel - 1, by omega⟩
    have : i = m := by omega
    subst this
    refine ⟨σ, τ, ?_, fun fuel2 hf2 => ?_, ⟨fun _ _ _ => rfl, fun _ => rfl⟩, ⟨fun _ _ _ => rfl, fun _ => rfl, fun _ _ => rfl⟩, k + i, hk, h1, h2, h3⟩
    · rw [ef_X9_feed_L72, if_pos (Int32.le_refl _), h1]
    · obtain ⟨fuel2, rfl⟩ : ∃ k, fuel2 = k + 1 := ⟨fuel2 - 1, by omega⟩
      rw [ef_X10_feed_L68, if_pos (Int32.le_refl _), h2]
  | succ q ih =>
    intro i σ τ fuel hi hf h1 h2 h3
    obtain ⟨fuel, rfl⟩ : ∃ k, fuel = k + 1 := ⟨fuel - 1, by omega⟩
    obtain ⟨v, hv, hp⟩ := hb i (by omega)
    obtain ⟨σ', τ', r1, r2, r3, r4, r5⟩ := ih (i + 1) (sA (sA σ 3 1 (nI (k + i + 1))) 21 (k + i) (nI v)) (sA (sA τ 8 (k + i) (nI v)) 0 9 (nI (k + i + 1))) fuel (by omega) (by omega) (by
      simp (disch := omega) only [gA_sA_ne, gA_sA_nj, gB_sA, gA_sB, gB_sB_ne, gA_rA_ne, gB_rA, gA_rB, gB_rB_ne, gA_sA_eq]; rfl) (by
      simp (disch := omega) only [gA_sA_ne, gA_sA_nj, gB_sA, gA_sB, gB_sB_ne, gA_rA_ne, gB_rA, gA_rB, gB_rB_ne, gA_sA_eq]; rfl) (fun j hj => by
      by_cases e : j = k + i
      · subst e
        exact ⟨v, hv, by simp (disch := omega) only [gA_sA_ne, gA_sA_nj, gB_sA, gA_sB, gB_sB_ne, gA_rA_ne, gB_rA, gA_rB, gB_rB_ne, gA_sA_eq], by simp (disch := omega) only [gA_sA_ne, gA_sA_nj, gB_sA, gA_sB, gB_sB_ne, gA_rA_ne, gB_rA, gA_rB, gB_rB_ne, gA_sA_eq]⟩
      · obtain ⟨v', w1, w2, w3⟩ := h3 j (by omega)
        exact ⟨v', w1, by simp (disch := omega) only [gA_sA_ne, gA_sA_nj, gB_sA, gA_sB, gB_sB_ne, gA_rA_ne, gB_rA, gA_rB, gB_rB_ne]; exact w2, by simp (disch := omega) only [gA_sA_ne, gA_sA_nj, gB_sA, gA_sB, gB_sB_ne, gA_rA_ne, gB_rA, gA_rB, gB_rB_ne]; exact w3⟩)
    refine ⟨σ', τ', ?_, fun fuel2 hf2 => ?_, ⟨fun k h3 h21 => ?_, fun k => ?_⟩, ⟨fun k h0 h8 => ?_, fun k => ?_, fun j hj => ?_⟩, r5⟩
    · rw [ef_X9_feed_L72, if_neg (nI_ge (by omega) (by omega))]
      refine (pick5 (fun y => f_X9_feed_L125 (f_X9_feed_L72 fuel) (nI m) a b c d e (nI i) y σ) a b c d e i (by omega)).trans ?_
      show f_X9_feed_L125 _ _ _ _ _ _ _ _ (pick a b c d e i) σ = _
      unfold f_X9_feed_L125
      rw [hp, xadd h1 (by omega), jb_s, jlet_s, nI_1]
      exact r1
    · obtain ⟨fuel2, rfl⟩ : ∃ k, fuel2 = k + 1 := ⟨fuel2 - 1, by omega⟩
      rw [ef_X10_feed_L68, if_neg (nI_ge (by omega) (by omega))]
      refine (pick5 (fun y => f_X10_feed_L125 (f_X10_feed_L68 fuel2) (nI m) a b c d e (nI i) (gA τ 0 9) y τ) a b c d e i (by omega)).trans ?_
      show f_X10_feed_L125 _ _ _ _ _ _ _ _ (gA τ 0 9) (pick a b c d e i) τ = _
      unfold f_X10_feed_L125
      rw [hp, h2]
      simp (disch := omega) only [gA_sA_ne, gA_sA_nj, gB_sA, gA_sB, gB_sB_ne, gA_rA_ne, gB_rA, gA_rB, gB_rB_ne, jlet_s, ifN1, ifN0, if10, if00, jix_t, nI_clamp, h2, nI_1]
      exact r2 fuel2 (by omega)
    · rw [r3.1 k h3 h21, gA_sA_ne h21, gA_sA_ne h3]
    · rw [r3.2 k]; rfl
    · rw [r4.1 k h0 h8, gA_sA_ne h0, gA_sA_ne h8]
    · rw [r4.2.1 k]; rfl
    · rw [r4.2.2 j hj, gA_sA_nj hj, gA_sA_ne (show 0 ≠ 8 by omega)]
theorem byte2 (x : Int32) : (∃ v, v < 256 ∧ x = nI v ∧ f_X9_isByte x = 1 ∧ f_X10_isByte x = 1) ∨ (f_X9_isByte x = 0 ∧ f_X10_isByte x = 0) := by
  rcases wN x (m := 255) (by omega) with ⟨v, hv, rfl, e⟩ | e
  · exact Or.inl ⟨v, by omega, rfl, e, e⟩
  · exact Or.inr ⟨e, e⟩
theorem op_feed : OP_feed REL := by
  intro σx σm x1 a b c d e hRel
  obtain ⟨S, r, G, n, nT, Tx, hS, hX, hM, hC, hr, hR⟩ := id hRel
  obtain ⟨rt, ⟨k, p1, p2, p3, p4⟩, ri, rs, rw'⟩ := hR
  unfold f_X9_feed f_X10_feed
  have hin : f_X10_in x1 1 5 = if x1 < 1 then 0 else if 5 < x1 then 0 else 1 := rfl
  rw [hin]
  by_cases h1 : x1 < 1
  · rw [if_pos h1, if_pos h1]
    exact ⟨_, _, _, rfl, rfl, hRel⟩
  rw [if_neg h1, if_neg h1]
  by_cases h5 : 5 < x1
  · rw [if_pos h5, if_pos h5]
    exact ⟨_, _, _, rfl, rfl, hRel⟩
  rw [if_neg h5, if_neg h5]
  obtain ⟨m, hm1, hm5, rfl⟩ : ∃ k, 1 ≤ k ∧ k ≤ 5 ∧ x1 = nI k := by
    rw [Int32.lt_iff_toInt_lt] at h1 h5
    rw [show (1 : Int32).toInt = 1 from rfl] at h1
    rw [show (5 : Int32).toInt = 5 from rfl] at h5
    refine ⟨x1.toInt.toNat, by omega, by omega, ?_⟩
    apply Int32.toInt_inj.mp
    rw [nI_toInt (by omega)]
    omega
  simp only [jlet_s, if10]
  rcases byte2 a with ⟨va, ha, rfl, e1, e2⟩ | ⟨e1, e2⟩
  · rcases byte2 b with ⟨vb, hb, rfl, e3, e4⟩ | ⟨e3, e4⟩
    · rcases byte2 c with ⟨vc, hc, rfl, e5, e6⟩ | ⟨e5, e6⟩
      · rcases byte2 d with ⟨vd, hd, rfl, e7, e8⟩ | ⟨e7, e8⟩
        · rcases byte2 e with ⟨ve, he, rfl, e9, e10⟩ | ⟨e9, e10⟩
          · simp only [e1, e2, e3, e4, e5, e6, e7, e8, e9, e10, jlet_s, ifN1, ifN0, if10, if00, p2, p3]
            rw [show (160 : Int32) - nI k = nI (160 - k) from pk_sub (a := 160) p1, nI_add]
            by_cases hf : k + m ≤ 160
            · rw [if_pos (nI_le (by omega) (by omega)), if_pos (show nI (k + m) ≤ 160 from nI_le (b := 160) hf (by decide))]
              obtain ⟨σ', τ', r1, r2, r3, r4, r5⟩ := feed_loop (a := nI va) (b := nI vb) (c := nI vc) (d := nI vd) (e := nI ve) (fun i hi => by
                unfold pick
                rcases (show i = 0 ∨ i = 1 ∨ i = 2 ∨ i = 3 ∨ i = 4 by omega) with rfl | rfl | rfl | rfl | rfl
                · exact ⟨va, ha, rfl⟩
                · exact ⟨vb, hb, rfl⟩
                · exact ⟨vc, hc, rfl⟩
                · exact ⟨vd, hd, rfl⟩
                · exact ⟨ve, he, rfl⟩) hm5 hf m 0 σx σm FU (by omega) (by unfold FU; omega) p2 p3 p4
              have zx : ∀ k, k ≠ 3 → k ≠ 21 → gA σ' k = gA σx k := r3.1
              have zm : ∀ k, k ≠ 0 → k ≠ 8 → gA τ' k = gA σm k := r4.1
              refine ⟨_, σ', τ', r1, r2 FU (by unfold FU; omega), S, r, G, n, nT, Tx, hS, hX.cg (r3.2 14) (by rw [zx 4 (by omega) (by omega)]) (by rw [zx 2 (by omega) (by omega)]) (fun t ht => ⟨zx _ (by omega) (by omega), zx _ (by omega) (by omega)⟩) (zx 15 (by omega) (by omega)) (zx 16 (by omega) (by omega)) (zx 17 (by omega) (by omega)) (zx 18 (by omega) (by omega)) (zx 19 (by omega) (by omega)) (zx 20 (by omega) (by omega)), hM.cg (r4.2.1 1) (r4.2.2 13 (by omega)) (r4.2.2 1 (by omega)) (zm 9 (by omega) (by omega)) (zm 10 (by omega) (by omega)) (zm 2 (by omega) (by omega)) (zm 3 (by omega) (by omega)) (zm 4 (by omega) (by omega)) (zm 5 (by omega) (by omega)) (zm 6 (by omega) (by omega)) (zm 7 (by omega) (by omega)), fun q => ?_, hr, rt.cg (by rw [zx 4 (by omega) (by omega)]) (r4.2.2 12 (by omega)) (fun t ht => ⟨zx _ (by omega) (by omega), zx _ (by omega) (by omega)⟩) (zm 9 (by omega) (by omega)) (zm 10 (by omega) (by omega)), r5, ri.cg (zx 8 (by omega) (by omega)) (zx 52 (by omega) (by omega)) (zx 53 (by omega) (by omega)) (r3.2 51) (r4.2.2 14 (by omega)) (r4.2.2 15 (by omega)) (r4.2.2 16 (by omega)) (zm 12 (by omega) (by omega)) (zm 13 (by omega) (by omega)) (r4.2.1 11), rs.cg (fun t ht => ⟨zx _ (by omega) (by omega), zx _ (by omega) (by omega)⟩) (zm 14 (by omega) (by omega)) (zm 15 (by omega) (by omega)) (zm 16 (by omega) (by omega)), rw'.cg (zm 18 (by omega) (by omega))⟩
              rw [zx 5 (by omega) (by omega)] at q
              have hc := hC q
              refine ⟨fun g hg => ⟨fun t ht => ?_, ?_⟩, fun t ht => ?_⟩
              · rw [r3.2]; exact (hc.1 g hg).1 t ht
              · rw [r3.2]; exact (hc.1 g hg).2
              · rw [r3.2]; exact hc.2 t ht
            · rw [if_neg (nI_ge (by omega) (by omega)), if_neg (show ¬ nI (k + m) ≤ 160 from nI_ge (a := 160) (by omega) (by omega))]
              exact ⟨_, _, _, rfl, rfl, hRel⟩
          · simp only [e1, e2, e3, e4, e5, e6, e7, e8, e9, e10, jlet_s, ifN1, ifN0, if10, if00]
            exact ⟨_, _, _, rfl, rfl, hRel⟩
        · simp only [e1, e2, e3, e4, e5, e6, e7, e8, jlet_s, ifN1, ifN0, if10, if00]
          exact ⟨_, _, _, rfl, rfl, hRel⟩
      · simp only [e1, e2, e3, e4, e5, e6, jlet_s, ifN1, ifN0, if10, if00]
        exact ⟨_, _, _, rfl, rfl, hRel⟩
    · simp only [e1, e2, e3, e4, jlet_s, ifN1, ifN0, if10, if00]
      exact ⟨_, _, _, rfl, rfl, hRel⟩
  · simp only [e1, e2, jlet_s, ifN1, ifN0, if10, if00]
    exact ⟨_, _, _, rfl, rfl, hRel⟩
/-! ===== one guard more ===== -/
theorem xadd_g {σ : ST} {n : Nat} (h : gA σ 2 6 = nI n) (hn : n < 5) (k c w l mo : Int32) : f_X1_add k c w l mo σ = some (nI n, sA (sA (sA (sA (sA (sA (sA σ 15 n k) 16 n c) 17 n w) 18 n mo) 19 n l) 20 n 0) 2 6 (nI (n + 1))) := by
  unfold f_X1_add
  rw [h, if_pos (show nI n < 5 from nI_lt (b := 5) hn (by decide))]
  simp (disch := omega) only [gA_sA_ne, gA_sA_nj, gB_sA, gA_sB, gB_sB_ne, gA_rA_ne, gB_rA, gA_rB, gB_rB_ne, jlet_s, ifN1, ifN0, if10, if00, jix_t, nI_clamp, h, nI_1]
theorem madd_g {σ : ST} {n : Nat} (h : gA σ 0 1 = nI n) (hn : n < 5) (k c wl mo : Int32) : f_X10_guard_L50 k c wl mo 1 σ = some (nI n, sA (sA (sA (sA (sA (sA (sA σ 2 n k) 3 n c) 4 n (wl / 10)) 5 n (jrem wl 10)) 6 n mo) 7 n 0) 0 1 (nI (n + 1))) := by
  unfold f_X10_guard_L50
  rw [ifN1, h, if_pos (show ¬ nI n = 5 from fun q => by have := (nI_eq (a := n) (b := 5) (by omega) (by omega)).mp q; omega)]
  simp (disch := omega) only [gA_sA_ne, gA_sA_nj, gB_sA, gA_sB, gB_sB_ne, gA_rA_ne, gB_rA, gA_rB, gB_rB_ne, jlet_s, ifN1, ifN0, if10, if00, jix_t, nI_clamp, gA_sA_eq, h, nI_1, nI_pred]
def newG (G : Nat → Nat → Nat) (n a b c d e : Nat) : Nat → Nat → Nat := fun g => if g = n then (fun j => if j = 0 then a else if j = 1 then b else if j = 2 then c else if j = 3 then d else if j = 4 then e else 0) else G g
theorem in_1 {q m : Nat} (h : q ≤ m) (hm : m < 2 ^ 31) : f_X10_in (nI q) 0 (nI m) = 1 := by
  unfold f_X10_in
  rw [if_neg (nI_pos (by omega)), if_neg (nI_nlt h hm)]
theorem in_0 {q m : Nat} (h : m < q) (hq : q < 2 ^ 31) : f_X10_in (nI q) 0 (nI m) = 0 := by
  unfold f_X10_in
  rw [if_neg (nI_pos hq), if_pos (nI_lt h hq)]
theorem op_guard : OP_guard REL := by
  intro σx σm x1 x2 x3 x4 hRel
  obtain ⟨S, r, G, n, nT, Tx, hS, hX, hM, hC, hr, hR⟩ := id hRel
  have hn := hX.2.2.1
  unfold f_X9_guard f_X10_guard f_X10_guard_L49
  have h49 : ∀ a b c d, f_X10_guard_L50 a b c d 0 σm = some (-2, σm) := fun _ _ _ _ => rfl
  rcases wN x1 (m := 5) (by omega) with ⟨k, hk, rfl, e1⟩ | e1
  · rcases w35 x2 with ⟨c, hc, rfl, e2, e3⟩ | ⟨e2, e3⟩
    · rcases wN x3 (m := 39) (by omega) with ⟨q, hq, rfl, e4⟩ | e4
      · simp only [show f_X9_isWithin (nI k) 5 = 1 from e1, show f_X10_in (nI k) 0 5 = 1 from e1, e2, e3, show f_X9_isWithin (nI q) 39 = 1 from e4, jlet_s, ifN1, ifN0, if10, if00]
        rw [show (10 : Int32) = nI 10 from rfl, jrem_n (by omega) (by omega) (by omega), jdiv_n (by omega) (by omega) (by omega)]
        by_cases h10 : q % 10 ≤ 5
        · rw [show f_X10_in (nI q) 0 35 = 1 from in_1 (m := 35) (by omega) (by omega), if10, if_neg (show ¬ (5 : Int32) < nI (q % 10) from nI_nlt (a := 5) h10 (by omega)), if_pos (show nI (q % 10) ≤ 5 from nI_le (b := 5) h10 (by decide))]
          rcases wN x4 (m := 9) (by omega) with ⟨mo, hmo, rfl, e5⟩ | e5
          · simp only [show f_X9_isWithin (nI mo) 9 = 1 from e5, show f_X10_in (nI mo) 0 9 = 1 from e5, ifN1, if10]
            rcases (show n < 5 ∨ n = 5 by omega) with h5 | h5
            · rw [hX.2.1, if_pos (show nI n < 5 from nI_lt (b := 5) h5 (by decide)), xadd_g (by simp (disch := omega) only [gA_sA_ne, gA_sA_nj, gB_sA, gA_sB, gB_sB_ne, gA_rA_ne, gB_rA, gA_rB, gB_rB_ne]; exact hX.2.1) h5, madd_g hM.2.1 h5, jbp_s]
              obtain ⟨rt, rp, ri, rs, rw'⟩ := hR
              rw [show (10 : Int32) = nI 10 from rfl, jrem_n (by omega) (by omega) (by omega), jdiv_n (by omega) (by omega) (by omega)]
              have hgw : ∀ g, g < 5 → GW (newG G n k c (q / 10) mo (q % 10) g) := fun g hg => by
                unfold newG
                by_cases e : g = n
                · rw [if_pos e]
                  exact ⟨by show k < 6; omega, hc, by show q / 10 < 4; omega, by show mo < 10; omega, by show q % 10 < 6; omega, by show 0 < 24; omega⟩
                · rw [if_neg e]; exact (hX.2.2.2 g hg).2
              obtain ⟨⟨⟨s0, s1, s2⟩, v1, v2, v3, v4⟩, v6, v7, v8⟩ := hX
              obtain ⟨⟨⟨u0, u1, u2⟩, w1, w2, w3, w4⟩, w6, w7, w8⟩ := hM
              refine ⟨_, _, _, rfl, rfl, S, r, newG G n k c (q / 10) mo (q % 10), n + 1, nT, Tx, hS, ⟨⟨⟨s0, s1, s2⟩, ?_, v2, v3, fun i hi => ?_, fun p hp => ?_⟩, gA_sA_eq, by omega, fun g hg => ⟨?_, hgw g hg⟩⟩, ⟨⟨⟨u0, u1, u2⟩, ?_, w2, w3, fun i hi => ?_, fun p hp => ?_⟩, gA_sA_eq, by omega, fun g hg => ⟨?_, hgw g hg⟩⟩, fun z => ?_, hr, rt.cg (by simp (disch := omega) only [gA_sA_ne, gA_sA_nj, gB_sA, gA_sB, gB_sB_ne, gA_rA_ne, gB_rA, gA_rB, gB_rB_ne]) (by simp (disch := omega) only [gA_sA_ne, gA_sA_nj, gB_sA, gA_sB, gB_sB_ne, gA_rA_ne, gB_rA, gA_rB, gB_rB_ne]) (fun t ht => ⟨(by simp (disch := omega) only [gA_sA_ne, gA_sA_nj, gB_sA, gA_sB, gB_sB_ne, gA_rA_ne, gB_rA, gA_rB, gB_rB_ne]), (by simp (disch := omega) only [gA_sA_ne, gA_sA_nj, gB_sA, gA_sB, gB_sB_ne, gA_rA_ne, gB_rA, gA_rB, gB_rB_ne])⟩) (by simp (disch := omega) only [gA_sA_ne, gA_sA_nj, gB_sA, gA_sB, gB_sB_ne, gA_rA_ne, gB_rA, gA_rB, gB_rB_ne]) (by simp (disch := omega) only [gA_sA_ne, gA_sA_nj, gB_sA, gA_sB, gB_sB_ne, gA_rA_ne, gB_rA, gA_rB, gB_rB_ne]), rp.cg (by simp (disch := omega) only [gA_sA_ne, gA_sA_nj, gB_sA, gA_sB, gB_sB_ne, gA_rA_ne, gB_rA, gA_rB, gB_rB_ne]) (by simp (disch := omega) only [gA_sA_ne, gA_sA_nj, gB_sA, gA_sB, gB_sB_ne, gA_rA_ne, gB_rA, gA_rB, gB_rB_ne]) (by simp (disch := omega) only [gA_sA_ne, gA_sA_nj, gB_sA, gA_sB, gB_sB_ne, gA_rA_ne, gB_rA, gA_rB, gB_rB_ne]) (by simp (disch := omega) only [gA_sA_ne, gA_sA_nj, gB_sA, gA_sB, gB_sB_ne, gA_rA_ne, gB_rA, gA_rB, gB_rB_ne]), ri.cg (by simp (disch := omega) only [gA_sA_ne, gA_sA_nj, gB_sA, gA_sB, gB_sB_ne, gA_rA_ne, gB_rA, gA_rB, gB_rB_ne]) (by simp (disch := omega) only [gA_sA_ne, gA_sA_nj, gB_sA, gA_sB, gB_sB_ne, gA_rA_ne, gB_rA, gA_rB, gB_rB_ne]) (by simp (disch := omega) only [gA_sA_ne, gA_sA_nj, gB_sA, gA_sB, gB_sB_ne, gA_rA_ne, gB_rA, gA_rB, gB_rB_ne]) (by simp (disch := omega) only [gA_sA_ne, gA_sA_nj, gB_sA, gA_sB, gB_sB_ne, gA_rA_ne, gB_rA, gA_rB, gB_rB_ne]) (by simp (disch := omega) only [gA_sA_ne, gA_sA_nj, gB_sA, gA_sB, gB_sB_ne, gA_rA_ne, gB_rA, gA_rB, gB_rB_ne]) (by simp (disch := omega) only [gA_sA_ne, gA_sA_nj, gB_sA, gA_sB, gB_sB_ne, gA_rA_ne, gB_rA, gA_rB, gB_rB_ne]) (by simp (disch := omega) only [gA_sA_ne, gA_sA_nj, gB_sA, gA_sB, gB_sB_ne, gA_rA_ne, gB_rA, gA_rB, gB_rB_ne]) (by simp (disch := omega) only [gA_sA_ne, gA_sA_nj, gB_sA, gA_sB, gB_sB_ne, gA_rA_ne, gB_rA, gA_rB, gB_rB_ne]) (by simp (disch := omega) only [gA_sA_ne, gA_sA_nj, gB_sA, gA_sB, gB_sB_ne, gA_rA_ne, gB_rA, gA_rB, gB_rB_ne]) (by simp (disch := omega) only [gA_sA_ne, gA_sA_nj, gB_sA, gA_sB, gB_sB_ne, gA_rA_ne, gB_rA, gA_rB, gB_rB_ne]), rs.cg (fun t ht => ⟨(by simp (disch := omega) only [gA_sA_ne, gA_sA_nj, gB_sA, gA_sB, gB_sB_ne, gA_rA_ne, gB_rA, gA_rB, gB_rB_ne]), (by simp (disch := omega) only [gA_sA_ne, gA_sA_nj, gB_sA, gA_sB, gB_sB_ne, gA_rA_ne, gB_rA, gA_rB, gB_rB_ne])⟩) (by simp (disch := omega) only [gA_sA_ne, gA_sA_nj, gB_sA, gA_sB, gB_sB_ne, gA_rA_ne, gB_rA, gA_rB, gB_rB_ne]) (by simp (disch := omega) only [gA_sA_ne, gA_sA_nj, gB_sA, gA_sB, gB_sB_ne, gA_rA_ne, gB_rA, gA_rB, gB_rB_ne]) (by simp (disch := omega) only [gA_sA_ne, gA_sA_nj, gB_sA, gA_sB, gB_sB_ne, gA_rA_ne, gB_rA, gA_rB, gB_rB_ne]), rw'.cg (by simp (disch := omega) only [gA_sA_ne, gA_sA_nj, gB_sA, gA_sB, gB_sB_ne, gA_rA_ne, gB_rA, gA_rB, gB_rB_ne])⟩
              · simp (disch := omega) only [gA_sA_ne, gA_sA_nj, gB_sA, gA_sB, gB_sB_ne, gA_rA_ne, gB_rA, gA_rB, gB_rB_ne]; exact v1
              · simp (disch := omega) only [gA_sA_ne, gA_sA_nj, gB_sA, gA_sB, gB_sB_ne, gA_rA_ne, gB_rA, gA_rB, gB_rB_ne]; exact v4.1 i hi
              · simp (disch := omega) only [gA_sA_ne, gA_sA_nj, gB_sA, gA_sB, gB_sB_ne, gA_rA_ne, gB_rA, gA_rB, gB_rB_ne]; exact v4.2 p hp
              · unfold atX newG
                by_cases e : g = n
                · subst e
                  simp [gA_sA]
                  rfl
                · obtain ⟨a0, a1, a2, a3, a4, a5⟩ := (v8 g hg).1
                  simp [gA_sA, e, a0, a1, a2, a3, a4, a5]
              · simp (disch := omega) only [gA_sA_ne, gA_sA_nj, gB_sA, gA_sB, gB_sB_ne, gA_rA_ne, gB_rA, gA_rB, gB_rB_ne]; exact w1
              · simp (disch := omega) only [gA_sA_ne, gA_sA_nj, gB_sA, gA_sB, gB_sB_ne, gA_rA_ne, gB_rA, gA_rB, gB_rB_ne]; exact w4.1 i hi
              · simp (disch := omega) only [gA_sA_ne, gA_sA_nj, gB_sA, gA_sB, gB_sB_ne, gA_rA_ne, gB_rA, gA_rB, gB_rB_ne]; exact w4.2 p hp
              · unfold atM newG
                by_cases e : g = n
                · subst e
                  simp [gA_sA]
                  rfl
                · obtain ⟨a0, a1, a2, a3, a4, a5⟩ := (w8 g hg).1
                  simp [gA_sA, e, a0, a1, a2, a3, a4, a5]
              · simp (disch := omega) only [gA_sA_ne, gA_sA_nj, gB_sA, gA_sB, gB_sB_ne, gA_rA_ne, gB_rA, gA_rB, gB_rB_ne, gA_sA_eq] at z
                exact absurd z (by decide)
            · subst h5
              unfold f_X10_guard_L50
              rw [hX.2.1, hM.2.1, if_neg (show ¬ nI 5 < 5 by decide), ifN1, if_neg (show ¬ ¬ nI 5 = 5 by decide)]
              exact ⟨_, _, _, rfl, rfl, hRel⟩
          · simp only [show f_X9_isWithin x4 9 = 0 from e5, show f_X10_in x4 0 9 = 0 from e5, ifN0, if00, h49]
            exact ⟨_, _, _, rfl, rfl, hRel⟩
        · have hx4 : ∃ b : Int32, f_X9_isWithin x4 9 = b := ⟨_, rfl⟩
          obtain ⟨b, hb⟩ := hx4
          rw [hb, if_neg (show ¬ nI (q % 10) ≤ 5 from nI_ge (a := 5) (by omega) (by omega))]
          have key : (if f_X10_in (nI q) 0 35 = 0 then f_X10_guard_L50 (nI k) (nI c) (nI q) x4 0 σm else if (5 : Int32) < nI (q % 10) then f_X10_guard_L50 (nI k) (nI c) (nI q) x4 0 σm else if f_X10_in x4 0 9 = 0 then f_X10_guard_L50 (nI k) (nI c) (nI q) x4 0 σm else f_X10_guard_L50 (nI k) (nI c) (nI q) x4 1 σm) = some (-2, σm) := by
            rw [if_pos (show (5 : Int32) < nI (q % 10) from nI_lt (a := 5) (by omega) (by omega)), h49]
            split <;> rfl
          refine ⟨-2, σx, σm, ?_, key, hRel⟩
          split <;> rfl
      · simp only [show f_X9_isWithin (nI k) 5 = 1 from e1, show f_X10_in (nI k) 0 5 = 1 from e1, e2, e3, show f_X9_isWithin x3 39 = 0 from e4, jlet_s, ifN1, ifN0, if10, if00, h49]
        have : f_X10_in x3 0 35 = 0 := by
          unfold f_X9_isWithin at e4
          unfold f_X10_in
          by_cases q : x3 < 0
          · exact if_pos q
          · rw [if_neg q] at e4
            rw [if_neg q]
            obtain ⟨j, hj, rfl⟩ := nI_of q
            by_cases q2 : nI 39 < nI j
            · rw [nI_ltI (by omega) hj] at q2
              exact if_pos (nI_lt (a := 35) (by omega) hj)
            · rw [if_neg q2] at e4
              exact absurd e4 (by decide)
        rw [this, if00]
        exact ⟨_, _, _, rfl, rfl, hRel⟩
    · simp only [show f_X9_isWithin (nI k) 5 = 1 from e1, show f_X10_in (nI k) 0 5 = 1 from e1, e2, e3, jlet_s, ifN1, ifN0, if10, if00, h49]
      exact ⟨_, _, _, rfl, rfl, hRel⟩
  · rw [show f_X9_isWithin x1 5 = 0 from e1, show f_X10_in x1 0 5 = 0 from e1]
    exact ⟨_, _, _, rfl, rfl, hRel⟩
