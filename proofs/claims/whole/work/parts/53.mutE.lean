/-! ===== copied numbers ===== -/
theorem hasRoom_n {o z : Nat} {σ : ST} (h : gA σ o 1 = nI z) (hz : z ≤ 40) {i n : Nat} (hi : i < 2 ^ 31) (hn : n < 2 ^ 31) : f_X5_hasRoom o (nI i) (nI n) σ = bI (decide (i + n ≤ z)) := by
  unfold f_X5_hasRoom
  rw [h, if_neg (nI_pos hn)]
  by_cases h1 : z < n
  · rw [if_pos (nI_lt h1 hn), decide_eq_false (by omega)]; rfl
  · rw [if_neg (nI_nlt (by omega) (by omega)), if_neg (nI_pos hi), pk_sub (by omega)]
    by_cases h2 : z - n < i
    · rw [if_pos (nI_lt h2 hi), decide_eq_false (by omega)]; rfl
    · rw [if_neg (nI_nlt (by omega) (by omega)), decide_eq_true (by omega)]; rfl
theorem hasRoom_neg {o : Nat} {σ : ST} {x y : Int32} (h : x < 0 ∨ y < 0) : f_X5_hasRoom o x y σ = 0 := by
  unfold f_X5_hasRoom
  by_cases h1 : y < 0
  · exact if_pos h1
  · rw [if_neg h1]
    split
    · rfl
    · rw [if_pos (h.resolve_right h1)]
theorem mcopy {a b n : Nat} (ha : a + n ≤ 160) (hb : b + n ≤ 160) (σ : ST) : ∃ σ', f_X10_copy_L147 FU (nI n) (nI a) (nI b) 0 σ = some (nI n, σ') ∧ (∀ k, k ≠ 16 → gA σ' k = gA σ k) ∧ (∀ k, gB σ' k = gB σ k) ∧ ∀ p, gA σ' 16 p = if b ≤ p ∧ p < b + n then gA σ 16 (a + (p - b)) else gA σ 16 p := by
  by_cases hba : b ≤ a
  · refine jloop (fun k i s => f_X10_copy_L147 k (nI n) (nI a) (nI b) (nI i) s) n (fun i s => (∀ k, k ≠ 16 → gA s k = gA σ k) ∧ (∀ k, gB s k = gB σ k) ∧ ∀ p, gA s 16 p = if b ≤ p ∧ p < b + i then gA σ 16 (a + (p - b)) else gA σ 16 p) (fun r => ∃ σ', r = some (nI n, σ') ∧ (∀ k, k ≠ 16 → gA σ' k = gA σ k) ∧ (∀ k, gB σ' k = gB σ k) ∧ ∀ p, gA σ' 16 p = if b ≤ p ∧ p < b + n then gA σ 16 (a + (p - b)) else gA σ 16 p) ?_ ?_ FU 0 σ (by omega) (by unfold FU; omega) ⟨fun _ _ => rfl, fun _ => rfl, fun p => by rw [if_neg (by omega)]⟩
    · intro k i s hi ⟨p1, p2, p3⟩
      refine Or.inr ⟨sA s 16 (b + i) (gA s 16 (a + i)), ⟨fun k hk => by rw [gA_sA_ne hk]; exact p1 k hk, fun k => p2 k, fun p => ?_⟩, ?_⟩
      · by_cases e : p = b + i
        · subst e
          rw [gA_sA_eq, p3, if_neg (by omega), if_pos (by omega)]
          congr 1; omega
        · rw [gA_sA_nj e, p3]
          by_cases q : b ≤ p ∧ p < b + i
          · rw [if_pos q, if_pos (by omega)]
          · rw [if_neg q, if_neg (by omega)]
      · show f_X10_copy_L147 (k + 1) (nI n) (nI a) (nI b) (nI i) s = _
        rw [ef_X10_copy_L147, if_neg (nI_ge hi (by omega)), if_pos (nI_le hba (by omega))]
        unfold f_X10_copy_L173
        simp (disch := omega) only [jlet_s, ifN1, ifN0, if10, if00, jix_t, nI_clamp, nI_1, nI_add]
    · intro k s ⟨p1, p2, p3⟩
      refine ⟨s, ?_, p1, p2, p3⟩
      show f_X10_copy_L147 (k + 1) (nI n) (nI a) (nI b) (nI n) s = _
      rw [ef_X10_copy_L147, if_pos (Int32.le_refl _)]
  · refine jloop (fun k i s => f_X10_copy_L147 k (nI n) (nI a) (nI b) (nI i) s) n (fun i s => (∀ k, k ≠ 16 → gA s k = gA σ k) ∧ (∀ k, gB s k = gB σ k) ∧ ∀ p, gA s 16 p = if b + n ≤ p + i ∧ p < b + n then gA σ 16 (a + (p - b)) else gA σ 16 p) (fun r => ∃ σ', r = some (nI n, σ') ∧ (∀ k, k ≠ 16 → gA σ' k = gA σ k) ∧ (∀ k, gB σ' k = gB σ k) ∧ ∀ p, gA σ' 16 p = if b ≤ p ∧ p < b + n then gA σ 16 (a + (p - b)) else gA σ 16 p) ?_ ?_ FU 0 σ (by omega) (by unfold FU; omega) ⟨fun _ _ => rfl, fun _ => rfl, fun p => by rw [if_neg (by omega)]⟩
    · intro k i s hi ⟨p1, p2, p3⟩
      refine Or.inr ⟨sA s 16 (b + (n - 1 - i)) (gA s 16 (a + (n - 1 - i))), ⟨fun k hk => by rw [gA_sA_ne hk]; exact p1 k hk, fun k => p2 k, fun p => ?_⟩, ?_⟩
      · by_cases e : p = b + (n - 1 - i)
        · subst e
          rw [gA_sA_eq, p3, if_neg (by omega), if_pos (by omega)]
          congr 1; omega
        · rw [gA_sA_nj e, p3]
          by_cases q : b + n ≤ p + i ∧ p < b + n
          · rw [if_pos q, if_pos (by omega)]
          · rw [if_neg q, if_neg (by omega)]
      · show f_X10_copy_L147 (k + 1) (nI n) (nI a) (nI b) (nI i) s = _
        rw [ef_X10_copy_L147, if_neg (nI_ge hi (by omega)), if_neg (nI_ge (by omega) (by omega))]
        unfold f_X10_copy_L173
        rw [show nI n - 1 - nI i = nI (n - 1 - i) by rw [show (1 : Int32) = nI 1 from rfl, pk_sub (by omega), pk_sub (by omega)]]
        simp (disch := omega) only [jlet_s, ifN1, ifN0, if10, if00, jix_t, nI_clamp, nI_1, nI_add]
    · intro k s ⟨p1, p2, p3⟩
      refine ⟨s, ?_, p1, p2, fun p => ?_⟩
      · show f_X10_copy_L147 (k + 1) (nI n) (nI a) (nI b) (nI n) s = _
        rw [ef_X10_copy_L147, if_pos (Int32.le_refl _)]
      · rw [p3]
        by_cases q : b ≤ p ∧ p < b + n
        · rw [if_pos q, if_pos (by omega)]
        · rw [if_neg q, if_neg (by omega)]
theorem copy2 {s o i j n z y : Nat} (hs : s < 4) (ho : o < 4) (hz : z ≤ 40) (hy : y ≤ 40) (hi : i + n ≤ z) (hj : j + n ≤ y) {S : Nat → Int64} {r n' nT : Nat} {G : Nat → Nat → Nat} {Tx : Nat → TT} {σx σm : ST} (hS : WS36 S) (hX : VX S r (Tx r) G n' σx) (hM : VM S r (Tx r) G n' σm) (hC : gA σx 5 3 = 0 → CX S (Tx r) G n' σx) (hr : r < nT) (hR : rest nT Tx σx σm) : ∃ σm', f_X10_copy_L147 FU (nI n) (40 * nI s + nI i) (40 * nI o + nI j) 0 σm = some (nI n, σm') ∧ REL (rA σx (9 + o + 45) (va_cpy (gA σx (9 + s + 45)) (gA σx (9 + o + 45)) i j n)) σm' := by
  rw [show (40 : Int32) = nI 40 from rfl, pk_mul, pk_mul, nI_add, nI_add]
  obtain ⟨σ', k1, k2, k3, k4⟩ := mcopy (a := 40 * s + i) (b := 40 * o + j) (n := n) (by omega) (by omega) σm
  have fx : FS o σx (rA σx (9 + o + 45) (va_cpy (gA σx (9 + s + 45)) (gA σx (9 + o + 45)) i j n)) := ⟨fun k h9 h54 => gA_rA_ne (by omega), fun k => rfl⟩
  have fm : FSm o σm σ' := ⟨fun k h14 h15 h16 => k2 k h16, k3, fun s' _ => ⟨by rw [k2 14 (by omega)], by rw [k2 15 (by omega)]⟩, fun p hp => by rw [k4, if_neg (by omega)]⟩
  obtain ⟨q1, q2, q3⟩ := hR.2.2.2.1 o ho
  obtain ⟨w1, w2, w3⟩ := hR.2.2.2.1 s hs
  refine ⟨σ', k1, REL.sheet hS hX hM hC hr hR ho fx fm (hR.2.2.2.1.upd ho fx fm ?_ ?_ (fun p hp => ?_))⟩
  · rw [gA_rA_ne (by omega), k2 14 (by omega)]; exact q1
  · rw [gA_rA_ne (by omega), k2 15 (by omega)]; exact q2
  · rw [show 54 + o = 9 + o + 45 by omega, gA_rA, k4]
    by_cases q : j ≤ p ∧ p < j + n
    · rw [if_pos (by omega), pk_cpy_in q.1 q.2, show 9 + s + 45 = 54 + s by omega, w3 _ (by omega)]
      congr 1; omega
    · rw [if_neg (by omega), pk_cpy_out (by omega), show 9 + o + 45 = 54 + o by omega]
      exact q3 p hp
theorem op_copy : OP_copy REL := by
  intro σx σm x1 x2 x3 x4 x5 hRel
  obtain ⟨S, r, G, n, nT, Tx, hS, hX, hM, hC, hr, hR⟩ := id hRel
  unfold f_X9_copy f_X10_copy
  rcases wN x1 (m := 3) (by omega) with ⟨s, hs, rfl, e5⟩ | e5
  · rcases wN x3 (m := 3) (by omega) with ⟨o, ho, rfl, e6⟩ | e6
    · obtain ⟨q1, ⟨z, hz, q2, q3⟩, q4⟩ := hR.2.2.2.1 s (by omega)
      obtain ⟨w1, ⟨y, hy, w2, w3⟩, w4⟩ := hR.2.2.2.1 o (by omega)
      have hs4 : s < 4 := by omega
      have ho4 : o < 4 := by omega
      rw [show f_X9_isSheet (nI s) = 1 from e5, jlet_s, if10, show f_X9_isSheet (nI o) = 1 from e6, jlet_s, ifN1, jix_t hs4 (by omega), jlet_s, jix_t ho4 (by omega), jlet_s, nI_clamp (n := s) (by omega), nI_clamp (n := o) (by omega), q1, w1, jlet_s, jlet_s, jlet_s]
      rw [show f_X10_in (nI s) 0 3 = 1 from e5, jlet_s, if10, show f_X10_in (nI o) 0 3 = 1 from e6, jlet_s, ifN1]
      rw [jix_t hs4 (by omega), jix_t ho4 (by omega), jix_t hs4 (by omega), jix_t ho4 (by omega), jix_t hs4 (by omega), jix_t ho4 (by omega), jix_t hs4 (by omega), jix_t ho4 (by omega), q3, w3]
      by_cases h1 : gA σm 14 s = -1
      · rw [if_pos h1, if_pos h1]
        exact ⟨_, _, _, rfl, rfl, hRel⟩
      rw [if_neg h1, if_neg h1]
      by_cases h2 : gA σm 14 o = -1
      · rw [if_neg (fun q => q h2), if_neg (fun q => q h2)]
        exact ⟨_, _, _, rfl, rfl, hRel⟩
      rw [if_pos h2, if_pos h2]
      by_cases h3 : gA σm 14 s = gA σm 14 o
      · rw [if_pos h3, if_pos h3]
        by_cases n5 : x5 < 0
        · rw [hasRoom_neg (Or.inr n5), if00, if_pos n5]
          exact ⟨_, _, _, rfl, rfl, hRel⟩
        by_cases n2 : x2 < 0
        · rw [hasRoom_neg (Or.inl n2), if00, if_neg n5, if_pos n2]
          exact ⟨_, _, _, rfl, rfl, hRel⟩
        obtain ⟨k, hk, rfl⟩ := nI_of n5
        obtain ⟨i, hi, rfl⟩ := nI_of n2
        rw [hasRoom_n q2 hz hi hk]
        by_cases n4 : x4 < 0
        · rw [hasRoom_neg (Or.inl n4), ifN0, if_neg n5, if_neg n2, if_pos n4]
          refine ⟨-12, σx, σm, ?_, rfl, hRel⟩
          split <;> rfl
        obtain ⟨j, hj, rfl⟩ := nI_of n4
        rw [hasRoom_n w2 hy hj hk, if_neg n5, if_neg n2, if_neg n4]
        by_cases g1 : i + k ≤ z
        · by_cases g2 : j + k ≤ y
          · obtain ⟨σ', c1, c2⟩ := copy2 (s := s) (o := o) (i := i) (j := j) (n := k) (by omega) (by omega) hz hy g1 g2 hS hX hM hC hr hR
            rw [decide_eq_true g1, decide_eq_true g2, if_neg (show ¬ bI true = 0 by decide), if_pos (show ¬ bI true = 0 by decide), if_neg (nI_nlt (by omega) (by omega)), if_neg (nI_nlt (by omega) (by omega)), pk_sub (show i ≤ z by omega), pk_sub (show j ≤ y by omega), if_neg (nI_nlt (by omega) (by omega)), if_pos (nI_le (by omega) (by omega))]
            refine ⟨nI k, _, σ', ?_, c1, c2⟩
            unfold jcp
            rw [if_pos ⟨⟨nI_pos hi, nI_pos hj, nI_pos hk⟩, by rw [nI_clamp hi, nI_clamp hk]; omega, by rw [nI_clamp hj, nI_clamp hk]; omega⟩, nI_clamp hi, nI_clamp hj, nI_clamp hk]
          · rw [decide_eq_true g1, decide_eq_false g2, if_neg (show ¬ bI true = 0 by decide), if_neg (show ¬ ¬ bI false = 0 by decide), if_neg (show ¬ nI z < nI i from nI_nlt (by omega) (by omega))]
            refine ⟨-12, σx, σm, rfl, ?_, hRel⟩
            by_cases g3 : y < j
            · rw [if_pos (nI_lt g3 hj)]
            · rw [if_neg (nI_nlt (by omega) (by omega)), pk_sub (show i ≤ z by omega), pk_sub (show j ≤ y by omega), if_neg (nI_nlt (by omega) (by omega)), if_neg (nI_ge (by omega) (by omega))]
        · rw [decide_eq_false g1, if_pos (show bI false = 0 from rfl)]
          refine ⟨-12, σx, σm, rfl, ?_, hRel⟩
          by_cases g3 : z < i
          · rw [if_pos (nI_lt g3 hi)]
          · rw [if_neg (nI_nlt (by omega) (by omega)), pk_sub (show i ≤ z by omega), if_pos (show nI (z - i) < nI k from nI_lt (by omega) hk)]
            split <;> rfl
      · rw [if_neg h3, if_neg h3]
        exact ⟨_, _, _, rfl, rfl, hRel⟩
    · simp only [show f_X9_isSheet (nI s) = 1 from e5, show f_X10_in (nI s) 0 3 = 1 from e5, show f_X9_isSheet x3 = 0 from e6, show f_X10_in x3 0 3 = 0 from e6, jlet_s, ifN0, if10]
      exact ⟨_, _, _, rfl, rfl, hRel⟩
  · rw [show f_X9_isSheet x1 = 0 from e5, show f_X10_in x1 0 3 = 0 from e5]
    exact ⟨_, _, _, rfl, rfl, hRel⟩
/-! ===== guards by a sheet ===== -/
theorem by_loop {s k f : Nat} (hs : s < 4) (hk : k ≤ 5) (hf : f < 2 ^ 31) : ∀ q i a σ τ fuel, i + q = k → q < fuel → (i = 0 ∨ f + 4 * i ≤ 40) → REL σ τ → ∃ r σ' τ', f_X9_guardsBy_L68 fuel (nI k) (9 + s) a (nI (f + 4 * i)) (nI i) σ = some (r, σ') ∧ (∀ fuel2, q < fuel2 → f_X10_guardsBy_L63 fuel2 (nI s) (nI f) (nI k) a (nI i) τ = some (r, τ')) ∧ REL σ' τ' := by
  intro q
  induction q with
  | zero =>
    intro i a σ τ fuel hi hfu hp hRel
    obtain ⟨fuel, rfl⟩ : ∃ k, fuel = k + 1 := ⟨fuel - 1, by omega⟩
    have : i = k := by omega
    subst this
    refine ⟨a, σ, τ, ?_, fun fuel2 hf2 => ?_, hRel⟩
    · rw [ef_X9_guardsBy_L68, if_pos (Int32.le_refl _)]
    · obtain ⟨fuel2, rfl⟩ : ∃ k, fuel2 = k + 1 := ⟨fuel2 - 1, by omega⟩
      rw [ef_X10_guardsBy_L63, if_pos (Int32.le_refl _)]
  | succ q ih =>
    intro i a σ τ fuel hi hfu hp hRel
    obtain ⟨fuel, rfl⟩ : ∃ k, fuel = k + 1 := ⟨fuel - 1, by omega⟩
    obtain ⟨S, r, G, n, nT, Tx, hS, hX, hM, hC, hr, hR⟩ := id hRel
    obtain ⟨q1, ⟨z, hz, q2, q3⟩, q4⟩ := hR.2.2.2.1 s hs
    have hfi : f + 4 * i < 2 ^ 31 := by omega
    have ex : f_X9_guardsBy_L68 (fuel + 1) (nI k) (9 + s) a (nI (f + 4 * i)) (nI i) σ = if ¬ bI (decide (f + 4 * i + 4 ≤ z)) = 0 then jix (nI (f + 4 * i)) 40 (jix (nI (f + 4 * i) + 1) 40 (jix (nI (f + 4 * i) + 2) 40 (jix (nI (f + 4 * i) + 3) 40 (jbp (f_X9_guard (gA σ (54 + s) (nI (f + 4 * i)).toNatClampNeg) (gA σ (54 + s) (nI (f + 4 * i) + 1).toNatClampNeg) (gA σ (54 + s) (nI (f + 4 * i) + 2).toNatClampNeg) (gA σ (54 + s) (nI (f + 4 * i) + 3).toNatClampNeg) σ) (fun (y8 : Int32) (s9 : ST) => (if y8 < 0 then f_X9_guardsBy_L132 (f_X9_guardsBy_L68 fuel) (nI k) (9 + s) a (nI (f + 4 * i)) (nI i) s9 else jlet (a + 1) (fun (y10 : Int32) => f_X9_guardsBy_L132 (f_X9_guardsBy_L68 fuel) (nI k) (9 + s) y10 (nI (f + 4 * i)) (nI i) s9))))))) else some (-12, σ) := by
      rw [ef_X9_guardsBy_L68, if_neg (nI_ge (by omega) (by omega)), show (4 : Int32) = nI 4 from rfl, hasRoom_n q2 hz hfi (by omega), jlet_s, jlet_s, show 9 + s + 45 = 54 + s by omega]
    have em : ∀ fuel2, f_X10_guardsBy_L63 (fuel2 + 1) (nI s) (nI f) (nI k) a (nI i) τ = if nI (f + 4 * i) ≤ nI z - 4 then jix (40 * nI s + nI (f + 4 * i)) 160 (jix (40 * nI s + nI (f + 4 * i) + 1) 160 (jix (40 * nI s + nI (f + 4 * i) + 2) 160 (jix (40 * nI s + nI (f + 4 * i) + 3) 160 (jbp (f_X10_guard (gA τ 16 (40 * nI s + nI (f + 4 * i)).toNatClampNeg) (gA τ 16 (40 * nI s + nI (f + 4 * i) + 1).toNatClampNeg) (gA τ 16 (40 * nI s + nI (f + 4 * i) + 2).toNatClampNeg) (gA τ 16 (40 * nI s + nI (f + 4 * i) + 3).toNatClampNeg) τ) (fun (y8 : Int32) (s9 : ST) => (if y8 < 0 then f_X10_guardsBy_L161 (f_X10_guardsBy_L63 fuel2) (nI s) (nI f) (nI k) (nI i) a 0 s9 else f_X10_guardsBy_L161 (f_X10_guardsBy_L63 fuel2) (nI s) (nI f) (nI k) (nI i) a 1 s9)))))) else some (-12, τ) := by
      intro fuel2
      rw [ef_X10_guardsBy_L63, if_neg (nI_ge (by omega) (by omega)), show (4 : Int32) * nI i = nI (4 * i) from pk_mul 4 i, nI_add, jlet_s, if_neg (nI_pos hf), if_neg (nI_nlt (by omega) (by omega)), jix_t hs (by omega), nI_clamp (by omega), q3, jlet_s]
    have e4 : nI (f + 4 * i) ≤ nI z - 4 ↔ f + 4 * i + 4 ≤ z := by
      by_cases hz4 : 4 ≤ z
      · rw [show nI z - 4 = nI (z - 4) from pk_sub (b := 4) hz4, nI_leI (by omega) (by omega)]
        omega
      · constructor
        · intro h
          have h2 := pk_sneg (a := z) (b := 4) (by omega) (by omega)
          rw [Int32.le_iff_toInt_le, nI_toInt hfi] at h
          rw [Int32.lt_iff_toInt_lt, Int32.toInt_zero] at h2
          have : (nI z - nI 4).toInt = (nI z - 4).toInt := rfl
          omega
        · intro h; omega
    by_cases g1 : f + 4 * i + 4 ≤ z
    · rw [ex, decide_eq_true g1, if_pos (show ¬ bI true = 0 by decide)]
      rw [show (40 : Int32) = nI 40 from rfl] at em
      rw [show (1 : Int32) = nI 1 from rfl, show (2 : Int32) = nI 2 from rfl, show (3 : Int32) = nI 3 from rfl] at em ⊢
      simp (disch := omega) only [pk_mul, nI_add, jix_t, nI_clamp, if_pos (e4.mpr g1)] at em ⊢
      rw [q4 (f + 4 * i) (by omega), q4 (f + 4 * i + 1) (by omega), q4 (f + 4 * i + 2) (by omega), q4 (f + 4 * i + 3) (by omega)]
      obtain ⟨y, σ1, τ1, k1, k2, k3⟩ := op_guard σ τ (gA τ 16 (40 * s + (f + 4 * i))) (gA τ 16 (40 * s + (f + 4 * i + 1))) (gA τ 16 (40 * s + (f + 4 * i + 2))) (gA τ 16 (40 * s + (f + 4 * i + 3))) hRel
      rw [k1, jbp_s]
      have em2 : ∀ fuel2, f_X10_guardsBy_L63 (fuel2 + 1) (nI s) (nI f) (nI k) a (nI i) τ = if y < 0 then f_X10_guardsBy_L161 (f_X10_guardsBy_L63 fuel2) (nI s) (nI f) (nI k) (nI i) a 0 τ1 else f_X10_guardsBy_L161 (f_X10_guardsBy_L63 fuel2) (nI s) (nI f) (nI k) (nI i) a (nI 1) τ1 := by
        intro fuel2
        rw [em fuel2]
        rw [show 40 * s + (f + 4 * i) + 1 = 40 * s + (f + 4 * i + 1) by omega, show 40 * s + (f + 4 * i) + 2 = 40 * s + (f + 4 * i + 2) by omega, show 40 * s + (f + 4 * i) + 3 = 40 * s + (f + 4 * i + 3) by omega, k2, jbp_s]
      by_cases g2 : y < 0
      · obtain ⟨r', σ', τ', r1, r2, r3⟩ := ih (i + 1) a σ1 τ1 fuel (by omega) (by omega) (Or.inr (by omega)) k3
        refine ⟨r', σ', τ', ?_, fun fuel2 hf2 => ?_, r3⟩
        · rw [if_pos g2]
          unfold f_X9_guardsBy_L132
          rw [jlet_s, jlet_s, show (4 : Int32) = nI 4 from rfl, nI_add, nI_1]
          exact r1
        · obtain ⟨fuel2, rfl⟩ : ∃ k, fuel2 = k + 1 := ⟨fuel2 - 1, by omega⟩
          rw [em2, if_pos g2]
          unfold f_X10_guardsBy_L161
          rw [jlet_s, jlet_s, Int32.add_zero, nI_1]
          exact r2 fuel2 (by omega)
      · obtain ⟨r', σ', τ', r1, r2, r3⟩ := ih (i + 1) (a + 1) σ1 τ1 fuel (by omega) (by omega) (Or.inr (by omega)) k3
        refine ⟨r', σ', τ', ?_, fun fuel2 hf2 => ?_, r3⟩
        · rw [if_neg g2]
          unfold f_X9_guardsBy_L132
          rw [jlet_s, jlet_s, jlet_s, show (4 : Int32) = nI 4 from rfl, nI_add, nI_1]
          exact r1
        · obtain ⟨fuel2, rfl⟩ : ∃ k, fuel2 = k + 1 := ⟨fuel2 - 1, by omega⟩
          rw [em2, if_neg g2]
          unfold f_X10_guardsBy_L161
          rw [jlet_s, jlet_s, nI_1]
          exact r2 fuel2 (by omega)
    · refine ⟨-12, σ, τ, ?_, fun fuel2 hf2 => ?_, hRel⟩
      · rw [ex, decide_eq_false g1, if_neg (show ¬ ¬ bI false = 0 by decide)]
      · obtain ⟨fuel2, rfl⟩ : ∃ k, fuel2 = k + 1 := ⟨fuel2 - 1, by omega⟩
        rw [em, if_neg (fun z => g1 (e4.mp z))]
theorem op_guardsBy : OP_guardsBy REL := by
  intro σx σm x1 x2 x3 x4 hRel
  obtain ⟨S, r, G, n, nT, Tx, hS, hX, hM, hC, hr, hR⟩ := id hRel
  unfold f_X9_guardsBy f_X10_guardsBy
  rcases wN x1 (m := 3) (by omega) with ⟨s, hs, rfl, e5⟩ | e5
  · rcases wN x2 (m := 2) (by omega) with ⟨so, hso, rfl, e6⟩ | e6
    · rcases wN x4 (m := 5) (by omega) with ⟨k, hk, rfl, e7⟩ | e7
      · obtain ⟨q1, ⟨z, hz, q2, q3⟩, q4⟩ := hR.2.2.2.1 s (by omega)
        simp (disch := omega) only [show f_X9_isSheet (nI s) = 1 from e5, show f_X10_in (nI s) 0 3 = 1 from e5, show f_X9_isWithin (nI so) 2 = 1 from e6, show f_X10_in (nI so) 0 2 = 1 from e6, show f_X9_isWithin (nI k) 5 = 1 from e7, show f_X10_in (nI k) 0 5 = 1 from e7, jlet_s, ifN1, ifN0, if10, if00, jix_t, nI_clamp, q1]
        by_cases h1 : gA σm 14 s = -1
        · rw [if_neg (fun q => q h1), if_neg (fun q => q h1)]
          exact ⟨_, _, _, rfl, rfl, hRel⟩
        rw [if_pos h1, if_pos h1]
        by_cases h2 : gA σm 14 s = nI so
        · rw [if_pos h2, if_pos h2]
          by_cases h3 : x3 < 0
          · rw [show FU = 4095 + 1 from rfl, ef_X9_guardsBy_L68, ef_X10_guardsBy_L63]
            by_cases h4 : nI k ≤ 0
            · rw [if_pos h4, if_pos h4]
              exact ⟨_, _, _, rfl, rfl, hRel⟩
            · rw [if_neg h4, if_neg h4, hasRoom_neg (Or.inl h3), jlet_s, ifN0, jlet_s, if_pos h3]
              exact ⟨_, _, _, rfl, rfl, hRel⟩
          · obtain ⟨f, hf, rfl⟩ := nI_of h3
            obtain ⟨r', σ', τ', r1, r2, r3⟩ := by_loop (s := s) (k := k) (by omega) hk hf k 0 0 σx σm FU (by omega) (by unfold FU; omega) (Or.inl rfl) hRel
            exact ⟨r', σ', τ', r1, r2 FU (by unfold FU; omega), r3⟩
        · rw [if_neg h2, if_neg h2]
          exact ⟨_, _, _, rfl, rfl, hRel⟩
      · simp only [show f_X9_isSheet (nI s) = 1 from e5, show f_X10_in (nI s) 0 3 = 1 from e5, show f_X9_isWithin (nI so) 2 = 1 from e6, show f_X10_in (nI so) 0 2 = 1 from e6, show f_X9_isWithin x4 5 = 0 from e7, show f_X10_in x4 0 5 = 0 from e7, jlet_s, ifN0, if10]
        exact ⟨_, _, _, rfl, rfl, hRel⟩
    · simp only [show f_X9_isSheet (nI s) = 1 from e5, show f_X10_in (nI s) 0 3 = 1 from e5, show f_X9_isWithin x2 2 = 0 from e6, show f_X10_in x2 0 2 = 0 from e6, jlet_s, if00, if10]
      exact ⟨_, _, _, rfl, rfl, hRel⟩
  · rw [show f_X9_isSheet x1 = 0 from e5, show f_X10_in x1 0 3 = 0 from e5]
    exact ⟨_, _, _, rfl, rfl, hRel⟩
/-! ===== a cell's film ===== -/
theorem xfilm {V : Nat → Int64} {s c : Nat} (hs : s < 4) (hc : c < 36) {σ : ST} (hV : ∀ t, t < 24 → gB σ 40 t = V t) (h0 : ∀ i, i < 40 → gA σ (54 + s) i = 0) : ∃ σ', f_X9_film_L40 FU (nI s) (nI c) 0 σ = some (24, σ') ∧ (∀ k, k ≠ 54 + s → gA σ' k = gA σ k) ∧ (∀ k, gB σ' k = gB σ k) ∧ ∀ i, i < 40 → gA σ' (54 + s) i = if i < 24 then bI (bit (V i) c) else 0 := by
  refine jloop (fun k i s' => f_X9_film_L40 k (nI s) (nI c) (nI i) s') 24 (fun i s' => (∀ k, k ≠ 54 + s → gA s' k = gA σ k) ∧ (∀ k, gB s' k = gB σ k) ∧ ∀ j, j < 40 → gA s' (54 + s) j = if j < i then bI (bit (V j) c) else 0) (fun r => ∃ σ', r = some (24, σ') ∧ (∀ k, k ≠ 54 + s → gA σ' k = gA σ k) ∧ (∀ k, gB σ' k = gB σ k) ∧ ∀ i, i < 40 → gA σ' (54 + s) i = if i < 24 then bI (bit (V i) c) else 0) ?_ ?_ FU 0 σ (by omega) (by unfold FU; omega) ⟨fun _ _ => rfl, fun _ => rfl, fun j hj => by rw [if_neg (Nat.not_lt_zero _)]; exact h0 j hj⟩
  · intro k i s' hi ⟨p1, p2, p3⟩
    refine Or.inr ⟨sA s' (54 + s) i (bI (bit (V i) c)), ⟨fun k hk => by rw [gA_sA_ne hk]; exact p1 k hk, fun k => p2 k, fun j hj => ?_⟩, ?_⟩
    · by_cases e : j = i
      · subst e
        rw [gA_sA_eq, if_pos (by omega)]
      · rw [gA_sA_nj e, p3 j hj]
        by_cases q : j < i
        · rw [if_pos q, if_pos (by omega)]
        · rw [if_neg q, if_neg (by omega)]
    · show f_X9_film_L40 (k + 1) (nI s) (nI c) (nI i) s' = _
      rw [ef_X9_film_L40, if_neg (nle24 hi), jix_t hs (by omega), jlet_s, nI_clamp (by omega), jix_t hi (by omega), nI_clamp (by omega), p2 40, hV i hi, isIn_b _ (by omega), jlet_s, show 9 + s + 45 = 54 + s by omega]
      unfold f_X9_film_L74
      simp (disch := omega) only [jlet_s, ifN1, ifN0, if10, if00, jix_t, nI_clamp, nI_1]
      cases bit (V i) c
      · rfl
      · rfl
  · intro k s' ⟨p1, p2, p3⟩
    refine ⟨s', ?_, p1, p2, p3⟩
    show f_X9_film_L40 (k + 1) (nI s) (nI c) (nI 24) s' = _
    rw [ef_X9_film_L40, if_pos (show (24 : Int32) ≤ nI 24 by decide)]
theorem mfilm {V : Nat → Int64} {s c : Nat} (hs : s < 4) {σ : ST} : ∃ σ', f_X10_film_L54 FU (nI s) (Zal V c 24) 0 σ = some (24, σ') ∧ (∀ k, k ≠ 16 → gA σ' k = gA σ k) ∧ (∀ k, gB σ' k = gB σ k) ∧ (∀ i, i < 40 → gA σ' 16 (40 * s + i) = if i < 24 then bI (bit (V i) c) else 0) ∧ ∀ j, (j < 40 * s ∨ 40 * s + 40 ≤ j) → gA σ' 16 j = gA σ 16 j := by
  refine jloop (fun k i s' => f_X10_film_L54 k (nI s) (Zal V c 24) (nI i) s') 40 (fun i s' => (∀ k, k ≠ 16 → gA s' k = gA σ k) ∧ (∀ k, gB s' k = gB σ k) ∧ (∀ j, j < i → gA s' 16 (40 * s + j) = if j < 24 then bI (bit (V j) c) else 0) ∧ ∀ j, (j < 40 * s ∨ 40 * s + 40 ≤ j) → gA s' 16 j = gA σ 16 j) (fun r => ∃ σ', r = some (24, σ') ∧ (∀ k, k ≠ 16 → gA σ' k = gA σ k) ∧ (∀ k, gB σ' k = gB σ k) ∧ (∀ i, i < 40 → gA σ' 16 (40 * s + i) = if i < 24 then bI (bit (V i) c) else 0) ∧ ∀ j, (j < 40 * s ∨ 40 * s + 40 ≤ j) → gA σ' 16 j = gA σ 16 j) ?_ ?_ FU 0 σ (by omega) (by unfold FU; omega) ⟨fun _ _ => rfl, fun _ => rfl, fun j hj => absurd hj (Nat.not_lt_zero _), fun _ _ => rfl⟩
  · intro k i s' hi ⟨p1, p2, p3, p4⟩
    refine Or.inr ⟨sA s' 16 (40 * s + i) (if i < 24 then bI (bit (V i) c) else 0), ⟨fun k hk => by rw [gA_sA_ne hk]; exact p1 k hk, fun k => p2 k, fun j hj => ?_, fun j hj => by rw [gA_sA_nj (by omega)]; exact p4 j hj⟩, ?_⟩
    · by_cases e : j = i
      · subst e
        rw [gA_sA_eq]
      · rw [gA_sA_nj (by omega)]
        exact p3 j (by omega)
    · show f_X10_film_L54 (k + 1) (nI s) (Zal V c 24) (nI i) s' = _
      rw [ef_X10_film_L54, if_neg (nle40 hi), show (40 : Int32) = nI 40 from rfl, pk_mul, nI_add]
      unfold f_X10_film_L91
      simp (disch := omega) only [jlet_s, ifN1, ifN0, if10, if00, jix_t, nI_clamp, nI_1]
      by_cases q : i < 24
      · have e : (1 : Int32) - (jshr (Zal V c 24) (nI i) &&& 1) = bI (bit (V i) c) := by
          rw [bt_sh1 _ (by omega), Zal_bt V c (by omega) 24 (by omega), decide_eq_true q, Bool.true_and]
          cases bit (V i) c <;> rfl
        rw [if_neg (nle24 q), e, if_pos q]
      · rw [if_pos (show (24 : Int32) ≤ nI i from nI_le (a := 24) (by omega) (by omega)), if_neg q]
  · intro k s' ⟨p1, p2, p3, p4⟩
    refine ⟨s', ?_, p1, p2, p3, p4⟩
    show f_X10_film_L54 (k + 1) (nI s) (Zal V c 24) (nI 40) s' = _
    rw [ef_X10_film_L54, if_pos (show (40 : Int32) ≤ nI 40 by decide)]
theorem op_film : OP_film REL := by
  intro σx σm x1 x2 hRel
  obtain ⟨S, r, G, n, nT, Tx, hS, hX, hM, hC, hr, hR⟩ := id hRel
  unfold f_X9_film f_X10_film
  rcases wN x1 (m := 3) (by omega) with ⟨s, hs, rfl, e5⟩ | e5
  · have hs4 : s < 4 := by omega
    rcases w35 x2 with ⟨c, hc, rfl, e1, e2⟩ | ⟨e1, e2⟩
    · obtain ⟨sx, sm, q1, -, q2, hX2, hM2, hst, hC2, hR2, hrow, hRel2⟩ := now hS hX hM hC hr hR
      obtain ⟨g1, g2⟩ := allG hM2.2.1 hM2.2.2.1
      obtain ⟨σ1, k1, k2, k3, k4, k5⟩ := xbecome hs4 2 24 sx
      obtain ⟨σ2, l1, l2, l3, l4⟩ := xfilm (V := VA S (Tx r) G n) hs4 hc (σ := σ1) (fun t ht => by rw [k2.2]; exact hC2.2 t ht) k5
      rw [show f_X9_isSheet (nI s) = 1 from e5, jlet_s, ifN1, e1, jlet_s, ifN1, q1, jb_s, jix_t hs4 (by omega), jlet_s, nI_clamp (by omega), k1, jb_s, l1]
      rw [show f_X10_in (nI s) 0 3 = 1 from e5, jlet_s, ifN1, e2, jlet_s, ifN1, q2, jb_s, g1, jlet_s, malone (fun _ => true) g2 hM2 hrow hc, jb_s, jix_t hs4 (by omega), jlet_s, jix_t hs4 (by omega), jlet_s]
      obtain ⟨τ, m1, m2, m3, m4, m5⟩ := mfilm (V := VA S (Tx r) G n) (c := c) hs4 (σ := sA (sA sm 14 s 2) 15 s 24)
      rw [m1]
      have fx : FS s sx σ2 := ⟨fun k h9 h54 => by rw [l2 k h54]; exact k2.1 k h9 h54, fun k => by rw [l3 k]; exact k2.2 k⟩
      have fm : FSm s sm τ := ⟨fun k h14 h15 h16 => by rw [m2 k h16, gA_sA_ne h15, gA_sA_ne h14], fun k => by rw [m3 k]; rfl, fun s' hs' => ⟨by rw [m2 14 (by omega), gA_sA_ne (by omega), gA_sA_nj hs'], by rw [m2 15 (by omega), gA_sA_nj hs', gA_sA_ne (by omega)]⟩, fun j hj => by rw [m5 j hj]; simp (disch := omega) only [gA_sA_ne, gA_sA_nj, gB_sA, gA_sB, gB_sB_ne, gA_rA_ne, gB_rA, gA_rB, gB_rB_ne]⟩
      refine ⟨_, σ2, τ, rfl, rfl, REL.sheet hS hX2 hM2 (fun _ => hC2) hr hR2 hs4 fx fm (hR2.2.2.2.1.upd hs4 fx fm ?_ ⟨24, by omega, ?_, ?_⟩ (fun i hi => ?_))⟩
      · rw [l2 _ (by omega), k3, m2 14 (by omega), gA_sA_ne (by omega), gA_sA_eq]
      · rw [l2 _ (by omega), k4]; rfl
      · rw [m2 15 (by omega), gA_sA_eq]; rfl
      · rw [l4 i hi, m4 i hi]
    · simp only [show f_X9_isSheet (nI s) = 1 from e5, show f_X10_in (nI s) 0 3 = 1 from e5, e1, e2, jlet_s, ifN1, ifN0]
      exact ⟨_, _, _, rfl, rfl, hRel⟩
  · rw [show f_X9_isSheet x1 = 0 from e5, show f_X10_in x1 0 3 = 0 from e5]
    exact ⟨_, _, _, rfl, rfl, hRel⟩
