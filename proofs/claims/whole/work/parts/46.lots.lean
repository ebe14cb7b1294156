/-! ===== rounds by lot ===== -/
def lot (s : Nat) : Nat → Nat
  | 0 => s + 1
  | g + 1 => lot s g * 48271 % 2147483647
theorem lot_lt {s : Nat} (hs : s < 200000) : ∀ g, lot s g < 2147483647
  | 0 => by unfold lot; omega
  | g + 1 => Nat.mod_lt _ (by decide)
theorem lot_n {s : Nat} (hs : s < 200000) (g : Nat) : jreml (lN (lot s g) * 48271) 2147483647 = lN (lot s (g + 1)) ∧ (jreml (lN (lot s (g + 1))) 24).toInt32 = nI (lot s (g + 1) % 24) := by
  have h1 := lot_lt hs g
  have h2 := lot_lt hs (g + 1)
  refine ⟨?_, ?_⟩
  · rw [show (48271 : Int64) = lN 48271 from rfl, lN_mul, show (2147483647 : Int64) = lN 2147483647 from rfl]
    exact pk_lRem (by omega) (by omega) (by omega)
  · have e : jreml (lN (lot s (g + 1))) 24 = lN (lot s (g + 1) % 24) := pk_lRem (b := 24) (by omega) (by omega) (by omega)
    rw [e, lN_i]
/-- the guards as the lots have them -/
def GL (G : Nat → Nat → Nat) (s : Nat) : Nat → Nat → Nat := fun g j => if j = 5 then lot s (g + 1) % 24 else G g j
theorem GL_set (G : Nat → Nat → Nat) (s g : Nat) : setA G g (lot s (g + 1) % 24) g = GL G s g := by
  funext j
  unfold setA GL
  by_cases h : j = 5
  · rw [if_pos ⟨rfl, h⟩, if_pos h]
  · rw [if_neg (fun q => h q.2), if_neg h]
theorem seed_n (s : Nat) (hs : s < 200000) : (nI s).toInt64 + 1 = lN (lot s 0) := by
  rw [nI_l (by omega), lN_1]
  rfl
theorem xsupLots {S : Nat → Int64} {r n s : Nat} {T : TT} {G : Nat → Nat → Nat} {σ : ST} (hX : VX S r T G n σ) (hs : s < 200000) : ∃ σ', f_X8_supposeLots (nI s) σ = some σ' ∧ Fr aS bF σ σ' ∧ ∀ t, t < 24 → gB σ' 41 t = ZV S T (GL G s) n (fun _ => true) t := by
  have hn := hX.2.2.1
  obtain ⟨s1, e1, f1, r1⟩ := xfill σ
  unfold f_X8_supposeLots
  rw [e1, jb_s, seed_n s hs, jlet_s]
  refine jloop (fun k i τ => f_X8_supposeLots_L16 k (lN (lot s i)) (nI i) τ) n (fun i τ => Fr aS bF σ τ ∧ ∀ t, t < 24 → gB τ 41 t = ZV S T (GL G s) i (fun _ => true) t) (fun q => ∃ σ', q = some σ' ∧ Fr aS bF σ σ' ∧ ∀ t, t < 24 → gB σ' 41 t = ZV S T (GL G s) n (fun _ => true) t) ?_ ?_ FU 0 s1 (by omega) (by unfold FU; omega) ⟨f1.O41, r1⟩
  · intro k i τ hi ⟨p1, p2⟩
    have hi5 : i < 5 := by omega
    have hv := hX.fr p1 okXX_S
    have ha : lot s (i + 1) % 24 < 24 := Nat.mod_lt _ (by decide)
    obtain ⟨l1, l2⟩ := lot_n hs i
    obtain ⟨s2, e2, f2, r2⟩ := xaddFound hi5 (hv.ahead hi5 ha)
    refine Or.inr ⟨sA s2 20 i (gA τ 20 i), ⟨p1.trans (fr_ahead f2 rfl), fun t ht => ?_⟩, ?_⟩
    · rw [gB_sA, r2 t ht, gB_sA, p2 t ht, GL_set]
      rfl
    · show f_X8_supposeLots_L16 (k + 1) (lN (lot s i)) (nI i) τ = _
      rw [ef_X8_supposeLots_L16, hv.2.1, if_neg (nI_ge hi (by omega)), l1, jlet_s, jix_t hi5 (by omega), nI_clamp (by omega), jlet_s, jix_t hi5 (by omega), l2, jlet_s, e2, jb_s, jix_t hi5 (by omega), jlet_s, jlet_s, nI_1]
  · intro k τ ⟨p1, p2⟩
    refine ⟨τ, ?_, p1, p2⟩
    show f_X8_supposeLots_L16 (k + 1) (lN (lot s n)) (nI n) τ = _
    rw [ef_X8_supposeLots_L16, (hX.fr p1 okXX_S).2.1, if_pos (Int32.le_refl _)]
def aK : Nat → Bool := fun k => k == 7 || k == 24
theorem mworstBy {S : Nat → Int64} {r n s : Nat} {T : TT} {G : Nat → Nat → Nat} {σ : ST} (hM : VM S r T G n σ) (hs : s < 200000) : ∃ σ', f_X10_worstBy (nI s) σ = some (nI (Zfg (ZV S T (GL G s) n (fun _ => true)) (S 0) 36).2.1, σ') ∧ FM aU bU σ σ' := by
  have hn := hM.2.2.1
  -- the way back
  have l71 : ∀ τ0 : ST, gA τ0 0 1 = nI n → (∀ g, g < n → gA τ0 24 g = gA σ 7 g) → (∀ g, n ≤ g → gA τ0 7 g = gA σ 7 g) → ∃ σ', f_X10_worstBy_L71 FU 0 τ0 = some (gA τ0 0 37, σ') ∧ (∀ k, k ≠ 7 → gA σ' k = gA τ0 k) ∧ (∀ k, gB σ' k = gB τ0 k) ∧ gA σ' 7 = gA σ 7 := by
    intro τ0 h1 h2 h3
    refine jloop (fun k i τ => f_X10_worstBy_L71 k (nI i) τ) n (fun i τ => (∀ k, k ≠ 7 → gA τ k = gA τ0 k) ∧ (∀ k, gB τ k = gB τ0 k) ∧ (∀ g, g < i → gA τ 7 g = gA σ 7 g) ∧ ∀ g, n ≤ g → gA τ 7 g = gA σ 7 g) (fun q => ∃ σ', q = some (gA τ0 0 37, σ') ∧ (∀ k, k ≠ 7 → gA σ' k = gA τ0 k) ∧ (∀ k, gB σ' k = gB τ0 k) ∧ gA σ' 7 = gA σ 7) ?_ ?_ FU 0 τ0 (by omega) (by unfold FU; omega) ⟨fun _ _ => rfl, fun _ => rfl, fun g h => absurd h (Nat.not_lt_zero _), h3⟩
    · intro k i τ hi ⟨p1, p2, p3, p4⟩
      refine Or.inr ⟨sA τ 7 i (gA τ 24 i), ⟨fun k hk => by rw [gA_sA_ne hk]; exact p1 k hk, fun k => p2 k, fun g hg => ?_, fun g hg => ?_⟩, ?_⟩
      · rw [gA_sA]
        split
        · rename_i q
          rw [q.2, p1 24 (by omega), h2 i hi]
        · exact p3 g (by omega)
      · rw [gA_sA, if_neg (by omega)]; exact p4 g hg
      · show f_X10_worstBy_L71 (k + 1) (nI i) τ = _
        rw [ef_X10_worstBy_L71, p1 0 (by omega), h1, if_neg (nI_ge hi (by omega)), jix_t (show i < 5 by omega) (by omega), jix_t (show i < 5 by omega) (by omega), nI_clamp (by omega), jlet_s, jlet_s, nI_1]
    · intro k τ ⟨p1, p2, p3, p4⟩
      refine ⟨τ, ?_, p1, p2, ?_⟩
      · show f_X10_worstBy_L71 (k + 1) (nI n) τ = _
        rw [ef_X10_worstBy_L71, p1 0 (by omega), h1, if_pos (Int32.le_refl _)]
      · funext g
        rcases Nat.lt_or_ge g n with q | q
        · exact p3 g q
        · exact p4 g q
  unfold f_X10_worstBy
  rw [seed_n s hs, jlet_s]
  refine jloop (fun k i τ => f_X10_worstBy_L8 k (lN (lot s i)) (nI i) τ) n (fun i τ => Fr aK bW σ τ ∧ (∀ g, g < i → gA τ 7 g = nI (lot s (g + 1) % 24) ∧ gA τ 24 g = gA σ 7 g) ∧ ∀ g, i ≤ g → gA τ 7 g = gA σ 7 g) (fun q => ∃ σ', q = some (nI (Zfg (ZV S T (GL G s) n (fun _ => true)) (S 0) 36).2.1, σ') ∧ FM aU bU σ σ') ?_ ?_ FU 0 σ (by omega) (by unfold FU; omega) ⟨Fr.rf, fun g h => absurd h (Nat.not_lt_zero _), fun _ _ => rfl⟩
  · intro k i τ hi ⟨p1, p2, p3⟩
    have hi5 : i < 5 := by omega
    obtain ⟨l1, l2⟩ := lot_n hs i
    refine Or.inr ⟨sA (sA τ 24 i (gA τ 7 i)) 7 i (nI (lot s (i + 1) % 24)), ⟨(p1.sA rfl (by omega)).sA rfl (by omega), fun g hg => ⟨?_, ?_⟩, fun g hg => ?_⟩, ?_⟩
    · rw [gA_sA]
      split
      · rename_i q
        rw [q.2]
      · rw [gA_sA, if_neg (by omega)]; exact (p2 g (by omega)).1
    · rw [gA_sA, if_neg (by omega), gA_sA]
      split
      · rename_i q
        rw [q.2, p3 i (Nat.le_refl _)]
      · exact (p2 g (by omega)).2
    · rw [gA_sA, if_neg (by omega), gA_sA, if_neg (by omega)]; exact p3 g (by omega)
    · show f_X10_worstBy_L8 (k + 1) (lN (lot s i)) (nI i) τ = _
      rw [ef_X10_worstBy_L8, p1.A rfl, hM.2.1, if_neg (nI_ge hi (by omega)), jix_t hi5 (by omega), jix_t hi5 (by omega), nI_clamp (by omega), jlet_s, l1, jlet_s, jix_t hi5 (by omega), l2, jlet_s, jlet_s, nI_1]
  · intro k τ ⟨p1, p2, p3⟩
    have hMτ : VM S r T (fun g => if g < n then GL G s g else G g) n τ := by
      obtain ⟨⟨s', q1, q2, q3, q4⟩, q6, q7, q8⟩ := hM
      refine ⟨⟨?_, by rw [p1.A rfl]; exact q1, q2, q3, ⟨fun i hi => ?_, fun p hp => ?_⟩⟩, by rw [p1.A rfl]; exact q6, q7, fun g hg => ?_⟩
      · rw [p1.B rfl, p1.B rfl, p1.B rfl]; exact s'
      · rw [p1.A rfl]; exact q4.1 i hi
      · rw [p1.A rfl]; exact q4.2 p hp
      · obtain ⟨⟨a0, a1, a2, a3, a4, a5⟩, h0, h1, h2, h3, h4, h5⟩ := q8 g hg
        by_cases q : g < n
        · refine ⟨?_, ?_⟩
          · unfold atM
            rw [p1.A rfl, p1.A rfl, p1.A rfl, p1.A rfl, p1.A rfl, (p2 g q).1]
            simp only [q, if_true, GL]
            exact ⟨a0, a1, a2, a3, a4, trivial⟩
          · unfold GW
            simp only [q, if_true, GL]
            exact ⟨h0, h1, h2, h3, h4, Nat.mod_lt _ (by decide)⟩
        · refine ⟨?_, ?_⟩
          · unfold atM
            rw [p1.A rfl, p1.A rfl, p1.A rfl, p1.A rfl, p1.A rfl, p3 g (by omega)]
            simp only [q, if_false]
            exact ⟨a0, a1, a2, a3, a4, a5⟩
          · unfold GW
            simp only [q, if_false]
            exact ⟨h0, h1, h2, h3, h4, h5⟩
    obtain ⟨t1, e1, f1, r1⟩ := mwatchesAll hMτ
    have hM1 := hMτ.fr f1 okMM_T
    obtain ⟨t2, e2, f2, m36, m37, m38⟩ := mfinds hM1 r1
    have hM2 := hM1.fm f2 rfl rfl rfl rfl rfl rfl rfl rfl rfl
    obtain ⟨σ', u1, u2, u3, u4⟩ := l71 t2 hM2.2.1 (fun g hg => by rw [f2.A rfl (by omega), f1.A rfl]; exact (p2 g hg).2) (fun g hg => by rw [f2.A rfl (by omega), f1.A rfl]; exact p3 g hg)
    have eV : ZV S T (fun g => if g < n then GL G s g else G g) n (fun _ => true) = ZV S T (GL G s) n (fun _ => true) := by
      funext t
      refine Zor_cong (fun _ _ => rfl) (fun g hg _ => ?_)
      simp only [hg, if_true]
    refine ⟨σ', ?_, fun k q q2 => ?_, fun k q => ?_, fun j hj => ?_⟩
    · show f_X10_worstBy_L8 (k + 1) (lN (lot s n)) (nI n) τ = _
      rw [ef_X10_worstBy_L8, p1.A rfl, hM.2.1, if_pos (Int32.le_refl _), e1, jb_s, e2, jb_s, u1, m37, eV]
    · by_cases h7 : k = 7
      · subst h7; exact u4
      · unfold aU at q
        simp at q
        rw [u2 k h7, f2.1 k rfl q2, f1.1 k (by unfold aN; simp; exact q.1), p1.1 k (by unfold aK; simp; exact ⟨h7, q.2⟩)]
    · unfold bU at q
      simp at q
      rw [u3 k, f2.2.1 k rfl, f1.2.1 k (by unfold bT; simp; exact q.1), p1.2.1 k rfl]
    · rw [u2 0 (by omega), f2.2.2 j hj, f1.A rfl, p1.A rfl]
theorem op_drawn : OP_drawn REL := by
  intro σx σm x1 hRel
  obtain ⟨S, r, G, n, nT, Tx, hS, hX, hM, hC, hr, hR⟩ := id hRel
  unfold f_X9_drawn f_X10_drawn f_X10_isSeed
  rcases wN x1 (m := 99999) (by omega) with ⟨s, hs, rfl, e5⟩ | e5
  · simp only [show f_X9_isWithin (nI s) 99999 = 1 from e5, show f_X10_in (nI s) 0 99999 = 1 from e5, jlet_s, ifN1, ifN0, if10, if00]
    obtain ⟨s1, e1, f1, r1⟩ := xsupLots hX (show s < 200000 by omega)
    have hX1 := hX.fr f1 okXX_S
    obtain ⟨s2, v1, v2, v3, -⟩ := xfloorGap (S := S) (V := ZV S (Tx r) (GL G s) n (fun _ => true)) (o := 41) rfl hX1.1.1.1 r1
    obtain ⟨t1, u1, u2⟩ := mworstBy hM (show s < 200000 by omega)
    rw [e1, jb_s, v1, jbp_s, u1, jbp_s]
    refine ⟨_, _, _, rfl, rfl, REL.q hS hX hM hr hR ((f1.mono (fun k q => by unfold aQ at q; unfold aS; simp at q ⊢; exact q.1) (fun k q => by unfold bQ at q; unfold bF; simp at q ⊢; omega)).trans v2.GQ) u2 (fun q => ?_)⟩
    rw [v2.A rfl, f1.A rfl] at q
    exact ((hC q).fr f1 hX.2.2.1 rfl (fun g hg => by unfold bF; simp; omega) rfl).fr v2 hX.2.2.1 rfl (fun g hg => by unfold bG; simp; omega) rfl
  · rw [show f_X9_isWithin x1 99999 = 0 from e5, show f_X10_in x1 0 99999 = 0 from e5]
    exact ⟨_, _, _, rfl, rfl, hRel⟩
