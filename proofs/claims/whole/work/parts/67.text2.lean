/-! ===== a text, from the tape ===== -/
theorem text_core {k nT : Nat} {f : Nat → Nat} {σ τ : ST} (hk : k ≤ 160) (hf : ∀ i, i < k → f i < 256) (hn : nT < 6) (hx : TP k f σ) (hm : TQ k f τ) (h12 : gA τ 0 12 = nI nT) : (∀ q, ZF (tt k f) (te k f) (cd k f) 1700 3 0 0 = some q → ∃ b σ' τ', b < 200 ∧ f_X4_read σ = some (nI b, σ') ∧ RX σ σ' ∧ f_X10_text τ = some (-100 - nI b, τ') ∧ EY nT τ τ' ∧ gA τ' 0 9 = 0 ∧ gA τ' 0 12 = nI nT) ∧ (ZF (tt k f) (te k f) (cd k f) 1700 3 0 0 = none → ∃ σ' τ' T, f_X4_read σ = some (-1, σ') ∧ RX σ σ' ∧ f_X10_text τ = some (nI nT, τ') ∧ EY nT τ τ' ∧ gA τ' 0 9 = 0 ∧ gA τ' 0 12 = nI (nT + 1) ∧ TW T ∧ (∀ i, i < T.2 2 → gA σ' 22 i = xC (T.1 i)) ∧ (∀ i, i < 3 → gA σ' 23 i = nI (T.2 i)) ∧ (∀ i, i < T.2 2 → gA τ' 9 (200 * nT + i) = nI (T.1 i)) ∧ ∀ i, i < 4 → gA τ' 10 (4 * nT + i) = nI (eb T.2 i)) := by
  have n0 : TP k f (sA (sA σ 3 4 0) 3 6 0) := ⟨by rw [gA_sA_nj (by omega), gA_sA_nj (by omega)]; exact hx.1, fun i hi => by rw [gA_sA_ne (by omega), gA_sA_ne (by omega)]; exact hx.2 i hi⟩
  obtain ⟨s1, e1, e2, e3⟩ := xnext hk hf n0 (Nat.zero_le k) (show gA (sA (sA σ 3 4 0) 3 6 0) 3 6 = nI 0 from gA_sA_eq)
  have hat : AT k f 0 [] s1 := ⟨n0.nx e2, e3, by rw [e2.2.2.2, gA_sA_nj (by omega), gA_sA_eq]; rfl, fun i hi => absurd hi (Nat.not_lt_zero _)⟩
  have rx1 : RX σ s1 := ⟨fun k a b c => by rw [e2.1 k a, gA_sA_ne a, gA_sA_ne a], fun k => by rw [e2.2.1]; rfl⟩
  have ex : f_X4_read σ = f_X4_read_L16 FU (nI 0) s1 := by
    unfold f_X4_read
    rw [jlet_s, jlet_s, e1, jb_s]
    rfl
  have ey : f_X10_text τ = f_X10_text_L26 FU 1 (nI 0) (sA (sA τ 0 24 0) 0 32 0) := by
    unfold f_X10_text
    rw [h12, if_pos (show ¬ nI nT = 6 from fun z => by have := (nI_eq (b := 6) (by omega) (by omega)).mp z; omega), jlet_s, jlet_s]
    rfl
  have ey1 : EY nT τ (sA (sA τ 0 24 0) 0 32 0) := ⟨fun i a b c => by rw [gA_sA_nj (by omega), gA_sA_nj (by omega)], fun k a b c d => by rw [gA_sA_ne a, gA_sA_ne a], fun k => rfl, fun i hi => by rw [gA_sA_ne (by omega), gA_sA_ne (by omega)], fun i hi => by rw [gA_sA_ne (by omega), gA_sA_ne (by omega)]⟩
  have my : MY k f nT [] (fun _ => 0) 0 0 (sA (sA τ 0 24 0) 0 32 0) := by
    refine ⟨⟨?_, fun i hi => ?_, hm.2.2.cg ?_⟩, ?_, ?_, gA_sA_eq, fun i hi => absurd hi (Nat.not_lt_zero _), fun i hi => absurd hi (Nat.not_lt_zero _)⟩
    · rw [gA_sA_nj (by omega), gA_sA_nj (by omega)]; exact hm.1
    · rw [gA_sA_ne (by omega), gA_sA_ne (by omega)]; exact hm.2.1 i hi
    · rw [gA_sA_ne (by omega), gA_sA_ne (by omega)]
    · rw [gA_sA_nj (by omega), gA_sA_nj (by omega)]; exact h12
    · rw [gA_sA_nj (by omega), gA_sA_eq]; rfl
  obtain ⟨i1, i2⟩ := text_loop (n := 1700) hk hf hn (Nat.le_refl _) 3 0 0 [] (fun _ => 0) s1 _ FU FU rfl (Nat.zero_le k) (Nat.zero_le _) hat (fun i hi => absurd hi (Nat.not_lt_zero _)) ⟨fun i hi => absurd hi (Nat.not_lt_zero _), rfl⟩ my (by unfold FU; omega) (by unfold FU; omega)
  rw [ex, ey]
  refine ⟨fun q hq => ?_, fun hq => ?_⟩
  · obtain ⟨u0, σ', τ', u1, u2, u3, u4, u5, u6⟩ := i1 q hq
    have := tb_b (f := f) u0
    exact ⟨tb k f q, σ', τ', by omega, u1, rx1.trans u2, u3, ey1.trans u4, u5, u6⟩
  · obtain ⟨σ', τ', T, u1, u2, u3, u4, u5⟩ := i2 hq
    exact ⟨σ', τ', T, u1, rx1.trans u2, u3, ey1.trans u4, u5⟩
theorem xadd_t {nT : Nat} {σ : ST} (h : gA σ 4 2 = nI nT) (hn : nT < 6) : ∃ σ', f_X6_add σ = some (nI nT, σ') ∧ (∀ k, k ≠ 4 → k ≠ 25 + nT → k ≠ 32 + nT → gA σ' k = gA σ k) ∧ (∀ j, j ≠ 2 → gA σ' 4 j = gA σ 4 j) ∧ (∀ k, gB σ' k = gB σ k) ∧ gA σ' 4 2 = nI (nT + 1) ∧ (∀ i, i < 160 → gA σ' (25 + nT) i = gA σ 22 i) ∧ ∀ i, i < 3 → gA σ' (32 + nT) i = gA σ 23 i := by
  have e6 : ∀ a b : Nat → Int32, gA (rA (rA σ (25 + nT) a) (32 + nT) b) 4 2 = nI nT := fun a b => by
    rw [gA_rA_ne (by omega), gA_rA_ne (by omega), h]
  unfold f_X6_add
  rw [h, if_pos (show nI nT < 6 from nI_lt (b := 6) hn (by decide)), jix_t hn (by omega), nI_clamp (by omega), jlet_s, jlet_s, gA_rA_ne (by omega), h, jix_t hn (by omega), nI_clamp (by omega), jlet_s, jlet_s, gA_rA_ne (by omega), gA_rA_ne (by omega), e6, jlet_s, nI_1]
  refine ⟨_, rfl, fun k h4 h25 h32 => ?_, fun j hj => ?_, fun k => rfl, gA_sA_eq, fun i hi => ?_, fun i hi => ?_⟩
  · rw [gA_sA_ne h4, gA_rA_ne h32, gA_rA_ne h25]
  · rw [gA_sA_nj hj, gA_rA_ne (by omega), gA_rA_ne (by omega)]
  · rw [gA_sA_ne (by omega), gA_rA_ne (by omega), gA_rA, show Int32.toNatClampNeg 0 = 0 from rfl, show Int32.toNatClampNeg 160 = 160 from rfl, pk_cpy_in (Nat.zero_le _) (by omega), Nat.zero_add, Nat.sub_zero]
  · rw [gA_sA_ne (by omega), gA_rA, show Int32.toNatClampNeg 0 = 0 from rfl, show Int32.toNatClampNeg 3 = 3 from rfl, pk_cpy_in (Nat.zero_le _) (by omega), Nat.zero_add, Nat.sub_zero]
/-- the two of them after a text -/
theorem REL.text {S : Nat → Int64} {r n nT : Nat} {G : Nat → Nat → Nat} {Tx : Nat → TT} {σx σm σ' τ' : ST} (hS : WS36 S) (hX : VX S r (Tx r) G n σx) (hM : VM S r (Tx r) G n σm) (hC : gA σx 5 3 = 0 → CX S (Tx r) G n σx) (hr : r < nT) (hR : rest nT Tx σx σm) (hn : nT < 6)
    (fx : ∀ k, k ≠ 3 → k ≠ 22 → k ≠ 23 → k ≠ 4 → k ≠ 25 + nT → k ≠ 32 + nT → gA σ' k = gA σx k) (f4 : gA σ' 4 3 = gA σx 4 3) (fb : ∀ k, gB σ' k = gB σx k) (f31 : gA σ' 3 1 = 0) (fm : EY nT σm τ') (m9 : gA τ' 0 9 = 0)
    (hT : (gA σ' 4 2 = nI nT ∧ gA τ' 0 12 = nI nT) ∨ ∃ T, TW T ∧ txX σ' nT T ∧ txM τ' nT T ∧ gA σ' 4 2 = nI (nT + 1) ∧ gA τ' 0 12 = nI (nT + 1)) : REL σ' τ' := by
  obtain ⟨rt, rp, ri, rs, rw'⟩ := hR
  obtain ⟨t1, t2, t3, t4⟩ := rt
  have zx : ∀ k, k ≠ 3 ∧ k ≠ 22 ∧ k ≠ 23 ∧ k ≠ 4 ∧ (k < 25 ∨ 38 ≤ k) → gA σ' k = gA σx k := fun k h => fx k (by omega) (by omega) (by omega) (by omega) (by omega) (by omega)
  have zm : ∀ k, k ≠ 0 ∧ k ≠ 9 ∧ k ≠ 10 ∧ k ≠ 19 → gA τ' k = gA σm k := fun k h => fm.2.1 k h.1 h.2.1 h.2.2.1 h.2.2.2
  -- what stands of the texts ahead
  have old : ∀ t, t < nT → TW (Tx t) ∧ txX σ' t (Tx t) ∧ txM τ' t (Tx t) := fun t ht => by
    obtain ⟨w1, w2, w3⟩ := t4 t ht
    have h160 := w1.1
    refine ⟨w1, ⟨fun i hi => ?_, fun p hp => ?_⟩, ⟨fun i hi => ?_, fun p hp => ?_⟩⟩
    · rw [fx (25 + t) (by omega) (by omega) (by omega) (by omega) (by omega) (by omega)]; exact w2.1 i hi
    · rw [fx (32 + t) (by omega) (by omega) (by omega) (by omega) (by omega) (by omega)]; exact w2.2 p hp
    · rw [fm.2.2.2.1 (200 * t + i) (by omega)]; exact w3.1 i hi
    · rw [fm.2.2.2.2 (4 * t + p) (by omega)]; exact w3.2 p hp
  have X' : VX S r (Tx r) G n σ' := by
    obtain ⟨⟨⟨s0, s1, s2⟩, q1, q2, q3, q4⟩, q6, q7, q8⟩ := hX
    refine ⟨⟨⟨by rw [fb]; exact s0, by rw [fb]; exact s1, by rw [fb]; exact s2⟩, by rw [f4]; exact q1, q2, q3, (old r hr).2.1⟩, by rw [zx 2 (by omega)]; exact q6, q7, fun g hg => ⟨?_, (q8 g hg).2⟩⟩
    unfold atX
    rw [zx 15 (by omega), zx 16 (by omega), zx 17 (by omega), zx 18 (by omega), zx 19 (by omega), zx 20 (by omega)]
    exact (q8 g hg).1
  have M' : VM S r (Tx r) G n τ' := by
    obtain ⟨⟨⟨s0, s1, s2⟩, q1, q2, q3, q4⟩, q6, q7, q8⟩ := hM
    refine ⟨⟨⟨by rw [fm.2.2.1]; exact s0, by rw [fm.2.2.1]; exact s1, by rw [fm.2.2.1]; exact s2⟩, by rw [fm.1 13 (by omega) (by omega) (by omega)]; exact q1, q2, q3, (old r hr).2.2⟩, by rw [fm.1 1 (by omega) (by omega) (by omega)]; exact q6, q7, fun g hg => ⟨?_, (q8 g hg).2⟩⟩
    unfold atM
    rw [zm 2 (by omega), zm 3 (by omega), zm 4 (by omega), zm 5 (by omega), zm 6 (by omega), zm 7 (by omega)]
    exact (q8 g hg).1
  have C' : gA σ' 5 3 = 0 → CX S (Tx r) G n σ' := fun q => by
    rw [zx 5 (by omega)] at q
    exact (hC q).cg (fb 40) (fun g _ => fb (43 + g)) (fb 48) hX.2.2.1
  have P' : RP σ' τ' := ⟨0, by omega, f31, m9, fun i hi => absurd hi (Nat.not_lt_zero _)⟩
  have I' : RI nT σ' τ' := ri.cg (zx 8 (by omega)) (zx 52 (by omega)) (zx 53 (by omega)) (fb 51) (fm.1 14 (by omega) (by omega) (by omega)) (fm.1 15 (by omega) (by omega) (by omega)) (fm.1 16 (by omega) (by omega) (by omega)) (zm 12 (by omega)) (zm 13 (by omega)) (fm.2.2.1 11)
  have S' : RS σ' τ' := rs.cg (fun s hs => ⟨zx _ (by omega), zx _ (by omega)⟩) (zm 14 (by omega)) (zm 15 (by omega)) (zm 16 (by omega))
  have W' : RW τ' := rw'.cg (zm 18 (by omega))
  rcases hT with ⟨h1, h2⟩ | ⟨T, h1, h2, h3, h4, h5⟩
  · exact ⟨S, r, G, n, nT, Tx, hS, X', M', C', hr, ⟨t1, h1, h2, old⟩, P', I', S', W'⟩
  · have er : (fun t => if t = nT then T else Tx t) r = Tx r := if_neg (by omega)
    refine ⟨S, r, G, n, nT + 1, fun t => if t = nT then T else Tx t, hS, by rw [er]; exact X', by rw [er]; exact M', by rw [er]; exact C', by omega, ⟨by omega, h4, h5, fun t ht => ?_⟩, P', I'.nT (by omega), S', W'⟩
    by_cases e : t = nT
    · subst e
      dsimp only
      rw [if_pos rfl]
      exact ⟨h1, h2, h3⟩
    · dsimp only
      rw [if_neg e]
      exact old t (by omega)
theorem minus_ne {b : Nat} (h : b < 200) : ¬ nI b = -1 := nI_ne_m1 b h
theorem op_text : OP_text REL := by
  intro σx σm hRel
  obtain ⟨S, r, G, n, nT, Tx, hS, hX, hM, hC, hr, hR⟩ := id hRel
  obtain ⟨rt, ⟨k, p1, p2, p3, p4⟩, ri, rs, rw'⟩ := id hR
  obtain ⟨t1, t2, t3, t4⟩ := rt
  have hf : ∀ i, i < k → (fun i => (gA σx 21 i).toNatClampNeg) i < 256 := fun i hi => by
    obtain ⟨v, v1, v2, v3⟩ := p4 i hi
    show (gA σx 21 i).toNatClampNeg < 256
    rw [v2, nI_clamp (by omega)]; exact v1
  have hx : TP k (fun i => (gA σx 21 i).toNatClampNeg) σx := ⟨p2, fun i hi => by
    obtain ⟨v, v1, v2, v3⟩ := p4 i hi
    show gA σx 21 i = nI (gA σx 21 i).toNatClampNeg
    rw [v2, nI_clamp (by omega)]⟩
  have hm : TQ k (fun i => (gA σx 21 i).toNatClampNeg) σm := ⟨p3, fun i hi => by
    obtain ⟨v, v1, v2, v3⟩ := p4 i hi
    show gA σm 8 i = nI (gA σx 21 i).toNatClampNeg
    rw [v2, nI_clamp (by omega), v3], rw'⟩
  generalize (fun i => (gA σx 21 i).toNatClampNeg) = f at hf hx hm
  rcases (show nT < 6 ∨ nT = 6 by omega) with hn | hn
  · obtain ⟨c1, c2⟩ := text_core p1 hf hn hx hm t3
    unfold f_X9_text
    rw [t2, if_pos (show nI nT < 6 from nI_lt (b := 6) hn (by decide))]
    cases hz : ZF (tt k f) (te k f) (cd k f) 1700 3 0 0 with
    | some q =>
      obtain ⟨b, σ', τ', b0, u1, u2, u3, u4, u5, u6⟩ := c1 q hz
      rw [u1, u3, jbp_s, jlet_s, if_pos (minus_ne b0)]
      refine ⟨_, sA σ' 3 1 0, τ', rfl, rfl, REL.text hS hX hM hC hr hR hn (fun k a b c d e g => by rw [gA_sA_ne a, u2.1 k a b c]) (by rw [gA_sA_ne (by omega), u2.1 4 (by omega) (by omega) (by omega)]) (fun k => by rw [gB_sA, u2.2]) gA_sA_eq u4 u5 (Or.inl ⟨?_, u6⟩)⟩
      rw [gA_sA_ne (by omega), u2.1 4 (by omega) (by omega) (by omega)]
      exact t2
    | none =>
      obtain ⟨σ', τ', T, u1, u2, u3, u4, u5, u6, u7, u8, u9, u10, u11⟩ := c2 hz
      obtain ⟨σ2, a1, a2, a3, a4, a5, a6, a7⟩ := xadd_t (σ := sA σ' 3 1 0) (nT := nT) (by rw [gA_sA_ne (by omega), u2.1 4 (by omega) (by omega) (by omega)]; exact t2) hn
      have h160 := u7.1
      rw [u1, u3, jbp_s, jlet_s, if_neg (show ¬ ¬ (-1 : Int32) = -1 by decide), a1, jbp_s]
      refine ⟨_, σ2, τ', rfl, rfl, REL.text hS hX hM hC hr hR hn (fun k b c d e g h => by rw [a2 k e g h, gA_sA_ne b, u2.1 k b c d]) (by rw [a3 3 (by omega), gA_sA_ne (by omega), u2.1 4 (by omega) (by omega) (by omega)]) (fun k => by rw [a4, gB_sA, u2.2]) (by rw [a2 3 (by omega) (by omega) (by omega), gA_sA_eq]) u4 u5 (Or.inr ⟨T, u7, ⟨fun i hi => ?_, fun p hp => ?_⟩, ⟨u10, u11⟩, a5, u6⟩)⟩
      · rw [a6 i (by omega), gA_sA_ne (by omega)]; exact u8 i hi
      · rw [a7 p hp, gA_sA_ne (by omega)]; exact u9 p hp
  · subst hn
    unfold f_X9_text f_X10_text
    rw [t2, t3, if_neg (show ¬ nI 6 < 6 by decide), if_neg (show ¬ ¬ nI 6 = 6 by decide)]
    exact ⟨_, _, _, rfl, rfl, hRel⟩
/-! ===== at first ===== -/
def f0 (i : Nat) : Nat := (li_1.getD i 0).toNatClampNeg
theorem f0_t : ∀ i, i < 41 → li_1.getD i 0 = nI (f0 i) ∧ f0 i < 256 ∧ jsch 0 (nI i) = some (nI (f0 i)) := by decide +kernel
theorem f0_ok : ZF (tt 41 f0) (te 41 f0) (cd 41 f0) 1700 3 0 0 = none := by decide +kernel
theorem xinit : ∃ s, f_X9_init σZX = jbp (f_X4_read s) (fun (y3 : Int32) (s4 : ST) => jlet (sA s4 3 1 (0 : Int32)) (fun (s5 : ST) => jbp (f_X6_add s5) (fun (y6 : Int32) (s7 : ST) => some s7))) ∧ TP 41 f0 s ∧ (∀ k, k ≠ 3 → k ≠ 21 → gA s k = gA σZX k) ∧ ∀ k, gB s k = gB σZX k := by
  unfold f_X9_init
  refine jloop (fun n i s => f_X9_init_L140 n (nI i) s) 41 (fun i s => gA s 3 1 = nI i ∧ (∀ j, j < i → gA s 21 j = nI (f0 j)) ∧ (∀ k, k ≠ 3 → k ≠ 21 → gA s k = gA σZX k) ∧ ∀ k, gB s k = gB σZX k) (fun r => ∃ s, r = jbp (f_X4_read s) (fun (y3 : Int32) (s4 : ST) => jlet (sA s4 3 1 (0 : Int32)) (fun (s5 : ST) => jbp (f_X6_add s5) (fun (y6 : Int32) (s7 : ST) => some s7))) ∧ TP 41 f0 s ∧ (∀ k, k ≠ 3 → k ≠ 21 → gA s k = gA σZX k) ∧ ∀ k, gB s k = gB σZX k) ?_ ?_ FU 0 σZX (by omega) (by unfold FU; omega) ⟨rfl, fun j hj => absurd hj (Nat.not_lt_zero _), fun _ _ _ => rfl, fun _ => rfl⟩
  · intro n i s hi ⟨p1, p2, p3, p4⟩
    refine Or.inr ⟨sA (sA s 3 1 (nI (i + 1))) 21 i (nI (f0 i)), ⟨by rw [gA_sA_ne (by omega), gA_sA_eq], fun j hj => ?_, fun k a b => by rw [gA_sA_ne b, gA_sA_ne a]; exact p3 k a b, fun k => p4 k⟩, ?_⟩
    · by_cases e : j = i
      · subst e
        rw [gA_sA_eq]
      · rw [gA_sA_nj e, gA_sA_ne (by omega)]
        exact p2 j (by omega)
    · show f_X9_init_L140 (n + 1) (nI i) s = _
      rw [ef_X9_init_L140, show jslen 0 = nI 41 from rfl, jlet_s, if_neg (nI_ge hi (by omega)), (f0_t i hi).2.2, jb_s, xadd p1 (by omega), jb_s, jlet_s, nI_1]
  · intro n s ⟨p1, p2, p3, p4⟩
    refine ⟨s, ?_, ⟨p1, p2⟩, p3, p4⟩
    show f_X9_init_L140 (n + 1) (nI 41) s = _
    rw [ef_X9_init_L140, show jslen 0 = nI 41 from rfl, jlet_s, if_pos (Int32.le_refl _)]
theorem minit : ∃ s, f_X10_init σZM = jbp (f_X10_text s) (fun (y2 : Int32) (s3 : ST) => some s3) ∧ (gA s 0 9 = nI 41 ∧ ∀ i, i < 41 → gA s 8 i = nI (f0 i)) ∧ (∀ k, k ≠ 0 → k ≠ 8 → gA s k = gA σZM k) ∧ (∀ j, j ≠ 9 → gA s 0 j = gA σZM 0 j) ∧ ∀ k, gB s k = gB σZM k := by
  unfold f_X10_init
  refine jloop (fun n i s => f_X10_init_L1016 n (nI i) s) 41 (fun i s => (∀ j, j < i → gA s 8 j = nI (f0 j)) ∧ (∀ k, k ≠ 8 → gA s k = gA σZM k) ∧ ∀ k, gB s k = gB σZM k) (fun r => ∃ s, r = jbp (f_X10_text s) (fun (y2 : Int32) (s3 : ST) => some s3) ∧ (gA s 0 9 = nI 41 ∧ ∀ i, i < 41 → gA s 8 i = nI (f0 i)) ∧ (∀ k, k ≠ 0 → k ≠ 8 → gA s k = gA σZM k) ∧ (∀ j, j ≠ 9 → gA s 0 j = gA σZM 0 j) ∧ ∀ k, gB s k = gB σZM k) ?_ ?_ FU 0 σZM (by omega) (by unfold FU; omega) ⟨fun j hj => absurd hj (Nat.not_lt_zero _), fun _ _ => rfl, fun _ => rfl⟩
  · intro n i s hi ⟨p1, p2, p3⟩
    refine Or.inr ⟨sA s 8 i (nI (f0 i)), ⟨fun j hj => ?_, fun k a => by rw [gA_sA_ne a]; exact p2 k a, fun k => p3 k⟩, ?_⟩
    · by_cases e : j = i
      · subst e
        rw [gA_sA_eq]
      · rw [gA_sA_nj e]
        exact p1 j (by omega)
    · show f_X10_init_L1016 (n + 1) (nI i) s = _
      have e17 : gA s 17 i = nI (f0 i) := by
        rw [p2 17 (by omega), ← (f0_t i hi).1]
        show lfn li_1 41 i = _
        unfold lfn
        rw [if_pos hi]
      rw [ef_X10_init_L1016, if_neg (nle41 hi), jix_t hi (by omega), jix_t (show i < 160 by omega) (by omega), nI_clamp (by omega), e17, jlet_s, jlet_s, nI_1]
  · intro n s ⟨p1, p2, p3⟩
    refine ⟨sA s 0 9 41, ?_, ⟨gA_sA_eq, fun i hi => by rw [gA_sA_ne (by omega)]; exact p1 i hi⟩, fun k a b => by rw [gA_sA_ne a]; exact p2 k b, fun j hj => by rw [gA_sA_nj hj, p2 0 (by omega)], fun k => p3 k⟩
    show f_X10_init_L1016 (n + 1) (nI 41) s = _
    rw [ef_X10_init_L1016, if_pos (show (41 : Int32) ≤ nI 41 by decide), jlet_s]
theorem rel_init : ∃ σx σm : ST, f_X9_init σZX = some σx ∧ f_X10_init σZM = some σm ∧ REL σx σm := by
  obtain ⟨sx, x1, x2, x3, x4⟩ := xinit
  obtain ⟨sm, m1, m2, m3, m4, m5⟩ := minit
  have hw : RW sm := fun i hi => by
    rw [m3 18 (by omega) (by omega)]
    show lfn li_2 96 i = _
    unfold lfn
    rw [if_pos hi]
  obtain ⟨σ', τ', T, u1, u2, u3, u4, u5, u6, u7, u8, u9, u10, u11⟩ := (text_core (k := 41) (nT := 0) (by omega) (fun i hi => (f0_t i hi).2.1) (by omega) x2 ⟨m2.1, m2.2, hw⟩ (by rw [m4 12 (by omega)]; rfl)).2 f0_ok
  have e4 : gA (sA σ' 3 1 0) 4 2 = nI 0 := by rw [gA_sA_ne (by omega), u2.1 4 (by omega) (by omega) (by omega), x3 4 (by omega) (by omega)]; rfl
  obtain ⟨σ2, a1, a2, a3, a4, a5, a6, a7⟩ := xadd_t e4 (by omega)
  have h160 := u7.1
  have zx : ∀ k, k ≠ 3 ∧ k ≠ 4 ∧ k ≠ 21 ∧ k ≠ 22 ∧ k ≠ 23 ∧ k ≠ 25 ∧ k ≠ 32 → gA σ2 k = gA σZX k := fun k h => by
    rw [a2 k (by omega) (by omega) (by omega), gA_sA_ne (by omega), u2.1 k (by omega) (by omega) (by omega), x3 k (by omega) (by omega)]
  have zb : ∀ k, gB σ2 k = gB σZX k := fun k => by rw [a4, gB_sA, u2.2, x4]
  have zm : ∀ k, k ≠ 0 ∧ k ≠ 8 ∧ k ≠ 9 ∧ k ≠ 10 ∧ k ≠ 19 → gA τ' k = gA σZM k := fun k h => by
    rw [u4.2.1 k (by omega) (by omega) (by omega) (by omega), m3 k (by omega) (by omega)]
  have z0 : ∀ j, j < 24 → j ≠ 9 → j ≠ 12 → gA τ' 0 j = 0 := fun j h1 h2 h3 => by
    rw [u4.1 j h1 h2 h3, m4 j h2]; rfl
  have zc : ∀ k, gB τ' k = gB σZM k := fun k => by rw [u4.2.2.1, m5]
  have tX : txX σ2 0 T := ⟨fun i hi => by rw [a6 i (by omega), gA_sA_ne (by omega)]; exact u8 i hi, fun p hp => by rw [a7 p hp, gA_sA_ne (by omega)]; exact u9 p hp⟩
  have tM : txM τ' 0 T := ⟨u10, u11⟩
  have gw : GW (fun _ => 0) := ⟨by decide, by decide, by decide, by decide, by decide, by decide⟩
  refine ⟨σ2, τ', ?_, ?_, fun _ => 0, 0, fun _ _ => 0, 0, 1, fun _ => T, fun i _ b _ => bit_0 b, ⟨⟨⟨?_, ?_, ?_⟩, ?_, by omega, u7, tX⟩, ?_, by omega, fun g hg => ⟨?_, gw⟩⟩, ⟨⟨⟨?_, ?_, ?_⟩, ?_, by omega, u7, tM⟩, ?_, by omega, fun g hg => ⟨?_, gw⟩⟩, fun q => ?_, by omega, ⟨by omega, a5, u6, fun t ht => ?_⟩, ⟨0, by omega, ?_, u5, fun i hi => absurd hi (Nat.not_lt_zero _)⟩, ⟨?_, fun q => ?_⟩, fun s hs => ⟨?_, ⟨0, by omega, ?_, ?_⟩, fun i hi => ?_⟩, fun i hi => ?_⟩
  · rw [x1, u1, jbp_s, jlet_s, a1, jbp_s]
  · rw [m1, u3, jbp_s]
  · rw [zb]; rfl
  · rw [zb]; rfl
  · rw [zb]; rfl
  · rw [a3 3 (by omega), gA_sA_ne (by omega), u2.1 4 (by omega) (by omega) (by omega), x3 4 (by omega) (by omega)]; rfl
  · rw [zx 2 (by omega)]; rfl
  · unfold atX
    rw [zx 15 (by omega), zx 16 (by omega), zx 17 (by omega), zx 18 (by omega), zx 19 (by omega), zx 20 (by omega)]
    exact ⟨rfl, rfl, rfl, rfl, rfl, rfl⟩
  · rw [zc]; rfl
  · rw [zc]; rfl
  · rw [zc]; rfl
  · rw [z0 13 (by omega) (by omega) (by omega)]; rfl
  · rw [z0 1 (by omega) (by omega) (by omega)]; rfl
  · unfold atM
    rw [zm 2 (by omega), zm 3 (by omega), zm 4 (by omega), zm 5 (by omega), zm 6 (by omega), zm 7 (by omega)]
    exact ⟨rfl, rfl, rfl, rfl, rfl, rfl⟩
  · rw [zx 5 (by omega)] at q
    exact absurd q (by decide)
  · have : t = 0 := by omega
    subst this
    exact ⟨u7, tX, tM⟩
  · rw [a2 3 (by omega) (by omega) (by omega), gA_sA_eq]; rfl
  · rw [zx 8 (by omega), z0 14 (by omega) (by omega) (by omega)]; rfl
  · exact absurd (z0 14 (by omega) (by omega) (by omega)) q
  · rw [zx (9 + s) (by omega), zm 14 (by omega)]
    rcases (show s = 0 ∨ s = 1 ∨ s = 2 ∨ s = 3 by omega) with rfl | rfl | rfl | rfl <;> rfl
  · rw [zx (9 + s) (by omega)]
    rcases (show s = 0 ∨ s = 1 ∨ s = 2 ∨ s = 3 by omega) with rfl | rfl | rfl | rfl <;> rfl
  · rw [zm 15 (by omega)]; rfl
  · rw [zx (54 + s) (by omega), zm 16 (by omega)]
    rcases (show s = 0 ∨ s = 1 ∨ s = 2 ∨ s = 3 by omega) with rfl | rfl | rfl | rfl <;> rfl
  · rw [zm 18 (by omega)]
    show lfn li_2 96 i = _
    unfold lfn
    rw [if_pos hi]
