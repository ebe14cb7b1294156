/-! ===== how the two states stand to each other ===== -/
def FM (a b : Nat → Bool) (σ σ' : ST) : Prop := (∀ k, a k = false → k ≠ 0 → gA σ' k = gA σ k) ∧ (∀ k, b k = false → gB σ' k = gB σ k) ∧ ∀ j, j < 24 → gA σ' 0 j = gA σ 0 j
theorem FM.rf {a b : Nat → Bool} {σ : ST} : FM a b σ σ := ⟨fun _ _ _ => rfl, fun _ _ => rfl, fun _ _ => rfl⟩
theorem FM.trans {a b : Nat → Bool} {σ σ' σ'' : ST} (h : FM a b σ σ') (h2 : FM a b σ' σ'') : FM a b σ σ'' := ⟨fun k q q2 => (h2.1 k q q2).trans (h.1 k q q2), fun k q => (h2.2.1 k q).trans (h.2.1 k q), fun j q => (h2.2.2 j q).trans (h.2.2 j q)⟩
theorem FM.mono {a b a' b' : Nat → Bool} {σ σ' : ST} (h : FM a b σ σ') (ha : ∀ k, a' k = false → a k = false) (hb : ∀ k, b' k = false → b k = false) : FM a' b' σ σ' := ⟨fun k q => h.1 k (ha k q), fun k q => h.2.1 k (hb k q), h.2.2⟩
theorem Fr.toM {a b : Nat → Bool} {σ σ' : ST} (h : Fr a b σ σ') (h0 : a 0 = false) : FM a b σ σ' := ⟨fun k q _ => h.1 k q, h.2.1, fun j _ => by rw [h.1 0 h0]⟩
theorem FM.A {a b : Nat → Bool} {σ σ' : ST} (h : FM a b σ σ') {k : Nat} (hk : a k = false) (h0 : k ≠ 0) (j : Nat) : gA σ' k j = gA σ k j := by rw [h.1 k hk h0]
theorem FM.B {a b : Nat → Bool} {σ σ' : ST} (h : FM a b σ σ') {k : Nat} (hk : b k = false) (j : Nat) : gB σ' k j = gB σ k j := by rw [h.2.1 k hk]
theorem FM.sA0 {a b : Nat → Bool} {σ σ' : ST} {j : Nat} {v : Int32} (h : FM a b σ σ') (hj : 24 ≤ j) : FM a b σ (sA σ' 0 j v) := ⟨fun k q q2 => by
  rw [gA_sA_ne q2]; exact h.1 k q q2, fun k q => h.2.1 k q, fun i hi => by
  rw [gA_sA, if_neg (by omega)]; exact h.2.2 i hi⟩
theorem FM.sA {a b : Nat → Bool} {σ σ' : ST} {k j : Nat} {v : Int32} (h : FM a b σ σ') (hk : a k = true) (h0 : k ≠ 0) : FM a b σ (sA σ' k j v) := ⟨fun i q q2 => by
  have e : i ≠ k := fun e => by rw [e, hk] at q; cases q
  rw [gA_sA_ne e]; exact h.1 i q q2, fun i q => h.2.1 i q, fun i hi => by
  rw [gA_sA, if_neg (by omega)]; exact h.2.2 i hi⟩
theorem FM.sB {a b : Nat → Bool} {σ σ' : ST} {k j : Nat} {v : Int64} (h : FM a b σ σ') (hk : b k = true) : FM a b σ (sB σ' k j v) := ⟨fun i q q2 => h.1 i q q2, fun i q => by
  have e : i ≠ k := fun e => by rw [e, hk] at q; cases q
  rw [gB_sB_ne e]; exact h.2.1 i q, h.2.2⟩
theorem VM.fm {a b : Nat → Bool} {S : Nat → Int64} {r n : Nat} {T : TT} {G : Nat → Nat → Nat} {σ σ' : ST} (h : VM S r T G n σ) (f : FM a b σ σ') (o1 : a 9 = false) (o2 : a 10 = false) (o3 : b 1 = false) (h2 : a 2 = false) (h3 : a 3 = false) (h4 : a 4 = false) (h5 : a 5 = false) (h6 : a 6 = false) (h7 : a 7 = false) : VM S r T G n σ' := by
  obtain ⟨⟨⟨s0, s1, s2⟩, q1, q2, q3, q4, q5⟩, q6, q7, q8⟩ := h
  refine ⟨⟨⟨?_, ?_, ?_⟩, ?_, q2, q3, fun i hi => ?_, fun p hp => ?_⟩, ?_, q7, fun g hg => ⟨?_, (q8 g hg).2⟩⟩
  · rw [f.B o3]; exact s0
  · rw [f.B o3]; exact s1
  · rw [f.B o3]; exact s2
  · rw [f.2.2 13 (by omega)]; exact q1
  · rw [f.A o1 (by omega)]; exact q4 i hi
  · rw [f.A o2 (by omega)]; exact q5 p hp
  · rw [f.2.2 1 (by omega)]; exact q6
  · unfold atM
    rw [f.A h2 (by omega), f.A h3 (by omega), f.A h4 (by omega), f.A h5 (by omega), f.A h6 (by omega), f.A h7 (by omega)]
    exact (q8 g hg).1
def WS36 (S : Nat → Int64) : Prop := ∀ i, i < 3 → ∀ b, 36 ≤ b → bit (S i) b = false
def RT (nT : Nat) (Tx : Nat → TT) (σx σm : ST) : Prop := nT ≤ 6 ∧ gA σx 4 2 = nI nT ∧ gA σm 0 12 = nI nT ∧ ∀ t, t < nT → TW (Tx t) ∧ txX σx t (Tx t) ∧ txM σm t (Tx t)
def RP (σx σm : ST) : Prop := ∃ k, k ≤ 160 ∧ gA σx 3 1 = nI k ∧ gA σm 0 9 = nI k ∧ ∀ i, i < k → ∃ v, v < 256 ∧ gA σx 21 i = nI v ∧ gA σm 8 i = nI v
def RI (nT : Nat) (σx σm : ST) : Prop := gA σx 8 0 = gA σm 0 14 ∧ (¬ gA σm 0 14 = 0 → (∃ q, q < nT ∧ gA σx 8 1 = nI q ∧ gA σm 0 16 = nI q) ∧ (∃ m, m ≤ 5 ∧ gA σx 8 2 = nI m ∧ gA σm 0 15 = nI m) ∧ (∀ i, i < 3 → gB σx 51 i = gB σm 11 i ∧ ∀ b, 36 ≤ b → bit (gB σx 51 i) b = false) ∧ ∀ g, g < 5 → (∃ a, a < 24 ∧ gA σx 52 g = nI a ∧ gA σm 12 g = nI a) ∧ ∃ l, l < 6 ∧ gA σx 53 g = nI l ∧ gA σm 13 g = nI l)
def RS (σx σm : ST) : Prop := ∀ s, s < 4 → gA σx (9 + s) 0 = gA σm 14 s ∧ (∃ z, z ≤ 40 ∧ gA σx (9 + s) 1 = nI z ∧ gA σm 15 s = nI z) ∧ ∀ i, i < 40 → gA σx (54 + s) i = gA σm 16 (40 * s + i)
def RW (σm : ST) : Prop := ∀ i, i < 96 → gA σm 18 i = li_2.getD i 0
def rest (nT : Nat) (Tx : Nat → TT) (σx σm : ST) : Prop := RT nT Tx σx σm ∧ RP σx σm ∧ RI nT σx σm ∧ RS σx σm ∧ RW σm
def REL (σx σm : ST) : Prop := ∃ S r G n nT Tx, WS36 S ∧ VX S r (Tx r) G n σx ∧ VM S r (Tx r) G n σm ∧ (gA σx 5 3 = 0 → CX S (Tx r) G n σx) ∧ r < nT ∧ rest nT Tx σx σm
/-- what a question may change in the class: all that is found anew -/
def aQ : Nat → Bool := fun k => k == 2 || k == 38 || k == 39 || k == 5
def bQ : Nat → Bool := fun k => k == 5 || k == 6 || (40 ≤ k && k ≤ 50)
def aU : Nat → Bool := fun k => k == 20 || k == 21 || k == 24
def bU : Nat → Bool := fun k => k == 22 || k == 23
theorem okXX_Q : okXX aQ bQ := ⟨⟨rfl, fun t ht => by
  unfold aQ
  refine ⟨?_, ?_⟩ <;> simp <;> omega, rfl⟩, rfl, rfl, rfl, rfl, rfl, rfl⟩
theorem rest.fr {nT : Nat} {Tx : Nat → TT} {σx σm σx' σm' : ST} (h : rest nT Tx σx σm) (fx : Fr aQ bQ σx σx') (fm : FM aU bU σm σm') : rest nT Tx σx' σm' := by
  obtain ⟨⟨t1, t2, t3, t4⟩, ⟨k, p1, p2, p3, p4⟩, ⟨i1, i2⟩, hs, hw⟩ := h
  refine ⟨⟨t1, ?_, ?_, fun t ht => ⟨(t4 t ht).1, ⟨fun i hi => ?_, fun p hp => ?_⟩, ⟨fun i hi => ?_, fun p hp => ?_⟩⟩⟩, ⟨k, p1, ?_, ?_, fun i hi => ?_⟩, ⟨?_, fun q => ?_⟩, fun s hs' => ⟨?_, ?_, fun i hi => ?_⟩, fun i hi => ?_⟩
  · rw [fx.A rfl]; exact t2
  · rw [fm.2.2 12 (by omega)]; exact t3
  · rw [fx.A (show aQ (25 + t) = false by unfold aQ; simp; omega)]; exact (t4 t ht).2.1.1 i hi
  · rw [fx.A (show aQ (32 + t) = false by unfold aQ; simp; omega)]; exact (t4 t ht).2.1.2 p hp
  · rw [fm.A rfl (by omega)]; exact (t4 t ht).2.2.1 i hi
  · rw [fm.A rfl (by omega)]; exact (t4 t ht).2.2.2 p hp
  · rw [fx.A rfl]; exact p2
  · rw [fm.2.2 9 (by omega)]; exact p3
  · rw [fx.A rfl, fm.A rfl (by omega)]; exact p4 i hi
  · rw [fx.A rfl, fm.2.2 14 (by omega)]; exact i1
  · rw [fm.2.2 14 (by omega)] at q
    obtain ⟨q1, q2, q3, q4⟩ := i2 q
    refine ⟨?_, ?_, fun i hi => ?_, fun g hg => ?_⟩
    · rw [fx.A rfl, fm.2.2 16 (by omega)]; exact q1
    · rw [fx.A rfl, fm.2.2 15 (by omega)]; exact q2
    · rw [fx.B rfl, fm.B rfl]; exact q3 i hi
    · rw [fx.A rfl, fm.A rfl (by omega), fx.A rfl, fm.A rfl (by omega)]; exact q4 g hg
  · rw [fx.A (show aQ (9 + s) = false by unfold aQ; simp; omega), fm.A rfl (by omega)]; exact (hs s hs').1
  · rw [fx.A (show aQ (9 + s) = false by unfold aQ; simp; omega), fm.A rfl (by omega)]; exact (hs s hs').2.1
  · rw [fx.A (show aQ (54 + s) = false by unfold aQ; simp; omega), fm.A rfl (by omega)]; exact (hs s hs').2.2 i hi
  · rw [fm.A rfl (by omega)]; exact hw i hi
theorem CX.fr {a b : Nat → Bool} {S : Nat → Int64} {T : TT} {G : Nat → Nat → Nat} {n : Nat} {σ σ' : ST} (h : CX S T G n σ) (f : Fr a b σ σ') (hn : n ≤ 5) (h40 : b 40 = false) (h43 : ∀ g, g < 5 → b (43 + g) = false) (h48 : b 48 = false) : CX S T G n σ' := ⟨fun g hg => ⟨fun t ht => by
  rw [f.B (h43 g (by omega))]; exact (h.1 g hg).1 t ht, by rw [f.B h48]; exact (h.1 g hg).2⟩, fun t ht => by rw [f.B h40]; exact h.2 t ht⟩
theorem REL.q {S : Nat → Int64} {r n nT : Nat} {G : Nat → Nat → Nat} {Tx : Nat → TT} {σx σm σx' σm' : ST} (hS : WS36 S) (hX : VX S r (Tx r) G n σx) (hM : VM S r (Tx r) G n σm) (hr : r < nT) (hR : rest nT Tx σx σm) (fx : Fr aQ bQ σx σx') (fm : FM aU bU σm σm') (hC : gA σx' 5 3 = 0 → CX S (Tx r) G n σx') : REL σx' σm' := ⟨S, r, G, n, nT, Tx, hS, hX.fr fx okXX_Q, hM.fm fm rfl rfl rfl rfl rfl rfl rfl rfl rfl, hC, hr, hR.fr fx fm⟩
/-! ===== numbers that may be ===== -/
theorem within_in (x y : Int32) : f_X9_isWithin x y = f_X10_in x 0 y := rfl
theorem wN (x : Int32) {m : Nat} (hm : m < 2 ^ 31) : (∃ c, c ≤ m ∧ x = nI c ∧ f_X9_isWithin x (nI m) = 1) ∨ f_X9_isWithin x (nI m) = 0 := by
  unfold f_X9_isWithin
  by_cases h1 : x < 0
  · exact Or.inr (if_pos h1)
  · rw [if_neg h1]
    obtain ⟨j, hj, rfl⟩ := nI_of h1
    by_cases h2 : nI m < nI j
    · exact Or.inr (if_pos h2)
    · refine Or.inl ⟨j, ?_, rfl, if_neg h2⟩
      rw [nI_ltI hm hj] at h2
      omega
theorem w35 (x : Int32) : (∃ c, c < 36 ∧ x = nI c ∧ f_X9_isCell x = 1 ∧ f_X10_isCell x = 1) ∨ (f_X9_isCell x = 0 ∧ f_X10_isCell x = 0) := by
  rcases wN x (m := 35) (by omega) with ⟨c, h1, h2, h3⟩ | h
  · exact Or.inl ⟨c, by omega, h2, h3, h3⟩
  · exact Or.inr ⟨h, h⟩
theorem w23 (x : Int32) : (∃ c, c < 24 ∧ x = nI c ∧ f_X9_isSecond x = 1 ∧ f_X10_isSecond x = 1) ∨ (f_X9_isSecond x = 0 ∧ f_X10_isSecond x = 0) := by
  rcases wN x (m := 23) (by omega) with ⟨c, h1, h2, h3⟩ | h
  · exact Or.inl ⟨c, by omega, h2, h3, h3⟩
  · exact Or.inr ⟨h, h⟩
theorem wG2 (x : Int32) {n : Nat} {σx σm : ST} (h1 : gA σx 2 6 = nI n) (h2 : gA σm 0 1 = nI n) (hn : n ≤ 5) : (∃ g, g < n ∧ x = nI g ∧ f_X9_isGuard x σx = 1 ∧ f_X10_isGuard x σm = 1) ∨ (f_X9_isGuard x σx = 0 ∧ f_X10_isGuard x σm = 0) := by
  unfold f_X9_isGuard f_X10_isGuard
  rw [h1, h2, jlet_s, jlet_s, ← within_in]
  match n, hn with
  | 0, _ =>
    refine Or.inr ?_
    have : f_X9_isWithin x (nI 0 - 1) = 0 := by
      unfold f_X9_isWithin
      by_cases q : x < 0
      · exact if_pos q
      · rw [if_neg q, if_pos]
        obtain ⟨j, hj, rfl⟩ := nI_of q
        rw [Int32.lt_iff_toInt_lt, nI_toInt hj]
        show (-1 : Int) < _
        omega
    exact ⟨this, this⟩
  | n + 1, hn =>
    rw [nI_pred]
    rcases wN x (m := n) (by omega) with ⟨c, h1, h2, h3⟩ | h
    · exact Or.inl ⟨c, by omega, h2, h3, h3⟩
    · exact Or.inr ⟨h, h⟩
/-! ===== questions about guards ===== -/
theorem op_guardTold : OP_guardTold REL := by
  intro σx σm x1 x2 hRel
  obtain ⟨S, r, G, n, nT, Tx, hS, hX, hM, hC, hr, hR⟩ := id hRel
  unfold f_X9_guardTold f_X10_guardTold
  rcases wG2 x1 hX.2.1 hM.2.1 hX.2.2.1 with ⟨g, hg, rfl, e1, e2⟩ | ⟨e1, e2⟩
  · have hn := hX.2.2.1
    obtain ⟨a0, a1, a2, a3, a4, a5⟩ := (hX.2.2.2 g (by omega)).1
    obtain ⟨b0, b1, b2, b3, b4, b5⟩ := (hM.2.2.2 g (by omega)).1
    simp (disch := omega) only [e1, e2, jlet_s, ifN1, ifN0, if10, if00, jix_t, nI_clamp, a0, a1, a2, a3, a4, a5, b0, b1, b2, b3, b4, b5]
    by_cases h0 : x2 = 0
    · rw [if_pos h0]; exact ⟨_, rfl, rfl, hRel⟩
    rw [if_neg h0]
    by_cases h1 : x2 = 1
    · rw [if_pos h1]; exact ⟨_, rfl, rfl, hRel⟩
    rw [if_neg h1]
    by_cases h2 : x2 = 2
    · rw [if_pos h2]; exact ⟨_, rfl, rfl, hRel⟩
    rw [if_neg h2]
    by_cases h3 : x2 = 3
    · rw [if_pos h3]; exact ⟨_, rfl, rfl, hRel⟩
    rw [if_neg h3]
    by_cases h4 : x2 = 4
    · rw [if_pos h4]; exact ⟨_, rfl, rfl, hRel⟩
    rw [if_neg h4]
    by_cases h5 : x2 = 5
    · rw [if_pos h5]; exact ⟨_, rfl, rfl, hRel⟩
    rw [if_neg h5]
    exact ⟨_, rfl, rfl, hRel⟩
  · rw [e1, e2]
    exact ⟨_, rfl, rfl, hRel⟩
theorem op_at : OP_at REL := by
  intro σx σm x1 x2 x3 hRel
  obtain ⟨S, r, G, n, nT, Tx, hS, hX, hM, hC, hr, hR⟩ := id hRel
  unfold f_X9_at f_X10_at
  rcases wG2 x1 hX.2.1 hM.2.1 hX.2.2.1 with ⟨g, hg, rfl, e1, e2⟩ | ⟨e1, e2⟩
  · have hn := hX.2.2.1
    simp only [e1, e2, jlet_s, ifN1, ifN0, if10, if00]
    rcases w23 x2 with ⟨t, ht, rfl, e3, e4⟩ | ⟨e3, e4⟩
    · simp only [e3, e4, jlet_s, ifN1, ifN0, if10, if00]
      rcases wN x3 (m := 2) (by omega) with ⟨w, hw, rfl, e5⟩ | e5
      · simp only [show f_X9_isWithin (nI w) 2 = 1 from e5, show f_X10_in (nI w) 0 2 = 1 from e5, jlet_s, ifN1, ifN0, if10, if00, show Int32.toNatClampNeg 0 = 0 from rfl, hX.1.1.1]
        have hA := (hX.2.2.2 g (by omega)).1
        have hG := (hX.2.2.2 g (by omega)).2
        have hB := (hM.2.2.2 g (by omega)).1
        have hW := hM.1.1.1
        obtain ⟨s, q1, q2, q3, q4, q5⟩ := xwalk (W := S 0) (show g < 5 by omega) hA hG ht
        have fin : REL s σm := REL.q hS hX hM hr hR (q2.mono (fun k q => by unfold aQ at q; unfold aW; simp at q ⊢; exact q.1.1.1) (fun _ _ => rfl)) FM.rf (fun q => by
          rw [q2.A rfl] at q
          exact (hC q).fr q2 hn rfl (fun _ _ => rfl) rfl)
        simp only [q1, jb_s, q3, q4, q5, mstands hW (show g < 5 by omega) hB hG ht, mturned hW (show g < 5 by omega) hB hG ht, mlooks (show g < 5 by omega) hB hG ht]
        rcases (show w = 0 ∨ w = 1 ∨ w = 2 by omega) with rfl | rfl | rfl
        · exact ⟨_, _, rfl, rfl, fin⟩
        · exact ⟨_, _, rfl, rfl, fin⟩
        · cases Zlook (G g) t
          · exact ⟨0, s, rfl, rfl, fin⟩
          · exact ⟨1, s, rfl, rfl, fin⟩
      · rw [show f_X9_isWithin x3 2 = 0 from e5, show f_X10_in x3 0 2 = 0 from e5]
        exact ⟨_, _, rfl, rfl, hRel⟩
    · rw [e3, e4]
      exact ⟨_, _, rfl, rfl, hRel⟩
  · rw [e1, e2]
    exact ⟨_, _, rfl, rfl, hRel⟩
theorem op_sees : OP_sees REL := by
  intro σx σm x1 x2 hRel
  obtain ⟨S, r, G, n, nT, Tx, hS, hX, hM, hC, hr, hR⟩ := id hRel
  unfold f_X9_sees f_X10_sees f_X9_sees_L27 f_X10_sees_L24
  rcases wG2 x1 hX.2.1 hM.2.1 hX.2.2.1 with ⟨g, hg, rfl, e1, e2⟩ | ⟨e1, e2⟩
  · have hn := hX.2.2.1
    simp only [e1, e2, jlet_s, ifN1, ifN0, if10, if00]
    rcases w23 x2 with ⟨t, ht, rfl, e3, e4⟩ | ⟨e3, e4⟩
    · simp only [e3, e4, jlet_s, ifN1, ifN0, if10, if00]
      obtain ⟨s, q1, q2, q3, q4⟩ := xsight (show g < 5 by omega) ht (hX.2.2.2 g (by omega)).2 (hX.2.2.2 g (by omega)).1 hX.1
      obtain ⟨s2, k1, k2⟩ := msee (show g < 5 by omega) ht (hM.2.2.2 g (by omega)).2 (hM.2.2.2 g (by omega)).1 hM.1
      rw [q1, k1, jbp_s, jbp_s]
      refine ⟨_, _, _, rfl, rfl, REL.q hS hX hM hr hR (q2.mono (fun k q => by unfold aQ at q; unfold aS; simp at q ⊢; exact q.1) (fun k q => by unfold bQ at q; unfold bL; simp at q ⊢; omega)) ((k2.toM rfl).mono (fun k q => by unfold aU at q; unfold aN; simp at q ⊢; exact q.1) (fun _ _ => rfl)) (fun q => ?_)⟩
      rw [q2.A rfl] at q
      exact (hC q).fr q2 hn rfl (fun g hg => by unfold bL; simp; omega) rfl
    · rw [e3, e4]
      exact ⟨_, _, _, rfl, rfl, hRel⟩
  · rw [e1, e2]
    exact ⟨_, _, _, rfl, rfl, hRel⟩
/-! ===== what is seen now ===== -/
theorem xseenNow {S : Nat → Int64} {r n : Nat} {T : TT} {G : Nat → Nat → Nat} {σ : ST} (hV : VX S r T G n σ) (hC : gA σ 5 3 = 0 → CX S T G n σ) : ∃ σ', f_X9_seenNow σ = some σ' ∧ Fr aR bR σ σ' ∧ gA σ' 5 3 = 0 ∧ CX S T G n σ' := by
  obtain ⟨s, e1, e2⟩ := xrefresh hV hC
  refine ⟨s, ?_, e2⟩
  unfold f_X9_seenNow
  rw [e1]; rfl
theorem Fr.RQ {σ σ' : ST} (h : Fr aR bR σ σ') : Fr aQ bQ σ σ' := h.mono (fun _ q => q) (fun k q => by unfold bQ at q; unfold bR; simp at q ⊢; omega)
theorem Fr.TU {σ σ' : ST} (h : Fr aN bT σ σ') : FM aU bU σ σ' := (h.toM rfl).mono (fun k q => by unfold aU at q; unfold aN; simp at q ⊢; exact q.1) (fun k q => by unfold bU at q; unfold bT; simp at q ⊢; exact q.1)
theorem allG {n : Nat} {σ : ST} (h : gA σ 0 1 = nI n) (hn : n ≤ 5) : f_X10_allGuards σ = nI (2 ^ n - 1) ∧ ∀ g, g < n → bt (nI (2 ^ n - 1)) g = true := by
  unfold f_X10_allGuards
  rw [h]
  rcases (show n = 0 ∨ n = 1 ∨ n = 2 ∨ n = 3 ∨ n = 4 ∨ n = 5 by omega) with rfl | rfl | rfl | rfl | rfl | rfl
  all_goals exact ⟨by decide, by decide⟩
/-- the reference's rows are those of all guards -/
theorem mrows {S : Nat → Int64} {n t : Nat} {T : TT} {G : Nat → Nat → Nat} {σ : ST} (p : Nat → Bool) {m : Int32} (hm : ∀ g, g < n → bt m g = p g) (h : ∀ g, g < n → ∀ t, t < 24 → gB σ 22 (24 * g + t) = Zthr S T (G g) g t) (ht : t < 24) : Zor (fun g t => gB σ 22 (24 * g + t)) (bt m) n t = ZV S T G n p t := Zor_cong hm (fun g hg _ => h g hg t ht)
theorem op_watched : OP_watched REL := by
  intro σx σm x1 hRel
  obtain ⟨S, r, G, n, nT, Tx, hS, hX, hM, hC, hr, hR⟩ := id hRel
  unfold f_X9_watched f_X10_watched
  rcases w23 x1 with ⟨t, ht, rfl, e3, e4⟩ | ⟨e3, e4⟩
  · have hn := hX.2.2.1
    obtain ⟨s, q1, q2, q3, q4⟩ := xseenNow hX hC
    obtain ⟨s2, k1, k2, k3⟩ := mwatchesAll hM
    have hM2 := hM.fr k2 okMM_T
    obtain ⟨g1, g2⟩ := allG hM2.2.1 hn
    simp (disch := omega) only [e3, e4, jlet_s, ifN1, ifN0, if10, if00, q1, k1, jb_s, jix_t, nI_clamp, g1, mseenAt hn hM2.2.1 ht, q4.2 t ht, mrows (fun _ => true) g2 k3 ht]
    exact ⟨_, _, _, rfl, rfl, REL.q hS hX hM hr hR q2.RQ k2.TU (fun _ => q4)⟩
  · rw [e3, e4]
    exact ⟨_, _, _, rfl, rfl, hRel⟩
