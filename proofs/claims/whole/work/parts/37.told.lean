/-! ===== the rest, piece by piece ===== -/
theorem RT.fr {nT : Nat} {Tx : Nat → TT} {σx σm σx' σm' : ST} {a b a' b' : Nat → Bool} (h : RT nT Tx σx σm) (fx : Fr a b σx σx') (fm : FM a' b' σm σm') (h4 : a 4 = false) (h25 : ∀ t, t < 6 → a (25 + t) = false ∧ a (32 + t) = false) (h9 : a' 9 = false) (h10 : a' 10 = false) : RT nT Tx σx' σm' := by
  obtain ⟨t1, t2, t3, t4⟩ := h
  refine ⟨t1, ?_, ?_, fun t ht => ⟨(t4 t ht).1, ⟨fun i hi => ?_, fun p hp => ?_⟩, ⟨fun i hi => ?_, fun p hp => ?_⟩⟩⟩
  · rw [fx.A h4]; exact t2
  · rw [fm.2.2 12 (by omega)]; exact t3
  · rw [fx.A (h25 t (by omega)).1]; exact (t4 t ht).2.1.1 i hi
  · rw [fx.A (h25 t (by omega)).2]; exact (t4 t ht).2.1.2 p hp
  · rw [fm.A h9 (by omega)]; exact (t4 t ht).2.2.1 i hi
  · rw [fm.A h10 (by omega)]; exact (t4 t ht).2.2.2 p hp
theorem RP.fr {σx σm σx' σm' : ST} {a b a' b' : Nat → Bool} (h : RP σx σm) (fx : Fr a b σx σx') (fm : FM a' b' σm σm') (h3 : a 3 = false) (h21 : a 21 = false) (h8 : a' 8 = false) : RP σx' σm' := by
  obtain ⟨k, p1, p2, p3, p4⟩ := h
  refine ⟨k, p1, ?_, ?_, fun i hi => ?_⟩
  · rw [fx.A h3]; exact p2
  · rw [fm.2.2 9 (by omega)]; exact p3
  · rw [fx.A h21, fm.A h8 (by omega)]; exact p4 i hi
theorem RI.fr {nT : Nat} {σx σm σx' σm' : ST} {a b a' b' : Nat → Bool} (h : RI nT σx σm) (fx : Fr a b σx σx') (fm : FM a' b' σm σm') (h8 : a 8 = false) (h52 : a 52 = false) (h53 : a 53 = false) (h51 : b 51 = false) (h12 : a' 12 = false) (h13 : a' 13 = false) (h11 : b' 11 = false) : RI nT σx' σm' := by
  obtain ⟨i1, i2⟩ := h
  refine ⟨?_, fun q => ?_⟩
  · rw [fx.A h8, fm.2.2 14 (by omega)]; exact i1
  · rw [fm.2.2 14 (by omega)] at q
    obtain ⟨q1, q2, q3, q4⟩ := i2 q
    refine ⟨?_, ?_, fun i hi => ?_, fun g hg => ?_⟩
    · rw [fx.A h8, fm.2.2 16 (by omega)]; exact q1
    · rw [fx.A h8, fm.2.2 15 (by omega)]; exact q2
    · rw [fx.B h51, fm.B h11]; exact q3 i hi
    · rw [fx.A h52, fm.A h12 (by omega), fx.A h53, fm.A h13 (by omega)]; exact q4 g hg
theorem RS.fr {σx σm σx' σm' : ST} {a b a' b' : Nat → Bool} (h : RS σx σm) (fx : Fr a b σx σx') (fm : FM a' b' σm σm') (h9 : ∀ s, s < 4 → a (9 + s) = false ∧ a (54 + s) = false) (h14 : a' 14 = false) (h15 : a' 15 = false) (h16 : a' 16 = false) : RS σx' σm' := fun s hs => by
  refine ⟨?_, ?_, fun i hi => ?_⟩
  · rw [fx.A (h9 s hs).1, fm.A h14 (by omega)]; exact (h s hs).1
  · rw [fx.A (h9 s hs).1, fm.A h15 (by omega)]; exact (h s hs).2.1
  · rw [fx.A (h9 s hs).2, fm.A h16 (by omega)]; exact (h s hs).2.2 i hi
theorem RW.fr {σm σm' : ST} {a' b' : Nat → Bool} (h : RW σm) (fm : FM a' b' σm σm') (h18 : a' 18 = false) : RW σm' := fun i hi => by rw [fm.A h18 (by omega)]; exact h i hi
/-! ===== as it is now, in both ===== -/
theorem now {S : Nat → Int64} {r n nT : Nat} {G : Nat → Nat → Nat} {Tx : Nat → TT} {σx σm : ST} (hS : WS36 S) (hX : VX S r (Tx r) G n σx) (hM : VM S r (Tx r) G n σm) (hC : gA σx 5 3 = 0 → CX S (Tx r) G n σx) (hr : r < nT) (hR : rest nT Tx σx σm) : ∃ sx sm, f_X9_seenNow σx = some sx ∧ f_X8_refresh σx = some sx ∧ f_X10_watchesAll σm = some sm ∧ VX S r (Tx r) G n sx ∧ VM S r (Tx r) G n sm ∧ gA sx 5 3 = 0 ∧ CX S (Tx r) G n sx ∧ rest nT Tx sx sm ∧ (∀ g, g < n → ∀ t, t < 24 → gB sm 22 (24 * g + t) = Zthr S (Tx r) (G g) g t) ∧ REL sx sm := by
  obtain ⟨s, q1, q2, q3, q4⟩ := xrefresh hX hC
  obtain ⟨s2, k1, k2, k3⟩ := mwatchesAll hM
  exact ⟨s, s2, by unfold f_X9_seenNow; rw [q1]; rfl, q1, k1, hX.fr q2 okXX_R, hM.fr k2 okMM_T, q3, q4, hR.fr q2.RQ k2.TU, k3, REL.q hS hX hM hr hR q2.RQ k2.TU (fun _ => q4)⟩
abbrev VA (S : Nat → Int64) (T : TT) (G : Nat → Nat → Nat) (n : Nat) : Nat → Int64 := ZV S T G n (fun _ => true)
theorem xalone {V : Nat → Int64} {c : Nat} {σ : ST} (hc : c < 36) (hV : ∀ t, t < 24 → gB σ 40 t = V t) : f_X9_alone_L20 FU (nI c) 0 0 σ = some (Zal V c 24, σ) := by
  refine jloop (fun k i (a : Int32) => f_X9_alone_L20 k (nI c) a (nI i) σ) 24 (fun i a => a = Zal V c i) (fun r => r = some (Zal V c 24, σ)) ?_ ?_ FU 0 0 (by omega) (by unfold FU; omega) rfl
  · intro k i a hi hp
    refine Or.inr ⟨Zal V c (i + 1), rfl, ?_⟩
    show f_X9_alone_L20 (k + 1) (nI c) a (nI i) σ = _
    rw [ef_X9_alone_L20, if_neg (nle24 hi), jix_t hi (by omega), nI_clamp (by omega), hV i hi, isIn_b _ (by omega), jlet_s, hp]
    unfold f_X9_alone_L45
    show _ = f_X9_alone_L20 k (nI c) (Zal V c i ||| (if bit (V i) c then _ else _)) (nI (i + 1)) σ
    cases bit (V i) c with
    | false => rw [if_neg (by decide), if_neg (by decide), jlet_s, jlet_s, nI_1]
    | true => rw [if_pos (by decide), if_pos rfl, jlet_s, nI_1, Int32.or_zero]
  · intro k a hp
    show f_X9_alone_L20 (k + 1) (nI c) a (nI 24) σ = _
    rw [ef_X9_alone_L20, if_pos (by decide), hp]
theorem malone {S : Nat → Int64} {r n c : Nat} {T : TT} {G : Nat → Nat → Nat} {σ : ST} (p : Nat → Bool) {m : Int32} (hm : ∀ g, g < n → bt m g = p g) (hM : VM S r T G n σ) (h : ∀ g, g < n → ∀ t, t < 24 → gB σ 22 (24 * g + t) = Zthr S T (G g) g t) (hc : c < 36) : f_X10_aloneBy (nI c) m σ = some (Zal (ZV S T G n p) c 24) := by
  rw [maloneBy hM.2.2.1 hM.2.1 hc m]
  congr 1
  exact Zal_cong (fun t ht => mrows p hm h ht)
theorem op_alone : OP_alone REL := by
  intro σx σm x1 hRel
  obtain ⟨S, r, G, n, nT, Tx, hS, hX, hM, hC, hr, hR⟩ := id hRel
  unfold f_X9_alone f_X10_alone
  rcases w35 x1 with ⟨c, hc, rfl, e1, e2⟩ | ⟨e1, e2⟩
  · obtain ⟨sx, sm, q1, -, q2, hX2, hM2, -, hC2, hR2, hrow, hRel2⟩ := now hS hX hM hC hr hR
    obtain ⟨g1, g2⟩ := allG hM2.2.1 hM2.2.2.1
    simp only [e1, e2, jlet_s, ifN1, ifN0, if10, if00, q1, q2, jb_s, g1]
    rw [xalone hc hC2.2, malone (fun _ => true) g2 hM2 hrow hc]
    exact ⟨_, _, _, rfl, rfl, hRel2⟩
  · rw [e1, e2]
    exact ⟨_, _, _, rfl, rfl, hRel⟩
theorem xgap1 {V : Nat → Int64} {o c : Nat} {σ : ST} (ho : bG o = false) (hc : c < 36) (hV : ∀ t, t < 24 → gB σ o t = V t) : ∃ σ', f_X0_greatest o (jlshl 1 (nI c)) σ = some (nI (Zgap V c), σ') ∧ Fr aO bG σ σ' := by
  obtain ⟨σ', q, e1, e2, e3, e4, e5, -⟩ := xgreatest ho (jlshl 1 (nI c)) hV
  have h1 := e4 c (by omega) (by rw [bit_one (by omega) (by omega)]; exact decide_eq_true rfl)
  have h2 : q = Zgap V c := by
    rcases e5 with h | ⟨c', h3, h4, h5⟩
    · omega
    · rw [bit_one (by omega) h3] at h4
      have := of_decide_eq_true h4
      subst this
      omega
  rw [h2] at e1
  exact ⟨σ', e1, e2⟩
theorem Fr.GQ {σ σ' : ST} (h : Fr aO bG σ σ') : Fr aQ bQ σ σ' := h.mono (fun _ _ => rfl) (fun k q => by unfold bQ at q; unfold bG; simp at q ⊢; omega)
/-- the class goes on from a state as it is now, without the memory's rows -/
theorem REL.x {S : Nat → Int64} {r n nT : Nat} {G : Nat → Nat → Nat} {Tx : Nat → TT} {σx σm σx' : ST} {b : Nat → Bool} (hS : WS36 S) (hX : VX S r (Tx r) G n σx) (hM : VM S r (Tx r) G n σm) (hC : CX S (Tx r) G n σx) (hr : r < nT) (hR : rest nT Tx σx σm) (fx : Fr aS b σx σx') (hb : ∀ k, bQ k = false → b k = false) (h40 : b 40 = false) (h43 : ∀ g, g < 5 → b (43 + g) = false) (h48 : b 48 = false) : REL σx' σm := REL.q hS hX hM hr hR (fx.mono (fun k q => by unfold aQ at q; unfold aS; simp at q ⊢; exact q.1) hb) FM.rf (fun _ => hC.fr fx hX.2.2.1 h40 h43 h48)
theorem op_unseen : OP_unseen REL := by
  intro σx σm x1 hRel
  obtain ⟨S, r, G, n, nT, Tx, hS, hX, hM, hC, hr, hR⟩ := id hRel
  unfold f_X9_unseen f_X10_unseen f_X10_alone
  rcases w35 x1 with ⟨c, hc, rfl, e1, e2⟩ | ⟨e1, e2⟩
  · obtain ⟨sx, sm, q1, -, q2, hX2, hM2, -, hC2, hR2, hrow, hRel2⟩ := now hS hX hM hC hr hR
    obtain ⟨g1, g2⟩ := allG hM2.2.1 hM2.2.2.1
    obtain ⟨s3, e5, f5⟩ := xgap1 (V := VA S (Tx r) G n) (o := 40) rfl hc hC2.2
    simp only [e1, e2, jlet_s, ifN1, ifN0, if10, if00, q1, q2, jb_s, g1]
    rw [malone (fun _ => true) g2 hM2 hrow hc, e5, jb_s, jbp_s, jbp_s, mgap, jb_s]
    exact ⟨_, _, _, rfl, rfl, REL.x hS hX2 hM2 hC2 hr hR2 (b := bG) (f5.mono (fun _ _ => rfl) (fun _ q => q)) (fun k q => by unfold bQ at q; unfold bG; simp at q ⊢; omega) rfl (fun g hg => by unfold bG; simp; omega) rfl⟩
  · rw [e1, e2]
    exact ⟨_, _, _, rfl, rfl, hRel⟩
/-! ===== told seconds ===== -/
def Zun (R : Nat → Int32) (V : Nat → Int64) (c : Nat) : Nat → Nat → Int32
  | 0, _ => -1
  | n + 1, i => if R i = bI (bit (V i) c) then Zun R V c n (i + 1) else nI i
theorem Zun_cong {R R' : Nat → Int32} {V V' : Nat → Int64} {c : Nat} : ∀ {n i : Nat}, (∀ j, i ≤ j → j < i + n → R j = R' j ∧ V j = V' j) → Zun R V c n i = Zun R' V' c n i
  | 0, _, _ => rfl
  | n + 1, i, h => by
    unfold Zun
    rw [(h i (Nat.le_refl _) (by omega)).1, (h i (Nat.le_refl _) (by omega)).2, Zun_cong (fun j h1 h2 => h j (by omega) (by omega))]
theorem xother {V : Nat → Int64} {o s c : Nat} {σ : ST} (hc : c < 36) (hV : ∀ t, t < 24 → gB σ o t = V t) : ∀ n i fuel, i + n = 24 → n < fuel → f_X5_firstOther_L2 fuel (9 + s) o (nI c) (nI i) σ = some (Zun (gA σ (54 + s)) V c n i) := by
  intro n
  induction n with
  | zero =>
    intro i fuel hi hf
    obtain ⟨fuel, rfl⟩ : ∃ k, fuel = k + 1 := ⟨fuel - 1, by omega⟩
    have : i = 24 := by omega
    subst this
    rw [ef_X5_firstOther_L2, if_pos (by decide)]
    rfl
  | succ n ih =>
    intro i fuel hi hf
    obtain ⟨fuel, rfl⟩ : ∃ k, fuel = k + 1 := ⟨fuel - 1, by omega⟩
    rw [ef_X5_firstOther_L2, if_neg (nle24 (by omega)), jix_t (by omega) (by omega), jix_t (by omega) (by omega), nI_clamp (by omega), hV i (by omega), isIn_b _ (by omega), jlet_s, show 9 + s + 45 = 54 + s by omega]
    unfold Zun f_X5_firstOther_L29
    have w := ih (i + 1) fuel (by omega) (by omega)
    cases bit (V i) c with
    | false =>
      rw [if_pos (show bI false = 0 from rfl), jlet_s, nI_1, w]
      by_cases q : gA σ (54 + s) i = 0
      · rw [if_pos q, if_pos (show gA σ (54 + s) i = bI false from q)]
      · rw [if_neg q, if_neg (show ¬ gA σ (54 + s) i = bI false from q)]
    | true =>
      rw [if_neg (show ¬ bI true = 0 by decide), jlet_s, nI_1, w]
      by_cases q : gA σ (54 + s) i = 1
      · rw [if_pos q, if_pos (show gA σ (54 + s) i = bI true from q)]
      · rw [if_neg q, if_neg (show ¬ gA σ (54 + s) i = bI true from q)]
theorem munlike_loop {V : Nat → Int64} {s c : Nat} {σ : ST} (hs : s < 4) : ∀ n i fuel, i + n = 24 → n < fuel → f_X10_unlike_L11 fuel (nI s) (Zal V c 24) (nI i) σ = some (Zun (fun j => gA σ 16 (40 * s + j)) V c n i) := by
  intro n
  induction n with
  | zero =>
    intro i fuel hi hf
    obtain ⟨fuel, rfl⟩ : ∃ k, fuel = k + 1 := ⟨fuel - 1, by omega⟩
    have : i = 24 := by omega
    subst this
    rw [ef_X10_unlike_L11, if_pos (by decide)]
    rfl
  | succ n ih =>
    intro i fuel hi hf
    obtain ⟨fuel, rfl⟩ : ∃ k, fuel = k + 1 := ⟨fuel - 1, by omega⟩
    have e : (1 : Int32) - (jshr (Zal V c 24) (nI i) &&& 1) = bI (bit (V i) c) := by
      rw [bt_sh1 _ (by omega), Zal_bt V c (by omega) 24 (by omega), decide_eq_true (show i < 24 by omega), Bool.true_and]
      cases bit (V i) c <;> rfl
    rw [ef_X10_unlike_L11, if_neg (nle24 (by omega)), show (40 : Int32) = nI 40 from rfl, pk_mul, nI_add, jix_t (by omega) (by omega), nI_clamp (by omega), e, jlet_s, nI_1, ih (i + 1) fuel (by omega) (by omega)]
    show _ = some (if gA σ 16 (40 * s + i) = bI (bit (V i) c) then Zun (fun j => gA σ 16 (40 * s + j)) V c n (i + 1) else nI i)
    by_cases q : gA σ 16 (40 * s + i) = bI (bit (V i) c)
    · rw [if_pos q, if_pos q]
    · rw [if_neg q, if_neg q]
theorem told {σx σm : ST} (h : RS σx σm) (x1 x2 : Int32) : (∃ s c, s < 4 ∧ c < 36 ∧ x1 = nI s ∧ x2 = nI c ∧ f_X9_refusalOfTold x1 x2 σx = some 0 ∧ f_X10_sheetWrong x1 x2 σm = some 0) ∨ ∃ w, ¬ w = 0 ∧ f_X9_refusalOfTold x1 x2 σx = some w ∧ f_X10_sheetWrong x1 x2 σm = some w := by
  unfold f_X9_refusalOfTold f_X10_sheetWrong
  rcases wN x1 (m := 3) (by omega) with ⟨s, hs, rfl, e5⟩ | e5
  · obtain ⟨k1, ⟨z, hz, k2, k3⟩, k4⟩ := h s (by omega)
    simp (disch := omega) only [show f_X9_isSheet (nI s) = 1 from e5, show f_X10_in (nI s) 0 3 = 1 from e5, jlet_s, ifN1, ifN0, if10, if00, jix_t, nI_clamp, k1, k2, k3]
    by_cases q : gA σm 14 s = -1
    · rw [if_neg (fun z => z q), if_neg (fun z => z q)]
      exact Or.inr ⟨-11, by decide, rfl, rfl⟩
    · rw [if_pos q, if_pos q]
      by_cases q2 : nI z = 24
      · rw [if_pos q2, if_pos q2]
        rcases w35 x2 with ⟨c, hc, rfl, e1, e2⟩ | ⟨e1, e2⟩
        · rw [e1, e2]
          exact Or.inl ⟨s, c, by omega, hc, rfl, rfl, rfl, rfl⟩
        · rw [e1, e2]
          exact Or.inr ⟨-5, by decide, rfl, rfl⟩
      · rw [if_neg q2, if_neg q2]
        exact Or.inr ⟨-2, by decide, rfl, rfl⟩
  · rw [show f_X9_isSheet x1 = 0 from e5, show f_X10_in x1 0 3 = 0 from e5]
    exact Or.inr ⟨-2, by decide, rfl, rfl⟩
theorem munlike {S : Nat → Int64} {r n c s : Nat} {T : TT} {G : Nat → Nat → Nat} {σx σ : ST} (p : Nat → Bool) {m : Int32} (hm : ∀ g, g < n → bt m g = p g) (hM : VM S r T G n σ) (h : ∀ g, g < n → ∀ t, t < 24 → gB σ 22 (24 * g + t) = Zthr S T (G g) g t) (hc : c < 36) (hs : s < 4) (hR : ∀ i, i < 40 → gA σx (54 + s) i = gA σ 16 (40 * s + i)) : f_X10_unlike (nI s) (nI c) m σ = some (Zun (gA σx (54 + s)) (ZV S T G n p) c 24 0) := by
  unfold f_X10_unlike
  rw [malone p hm hM h hc, jb_s]
  rw [show f_X10_unlike_L11 FU (nI s) (Zal (ZV S T G n p) c 24) 0 σ = _ from munlike_loop hs 24 0 FU (by omega) (by unfold FU; omega)]
  congr 1
  exact Zun_cong (fun j _ hj => ⟨(hR j (by omega)).symm, rfl⟩)
theorem op_judge : OP_judge REL := by
  intro σx σm x1 x2 hRel
  obtain ⟨S, r, G, n, nT, Tx, hS, hX, hM, hC, hr, hR⟩ := id hRel
  unfold f_X9_judge f_X10_judge
  rcases told hR.2.2.2.1 x1 x2 with ⟨s, c, hs, hc, rfl, rfl, e1, e2⟩ | ⟨w, hw, e1, e2⟩
  · obtain ⟨sx, sm, q1, -, q2, hX2, hM2, -, hC2, hR2, hrow, hRel2⟩ := now hS hX hM hC hr hR
    obtain ⟨g1, g2⟩ := allG hM2.2.1 hM2.2.2.1
    simp (disch := omega) only [e1, e2, jb_s, jlet_s, ifN1, ifN0, if10, if00, jix_t, nI_clamp, q1, q2, g1]
    rw [munlike (σx := sx) (fun _ => true) g2 hM2 hrow hc hs (hR2.2.2.2.1 s hs).2.2, jb_s]
    unfold f_X5_firstOther
    rw [show f_X5_firstOther_L2 FU (9 + s) 40 (nI c) 0 sx = _ from xother hc hC2.2 24 0 FU (by omega) (by unfold FU; omega), jb_s]
    exact ⟨_, _, _, rfl, rfl, hRel2⟩
  · rw [e1, e2, jb_s, jb_s, if_neg hw, if_neg hw]
    exact ⟨_, _, _, rfl, rfl, hRel⟩
theorem op_which : OP_which REL := by
  intro σx σm x1 hRel
  obtain ⟨S, r, G, n, nT, Tx, hS, hX, hM, hC, hr, hR⟩ := id hRel
  unfold f_X9_which f_X10_which
  rcases told hR.2.2.2.1 x1 0 with ⟨s, c, hs, hc, rfl, hc0, e1, e2⟩ | ⟨w, hw, e1, e2⟩
  · obtain ⟨sx, sm, q1, -, q2, hX2, hM2, -, hC2, hR2, hrow, hRel2⟩ := now hS hX hM hC hr hR
    obtain ⟨g1, g2⟩ := allG hM2.2.1 hM2.2.2.1
    simp only [e1, e2, jb_s, jlet_s, ifN1, ifN0, if10, if00, q2]
    -- the class finds its memory stale once at most
    have hX' : ∀ i, 0 < i → ∀ σ, (i = 0 → σ = σx) → (0 < i → σ = sx) → f_X9_seenNow σ = some sx := fun i hi σ _ h2 => by
      rw [h2 hi]
      unfold f_X9_seenNow f_X8_refresh
      have z : gA sx 5 3 = 0 := by
        unfold f_X9_seenNow at q1
        obtain ⟨s', k1, k2, k3, k4⟩ := xrefresh hX hC
        rw [k1] at q1
        cases q1
        exact k3
      rw [if_neg (fun q => q z)]; rfl
    have h1 : ∃ acc σ', f_X9_which_L18 FU (nI s) 0 0 σx = some (acc, σ') ∧ σ' = sx ∧ f_X10_which_L22 FU (nI s) 0 0 sm = some (acc, sm) := by
      have lx : ∀ n i acc fuel σ, i + n = 36 → n < fuel → f_X9_seenNow σ = some sx → (n = 0 → σ = sx) → ∃ a, f_X9_which_L18 fuel (nI s) acc (nI i) σ = some (a, sx) ∧ ∀ fuel2, n < fuel2 → f_X10_which_L22 fuel2 (nI s) acc (nI i) sm = some (a, sm) := by
        intro n0
        induction n0 with
        | zero =>
          intro i acc fuel σ hi hf h0 h00
          obtain ⟨fuel, rfl⟩ : ∃ k, fuel = k + 1 := ⟨fuel - 1, by omega⟩
          have : i = 36 := by omega
          subst this
          refine ⟨acc, ?_, fun fuel2 hf2 => ?_⟩
          · rw [ef_X9_which_L18, if_pos (by decide), h00 rfl]
          · obtain ⟨fuel2, rfl⟩ : ∃ k, fuel2 = k + 1 := ⟨fuel2 - 1, by omega⟩
            rw [ef_X10_which_L22, if_pos (by decide)]
        | succ n0 ih =>
          intro i acc fuel σ hi hf h0 h00
          obtain ⟨fuel, rfl⟩ : ∃ k, fuel = k + 1 := ⟨fuel - 1, by omega⟩
          have hsx : f_X9_seenNow sx = some sx := hX' 1 (by omega) sx (by omega) (fun _ => rfl)
          have hi36 : i < 36 := by omega
          have eu := munlike (σx := sx) (fun _ => true) g2 hM2 hrow hi36 hs (hR2.2.2.2.1 s hs).2.2
          have eo : f_X5_firstOther (9 + s) 40 (nI i) sx = some (Zun (gA sx (54 + s)) (VA S (Tx r) G n) i 24 0) := by
            unfold f_X5_firstOther
            exact xother hi36 hC2.2 24 0 FU (by omega) (by unfold FU; omega)
          by_cases q : Zun (gA sx (54 + s)) (VA S (Tx r) G n) i 24 0 = -1
          · obtain ⟨a, r1, r2⟩ := ih (i + 1) (acc ||| jlshl 1 (nI i)) fuel sx (by omega) (by omega) hsx (fun _ => rfl)
            refine ⟨a, ?_, fun fuel2 hf2 => ?_⟩
            · rw [ef_X9_which_L18, if_neg (nle36 hi36), jix_t hs (by omega), nI_clamp (by omega), jlet_s, h0, jb_s, eo, jb_s, if_neg (fun z => z q), jlet_s]
              unfold f_X9_which_L51
              rw [jlet_s, nI_1]; exact r1
            · obtain ⟨fuel2, rfl⟩ : ∃ k, fuel2 = k + 1 := ⟨fuel2 - 1, by omega⟩
              rw [ef_X10_which_L22, if_neg (nle36 hi36), g1, jlet_s, eu, jb_s, if_neg (fun z => z q)]
              unfold f_X10_which_L53
              rw [jlet_s, jlet_s, nI_1]; exact r2 fuel2 (by omega)
          · obtain ⟨a, r1, r2⟩ := ih (i + 1) acc fuel sx (by omega) (by omega) hsx (fun _ => rfl)
            refine ⟨a, ?_, fun fuel2 hf2 => ?_⟩
            · rw [ef_X9_which_L18, if_neg (nle36 hi36), jix_t hs (by omega), nI_clamp (by omega), jlet_s, h0, jb_s, eo, jb_s, if_pos q]
              unfold f_X9_which_L51
              rw [jlet_s, nI_1]; exact r1
            · obtain ⟨fuel2, rfl⟩ : ∃ k, fuel2 = k + 1 := ⟨fuel2 - 1, by omega⟩
              rw [ef_X10_which_L22, if_neg (nle36 hi36), g1, jlet_s, eu, jb_s, if_pos q]
              unfold f_X10_which_L53
              rw [jlet_s, jlet_s, nI_1, Int64.or_zero]; exact r2 fuel2 (by omega)
      obtain ⟨a, r1, r2⟩ := lx 36 0 0 FU σx (by omega) (by unfold FU; omega) q1 (by omega)
      exact ⟨a, sx, r1, rfl, r2 FU (by unfold FU; omega)⟩
    obtain ⟨acc, σ', h3, h4, h5⟩ := h1
    rw [h3, h5, h4]
    exact ⟨_, _, _, rfl, rfl, hRel2⟩
  · rw [e1, e2, jb_s, jb_s, if_neg hw, if_neg hw]
    exact ⟨_, _, _, rfl, rfl, hRel⟩
