/-! ===== sets of cells that may be ===== -/
theorem bit_lN (k i : Nat) (hi : i < 64) : bit (lN k) i = k.testBit i := by
  show (BitVec.ofNat 64 k).getLsbD i = _
  rw [BitVec.getLsbD_ofNat]
  simp [hi]
theorem hi_mask : ∀ i, i < 64 → bit (-68719476736) i = decide (36 ≤ i) := by decide +kernel
theorem cells2 (x : Int64) : (f_X9_areCells x = 1 ∧ f_X10_areCells x = 1 ∧ ∀ b, 36 ≤ b → bit x b = false) ∨ (f_X9_areCells x = 0 ∧ f_X10_areCells x = 0) := by
  have hx : (x &&& -68719476736 = 0) ↔ ∀ b, 36 ≤ b → bit x b = false := by
    rw [bit_eq0]
    constructor
    · intro h b hb
      rcases Nat.lt_or_ge b 64 with q | q
      · have w := h b q
        rw [bit_and, hi_mask b q, decide_eq_true hb, Bool.and_true] at w
        exact w
      · exact bit_big q
    · intro h i hi
      rw [bit_and, hi_mask i hi]
      by_cases q : 36 ≤ i
      · rw [h i q]; rfl
      · rw [decide_eq_false q, Bool.and_false]
  unfold f_X9_areCells f_X10_areCells
  by_cases h : ∀ b, 36 ≤ b → bit x b = false
  · refine Or.inl ⟨if_neg (fun q => q (hx.mpr h)), ?_, h⟩
    have h0 : ¬ x < 0 := by
      intro q
      have w := h 63 (by omega)
      rw [Int64.lt_iff_toInt_lt] at q
      have : x.toBitVec.msb = true := by
        rw [BitVec.msb_eq_toInt]
        exact decide_eq_true q
      rw [BitVec.msb_eq_getLsbD_last] at this
      unfold bit at w
      rw [show 64 - 1 = 63 from rfl, w] at this
      cases this
    obtain ⟨k, hk, rfl⟩ := pk_lOf h0
    have hk2 : k < 2 ^ 36 := Nat.lt_pow_two_of_testBit k (fun i hi => by
      rcases Nat.lt_or_ge i 64 with q | q
      · rw [← bit_lN k i q]; exact h i hi
      · exact Nat.testBit_lt_two_pow (Nat.lt_of_lt_of_le hk (Nat.pow_le_pow_right (by decide) (by omega))))
    rw [if_neg h0, if_neg]
    show ¬ lN 68719476735 < lN k
    rw [pk_lLT (by decide) hk]
    omega
  · refine Or.inr ⟨if_pos (fun q => h (hx.mp q)), ?_⟩
    by_cases h0 : x < 0
    · exact if_pos h0
    · rw [if_neg h0, if_pos]
      obtain ⟨k, hk, rfl⟩ := pk_lOf h0
      show lN 68719476735 < lN k
      rw [pk_lLT (by decide) hk]
      rcases Nat.lt_or_ge 68719476735 k with q | q
      · exact q
      · refine absurd (fun b hb => ?_) h
        rcases Nat.lt_or_ge b 64 with z | z
        · rw [bit_lN k b z]
          exact Nat.testBit_lt_two_pow (Nat.lt_of_lt_of_le (show k < 2 ^ 36 by omega) (Nat.pow_le_pow_right (by decide) hb))
        · exact bit_big z
theorem floor_bit {S : Nat → Int64} {σ : ST} (h : gB σ 14 0 = S 0) {c : Nat} (hc : c < 64) : bit (f_X3_floor σ) c = (decide (c < 36) && !bit (S 0) c) := by
  unfold f_X3_floor
  rw [show Int32.toNatClampNeg 0 = 0 from rfl, h, bit_and, bit_36, bit_not _ hc]
/-! ===== whether it holds ===== -/
def hb (W : Int64) (set : Int64) (k : Nat) (V : Nat → Int64) : Bool := (List.range 36).all (fun c => !(bit set c && !bit W c) || decide (Zgap V c ≤ k))
theorem hb_iff {W set : Int64} {k : Nat} {V : Nat → Int64} : hb W set k V = true ↔ ∀ c, c < 36 → bit set c = true → bit W c = false → Zgap V c ≤ k := by
  unfold hb
  rw [List.all_eq_true]
  constructor
  · intro h c hc h1 h2
    have w := h c (List.mem_range.mpr hc)
    rw [h1, h2] at w
    simpa using w
  · intro h c hc
    have hc' := List.mem_range.mp hc
    cases h1 : bit set c with
    | false => rfl
    | true =>
      cases h2 : bit W c with
      | true => rfl
      | false =>
        have := h c hc' h1 h2
        simpa using this
theorem mholdsBy {S : Nat → Int64} {r n k : Nat} {T : TT} {G : Nat → Nat → Nat} {σ : ST} (p : Nat → Bool) {m : Int32} (hm : ∀ g, g < n → bt m g = p g) (hM : VM S r T G n σ) (h : ∀ g, g < n → ∀ t, t < 24 → gB σ 22 (24 * g + t) = Zthr S T (G g) g t) (set : Int64) (hk : k ≤ 24) : f_X10_holdsBy set (nI k) m σ = some (bI (hb (S 0) set k (ZV S T G n p))) := by
  unfold f_X10_holdsBy
  refine jloop (fun f i (x : Unit) => f_X10_holdsBy_L3 f set (nI k) m (nI i) σ) 36 (fun i _ => ∀ c, c < i → bit set c = true → bit (S 0) c = false → Zgap (ZV S T G n p) c ≤ k) (fun r => r = some (bI (hb (S 0) set k (ZV S T G n p)))) ?_ ?_ FU 0 () (by omega) (by unfold FU; omega) (fun c hc => absurd hc (Nat.not_lt_zero _))
  · intro f i _ hi hp
    have hnext : f_X10_holdsBy_L47 (f_X10_holdsBy_L3 f) set (nI k) m (nI i) σ = f_X10_holdsBy_L3 f set (nI k) m (nI (i + 1)) σ := by
      unfold f_X10_holdsBy_L47
      rw [jlet_s, nI_1]
    have e : f_X10_holdsBy_L3 (f + 1) set (nI k) m (nI i) σ = if bI (bit set i && !bit (S 0) i) = 0 then f_X10_holdsBy_L3 f set (nI k) m (nI (i + 1)) σ else if nI (Zgap (ZV S T G n p) i) ≤ nI k then f_X10_holdsBy_L3 f set (nI k) m (nI (i + 1)) σ else some 0 := by
      rw [ef_X10_holdsBy_L3, if_neg (nle36 hi), show Int32.toNatClampNeg 0 = 0 from rfl, hM.1.1.1, has_b _ (by omega), bit_and, bit_not _ (by omega), jlet_s, malone p hm hM h hi, jb_s, mgap, jb_s, hnext]
    have hg := Zgap_le (ZV S T G n p) i
    cases h1 : (bit set i && !bit (S 0) i) with
    | false =>
      refine Or.inr ⟨(), fun c hc h2 h3 => ?_, ?_⟩
      · rcases (show c < i ∨ c = i by omega) with q | q
        · exact hp c q h2 h3
        · subst q; rw [h2, h3] at h1; cases h1
      · show f_X10_holdsBy_L3 (f + 1) set (nI k) m (nI i) σ = _
        rw [e, h1, if_pos (by decide)]
    | true =>
      rw [Bool.and_eq_true, Bool.not_eq_true'] at h1
      by_cases q : Zgap (ZV S T G n p) i ≤ k
      · refine Or.inr ⟨(), fun c hc h2 h3 => ?_, ?_⟩
        · rcases (show c < i ∨ c = i by omega) with z | z
          · exact hp c z h2 h3
          · subst z; exact q
        · show f_X10_holdsBy_L3 (f + 1) set (nI k) m (nI i) σ = _
          rw [e, h1.1, h1.2, if_neg (by decide), if_pos (nI_le q (by omega))]
      · refine Or.inl ?_
        show f_X10_holdsBy_L3 (f + 1) set (nI k) m (nI i) σ = _
        rw [e, h1.1, h1.2, if_neg (by decide), if_neg (nI_ge (by omega) (by omega))]
        have : hb (S 0) set k (ZV S T G n p) = false := by
          cases z : hb (S 0) set k (ZV S T G n p) with
          | false => rfl
          | true => exact absurd (hb_iff.mp z i hi h1.1 h1.2) q
        rw [this]; rfl
  · intro f _ hp
    show f_X10_holdsBy_L3 (f + 1) set (nI k) m (nI 36) σ = _
    rw [ef_X10_holdsBy_L3, if_pos (by decide), hb_iff.mpr hp]; rfl
def bH : Nat → Bool := fun k => k == 6 || k == 41 || k == 49
theorem okXX_H : okXX aO bH := ⟨⟨rfl, fun t ht => ⟨rfl, rfl⟩, rfl⟩, rfl, rfl, rfl, rfl, rfl, rfl⟩
theorem CX.H {S : Nat → Int64} {T : TT} {G : Nat → Nat → Nat} {n : Nat} {σ σ' : ST} (h : CX S T G n σ) (f : Fr aO bH σ σ') (hn : n ≤ 5) : CX S T G n σ' := h.fr f hn rfl (fun g hg => by unfold bH; simp; omega) rfl
theorem Fr.H1 {σ σ' : ST} (h : Fr aO b41 σ σ') : Fr aO bH σ σ' := h.mono (fun _ q => q) (fun k q => by unfold bH at q; unfold b41; simp at q ⊢; omega)
theorem Fr.H2 {σ σ' : ST} (h : Fr aO bG σ σ') : Fr aO bH σ σ' := h.mono (fun _ q => q) (fun k q => by unfold bH at q; unfold bG; simp at q ⊢; omega)
theorem REL.h {S : Nat → Int64} {r n nT : Nat} {G : Nat → Nat → Nat} {Tx : Nat → TT} {σx σm σx' : ST} (hS : WS36 S) (hX : VX S r (Tx r) G n σx) (hM : VM S r (Tx r) G n σm) (hC : CX S (Tx r) G n σx) (hr : r < nT) (hR : rest nT Tx σx σm) (fx : Fr aO bH σx σx') : REL σx' σm := REL.x hS hX hM hC hr hR (b := bH) (fx.mono (fun _ _ => rfl) (fun _ q => q)) (fun k q => by unfold bQ at q; unfold bH; simp at q ⊢; omega) rfl (fun g hg => by unfold bH; simp; omega) rfl
/-- the rows as they would be without some guards -/
theorem xwithout {S : Nat → Int64} {r n : Nat} {T : TT} {G : Nat → Nat → Nat} {σ : ST} (hX : VX S r T G n σ) (hC : CX S T G n σ) (p : Nat → Bool) {m : Int32} (hm : ∀ g, g < n → bt m g = !p g) : ∃ σ', f_X8_supposeBribed m σ = some σ' ∧ Fr aO b41 σ σ' ∧ ∀ t, t < 24 → gB σ' 41 t = ZV S T G n p t := by
  obtain ⟨s, e1, f1, e3⟩ := xsupBribed hX.2.2.1 hX.2.1 m
  refine ⟨s, e1, f1, fun t ht => ?_⟩
  rw [e3 t ht]
  exact Zor_cong (fun g hg => by rw [hm g hg, Bool.not_not]) (fun g hg _ => (hC.1 g hg).1 t ht)
theorem xholdsW {S : Nat → Int64} {r n k : Nat} {T : TT} {G : Nat → Nat → Nat} {σ σ0 : ST} (h0 : f_X8_refresh σ = some σ0) (hX : VX S r T G n σ0) (hC : CX S T G n σ0) (p : Nat → Bool) {m : Int32} (hm : ∀ g, g < n → bt m g = !p g) (set : Int64) (hk : k ≤ 24) : ∃ σ', f_X9_holdsWithout m set (nI k) σ = some (bI (hb (S 0) set k (ZV S T G n p)), σ') ∧ Fr aO bH σ0 σ' := by
  obtain ⟨s1, e1, f1, r1⟩ := xwithout hX hC p hm
  have hX1 := hX.fr f1 okXX_41
  obtain ⟨s2, q, e2, f2, hq, b1, b2, -⟩ := xgreatest (V := ZV S T G n p) (o := 41) rfl (set &&& f_X3_floor s1) r1
  refine ⟨s2, ?_, f1.H1.trans f2.H2⟩
  unfold f_X9_holdsWithout
  rw [h0, jb_s, e1, jb_s, jlet_s, e2, jbp_s]
  have hfb : ∀ c, c < 64 → bit (set &&& f_X3_floor s1) c = (bit set c && (decide (c < 36) && !bit (S 0) c)) := fun c hc => by
    rw [bit_and, floor_bit hX1.1.1.1 hc]
  by_cases z : k < q
  · rw [if_pos (nI_lt z (by omega))]
    have : hb (S 0) set k (ZV S T G n p) = false := by
      cases w : hb (S 0) set k (ZV S T G n p) with
      | false => rfl
      | true =>
        rcases b2 with b2 | ⟨c, h1, h2, h3⟩
        · omega
        · rw [hfb c h1, Bool.and_eq_true, Bool.and_eq_true, Bool.not_eq_true'] at h2
          have := hb_iff.mp w c (of_decide_eq_true h2.2.1) h2.1 h2.2.2
          omega
    rw [this]; rfl
  · rw [if_neg (nI_nlt (by omega) (by omega))]
    have : hb (S 0) set k (ZV S T G n p) = true := hb_iff.mpr (fun c hc h1 h2 => by
      have := b1 c (by omega) (by rw [hfb c (by omega), h1, h2, decide_eq_true hc]; rfl)
      omega)
    rw [this]; rfl
theorem refresh_0 {σ : ST} (h : gA σ 5 3 = 0) : f_X8_refresh σ = some σ := by
  unfold f_X8_refresh
  rw [if_neg (fun q => q h)]
theorem pow_n {n : Nat} {σ : ST} (h : gA σ 2 6 = nI n) (hn : n ≤ 5) : jshl 1 (gA σ 2 6) = nI (2 ^ n) ∧ 2 ^ n ≤ 32 ∧ 1 ≤ 2 ^ n := by
  rw [h]
  rcases (show n = 0 ∨ n = 1 ∨ n = 2 ∨ n = 3 ∨ n = 4 ∨ n = 5 by omega) with rfl | rfl | rfl | rfl | rfl | rfl
  all_goals exact ⟨by decide, by decide, by decide⟩
theorem op_holds : OP_holds REL := by
  intro σx σm x1 x2 hRel
  obtain ⟨S, r, G, n, nT, Tx, hS, hX, hM, hC, hr, hR⟩ := id hRel
  unfold f_X9_holds f_X10_holds_
  rcases cells2 x1 with ⟨e1, e2, hc⟩ | ⟨e1, e2⟩
  · rcases wN x2 (m := 24) (by omega) with ⟨k, hk, rfl, e5⟩ | e5
    · obtain ⟨sx, sm, -, q1, q2, hX2, hM2, -, hC2, hR2, hrow, hRel2⟩ := now hS hX hM hC hr hR
      obtain ⟨g1, g2⟩ := allG hM2.2.1 hM2.2.2.1
      simp only [e1, e2, jlet_s, ifN1, ifN0, if10, if00, q2, jb_s, g1, show f_X9_isWithin (nI k) 24 = 1 from e5, show f_X10_in (nI k) 0 24 = 1 from e5]
      obtain ⟨s3, e6, f6⟩ := xholdsW q1 hX2 hC2 (fun _ => true) (m := 0) (fun g _ => by rw [bt_0]; rfl) x1 hk
      rw [e6, mholdsBy (fun _ => true) g2 hM2 hrow x1 hk, jbp_s, jb_s]
      have fin := REL.h hS hX2 hM2 hC2 hr hR2 f6
      cases hb (S 0) x1 k (ZV S (Tx r) G n (fun _ => true))
      · exact ⟨0, s3, sm, rfl, rfl, fin⟩
      · exact ⟨1, s3, sm, rfl, rfl, fin⟩
    · simp only [e1, e2, jlet_s, ifN1, ifN0, if10, if00, show f_X9_isWithin x2 24 = 0 from e5, show f_X10_in x2 0 24 = 0 from e5]
      exact ⟨_, _, _, rfl, rfl, hRel⟩
  · rw [e1, e2]
    exact ⟨_, _, _, rfl, rfl, hRel⟩
theorem mask_not {n i : Nat} (g2 : ∀ g, g < n → bt (nI (2 ^ n - 1)) g = true) (hn : n ≤ 5) : ∀ g, g < n → bt (nI (2 ^ n - 1) &&& (nI i ^^^ (-1))) g = !bt (nI i) g := fun g hg => by
  rw [bt_and, g2 g hg, bt_not _ (by omega), Bool.true_and]
theorem op_bribes : OP_bribes REL := by
  intro σx σm x1 x2 hRel
  obtain ⟨S, r, G, n, nT, Tx, hS, hX, hM, hC, hr, hR⟩ := id hRel
  unfold f_X9_bribes f_X10_bribes
  rcases cells2 x1 with ⟨e1, e2, hc⟩ | ⟨e1, e2⟩
  · rcases wN x2 (m := 24) (by omega) with ⟨k, hk, rfl, e5⟩ | e5
    · obtain ⟨sx, sm, -, q1, q2, hX2, hM2, hst, hC2, hR2, hrow, hRel2⟩ := now hS hX hM hC hr hR
      have hn := hX.2.2.1
      obtain ⟨g1, g2⟩ := allG hM2.2.1 hM2.2.2.1
      simp only [e1, e2, jlet_s, ifN1, ifN0, if10, if00, q2, jb_s, show f_X9_isWithin (nI k) 24 = 1 from e5, show f_X10_in (nI k) 0 24 = 1 from e5]
      have lx : ∀ k0 i acc fuel σ σ0, i + k0 = 2 ^ n → k0 < fuel → gA σ 2 6 = nI n → f_X8_refresh σ = some σ0 → Fr aO bH sx σ0 → (k0 = 0 → σ = σ0) → ∃ a σ', f_X9_bribes_L24 fuel x1 (nI k) acc (nI i) σ = some (a, σ') ∧ Fr aO bH sx σ' ∧ ∀ fuel2, k0 < fuel2 → f_X10_bribes_L29 fuel2 x1 (nI k) acc (nI i) sm = some (a, sm) := by
        intro k0
        induction k0 with
        | zero =>
          intro i acc fuel σ σ0 hi hf h6 h0 hfr h00
          obtain ⟨fuel, rfl⟩ : ∃ k, fuel = k + 1 := ⟨fuel - 1, by omega⟩
          obtain ⟨p1, p2, p3⟩ := pow_n h6 hn
          refine ⟨acc, σ, ?_, by rw [h00 rfl]; exact hfr, fun fuel2 hf2 => ?_⟩
          · rw [ef_X9_bribes_L24, p1, if_pos (nI_le (by omega) (by omega))]
          · obtain ⟨fuel2, rfl⟩ : ∃ k, fuel2 = k + 1 := ⟨fuel2 - 1, by omega⟩
            rw [ef_X10_bribes_L29, g1, jlet_s, if_pos (nI_lt (by omega) (by omega))]
        | succ k0 ih =>
          intro i acc fuel σ σ0 hi hf h6 h0 hfr h00
          obtain ⟨fuel, rfl⟩ : ∃ k, fuel = k + 1 := ⟨fuel - 1, by omega⟩
          obtain ⟨p1, p2, p3⟩ := pow_n h6 hn
          have hX3 := hX2.fr hfr okXX_H
          have hC3 := hC2.H hfr hn
          obtain ⟨s3, e6, f6⟩ := xholdsW h0 hX3 hC3 (fun g => !bt (nI i) g) (m := nI i) (fun g _ => by rw [Bool.not_not]) x1 hk
          have f7 := hfr.trans f6
          have m6 := mholdsBy (fun g => !bt (nI i) g) (mask_not g2 hn) hM2 hrow x1 hk
          have z : gA s3 5 3 = 0 := by rw [f7.A rfl]; exact hst
          have h63 : gA s3 2 6 = nI n := by rw [f7.2.2]; exact hX2.2.1
          cases hq : hb (S 0) x1 k (ZV S (Tx r) G n (fun g => !bt (nI i) g)) with
          | false =>
            rw [hq] at e6 m6
            obtain ⟨a, σ', r1, r2, r3⟩ := ih (i + 1) acc fuel s3 s3 (by omega) (by omega) h63 (refresh_0 z) f7 (fun _ => rfl)
            refine ⟨a, σ', ?_, r2, fun fuel2 hf2 => ?_⟩
            · rw [ef_X9_bribes_L24, p1, if_neg (nI_ge (by omega) (by omega)), e6, jbp_s, if_pos (by decide)]
              unfold f_X9_bribes_L58
              rw [jlet_s, nI_1]; exact r1
            · obtain ⟨fuel2, rfl⟩ : ∃ k, fuel2 = k + 1 := ⟨fuel2 - 1, by omega⟩
              rw [ef_X10_bribes_L29, g1, jlet_s, if_neg (nI_nlt (by omega) (by omega)), jlet_s, m6, jb_s, if_pos (by decide)]
              unfold f_X10_bribes_L66
              rw [jlet_s, jlet_s, nI_1, Int32.or_zero]; exact r3 fuel2 (by omega)
          | true =>
            rw [hq] at e6 m6
            obtain ⟨a, σ', r1, r2, r3⟩ := ih (i + 1) (acc ||| jshl 1 (nI i)) fuel s3 s3 (by omega) (by omega) h63 (refresh_0 z) f7 (fun _ => rfl)
            refine ⟨a, σ', ?_, r2, fun fuel2 hf2 => ?_⟩
            · rw [ef_X9_bribes_L24, p1, if_neg (nI_ge (by omega) (by omega)), e6, jbp_s, if_neg (by decide), jlet_s]
              unfold f_X9_bribes_L58
              rw [jlet_s, nI_1]; exact r1
            · obtain ⟨fuel2, rfl⟩ : ∃ k, fuel2 = k + 1 := ⟨fuel2 - 1, by omega⟩
              rw [ef_X10_bribes_L29, g1, jlet_s, if_neg (nI_nlt (by omega) (by omega)), jlet_s, m6, jb_s, if_neg (by decide)]
              unfold f_X10_bribes_L66
              rw [jlet_s, jlet_s, nI_1]; exact r3 fuel2 (by omega)
      obtain ⟨p1, p2, p3⟩ := pow_n hX.2.1 hn
      obtain ⟨a, σ', r1, r2, r3⟩ := lx (2 ^ n) 0 0 FU σx sx (by omega) (by unfold FU; omega) hX.2.1 q1 Fr.rf (by omega)
      exact ⟨a, σ', sm, r1, r3 FU (by unfold FU; omega), REL.h hS hX2 hM2 hC2 hr hR2 r2⟩
    · simp only [e1, e2, jlet_s, ifN1, ifN0, if10, if00, show f_X9_isWithin x2 24 = 0 from e5, show f_X10_in x2 0 24 = 0 from e5]
      exact ⟨_, _, _, rfl, rfl, hRel⟩
  · rw [e1, e2]
    exact ⟨_, _, _, rfl, rfl, hRel⟩
def pcv (v : Nat) : Nat := (f_J6_bitCount_0f7a4 (nI v)).toNatClampNeg
theorem pcv_n : ∀ v, v < 32 → f_J6_bitCount_0f7a4 (nI v) = nI (pcv v) ∧ f_X10_bitsOf (nI v).toInt64 = some (nI (pcv v)) ∧ pcv v ≤ 5 := by decide +kernel
theorem op_fewest : OP_fewest REL := by
  intro σx σm x1 x2 x3 hRel
  obtain ⟨S, r, G, n, nT, Tx, hS, hX, hM, hC, hr, hR⟩ := id hRel
  unfold f_X9_fewest f_X10_fewest
  rcases cells2 x1 with ⟨e1, e2, hc⟩ | ⟨e1, e2⟩
  · rcases wN x2 (m := 24) (by omega) with ⟨k, hk, rfl, e5⟩ | e5
    · rcases wN x3 (m := 1) (by omega) with ⟨w, hw, rfl, e7⟩ | e7
      · obtain ⟨sx, sm, -, q1, q2, hX2, hM2, hst, hC2, hR2, hrow, hRel2⟩ := now hS hX hM hC hr hR
        have hn := hX.2.2.1
        obtain ⟨g1, g2⟩ := allG hM2.2.1 hM2.2.2.1
        obtain ⟨p1, p2, p3⟩ := pow_n hX.2.1 hn
        simp only [e1, e2, jlet_s, ifN1, ifN0, if10, if00, q2, jb_s, show f_X9_isWithin (nI k) 24 = 1 from e5, show f_X10_in (nI k) 0 24 = 1 from e5, show f_X9_isWithin (nI w) 1 = 1 from e7, show f_X10_in (nI w) 0 1 = 1 from e7, p1, show nI (2 ^ n) - 1 = nI (2 ^ n - 1) from pk_sub (b := 1) p3]
        have fin : ∀ best num, ((best = -1 ∧ num = 6) ∨ ∃ b, b < 32 ∧ best = nI b ∧ num = nI (pcv b)) → ∀ σ : ST, (∃ a, (if nI w = 0 then some (best, σ) else if ¬ best = -1 then some (num, σ) else some (best, σ)) = some (a, σ) ∧ (if nI w = 0 then some (best, sm) else if ¬ best = -1 then jb (f_X10_bitsOf best.toInt64) (fun y3 => some (y3, sm)) else some (best, sm)) = some (a, sm)) := by
          intro best num hbn σ
          by_cases hw0 : nI w = 0
          · exact ⟨best, by rw [if_pos hw0], by rw [if_pos hw0]⟩
          · rw [if_neg hw0, if_neg hw0]
            rcases hbn with ⟨rfl, rfl⟩ | ⟨b, hb32, rfl, rfl⟩
            · exact ⟨-1, by rw [if_neg (fun q => q rfl)], by rw [if_neg (fun q => q rfl)]⟩
            · have hne := nI_ne_m1 b (by omega)
              exact ⟨nI (pcv b), by rw [if_pos hne], by rw [if_pos hne, (pcv_n b hb32).2.1]; rfl⟩
        have lx : ∀ k0 i best num fuel σ, i + k0 = 2 ^ n → k0 < fuel → ((Fr aO bH sx σ ∧ ((best = -1 ∧ num = 6) ∨ ∃ b, b < 32 ∧ best = nI b ∧ num = nI (pcv b))) ∨ (i = 0 ∧ σ = σx ∧ best = -1 ∧ num = 6)) → ∃ a σ', f_X9_fewest_L54 fuel x1 (nI k) (nI w) (nI (2 ^ n - 1)) best num (nI i) σ = some (a, σ') ∧ Fr aO bH sx σ' ∧ ∀ fuel2, k0 < fuel2 → f_X10_fewest_L43 fuel2 x1 (nI k) (nI w) best (nI i) sm = some (a, sm) := by
          intro k0
          induction k0 with
          | zero =>
            intro i best num fuel σ hi hf hinv
            obtain ⟨fuel, rfl⟩ : ∃ k, fuel = k + 1 := ⟨fuel - 1, by omega⟩
            rcases hinv with ⟨hfr, hbn⟩ | ⟨h, _⟩
            · obtain ⟨a, r1, r2⟩ := fin best num hbn σ
              refine ⟨a, σ, ?_, hfr, fun fuel2 hf2 => ?_⟩
              · rw [ef_X9_fewest_L54, if_pos (nI_lt (by omega) (by omega))]; exact r1
              · obtain ⟨fuel2, rfl⟩ : ∃ k, fuel2 = k + 1 := ⟨fuel2 - 1, by omega⟩
                rw [ef_X10_fewest_L43, g1, jlet_s, if_pos (nI_lt (by omega) (by omega))]; exact r2
            · omega
          | succ k0 ih =>
            intro i best num fuel σ hi hf hinv
            obtain ⟨fuel, rfl⟩ : ∃ k, fuel = k + 1 := ⟨fuel - 1, by omega⟩
            obtain ⟨c1, c2, c3⟩ := pcv_n i (by omega)
            have hbn : (best = -1 ∧ num = 6) ∨ ∃ b, b < 32 ∧ best = nI b ∧ num = nI (pcv b) := by
              rcases hinv with ⟨_, h⟩ | ⟨_, _, h1, h2⟩
              · exact h
              · exact Or.inl ⟨h1, h2⟩
            obtain ⟨σ0, h0, hfr⟩ : ∃ σ0, f_X8_refresh σ = some σ0 ∧ Fr aO bH sx σ0 := by
              rcases hinv with ⟨h, _⟩ | ⟨_, h1, _⟩
              · exact ⟨σ, refresh_0 (by rw [h.A rfl]; exact hst), h⟩
              · exact ⟨sx, by rw [h1]; exact q1, Fr.rf⟩
            have hX3 := hX2.fr hfr okXX_H
            have hC3 := hC2.H hfr hn
            obtain ⟨s3, e6, f6⟩ := xholdsW h0 hX3 hC3 (fun g => bt (nI i) g) (m := nI (2 ^ n - 1) &&& (nI i ^^^ (-1))) (mask_not g2 hn) x1 hk
            have f7 := hfr.trans f6
            have m6 := mholdsBy (fun g => bt (nI i) g) (m := nI i) (fun g _ => rfl) hM2 hrow x1 hk
            -- one that is taken, or not, when it is asked
            have asked : ¬ num ≤ nI (pcv i) → ∃ a σ', (jbp (f_X9_holdsWithout (nI (2 ^ n - 1) &&& (nI i ^^^ (-1))) x1 (nI k) σ) (fun (y3 : Int32) (s4 : ST) => (if y3 = 0 then f_X9_fewest_L98 (f_X9_fewest_L54 fuel) x1 (nI k) (nI w) (nI (2 ^ n - 1)) best num (nI i) s4 else jlet (f_J6_bitCount_0f7a4 (nI i)) (fun (y5 : Int32) => f_X9_fewest_L98 (f_X9_fewest_L54 fuel) x1 (nI k) (nI w) (nI (2 ^ n - 1)) (nI i) y5 (nI i) s4)))) = some (a, σ') ∧ Fr aO bH sx σ' ∧ ∀ fuel2, k0 < fuel2 → f_X10_fewest_L78 (f_X10_fewest_L43 fuel2) x1 (nI k) (nI w) best (nI i) 1 sm = some (a, sm) := by
              intro _
              cases hq : hb (S 0) x1 k (ZV S (Tx r) G n (fun g => bt (nI i) g)) with
              | false =>
                rw [hq] at e6 m6
                obtain ⟨a, σ', r1, r2, r3⟩ := ih (i + 1) best num fuel s3 (by omega) (by omega) (Or.inl ⟨f7, hbn⟩)
                refine ⟨a, σ', ?_, r2, fun fuel2 hf2 => ?_⟩
                · rw [e6, jbp_s, if_pos (by decide)]
                  unfold f_X9_fewest_L98
                  rw [jlet_s, nI_1]; exact r1
                · unfold f_X10_fewest_L78
                  rw [if_neg (by decide), m6, jb_s, if_pos (by decide)]
                  unfold f_X10_fewest_L101 f_X10_fewest_L103
                  rw [jlet_s, nI_1]; exact r3 fuel2 hf2
              | true =>
                rw [hq] at e6 m6
                obtain ⟨a, σ', r1, r2, r3⟩ := ih (i + 1) (nI i) (nI (pcv i)) fuel s3 (by omega) (by omega) (Or.inl ⟨f7, Or.inr ⟨i, by omega, rfl, rfl⟩⟩)
                refine ⟨a, σ', ?_, r2, fun fuel2 hf2 => ?_⟩
                · rw [e6, jbp_s, if_neg (by decide), c1, jlet_s]
                  unfold f_X9_fewest_L98
                  rw [jlet_s, nI_1]; exact r1
                · unfold f_X10_fewest_L78
                  rw [if_neg (by decide), m6, jb_s, if_neg (by decide)]
                  unfold f_X10_fewest_L103
                  rw [jlet_s, nI_1]; exact r3 fuel2 hf2
            by_cases hle : num ≤ nI (pcv i)
            · -- not fewer
              have hb2 : ∃ b, b < 32 ∧ best = nI b ∧ num = nI (pcv b) := by
                rcases hbn with ⟨h1, h2⟩ | h
                · rw [h2] at hle
                  exact absurd hle (nI_ge (b := 6) (by omega) (by omega))
                · exact h
              have hfr2 : Fr aO bH sx σ := by
                rcases hinv with ⟨h, _⟩ | ⟨_, _, _, h2⟩
                · exact h
                · rw [h2] at hle
                  exact absurd hle (nI_ge (b := 6) (by omega) (by omega))
              obtain ⟨a, σ', r1, r2, r3⟩ := ih (i + 1) best num fuel σ (by omega) (by omega) (Or.inl ⟨hfr2, hbn⟩)
              refine ⟨a, σ', ?_, r2, fun fuel2 hf2 => ?_⟩
              · rw [ef_X9_fewest_L54, if_neg (nI_nlt (by omega) (by omega)), c1, jlet_s, if_pos hle]
                unfold f_X9_fewest_L98
                rw [jlet_s, nI_1]; exact r1
              · obtain ⟨fuel2, rfl⟩ : ∃ k, fuel2 = k + 1 := ⟨fuel2 - 1, by omega⟩
                obtain ⟨b, hb32, h1, h2⟩ := hb2
                have w3 := r3 fuel2 (by omega)
                rw [h1] at w3
                rw [h2] at hle
                rw [ef_X10_fewest_L43, g1, jlet_s, if_neg (nI_nlt (by omega) (by omega)), h1, if_neg (nI_ne_m1 b (by omega)), c2, jb_s, (pcv_n b hb32).2.1, jb_s, if_pos hle]
                unfold f_X10_fewest_L78 f_X10_fewest_L101 f_X10_fewest_L103
                rw [if_pos rfl, jlet_s, nI_1]; exact w3
            · obtain ⟨a, σ', r1, r2, r3⟩ := asked hle
              refine ⟨a, σ', ?_, r2, fun fuel2 hf2 => ?_⟩
              · rw [ef_X9_fewest_L54, if_neg (nI_nlt (by omega) (by omega)), c1, jlet_s, if_neg hle]
                simp only [c1] at r1
                exact r1
              · obtain ⟨fuel2, rfl⟩ : ∃ k, fuel2 = k + 1 := ⟨fuel2 - 1, by omega⟩
                have w3 := r3 fuel2 (by omega)
                rw [ef_X10_fewest_L43, g1, jlet_s, if_neg (nI_nlt (by omega) (by omega))]
                rcases hbn with ⟨h1, h2⟩ | ⟨b, hb32, h1, h2⟩
                · rw [if_pos h1]; exact w3
                · rw [h1] at w3
                  rw [h2] at hle
                  rw [h1, if_neg (nI_ne_m1 b (by omega)), c2, jb_s, (pcv_n b hb32).2.1, jb_s, if_neg hle]
                  exact w3
        obtain ⟨a, σ', r1, r2, r3⟩ := lx (2 ^ n) 0 (-1) 6 FU σx (by omega) (by unfold FU; omega) (Or.inr ⟨rfl, rfl, rfl, rfl⟩)
        exact ⟨a, σ', sm, r1, r3 FU (by unfold FU; omega), REL.h hS hX2 hM2 hC2 hr hR2 r2⟩
      · simp only [e1, e2, jlet_s, ifN1, ifN0, if10, if00, show f_X9_isWithin (nI k) 24 = 1 from e5, show f_X10_in (nI k) 0 24 = 1 from e5, show f_X9_isWithin x3 1 = 0 from e7, show f_X10_in x3 0 1 = 0 from e7]
        exact ⟨_, _, _, rfl, rfl, hRel⟩
    · simp only [e1, e2, jlet_s, ifN1, ifN0, if10, if00, show f_X9_isWithin x2 24 = 0 from e5, show f_X10_in x2 0 24 = 0 from e5]
      exact ⟨_, _, _, rfl, rfl, hRel⟩
  · rw [e1, e2]
    exact ⟨_, _, _, rfl, rfl, hRel⟩
/-! ===== told seconds, with guards gone, by other laws ===== -/
theorem op_gone : OP_gone REL := by
  intro σx σm x1 x2 hRel
  obtain ⟨S, r, G, n, nT, Tx, hS, hX, hM, hC, hr, hR⟩ := id hRel
  unfold f_X9_gone f_X10_gone
  rcases told hR.2.2.2.1 x1 x2 with ⟨s, c, hs, hc, rfl, rfl, e1, e2⟩ | ⟨w, hw, e1, e2⟩
  · obtain ⟨sx, sm, -, q1, q2, hX2, hM2, hst, hC2, hR2, hrow, hRel2⟩ := now hS hX hM hC hr hR
    have hn := hX.2.2.1
    obtain ⟨g1, g2⟩ := allG hM2.2.1 hM2.2.2.1
    simp only [e1, e2, jlet_s, ifN1, ifN0, if10, if00, q1, q2, jb_s]
    have lx : ∀ k0 i acc fuel σ, i + k0 = 2 ^ n → k0 < fuel → Fr aO bH sx σ → ∃ a σ', f_X9_gone_L23 fuel (nI s) (nI c) acc (nI i) σ = some (a, σ') ∧ Fr aO bH sx σ' ∧ ∀ fuel2, k0 < fuel2 → f_X10_gone_L20 fuel2 (nI s) (nI c) acc (nI i) sm = some (a, sm) := by
      intro k0
      induction k0 with
      | zero =>
        intro i acc fuel σ hi hf hfr
        obtain ⟨fuel, rfl⟩ : ∃ k, fuel = k + 1 := ⟨fuel - 1, by omega⟩
        obtain ⟨p1, p2, p3⟩ := pow_n (show gA σ 2 6 = nI n by rw [hfr.2.2]; exact hX2.2.1) hn
        refine ⟨acc, σ, ?_, hfr, fun fuel2 hf2 => ?_⟩
        · rw [ef_X9_gone_L23, p1, if_pos (nI_le (by omega) (by omega))]
        · obtain ⟨fuel2, rfl⟩ : ∃ k, fuel2 = k + 1 := ⟨fuel2 - 1, by omega⟩
          rw [ef_X10_gone_L20, g1, jlet_s, if_pos (nI_lt (by omega) (by omega))]
      | succ k0 ih =>
        intro i acc fuel σ hi hf hfr
        obtain ⟨fuel, rfl⟩ : ∃ k, fuel = k + 1 := ⟨fuel - 1, by omega⟩
        obtain ⟨p1, p2, p3⟩ := pow_n (show gA σ 2 6 = nI n by rw [hfr.2.2]; exact hX2.2.1) hn
        have hX3 := hX2.fr hfr okXX_H
        have hC3 := hC2.H hfr hn
        obtain ⟨s3, e6, f6, r6⟩ := xwithout hX3 hC3 (fun g => !bt (nI i) g) (m := nI i) (fun g _ => by rw [Bool.not_not])
        have f7 := hfr.trans f6.H1
        have m6 := munlike (σx := s3) (fun g => !bt (nI i) g) (mask_not g2 hn) hM2 hrow hc hs (fun j hj => by rw [f7.1 _ rfl]; exact (hR2.2.2.2.1 s hs).2.2 j hj)
        have o6 : f_X5_firstOther (9 + s) 41 (nI c) s3 = some (Zun (gA s3 (54 + s)) (ZV S (Tx r) G n (fun g => !bt (nI i) g)) c 24 0) := by
          unfold f_X5_firstOther
          exact xother hc r6 24 0 FU (by omega) (by unfold FU; omega)
        by_cases hq : Zun (gA s3 (54 + s)) (ZV S (Tx r) G n (fun g => !bt (nI i) g)) c 24 0 = -1
        · obtain ⟨a, σ', r1, r2, r3⟩ := ih (i + 1) (acc ||| jshl 1 (nI i)) fuel s3 (by omega) (by omega) f7
          refine ⟨a, σ', ?_, r2, fun fuel2 hf2 => ?_⟩
          · rw [ef_X9_gone_L23, p1, if_neg (nI_ge (by omega) (by omega)), e6, jb_s, jix_t hs (by omega), nI_clamp (by omega), jlet_s, o6, jb_s, if_neg (fun z => z hq), jlet_s]
            unfold f_X9_gone_L74
            rw [jlet_s, nI_1]; exact r1
          · obtain ⟨fuel2, rfl⟩ : ∃ k, fuel2 = k + 1 := ⟨fuel2 - 1, by omega⟩
            rw [ef_X10_gone_L20, g1, jlet_s, if_neg (nI_nlt (by omega) (by omega)), jlet_s, m6, jb_s, if_neg (fun z => z hq)]
            unfold f_X10_gone_L57
            rw [jlet_s, jlet_s, nI_1]; exact r3 fuel2 (by omega)
        · obtain ⟨a, σ', r1, r2, r3⟩ := ih (i + 1) acc fuel s3 (by omega) (by omega) f7
          refine ⟨a, σ', ?_, r2, fun fuel2 hf2 => ?_⟩
          · rw [ef_X9_gone_L23, p1, if_neg (nI_ge (by omega) (by omega)), e6, jb_s, jix_t hs (by omega), nI_clamp (by omega), jlet_s, o6, jb_s, if_pos hq]
            unfold f_X9_gone_L74
            rw [jlet_s, nI_1]; exact r1
          · obtain ⟨fuel2, rfl⟩ : ∃ k, fuel2 = k + 1 := ⟨fuel2 - 1, by omega⟩
            rw [ef_X10_gone_L20, g1, jlet_s, if_neg (nI_nlt (by omega) (by omega)), jlet_s, m6, jb_s, if_pos hq]
            unfold f_X10_gone_L57
            rw [jlet_s, jlet_s, nI_1, Int32.or_zero]; exact r3 fuel2 (by omega)
    obtain ⟨p1, p2, p3⟩ := pow_n hX.2.1 hn
    obtain ⟨a, σ', r1, r2, r3⟩ := lx (2 ^ n) 0 0 FU sx (by omega) (by unfold FU; omega) Fr.rf
    exact ⟨a, σ', sm, r1, r3 FU (by unfold FU; omega), REL.h hS hX2 hM2 hC2 hr hR2 r2⟩
  · rw [e1, e2, jb_s, jb_s, if_neg hw, if_neg hw]
    exact ⟨_, _, _, rfl, rfl, hRel⟩
/-- all guards as they would be found now -/
theorem xallFound {S : Nat → Int64} {r n : Nat} {T : TT} {G : Nat → Nat → Nat} {σ : ST} (hX : VX S r T G n σ) (h0 : ∀ t, t < 24 → gB σ 41 t = 0) (v : Int32) : ∃ σ', f_X8_supposeLaw_L26 FU v 0 σ = some (sA σ' 4 3 v) ∧ Fr aS bF σ σ' ∧ ∀ t, t < 24 → gB σ' 41 t = ZV S T G n (fun _ => true) t := by
  have hn := hX.2.2.1
  refine jloop (fun k i s => f_X8_supposeLaw_L26 k v (nI i) s) n (fun i s => Fr aS bF σ s ∧ ∀ t, t < 24 → gB s 41 t = ZV S T G i (fun _ => true) t) (fun q => ∃ σ', q = some (sA σ' 4 3 v) ∧ Fr aS bF σ σ' ∧ ∀ t, t < 24 → gB σ' 41 t = ZV S T G n (fun _ => true) t) ?_ ?_ FU 0 σ (by omega) (by unfold FU; omega) ⟨Fr.rf, h0⟩
  · intro k i s hi ⟨p1, p2⟩
    have hv := hX.fr p1 okXX_S
    obtain ⟨s2, e1, f1, r1⟩ := xaddFound (show i < 5 by omega) hv
    refine Or.inr ⟨s2, ⟨p1.trans f1, fun t ht => ?_⟩, ?_⟩
    · rw [r1 t ht, p2 t ht]
      rfl
    · show f_X8_supposeLaw_L26 (k + 1) v (nI i) s = _
      rw [ef_X8_supposeLaw_L26, hv.2.1, if_neg (nI_ge hi (by omega)), e1, jb_s, jlet_s, nI_1]
  · intro k s ⟨p1, p2⟩
    refine ⟨s, ?_, p1, p2⟩
    show f_X8_supposeLaw_L26 (k + 1) v (nI n) s = _
    rw [ef_X8_supposeLaw_L26, (hX.fr p1 okXX_S).2.1, if_pos (Int32.le_refl _), jlet_s]
/-- another law in force -/
theorem VX.law {S : Nat → Int64} {r n t : Nat} {T T' : TT} {G : Nat → Nat → Nat} {σ : ST} (h : VX S r T G n σ) (ht : t < 6) (hT : TW T') (hx : txX σ t T') : VX S t T' G n (sA σ 4 3 (nI t)) := by
  obtain ⟨⟨s, q1, q2, q3, q4⟩, q6, q7, q8⟩ := h
  refine ⟨⟨s, by rw [gA_sA, if_pos ⟨rfl, rfl⟩], ht, hT, ⟨fun i hi => ?_, fun p hp => ?_⟩⟩, by rw [gA_sA, if_neg (by omega)]; exact q6, q7, fun g hg => ⟨?_, (q8 g hg).2⟩⟩
  · rw [gA_sA, if_neg (by omega)]; exact hx.1 i hi
  · rw [gA_sA, if_neg (by omega)]; exact hx.2 p hp
  · have := (q8 g hg).1
    unfold atX at this ⊢
    simp only [gA_sA, show ∀ k, (15 + k = 4) = False from fun k => by simp; omega]
    simpa using this
theorem VM.law {S : Nat → Int64} {r n t : Nat} {T T' : TT} {G : Nat → Nat → Nat} {σ : ST} (h : VM S r T G n σ) (ht : t < 6) (hT : TW T') (hx : txM σ t T') : VM S t T' G n (sA σ 0 13 (nI t)) := by
  obtain ⟨⟨s, q1, q2, q3, q4⟩, q6, q7, q8⟩ := h
  refine ⟨⟨s, by rw [gA_sA, if_pos ⟨rfl, rfl⟩], ht, hT, ⟨fun i hi => ?_, fun p hp => ?_⟩⟩, by rw [gA_sA, if_neg (by omega)]; exact q6, q7, fun g hg => ⟨?_, (q8 g hg).2⟩⟩
  · rw [gA_sA, if_neg (by omega)]; exact hx.1 i hi
  · rw [gA_sA, if_neg (by omega)]; exact hx.2 p hp
  · have := (q8 g hg).1
    unfold atM at this ⊢
    simp only [gA_sA]
    simpa using this
