/-! ===== counts, the worst ===== -/
theorem op_count : OP_count REL := by
  intro σx σm x1 hRel
  obtain ⟨S, r, G, n, nT, Tx, hS, hX, hM, hC, hr, hR⟩ := id hRel
  obtain ⟨⟨t1, t2, t3, t4⟩, ⟨k, p1, p2, p3, p4⟩, -⟩ := hR
  unfold f_X9_count f_X10_count
  by_cases h0 : x1 = 0
  · rw [if_pos h0, if_pos h0]
    exact ⟨_, rfl, by rw [hM.2.1, hX.2.1], hRel⟩
  rw [if_neg h0, if_neg h0]
  by_cases h1 : x1 = 1
  · rw [if_pos h1, if_pos h1]
    subst h1
    refine ⟨nI (cnt (bit (S 0)) 36), ?_, ?_, hRel⟩
    · rw [jlet_s, show Int32.toNatClampNeg 0 = 0 from rfl, hX.1.1.1, popX _ (hS 0 (by omega))]
    · rw [show (1 : Int32) - 1 = nI 0 from rfl, jix_t (by omega) (by omega), nI_clamp (by omega), hM.1.1.1, bitsM, jb_s]
  rw [if_neg h1, if_neg h1]
  by_cases h2 : x1 = 2
  · rw [if_pos h2, if_pos h2]
    subst h2
    refine ⟨nI (cnt (bit (S 1)) 36), ?_, ?_, hRel⟩
    · rw [jlet_s, show Int32.toNatClampNeg 1 = 1 from rfl, hX.1.1.2.1, popX _ (hS 1 (by omega))]
    · rw [show (2 : Int32) - 1 = nI 1 from rfl, jix_t (by omega) (by omega), nI_clamp (by omega), hM.1.1.2.1, bitsM, jb_s]
  rw [if_neg h2, if_neg h2]
  by_cases h3 : x1 = 3
  · rw [if_pos h3, if_pos h3]
    subst h3
    refine ⟨nI (cnt (bit (S 2)) 36), ?_, ?_, hRel⟩
    · rw [jlet_s, show Int32.toNatClampNeg 2 = 2 from rfl, hX.1.1.2.2, popX _ (hS 2 (by omega))]
    · rw [show (3 : Int32) - 1 = nI 2 from rfl, jix_t (by omega) (by omega), nI_clamp (by omega), hM.1.1.2.2, bitsM, jb_s]
  rw [if_neg h3, if_neg h3]
  by_cases h4 : x1 = 4
  · rw [if_pos h4, if_pos h4]
    exact ⟨_, rfl, by rw [t2, t3], hRel⟩
  rw [if_neg h4, if_neg h4]
  by_cases h5 : x1 = 5
  · rw [if_pos h5, if_pos h5]
    exact ⟨_, rfl, by rw [hX.1.2.1, hM.1.2.1], hRel⟩
  rw [if_neg h5, if_neg h5]
  by_cases h6 : x1 = 6
  · rw [if_pos h6, if_pos h6]
    exact ⟨_, rfl, by rw [p2, p3], hRel⟩
  rw [if_neg h6, if_neg h6]
  exact ⟨_, rfl, rfl, hRel⟩
theorem cnt_0 {p : Nat → Bool} : ∀ {n : Nat}, (∀ i, i < n → p i = false) → cnt p n = 0
  | 0, _ => rfl
  | n + 1, h => by
    unfold cnt
    rw [cnt_0 (fun i hi => h i (by omega)), h n (by omega)]
    rfl
theorem xfirstOf {w : Int64} {z : Nat} (h : (z = 99 ∧ ∀ c, c < 36 → bit w c = false) ∨ (z < 36 ∧ bit w z = true ∧ ∀ c, c < z → bit w c = false)) : f_X9_firstOf w = some (cI z) := by
  unfold f_X9_firstOf
  refine jloop (fun k i (_ : Unit) => f_X9_firstOf_L2 k w (nI i)) 36 (fun i _ => ∀ c, c < i → bit w c = false) (fun q => q = some (cI z)) ?_ ?_ FU 0 () (by omega) (by unfold FU; omega) (fun c hc => absurd hc (Nat.not_lt_zero _))
  · intro k i _ hi hp
    have e : f_X9_firstOf_L2 (k + 1) w (nI i) = if bI (bit w i) = 0 then f_X9_firstOf_L2 k w (nI (i + 1)) else some (nI i) := by
      rw [ef_X9_firstOf_L2, if_neg (nle36 hi), isIn_b _ (by omega), jlet_s, jlet_s, nI_1]
    cases hb : bit w i with
    | false =>
      refine Or.inr ⟨(), fun c hc => ?_, ?_⟩
      · rcases (show c < i ∨ c = i by omega) with q | q
        · exact hp c q
        · subst q; exact hb
      · show f_X9_firstOf_L2 (k + 1) w (nI i) = _
        rw [e, hb, if_pos (by decide)]
    | true =>
      refine Or.inl ?_
      show f_X9_firstOf_L2 (k + 1) w (nI i) = _
      rw [e, hb, if_neg (by decide)]
      rcases h with ⟨_, h2⟩ | ⟨h1, h2, h3⟩
      · rw [h2 i hi] at hb; cases hb
      · have : z = i := by
          rcases Nat.lt_trichotomy z i with q | q | q
          · rw [hp z q] at h2; cases h2
          · exact q
          · rw [h3 i q] at hb; cases hb
        rw [this, cI_ne hi]
  · intro k _ hp
    show f_X9_firstOf_L2 (k + 1) w (nI 36) = _
    rw [ef_X9_firstOf_L2, if_pos (by decide)]
    rcases h with ⟨h1, _⟩ | ⟨h1, h2, _⟩
    · rw [h1]; rfl
    · rw [hp z h1] at h2; cases h2
/-- the greatest gap of the floor, in both -/
theorem xfloorGap {S : Nat → Int64} {V : Nat → Int64} {o : Nat} (ho : bG o = false) {σ : ST} (h0 : gB σ 14 0 = S 0) (hV : ∀ t, t < 24 → gB σ o t = V t) : ∃ σ', f_X0_greatest o (f_X3_floor σ) σ = some (nI (Zfg V (S 0) 36).2.1, σ') ∧ Fr aO bG σ σ' ∧ (Zfg V (S 0) 36).2.1 ≤ 24 ∧ ∀ c, c < 64 → bit (gB σ' 6 0) c = ((decide (c < 36) && !bit (S 0) c) && decide ((Zfg V (S 0) 36).2.1 ≤ Zgap V c)) := by
  obtain ⟨s2, q, e2, f2, hq, b1, b2, b3⟩ := xgreatest ho (f_X3_floor σ) hV
  have hA := Zfg_a V (S 0) 36 (by omega)
  have hfb : ∀ c, c < 64 → bit (f_X3_floor σ) c = (decide (c < 36) && !bit (S 0) c) := fun c hc => floor_bit h0 hc
  have hqe : q = (Zfg V (S 0) 36).2.1 := by
    rcases hA with ⟨h1, h2, h3⟩ | ⟨h1, h2, h3, h4, h5⟩
    · rcases b2 with b2 | ⟨c, c1, c2, c3⟩
      · rw [b2, h2]
      · rw [hfb c c1, Bool.and_eq_true, Bool.not_eq_true'] at c2
        rw [h3 c (of_decide_eq_true c2.1)] at c2
        exact absurd c2.2 (by decide)
    · have u1 := b1 _ (show (Zfg V (S 0) 36).1 < 64 by omega) (by rw [hfb _ (by omega), decide_eq_true h1, h2]; rfl)
      rcases b2 with b2 | ⟨c, c1, c2, c3⟩
      · omega
      · rw [hfb c c1, Bool.and_eq_true, Bool.not_eq_true'] at c2
        have := h4 c (of_decide_eq_true c2.1) c2.2
        omega
  rw [hqe] at e2 hq b3
  exact ⟨s2, e2, f2, hq, fun c hc => by rw [b3 c hc, hfb c hc]⟩
theorem REL.g {S : Nat → Int64} {r n nT : Nat} {G : Nat → Nat → Nat} {Tx : Nat → TT} {σx σm σx' : ST} (hS : WS36 S) (hX : VX S r (Tx r) G n σx) (hM : VM S r (Tx r) G n σm) (hC : CX S (Tx r) G n σx) (hr : r < nT) (hR : rest nT Tx σx σm) (fx : Fr aO bG σx σx') : REL σx' σm := REL.h hS hX hM hC hr hR fx.H2
/-! ===== what the unseen is worth ===== -/
def Zin (S : Nat → Int64) (T : TT) (V : Nat → Int64) (t : Nat) : Nat → Nat → Int32 → Int32
  | 0, _, a => a
  | k + 1, c, a => Zin S T V t k (c + 1) (if bit (S 0) c || bit (V t) c then a else a + nI (Zsay T (nmf 0 (Zlit S c) 0 (nI t) 0 (nI c)) 2))
def Zwu (S : Nat → Int64) (T : TT) (V : Nat → Int64) : Nat → Nat → Int32 → Int32
  | 0, _, a => a
  | k + 1, t, a => Zwu S T V k (t + 1) (Zin S T V t 36 0 a)
theorem xwuIn {S : Nat → Int64} {r n t : Nat} {T : TT} {G : Nat → Nat → Nat} {V : Nat → Int64} {lone : Int64} (k4 : Int32 → Int32 → ST → Option (Int32 × ST)) (hl : ∀ c, c < 36 → bit lone c = (!bit (S 0) c && !bit (V t) c)) : ∀ k c acc fuel σ, c + k = 36 → k < fuel → VX S r T G n σ → gA σ 38 2 = 0 → gA σ 38 3 = nI t → gA σ 38 4 = 0 → ∃ σ', f_X9_worthUnseen_L40 k4 fuel acc (nI t) lone (nI c) σ = k4 (Zin S T V t k c acc) (nI (t + 1)) σ' ∧ Fr aL bW σ σ' := by
  intro k
  induction k with
  | zero =>
    intro c acc fuel σ hc hf hX n2 n3 n4
    obtain ⟨fuel, rfl⟩ : ∃ k, fuel = k + 1 := ⟨fuel - 1, by omega⟩
    have : c = 36 := by omega
    subst this
    refine ⟨σ, ?_, Fr.rf⟩
    rw [ef_X9_worthUnseen_L40, if_pos (by decide), jlet_s, nI_1]
    rfl
  | succ k ih =>
    intro c acc fuel σ hc hf hX n2 n3 n4
    obtain ⟨fuel, rfl⟩ : ∃ k, fuel = k + 1 := ⟨fuel - 1, by omega⟩
    have hc36 : c < 36 := by omega
    rw [ef_X9_worthUnseen_L40, if_neg (nle36 hc36), isIn_b _ (by omega), jlet_s, hl c hc36]
    have hn : ∀ a s, f_X9_worthUnseen_L87 k4 (f_X9_worthUnseen_L40 k4 fuel) a (nI t) lone (nI c) s = f_X9_worthUnseen_L40 k4 fuel a (nI t) lone (nI (c + 1)) s := fun a s => by
      unfold f_X9_worthUnseen_L87
      rw [jlet_s, nI_1]
    have hz : Zin S T V t (k + 1) c acc = Zin S T V t k (c + 1) (if bit (S 0) c || bit (V t) c then acc else acc + nI (Zsay T (nmf 0 (Zlit S c) 0 (nI t) 0 (nI c)) 2)) := rfl
    rw [hz]
    have hcase : (!bit (S 0) c && !bit (V t) c) = !(bit (S 0) c || bit (V t) c) := by cases bit (S 0) c <;> cases bit (V t) c <;> rfl
    rw [hcase]
    cases hb : (bit (S 0) c || bit (V t) c) with
    | true =>
      rw [if_pos (show bI (!true) = 0 by decide), hn, if_pos rfl]
      exact ih (c + 1) acc fuel σ (by omega) (by omega) hX n2 n3 n4
    | false =>
      rw [if_neg (show ¬ bI (!false) = 0 by decide), if_neg (show ¬ false = true by decide), xlit hX.1.1.2.1 hc36, jlet_s, jlet_s]
      have f2 : Fr aL bW σ (f_X6_nameCell 0 (Zlit S c) (nI c) σ) := xnameC_fr Fr.rf rfl
      have hnm := xnameC (a := 0) (b := Zlit S c) (f := nI c) n2 n3 n4
      have oL : okXX aL bW := ⟨⟨rfl, fun t ht => by
        unfold aL
        refine ⟨?_, ?_⟩ <;> simp <;> omega, rfl⟩, rfl, rfl, rfl, rfl, rfl, rfl⟩
      generalize f_X6_nameCell 0 (Zlit S c) (nI c) σ = σ2 at f2 hnm ⊢
      have hX2 := hX.fr f2 oL
      obtain ⟨σ3, e4, f3⟩ := xsays (p := 2) hX2.1.2.2.2.1 hX2.1.2.2.1 (by omega) hX2.1.2.1 hX2.1.2.2.2.2 hnm
      have f4 : Fr aL bW σ σ3 := f2.trans (f3.mono a39L (fun k _ => rfl))
      rw [show f_X6_says 2 σ2 = _ from e4, jbp_s, jlet_s, hn]
      have j2 : ∀ j, j < 6 → gA σ3 38 j = nmf 0 (Zlit S c) 0 (nI t) 0 (nI c) j := fun j hj => by rw [f3.A rfl]; exact hnm j hj
      obtain ⟨σ4, r1, r2⟩ := ih (c + 1) (acc + nI (Zsay T (nmf 0 (Zlit S c) 0 (nI t) 0 (nI c)) 2)) fuel σ3 (by omega) (by omega) (hX.fr f4 oL) (j2 2 (by omega)) (j2 3 (by omega)) (j2 4 (by omega))
      exact ⟨σ4, r1, f4.trans r2⟩
theorem okXX_L : okXX aL bW := ⟨⟨rfl, fun t ht => by
  unfold aL
  refine ⟨?_, ?_⟩ <;> simp <;> omega, rfl⟩, rfl, rfl, rfl, rfl, rfl, rfl⟩
theorem xwu {S : Nat → Int64} {r n : Nat} {T : TT} {G : Nat → Nat → Nat} {V : Nat → Int64} : ∀ k t acc fuel σ, t + k = 24 → k < fuel → VX S r T G n σ → (∀ t, t < 24 → gB σ 40 t = V t) → ∃ σ', f_X9_worthUnseen_L4 fuel acc (nI t) σ = some (Zwu S T V k t acc, σ') ∧ Fr aL bW σ σ' := by
  intro k
  induction k with
  | zero =>
    intro t acc fuel σ ht hf hX hV
    obtain ⟨fuel, rfl⟩ : ∃ k, fuel = k + 1 := ⟨fuel - 1, by omega⟩
    have : t = 24 := by omega
    subst this
    refine ⟨σ, ?_, Fr.rf⟩
    rw [ef_X9_worthUnseen_L4, if_pos (by decide)]
    rfl
  | succ k ih =>
    intro t acc fuel σ ht hf hX hV
    obtain ⟨fuel, rfl⟩ : ∃ k, fuel = k + 1 := ⟨fuel - 1, by omega⟩
    have ht24 : t < 24 := by omega
    rw [ef_X9_worthUnseen_L4, if_neg (nle24 ht24), jlet_s, jix_t ht24 (by omega), nI_clamp (by omega), jlet_s, jlet_s, hV t ht24]
    have f1 : Fr aL bW σ (f_X6_nameGuard 0 (nI t) 0 σ) := xnameG_fr Fr.rf rfl
    have n1 := xnameG (σ := σ) (x := 0) (y := nI t) (z := 0)
    have hlone : ∀ c, c < 36 → bit (f_X3_floor σ &&& (V t ^^^ (-1))) c = (!bit (S 0) c && !bit (V t) c) := fun c hc => by
      rw [bit_and, floor_bit hX.1.1.1 (by omega), bit_not _ (by omega), decide_eq_true hc, Bool.true_and]
    generalize f_X6_nameGuard 0 (nI t) 0 σ = σ1 at f1 n1 ⊢
    obtain ⟨σ2, r1, r2⟩ := xwuIn (T := T) (V := V) (f_X9_worthUnseen_L4 fuel) hlone 36 0 acc FU σ1 (by omega) (by unfold FU; omega) (hX.fr f1 okXX_L) n1.1 n1.2.1 n1.2.2
    have f3 := f1.trans r2
    obtain ⟨σ3, u1, u2⟩ := ih (t + 1) (Zin S T V t 36 0 acc) fuel σ2 (by omega) (by omega) (hX.fr f3 okXX_L) (fun t ht => by rw [f3.B rfl]; exact hV t ht)
    exact ⟨σ3, by rw [show f_X9_worthUnseen_L40 (f_X9_worthUnseen_L4 fuel) FU acc (nI t) (f_X3_floor σ &&& (V t ^^^ (-1))) 0 σ1 = _ from r1]; exact u1, f3.trans u2⟩
theorem mwuIn {S : Nat → Int64} {r n t : Nat} {T : TT} {G : Nat → Nat → Nat} {V : Nat → Int64} {sn : Int64} (k4 : Int32 → Int32 → ST → Option (Int32 × ST)) (hl : ∀ c, c < 36 → bit sn c = (bit (S 0) c || bit (V t) c)) : ∀ k c acc fuel σ, c + k = 36 → k < fuel → VM S r T G n σ → ∃ σ', f_X10_worthUnseen_L30 k4 fuel acc (nI t) sn (nI c) σ = k4 (Zin S T V t k c acc) (nI (t + 1)) σ' ∧ Fr aN bW σ σ' := by
  intro k
  induction k with
  | zero =>
    intro c acc fuel σ hc hf hM
    obtain ⟨fuel, rfl⟩ : ∃ k, fuel = k + 1 := ⟨fuel - 1, by omega⟩
    have : c = 36 := by omega
    subst this
    refine ⟨σ, ?_, Fr.rf⟩
    rw [ef_X10_worthUnseen_L30, if_pos (by decide), jlet_s, nI_1]
    rfl
  | succ k ih =>
    intro c acc fuel σ hc hf hM
    obtain ⟨fuel, rfl⟩ : ∃ k, fuel = k + 1 := ⟨fuel - 1, by omega⟩
    have hc36 : c < 36 := by omega
    rw [ef_X10_worthUnseen_L30, if_neg (nle36 hc36), has_b _ (by omega), jlet_s, hl c hc36]
    have hn : ∀ a d s, f_X10_worthUnseen_L68 k4 (f_X10_worthUnseen_L30 k4 fuel) (nI t) sn (nI c) a d s = f_X10_worthUnseen_L30 k4 fuel (a + d) (nI t) sn (nI (c + 1)) s := fun a d s => by
      unfold f_X10_worthUnseen_L68
      rw [jlet_s, jlet_s, nI_1]
    have hz : Zin S T V t (k + 1) c acc = Zin S T V t k (c + 1) (if bit (S 0) c || bit (V t) c then acc else acc + nI (Zsay T (nmf 0 (Zlit S c) 0 (nI t) 0 (nI c)) 2)) := rfl
    rw [hz]
    cases hb : (bit (S 0) c || bit (V t) c) with
    | true =>
      rw [if_neg (show ¬ bI true = 0 by decide), hn, if_pos rfl, Int32.add_zero]
      exact ih (c + 1) acc fuel σ (by omega) (by omega) hM
    | false =>
      rw [if_pos (show bI false = 0 by decide), if_neg (show ¬ false = true by decide), mlit hM.1.1.2.1 hc36, jlet_s]
      obtain ⟨σ3, e4, f3⟩ := masks (p := 2) hM.1.2.2.2.1 hM.1.2.2.1 (by omega) hM.1.2.1 hM.1.2.2.2.2 0 (Zlit S c) 0 (nI t) 0 (nI c)
      rw [show f_X10_asksOf 2 0 (Zlit S c) 0 (nI t) 0 (nI c) σ = _ from e4, jbp_s, hn]
      have oN : okMM aN bW := ⟨⟨rfl, rfl, rfl, rfl⟩, rfl, rfl, rfl, rfl, rfl, rfl⟩
      obtain ⟨σ4, r1, r2⟩ := ih (c + 1) (acc + nI (Zsay T (nmf 0 (Zlit S c) 0 (nI t) 0 (nI c)) 2)) fuel σ3 (by omega) (by omega) (hM.fr f3 oN)
      exact ⟨σ4, r1, f3.trans r2⟩
theorem mwu {S : Nat → Int64} {r n : Nat} {T : TT} {G : Nat → Nat → Nat} : ∀ k t acc fuel σ, t + k = 24 → k < fuel → VM S r T G n σ → (∀ g, g < n → ∀ t, t < 24 → gB σ 22 (24 * g + t) = Zthr S T (G g) g t) → ∃ σ', f_X10_worthUnseen_L4 fuel acc (nI t) σ = some (Zwu S T (VA S T G n) k t acc, σ') ∧ Fr aN bW σ σ' := by
  have oN : okMM aN bW := ⟨⟨rfl, rfl, rfl, rfl⟩, rfl, rfl, rfl, rfl, rfl, rfl⟩
  intro k
  induction k with
  | zero =>
    intro t acc fuel σ ht hf hM hV
    obtain ⟨fuel, rfl⟩ : ∃ k, fuel = k + 1 := ⟨fuel - 1, by omega⟩
    have : t = 24 := by omega
    subst this
    refine ⟨σ, ?_, Fr.rf⟩
    rw [ef_X10_worthUnseen_L4, if_pos (by decide)]
    rfl
  | succ k ih =>
    intro t acc fuel σ ht hf hM hV
    obtain ⟨fuel, rfl⟩ : ∃ k, fuel = k + 1 := ⟨fuel - 1, by omega⟩
    have ht24 : t < 24 := by omega
    obtain ⟨g1, g2⟩ := allG hM.2.1 hM.2.2.1
    rw [ef_X10_worthUnseen_L4, if_neg (nle24 ht24), g1, jlet_s, mseenAt hM.2.2.1 hM.2.1 ht24, jb_s, jlet_s, mrows (fun _ => true) g2 hV ht24, show Int32.toNatClampNeg 0 = 0 from rfl, hM.1.1.1]
    obtain ⟨σ2, r1, r2⟩ := mwuIn (T := T) (V := VA S T G n) (f_X10_worthUnseen_L4 fuel) (t := t) (sn := ZV S T G n (fun _ => true) t ||| S 0) (fun c hc => by rw [bit_or, Bool.or_comm]) 36 0 acc FU σ (by omega) (by unfold FU; omega) hM
    obtain ⟨σ3, u1, u2⟩ := ih (t + 1) (Zin S T (VA S T G n) t 36 0 acc) fuel σ2 (by omega) (by omega) (hM.fr r2 oN) (fun g hg t ht => by rw [r2.B rfl]; exact hV g hg t ht)
    exact ⟨σ3, by rw [show f_X10_worthUnseen_L30 (f_X10_worthUnseen_L4 fuel) FU acc (nI t) (ZV S T G n (fun _ => true) t ||| S 0) 0 σ = _ from r1]; exact u1, r2.trans u2⟩
theorem FM.OU {σ σ' : ST} (h : FM aO bW σ σ') : FM aU bU σ σ' := h.mono (fun _ _ => rfl) (fun _ _ => rfl)
theorem Fr.NU {σ σ' : ST} (h : Fr aN bW σ σ') : FM aU bU σ σ' := (h.toM rfl).mono (fun k q => by unfold aU at q; unfold aN; simp at q ⊢; exact q.1) (fun _ _ => rfl)
theorem op_worst : OP_worst REL := by
  intro σx σm x1 hRel
  obtain ⟨S, r, G, n, nT, Tx, hS, hX, hM, hC, hr, hR⟩ := id hRel
  unfold f_X9_worst f_X10_worst
  rcases wN x1 (m := 3) (by omega) with ⟨w, hw, rfl, e5⟩ | e5
  · obtain ⟨sx, sm, q1, -, q2, hX2, hM2, hst, hC2, hR2, hrow, hRel2⟩ := now hS hX hM hC hr hR
    obtain ⟨sm3, m1, m2, m36, m37, m38⟩ := mfinds hM2 hrow
    have hM3 := hM2.fm m2 rfl rfl rfl rfl rfl rfl rfl rfl rfl
    simp only [show f_X9_isWithin (nI w) 3 = 1 from e5, show f_X10_in (nI w) 0 3 = 1 from e5, jlet_s, ifN1, ifN0, if10, if00, q1, q2, jb_s, m1, m36, m37, m38]
    have hR3 : rest nT Tx sx sm3 := hR2.fr Fr.rf m2.OU
    have ex := xfloorGap (S := S) (V := VA S (Tx r) G n) (o := 40) rfl hX2.1.1.1 hC2.2
    obtain ⟨s3, e6, f6, hle, hbits⟩ := ex
    have fin : REL s3 sm3 := REL.g hS hX2 hM3 hC2 hr hR3 f6
    have hA := Zfg_a (VA S (Tx r) G n) (S 0) 36 (by omega)
    have hB := Zfg_b (VA S (Tx r) G n) (S 0) 36
    rcases (show w = 0 ∨ w = 1 ∨ w = 2 ∨ w = 3 by omega) with rfl | rfl | rfl | rfl
    · rw [e6, jbp_s]
      exact ⟨_, _, _, rfl, rfl, fin⟩
    · rw [e6, jbp_s]
      have hf := xfirstOf (w := gB s3 6 0) (z := (Zfg (VA S (Tx r) G n) (S 0) 36).1) (by
        rcases hA with ⟨h1, h2, h3⟩ | ⟨h1, h2, h3, h4, h5⟩
        · exact Or.inl ⟨h1, fun c hc => by rw [hbits c (by omega), h3 c hc]; simp⟩
        · refine Or.inr ⟨h1, ?_, fun c hc => ?_⟩
          · rw [hbits _ (by omega), decide_eq_true h1, h2, h3]; simp
          · rw [hbits c (by omega)]
            cases hb : bit (S 0) c with
            | true => simp
            | false =>
              have := h5 c hc hb
              rw [decide_eq_false (show ¬ (Zfg (VA S (Tx r) G n) (S 0) 36).2.1 ≤ Zgap (VA S (Tx r) G n) c by omega)]
              simp)
      rw [if_pos (show ¬ nI 1 = 3 by decide), if_neg (show ¬ nI 1 = 0 by decide), if_pos (show nI 1 = 1 from rfl), hf, jb_s]
      exact ⟨_, _, _, rfl, rfl, fin⟩
    · rw [e6, jbp_s]
      rw [if_pos (show ¬ nI 2 = 3 by decide), if_neg (show ¬ nI 2 = 0 by decide), if_neg (show ¬ nI 2 = 1 by decide)]
      refine ⟨nI (Zfg (VA S (Tx r) G n) (S 0) 36).2.2, s3, sm3, ?_, rfl, fin⟩
      by_cases h24 : (Zfg (VA S (Tx r) G n) (S 0) 36).2.1 = 24
      · have hcnt : cnt (bit (gB s3 6 0)) 36 = cnt (fun c => !bit (S 0) c && decide (Zgap (VA S (Tx r) G n) c = 24)) 36 := cnt_cong (fun c hc => by
          rw [hbits c (by omega), decide_eq_true hc, Bool.true_and, h24]
          have := Zgap_le (VA S (Tx r) G n) c
          rw [show decide (24 ≤ Zgap (VA S (Tx r) G n) c) = decide (Zgap (VA S (Tx r) G n) c = 24) from decide_eq_decide.mpr (by omega)])
        have hpop : f_J13_bitCount_95d88 (gB s3 6 0) = nI (cnt (bit (gB s3 6 0)) 36) := popX _ (fun b hb => by
          rcases Nat.lt_or_ge b 64 with z | z
          · rw [hbits b z, decide_eq_false (show ¬ b < 36 by omega)]; rfl
          · exact bit_big z)
        rw [if_neg (fun q => q (by rw [h24]; rfl)), hpop, hcnt, hB]
      · rw [if_pos (show ¬ nI (Zfg (VA S (Tx r) G n) (S 0) 36).2.1 = 24 from fun q => h24 ((nI_eq (b := 24) (by omega) (by omega)).mp q)), hB, cnt_0 (fun c hc => ?_)]
        · rfl
        · cases hb : bit (S 0) c with
          | true => rfl
          | false =>
            rcases hA with ⟨h1, h2, h3⟩ | ⟨h1, h2, h3, h4, h5⟩
            · rw [h3 c hc] at hb; cases hb
            · have := h4 c hc hb
              rw [decide_eq_false (show ¬ Zgap (VA S (Tx r) G n) c = 24 by omega)]; rfl
    · obtain ⟨s4, u1, u2⟩ := xwu (V := VA S (Tx r) G n) 24 0 0 FU sx (by omega) (by unfold FU; omega) hX2 hC2.2
      have hrow3 : ∀ g, g < n → ∀ t, t < 24 → gB sm3 22 (24 * g + t) = Zthr S (Tx r) (G g) g t := fun g hg t ht => by rw [m2.B rfl]; exact hrow g hg t ht
      obtain ⟨s5, v1, v2⟩ := mwu 24 0 0 FU sm3 (by omega) (by unfold FU; omega) hM3 hrow3
      rw [if_neg (show ¬ ¬ nI 3 = 3 from fun q => q rfl), if_pos (show ¬ nI 3 = 0 by decide), if_pos (show ¬ nI 3 = 1 by decide), if_pos (show ¬ nI 3 = 2 by decide)]
      unfold f_X9_worthUnseen f_X10_worthUnseen
      rw [show f_X9_worthUnseen_L4 FU 0 0 sx = _ from u1, show f_X10_worthUnseen_L4 FU 0 0 sm3 = _ from v1, jbp_s, jbp_s]
      refine ⟨_, _, _, rfl, rfl, REL.q hS hX2 hM3 hr hR3 (u2.mono (fun k q => by unfold aQ at q; unfold aL; simp at q ⊢; omega) (fun _ _ => rfl)) v2.NU (fun _ => hC2.fr u2 hX.2.2.1 rfl (fun _ _ => rfl) rfl)⟩
  · rw [show f_X9_isWithin x1 3 = 0 from e5, show f_X10_in x1 0 3 = 0 from e5]
    exact ⟨_, _, _, rfl, rfl, hRel⟩
