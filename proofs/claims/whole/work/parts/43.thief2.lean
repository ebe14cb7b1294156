/-! ===== the reference's thief ===== -/
def b23 : Nat → Bool := fun k => k == 23
theorem okMM_23 : okMM aO b23 := ⟨⟨rfl, rfl, rfl, rfl⟩, rfl, rfl, rfl, rfl, rfl, rfl⟩
theorem msneaks {S : Nat → Int64} {r n a t : Nat} {T : TT} {G : Nat → Nat → Nat} {σ : ST} (ha : a < 36) (ht : t < 24) (hM : VM S r T G n σ) (h : ∀ g, g < n → ∀ t, t < 24 → gB σ 22 (24 * g + t) = Zthr S T (G g) g t) : ∃ σ', f_X10_sneaks (nI a) (nI t) σ = some σ' ∧ Fr aO b23 σ σ' ∧ ∀ k, k ≤ 24 → gB σ' 23 k = Zrc (FL (S 0)) (VA S T G n) a t k := by
  unfold f_X10_sneaks
  refine jloop (fun f i s => f_X10_sneaks_L2 f (nI a) (nI t) (nI i) s) 25 (fun i s => Fr aO b23 σ s ∧ ∀ k, k < i → gB s 23 k = Zrc (FL (S 0)) (VA S T G n) a t k) (fun q => ∃ σ', q = some σ' ∧ Fr aO b23 σ σ' ∧ ∀ k, k ≤ 24 → gB σ' 23 k = Zrc (FL (S 0)) (VA S T G n) a t k) ?_ ?_ FU 0 σ (by omega) (by unfold FU; omega) ⟨Fr.rf, fun j h => absurd h (Nat.not_lt_zero _)⟩
  · intro f i s hi ⟨p1, p2⟩
    have hv := hM.fr p1 okMM_23
    have hrow : ∀ g, g < n → ∀ t, t < 24 → gB s 22 (24 * g + t) = Zthr S T (G g) g t := fun g hg t ht => by rw [p1.B rfl]; exact h g hg t ht
    obtain ⟨g1, g2⟩ := allG hv.2.1 hv.2.2.1
    have hm := Nat.mod_lt (t + i) (show 0 < 24 by decide)
    have l30 : ∀ t0, (t0 &&& (S 0 ^^^ (-1))) &&& (VA S T G n ((t + i) % 24) ^^^ (-1)) = Zrc (FL (S 0)) (VA S T G n) a t i → f_X10_sneaks_L30 (f_X10_sneaks_L2 f) (nI a) (nI t) (nI i) t0 s = f_X10_sneaks_L2 f (nI a) (nI t) (nI (i + 1)) (sB s 23 i (Zrc (FL (S 0)) (VA S T G n) a t i)) := by
      intro t0 h0
      unfold f_X10_sneaks_L30
      rw [g1, jlet_s, nI_add, show (24 : Int32) = nI 24 from rfl, jrem_n (by omega) (by omega) (by omega), mseenAt hv.2.2.1 hv.2.1 hm, jb_s, mrows (fun _ => true) g2 hrow hm, jix_t hi (by omega), nI_clamp (by omega), show Int32.toNatClampNeg 0 = 0 from rfl, hv.1.1.1, h0, jlet_s, jlet_s, nI_1]
    refine Or.inr ⟨sB s 23 i (Zrc (FL (S 0)) (VA S T G n) a t i), ⟨p1.sB rfl, fun k hk => ?_⟩, ?_⟩
    · rw [gB_sB]
      split
      · rename_i q
        rw [q.2]
      · exact p2 k (by omega)
    · show f_X10_sneaks_L2 (f + 1) (nI a) (nI t) (nI i) s = _
      rw [ef_X10_sneaks_L2, if_neg (show ¬ (24 : Int32) < nI i from nI_nlt (a := 24) (b := i) (by omega) (by omega))]
      cases i with
      | zero =>
        rw [if_neg (fun q => q rfl), l30]
        apply bit_ext
        intro j hj
        show bit ((jlshl 1 (nI a) &&& (S 0 ^^^ (-1))) &&& (VA S T G n ((t + 0) % 24) ^^^ (-1))) j = bit (jlshl 1 (nI a) &&& (FL (S 0) &&& (VA S T G n (t % 24) ^^^ (-1)))) j
        rw [Nat.add_zero, bit_and, bit_and, bit_and, bit_and, bit_one (by omega) hj, bit_not _ hj, bit_not _ hj, FL_bit _ hj]
        by_cases q : j = a
        · subst q
          rw [decide_eq_true ha]
          cases bit (S 0) j <;> cases bit (VA S T G n (t % 24)) j <;> simp
        · rw [decide_eq_false q]; simp
      | succ i =>
        rw [if_pos (nI_ne0 (by omega) (by omega)), nI_pred, jix_t (by omega) (by omega), nI_clamp (by omega), jlet_s, p2 i (by omega), l30]
        exact mstep hv.1.1.1 (VA S T G n) a t i _
  · intro f s ⟨p1, p2⟩
    refine ⟨s, ?_, p1, fun k hk => p2 k (by omega)⟩
    show f_X10_sneaks_L2 (f + 1) (nI a) (nI t) (nI 25) s = _
    rw [ef_X10_sneaks_L2, if_pos (by decide)]
def Zsn (R : Nat → Int64) (b : Nat) : Nat → Nat → Int32
  | 0, _ => -1
  | n + 1, i => if bit (R i) b then nI i else Zsn R b n (i + 1)
theorem Zsn_is {R : Nat → Int64} {b k : Nat} : ∀ n i, i ≤ k → k < i + n → (∀ j, i ≤ j → j < k → bit (R j) b = false) → bit (R k) b = true → Zsn R b n i = nI k
  | 0, i, h1, h2, _, _ => absurd h2 (by omega)
  | n + 1, i, h1, h2, h3, h4 => by
    unfold Zsn
    rcases (show i = k ∨ i < k by omega) with q | q
    · subst q
      rw [if_pos h4]
    · rw [if_neg (by rw [h3 i (Nat.le_refl _) q]; decide)]
      exact Zsn_is n (i + 1) q (by omega) (fun j h5 h6 => h3 j (by omega) h6) h4
theorem Zsn_no {R : Nat → Int64} {b : Nat} : ∀ n i, (∀ j, i ≤ j → j < i + n → bit (R j) b = false) → Zsn R b n i = -1
  | 0, i, _ => rfl
  | n + 1, i, h => by
    unfold Zsn
    rw [if_neg (by rw [h i (Nat.le_refl _) (by omega)]; decide)]
    exact Zsn_no n (i + 1) (fun j h1 h2 => h j (by omega) (by omega))
theorem msoonest {R : Nat → Int64} {b : Nat} {σ : ST} (hb : b < 36) (hR : ∀ k, k ≤ 24 → gB σ 23 k = R k) : f_X10_soonest (nI b) σ = some (Zsn R b 25 0) := by
  have key : ∀ n i fuel, i + n = 25 → n < fuel → f_X10_soonest_L2 fuel (nI b) (nI i) σ = some (Zsn R b n i) := by
    intro n
    induction n with
    | zero =>
      intro i fuel hi hf
      obtain ⟨fuel, rfl⟩ : ∃ k, fuel = k + 1 := ⟨fuel - 1, by omega⟩
      have : i = 25 := by omega
      subst this
      rw [ef_X10_soonest_L2, if_pos (by decide)]; rfl
    | succ n ih =>
      intro i fuel hi hf
      obtain ⟨fuel, rfl⟩ : ∃ k, fuel = k + 1 := ⟨fuel - 1, by omega⟩
      rw [ef_X10_soonest_L2, if_neg (show ¬ (24 : Int32) < nI i from nI_nlt (a := 24) (b := i) (by omega) (by omega)), jix_t (by omega) (by omega), nI_clamp (by omega), hR i (by omega), has_b _ (by omega), jlet_s]
      unfold Zsn
      cases bit (R i) b with
      | true => rw [if_neg (by decide), if_pos rfl]
      | false =>
        rw [if_pos (by decide), if_neg (by decide), jlet_s, nI_1]
        exact ih (i + 1) fuel (by omega) (by omega)
  exact key 25 0 FU (by omega) (by unfold FU; omega)
theorem and_one {x : Int64} {b : Nat} (hb : b < 64) : x &&& jlshl 1 (nI b) = 0 ↔ bit x b = false := by
  rw [bit_eq0]
  constructor
  · intro h
    have w := h b hb
    rw [bit_and, bit_one hb hb, decide_eq_true rfl, Bool.and_true] at w
    exact w
  · intro h i hi
    rw [bit_and, bit_one hb hi]
    by_cases q : i = b
    · subst q; rw [h]; rfl
    · rw [decide_eq_false q, Bool.and_false]
/-- the class's soonest second, and the cells on the way there -/
theorem xsoonest {V : Nat → Int64} {o a b t : Nat} {F : Int64} {σ : ST} (ho : b50 o = false) (hb : b < 36) (ht : t < 24) (hV : ∀ t, t < 24 → gB σ o t = V t) : ∃ σ', f_X7_soonest o F (nI a) (nI b) (nI t) σ = some (Zsn (Zrc F V a t) b 25 0, σ') ∧ Fr aO b50 σ σ' ∧ ((∃ k, k ≤ 24 ∧ Zsn (Zrc F V a t) b 25 0 = nI k ∧ bit (Zrc F V a t k) b = true ∧ ∀ j, j ≤ k → gB σ' 50 j = Zrc F V a t j) ∨ Zsn (Zrc F V a t) b 25 0 = -1) := by
  obtain ⟨q, σ', e1, f1, h⟩ := xroam (a := a) (F := F) (g := jlshl 1 (nI b)) ho ht hV
  unfold f_X7_soonest
  rw [e1, jbp_s]
  rcases h with ⟨k, hk, rfl, h1, h2, h3⟩ | ⟨rfl, h1, h2⟩
  · have hbit : bit (Zrc F V a t k) b = true := by
      cases z : bit (Zrc F V a t k) b with
      | true => rfl
      | false => exact absurd ((and_one (by omega)).mpr z) h1
    have e := Zsn_is (R := Zrc F V a t) (b := b) 25 0 (Nat.zero_le k) (by omega) (fun j _ hj => (and_one (by omega)).mp (h2 j hj)) hbit
    exact ⟨σ', by rw [e], f1, Or.inl ⟨k, hk, e, hbit, h3⟩⟩
  · have e := Zsn_no (R := Zrc F V a t) (b := b) 25 0 (fun j _ hj => (and_one (by omega)).mp (h1 j (by omega)))
    exact ⟨σ', by rw [e], f1, Or.inr e⟩
theorem Fr.M23 {σ σ' : ST} (h : Fr aO b23 σ σ') : FM aU bU σ σ' := (h.toM rfl).mono (fun _ _ => rfl) (fun k q => by unfold bU at q; unfold b23; simp at q ⊢; exact q.2)
theorem REL.t {S : Nat → Int64} {r n nT : Nat} {G : Nat → Nat → Nat} {Tx : Nat → TT} {σx σm σx' σm' : ST} (hS : WS36 S) (hX : VX S r (Tx r) G n σx) (hM : VM S r (Tx r) G n σm) (hC : CX S (Tx r) G n σx) (hr : r < nT) (hR : rest nT Tx σx σm) (fx : Fr aO b50 σx σx') (fm : FM aU bU σm σm') : REL σx' σm' := REL.q hS hX hM hr hR (fx.mono (fun _ _ => rfl) (fun k q => by unfold bQ at q; unfold b50; simp at q ⊢; omega)) fm (fun _ => hC.fr fx hX.2.2.1 rfl (fun g hg => by unfold b50; simp; omega) rfl)
theorem op_soon : OP_soon REL := by
  intro σx σm x1 x2 x3 hRel
  obtain ⟨S, r, G, n, nT, Tx, hS, hX, hM, hC, hr, hR⟩ := id hRel
  unfold f_X9_soon f_X10_soon
  rcases w35 x1 with ⟨a, ha, rfl, e1, e2⟩ | ⟨e1, e2⟩
  · rcases w35 x2 with ⟨b, hb, rfl, e3, e4⟩ | ⟨e3, e4⟩
    · rcases w23 x3 with ⟨t, ht, rfl, e5, e6⟩ | ⟨e5, e6⟩
      · obtain ⟨sx, sm, q1, -, q2, hX2, hM2, -, hC2, hR2, hrow, hRel2⟩ := now hS hX hM hC hr hR
        obtain ⟨s3, u1, u2, -⟩ := xsoonest (a := a) (b := b) (o := 40) (F := FL (S 0)) rfl hb ht hC2.2
        obtain ⟨s4, v1, v2, v3⟩ := msneaks ha ht hM2 hrow
        simp only [e1, e2, e3, e4, e5, e6, jlet_s, ifN1, ifN0, if10, if00, q1, q2, jb_s, floor_FL hX2.1.1.1, u1, jbp_s, v1, msoonest hb v3]
        exact ⟨_, _, _, rfl, rfl, REL.t hS hX2 hM2 hC2 hr hR2 u2 v2.M23⟩
      · simp only [e1, e2, e3, e4, e5, e6, jlet_s, ifN1, ifN0, if10, if00]
        exact ⟨_, _, _, rfl, rfl, hRel⟩
    · simp only [e1, e2, e3, e4, jlet_s, ifN1, ifN0, if10, if00]
      exact ⟨_, _, _, rfl, rfl, hRel⟩
  · simp only [e1, e2, jlet_s, ifN1, ifN0, if10, if00]
    exact ⟨_, _, _, rfl, rfl, hRel⟩
theorem op_hides : OP_hides REL := by
  intro σx σm x1 x2 x3 hRel
  obtain ⟨S, r, G, n, nT, Tx, hS, hX, hM, hC, hr, hR⟩ := id hRel
  unfold f_X9_hides f_X10_hides f_X9_hides_L23 f_X10_hides_L24
  rcases w35 x1 with ⟨a, ha, rfl, e1, e2⟩ | ⟨e1, e2⟩
  · rcases w23 x2 with ⟨t, ht, rfl, e5, e6⟩ | ⟨e5, e6⟩
    · rcases wN x3 (m := 24) (by omega) with ⟨k, hk, rfl, e7⟩ | e7
      · obtain ⟨sx, sm, q1, -, q2, hX2, hM2, -, hC2, hR2, hrow, hRel2⟩ := now hS hX hM hC hr hR
        obtain ⟨q, s3, u1, u2, u3⟩ := xroam (a := a) (t := t) (F := FL (S 0)) (g := 0) (o := 40) rfl ht hC2.2
        obtain ⟨s4, v1, v2, v3⟩ := msneaks ha ht hM2 hrow
        have hz : gB s3 50 k = Zrc (FL (S 0)) (VA S (Tx r) G n) a t k := by
          rcases u3 with ⟨k', h1, h2, h3, _⟩ | ⟨h1, h2, h3⟩
          · refine absurd ?_ h3
            apply bit_ext
            intro i _
            rw [bit_and, bit_0, Bool.and_false]
          · exact h3 k hk
        simp (disch := omega) only [e1, e2, e5, e6, show f_X9_isWithin (nI k) 24 = 1 from e7, show f_X10_in (nI k) 0 24 = 1 from e7, jlet_s, ifN1, ifN0, if10, if00, q1, q2, jb_s, floor_FL hX2.1.1.1, u1, jbp_s, v1, jix_t, nI_clamp, hz, v3 k hk]
        exact ⟨_, _, _, rfl, rfl, REL.t hS hX2 hM2 hC2 hr hR2 u2 v2.M23⟩
      · simp only [e1, e2, e5, e6, show f_X9_isWithin x3 24 = 0 from e7, show f_X10_in x3 0 24 = 0 from e7, jlet_s, ifN1, ifN0, if10, if00]
        exact ⟨_, _, _, rfl, rfl, hRel⟩
    · simp only [e1, e2, e5, e6, jlet_s, ifN1, ifN0, if10, if00]
      exact ⟨_, _, _, rfl, rfl, hRel⟩
  · simp only [e1, e2, jlet_s, ifN1, ifN0, if10, if00]
    exact ⟨_, _, _, rfl, rfl, hRel⟩
/-! ===== at which seconds a way can begin ===== -/
def Zst (F : Int64) (V : Nat → Int64) (a b : Nat) : Nat → Int32
  | 0 => 0
  | t + 1 => Zst F V a b t ||| (if Zsn (Zrc F V a t) b 25 0 = -1 then 0 else jshl 1 (nI t))
theorem xstarts {V : Nat → Int64} {o a b : Nat} {F : Int64} {σ : ST} (ho : b50 o = false) (hb : b < 36) (hV : ∀ t, t < 24 → gB σ o t = V t) : ∃ σ', f_X7_starts o F (nI a) (nI b) σ = some (Zst F V a b 24, σ') ∧ Fr aO b50 σ σ' := by
  unfold f_X7_starts
  refine jloop (fun n i (x : Int32 × ST) => f_X7_starts_L6 n o F (nI a) (nI b) x.1 (nI i) x.2) 24 (fun i x => x.1 = Zst F V a b i ∧ Fr aO b50 σ x.2) (fun q => ∃ σ', q = some (Zst F V a b 24, σ') ∧ Fr aO b50 σ σ') ?_ ?_ FU 0 (0, σ) (by omega) (by unfold FU; omega) ⟨rfl, Fr.rf⟩
  · rintro n i ⟨acc, s⟩ hi ⟨p1, p2⟩
    obtain ⟨s2, e1, f1, -⟩ := xsoonest (V := V) (a := a) (b := b) (F := F) ho hb hi (fun t ht => by rw [p2.B ho]; exact hV t ht)
    refine Or.inr ⟨(Zst F V a b (i + 1), s2), ⟨rfl, p2.trans f1⟩, ?_⟩
    show f_X7_starts_L6 (n + 1) o F (nI a) (nI b) acc (nI i) s = f_X7_starts_L6 n o F (nI a) (nI b) (Zst F V a b i ||| (if _ then _ else _)) (nI (i + 1)) s2
    simp only at p1
    rw [ef_X7_starts_L6, if_neg (nle24 hi), e1, jbp_s, p1]
    unfold f_X7_starts_L38
    by_cases q : Zsn (Zrc F V a i) b 25 0 = -1
    · rw [if_pos q, if_pos q, jlet_s, nI_1, Int32.or_zero]
    · rw [if_neg q, if_neg q, jlet_s, jlet_s, nI_1]
  · rintro n ⟨acc, s⟩ ⟨p1, p2⟩
    simp only at p1
    refine ⟨s, ?_, p2⟩
    show f_X7_starts_L6 (n + 1) o F (nI a) (nI b) acc (nI 24) s = _
    rw [ef_X7_starts_L6, if_pos (by decide), p1]
theorem mwhenFrom {S : Nat → Int64} {r n a b : Nat} {T : TT} {G : Nat → Nat → Nat} {σ : ST} (ha : a < 36) (hb : b < 36) (hM : VM S r T G n σ) : ∃ σ', f_X10_whenFrom (nI a) (nI b) σ = some (Zst (FL (S 0)) (VA S T G n) a b 24, σ') ∧ Fr aN (fun k => k == 22 || k == 23) σ σ' := by
  obtain ⟨s0, e0, f0, hrow⟩ := mwatchesAll hM
  have f0' : Fr aN (fun k => k == 22 || k == 23) σ s0 := f0.mono (fun _ q => q) (fun k q => by unfold bT; simp at q ⊢; exact q.1)
  have hM0 := hM.fr f0 okMM_T
  unfold f_X10_whenFrom
  rw [e0, jb_s]
  refine jloop (fun f i (x : Int32 × ST) => f_X10_whenFrom_L9 f (nI a) (nI b) x.1 (nI i) x.2) 24 (fun i x => x.1 = Zst (FL (S 0)) (VA S T G n) a b i ∧ Fr aO b23 s0 x.2) (fun q => ∃ σ', q = some (Zst (FL (S 0)) (VA S T G n) a b 24, σ') ∧ Fr aN (fun k => k == 22 || k == 23) σ σ') ?_ ?_ FU 0 (0, s0) (by omega) (by unfold FU; omega) ⟨rfl, Fr.rf⟩
  · rintro f i ⟨acc, s⟩ hi ⟨p1, p2⟩
    simp only at p1 p2
    have hv := hM0.fr p2 okMM_23
    obtain ⟨s2, e1, f1, r1⟩ := msneaks ha hi hv (fun g hg t ht => by rw [p2.B rfl]; exact hrow g hg t ht)
    refine Or.inr ⟨(Zst (FL (S 0)) (VA S T G n) a b (i + 1), s2), ⟨rfl, p2.trans f1⟩, ?_⟩
    show f_X10_whenFrom_L9 (f + 1) (nI a) (nI b) acc (nI i) s = f_X10_whenFrom_L9 f (nI a) (nI b) (Zst (FL (S 0)) (VA S T G n) a b i ||| (if _ then _ else _)) (nI (i + 1)) s2
    rw [ef_X10_whenFrom_L9, if_neg (nle24 hi), e1, jb_s, msoonest hb r1, jb_s, p1]
    unfold f_X10_whenFrom_L41
    by_cases q : Zsn (Zrc (FL (S 0)) (VA S T G n) a i) b 25 0 = -1
    · rw [if_neg (fun z => z q), if_pos q, jlet_s, jlet_s, nI_1]
    · rw [if_pos q, if_neg q, jlet_s, jlet_s, nI_1]
  · rintro f ⟨acc, s⟩ ⟨p1, p2⟩
    simp only at p1 p2
    refine ⟨s, ?_, f0'.trans (p2.mono (fun _ _ => rfl) (fun k q => by unfold b23; simp at q ⊢; exact q.2))⟩
    show f_X10_whenFrom_L9 (f + 1) (nI a) (nI b) acc (nI 24) s = _
    rw [ef_X10_whenFrom_L9, if_pos (by decide), p1]
theorem Fr.MW {σ σ' : ST} (h : Fr aN (fun k => k == 22 || k == 23) σ σ') : FM aU bU σ σ' := (h.toM rfl).mono (fun k q => by unfold aU at q; unfold aN; simp at q ⊢; exact q.1) (fun k q => by unfold bU at q; exact q)
theorem op_when : OP_when REL := by
  intro σx σm x1 x2 hRel
  obtain ⟨S, r, G, n, nT, Tx, hS, hX, hM, hC, hr, hR⟩ := id hRel
  unfold f_X9_when f_X10_when
  rcases w35 x1 with ⟨a, ha, rfl, e1, e2⟩ | ⟨e1, e2⟩
  · rcases w35 x2 with ⟨b, hb, rfl, e3, e4⟩ | ⟨e3, e4⟩
    · obtain ⟨sx, sm, q1, -, q2, hX2, hM2, -, hC2, hR2, hrow, hRel2⟩ := now hS hX hM hC hr hR
      obtain ⟨s3, u1, u2⟩ := xstarts (a := a) (b := b) (o := 40) (F := FL (S 0)) rfl hb hC2.2
      obtain ⟨s4, v1, v2⟩ := mwhenFrom ha hb hM
      simp only [e1, e2, e3, e4, jlet_s, ifN1, ifN0, if10, if00, q1, jb_s, floor_FL hX2.1.1.1, u1, jbp_s, v1]
      obtain ⟨s', k1, k2, k3, k4⟩ := xrefresh hX hC
      have hsx : Fr aR bR σx sx := by
        unfold f_X9_seenNow at q1
        rw [k1] at q1
        cases q1
        exact k2
      refine ⟨_, _, _, rfl, rfl, REL.q hS hX hM hr hR (hsx.RQ.trans (u2.mono (fun _ _ => rfl) (fun k q => by unfold bQ at q; unfold b50; simp at q ⊢; omega))) v2.MW (fun _ => hC2.fr u2 hX.2.2.1 rfl (fun g hg => by unfold b50; simp; omega) rfl)⟩
    · simp only [e1, e2, e3, e4, jlet_s, ifN1, ifN0, if10, if00]
      exact ⟨_, _, _, rfl, rfl, hRel⟩
  · simp only [e1, e2, jlet_s, ifN1, ifN0, if10, if00]
    exact ⟨_, _, _, rfl, rfl, hRel⟩
/-! ===== the way back ===== -/
theorem back1 {S : Nat → Int64} {V : Nat → Int64} {a t k c : Nat} {σ : ST} (h1 : gB σ 1 0 = S 0) (hk : k < 25) (hR : gB σ 23 k = Zrc (FL (S 0)) V a t k) (hc : c < 36) : ∀ n w fuel fuel2, w + n = 4 → n < fuel → n < fuel2 → (∃ w', w ≤ w' ∧ w' < 4 ∧ nb c w' < 36 ∧ bit (Zrc (FL (S 0)) V a t k) (nb c w') = true) → ∃ d, d < 36 ∧ bit (Zrc (FL (S 0)) V a t k) d = true ∧ f_X7_cameFrom_L12 fuel (nI c) (Zrc (FL (S 0)) V a t k) (nI w) = some (nI d) ∧ f_X10_was_L17 fuel2 (nI c) (nI k) (nI w) σ = some (nI d) := by
  intro n
  induction n with
  | zero =>
    intro w fuel fuel2 hw hf hf2 ⟨w', q1, q2, _⟩
    omega
  | succ n ih =>
    intro w fuel fuel2 hw hf hf2 hex
    obtain ⟨fuel, rfl⟩ : ∃ k, fuel = k + 1 := ⟨fuel - 1, by omega⟩
    obtain ⟨fuel2, rfl⟩ : ∃ k, fuel2 = k + 1 := ⟨fuel2 - 1, by omega⟩
    have hw4 : w < 4 := by omega
    rw [ef_X7_cameFrom_L12, ef_X10_was_L17, if_neg (nle4 hw4), if_neg (nle4 hw4), beside_n c hc w hw4, mbeside hc hw4, h1]
    unfold f_X7_cameFrom_L42 f_X10_was_L53
    simp only [jlet_s]
    have next : bit (Zrc (FL (S 0)) V a t k) (nb c w) = false ∨ nb c w = 99 → ∃ d, d < 36 ∧ bit (Zrc (FL (S 0)) V a t k) d = true ∧ f_X7_cameFrom_L12 fuel (nI c) (Zrc (FL (S 0)) V a t k) (nI w + 1) = some (nI d) ∧ f_X10_was_L17 fuel2 (nI c) (nI k) (nI w + 1) σ = some (nI d) := by
      intro hq
      rw [nI_1]
      refine ih (w + 1) fuel fuel2 (by omega) (by omega) (by omega) ?_
      obtain ⟨w', q1, q2, q3, q4⟩ := hex
      refine ⟨w', ?_, q2, q3, q4⟩
      rcases (show w = w' ∨ w < w' by omega) with q | q
      · subst q
        rcases hq with hq | hq
        · rw [hq] at q4; cases q4
        · omega
      · exact q
    by_cases e : nb c w = 99
    · have e2 : nbw (S 0) c w = 99 := by unfold nbw; rw [if_pos e]
      rw [e, e2, if_pos cI_99, if_pos cI_99]
      exact next (Or.inr e)
    · have hd := (nb_lt c hc w hw4).resolve_left e
      rw [cI_ne hd, if_neg (nI_ne_m1 _ (by omega)), isIn_b _ (by omega)]
      cases hb : bit (Zrc (FL (S 0)) V a t k) (nb c w) with
      | true =>
        have hwall := Zrc_wall (S 0) V a t k (nb c w) hd hb
        have e2 : nbw (S 0) c w = nb c w := by unfold nbw; rw [if_neg e, if_neg (by rw [hwall]; decide)]
        rw [e2, cI_ne hd, if_neg (nI_ne_m1 _ (by omega)), if_neg (show ¬ bI true = 0 by decide), jix_t hk (by omega), nI_clamp (by omega), hR, has_b _ (by omega), hb, if_neg (show ¬ bI true = 0 by decide)]
        exact ⟨nb c w, hd, hb, rfl, rfl⟩
      | false =>
        rw [if_pos (show bI false = 0 from rfl)]
        obtain ⟨d, d1, d2, d3, d4⟩ := next (Or.inl hb)
        refine ⟨d, d1, d2, d3, ?_⟩
        by_cases e2 : nbw (S 0) c w = 99
        · rw [e2, if_pos cI_99]; exact d4
        · have e3 := (nbw_lt hc hw4 e2).2.1
          rw [e3, cI_ne hd, if_neg (nI_ne_m1 _ (by omega)), jix_t hk (by omega), nI_clamp (by omega), hR, has_b _ (by omega), hb, if_pos (show bI false = 0 from rfl)]
          exact d4
theorem back2 {S : Nat → Int64} {V : Nat → Int64} {a t k c : Nat} {σ : ST} (h1 : gB σ 1 0 = S 0) (hk : k < 25) (hR : gB σ 23 k = Zrc (FL (S 0)) V a t k) (hc : c < 36) (hb : bit (Zrc (FL (S 0)) V a t (k + 1)) c = true) : ∃ d, d < 36 ∧ bit (Zrc (FL (S 0)) V a t k) d = true ∧ f_X7_cameFrom (nI c) (Zrc (FL (S 0)) V a t k) = some (nI d) ∧ f_X10_was (nI c) (nI k) σ = some (nI d) := by
  unfold f_X7_cameFrom f_X10_was
  rw [isIn_b _ (by omega), jlet_s, jix_t hk (by omega), nI_clamp (by omega), hR, has_b _ (by omega), jlet_s]
  cases hq : bit (Zrc (FL (S 0)) V a t k) c with
  | true =>
    rw [if_neg (by decide), if_neg (by decide)]
    exact ⟨c, hc, hq, rfl, rfl⟩
  | false =>
    rw [if_pos (by decide), if_pos (by decide)]
    rcases Zrc_from (S 0) V a t k hc hb with h | ⟨w, w1, w2, w3⟩
    · rw [h] at hq; cases hq
    · exact back1 h1 hk hR hc 4 0 FU FU (by omega) (by unfold FU; omega) (by unfold FU; omega) ⟨w, Nat.zero_le _, w1, w2, w3⟩
theorem back3 {S : Nat → Int64} {V : Nat → Int64} {a t k q : Nat} {σx σm : ST} (h1 : gB σm 1 0 = S 0) (hk : k ≤ q) (hq : q ≤ 24) (hR : ∀ j, j ≤ 24 → gB σm 23 j = Zrc (FL (S 0)) V a t j) (hX : ∀ j, j ≤ q → gB σx 50 j = Zrc (FL (S 0)) V a t j) : ∀ m s c fuel fuel2, k + m = s → s ≤ q → c < 36 → bit (Zrc (FL (S 0)) V a t s) c = true → m < fuel → m < fuel2 → ∃ d, f_X7_before_L6 fuel (nI k) (nI c) (nI s) σx = some d ∧ f_X10_path_L62 fuel2 (nI k) (nI q) (nI c) (nI s) σm = some (d, σm) := by
  intro m
  induction m with
  | zero =>
    intro s c fuel fuel2 hs hsq hc hb hf hf2
    obtain ⟨fuel, rfl⟩ : ∃ k, fuel = k + 1 := ⟨fuel - 1, by omega⟩
    obtain ⟨fuel2, rfl⟩ : ∃ k, fuel2 = k + 1 := ⟨fuel2 - 1, by omega⟩
    rw [ef_X7_before_L6, ef_X10_path_L62, if_pos (nI_le (by omega) (by omega)), if_pos (nI_le (by omega) (by omega)), if_neg (nI_ne_m1 _ (by omega)), if_pos (nI_le hk (by omega))]
    exact ⟨_, rfl, rfl⟩
  | succ m ih =>
    intro s c fuel fuel2 hs hsq hc hb hf hf2
    obtain ⟨fuel, rfl⟩ : ∃ k, fuel = k + 1 := ⟨fuel - 1, by omega⟩
    obtain ⟨fuel2, rfl⟩ : ∃ k, fuel2 = k + 1 := ⟨fuel2 - 1, by omega⟩
    obtain ⟨s, rfl⟩ : ∃ s', s = s' + 1 := ⟨s - 1, by omega⟩
    obtain ⟨d, d1, d2, d3, d4⟩ := back2 h1 (show s < 25 by omega) (hR s (by omega)) hc hb
    obtain ⟨x, r1, r2⟩ := ih s d fuel fuel2 (by omega) (by omega) d1 d2 (by omega) (by omega)
    refine ⟨x, ?_, ?_⟩
    · rw [ef_X7_before_L6, if_neg (nI_ge (by omega) (by omega)), nI_pred, jix_t (by omega) (by omega), nI_clamp (by omega), hX s (by omega), d3, jb_s, pk_m1, jlet_s]
      exact r1
    · rw [ef_X10_path_L62, if_neg (nI_ge (by omega) (by omega)), nI_pred, d4, jb_s, pk_m1, jlet_s]
      exact r2
theorem op_path : OP_path REL := by
  intro σx σm x1 x2 x3 x4 hRel
  obtain ⟨S, r, G, n, nT, Tx, hS, hX, hM, hC, hr, hR⟩ := id hRel
  unfold f_X9_path f_X10_path
  rcases w35 x1 with ⟨a, ha, rfl, e1, e2⟩ | ⟨e1, e2⟩
  · rcases w35 x2 with ⟨b, hb, rfl, e3, e4⟩ | ⟨e3, e4⟩
    · rcases w23 x3 with ⟨t, ht, rfl, e5, e6⟩ | ⟨e5, e6⟩
      · rcases wN x4 (m := 24) (by omega) with ⟨k, hk, rfl, e7⟩ | e7
        · obtain ⟨sx, sm, q1, -, q2, hX2, hM2, -, hC2, hR2, hrow, hRel2⟩ := now hS hX hM hC hr hR
          obtain ⟨s3, u1, u2, u3⟩ := xsoonest (a := a) (b := b) (o := 40) (F := FL (S 0)) rfl hb ht hC2.2
          obtain ⟨s4, v1, v2, v3⟩ := msneaks ha ht hM2 hrow
          have hM4 := hM2.fr v2 okMM_23
          have fin : REL s3 s4 := REL.t hS hX2 hM2 hC2 hr hR2 u2 v2.M23
          simp only [e1, e2, e3, e4, e5, e6, show f_X9_isWithin (nI k) 24 = 1 from e7, show f_X10_in (nI k) 0 24 = 1 from e7, jlet_s, ifN1, ifN0, if10, if00, q1, q2, jb_s, floor_FL hX2.1.1.1, u1, jbp_s, v1, msoonest hb v3]
          rcases u3 with ⟨q, hq, h1, h2, h3⟩ | h1
          · rw [h1]
            by_cases hle : k ≤ q
            · rw [if_neg (nI_nlt hle (by omega))]
              obtain ⟨d, r1, r2⟩ := back3 (V := VA S (Tx r) G n) (a := a) (t := t) (σx := s3) hM4.1.1.1 hle hq v3 h3 (q - k) q b FU FU (by omega) (Nat.le_refl _) hb h2 (by unfold FU; omega) (by unfold FU; omega)
              unfold f_X7_before
              rw [r1, jb_s, r2]
              exact ⟨_, _, _, rfl, rfl, fin⟩
            · rw [if_pos (nI_lt (by omega) (by omega)), show FU = 4095 + 1 from rfl, ef_X10_path_L62, if_pos (nI_le (by omega) (by omega)), if_neg (nI_ne_m1 _ (by omega)), if_neg (nI_ge (by omega) (by omega))]
              exact ⟨_, _, _, rfl, rfl, fin⟩
          · rw [h1]
            have hlt : (-1 : Int32) < nI k := by
              rw [Int32.lt_iff_toInt_lt, nI_toInt (by omega)]
              show (-1 : Int) < _
              omega
            have hle : (-1 : Int32) ≤ nI k := Int32.le_of_lt hlt
            rw [if_pos hlt, show FU = 4095 + 1 from rfl, ef_X10_path_L62, if_pos hle, if_pos rfl]
            exact ⟨_, _, _, rfl, rfl, fin⟩
        · simp only [e1, e2, e3, e4, e5, e6, show f_X9_isWithin x4 24 = 0 from e7, show f_X10_in x4 0 24 = 0 from e7, jlet_s, ifN1, ifN0, if10, if00]
          exact ⟨_, _, _, rfl, rfl, hRel⟩
      · simp only [e1, e2, e3, e4, e5, e6, jlet_s, ifN1, ifN0, if10, if00]
        exact ⟨_, _, _, rfl, rfl, hRel⟩
    · simp only [e1, e2, e3, e4, jlet_s, ifN1, ifN0, if10, if00]
      exact ⟨_, _, _, rfl, rfl, hRel⟩
  · simp only [e1, e2, jlet_s, ifN1, ifN0, if10, if00]
    exact ⟨_, _, _, rfl, rfl, hRel⟩
