/-! ===== one lamp or mirror more: what is seen then ===== -/
theorem sB_sB {σ : ST} {k j : Nat} {a b : Int64} : sB (sB σ k j a) k j b = sB σ k j b := by
  unfold sB rB vp_updL gB
  simp only [if_pos]
  congr 1
  funext i
  by_cases h : i = k
  · subst h
    simp only [if_pos]
    funext l
    by_cases h2 : l = j
    · simp [h2]
    · simp [h2]
  · simp [h]
theorem sB_id {σ : ST} {k j : Nat} {a : Int64} (h : gB σ k j = a) : sB σ k j a = σ := by
  unfold sB rB vp_updL
  obtain ⟨f, g⟩ := σ
  simp only
  congr 1
  funext i
  by_cases q : i = k
  · subst q
    rw [if_pos rfl]
    funext l
    by_cases q2 : l = j
    · rw [if_pos q2, q2]; exact h.symm
    · rw [if_neg q2]; rfl
  · rw [if_neg q]
theorem gB_sB_eq {σ : ST} {k j : Nat} {v : Int64} : gB (sB σ k j v) k j = v := by rw [gB_sB, if_pos ⟨rfl, rfl⟩]
theorem fr_laid {σ σ' : ST} {w : Nat} {v v' : Int64} {a b : Nat → Bool} (f : Fr a b (sB σ 14 w v) σ') (hb : b 14 = false) (h : gB σ 14 w = v') : Fr a b σ (sB σ' 14 w v') := ⟨fun k q => by rw [gA_sB, f.1 k q, gA_sB], fun k q => by
  by_cases hk : k = 14
  · subst hk
    funext j
    rw [gB_sB]
    by_cases hj : j = w
    · rw [if_pos ⟨rfl, hj⟩, hj, h]
    · rw [if_neg (fun z => hj z.2), f.2.1 14 q, gB_sB, if_neg (fun z => hj z.2)]
  · rw [gB_sB_ne hk, f.2.1 k q, gB_sB_ne hk], by rw [gA_sB, f.2.2, gA_sB]⟩
theorem fm_laid {σ s s' : ST} {w : Nat} {v v0 : Int64} (f : FM aU bU σ (sB s 1 w v0)) (h : Fr aN (fun k => k == 22 || k == 23) (sB s 1 w v) s') : FM aU bU σ (sB s' 1 w v0) := by
  refine f.trans ⟨fun k q _ => ?_, fun k q => ?_, fun j _ => ?_⟩
  · rw [gA_sB, gA_sB, h.1 k (by unfold aU at q; unfold aN; simp at q ⊢; exact q.1), gA_sB]
  · by_cases hk : k = 1
    · subst hk
      funext j
      rw [gB_sB, gB_sB]
      by_cases hj : j = w
      · rw [if_pos ⟨rfl, hj⟩, if_pos ⟨rfl, hj⟩]
      · rw [if_neg (fun z => hj z.2), if_neg (fun z => hj z.2), h.2.1 1 rfl, gB_sB, if_neg (fun z => hj z.2)]
    · rw [gB_sB_ne hk, gB_sB_ne hk, h.2.1 k (by unfold bU at q; exact q), gB_sB_ne hk]
  · rw [gA_sB, gA_sB, h.1 0 rfl, gA_sB]
theorem or_0L {a b : Int64} (h : a ||| b = 0) : a = 0 ∧ b = 0 := by
  rw [bit_eq0] at h
  refine ⟨bit_eq0.mpr (fun i hi => ?_), bit_eq0.mpr (fun i hi => ?_)⟩
  · have := h i hi
    rw [bit_or, Bool.or_eq_false_iff] at this
    exact this.1
  · have := h i hi
    rw [bit_or, Bool.or_eq_false_iff] at this
    exact this.2
theorem xor_0L {a b : Int64} (h : a ^^^ b = 0) : a = b := by
  rw [bit_eq0] at h
  refine bit_ext (fun i hi => ?_)
  have := h i hi
  rw [bit_xor] at this
  cases q : bit a i <;> cases q2 : bit b i <;> simp_all
theorem xothers {σ : ST} : ∃ b, f_X8_supposeLaid_L98 FU 0 0 σ = some (bI b, σ) ∧ (b = false → ∀ t, t < 24 → gB σ 41 t = gB σ 40 t) := by
  refine jloop (fun k i (a : Int64) => f_X8_supposeLaid_L98 k a (nI i) σ) 24 (fun i a => a = 0 → ∀ t, t < i → gB σ 41 t = gB σ 40 t) (fun r => ∃ b, r = some (bI b, σ) ∧ (b = false → ∀ t, t < 24 → gB σ 41 t = gB σ 40 t)) ?_ ?_ FU 0 0 (by omega) (by unfold FU; omega) (fun _ t ht => absurd ht (Nat.not_lt_zero _))
  · intro k i a hi hp
    refine Or.inr ⟨a ||| (gB σ 41 i ^^^ gB σ 40 i), fun h t ht => ?_, ?_⟩
    · obtain ⟨h1, h2⟩ := or_0L h
      by_cases e : t = i
      · rw [e]; exact xor_0L h2
      · exact hp h1 t (by omega)
    · show f_X8_supposeLaid_L98 (k + 1) a (nI i) σ = _
      rw [ef_X8_supposeLaid_L98, if_neg (nle24 hi), jix_t hi (by omega), jix_t hi (by omega), nI_clamp (by omega), jlet_s, jlet_s, nI_1]
  · intro k a hp
    show ∃ b, f_X8_supposeLaid_L98 (k + 1) a (nI 24) σ = some (bI b, σ) ∧ _
    rw [ef_X8_supposeLaid_L98, if_pos (show (24 : Int32) ≤ nI 24 by decide)]
    by_cases h : a = 0
    · rw [if_pos h]
      exact ⟨false, rfl, fun _ => hp h⟩
    · rw [if_neg h]
      exact ⟨true, rfl, fun z => by cases z⟩
theorem xsupLaid {S : Nat → Int64} {r n w c : Nat} {T : TT} {G : Nat → Nat → Nat} {σ : ST} (hX : VX S r T G n σ) (hC : CX S T G n σ) (hw : w < 3) (hw0 : w ≠ 0) (hc : c < 36) : ∃ σ' b, f_X8_supposeLaid (nI w) (nI c) σ = some (bI b, σ') ∧ Fr aS bF σ σ' ∧ (∀ t, t < 24 → gB σ' 41 t = ZV (plus S w c) T G n (fun _ => true) t) ∧ (b = false → ∀ t, t < 24 → ZV (plus S w c) T G n (fun _ => true) t = ZV S T G n (fun _ => true) t) := by
  have hn := hX.2.2.1
  have hSw : gB σ 14 w = S w := by
    rcases (show w = 1 ∨ w = 2 by omega) with rfl | rfl
    · exact hX.1.1.2.1
    · exact hX.1.1.2.2
  have hX1 : VX (plus S w c) r T G n (sB σ 14 w (S w ||| jlshl 1 (nI c))) := hX.laid _
  obtain ⟨s1, e1, f1, r1⟩ := xfill (sB σ 14 w (S w ||| jlshl 1 (nI c)))
  have hX2 := hX1.fr f1 okXX_41
  have lp : ∃ σ' b, f_X8_supposeLaid_L35 FU (nI w) (nI c) (S w) 0 s1 = some (bI b, sB σ' 14 w (S w)) ∧ Fr aS bF s1 σ' ∧ (∀ t, t < 24 → gB σ' 41 t = ZV (plus S w c) T G n (fun _ => true) t) ∧ (b = false → ∀ t, t < 24 → gB σ' 41 t = gB σ' 40 t) := by
    refine jloop (fun k i s => f_X8_supposeLaid_L35 k (nI w) (nI c) (S w) (nI i) s) n (fun i s => Fr aS bF s1 s ∧ ∀ t, t < 24 → gB s 41 t = ZV (plus S w c) T G i (fun _ => true) t) (fun q => ∃ σ' b, q = some (bI b, sB σ' 14 w (S w)) ∧ Fr aS bF s1 σ' ∧ (∀ t, t < 24 → gB σ' 41 t = ZV (plus S w c) T G n (fun _ => true) t) ∧ (b = false → ∀ t, t < 24 → gB σ' 41 t = gB σ' 40 t)) ?_ ?_ FU 0 s1 (by omega) (by unfold FU; omega) ⟨Fr.rf, r1⟩
    · intro k i s hi ⟨p1, p2⟩
      have hi5 : i < 5 := by omega
      have hv := hX2.fr p1 okXX_S
      have g48 : gB s 48 i = Ztou S T (G i) i 24 := by
        rw [p1.B rfl, f1.B rfl, gB_sB_ne (by omega)]
        exact (hC.1 i hi).2
      have go : ∀ s2, (∀ t, t < 24 → gB s2 41 t = gB s 41 t ||| Zthr (plus S w c) T (G i) i t) → Fr aS bF s s2 → Fr aS bF s1 s2 ∧ ∀ t, t < 24 → gB s2 41 t = ZV (plus S w c) T G (i + 1) (fun _ => true) t := fun s2 q1 q2 => ⟨p1.trans q2, fun t ht => by
        rw [q1 t ht, p2 t ht]
        rfl⟩
      have ex : f_X8_supposeLaid_L35 (k + 1) (nI w) (nI c) (S w) (nI i) s = if bI (bit (Ztou S T (G i) i 24) c) = 0 then jb (f_X8_addKnown (nI i) s) (fun s7 => f_X8_supposeLaid_L76 (f_X8_supposeLaid_L35 k) (nI w) (nI c) (S w) (nI i) s7) else jb (f_X8_addFound (nI i) s) (fun s9 => f_X8_supposeLaid_L76 (f_X8_supposeLaid_L35 k) (nI w) (nI c) (S w) (nI i) s9) := by
        rw [ef_X8_supposeLaid_L35, hv.2.1, if_neg (nI_ge hi (by omega)), jix_t hi5 (by omega), nI_clamp (by omega), g48, isIn_b _ (by omega), jlet_s]
      cases hb : bit (Ztou S T (G i) i 24) c with
      | false =>
        obtain ⟨s2, e2, f2, r2⟩ := xaddKnown hi5 s
        refine Or.inr ⟨s2, go s2 (fun t ht => ?_) f2.O41, ?_⟩
        · rw [r2 t ht, p1.B (show bF (43 + i) = false by unfold bF; simp; omega), f1.B (show b41 (43 + i) = false by unfold b41; simp; omega), gB_sB_ne (by omega), (hC.1 i hi).1 t ht, Zthr_plus hw0 hc (hX.2.2.2 i hi5).2 (Ztou_bit 24 hb t ht)]
        · show f_X8_supposeLaid_L35 (k + 1) (nI w) (nI c) (S w) (nI i) s = _
          rw [ex, hb, if_pos (show bI false = 0 from rfl), e2, jb_s]
          unfold f_X8_supposeLaid_L76
          rw [jlet_s, nI_1]
      | true =>
        obtain ⟨s2, e2, f2, r2⟩ := xaddFound hi5 hv
        refine Or.inr ⟨s2, go s2 r2 f2, ?_⟩
        show f_X8_supposeLaid_L35 (k + 1) (nI w) (nI c) (S w) (nI i) s = _
        rw [ex, hb, if_neg (show ¬ bI true = 0 by decide), e2, jb_s]
        unfold f_X8_supposeLaid_L76
        rw [jlet_s, nI_1]
    · intro k s ⟨p1, p2⟩
      obtain ⟨b, q1, q2⟩ := xothers (σ := sB s 14 w (S w))
      refine ⟨s, b, ?_, p1, p2, fun hb t ht => ?_⟩
      · show f_X8_supposeLaid_L35 (k + 1) (nI w) (nI c) (S w) (nI n) s = _
        rw [ef_X8_supposeLaid_L35, (hX2.fr p1 okXX_S).2.1, if_pos (Int32.le_refl _), jix_t hw (by omega), nI_clamp (by omega), jlet_s]
        exact q1
      · have := q2 hb t ht
        rw [gB_sB_ne (by omega), gB_sB_ne (by omega)] at this
        exact this
  obtain ⟨σ', b, l1, l2, l3, l4⟩ := lp
  refine ⟨sB σ' 14 w (S w), b, ?_, fr_laid (f1.O41.trans l2) rfl hSw, fun t ht => by rw [gB_sB_ne (by omega)]; exact l3 t ht, fun hb t ht => ?_⟩
  · unfold f_X8_supposeLaid
    rw [jix_t hw (by omega), nI_clamp (by omega), hSw, jlet_s, jix_t hw (by omega), jlet_s, e1, jb_s]
    exact l1
  · rw [← l3 t ht, l4 hb t ht, l2.B rfl, f1.B rfl, gB_sB_ne (by omega)]
    exact hC.2 t ht
/-! ===== how many seconds ===== -/
theorem shl_24 : ∀ t, t < 24 → jshl 1 (nI t) = nI (2 ^ t) := by decide +kernel
theorem nI_or (a b : Nat) : nI a ||| nI b = nI (a ||| b) := by
  apply Int32.toBitVec_inj.mp
  rw [Int32.toBitVec_or]
  show BitVec.ofNat 32 a ||| BitVec.ofNat 32 b = BitVec.ofNat 32 (a ||| b)
  rw [BitVec.ofNat_or]
theorem Zst_n (F : Int64) (V : Nat → Int64) (a b : Nat) : ∀ t, t ≤ 24 → ∃ k, k < 2 ^ 24 ∧ Zst F V a b t = nI k
  | 0, _ => ⟨0, by decide, rfl⟩
  | t + 1, ht => by
    obtain ⟨k, h1, h2⟩ := Zst_n F V a b t (by omega)
    unfold Zst
    rw [h2]
    by_cases q : Zsn (Zrc F V a t) b 25 0 = -1
    · rw [if_pos q, Int32.or_zero]
      exact ⟨k, h1, rfl⟩
    · rw [if_neg q, shl_24 t (by omega), nI_or]
      exact ⟨_, Nat.or_lt_two_pow h1 (Nat.pow_lt_pow_right (by decide) (by omega)), rfl⟩
def Zct (F : Int64) (V : Nat → Int64) (a b : Nat) : Int32 := f_J6_bitCount_0f7a4 (Zst F V a b 24)
theorem Zct_m (F : Int64) (V : Nat → Int64) (a b : Nat) : f_X10_bitsOf (Int32.toInt64 (Zst F V a b 24)) = some (Zct F V a b) := by
  obtain ⟨k, h1, h2⟩ := Zst_n F V a b 24 (Nat.le_refl _)
  unfold Zct
  rw [h2, popI2 h1, popI h1]
theorem Zrc_cong {F : Int64} {V V' : Nat → Int64} {a t : Nat} (h : ∀ t, t < 24 → V t = V' t) : ∀ k, Zrc F V a t k = Zrc F V' a t k
  | 0 => by
    unfold Zrc
    rw [h _ (Nat.mod_lt _ (by decide))]
  | k + 1 => by
    unfold Zrc
    rw [Zrc_cong h k, h _ (Nat.mod_lt _ (by decide))]
theorem Zst_cong {F : Int64} {V V' : Nat → Int64} {a b : Nat} (h : ∀ t, t < 24 → V t = V' t) : ∀ t, Zst F V a b t = Zst F V' a b t
  | 0 => rfl
  | t + 1 => by
    unfold Zst
    rw [Zst_cong h t, show Zrc F V a t = Zrc F V' a t from funext (Zrc_cong h)]
theorem Zct_cong {F : Int64} {V V' : Nat → Int64} {a b : Nat} (h : ∀ t, t < 24 → V t = V' t) : Zct F V a b = Zct F V' a b := by
  unfold Zct
  rw [Zst_cong h]
theorem plus_id {S : Nat → Int64} {w c : Nat} (hc : c < 36) (h : bit (S w) c = true) : plus S w c = S := by
  have e : S w ||| jlshl 1 (nI c) = S w := bit_ext (fun i hi => by
    rw [bit_or, bit_one (by omega) hi]
    by_cases q : i = c
    · rw [q, h]; rfl
    · rw [decide_eq_false q, Bool.or_false])
  funext i
  unfold plus setS
  rw [e]
  by_cases q : i = w
  · rw [if_pos q, q]
  · rw [if_neg q]
abbrev bMo : Nat → Bool := fun k => k == 5 || k == 41 || k == 50
theorem le_tr {a b c : Int32} (h1 : a ≤ b) (h2 : b ≤ c) : a ≤ c := by
  rw [Int32.le_iff_toInt_le] at h1 h2 ⊢
  omega
theorem le_nlt2 {a b : Int32} (h : ¬ a ≤ b) : b ≤ a := by
  rw [Int32.le_iff_toInt_le] at h ⊢
  omega
theorem more_loop {S : Nat → Int64} {r n w a b q : Nat} {T : TT} {G : Nat → Nat → Nat} {sx σm : ST} (hX : VX S r T G n sx) (hC : CX S T G n sx) (hM : VM S r T G n σm) (hw : w < 3) (hw0 : w ≠ 0) (hq : q < 4) (hwq : w = 1 + q % 2) (ha : a < 36) (hb : b < 36) : ∀ k0 i best least fuel σ τ, i + k0 = 36 → k0 < fuel → least ≤ Zct (FL (S 0)) (VA S T G n) a b → Fr aS bMo sx σ → FM aU bU σm (sB τ 1 w (S w)) → ∃ y σ' τ', f_X9_more_L63 fuel (nI a) (nI b) (nI q) (FL (S 0)) least best (nI i) σ = some (y, σ') ∧ Fr aS bMo sx σ' ∧ (∀ fuel2, k0 < fuel2 → f_X10_more_L63 fuel2 (nI a) (nI b) (nI q) (nI w) (S w) best least (nI i) τ = some (y, τ')) ∧ FM aU bU σm τ' := by
  have oM : okXX aS bMo := ⟨⟨rfl, fun t ht => by
    unfold aS
    refine ⟨?_, ?_⟩ <;> simp <;> omega, rfl⟩, rfl, rfl, rfl, rfl, rfl, rfl⟩
  intro k0
  induction k0 with
  | zero =>
    intro i best least fuel σ τ hi hf hle hfr hfm
    obtain ⟨fuel, rfl⟩ : ∃ k, fuel = k + 1 := ⟨fuel - 1, by omega⟩
    have : i = 36 := by omega
    subst this
    by_cases hq2 : (2 : Int32) ≤ nI q
    · refine ⟨least, σ, sB τ 1 w (S w), ?_, hfr, fun fuel2 hf2 => ?_, hfm⟩
      · rw [ef_X9_more_L63, if_pos (by decide), if_pos hq2]
      · obtain ⟨fuel2, rfl⟩ : ∃ k, fuel2 = k + 1 := ⟨fuel2 - 1, by omega⟩
        rw [ef_X10_more_L63, if_pos (by decide), jix_t hw (by omega), nI_clamp (by omega), jlet_s, if_pos hq2]
    · refine ⟨best, σ, sB τ 1 w (S w), ?_, hfr, fun fuel2 hf2 => ?_, hfm⟩
      · rw [ef_X9_more_L63, if_pos (by decide), if_neg hq2]
      · obtain ⟨fuel2, rfl⟩ : ∃ k, fuel2 = k + 1 := ⟨fuel2 - 1, by omega⟩
        rw [ef_X10_more_L63, if_pos (by decide), jix_t hw (by omega), nI_clamp (by omega), jlet_s, if_neg hq2]
  | succ k0 ih =>
    intro i best least fuel σ τ hi hf hle hfr hfm
    obtain ⟨fuel, rfl⟩ : ∃ k, fuel = k + 1 := ⟨fuel - 1, by omega⟩
    have hi36 : i < 36 := by omega
    have hMs := hM.fm hfm rfl rfl rfl rfl rfl rfl rfl rfl rfl
    have g0 : gB τ 1 0 = S 0 := by
      have := hMs.1.1.1
      rw [gB_sB, if_neg (by omega)] at this
      exact this
    have ex : f_X9_more_L63 (fuel + 1) (nI a) (nI b) (nI q) (FL (S 0)) least best (nI i) σ = if bI (!bit (S 0) i) = 0 then f_X9_more_L141 (f_X9_more_L63 fuel) (nI a) (nI b) (nI q) (FL (S 0)) least best (nI i) σ else f_X9_more_L95 (f_X9_more_L63 fuel) (nI a) (nI b) (nI q) (FL (S 0)) least best (nI i) (nI w) σ := by
      rw [ef_X9_more_L63, if_neg (nle36 hi36), isIn_b _ (by omega), FL_bit _ (by omega), decide_eq_true hi36, Bool.true_and, jlet_s, show (2 : Int32) = nI 2 from rfl, jrem_n (by omega) (by omega) (by omega), hwq]
      rcases (show q % 2 = 0 ∨ q % 2 = 1 by omega) with z | z
      · rw [z, if_neg (show ¬ ¬ nI 0 = 0 by decide)]; rfl
      · rw [z, if_pos (show ¬ nI 1 = 0 by decide)]
    have ey : ∀ fuel2, f_X10_more_L63 (fuel2 + 1) (nI a) (nI b) (nI q) (nI w) (S w) best least (nI i) τ = if ¬ bI (bit (S 0) i) = 0 then f_X10_more_L152 (f_X10_more_L63 fuel2) (nI a) (nI b) (nI q) (nI w) (S w) best least (nI i) τ else (if ¬ bI (bit (S w) i) = 0 then f_X10_more_L152 (f_X10_more_L63 fuel2) (nI a) (nI b) (nI q) (nI w) (S w) best least (nI i) τ else jbp (f_X10_whenFrom (nI a) (nI b) (sB τ 1 w (S w ||| jlshl 1 (nI i)))) (fun y9 s10 => jb (f_X10_bitsOf (Int32.toInt64 y9)) (fun y11 => if least ≤ y11 then f_X10_more_L134 (f_X10_more_L63 fuel2) (nI a) (nI b) (nI q) (nI w) (S w) least (nI i) y11 best s10 else f_X10_more_L134 (f_X10_more_L63 fuel2) (nI a) (nI b) (nI q) (nI w) (S w) least (nI i) y11 (nI i) s10))) := by
      intro fuel2
      rw [ef_X10_more_L63, if_neg (nle36 hi36), show Int32.toNatClampNeg 0 = 0 from rfl, g0, has_b _ (by omega), jlet_s, has_b _ (by omega), jlet_s, jix_t hw (by omega), nI_clamp (by omega), jlet_s]
    have fin : ∀ s t, Fr aS bMo sx s → FM aU bU σm (sB t 1 w (S w)) → f_X9_more_L63 (fuel + 1) (nI a) (nI b) (nI q) (FL (S 0)) least best (nI i) σ = f_X9_more_L63 fuel (nI a) (nI b) (nI q) (FL (S 0)) least best (nI (i + 1)) s → (∀ fuel2, f_X10_more_L63 (fuel2 + 1) (nI a) (nI b) (nI q) (nI w) (S w) best least (nI i) τ = f_X10_more_L63 fuel2 (nI a) (nI b) (nI q) (nI w) (S w) best least (nI (i + 1)) t) → ∃ y σ' τ', f_X9_more_L63 (fuel + 1) (nI a) (nI b) (nI q) (FL (S 0)) least best (nI i) σ = some (y, σ') ∧ Fr aS bMo sx σ' ∧ (∀ fuel2, k0 + 1 < fuel2 → f_X10_more_L63 fuel2 (nI a) (nI b) (nI q) (nI w) (S w) best least (nI i) τ = some (y, τ')) ∧ FM aU bU σm τ' := by
      intro s t f1 f2 h1 h2
      obtain ⟨y, σ', τ', r1, r2, r3, r4⟩ := ih (i + 1) best least fuel s t (by omega) (by omega) hle f1 f2
      refine ⟨y, σ', τ', by rw [h1]; exact r1, r2, fun fuel2 hf2 => ?_, r4⟩
      obtain ⟨fuel2, rfl⟩ : ∃ k, fuel2 = k + 1 := ⟨fuel2 - 1, by omega⟩
      rw [h2]; exact r3 fuel2 (by omega)
    cases hwall : bit (S 0) i with
    | true =>
      refine fin σ τ hfr hfm ?_ (fun fuel2 => ?_)
      · rw [ex, hwall, if_pos (show bI (!true) = 0 from rfl)]
        unfold f_X9_more_L141
        rw [jlet_s, nI_1]
      · rw [ey, hwall, if_pos (show ¬ bI true = 0 by decide)]
        unfold f_X10_more_L152
        rw [jlet_s, nI_1]
    | false =>
      -- the class tries it
      have hXs := hX.fr hfr oM
      have hCs : CX S T G n σ := hC.fr hfr hX.2.2.1 rfl (fun g hg => by simp; omega) rfl
      obtain ⟨s3, bb, u1, u2, u3, u4⟩ := xsupLaid (w := w) (c := i) hXs hCs hw hw0 hi36
      have u2' : Fr aS bMo σ s3 := u2.mono (fun _ q => q) (fun k q => by unfold bF; simp at q ⊢; exact q.1)
      obtain ⟨s4, v1, v2⟩ := xstarts (V := ZV (plus S w i) T G n (fun _ => true)) (o := 41) (a := a) (b := b) (F := FL (S 0)) rfl hb u3
      have v2' : Fr aS bMo s3 s4 := v2.mono (fun _ _ => rfl) (fun k q => by unfold b50; simp at q ⊢; exact q.2)
      have f4 : Fr aS bMo sx s4 := (hfr.trans u2').trans v2'
      have f3 : Fr aS bMo sx s3 := hfr.trans u2'
      have ex2 : f_X9_more_L63 (fuel + 1) (nI a) (nI b) (nI q) (FL (S 0)) least best (nI i) σ = if bI bb = 0 then f_X9_more_L141 (f_X9_more_L63 fuel) (nI a) (nI b) (nI q) (FL (S 0)) least best (nI i) s3 else if least ≤ Zct (FL (S 0)) (ZV (plus S w i) T G n (fun _ => true)) a b then f_X9_more_L141 (f_X9_more_L63 fuel) (nI a) (nI b) (nI q) (FL (S 0)) least best (nI i) s4 else f_X9_more_L141 (f_X9_more_L63 fuel) (nI a) (nI b) (nI q) (FL (S 0)) (Zct (FL (S 0)) (ZV (plus S w i) T G n (fun _ => true)) a b) (nI i) (nI i) s4 := by
        rw [ex, hwall, if_neg (show ¬ bI (!false) = 0 by decide)]
        unfold f_X9_more_L95
        rw [u1, jbp_s, v1, jbp_s, jlet_s]
        rfl
      -- nothing better: the class goes on so
      have same : least ≤ Zct (FL (S 0)) (ZV (plus S w i) T G n (fun _ => true)) a b → ∃ s, Fr aS bMo sx s ∧ f_X9_more_L63 (fuel + 1) (nI a) (nI b) (nI q) (FL (S 0)) least best (nI i) σ = f_X9_more_L63 fuel (nI a) (nI b) (nI q) (FL (S 0)) least best (nI (i + 1)) s := by
        intro hge
        unfold f_X9_more_L141 at ex2
        rw [if_pos hge, jlet_s, jlet_s, nI_1] at ex2
        cases bb with
        | false =>
          rw [if_pos (show bI false = 0 from rfl)] at ex2
          exact ⟨s3, f3, ex2⟩
        | true =>
          rw [if_neg (show ¬ bI true = 0 by decide)] at ex2
          exact ⟨s4, f4, ex2⟩
      cases hhas : bit (S w) i with
      | true =>
        have e := plus_id hi36 hhas
        obtain ⟨s, q1, q2⟩ := same (by rw [e]; exact hle)
        refine fin s τ q1 hfm q2 (fun fuel2 => ?_)
        rw [ey, hwall, hhas, if_neg (show ¬ ¬ bI false = 0 by decide), if_pos (show ¬ bI true = 0 by decide)]
        unfold f_X10_more_L152
        rw [jlet_s, nI_1]
      | false =>
        have hMp : VM (plus S w i) r T G n (sB τ 1 w (S w ||| jlshl 1 (nI i))) := by
          have := hMs.laid (w := w) (S w ||| jlshl 1 (nI i))
          rw [sB_sB] at this
          exact this
        obtain ⟨t4, k1, k2⟩ := mwhenFrom ha hb hMp
        have hp0 : plus S w i 0 = S 0 := plus_0 hw0
        rw [hp0] at k1
        have hfm4 := fm_laid hfm k2
        have ey2 : ∀ fuel2, f_X10_more_L63 (fuel2 + 1) (nI a) (nI b) (nI q) (nI w) (S w) best least (nI i) τ = if least ≤ Zct (FL (S 0)) (ZV (plus S w i) T G n (fun _ => true)) a b then f_X10_more_L63 fuel2 (nI a) (nI b) (nI q) (nI w) (S w) best least (nI (i + 1)) t4 else f_X10_more_L63 fuel2 (nI a) (nI b) (nI q) (nI w) (S w) (nI i) (Zct (FL (S 0)) (ZV (plus S w i) T G n (fun _ => true)) a b) (nI (i + 1)) t4 := by
          intro fuel2
          rw [ey, hwall, hhas, if_neg (show ¬ ¬ bI false = 0 by decide), if_neg (show ¬ ¬ bI false = 0 by decide), k1, jbp_s, Zct_m, jb_s]
          unfold f_X10_more_L134 f_X10_more_L150 f_X10_more_L152
          rw [jlet_s, jlet_s, nI_1]
          by_cases z : least ≤ Zct (FL (S 0)) (ZV (plus S w i) T G n (fun _ => true)) a b
          · rw [if_pos z, if_pos z, if_pos z]
          · rw [if_neg z, if_neg z, if_neg z, jlet_s]
        by_cases z : least ≤ Zct (FL (S 0)) (ZV (plus S w i) T G n (fun _ => true)) a b
        · obtain ⟨s, q1, q2⟩ := same z
          exact fin s t4 q1 hfm4 q2 (fun fuel2 => by rw [ey2, if_pos z])
        · have hbb : bb = true := by
            cases bb with
            | true => rfl
            | false =>
              refine absurd ?_ z
              rw [Zct_cong (u4 rfl)]
              exact hle
          subst hbb
          rw [if_neg (show ¬ bI true = 0 by decide), if_neg z] at ex2
          unfold f_X9_more_L141 at ex2
          rw [jlet_s, nI_1] at ex2
          obtain ⟨y, σ', τ', r1, r2, r3, r4⟩ := ih (i + 1) (nI i) (Zct (FL (S 0)) (ZV (plus S w i) T G n (fun _ => true)) a b) fuel s4 t4 (by omega) (by omega) (le_tr (le_nlt2 z) hle) f4 hfm4
          refine ⟨y, σ', τ', by rw [ex2]; exact r1, r2, fun fuel2 hf2 => ?_, r4⟩
          obtain ⟨fuel2, rfl⟩ : ∃ k, fuel2 = k + 1 := ⟨fuel2 - 1, by omega⟩
          rw [ey2, if_neg z]; exact r3 fuel2 (by omega)
theorem op_more : OP_more REL := by
  intro σx σm x1 x2 x3 hRel
  obtain ⟨S, r, G, n, nT, Tx, hS, hX, hM, hC, hr, hR⟩ := id hRel
  unfold f_X9_more f_X10_more
  rcases w35 x1 with ⟨a, ha, rfl, e1, e2⟩ | ⟨e1, e2⟩
  · rcases w35 x2 with ⟨b, hb, rfl, e3, e4⟩ | ⟨e3, e4⟩
    · rcases wN x3 (m := 3) (by omega) with ⟨q, hq, rfl, e5⟩ | e5
      · obtain ⟨sx, sm, q1, -, q2, hX2, hM2, -, hC2, hR2, hrow, hRel2⟩ := now hS hX hM hC hr hR
        obtain ⟨s3, u1, u2⟩ := xstarts (V := VA S (Tx r) G n) (a := a) (b := b) (o := 40) (F := FL (S 0)) rfl hb hC2.2
        obtain ⟨s4, v1, v2⟩ := mwhenFrom ha hb hM
        obtain ⟨s', k1, k2, k3, k4⟩ := xrefresh hX hC
        have hsx : Fr aR bR σx sx := by
          unfold f_X9_seenNow at q1
          rw [k1] at q1
          cases q1
          exact k2
        have hw : 1 + q % 2 < 3 := by omega
        have hSw : gB σm 1 (1 + q % 2) = S (1 + q % 2) := (lay3 hX hM hw).2
        have hSw4 : gB s4 1 (1 + q % 2) = S (1 + q % 2) := by rw [v2.B rfl]; exact hSw
        have oM : Fr aS bMo sx s3 := u2.mono (fun _ _ => rfl) (fun k q => by unfold b50; simp at q ⊢; exact q.2)
        obtain ⟨y, σ', τ', r1, r2, r3, r4⟩ := more_loop (w := 1 + q % 2) hX2 hC2 hM hw (by omega) (show q < 4 by omega) rfl ha hb 36 0 (-1) (Zct (FL (S 0)) (VA S (Tx r) G n) a b) FU s3 s4 (by omega) (by unfold FU; omega) (Int32.le_refl _) oM (by rw [sB_id hSw4]; exact v2.MW)
        rw [e1, jlet_s, if10, e3, jlet_s, ifN1, show f_X9_isWithin (nI q) 3 = 1 from e5, jlet_s, ifN1, floor_FL hX.1.1.1, jlet_s, q1, jb_s, u1, jbp_s, jlet_s]
        rw [e2, jlet_s, if10, e4, jlet_s, ifN1, show f_X10_in (nI q) 0 3 = 1 from e5, jlet_s, ifN1, show (1 : Int32) + jrem (nI q) 2 = nI (1 + q % 2) by rw [show (2 : Int32) = nI 2 from rfl, jrem_n (by omega) (by omega) (by omega), show (1 : Int32) = nI 1 from rfl, nI_add], jlet_s, jix_t hw (by omega), nI_clamp (by omega), hSw, jlet_s, v1, jbp_s, Zct_m, jb_s]
        exact ⟨y, σ', τ', r1, r3 FU (by unfold FU; omega), REL.q hS hX hM hr hR (hsx.RQ.trans (r2.mono (fun k q => by unfold aQ at q; unfold aS; simp at q ⊢; exact q.1) (fun k q => by unfold bQ at q; simp at q ⊢; omega))) r4 (fun _ => hC2.fr r2 hX.2.2.1 rfl (fun g hg => by simp; omega) rfl)⟩
      · rw [e1, jlet_s, if10, e3, jlet_s, ifN1, show f_X9_isWithin x3 3 = 0 from e5, jlet_s, ifN0]
        rw [e2, jlet_s, if10, e4, jlet_s, ifN1, show f_X10_in x3 0 3 = 0 from e5, jlet_s, ifN0]
        exact ⟨_, _, _, rfl, rfl, hRel⟩
    · rw [e1, jlet_s, if10, e3, jlet_s, ifN0, e2, jlet_s, if10, e4, jlet_s, ifN0]
      exact ⟨_, _, _, rfl, rfl, hRel⟩
  · rw [e1, jlet_s, if00, e2, jlet_s, if00]
    exact ⟨_, _, _, rfl, rfl, hRel⟩
