/-! ===== a guard's seconds ahead, supposed ===== -/
def setA (G : Nat → Nat → Nat) (g a : Nat) : Nat → Nat → Nat := fun g' j => if g' = g ∧ j = 5 then a else G g' j
theorem setA_ne {G : Nat → Nat → Nat} {g a g' : Nat} (h : g' ≠ g) : setA G g a g' = G g' := by
  funext j
  unfold setA
  rw [if_neg (fun q => h q.1)]
theorem setA_GW {G : Nat → Nat → Nat} {g a : Nat} (h : GW (G g)) (ha : a < 24) : GW (setA G g a g) := by
  obtain ⟨h0, h1, h2, h3, h4, h5⟩ := h
  unfold GW setA
  exact ⟨by rw [if_neg (by omega)]; exact h0, by rw [if_neg (by omega)]; exact h1, by rw [if_neg (by omega)]; exact h2, by rw [if_neg (by omega)]; exact h3, by rw [if_neg (by omega)]; exact h4, by rw [if_pos ⟨rfl, rfl⟩]; exact ha⟩
theorem VX.ahead {S : Nat → Int64} {r n g a : Nat} {T : TT} {G : Nat → Nat → Nat} {σ : ST} (h : VX S r T G n σ) (hg : g < 5) (ha : a < 24) : VX S r T (setA G g a) n (sA σ 20 g (nI a)) := by
  obtain ⟨⟨s, q1, q2, q3, q4⟩, q6, q7, q8⟩ := h
  refine ⟨⟨s, by rw [gA_sA, if_neg (by omega)]; exact q1, q2, q3, ⟨fun i hi => ?_, fun p hp => ?_⟩⟩, by rw [gA_sA, if_neg (by omega)]; exact q6, q7, fun g' hg' => ?_⟩
  · rw [gA_sA, if_neg (by omega)]; exact q4.1 i hi
  · rw [gA_sA, if_neg (by omega)]; exact q4.2 p hp
  · by_cases e : g' = g
    · subst e
      refine ⟨?_, setA_GW (q8 g' hg').2 ha⟩
      obtain ⟨a0, a1, a2, a3, a4, a5⟩ := (q8 g' hg').1
      unfold atX setA
      simp only [gA_sA]
      simpa using ⟨a0, a1, a2, a3, a4⟩
    · rw [setA_ne e]
      refine ⟨?_, (q8 g' hg').2⟩
      obtain ⟨a0, a1, a2, a3, a4, a5⟩ := (q8 g' hg').1
      unfold atX
      simp only [gA_sA]
      simpa [e] using ⟨a0, a1, a2, a3, a4, a5⟩
theorem VM.ahead {S : Nat → Int64} {r n g a : Nat} {T : TT} {G : Nat → Nat → Nat} {σ : ST} (h : VM S r T G n σ) (hg : g < 5) (ha : a < 24) : VM S r T (setA G g a) n (sA σ 7 g (nI a)) := by
  obtain ⟨⟨s, q1, q2, q3, q4⟩, q6, q7, q8⟩ := h
  refine ⟨⟨s, by rw [gA_sA, if_neg (by omega)]; exact q1, q2, q3, ⟨fun i hi => ?_, fun p hp => ?_⟩⟩, by rw [gA_sA, if_neg (by omega)]; exact q6, q7, fun g' hg' => ?_⟩
  · rw [gA_sA, if_neg (by omega)]; exact q4.1 i hi
  · rw [gA_sA, if_neg (by omega)]; exact q4.2 p hp
  · by_cases e : g' = g
    · subst e
      refine ⟨?_, setA_GW (q8 g' hg').2 ha⟩
      obtain ⟨a0, a1, a2, a3, a4, a5⟩ := (q8 g' hg').1
      unfold atM setA
      simp only [gA_sA]
      simpa using ⟨a0, a1, a2, a3, a4⟩
    · rw [setA_ne e]
      refine ⟨?_, (q8 g' hg').2⟩
      obtain ⟨a0, a1, a2, a3, a4, a5⟩ := (q8 g' hg').1
      unfold atM
      simp only [gA_sA]
      simpa [e] using ⟨a0, a1, a2, a3, a4, a5⟩
theorem fr_ahead {σ σ' : ST} {g : Nat} {v v' : Int32} {b : Nat → Bool} (f : Fr aS b (sA σ 20 g v) σ') (h : gA σ 20 g = v') : Fr aS b σ (sA σ' 20 g v') := ⟨fun k q => by
  by_cases hk : k = 20
  · subst hk
    funext j
    rw [gA_sA]
    by_cases hj : j = g
    · rw [if_pos ⟨rfl, hj⟩, hj, h]
    · rw [if_neg (by omega), f.A q, gA_sA, if_neg (by omega)]
  · rw [gA_sA_ne hk, f.1 k q, gA_sA_ne hk], fun k q => by rw [gB_sA, f.2.1 k q, gB_sA], by
  rw [gA_sA, if_neg (by omega), f.2.2, gA_sA, if_neg (by omega)]⟩
theorem xsupAhead {S : Nat → Int64} {r n g a : Nat} {T : TT} {G : Nat → Nat → Nat} {σ : ST} (hX : VX S r T G n σ) (hC : CX S T G n σ) (hg : g < n) (ha : a < 24) : ∃ σ', f_X8_supposeAhead (nI g) (nI a) σ = some σ' ∧ Fr aS bF σ σ' ∧ ∀ t, t < 24 → gB σ' 41 t = ZV S T (setA G g a) n (fun _ => true) t := by
  have hn := hX.2.2.1
  have hg5 : g < 5 := by omega
  have hX1 := hX.ahead hg5 ha
  obtain ⟨s1, e1, f1, r1⟩ := xsupBribed hn hX1.2.1 (jshl 1 (nI g))
  have hX2 := hX1.fr f1 okXX_41
  obtain ⟨s2, e2, f2, r2⟩ := xaddFound hg5 hX2
  unfold f_X8_supposeAhead
  rw [jix_t hg5 (by omega), nI_clamp (by omega), jlet_s, jix_t hg5 (by omega), jlet_s, e1, jb_s, e2, jb_s, jix_t hg5 (by omega), jlet_s]
  refine ⟨_, rfl, fr_ahead (f1.O41.trans f2) rfl, fun t ht => ?_⟩
  rw [gB_sA, r2 t ht, r1 t ht]
  apply bit_ext
  intro c hc
  rw [bit_or]
  have h1 := Zor_bit (fun g' t => gB (sA σ 20 g (nI a)) (43 + g') t) (fun g' => !bt (jshl 1 (nI g)) g') t c n
  have h2 := Zor_bit (fun g' t => Zthr S T (setA G g a g') g' t) (fun _ => true) t c n
  have key : (bit (Zor (fun g' t => gB (sA σ 20 g (nI a)) (43 + g') t) (fun g' => !bt (jshl 1 (nI g)) g') n t) c || bit (Zthr S T (setA G g a g) g t) c) = true ↔ bit (Zor (fun g' t => Zthr S T (setA G g a g') g' t) (fun _ => true) n t) c = true := by
    rw [Bool.or_eq_true, h1, h2]
    constructor
    · rintro (⟨g', q1, q2, q3⟩ | q)
      · have hne : g' ≠ g := fun e => by
          rw [e, bt_one (by omega) (by omega), decide_eq_true rfl] at q2; cases q2
        refine ⟨g', q1, rfl, ?_⟩
        rw [setA_ne hne]
        rw [gB_sA, (hC.1 g' q1).1 t ht] at q3
        exact q3
      · exact ⟨g, hg, rfl, q⟩
    · rintro ⟨g', q1, -, q3⟩
      by_cases e : g' = g
      · subst e; exact Or.inr q3
      · rw [setA_ne e] at q3
        refine Or.inl ⟨g', q1, ?_, ?_⟩
        · rw [bt_one (by omega) (by omega), decide_eq_false e]; rfl
        · rw [gB_sA, (hC.1 g' q1).1 t ht]; exact q3
  show (_ || _) = bit (Zor (fun g' t => Zthr S T (setA G g a g') g' t) (fun _ => true) n t) c
  cases z : bit (Zor (fun g' t => Zthr S T (setA G g a g') g' t) (fun _ => true) n t) c with
  | true => exact key.mpr z
  | false =>
    cases y : (bit (Zor (fun g' t => gB (sA σ 20 g (nI a)) (43 + g') t) (fun g' => !bt (jshl 1 (nI g)) g') n t) c || bit (Zthr S T (setA G g a g) g t) c) with
    | false => rfl
    | true => rw [key.mp y] at z; cases z
theorem fm_ahead {σ s s' : ST} {g : Nat} {v t : Int32} (f : FM aU bU σ (sA s 7 g v)) (h : FM aU bU (sA s 7 g t) s') : FM aU bU σ (sA s' 7 g v) := by
  refine f.trans ⟨fun k q q2 => ?_, fun k q => ?_, fun j hj => ?_⟩
  · by_cases hk : k = 7
    · subst hk
      funext j
      rw [gA_sA, gA_sA]
      by_cases hj : j = g
      · rw [if_pos ⟨rfl, hj⟩, if_pos ⟨rfl, hj⟩]
      · rw [if_neg (by omega), if_neg (by omega), h.A q q2, gA_sA, if_neg (by omega)]
    · rw [gA_sA_ne hk, gA_sA_ne hk, h.1 k q q2, gA_sA_ne hk]
  · rw [gB_sA, gB_sA, h.2.1 k q, gB_sA]
  · rw [gA_sA, gA_sA, if_neg (by omega), if_neg (by omega), h.2.2 j hj, gA_sA, if_neg (by omega)]
theorem op_shift : OP_shift REL := by
  intro σx σm x1 x2 hRel
  obtain ⟨S, r, G, n, nT, Tx, hS, hX, hM, hC, hr, hR⟩ := id hRel
  unfold f_X9_shift f_X10_shift
  rcases wG2 x1 hX.2.1 hM.2.1 hX.2.2.1 with ⟨g, hg, rfl, e1, e2⟩ | ⟨e1, e2⟩
  · have hn := hX.2.2.1
    have hg5 : g < 5 := by omega
    rcases wN x2 (m := 1) (by omega) with ⟨w, hw, rfl, e5⟩ | e5
    · obtain ⟨sx, sm, -, q1, q2, hX2, hM2, hst, hC2, hR2, hrow, hRel2⟩ := now hS hX hM hC hr hR
      have hkept : gA σm 7 g = nI (G g 5) := (hM.2.2.2 g hg5).1.2.2.2.2.2
      have hkept2 : gA sm 7 g = nI (G g 5) := (hM2.2.2.2 g hg5).1.2.2.2.2.2
      simp (disch := omega) only [e1, e2, show f_X9_isWithin (nI w) 1 = 1 from e5, show f_X10_in (nI w) 0 1 = 1 from e5, jlet_s, ifN1, ifN0, if10, if00, jix_t, nI_clamp, q1, q2, jb_s, hkept]
      have hbS : okXX aS (fun k => k == 5 || k == 6 || k == 41 || k == 49) := ⟨⟨rfl, fun t ht => by
        unfold aS
        refine ⟨?_, ?_⟩ <;> simp <;> omega, rfl⟩, rfl, rfl, rfl, rfl, rfl, rfl⟩
      have lx : ∀ k0 i best least fuel σ τ, i + k0 = 24 → k0 < fuel → Fr aS (fun k => k == 5 || k == 6 || k == 41 || k == 49) sx σ → FM aU bU sm (sA τ 7 g (nI (G g 5))) → (∀ g', g' < n → g' ≠ g → ∀ t, t < 24 → gB τ 22 (24 * g' + t) = Zthr S (Tx r) (G g') g' t) → ∃ a σ' τ', f_X9_shift_L38 fuel (nI g) (nI w) least best (nI i) σ = some (a, σ') ∧ Fr aS (fun k => k == 5 || k == 6 || k == 41 || k == 49) sx σ' ∧ (∀ fuel2, k0 < fuel2 → f_X10_shift_L44 fuel2 (nI g) (nI w) (nI (G g 5)) best least (nI i) τ = some (a, τ')) ∧ FM aU bU sm τ' := by
        intro k0
        induction k0 with
        | zero =>
          intro i best least fuel σ τ hi hf hfr hfm hrw
          obtain ⟨fuel, rfl⟩ : ∃ k, fuel = k + 1 := ⟨fuel - 1, by omega⟩
          have : i = 24 := by omega
          subst this
          by_cases hw0 : nI w = 0
          · refine ⟨best, σ, sA τ 7 g (nI (G g 5)), ?_, hfr, fun fuel2 hf2 => ?_, hfm⟩
            · rw [ef_X9_shift_L38, if_pos (by decide), if_neg (fun q => q hw0)]
            · obtain ⟨fuel2, rfl⟩ : ∃ k, fuel2 = k + 1 := ⟨fuel2 - 1, by omega⟩
              rw [ef_X10_shift_L44, if_pos (by decide), jix_t hg5 (by omega), nI_clamp (by omega), jlet_s, if_neg (fun q => q hw0)]
          · refine ⟨least, σ, sA τ 7 g (nI (G g 5)), ?_, hfr, fun fuel2 hf2 => ?_, hfm⟩
            · rw [ef_X9_shift_L38, if_pos (by decide), if_pos hw0]
            · obtain ⟨fuel2, rfl⟩ : ∃ k, fuel2 = k + 1 := ⟨fuel2 - 1, by omega⟩
              rw [ef_X10_shift_L44, if_pos (by decide), jix_t hg5 (by omega), nI_clamp (by omega), jlet_s, if_pos hw0]
        | succ k0 ih =>
          intro i best least fuel σ τ hi hf hfr hfm hrw
          obtain ⟨fuel, rfl⟩ : ∃ k, fuel = k + 1 := ⟨fuel - 1, by omega⟩
          have hi24 : i < 24 := by omega
          -- the class
          have hXs := hX2.fr hfr hbS
          have hCs : CX S (Tx r) G n σ := hC2.fr hfr hn rfl (fun g hg => by simp; omega) rfl
          obtain ⟨s3, u1, u2, u3⟩ := xsupAhead hXs hCs hg hi24
          have u2' : Fr aS (fun k => k == 5 || k == 6 || k == 41 || k == 49) σ s3 := u2.mono (fun _ q => q) (fun k q => by unfold bF; simp at q ⊢; omega)
          have hX3 := hXs.fr u2' hbS
          obtain ⟨s4, v1, v2, v3, -⟩ := xfloorGap (S := S) (V := VA S (Tx r) (setA G g i) n) (o := 41) rfl hX3.1.1.1 u3
          have f4 : Fr aS (fun k => k == 5 || k == 6 || k == 41 || k == 49) sx s4 := (hfr.trans u2').trans (v2.mono (fun _ _ => rfl) (fun k q => by unfold bG; simp at q ⊢; omega))
          -- the reference
          have hMs := hM2.fm hfm rfl rfl rfl rfl rfl rfl rfl rfl rfl
          have hMi := hMs.ahead hg5 hi24
          rw [sA_sA] at hMi
          obtain ⟨t4, k1, k2, k3, k4⟩ := mwatches hg5 hMi
          have hM4 := hMi.fr k2 okMM_T
          have hrw4 : ∀ g', g' < n → ∀ t, t < 24 → gB t4 22 (24 * g' + t) = Zthr S (Tx r) (setA G g i g') g' t := fun g' hg' t ht => by
            by_cases e : g' = g
            · subst e; exact k3 t ht
            · rw [k4 _ (by omega), gB_sA, setA_ne e]; exact hrw g' hg' e t ht
          obtain ⟨t5, m1, m2, m36, m37, m38⟩ := mfinds hM4 hrw4
          have hfm5 : FM aU bU sm (sA t5 7 g (nI (G g 5))) := fm_ahead (t := nI i) hfm (k2.TU.trans m2.OU)
          have hrw5 : ∀ g', g' < n → g' ≠ g → ∀ t, t < 24 → gB t5 22 (24 * g' + t) = Zthr S (Tx r) (G g') g' t := fun g' hg' e t ht => by
            rw [m2.B rfl, hrw4 g' hg' t ht, setA_ne e]
          have e9 : f_X9_shift_L38 (fuel + 1) (nI g) (nI w) least best (nI i) σ = if least ≤ nI (Zfg (VA S (Tx r) (setA G g i) n) (S 0) 36).2.1 then f_X9_shift_L38 fuel (nI g) (nI w) least best (nI (i + 1)) s4 else f_X9_shift_L38 fuel (nI g) (nI w) (nI (Zfg (VA S (Tx r) (setA G g i) n) (S 0) 36).2.1) (nI i) (nI (i + 1)) s4 := by
            rw [ef_X9_shift_L38, if_neg (show ¬ (23 : Int32) < nI i from nI_nlt (a := 23) (b := i) (by omega) (by omega)), u1, jb_s, jlet_s, v1, jbp_s]
            unfold f_X9_shift_L91
            rw [jlet_s, jlet_s, nI_1]
          have e10 : ∀ fuel2, f_X10_shift_L44 (fuel2 + 1) (nI g) (nI w) (nI (G g 5)) best least (nI i) τ = if least ≤ nI (Zfg (VA S (Tx r) (setA G g i) n) (S 0) 36).2.1 then f_X10_shift_L44 fuel2 (nI g) (nI w) (nI (G g 5)) best least (nI (i + 1)) t5 else f_X10_shift_L44 fuel2 (nI g) (nI w) (nI (G g 5)) (nI i) (nI (Zfg (VA S (Tx r) (setA G g i) n) (S 0) 36).2.1) (nI (i + 1)) t5 := by
            intro fuel2
            rw [ef_X10_shift_L44, if_neg (nle24 hi24), jix_t hg5 (by omega), nI_clamp (by omega), jlet_s, k1, jb_s, m1, jb_s, m37]
            unfold f_X10_shift_L84 f_X10_shift_L104
            rw [m37, jlet_s, nI_1]
            by_cases q : least ≤ nI (Zfg (VA S (Tx r) (setA G g i) n) (S 0) 36).2.1
            · rw [if_pos q, if_pos q, if_pos q]
            · rw [if_neg q, if_neg q, if_neg q, jlet_s]
          by_cases q : least ≤ nI (Zfg (VA S (Tx r) (setA G g i) n) (S 0) 36).2.1
          · obtain ⟨a, σ', τ', r1, r2, r3, r4⟩ := ih (i + 1) best least fuel s4 t5 (by omega) (by omega) f4 hfm5 hrw5
            refine ⟨a, σ', τ', by rw [e9, if_pos q]; exact r1, r2, fun fuel2 hf2 => ?_, r4⟩
            obtain ⟨fuel2, rfl⟩ : ∃ k, fuel2 = k + 1 := ⟨fuel2 - 1, by omega⟩
            rw [e10, if_pos q]; exact r3 fuel2 (by omega)
          · obtain ⟨a, σ', τ', r1, r2, r3, r4⟩ := ih (i + 1) (nI i) (nI (Zfg (VA S (Tx r) (setA G g i) n) (S 0) 36).2.1) fuel s4 t5 (by omega) (by omega) f4 hfm5 hrw5
            refine ⟨a, σ', τ', by rw [e9, if_neg q]; exact r1, r2, fun fuel2 hf2 => ?_, r4⟩
            obtain ⟨fuel2, rfl⟩ : ∃ k, fuel2 = k + 1 := ⟨fuel2 - 1, by omega⟩
            rw [e10, if_neg q]; exact r3 fuel2 (by omega)
      obtain ⟨a, σ', τ', r1, r2, r3, r4⟩ := lx 24 0 0 25 FU sx sm (by omega) (by unfold FU; omega) Fr.rf (by rw [sA_id hkept2]; exact FM.rf) (fun g' hg' _ t ht => hrow g' hg' t ht)
      refine ⟨a, σ', τ', r1, r3 FU (by unfold FU; omega), REL.q hS hX2 hM2 hr hR2 (r2.mono (fun k q => by unfold aQ at q; unfold aS; simp at q ⊢; exact q.1) (fun k q => by unfold bQ at q; simp at q ⊢; omega)) r4 (fun _ => hC2.fr r2 hn rfl (fun g hg => by simp; omega) rfl)⟩
    · simp only [e1, e2, show f_X9_isWithin x2 1 = 0 from e5, show f_X10_in x2 0 1 = 0 from e5, jlet_s, ifN1, ifN0, if10, if00]
      exact ⟨_, _, _, rfl, rfl, hRel⟩
  · simp only [e1, e2, jlet_s, ifN1, ifN0, if10, if00]
    exact ⟨_, _, _, rfl, rfl, hRel⟩
