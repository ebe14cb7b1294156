/-! ===== guards: where one stands, how he is turned, whether he looks ===== -/
def GW (G : Nat → Nat) : Prop := G 0 < 6 ∧ G 1 < 36 ∧ G 2 < 4 ∧ G 3 < 10 ∧ G 4 < 6 ∧ G 5 < 24
def atX (σ : ST) (g : Nat) (G : Nat → Nat) : Prop := gA σ 15 g = nI (G 0) ∧ gA σ 16 g = nI (G 1) ∧ gA σ 17 g = nI (G 2) ∧ gA σ 18 g = nI (G 3) ∧ gA σ 19 g = nI (G 4) ∧ gA σ 20 g = nI (G 5)
def atM (σ : ST) (g : Nat) (G : Nat → Nat) : Prop := gA σ 2 g = nI (G 0) ∧ gA σ 3 g = nI (G 1) ∧ gA σ 4 g = nI (G 2) ∧ gA σ 6 g = nI (G 3) ∧ gA σ 5 g = nI (G 4) ∧ gA σ 7 g = nI (G 5)
def Zbeat (W : Int64) (v : Nat) : Nat → Nat → Nat
  | 0, _ => 0
  | n + 1, c => if nbw W c v = 99 then 0 else Zbeat W v n (nbw W c v) + 1
def Zstep (W : Int64) (v : Nat) : Nat → Nat → Nat
  | 0, c => c
  | k + 1, c => Zstep W v k (nbw W c v)
theorem Zbeat_le (W : Int64) (v : Nat) : ∀ n c, Zbeat W v n c ≤ n
  | 0, _ => Nat.le_refl _
  | n + 1, c => by
    unfold Zbeat
    split
    · exact Nat.zero_le _
    · have := Zbeat_le W v n (nbw W c v)
      omega
theorem Zstep_lt {W : Int64} {v : Nat} (hv : v < 4) : ∀ n c k, c < 36 → k ≤ Zbeat W v n c → Zstep W v k c < 36
  | _, c, 0 => fun hc _ => hc
  | 0, c, k + 1 => fun _ hk => absurd hk (Nat.not_succ_le_zero _)
  | n + 1, c, k + 1 => fun hc hk => by
    unfold Zbeat at hk
    by_cases e : nbw W c v = 99
    · rw [if_pos e] at hk
      exact absurd hk (Nat.not_succ_le_zero _)
    · rw [if_neg e] at hk
      exact Zstep_lt hv n _ k (nbw_lt hc hv e).1 (by omega)
def Zown (t a : Nat) : Nat := (t + a) % 24
def Zsteps (k s : Nat) : Nat := if k = 1 then 0 else if k = 2 then s / 2 else if k = 3 then 0 else if k = 4 then s / 2 else if k = 5 then s * 2 else s
def Zb (W : Int64) (G : Nat → Nat) : Nat := Zbeat W (G 2) (G 4) (G 1)
def Zr (W : Int64) (G : Nat → Nat) (t : Nat) : Nat := if Zb W G = 0 then 0 else Zsteps (G 0) (Zown t (G 5)) % (2 * Zb W G)
def Zfar (W : Int64) (G : Nat → Nat) (t : Nat) : Nat := if Zb W G < Zr W G t then 2 * Zb W G - Zr W G t else Zr W G t
def Zstand (W : Int64) (G : Nat → Nat) (t : Nat) : Nat := Zstep W (G 2) (Zfar W G t) (G 1)
def Zway (W : Int64) (G : Nat → Nat) (t : Nat) : Nat := if Zb W G = 0 then G 2 else if Zb W G ≤ Zr W G t then (G 2 + 2) % 4 else G 2
def Zturn (W : Int64) (G : Nat → Nat) (t : Nat) : Nat := if G 0 = 3 then (Zway W G t + 3 * (Zown t (G 5) / (G 3 + 1))) % 4 else Zway W G t
def Zlook (G : Nat → Nat) (t : Nat) : Bool := if G 0 = 4 then decide (Zown t (G 5) % (G 3 + 2) ≠ 0) else if G 0 = 5 then decide (G 3 ≤ Zown t (G 5)) else true
theorem Zown_lt (t a : Nat) : Zown t a < 24 := Nat.mod_lt _ (by decide)
theorem Zsteps_lt {k s : Nat} (hs : s < 24) : Zsteps k s < 48 := by
  unfold Zsteps
  repeat' split
  all_goals omega
theorem Zb_le {W : Int64} {G : Nat → Nat} (h : GW G) : Zb W G ≤ 5 := by
  have := Zbeat_le W (G 2) (G 4) (G 1)
  have h4 := h.2.2.2.2.1
  unfold Zb
  omega
theorem Zr_lt {W : Int64} {G : Nat → Nat} {t : Nat} : Zr W G t ≤ 2 * Zb W G := by
  unfold Zr
  split
  · exact Nat.zero_le _
  · exact Nat.le_of_lt (Nat.mod_lt _ (by omega))
theorem Zfar_le {W : Int64} {G : Nat → Nat} {t : Nat} : Zfar W G t ≤ Zb W G := by
  have := Zr_lt (W := W) (G := G) (t := t)
  unfold Zfar
  split <;> omega
theorem Zstand_lt {W : Int64} {G : Nat → Nat} {t : Nat} (h : GW G) : Zstand W G t < 36 := Zstep_lt h.2.2.1 _ _ _ h.2.1 Zfar_le
theorem Zway_lt {W : Int64} {G : Nat → Nat} {t : Nat} (h : GW G) : Zway W G t < 4 := by
  have := h.2.2.1
  unfold Zway
  repeat' split
  all_goals omega
theorem Zturn_lt {W : Int64} {G : Nat → Nat} {t : Nat} (h : GW G) : Zturn W G t < 4 := by
  unfold Zturn
  split
  · exact Nat.mod_lt _ (by decide)
  · exact Zway_lt h
/-! ===== the class's guards ===== -/
theorem xbeat_loop {σ : ST} {g : Nat} {G : Nat → Nat} {W : Int64} (hg : g < 5) (hA : atX σ g G) (hG : GW G) : ∀ m n c i, i + m = G 4 → c < 36 → m < n → f_X1_beat_L11 n (nI g) W (nI c) (nI i) σ = some (nI (i + Zbeat W (G 2) m c)) := by
  obtain ⟨a0, a1, a2, a3, a4, a5⟩ := hA
  obtain ⟨g0, g1, g2, g3, g4, g5⟩ := hG
  intro m
  induction m with
  | zero =>
    intro n c i hi hc hn
    obtain ⟨n, rfl⟩ : ∃ k, n = k + 1 := ⟨n - 1, by omega⟩
    rw [ef_X1_beat_L11]
    simp (disch := omega) only [litI, nI_add, pk_mul, nI_leI, nI_ltI, nI_eq, nI_clamp, jix_t, jrem_n, jdiv_n, jlet_s, jb_s, jbp_s, a4]
    rw [if_pos (by omega)]
    unfold Zbeat
    congr 2; omega
  | succ m ih =>
    intro n c i hi hc hn
    obtain ⟨n, rfl⟩ : ∃ k, n = k + 1 := ⟨n - 1, by omega⟩
    rw [ef_X1_beat_L11]
    simp (disch := omega) only [jix_t, nI_clamp, a4, a2]
    rw [if_neg (fun q => by rw [nI_leI (by omega) (by omega)] at q; omega), beside_n c hc _ g2, jlet_s]
    unfold Zbeat
    by_cases e : nb c (G 2) = 99
    · have e2 : nbw W c (G 2) = 99 := by unfold nbw; rw [if_pos e]
      rw [e, if_pos cI_99, if_pos e2]; rfl
    · have hd := (nb_lt c hc _ g2).resolve_left e
      rw [cI_ne hd, if_neg (nI_ne_m1 _ (by omega)), isIn_b W (by omega), jlet_s]
      cases e3 : bit W (nb c (G 2)) with
      | true =>
        have e2 : nbw W c (G 2) = 99 := by unfold nbw; rw [if_neg e, if_pos e3]
        rw [if_neg (by decide), if_pos e2]; rfl
      | false =>
        have e2 : nbw W c (G 2) = nb c (G 2) := by unfold nbw; rw [if_neg e, if_neg (by rw [e3]; decide)]
        rw [if_pos (by decide), jlet_s, if_neg (by omega), e2]
        show f_X1_beat_L11 n (nI g) W (nI (nb c (G 2))) (nI i + nI 1) σ = _
        rw [nI_add, ih n _ (i + 1) (by omega) hd (by omega)]
        congr 2; omega
theorem xbeat {σ : ST} {g : Nat} {G : Nat → Nat} {W : Int64} (hg : g < 5) (hA : atX σ g G) (hG : GW G) : f_X1_beat (nI g) W σ = some (nI (Zb W G)) := by
  unfold f_X1_beat
  simp (disch := omega) only [jix_t, nI_clamp, hA.2.1, jlet_s]
  rw [show (0 : Int32) = nI 0 from rfl, xbeat_loop hg hA hG (G 4) FU (G 1) 0 (by omega) hG.2.1 (by have := hG.2.2.2.2.1; unfold FU; omega), Nat.zero_add]
  rfl
theorem steps_n {k s : Nat} (hk : k < 6) (hs : s < 24) : f_X1_steps (nI k) (nI s) = nI (Zsteps k s) := by
  have h : ∀ k, k < 6 → ∀ s, s < 24 → f_X1_steps (nI k) (nI s) = nI (Zsteps k s) := by decide +kernel
  exact h k hk s hs
theorem tab1_n : ∀ v, v < 4 → ∀ c, c < 36 → nb c v ≠ 99 → nI (nb c v) = nI c + tab1.getD v 0 := by decide +kernel
theorem Zstep_tab {W : Int64} {v : Nat} (hv : v < 4) : ∀ n c k, c < 36 → k ≤ Zbeat W v n c → nI (Zstep W v k c) = nI c + nI k * tab1.getD v 0
  | _, c, 0 => fun hc _ => by
    show nI c = nI c + 0 * _
    rw [Int32.zero_mul, Int32.add_zero]
  | 0, c, k + 1 => fun _ hk => absurd hk (Nat.not_succ_le_zero _)
  | n + 1, c, k + 1 => fun hc hk => by
    unfold Zbeat at hk
    by_cases e : nbw W c v = 99
    · rw [if_pos e] at hk
      exact absurd hk (Nat.not_succ_le_zero _)
    · rw [if_neg e] at hk
      obtain ⟨h1, h2, h3⟩ := nbw_lt hc hv e
      unfold Zstep
      rw [Zstep_tab hv n _ k h1 (by omega), h2, tab1_n v hv c hc (by omega), nI_succ, Int32.add_mul, Int32.one_mul, Int32.add_assoc, Int32.add_comm (tab1.getD v 0)]
theorem xlook {σ : ST} {g : Nat} {G : Nat → Nat} (hg : g < 5) (hA : atX σ g G) (hG : GW G) {t : Nat} : f_X1_isLooking (nI g) (nI (Zown t (G 5))) σ = some (bI (Zlook G t)) := by
  obtain ⟨a0, a1, a2, a3, a4, a5⟩ := hA
  obtain ⟨g0, g1, g2, g3, g4, g5⟩ := hG
  have ho := Zown_lt t (G 5)
  unfold f_X1_isLooking Zlook
  simp (disch := omega) only [litI, nI_add, pk_mul, nI_leI, nI_ltI, nI_eq, nI_clamp, jix_t, jrem_n, jdiv_n, jlet_s, jb_s, jbp_s, a0, a3]
  by_cases h4 : G 0 = 4
  · rw [if_pos h4, if_pos h4, jnz_t (nI_ne0 (by omega) (by omega))]
    have hm : Zown t (G 5) % (G 3 + 2) < 24 := Nat.lt_of_le_of_lt (Nat.mod_le _ _) ho
    generalize Zown t (G 5) % (G 3 + 2) = z at hm ⊢
    by_cases e : z = 0
    · subst e; rfl
    · rw [if_neg (by rw [nI_eq (by omega) (by omega)]; exact e), show decide (z ≠ 0) = true from decide_eq_true e]; rfl
  · rw [if_neg h4, if_neg h4]
    by_cases h5 : G 0 = 5
    · rw [if_pos h5, if_pos h5]
      by_cases e : Zown t (G 5) < G 3
      · rw [if_pos e, show decide (G 3 ≤ Zown t (G 5)) = false from decide_eq_false (by omega)]; rfl
      · rw [if_neg e, show decide (G 3 ≤ Zown t (G 5)) = true from decide_eq_true (by omega)]; rfl
    · rw [if_neg h5, if_neg h5]; rfl
def aW : Nat → Bool := fun k => k == 2
def bW : Nat → Bool := fun _ => false
theorem atX.fr {a b : Nat → Bool} {σ σ' : ST} {g : Nat} {G : Nat → Nat} (h : atX σ g G) (f : Fr a b σ σ') (h1 : a 15 = false) (h2 : a 16 = false) (h3 : a 17 = false) (h4 : a 18 = false) (h5 : a 19 = false) (h6 : a 20 = false) : atX σ' g G := by
  unfold atX
  rw [f.A h1, f.A h2, f.A h3, f.A h4, f.A h5, f.A h6]
  exact h
theorem xwalk {σ : ST} {g : Nat} {G : Nat → Nat} {W : Int64} {t : Nat} (hg : g < 5) (hA : atX σ g G) (hG : GW G) (ht : t < 24) : ∃ σ', f_X1_walk (nI g) (nI t) W σ = some σ' ∧ Fr aW bW σ σ' ∧ gA σ' 2 7 = nI (Zstand W G t) ∧ gA σ' 2 8 = nI (Zturn W G t) ∧ gA σ' 2 9 = bI (Zlook G t) := by
  obtain ⟨a0, a1, a2, a3, a4, a5⟩ := id hA
  obtain ⟨g0, g1, g2, g3, g4, g5⟩ := id hG
  have ho := Zown_lt t (G 5)
  have hb := Zb_le (W := W) hG
  have hst := Zsteps_lt (k := G 0) ho
  -- the end of it
  have e162 : ∀ s : ST, Fr aW bW σ s → gA s 2 7 = nI (Zstand W G t) → gA s 2 8 = nI (Zturn W G t) → ∃ σ', f_X1_walk_L162 (nI g) (nI (Zown t (G 5))) s = some σ' ∧ Fr aW bW σ σ' ∧ gA σ' 2 7 = nI (Zstand W G t) ∧ gA σ' 2 8 = nI (Zturn W G t) ∧ gA σ' 2 9 = bI (Zlook G t) := by
    intro s f h7 h8
    unfold f_X1_walk_L162
    rw [xlook hg (hA.fr f rfl rfl rfl rfl rfl rfl) hG, jb_s, jlet_s]
    refine ⟨_, rfl, f.sA rfl (by omega), ?_, ?_, ?_⟩
    · rw [gA_sA, if_neg (by omega)]; exact h7
    · rw [gA_sA, if_neg (by omega)]; exact h8
    · rw [gA_sA, if_pos ⟨rfl, rfl⟩]
  have e125 : ∀ s : ST, Fr aW bW σ s → gA s 2 7 = nI (Zstand W G t) → ∃ σ', f_X1_walk_L125 (nI g) (nI (Zown t (G 5))) (nI (Zway W G t)) s = some σ' ∧ Fr aW bW σ σ' ∧ gA σ' 2 7 = nI (Zstand W G t) ∧ gA σ' 2 8 = nI (Zturn W G t) ∧ gA σ' 2 9 = bI (Zlook G t) := by
    intro s f h7
    have hw := Zway_lt (W := W) (t := t) hG
    have f2 : Fr aW bW σ (sA s 2 8 (nI (Zway W G t))) := f.sA rfl (by omega)
    have b7 : gA (sA s 2 8 (nI (Zway W G t))) 2 7 = nI (Zstand W G t) := by rw [gA_sA, if_neg (by omega)]; exact h7
    have b8 : gA (sA s 2 8 (nI (Zway W G t))) 2 8 = nI (Zway W G t) := by rw [gA_sA, if_pos ⟨rfl, rfl⟩]
    unfold f_X1_walk_L125
    rw [jlet_s]
    generalize sA s 2 8 (nI (Zway W G t)) = s2 at f2 b7 b8 ⊢
    obtain ⟨c0, c1, c2, c3, c4, c5⟩ := hA.fr f2 rfl rfl rfl rfl rfl rfl
    simp (disch := omega) only [litI, nI_add, pk_mul, nI_leI, nI_ltI, nI_eq, nI_clamp, jix_t, jrem_n, jdiv_n, jlet_s, jb_s, jbp_s, c0, c3]
    by_cases h3 : G 0 = 3
    · rw [if_neg (fun q => q h3), jnz_t (nI_ne0 (by omega) (by omega))]
      have hd : Zown t (G 5) / (G 3 + 1) < 24 := Nat.lt_of_le_of_lt (Nat.div_le_self _ _) ho
      simp (disch := omega) only [litI, nI_add, pk_mul, nI_leI, nI_ltI, nI_eq, nI_clamp, jix_t, jrem_n, jdiv_n, jlet_s, jb_s, jbp_s, b8]
      refine e162 _ (f2.sA rfl (by omega)) ?_ ?_
      · rw [gA_sA, if_neg (by omega)]; exact b7
      · rw [gA_sA, if_pos ⟨rfl, rfl⟩]
        unfold Zturn
        rw [if_pos h3]
    · rw [if_pos h3]
      refine e162 _ f2 b7 ?_
      rw [b8]
      unfold Zturn
      rw [if_neg h3]
  have e67 : ∃ σ', f_X1_walk_L67 (nI g) (nI (Zown t (G 5))) (nI (Zb W G)) (nI (Zr W G t)) (nI (Zfar W G t)) σ = some σ' ∧ Fr aW bW σ σ' ∧ gA σ' 2 7 = nI (Zstand W G t) ∧ gA σ' 2 8 = nI (Zturn W G t) ∧ gA σ' 2 9 = bI (Zlook G t) := by
    unfold f_X1_walk_L67
    simp (disch := omega) only [jix_t, nI_clamp, a1, a2, jlet_s]
    rw [← Zstep_tab (W := W) g2 (G 4) (G 1) (Zfar W G t) g1 Zfar_le]
    have f2 : Fr aW bW σ (sA σ 2 7 (nI (Zstep W (G 2) (Zfar W G t) (G 1)))) := Fr.rf.sA rfl (by omega)
    have b7 : gA (sA σ 2 7 (nI (Zstep W (G 2) (Zfar W G t) (G 1)))) 2 7 = nI (Zstand W G t) := by rw [gA_sA, if_pos ⟨rfl, rfl⟩]; rfl
    generalize sA σ 2 7 (nI (Zstep W (G 2) (Zfar W G t) (G 1))) = s2 at f2 b7 ⊢
    obtain ⟨c0, c1, c2, c3, c4, c5⟩ := hA.fr f2 rfl rfl rfl rfl rfl rfl
    have hr := Zr_lt (W := W) (G := G) (t := t)
    unfold f_X1_walk_L119
    simp (disch := omega) only [litI, nI_add, pk_mul, nI_leI, nI_ltI, nI_eq, nI_clamp, jix_t, jrem_n, jdiv_n, jlet_s, jb_s, jbp_s, c2]
    have w := e125 s2 f2 b7
    unfold Zway at w
    by_cases h0 : Zb W G = 0
    · rw [if_pos h0] at w
      rw [if_pos (by omega)]; exact w
    · rw [if_neg h0] at w
      rw [if_neg (by omega)]
      by_cases h1 : Zr W G t < Zb W G
      · rw [if_neg (by omega)] at w
        rw [if_pos h1]; exact w
      · rw [if_pos (by omega)] at w
        rw [if_neg h1]; exact w
  have e46 : ∃ σ', f_X1_walk_L46 (nI g) (nI (Zown t (G 5))) (nI (Zb W G)) (nI (Zr W G t)) σ = some σ' ∧ Fr aW bW σ σ' ∧ gA σ' 2 7 = nI (Zstand W G t) ∧ gA σ' 2 8 = nI (Zturn W G t) ∧ gA σ' 2 9 = bI (Zlook G t) := by
    have hr := Zr_lt (W := W) (G := G) (t := t)
    unfold f_X1_walk_L46
    simp (disch := omega) only [litI, nI_add, pk_mul, nI_leI, nI_ltI, nI_eq, nI_clamp, jix_t, jrem_n, jdiv_n, jlet_s, jb_s, jbp_s, pk_sub]
    unfold Zfar at e67
    by_cases h1 : Zb W G < Zr W G t
    · rw [if_pos h1] at e67
      rw [if_pos h1]; exact e67
    · rw [if_neg h1] at e67
      rw [if_neg h1]; exact e67
  unfold f_X1_walk
  simp (disch := omega) only [jix_t, nI_clamp, a5, a0, litI, nI_add, jrem_n, jlet_s]
  rw [xbeat hg hA hG, jb_s]
  rw [show (t + G 5) % 24 = Zown t (G 5) from rfl, steps_n g0 ho]
  unfold Zr at e46
  by_cases h0 : Zb W G = 0
  · rw [if_pos h0] at e46
    rw [if_pos (by rw [h0]; decide)]; exact e46
  · rw [if_neg h0] at e46
    rw [if_neg (by rw [nI_leI (by omega) (by omega)]; omega)]
    simp (disch := omega) only [pk_mul]
    rw [jnz_t (nI_ne0 (by omega) (by omega)), jrem_n (by omega) (by omega) (by omega)]
    exact e46
/-! ===== the reference's guards ===== -/
theorem mb1 (x1 x2 : Int32) (σ : ST) : f_X10_beside x1 x2 σ = f_X10_beside_L47 (x1 / 6 + (if x2 = 0 then 1 else if x2 = 2 then -1 else 0)) (jrem x1 6) (if x2 = 1 then 1 else if x2 = 3 then -1 else 0) σ := by
  unfold f_X10_beside f_X10_beside_L22
  simp only [jlet_s]
  by_cases h0 : x2 = 0
  · subst h0; rfl
  · by_cases h2 : x2 = 2
    · subst h2; rfl
    · rw [if_pos h0, if_pos h2, if_neg h0, if_neg h2]
      by_cases h1 : x2 = 1
      · rw [if_neg (fun q => q h1), if_pos h1]
      · rw [if_pos h1, if_neg h1]
        by_cases h3 : x2 = 3
        · rw [if_neg (fun q => q h3), if_pos h3]
        · rw [if_pos h3, if_neg h3]
theorem mb2 (v t0 t1 : Int32) (σ : ST) : f_X10_beside_L47 v t0 t1 σ = if f_X10_in v 0 5 = 0 ∨ f_X10_in (t0 + t1) 0 5 = 0 then -1 else if f_X10_has (gB σ 1 0) (6 * v + (t0 + t1)) = 0 then 6 * v + (t0 + t1) else -1 := by
  unfold f_X10_beside_L47 f_X10_beside_L73 f_X10_beside_L74
  simp only [jlet_s]
  rw [show Int32.toNatClampNeg 0 = 0 from rfl]
  by_cases h1 : f_X10_in v 0 5 = 0
  · rw [if_pos h1, if_pos (Or.inl h1)]; rfl
  · rw [if_neg h1]
    by_cases h2 : f_X10_in (t0 + t1) 0 5 = 0
    · rw [if_pos h2, if_pos (Or.inr h2)]; rfl
    · rw [if_neg h2, if_neg (show ¬ (1 : Int32) = 0 by decide), if_neg (not_or.mpr ⟨h1, h2⟩)]
      by_cases h3 : f_X10_has (gB σ 1 0) (6 * v + (t0 + t1)) = 0
      · rw [if_neg (fun q => q h3), if_pos h3]
      · rw [if_pos h3, if_neg h3]
theorem mb3 : ∀ c, c < 36 → ∀ w, w < 4 → (nb c w = 99 ∧ (f_X10_in (nI c / 6 + (if nI w = 0 then 1 else if nI w = 2 then -1 else 0)) 0 5 = 0 ∨ f_X10_in (jrem (nI c) 6 + (if nI w = 1 then 1 else if nI w = 3 then -1 else 0)) 0 5 = 0)) ∨ (nb c w < 36 ∧ ¬ f_X10_in (nI c / 6 + (if nI w = 0 then 1 else if nI w = 2 then -1 else 0)) 0 5 = 0 ∧ ¬ f_X10_in (jrem (nI c) 6 + (if nI w = 1 then 1 else if nI w = 3 then -1 else 0)) 0 5 = 0 ∧ 6 * (nI c / 6 + (if nI w = 0 then 1 else if nI w = 2 then -1 else 0)) + (jrem (nI c) 6 + (if nI w = 1 then 1 else if nI w = 3 then -1 else 0)) = nI (nb c w)) := by decide +kernel
theorem mbeside {σ : ST} {c w : Nat} (hc : c < 36) (hw : w < 4) : f_X10_beside (nI c) (nI w) σ = cI (nbw (gB σ 1 0) c w) := by
  rw [mb1, mb2]
  unfold nbw
  rcases mb3 c hc w hw with ⟨h1, h2⟩ | ⟨h1, h2, h3, h4⟩
  · rw [if_pos h2, if_pos h1]; rfl
  · rw [if_neg (fun q => q.elim h2 h3), if_neg (show ¬ nb c w = 99 by omega), h4, has_b _ (by omega)]
    cases e : bit (gB σ 1 0) (nb c w) with
    | true => rw [if_neg (by decide), if_pos rfl]; rfl
    | false => rw [if_pos (by decide), if_neg (by decide), cI_ne h1]
theorem mbeat_loop {σ : ST} {g : Nat} {G : Nat → Nat} {W : Int64} (hW : gB σ 1 0 = W) (hg : g < 5) (hA : atM σ g G) (hG : GW G) : ∀ m n c i, i + m = G 4 → c < 36 → m < n → f_X10_beat_L9 n (nI g) (nI i) (nI c) σ = some (nI (i + Zbeat W (G 2) m c)) := by
  obtain ⟨a0, a1, a2, a3, a4, a5⟩ := hA
  obtain ⟨g0, g1, g2, g3, g4, g5⟩ := hG
  intro m
  induction m with
  | zero =>
    intro n c i hi hc hn
    obtain ⟨n, rfl⟩ : ∃ k, n = k + 1 := ⟨n - 1, by omega⟩
    rw [ef_X10_beat_L9]
    simp (disch := omega) only [litI, nI_add, pk_mul, nI_leI, nI_ltI, nI_eq, nI_clamp, jix_t, jrem_n, jdiv_n, jlet_s, jb_s, jbp_s, a4]
    rw [if_pos (by omega)]
    rfl
  | succ m ih =>
    intro n c i hi hc hn
    obtain ⟨n, rfl⟩ : ∃ k, n = k + 1 := ⟨n - 1, by omega⟩
    rw [ef_X10_beat_L9]
    simp (disch := omega) only [jix_t, nI_clamp, a4, a2]
    rw [if_neg (fun q => by rw [nI_leI (by omega) (by omega)] at q; omega), mbeside hc g2, jlet_s, hW]
    unfold Zbeat
    by_cases e : nbw W c (G 2) = 99
    · rw [e, if_pos cI_99, if_pos rfl]; rfl
    · have hd := (nbw_lt hc g2 e).1
      rw [cI_ne hd, if_neg (nI_ne_m1 _ (by omega)), if_neg e, jlet_s, jlet_s]
      show f_X10_beat_L9 n (nI g) (nI i + nI 1) (nI (nbw W c (G 2))) σ = _
      rw [nI_add, ih n _ (i + 1) (by omega) hd (by omega)]
      congr 2; omega
theorem mbeat {σ : ST} {g : Nat} {G : Nat → Nat} {W : Int64} (hW : gB σ 1 0 = W) (hg : g < 5) (hA : atM σ g G) (hG : GW G) : f_X10_beat (nI g) σ = some (nI (Zb W G)) := by
  unfold f_X10_beat
  simp (disch := omega) only [jix_t, nI_clamp, hA.2.1, jlet_s]
  rw [show (0 : Int32) = nI 0 from rfl, mbeat_loop hW hg hA hG (G 4) FU (G 1) 0 (by omega) hG.2.1 (by have := hG.2.2.2.2.1; unfold FU; omega), Nat.zero_add]
  rfl
theorem mown {σ : ST} {g t : Nat} {G : Nat → Nat} (hg : g < 5) (hA : atM σ g G) (hG : GW G) (ht : t < 24) : f_X10_own (nI g) (nI t) σ = some (nI (Zown t (G 5))) := by
  have h5 := hG.2.2.2.2.2
  unfold f_X10_own
  simp (disch := omega) only [litI, nI_add, pk_mul, nI_leI, nI_ltI, nI_eq, nI_clamp, jix_t, jrem_n, jdiv_n, jlet_s, jb_s, jbp_s, hA.2.2.2.2.2]
  rfl
theorem msteps {σ : ST} {g s : Nat} {G : Nat → Nat} (hg : g < 5) (hA : atM σ g G) (hG : GW G) (hs : s < 24) : f_X10_steps (nI g) (nI s) σ = some (nI (Zsteps (G 0) s)) := by
  have h0 := hG.1
  unfold f_X10_steps f_X10_steps_L31 Zsteps
  simp (disch := omega) only [litI, nI_add, pk_mul, nI_leI, nI_ltI, nI_eq, nI_clamp, jix_t, jrem_n, jdiv_n, jlet_s, jb_s, jbp_s, hA.1]
  rcases (show G 0 = 0 ∨ G 0 = 1 ∨ G 0 = 2 ∨ G 0 = 3 ∨ G 0 = 4 ∨ G 0 = 5 by omega) with e | e | e | e | e | e <;> rw [e] <;> simp [Nat.mul_comm]
theorem mwalked {σ : ST} {g t : Nat} {G : Nat → Nat} {W : Int64} (hW : gB σ 1 0 = W) (hg : g < 5) (hA : atM σ g G) (hG : GW G) (ht : t < 24) : f_X10_walked (nI g) (nI t) σ = some (nI (Zr W G t)) := by
  have ho := Zown_lt t (G 5)
  have hb := Zb_le (W := W) hG
  have hst := Zsteps_lt (k := G 0) ho
  unfold f_X10_walked
  rw [mbeat hW hg hA hG, jb_s, mown hg hA hG ht, jb_s, msteps hg hA hG ho, jb_s]
  unfold Zr
  by_cases h0 : Zb W G = 0
  · rw [if_neg (by rw [h0]; decide), if_pos h0]; rfl
  · rw [if_pos (nI_ne0 (by omega) (by omega)), if_neg h0]
    simp (disch := omega) only [litI, pk_mul]
    rw [jnz_t (nI_ne0 (by omega) (by omega)), jrem_n (by omega) (by omega) (by omega)]
theorem mstands_loop {σ : ST} {g : Nat} {G : Nat → Nat} {W : Int64} (hW : gB σ 1 0 = W) (hg : g < 5) (hA : atM σ g G) (hG : GW G) : ∀ k m n c i, c < 36 → k ≤ Zbeat W (G 2) m c → i + k < 100 → k < n → f_X10_stands_L44 n (nI g) (nI (i + k)) (nI c) (nI i) σ = some (nI (Zstep W (G 2) k c)) := by
  obtain ⟨a0, a1, a2, a3, a4, a5⟩ := hA
  obtain ⟨g0, g1, g2, g3, g4, g5⟩ := hG
  intro k
  induction k with
  | zero =>
    intro m n c i hc hk hi hn
    obtain ⟨n, rfl⟩ : ∃ k, n = k + 1 := ⟨n - 1, by omega⟩
    rw [ef_X10_stands_L44, if_pos (by rw [nI_leI (by omega) (by omega)]; omega)]
    rfl
  | succ k ih =>
    intro m n c i hc hk hi hn
    obtain ⟨n, rfl⟩ : ∃ k, n = k + 1 := ⟨n - 1, by omega⟩
    cases m with
    | zero => exact absurd hk (Nat.not_succ_le_zero _)
    | succ m =>
      unfold Zbeat at hk
      by_cases e : nbw W c (G 2) = 99
      · rw [if_pos e] at hk
        exact absurd hk (Nat.not_succ_le_zero _)
      · rw [if_neg e] at hk
        have hd := (nbw_lt hc g2 e).1
        rw [ef_X10_stands_L44, if_neg (by rw [nI_leI (by omega) (by omega)]; omega)]
        simp (disch := omega) only [jix_t, nI_clamp, a2, mbeside, hW, cI_ne, jlet_s, litI, nI_add]
        rw [show i + (k + 1) = i + 1 + k by omega, ih m n _ (i + 1) hd (by omega) (by omega) (by omega)]
        rfl
theorem mstands {σ : ST} {g t : Nat} {G : Nat → Nat} {W : Int64} (hW : gB σ 1 0 = W) (hg : g < 5) (hA : atM σ g G) (hG : GW G) (ht : t < 24) : f_X10_stands (nI g) (nI t) σ = some (nI (Zstand W G t)) := by
  have hb := Zb_le (W := W) hG
  have hr := Zr_lt (W := W) (G := G) (t := t)
  have hf := Zfar_le (W := W) (G := G) (t := t)
  have e31 : f_X10_stands_L31 (nI g) (nI (Zfar W G t)) σ = some (nI (Zstand W G t)) := by
    unfold f_X10_stands_L31
    simp (disch := omega) only [jix_t, nI_clamp, hA.2.1, jlet_s]
    have w := mstands_loop hW hg hA hG (Zfar W G t) (G 4) FU (G 1) 0 hG.2.1 hf (by omega) (by unfold FU; omega)
    rw [Nat.zero_add] at w
    exact w
  unfold f_X10_stands
  rw [mbeat hW hg hA hG, jb_s, mwalked hW hg hA hG ht, jb_s]
  unfold Zfar at e31
  by_cases h1 : Zb W G < Zr W G t
  · rw [if_pos h1] at e31
    rw [if_pos (by rw [nI_ltI (by omega) (by omega)]; exact h1)]
    simp (disch := omega) only [litI, pk_mul, pk_sub]
    exact e31
  · rw [if_neg h1] at e31
    rw [if_neg (by rw [nI_ltI (by omega) (by omega)]; exact h1)]
    exact e31
theorem mturned {σ : ST} {g t : Nat} {G : Nat → Nat} {W : Int64} (hW : gB σ 1 0 = W) (hg : g < 5) (hA : atM σ g G) (hG : GW G) (ht : t < 24) : f_X10_turned (nI g) (nI t) σ = some (nI (Zturn W G t)) := by
  have ho := Zown_lt t (G 5)
  have hb := Zb_le (W := W) hG
  have hr := Zr_lt (W := W) (G := G) (t := t)
  have hw := Zway_lt (W := W) (t := t) hG
  obtain ⟨a0, a1, a2, a3, a4, a5⟩ := id hA
  obtain ⟨g0, g1, g2, g3, g4, g5⟩ := id hG
  have e39 : f_X10_turned_L39 (nI g) (nI t) (nI (Zway W G t)) σ = some (nI (Zturn W G t)) := by
    unfold f_X10_turned_L39 Zturn
    rw [mown hg hA hG ht]
    simp (disch := omega) only [litI, nI_add, pk_mul, nI_leI, nI_ltI, nI_eq, nI_clamp, jix_t, jrem_n, jdiv_n, jlet_s, jb_s, jbp_s, a0, a3]
    by_cases h3 : G 0 = 3
    · rw [if_neg (fun q => q h3), if_pos h3, jnz_t (nI_ne0 (by omega) (by omega))]
      have hd : Zown t (G 5) / (G 3 + 1) < 24 := Nat.lt_of_le_of_lt (Nat.div_le_self _ _) ho
      simp (disch := omega) only [litI, nI_add, pk_mul, nI_leI, nI_ltI, nI_eq, nI_clamp, jix_t, jrem_n, jdiv_n, jlet_s, jb_s, jbp_s]
    · rw [if_pos h3, if_neg h3]
  unfold f_X10_turned f_X10_turned_L20
  rw [mbeat hW hg hA hG, jb_s, mwalked hW hg hA hG ht, jb_s]
  simp (disch := omega) only [litI, nI_add, pk_mul, nI_leI, nI_ltI, nI_eq, nI_clamp, jix_t, jrem_n, jdiv_n, jlet_s, jb_s, jbp_s, a2]
  unfold Zway at e39
  by_cases h0 : Zb W G = 0
  · rw [if_pos h0] at e39
    rw [if_pos h0]; exact e39
  · rw [if_neg h0] at e39
    rw [if_neg h0]
    by_cases h1 : Zb W G ≤ Zr W G t
    · rw [if_pos h1] at e39
      rw [if_pos h1]; exact e39
    · rw [if_neg h1] at e39
      rw [if_neg h1]; exact e39
theorem mlooks {σ : ST} {g t : Nat} {G : Nat → Nat} (hg : g < 5) (hA : atM σ g G) (hG : GW G) (ht : t < 24) : f_X10_looks (nI g) (nI t) σ = some (bI (Zlook G t)) := by
  obtain ⟨a0, a1, a2, a3, a4, a5⟩ := id hA
  obtain ⟨g0, g1, g2, g3, g4, g5⟩ := id hG
  have ho := Zown_lt t (G 5)
  unfold f_X10_looks Zlook
  rw [mown hg hA hG ht, jb_s]
  simp (disch := omega) only [litI, nI_add, pk_mul, nI_leI, nI_ltI, nI_eq, nI_clamp, jix_t, jrem_n, jdiv_n, jlet_s, jb_s, jbp_s, a0, a3]
  by_cases h4 : G 0 = 4
  · rw [if_neg (fun q => q h4), if_pos h4, jnz_t (nI_ne0 (by omega) (by omega))]
    have hm : Zown t (G 5) % (G 3 + 2) < 24 := Nat.lt_of_le_of_lt (Nat.mod_le _ _) ho
    generalize Zown t (G 5) % (G 3 + 2) = z at hm ⊢
    by_cases e : z = 0
    · subst e; rfl
    · rw [if_neg (by rw [nI_eq (by omega) (by omega)]; exact e), show decide (z ≠ 0) = true from decide_eq_true e]; rfl
  · rw [if_pos h4, if_neg h4]
    by_cases h5 : G 0 = 5
    · rw [if_neg (fun q => q h5), if_pos h5]
      by_cases e : Zown t (G 5) < G 3
      · rw [if_pos e, show decide (G 3 ≤ Zown t (G 5)) = false from decide_eq_false (by omega)]; rfl
      · rw [if_neg e, show decide (G 3 ≤ Zown t (G 5)) = true from decide_eq_true (by omega)]; rfl
    · rw [if_pos h5, if_neg h5]; rfl
