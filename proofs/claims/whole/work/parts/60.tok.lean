/-! ===== tokens of a tape f of k bytes, from a place on ===== -/
def isLt (v : Nat) : Bool := decide (97 ≤ v ∧ v ≤ 122)
def isDg (v : Nat) : Bool := decide (48 ≤ v ∧ v ≤ 57)
def isBl (v : Nat) : Bool := decide (v = 32 ∨ v = 10)
def isSg (v : Nat) : Bool := decide ((40 ≤ v ∧ v ≤ 43) ∨ v = 45 ∨ (59 ≤ v ∧ v ≤ 61))
def Zrun (P : Nat → Bool) (f : Nat → Nat) : Nat → Nat → Nat
  | 0, p => p
  | n + 1, p => if P (f p) then Zrun P f n (p + 1) else p
theorem Zrun_b (P : Nat → Bool) (f : Nat → Nat) : ∀ n p, p ≤ Zrun P f n p ∧ Zrun P f n p ≤ p + n
  | 0, p => ⟨Nat.le_refl _, Nat.le_refl _⟩
  | n + 1, p => by
    unfold Zrun
    split
    · have := Zrun_b P f n (p + 1)
      omega
    · omega
theorem Zrun_in (P : Nat → Bool) (f : Nat → Nat) : ∀ n p i, p ≤ i → i < Zrun P f n p → P (f i) = true
  | 0, p, i, h1, h2 => absurd h2 (by unfold Zrun; omega)
  | n + 1, p, i, h1, h2 => by
    unfold Zrun at h2
    split at h2
    · rename_i q
      by_cases e : i = p
      · rw [e]; exact q
      · exact Zrun_in P f n (p + 1) i (by omega) h2
    · omega
theorem Zrun_lt {P : Nat → Bool} {f : Nat → Nat} {n p : Nat} (hn : 0 < n) (h : P (f p) = true) : p < Zrun P f n p := by
  obtain ⟨n, rfl⟩ : ∃ k, n = k + 1 := ⟨n - 1, by omega⟩
  unfold Zrun
  rw [if_pos h]
  have := (Zrun_b P f n (p + 1)).1
  omega
def wl (k : Nat) : Nat := [5, 4, 5, 3, 3, 4, 6, 6, 4, 2, 3, 3].getD k 0
def wc (k i : Nat) : Int32 := li_2.getD (8 * k + i) 0
def Zeqa (f : Nat → Nat) (b k : Nat) : Nat → Nat → Bool
  | 0, _ => true
  | n + 1, i => if nI (f (b + i)) = wc k i then Zeqa f b k n (i + 1) else false
def Zm (f : Nat → Nat) (b e k : Nat) : Bool := decide (e - b = wl k) && Zeqa f b k (wl k) 0
def Zfst (P : Nat → Bool) : Nat → Nat → Nat
  | 0, k => k
  | n + 1, k => if P k then k else Zfst P n (k + 1)
def Zwd (f : Nat → Nat) (b e : Nat) : Nat := Zfst (Zm f b e) 12 0
def Znum (f : Nat → Nat) (b : Nat) : Nat → Nat
  | 0 => 0
  | n + 1 => Znum f b n * 10 + (f (b + n) - 48)
def wtok (w : Nat) : Nat := if w < 3 then 4 + w else if w < 9 then 3 else if w < 12 then w - 2 else 1
def tb (k : Nat) (f : Nat → Nat) (p : Nat) : Nat := Zrun isBl f (k - p) p
def te (k : Nat) (f : Nat → Nat) (p : Nat) : Nat := if k ≤ tb k f p then tb k f p else if isLt (f (tb k f p)) then Zrun isLt f (k - tb k f p) (tb k f p) else if isDg (f (tb k f p)) then Zrun isDg f (k - tb k f p) (tb k f p) else tb k f p + 1
def tt (k : Nat) (f : Nat → Nat) (p : Nat) : Nat := if k ≤ tb k f p then 0 else if isLt (f (tb k f p)) then wtok (Zwd f (tb k f p) (te k f p)) else if isDg (f (tb k f p)) then (if te k f p - tb k f p ≤ 4 then 2 else 1) else if isSg (f (tb k f p)) then f (tb k f p) else 1
def cd (k : Nat) (f : Nat → Nat) (p : Nat) : Nat := if tt k f p = 2 then 100000 + Znum f (tb k f p) (te k f p - tb k f p) else Zwd f (tb k f p) (te k f p) - 3
theorem tb_b {k : Nat} {f : Nat → Nat} {p : Nat} (hp : p ≤ k) : p ≤ tb k f p ∧ tb k f p ≤ k := by
  have := Zrun_b isBl f (k - p) p
  unfold tb
  omega
theorem te_le {k : Nat} {f : Nat → Nat} {p : Nat} (hp : p ≤ k) : tb k f p ≤ te k f p ∧ te k f p ≤ k := by
  have h := tb_b (f := f) hp
  unfold te
  split
  · omega
  · split
    · have := Zrun_b isLt f (k - tb k f p) (tb k f p)
      omega
    · split
      · have := Zrun_b isDg f (k - tb k f p) (tb k f p)
        omega
      · omega
theorem tt_0 {k : Nat} {f : Nat → Nat} {p : Nat} (hp : p ≤ k) (h : tt k f p ≠ 0) : tb k f p < k ∧ p < te k f p := by
  have hb := tb_b (f := f) hp
  have h1 : ¬ k ≤ tb k f p := fun q => h (by unfold tt; rw [if_pos q])
  refine ⟨by omega, ?_⟩
  unfold te
  rw [if_neg h1]
  split
  · rename_i q
    have := Zrun_lt (n := k - tb k f p) (by omega) q
    omega
  · split
    · rename_i q
      have := Zrun_lt (n := k - tb k f p) (by omega) q
      omega
    · omega
theorem wc_t : ∀ k, k < 12 → ∀ i, i < 8 → (i < wl k → ¬ wc k i = 32) ∧ (wl k ≤ i → wc k i = 32) := by decide +kernel
theorem wl_8 : ∀ k, k < 12 → wl k < 8 := by decide +kernel
theorem Zeqa_iff {f : Nat → Nat} {b k : Nat} : ∀ n i, Zeqa f b k n i = true ↔ ∀ c, i ≤ c → c < i + n → nI (f (b + c)) = wc k c
  | 0, i => ⟨fun _ c h1 h2 => by omega, fun _ => rfl⟩
  | n + 1, i => by
    unfold Zeqa
    constructor
    · intro h c h1 h2
      split at h
      · rename_i q
        by_cases e : c = i
        · rw [e]; exact q
        · exact (Zeqa_iff n (i + 1)).mp h c (by omega) (by omega)
      · cases h
    · intro h
      rw [if_pos (h i (Nat.le_refl _) (by omega))]
      exact (Zeqa_iff n (i + 1)).mpr (fun c h1 h2 => h c (by omega) (by omega))
def Zref (f : Nat → Nat) (b e k : Nat) : Nat → Nat → Bool
  | 0, _ => true
  | n + 1, i => if wc k i = (if b + i < e then nI (f (b + i)) else 32) then Zref f b e k n (i + 1) else false
theorem Zref_iff {f : Nat → Nat} {b e k : Nat} : ∀ n i, Zref f b e k n i = true ↔ ∀ c, i ≤ c → c < i + n → wc k c = (if b + c < e then nI (f (b + c)) else 32)
  | 0, i => ⟨fun _ c h1 h2 => by omega, fun _ => rfl⟩
  | n + 1, i => by
    unfold Zref
    constructor
    · intro h c h1 h2
      by_cases q : wc k i = (if b + i < e then nI (f (b + i)) else 32)
      · rw [if_pos q] at h
        by_cases e : c = i
        · rw [e]; exact q
        · exact (Zref_iff n (i + 1)).mp h c (by omega) (by omega)
      · rw [if_neg q] at h
        cases h
    · intro h
      rw [if_pos (h i (Nat.le_refl _) (by omega))]
      exact (Zref_iff n (i + 1)).mpr (fun c h1 h2 => h c (by omega) (by omega))
theorem lt_32 : ∀ v, v < 256 → isLt v = true → ¬ nI v = 32 := by decide +kernel
theorem Zref_m {f : Nat → Nat} {b e k : Nat} (hk : k < 12) (hb : b ≤ e) (hl : ∀ i, b ≤ i → i < e → f i < 256 ∧ isLt (f i) = true) : (decide (e - b ≤ 8) && Zref f b e k 8 0) = Zm f b e k := by
  have h8 := wl_8 k hk
  have key : (decide (e - b ≤ 8) && Zref f b e k 8 0) = true ↔ Zm f b e k = true := by
    unfold Zm
    rw [Bool.and_eq_true, Bool.and_eq_true, decide_eq_true_iff, decide_eq_true_iff, Zref_iff, Zeqa_iff]
    constructor
    · rintro ⟨h1, h2⟩
      have h3 : e - b = wl k := by
        rcases Nat.lt_trichotomy (e - b) (wl k) with q | q | q
        · have w := h2 (e - b) (Nat.zero_le _) (by omega)
          rw [if_neg (by omega)] at w
          exact absurd w ((wc_t k hk (e - b) (by omega)).1 q)
        · exact q
        · have w := h2 (wl k) (Nat.zero_le _) (by omega)
          rw [if_pos (by omega), (wc_t k hk (wl k) h8).2 (Nat.le_refl _)] at w
          have hl2 := hl (b + wl k) (by omega) (by omega)
          exact absurd w.symm (lt_32 _ hl2.1 hl2.2)
      refine ⟨h3, fun c h4 h5 => ?_⟩
      have w := h2 c h4 (by omega)
      rw [if_pos (by omega)] at w
      exact w.symm
    · rintro ⟨h3, h4⟩
      refine ⟨by omega, fun c h5 h6 => ?_⟩
      by_cases q : c < wl k
      · rw [if_pos (by omega)]
        exact (h4 c (Nat.zero_le _) (by omega)).symm
      · rw [if_neg (by omega)]
        exact (wc_t k hk c (by omega)).2 (by omega)
  cases h1 : (decide (e - b ≤ 8) && Zref f b e k 8 0) with
  | true => rw [key.mp h1]
  | false =>
    cases h2 : Zm f b e k with
    | false => rfl
    | true => rw [key.mpr h2] at h1; cases h1
theorem wd_t : ∀ k, k < 12 → ∀ j, j < 12 → k ≠ j → wl k = wl j → ∃ i, i < wl k ∧ ¬ wc k i = wc j i := by decide +kernel
theorem Zm_un {f : Nat → Nat} {b e k j : Nat} (hk : k < 12) (hj : j < 12) (h1 : Zm f b e k = true) (h2 : Zm f b e j = true) : k = j := by
  unfold Zm at h1 h2
  rw [Bool.and_eq_true, decide_eq_true_iff, Zeqa_iff] at h1 h2
  rcases Nat.lt_or_ge k j with q | q
  · obtain ⟨i, q1, q2⟩ := wd_t k hk j hj (by omega) (by omega)
    exact absurd ((h1.2 i (Nat.zero_le _) (by omega)).symm.trans (h2.2 i (Nat.zero_le _) (by omega))) q2
  · rcases Nat.lt_or_ge j k with q' | q'
    · obtain ⟨i, q1, q2⟩ := wd_t k hk j hj (by omega) (by omega)
      exact absurd ((h1.2 i (Nat.zero_le _) (by omega)).symm.trans (h2.2 i (Nat.zero_le _) (by omega))) q2
    · omega
theorem Zfst_s {P : Nat → Bool} : ∀ n k, (Zfst P n k < k + n ∧ P (Zfst P n k) = true) ∨ (Zfst P n k = k + n ∧ ∀ j, k ≤ j → j < k + n → P j = false)
  | 0, k => Or.inr ⟨rfl, fun j h1 h2 => by omega⟩
  | n + 1, k => by
    unfold Zfst
    cases h : P k with
    | true => exact Or.inl ⟨by rw [if_pos rfl]; omega, by rw [if_pos rfl]; exact h⟩
    | false =>
      rw [if_neg (by decide)]
      rcases Zfst_s (P := P) n (k + 1) with ⟨q1, q2⟩ | ⟨q1, q2⟩
      · exact Or.inl ⟨by omega, q2⟩
      · refine Or.inr ⟨by omega, fun j h1 h2 => ?_⟩
        by_cases e : j = k
        · rw [e]; exact h
        · exact q2 j (by omega) (by omega)
theorem Zwd_s (f : Nat → Nat) (b e : Nat) : Zwd f b e ≤ 12 ∧ ∀ j, j < 12 → Zm f b e j = decide (j = Zwd f b e) := by
  rcases Zfst_s (P := Zm f b e) 12 0 with ⟨q1, q2⟩ | ⟨q1, q2⟩
  · refine ⟨by unfold Zwd; omega, fun j hj => ?_⟩
    have q1' : Zwd f b e < 12 := by unfold Zwd; omega
    by_cases h : j = Zwd f b e
    · rw [decide_eq_true h, h]; exact q2
    · rw [decide_eq_false h]
      cases w : Zm f b e j with
      | false => rfl
      | true => exact absurd (Zm_un hj q1' w q2) h
  · refine ⟨by unfold Zwd; omega, fun j hj => ?_⟩
    rw [q2 j (Nat.zero_le _) (by omega), decide_eq_false]
    unfold Zwd
    omega
theorem Znum_lt (f : Nat → Nat) (b : Nat) : ∀ n, (∀ i, i < n → f (b + i) ≤ 57) → Znum f b n < 10 ^ n
  | 0, _ => by show 0 < 1; omega
  | n + 1, h => by
    have h1 := Znum_lt f b n (fun i hi => h i (by omega))
    have h2 := h n (by omega)
    show Znum f b n * 10 + (f (b + n) - 48) < 10 ^ (n + 1)
    rw [Nat.pow_succ]
    omega
theorem cd_b {k : Nat} {f : Nat → Nat} {p : Nat} (hp : p ≤ k) : (tt k f p = 2 → 100000 ≤ cd k f p ∧ cd k f p < 110000) ∧ (tt k f p = 3 → cd k f p < 6) := by
  refine ⟨fun h => ?_, fun h => ?_⟩
  · have e : cd k f p = 100000 + Znum f (tb k f p) (te k f p - tb k f p) := if_pos h
    rw [e]
    have h1 : ¬ k ≤ tb k f p := fun q => by unfold tt at h; rw [if_pos q] at h; cases h
    have h2 : ∀ w, w ≤ 12 → wtok w ≠ 2 := by decide
    have hz := Zwd_s f (tb k f p) (te k f p)
    unfold tt at h
    rw [if_neg h1] at h
    split at h
    · exact absurd h (h2 _ hz.1)
    · rename_i hl
      split at h
      · rename_i hd
        split at h
        · rename_i h4
          have hin : ∀ i, i < te k f p - tb k f p → f (tb k f p + i) ≤ 57 := by
            intro i hi
            have ee : te k f p = Zrun isDg f (k - tb k f p) (tb k f p) := by unfold te; rw [if_neg h1, if_neg hl, if_pos hd]
            rw [ee] at hi
            have := Zrun_in isDg f (k - tb k f p) (tb k f p) (tb k f p + i) (by omega) (by omega)
            unfold isDg at this
            exact (of_decide_eq_true this).2
          have hn := Znum_lt f (tb k f p) _ hin
          have : 10 ^ (te k f p - tb k f p) ≤ 10 ^ 4 := Nat.pow_le_pow_right (by decide) h4
          have e4 : (10 : Nat) ^ 4 = 10000 := by decide
          omega
        · cases h
      · split at h
        · rename_i hs
          rw [h] at hs
          exact absurd hs (by decide)
        · cases h
  · have hne : ¬ tt k f p = 2 := by omega
    have e : cd k f p = Zwd f (tb k f p) (te k f p) - 3 := if_neg hne
    rw [e]
    have h1 : ¬ k ≤ tb k f p := fun q => by unfold tt at h; rw [if_pos q] at h; cases h
    have h2 : ∀ w, w ≤ 12 → wtok w = 3 → w - 3 < 6 := by decide
    have hz := Zwd_s f (tb k f p) (te k f p)
    unfold tt at h
    rw [if_neg h1] at h
    split at h
    · exact h2 _ hz.1 h
    · split at h
      · split at h <;> cases h
      · split at h
        · rename_i hs
          rw [h] at hs
          exact absurd hs (by decide)
        · cases h
/-! ===== the class's tokens ===== -/
def NXT (σ σ' : ST) : Prop := (∀ k, k ≠ 3 → gA σ' k = gA σ k) ∧ (∀ k, gB σ' k = gB σ k) ∧ gA σ' 3 1 = gA σ 3 1 ∧ gA σ' 3 4 = gA σ 3 4
theorem NXT.rf {σ : ST} : NXT σ σ := ⟨fun _ _ => rfl, fun _ => rfl, rfl, rfl⟩
theorem NXT.trans {σ σ' σ'' : ST} (h : NXT σ σ') (h2 : NXT σ' σ'') : NXT σ σ'' := ⟨fun k q => (h2.1 k q).trans (h.1 k q), fun k => (h2.2.1 k).trans (h.2.1 k), h2.2.2.1.trans h.2.2.1, h2.2.2.2.trans h.2.2.2⟩
theorem NXT.sA {σ σ' : ST} {j : Nat} {v : Int32} (h : NXT σ σ') (h1 : j ≠ 1) (h4 : j ≠ 4) : NXT σ (sA σ' 3 j v) := ⟨fun k q => by rw [gA_sA_ne q]; exact h.1 k q, fun k => h.2.1 k, by rw [gA_sA_nj (Ne.symm h1)]; exact h.2.2.1, by rw [gA_sA_nj (Ne.symm h4)]; exact h.2.2.2⟩
def TP (k : Nat) (f : Nat → Nat) (σ : ST) : Prop := gA σ 3 1 = nI k ∧ ∀ i, i < k → gA σ 21 i = nI (f i)
theorem TP.nx {k : Nat} {f : Nat → Nat} {σ σ' : ST} (h : TP k f σ) (n : NXT σ σ') : TP k f σ' := ⟨by rw [n.2.2.1]; exact h.1, fun i hi => by rw [n.1 21 (by omega)]; exact h.2 i hi⟩
theorem lt_n : ∀ v, v < 256 → f_X4_isLetter (nI v) = bI (isLt v) := by decide +kernel
theorem dg_n : ∀ v, v < 256 → f_X4_isDigit (nI v) = bI (isDg v) := by decide +kernel
theorem sg_n : ∀ v, v < 256 → f_X4_isSign (nI v) = bI (isSg v) := by decide +kernel
theorem bl_n : ∀ v, v < 256 → (isBl v = true ∧ (nI v = 32 ∨ (¬ nI v = 32 ∧ nI v = 10))) ∨ (isBl v = false ∧ ¬ nI v = 32 ∧ ¬ nI v = 10) := by decide +kernel
theorem x_skip {k : Nat} {f : Nat → Nat} (hk : k ≤ 160) (hf : ∀ i, i < k → f i < 256) {σ : ST} (hT : TP k f σ) : ∀ n p fuel, p + n = k → n < fuel → f_X4_next_L8 fuel (sA σ 3 5 (nI p)) = f_X4_next_L60 (sA σ 3 5 (nI (Zrun isBl f n p))) := by
  intro n
  induction n with
  | zero =>
    intro p fuel hp hfu
    obtain ⟨fuel, rfl⟩ : ∃ k, fuel = k + 1 := ⟨fuel - 1, by omega⟩
    rw [ef_X4_next_L8, gA_sA_nj (show 1 ≠ 5 by omega), gA_sA_eq, hT.1, if_pos (nI_le (by omega) (by omega))]
    rfl
  | succ n ih =>
    intro p fuel hp hfu
    obtain ⟨fuel, rfl⟩ : ∃ k, fuel = k + 1 := ⟨fuel - 1, by omega⟩
    have hv := hf p (by omega)
    rw [ef_X4_next_L8, gA_sA_nj (show 1 ≠ 5 by omega), gA_sA_eq, hT.1, if_neg (nI_ge (by omega) (by omega)), jix_t (by omega) (by omega), nI_clamp (by omega), gA_sA_ne (show 21 ≠ 3 by omega), hT.2 p (by omega)]
    have go : f_X4_next_L47 (f_X4_next_L8 fuel) (sA σ 3 5 (nI p)) = f_X4_next_L60 (sA σ 3 5 (nI (Zrun isBl f n (p + 1)))) := by
      unfold f_X4_next_L47
      rw [gA_sA_eq, jlet_s, sA_sA, nI_1]
      exact ih (p + 1) fuel (by omega) (by omega)
    rcases bl_n _ hv with ⟨h1, h2 | ⟨h2, h3⟩⟩ | ⟨h1, h2, h3⟩
    · rw [if_pos h2, go]
      show _ = f_X4_next_L60 (sA σ 3 5 (nI (if isBl (f p) then _ else _)))
      rw [if_pos h1]
    · rw [if_neg h2, jix_t (by omega) (by omega), if_neg (fun q => q h3), go]
      show _ = f_X4_next_L60 (sA σ 3 5 (nI (if isBl (f p) then _ else _)))
      rw [if_pos h1]
    · rw [if_neg h2, jix_t (by omega) (by omega), if_pos h3]
      show _ = f_X4_next_L60 (sA σ 3 5 (nI (if isBl (f p) then _ else _)))
      rw [if_neg (by rw [h1]; decide)]
theorem x_word {k : Nat} {f : Nat → Nat} (hk : k ≤ 160) (hf : ∀ i, i < k → f i < 256) {σ : ST} (hT : TP k f σ) : ∀ n p fuel, p + n = k → n < fuel → f_X4_takeWord_L0 fuel (sA σ 3 6 (nI p)) = f_X4_takeWord_L39 (sA σ 3 6 (nI (Zrun isLt f n p))) := by
  intro n
  induction n with
  | zero =>
    intro p fuel hp hfu
    obtain ⟨fuel, rfl⟩ : ∃ k, fuel = k + 1 := ⟨fuel - 1, by omega⟩
    rw [ef_X4_takeWord_L0, gA_sA_nj (show 1 ≠ 6 by omega), gA_sA_eq, hT.1, if_pos (nI_le (by omega) (by omega))]
    rfl
  | succ n ih =>
    intro p fuel hp hfu
    obtain ⟨fuel, rfl⟩ : ∃ k, fuel = k + 1 := ⟨fuel - 1, by omega⟩
    have hv := hf p (by omega)
    rw [ef_X4_takeWord_L0, gA_sA_nj (show 1 ≠ 6 by omega), gA_sA_eq, hT.1, if_neg (nI_ge (by omega) (by omega)), jix_t (by omega) (by omega), nI_clamp (by omega), gA_sA_ne (show 21 ≠ 3 by omega), hT.2 p (by omega), lt_n _ hv, jlet_s]
    unfold Zrun
    cases h : isLt (f p) with
    | false => rw [if_pos (show bI false = 0 from rfl), if_neg (by decide)]
    | true =>
      rw [if_neg (show ¬ bI true = 0 by decide), if_pos rfl, jlet_s, sA_sA, nI_1]
      exact ih (p + 1) fuel (by omega) (by omega)
def wo (o : Nat) : Nat := if o ≤ 6 then o + 2 else if o ≤ 9 then o - 7 else o - 1
theorem wo_t : ∀ o, o < 13 → 1 ≤ o → jslen o = nI (wl (wo o)) ∧ ∀ j, j < wl (wo o) → jsch o (nI j) = some (wc (wo o) j) := by decide +kernel
theorem x_isWord {k b e o : Nat} {f : Nat → Nat} (hk : k ≤ 160) {σ : ST} (hT : TP k f σ) (hb : gA σ 3 5 = nI b) (he : gA σ 3 6 = nI e) (hbe : b ≤ e) (hek : e ≤ k) (ho : o < 13) (ho1 : 1 ≤ o) : f_X4_isWord o σ = some (bI (Zm f b e (wo o))) := by
  obtain ⟨t1, t2⟩ := wo_t o ho ho1
  have h8 : wl (wo o) < 8 := wl_8 _ (by unfold wo; split <;> (try split) <;> omega)
  unfold f_X4_isWord
  rw [t1, jlet_s, hb, he, pk_sub hbe]
  unfold Zm
  by_cases q : e - b = wl (wo o)
  · rw [if_pos (by rw [q]), decide_eq_true q, Bool.true_and]
    have lp : ∀ n i fuel, i + n = wl (wo o) → n < fuel → f_X4_isWord_L20 fuel o (nI i) σ = some (bI (Zeqa f b (wo o) n i)) := by
      intro n
      induction n with
      | zero =>
        intro i fuel hi hfu
        obtain ⟨fuel, rfl⟩ : ∃ k, fuel = k + 1 := ⟨fuel - 1, by omega⟩
        rw [ef_X4_isWord_L20, t1, jlet_s, if_pos (nI_le (by omega) (by omega))]
        rfl
      | succ n ih =>
        intro i fuel hi hfu
        obtain ⟨fuel, rfl⟩ : ∃ k, fuel = k + 1 := ⟨fuel - 1, by omega⟩
        rw [ef_X4_isWord_L20, t1, jlet_s, if_neg (nI_ge (by omega) (by omega)), hb, nI_add, jix_t (by omega) (by omega), t2 i (by omega), jb_s, nI_clamp (by omega), hT.2 (b + i) (by omega)]
        unfold Zeqa
        by_cases q2 : nI (f (b + i)) = wc (wo o) i
        · rw [if_pos q2, if_pos q2, jlet_s, nI_1]
          exact ih (i + 1) fuel (by omega) (by omega)
        · rw [if_neg q2, if_neg q2]; rfl
    exact lp (wl (wo o)) 0 FU (by omega) (by unfold FU; omega)
  · rw [if_neg (fun z => q ((nI_eq (by omega) (by omega)).mp z.symm)), decide_eq_false q, Bool.false_and]; rfl
def wname (w : Nat) : Int32 := if 3 ≤ w ∧ w < 9 then nI (w - 3) else -1
theorem x_name {k b e : Nat} {f : Nat → Nat} (hk : k ≤ 160) {σ : ST} (hT : TP k f σ) (hb : gA σ 3 5 = nI b) (he : gA σ 3 6 = nI e) (hbe : b ≤ e) (hek : e ≤ k) : f_X4_nameAtHand σ = some (wname (Zwd f b e)) ∧ (f_X4_keyAtHand σ = some (if 3 ≤ Zwd f b e ∧ Zwd f b e < 9 then 1 else nI (wtok (Zwd f b e)))) := by
  obtain ⟨z1, z2⟩ := Zwd_s f b e
  have W : ∀ o, o < 13 → 1 ≤ o → f_X4_isWord o σ = some (bI (decide (wo o = Zwd f b e))) := fun o ho ho1 => by
    rw [x_isWord hk hT hb he hbe hek ho ho1, z2 (wo o) (by unfold wo; split <;> (try split) <;> omega)]
  generalize Zwd f b e = w at z1 W ⊢
  unfold f_X4_nameAtHand f_X4_keyAtHand
  rw [W 1 (by omega) (by omega), W 2 (by omega) (by omega), W 3 (by omega) (by omega), W 4 (by omega) (by omega), W 5 (by omega) (by omega), W 6 (by omega) (by omega), W 7 (by omega) (by omega), W 8 (by omega) (by omega), W 9 (by omega) (by omega), W 10 (by omega) (by omega), W 11 (by omega) (by omega), W 12 (by omega) (by omega)]
  simp only [jb_s]
  have key : ∀ w, w ≤ 12 → ((if bI (decide (wo 1 = w)) = 0 then if bI (decide (wo 2 = w)) = 0 then if bI (decide (wo 3 = w)) = 0 then if bI (decide (wo 4 = w)) = 0 then if bI (decide (wo 5 = w)) = 0 then if bI (decide (wo 6 = w)) = 0 then some (-1 : Int32) else some 5 else some 4 else some 3 else some 2 else some 1 else some 0) = some (wname w)) ∧ ((if bI (decide (wo 7 = w)) = 0 then if bI (decide (wo 8 = w)) = 0 then if bI (decide (wo 9 = w)) = 0 then if bI (decide (wo 10 = w)) = 0 then if bI (decide (wo 11 = w)) = 0 then if bI (decide (wo 12 = w)) = 0 then some (1 : Int32) else some 9 else some 8 else some 7 else some 6 else some 5 else some 4) = some (if 3 ≤ w ∧ w < 9 then 1 else nI (wtok w))) := by decide +kernel
  exact key w z1
theorem x_tail {k b e : Nat} {f : Nat → Nat} (hk : k ≤ 160) {σ : ST} (hT : TP k f σ) (hb : gA σ 3 5 = nI b) (he : gA σ 3 6 = nI e) (hbe : b ≤ e) (hek : e ≤ k) : ∃ v, f_X4_takeWord_L39 σ = some (sA (sA σ 3 7 (nI (wtok (Zwd f b e)))) 3 8 v) ∧ (wtok (Zwd f b e) = 3 → v = xC (Zwd f b e - 3)) := by
  obtain ⟨n1, n2⟩ := x_name hk hT hb he hbe hek
  have z1 := (Zwd_s f b e).1
  generalize Zwd f b e = w at z1 n1 n2 ⊢
  unfold f_X4_takeWord_L39 f_X4_takeWord_L58
  rw [n1, jb_s]
  by_cases q : 3 ≤ w ∧ w < 9
  · have h1 : ¬ wname w = -1 := by
      unfold wname
      rw [if_pos q]
      exact nI_ne_m1 _ (by omega)
    rw [if_pos h1]
    refine ⟨-1 - wname w, ?_, fun _ => ?_⟩
    · rw [jlet_s, jlet_s]
      have : wtok w = 3 := by unfold wtok; rw [if_neg (by omega), if_pos (by omega)]
      rw [this]; rfl
    · have key : ∀ w, w ≤ 12 → 3 ≤ w ∧ w < 9 → (-1 : Int32) - wname w = xC (w - 3) := by decide +kernel
      exact key w z1 q
  · have h1 : wname w = -1 := by unfold wname; rw [if_neg q]
    rw [if_neg (fun z => z h1), n2, if_neg q, jb_s]
    refine ⟨_, rfl, fun z => ?_⟩
    exact absurd z (by unfold wtok; split <;> (try split) <;> (try split) <;> omega)
theorem x_digits {k b : Nat} {f : Nat → Nat} (hk : k ≤ 160) (hf : ∀ i, i < k → f i < 256) : ∀ n p fuel σ, p + n = k → n < fuel → b ≤ p → TP k f σ → gA σ 3 5 = nI b → gA σ 3 6 = nI p → (∀ i, b ≤ i → i < p → isDg (f i) = true) → (p - b ≤ 4 → gA σ 3 8 = nI (Znum f b (p - b))) → ∃ σ', f_X4_takeDigits_L5 fuel σ = some σ' ∧ NXT σ σ' ∧ gA σ' 3 5 = nI b ∧ gA σ' 3 6 = nI (Zrun isDg f n p) ∧ gA σ' 3 7 = nI (if Zrun isDg f n p - b ≤ 4 then 2 else 1) ∧ (Zrun isDg f n p - b ≤ 4 → gA σ' 3 8 = nI (Znum f b (Zrun isDg f n p - b))) := by
  have fin : ∀ p σ, b ≤ p → p ≤ 160 → gA σ 3 5 = nI b → gA σ 3 6 = nI p → (p - b ≤ 4 → gA σ 3 8 = nI (Znum f b (p - b))) → ∃ σ', f_X4_takeDigits_L81 σ = some σ' ∧ NXT σ σ' ∧ gA σ' 3 5 = nI b ∧ gA σ' 3 6 = nI p ∧ gA σ' 3 7 = nI (if p - b ≤ 4 then 2 else 1) ∧ (p - b ≤ 4 → gA σ' 3 8 = nI (Znum f b (p - b))) := by
    intro p σ hb hp h5 h6 h8
    unfold f_X4_takeDigits_L81 f_X4_takeDigits_L100
    rw [h5, h6, pk_sub hb]
    by_cases q : p - b ≤ 4
    · rw [if_pos (show nI (p - b) ≤ 4 from nI_le (b := 4) q (by decide)), if_pos q, jlet_s]
      exact ⟨_, rfl, NXT.rf.sA (by omega) (by omega), by rw [gA_sA_nj (by omega)]; exact h5, by rw [gA_sA_nj (by omega)]; exact h6, gA_sA_eq, fun z => by rw [gA_sA_nj (by omega)]; exact h8 z⟩
    · rw [if_neg (show ¬ nI (p - b) ≤ 4 from nI_ge (a := 4) (by omega) (by omega)), if_neg q, jlet_s]
      exact ⟨_, rfl, NXT.rf.sA (by omega) (by omega), by rw [gA_sA_nj (by omega)]; exact h5, by rw [gA_sA_nj (by omega)]; exact h6, gA_sA_eq, fun z => absurd z q⟩
  intro n
  induction n with
  | zero =>
    intro p fuel σ hp hfu hbp hT h5 h6 hd h8
    obtain ⟨fuel, rfl⟩ : ∃ k, fuel = k + 1 := ⟨fuel - 1, by omega⟩
    rw [ef_X4_takeDigits_L5, hT.1, h6, if_pos (nI_le (by omega) (by omega))]
    exact fin p σ hbp (by omega) h5 h6 h8
  | succ n ih =>
    intro p fuel σ hp hfu hbp hT h5 h6 hd h8
    obtain ⟨fuel, rfl⟩ : ∃ k, fuel = k + 1 := ⟨fuel - 1, by omega⟩
    have hv := hf p (by omega)
    rw [ef_X4_takeDigits_L5, hT.1, h6, if_neg (nI_ge (by omega) (by omega)), jix_t (by omega) (by omega), nI_clamp (by omega), hT.2 p (by omega), dg_n _ hv, jlet_s]
    unfold Zrun
    cases h : isDg (f p) with
    | false =>
      rw [if_pos (show bI false = 0 from rfl), if_neg (by decide)]
      exact fin p σ hbp (by omega) h5 h6 h8
    | true =>
      rw [if_neg (show ¬ bI true = 0 by decide), if_pos rfl, h5, pk_sub hbp]
      have hd2 : ∀ i, b ≤ i → i < p + 1 → isDg (f i) = true := fun i h1 h2 => by
        by_cases e : i = p
        · rw [e]; exact h
        · exact hd i h1 (by omega)
      have h48 : 48 ≤ f p := by unfold isDg at h; exact (of_decide_eq_true h).1
      by_cases q : p - b < 4
      · rw [if_neg (show ¬ (4 : Int32) ≤ nI (p - b) from nI_ge (b := 4) q (by decide)), jix_t (by omega) (by omega), jlet_s]
        unfold f_X4_takeDigits_L68
        rw [jlet_s]
        have hval : gA σ 3 8 * 10 + nI (f p) - 48 = nI (Znum f b (p + 1 - b)) := by
          rw [h8 (by omega), show (10 : Int32) = nI 10 from rfl, pk_mul, nI_add, show (48 : Int32) = nI 48 from rfl, pk_sub (by omega), show p + 1 - b = (p - b) + 1 by omega]
          show _ = nI (Znum f b (p - b) * 10 + (f (b + (p - b)) - 48))
          rw [show b + (p - b) = p by omega]
          congr 1; omega
        rw [hval]
        have hn : NXT σ (sA (sA σ 3 8 (nI (Znum f b (p + 1 - b)))) 3 6 (nI (p + 1))) := (NXT.rf.sA (by omega) (by omega)).sA (by omega) (by omega)
        have e6 : gA (sA σ 3 8 (nI (Znum f b (p + 1 - b)))) 3 6 + 1 = nI (p + 1) := by rw [gA_sA_nj (by omega), h6, nI_1]
        rw [e6]
        obtain ⟨σ', r1, r2, r3, r4, r5, r6⟩ := ih (p + 1) fuel _ (by omega) (by omega) (by omega) (hT.nx hn) (by rw [gA_sA_nj (by omega), gA_sA_nj (by omega)]; exact h5) gA_sA_eq hd2 (fun _ => by rw [gA_sA_nj (by omega), gA_sA_eq])
        exact ⟨σ', r1, hn.trans r2, r3, r4, r5, r6⟩
      · rw [if_pos (show (4 : Int32) ≤ nI (p - b) from nI_le (a := 4) (by omega) (by omega))]
        unfold f_X4_takeDigits_L68
        rw [jlet_s, h6, nI_1]
        have hn : NXT σ (sA σ 3 6 (nI (p + 1))) := NXT.rf.sA (by omega) (by omega)
        obtain ⟨σ', r1, r2, r3, r4, r5, r6⟩ := ih (p + 1) fuel _ (by omega) (by omega) (by omega) (hT.nx hn) (by rw [gA_sA_nj (by omega)]; exact h5) gA_sA_eq hd2 (fun z => by omega)
        exact ⟨σ', r1, hn.trans r2, r3, r4, r5, r6⟩
theorem xC_dg {v : Nat} : xC (100000 + v) = nI v := by
  unfold xC
  rw [if_pos (by omega), show 100000 + v - 100000 = v by omega]
def TK (k : Nat) (f : Nat → Nat) (p : Nat) (σ : ST) : Prop := gA σ 3 5 = nI (tb k f p) ∧ gA σ 3 6 = nI (te k f p) ∧ gA σ 3 7 = nI (tt k f p) ∧ (tt k f p = 2 ∨ tt k f p = 3 → gA σ 3 8 = xC (cd k f p))
theorem xnext {k p : Nat} {f : Nat → Nat} (hk : k ≤ 160) (hf : ∀ i, i < k → f i < 256) {σ : ST} (hT : TP k f σ) (hp : p ≤ k) (h6 : gA σ 3 6 = nI p) : ∃ σ', f_X4_next σ = some σ' ∧ NXT σ σ' ∧ TK k f p σ' := by
  have hb := tb_b (f := f) hp
  have he := te_le (f := f) hp
  unfold f_X4_next
  rw [jlet_s, h6, x_skip hk hf hT (k - p) p FU (by omega) (by unfold FU; omega), show Zrun isBl f (k - p) p = tb k f p from rfl]
  have n1 : NXT σ (sA (sA σ 3 5 (nI (tb k f p))) 3 6 (nI (tb k f p))) := (NXT.rf.sA (by omega) (by omega)).sA (by omega) (by omega)
  have hT1 := hT.nx n1
  have b5 : gA (sA (sA σ 3 5 (nI (tb k f p))) 3 6 (nI (tb k f p))) 3 5 = nI (tb k f p) := by rw [gA_sA_nj (by omega), gA_sA_eq]
  have b6 : gA (sA (sA σ 3 5 (nI (tb k f p))) 3 6 (nI (tb k f p))) 3 6 = nI (tb k f p) := gA_sA_eq
  unfold f_X4_next_L60
  rw [gA_sA_eq, jlet_s, b5, hT1.1]
  by_cases h1 : k ≤ tb k f p
  · rw [if_neg (nI_nlt h1 (by omega)), jlet_s]
    have e1 : te k f p = tb k f p := by unfold te; rw [if_pos h1]
    have e2 : tt k f p = 0 := by unfold tt; rw [if_pos h1]
    refine ⟨_, rfl, n1.sA (by omega) (by omega), ?_, ?_, ?_, fun q => ?_⟩
    · rw [gA_sA_nj (by omega)]; exact b5
    · rw [gA_sA_nj (by omega), e1]; exact b6
    · rw [gA_sA_eq, e2]; rfl
    · rw [e2] at q; omega
  · have hv := hf (tb k f p) (by omega)
    rw [if_pos (nI_lt (by omega) (by omega)), jix_t (by omega) (by omega), nI_clamp (by omega), hT1.2 _ (by omega), lt_n _ hv, jlet_s]
    cases hl : isLt (f (tb k f p)) with
    | true =>
      rw [if_neg (show ¬ bI true = 0 by decide)]
      have e1 : te k f p = Zrun isLt f (k - tb k f p) (tb k f p) := by unfold te; rw [if_neg h1, if_pos hl]
      have e2 : tt k f p = wtok (Zwd f (tb k f p) (te k f p)) := by
        show (if k ≤ tb k f p then 0 else if isLt (f (tb k f p)) then _ else _) = _
        rw [if_neg h1, if_pos hl]
      unfold f_X4_takeWord
      rw [x_word hk hf (σ := sA σ 3 5 (nI (tb k f p))) (hT.nx (NXT.rf.sA (by omega) (by omega))) (k - tb k f p) (tb k f p) FU (by omega) (by unfold FU; omega), ← e1]
      have n2 : NXT σ (sA (sA σ 3 5 (nI (tb k f p))) 3 6 (nI (te k f p))) := (NXT.rf.sA (by omega) (by omega)).sA (by omega) (by omega)
      obtain ⟨v, w1, w2⟩ := x_tail hk (hT.nx n2) (show gA (sA (sA σ 3 5 (nI (tb k f p))) 3 6 (nI (te k f p))) 3 5 = nI (tb k f p) by rw [gA_sA_nj (by omega), gA_sA_eq]) gA_sA_eq he.1 he.2
      rw [w1, jb_s]
      refine ⟨_, rfl, (n2.sA (by omega) (by omega)).sA (by omega) (by omega), ?_, ?_, ?_, fun q => ?_⟩
      · rw [gA_sA_nj (by omega), gA_sA_nj (by omega), gA_sA_nj (by omega), gA_sA_eq]
      · rw [gA_sA_nj (by omega), gA_sA_nj (by omega), gA_sA_eq]
      · rw [gA_sA_nj (by omega), gA_sA_eq, e2]
      · rw [gA_sA_eq]
        have hne : tt k f p ≠ 2 := by
          have h2 : ∀ w, w ≤ 12 → wtok w ≠ 2 := by decide
          rw [e2]; exact h2 _ (Zwd_s f _ _).1
        have h3 : tt k f p = 3 := by omega
        rw [w2 (by rw [← e2]; exact h3)]
        show _ = xC (if tt k f p = 2 then _ else _)
        rw [if_neg hne]
    | false =>
      rw [if_pos (show bI false = 0 from rfl), jix_t (by omega) (by omega), dg_n _ hv, jlet_s]
      cases hd : isDg (f (tb k f p)) with
      | true =>
        rw [if_neg (show ¬ bI true = 0 by decide)]
        have e1 : te k f p = Zrun isDg f (k - tb k f p) (tb k f p) := by
          unfold te
          rw [if_neg h1, if_neg (by rw [hl]; decide), if_pos hd]
        have e2 : tt k f p = if te k f p - tb k f p ≤ 4 then 2 else 1 := by
          show (if k ≤ tb k f p then 0 else if isLt (f (tb k f p)) then _ else if isDg (f (tb k f p)) then _ else _) = _
          rw [if_neg h1, if_neg (by rw [hl]; decide), if_pos hd]
        unfold f_X4_takeDigits
        rw [jlet_s]
        have n2 : NXT σ (sA (sA (sA σ 3 5 (nI (tb k f p))) 3 6 (nI (tb k f p))) 3 8 0) := n1.sA (by omega) (by omega)
        obtain ⟨σ', r1, r2, r3, r4, r5, r6⟩ := x_digits (b := tb k f p) hk hf (k - tb k f p) (tb k f p) FU (sA (sA (sA σ 3 5 (nI (tb k f p))) 3 6 (nI (tb k f p))) 3 8 0) (by omega) (by unfold FU; omega) (Nat.le_refl _) (hT.nx n2) (by rw [gA_sA_nj (by omega)]; exact b5) (by rw [gA_sA_nj (by omega)]; exact b6) (fun i h1 h2 => by omega) (fun _ => by rw [gA_sA_eq, Nat.sub_self]; rfl)
        rw [← e1] at r4 r5 r6
        rw [r1, jb_s]
        refine ⟨σ', rfl, n2.trans r2, r3, r4, by rw [r5, e2], fun q => ?_⟩
        have h2 : tt k f p = 2 := by
          rw [e2] at q ⊢
          by_cases z : te k f p - tb k f p ≤ 4
          · rw [if_pos z]
          · rw [if_neg z] at q; omega
        have h4 : te k f p - tb k f p ≤ 4 := by
          rw [e2] at h2
          by_cases z : te k f p - tb k f p ≤ 4
          · exact z
          · rw [if_neg z] at h2; cases h2
        rw [r6 h4]
        show _ = xC (if tt k f p = 2 then _ else _)
        rw [if_pos h2, xC_dg]
      | false =>
        rw [if_pos (show bI false = 0 from rfl), b6, nI_1, jlet_s]
        have e1 : te k f p = tb k f p + 1 := by
          unfold te
          rw [if_neg h1, if_neg (by rw [hl]; decide), if_neg (by rw [hd]; decide)]
        have e2 : tt k f p = if isSg (f (tb k f p)) then f (tb k f p) else 1 := by
          show (if k ≤ tb k f p then 0 else if isLt (f (tb k f p)) then _ else if isDg (f (tb k f p)) then _ else _) = _
          rw [if_neg h1, if_neg (by rw [hl]; decide), if_neg (by rw [hd]; decide)]
        rw [sA_sA]
        have n2 : NXT σ (sA (sA σ 3 5 (nI (tb k f p))) 3 6 (nI (tb k f p + 1))) := (NXT.rf.sA (by omega) (by omega)).sA (by omega) (by omega)
        have hT2 := hT.nx n2
        have c5 : gA (sA (sA σ 3 5 (nI (tb k f p))) 3 6 (nI (tb k f p + 1))) 3 5 = nI (tb k f p) := by rw [gA_sA_nj (by omega), gA_sA_eq]
        have c6 : gA (sA (sA σ 3 5 (nI (tb k f p))) 3 6 (nI (tb k f p + 1))) 3 6 = nI (tb k f p + 1) := gA_sA_eq
        rw [c5, jix_t (by omega) (by omega), nI_clamp (by omega), hT2.2 _ (by omega), sg_n _ hv, jlet_s]
        unfold f_X4_next_L170
        have n23 : ∀ v, v < 256 → isSg v = true → ¬ v = 2 ∧ ¬ v = 3 := by
          intro v _ h
          unfold isSg at h
          have := of_decide_eq_true h
          omega
        cases hs : isSg (f (tb k f p)) with
        | true =>
          rw [if_neg (show ¬ bI true = 0 by decide), jix_t (by omega) (by omega), jlet_s]
          rw [hs, if_pos rfl] at e2
          refine ⟨_, rfl, n2.sA (by omega) (by omega), ?_, ?_, ?_, fun q => ?_⟩
          · rw [gA_sA_nj (by omega)]; exact c5
          · rw [gA_sA_nj (by omega), e1]; exact c6
          · rw [gA_sA_eq, e2]
          · have := n23 _ hv hs
            rw [e2] at q
            omega
        | false =>
          rw [if_pos (show bI false = 0 from rfl), jlet_s]
          rw [hs, if_neg (by decide)] at e2
          refine ⟨_, rfl, n2.sA (by omega) (by omega), ?_, ?_, ?_, fun q => ?_⟩
          · rw [gA_sA_nj (by omega)]; exact c5
          · rw [gA_sA_nj (by omega), e1]; exact c6
          · rw [gA_sA_eq, e2]; rfl
          · rw [e2] at q; omega
