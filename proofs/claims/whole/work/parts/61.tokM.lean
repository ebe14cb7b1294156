/-! ===== the reference's tokens ===== -/
def NXM (σ σ' : ST) : Prop := (∀ k, k ≠ 0 → gA σ' k = gA σ k) ∧ (∀ k, gB σ' k = gB σ k) ∧ ∀ j, (j < 24 ∨ 28 ≤ j) → gA σ' 0 j = gA σ 0 j
theorem NXM.rf {σ : ST} : NXM σ σ := ⟨fun _ _ => rfl, fun _ => rfl, fun _ _ => rfl⟩
theorem NXM.trans {σ σ' σ'' : ST} (h : NXM σ σ') (h2 : NXM σ' σ'') : NXM σ σ'' := ⟨fun k q => (h2.1 k q).trans (h.1 k q), fun k => (h2.2.1 k).trans (h.2.1 k), fun j q => (h2.2.2 j q).trans (h.2.2 j q)⟩
theorem NXM.sA {σ σ' : ST} {j : Nat} {v : Int32} (h : NXM σ σ') (h1 : 24 ≤ j) (h4 : j < 28) : NXM σ (sA σ' 0 j v) := ⟨fun k q => by rw [gA_sA_ne q]; exact h.1 k q, fun k => h.2.1 k, fun i hi => by rw [gA_sA_nj (by omega)]; exact h.2.2 i hi⟩
def TQ (k : Nat) (f : Nat → Nat) (σ : ST) : Prop := gA σ 0 9 = nI k ∧ (∀ i, i < k → gA σ 8 i = nI (f i)) ∧ RW σ
theorem TQ.nm {k : Nat} {f : Nat → Nat} {σ σ' : ST} (h : TQ k f σ) (n : NXM σ σ') : TQ k f σ' := ⟨by rw [n.2.2 9 (by omega)]; exact h.1, fun i hi => by rw [n.1 8 (by omega)]; exact h.2.1 i hi, h.2.2.cg (n.1 18 (by omega))⟩
theorem lt_m : ∀ v, v < 256 → f_X10_in (nI v) 97 122 = bI (isLt v) := by decide +kernel
theorem dg_m : ∀ v, v < 256 → f_X10_in (nI v) 48 57 = bI (isDg v) := by decide +kernel
theorem m_skip {k : Nat} {f : Nat → Nat} (hk : k ≤ 160) (hf : ∀ i, i < k → f i < 256) {σ : ST} (hT : TQ k f σ) : ∀ n p fuel, p + n = k → n < fuel → f_X10_next_L0 fuel (sA σ 0 24 (nI p)) = f_X10_next_L52 (sA σ 0 24 (nI (Zrun isBl f n p))) := by
  intro n
  induction n with
  | zero =>
    intro p fuel hp hfu
    obtain ⟨fuel, rfl⟩ : ∃ k, fuel = k + 1 := ⟨fuel - 1, by omega⟩
    rw [ef_X10_next_L0, gA_sA_nj (show 9 ≠ 24 by omega), gA_sA_eq, hT.1, if_pos (nI_le (by omega) (by omega))]
    rfl
  | succ n ih =>
    intro p fuel hp hfu
    obtain ⟨fuel, rfl⟩ : ∃ k, fuel = k + 1 := ⟨fuel - 1, by omega⟩
    have hv := hf p (by omega)
    rw [ef_X10_next_L0, gA_sA_nj (show 9 ≠ 24 by omega), gA_sA_eq, hT.1, if_neg (nI_ge (by omega) (by omega)), jix_t (by omega) (by omega), nI_clamp (by omega), gA_sA_ne (show 8 ≠ 0 by omega), hT.2.1 p (by omega)]
    have go : f_X10_next_L39 (f_X10_next_L0 fuel) (sA σ 0 24 (nI p)) = f_X10_next_L52 (sA σ 0 24 (nI (Zrun isBl f n (p + 1)))) := by
      unfold f_X10_next_L39
      rw [gA_sA_eq, jlet_s, sA_sA, nI_1]
      exact ih (p + 1) fuel (by omega) (by omega)
    rcases bl_n _ hv with ⟨h1, h2 | ⟨h2, h3⟩⟩ | ⟨h1, h2, h3⟩
    · rw [if_pos h2, go]
      show _ = f_X10_next_L52 (sA σ 0 24 (nI (if isBl (f p) then _ else _)))
      rw [if_pos h1]
    · rw [if_neg h2, jix_t (by omega) (by omega), if_neg (fun q => q h3), go]
      show _ = f_X10_next_L52 (sA σ 0 24 (nI (if isBl (f p) then _ else _)))
      rw [if_pos h1]
    · rw [if_neg h2, jix_t (by omega) (by omega), if_pos h3]
      show _ = f_X10_next_L52 (sA σ 0 24 (nI (if isBl (f p) then _ else _)))
      rw [if_neg (by rw [h1]; decide)]
theorem m_word {k : Nat} {f : Nat → Nat} (hk : k ≤ 160) (hf : ∀ i, i < k → f i < 256) {σ : ST} (hT : TQ k f σ) : ∀ n p fuel, p + n = k → n < fuel → f_X10_next_L103 fuel (sA σ 0 24 (nI p)) = f_X10_next_L146 (sA σ 0 24 (nI (Zrun isLt f n p))) := by
  intro n
  induction n with
  | zero =>
    intro p fuel hp hfu
    obtain ⟨fuel, rfl⟩ : ∃ k, fuel = k + 1 := ⟨fuel - 1, by omega⟩
    rw [ef_X10_next_L103, gA_sA_nj (show 9 ≠ 24 by omega), gA_sA_eq, hT.1, if_pos (nI_le (by omega) (by omega))]
    rfl
  | succ n ih =>
    intro p fuel hp hfu
    obtain ⟨fuel, rfl⟩ : ∃ k, fuel = k + 1 := ⟨fuel - 1, by omega⟩
    have hv := hf p (by omega)
    rw [ef_X10_next_L103, gA_sA_nj (show 9 ≠ 24 by omega), gA_sA_eq, hT.1, if_neg (nI_ge (by omega) (by omega)), jix_t (by omega) (by omega), nI_clamp (by omega), gA_sA_ne (show 8 ≠ 0 by omega), hT.2.1 p (by omega), lt_m _ hv, jlet_s]
    unfold Zrun
    cases h : isLt (f p) with
    | false => rw [if_pos (show bI false = 0 from rfl), if_neg (by decide)]
    | true =>
      rw [if_neg (show ¬ bI true = 0 by decide), if_pos rfl, jlet_s, sA_sA, nI_1]
      exact ih (p + 1) fuel (by omega) (by omega)
theorem m_like0 {fuel : Nat} {k2 : Int32 → Int32 → Int32 → ST → Option Int32} {v1 v2 v3 v5 : Int32} {σ : ST} : f_X10_wordFrom_L26 k2 (fuel + 1) v1 v2 v3 0 v5 σ = f_X10_wordFrom_L88 k2 v1 v2 v3 0 σ := by
  rw [ef_X10_wordFrom_L26, if00]
  split <;> rfl
theorem m_like {k b e j : Nat} {f : Nat → Nat} (hk : k ≤ 160) {σ : ST} (hT : TQ k f σ) (he : e ≤ k) (hb : b ≤ e) (hj : j < 12) (k2 : Int32 → Int32 → Int32 → ST → Option Int32) : ∀ n i fuel, i + n = 8 → n < fuel → f_X10_wordFrom_L26 k2 fuel (nI b) (nI e) (nI j) 1 (nI i) σ = f_X10_wordFrom_L88 k2 (nI b) (nI e) (nI j) (bI (Zref f b e j n i)) σ := by
  intro n
  induction n with
  | zero =>
    intro i fuel hi hfu
    obtain ⟨fuel, rfl⟩ : ∃ k, fuel = k + 1 := ⟨fuel - 1, by omega⟩
    rw [ef_X10_wordFrom_L26, if_pos (show (8 : Int32) ≤ nI i from nI_le (a := 8) (by omega) (by omega))]
    rfl
  | succ n ih =>
    intro i fuel hi hfu
    obtain ⟨fuel, rfl⟩ : ∃ k, fuel = k + 1 := ⟨fuel - 1, by omega⟩
    rw [ef_X10_wordFrom_L26, if_neg (show ¬ (8 : Int32) ≤ nI i from nI_ge (b := 8) (by omega) (by decide)), if10, show (8 : Int32) * nI j = nI (8 * j) from pk_mul 8 j, nI_add, jix_t (by omega) (by omega), nI_add, nI_clamp (by omega), hT.2.2 (8 * j + i) (by omega)]
    have go : ∀ t1 : Int32, t1 = (if b + i < e then nI (f (b + i)) else 32) → f_X10_wordFrom_L72 k2 (f_X10_wordFrom_L26 k2 fuel) (nI b) (nI e) (nI j) (nI i) (li_2.getD (8 * j + i) 0) t1 σ = f_X10_wordFrom_L88 k2 (nI b) (nI e) (nI j) (bI (Zref f b e j (n + 1) i)) σ := by
      intro t1 ht
      unfold f_X10_wordFrom_L72 f_X10_wordFrom_L80
      rw [jlet_s, jlet_s, nI_1]
      show (if ¬ wc j i = t1 then _ else _) = _
      unfold Zref
      rw [ht]
      by_cases q : wc j i = (if b + i < e then nI (f (b + i)) else 32)
      · rw [if_neg (fun z => z q), if_pos q]
        exact ih (i + 1) fuel (by omega) (by omega)
      · rw [if_pos q, if_neg q]
        obtain ⟨fuel, rfl⟩ : ∃ k, fuel = k + 1 := ⟨fuel - 1, by omega⟩
        exact m_like0
    by_cases q : b + i < e
    · rw [if_neg (nI_ge q (by omega)), jix_t (by omega) (by omega), nI_clamp (by omega), hT.2.1 _ (by omega)]
      exact go _ (by rw [if_pos q])
    · rw [if_pos (nI_le (by omega) (by omega))]
      exact go _ (by rw [if_neg q])
theorem m_wf {k b e : Nat} {f : Nat → Nat} (hk : k ≤ 160) {σ : ST} (hT : TQ k f σ) (he : e ≤ k) (hb : b ≤ e) (hl : ∀ i, b ≤ i → i < e → f i < 256 ∧ isLt (f i) = true) : f_X10_wordFrom (nI b) (nI e) σ = some (nI (Zwd f b e)) := by
  have lp : ∀ n j fuel, j + n = 12 → n < fuel → f_X10_wordFrom_L2 fuel (nI b) (nI e) (nI j) σ = some (nI (Zfst (Zm f b e) n j)) := by
    intro n
    induction n with
    | zero =>
      intro j fuel hj hfu
      obtain ⟨fuel, rfl⟩ : ∃ k, fuel = k + 1 := ⟨fuel - 1, by omega⟩
      rw [ef_X10_wordFrom_L2, if_pos (show (12 : Int32) ≤ nI j from nI_le (a := 12) (by omega) (by omega))]
      have : j = 12 := by omega
      subst this
      rfl
    | succ n ih =>
      intro j fuel hj hfu
      obtain ⟨fuel, rfl⟩ : ∃ k, fuel = k + 1 := ⟨fuel - 1, by omega⟩
      rw [ef_X10_wordFrom_L2, if_neg (show ¬ (12 : Int32) ≤ nI j from nI_ge (b := 12) (by omega) (by decide)), pk_sub hb]
      have hm := Zref_m (k := j) (by omega) hb hl
      have fin : (f_X10_wordFrom_L88 (f_X10_wordFrom_L2 fuel) (nI b) (nI e) (nI j) (bI (Zm f b e j)) σ) = some (nI (Zfst (Zm f b e) (n + 1) j)) := by
        unfold f_X10_wordFrom_L88 Zfst
        cases Zm f b e j with
        | false =>
          rw [if_pos (show bI false = 0 from rfl), jlet_s, nI_1, if_neg (by decide)]
          exact ih (j + 1) fuel (by omega) (by omega)
        | true => rw [if_neg (show ¬ bI true = 0 by decide), if_pos rfl]
      unfold f_X10_wordFrom_L21
      by_cases q : e - b ≤ 8
      · rw [decide_eq_true q, Bool.true_and] at hm
        rw [if_neg (show ¬ (8 : Int32) < nI (e - b) from nI_nlt (a := 8) q (by omega))]
        rw [show f_X10_wordFrom_L26 (f_X10_wordFrom_L2 fuel) FU (nI b) (nI e) (nI j) 1 0 σ = _ from m_like hk hT he hb (by omega) (f_X10_wordFrom_L2 fuel) 8 0 FU (by omega) (by unfold FU; omega), hm]
        exact fin
      · rw [decide_eq_false q, Bool.false_and] at hm
        rw [if_pos (show (8 : Int32) < nI (e - b) from nI_lt (a := 8) (by omega) (by omega))]
        rw [← hm] at fin
        exact (m_like0 (fuel := 4095)).trans fin
  exact lp 12 0 FU (by omega) (by unfold FU; omega)
def mT (t : Nat) : Int32 := if t = 0 then 0 else if t = 1 then -1 else if t = 2 then 1 else if t = 3 then 2 else if t ≤ 6 then 3 else if t ≤ 9 then nI (t - 3) else nI t
def mV (k : Nat) (f : Nat → Nat) (p : Nat) : Int32 := if tt k f p = 2 then nI (cd k f p - 100000) else if tt k f p = 3 then nI (cd k f p) else nI (tt k f p - 4)
def TN (k : Nat) (f : Nat → Nat) (p : Nat) (σ : ST) : Prop := gA σ 0 24 = nI (te k f p) ∧ gA σ 0 25 = nI (tb k f p) ∧ gA σ 0 26 = mT (tt k f p) ∧ ((2 ≤ tt k f p ∧ tt k f p ≤ 6) → gA σ 0 27 = mV k f p)
theorem m_tail {k b e : Nat} {f : Nat → Nat} (hk : k ≤ 160) {σ : ST} (hT : TQ k f σ) (h5 : gA σ 0 25 = nI b) (h4 : gA σ 0 24 = nI e) (he : e ≤ k) (hb : b ≤ e) (hl : ∀ i, b ≤ i → i < e → f i < 256 ∧ isLt (f i) = true) : f_X10_next_L146 σ = some (sA (sA σ 0 26 (mT (wtok (Zwd f b e)))) 0 27 (nI (if Zwd f b e < 3 then Zwd f b e else Zwd f b e - 3))) := by
  have z1 := (Zwd_s f b e).1
  unfold f_X10_next_L146
  rw [h5, h4, m_wf hk hT he hb hl, jb_s]
  generalize Zwd f b e = w at z1 ⊢
  unfold f_X10_next_L195 f_X10_next_L211
  simp only [jlet_s]
  rcases (show w = 0 ∨ w = 1 ∨ w = 2 ∨ w = 3 ∨ w = 4 ∨ w = 5 ∨ w = 6 ∨ w = 7 ∨ w = 8 ∨ w = 9 ∨ w = 10 ∨ w = 11 ∨ w = 12 by omega) with rfl | rfl | rfl | rfl | rfl | rfl | rfl | rfl | rfl | rfl | rfl | rfl | rfl
  all_goals rfl
theorem m_digits {k b : Nat} {f : Nat → Nat} (hk : k ≤ 160) (hf : ∀ i, i < k → f i < 256) : ∀ n p fuel σ, p + n = k → n < fuel → b ≤ p → TQ k f σ → gA σ 0 25 = nI b → gA σ 0 24 = nI p → (∀ i, b ≤ i → i < p → isDg (f i) = true) → (p - b ≤ 4 → gA σ 0 27 = nI (Znum f b (p - b))) → ∃ σ', f_X10_next_L230 fuel (nI (p - b)) σ = some σ' ∧ NXM σ σ' ∧ gA σ' 0 25 = nI b ∧ gA σ' 0 24 = nI (Zrun isDg f n p) ∧ gA σ' 0 26 = (if Zrun isDg f n p - b ≤ 4 then 1 else -1) ∧ (Zrun isDg f n p - b ≤ 4 → gA σ' 0 27 = nI (Znum f b (Zrun isDg f n p - b))) := by
  have fin : ∀ p σ, b ≤ p → p ≤ 160 → gA σ 0 25 = nI b → gA σ 0 24 = nI p → (p - b ≤ 4 → gA σ 0 27 = nI (Znum f b (p - b))) → ∃ σ', f_X10_next_L309 (nI (p - b)) σ = some σ' ∧ NXM σ σ' ∧ gA σ' 0 25 = nI b ∧ gA σ' 0 24 = nI p ∧ gA σ' 0 26 = (if p - b ≤ 4 then 1 else -1) ∧ (p - b ≤ 4 → gA σ' 0 27 = nI (Znum f b (p - b))) := by
    intro p σ hb hp h5 h6 h8
    unfold f_X10_next_L309 f_X10_next_L320
    by_cases q : p - b ≤ 4
    · rw [if_pos (show nI (p - b) ≤ 4 from nI_le (b := 4) q (by decide)), if_pos q, jlet_s]
      exact ⟨_, rfl, NXM.rf.sA (by omega) (by omega), by rw [gA_sA_nj (by omega)]; exact h5, by rw [gA_sA_nj (by omega)]; exact h6, gA_sA_eq, fun z => by rw [gA_sA_nj (by omega)]; exact h8 z⟩
    · rw [if_neg (show ¬ nI (p - b) ≤ 4 from nI_ge (a := 4) (by omega) (by omega)), if_neg q, jlet_s]
      exact ⟨_, rfl, NXM.rf.sA (by omega) (by omega), by rw [gA_sA_nj (by omega)]; exact h5, by rw [gA_sA_nj (by omega)]; exact h6, gA_sA_eq, fun z => absurd z q⟩
  intro n
  induction n with
  | zero =>
    intro p fuel σ hp hfu hbp hT h5 h6 hd h8
    obtain ⟨fuel, rfl⟩ : ∃ k, fuel = k + 1 := ⟨fuel - 1, by omega⟩
    rw [ef_X10_next_L230, hT.1, h6, if_pos (nI_le (by omega) (by omega))]
    exact fin p σ hbp (by omega) h5 h6 h8
  | succ n ih =>
    intro p fuel σ hp hfu hbp hT h5 h6 hd h8
    obtain ⟨fuel, rfl⟩ : ∃ k, fuel = k + 1 := ⟨fuel - 1, by omega⟩
    have hv := hf p (by omega)
    rw [ef_X10_next_L230, hT.1, h6, if_neg (nI_ge (by omega) (by omega)), jix_t (by omega) (by omega), nI_clamp (by omega), hT.2.1 p (by omega), dg_m _ hv, jlet_s]
    unfold Zrun
    cases h : isDg (f p) with
    | false =>
      rw [if_pos (show bI false = 0 from rfl), if_neg (by decide)]
      exact fin p σ hbp (by omega) h5 h6 h8
    | true =>
      rw [if_neg (show ¬ bI true = 0 by decide), if_pos rfl]
      have hd2 : ∀ i, b ≤ i → i < p + 1 → isDg (f i) = true := fun i h1 h2 => by
        by_cases e : i = p
        · rw [e]; exact h
        · exact hd i h1 (by omega)
      have h48 : 48 ≤ f p := by unfold isDg at h; exact (of_decide_eq_true h).1
      have e24 : ∀ v : Int32, gA (sA σ 0 27 v) 0 24 + 1 = nI (p + 1) := fun v => by rw [gA_sA_nj (by omega), h6, nI_1]
      have ep : nI (p - b) + 1 = nI (p + 1 - b) := by rw [nI_1]; congr 1; omega
      by_cases q : p - b < 4
      · rw [if_neg (show ¬ (4 : Int32) ≤ nI (p - b) from nI_ge (b := 4) q (by decide)), jix_t (by omega) (by omega)]
        unfold f_X10_next_L290
        have hval : (10 : Int32) * gA σ 0 27 + nI (f p) - 48 = nI (Znum f b (p + 1 - b)) := by
          rw [h8 (by omega), show (10 : Int32) = nI 10 from rfl, pk_mul, nI_add, show (48 : Int32) = nI 48 from rfl, pk_sub (by omega), show p + 1 - b = (p - b) + 1 by omega]
          show _ = nI (Znum f b (p - b) * 10 + (f (b + (p - b)) - 48))
          rw [show b + (p - b) = p by omega]
          congr 1; omega
        rw [hval, jlet_s, jlet_s, jlet_s, e24, ep]
        have hn : NXM σ (sA (sA σ 0 27 (nI (Znum f b (p + 1 - b)))) 0 24 (nI (p + 1))) := (NXM.rf.sA (by omega) (by omega)).sA (by omega) (by omega)
        obtain ⟨σ', r1, r2, r3, r4, r5, r6⟩ := ih (p + 1) fuel _ (by omega) (by omega) (by omega) (hT.nm hn) (by rw [gA_sA_nj (by omega), gA_sA_nj (by omega)]; exact h5) gA_sA_eq hd2 (fun _ => by rw [gA_sA_nj (by omega), gA_sA_eq])
        exact ⟨σ', r1, hn.trans r2, r3, r4, r5, r6⟩
      · rw [if_pos (show (4 : Int32) ≤ nI (p - b) from nI_le (a := 4) (by omega) (by omega))]
        unfold f_X10_next_L290
        rw [jlet_s, jlet_s, jlet_s, e24, ep]
        have hn : NXM σ (sA (sA σ 0 27 0) 0 24 (nI (p + 1))) := (NXM.rf.sA (by omega) (by omega)).sA (by omega) (by omega)
        obtain ⟨σ', r1, r2, r3, r4, r5, r6⟩ := ih (p + 1) fuel _ (by omega) (by omega) (by omega) (hT.nm hn) (by rw [gA_sA_nj (by omega), gA_sA_nj (by omega)]; exact h5) gA_sA_eq hd2 (fun z => by omega)
        exact ⟨σ', r1, hn.trans r2, r3, r4, r5, r6⟩
theorem sg_m : ∀ v, v < 256 → (isSg v = true ↔ (nI v = 40 ∨ nI v = 41 ∨ nI v = 59 ∨ nI v = 43 ∨ nI v = 45 ∨ nI v = 42 ∨ nI v = 60 ∨ nI v = 61)) := by decide +kernel
theorem sg_if {α : Type} {v : Nat} (hv : v < 256) (A B : α) : (if nI v = 40 then A else if nI v = 41 then A else if nI v = 59 then A else if nI v = 43 then A else if nI v = 45 then A else if nI v = 42 then A else if nI v = 60 then A else if ¬ nI v = 61 then B else A) = if isSg v then A else B := by
  have h := sg_m v hv
  by_cases h1 : nI v = 40
  · rw [if_pos h1, if_pos (h.mpr (by simp [h1]))]
  rw [if_neg h1]
  by_cases h2 : nI v = 41
  · rw [if_pos h2, if_pos (h.mpr (by simp [h2]))]
  rw [if_neg h2]
  by_cases h3 : nI v = 59
  · rw [if_pos h3, if_pos (h.mpr (by simp [h3]))]
  rw [if_neg h3]
  by_cases h4 : nI v = 43
  · rw [if_pos h4, if_pos (h.mpr (by simp [h4]))]
  rw [if_neg h4]
  by_cases h5 : nI v = 45
  · rw [if_pos h5, if_pos (h.mpr (by simp [h5]))]
  rw [if_neg h5]
  by_cases h6 : nI v = 42
  · rw [if_pos h6, if_pos (h.mpr (by simp [h6]))]
  rw [if_neg h6]
  by_cases h7 : nI v = 60
  · rw [if_pos h7, if_pos (h.mpr (by simp [h7]))]
  rw [if_neg h7]
  by_cases h8 : nI v = 61
  · rw [if_neg (fun z => z h8), if_pos (h.mpr (by simp [h8]))]
  · rw [if_pos h8, if_neg (fun z => by
      have := h.mp z
      simp [h1, h2, h3, h4, h5, h6, h7, h8] at this)]
theorem mT_sg : ∀ v, v < 256 → isSg v = true → mT v = nI v ∧ 10 ≤ v := by decide +kernel
theorem mnext {k p : Nat} {f : Nat → Nat} (hk : k ≤ 160) (hf : ∀ i, i < k → f i < 256) {σ : ST} (hT : TQ k f σ) (hp : p ≤ k) (h24 : gA σ 0 24 = nI p) : ∃ σ', f_X10_next σ = some σ' ∧ NXM σ σ' ∧ TN k f p σ' := by
  have hb := tb_b (f := f) hp
  have he := te_le (f := f) hp
  unfold f_X10_next
  rw [← sA_id h24, m_skip hk hf hT (k - p) p FU (by omega) (by unfold FU; omega), sA_id h24, show Zrun isBl f (k - p) p = tb k f p from rfl]
  unfold f_X10_next_L52
  rw [gA_sA_eq]
  simp only [jlet_s]
  have n1 : NXM σ (sA (sA (sA (sA σ 0 24 (nI (tb k f p))) 0 25 (nI (tb k f p))) 0 26 0) 0 27 0) := (((NXM.rf.sA (by omega) (by omega)).sA (by omega) (by omega)).sA (by omega) (by omega)).sA (by omega) (by omega)
  have b24 : gA (sA (sA (sA (sA σ 0 24 (nI (tb k f p))) 0 25 (nI (tb k f p))) 0 26 0) 0 27 0) 0 24 = nI (tb k f p) := by
    simp (disch := omega) only [gA_sA_ne, gA_sA_nj, gB_sA, gA_sB, gB_sB_ne, gA_rA_ne, gB_rA, gA_rB, gB_rB_ne, gA_sA_eq]
  have b25 : gA (sA (sA (sA (sA σ 0 24 (nI (tb k f p))) 0 25 (nI (tb k f p))) 0 26 0) 0 27 0) 0 25 = nI (tb k f p) := by
    simp (disch := omega) only [gA_sA_ne, gA_sA_nj, gB_sA, gA_sB, gB_sB_ne, gA_rA_ne, gB_rA, gA_rB, gB_rB_ne, gA_sA_eq]
  have b26 : gA (sA (sA (sA (sA σ 0 24 (nI (tb k f p))) 0 25 (nI (tb k f p))) 0 26 0) 0 27 0) 0 26 = 0 := by
    simp (disch := omega) only [gA_sA_ne, gA_sA_nj, gB_sA, gA_sB, gB_sB_ne, gA_rA_ne, gB_rA, gA_rB, gB_rB_ne, gA_sA_eq]
  have b27 : gA (sA (sA (sA (sA σ 0 24 (nI (tb k f p))) 0 25 (nI (tb k f p))) 0 26 0) 0 27 0) 0 27 = 0 := gA_sA_eq
  generalize sA (sA (sA (sA σ 0 24 (nI (tb k f p))) 0 25 (nI (tb k f p))) 0 26 0) 0 27 0 = s at n1 b24 b25 b26 b27 ⊢
  have hT1 := hT.nm n1
  rw [b24, hT1.1]
  by_cases h1 : k ≤ tb k f p
  · have e1 : te k f p = tb k f p := by unfold te; rw [if_pos h1]
    have e2 : tt k f p = 0 := by unfold tt; rw [if_pos h1]
    rw [if_neg (show ¬ ¬ nI (tb k f p) = nI k by rw [show tb k f p = k by omega]; exact fun z => z rfl)]
    exact ⟨s, rfl, n1, by rw [e1]; exact b24, b25, by rw [e2]; exact b26, fun q => by omega⟩
  · have hv := hf (tb k f p) (by omega)
    rw [if_pos (fun z => by have := (nI_eq (by omega) (by omega)).mp z; omega), jix_t (by omega) (by omega), nI_clamp (by omega), hT1.2.1 _ (by omega), lt_m _ hv, dg_m _ hv, sg_if hv (f_X10_next_L374 (nI (f (tb k f p))) s) (f_X10_next_L379 (nI (f (tb k f p))) 0 s)]
    cases hl : isLt (f (tb k f p)) with
    | true =>
      rw [if_neg (show ¬ bI true = 0 by decide)]
      have e1 : te k f p = Zrun isLt f (k - tb k f p) (tb k f p) := by unfold te; rw [if_neg h1, if_pos hl]
      have e2 : tt k f p = wtok (Zwd f (tb k f p) (te k f p)) := by
        show (if k ≤ tb k f p then 0 else if isLt (f (tb k f p)) then _ else _) = _
        rw [if_neg h1, if_pos hl]
      have hlt : ∀ i, tb k f p ≤ i → i < te k f p → f i < 256 ∧ isLt (f i) = true := fun i q1 q2 => ⟨hf i (by omega), by
        rw [e1] at q2
        exact Zrun_in isLt f _ _ i q1 q2⟩
      rw [← sA_id b24, m_word hk hf hT1 (k - tb k f p) (tb k f p) FU (by omega) (by unfold FU; omega), ← e1]
      have n2 : NXM σ (sA s 0 24 (nI (te k f p))) := n1.sA (by omega) (by omega)
      rw [m_tail hk (hT.nm n2) (show gA (sA s 0 24 (nI (te k f p))) 0 25 = nI (tb k f p) by rw [gA_sA_nj (by omega)]; exact b25) gA_sA_eq he.2 he.1 hlt]
      have z1 := (Zwd_s f (tb k f p) (te k f p)).1
      refine ⟨_, rfl, (n2.sA (by omega) (by omega)).sA (by omega) (by omega), ?_, ?_, ?_, fun q => ?_⟩
      · rw [gA_sA_nj (by omega), gA_sA_nj (by omega), gA_sA_eq]
      · rw [gA_sA_nj (by omega), gA_sA_nj (by omega), gA_sA_nj (by omega)]; exact b25
      · rw [gA_sA_nj (by omega), gA_sA_eq, e2]
      · rw [gA_sA_eq]
        unfold mV cd
        rw [e2]
        rw [e2] at q
        generalize Zwd f (tb k f p) (te k f p) = w at z1 q ⊢
        have key : ∀ w, w ≤ 12 → (2 ≤ wtok w ∧ wtok w ≤ 6) → wtok w ≠ 2 ∧ nI (if w < 3 then w else w - 3) = (if wtok w = 3 then nI (w - 3) else nI (wtok w - 4)) := by decide +kernel
        obtain ⟨y1, y2⟩ := key w z1 q
        rw [if_neg y1, if_neg y1]
        exact y2
    | false =>
      rw [if_pos (show bI false = 0 from rfl)]
      cases hd : isDg (f (tb k f p)) with
      | true =>
        rw [if_neg (show ¬ bI true = 0 by decide)]
        have e1 : te k f p = Zrun isDg f (k - tb k f p) (tb k f p) := by
          unfold te
          rw [if_neg h1, if_neg (by rw [hl]; decide), if_pos hd]
        have e2 : tt k f p = if te k f p - tb k f p ≤ 4 then 2 else 1 := by
          show (if k ≤ tb k f p then 0 else if isLt (f (tb k f p)) then _ else if isDg (f (tb k f p)) then _ else _) = _
          rw [if_neg h1, if_neg (by rw [hl]; decide), if_pos hd]
        obtain ⟨σ', r1, r2, r3, r4, r5, r6⟩ := m_digits (b := tb k f p) hk hf (k - tb k f p) (tb k f p) FU s (by omega) (by unfold FU; omega) (Nat.le_refl _) hT1 b25 b24 (fun i h1 h2 => by omega) (fun _ => by rw [b27, Nat.sub_self]; rfl)
        rw [← e1] at r4 r5 r6
        rw [Nat.sub_self] at r1
        refine ⟨σ', r1, n1.trans r2, r4, r3, ?_, fun q => ?_⟩
        · rw [r5, e2]
          by_cases z : te k f p - tb k f p ≤ 4
          · rw [if_pos z, if_pos z]; rfl
          · rw [if_neg z, if_neg z]; rfl
        · have h4 : te k f p - tb k f p ≤ 4 := by
            rw [e2] at q
            by_cases z : te k f p - tb k f p ≤ 4
            · exact z
            · rw [if_neg z] at q; omega
          have h2 : tt k f p = 2 := by rw [e2, if_pos h4]
          rw [r6 h4]
          unfold mV
          rw [if_pos h2]
          have : cd k f p = 100000 + Znum f (tb k f p) (te k f p - tb k f p) := if_pos h2
          rw [this, show ∀ z, 100000 + z - 100000 = z from fun z => by omega]
      | false =>
        rw [if_pos (show bI false = 0 from rfl)]
        have e1 : te k f p = tb k f p + 1 := by
          unfold te
          rw [if_neg h1, if_neg (by rw [hl]; decide), if_neg (by rw [hd]; decide)]
        have e2 : tt k f p = if isSg (f (tb k f p)) then f (tb k f p) else 1 := by
          show (if k ≤ tb k f p then 0 else if isLt (f (tb k f p)) then _ else if isDg (f (tb k f p)) then _ else _) = _
          rw [if_neg h1, if_neg (by rw [hl]; decide), if_neg (by rw [hd]; decide)]
        unfold f_X10_next_L374 f_X10_next_L379 f_X10_next_L390
        rw [if00, if10]
        simp only [jlet_s]
        have n2 : ∀ v w : Int32, NXM σ (sA (sA s 0 26 v) 0 24 w) := fun v w => (n1.sA (by omega) (by omega)).sA (by omega) (by omega)
        cases hs : isSg (f (tb k f p)) with
        | true =>
          rw [if_pos rfl]
          rw [hs, if_pos rfl] at e2
          obtain ⟨y1, y2⟩ := mT_sg _ hv hs
          refine ⟨_, rfl, n2 _ _, ?_, ?_, ?_, fun q => ?_⟩
          · rw [gA_sA_eq, gA_sA_nj (by omega), b24, nI_1, e1]
          · rw [gA_sA_nj (by omega), gA_sA_nj (by omega)]; exact b25
          · rw [gA_sA_nj (by omega), gA_sA_eq, e2, y1]
          · rw [e2] at q; omega
        | false =>
          rw [if_neg (by decide)]
          rw [hs, if_neg (by decide)] at e2
          refine ⟨_, rfl, n2 _ _, ?_, ?_, ?_, fun q => ?_⟩
          · rw [gA_sA_eq, gA_sA_nj (by omega), b24, nI_1, e1]
          · rw [gA_sA_nj (by omega), gA_sA_nj (by omega)]; exact b25
          · rw [gA_sA_nj (by omega), gA_sA_eq, e2]; rfl
          · rw [e2] at q; omega
