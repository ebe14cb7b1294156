/-! ===== the reference's reader ===== -/
def z1 (x : Nat) : Nat := if x = 0 ∨ x = 13 ∨ x = 19 then 1 else 0
def nz : List Nat → Nat
  | [] => 0
  | x :: r => z1 x + nz r
def INV (hs : List Nat) (o : Nat) : Prop := nz hs = o ∧ ∀ x, x ∈ hs → x < 20
theorem z1_op : ∀ x, x < 20 → 1 ≤ rk x → z1 x = op1 x := by decide +kernel
theorem rk_0 : ∀ x, x < 20 → rk x < 1 → z1 x = 1 := by decide +kernel
theorem unw_ok {l : Nat} (hl : 1 ≤ l) : ∀ (hs : List Nat) (o : Nat) (out : List Nat), INV hs o → INV (unw l hs o out).1 (unw l hs o out).2.1 ∧ (unw l hs o out).2.1 ≤ o ∧ (unw l hs o out).1.length + (unw l hs o out).2.2.length = hs.length + out.length ∧ ((unw l hs o out).1 = [] ∨ tr (unw l hs o out).1 < l)
  | [], o, out, h => ⟨h, Nat.le_refl _, rfl, Or.inl rfl⟩
  | x :: r, o, out, h => by
    unfold unw
    by_cases q : rk x < l
    · rw [if_pos q]
      exact ⟨h, Nat.le_refl _, rfl, Or.inr q⟩
    · rw [if_neg q]
      have hx : x < 20 := h.2 x (by simp)
      have e := z1_op x hx (by omega)
      have hn : z1 x + nz r = o := h.1
      obtain ⟨w1, w2, w3, w4⟩ := unw_ok hl r (o - op1 x) (out ++ [x]) ⟨by omega, fun y hy => h.2 y (by simp [hy])⟩
      refine ⟨w1, by omega, ?_, w4⟩
      rw [w3, List.length_append]
      show r.length + (out.length + 1) = r.length + 1 + out.length
      omega
def MT (k : Nat) (f : Nat → Nat) (nT : Nat) (hs : List Nat) (o : Nat) (out : List Nat) (p : Nat) (σ : ST) : Prop := TQ k f σ ∧ gA σ 0 12 = nI nT ∧ gA σ 0 24 = nI p ∧ gA σ 0 30 = nI hs.length ∧ stk (gA σ 19) (hs.map nI) ∧ gA σ 0 31 = nI o ∧ gA σ 0 32 = nI out.length ∧ ∀ i, i < out.length → gA σ 9 (200 * nT + i) = nI (out.getD i 0)
def EU (nT : Nat) (σ σ' : ST) : Prop := (∀ j, j ≠ 30 → j ≠ 31 → j ≠ 32 → gA σ' 0 j = gA σ 0 j) ∧ (∀ k, k ≠ 0 → k ≠ 9 → k ≠ 19 → gA σ' k = gA σ k) ∧ (∀ k, gB σ' k = gB σ k) ∧ ∀ i, i < 200 * nT → gA σ' 9 i = gA σ 9 i
theorem EU.rf {nT : Nat} {σ : ST} : EU nT σ σ := ⟨fun _ _ _ _ => rfl, fun _ _ _ _ => rfl, fun _ => rfl, fun _ _ => rfl⟩
theorem EU.trans {nT : Nat} {σ σ' σ'' : ST} (h : EU nT σ σ') (h2 : EU nT σ' σ'') : EU nT σ σ'' := ⟨fun j a b c => (h2.1 j a b c).trans (h.1 j a b c), fun k a b c => (h2.2.1 k a b c).trans (h.2.1 k a b c), fun k => (h2.2.2.1 k).trans (h.2.2.1 k), fun i hi => (h2.2.2.2 i hi).trans (h.2.2.2 i hi)⟩
def EM (nT : Nat) (σ σ' : ST) : Prop := (∀ j, j < 24 → gA σ' 0 j = gA σ 0 j) ∧ (∀ k, k ≠ 0 → k ≠ 9 → k ≠ 19 → gA σ' k = gA σ k) ∧ (∀ k, gB σ' k = gB σ k) ∧ ∀ i, i < 200 * nT → gA σ' 9 i = gA σ 9 i
theorem EM.rf {nT : Nat} {σ : ST} : EM nT σ σ := ⟨fun _ _ => rfl, fun _ _ _ _ => rfl, fun _ => rfl, fun _ _ => rfl⟩
theorem EM.trans {nT : Nat} {σ σ' σ'' : ST} (h : EM nT σ σ') (h2 : EM nT σ' σ'') : EM nT σ σ'' := ⟨fun j a => (h2.1 j a).trans (h.1 j a), fun k a b c => (h2.2.1 k a b c).trans (h.2.1 k a b c), fun k => (h2.2.2.1 k).trans (h.2.2.1 k), fun i hi => (h2.2.2.2 i hi).trans (h.2.2.2 i hi)⟩
theorem EU.em {nT : Nat} {σ σ' : ST} (h : EU nT σ σ') : EM nT σ σ' := ⟨fun j hj => h.1 j (by omega) (by omega) (by omega), h.2.1, h.2.2.1, h.2.2.2⟩
theorem NXM.em {nT : Nat} {σ σ' : ST} (h : NXM σ σ') : EM nT σ σ' := ⟨fun j hj => h.2.2 j (by omega), fun k a _ _ => h.1 k a, h.2.1, fun i _ => by rw [h.1 9 (by omega)]⟩
theorem TQ.eu {k nT : Nat} {f : Nat → Nat} {σ σ' : ST} (h : TQ k f σ) (n : EU nT σ σ') : TQ k f σ' := ⟨by rw [n.1 9 (by omega) (by omega) (by omega)]; exact h.1, fun i hi => by rw [n.2.1 8 (by omega) (by omega) (by omega)]; exact h.2.1 i hi, h.2.2.cg (n.2.1 18 (by omega) (by omega) (by omega))⟩
theorem m_puts {k nT o p q : Nat} {f : Nat → Nat} {hs out : List Nat} {σ : ST} (h : MT k f nT hs o out p σ) (hn : nT < 6) (hl : out.length < 200) : ∃ σ', f_X10_puts (nI q) σ = some σ' ∧ EU nT σ σ' ∧ MT k f nT hs o (out ++ [q]) p σ' := by
  obtain ⟨t, h12, h24, h30, h19, h31, h32, h9⟩ := h
  unfold f_X10_puts
  rw [h12, h32, show (200 : Int32) * nI nT + nI out.length = nI (200 * nT + out.length) by rw [show (200 : Int32) = nI 200 from rfl, pk_mul, nI_add], jix_t (by omega) (by omega), jlet_s, nI_clamp (by omega), gA_sA_ne (by omega), h32, jlet_s, nI_1]
  have e : EU nT σ (sA (sA σ 9 (200 * nT + out.length) (nI q)) 0 32 (nI (out.length + 1))) := ⟨fun j a b c => by rw [gA_sA_nj c, gA_sA_ne (by omega)], fun k a b c => by rw [gA_sA_ne a, gA_sA_ne b], fun k => rfl, fun i hi => by rw [gA_sA_ne (by omega), gA_sA_nj (by omega)]⟩
  refine ⟨_, rfl, e, t.eu e, ?_, ?_, ?_, ?_, ?_, ?_, fun i hi => ?_⟩
  · rw [gA_sA_nj (by omega), gA_sA_ne (by omega)]; exact h12
  · rw [gA_sA_nj (by omega), gA_sA_ne (by omega)]; exact h24
  · rw [gA_sA_nj (by omega), gA_sA_ne (by omega)]; exact h30
  · rw [gA_sA_ne (by omega), gA_sA_ne (by omega)]; exact h19
  · rw [gA_sA_nj (by omega), gA_sA_ne (by omega)]; exact h31
  · rw [gA_sA_eq, List.length_append]; rfl
  · rw [List.length_append] at hi
    rw [gA_sA_ne (by omega)]
    by_cases z : i = out.length
    · subst z
      rw [gA_sA_eq, gD_at]
    · have hi2 : i < out.length := by
        have : [q].length = 1 := rfl
        omega
      rw [gA_sA_nj (by omega), gD_app hi2]
      exact h9 i hi2
theorem rank_n : ∀ x, x < 20 → f_X10_rank (nI x) = nI (rk x) := by decide +kernel
theorem rk_7 : ∀ x, rk x ≤ 7 := by
  intro x
  unfold rk
  repeat' split
  all_goals omega
theorem m_unw {k nT p l : Nat} {f : Nat → Nat} (hn : nT < 6) (hl : 1 ≤ l) (hl7 : l ≤ 7) : ∀ (hs : List Nat) (o : Nat) (out : List Nat) (fuel : Nat) (σ : ST), MT k f nT hs o out p σ → INV hs o → o ≤ 5 → hs.length < fuel → hs.length + out.length ≤ 160 → ∃ σ', f_X10_unwinds_L0 fuel (nI l) σ = some σ' ∧ EU nT σ σ' ∧ MT k f nT (unw l hs o out).1 (unw l hs o out).2.1 (unw l hs o out).2.2 p σ' := by
  intro hs
  induction hs with
  | nil =>
    intro o out fuel σ h hi ho hf hb
    obtain ⟨fuel, rfl⟩ : ∃ k, fuel = k + 1 := ⟨fuel - 1, by omega⟩
    refine ⟨σ, ?_, EU.rf, h⟩
    rw [ef_X10_unwinds_L0, h.2.2.2.1, if_pos (by decide)]
  | cons x r ih =>
    intro o out fuel σ h hi ho hf hb
    obtain ⟨fuel, rfl⟩ : ∃ k, fuel = k + 1 := ⟨fuel - 1, by omega⟩
    have hlen : (x :: r).length = r.length + 1 := rfl
    rw [hlen] at hf hb
    obtain ⟨t, h12, h24, h30, h19, h31, h32, h9⟩ := id h
    have hx : x < 20 := hi.2 x (by simp)
    have htop : gA σ 19 r.length = nI x := by
      have := h19.1
      rw [List.length_map] at this
      exact this
    rw [ef_X10_unwinds_L0, h30, hlen, if_neg (nI_nle (by omega) (by omega)), nI_pred, jix_t (by omega) (by omega), nI_clamp (by omega), htop, rank_n x hx, jlet_s]
    unfold unw
    by_cases q : rk x < l
    · rw [if_pos q, if_pos (nI_lt q (by omega))]
      exact ⟨σ, rfl, EU.rf, h⟩
    · have hr7 := rk_7 x
      rw [if_neg q, if_neg (nI_nlt (by omega) (by omega)), jlet_s, gA_sA_eq, jix_t (by omega) (by omega), nI_clamp (by omega), gA_sA_ne (by omega), htop, jlet_s, gA_sA_nj (by omega), h31]
      have ez := z1_op x hx (by omega)
      have hnz : z1 x + nz r = o := hi.1
      -- opens, and the sign that comes
      have go : ∀ c : Int32, nI o - c = nI (o - op1 x) → ∃ σ', f_X10_unwinds_L67 (f_X10_unwinds_L0 fuel) (nI l) (nI x) (nI o) c (sA σ 0 30 (nI r.length)) = some σ' ∧ EU nT σ σ' ∧ MT k f nT (unw l r (o - op1 x) (out ++ [x])).1 (unw l r (o - op1 x) (out ++ [x])).2.1 (unw l r (o - op1 x) (out ++ [x])).2.2 p σ' := by
        intro c hc
        unfold f_X10_unwinds_L67
        rw [hc, jlet_s]
        have e1 : EU nT σ (sA (sA σ 0 30 (nI r.length)) 0 31 (nI (o - op1 x))) := ⟨fun j a b c => by rw [gA_sA_nj b, gA_sA_nj a], fun k a b c => by rw [gA_sA_ne a, gA_sA_ne a], fun k => rfl, fun i hi => by rw [gA_sA_ne (by omega), gA_sA_ne (by omega)]⟩
        have m1 : MT k f nT r (o - op1 x) out p (sA (sA σ 0 30 (nI r.length)) 0 31 (nI (o - op1 x))) := by
          refine ⟨t.eu e1, ?_, ?_, ?_, ?_, gA_sA_eq, ?_, fun i hi => ?_⟩
          · rw [gA_sA_nj (by omega), gA_sA_nj (by omega)]; exact h12
          · rw [gA_sA_nj (by omega), gA_sA_nj (by omega)]; exact h24
          · rw [gA_sA_nj (by omega), gA_sA_eq]
          · rw [gA_sA_ne (by omega), gA_sA_ne (by omega)]; exact h19.2
          · rw [gA_sA_nj (by omega), gA_sA_nj (by omega)]; exact h32
          · rw [gA_sA_ne (by omega), gA_sA_ne (by omega)]; exact h9 i hi
        obtain ⟨σ2, p1, p2, p3⟩ := m_puts (q := x) m1 hn (by omega)
        rw [p1, jb_s]
        obtain ⟨σ3, r1, r2, r3⟩ := ih (o - op1 x) (out ++ [x]) fuel σ2 p3 ⟨by omega, fun y hy => hi.2 y (by simp [hy])⟩ (by omega) (by omega) (by rw [List.length_append]; show _ + (_ + 1) ≤ _; omega)
        exact ⟨σ3, r1, (e1.trans p2).trans r2, r3⟩
      by_cases q13 : x = 13
      · subst q13
        rw [if_pos (show nI 13 = 13 by decide)]
        unfold f_X10_unwinds_L62
        exact go 1 (pk_sub (b := 1) (by have : z1 13 = 1 := rfl; omega))
      · by_cases q19 : x = 19
        · subst q19
          rw [if_neg (show ¬ nI 19 = 13 by decide), if_neg (show ¬ ¬ nI 19 = 19 by decide)]
          unfold f_X10_unwinds_L62
          exact go 1 (pk_sub (b := 1) (by have : z1 19 = 1 := rfl; omega))
        · have e0 : op1 x = 0 := by unfold op1; rw [if_neg (by omega)]
          rw [if_neg (show ¬ nI x = 13 from fun z => q13 ((nI_eq (b := 13) (by omega) (by omega)).mp z)), if_pos (show ¬ nI x = 19 from fun z => q19 ((nI_eq (b := 19) (by omega) (by omega)).mp z))]
          exact go 0 (by rw [e0, Nat.sub_zero, Int32.sub_zero])
theorem m_holds {k nT o p x : Nat} {f : Nat → Nat} {hs out : List Nat} {σ : ST} (h : MT k f nT hs o out p σ) (hl : hs.length < 200) : ∃ σ', f_X10_holds (nI x) σ = some σ' ∧ EU nT σ σ' ∧ MT k f nT (x :: hs) o out p σ' := by
  obtain ⟨t, h12, h24, h30, h19, h31, h32, h9⟩ := h
  unfold f_X10_holds
  rw [h30, jix_t hl (by omega), jlet_s, nI_clamp (by omega), gA_sA_ne (by omega), h30, jlet_s, nI_1]
  have e : EU nT σ (sA (sA σ 19 hs.length (nI x)) 0 30 (nI (hs.length + 1))) := ⟨fun j a b c => by rw [gA_sA_nj a, gA_sA_ne (by omega)], fun k a b c => by rw [gA_sA_ne a, gA_sA_ne c], fun k => rfl, fun i hi => by rw [gA_sA_ne (by omega), gA_sA_ne (by omega)]⟩
  refine ⟨_, rfl, e, t.eu e, ?_, ?_, ?_, ⟨?_, ?_⟩, ?_, ?_, fun i hi => ?_⟩
  · rw [gA_sA_nj (by omega), gA_sA_ne (by omega)]; exact h12
  · rw [gA_sA_nj (by omega), gA_sA_ne (by omega)]; exact h24
  · rw [gA_sA_eq]; rfl
  · rw [List.length_map, gA_sA_ne (by omega), gA_sA_eq]
  · rw [gA_sA_ne (by omega)]
    show stk (gA (rA σ 19 _) 19) (hs.map nI)
    rw [gA_rA]
    exact stk_upd (by rw [List.length_map]; exact Nat.le_refl _) h19
  · rw [gA_sA_nj (by omega), gA_sA_ne (by omega)]; exact h31
  · rw [gA_sA_nj (by omega), gA_sA_ne (by omega)]; exact h32
  · rw [gA_sA_ne (by omega), gA_sA_ne (by omega)]; exact h9 i hi
theorem m_open {k nT o p x : Nat} {f : Nat → Nat} {hs out : List Nat} {σ : ST} (h : MT k f nT hs o out p σ) (ho : o ≤ 5) (hl : hs.length < 200) : (o = 5 → f_X10_opensOne (nI x) σ = some (0, σ)) ∧ (o ≠ 5 → ∃ σ', f_X10_opensOne (nI x) σ = some (1, σ') ∧ EU nT σ σ' ∧ MT k f nT (x :: hs) (o + 1) out p σ') := by
  obtain ⟨t, h12, h24, h30, h19, h31, h32, h9⟩ := id h
  unfold f_X10_opensOne
  rw [h31]
  refine ⟨fun q => ?_, fun q => ?_⟩
  · subst q
    rw [if_neg (show ¬ ¬ nI 5 = 5 by decide)]
  · rw [if_pos (show ¬ nI o = 5 from fun z => q ((nI_eq (b := 5) (by omega) (by omega)).mp z)), nI_1, jlet_s]
    have e1 : EU nT σ (sA σ 0 31 (nI (o + 1))) := ⟨fun j a b c => gA_sA_nj b, fun k a b c => gA_sA_ne a, fun k => rfl, fun i hi => by rw [gA_sA_ne (by omega)]⟩
    have m1 : MT k f nT hs (o + 1) out p (sA σ 0 31 (nI (o + 1))) := by
      refine ⟨t.eu e1, ?_, ?_, ?_, ?_, gA_sA_eq, ?_, fun i hi => ?_⟩
      · rw [gA_sA_nj (by omega)]; exact h12
      · rw [gA_sA_nj (by omega)]; exact h24
      · rw [gA_sA_nj (by omega)]; exact h30
      · rw [gA_sA_ne (by omega)]; exact h19
      · rw [gA_sA_nj (by omega)]; exact h32
      · rw [gA_sA_ne (by omega)]; exact h9 i hi
    obtain ⟨σ2, p1, p2, p3⟩ := m_holds (x := x) m1 hl
    rw [p1, jb_s]
    exact ⟨σ2, rfl, e1.trans p2, p3⟩
theorem tok_n : ∀ t, t < 256 → (mT t = 59 ↔ t = 59) ∧ (mT t = 41 ↔ t = 41) ∧ (mT t = 1 ↔ t = 2) ∧ (mT t = 2 ↔ t = 3) ∧ (mT t = 6 ↔ t = 9) ∧ (mT t = 45 ↔ t = 45) ∧ (mT t = 40 ↔ t = 40) := by decide +kernel
theorem sgn_n : ∀ t, t < 256 → (if ¬ mT t = 4 then if ¬ mT t = 5 then if ¬ mT t = 60 then if ¬ mT t = 61 then if ¬ mT t = 43 then if ¬ mT t = 45 then if ¬ mT t = 42 then (-1 : Int32) else 18 else 17 else 16 else 15 else 14 else 12 else 11) = if sgn t = 0 then -1 else nI (sgn t) := by decide +kernel
theorem sgn_lt : ∀ t, sgn t ≠ 0 → sgn t < 20 ∧ 11 ≤ sgn t ∧ sgn t ≠ 13 ∧ sgn t ≠ 19 ∧ 1 ≤ rk (sgn t) ∧ t ≠ 0 := by
  intro t h
  unfold sgn at h ⊢
  repeat' split at h
  all_goals first | (exact absurd rfl h) | (simp_all; decide)
theorem MT.nx {k nT o p : Nat} {f : Nat → Nat} {hs out : List Nat} {σ σ' : ST} (h : MT k f nT hs o out p σ) (n : NXM σ σ') (t : TN k f p σ') : MT k f nT hs o out (te k f p) σ' := by
  obtain ⟨tq, h12, h24, h30, h19, h31, h32, h9⟩ := h
  exact ⟨tq.nm n, by rw [n.2.2 12 (by omega)]; exact h12, t.1, by rw [n.2.2 30 (by omega)]; exact h30, by rw [n.1 19 (by omega)]; exact h19, by rw [n.2.2 31 (by omega)]; exact h31, by rw [n.2.2 32 (by omega)]; exact h32, fun i hi => by rw [n.1 9 (by omega)]; exact h9 i hi⟩
def OutM (k : Nat) (f : Nat → Nat) (nT : Nat) (r : Bool × Nat × List Nat) (σ : ST) : Prop := (r.1 = true → gA σ 0 24 = nI r.2.1 ∧ r.2.1 ≤ k ∧ gA σ 0 32 = nI r.2.2.length ∧ (∀ i, i < r.2.2.length → gA σ 9 (200 * nT + i) = nI (r.2.2.getD i 0)) ∧ r.2.2.length ≤ r.2.1) ∧ (r.1 = false → gA σ 0 25 = nI (tb k f r.2.1))
theorem m_read {k nT : Nat} {f : Nat → Nat} (hk : k ≤ 160) (hf : ∀ i, i < k → f i < 256) (hn : nT < 6) : ∀ n w m hs o out p r σ, RF (tt k f) (te k f) (cd k f) n (w, m, hs, o, out, p) = some r → MT k f nT hs o out p σ → INV hs o → o ≤ 5 → hs.length + out.length ≤ p → p ≤ k → ∃ σ', f_X10_eRead_L14 n (bI w) (bI m) σ = some (bI r.1, σ') ∧ EM nT σ σ' ∧ OutM k f nT r σ' := by
  intro n
  induction n with
  | zero => intro w m hs o out p r σ h; cases h
  | succ n ih =>
    intro w m hs o out p r σ h hM hI ho hb hp
    rw [RF_s] at h
    unfold RFB at h
    have hA := tka (k := k) (f := f)
    obtain ⟨a1, a2, a3, a4⟩ := hA p hp
    have htl := tt_lt hf hp
    obtain ⟨k59, k41, k2, k3, k9, k45, k40⟩ := tok_n _ htl
    obtain ⟨s2, e1, e2, e3⟩ := mnext hk hf hM.1 hp hM.2.2.1
    have hM2 := hM.nx e2 e3
    have t26 : gA s2 0 26 = mT (tt k f p) := e3.2.2.1
    have t25 : gA s2 0 25 = nI (tb k f p) := e3.2.1
    have em : EM nT σ s2 := e2.em
    rw [ef_X10_eRead_L14, e1, jb_s]
    have bad : ∀ (out' : List Nat) (s : ST), EU nT s2 s → OutM k f nT (false, p, out') s := fun out' s hs => ⟨fun z => (by cases z), fun _ => by rw [hs.1 25 (by omega) (by omega) (by omega)]; exact t25⟩
    cases w with
    | true =>
      rw [if_pos rfl] at h
      rw [bI_t, if10, t26]
      by_cases t2 : tt k f p = 2 ∨ tt k f p = 3
      · rw [if_pos t2] at h
        have hlt := a2 (by omega)
        have go : ∀ s : ST, s = s2 → ∃ σ', f_X10_eRead_L38 (f_X10_eRead_L14 n) (bI m) s = some (bI r.1, σ') ∧ EM nT σ σ' ∧ OutM k f nT r σ' := by
          intro s hs'
          subst hs'
          unfold f_X10_eRead_L38 f_X10_eRead_L61
          have go2 : ∀ q : Nat, q = cd k f p → ∃ σ', jb (f_X10_puts (nI q) s) (fun s2 => jb (f_X10_unwinds 7 s2) (fun s4 => f_X10_eRead_L14 n 0 (bI m) s4)) = some (bI r.1, σ') ∧ EM nT σ σ' ∧ OutM k f nT r σ' := by
            intro q hq
            obtain ⟨s3, p1, p2, p3⟩ := m_puts (q := q) hM2 hn (by omega)
            rw [p1, jb_s]
            obtain ⟨s4, u1, u2, u3⟩ := m_unw (l := 7) hn (by omega) (by omega) hs o (out ++ [q]) FU s3 p3 hI ho (by unfold FU; omega) (by rw [List.length_append]; show _ + (_ + 1) ≤ _; omega)
            rw [show f_X10_unwinds 7 s3 = some s4 from u1, jb_s]
            obtain ⟨v1, v2, v3, v4⟩ := unw_ok (l := 7) (by omega) hs o (out ++ [q]) hI
            rw [← hq] at h
            rw [List.length_append] at v3
            have v3' : (unw 7 hs o (out ++ [q])).1.length + (unw 7 hs o (out ++ [q])).2.2.length = hs.length + (out.length + 1) := v3
            obtain ⟨σ', r1, r2, r3⟩ := ih false m _ _ _ _ r s4 h u3 v1 (by omega) (by omega) a1
            exact ⟨σ', r1, (em.trans (p2.em.trans u2.em)).trans r2, r3⟩
          have e27 := e3.2.2.2
          rw [t26]
          by_cases t22 : tt k f p = 2
          · have hv := e27 (by omega)
            unfold mV at hv
            rw [if_pos t22] at hv
            have hc := a3 t22
            rw [if_neg (show ¬ ¬ mT (tt k f p) = 1 from fun z => z (k2.mpr t22)), hv, show (100000 : Int32) + nI (cd k f p - 100000) = nI (cd k f p) by rw [show (100000 : Int32) = nI 100000 from rfl, nI_add, show 100000 + (cd k f p - 100000) = cd k f p by omega]]
            exact go2 _ rfl
          · have t3 : tt k f p = 3 := by omega
            have hv := e27 (by omega)
            unfold mV at hv
            rw [if_neg t22, if_pos t3] at hv
            rw [if_pos (show ¬ mT (tt k f p) = 1 from fun z => t22 (k2.mp z)), hv]
            exact go2 _ rfl
        by_cases t22 : tt k f p = 2
        · rw [if_pos (k2.mpr t22)]
          exact go s2 rfl
        · have t3 : tt k f p = 3 := by omega
          rw [if_neg (fun z => t22 (k2.mp z)), if_neg (show ¬ ¬ mT (tt k f p) = 2 from fun z => z (k3.mpr t3))]
          exact go s2 rfl
      · rw [if_neg t2] at h
        rw [if_neg (fun z => t2 (Or.inl (k2.mp z))), if_pos (show ¬ mT (tt k f p) = 2 from fun z => t2 (Or.inr (k3.mp z)))]
        -- what opens one
        have opn : ∀ (x : Nat) (m2 : Bool) (cont : Int32 → ST → Option (Int32 × ST)), x < 20 → z1 x = 1 → tt k f p ≠ 0 → (if o = 5 then some (false, p, out) else RF (tt k f) (te k f) (cd k f) n (true, m2, x :: hs, o + 1, out, te k f p)) = some r → (∀ s, cont 0 s = some (0, s)) → (∀ s, cont 1 s = f_X10_eRead_L14 n 1 (bI m2) s) → ∃ σ', jbp (f_X10_opensOne (nI x) s2) cont = some (bI r.1, σ') ∧ EM nT σ σ' ∧ OutM k f nT r σ' := by
          intro x m2 cont hx hz hne h hc0 hc1
          have hlt := a2 hne
          obtain ⟨op5, opo⟩ := m_open (x := x) hM2 ho (by omega)
          by_cases o5 : o = 5
          · rw [if_pos o5] at h
            cases h
            rw [op5 o5, jbp_s, hc0]
            exact ⟨s2, rfl, em, bad out s2 EU.rf⟩
          · rw [if_neg o5] at h
            obtain ⟨s3, w1, w2, w3⟩ := opo o5
            rw [w1, jbp_s, hc1]
            have hlen : (x :: hs).length = hs.length + 1 := rfl
            obtain ⟨σ', r1, r2, r3⟩ := ih true m2 (x :: hs) (o + 1) out (te k f p) r s3 h w3 ⟨by show z1 x + nz hs = o + 1; have := hI.1; omega, fun y hy => by
              rcases List.mem_cons.mp hy with hy | hy
              · rw [hy]; exact hx
              · exact hI.2 y hy⟩ (by omega) (by rw [hlen]; omega) a1
            exact ⟨σ', r1, (em.trans w2.em).trans r2, r3⟩
        have rest99 : (if tt k f p = 45 then (if o = 5 then some (false, p, out) else RF (tt k f) (te k f) (cd k f) n (true, false, 19 :: hs, o + 1, out, te k f p)) else if tt k f p = 40 then (if o = 5 then some (false, p, out) else RF (tt k f) (te k f) (cd k f) n (true, true, 0 :: hs, o + 1, out, te k f p)) else some (false, p, out)) = some r → ∃ σ', f_X10_eRead_L99 (f_X10_eRead_L14 n) 1 s2 = some (bI r.1, σ') ∧ EM nT σ σ' ∧ OutM k f nT r σ' := by
          intro h
          unfold f_X10_eRead_L99
          rw [t26]
          by_cases t45 : tt k f p = 45
          · rw [if_pos t45] at h
            rw [if_neg (show ¬ ¬ mT (tt k f p) = 45 from fun z => z (k45.mpr t45))]
            exact opn 19 false _ (by omega) rfl (by omega) h (fun s => by rw [ifN0]) (fun s => by rw [ifN1]; rfl)
          · rw [if_neg t45] at h
            rw [if_pos (show ¬ mT (tt k f p) = 45 from fun z => t45 (k45.mp z))]
            by_cases t40 : tt k f p = 40
            · rw [if_pos t40] at h
              rw [if_neg (show ¬ ¬ mT (tt k f p) = 40 from fun z => z (k40.mpr t40))]
              exact opn 0 true _ (by omega) rfl (by omega) h (fun s => by rw [ifN0]) (fun s => by rw [ifN1]; rfl)
            · rw [if_neg t40] at h
              cases h
              rw [if_pos (show ¬ mT (tt k f p) = 40 from fun z => t40 (k40.mp z))]
              exact ⟨s2, rfl, em, bad out s2 EU.rf⟩
        by_cases t9 : tt k f p = 9
        · rw [if_neg (show ¬ ¬ mT (tt k f p) = 6 from fun z => z (k9.mpr t9))]
          cases m with
          | true =>
            rw [if_pos ⟨t9, rfl⟩] at h
            rw [bI_t, if10]
            exact opn 13 true _ (by omega) rfl (by omega) h (fun s => by rw [ifN0]) (fun s => by rw [ifN1]; rfl)
          | false =>
            rw [if_neg (fun z => by have := z.2; cases this)] at h
            rw [bI_f, if00]
            exact rest99 h
        · rw [if_neg (fun z => t9 z.1)] at h
          rw [if_pos (show ¬ mT (tt k f p) = 6 from fun z => t9 (k9.mp z))]
          exact rest99 h
    | false =>
      rw [if_neg (by decide)] at h
      rw [bI_f, if00, t26]
      by_cases t59 : tt k f p = 59
      · rw [if_pos t59] at h
        rw [if_neg (show ¬ ¬ mT (tt k f p) = 59 from fun z => z (k59.mpr t59))]
        obtain ⟨s4, u1, u2, u3⟩ := m_unw (l := 1) hn (by omega) (by omega) hs o out FU s2 hM2 hI ho (by unfold FU; omega) (by omega)
        rw [show f_X10_unwinds 1 s2 = some s4 from u1, jb_s]
        obtain ⟨v1, v2, v3, v4⟩ := unw_ok (l := 1) (by omega) hs o out hI
        have hlt := a2 (by omega)
        unfold rend at h
        generalize unw 1 hs o out = u at h u3 v1 v2 v3 v4
        obtain ⟨q, q12, q24, q30, q19, q31, q32, q9⟩ := u3
        match hu : u.1, h with
        | [], h =>
          rw [hu] at q30
          cases h
          rw [q30, if_neg (show ¬ ¬ nI ([] : List Nat).length = 0 by decide)]
          exact ⟨s4, rfl, em.trans u2.em, fun _ => ⟨q24, a1, q32, q9, by show u.2.2.length ≤ te k f p; omega⟩, fun z => by cases z⟩
        | x :: r', h =>
          rw [hu] at q30
          cases h
          have hlen : (x :: r').length = r'.length + 1 := rfl
          have hlen2 : u.1.length = r'.length + 1 := by rw [hu]; rfl
          rw [q30, if_pos (nI_ne0 (by rw [hlen]; omega) (by rw [hlen]; omega))]
          exact ⟨s4, rfl, em.trans u2.em, bad _ s4 u2⟩
      · rw [if_neg t59] at h
        rw [if_pos (show ¬ mT (tt k f p) = 59 from fun z => t59 (k59.mp z))]
        by_cases t41 : tt k f p = 41
        · rw [if_pos t41] at h
          rw [if_neg (show ¬ ¬ mT (tt k f p) = 41 from fun z => z (k41.mpr t41))]
          obtain ⟨s4, u1, u2, u3⟩ := m_unw (l := 1) hn (by omega) (by omega) hs o out FU s2 hM2 hI ho (by unfold FU; omega) (by omega)
          rw [show f_X10_unwinds 1 s2 = some s4 from u1, jb_s]
          obtain ⟨v1, v2, v3, v4⟩ := unw_ok (l := 1) (by omega) hs o out hI
          have hlt := a2 (by omega)
          unfold rpar at h
          generalize unw 1 hs o out = u at h u3 v1 v2 v3 v4
          obtain ⟨q, q12, q24, q30, q19, q31, q32, q9⟩ := id u3
          match hu : u.1, h with
          | [], h =>
            rw [hu] at q30
            cases h
            rw [q30, if_neg (show ¬ ¬ nI ([] : List Nat).length = 0 by decide)]
            exact ⟨s4, rfl, em.trans u2.em, bad _ s4 u2⟩
          | x :: r', h =>
            have hlen2 : u.1.length = r'.length + 1 := by rw [hu]; rfl
            rw [hlen2] at q30
            rw [q30, if_pos (nI_ne0 (by omega) (by omega)), nI_pred, jlet_s, gA_sA_nj (by omega), q31]
            have hx0 : z1 x = 1 := by
              rcases v4 with v4 | v4
              · rw [hu] at v4; cases v4
              · rw [hu] at v4
                exact rk_0 x (v1.2 x (by rw [hu]; simp)) v4
            have hnz : z1 x + nz r' = u.2.1 := by
              have := v1.1
              rw [hu] at this
              exact this
            rw [show nI u.2.1 - 1 = nI (u.2.1 - 1) from pk_sub (b := 1) (by omega), jlet_s]
            have e5 : EU nT s4 (sA (sA s4 0 30 (nI r'.length)) 0 31 (nI (u.2.1 - 1))) := ⟨fun j a b c => by rw [gA_sA_nj b, gA_sA_nj a], fun k a b c => by rw [gA_sA_ne a, gA_sA_ne a], fun k => rfl, fun i hi => by rw [gA_sA_ne (by omega), gA_sA_ne (by omega)]⟩
            have m5 : MT k f nT r' (u.2.1 - 1) u.2.2 (te k f p) (sA (sA s4 0 30 (nI r'.length)) 0 31 (nI (u.2.1 - 1))) := by
              refine ⟨q.eu e5, ?_, ?_, ?_, ?_, gA_sA_eq, ?_, fun i hi => ?_⟩
              · rw [gA_sA_nj (by omega), gA_sA_nj (by omega)]; exact q12
              · rw [gA_sA_nj (by omega), gA_sA_nj (by omega)]; exact q24
              · rw [gA_sA_nj (by omega), gA_sA_eq]
              · rw [gA_sA_ne (by omega), gA_sA_ne (by omega)]
                rw [hu] at q19
                exact q19.2
              · rw [gA_sA_nj (by omega), gA_sA_nj (by omega)]; exact q32
              · rw [gA_sA_ne (by omega), gA_sA_ne (by omega)]; exact q9 i hi
            have I5 : INV r' (u.2.1 - 1) := ⟨by omega, fun y hy => v1.2 y (by rw [hu]; simp [hy])⟩
            obtain ⟨s6, x1, x2, x3⟩ := m_unw (l := 7) hn (by omega) (by omega) r' (u.2.1 - 1) u.2.2 FU _ m5 I5 (by omega) (by unfold FU; omega) (by omega)
            rw [show f_X10_unwinds 7 _ = some s6 from x1, jb_s]
            obtain ⟨y1, y2, y3, y4⟩ := unw_ok (l := 7) (by omega) r' (u.2.1 - 1) u.2.2 I5
            obtain ⟨σ', r1, r2, r3⟩ := ih false m _ _ _ _ r s6 h x3 y1 (by omega) (by omega) a1
            exact ⟨σ', r1, (em.trans (u2.em.trans (e5.em.trans x2.em))).trans r2, r3⟩
        · rw [if_neg t41] at h
          rw [if_pos (show ¬ mT (tt k f p) = 41 from fun z => t41 (k41.mp z))]
          unfold f_X10_signOf
          rw [t26, sgn_n _ htl, jlet_s]
          by_cases s0 : sgn (tt k f p) = 0
          · rw [if_pos s0] at h
            cases h
            rw [if_pos s0, if_pos rfl]
            exact ⟨s2, rfl, em, bad out s2 EU.rf⟩
          · rw [if_neg s0] at h
            obtain ⟨g1, g2, g3, g4, g5, g6⟩ := sgn_lt _ s0
            have hlt := a2 g6
            rw [if_neg s0, if_neg (nI_ne_m1 _ (by omega))]
            generalize hs' : sgn (tt k f p) = s at h g1 g2 g3 g4 g5
            have hr7 := rk_7 s
            unfold f_X10_between f_X10_between_L17 f_X10_between_L55 f_X10_eRead_L262
            rw [rank_n s g1]
            -- the signs that come ahead
            have L17 : ∀ l : Nat, l = (if rk s = 4 then 5 else rk s) → ∃ σ', jbp (jb (f_X10_unwinds (nI l) s2) (fun s2 => jlet (nI (rk s)) (fun y3 => if ¬ y3 = 4 then jb (f_X10_holds (nI s) s2) (fun s2 => some (1, s2)) else if gA s2 0 30 ≤ 0 then jb (f_X10_holds (nI s) s2) (fun s2 => some (1, s2)) else jix (gA s2 0 30 - 1) 200 (jlet (f_X10_rank (gA s2 19 (gA s2 0 30 - 1).toNatClampNeg)) (fun y6 => if ¬ y6 = 4 then jb (f_X10_holds (nI s) s2) (fun s2 => some (1, s2)) else some (0, s2)))))) (fun (y5 : Int32) s6 => if ¬ y5 = 0 then (if 12 < nI s then f_X10_eRead_L14 n 1 0 s6 else f_X10_eRead_L14 n 1 1 s6) else some (0, s6)) = some (bI r.1, σ') ∧ EM nT σ σ' ∧ OutM k f nT r σ' := by
              intro l hl
              rw [← hl] at h
              have hl1 : 1 ≤ l ∧ l ≤ 7 := by rw [hl]; split <;> omega
              obtain ⟨s4, u1, u2, u3⟩ := m_unw (l := l) hn hl1.1 hl1.2 hs o out FU s2 hM2 hI ho (by unfold FU; omega) (by omega)
              rw [show f_X10_unwinds (nI l) s2 = some s4 from u1, jb_s, jlet_s]
              obtain ⟨v1, v2, v3, v4⟩ := unw_ok (l := l) hl1.1 hs o out hI
              unfold rsg at h
              generalize unw l hs o out = u at h u3 v1 v2 v3 v4
              obtain ⟨q, q12, q24, q30, q19, q31, q32, q9⟩ := id u3
              -- how it goes on when the sign can stand there
              have fin : ¬ (rk s = 4 ∧ tr u.1 = 4) → ∃ σ', jbp (jb (f_X10_holds (nI s) s4) (fun s2 => some (1, s2))) (fun (y5 : Int32) s6 => if ¬ y5 = 0 then (if 12 < nI s then f_X10_eRead_L14 n 1 0 s6 else f_X10_eRead_L14 n 1 1 s6) else some (0, s6)) = some (bI r.1, σ') ∧ EM nT σ σ' ∧ OutM k f nT r σ' := by
                intro hno
                rw [if_neg hno] at h
                obtain ⟨s5, w1, w2, w3⟩ := m_holds (x := s) u3 (by omega)
                rw [w1, jb_s, jbp_s, ifN1]
                have hz : z1 s = 0 := by unfold z1; rw [if_neg (by omega)]
                have hlen : (s :: u.1).length = u.1.length + 1 := rfl
                obtain ⟨σ', r1, r2, r3⟩ := ih true (decide (s ≤ 12)) (s :: u.1) u.2.1 u.2.2 (te k f p) r s5 h w3 ⟨by show z1 s + nz u.1 = u.2.1; have := v1.1; omega, fun y hy => by
                  rcases List.mem_cons.mp hy with hy | hy
                  · rw [hy]; exact g1
                  · exact v1.2 y hy⟩ (by omega) (by rw [hlen]; omega) a1
                refine ⟨σ', ?_, (em.trans (u2.em.trans w2.em)).trans r2, r3⟩
                by_cases q12' : s ≤ 12
                · rw [if_neg (show ¬ (12 : Int32) < nI s from nI_nlt (a := 12) q12' (by omega))]
                  rw [decide_eq_true q12'] at r1
                  exact r1
                · rw [if_pos (show (12 : Int32) < nI s from nI_lt (a := 12) (by omega) (by omega))]
                  rw [decide_eq_false q12'] at r1
                  exact r1
              by_cases r4 : rk s = 4
              · rw [if_neg (show ¬ ¬ nI (rk s) = 4 by rw [r4]; decide), q30]
                match hu : u.1, q19 with
                | [], _ =>
                  rw [if_pos (show nI ([] : List Nat).length ≤ 0 by decide)]
                  exact fin (fun z => by rw [hu] at z; exact absurd z.2 (by decide))
                | x :: r', q19 =>
                  have hlen : (x :: r').length = r'.length + 1 := rfl
                  have hlen2 : u.1.length = r'.length + 1 := by rw [hu]; rfl
                  have hx : x < 20 := v1.2 x (by rw [hu]; simp)
                  have htop : gA s4 19 r'.length = nI x := by
                    have := q19.1
                    rw [List.length_map] at this
                    exact this
                  rw [hlen, if_neg (nI_nle (by omega) (by omega)), nI_pred, jix_t (by omega) (by omega), nI_clamp (by omega), htop, rank_n x hx, jlet_s]
                  have hx7 := rk_7 x
                  by_cases x4 : rk x = 4
                  · rw [if_neg (show ¬ ¬ nI (rk x) = 4 by rw [x4]; decide), jbp_s, ifN0]
                    rw [if_pos ⟨r4, by rw [hu]; exact x4⟩] at h
                    cases h
                    exact ⟨s4, rfl, em.trans u2.em, bad _ s4 u2⟩
                  · rw [if_pos (show ¬ nI (rk x) = 4 from fun z => x4 ((nI_eq (b := 4) (by omega) (by omega)).mp z))]
                    exact fin (fun z => by rw [hu] at z; exact x4 z.2)
              · rw [if_pos (show ¬ nI (rk s) = 4 from fun z => r4 ((nI_eq (b := 4) (by omega) (by omega)).mp z))]
                exact fin (fun z => r4 z.1)
            by_cases r4 : rk s = 4
            · rw [jlet_s, if_neg (show ¬ ¬ nI (rk s) = 4 by rw [r4]; decide)]
              exact L17 5 (by rw [if_pos r4])
            · rw [jlet_s, if_pos (show ¬ nI (rk s) = 4 from fun z => r4 ((nI_eq (b := 4) (by omega) (by omega)).mp z)), jlet_s]
              exact L17 (rk s) (by rw [if_neg r4])
