/-! ===== the three parts of a text ===== -/
def ZF (T E C : Nat → Nat) (n : Nat) : Nat → Nat → Nat → Option Nat
  | 0, _, p => if T p = 0 then none else some p
  | d + 1, j, p => if T p = 4 + j then (match PR T E C n 0 0 (E p) with
    | some (p', some _) => if T p' = 59 then ZF T E C n d (j + 1) (E p') else some p'
    | some (p', none) => some p'
    | none => some p) else some p
theorem hrun_cong {C C' : Nat → Nat} : ∀ n i h, (∀ x, i ≤ x → x < i + n → C x = C' x) → hrun C n i h = hrun C' n i h
  | 0, i, h, _ => rfl
  | n + 1, i, h, hc => by
    show (h1 (C i) h).bind (hrun C n (i + 1)) = (h1 (C' i) h).bind (hrun C' n (i + 1))
    rw [hc i (Nat.le_refl _) (by omega)]
    congr 1
    funext h'
    exact hrun_cong n (i + 1) h' (fun x q1 q2 => hc x (by omega) (by omega))
theorem hrun_hl (a : List Nat) : ∀ (c : List Nat) (i h : Nat), (∀ x, x < c.length → a.getD (i + x) 0 = c.getD x 0) → hrun (fun x => a.getD x 0) c.length i h = hl c h
  | [], i, h, _ => rfl
  | q :: r, i, h, hc => by
    show (h1 (a.getD i 0) h).bind (hrun _ r.length (i + 1)) = (h1 q h).bind (hl r)
    have h0 := hc 0 (by simp)
    rw [Nat.add_zero] at h0
    rw [h0]
    show (h1 q h).bind _ = _
    congr 1
    funext h'
    refine hrun_hl a r (i + 1) h' (fun x hx => ?_)
    have := hc (x + 1) (by simp; omega)
    rw [show i + 1 + x = i + (x + 1) by omega, this]
    rfl
theorem gD_app2 {a b : List Nat} {i : Nat} : (a ++ b).getD (a.length + i) 0 = b.getD i 0 := by
  rw [List.getD_eq_getElem?_getD, List.getElem?_append_right (by omega), Nat.add_sub_cancel_left, ← List.getD_eq_getElem?_getD]
/-- the parts that have been read -/
def PQ (cs : List Nat) (e : Nat → Nat) (j : Nat) : Prop := (∀ i, i < j → eb e i ≤ e i ∧ e i ≤ cs.length ∧ hrun (fun x => cs.getD x 0) (e i - eb e i) (eb e i) 0 = some 1) ∧ eb e j = cs.length
theorem PQ.step {cs c : List Nat} {e : Nat → Nat} {j : Nat} (h : PQ cs e j) (hc : ∀ h, hl c h = some (h + 1)) : PQ (cs ++ c) (fun i => if i = j then (cs ++ c).length else e i) (j + 1) := by
  have hlen : (cs ++ c).length = cs.length + c.length := List.length_append
  have ebs : ∀ i, i ≤ j → eb (fun i => if i = j then (cs ++ c).length else e i) i = eb e i := fun i hi => by
    unfold eb
    by_cases z : i = 0
    · rw [if_pos z, if_pos z]
    · rw [if_neg z, if_neg z]
      exact if_neg (by omega)
  refine ⟨fun i hi => ?_, ?_⟩
  · rw [ebs i (by omega)]
    dsimp only
    by_cases z : i = j
    · subst z
      rw [if_pos rfl, h.2]
      refine ⟨by omega, Nat.le_refl _, ?_⟩
      rw [hlen, Nat.add_sub_cancel_left, hrun_hl (cs ++ c) c cs.length 0 (fun x _ => gD_app2), hc 0]
    · rw [if_neg z]
      obtain ⟨w1, w2, w3⟩ := h.1 i (by omega)
      refine ⟨w1, by omega, ?_⟩
      rw [← w3]
      exact hrun_cong _ _ _ (fun x q1 q2 => gD_app (by omega))
  · show (if j + 1 = 0 then 0 else if j + 1 - 1 = j then (cs ++ c).length else e (j + 1 - 1)) = _
    rw [if_neg (by omega), if_pos (by omega)]
def RX (σ σ' : ST) : Prop := (∀ k, k ≠ 3 → k ≠ 22 → k ≠ 23 → gA σ' k = gA σ k) ∧ ∀ k, gB σ' k = gB σ k
theorem RX.rf {σ : ST} : RX σ σ := ⟨fun _ _ _ _ => rfl, fun _ => rfl⟩
theorem RX.trans {σ σ' σ'' : ST} (h : RX σ σ') (h2 : RX σ' σ'') : RX σ σ'' := ⟨fun k a b c => (h2.1 k a b c).trans (h.1 k a b c), fun k => (h2.2 k).trans (h.2 k)⟩
theorem RDX.rx {σ σ' : ST} (h : RDX σ σ') : RX σ σ' := ⟨fun k a b _ => h.1 k a b, h.2.1⟩
def EY (nT : Nat) (σ σ' : ST) : Prop := (∀ j, j < 24 → j ≠ 9 → j ≠ 12 → gA σ' 0 j = gA σ 0 j) ∧ (∀ k, k ≠ 0 → k ≠ 9 → k ≠ 10 → k ≠ 19 → gA σ' k = gA σ k) ∧ (∀ k, gB σ' k = gB σ k) ∧ (∀ i, i < 200 * nT → gA σ' 9 i = gA σ 9 i) ∧ ∀ i, i < 4 * nT → gA σ' 10 i = gA σ 10 i
theorem EY.rf {nT : Nat} {σ : ST} : EY nT σ σ := ⟨fun _ _ _ _ => rfl, fun _ _ _ _ _ => rfl, fun _ => rfl, fun _ _ => rfl, fun _ _ => rfl⟩
theorem EY.trans {nT : Nat} {σ σ' σ'' : ST} (h : EY nT σ σ') (h2 : EY nT σ' σ'') : EY nT σ σ'' := ⟨fun j a b c => (h2.1 j a b c).trans (h.1 j a b c), fun k a b c d => (h2.2.1 k a b c d).trans (h.2.1 k a b c d), fun k => (h2.2.2.1 k).trans (h.2.2.1 k), fun i hi => (h2.2.2.2.1 i hi).trans (h.2.2.2.1 i hi), fun i hi => (h2.2.2.2.2 i hi).trans (h.2.2.2.2 i hi)⟩
theorem EM.ey {nT : Nat} {σ σ' : ST} (h : EM nT σ σ') : EY nT σ σ' := ⟨fun j a _ _ => h.1 j a, fun k a b _ c => h.2.1 k a b c, h.2.2.1, h.2.2.2, fun i _ => by rw [h.2.1 10 (by omega) (by omega) (by omega)]⟩
theorem EY.s10 {nT j : Nat} {σ : ST} {v : Int32} (hj : 4 * nT ≤ j) : EY nT σ (sA σ 10 j v) := ⟨fun i _ _ _ => by rw [gA_sA_ne (by omega)], fun k a b c d => gA_sA_ne c, fun k => rfl, fun i hi => by rw [gA_sA_ne (by omega)], fun i hi => gA_sA_nj (by omega)⟩
/-- the reference's end of it after a fault -/
theorem mt_fault {nT q fuel j : Nat} {s : ST} (hn : nT < 6) (h12 : gA s 0 12 = nI nT) (h25 : gA s 0 25 = nI q) (hj : j < 100) : ∃ s', f_X10_text_L26 (fuel + 1) 0 (nI j) s = some (-100 - nI q, s') ∧ EY nT s s' ∧ gA s' 0 9 = 0 ∧ gA s' 0 12 = nI nT := by
  have e : f_X10_text_L26 (fuel + 1) 0 (nI j) s = f_X10_text_L101 0 s := by
    rw [ef_X10_text_L26, if00]
    split <;> rfl
  rw [e]
  unfold f_X10_text_L101 f_X10_text_L122
  rw [if00, h12, show (4 : Int32) * nI nT + 3 = nI (4 * nT + 3) by rw [show (4 : Int32) = nI 4 from rfl, show (3 : Int32) = nI 3 from rfl, pk_mul, nI_add], jix_t (by omega) (by omega), nI_clamp (by omega), jlet_s, jlet_s, ifN0, gA_sA_nj (by omega), gA_sA_ne (by omega), h25]
  refine ⟨_, rfl, (EY.s10 (by omega)).trans ⟨fun i _ a _ => gA_sA_nj a, fun k a _ _ _ => gA_sA_ne a, fun k => rfl, fun i hi => by rw [gA_sA_ne (by omega)], fun i hi => by rw [gA_sA_ne (by omega)]⟩, gA_sA_eq, ?_⟩
  rw [gA_sA_nj (by omega), gA_sA_ne (by omega)]
  exact h12
theorem mT_3 : ∀ t, t < 256 → (mT t = 3 ↔ (4 ≤ t ∧ t ≤ 6)) ∧ (mT t = 0 ↔ t = 0) := by decide +kernel
def MY (k : Nat) (f : Nat → Nat) (nT : Nat) (cs : List Nat) (e : Nat → Nat) (j p : Nat) (σ : ST) : Prop := TQ k f σ ∧ gA σ 0 12 = nI nT ∧ gA σ 0 24 = nI p ∧ gA σ 0 32 = nI cs.length ∧ (∀ i, i < cs.length → gA σ 9 (200 * nT + i) = nI (cs.getD i 0)) ∧ ∀ i, i < j → gA σ 10 (4 * nT + i) = nI (eb e i)
theorem eb_upd {e : Nat → Nat} {j v i : Nat} (h : i ≤ j) : eb (fun i => if i = j then v else e i) i = eb e i := by
  unfold eb
  by_cases z : i = 0
  · rw [if_pos z, if_pos z]
  · rw [if_neg z, if_neg z]
    exact if_neg (by omega)
theorem text_loop {k nT n : Nat} {f : Nat → Nat} (hk : k ≤ 160) (hf : ∀ i, i < k → f i < 256) (hn : nT < 6) (hN : 1700 ≤ n) : ∀ d j p cs e σ τ fuel fuel2, d + j = 3 → p ≤ k → cs.length ≤ p → AT k f p cs σ → (∀ i, i < j → gA σ 23 i = nI (e i)) → PQ cs e j → MY k f nT cs e j p τ → d < fuel → d + 1 < fuel2 → (∀ q, ZF (tt k f) (te k f) (cd k f) n d j p = some q → q ≤ k ∧ ∃ σ' τ', f_X4_read_L16 fuel (nI j) σ = some (nI (tb k f q), σ') ∧ RX σ σ' ∧ f_X10_text_L26 fuel2 1 (nI j) τ = some (-100 - nI (tb k f q), τ') ∧ EY nT τ τ' ∧ gA τ' 0 9 = 0 ∧ gA τ' 0 12 = nI nT) ∧ (ZF (tt k f) (te k f) (cd k f) n d j p = none → ∃ σ' τ' T, f_X4_read_L16 fuel (nI j) σ = some (-1, σ') ∧ RX σ σ' ∧ f_X10_text_L26 fuel2 1 (nI j) τ = some (nI nT, τ') ∧ EY nT τ τ' ∧ gA τ' 0 9 = 0 ∧ gA τ' 0 12 = nI (nT + 1) ∧ TW T ∧ (∀ i, i < T.2 2 → gA σ' 22 i = xC (T.1 i)) ∧ (∀ i, i < 3 → gA σ' 23 i = nI (T.2 i)) ∧ (∀ i, i < T.2 2 → gA τ' 9 (200 * nT + i) = nI (T.1 i)) ∧ ∀ i, i < 4 → gA τ' 10 (4 * nT + i) = nI (eb T.2 i)) := by
  have hA := tka (k := k) (f := f)
  intro d
  induction d with
  | zero =>
    intro j p cs e σ τ fuel fuel2 hd hp hcs hat hends hpq hmy hfu hfu2
    obtain ⟨fuel, rfl⟩ : ∃ k, fuel = k + 1 := ⟨fuel - 1, by omega⟩
    obtain ⟨fuel2, rfl⟩ : ∃ k, fuel2 = k + 1 := ⟨fuel2 - 1, by omega⟩
    have hj : j = 3 := by omega
    subst hj
    have htl := tt_lt hf hp
    obtain ⟨tq, h12, h24, h32, h9, h10⟩ := hmy
    obtain ⟨s2, e1, e2, e3⟩ := mnext hk hf tq hp h24
    have ex : f_X4_read_L16 (fuel + 1) (nI 3) σ = if ¬ nI (tt k f p) = 0 then some (nI (tb k f p), σ) else some (-1, σ) := by
      rw [ef_X4_read_L16, if_pos (by decide), hat.2.1.2.2.1, hat.2.1.1]
    have ey : f_X10_text_L26 (fuel2 + 1) 1 (nI 3) τ = if ¬ mT (tt k f p) = 0 then f_X10_text_L121 0 s2 else f_X10_text_L121 1 s2 := by
      rw [ef_X10_text_L26, if_pos (by decide)]
      unfold f_X10_text_L101
      rw [if10, e1, jb_s, e3.2.2.1]
    have g12 : gA s2 0 12 = nI nT := by rw [e2.2.2 12 (by omega)]; exact h12
    have g32 : gA s2 0 32 = nI cs.length := by rw [e2.2.2 32 (by omega)]; exact h32
    have ix : (4 : Int32) * nI nT + 3 = nI (4 * nT + 3) := by rw [show (4 : Int32) = nI 4 from rfl, show (3 : Int32) = nI 3 from rfl, pk_mul, nI_add]
    have eyb : EY nT τ (sA (sA s2 10 (4 * nT + 3) (nI cs.length)) 0 9 0) := (e2.em.ey.trans (EY.s10 (by omega))).trans ⟨fun i _ a _ => gA_sA_nj a, fun k a _ _ _ => gA_sA_ne a, fun k => rfl, fun i hi => by rw [gA_sA_ne (by omega)], fun i hi => by rw [gA_sA_ne (by omega)]⟩
    refine ⟨fun q hq => ?_, fun hq => ?_⟩
    · unfold ZF at hq
      have t0 : tt k f p ≠ 0 := fun z => by rw [if_pos z] at hq; cases hq
      rw [if_neg t0] at hq
      cases hq
      refine ⟨hp, σ, sA (sA s2 10 (4 * nT + 3) (nI cs.length)) 0 9 0, ?_, RX.rf, ?_, eyb, gA_sA_eq, ?_⟩
      · rw [ex, if_pos (show ¬ nI (tt k f p) = 0 from fun z => t0 ((nI_eq (b := 0) (by omega) (by omega)).mp z))]
      · rw [ey, if_pos (show ¬ mT (tt k f p) = 0 from fun z => t0 ((mT_3 _ htl).2.mp z))]
        unfold f_X10_text_L121 f_X10_text_L122
        rw [g12, ix, jix_t (by omega) (by omega), nI_clamp (by omega), g32, jlet_s, jlet_s, ifN0, gA_sA_nj (by omega), gA_sA_ne (by omega), e3.2.1]
      · rw [gA_sA_nj (by omega), gA_sA_ne (by omega)]; exact g12
    · unfold ZF at hq
      have t0 : tt k f p = 0 := by
        by_cases z : tt k f p = 0
        · exact z
        · rw [if_neg z] at hq; cases hq
      have hlen : e 2 = cs.length := hpq.2
      refine ⟨σ, sA (sA (sA s2 10 (4 * nT + 3) (nI cs.length)) 0 9 0) 0 12 (nI (nT + 1)), (fun x => cs.getD x 0, e), ?_, RX.rf, ?_, eyb.trans ⟨fun i _ _ a => gA_sA_nj a, fun k a _ _ _ => gA_sA_ne a, fun k => rfl, fun i hi => by rw [gA_sA_ne (by omega)], fun i hi => by rw [gA_sA_ne (by omega)]⟩, ?_, gA_sA_eq, ⟨?_, fun i hi => ?_, fun i hi => ?_⟩, fun i hi => ?_, fun i hi => hends i hi, fun i hi => ?_, fun i hi => ?_⟩
      · rw [ex, t0]; rfl
      · rw [ey, if_neg (show ¬ ¬ mT (tt k f p) = 0 from fun z => z ((mT_3 _ htl).2.mpr t0))]
        unfold f_X10_text_L121 f_X10_text_L122
        rw [g12, ix, jix_t (by omega) (by omega), nI_clamp (by omega), g32, jlet_s, jlet_s, ifN1, gA_sA_nj (by omega), gA_sA_ne (by omega), g12, nI_1, jlet_s, gA_sA_eq, nI_pred]
      · rw [gA_sA_nj (by omega), gA_sA_eq]
      · show e 2 ≤ 160
        omega
      · show eb e i ≤ e i ∧ e i ≤ e 2
        obtain ⟨w1, w2, w3⟩ := hpq.1 i hi
        exact ⟨w1, by omega⟩
      · exact (hpq.1 i hi).2.2
      · exact hat.2.2.2 i (by have hi' : i < e 2 := hi; omega)
      · have hi' : i < e 2 := hi
        rw [gA_sA_ne (by omega), gA_sA_ne (by omega), gA_sA_ne (by omega), e2.1 9 (by omega)]
        exact h9 i (by omega)
      · show _ = nI (eb e i)
        rw [gA_sA_ne (by omega), gA_sA_ne (by omega)]
        by_cases z : i = 3
        · subst z
          rw [gA_sA_eq]
          show nI cs.length = nI (e 2)
          rw [hlen]
        · rw [gA_sA_nj (by omega), e2.1 10 (by omega)]
          exact h10 i (by omega)
  | succ d ih =>
    intro j p cs e σ τ fuel fuel2 hd hp hcs hat hends hpq hmy hfu hfu2
    obtain ⟨fuel, rfl⟩ : ∃ k, fuel = k + 1 := ⟨fuel - 1, by omega⟩
    obtain ⟨fuel2, rfl⟩ : ∃ k, fuel2 = k + 1 + 1 := ⟨fuel2 - 2, by omega⟩
    have hj : j < 3 := by omega
    have htl := tt_lt hf hp
    obtain ⟨a1, a2, -⟩ := hA p hp
    obtain ⟨tq, h12, h24, h32, h9, h10⟩ := hmy
    obtain ⟨s2, e1, e2, e3⟩ := mnext hk hf tq hp h24
    have g12 : gA s2 0 12 = nI nT := by rw [e2.2.2 12 (by omega)]; exact h12
    have g32 : gA s2 0 32 = nI cs.length := by rw [e2.2.2 32 (by omega)]; exact h32
    have ix : (4 : Int32) * nI nT + nI j = nI (4 * nT + j) := by rw [show (4 : Int32) = nI 4 from rfl, pk_mul, nI_add]
    have htab : tab2.getD (nI j).toNatClampNeg 0 = nI (4 + j) := by
      rw [nI_clamp (by omega)]
      rcases (show j = 0 ∨ j = 1 ∨ j = 2 by omega) with rfl | rfl | rfl <;> rfl
    have teq : nI (tt k f p) = nI (4 + j) ↔ tt k f p = 4 + j := nI_eq (by omega) (by omega)
    -- the reference, once it has failed
    have mfail : ∀ (s : ST) (q : Nat), gA s 0 12 = nI nT → gA s 0 25 = nI q → EY nT τ s → ∃ τ', f_X10_text_L93 (f_X10_text_L26 (fuel2 + 1)) (nI j) s = some (-100 - nI q, τ') ∧ EY nT τ τ' ∧ gA τ' 0 9 = 0 ∧ gA τ' 0 12 = nI nT := by
      intro s q y1 y2 y3
      unfold f_X10_text_L93 f_X10_text_L94
      rw [jlet_s, nI_1]
      obtain ⟨s', w1, w2, w3, w4⟩ := mt_fault (fuel := fuel2) (j := j + 1) hn y1 y2 (by omega)
      exact ⟨s', w1, y3.trans w2, w3, w4⟩
    have ey : f_X10_text_L26 (fuel2 + 1 + 1) 1 (nI j) τ = if ¬ mT (tt k f p) = 3 then f_X10_text_L59 (f_X10_text_L26 (fuel2 + 1)) (nI j) s2 else if ¬ gA s2 0 27 = nI j then f_X10_text_L59 (f_X10_text_L26 (fuel2 + 1)) (nI j) s2 else f_X10_text_L60 (f_X10_text_L26 (fuel2 + 1)) (nI j) 1 s2 := by
      rw [ef_X10_text_L26, if_neg (nle3 hj), if10, e1, jb_s, e3.2.2.1]
    have e60 : ∀ t0 : Int32, f_X10_text_L60 (f_X10_text_L26 (fuel2 + 1)) (nI j) t0 s2 = if t0 = 0 then f_X10_text_L93 (f_X10_text_L26 (fuel2 + 1)) (nI j) (sA s2 10 (4 * nT + j) (nI cs.length)) else jbp (f_X10_eRead (sA s2 10 (4 * nT + j) (nI cs.length))) (fun y3 s4 => if y3 = 0 then f_X10_text_L93 (f_X10_text_L26 (fuel2 + 1)) (nI j) s4 else f_X10_text_L94 (f_X10_text_L26 (fuel2 + 1)) (nI j) 1 s4) := by
      intro t0
      unfold f_X10_text_L60
      rw [g12, ix, jix_t (by omega) (by omega), nI_clamp (by omega), g32, jlet_s]
    have ys : EY nT τ (sA s2 10 (4 * nT + j) (nI cs.length)) := e2.em.ey.trans (EY.s10 (by omega))
    by_cases t4 : tt k f p = 4 + j
    · have hlt := a2 (by omega)
      have hv : gA s2 0 27 = nI j := by
        rw [e3.2.2.2 (by omega)]
        unfold mV
        rw [if_neg (by omega), if_neg (by omega), t4, show 4 + j - 4 = j by omega]
      rw [if_neg (show ¬ ¬ mT (tt k f p) = 3 from fun z => z ((mT_3 _ htl).1.mpr (by omega))), hv, if_neg (show ¬ ¬ nI j = nI j from fun z => z rfl), e60 1, if10] at ey
      obtain ⟨σ1, c1, c2, c3⟩ := hat.next hk hf hp
      obtain ⟨⟨p', res⟩, hres⟩ := PR_end hA n 0 0 (te k f p) a1 (by omega) (by unfold lw; rw [if_pos (by omega)]; omega)
      obtain ⟨w1, w2, w3⟩ := PR_ok hA _ _ _ _ _ _ hres a1
      obtain ⟨σ2, r1, r2, r3⟩ := (xread hk hf n 0 0 (te k f p) σ1 cs p' res hres (by omega) a1 (by omega) c3).1 (by omega) RDF (by unfold RDF; omega)
      have ex : f_X4_read_L16 (fuel + 1) (nI j) σ = if bI res.isSome = 0 then f_X4_read_L59 σ2 else if gA σ2 3 7 = 59 then jb (f_X4_next σ2) (fun s7 => jix (nI j) 3 (jlet (sA s7 23 (nI j).toNatClampNeg (gA s7 3 4)) (fun s9 => jlet (nI j + 1) (fun y10 => f_X4_read_L16 fuel y10 s9)))) else f_X4_read_L59 σ2 := by
        rw [ef_X4_read_L16, if_neg (nle3 hj), jix_t hj (by omega), hat.2.1.2.2.1, htab, if_pos (teq.mpr t4), c1, jb_s, show f_RD RDF 0 0 σ1 = _ from r1, jbp_s]
      -- the reference's E
      have m0 : MT k f nT [] 0 cs (te k f p) (sA (sA (sA s2 10 (4 * nT + j) (nI cs.length)) 0 30 0) 0 31 0) := by
        have q1 : EU nT s2 (sA (sA s2 0 30 0) 0 31 0) := ⟨fun i a b c => by rw [gA_sA_nj b, gA_sA_nj a], fun k a b c => by rw [gA_sA_ne a, gA_sA_ne a], fun k => rfl, fun i hi => by rw [gA_sA_ne (by omega), gA_sA_ne (by omega)]⟩
        have tq2 := (tq.nm e2)
        refine ⟨⟨?_, fun i hi => ?_, tq2.2.2.cg ?_⟩, ?_, ?_, ?_, trivial, gA_sA_eq, ?_, fun i hi => ?_⟩
        · rw [gA_sA_nj (by omega), gA_sA_nj (by omega), gA_sA_ne (by omega)]; exact tq2.1
        · rw [gA_sA_ne (by omega), gA_sA_ne (by omega), gA_sA_ne (by omega)]; exact tq2.2.1 i hi
        · rw [gA_sA_ne (by omega), gA_sA_ne (by omega), gA_sA_ne (by omega)]
        · rw [gA_sA_nj (by omega), gA_sA_nj (by omega), gA_sA_ne (by omega)]; exact g12
        · rw [gA_sA_nj (by omega), gA_sA_nj (by omega), gA_sA_ne (by omega)]; exact e3.1
        · rw [gA_sA_nj (by omega), gA_sA_eq]; rfl
        · rw [gA_sA_nj (by omega), gA_sA_nj (by omega), gA_sA_ne (by omega)]; exact g32
        · rw [gA_sA_ne (by omega), gA_sA_ne (by omega), gA_sA_ne (by omega), e2.1 9 (by omega)]; exact h9 i hi
      have eE : f_X10_eRead (sA s2 10 (4 * nT + j) (nI cs.length)) = f_X10_eRead_L14 FU 1 1 (sA (sA (sA s2 10 (4 * nT + j) (nI cs.length)) 0 30 0) 0 31 0) := by
        unfold f_X10_eRead
        rw [jlet_s, jlet_s]
      have y3' : EY nT (sA s2 10 (4 * nT + j) (nI cs.length)) (sA (sA (sA s2 10 (4 * nT + j) (nI cs.length)) 0 30 0) 0 31 0) := ⟨fun i a b c => by rw [gA_sA_nj (by omega), gA_sA_nj (by omega)], fun k a b c d => by rw [gA_sA_ne a, gA_sA_ne a], fun k => rfl, fun i hi => by rw [gA_sA_ne (by omega), gA_sA_ne (by omega)], fun i hi => by rw [gA_sA_ne (by omega), gA_sA_ne (by omega)]⟩
      have I0 : INV [] 0 := ⟨rfl, fun x hx => by cases hx⟩
      obtain ⟨se1, se2⟩ := sim_E hA (out := cs) hres a1
      by_cases good : res.isSome = true ∧ tt k f p' = 59
      · obtain ⟨g1, g2⟩ := good
        obtain ⟨c, rfl⟩ := Option.isSome_iff_exists.mp g1
        obtain ⟨b1, b2, -⟩ := hA p' w2
        have hlt2 := b2 (by omega)
        have w4 := (w3 c rfl).1
        have hc1 := ((w3 c rfl).2.1 (by omega)).2
        have r3' : AT k f p' (cs ++ c) σ2 := r3
        obtain ⟨σ3, x1, x2, x3⟩ := r3'.next hk hf w2
        obtain ⟨jj, j1, j2⟩ := se1 c rfl g2
        obtain ⟨τ4, m1, m2, m3⟩ := m_read (nT := nT) hk hf hn FU true true [] 0 cs (te k f p) (true, te k f p', cs ++ c) _ (by
          have := j2 (FU - jj - 1)
          rw [show FU - jj - 1 + jj + 1 = FU by unfold FU; omega] at this
          exact this) m0 I0 (by omega) (by show 0 + _ ≤ _; omega) a1
        obtain ⟨y24, -, y32, y9, -⟩ := m3.1 rfl
        rw [eE, show f_X10_eRead_L14 FU 1 1 _ = _ from m1, jbp_s, bI_t, if10] at ey
        unfold f_X10_text_L94 at ey
        rw [jlet_s, nI_1] at ey
        rw [bI_s, if10, r3'.2.1.2.2.1, g2, if_pos (show nI 59 = 59 from rfl), x1, jb_s, jix_t hj (by omega), nI_clamp (by omega), x3.2.2.1, jlet_s, jlet_s, nI_1] at ex
        have hlen : (cs ++ c).length = cs.length + c.length := List.length_append
        have yT : EY nT τ τ4 := ys.trans (y3'.trans m2.ey)
        have tq4 : TQ k f τ4 := by
          have q := (tq.nm e2)
          refine ⟨?_, fun i hi => ?_, q.2.2.cg ?_⟩
          · rw [m2.1 9 (by omega), gA_sA_nj (by omega), gA_sA_nj (by omega), gA_sA_ne (by omega)]; exact q.1
          · rw [m2.2.1 8 (by omega) (by omega) (by omega), gA_sA_ne (by omega), gA_sA_ne (by omega), gA_sA_ne (by omega)]; exact q.2.1 i hi
          · rw [m2.2.1 18 (by omega) (by omega) (by omega), gA_sA_ne (by omega), gA_sA_ne (by omega), gA_sA_ne (by omega)]
        have hMY : MY k f nT (cs ++ c) (fun i => if i = j then (cs ++ c).length else e i) (j + 1) (te k f p') τ4 := by
          refine ⟨tq4, ?_, y24, y32, y9, fun i hi => ?_⟩
          · rw [m2.1 12 (by omega), gA_sA_nj (by omega), gA_sA_nj (by omega), gA_sA_ne (by omega)]; exact g12
          · rw [m2.2.1 10 (by omega) (by omega) (by omega), gA_sA_ne (by omega), gA_sA_ne (by omega), eb_upd (by omega)]
            by_cases z : i = j
            · subst z
              rw [gA_sA_eq, hpq.2]
            · rw [gA_sA_nj (by omega), e2.1 10 (by omega)]
              exact h10 i (by omega)
        have hAT : AT k f (te k f p') (cs ++ c) (sA σ3 23 j (nI (cs ++ c).length)) := by
          obtain ⟨⟨q1, q2⟩, ⟨q3, q4, q5, q6⟩, q7, q8⟩ := x3
          exact ⟨⟨by rw [gA_sA_ne (by omega)]; exact q1, fun i hi => by rw [gA_sA_ne (by omega)]; exact q2 i hi⟩, ⟨by rw [gA_sA_ne (by omega)]; exact q3, by rw [gA_sA_ne (by omega)]; exact q4, by rw [gA_sA_ne (by omega)]; exact q5, fun z => by rw [gA_sA_ne (by omega)]; exact q6 z⟩, by rw [gA_sA_ne (by omega)]; exact q7, fun i hi => by rw [gA_sA_ne (by omega)]; exact q8 i hi⟩
        have xX : RX σ (sA σ3 23 j (nI (cs ++ c).length)) := (((c2.trans r2).trans x2).rx).trans ⟨fun k a b c => gA_sA_ne c, fun k => rfl⟩
        have hE : ∀ i, i < j + 1 → gA (sA σ3 23 j (nI (cs ++ c).length)) 23 i = nI (if i = j then (cs ++ c).length else e i) := fun i hi => by
          by_cases z : i = j
          · subst z
            rw [gA_sA_eq, if_pos rfl]
          · rw [gA_sA_nj z, if_neg z, x2.1 23 (by omega) (by omega), r2.1 23 (by omega) (by omega), c2.1 23 (by omega) (by omega)]
            exact hends i (by omega)
        have zf : ZF (tt k f) (te k f) (cd k f) n (d + 1) j p = ZF (tt k f) (te k f) (cd k f) n d (j + 1) (te k f p') := by
          show (if tt k f p = 4 + j then _ else _) = _
          rw [if_pos t4, hres]
          show (if tt k f p' = 59 then _ else _) = _
          rw [if_pos g2]
        obtain ⟨i1, i2⟩ := ih (j + 1) (te k f p') (cs ++ c) (fun i => if i = j then (cs ++ c).length else e i) (sA σ3 23 j (nI (cs ++ c).length)) τ4 fuel (fuel2 + 1) (by omega) b1 (by omega) hAT hE (hpq.step hc1) hMY (by omega) (by omega)
        rw [zf, ex, ey]
        refine ⟨fun q hq => ?_, fun hq => ?_⟩
        · obtain ⟨u0, σ', τ', u1, u2, u3, u4, u5, u6⟩ := i1 q hq
          exact ⟨u0, σ', τ', u1, xX.trans u2, u3, yT.trans u4, u5, u6⟩
        · obtain ⟨σ', τ', T, u1, u2, u3, u4, u5⟩ := i2 hq
          exact ⟨σ', τ', T, u1, xX.trans u2, u3, yT.trans u4, u5⟩
      · have hbad : res = none ∨ tt k f p' ≠ 59 := by
          cases res with
          | none => exact Or.inl rfl
          | some c => exact Or.inr (fun z => good ⟨rfl, z⟩)
        obtain ⟨jj, j1, out', j2⟩ := se2 hbad
        obtain ⟨τ4, m1, m2, m3⟩ := m_read (nT := nT) hk hf hn FU true true [] 0 cs (te k f p) (false, p', out') _ (by
          have := j2 (FU - jj - 1)
          rw [show FU - jj - 1 + jj + 1 = FU by unfold FU; omega] at this
          exact this) m0 I0 (by omega) (by show 0 + _ ≤ _; omega) a1
        have y25 := m3.2 rfl
        rw [eE, show f_X10_eRead_L14 FU 1 1 _ = _ from m1, jbp_s, bI_f, if00] at ey
        have yT : EY nT τ τ4 := ys.trans (y3'.trans m2.ey)
        obtain ⟨τ', v1, v2, v3, v4⟩ := mfail τ4 (tb k f p') (by rw [m2.1 12 (by omega), gA_sA_nj (by omega), gA_sA_nj (by omega), gA_sA_ne (by omega)]; exact g12) y25 yT
        have zf : ZF (tt k f) (te k f) (cd k f) n (d + 1) j p = some p' := by
          show (if tt k f p = 4 + j then _ else _) = _
          rw [if_pos t4, hres]
          cases res with
          | none => rfl
          | some c =>
            show (if tt k f p' = 59 then _ else _) = _
            rw [if_neg (hbad.resolve_left (fun z => by cases z))]
        have ex2 : f_X4_read_L16 (fuel + 1) (nI j) σ = some (nI (tb k f p'), σ2) := by
          rw [ex]
          cases res with
          | none =>
            have r3' : gA σ2 3 5 = nI (tb k f p') := r3
            rw [bI_n, if00]
            unfold f_X4_read_L59
            rw [r3']
          | some c =>
            have r3' : AT k f p' (cs ++ c) σ2 := r3
            have htl1 := tt_lt hf w2
            rw [bI_s, if10, r3'.2.1.2.2.1, if_neg (show ¬ nI (tt k f p') = 59 from fun z => (hbad.resolve_left (fun z => by cases z)) ((nI_eq (b := 59) (by omega) (by omega)).mp z))]
            unfold f_X4_read_L59
            rw [r3'.2.1.1]
        rw [zf, ex2, ey]
        refine ⟨fun q hq => ?_, fun hq => by cases hq⟩
        cases hq
        exact ⟨w2, σ2, τ', rfl, (c2.trans r2).rx, v1, v2, v3, v4⟩
    · have zf : ZF (tt k f) (te k f) (cd k f) n (d + 1) j p = some p := by
        show (if tt k f p = 4 + j then _ else _) = _
        rw [if_neg t4]
      have ex : f_X4_read_L16 (fuel + 1) (nI j) σ = some (nI (tb k f p), σ) := by
        rw [ef_X4_read_L16, if_neg (nle3 hj), jix_t hj (by omega), hat.2.1.2.2.1, htab, if_neg (show ¬ nI (tt k f p) = nI (4 + j) from fun z => t4 (teq.mp z)), hat.2.1.1]
      have ey2 : f_X10_text_L26 (fuel2 + 1 + 1) 1 (nI j) τ = f_X10_text_L93 (f_X10_text_L26 (fuel2 + 1)) (nI j) (sA s2 10 (4 * nT + j) (nI cs.length)) := by
        have : f_X10_text_L59 (f_X10_text_L26 (fuel2 + 1)) (nI j) s2 = f_X10_text_L93 (f_X10_text_L26 (fuel2 + 1)) (nI j) (sA s2 10 (4 * nT + j) (nI cs.length)) := by
          unfold f_X10_text_L59
          rw [e60 0, if00]
        rw [ey, this]
        by_cases q3 : mT (tt k f p) = 3
        · rw [if_neg (show ¬ ¬ mT (tt k f p) = 3 from fun z => z q3)]
          have q46 := (mT_3 _ htl).1.mp q3
          have hv : gA s2 0 27 = nI (tt k f p - 4) := by
            rw [e3.2.2.2 (by omega)]
            unfold mV
            rw [if_neg (by omega), if_neg (by omega)]
          rw [hv, if_pos (show ¬ nI (tt k f p - 4) = nI j from fun z => by have := (nI_eq (by omega) (by omega)).mp z; omega)]
        · rw [if_pos q3]
      obtain ⟨τ', v1, v2, v3, v4⟩ := mfail (sA s2 10 (4 * nT + j) (nI cs.length)) (tb k f p) (by rw [gA_sA_ne (by omega)]; exact g12) (by rw [gA_sA_ne (by omega)]; exact e3.2.1) ys
      rw [zf, ex, ey2]
      refine ⟨fun q hq => ?_, fun hq => by cases hq⟩
      cases hq
      exact ⟨hp, σ, τ', rfl, RX.rf, v1, v2, v3, v4⟩
