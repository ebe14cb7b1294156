/-! ===== the class's reader ===== -/
theorem tt_lt {k : Nat} {f : Nat → Nat} {p : Nat} (hf : ∀ i, i < k → f i < 256) (hp : p ≤ k) : tt k f p < 256 := by
  have hb := tb_b (f := f) hp
  unfold tt
  have h2 : ∀ w, w ≤ 12 → wtok w < 256 := by decide
  split
  · omega
  · split
    · exact h2 _ (Zwd_s f _ _).1
    · split
      · split <;> omega
      · split
        · exact hf _ (by omega)
        · omega
theorem tka {k : Nat} {f : Nat → Nat} : TKA k (tt k f) (te k f) (cd k f) := fun p hp => ⟨(te_le hp).2, fun h => (tt_0 hp h).2, (cd_b hp).1, (cd_b hp).2⟩
theorem gD_app {a b : List Nat} {i : Nat} (h : i < a.length) : (a ++ b).getD i 0 = a.getD i 0 := by
  rw [List.getD_eq_getElem?_getD, List.getElem?_append_left h, ← List.getD_eq_getElem?_getD]
theorem gD_at {a : List Nat} {q : Nat} : (a ++ [q]).getD a.length 0 = q := by
  rw [List.getD_eq_getElem?_getD, List.getElem?_append_right (Nat.le_refl _), Nat.sub_self]; rfl
def AT (k : Nat) (f : Nat → Nat) (p : Nat) (cs : List Nat) (σ : ST) : Prop := TP k f σ ∧ TK k f p σ ∧ gA σ 3 4 = nI cs.length ∧ ∀ i, i < cs.length → gA σ 22 i = xC (cs.getD i 0)
def RDX (σ σ' : ST) : Prop := (∀ k, k ≠ 3 → k ≠ 22 → gA σ' k = gA σ k) ∧ (∀ k, gB σ' k = gB σ k) ∧ gA σ' 3 1 = gA σ 3 1
theorem RDX.rf {σ : ST} : RDX σ σ := ⟨fun _ _ _ => rfl, fun _ => rfl, rfl⟩
theorem RDX.trans {σ σ' σ'' : ST} (h : RDX σ σ') (h2 : RDX σ' σ'') : RDX σ σ'' := ⟨fun k q q2 => (h2.1 k q q2).trans (h.1 k q q2), fun k => (h2.2.1 k).trans (h.2.1 k), h2.2.2.trans h.2.2⟩
theorem NXT.rd {σ σ' : ST} (h : NXT σ σ') : RDX σ σ' := ⟨fun k q _ => h.1 k q, h.2.1, h.2.2.1⟩
theorem AT.next {k p : Nat} {f : Nat → Nat} {cs : List Nat} {σ : ST} (h : AT k f p cs σ) (hk : k ≤ 160) (hf : ∀ i, i < k → f i < 256) (hp : p ≤ k) : ∃ σ', f_X4_next σ = some σ' ∧ RDX σ σ' ∧ AT k f (te k f p) cs σ' := by
  obtain ⟨h1, h2, h3, h4⟩ := h
  obtain ⟨σ', e1, e2, e3⟩ := xnext hk hf h1 (te_le (f := f) hp).2 h2.2.1
  exact ⟨σ', e1, e2.rd, h1.nx e2, e3, by rw [e2.2.2.2]; exact h3, fun i hi => by rw [e2.1 22 (by omega)]; exact h4 i hi⟩
theorem AT.write {k p q : Nat} {f : Nat → Nat} {cs : List Nat} {σ : ST} (h : AT k f p cs σ) (hl : cs.length < 160) : ∃ σ', f_X4_write (xC q) σ = some σ' ∧ RDX σ σ' ∧ AT k f p (cs ++ [q]) σ' := by
  obtain ⟨⟨h1, h1'⟩, ⟨t1, t2, t3, t4⟩, h3, h4⟩ := h
  unfold f_X4_write
  rw [h3, if_neg (nle160 hl), jlet_s, jix_t hl (by omega), jlet_s, nI_clamp (by omega), nI_1]
  refine ⟨_, rfl, ⟨fun k q1 q2 => by rw [gA_sA_ne q2, gA_sA_ne q1], fun k => rfl, (by simp (disch := omega) only [gA_sA_ne, gA_sA_nj, gB_sA, gA_sB, gB_sB_ne, gA_rA_ne, gB_rA, gA_rB, gB_rB_ne])⟩, ⟨?_, fun i hi => ?_⟩, ⟨?_, ?_, ?_, fun z => ?_⟩, ?_, fun i hi => ?_⟩
  · rw [gA_sA_ne (by omega), gA_sA_nj (by omega)]; exact h1
  · rw [gA_sA_ne (by omega), gA_sA_ne (by omega)]; exact h1' i hi
  · rw [gA_sA_ne (by omega), gA_sA_nj (by omega)]; exact t1
  · rw [gA_sA_ne (by omega), gA_sA_nj (by omega)]; exact t2
  · rw [gA_sA_ne (by omega), gA_sA_nj (by omega)]; exact t3
  · rw [gA_sA_ne (by omega), gA_sA_nj (by omega)]; exact t4 z
  · rw [gA_sA_ne (by omega), gA_sA_eq, List.length_append]; rfl
  · rw [List.length_append] at hi
    by_cases e : i = cs.length
    · subst e
      rw [gA_sA_eq, gD_at]
    · have hi2 : i < cs.length := by
        have : [q].length = 1 := rfl
        omega
      rw [gA_sA_nj e, gA_sA_ne (by omega), gD_app hi2]
      exact h4 i hi2
def OutX (k : Nat) (f : Nat → Nat) (p : Nat) (cs : List Nat) (res : Option (List Nat)) (σ : ST) : Prop := match res with
  | none => gA σ 3 5 = nI (tb k f p)
  | some c => AT k f p (cs ++ c) σ
theorem bI_s {c : List Nat} : bI (some c).isSome = 1 := rfl
theorem bI_n : bI (none : Option (List Nat)).isSome = 0 := rfl
def TL (d l fuel : Nat) (v1 v2 : Int32) (σ : ST) : Option (Int32 × ST) := if l = 6 then f_X4_readEither_L12 (f_RD d) fuel v1 v2 σ else if l = 7 then f_X4_readBoth_L12 (f_RD d) fuel v1 v2 σ else if l = 8 then f_X4_readSum_L12 (f_RD d) fuel v1 v2 σ else f_X4_readTerm_L12 (f_RD d) fuel v1 v2 σ
theorem TL_s {d l fuel i t : Nat} {v1 : Int32} {σ : ST} (hl : 6 ≤ l) (hl2 : l < 10) (hi : i < 160) (h7 : gA σ 3 7 = nI t) (ht : t < 256) : TL d l (fuel + 1) v1 (nI i) σ = if lop l t = 0 then some (1, σ) else jb (f_X4_next σ) (fun s2 => jbp (f_RD d (lin l) v1 s2) (fun y3 s4 => if ¬ y3 = 0 then jb (f_X4_write (xC (lop l t)) s4) (fun s6 => TL d l fuel v1 (nI (i + 1)) s6) else some (0, s4))) := by
  have te : ∀ c : Nat, c < 256 → (nI t = nI c ↔ t = c) := fun c hc => nI_eq (by omega) (by omega)
  unfold TL
  rcases (show l = 6 ∨ l = 7 ∨ l = 8 ∨ l = 9 by omega) with rfl | rfl | rfl | rfl
  · rw [if_pos rfl, ef_X4_readEither_L12, if_neg (nle160 hi), h7]
    by_cases q : t = 7
    · subst q
      rw [if_neg (show ¬ ¬ nI 7 = 7 by decide), if_neg (show ¬ lop 6 7 = 0 by decide), nI_1]
      rfl
    · rw [if_pos (show ¬ nI t = 7 from fun z => q ((te 7 (by omega)).mp z)), if_pos (show lop 6 t = 0 by unfold lop; rw [if_pos rfl, if_neg q])]
  · rw [if_neg (by omega), if_pos rfl, ef_X4_readBoth_L12, if_neg (nle160 hi), h7]
    by_cases q : t = 8
    · subst q
      rw [if_neg (show ¬ ¬ nI 8 = 8 by decide), if_neg (show ¬ lop 7 8 = 0 by decide), nI_1]
      rfl
    · rw [if_pos (show ¬ nI t = 8 from fun z => q ((te 8 (by omega)).mp z)), if_pos (show lop 7 t = 0 by unfold lop; rw [if_neg (by omega), if_pos rfl, if_neg q])]
  · rw [if_neg (by omega), if_neg (by omega), if_pos rfl, ef_X4_readSum_L12, if_neg (nle160 hi), h7]
    unfold f_X4_readSum_L37 f_X4_readSum_L53
    rw [h7]
    by_cases q : t = 43
    · subst q
      rw [if_pos (show nI 43 = 43 by decide), if_neg (show ¬ ¬ nI 43 = 43 by decide), if_neg (show ¬ lop 8 43 = 0 by decide), nI_1]
      rfl
    · have q' : ¬ nI t = 43 := fun z => q ((te 43 (by omega)).mp z)
      by_cases q2 : t = 45
      · subst q2
        rw [if_neg q', if_neg (show ¬ ¬ nI 45 = 45 by decide), if_pos q', if_neg (show ¬ lop 8 45 = 0 by decide), nI_1]
        rfl
      · rw [if_neg q', if_pos (show ¬ nI t = 45 from fun z => q2 ((te 45 (by omega)).mp z)), if_pos (show lop 8 t = 0 by unfold lop; rw [if_neg (by omega), if_neg (by omega), if_pos rfl, if_neg q, if_neg q2])]
  · rw [if_neg (by omega), if_neg (by omega), if_neg (by omega), ef_X4_readTerm_L12, if_neg (nle160 hi), h7]
    by_cases q : t = 42
    · subst q
      rw [if_neg (show ¬ ¬ nI 42 = 42 by decide), if_neg (show ¬ lop 9 42 = 0 by decide), nI_1]
      rfl
    · rw [if_pos (show ¬ nI t = 42 from fun z => q ((te 42 (by omega)).mp z)), if_pos (show lop 9 t = 0 by unfold lop; rw [if_neg (by omega), if_neg (by omega), if_neg (by omega), if_neg q])]
theorem TL_160 {d l fuel : Nat} {v1 : Int32} {σ : ST} (hl : 6 ≤ l) (hl2 : l < 10) : TL d l (fuel + 1) v1 (nI 160) σ = some (1, σ) := by
  unfold TL
  rcases (show l = 6 ∨ l = 7 ∨ l = 8 ∨ l = 9 by omega) with rfl | rfl | rfl | rfl
  · rw [if_pos rfl, ef_X4_readEither_L12, if_pos (by decide)]
  · rw [if_neg (by omega), if_pos rfl, ef_X4_readBoth_L12, if_pos (by decide)]
  · rw [if_neg (by omega), if_neg (by omega), if_pos rfl, ef_X4_readSum_L12, if_pos (by decide)]
  · rw [if_neg (by omega), if_neg (by omega), if_neg (by omega), ef_X4_readTerm_L12, if_pos (by decide)]
theorem TL_6 {d fuel : Nat} {v1 v2 : Int32} {σ : ST} : TL d 6 fuel v1 v2 σ = f_X4_readEither_L12 (f_RD d) fuel v1 v2 σ := if_pos rfl
theorem TL_7 {d fuel : Nat} {v1 v2 : Int32} {σ : ST} : TL d 7 fuel v1 v2 σ = f_X4_readBoth_L12 (f_RD d) fuel v1 v2 σ := by
  unfold TL
  rw [if_neg (by omega), if_pos rfl]
theorem TL_8 {d fuel : Nat} {v1 v2 : Int32} {σ : ST} : TL d 8 fuel v1 v2 σ = f_X4_readSum_L12 (f_RD d) fuel v1 v2 σ := by
  unfold TL
  rw [if_neg (by omega), if_neg (by omega), if_pos rfl]
theorem TL_9 {d fuel : Nat} {v1 v2 : Int32} {σ : ST} : TL d 9 fuel v1 v2 σ = f_X4_readTerm_L12 (f_RD d) fuel v1 v2 σ := by
  unfold TL
  rw [if_neg (by omega), if_neg (by omega), if_neg (by omega)]
theorem RD_L {d l : Nat} {v1 : Int32} {σ : ST} (h : l = 0 ∨ l = 1 ∨ l = 3 ∨ l = 4) : f_RD (d + 1) l v1 σ = jbp (f_RD d (lin (ltl l)) v1 σ) (fun y1 s2 => if ¬ y1 = 0 then TL d (ltl l) FU v1 0 s2 else some (0, s2)) := by
  rcases h with rfl | rfl | rfl | rfl
  · show f_X4_readEither (f_RD d) v1 σ = jbp (f_RD d 1 v1 σ) (fun y1 s2 => if ¬ y1 = 0 then TL d 6 FU v1 0 s2 else some (0, s2))
    unfold f_X4_readEither
    simp only [TL_6]
  · show f_X4_readBoth (f_RD d) v1 σ = jbp (f_RD d 2 v1 σ) (fun y1 s2 => if ¬ y1 = 0 then TL d 7 FU v1 0 s2 else some (0, s2))
    unfold f_X4_readBoth
    simp only [TL_7]
  · show f_X4_readSum (f_RD d) v1 σ = jbp (f_RD d 4 v1 σ) (fun y1 s2 => if ¬ y1 = 0 then TL d 8 FU v1 0 s2 else some (0, s2))
    unfold f_X4_readSum
    simp only [TL_8]
  · show f_X4_readTerm (f_RD d) v1 σ = jbp (f_RD d 5 v1 σ) (fun y1 s2 => if ¬ y1 = 0 then TL d 9 FU v1 0 s2 else some (0, s2))
    unfold f_X4_readTerm
    simp only [TL_9]
theorem xC_ops : xC 13 = -7 ∧ xC 14 = -11 ∧ xC 15 = -12 ∧ xC 19 = -8 := by decide
theorem xread {k : Nat} {f : Nat → Nat} (hk : k ≤ 160) (hf : ∀ i, i < k → f i < 256) : ∀ n l o p σ cs p' res, PR (tt k f) (te k f) (cd k f) n l o p = some (p', res) → o ≤ 5 → p ≤ k → cs.length ≤ p → AT k f p cs σ → (l < 6 → ∀ d, (6 - l) + 6 * (5 - o) ≤ d → ∃ σ', f_RD d l (nI o) σ = some (bI res.isSome, σ') ∧ RDX σ σ' ∧ OutX k f p' cs res σ') ∧ (6 ≤ l → l < 10 → ∀ d i fuel, (6 - lin l) + 6 * (5 - o) ≤ d → i ≤ p → 161 ≤ i + fuel → ∃ σ', TL d l fuel (nI o) (nI i) σ = some (bI res.isSome, σ') ∧ RDX σ σ' ∧ OutX k f p' cs res σ') := by
  intro n
  induction n with
  | zero => intro l o p σ cs p' res h; cases h
  | succ n ih =>
    intro l o p σ cs p' res h ho hp hcs hat
    rw [PR_s] at h
    unfold PB at h
    have hA := tka (k := k) (f := f)
    obtain ⟨a1, a2, a3, a4⟩ := hA p hp
    have htk := hat.2.1
    have htl := tt_lt hf hp
    have teq : ∀ c : Nat, c < 256 → (nI (tt k f p) = nI c ↔ tt k f p = c) := fun c hc => nI_eq (by omega) (by omega)
    have bad : gA σ 3 5 = nI (tb k f p) := htk.1
    by_cases h2 : l = 2
    · rw [if_pos h2] at h
      subst h2
      refine ⟨fun _ d hd => ?_, fun z => by omega⟩
      obtain ⟨d, rfl⟩ : ∃ e, d = e + 1 := ⟨d - 1, by omega⟩
      show ∃ σ', f_X4_readNot (f_RD d) (nI o) σ = _ ∧ _
      unfold f_X4_readNot
      rw [htk.2.2.1]
      by_cases t9 : tt k f p = 9
      · rw [if_pos t9] at h
        have hlt := a2 (by omega)
        rw [if_neg (show ¬ ¬ nI (tt k f p) = 9 by rw [t9]; decide)]
        by_cases ho5 : o < 5
        · rw [if_pos ho5] at h
          rw [if_pos (show nI o < 5 from nI_lt (b := 5) ho5 (by decide))]
          obtain ⟨σ1, e1, e2, e3⟩ := hat.next hk hf hp
          rw [e1, jb_s, nI_1]
          rcases pth_r h with ⟨q1, q2⟩ | ⟨p1, c1, q1, q2⟩
          · obtain ⟨σ2, r1, r2, r3⟩ := (ih _ _ _ σ1 cs _ _ q1 (by omega) a1 (by omega) e3).1 (by omega) d (by omega)
            rw [r1, jbp_s, bI_n, ifN0, q2]
            exact ⟨σ2, rfl, e2.trans r2, r3⟩
          · obtain ⟨σ2, r1, r2, r3⟩ := (ih _ _ _ σ1 cs _ _ q1 (by omega) a1 (by omega) e3).1 (by omega) d (by omega)
            obtain ⟨w1, w2, w3⟩ := PR_ok hA _ _ _ _ _ _ q1 a1
            have w4 := (w3 c1 rfl).1
            obtain ⟨σ3, x1, x2, x3⟩ := AT.write (q := 13) r3 (by rw [List.length_append]; omega)
            cases q2
            rw [r1, jbp_s, bI_s, ifN1, ← xC_ops.1, x1, jb_s]
            refine ⟨σ3, rfl, (e2.trans r2).trans x2, ?_⟩
            rw [List.append_assoc] at x3
            exact x3
        · rw [if_neg ho5] at h
          rw [if_neg (show ¬ nI o < 5 from nI_nlt (b := 5) (by omega) (by omega))]
          cases h
          exact ⟨σ, rfl, RDX.rf, bad⟩
      · rw [if_neg t9] at h
        rw [if_pos (show ¬ nI (tt k f p) = 9 from fun z => t9 ((teq 9 (by omega)).mp z))]
        rcases pth_r h with ⟨q1, q2⟩ | ⟨p1, c1, q1, q2⟩
        · obtain ⟨σ2, r1, r2, r3⟩ := (ih _ _ _ σ cs _ _ q1 ho hp hcs hat).1 (by omega) d (by omega)
          rw [r1, jbp_s, bI_n, ifN0, q2]
          exact ⟨σ2, rfl, r2, r3⟩
        · obtain ⟨σ2, r1, r2, r3⟩ := (ih _ _ _ σ cs _ _ q1 ho hp hcs hat).1 (by omega) d (by omega)
          obtain ⟨w1, w2, w3⟩ := PR_ok hA _ _ _ _ _ _ q1 hp
          have w4 := (w3 c1 rfl).1
          have r3' : AT k f p1 (cs ++ c1) σ2 := r3
          have htl1 := tt_lt hf w2
          rw [r1, jbp_s, bI_s, ifN1, r3'.2.1.2.2.1]
          have teq1 : ∀ c : Nat, c < 256 → (nI (tt k f p1) = nI c ↔ tt k f p1 = c) := fun c hc => nI_eq (by omega) (by omega)
          by_cases t60 : tt k f p1 = 60 ∨ tt k f p1 = 61
          · rw [if_pos t60] at q2
            obtain ⟨b1, b2, -⟩ := hA p1 w2
            have hlt2 := b2 (by omega)
            -- both ways lead to the same
            have key : ∀ q : Nat, q = (if tt k f p1 = 60 then 14 else 15) → ∃ σ', f_X4_readNot_L86 (f_RD d) (nI o) (xC q) σ2 = some (bI res.isSome, σ') ∧ RDX σ σ' ∧ OutX k f p' cs res σ' := by
              intro q hq
              unfold f_X4_readNot_L86
              obtain ⟨σ3, e1, e2, e3⟩ := r3'.next hk hf w2
              rw [e1, jb_s]
              rcases pth_r q2 with ⟨y1, y2⟩ | ⟨p2, c2, y1, y2⟩
              · obtain ⟨σ4, x1, x2, x3⟩ := (ih _ _ _ σ3 (cs ++ c1) _ _ y1 ho b1 (by rw [List.length_append]; omega) e3).1 (by omega) d (by omega)
                rw [x1, jbp_s, bI_n, ifN0, y2]
                exact ⟨σ4, rfl, (r2.trans e2).trans x2, x3⟩
              · obtain ⟨σ4, x1, x2, x3⟩ := (ih _ _ _ σ3 (cs ++ c1) _ _ y1 ho b1 (by rw [List.length_append]; omega) e3).1 (by omega) d (by omega)
                obtain ⟨v1, v2, v3⟩ := PR_ok hA _ _ _ _ _ _ y1 b1
                have v4 := (v3 c2 rfl).1
                obtain ⟨σ5, z1, z2, z3⟩ := AT.write (q := q) x3 (by simp only [List.length_append]; omega)
                cases y2
                rw [x1, jbp_s, bI_s, ifN1, z1, jb_s]
                refine ⟨σ5, rfl, ((r2.trans e2).trans x2).trans z2, ?_⟩
                rw [List.append_assoc, List.append_assoc] at z3
                show AT k f _ (cs ++ (c1 ++ (c2 ++ [if tt k f p1 = 60 then 14 else 15]))) σ5
                rw [← hq]
                exact z3
            unfold f_X4_readNot_L70
            rw [r3'.2.1.2.2.1]
            by_cases t6 : tt k f p1 = 60
            · rw [if_pos (show nI (tt k f p1) = 60 by rw [t6]; rfl), if_neg (show ¬ ¬ nI (tt k f p1) = 60 by rw [t6]; decide), ← xC_ops.2.1]
              exact key 14 (by rw [if_pos t6])
            · have t61 : tt k f p1 = 61 := by omega
              rw [if_neg (show ¬ nI (tt k f p1) = 60 by rw [t61]; decide), if_pos (show nI (tt k f p1) = 61 by rw [t61]; rfl), if_pos (show ¬ nI (tt k f p1) = 60 by rw [t61]; decide), ← xC_ops.2.2.1]
              exact key 15 (by rw [if_neg t6])
          · rw [if_neg t60] at q2
            cases q2
            rw [if_neg (show ¬ nI (tt k f p') = 60 from fun z => t60 (Or.inl ((teq1 60 (by omega)).mp z))), if_neg (show ¬ nI (tt k f p') = 61 from fun z => t60 (Or.inr ((teq1 61 (by omega)).mp z)))]
            exact ⟨σ2, rfl, r2, r3⟩
    · rw [if_neg h2] at h
      by_cases h5 : l = 5
      · rw [if_pos h5] at h
        subst h5
        refine ⟨fun _ d hd => ?_, fun z => by omega⟩
        obtain ⟨d, rfl⟩ : ∃ e, d = e + 1 := ⟨d - 1, by omega⟩
        show ∃ σ', f_X4_readOne (f_RD d) (nI o) σ = _ ∧ _
        unfold f_X4_readOne f_X4_readOne_L16
        rw [htk.2.2.1]
        by_cases t2 : tt k f p = 2 ∨ tt k f p = 3
        · rw [if_pos t2] at h
          cases h
          have hlt := a2 (by omega)
          have go : ∃ σ', jb (f_X4_write (gA σ 3 8) σ) (fun s2 => jb (f_X4_next s2) (fun s4 => some (1, s4))) = some (bI (some [cd k f p]).isSome, σ') ∧ RDX σ σ' ∧ OutX k f (te k f p) cs (some [cd k f p]) σ' := by
            rw [htk.2.2.2 t2]
            obtain ⟨σ3, x1, x2, x3⟩ := AT.write (q := cd k f p) hat (by omega)
            obtain ⟨σ4, y1, y2, y3⟩ := x3.next hk hf hp
            rw [x1, jb_s, y1, jb_s]
            exact ⟨σ4, rfl, x2.trans y2, y3⟩
          by_cases t22 : tt k f p = 2
          · rw [if_pos (show nI (tt k f p) = 2 by rw [t22]; rfl)]
            exact go
          · have t3 : tt k f p = 3 := by omega
            rw [if_neg (show ¬ nI (tt k f p) = 2 by rw [t3]; decide), if_neg (show ¬ ¬ nI (tt k f p) = 3 by rw [t3]; decide)]
            exact go
        · rw [if_neg t2] at h
          rw [if_neg (show ¬ nI (tt k f p) = 2 from fun z => t2 (Or.inl ((teq 2 (by omega)).mp z))), if_pos (show ¬ nI (tt k f p) = 3 from fun z => t2 (Or.inr ((teq 3 (by omega)).mp z)))]
          by_cases t45 : tt k f p = 45 ∨ tt k f p = 40
          · rw [if_pos t45] at h
            have hlt := a2 (by omega)
            have go : ∃ σ', f_X4_readOne_L48 (f_RD d) (nI o) σ = some (bI res.isSome, σ') ∧ RDX σ σ' ∧ OutX k f p' cs res σ' := by
              unfold f_X4_readOne_L48
              rw [htk.2.2.1]
              by_cases ho5 : o < 5
              · rw [if_pos ho5] at h
                rw [if_pos (show nI o < 5 from nI_lt (b := 5) ho5 (by decide))]
                obtain ⟨σ1, e1, e2, e3⟩ := hat.next hk hf hp
                rw [e1, jb_s, jb_s, nI_1]
                by_cases tm : tt k f p = 45
                · rw [if_pos tm] at h
                  rw [if_neg (show ¬ ¬ nI (tt k f p) = 45 by rw [tm]; decide)]
                  rcases pth_r h with ⟨q1, q2⟩ | ⟨p1, c1, q1, q2⟩
                  · obtain ⟨σ2, r1, r2, r3⟩ := (ih _ _ _ σ1 cs _ _ q1 (by omega) a1 (by omega) e3).1 (by omega) d (by omega)
                    rw [r1, jbp_s, bI_n, ifN0, q2]
                    exact ⟨σ2, rfl, e2.trans r2, r3⟩
                  · obtain ⟨σ2, r1, r2, r3⟩ := (ih _ _ _ σ1 cs _ _ q1 (by omega) a1 (by omega) e3).1 (by omega) d (by omega)
                    obtain ⟨w1, w2, w3⟩ := PR_ok hA _ _ _ _ _ _ q1 a1
                    have w4 := (w3 c1 rfl).1
                    obtain ⟨σ3, x1, x2, x3⟩ := AT.write (q := 19) r3 (by rw [List.length_append]; omega)
                    cases q2
                    rw [r1, jbp_s, bI_s, ifN1, ← xC_ops.2.2.2, x1, jb_s]
                    refine ⟨σ3, rfl, (e2.trans r2).trans x2, ?_⟩
                    rw [List.append_assoc] at x3
                    exact x3
                · rw [if_neg tm] at h
                  rw [if_pos (show ¬ nI (tt k f p) = 45 from fun z => tm ((teq 45 (by omega)).mp z))]
                  rcases pth_r h with ⟨q1, q2⟩ | ⟨p1, c1, q1, q2⟩
                  · obtain ⟨σ2, r1, r2, r3⟩ := (ih _ _ _ σ1 cs _ _ q1 (by omega) a1 (by omega) e3).1 (by omega) d (by omega)
                    rw [r1, jbp_s, bI_n, if00, q2]
                    exact ⟨σ2, rfl, e2.trans r2, r3⟩
                  · obtain ⟨σ2, r1, r2, r3⟩ := (ih _ _ _ σ1 cs _ _ q1 (by omega) a1 (by omega) e3).1 (by omega) d (by omega)
                    obtain ⟨w1, w2, w3⟩ := PR_ok hA _ _ _ _ _ _ q1 a1
                    have r3' : AT k f p1 (cs ++ c1) σ2 := r3
                    have htl1 := tt_lt hf w2
                    rw [r1, jbp_s, bI_s, if10, r3'.2.1.2.2.1]
                    by_cases t41 : tt k f p1 = 41
                    · rw [if_pos t41] at q2
                      cases q2
                      obtain ⟨σ3, x1, x2, x3⟩ := r3'.next hk hf w2
                      rw [if_pos (show nI (tt k f p1) = 41 by rw [t41]; rfl), x1, jb_s]
                      exact ⟨σ3, rfl, (e2.trans r2).trans x2, x3⟩
                    · rw [if_neg t41] at q2
                      cases q2
                      rw [if_neg (show ¬ nI (tt k f p') = 41 from fun z => t41 ((nI_eq (b := 41) (by omega) (by omega)).mp z))]
                      exact ⟨σ2, rfl, e2.trans r2, r3'.2.1.1⟩
              · rw [if_neg ho5] at h
                rw [if_neg (show ¬ nI o < 5 from nI_nlt (b := 5) (by omega) (by omega))]
                cases h
                exact ⟨σ, rfl, RDX.rf, bad⟩
            by_cases tm : tt k f p = 45
            · rw [if_pos (show nI (tt k f p) = 45 by rw [tm]; rfl)]
              exact go
            · have t40 : tt k f p = 40 := by omega
              rw [if_neg (show ¬ nI (tt k f p) = 45 by rw [t40]; decide), if_neg (show ¬ ¬ nI (tt k f p) = 40 by rw [t40]; decide)]
              exact go
          · rw [if_neg t45] at h
            cases h
            rw [if_neg (show ¬ nI (tt k f p) = 45 from fun z => t45 (Or.inl ((teq 45 (by omega)).mp z))), if_pos (show ¬ nI (tt k f p) = 40 from fun z => t45 (Or.inr ((teq 40 (by omega)).mp z)))]
            exact ⟨σ, rfl, RDX.rf, bad⟩
      · rw [if_neg h5] at h
        by_cases hlt5 : l < 5
        · rw [if_pos hlt5] at h
          have hl4 : l = 0 ∨ l = 1 ∨ l = 3 ∨ l = 4 := by omega
          have i1 : lin (ltl l) = l + 1 := by rcases hl4 with rfl | rfl | rfl | rfl <;> rfl
          have i2 : 6 ≤ ltl l ∧ ltl l < 10 := by rcases hl4 with rfl | rfl | rfl | rfl <;> decide
          refine ⟨fun _ d hd => ?_, fun z => by omega⟩
          obtain ⟨d, rfl⟩ : ∃ e, d = e + 1 := ⟨d - 1, by omega⟩
          rw [RD_L hl4]
          rcases pth_r h with ⟨q1, q2⟩ | ⟨p1, c1, q1, q2⟩
          · obtain ⟨σ2, r1, r2, r3⟩ := (ih _ _ _ σ cs _ _ q1 ho hp hcs hat).1 (by omega) d (by omega)
            rw [r1, jbp_s, bI_n, ifN0, q2]
            exact ⟨σ2, rfl, r2, r3⟩
          · obtain ⟨σ2, r1, r2, r3⟩ := (ih _ _ _ σ cs _ _ q1 ho hp hcs hat).1 (by omega) d (by omega)
            obtain ⟨w1, w2, w3⟩ := PR_ok hA _ _ _ _ _ _ q1 hp
            have w4 := (w3 c1 rfl).1
            rw [r1, jbp_s, bI_s, ifN1]
            rcases pad_r q2 with ⟨y1, y2⟩ | ⟨d2, y1, y2⟩
            · obtain ⟨σ3, x1, x2, x3⟩ := (ih _ _ _ σ2 (cs ++ c1) _ _ y1 ho w2 (by rw [List.length_append]; omega) r3).2 i2.1 i2.2 d 0 FU (by omega) (by omega) (by unfold FU; omega)
              rw [y2]
              exact ⟨σ3, x1, r2.trans x2, x3⟩
            · obtain ⟨σ3, x1, x2, x3⟩ := (ih _ _ _ σ2 (cs ++ c1) _ _ y1 ho w2 (by rw [List.length_append]; omega) r3).2 i2.1 i2.2 d 0 FU (by omega) (by omega) (by unfold FU; omega)
              rw [y2]
              refine ⟨σ3, x1, r2.trans x2, ?_⟩
              show AT k f p' (cs ++ (c1 ++ d2)) σ3
              rw [← List.append_assoc]
              exact x3
        · rw [if_neg hlt5] at h
          refine ⟨fun z => by omega, fun hl6 hl10 d i fuel hd hi hfu => ?_⟩
          obtain ⟨fuel, rfl⟩ : ∃ e, fuel = e + 1 := ⟨fuel - 1, by omega⟩
          by_cases h0 : lop l (tt k f p) = 0
          · rw [if_pos h0] at h
            cases h
            have fin : OutX k f p cs (some []) σ := by
              show AT k f p (cs ++ []) σ
              rw [List.append_nil]; exact hat
            rcases (show i < 160 ∨ i = 160 by omega) with hi2 | rfl
            · rw [TL_s hl6 hl10 hi2 htk.2.2.1 htl, if_pos h0]
              exact ⟨σ, rfl, RDX.rf, fin⟩
            · rw [TL_160 hl6 hl10]
              exact ⟨σ, rfl, RDX.rf, fin⟩
          · rw [if_neg h0] at h
            obtain ⟨o1, o2, o3, o4, o5⟩ := lop_op h0
            have hlt := a2 o5
            have i1 : lin l < 6 := by unfold lin; repeat' split
                                      all_goals omega
            rw [TL_s hl6 hl10 (show i < 160 by omega) htk.2.2.1 htl, if_neg h0]
            obtain ⟨σ1, e1, e2, e3⟩ := hat.next hk hf hp
            rw [e1, jb_s]
            rcases pth_r h with ⟨q1, q2⟩ | ⟨p1, c1, q1, q2⟩
            · obtain ⟨σ2, r1, r2, r3⟩ := (ih _ _ _ σ1 cs _ _ q1 ho a1 (by omega) e3).1 i1 d hd
              rw [r1, jbp_s, bI_n, ifN0, q2]
              exact ⟨σ2, rfl, e2.trans r2, r3⟩
            · obtain ⟨σ2, r1, r2, r3⟩ := (ih _ _ _ σ1 cs _ _ q1 ho a1 (by omega) e3).1 i1 d hd
              obtain ⟨w1, w2, w3⟩ := PR_ok hA _ _ _ _ _ _ q1 a1
              have w4 := (w3 c1 rfl).1
              obtain ⟨σ3, x1, x2, x3⟩ := AT.write (q := lop l (tt k f p)) r3 (by rw [List.length_append]; omega)
              rw [r1, jbp_s, bI_s, ifN1, x1, jb_s]
              rcases pad_r q2 with ⟨y1, y2⟩ | ⟨d2, y1, y2⟩
              · obtain ⟨σ4, z1, z2, z3⟩ := (ih _ _ _ σ3 (cs ++ c1 ++ [lop l (tt k f p)]) _ _ y1 ho w2 (by simp only [List.length_append]; show _ + _ + 1 ≤ _; omega) x3).2 hl6 hl10 d (i + 1) fuel hd (by omega) (by omega)
                rw [y2]
                exact ⟨σ4, z1, ((e2.trans r2).trans x2).trans z2, z3⟩
              · obtain ⟨σ4, z1, z2, z3⟩ := (ih _ _ _ σ3 (cs ++ c1 ++ [lop l (tt k f p)]) _ _ y1 ho w2 (by simp only [List.length_append]; show _ + _ + 1 ≤ _; omega) x3).2 hl6 hl10 d (i + 1) fuel hd (by omega) (by omega)
                rw [y2]
                refine ⟨σ4, z1, ((e2.trans r2).trans x2).trans z2, ?_⟩
                show AT k f p' (cs ++ (c1 ++ [lop l (tt k f p)] ++ d2)) σ4
                rw [← List.append_assoc, ← List.append_assoc]
                exact z3
