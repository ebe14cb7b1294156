/-! ===== the reader that keeps its signs: over tokens ===== -/
def rk (s : Nat) : Nat := if s = 0 then 0 else if s = 11 then 1 else if s = 12 then 2 else if s = 13 then 3 else if s ≤ 15 then 4 else if s ≤ 17 then 5 else if s = 18 then 6 else 7
def op1 (s : Nat) : Nat := if s = 13 ∨ s = 19 then 1 else 0
def nop : List Nat → Nat
  | [] => 0
  | x :: r => op1 x + nop r
theorem nop_app : ∀ a b, nop (a ++ b) = nop a + nop b
  | [], b => by show nop b = 0 + nop b; omega
  | x :: r, b => by
    show op1 x + nop (r ++ b) = op1 x + nop r + nop b
    rw [nop_app r b]; omega
abbrev UW : Type := List Nat × Nat × List Nat
def unw (l : Nat) : List Nat → Nat → List Nat → UW
  | [], o, out => ([], o, out)
  | x :: r, o, out => if rk x < l then (x :: r, o, out) else unw l r (o - op1 x) (out ++ [x])
def tr : List Nat → Nat
  | [] => 0
  | x :: _ => rk x
theorem unw_id {l : Nat} {hs : List Nat} {o : Nat} {out : List Nat} (h : tr hs < l) : unw l hs o out = (hs, o, out) := by
  cases hs with
  | nil => rfl
  | cons x r =>
    unfold unw
    rw [if_pos (show rk x < l from h)]
theorem unw_pop {l : Nat} {hs : List Nat} (h : tr hs < l) : ∀ (pend : List Nat) (o : Nat) (out : List Nat), (∀ x, x ∈ pend → l ≤ rk x) → unw l (pend ++ hs) (o + nop pend) out = (hs, o, out ++ pend)
  | [], o, out, _ => by
    show unw l hs (o + 0) out = _
    rw [unw_id h, List.append_nil]; rfl
  | x :: r, o, out, hp => by
    have hx := hp x (by simp)
    show (if rk x < l then _ else unw l (r ++ hs) (o + (op1 x + nop r) - op1 x) (out ++ [x])) = _
    rw [if_neg (by omega), show o + (op1 x + nop r) - op1 x = o + nop r by omega, unw_pop h r o (out ++ [x]) (fun y hy => hp y (by simp [hy]))]
    simp
def sgn (t : Nat) : Nat := if t = 7 then 11 else if t = 8 then 12 else if t = 60 then 14 else if t = 61 then 15 else if t = 43 then 16 else if t = 45 then 17 else if t = 42 then 18 else 0
abbrev RFR : Type := Option (Bool × Nat × List Nat)
abbrev SS : Type := Bool × Bool × List Nat × Nat × List Nat × Nat
def rend (u : UW) (p e : Nat) : RFR := match u.1 with
  | [] => some (true, e, u.2.2)
  | _ :: _ => some (false, p, u.2.2)
def rpar (rc : SS → RFR) (m : Bool) (u : UW) (p e : Nat) : RFR := match u.1 with
  | [] => some (false, p, u.2.2)
  | _ :: r => rc (false, m, (unw 7 r (u.2.1 - 1) u.2.2).1, (unw 7 r (u.2.1 - 1) u.2.2).2.1, (unw 7 r (u.2.1 - 1) u.2.2).2.2, e)
def rsg (rc : SS → RFR) (s : Nat) (u : UW) (p e : Nat) : RFR := if rk s = 4 ∧ tr u.1 = 4 then some (false, p, u.2.2) else rc (true, decide (s ≤ 12), s :: u.1, u.2.1, u.2.2, e)
def RFB (T E C : Nat → Nat) (rc : SS → RFR) (w m : Bool) (hs : List Nat) (o : Nat) (out : List Nat) (p : Nat) : RFR :=
  if w = true then (if T p = 2 ∨ T p = 3 then rc (false, m, (unw 7 hs o (out ++ [C p])).1, (unw 7 hs o (out ++ [C p])).2.1, (unw 7 hs o (out ++ [C p])).2.2, E p)
    else if T p = 9 ∧ m = true then (if o = 5 then some (false, p, out) else rc (true, m, 13 :: hs, o + 1, out, E p))
    else if T p = 45 then (if o = 5 then some (false, p, out) else rc (true, false, 19 :: hs, o + 1, out, E p))
    else if T p = 40 then (if o = 5 then some (false, p, out) else rc (true, true, 0 :: hs, o + 1, out, E p))
    else some (false, p, out))
  else (if T p = 59 then rend (unw 1 hs o out) p (E p)
    else if T p = 41 then rpar rc m (unw 1 hs o out) p (E p)
    else if sgn (T p) = 0 then some (false, p, out)
    else rsg rc (sgn (T p)) (unw (if rk (sgn (T p)) = 4 then 5 else rk (sgn (T p))) hs o out) p (E p))
def RF (T E C : Nat → Nat) : Nat → SS → RFR
  | 0 => fun _ => none
  | n + 1 => fun s => RFB T E C (RF T E C n) s.1 s.2.1 s.2.2.1 s.2.2.2.1 s.2.2.2.2.1 s.2.2.2.2.2
theorem RF_s {T E C : Nat → Nat} {n o p : Nat} {w m : Bool} {hs out : List Nat} : RF T E C (n + 1) (w, m, hs, o, out, p) = RFB T E C (RF T E C n) w m hs o out p := rfl
def GO (T E C : Nat → Nat) (j : Nat) (s s' : SS) : Prop := ∀ N, RF T E C (N + j) s = RF T E C N s'
def FX (T E C : Nat → Nat) (j : Nat) (s : SS) (p : Nat) : Prop := ∃ out', ∀ N, RF T E C (N + j + 1) s = some (false, p, out')
theorem GO.rf {T E C : Nat → Nat} {s : SS} : GO T E C 0 s s := fun _ => rfl
theorem GO.tr {T E C : Nat → Nat} {j j' : Nat} {s s' s'' : SS} (h : GO T E C j s s') (h2 : GO T E C j' s' s'') : GO T E C (j + j') s s'' := fun N => by
  rw [show N + (j + j') = (N + j') + j by omega, h (N + j'), h2 N]
theorem GO.fl {T E C : Nat → Nat} {j j' : Nat} {s s' : SS} {p : Nat} (h : GO T E C j s s') (h2 : FX T E C j' s' p) : FX T E C (j + j') s p := by
  obtain ⟨out', q⟩ := h2
  exact ⟨out', fun N => by rw [show N + (j + j') + 1 = (N + j' + 1) + j by omega, h (N + j' + 1), q N]⟩
/-! ===== what may stand behind ===== -/
def cq (pend : List Nat) : Prop := ∃ a x b, pend = a ++ x :: b ∧ (∀ y, y ∈ a → 5 ≤ rk y) ∧ rk x = 4
theorem cq.app {pend : List Nat} (h : cq pend) (c : List Nat) : cq (pend ++ c) := by
  obtain ⟨a, x, b, rfl, h1, h2⟩ := h
  exact ⟨a, x, b ++ c, by simp, h1, h2⟩
def fol (l : Nat) (pend : List Nat) (t : Nat) : Prop := (l ≤ 4 → t ≠ 42) ∧ (l ≤ 3 → t ≠ 43 ∧ t ≠ 45) ∧ (l ≤ 2 → (t = 60 ∨ t = 61) → cq pend) ∧ (l ≤ 1 → t ≠ 8) ∧ (l = 0 → t ≠ 7)
def Bl (l : Nat) : Nat := if l = 0 then 1 else if l = 1 then 2 else if l = 2 then 4 else if l = 3 then 5 else if l = 4 then 6 else 7
def Rl (l : Nat) : Nat := if l = 0 then 1 else if l = 1 then 2 else if l = 2 then 3 else if l = 3 then 5 else if l = 4 then 6 else 7
def lv (l : Nat) : Nat := if l = 6 then 0 else if l = 7 then 1 else if l = 8 then 3 else 4
def PO (T E C : Nat → Nat) (l o : Nat) (hs out : List Nat) (m : Bool) (p p' : Nat) (res : Option (List Nat)) : Prop :=
  (∀ c, res = some c → ∃ j m' pend out', p + j ≤ p' ∧ GO T E C j (true, m, hs, o, out, p) (false, m', pend ++ hs, o + nop pend, out', p') ∧ out' ++ pend = out ++ c ∧ (∀ x, x ∈ pend → Rl l ≤ rk x) ∧ fol l pend (T p')) ∧ (res = none → ∃ j, p + j ≤ p' ∧ FX T E C j (true, m, hs, o, out, p) p')
def P5 (T E C : Nat → Nat) (o : Nat) (hs out : List Nat) (m : Bool) (p p' : Nat) (res : Option (List Nat)) : Prop :=
  (∀ c, res = some c → ∃ j m', p + j ≤ p' ∧ GO T E C j (true, m, hs, o, out, p) (false, m', (unw 7 hs o (out ++ c)).1, (unw 7 hs o (out ++ c)).2.1, (unw 7 hs o (out ++ c)).2.2, p')) ∧ (res = none → ∃ j, p + j ≤ p' ∧ FX T E C j (true, m, hs, o, out, p) p')
def PT (T E C : Nat → Nat) (l o : Nat) (hs pend outp : List Nat) (m : Bool) (p p' : Nat) (res : Option (List Nat)) : Prop :=
  (∀ c, res = some c → ∃ j m' pend' out', p + j ≤ p' ∧ GO T E C j (false, m, pend ++ hs, o + nop pend, outp, p) (false, m', pend' ++ hs, o + nop pend', out', p') ∧ out' ++ pend' = outp ++ pend ++ c ∧ (∀ x, x ∈ pend' → Rl (lv l) ≤ rk x) ∧ fol (lv l) pend' (T p')) ∧ (res = none → ∃ j, p + j ≤ p' ∧ FX T E C j (false, m, pend ++ hs, o + nop pend, outp, p) p')
theorem P5.uni {T E C : Nat → Nat} {o p p' : Nat} {hs out : List Nat} {m : Bool} {res : Option (List Nat)} (h : P5 T E C o hs out m p p' res) (ht : tr hs < 7) : PO T E C 5 o hs out m p p' res := by
  refine ⟨fun c hc => ?_, h.2⟩
  obtain ⟨j, m', h1, h2⟩ := h.1 c hc
  rw [unw_id ht] at h2
  exact ⟨j, m', [], out ++ c, h1, h2, by rw [List.append_nil], fun x hx => (by cases hx), ⟨fun z => by omega, fun z => by omega, fun z => by omega, fun z => by omega, fun z => by omega⟩⟩
theorem lop_sgn {l t : Nat} (hl : 6 ≤ l) (hl2 : l < 10) (h : lop l t ≠ 0) : sgn t = lop l t ∧ rk (lop l t) = Rl (lv l) ∧ Rl (lv l) ≠ 4 ∧ t ≠ 59 ∧ t ≠ 41 ∧ op1 (lop l t) = 0 ∧ (l ≤ 7 → lop l t ≤ 12) ∧ (8 ≤ l → ¬ lop l t ≤ 12) ∧ rk (lop l t) < Bl (lin l) ∧ Rl (lv l) ≤ Rl (lin l) := by
  unfold lop at h ⊢
  rcases (show l = 6 ∨ l = 7 ∨ l = 8 ∨ l = 9 by omega) with rfl | rfl | rfl | rfl
  · rw [if_pos rfl] at h ⊢
    by_cases q : t = 7
    · subst q; decide
    · rw [if_neg q] at h; exact absurd rfl h
  · rw [if_neg (by omega), if_pos rfl] at h ⊢
    by_cases q : t = 8
    · subst q; decide
    · rw [if_neg q] at h; exact absurd rfl h
  · rw [if_neg (by omega), if_neg (by omega), if_pos rfl] at h ⊢
    by_cases q : t = 43
    · subst q; decide
    · by_cases q2 : t = 45
      · subst q2; decide
      · rw [if_neg q, if_neg q2] at h; exact absurd rfl h
  · rw [if_neg (by omega), if_neg (by omega), if_neg (by omega)] at h ⊢
    by_cases q : t = 42
    · subst q; decide
    · rw [if_neg q] at h; exact absurd rfl h
theorem fol_tail {l t : Nat} {pend : List Nat} (hl : 6 ≤ l) (hl2 : l < 10) (h : fol (lin l) pend t) (h0 : lop l t = 0) : fol (lv l) pend t := by
  obtain ⟨f1, f2, f3, f4, f5⟩ := h
  unfold lop at h0
  rcases (show l = 6 ∨ l = 7 ∨ l = 8 ∨ l = 9 by omega) with rfl | rfl | rfl | rfl
  · rw [if_pos rfl] at h0
    have q : t ≠ 7 := fun q => by rw [if_pos q] at h0; cases h0
    exact ⟨fun _ => f1 (by decide), fun _ => f2 (by decide), fun _ => f3 (by decide), fun _ => f4 (by decide), fun _ => q⟩
  · rw [if_neg (by omega), if_pos rfl] at h0
    have q : t ≠ 8 := fun q => by rw [if_pos q] at h0; cases h0
    exact ⟨fun _ => f1 (by decide), fun _ => f2 (by decide), fun _ => f3 (by decide), fun _ => q, fun z => absurd z (by decide)⟩
  · rw [if_neg (by omega), if_neg (by omega), if_pos rfl] at h0
    have q : t ≠ 43 ∧ t ≠ 45 := by
      refine ⟨fun q => ?_, fun q => ?_⟩
      · rw [if_pos q] at h0; cases h0
      · rw [if_neg (by omega), if_pos q] at h0; cases h0
    exact ⟨fun _ => f1 (by decide), fun _ => q, fun z => absurd z (by decide), fun z => absurd z (by decide), fun z => absurd z (by decide)⟩
  · rw [if_neg (by omega), if_neg (by omega), if_neg (by omega)] at h0
    have q : t ≠ 42 := fun q => by rw [if_pos q] at h0; cases h0
    exact ⟨fun _ => q, fun z => absurd z (by decide), fun z => absurd z (by decide), fun z => absurd z (by decide), fun z => absurd z (by decide)⟩
/-- a sign of the tail's own comes -/
theorem st_tail {T E C : Nat → Nat} {l o p : Nat} {hs pend outp : List Nat} {m : Bool} (hl : 6 ≤ l) (hl2 : l < 10) (h : lop l (T p) ≠ 0) (hb : tr hs < Rl (lv l)) (hp : ∀ x, x ∈ pend → Rl (lv l) ≤ rk x) : GO T E C 1 (false, m, pend ++ hs, o + nop pend, outp, p) (true, decide (lop l (T p) ≤ 12), lop l (T p) :: hs, o, outp ++ pend, E p) := fun N => by
  obtain ⟨s1, s2, s3, s4, s5, -⟩ := lop_sgn hl hl2 h
  rw [RF_s]
  unfold RFB rsg
  rw [if_neg (by decide), if_neg s4, if_neg s5, s1, if_neg h, s2, if_neg s3, unw_pop hb pend o outp hp, if_neg (fun z => s3 z.1)]
/-- a sign between sums comes -/
theorem st_cmp {T E C : Nat → Nat} {o p : Nat} {hs pend outp : List Nat} {m : Bool} (h : T p = 60 ∨ T p = 61) (hb : tr hs < 4) (hp : ∀ x, x ∈ pend → 5 ≤ rk x) : GO T E C 1 (false, m, pend ++ hs, o + nop pend, outp, p) (true, false, (if T p = 60 then 14 else 15) :: hs, o, outp ++ pend, E p) := fun N => by
  have s1 : sgn (T p) = if T p = 60 then 14 else 15 := by
    rcases h with h | h
    · rw [h]; decide
    · rw [h]; decide
  have s2 : rk (if T p = 60 then 14 else 15) = 4 := by split <;> rfl
  have s3 : decide ((if T p = 60 then 14 else 15) ≤ 12) = false := by split <;> rfl
  rw [RF_s]
  unfold RFB rsg
  rw [if_neg (by decide), if_neg (by omega), if_neg (by omega), s1, if_neg (by split <;> omega), s2, if_pos rfl, unw_pop (by omega) pend o outp hp, if_neg (fun z => by have := z.2; simp only at this; omega), s3]
/-- nothing that can stand there: neither a sign that goes on, nor ) -/
theorem st_bad {T E C : Nat → Nat} {o p : Nat} {hs pend outp : List Nat} {m : Bool} (hf : fol 0 pend (T p)) (h41 : T p ≠ 41) (h59 : T p = 59 → hs ≠ []) (hb : tr hs < 1) (hp : ∀ x, x ∈ pend → 1 ≤ rk x) : FX T E C 0 (false, m, pend ++ hs, o + nop pend, outp, p) p := by
  obtain ⟨f1, f2, f3, f4, f5⟩ := hf
  by_cases t59 : T p = 59
  · refine ⟨outp ++ pend, fun N => ?_⟩
    rw [Nat.add_zero, RF_s]
    unfold RFB rend
    rw [if_neg (by decide), if_pos t59, unw_pop hb pend o outp hp]
    cases hs with
    | nil => exact absurd rfl (h59 t59)
    | cons x r => rfl
  · by_cases s0 : sgn (T p) = 0
    · refine ⟨outp, fun N => ?_⟩
      rw [Nat.add_zero, RF_s]
      unfold RFB
      rw [if_neg (by decide), if_neg t59, if_neg h41, if_pos s0]
    · have t60 : T p = 60 ∨ T p = 61 := by
        unfold sgn at s0
        have g1 := f1 (by omega)
        have g2 := f2 (by omega)
        have g4 := f4 (by omega)
        have g5 := f5 rfl
        by_cases q : T p = 60
        · exact Or.inl q
        · by_cases q2 : T p = 61
          · exact Or.inr q2
          · rw [if_neg g5, if_neg g4, if_neg q, if_neg q2, if_neg g2.1, if_neg g2.2, if_neg g1] at s0
            exact absurd rfl s0
      obtain ⟨a, x, b, rfl, c1, c2⟩ := f3 (by omega) t60
      have s2 : rk (sgn (T p)) = 4 := by
        rcases t60 with t | t
        · rw [t]; decide
        · rw [t]; decide
      refine ⟨outp ++ a, fun N => ?_⟩
      rw [Nat.add_zero, RF_s]
      unfold RFB rsg
      rw [if_neg (by decide), if_neg t59, if_neg h41, if_neg s0, s2, if_pos rfl]
      rw [show (a ++ x :: b) ++ hs = a ++ (x :: (b ++ hs)) by simp, show o + nop (a ++ x :: b) = (o + nop (x :: b)) + nop a by rw [nop_app]; omega]
      rw [unw_pop (show tr (x :: (b ++ hs)) < 5 by show rk x < 5; omega) a (o + nop (x :: b)) outp c1]
      rw [if_pos ⟨rfl, c2⟩]
theorem st_par {T E C : Nat → Nat} {o p : Nat} {hs pend outp : List Nat} {m : Bool} (h41 : T p = 41) (hp : ∀ x, x ∈ pend → 1 ≤ rk x) : GO T E C 1 (false, m, pend ++ 0 :: hs, (o + 1) + nop pend, outp, p) (false, m, (unw 7 hs o (outp ++ pend)).1, (unw 7 hs o (outp ++ pend)).2.1, (unw 7 hs o (outp ++ pend)).2.2, E p) := fun N => by
  rw [RF_s]
  unfold RFB rpar
  rw [if_neg (by decide), if_neg (by omega), if_pos h41, unw_pop (show tr (0 :: hs) < 1 by show rk 0 < 1; decide) pend (o + 1) outp hp]
  rfl
theorem Rl_0 : ∀ l, 1 ≤ Rl l := by
  intro l
  unfold Rl
  repeat' split
  all_goals omega
/-- the one reader does as the other -/
theorem sim {k : Nat} {T E C : Nat → Nat} (hA : TKA k T E C) : ∀ n l o p p' res, PR T E C n l o p = some (p', res) → p ≤ k → o ≤ 5 → (l < 5 → ∀ hs out m, tr hs < Bl l → (l ≤ 2 → m = true) → (l ≤ 2 ∨ m = false ∨ T p ≠ 9) → PO T E C l o hs out m p p' res) ∧ (l = 5 → ∀ hs out m, (m = false ∨ T p ≠ 9) → P5 T E C o hs out m p p' res) ∧ (6 ≤ l → l < 10 → ∀ hs pend outp m, tr hs < Rl (lv l) → (∀ x, x ∈ pend → Rl (lv l) ≤ rk x) → fol (lin l) pend (T p) → PT T E C l o hs pend outp m p p' res) := by
  intro n
  induction n with
  | zero => intro l o p p' res h; cases h
  | succ n ih =>
    intro l o p p' res h hp ho
    rw [PR_s] at h
    unfold PB at h
    obtain ⟨a1, a2, a3, a4⟩ := hA p hp
    -- a lower level, as the levels above want it
    have low : ∀ q p1 p2 r, q = 1 ∨ q = 2 ∨ q = 3 ∨ q = 4 ∨ q = 5 → PR T E C n q o p1 = some (p2, r) → p1 ≤ k → ∀ hs out m, tr hs < Bl q → (q ≤ 2 → m = true) → (q ≤ 2 ∨ m = false ∨ T p1 ≠ 9) → PO T E C q o hs out m p1 p2 r := by
      intro q p1 p2 r hq e hp1 hs out m b1 b2 b3
      rcases (show q < 5 ∨ q = 5 by omega) with z | rfl
      · exact (ih _ _ _ _ _ e hp1 ho).1 z hs out m b1 b2 b3
      · exact ((ih _ _ _ _ _ e hp1 ho).2.1 rfl hs out m (b3.resolve_left (by omega))).uni b1
    by_cases h2 : l = 2
    · rw [if_pos h2] at h
      subst h2
      refine ⟨fun _ hs out m b1 b2 b3 => ?_, fun z => by omega, fun z => by omega⟩
      have hm := b2 (Nat.le_refl _)
      subst hm
      have b1' : tr hs < 4 := b1
      by_cases t9 : T p = 9
      · rw [if_pos t9] at h
        have hlt := a2 (by omega)
        by_cases ho5 : o < 5
        · rw [if_pos ho5] at h
          have st : GO T E C 1 (true, true, hs, o, out, p) (true, true, 13 :: hs, o + 1, out, E p) := fun N => by
            rw [RF_s]
            unfold RFB
            rw [if_pos rfl, if_neg (by omega), if_pos ⟨t9, rfl⟩, if_neg (by omega)]
          rcases pth_r h with ⟨q1, q2⟩ | ⟨p1, c1, q1, q2⟩
          · obtain ⟨j, j1, j2⟩ := ((ih _ _ _ _ _ q1 a1 (by omega)).1 (by omega) (13 :: hs) out true (by show rk 13 < 4; decide) (fun _ => rfl) (Or.inl (by omega))).2 rfl
            exact ⟨fun c hc => (by rw [q2] at hc; cases hc), fun _ => ⟨1 + j, by omega, st.fl j2⟩⟩
          · obtain ⟨j, m', pend, out', j1, j2, j3, j4, j5⟩ := ((ih _ _ _ _ _ q1 a1 (by omega)).1 (by omega) (13 :: hs) out true (by show rk 13 < 4; decide) (fun _ => rfl) (Or.inl (by omega))).1 c1 rfl
            cases q2
            refine ⟨fun c hc => ?_, fun hc => by cases hc⟩
            cases hc
            refine ⟨1 + j, m', pend ++ [13], out', by omega, ?_, ?_, ?_, ?_⟩
            · have e1 : pend ++ [13] ++ hs = pend ++ 13 :: hs := by simp
              have e2 : o + nop (pend ++ [13]) = o + 1 + nop pend := by rw [nop_app]; show _ + (_ + (1 + 0)) = _; omega
              rw [e1, e2]
              exact st.tr j2
            · rw [← List.append_assoc, j3, List.append_assoc]
            · intro x hx
              rw [List.mem_append] at hx
              rcases hx with hx | hx
              · exact j4 x hx
              · rw [List.mem_singleton.mp hx]; decide
            · obtain ⟨f1, f2, f3, f4, f5⟩ := j5
              exact ⟨f1, f2, fun z y => (f3 z y).app _, fun z => by omega, fun z => by omega⟩
        · rw [if_neg ho5] at h
          cases h
          refine ⟨fun c hc => (by cases hc), fun _ => ⟨0, Nat.le_refl _, out, fun N => ?_⟩⟩
          rw [Nat.add_zero, RF_s]
          unfold RFB
          rw [if_pos rfl, if_neg (by omega), if_pos ⟨t9, rfl⟩, if_pos (by omega)]
      · rw [if_neg t9] at h
        rcases pth_r h with ⟨q1, q2⟩ | ⟨p1, c1, q1, q2⟩
        · have w := (low 3 _ _ _ (by omega) q1 hp hs out true (by show tr hs < 5; omega) (fun z => by omega) (Or.inr (Or.inr t9))).2 rfl
          exact ⟨fun c hc => (by rw [q2] at hc; cases hc), fun _ => w⟩
        · obtain ⟨j, m', pend, out', j1, j2, j3, j4, j5⟩ := (low 3 _ _ _ (by omega) q1 hp hs out true (by show tr hs < 5; omega) (fun z => by omega) (Or.inr (Or.inr t9))).1 c1 rfl
          obtain ⟨w1, w2, -⟩ := PR_ok hA _ _ _ _ _ _ q1 hp
          by_cases t60 : T p1 = 60 ∨ T p1 = 61
          · rw [if_pos t60] at q2
            obtain ⟨b1, b2, -⟩ := hA p1 w2
            have hlt := b2 (by omega)
            have st : GO T E C 1 (false, m', pend ++ hs, o + nop pend, out', p1) (true, false, (if T p1 = 60 then 14 else 15) :: hs, o, out' ++ pend, E p1) := st_cmp t60 b1' (fun x hx => j4 x hx)
            rw [j3] at st
            have tr3 : tr ((if T p1 = 60 then 14 else 15) :: hs) < 5 := by
              show rk (if T p1 = 60 then 14 else 15) < 5
              split <;> decide
            rcases pth_r q2 with ⟨r1, r2⟩ | ⟨p2, c2, r1, r2⟩
            · obtain ⟨i, i1, i2⟩ := (low 3 _ _ _ (by omega) r1 b1 _ (out ++ c1) false tr3 (fun z => by omega) (Or.inr (Or.inl rfl))).2 rfl
              exact ⟨fun c hc => (by rw [r2] at hc; cases hc), fun _ => ⟨j + (1 + i), by omega, j2.fl (st.fl i2)⟩⟩
            · obtain ⟨i, m2, pend2, out2, i1, i2, i3, i4, i5⟩ := (low 3 _ _ _ (by omega) r1 b1 _ (out ++ c1) false tr3 (fun z => by omega) (Or.inr (Or.inl rfl))).1 c2 rfl
              cases r2
              refine ⟨fun c hc => ?_, fun hc => by cases hc⟩
              cases hc
              refine ⟨j + (1 + i), m2, pend2 ++ [if T p1 = 60 then 14 else 15], out2, by omega, ?_, ?_, ?_, ?_⟩
              · have e1 : pend2 ++ [if T p1 = 60 then 14 else 15] ++ hs = pend2 ++ (if T p1 = 60 then 14 else 15) :: hs := by simp
                have e2 : o + nop (pend2 ++ [if T p1 = 60 then 14 else 15]) = o + nop pend2 := by
                  rw [nop_app]
                  show _ + (_ + (op1 (if T p1 = 60 then 14 else 15) + 0)) = _
                  have : op1 (if T p1 = 60 then 14 else 15) = 0 := by split <;> rfl
                  rw [this]; omega
                rw [e1, e2]
                exact j2.tr (st.tr i2)
              · rw [← List.append_assoc, i3]; simp
              · intro x hx
                rw [List.mem_append] at hx
                rcases hx with hx | hx
                · have := i4 x hx
                  exact Nat.le_trans (show 3 ≤ 5 by omega) this
                · rw [List.mem_singleton.mp hx]; split <;> decide
              · obtain ⟨f1, f2, f3, f4, f5⟩ := i5
                refine ⟨fun _ => f1 (by omega), fun _ => f2 (by omega), fun _ _ => ⟨pend2, if T p1 = 60 then 14 else 15, [], rfl, fun y hy => i4 y hy, by split <;> rfl⟩, fun z => by omega, fun z => by omega⟩
          · rw [if_neg t60] at q2
            cases q2
            refine ⟨fun c hc => ?_, fun hc => by cases hc⟩
            cases hc
            obtain ⟨f1, f2, f3, f4, f5⟩ := j5
            exact ⟨j, m', pend, out', j1, j2, j3, fun x hx => Nat.le_trans (show 3 ≤ 5 by omega) (j4 x hx), fun _ => f1 (by omega), fun _ => f2 (by omega), fun _ z => absurd z t60, fun z => by omega, fun z => by omega⟩
    · rw [if_neg h2] at h
      by_cases h5 : l = 5
      · rw [if_pos h5] at h
        subst h5
        refine ⟨fun z => by omega, fun _ hs out m b3 => ?_, fun z => by omega⟩
        have no9 : ¬ (T p = 9 ∧ m = true) := fun z => by
          rcases b3 with b3 | b3
          · rw [b3] at z; exact absurd z.2 (by decide)
          · exact b3 z.1
        by_cases t2 : T p = 2 ∨ T p = 3
        · rw [if_pos t2] at h
          cases h
          have hlt := a2 (by omega)
          refine ⟨fun c hc => ?_, fun hc => by cases hc⟩
          cases hc
          refine ⟨1, m, by omega, fun N => ?_⟩
          rw [RF_s]
          unfold RFB
          rw [if_pos rfl, if_pos t2]
        · rw [if_neg t2] at h
          by_cases t45 : T p = 45 ∨ T p = 40
          · rw [if_pos t45] at h
            have hlt := a2 (by omega)
            by_cases ho5 : o < 5
            · rw [if_pos ho5] at h
              by_cases tm : T p = 45
              · rw [if_pos tm] at h
                have st : GO T E C 1 (true, m, hs, o, out, p) (true, false, 19 :: hs, o + 1, out, E p) := fun N => by
                  rw [RF_s]
                  unfold RFB
                  rw [if_pos rfl, if_neg t2, if_neg no9, if_pos tm, if_neg (by omega)]
                rcases pth_r h with ⟨q1, q2⟩ | ⟨p1, c1, q1, q2⟩
                · obtain ⟨j, j1, j2⟩ := ((ih _ _ _ _ _ q1 a1 (by omega)).2.1 rfl (19 :: hs) out false (Or.inl rfl)).2 rfl
                  exact ⟨fun c hc => (by rw [q2] at hc; cases hc), fun _ => ⟨1 + j, by omega, st.fl j2⟩⟩
                · obtain ⟨j, m', j1, j2⟩ := ((ih _ _ _ _ _ q1 a1 (by omega)).2.1 rfl (19 :: hs) out false (Or.inl rfl)).1 c1 rfl
                  cases q2
                  refine ⟨fun c hc => ?_, fun hc => by cases hc⟩
                  cases hc
                  refine ⟨1 + j, m', by omega, ?_⟩
                  have e1 : unw 7 (19 :: hs) (o + 1) (out ++ c1) = unw 7 hs o (out ++ (c1 ++ [19])) := by
                    show (if rk 19 < 7 then _ else unw 7 hs (o + 1 - op1 19) (out ++ c1 ++ [19])) = _
                    rw [if_neg (by decide), List.append_assoc]
                    rfl
                  rw [e1] at j2
                  exact st.tr j2
              · rw [if_neg tm] at h
                have t40 : T p = 40 := by omega
                have st : GO T E C 1 (true, m, hs, o, out, p) (true, true, 0 :: hs, o + 1, out, E p) := fun N => by
                  rw [RF_s]
                  unfold RFB
                  rw [if_pos rfl, if_neg t2, if_neg no9, if_neg tm, if_pos t40, if_neg (by omega)]
                rcases pth_r h with ⟨q1, q2⟩ | ⟨p1, c1, q1, q2⟩
                · obtain ⟨j, j1, j2⟩ := ((ih _ _ _ _ _ q1 a1 (by omega)).1 (by omega) (0 :: hs) out true (by show rk 0 < 1; decide) (fun _ => rfl) (Or.inl (by omega))).2 rfl
                  exact ⟨fun c hc => (by rw [q2] at hc; cases hc), fun _ => ⟨1 + j, by omega, st.fl j2⟩⟩
                · obtain ⟨j, m', pend, out', j1, j2, j3, j4, j5⟩ := ((ih _ _ _ _ _ q1 a1 (by omega)).1 (by omega) (0 :: hs) out true (by show rk 0 < 1; decide) (fun _ => rfl) (Or.inl (by omega))).1 c1 rfl
                  obtain ⟨w1, w2, -⟩ := PR_ok hA _ _ _ _ _ _ q1 a1
                  by_cases t41 : T p1 = 41
                  · rw [if_pos t41] at q2
                    cases q2
                    obtain ⟨b1, b2, -⟩ := hA p1 w2
                    have hlt2 := b2 (by omega)
                    refine ⟨fun c hc => ?_, fun hc => by cases hc⟩
                    cases hc
                    have st2 := st_par (E := E) (C := C) (o := o) (hs := hs) (outp := out') (m := m') t41 (fun x hx => j4 x hx)
                    rw [j3] at st2
                    exact ⟨1 + (j + 1), m', by omega, st.tr (j2.tr st2)⟩
                  · rw [if_neg t41] at q2
                    cases q2
                    refine ⟨fun c hc => (by cases hc), fun _ => ⟨1 + (j + 0), by omega, st.fl (j2.fl (st_bad j5 t41 (fun _ z => by cases z) (by show rk 0 < 1; decide) (fun x hx => j4 x hx)))⟩⟩
            · rw [if_neg ho5] at h
              cases h
              refine ⟨fun c hc => (by cases hc), fun _ => ⟨0, Nat.le_refl _, out, fun N => ?_⟩⟩
              rw [Nat.add_zero, RF_s]
              unfold RFB
              rw [if_pos rfl, if_neg t2, if_neg no9]
              by_cases tm : T p = 45
              · rw [if_pos tm, if_pos (by omega)]
              · rw [if_neg tm, if_pos (by omega), if_pos (by omega)]
          · rw [if_neg t45] at h
            cases h
            refine ⟨fun c hc => (by cases hc), fun _ => ⟨0, Nat.le_refl _, out, fun N => ?_⟩⟩
            rw [Nat.add_zero, RF_s]
            unfold RFB
            rw [if_pos rfl, if_neg t2, if_neg no9, if_neg (fun z => t45 (Or.inl z)), if_neg (fun z => t45 (Or.inr z))]
      · rw [if_neg h5] at h
        by_cases hlt5 : l < 5
        · rw [if_pos hlt5] at h
          have hl4 : l = 0 ∨ l = 1 ∨ l = 3 ∨ l = 4 := by omega
          have i1 : lin (ltl l) = l + 1 ∧ 6 ≤ ltl l ∧ ltl l < 10 ∧ lv (ltl l) = l ∧ Bl l ≤ Bl (l + 1) ∧ Bl l = Rl l ∧ Rl l ≤ Rl (l + 1) := by rcases hl4 with rfl | rfl | rfl | rfl <;> decide
          obtain ⟨i1, i2, i3, i4, i5, i6, i7⟩ := i1
          refine ⟨fun _ hs out m b1 b2 b3 => ?_, fun z => by omega, fun z => by omega⟩
          rw [i1] at h
          have b2' : l + 1 ≤ 2 → m = true := fun z => b2 (by omega)
          have b3' : l + 1 ≤ 2 ∨ m = false ∨ T p ≠ 9 := by
            rcases b3 with b3 | b3
            · exact Or.inl (by omega)
            · exact Or.inr b3
          rcases pth_r h with ⟨q1, q2⟩ | ⟨p1, c1, q1, q2⟩
          · have w := (low (l + 1) _ _ _ (by omega) q1 hp hs out m (by omega) b2' b3').2 rfl
            exact ⟨fun c hc => (by rw [q2] at hc; cases hc), fun _ => w⟩
          · obtain ⟨j, m', pend, out', j1, j2, j3, j4, j5⟩ := (low (l + 1) _ _ _ (by omega) q1 hp hs out m (by omega) b2' b3').1 c1 rfl
            obtain ⟨w1, w2, -⟩ := PR_ok hA _ _ _ _ _ _ q1 hp
            have tl : ∀ r, PR T E C n (ltl l) o p1 = some (p', r) → PT T E C (ltl l) o hs pend out' m' p1 p' r := fun r e => (ih _ _ _ _ _ e w2 ho).2.2 i2 i3 hs pend out' m' (by rw [i4]; omega) (fun x hx => by rw [i4]; exact Nat.le_trans i7 (j4 x hx)) (by rw [i1]; exact j5)
            rcases pad_r q2 with ⟨r1, r2⟩ | ⟨d, r1, r2⟩
            · obtain ⟨i, g1, g2⟩ := (tl _ r1).2 rfl
              exact ⟨fun c hc => (by rw [r2] at hc; cases hc), fun _ => ⟨j + i, by omega, j2.fl g2⟩⟩
            · obtain ⟨i, m2, pend2, out2, g1, g2, g3, g4, g5⟩ := (tl _ r1).1 d rfl
              refine ⟨fun c hc => ?_, fun hc => by rw [r2] at hc; cases hc⟩
              rw [r2] at hc
              cases hc
              rw [i4] at g4 g5
              exact ⟨j + i, m2, pend2, out2, by omega, j2.tr g2, by rw [g3, j3, List.append_assoc], g4, g5⟩
        · rw [if_neg hlt5] at h
          refine ⟨fun z => by omega, fun z => by omega, fun hl6 hl10 hs pend outp m b1 b2 b3 => ?_⟩
          by_cases h0 : lop l (T p) = 0
          · rw [if_pos h0] at h
            cases h
            refine ⟨fun c hc => ?_, fun hc => by cases hc⟩
            cases hc
            exact ⟨0, m, pend, outp, Nat.le_refl _, GO.rf, by rw [List.append_nil], b2, fol_tail hl6 hl10 b3 h0⟩
          · rw [if_neg h0] at h
            obtain ⟨o1, o2, o3, o4, o5⟩ := lop_op h0
            have hlt := a2 o5
            obtain ⟨s1, s2, s3, s4, s5, s6, s7, s8, s9, s10⟩ := lop_sgn hl6 hl10 h0
            have st := st_tail (E := E) (C := C) (o := o) (outp := outp) (m := m) hl6 hl10 h0 b1 b2
            have il : lin l = 1 ∨ lin l = 2 ∨ lin l = 4 ∨ lin l = 5 := by
              rcases (show l = 6 ∨ l = 7 ∨ l = 8 ∨ l = 9 by omega) with rfl | rfl | rfl | rfl <;> decide
            have il2 : (lin l ≤ 2 → l ≤ 7) ∧ (2 < lin l → 8 ≤ l) := by
              rcases (show l = 6 ∨ l = 7 ∨ l = 8 ∨ l = 9 by omega) with rfl | rfl | rfl | rfl <;> decide
            have b2' : lin l ≤ 2 → decide (lop l (T p) ≤ 12) = true := fun z => decide_eq_true (s7 (il2.1 z))
            have b3' : lin l ≤ 2 ∨ decide (lop l (T p) ≤ 12) = false ∨ T (E p) ≠ 9 := by
              rcases Nat.lt_or_ge 2 (lin l) with z | z
              · exact Or.inr (Or.inl (decide_eq_false (s8 (il2.2 z))))
              · exact Or.inl z
            have tb : tr (lop l (T p) :: hs) < Bl (lin l) := s9
            rcases pth_r h with ⟨q1, q2⟩ | ⟨p1, c1, q1, q2⟩
            · obtain ⟨j, j1, j2⟩ := (low (lin l) _ _ _ (by omega) q1 a1 (lop l (T p) :: hs) (outp ++ pend) _ tb b2' b3').2 rfl
              exact ⟨fun c hc => (by rw [q2] at hc; cases hc), fun _ => ⟨1 + j, by omega, st.fl j2⟩⟩
            · obtain ⟨j, m', pend1, out', j1, j2, j3, j4, j5⟩ := (low (lin l) _ _ _ (by omega) q1 a1 (lop l (T p) :: hs) (outp ++ pend) _ tb b2' b3').1 c1 rfl
              obtain ⟨w1, w2, -⟩ := PR_ok hA _ _ _ _ _ _ q1 a1
              have e1 : pend1 ++ [lop l (T p)] ++ hs = pend1 ++ lop l (T p) :: hs := by simp
              have e2 : o + nop (pend1 ++ [lop l (T p)]) = o + nop pend1 := by
                rw [nop_app]
                show _ + (_ + (op1 (lop l (T p)) + 0)) = _
                rw [s6]; omega
              rw [← e1, ← e2] at j2
              have j5' : fol (lin l) (pend1 ++ [lop l (T p)]) (T p1) := ⟨j5.1, j5.2.1, fun z y => (j5.2.2.1 z y).app _, j5.2.2.2⟩
              have tl : ∀ r, PR T E C n l o p1 = some (p', r) → PT T E C l o hs (pend1 ++ [lop l (T p)]) out' m' p1 p' r := fun r e => (ih _ _ _ _ _ e w2 ho).2.2 hl6 hl10 hs _ out' m' b1 (fun x hx => by
                rw [List.mem_append] at hx
                rcases hx with hx | hx
                · exact Nat.le_trans s10 (j4 x hx)
                · rw [List.mem_singleton.mp hx, s2]; exact Nat.le_refl _) j5'
              rcases pad_r q2 with ⟨r1, r2⟩ | ⟨d, r1, r2⟩
              · obtain ⟨i, g1, g2⟩ := (tl _ r1).2 rfl
                exact ⟨fun c hc => (by rw [r2] at hc; cases hc), fun _ => ⟨1 + (j + i), by omega, st.fl (j2.fl g2)⟩⟩
              · obtain ⟨i, m2, pend2, out2, g1, g2, g3, g4, g5⟩ := (tl _ r1).1 d rfl
                refine ⟨fun c hc => ?_, fun hc => by rw [r2] at hc; cases hc⟩
                rw [r2] at hc
                cases hc
                refine ⟨1 + (j + i), m2, pend2, out2, by omega, st.tr (j2.tr g2), ?_, g4, g5⟩
                rw [g3, ← List.append_assoc out', j3]
                simp
/-- an E up to its ; -/
theorem sim_E {k : Nat} {T E C : Nat → Nat} (hA : TKA k T E C) {n p p' : Nat} {res : Option (List Nat)} {out : List Nat} (h : PR T E C n 0 0 p = some (p', res)) (hp : p ≤ k) : (∀ c, res = some c → T p' = 59 → ∃ j, p + j ≤ p' ∧ ∀ N, RF T E C (N + j + 1) (true, true, [], 0, out, p) = some (true, E p', out ++ c)) ∧ ((res = none ∨ T p' ≠ 59) → ∃ j, p + j ≤ p' ∧ FX T E C j (true, true, [], 0, out, p) p') := by
  have w := (sim hA _ _ _ _ _ _ h hp (by omega)).1 (by omega) [] out true (by decide) (fun _ => rfl) (Or.inl (by omega))
  refine ⟨fun c hc t59 => ?_, fun hr => ?_⟩
  · obtain ⟨j, m', pend, out', j1, j2, j3, j4, j5⟩ := w.1 c hc
    refine ⟨j, j1, fun N => ?_⟩
    rw [show N + j + 1 = (N + 1) + j by omega, j2 (N + 1), RF_s]
    unfold RFB rend
    rw [if_neg (by decide), if_pos t59, unw_pop (show tr [] < 1 by decide) pend 0 out' (fun x hx => j4 x hx), j3]
  · cases res with
    | none => exact w.2 rfl
    | some c =>
      obtain ⟨j, m', pend, out', j1, j2, j3, j4, j5⟩ := w.1 c rfl
      have t59 : T p' ≠ 59 := hr.resolve_left (fun z => by cases z)
      by_cases t41 : T p' = 41
      · refine ⟨j + 0, j1, j2.fl ⟨out' ++ pend, fun N => ?_⟩⟩
        rw [Nat.add_zero, RF_s]
        unfold RFB rpar
        rw [if_neg (by decide), if_neg t59, if_pos t41, unw_pop (show tr [] < 1 by decide) pend 0 out' (fun x hx => j4 x hx)]
      · exact ⟨j + 0, j1, j2.fl (st_bad j5 t41 (fun z => absurd z t59) (by decide) (fun x hx => j4 x hx))⟩
