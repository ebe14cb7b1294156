/-! ===== a text read, over tokens: the reader that goes down by itself ===== -/
abbrev PRR : Type := Option (Nat × Option (List Nat))
def pth (r : PRR) (k : Nat → List Nat → PRR) : PRR := match r with
  | none => none
  | some (p, none) => some (p, none)
  | some (p, some c) => k p c
def pad (c : List Nat) (r : PRR) : PRR := pth r (fun p d => some (p, some (c ++ d)))
def lop (l t : Nat) : Nat := if l = 6 then (if t = 7 then 11 else 0) else if l = 7 then (if t = 8 then 12 else 0) else if l = 8 then (if t = 43 then 16 else if t = 45 then 17 else 0) else (if t = 42 then 18 else 0)
def lin (l : Nat) : Nat := if l = 6 then 1 else if l = 7 then 2 else if l = 8 then 4 else 5
def ltl (l : Nat) : Nat := if l = 0 then 6 else if l = 1 then 7 else if l = 3 then 8 else 9
def PB (T E C : Nat → Nat) (rc : Nat → Nat → Nat → PRR) (l o p : Nat) : PRR :=
  if l = 2 then (if T p = 9 then (if o < 5 then pth (rc 2 (o + 1) (E p)) (fun p1 c1 => some (p1, some (c1 ++ [13]))) else some (p, none)) else pth (rc 3 o p) (fun p1 c1 => if T p1 = 60 ∨ T p1 = 61 then pth (rc 3 o (E p1)) (fun p2 c2 => some (p2, some (c1 ++ (c2 ++ [if T p1 = 60 then 14 else 15])))) else some (p1, some c1)))
  else if l = 5 then (if T p = 2 ∨ T p = 3 then some (E p, some [C p]) else if T p = 45 ∨ T p = 40 then (if o < 5 then (if T p = 45 then pth (rc 5 (o + 1) (E p)) (fun p1 c1 => some (p1, some (c1 ++ [19]))) else pth (rc 0 (o + 1) (E p)) (fun p1 c1 => if T p1 = 41 then some (E p1, some c1) else some (p1, none))) else some (p, none)) else some (p, none))
  else if l < 5 then pth (rc (lin (ltl l)) o p) (fun p1 c1 => pad c1 (rc (ltl l) o p1))
  else if lop l (T p) = 0 then some (p, some []) else pth (rc (lin l) o (E p)) (fun p1 c1 => pad (c1 ++ [lop l (T p)]) (rc l o p1))
def PR (T E C : Nat → Nat) : Nat → Nat → Nat → Nat → PRR
  | 0 => fun _ _ _ => none
  | n + 1 => fun l o p => PB T E C (PR T E C n) l o p
theorem PR_s {T E C : Nat → Nat} {n l o p : Nat} : PR T E C (n + 1) l o p = PB T E C (PR T E C n) l o p := rfl
theorem pth_s {r : PRR} {k : Nat → List Nat → PRR} {p : Nat} {c : List Nat} (h : pth r k = some (p, some c)) : ∃ p1 c1, r = some (p1, some c1) ∧ k p1 c1 = some (p, some c) := by
  match r, h with
  | some (p1, some c1), h => exact ⟨p1, c1, rfl, h⟩
  | some (p1, none), h => cases h
  | none, h => cases h
theorem pth_f {r : PRR} {k : Nat → List Nat → PRR} {p : Nat} (h : pth r k = some (p, none)) : r = some (p, none) ∨ ∃ p1 c1, r = some (p1, some c1) ∧ k p1 c1 = some (p, none) := by
  match r, h with
  | some (p1, some c1), h => exact Or.inr ⟨p1, c1, rfl, h⟩
  | some (p1, none), h => exact Or.inl h
  | none, h => cases h
theorem pth_r {r : PRR} {k : Nat → List Nat → PRR} {p : Nat} {res : Option (List Nat)} (h : pth r k = some (p, res)) : (r = some (p, none) ∧ res = none) ∨ ∃ p1 c1, r = some (p1, some c1) ∧ k p1 c1 = some (p, res) := by
  match r, h with
  | some (p1, some c1), h => exact Or.inr ⟨p1, c1, rfl, h⟩
  | some (p1, none), h => cases h; exact Or.inl ⟨rfl, rfl⟩
  | none, h => cases h
theorem pad_r {r : PRR} {c : List Nat} {p : Nat} {res : Option (List Nat)} (h : pad c r = some (p, res)) : (r = some (p, none) ∧ res = none) ∨ ∃ d, r = some (p, some d) ∧ res = some (c ++ d) := by
  rcases pth_r h with q | ⟨p1, c1, q1, q2⟩
  · exact Or.inl q
  · cases q2
    exact Or.inr ⟨c1, q1, rfl⟩
/-! ===== heights ===== -/
def hl : List Nat → Nat → Option Nat
  | [], h => some h
  | q :: r, h => (h1 q h).bind (hl r)
theorem hl_app : ∀ (a b : List Nat) (h : Nat), hl (a ++ b) h = (hl a h).bind (hl b)
  | [], b, h => rfl
  | q :: r, b, h => by
    show (h1 q h).bind (hl (r ++ b)) = ((h1 q h).bind (hl r)).bind (hl b)
    cases h1 q h with
    | none => rfl
    | some x => exact hl_app r b x
theorem hl_2 : ∀ q, q < 20 → 11 ≤ q → q ≠ 13 → q ≠ 19 → ∀ h, h1 q (h + 2) = some (h + 1) := by
  intro q h20 h11 h13 h19 h
  unfold h1
  rw [if_neg (by omega), if_neg (by omega), if_neg (by omega), if_neg (by omega), if_neg (by omega), if_pos (by omega)]
  rfl
theorem hl_1 {q h : Nat} (hq : q = 13 ∨ q = 19) : h1 q (h + 1) = some (h + 1) := by
  unfold h1
  rw [if_neg (by omega), if_neg (by omega), if_neg (by omega), if_neg (by omega), if_pos hq, if_pos (by omega)]
theorem hl_0 {q h : Nat} (hq : (100000 ≤ q ∧ q < 110000) ∨ q < 6) : h1 q h = some (h + 1) := by
  unfold h1
  by_cases z : 100000 ≤ q
  · rw [if_pos z, if_pos (by omega)]
  · rw [if_neg z, if_pos (by omega)]
def TKA (k : Nat) (T E C : Nat → Nat) : Prop := ∀ p, p ≤ k → E p ≤ k ∧ (T p ≠ 0 → p < E p) ∧ (T p = 2 → 100000 ≤ C p ∧ C p < 110000) ∧ (T p = 3 → C p < 6)
theorem lop_op {l t : Nat} (h : lop l t ≠ 0) : lop l t < 20 ∧ 11 ≤ lop l t ∧ lop l t ≠ 13 ∧ lop l t ≠ 19 ∧ t ≠ 0 := by
  unfold lop at h ⊢
  repeat' split at h
  all_goals first | (exact absurd rfl h) | (simp_all)
/-- where a reader that doesn't fail comes to, and how high its codes go -/
theorem PR_ok {k : Nat} {T E C : Nat → Nat} (hA : TKA k T E C) : ∀ n l o p p' res, PR T E C n l o p = some (p', res) → p ≤ k → p ≤ p' ∧ p' ≤ k ∧ ∀ c, res = some c → p + c.length ≤ p' ∧ (l < 6 → p < p' ∧ ∀ h, hl c h = some (h + 1)) ∧ (6 ≤ l → ∀ h, hl c (h + 1) = some (h + 1)) := by
  intro n
  induction n with
  | zero => intro l o p p' res h; cases h
  | succ n ih =>
    intro l o p p' res h hp
    rw [PR_s] at h
    unfold PB at h
    obtain ⟨a1, a2, a3, a4⟩ := hA p hp
    by_cases h2 : l = 2
    · rw [if_pos h2] at h
      by_cases t9 : T p = 9
      · have hlt := a2 (by omega)
        rw [if_pos t9] at h
        by_cases ho : o < 5
        · rw [if_pos ho] at h
          rcases pth_r h with ⟨q1, q2⟩ | ⟨p1, c1, q1, q2⟩
          · obtain ⟨w1, w2, -⟩ := ih _ _ _ _ _ q1 a1
            exact ⟨by omega, w2, fun c hc => by rw [q2] at hc; cases hc⟩
          · obtain ⟨w1, w2, w3⟩ := ih _ _ _ _ _ q1 a1
            cases q2
            obtain ⟨v1, v2, v3⟩ := w3 c1 rfl
            refine ⟨by omega, w2, fun c hc => ?_⟩
            cases hc
            refine ⟨by simp; omega, fun _ => ⟨by omega, fun h => ?_⟩, fun z => by omega⟩
            rw [hl_app, (v2 (by omega)).2 h]
            show (h1 13 (h + 1)).bind (hl []) = _
            rw [hl_1 (Or.inl rfl)]; rfl
        · rw [if_neg ho] at h
          cases h
          exact ⟨Nat.le_refl _, hp, fun c hc => by cases hc⟩
      · rw [if_neg t9] at h
        rcases pth_r h with ⟨q1, q2⟩ | ⟨p1, c1, q1, q2⟩
        · obtain ⟨w1, w2, -⟩ := ih _ _ _ _ _ q1 hp
          exact ⟨w1, w2, fun c hc => by rw [q2] at hc; cases hc⟩
        · obtain ⟨w1, w2, w3⟩ := ih _ _ _ _ _ q1 hp
          obtain ⟨v1, v2, v3⟩ := w3 c1 rfl
          by_cases t60 : T p1 = 60 ∨ T p1 = 61
          · rw [if_pos t60] at q2
            obtain ⟨b1, b2, -⟩ := hA p1 w2
            have hlt := b2 (by omega)
            rcases pth_r q2 with ⟨r1, r2⟩ | ⟨p2, c2, r1, r2⟩
            · obtain ⟨x1, x2, -⟩ := ih _ _ _ _ _ r1 b1
              exact ⟨by omega, x2, fun c hc => by rw [r2] at hc; cases hc⟩
            · obtain ⟨x1, x2, x3⟩ := ih _ _ _ _ _ r1 b1
              obtain ⟨y1, y2, y3⟩ := x3 c2 rfl
              cases r2
              refine ⟨by omega, x2, fun c hc => ?_⟩
              cases hc
              refine ⟨by simp; omega, fun _ => ⟨by omega, fun h => ?_⟩, fun z => by omega⟩
              rw [hl_app, (v2 (by omega)).2 h]
              show hl (c2 ++ _) (h + 1) = _
              rw [hl_app, (y2 (by omega)).2 (h + 1)]
              show (h1 (if T p1 = 60 then 14 else 15) (h + 2)).bind (hl []) = _
              rw [hl_2 _ (by split <;> omega) (by split <;> omega) (by split <;> omega) (by split <;> omega)]; rfl
          · rw [if_neg t60] at q2
            cases q2
            refine ⟨w1, w2, fun c hc => ?_⟩
            cases hc
            exact ⟨v1, fun _ => v2 (by omega), fun z => by omega⟩
    · rw [if_neg h2] at h
      by_cases h5 : l = 5
      · rw [if_pos h5] at h
        by_cases t2 : T p = 2 ∨ T p = 3
        · rw [if_pos t2] at h
          cases h
          have hlt := a2 (by omega)
          refine ⟨by omega, a1, fun c hc => ?_⟩
          cases hc
          refine ⟨by simp; omega, fun _ => ⟨by omega, fun h => ?_⟩, fun z => by omega⟩
          show (h1 (C p) h).bind (hl []) = _
          rw [hl_0 (by rcases t2 with t | t; exact Or.inl (a3 t); exact Or.inr (a4 t))]; rfl
        · rw [if_neg t2] at h
          by_cases t45 : T p = 45 ∨ T p = 40
          · have hlt := a2 (by omega)
            rw [if_pos t45] at h
            by_cases ho : o < 5
            · rw [if_pos ho] at h
              by_cases tm : T p = 45
              · rw [if_pos tm] at h
                rcases pth_r h with ⟨q1, q2⟩ | ⟨p1, c1, q1, q2⟩
                · obtain ⟨w1, w2, -⟩ := ih _ _ _ _ _ q1 a1
                  exact ⟨by omega, w2, fun c hc => by rw [q2] at hc; cases hc⟩
                · obtain ⟨w1, w2, w3⟩ := ih _ _ _ _ _ q1 a1
                  cases q2
                  obtain ⟨v1, v2, v3⟩ := w3 c1 rfl
                  refine ⟨by omega, w2, fun c hc => ?_⟩
                  cases hc
                  refine ⟨by simp; omega, fun _ => ⟨by omega, fun h => ?_⟩, fun z => by omega⟩
                  rw [hl_app, (v2 (by omega)).2 h]
                  show (h1 19 (h + 1)).bind (hl []) = _
                  rw [hl_1 (Or.inr rfl)]; rfl
              · rw [if_neg tm] at h
                rcases pth_r h with ⟨q1, q2⟩ | ⟨p1, c1, q1, q2⟩
                · obtain ⟨w1, w2, -⟩ := ih _ _ _ _ _ q1 a1
                  exact ⟨by omega, w2, fun c hc => by rw [q2] at hc; cases hc⟩
                · obtain ⟨w1, w2, w3⟩ := ih _ _ _ _ _ q1 a1
                  obtain ⟨v1, v2, v3⟩ := w3 c1 rfl
                  by_cases t41 : T p1 = 41
                  · rw [if_pos t41] at q2
                    cases q2
                    obtain ⟨b1, b2, -⟩ := hA p1 w2
                    have hlt2 := b2 (by omega)
                    refine ⟨by omega, b1, fun c hc => ?_⟩
                    cases hc
                    exact ⟨by omega, fun _ => ⟨by omega, (v2 (by omega)).2⟩, fun z => by omega⟩
                  · rw [if_neg t41] at q2
                    cases q2
                    exact ⟨by omega, w2, fun c hc => by cases hc⟩
            · rw [if_neg ho] at h
              cases h
              exact ⟨Nat.le_refl _, hp, fun c hc => by cases hc⟩
          · rw [if_neg t45] at h
            cases h
            exact ⟨Nat.le_refl _, hp, fun c hc => by cases hc⟩
      · rw [if_neg h5] at h
        by_cases hlt5 : l < 5
        · rw [if_pos hlt5] at h
          have i1 : lin (ltl l) < 6 := by unfold lin; repeat' split
                                          all_goals omega
          have i2 : 6 ≤ ltl l := by unfold ltl; repeat' split
                                    all_goals omega
          rcases pth_r h with ⟨q1, q2⟩ | ⟨p1, c1, q1, q2⟩
          · obtain ⟨w1, w2, -⟩ := ih _ _ _ _ _ q1 hp
            exact ⟨w1, w2, fun c hc => by rw [q2] at hc; cases hc⟩
          · obtain ⟨w1, w2, w3⟩ := ih _ _ _ _ _ q1 hp
            obtain ⟨v1, v2, v3⟩ := w3 c1 rfl
            rcases pad_r q2 with ⟨r1, r2⟩ | ⟨d, r1, r2⟩
            · obtain ⟨x1, x2, -⟩ := ih _ _ _ _ _ r1 w2
              exact ⟨by omega, x2, fun c hc => by rw [r2] at hc; cases hc⟩
            · obtain ⟨x1, x2, x3⟩ := ih _ _ _ _ _ r1 w2
              obtain ⟨y1, y2, y3⟩ := x3 d rfl
              have z1 := v2 i1
              refine ⟨by omega, x2, fun c hc => ?_⟩
              rw [r2] at hc
              cases hc
              refine ⟨by simp; omega, fun _ => ⟨by omega, fun h => ?_⟩, fun z => by omega⟩
              rw [hl_app, z1.2 h]
              exact y3 i2 h
        · rw [if_neg hlt5] at h
          by_cases h0 : lop l (T p) = 0
          · rw [if_pos h0] at h
            cases h
            refine ⟨Nat.le_refl _, hp, fun c hc => ?_⟩
            cases hc
            exact ⟨by simp, fun z => by omega, fun _ h => rfl⟩
          · rw [if_neg h0] at h
            obtain ⟨o1, o2, o3, o4, o5⟩ := lop_op h0
            have hlt := a2 o5
            have i1 : lin l < 6 := by unfold lin; repeat' split
                                      all_goals omega
            rcases pth_r h with ⟨q1, q2⟩ | ⟨p1, c1, q1, q2⟩
            · obtain ⟨w1, w2, -⟩ := ih _ _ _ _ _ q1 a1
              exact ⟨by omega, w2, fun c hc => by rw [q2] at hc; cases hc⟩
            · obtain ⟨w1, w2, w3⟩ := ih _ _ _ _ _ q1 a1
              obtain ⟨v1, v2, v3⟩ := w3 c1 rfl
              rcases pad_r q2 with ⟨r1, r2⟩ | ⟨d, r1, r2⟩
              · obtain ⟨x1, x2, -⟩ := ih _ _ _ _ _ r1 w2
                exact ⟨by omega, x2, fun c hc => by rw [r2] at hc; cases hc⟩
              · obtain ⟨x1, x2, x3⟩ := ih _ _ _ _ _ r1 w2
                obtain ⟨y1, y2, y3⟩ := x3 d rfl
                refine ⟨by omega, x2, fun c hc => ?_⟩
                rw [r2] at hc
                cases hc
                refine ⟨by simp; omega, fun z => by omega, fun z h => ?_⟩
                rw [hl_app, hl_app, (v2 i1).2 (h + 1)]
                show (((h1 (lop l (T p)) (h + 2)).bind (hl [])).bind (hl d)) = _
                rw [hl_2 _ o1 o2 o3 o4]
                exact y3 z h
def lw (l : Nat) : Nat := if l < 6 then 6 - l else 1
theorem pth_n {r : PRR} {k : Nat → List Nat → PRR} (h : ∃ q, r = some q) (h2 : ∀ p c, r = some (p, some c) → ∃ q, k p c = some q) : ∃ q, pth r k = some q := by
  obtain ⟨⟨p, c⟩, rfl⟩ := h
  cases c with
  | none => exact ⟨_, rfl⟩
  | some c => exact h2 p c rfl
/-- it comes to an end -/
theorem PR_end {k : Nat} {T E C : Nat → Nat} (hA : TKA k T E C) : ∀ n l o p, p ≤ k → l < 10 → 10 * (k - p) + lw l < n → ∃ q, PR T E C n l o p = some q := by
  intro n
  induction n with
  | zero => intro l o p hp hl hn; omega
  | succ n ih =>
    intro l o p hp hl hn
    rw [PR_s]
    unfold PB
    obtain ⟨a1, a2, a3, a4⟩ := hA p hp
    have lwb : ∀ l, lw l ≤ 6 := fun l => by unfold lw; split <;> omega
    have far : ∀ l' o' p', p < p' → p' ≤ k → l' < 10 → ∃ q, PR T E C n l' o' p' = some q := fun l' o' p' h1 h2 h3 => ih l' o' p' h2 h3 (by have := lwb l'; unfold lw at hn; split at hn <;> omega)
    by_cases h2 : l = 2
    · rw [if_pos h2]
      by_cases t9 : T p = 9
      · rw [if_pos t9]
        by_cases ho : o < 5
        · rw [if_pos ho]
          exact pth_n (far 2 (o + 1) (E p) (a2 (by omega)) a1 (by omega)) (fun p1 c1 _ => ⟨_, rfl⟩)
        · rw [if_neg ho]; exact ⟨_, rfl⟩
      · rw [if_neg t9]
        refine pth_n (ih 3 o p hp (by omega) (by subst h2; unfold lw at hn ⊢; rw [if_pos (by omega)] at hn ⊢; omega)) (fun p1 c1 e1 => ?_)
        obtain ⟨w1, w2, w3⟩ := PR_ok hA _ _ _ _ _ _ e1 hp
        by_cases t60 : T p1 = 60 ∨ T p1 = 61
        · rw [if_pos t60]
          obtain ⟨b1, b2, -⟩ := hA p1 w2
          have := b2 (by omega)
          exact pth_n (far 3 o (E p1) (by omega) b1 (by omega)) (fun p1 c1 _ => ⟨_, rfl⟩)
        · rw [if_neg t60]; exact ⟨_, rfl⟩
    · rw [if_neg h2]
      by_cases h5 : l = 5
      · rw [if_pos h5]
        by_cases t2 : T p = 2 ∨ T p = 3
        · rw [if_pos t2]; exact ⟨_, rfl⟩
        · rw [if_neg t2]
          by_cases t45 : T p = 45 ∨ T p = 40
          · rw [if_pos t45]
            by_cases ho : o < 5
            · rw [if_pos ho]
              by_cases tm : T p = 45
              · rw [if_pos tm]
                exact pth_n (far 5 (o + 1) (E p) (a2 (by omega)) a1 (by omega)) (fun p1 c1 _ => ⟨_, rfl⟩)
              · rw [if_neg tm]
                refine pth_n (far 0 (o + 1) (E p) (a2 (by omega)) a1 (by omega)) (fun p1 c1 _ => ?_)
                split
                · exact ⟨_, rfl⟩
                · exact ⟨_, rfl⟩
            · rw [if_neg ho]; exact ⟨_, rfl⟩
          · rw [if_neg t45]; exact ⟨_, rfl⟩
      · rw [if_neg h5]
        by_cases hlt5 : l < 5
        · rw [if_pos hlt5]
          have i1 : lin (ltl l) = l + 1 := by
            rcases (show l = 0 ∨ l = 1 ∨ l = 3 ∨ l = 4 by omega) with rfl | rfl | rfl | rfl <;> rfl
          have i2 : ltl l < 10 := by unfold ltl; repeat' split
                                     all_goals omega
          rw [i1]
          refine pth_n (ih (l + 1) o p hp (by omega) (by unfold lw at hn ⊢; rw [if_pos (by omega)] at hn ⊢; omega)) (fun p1 c1 e1 => ?_)
          obtain ⟨w1, w2, w3⟩ := PR_ok hA _ _ _ _ _ _ e1 hp
          have := ((w3 c1 rfl).2.1 (by omega)).1
          exact pth_n (far (ltl l) o p1 this w2 i2) (fun p1 c1 _ => ⟨_, rfl⟩)
        · rw [if_neg hlt5]
          by_cases h0 : lop l (T p) = 0
          · rw [if_pos h0]; exact ⟨_, rfl⟩
          · rw [if_neg h0]
            obtain ⟨o1, o2, o3, o4, o5⟩ := lop_op h0
            have i1 : lin l < 6 := by unfold lin; repeat' split
                                      all_goals omega
            refine pth_n (far (lin l) o (E p) (a2 o5) a1 (by omega)) (fun p1 c1 e1 => ?_)
            obtain ⟨w1, w2, w3⟩ := PR_ok hA _ _ _ _ _ _ e1 a1
            have := a2 o5
            exact pth_n (far l o p1 (by omega) w2 hl) (fun p1 c1 _ => ⟨_, rfl⟩)
