/-! ===== what the law says: codes, their heights, their value ===== -/
def okc (q : Nat) : Prop := (100000 ≤ q ∧ q < 110000) ∨ q < 6 ∨ (11 ≤ q ∧ q ≤ 19)
def xT : List Int32 := [-1, -2, -3, -4, -5, -6, 0, 0, 0, 0, 0, -9, -10, -7, -11, -12, -13, -14, -15, -8]
def xC (q : Nat) : Int32 := if 100000 ≤ q then nI (q - 100000) else xT.getD q 0
abbrev TT : Type := (Nat → Nat) × (Nat → Nat)
def eb (e : Nat → Nat) (p : Nat) : Nat := if p = 0 then 0 else e (p - 1)
def ev1 (nm : Nat → Int32) (q : Nat) (s : List Int32) : List Int32 :=
  if 100000 ≤ q then nI (q - 100000) :: s else if q < 11 then nm q :: s else
  match s with
  | [] => []
  | b :: r => if q = 13 then (if b = 0 then 1 else 0) :: r else if q = 19 then (-b) :: r else
    match r with
    | [] => []
    | a :: r => f_X10_two (nI q) a b :: r
def evn (C : Nat → Nat) (nm : Nat → Int32) : Nat → Nat → List Int32 → List Int32
  | 0, _, s => s
  | n + 1, i, s => evn C nm n (i + 1) (ev1 nm (C i) s)
def h1 (q h : Nat) : Option Nat := if 100000 ≤ q then (if q < 110000 then some (h + 1) else none) else if q < 6 then some (h + 1) else if q < 11 then none else if 19 < q then none else
  if q = 13 ∨ q = 19 then (if 1 ≤ h then some h else none) else (if 2 ≤ h then some (h - 1) else none)
def hrun (C : Nat → Nat) : Nat → Nat → Nat → Option Nat
  | 0, _, h => some h
  | n + 1, i, h => (h1 (C i) h).bind (hrun C n (i + 1))
theorem ev1_len {nm : Nat → Int32} {q : Nat} {s : List Int32} {h : Nat} (e : h1 q s.length = some h) : (ev1 nm q s).length = h := by
  unfold h1 at e
  unfold ev1
  by_cases a1 : 100000 ≤ q
  · rw [if_pos a1] at e ⊢
    split at e
    · cases e; rfl
    · cases e
  · rw [if_neg a1] at e ⊢
    by_cases a2 : q < 6
    · rw [if_pos a2] at e
      rw [if_pos (by omega)]
      cases e; rfl
    · rw [if_neg a2] at e
      by_cases a3 : q < 11
      · rw [if_pos a3] at e; cases e
      · rw [if_neg a3] at e
        rw [if_neg a3]
        by_cases a4 : 19 < q
        · rw [if_pos a4] at e; cases e
        · rw [if_neg a4] at e
          cases s with
          | nil =>
            split at e
            · split at e
              · rename_i z; exact absurd z (by simp)
              · cases e
            · split at e
              · rename_i z; exact absurd z (by simp)
              · cases e
          | cons b r =>
            by_cases a5 : q = 13
            · rw [if_pos (Or.inl a5), if_pos (by simp)] at e
              cases e
              show (if q = 13 then _ else _ : List Int32).length = _
              rw [if_pos a5]; rfl
            · by_cases a6 : q = 19
              · rw [if_pos (Or.inr a6), if_pos (by simp)] at e
                cases e
                show (if q = 13 then _ else if q = 19 then _ else _ : List Int32).length = _
                rw [if_neg a5, if_pos a6]; rfl
              · rw [if_neg (not_or.mpr ⟨a5, a6⟩)] at e
                show (if q = 13 then _ else if q = 19 then _ else _ : List Int32).length = _
                rw [if_neg a5, if_neg a6]
                cases r with
                | nil =>
                  split at e
                  · rename_i z; exact absurd z (by simp)
                  · cases e
                | cons a r =>
                  rw [if_pos (by simp)] at e
                  cases e; rfl
def TW (T : TT) : Prop := T.2 2 ≤ 160 ∧ (∀ p, p < 3 → eb T.2 p ≤ T.2 p ∧ T.2 p ≤ T.2 2) ∧ ∀ p, p < 3 → hrun T.1 (T.2 p - eb T.2 p) (eb T.2 p) 0 = some 1
def Zval (T : TT) (nm : Nat → Int32) (p : Nat) : Int32 := (evn T.1 nm (T.2 p - eb T.2 p) (eb T.2 p) []).headD 0
def Zsay (T : TT) (nm : Nat → Int32) (p : Nat) : Nat := if p = 1 then (if Zval T nm p = 0 then 0 else 1) else min (Zval T nm p).toInt.toNat (if p = 0 then 9 else 99)
/-- what lies in the array f is the list s, its top first -/
def stk (f : Nat → Int32) : List Int32 → Prop
  | [] => True
  | a :: r => f r.length = a ∧ stk f r
theorem stk_upd {f : Nat → Int32} {k : Nat} {x : Int32} : ∀ {s : List Int32}, s.length ≤ k → stk f s → stk (upd f k x) s
  | [], _, _ => trivial
  | a :: r, h, ⟨h1, h2⟩ => ⟨by
    rw [pk_un (by simp at h; omega)]; exact h1, stk_upd (by simp at h; omega) h2⟩
def txX (σ : ST) (t : Nat) (T : TT) : Prop := (∀ i, i < T.2 2 → gA σ (25 + t) i = xC (T.1 i)) ∧ ∀ p, p < 3 → gA σ (32 + t) p = nI (T.2 p)
def txM (σ : ST) (t : Nat) (T : TT) : Prop := (∀ i, i < T.2 2 → gA σ 9 (200 * t + i) = nI (T.1 i)) ∧ ∀ p, p < 4 → gA σ 10 (4 * t + p) = nI (eb T.2 p)
def a39 : Nat → Bool := fun k => k == 39
def a20 : Nat → Bool := fun k => k == 20
theorem or_0 (a b : Int32) : (a ||| b = 0) ↔ a = 0 ∧ b = 0 := by
  constructor
  · intro h
    refine ⟨bt_ext (fun i _ => ?_), bt_ext (fun i _ => ?_)⟩
    · have t := congrArg (fun z => bt z i) h
      simp only [bt_or, bt_0, Bool.or_eq_false_iff] at t
      rw [t.1, bt_0]
    · have t := congrArg (fun z => bt z i) h
      simp only [bt_or, bt_0, Bool.or_eq_false_iff] at t
      rw [t.2, bt_0]
  · rintro ⟨rfl, rfl⟩; rfl
theorem joined_n {q : Nat} (a b : Int32) (hq : 11 ≤ q ∧ q ≤ 18 ∧ q ≠ 13) : f_X6_joined (xC q) a b = f_X10_two (nI q) a b := by
  rcases (show q = 11 ∨ q = 12 ∨ q = 14 ∨ q = 15 ∨ q = 16 ∨ q = 17 ∨ q = 18 by omega) with rfl | rfl | rfl | rfl | rfl | rfl | rfl
  · show (if a ||| b = 0 then (0 : Int32) else 1) = (if ¬ a = 0 then 1 else if b = 0 then 0 else 1)
    by_cases h1 : a = 0
    · by_cases h2 : b = 0
      · rw [if_pos ((or_0 a b).mpr ⟨h1, h2⟩), if_neg (fun q => q h1), if_pos h2]
      · rw [if_neg (fun q => h2 ((or_0 a b).mp q).2), if_neg (fun q => q h1), if_neg h2]
    · rw [if_neg (fun q => h1 ((or_0 a b).mp q).1), if_pos h1]
  · rfl
  · rfl
  · rfl
  · rfl
  · rfl
  · rfl
theorem xC_num {q : Nat} (h : 100000 ≤ q) (h2 : q < 110000) : xC q = nI (q - 100000) ∧ ¬ xC q < -6 ∧ ¬ xC q < 0 := by
  have e : xC q = nI (q - 100000) := if_pos h
  refine ⟨e, ?_, ?_⟩
  · rw [e, Int32.lt_iff_toInt_lt, nI_toInt (by omega)]
    show ¬ ((q - 100000 : Nat) : Int) < (-6 : Int)
    omega
  · rw [e]; exact nI_pos (by omega)
theorem xC_name : ∀ q, q < 6 → ¬ xC q < -6 ∧ xC q < 0 ∧ (-1 : Int32) - xC q = nI q := by decide +kernel
theorem xC_bin {q : Nat} (hq : 11 ≤ q ∧ q ≤ 18 ∧ q ≠ 13) : xC q < -6 ∧ xC q < -8 := by
  rcases (show q = 11 ∨ q = 12 ∨ q = 14 ∨ q = 15 ∨ q = 16 ∨ q = 17 ∨ q = 18 by omega) with rfl | rfl | rfl | rfl | rfl | rfl | rfl <;> decide
theorem nle160 {a : Nat} (h : a < 160) : ¬ (160 : Int32) ≤ nI a := nI_ge h (by decide)
theorem nlt1 {a : Nat} (h : 1 ≤ a) (h2 : a < 2 ^ 31) : ¬ nI a < 1 := nI_nlt (a := a) (b := 1) h h2
theorem nlt2 {a : Nat} (h : 2 ≤ a) (h2 : a < 2 ^ 31) : ¬ nI a < 2 := nI_nlt (a := a) (b := 2) h h2
/-! ===== the class's value ===== -/
theorem xval_loop {t : Nat} {T : TT} {nm : Nat → Int32} {E : Nat} (hT2 : T.2 2 ≤ 160) (hE : E ≤ T.2 2) (ht : t < 6) : ∀ n i s fuel σ, txX σ t T → (∀ j, j < 6 → gA σ 38 j = nm j) → i + n = E → hrun T.1 n i s.length = some 1 → s.length ≤ i → n < fuel → stk (gA σ 39) s → ∃ σ', f_X6_value_L48 fuel (25 + t) (nI E) (nI s.length) (nI i) σ = some ((evn T.1 nm n i s).headD 0, σ') ∧ Fr a39 bW σ σ' := by
  intro n
  induction n with
  | zero =>
    intro i s fuel σ hx hnm hi hr hs hf hk
    obtain ⟨fuel, rfl⟩ : ∃ k, fuel = k + 1 := ⟨fuel - 1, by omega⟩
    have hl : s.length = 1 := Option.some.inj hr
    rw [ef_X6_value_L48, if_pos (by rw [nI_leI (by omega) (by omega)]; omega), hl]
    match s, hl, hk with
    | [a], _, hk =>
      refine ⟨σ, ?_, Fr.rf⟩
      rw [if_neg (by decide), show nI 1 - 1 = nI 0 from rfl, jix_t (by omega) (by omega), nI_clamp (by omega)]
      show some (gA σ 39 0, σ) = some (a, σ)
      rw [show gA σ 39 0 = a from hk.1]
  | succ n ih =>
    intro i s fuel σ hx hnm hi hr hs hf hk
    obtain ⟨fuel, rfl⟩ : ∃ k, fuel = k + 1 := ⟨fuel - 1, by omega⟩
    obtain ⟨h', hh, hr2⟩ := Option.bind_eq_some_iff.mp (show (h1 (T.1 i) s.length).bind (hrun T.1 n (i + 1)) = some 1 from hr)
    have hlen := ev1_len (nm := nm) hh
    have hc : gA σ (25 + t) i = xC (T.1 i) := hx.1 i (by omega)
    -- how a step goes on
    have go : ∀ (σ2 : ST), Fr a39 bW σ σ2 → stk (gA σ2 39) (ev1 nm (T.1 i) s) → (ev1 nm (T.1 i) s).length ≤ i + 1 → ∃ σ', f_X6_value_L48 fuel (25 + t) (nI E) (nI (ev1 nm (T.1 i) s).length) (nI i + 1) σ2 = some ((evn T.1 nm (n + 1) i s).headD 0, σ') ∧ Fr a39 bW σ σ' := by
      intro σ2 f hk2 hl2
      have hx2 : txX σ2 t T := ⟨fun j hj => by
        rw [f.A (show a39 (25 + t) = false by unfold a39; simp; omega)]; exact hx.1 j hj, fun p hp => by
        rw [f.A (show a39 (32 + t) = false by unfold a39; simp; omega)]; exact hx.2 p hp⟩
      obtain ⟨σ', e1, e2⟩ := ih (i + 1) (ev1 nm (T.1 i) s) fuel σ2 hx2 (fun j hj => by rw [f.A rfl]; exact hnm j hj) (by omega) (by rw [hlen]; exact hr2) hl2 (by omega) hk2
      exact ⟨σ', by rw [nI_1]; exact e1, f.trans e2⟩
    rw [ef_X6_value_L48, if_neg (by rw [nI_leI (by omega) (by omega)]; omega), jix_t (by omega) (by omega), nI_clamp (by omega), jlet_s, hc]
    unfold h1 at hh
    by_cases b1 : 100000 ≤ T.1 i
    · rw [if_pos b1] at hh
      have b2 : T.1 i < 110000 := by
        rcases Nat.lt_or_ge (T.1 i) 110000 with z | z
        · exact z
        · rw [if_neg (by omega)] at hh; cases hh
      obtain ⟨x1, x2, x3⟩ := xC_num b1 b2
      rw [if_neg x2, if_neg (nle160 (by omega)), if_neg x3]
      unfold f_X6_value_L100 f_X6_value_L215
      rw [jix_t (by omega) (by omega), nI_clamp (by omega), jlet_s, jlet_s, jlet_s, nI_1]
      have e1 : ev1 nm (T.1 i) s = nI (T.1 i - 100000) :: s := by unfold ev1; rw [if_pos b1]
      have w := go (sA σ 39 s.length (xC (T.1 i))) (Fr.rf.sA rfl (by omega)) (by
        rw [e1]
        refine ⟨?_, ?_⟩
        · rw [gA_sA, if_pos ⟨rfl, rfl⟩, x1]
        · show stk (gA (rA σ 39 _) 39) s
          rw [gA_rA]
          exact stk_upd (Nat.le_refl _) hk) (by rw [e1]; simp; omega)
      rw [show (ev1 nm (T.1 i) s).length = s.length + 1 by rw [e1]; rfl] at w
      exact w
    · rw [if_neg b1] at hh
      by_cases b2 : T.1 i < 6
      · obtain ⟨x1, x2, x3⟩ := xC_name _ b2
        rw [if_neg x1, if_neg (nle160 (by omega)), if_pos x2, x3, jix_t b2 (by omega), nI_clamp (by omega), hnm _ b2]
        unfold f_X6_value_L100 f_X6_value_L215
        rw [jix_t (by omega) (by omega), nI_clamp (by omega), jlet_s, jlet_s, jlet_s, nI_1]
        have e1 : ev1 nm (T.1 i) s = nm (T.1 i) :: s := by unfold ev1; rw [if_neg b1, if_pos (by omega)]
        have w := go (sA σ 39 s.length (nm (T.1 i))) (Fr.rf.sA rfl (by omega)) (by
          rw [e1]
          refine ⟨?_, ?_⟩
          · rw [gA_sA, if_pos ⟨rfl, rfl⟩]
          · show stk (gA (rA σ 39 _) 39) s
            rw [gA_rA]
            exact stk_upd (Nat.le_refl _) hk) (by rw [e1]; simp; omega)
        rw [show (ev1 nm (T.1 i) s).length = s.length + 1 by rw [e1]; rfl] at w
        exact w
      · rw [if_neg b2] at hh
        by_cases b3 : T.1 i < 11
        · rw [if_pos b3] at hh; cases hh
        · rw [if_neg b3] at hh
          by_cases b4 : 19 < T.1 i
          · rw [if_pos b4] at hh; cases hh
          · rw [if_neg b4] at hh
            by_cases b5 : T.1 i = 13
            · rw [if_pos (Or.inl b5)] at hh
              match s, hk, hs, hh, go, hr, hlen with
              | [], _, _, hh, _, _, _ => rw [if_neg (by decide)] at hh; cases hh
              | a :: r, hk, hs, hh, go, hr, hlen =>
                have hs' : r.length + 1 ≤ i := hs
                have e1 : ev1 nm (T.1 i) (a :: r) = (if a = 0 then 1 else 0) :: r := by
                  unfold ev1; rw [if_neg b1, if_neg b3]
                  show (if T.1 i = 13 then _ else _ : List Int32) = _
                  rw [if_pos b5]
                rw [show (a :: r).length = r.length + 1 from rfl, b5, if_pos (show xC 13 < -6 by decide)]
                unfold f_X6_value_L107 f_X6_value_L172 f_X6_value_L215
                rw [if_neg (show ¬ xC 13 < -8 by decide), if_neg (show ¬ -7 < xC 13 by decide), if_neg (nlt1 (by omega) (by omega)), if_pos (show ¬ xC 13 = -8 by decide), nI_pred, jix_t (by omega) (by omega), nI_clamp (by omega), jix_t (by omega) (by omega), jix_t (by omega) (by omega), jlet_s, jlet_s, jlet_s, jlet_s, hk.1]
                have w := go (sA σ 39 r.length (if a = 0 then 1 else 0)) (Fr.rf.sA rfl (by omega)) (by
                  rw [e1]
                  refine ⟨?_, ?_⟩
                  · rw [gA_sA, if_pos ⟨rfl, rfl⟩]
                  · show stk (gA (rA σ 39 _) 39) r
                    rw [gA_rA]
                    exact stk_upd (Nat.le_refl _) hk.2) (by rw [e1]; simp; omega)
                rw [show (ev1 nm (T.1 i) (a :: r)).length = r.length + 1 by rw [e1]; rfl] at w
                by_cases ha : a = 0
                · rw [if_pos ha] at w
                  rw [if_neg (fun q => q ha)]; exact w
                · rw [if_neg ha] at w
                  rw [if_pos ha]; exact w
            · by_cases b6 : T.1 i = 19
              · rw [if_pos (Or.inr b6)] at hh
                match s, hk, hs, hh, go, hr, hlen with
                | [], _, _, hh, _, _, _ => rw [if_neg (by decide)] at hh; cases hh
                | a :: r, hk, hs, hh, go, hr, hlen =>
                  have hs' : r.length + 1 ≤ i := hs
                  have e1 : ev1 nm (T.1 i) (a :: r) = (-a) :: r := by
                    unfold ev1; rw [if_neg b1, if_neg b3]
                    show (if T.1 i = 13 then _ else if T.1 i = 19 then _ else _ : List Int32) = _
                    rw [if_neg b5, if_pos b6]
                  rw [show (a :: r).length = r.length + 1 from rfl, b6, if_pos (show xC 19 < -6 by decide)]
                  unfold f_X6_value_L107 f_X6_value_L172 f_X6_value_L215
                  rw [if_neg (show ¬ xC 19 < -8 by decide), if_neg (show ¬ -7 < xC 19 by decide), if_neg (nlt1 (by omega) (by omega)), if_neg (show ¬ ¬ xC 19 = -8 by decide), nI_pred, jix_t (by omega) (by omega), nI_clamp (by omega), jix_t (by omega) (by omega), jlet_s, jlet_s, hk.1]
                  have w := go (sA σ 39 r.length (-a)) (Fr.rf.sA rfl (by omega)) (by
                    rw [e1]
                    refine ⟨?_, ?_⟩
                    · rw [gA_sA, if_pos ⟨rfl, rfl⟩]
                    · show stk (gA (rA σ 39 _) 39) r
                      rw [gA_rA]
                      exact stk_upd (Nat.le_refl _) hk.2) (by rw [e1]; simp; omega)
                  rw [show (ev1 nm (T.1 i) (a :: r)).length = r.length + 1 by rw [e1]; rfl] at w
                  exact w
              · rw [if_neg (not_or.mpr ⟨b5, b6⟩)] at hh
                have hq : 11 ≤ T.1 i ∧ T.1 i ≤ 18 ∧ T.1 i ≠ 13 := ⟨by omega, by omega, b5⟩
                match s, hk, hs, hh, go, hr, hlen with
                | [], _, _, hh, _, _, _ => rw [if_neg (by decide)] at hh; cases hh
                | [_], _, _, hh, _, _, _ => rw [if_neg (by simp)] at hh; cases hh
                | b :: a :: r, hk, hs, hh, go, hr, hlen =>
                  have hs' : r.length + 2 ≤ i := hs
                  have e1 : ev1 nm (T.1 i) (b :: a :: r) = f_X10_two (nI (T.1 i)) a b :: r := by
                    unfold ev1; rw [if_neg b1, if_neg b3]
                    show (if T.1 i = 13 then _ else if T.1 i = 19 then _ else _ : List Int32) = _
                    rw [if_neg b5, if_neg b6]
                  obtain ⟨x1, x2⟩ := xC_bin hq
                  rw [show (b :: a :: r).length = r.length + 1 + 1 from rfl, if_pos x1]
                  unfold f_X6_value_L107 f_X6_value_L176 f_X6_value_L215
                  rw [if_pos x2, if_neg (nlt2 (by omega) (by omega)), pk_m1, jlet_s, nI_pred, jix_t (by omega) (by omega), jix_t (by omega) (by omega), nI_clamp (by omega), nI_clamp (by omega), joined_n _ _ hq, jlet_s, jix_t (by omega) (by omega), jlet_s, jlet_s, hk.2.1, show gA σ 39 (r.length + 1) = b from hk.1]
                  have w := go (sA σ 39 r.length (f_X10_two (nI (T.1 i)) a b)) (Fr.rf.sA rfl (by omega)) (by
                    rw [e1]
                    refine ⟨?_, ?_⟩
                    · rw [gA_sA, if_pos ⟨rfl, rfl⟩]
                    · show stk (gA (rA σ 39 _) 39) r
                      rw [gA_rA]
                      exact stk_upd (Nat.le_refl _) hk.2.2) (by rw [e1]; simp; omega)
                  rw [show (ev1 nm (T.1 i) (b :: a :: r)).length = r.length + 1 by rw [e1]; rfl] at w
                  exact w
/-! ===== the reference's value ===== -/
theorem mval_loop {t p : Nat} {T : TT} {nm : Nat → Int32} (hT2 : T.2 2 ≤ 160) (hE : T.2 p ≤ T.2 2) (ht : t < 6) (hp : p < 3) : ∀ n i s fuel σ, gA σ 0 13 = nI t → txM σ t T → (∀ j, j < 6 → gA σ 21 j = nm j) → i + n = T.2 p → hrun T.1 n i s.length = some 1 → s.length ≤ i → n < fuel → stk (gA σ 20) s → ∃ σ', f_X10_worth_L16 fuel (nI p) (nI s.length) (nI i) σ = some ((evn T.1 nm n i s).headD 0, σ') ∧ Fr a20 bW σ σ' := by
  intro n
  induction n with
  | zero =>
    intro i s fuel σ hru hx hnm hi hr hs hf hk
    obtain ⟨fuel, rfl⟩ : ∃ k, fuel = k + 1 := ⟨fuel - 1, by omega⟩
    have hl : s.length = 1 := Option.some.inj hr
    have he : gA σ 10 (4 * t + p + 1) = nI (T.2 p) := by
      have w := hx.2 (p + 1) (by omega)
      unfold eb at w
      rwa [if_neg (by omega), Nat.add_sub_cancel, ← Nat.add_assoc] at w
    rw [ef_X10_worth_L16, hru]
    rw [show (4 : Int32) * nI t + nI p + 1 = nI (4 * t + p + 1) by rw [show (4 : Int32) = nI 4 from rfl, pk_mul, nI_add, nI_1], jix_t (by omega) (by omega), nI_clamp (by omega), he, if_pos (by rw [nI_leI (by omega) (by omega)]; omega)]
    match s, hl, hk with
    | [a], _, hk =>
      refine ⟨σ, ?_, Fr.rf⟩
      show some (gA σ 20 0, σ) = some (a, σ)
      rw [show gA σ 20 0 = a from hk.1]
  | succ n ih =>
    intro i s fuel σ hru hx hnm hi hr hs hf hk
    obtain ⟨fuel, rfl⟩ : ∃ k, fuel = k + 1 := ⟨fuel - 1, by omega⟩
    obtain ⟨h', hh, hr2⟩ := Option.bind_eq_some_iff.mp (show (h1 (T.1 i) s.length).bind (hrun T.1 n (i + 1)) = some 1 from hr)
    have hlen := ev1_len (nm := nm) hh
    have hc : gA σ 9 (200 * t + i) = nI (T.1 i) := hx.1 i (by omega)
    have he : gA σ 10 (4 * t + p + 1) = nI (T.2 p) := by
      have w := hx.2 (p + 1) (by omega)
      unfold eb at w
      rwa [if_neg (by omega), Nat.add_sub_cancel, ← Nat.add_assoc] at w
    have go : ∀ (σ2 : ST), Fr a20 bW σ σ2 → stk (gA σ2 20) (ev1 nm (T.1 i) s) → (ev1 nm (T.1 i) s).length ≤ i + 1 → ∃ σ', f_X10_worth_L16 fuel (nI p) (nI (ev1 nm (T.1 i) s).length) (nI i + 1) σ2 = some ((evn T.1 nm (n + 1) i s).headD 0, σ') ∧ Fr a20 bW σ σ' := by
      intro σ2 f hk2 hl2
      have hx2 : txM σ2 t T := ⟨fun j hj => by rw [f.A rfl]; exact hx.1 j hj, fun p hp => by rw [f.A rfl]; exact hx.2 p hp⟩
      obtain ⟨σ', e1, e2⟩ := ih (i + 1) (ev1 nm (T.1 i) s) fuel σ2 (by rw [f.A rfl]; exact hru) hx2 (fun j hj => by rw [f.A rfl]; exact hnm j hj) (by omega) (by rw [hlen]; exact hr2) hl2 (by omega) hk2
      exact ⟨σ', by rw [nI_1]; exact e1, f.trans e2⟩
    rw [ef_X10_worth_L16, hru]
    rw [show (4 : Int32) * nI t + nI p + 1 = nI (4 * t + p + 1) by rw [show (4 : Int32) = nI 4 from rfl, pk_mul, nI_add, nI_1], jix_t (by omega) (by omega), nI_clamp (by omega), he, if_neg (by rw [nI_leI (by omega) (by omega)]; omega), show (200 : Int32) * nI t + nI i = nI (200 * t + i) by rw [show (200 : Int32) = nI 200 from rfl, pk_mul, nI_add], jix_t (by omega) (by omega), nI_clamp (by omega), jlet_s, hc]
    have hq : T.1 i < 110000 := by
      unfold h1 at hh
      rcases Nat.lt_or_ge (T.1 i) 110000 with z | z
      · exact z
      · rw [if_pos (by omega), if_neg (by omega)] at hh; cases hh
    have k1 : (100000 : Int32) ≤ nI (T.1 i) ↔ 100000 ≤ T.1 i := nI_leI (a := 100000) (by omega) (by omega)
    have k2 : (11 : Int32) ≤ nI (T.1 i) ↔ 11 ≤ T.1 i := nI_leI (a := 11) (by omega) (by omega)
    have k3 : nI (T.1 i) = 13 ↔ T.1 i = 13 := nI_eq (b := 13) (by omega) (by omega)
    have k4 : nI (T.1 i) = 19 ↔ T.1 i = 19 := nI_eq (b := 19) (by omega) (by omega)
    simp only [k1, k2, k3, k4]
    unfold h1 at hh
    by_cases b1 : 100000 ≤ T.1 i
    · rw [if_pos b1]
      unfold f_X10_worth_L66 f_X10_worth_L93 f_X10_worth_L191
      rw [if_pos (k2.mpr (by omega)), show nI (T.1 i) - 100000 = nI (T.1 i - 100000) from pk_sub (b := 100000) b1, jix_t (by omega) (by omega), nI_clamp (by omega), jlet_s, jlet_s, jlet_s, nI_1]
      have e1 : ev1 nm (T.1 i) s = nI (T.1 i - 100000) :: s := by unfold ev1; rw [if_pos b1]
      have w := go (sA σ 20 s.length (nI (T.1 i - 100000))) (Fr.rf.sA rfl (by omega)) (by
        rw [e1]
        refine ⟨?_, ?_⟩
        · rw [gA_sA, if_pos ⟨rfl, rfl⟩]
        · show stk (gA (rA σ 20 _) 20) s
          rw [gA_rA]
          exact stk_upd (Nat.le_refl _) hk) (by rw [e1]; simp; omega)
      rw [show (ev1 nm (T.1 i) s).length = s.length + 1 by rw [e1]; rfl] at w
      exact w
    · rw [if_neg b1] at hh ⊢
      by_cases b3 : T.1 i < 11
      · by_cases b2 : T.1 i < 6
        · rw [if_neg (by omega)]
          unfold f_X10_worth_L66 f_X10_worth_L93 f_X10_worth_L191
          rw [if_neg (fun z => absurd (k2.mp z) (by omega)), jix_t (by omega) (by omega), nI_clamp (by omega), jix_t (by omega) (by omega), nI_clamp (by omega), hnm _ b2, jlet_s, jlet_s, jlet_s, nI_1]
          have e1 : ev1 nm (T.1 i) s = nm (T.1 i) :: s := by unfold ev1; rw [if_neg b1, if_pos (by omega)]
          have w := go (sA σ 20 s.length (nm (T.1 i))) (Fr.rf.sA rfl (by omega)) (by
            rw [e1]
            refine ⟨?_, ?_⟩
            · rw [gA_sA, if_pos ⟨rfl, rfl⟩]
            · show stk (gA (rA σ 20 _) 20) s
              rw [gA_rA]
              exact stk_upd (Nat.le_refl _) hk) (by rw [e1]; simp; omega)
          rw [show (ev1 nm (T.1 i) s).length = s.length + 1 by rw [e1]; rfl] at w
          exact w
        · rw [if_neg b2, if_pos b3] at hh; cases hh
      · rw [if_neg (show ¬ T.1 i < 6 by omega), if_neg b3] at hh
        rw [if_pos (show 11 ≤ T.1 i by omega)]
        by_cases b4 : 19 < T.1 i
        · rw [if_pos b4] at hh; cases hh
        · rw [if_neg b4] at hh
          by_cases b5 : T.1 i = 13
          · rw [if_pos (Or.inl b5)] at hh
            match s, hk, hs, hh, go, hr, hlen with
            | [], _, _, hh, _, _, _ => rw [if_neg (by simp)] at hh; cases hh
            | a :: r, hk, hs, hh, go, hr, hlen =>
              have hs' : r.length + 1 ≤ i := hs
              have e1 : ev1 nm (T.1 i) (a :: r) = (if a = 0 then 1 else 0) :: r := by
                unfold ev1; rw [if_neg b1, if_neg b3]
                show (if T.1 i = 13 then _ else _ : List Int32) = _
                rw [if_pos b5]
              rw [show (a :: r).length = r.length + 1 from rfl, if_neg (fun q => q b5), nI_pred, jix_t (by omega) (by omega), nI_clamp (by omega), hk.1]
              unfold f_X10_worth_L130 f_X10_worth_L191
              rw [jix_t (by omega) (by omega), jix_t (by omega) (by omega), nI_clamp (by omega), jlet_s, jlet_s, jlet_s, jlet_s]
              have w := go (sA σ 20 r.length (if a = 0 then 1 else 0)) (Fr.rf.sA rfl (by omega)) (by
                rw [e1]
                refine ⟨?_, ?_⟩
                · rw [gA_sA, if_pos ⟨rfl, rfl⟩]
                · show stk (gA (rA σ 20 _) 20) r
                  rw [gA_rA]
                  exact stk_upd (Nat.le_refl _) hk.2) (by rw [e1]; simp; omega)
              rw [show (ev1 nm (T.1 i) (a :: r)).length = r.length + 1 by rw [e1]; rfl] at w
              by_cases ha : a = 0
              · rw [if_pos ha] at w
                rw [if_neg (fun q => q ha)]; exact w
              · rw [if_neg ha] at w
                rw [if_pos ha]; exact w
          · rw [if_pos b5]
            by_cases b6 : T.1 i = 19
            · rw [if_pos (Or.inr b6)] at hh
              match s, hk, hs, hh, go, hr, hlen with
              | [], _, _, hh, _, _, _ => rw [if_neg (by simp)] at hh; cases hh
              | a :: r, hk, hs, hh, go, hr, hlen =>
                have hs' : r.length + 1 ≤ i := hs
                have e1 : ev1 nm (T.1 i) (a :: r) = (-a) :: r := by
                  unfold ev1; rw [if_neg b1, if_neg b3]
                  show (if T.1 i = 13 then _ else if T.1 i = 19 then _ else _ : List Int32) = _
                  rw [if_neg b5, if_pos b6]
                rw [show (a :: r).length = r.length + 1 from rfl, if_neg (fun q => q b6), nI_pred, jix_t (by omega) (by omega), jix_t (by omega) (by omega), nI_clamp (by omega), hk.1, jlet_s]
                unfold f_X10_worth_L191
                rw [jlet_s]
                have w := go (sA σ 20 r.length (-a)) (Fr.rf.sA rfl (by omega)) (by
                  rw [e1]
                  refine ⟨?_, ?_⟩
                  · rw [gA_sA, if_pos ⟨rfl, rfl⟩]
                  · show stk (gA (rA σ 20 _) 20) r
                    rw [gA_rA]
                    exact stk_upd (Nat.le_refl _) hk.2) (by rw [e1]; simp; omega)
                rw [show (ev1 nm (T.1 i) (a :: r)).length = r.length + 1 by rw [e1]; rfl] at w
                exact w
            · rw [if_neg (not_or.mpr ⟨b5, b6⟩)] at hh
              match s, hk, hs, hh, go, hr, hlen with
              | [], _, _, hh, _, _, _ => rw [if_neg (by simp)] at hh; cases hh
              | [_], _, _, hh, _, _, _ => rw [if_neg (by simp)] at hh; cases hh
              | b :: a :: r, hk, hs, hh, go, hr, hlen =>
                have hs' : r.length + 2 ≤ i := hs
                have e1 : ev1 nm (T.1 i) (b :: a :: r) = f_X10_two (nI (T.1 i)) a b :: r := by
                  unfold ev1; rw [if_neg b1, if_neg b3]
                  show (if T.1 i = 13 then _ else if T.1 i = 19 then _ else _ : List Int32) = _
                  rw [if_neg b5, if_neg b6]
                rw [show (b :: a :: r).length = r.length + 1 + 1 from rfl, if_pos b6, pk_m1, jlet_s, nI_pred, jix_t (by omega) (by omega), jix_t (by omega) (by omega), nI_clamp (by omega), nI_clamp (by omega), jlet_s, jix_t (by omega) (by omega), jlet_s, hk.2.1, show gA σ 20 (r.length + 1) = b from hk.1]
                unfold f_X10_worth_L191
                rw [jlet_s]
                have w := go (sA σ 20 r.length (f_X10_two (nI (T.1 i)) a b)) (Fr.rf.sA rfl (by omega)) (by
                  rw [e1]
                  refine ⟨?_, ?_⟩
                  · rw [gA_sA, if_pos ⟨rfl, rfl⟩]
                  · show stk (gA (rA σ 20 _) 20) r
                    rw [gA_rA]
                    exact stk_upd (Nat.le_refl _) hk.2.2) (by rw [e1]; simp; omega)
                rw [show (ev1 nm (T.1 i) (b :: a :: r)).length = r.length + 1 by rw [e1]; rfl] at w
                exact w
/-! ===== within its bounds ===== -/
theorem clampX (v : Int32) (m : Nat) (hm : m < 1000) : jmax 0 (jmin v (nI m)) = nI (min v.toInt.toNat m) := by
  have hv := nI_toInt (n := m) (by omega)
  unfold jmax jmin
  apply Int32.toInt_inj.mp
  rw [nI_toInt (by omega)]
  by_cases h1 : nI m < v
  · rw [if_pos h1]
    rw [Int32.lt_iff_toInt_lt, hv] at h1
    by_cases h2 : (0 : Int32) < nI m
    · rw [if_pos h2, hv]; omega
    · rw [if_neg h2]
      rw [Int32.lt_iff_toInt_lt, hv, Int32.toInt_zero] at h2
      rw [Int32.toInt_zero]; omega
  · rw [if_neg h1]
    rw [Int32.lt_iff_toInt_lt, hv] at h1
    by_cases h2 : (0 : Int32) < v
    · rw [if_pos h2]
      rw [Int32.lt_iff_toInt_lt, Int32.toInt_zero] at h2
      omega
    · rw [if_neg h2]
      rw [Int32.lt_iff_toInt_lt, Int32.toInt_zero] at h2
      rw [Int32.toInt_zero]; omega
theorem clampM (v : Int32) (m : Nat) (hm : m < 1000) : f_X10_within v 0 (nI m) = nI (min v.toInt.toNat m) := by
  have hv := nI_toInt (n := m) (by omega)
  unfold f_X10_within
  apply Int32.toInt_inj.mp
  rw [nI_toInt (by omega)]
  by_cases h1 : (0 : Int32) ≤ v
  · rw [if_pos h1]
    rw [Int32.le_iff_toInt_le, Int32.toInt_zero] at h1
    by_cases h2 : v ≤ nI m
    · rw [if_pos h2]
      rw [Int32.le_iff_toInt_le, hv] at h2
      omega
    · rw [if_neg h2]
      rw [Int32.le_iff_toInt_le, hv] at h2
      rw [hv]; omega
  · rw [if_neg h1]
    rw [Int32.le_iff_toInt_le, Int32.toInt_zero] at h1
    rw [Int32.toInt_zero]; omega
theorem TW.b {T : TT} (h : TW T) {p : Nat} (hp : p < 3) : eb T.2 p ≤ T.2 p ∧ T.2 p ≤ T.2 2 ∧ T.2 2 ≤ 160 := ⟨(h.2.1 p hp).1, (h.2.1 p hp).2, h.1⟩
theorem xsays {σ : ST} {t p : Nat} {T : TT} {nm : Nat → Int32} (hT : TW T) (ht : t < 6) (hp : p < 3) (hr : gA σ 4 3 = nI t) (hx : txX σ t T) (hnm : ∀ j, j < 6 → gA σ 38 j = nm j) : ∃ σ', f_X6_says (nI p) σ = some (nI (Zsay T nm p), σ') ∧ Fr a39 bW σ σ' := by
  have hb := hT.b hp
  have e46 : ∃ σ', f_X6_value_L46 (25 + t) (nI (T.2 p)) 0 (nI (eb T.2 p)) σ = some (Zval T nm p, σ') ∧ Fr a39 bW σ σ' := by
    unfold f_X6_value_L46
    exact xval_loop hb.2.2 hb.2.1 ht (T.2 p - eb T.2 p) (eb T.2 p) [] FU σ hx hnm (by omega) (hT.2.2 p hp) (Nat.zero_le _) (by unfold FU; omega) trivial
  obtain ⟨σ', e1, e2⟩ := e46
  refine ⟨σ', ?_, e2⟩
  have ev : f_X6_value (nI p) σ = some (Zval T nm p, σ') := by
    unfold f_X6_value
    rw [hr, jix_t ht (by omega), nI_clamp (by omega), jlet_s, jix_t ht (by omega), jlet_s, jix_t hp (by omega), nI_clamp (by omega), jlet_s, hx.2 p hp]
    unfold eb at e1
    by_cases h0 : p = 0
    · subst h0
      rw [if_neg (by decide)]; exact e1
    · rw [if_neg h0] at e1
      rw [if_pos (nI_ne0 (by omega) (by omega)), jix_t ht (by omega), jlet_s, show nI p - 1 = nI (p - 1) from pk_sub (b := 1) (by omega), jix_t (by omega) (by omega), nI_clamp (by omega), hx.2 (p - 1) (by omega)]
      exact e1
  unfold f_X6_says f_X6_says_L34
  rw [ev, jbp_s]
  unfold Zsay
  rcases (show p = 0 ∨ p = 1 ∨ p = 2 by omega) with rfl | rfl | rfl
  · rw [if_pos (by decide), if_neg (by decide), if_neg (by decide), if_pos rfl]
    rw [show (9 : Int32) = nI 9 from rfl, clampX _ _ (by omega)]
  · rw [if_neg (by decide), if_pos rfl]
    by_cases h : Zval T nm 1 = 0
    · rw [if_pos h, if_pos h]; rfl
    · rw [if_neg h, if_neg h]; rfl
  · rw [if_pos (by decide), if_pos (by decide), if_neg (by decide), if_neg (by decide)]
    rw [show (99 : Int32) = nI 99 from rfl, clampX _ _ (by omega)]
def aN : Nat → Bool := fun k => k == 20 || k == 21
def nmf (a b c d e f : Int32) : Nat → Int32 := fun j => if j = 0 then a else if j = 1 then b else if j = 2 then c else if j = 3 then d else if j = 4 then e else f
theorem masks {σ : ST} {t p : Nat} {T : TT} (hT : TW T) (ht : t < 6) (hp : p < 3) (hr : gA σ 0 13 = nI t) (hx : txM σ t T) (a b c d e f : Int32) : ∃ σ', f_X10_asksOf (nI p) a b c d e f σ = some (nI (Zsay T (nmf a b c d e f) p), σ') ∧ Fr aN bW σ σ' := by
  have hb := hT.b hp
  unfold f_X10_asksOf f_X10_asksOf_L85
  simp only [jlet_s, show Int32.toNatClampNeg 0 = 0 from rfl, show Int32.toNatClampNeg 1 = 1 from rfl, show Int32.toNatClampNeg 2 = 2 from rfl, show Int32.toNatClampNeg 3 = 3 from rfl, show Int32.toNatClampNeg 4 = 4 from rfl, show Int32.toNatClampNeg 5 = 5 from rfl]
  have f1 : Fr aN bW σ (sA (sA (sA (sA (sA (sA σ 21 0 a) 21 1 b) 21 2 c) 21 3 d) 21 4 e) 21 5 f) := (((((Fr.rf.sA rfl (by omega)).sA rfl (by omega)).sA rfl (by omega)).sA rfl (by omega)).sA rfl (by omega)).sA rfl (by omega)
  have hn : ∀ j, j < 6 → gA (sA (sA (sA (sA (sA (sA σ 21 0 a) 21 1 b) 21 2 c) 21 3 d) 21 4 e) 21 5 f) 21 j = nmf a b c d e f j := by
    intro j hj
    simp only [gA_sA]
    rcases (show j = 0 ∨ j = 1 ∨ j = 2 ∨ j = 3 ∨ j = 4 ∨ j = 5 by omega) with rfl | rfl | rfl | rfl | rfl | rfl <;> rfl
  generalize sA (sA (sA (sA (sA (sA σ 21 0 a) 21 1 b) 21 2 c) 21 3 d) 21 4 e) 21 5 f = s at f1 hn ⊢
  have hru : gA s 0 13 = nI t := by rw [f1.A rfl]; exact hr
  have hx2 : txM s t T := ⟨fun j hj => by rw [f1.A rfl]; exact hx.1 j hj, fun p hp => by rw [f1.A rfl]; exact hx.2 p hp⟩
  obtain ⟨σ', e1, e2⟩ := mval_loop hb.2.2 hb.2.1 ht hp (T.2 p - eb T.2 p) (eb T.2 p) [] FU s hru hx2 hn (by omega) (hT.2.2 p hp) (Nat.zero_le _) (by unfold FU; omega) trivial
  have ev : f_X10_worth (nI p) s = some (Zval T (nmf a b c d e f) p, σ') := by
    unfold f_X10_worth
    rw [hru, show (4 : Int32) * nI t + nI p = nI (4 * t + p) by rw [show (4 : Int32) = nI 4 from rfl, pk_mul, nI_add], jix_t (by omega) (by omega), nI_clamp (by omega), jlet_s, hx2.2 p (by omega)]
    exact e1
  rw [ev, jbp_s]
  refine ⟨σ', ?_, f1.trans (e2.mono (fun k q => by unfold aN at q; unfold a20; simp at q ⊢; exact q.1) (fun k q => q))⟩
  unfold Zsay
  rcases (show p = 0 ∨ p = 1 ∨ p = 2 by omega) with rfl | rfl | rfl
  · rw [if_pos (by decide), if_neg (by decide), if_neg (by decide), if_pos rfl]
    rw [show (9 : Int32) = nI 9 from rfl, clampM _ _ (by omega)]
  · rw [if_neg (by decide), if_pos rfl]
    by_cases h : Zval T (nmf a b c d e f) 1 = 0
    · rw [if_neg (fun q => q h), if_pos h]; rfl
    · rw [if_pos h, if_neg h]; rfl
  · rw [if_pos (by decide), if_pos (by decide), if_neg (by decide), if_neg (by decide)]
    rw [show (99 : Int32) = nI 99 from rfl, clampM _ _ (by omega)]
