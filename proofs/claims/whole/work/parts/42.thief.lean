/-! ===== a thief's cells ===== -/
theorem litSh (x : Int64) : jlshl x (1 : Int32) = jlshl x (nI 1) ∧ jlshl x (6 : Int32) = jlshl x (nI 6) ∧ jlushr x (1 : Int32) = jlushr x (nI 1) ∧ jlushr x (6 : Int32) = jlushr x (nI 6) ∧ jlshr x (1 : Int32) = jlshr x (nI 1) ∧ jlshr x (6 : Int32) = jlshr x (nI 6) := ⟨rfl, rfl, rfl, rfl, rfl, rfl⟩
theorem k_right : ∀ i, i < 36 → 1 ≤ i → bit (-34905131041) (i - 1) = bit (-1090785346) i := by decide +kernel
/-- the cells beside, one bit -/
def nbb (x : Int64) (i : Nat) : Bool := (decide (6 ≤ i) && bit x (i - 6)) || bit x (6 + i) || (decide (1 ≤ i) && bit x (i - 1) && bit (-1090785346) i) || (bit x (1 + i) && bit (-1090785346) (1 + i))
theorem with_bit (x : Int64) {i : Nat} (hi : i < 36) : bit (f_X7_withBeside x) i = (bit x i || nbb x i) := by
  unfold f_X7_withBeside nbb
  simp only [jlet_s]
  rw [bit_and, bit_36, decide_eq_true hi, Bool.and_true, bit_or, bit_or, bit_or, bit_or, bit_and, (litSh x).1, (litSh x).2.1, (litSh (x &&& -1090785346)).2.2.1, (litSh x).2.2.2.1, bit_shl 1 (by omega) x (by omega), bit_shl 6 (by omega) x (by omega), bit_ushr 1 (by omega), bit_ushr 6 (by omega), bit_and]
  simp only [Bool.or_assoc]
theorem spread_bit {S : Nat → Int64} {σ : ST} (h : gB σ 1 0 = S 0) (x : Int64) {i : Nat} (hi : i < 36) : bit (f_X10_spread x σ) i = (bit x i || (nbb x i && !bit (S 0) i)) := by
  unfold f_X10_spread nbb
  simp only [jlet_s]
  rw [show Int32.toNatClampNeg 0 = 0 from rfl, h, bit_or, bit_and, bit_and, bit_36, decide_eq_true hi, Bool.and_true, bit_not _ (by omega), bit_or, bit_or, bit_or, (litSh (x &&& -34905131041)).1, (litSh x).2.1, (litSh (x &&& -1090785346)).2.2.2.2.1, (litSh x).2.2.2.2.2, bit_shl 1 (by omega) _ (by omega), bit_shl 6 (by omega) x (by omega), bit_shr 1 (by omega) _ (by omega), bit_shr 6 (by omega) x (by omega), if_pos (by omega), if_pos (by omega), bit_and, bit_and]
  congr 1
  congr 1
  have e : (decide (1 ≤ i) && (bit x (i - 1) && bit (-34905131041) (i - 1))) = (decide (1 ≤ i) && bit x (i - 1) && bit (-1090785346) i) := by
    by_cases q : 1 ≤ i
    · rw [k_right i hi q, Bool.and_assoc]
    · rw [decide_eq_false q]; rfl
  rw [e]
  cases (decide (6 ≤ i) && bit x (i - 6)) <;> cases bit x (6 + i) <;> cases (decide (1 ≤ i) && bit x (i - 1) && bit (-1090785346) i) <;> cases (bit x (1 + i) && bit (-1090785346) (1 + i)) <;> rfl
theorem spread_hi {S : Nat → Int64} {σ : ST} (h : gB σ 1 0 = S 0) {x : Int64} (hx : ∀ b, 36 ≤ b → bit x b = false) : ∀ b, 36 ≤ b → bit (f_X10_spread x σ) b = false := fun b hb => by
  unfold f_X10_spread
  simp only [jlet_s]
  rw [bit_or, hx b hb, bit_and, bit_and, bit_36, decide_eq_false (show ¬ b < 36 by omega)]
  simp
theorem nbb_is {x : Int64} (hx : ∀ b, 36 ≤ b → bit x b = false) {i : Nat} (hi : i < 36) (h : nbb x i = true) : ∃ w, w < 4 ∧ nb i w < 36 ∧ bit x (nb i w) = true := by
  have h1 : ∀ i, i < 36 → 1 ≤ i → bit (-1090785346) i = true → nb i 3 = i - 1 := by decide +kernel
  have h2 : ∀ i, i < 36 → bit (-1090785346) (1 + i) = true → i + 1 < 36 → nb i 1 = i + 1 := by decide +kernel
  have h3 : ∀ i, i < 36 → 6 ≤ i → nb i 2 = i - 6 := by decide +kernel
  have h4 : ∀ i, i < 36 → i + 6 < 36 → nb i 0 = i + 6 := by decide +kernel
  unfold nbb at h
  rw [Bool.or_eq_true, Bool.or_eq_true, Bool.or_eq_true] at h
  rcases h with ((h | h) | h) | h
  · rw [Bool.and_eq_true] at h
    have q := of_decide_eq_true h.1
    exact ⟨2, by omega, by rw [h3 i hi q]; omega, by rw [h3 i hi q]; exact h.2⟩
  · rcases Nat.lt_or_ge (i + 6) 36 with q | q
    · exact ⟨0, by omega, by rw [h4 i hi q]; omega, by rw [h4 i hi q, Nat.add_comm]; exact h⟩
    · rw [hx (6 + i) (by omega)] at h; cases h
  · rw [Bool.and_eq_true, Bool.and_eq_true] at h
    have q := of_decide_eq_true h.1.1
    exact ⟨3, by omega, by rw [h1 i hi q h.2]; omega, by rw [h1 i hi q h.2]; exact h.1.2⟩
  · rw [Bool.and_eq_true] at h
    rcases Nat.lt_or_ge (i + 1) 36 with q | q
    · exact ⟨1, by omega, by rw [h2 i hi h.2 q]; omega, by rw [h2 i hi h.2 q, Nat.add_comm]; exact h.1⟩
    · rw [hx (1 + i) (by omega)] at h; exact absurd h.1 (by decide)
/-- where he can be after k seconds more -/
def Zrc (F : Int64) (V : Nat → Int64) (a t : Nat) : Nat → Int64
  | 0 => jlshl 1 (nI a) &&& (F &&& (V (t % 24) ^^^ (-1)))
  | k + 1 => f_X7_withBeside (Zrc F V a t k) &&& (F &&& (V ((t + (k + 1)) % 24) ^^^ (-1)))
def FL (W : Int64) : Int64 := 68719476735 &&& (W ^^^ (-1))
theorem FL_bit (W : Int64) {c : Nat} (hc : c < 64) : bit (FL W) c = (decide (c < 36) && !bit W c) := by
  unfold FL
  rw [bit_and, bit_36, bit_not _ hc]
theorem floor_FL {S : Nat → Int64} {σ : ST} (h : gB σ 14 0 = S 0) : f_X3_floor σ = FL (S 0) := by
  unfold f_X3_floor FL
  rw [show Int32.toNatClampNeg 0 = 0 from rfl, h]
theorem Zrc_hi (W : Int64) (V : Nat → Int64) (a t : Nat) : ∀ k b, 36 ≤ b → bit (Zrc (FL W) V a t k) b = false := by
  have key : ∀ x y : Int64, ∀ b, 36 ≤ b → bit (x &&& (FL W &&& y)) b = false := fun x y b hb => by
    rcases Nat.lt_or_ge b 64 with q | q
    · rw [bit_and, bit_and, FL_bit W q, decide_eq_false (show ¬ b < 36 by omega)]
      simp
    · exact bit_big q
  intro k b hb
  cases k with
  | zero => exact key _ _ b hb
  | succ k => exact key _ _ b hb
theorem Zrc_wall (W : Int64) (V : Nat → Int64) (a t : Nat) : ∀ k c, c < 36 → bit (Zrc (FL W) V a t k) c = true → bit W c = false := by
  have key : ∀ x y : Int64, ∀ c, c < 36 → bit (x &&& (FL W &&& y)) c = true → bit W c = false := fun x y c hc h => by
    rw [bit_and, bit_and, FL_bit W (by omega), Bool.and_eq_true, Bool.and_eq_true, Bool.and_eq_true, Bool.not_eq_true'] at h
    exact h.2.1.2
  intro k c hc h
  cases k with
  | zero => exact key _ _ c hc h
  | succ k => exact key _ _ c hc h
/-- he was beside, or there, a second before -/
theorem Zrc_from (W : Int64) (V : Nat → Int64) (a t k : Nat) {c : Nat} (hc : c < 36) (h : bit (Zrc (FL W) V a t (k + 1)) c = true) : bit (Zrc (FL W) V a t k) c = true ∨ ∃ w, w < 4 ∧ nb c w < 36 ∧ bit (Zrc (FL W) V a t k) (nb c w) = true := by
  unfold Zrc at h
  rw [bit_and, with_bit _ hc, Bool.and_eq_true, Bool.or_eq_true] at h
  rcases h.1 with q | q
  · exact Or.inl q
  · exact Or.inr (nbb_is (Zrc_hi W V a t k) hc q)
/-- the reference's step is the class's -/
theorem mstep {S : Nat → Int64} {σ : ST} (h : gB σ 1 0 = S 0) (V : Nat → Int64) (a t k : Nat) (v : Int64) : (f_X10_spread (Zrc (FL (S 0)) V a t k) σ &&& (S 0 ^^^ (-1))) &&& (v ^^^ (-1)) = f_X7_withBeside (Zrc (FL (S 0)) V a t k) &&& (FL (S 0) &&& (v ^^^ (-1))) := by
  apply bit_ext
  intro i hi
  rw [bit_and, bit_and, bit_and, bit_and, bit_not _ hi, bit_not _ hi, FL_bit _ hi]
  rcases Nat.lt_or_ge i 36 with q | q
  · rw [spread_bit h _ q, with_bit _ q, decide_eq_true q]
    cases bit (Zrc (FL (S 0)) V a t k) i <;> cases nbb (Zrc (FL (S 0)) V a t k) i <;> cases bit (S 0) i <;> cases bit v i <;> rfl
  · rw [spread_hi h (Zrc_hi (S 0) V a t k) i q, decide_eq_false (show ¬ i < 36 by omega)]
    simp
/-! ===== the class's thief ===== -/
def b50 : Nat → Bool := fun k => k == 50
theorem xzero {σ : ST} {k : Nat} (hk : k ≤ 24) : ∃ σ', f_J7_fill_bad5a (nI k) 25 0 σ = some σ' ∧ Fr aO b50 σ σ' ∧ (∀ j, j < k → gB σ' 50 j = gB σ 50 j) ∧ ∀ j, k ≤ j → j < 25 → gB σ' 50 j = 0 := by
  unfold f_J7_fill_bad5a
  have e : f_J7_rangeCheck_23922 25 (nI k) 25 = some () := by
    unfold f_J7_rangeCheck_23922
    rw [if_pos (show nI k ≤ 25 from nI_le (b := 25) (by omega) (by omega)), if_pos (nI_pos' (by omega)), if_pos (show (25 : Int32) ≤ 25 by decide)]
  rw [e, jb_s]
  refine jloop (fun n i s => f_J7_fill_bad5a_L10 n 25 0 (nI i) s) 25 (fun i s => Fr aO b50 σ s ∧ (∀ j, j < k → gB s 50 j = gB σ 50 j) ∧ k ≤ i ∧ ∀ j, k ≤ j → j < i → gB s 50 j = 0) (fun r => ∃ σ', r = some σ' ∧ Fr aO b50 σ σ' ∧ (∀ j, j < k → gB σ' 50 j = gB σ 50 j) ∧ ∀ j, k ≤ j → j < 25 → gB σ' 50 j = 0) ?_ ?_ FU k σ (by omega) (by unfold FU; omega) ⟨Fr.rf, fun _ _ => rfl, Nat.le_refl _, fun j h1 h2 => by omega⟩
  · intro n i s hi ⟨p1, p2, p3, p4⟩
    refine Or.inr ⟨sB s 50 i 0, ⟨p1.sB rfl, fun j hj => ?_, by omega, fun j h1 h2 => ?_⟩, ?_⟩
    · rw [gB_sB, if_neg (by omega)]; exact p2 j hj
    · rw [gB_sB]
      split
      · rfl
      · exact p4 j h1 (by omega)
    · show f_J7_fill_bad5a_L10 (n + 1) 25 0 (nI i) s = _
      rw [ef_J7_fill_bad5a_L10, if_neg (nle25 hi), jix_t hi (by omega), nI_clamp (by omega), jlet_s, jlet_s, nI_1]
  · intro n s ⟨p1, p2, p3, p4⟩
    refine ⟨s, ?_, p1, p2, p4⟩
    show f_J7_fill_bad5a_L10 (n + 1) 25 0 (nI 25) s = _
    rw [ef_J7_fill_bad5a_L10, if_pos (by decide)]
theorem with_0 : f_X7_withBeside 0 = 0 := by decide +kernel
theorem and_0L (x : Int64) : 0 &&& x = 0 := by
  apply bit_ext
  intro i _
  rw [bit_and, bit_0]; rfl
theorem Zrc_0 (F : Int64) (V : Nat → Int64) (a t : Nat) {k : Nat} (h : Zrc F V a t k = 0) : ∀ d, Zrc F V a t (k + d) = 0
  | 0 => h
  | d + 1 => by
    show f_X7_withBeside (Zrc F V a t (k + d)) &&& _ = 0
    rw [Zrc_0 F V a t h d, with_0, and_0L]
/-- what the roaming finds -/
def RO (F : Int64) (V : Nat → Int64) (a t : Nat) (g : Int64) (σ : ST) (q : Int32) (σ' : ST) : Prop := Fr aO b50 σ σ' ∧ ((∃ k, k ≤ 24 ∧ q = nI k ∧ ¬ Zrc F V a t k &&& g = 0 ∧ (∀ j, j < k → Zrc F V a t j &&& g = 0) ∧ ∀ j, j ≤ k → gB σ' 50 j = Zrc F V a t j) ∨ (q = -1 ∧ (∀ j, j ≤ 24 → Zrc F V a t j &&& g = 0) ∧ ∀ j, j ≤ 24 → gB σ' 50 j = Zrc F V a t j))
theorem xroam {V : Nat → Int64} {o a t : Nat} {F g : Int64} {σ : ST} (ho : b50 o = false) (ht : t < 24) (hV : ∀ t, t < 24 → gB σ o t = V t) : ∃ q σ', f_X7_roam o F (nI a) (nI t) g σ = some (q, σ') ∧ RO F V a t g σ q σ' := by
  have l28 : ∀ k fuel cells s, k ≤ 24 → Fr aO b50 σ s → (∀ j, j < k → gB s 50 j = Zrc F V a t j) → (∀ j, j < k → Zrc F V a t j &&& g = 0) → cells &&& (F &&& (V ((t + k) % 24) ^^^ (-1))) = Zrc F V a t k →
      (∃ q σ', f_X7_roam_L28 (f_X7_roam_L9 fuel) o F (nI t) g cells (nI k) s = some (q, σ') ∧ RO F V a t g σ q σ') ∨ ∃ s', f_X7_roam_L28 (f_X7_roam_L9 fuel) o F (nI t) g cells (nI k) s = f_X7_roam_L9 fuel o F (nI t) g (Zrc F V a t k) (nI (k + 1)) s' ∧ Fr aO b50 σ s' ∧ (∀ j, j < k + 1 → gB s' 50 j = Zrc F V a t j) ∧ ∀ j, j < k + 1 → Zrc F V a t j &&& g = 0 := by
    intro k fuel cells s hk f h1 h2 hc
    have hm := Nat.mod_lt (t + k) (show 0 < 24 by decide)
    unfold f_X7_roam_L28
    rw [nI_add, show (24 : Int32) = nI 24 from rfl, jrem_n (by omega) (by omega) (by omega), jix_t hm (by omega), nI_clamp (by omega), f.B ho, hV _ hm, hc, jlet_s, jix_t (by omega) (by omega), nI_clamp (by omega), jlet_s]
    have f2 : Fr aO b50 σ (sB s 50 k (Zrc F V a t k)) := f.sB rfl
    have r2 : ∀ j, j < k + 1 → gB (sB s 50 k (Zrc F V a t k)) 50 j = Zrc F V a t j := fun j hj => by
      rw [gB_sB]
      split
      · rename_i q
        rw [q.2]
      · exact h1 j (by omega)
    by_cases hg : Zrc F V a t k &&& g = 0
    · rw [if_pos hg]
      have h3 : ∀ j, j < k + 1 → Zrc F V a t j &&& g = 0 := fun j hj => by
        rcases (show j < k ∨ j = k by omega) with q | q
        · exact h2 j q
        · subst q; exact hg
      by_cases h0 : Zrc F V a t k = 0
      · refine Or.inl ?_
        rw [if_neg (fun q => q h0)]
        obtain ⟨s3, e3, f3, u1, u2⟩ := xzero (σ := sB s 50 k (Zrc F V a t k)) hk
        rw [e3, jb_s]
        refine ⟨-1, s3, rfl, f2.trans f3, Or.inr ⟨rfl, fun j hj => ?_, fun j hj => ?_⟩⟩
        · rcases (show j < k + 1 ∨ k ≤ j by omega) with q | q
          · exact h3 j q
          · obtain ⟨d, rfl⟩ : ∃ d, j = k + d := ⟨j - k, by omega⟩
            rw [Zrc_0 F V a t h0 d, and_0L]
        · rcases (show j < k ∨ k ≤ j by omega) with q | q
          · rw [u1 j q]; exact r2 j (by omega)
          · obtain ⟨d, rfl⟩ : ∃ d, j = k + d := ⟨j - k, by omega⟩
            rw [u2 _ q (by omega), Zrc_0 F V a t h0 d]
      · refine Or.inr ⟨_, ?_, f2, r2, h3⟩
        rw [if_pos h0, jlet_s, nI_1]
    · rw [if_neg hg]
      exact Or.inl ⟨nI k, _, rfl, f2, Or.inl ⟨k, hk, rfl, hg, h2, fun j hj => r2 j (by omega)⟩⟩
  unfold f_X7_roam
  rw [jlet_s]
  refine jloop (fun n i (x : Int64 × ST) => f_X7_roam_L9 n o F (nI t) g x.1 (nI i) x.2) 25 (fun i x => Fr aO b50 σ x.2 ∧ (∀ j, j < i → gB x.2 50 j = Zrc F V a t j) ∧ (∀ j, j < i → Zrc F V a t j &&& g = 0) ∧ x.1 = if i = 0 then jlshl 1 (nI a) else Zrc F V a t (i - 1)) (fun r => ∃ q σ', r = some (q, σ') ∧ RO F V a t g σ q σ') ?_ ?_ FU 0 (jlshl 1 (nI a), σ) (by omega) (by unfold FU; omega) ⟨Fr.rf, fun j h => absurd h (Nat.not_lt_zero _), fun j h => absurd h (Nat.not_lt_zero _), rfl⟩
  · rintro n i ⟨cells, s⟩ hi ⟨p1, p2, p3, p4⟩
    simp only at p4
    have e0 : f_X7_roam_L9 (n + 1) o F (nI t) g cells (nI i) s = f_X7_roam_L28 (f_X7_roam_L9 n) o F (nI t) g (if i = 0 then cells else f_X7_withBeside cells) (nI i) s := by
      rw [ef_X7_roam_L9, if_neg (show ¬ (24 : Int32) < nI i from nI_nlt (a := 24) (b := i) (by omega) (by omega))]
      by_cases q : i = 0
      · rw [if_pos q, if_pos (by rw [q]; decide)]
      · rw [if_neg q, if_neg (nI_nle (by omega) (by omega)), jlet_s]
    have hc : (if i = 0 then cells else f_X7_withBeside cells) &&& (F &&& (V ((t + i) % 24) ^^^ (-1))) = Zrc F V a t i := by
      cases i with
      | zero => rw [if_pos rfl, p4, if_pos rfl]; rfl
      | succ i => rw [if_neg (by omega), p4, if_neg (by omega)]; rfl
    rcases l28 i n _ s (by omega) p1 p2 p3 hc with ⟨q, σ', r1, r2⟩ | ⟨s', r1, r2, r3, r4⟩
    · exact Or.inl ⟨q, σ', by rw [← r1]; exact e0, r2⟩
    · refine Or.inr ⟨(Zrc F V a t i, s'), ⟨r2, r3, r4, by rw [if_neg (by omega), Nat.add_sub_cancel]⟩, ?_⟩
      show f_X7_roam_L9 (n + 1) o F (nI t) g cells (nI i) s = _
      rw [e0, r1]
  · rintro n ⟨cells, s⟩ ⟨p1, p2, p3, p4⟩
    refine ⟨-1, s, ?_, p1, Or.inr ⟨rfl, fun j hj => p3 j (by omega), fun j hj => p2 j (by omega)⟩⟩
    show f_X7_roam_L9 (n + 1) o F (nI t) g cells (nI 25) s = _
    rw [ef_X7_roam_L9, if_pos (by decide)]
