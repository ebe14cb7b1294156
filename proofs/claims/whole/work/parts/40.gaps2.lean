/-! ===== all cells of the floor: the greatest gap, the first cell, how many whole gaps ===== -/
def Zfg (V : Nat → Int64) (W : Int64) : Nat → Nat × Nat × Nat
  | 0 => (99, 0, 0)
  | c + 1 => if bit W c then Zfg V W c else
    ((if (Zfg V W c).1 = 99 then c else if Zgap V c ≤ (Zfg V W c).2.1 then (Zfg V W c).1 else c),
     (if (Zfg V W c).1 = 99 then Zgap V c else if Zgap V c ≤ (Zfg V W c).2.1 then (Zfg V W c).2.1 else Zgap V c),
     (Zfg V W c).2.2 + (if Zgap V c = 24 then 1 else 0))
theorem Zfg_a (V : Nat → Int64) (W : Int64) : ∀ n, n ≤ 36 → ((Zfg V W n).1 = 99 ∧ (Zfg V W n).2.1 = 0 ∧ ∀ c, c < n → bit W c = true) ∨ ((Zfg V W n).1 < n ∧ bit W (Zfg V W n).1 = false ∧ Zgap V (Zfg V W n).1 = (Zfg V W n).2.1 ∧ (∀ c, c < n → bit W c = false → Zgap V c ≤ (Zfg V W n).2.1) ∧ ∀ c, c < (Zfg V W n).1 → bit W c = false → Zgap V c < (Zfg V W n).2.1)
  | 0, _ => Or.inl ⟨rfl, rfl, fun c hc => absurd hc (Nat.not_lt_zero _)⟩
  | n + 1, hn => by
    have ih := Zfg_a V W n (by omega)
    unfold Zfg
    cases hb : bit W n with
    | true =>
      rw [if_pos rfl]
      rcases ih with ⟨h1, h2, h3⟩ | ⟨h1, h2, h3, h4, h5⟩
      · refine Or.inl ⟨h1, h2, fun c hc => ?_⟩
        rcases (show c < n ∨ c = n by omega) with q | q
        · exact h3 c q
        · subst q; exact hb
      · refine Or.inr ⟨by omega, h2, h3, fun c hc h6 => ?_, h5⟩
        rcases (show c < n ∨ c = n by omega) with q | q
        · exact h4 c q h6
        · subst q; rw [hb] at h6; cases h6
    | false =>
      rw [if_neg (by decide)]
      refine Or.inr ?_
      simp only
      rcases ih with ⟨h1, h2, h3⟩ | ⟨h1, h2, h3, h4, h5⟩
      · rw [if_pos h1, if_pos h1]
        refine ⟨by omega, hb, rfl, fun c hc h6 => ?_, fun c hc h6 => ?_⟩
        · rcases (show c < n ∨ c = n by omega) with q | q
          · rw [h3 c q] at h6; cases h6
          · subst q; exact Nat.le_refl _
        · rw [h3 c hc] at h6; cases h6
      · have h99 : ¬ (Zfg V W n).1 = 99 := by omega
        rw [if_neg h99, if_neg h99]
        by_cases q : Zgap V n ≤ (Zfg V W n).2.1
        · rw [if_pos q, if_pos q]
          refine ⟨by omega, h2, h3, fun c hc h6 => ?_, h5⟩
          rcases (show c < n ∨ c = n by omega) with z | z
          · exact h4 c z h6
          · subst z; exact q
        · rw [if_neg q, if_neg q]
          refine ⟨by omega, hb, rfl, fun c hc h6 => ?_, fun c hc h6 => ?_⟩
          · rcases (show c < n ∨ c = n by omega) with z | z
            · have := h4 c z h6
              omega
            · subst z; exact Nat.le_refl _
          · have := h4 c hc h6
            omega
theorem Zfg_b (V : Nat → Int64) (W : Int64) : ∀ n, (Zfg V W n).2.2 = cnt (fun c => !bit W c && decide (Zgap V c = 24)) n
  | 0 => rfl
  | n + 1 => by
    have ih := Zfg_b V W n
    unfold Zfg cnt
    cases hb : bit W n with
    | true => rw [if_pos rfl, ih]; rfl
    | false =>
      rw [if_neg (by decide)]
      simp only
      rw [ih]
      by_cases q : Zgap V n = 24
      · rw [if_pos q, decide_eq_true q]; rfl
      · rw [if_neg q, decide_eq_false q]; rfl
/-! ===== the reference finds them ===== -/
theorem L84e (k17 : Int32 → ST → Option ST) (v1 v3 t1 : Int32) {gap : Nat} (hg : gap ≤ 24) (s : ST) : f_X10_findsGaps_L84 k17 v1 (nI gap) v3 t1 s = f_X10_findsGaps_L123 k17 v1 (sA (sA (sA s 0 36 t1) 0 37 (if v3 = 0 then gA s 0 37 else nI gap)) 0 38 (gA s 0 38 + (if gap = 24 then 1 else 0))) := by
  have k1 : nI gap = 24 ↔ gap = 24 := nI_eq (b := 24) (by omega) (by omega)
  unfold f_X10_findsGaps_L84 f_X10_findsGaps_L100 f_X10_findsGaps_L119
  simp only [jlet_s, k1]
  have e37 : gA (sA s 0 36 t1) 0 37 = gA s 0 37 := by rw [gA_sA, if_neg (by omega)]
  have e38 : ∀ v, gA (sA (sA s 0 36 t1) 0 37 v) 0 38 = gA s 0 38 := fun v => by rw [gA_sA, if_neg (by omega), gA_sA, if_neg (by omega)]
  rw [e37]
  by_cases h3 : v3 = 0
  · rw [if_pos h3, if_pos h3]
    by_cases h4 : gap = 24
    · rw [if_neg (fun q => q h4), if_pos h4, e38]
    · rw [if_pos h4, if_neg h4, e38]
  · rw [if_neg h3, if_neg h3]
    by_cases h4 : gap = 24
    · rw [if_neg (fun q => q h4), if_pos h4, e38]
    · rw [if_pos h4, if_neg h4, e38]
theorem mfinds {S : Nat → Int64} {r n : Nat} {T : TT} {G : Nat → Nat → Nat} {σ : ST} (hM : VM S r T G n σ) (h : ∀ g, g < n → ∀ t, t < 24 → gB σ 22 (24 * g + t) = Zthr S T (G g) g t) : ∃ σ', f_X10_findsGaps σ = some σ' ∧ FM aO bW σ σ' ∧ gA σ' 0 36 = cI (Zfg (ZV S T G n (fun _ => true)) (S 0) 36).1 ∧ gA σ' 0 37 = nI (Zfg (ZV S T G n (fun _ => true)) (S 0) 36).2.1 ∧ gA σ' 0 38 = nI (Zfg (ZV S T G n (fun _ => true)) (S 0) 36).2.2 := by
  unfold f_X10_findsGaps
  rw [jlet_s, jlet_s, jlet_s]
  have f0 : FM aO bW σ (sA (sA (sA σ 0 36 (-1)) 0 37 0) 0 38 0) := ((FM.rf.sA0 (by omega)).sA0 (by omega)).sA0 (by omega)
  refine jloop (fun k i s => f_X10_findsGaps_L17 k (nI i) s) 36 (fun i s => FM aO bW σ s ∧ gA s 0 36 = cI (Zfg (ZV S T G n (fun _ => true)) (S 0) i).1 ∧ gA s 0 37 = nI (Zfg (ZV S T G n (fun _ => true)) (S 0) i).2.1 ∧ gA s 0 38 = nI (Zfg (ZV S T G n (fun _ => true)) (S 0) i).2.2) (fun q => ∃ σ', q = some σ' ∧ FM aO bW σ σ' ∧ gA σ' 0 36 = cI (Zfg (ZV S T G n (fun _ => true)) (S 0) 36).1 ∧ gA σ' 0 37 = nI (Zfg (ZV S T G n (fun _ => true)) (S 0) 36).2.1 ∧ gA σ' 0 38 = nI (Zfg (ZV S T G n (fun _ => true)) (S 0) 36).2.2) ?_ ?_ FU 0 _ (by omega) (by unfold FU; omega) ⟨f0, by simp only [gA_sA]; rfl, by simp only [gA_sA]; rfl, by simp only [gA_sA]; rfl⟩
  · intro k i s hi ⟨p1, p2, p3, p4⟩
    have hv := hM.fm p1 rfl rfl rfl rfl rfl rfl rfl rfl rfl
    have hr : ∀ g, g < n → ∀ t, t < 24 → gB s 22 (24 * g + t) = Zthr S T (G g) g t := fun g hg t ht => by rw [p1.B rfl]; exact h g hg t ht
    obtain ⟨g1, g2⟩ := allG hv.2.1 hv.2.2.1
    have hgap := Zgap_le (ZV S T G n (fun _ => true)) i
    have hA := Zfg_a (ZV S T G n (fun _ => true)) (S 0) i (by omega)
    have hB := Zfg_b (ZV S T G n (fun _ => true)) (S 0) i
    have hB2 := cnt_le (fun c => !bit (S 0) c && decide (Zgap (ZV S T G n (fun _ => true)) c = 24)) i
    have hs1 : (Zfg (ZV S T G n (fun _ => true)) (S 0) (i + 1)) = if bit (S 0) i then Zfg (ZV S T G n (fun _ => true)) (S 0) i else ((if (Zfg (ZV S T G n (fun _ => true)) (S 0) i).1 = 99 then i else if Zgap (ZV S T G n (fun _ => true)) i ≤ (Zfg (ZV S T G n (fun _ => true)) (S 0) i).2.1 then (Zfg (ZV S T G n (fun _ => true)) (S 0) i).1 else i), (if (Zfg (ZV S T G n (fun _ => true)) (S 0) i).1 = 99 then Zgap (ZV S T G n (fun _ => true)) i else if Zgap (ZV S T G n (fun _ => true)) i ≤ (Zfg (ZV S T G n (fun _ => true)) (S 0) i).2.1 then (Zfg (ZV S T G n (fun _ => true)) (S 0) i).2.1 else Zgap (ZV S T G n (fun _ => true)) i), (Zfg (ZV S T G n (fun _ => true)) (S 0) i).2.2 + (if Zgap (ZV S T G n (fun _ => true)) i = 24 then 1 else 0)) := rfl
    have e0 : f_X10_findsGaps_L17 (k + 1) (nI i) s = if ¬ bI (bit (S 0) i) = 0 then f_X10_findsGaps_L123 (f_X10_findsGaps_L17 k) (nI i) s else (if (gA s 0 36) = (-1 : Int32) then f_X10_findsGaps_L65 (f_X10_findsGaps_L17 k) (nI i) (nI (Zgap (ZV S T G n (fun _ => true)) i)) s else (if nI (Zgap (ZV S T G n (fun _ => true)) i) ≤ (gA s 0 37) then f_X10_findsGaps_L70 (f_X10_findsGaps_L17 k) (nI i) (nI (Zgap (ZV S T G n (fun _ => true)) i)) (0 : Int32) s else f_X10_findsGaps_L65 (f_X10_findsGaps_L17 k) (nI i) (nI (Zgap (ZV S T G n (fun _ => true)) i)) s)) := by
      rw [ef_X10_findsGaps_L17, if_neg (nle36 hi), show Int32.toNatClampNeg 0 = 0 from rfl, hv.1.1.1, has_b _ (by omega), jlet_s, g1, jlet_s, malone (fun _ => true) g2 hv hr hi, jb_s, mgap, jb_s]
    generalize ZV S T G n (fun _ => true) = V at *
    generalize Zfg V (S 0) i = z at *
    obtain ⟨zw, zg, zk⟩ := z
    simp only at p2 p3 p4 hA hB hB2 hs1
    have hgs : zg ≤ 24 := by
      rcases hA with ⟨_, h2, _⟩ | ⟨_, _, h3, _⟩
      · omega
      · rw [← h3]; exact Zgap_le V zw
    have ek : (gA s 0 38 + (if Zgap V i = 24 then 1 else 0)) = nI (zk + (if Zgap V i = 24 then 1 else 0)) := by
      rw [p4]
      split
      · rw [nI_1]
      · rw [Int32.add_zero]; rfl
    have hnx : ∀ s', f_X10_findsGaps_L123 (f_X10_findsGaps_L17 k) (nI i) s' = f_X10_findsGaps_L17 k (nI (i + 1)) s' := fun s' => by
      unfold f_X10_findsGaps_L123
      rw [jlet_s, nI_1]
    have fin : ∀ (t1 t2 t3 : Int32), FM aO bW σ (sA (sA (sA s 0 36 t1) 0 37 t2) 0 38 t3) ∧ gA (sA (sA (sA s 0 36 t1) 0 37 t2) 0 38 t3) 0 36 = t1 ∧ gA (sA (sA (sA s 0 36 t1) 0 37 t2) 0 38 t3) 0 37 = t2 ∧ gA (sA (sA (sA s 0 36 t1) 0 37 t2) 0 38 t3) 0 38 = t3 := fun t1 t2 t3 => ⟨((p1.sA0 (by omega)).sA0 (by omega)).sA0 (by omega), by simp [gA_sA], by simp [gA_sA], by simp [gA_sA]⟩
    right
    rw [hs1]
    show ∃ a', _ ∧ f_X10_findsGaps_L17 (k + 1) (nI i) s = _
    rw [e0]
    cases hb : bit (S 0) i with
    | true =>
      refine ⟨s, ⟨p1, ?_, ?_, ?_⟩, ?_⟩
      · rw [if_pos rfl]; exact p2
      · rw [if_pos rfl]; exact p3
      · rw [if_pos rfl]; exact p4
      · rw [if_pos (by decide), hnx]
    | false =>
      rw [if_neg (show ¬ false = true by decide), if_neg (show ¬ ¬ bI false = 0 by decide)]
      simp only
      by_cases h99 : zw = 99
      · obtain ⟨f1, f2, f3, f4⟩ := fin (nI i) (nI (Zgap V i)) (gA s 0 38 + (if Zgap V i = 24 then 1 else 0))
        refine ⟨_, ⟨f1, ?_, ?_, ?_⟩, ?_⟩
        · rw [f2, if_pos h99, cI_ne hi]
        · rw [f3, if_pos h99]
        · rw [f4]; exact ek
        · rw [p2, h99, if_pos cI_99]
          unfold f_X10_findsGaps_L65 f_X10_findsGaps_L70
          rw [if_neg (by decide), L84e _ _ _ _ hgap, if_neg (by decide), hnx]
      · have hw : zw < i := by
          rcases hA with ⟨h1, _⟩ | ⟨h1, _⟩
          · exact absurd h1 h99
          · exact h1
        have hne : ¬ gA s 0 36 = -1 := by
          rw [p2, cI_ne (by omega)]
          exact nI_ne_m1 _ (by omega)
        rw [if_neg hne]
        by_cases q : Zgap V i ≤ zg
        · obtain ⟨f1, f2, f3, f4⟩ := fin (gA s 0 36) (gA s 0 37) (gA s 0 38 + (if Zgap V i = 24 then 1 else 0))
          refine ⟨_, ⟨f1, ?_, ?_, ?_⟩, ?_⟩
          · rw [f2, if_neg h99, if_pos q]; exact p2
          · rw [f3, if_neg h99, if_pos q]; exact p3
          · rw [f4]; exact ek
          · rw [p3, if_pos (nI_le q (by omega))]
            unfold f_X10_findsGaps_L70
            rw [if_pos rfl, L84e _ _ _ _ hgap, if_pos rfl, hnx, p3]
        · obtain ⟨f1, f2, f3, f4⟩ := fin (nI i) (nI (Zgap V i)) (gA s 0 38 + (if Zgap V i = 24 then 1 else 0))
          refine ⟨_, ⟨f1, ?_, ?_, ?_⟩, ?_⟩
          · rw [f2, if_neg h99, if_neg q, cI_ne hi]
          · rw [f3, if_neg h99, if_neg q]
          · rw [f4]; exact ek
          · rw [p3, if_neg (nI_ge (by omega) (by omega))]
            unfold f_X10_findsGaps_L65 f_X10_findsGaps_L70
            rw [if_neg (by decide), L84e _ _ _ _ hgap, if_neg (by decide), hnx]
  · intro k s ⟨p1, p2, p3, p4⟩
    refine ⟨s, ?_, p1, p2, p3, p4⟩
    show f_X10_findsGaps_L17 (k + 1) (nI 36) s = _
    rw [ef_X10_findsGaps_L17, if_pos (by decide)]
