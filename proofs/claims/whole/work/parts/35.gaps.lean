/-! ===== gaps ===== -/
def ru (V : Nat → Int64) (c t : Nat) : Nat → Bool
  | 0 => true
  | L + 1 => ru V c t L && !bit (V ((t + L) % 24)) c
def gp (V : Nat → Int64) (c i L : Nat) : Bool := (List.range i).any (fun t => ru V c t L)
theorem gp_iff {V : Nat → Int64} {c i L : Nat} : gp V c i L = true ↔ ∃ t, t < i ∧ ru V c t L = true := by
  unfold gp
  simp [List.any_eq_true]
theorem gp_succ (V : Nat → Int64) (c i L : Nat) : gp V c (i + 1) L = (gp V c i L || ru V c i L) := by
  unfold gp
  rw [List.range_succ, List.any_append]
  simp
theorem ru_le {V : Nat → Int64} {c t : Nat} : ∀ {L K : Nat}, K ≤ L → ru V c t L = true → ru V c t K = true
  | 0, K, h, hr => by
    have : K = 0 := by omega
    subst this; exact hr
  | L + 1, K, h, hr => by
    rcases (show K = L + 1 ∨ K ≤ L by omega) with q | q
    · subst q; exact hr
    · unfold ru at hr
      rw [Bool.and_eq_true] at hr
      exact ru_le q hr.1
theorem ru_iff {V : Nat → Int64} {c t : Nat} : ∀ {L : Nat}, ru V c t L = true ↔ ∀ j, j < L → bit (V ((t + j) % 24)) c = false
  | 0 => ⟨fun _ j h => absurd h (Nat.not_lt_zero _), fun _ => rfl⟩
  | L + 1 => by
    unfold ru
    rw [Bool.and_eq_true, ru_iff (L := L), Bool.not_eq_true']
    constructor
    · rintro ⟨h1, h2⟩ j hj
      rcases (show j < L ∨ j = L by omega) with q | q
      · exact h1 j q
      · subst q; exact h2
    · intro h
      exact ⟨fun j hj => h j (by omega), h L (by omega)⟩
def gm (V : Nat → Int64) (c : Nat) : Nat → Nat
  | 0 => 0
  | L + 1 => if gp V c 24 (L + 1) then L + 1 else gm V c L
def Zgap (V : Nat → Int64) (c : Nat) : Nat := gm V c 24
theorem gp_le {V : Nat → Int64} {c i L K : Nat} (h : K ≤ L) (hp : gp V c i L = true) : gp V c i K = true := by
  obtain ⟨t, h1, h2⟩ := gp_iff.mp hp
  exact gp_iff.mpr ⟨t, h1, ru_le h h2⟩
theorem gm_le (V : Nat → Int64) (c : Nat) : ∀ L, gm V c L ≤ L
  | 0 => Nat.le_refl _
  | L + 1 => by
    unfold gm
    split
    · exact Nat.le_refl _
    · exact Nat.le_succ_of_le (gm_le V c L)
theorem gm_iff {V : Nat → Int64} {c : Nat} : ∀ {L K : Nat}, K ≤ L → (gp V c 24 K = true ↔ K ≤ gm V c L)
  | 0, K, h => by
    have : K = 0 := by omega
    subst this
    exact ⟨fun _ => Nat.zero_le _, fun _ => gp_iff.mpr ⟨0, by omega, rfl⟩⟩
  | L + 1, K, h => by
    unfold gm
    by_cases e : gp V c 24 (L + 1) = true
    · rw [if_pos e]
      exact ⟨fun _ => h, fun _ => gp_le h e⟩
    · rw [if_neg e]
      rcases (show K ≤ L ∨ K = L + 1 by omega) with q | q
      · exact gm_iff q
      · subst q
        have := gm_le V c L
        exact ⟨fun z => absurd z e, fun z => by omega⟩
theorem Zgap_iff {V : Nat → Int64} {c K : Nat} (h : K ≤ 24) : gp V c 24 K = true ↔ K ≤ Zgap V c := gm_iff h
theorem Zgap_le (V : Nat → Int64) (c : Nat) : Zgap V c ≤ 24 := gm_le V c 24
theorem ru_cong {V V' : Nat → Int64} {c t : Nat} (h : ∀ t, t < 24 → V t = V' t) : ∀ L, ru V c t L = ru V' c t L
  | 0 => rfl
  | L + 1 => by
    unfold ru
    rw [ru_cong h L, h _ (Nat.mod_lt _ (by decide))]
theorem Zgap_cong {V V' : Nat → Int64} {c : Nat} (h : ∀ t, t < 24 → V t = V' t) : Zgap V c = Zgap V' c := by
  have e : ∀ L, gp V c 24 L = gp V' c 24 L := fun L => by
    unfold gp
    congr 1
    funext t
    exact ru_cong h L
  have e2 : ∀ L, gm V c L = gm V' c L := fun L => by
    induction L with
    | zero => rfl
    | succ L ih =>
      unfold gm
      rw [e, ih]
  exact e2 24
/-! ===== the reference's scan ===== -/
def rr (u : Nat → Bool) : Nat → Nat
  | 0 => 0
  | k + 1 => if u k then rr u k + 1 else 0
def mm (u : Nat → Bool) : Nat → Nat
  | 0 => 0
  | k + 1 => if rr u (k + 1) ≤ mm u k then mm u k else rr u (k + 1)
theorem rr_run (u : Nat → Bool) : ∀ k, rr u k ≤ k ∧ ∀ j, j < rr u k → u (k - 1 - j) = true
  | 0 => ⟨Nat.le_refl _, fun j h => absurd h (Nat.not_lt_zero _)⟩
  | k + 1 => by
    obtain ⟨h1, h2⟩ := rr_run u k
    unfold rr
    by_cases e : u k = true
    · rw [if_pos e]
      refine ⟨by omega, fun j hj => ?_⟩
      rcases (show j = 0 ∨ 0 < j by omega) with q | q
      · subst q; exact e
      · have w := h2 (j - 1) (by omega)
        rw [show k + 1 - 1 - j = k - 1 - (j - 1) by omega]; exact w
    · rw [if_neg e]
      exact ⟨Nat.zero_le _, fun j h => absurd h (Nat.not_lt_zero _)⟩
theorem rr_ge (u : Nat → Bool) (t : Nat) : ∀ L, (∀ j, j < L → u (t + j) = true) → L ≤ rr u (t + L)
  | 0, _ => Nat.zero_le _
  | L + 1, h => by
    have := rr_ge u t L (fun j hj => h j (by omega))
    show L + 1 ≤ rr u (t + L + 1)
    unfold rr
    rw [if_pos (h L (by omega))]
    omega
theorem mm_ge (u : Nat → Bool) : ∀ n k, k ≤ n → rr u k ≤ mm u n
  | 0, k, h => by
    have : k = 0 := by omega
    subst this; exact Nat.le_refl _
  | n + 1, k, h => by
    unfold mm
    rcases (show k ≤ n ∨ k = n + 1 by omega) with q | q
    · have := mm_ge u n k q
      split <;> omega
    · subst q
      split <;> omega
theorem mm_is (u : Nat → Bool) : ∀ n, ∃ k, k ≤ n ∧ rr u k = mm u n
  | 0 => ⟨0, Nat.le_refl _, rfl⟩
  | n + 1 => by
    unfold mm
    split
    · obtain ⟨k, h1, h2⟩ := mm_is u n
      exact ⟨k, by omega, h2⟩
    · exact ⟨n + 1, Nat.le_refl _, rfl⟩
theorem mm_le (u : Nat → Bool) (n : Nat) : mm u n ≤ n := by
  obtain ⟨k, h1, h2⟩ := mm_is u n
  have := (rr_run u k).1
  omega
theorem mm_gap (V : Nat → Int64) (c : Nat) : min (mm (fun k => !bit (V (k % 24)) c) 48) 24 = Zgap V c := by
  have key : ∀ L, L ≤ 24 → (L ≤ mm (fun k => !bit (V (k % 24)) c) 48 ↔ L ≤ Zgap V c) := by
    intro L hL
    rw [← Zgap_iff hL, gp_iff]
    constructor
    · intro h
      obtain ⟨k, h1, h2⟩ := mm_is (fun k => !bit (V (k % 24)) c) 48
      obtain ⟨h3, h4⟩ := rr_run (fun k => !bit (V (k % 24)) c) k
      refine ⟨(k - L) % 24, Nat.mod_lt _ (by decide), ru_iff.mpr (fun j hj => ?_)⟩
      have w := h4 (L - 1 - j) (by omega)
      rw [show k - 1 - (L - 1 - j) = k - L + j by omega] at w
      rw [Nat.mod_add_mod]
      simpa using w
    · rintro ⟨t, h1, h2⟩
      have w := rr_ge (fun k => !bit (V (k % 24)) c) t L (fun j hj => by
        show (!bit (V ((t + j) % 24)) c) = true
        rw [ru_iff.mp h2 j hj]; rfl)
      have w2 := mm_ge (fun k => !bit (V (k % 24)) c) 48 (t + L) (by omega)
      omega
  have a1 := (key (Zgap V c) (Zgap_le V c)).mpr (Nat.le_refl _)
  have a2 := (key (min (mm (fun k => !bit (V (k % 24)) c) 48) 24) (by omega)).mp (by omega)
  have a3 := Zgap_le V c
  omega
theorem mgapOf {a : Int32} {u : Nat → Bool} (hu : ∀ k, k < 24 → bt a k = u k) (hp : ∀ k, u k = u (k % 24)) : f_X10_gapOf a = some (nI (min (mm u 48) 24)) := by
  unfold f_X10_gapOf
  refine jloop (fun n i (x : Unit) => f_X10_gapOf_L6 n a (nI (mm u i)) (nI (rr u i)) (nI i)) 48 (fun i x => True) (fun r => r = some (nI (min (mm u 48) 24))) ?_ ?_ FU 0 () (by omega) (by unfold FU; omega) trivial
  · intro n i x hi _
    refine Or.inr ⟨(), trivial, ?_⟩
    show f_X10_gapOf_L6 (n + 1) a (nI (mm u i)) (nI (rr u i)) (nI i) = f_X10_gapOf_L6 n a (nI (mm u (i + 1))) (nI (rr u (i + 1))) (nI (i + 1))
    have hm := Nat.mod_lt i (show 0 < 24 by decide)
    have h1 := mm_le u i
    have h2 := (rr_run u i).1
    rw [ef_X10_gapOf_L6, if_neg (nle48 hi), show (24 : Int32) = nI 24 from rfl, jrem_n (by omega) (by omega) (by omega), bt_sh1 a (by omega), hu _ hm, ← hp i]
    unfold f_X10_gapOf_L31 f_X10_gapOf_L42
    show _ = f_X10_gapOf_L6 n a (nI (if rr u (i + 1) ≤ mm u i then mm u i else rr u (i + 1))) (nI (rr u (i + 1))) (nI (i + 1))
    cases e : u i with
    | false =>
      have hr : rr u (i + 1) = 0 := if_neg (by rw [e]; decide)
      rw [hr, if_pos (Nat.zero_le _), if_pos (show ¬ bI false = 1 by decide), if_pos (nI_pos' (by omega)), jlet_s, nI_1]
      rfl
    | true =>
      have hr : rr u (i + 1) = rr u i + 1 := if_pos e
      rw [hr, if_neg (show ¬ ¬ bI true = 1 by decide), nI_1, nI_1]
      by_cases q : rr u i + 1 ≤ mm u i
      · rw [if_pos (nI_le q (by omega)), if_pos q, jlet_s]
      · rw [if_neg (nI_ge (by omega) (by omega)), if_neg q, jlet_s]
  · intro n x _
    have h1 := mm_le u 48
    show f_X10_gapOf_L6 (n + 1) a (nI (mm u 48)) (nI (rr u 48)) (nI 48) = _
    rw [ef_X10_gapOf_L6, if_pos (by decide), show (24 : Int32) = nI 24 from rfl]
    by_cases q : mm u 48 ≤ 24
    · rw [if_pos (nI_le q (by omega)), Nat.min_eq_left q]
    · rw [if_neg (nI_ge (by omega) (by omega)), Nat.min_eq_right (by omega)]
theorem mgap (V : Nat → Int64) (c : Nat) : f_X10_gapOf (Zal V c 24) = some (nI (Zgap V c)) := by
  rw [← mm_gap V c]
  refine mgapOf (fun k hk => ?_) (fun k => ?_)
  · rw [Zal_bt V c (by omega) 24 (by omega), decide_eq_true hk, Nat.mod_eq_of_lt hk]; rfl
  · show (!bit (V (k % 24)) c) = (!bit (V (k % 24 % 24)) c)
    rw [Nat.mod_mod]
/-! ===== the class's gaps, all cells at once ===== -/
def bG : Nat → Bool := fun k => k == 6 || k == 49
theorem xgapL54 {V : Nat → Int64} {o : Nat} (ho : bG o = false) {len : Nat} (hlen : len < 24) {cells : Int64} {σ : ST} (hV : ∀ t, t < 24 → gB σ o t = V t) (h49 : ∀ t, t < 24 → ∀ c, c < 64 → bit (gB σ 49 t) c = (bit cells c && ru V c t (len + 1))) (k41 : Nat → Int32 → ST → Option (Int32 × ST)) :
    ∃ σ' acc, f_X0_greatest_L54 k41 FU o (nI len) 0 0 σ = (if ¬ acc = 0 then k41 o (nI (len + 1)) (sB σ' 6 0 acc) else some (nI len, σ')) ∧ Fr aO bG σ σ' ∧ gB σ' 6 0 = gB σ 6 0 ∧ (∀ t, t < 24 → ∀ c, c < 64 → bit (gB σ' 49 t) c = (bit cells c && ru V c t (len + 2))) ∧ ∀ c, c < 64 → bit acc c = (bit cells c && gp V c 24 (len + 1)) := by
  refine jloop (fun n i (x : Int64 × ST) => f_X0_greatest_L54 k41 n o (nI len) x.1 (nI i) x.2) 24 (fun i x => Fr aO bG σ x.2 ∧ gB x.2 6 0 = gB σ 6 0 ∧ (∀ t, t < i → ∀ c, c < 64 → bit (gB x.2 49 t) c = (bit cells c && ru V c t (len + 2))) ∧ (∀ t, i ≤ t → gB x.2 49 t = gB σ 49 t) ∧ ∀ c, c < 64 → bit x.1 c = (bit cells c && gp V c i (len + 1))) (fun r => ∃ σ' acc, r = (if ¬ acc = 0 then k41 o (nI (len + 1)) (sB σ' 6 0 acc) else some (nI len, σ')) ∧ Fr aO bG σ σ' ∧ gB σ' 6 0 = gB σ 6 0 ∧ (∀ t, t < 24 → ∀ c, c < 64 → bit (gB σ' 49 t) c = (bit cells c && ru V c t (len + 2))) ∧ ∀ c, c < 64 → bit acc c = (bit cells c && gp V c 24 (len + 1))) ?_ ?_ FU 0 (0, σ) (by omega) (by unfold FU; omega) ⟨Fr.rf, rfl, fun t h => absurd h (Nat.not_lt_zero _), fun _ _ => rfl, fun c _ => by rw [bit_0]; unfold gp; simp⟩
  · rintro n i ⟨a, s⟩ hi ⟨p1, p2, p3, p4, p5⟩
    have hm := Nat.mod_lt (i + len + 1) (show 0 < 24 by decide)
    have h49i : ∀ c, c < 64 → bit (gB s 49 i) c = (bit cells c && ru V c i (len + 1)) := fun c hc => by
      rw [p4 i (Nat.le_refl _)]; exact h49 i hi c hc
    refine Or.inr ⟨(a ||| gB s 49 i, sB s 49 i (gB s 49 i &&& (V ((i + len + 1) % 24) ^^^ (-1)))), ⟨p1.sB rfl, ?_, fun t ht c hc => ?_, fun t ht => ?_, fun c hc => ?_⟩, ?_⟩
    · show gB (sB s 49 i _) 6 0 = _
      rw [gB_sB, if_neg (by omega)]; exact p2
    · show bit (gB (sB s 49 i _) 49 t) c = _
      rw [gB_sB]
      by_cases q : t = i
      · subst q
        rw [if_pos ⟨rfl, rfl⟩, bit_and, bit_not _ hc, h49i c hc, Bool.and_assoc]
        rfl
      · rw [if_neg (by omega)]; exact p3 t (by omega) c hc
    · show gB (sB s 49 i _) 49 t = _
      rw [gB_sB, if_neg (by omega)]; exact p4 t (by omega)
    · show bit (a ||| gB s 49 i) c = _
      rw [bit_or, p5 c hc, h49i c hc, gp_succ, ← Bool.and_or_distrib_left]
    · show f_X0_greatest_L54 k41 (n + 1) o (nI len) a (nI i) s = f_X0_greatest_L54 k41 n o (nI len) (a ||| gB s 49 i) (nI (i + 1)) (sB s 49 i _)
      rw [ef_X0_greatest_L54, if_neg (nle24 hi), jix_t hi (by omega), nI_clamp (by omega), jlet_s, jix_t hi (by omega), nI_add, nI_1, show (24 : Int32) = nI 24 from rfl, jrem_n (by omega) (by omega) (by omega), jix_t hm (by omega), jix_t hi (by omega), nI_clamp (by omega), jlet_s, jlet_s, nI_1, p1.B ho, hV _ hm]
  · rintro n ⟨a, s⟩ ⟨p1, p2, p3, p4, p5⟩
    refine ⟨s, a, ?_, p1, p2, p3, p5⟩
    show f_X0_greatest_L54 k41 (n + 1) o (nI len) a (nI 24) s = _
    rw [ef_X0_greatest_L54, if_pos (by decide), jlet_s, jlet_s, nI_1]
theorem xgreatest {V : Nat → Int64} {o : Nat} (ho : bG o = false) (cells : Int64) {σ : ST} (hV : ∀ t, t < 24 → gB σ o t = V t) : ∃ σ' r, f_X0_greatest o cells σ = some (nI r, σ') ∧ Fr aO bG σ σ' ∧ r ≤ 24 ∧ (∀ c, c < 64 → bit cells c = true → Zgap V c ≤ r) ∧ (r = 0 ∨ ∃ c, c < 64 ∧ bit cells c = true ∧ r ≤ Zgap V c) ∧ ∀ c, c < 64 → bit (gB σ' 6 0) c = (bit cells c && decide (r ≤ Zgap V c)) := by
  unfold f_X0_greatest
  rw [jlet_s]
  have e41 : ∀ s : ST, Fr aO bG σ s → (∀ t, t < 24 → ∀ c, c < 64 → bit (gB s 49 t) c = (bit cells c && ru V c t 1)) → gB s 6 0 = cells → ∃ σ' r, f_X0_greatest_L41 FU o (nI 0) s = some (nI r, σ') ∧ Fr aO bG σ σ' ∧ r ≤ 24 ∧ (∀ c, c < 64 → bit cells c = true → Zgap V c ≤ r) ∧ (r = 0 ∨ ∃ c, c < 64 ∧ bit cells c = true ∧ r ≤ Zgap V c) ∧ ∀ c, c < 64 → bit (gB σ' 6 0) c = (bit cells c && decide (r ≤ Zgap V c)) := by
    intro s f hs h6
    refine jloop (fun n i s => f_X0_greatest_L41 n o (nI i) s) 24 (fun i s => Fr aO bG σ s ∧ (∀ t, t < 24 → ∀ c, c < 64 → bit (gB s 49 t) c = (bit cells c && ru V c t (i + 1))) ∧ (i = 0 ∨ ∃ c, c < 64 ∧ bit cells c = true ∧ i ≤ Zgap V c) ∧ ∀ c, c < 64 → bit (gB s 6 0) c = (bit cells c && decide (i ≤ Zgap V c))) (fun r => ∃ σ' q, r = some (nI q, σ') ∧ Fr aO bG σ σ' ∧ q ≤ 24 ∧ (∀ c, c < 64 → bit cells c = true → Zgap V c ≤ q) ∧ (q = 0 ∨ ∃ c, c < 64 ∧ bit cells c = true ∧ q ≤ Zgap V c) ∧ ∀ c, c < 64 → bit (gB σ' 6 0) c = (bit cells c && decide (q ≤ Zgap V c))) ?_ ?_ FU 0 s (by omega) (by unfold FU; omega) ⟨f, hs, Or.inl rfl, fun c hc => by rw [h6, decide_eq_true (Nat.zero_le _), Bool.and_true]⟩
    · intro n i s hi ⟨p1, p2, p3, p4⟩
      obtain ⟨s2, acc, e1, f2, e2, e3, e4⟩ := xgapL54 ho hi (σ := s) (V := V) (cells := cells) (fun t ht => by rw [p1.B ho]; exact hV t ht) p2 (f_X0_greatest_L41 n)
      have hgp : ∀ c, gp V c 24 (i + 1) = decide (i + 1 ≤ Zgap V c) := fun c => by
        have := Zgap_iff (V := V) (c := c) (K := i + 1) (by omega)
        cases h : gp V c 24 (i + 1) with
        | true => exact (decide_eq_true (this.mp h)).symm
        | false => exact (decide_eq_false (fun q => by rw [this.mpr q] at h; cases h)).symm
      by_cases h0 : acc = 0
      · refine Or.inl ⟨s2, i, ?_, p1.trans f2, by omega, fun c hc hb => ?_, p3, fun c hc => by rw [e2]; exact p4 c hc⟩
        · show f_X0_greatest_L41 (n + 1) o (nI i) s = _
          rw [ef_X0_greatest_L41, if_neg (nle24 hi)]
          rw [show f_X0_greatest_L54 (f_X0_greatest_L41 n) FU o (nI i) 0 0 s = _ from e1, if_neg (fun q => q h0)]
        · have w := e4 c hc
          rw [h0, bit_0, hb, Bool.true_and, hgp] at w
          have := of_decide_eq_false w.symm
          omega
      · refine Or.inr ⟨sB s2 6 0 acc, ⟨(p1.trans f2).sB rfl, fun t ht c hc => ?_, ?_, fun c hc => ?_⟩, ?_⟩
        · rw [gB_sB, if_neg (by omega)]; exact e3 t ht c hc
        · right
          have : ∃ c, c < 64 ∧ bit acc c = true := by
            rcases Classical.em (∃ c, c < 64 ∧ bit acc c = true) with q | q
            · exact q
            · exact absurd (bit_eq0.mpr (fun c hc => by
                cases h : bit acc c with
                | false => rfl
                | true => exact absurd ⟨c, hc, h⟩ q)) h0
          obtain ⟨c, hc, hb⟩ := this
          rw [e4 c hc, Bool.and_eq_true, hgp] at hb
          exact ⟨c, hc, hb.1, of_decide_eq_true hb.2⟩
        · rw [gB_sB, if_pos ⟨rfl, rfl⟩, e4 c hc, hgp]
        · show f_X0_greatest_L41 (n + 1) o (nI i) s = _
          rw [ef_X0_greatest_L41, if_neg (nle24 hi)]
          rw [show f_X0_greatest_L54 (f_X0_greatest_L41 n) FU o (nI i) 0 0 s = _ from e1, if_pos h0]
    · intro n s ⟨p1, p2, p3, p4⟩
      refine ⟨s, 24, ?_, p1, Nat.le_refl _, fun c _ _ => Zgap_le V c, p3, p4⟩
      show f_X0_greatest_L41 (n + 1) o (nI 24) s = _
      rw [ef_X0_greatest_L41, if_pos (by decide)]
      rfl
  refine jloop (fun n i s => f_X0_greatest_L8 n o cells (nI i) s) 24 (fun i s => Fr aO bG σ s ∧ (∀ t, t < i → gB s 49 t = cells &&& (V t ^^^ (-1))) ∧ gB s 6 0 = cells) (fun r => ∃ σ' q, r = some (nI q, σ') ∧ Fr aO bG σ σ' ∧ q ≤ 24 ∧ (∀ c, c < 64 → bit cells c = true → Zgap V c ≤ q) ∧ (q = 0 ∨ ∃ c, c < 64 ∧ bit cells c = true ∧ q ≤ Zgap V c) ∧ ∀ c, c < 64 → bit (gB σ' 6 0) c = (bit cells c && decide (q ≤ Zgap V c))) ?_ ?_ FU 0 (sB σ 6 0 cells) (by omega) (by unfold FU; omega) ⟨Fr.rf.sB rfl, fun t h => absurd h (Nat.not_lt_zero _), by rw [gB_sB, if_pos ⟨rfl, rfl⟩]⟩
  · intro n i s hi ⟨p1, p2, p3⟩
    refine Or.inr ⟨sB s 49 i (cells &&& (V i ^^^ (-1))), ⟨p1.sB rfl, fun t ht => ?_, by rw [gB_sB, if_neg (by omega)]; exact p3⟩, ?_⟩
    · rw [gB_sB]
      split
      · rename_i q
        rw [q.2]
      · exact p2 t (by omega)
    · show f_X0_greatest_L8 (n + 1) o cells (nI i) s = _
      rw [ef_X0_greatest_L8, if_neg (nle24 hi), jix_t hi (by omega), jix_t hi (by omega), nI_clamp (by omega), p1.B ho, hV i hi, jlet_s, jlet_s, nI_1]
  · intro n s ⟨p1, p2, p3⟩
    obtain ⟨σ', r, h⟩ := e41 s p1 (fun t ht c hc => by
      rw [p2 t ht, bit_and, bit_not _ hc]
      unfold ru ru
      rw [Bool.true_and, Nat.add_zero, Nat.mod_eq_of_lt ht]) p3
    refine ⟨σ', r, ?_, h.2⟩
    rw [← h.1]
    show f_X0_greatest_L8 (n + 1) o cells (nI 24) s = _
    rw [ef_X0_greatest_L8, if_pos (by decide)]
    rfl
