/-! ===== what is seen by some guards, second by second ===== -/
def Zthr (S : Nat → Int64) (T : TT) (G : Nat → Nat) (g t : Nat) : Int64 := Zsee S T G g t ||| jlshl 1 (nI (Zstand (S 0) G t))
def Zor (F : Nat → Nat → Int64) (p : Nat → Bool) : Nat → Nat → Int64
  | 0, _ => 0
  | n + 1, t => Zor F p n t ||| (if p n then F n t else 0)
def ZV (S : Nat → Int64) (T : TT) (G : Nat → Nat → Nat) (n : Nat) (p : Nat → Bool) (t : Nat) : Int64 := Zor (fun g t => Zthr S T (G g) g t) p n t
theorem Zor_cong {F F' : Nat → Nat → Int64} {p q : Nat → Bool} {t : Nat} : ∀ {n : Nat}, (∀ g, g < n → p g = q g) → (∀ g, g < n → p g = true → F g t = F' g t) → Zor F p n t = Zor F' q n t
  | 0, _, _ => rfl
  | n + 1, h, h2 => by
    unfold Zor
    rw [Zor_cong (fun g hg => h g (by omega)) (fun g hg => h2 g (by omega)), ← h n (by omega)]
    cases e : p n with
    | true => rw [if_pos rfl, if_pos rfl, h2 n (by omega) e]
    | false => rfl
theorem Zor_bit (F : Nat → Nat → Int64) (p : Nat → Bool) (t c : Nat) : ∀ n, bit (Zor F p n t) c = true ↔ ∃ g, g < n ∧ p g = true ∧ bit (F g t) c = true
  | 0 => by
    unfold Zor
    rw [bit_0]
    exact ⟨fun h => (by cases h), fun ⟨g, h, _⟩ => absurd h (Nat.not_lt_zero _)⟩
  | n + 1 => by
    unfold Zor
    rw [bit_or, Bool.or_eq_true, Zor_bit F p t c n]
    constructor
    · rintro (⟨g, h1, h2, h3⟩ | h)
      · exact ⟨g, by omega, h2, h3⟩
      · cases e : p n with
        | true => rw [e, if_pos rfl] at h; exact ⟨n, by omega, e, h⟩
        | false => rw [e, if_neg (by decide), bit_0] at h; cases h
    · rintro ⟨g, h1, h2, h3⟩
      rcases (show g < n ∨ g = n by omega) with q | q
      · exact Or.inl ⟨g, q, h2, h3⟩
      · subst q
        exact Or.inr (by rw [h2, if_pos rfl]; exact h3)
theorem bit_wide (x : Int32) {g : Nat} (hg : g < 32) : bit x.toInt64 g = bt x g := by
  show (x.toBitVec.signExtend 64).getLsbD g = x.toBitVec.getLsbD g
  rw [BitVec.getLsbD_signExtend]
  simp [hg]
  omega
def VX (S : Nat → Int64) (r : Nat) (T : TT) (G : Nat → Nat → Nat) (n : Nat) (σ : ST) : Prop := vX S r T σ ∧ gA σ 2 6 = nI n ∧ n ≤ 5 ∧ ∀ g, g < 5 → atX σ g (G g) ∧ GW (G g)
def VM (S : Nat → Int64) (r : Nat) (T : TT) (G : Nat → Nat → Nat) (n : Nat) (σ : ST) : Prop := vM S r T σ ∧ gA σ 0 1 = nI n ∧ n ≤ 5 ∧ ∀ g, g < 5 → atM σ g (G g) ∧ GW (G g)
def okXX (a b : Nat → Bool) : Prop := okX a b ∧ a 15 = false ∧ a 16 = false ∧ a 17 = false ∧ a 18 = false ∧ a 19 = false ∧ a 20 = false
theorem VX.fr {a b : Nat → Bool} {S : Nat → Int64} {r n : Nat} {T : TT} {G : Nat → Nat → Nat} {σ σ' : ST} (h : VX S r T G n σ) (f : Fr a b σ σ') (o : okXX a b) : VX S r T G n σ' := ⟨h.1.fr f o.1, by rw [f.2.2]; exact h.2.1, h.2.2.1, fun g hg => ⟨(h.2.2.2 g hg).1.fr f o.2.1 o.2.2.1 o.2.2.2.1 o.2.2.2.2.1 o.2.2.2.2.2.1 o.2.2.2.2.2.2, (h.2.2.2 g hg).2⟩⟩
def okMM (a b : Nat → Bool) : Prop := okM a b ∧ a 2 = false ∧ a 3 = false ∧ a 4 = false ∧ a 5 = false ∧ a 6 = false ∧ a 7 = false
theorem VM.fr {a b : Nat → Bool} {S : Nat → Int64} {r n : Nat} {T : TT} {G : Nat → Nat → Nat} {σ σ' : ST} (h : VM S r T G n σ) (f : Fr a b σ σ') (o : okMM a b) : VM S r T G n σ' := ⟨h.1.fr f o.1, by rw [f.A o.1.1]; exact h.2.1, h.2.2.1, fun g hg => ⟨(h.2.2.2 g hg).1.fr f o.2.1 o.2.2.1 o.2.2.2.1 o.2.2.2.2.1 o.2.2.2.2.2.1 o.2.2.2.2.2.2, (h.2.2.2 g hg).2⟩⟩
def aO : Nat → Bool := fun _ => false
def b41 : Nat → Bool := fun k => k == 41
def bF : Nat → Bool := fun k => k == 5 || k == 41
theorem okXX_S : okXX aS bF := ⟨⟨rfl, fun t ht => by
  unfold aS
  refine ⟨?_, ?_⟩ <;> simp <;> omega, rfl⟩, rfl, rfl, rfl, rfl, rfl, rfl⟩
theorem okXX_41 : okXX aO b41 := ⟨⟨rfl, fun t ht => ⟨rfl, rfl⟩, rfl⟩, rfl, rfl, rfl, rfl, rfl, rfl⟩
theorem Fr.O41 {σ σ' : ST} (h : Fr aO b41 σ σ') : Fr aS bF σ σ' := h.mono (fun _ _ => rfl) (fun k q => by unfold bF at q; unfold b41; simp at q ⊢; exact q.2)
/-! ===== the class's rows ===== -/
theorem xfill (σ : ST) : ∃ σ', f_J7_fill_d0a16 0 σ = some σ' ∧ Fr aO b41 σ σ' ∧ ∀ t, t < 24 → gB σ' 41 t = 0 := by
  unfold f_J7_fill_d0a16
  refine jloop (fun n i s => f_J7_fill_d0a16_L6 n 0 (nI i) 24 s) 24 (fun i s => Fr aO b41 σ s ∧ ∀ t, t < i → gB s 41 t = 0) (fun r => ∃ σ', r = some σ' ∧ Fr aO b41 σ σ' ∧ ∀ t, t < 24 → gB σ' 41 t = 0) ?_ ?_ FU 0 σ (by omega) (by unfold FU; omega) ⟨Fr.rf, fun t h => absurd h (Nat.not_lt_zero _)⟩
  · intro n i s hi ⟨p1, p2⟩
    refine Or.inr ⟨sB s 41 i 0, ⟨p1.sB rfl, fun t ht => ?_⟩, ?_⟩
    · rw [gB_sB]
      split
      · rfl
      · exact p2 t (by omega)
    · show f_J7_fill_d0a16_L6 (n + 1) 0 (nI i) 24 s = _
      rw [ef_J7_fill_d0a16_L6, if_neg (nle24 hi), jix_t hi (by omega), nI_clamp (by omega), jlet_s, jlet_s, nI_1]
  · intro n s ⟨p1, p2⟩
    refine ⟨s, ?_, p1, p2⟩
    show f_J7_fill_d0a16_L6 (n + 1) 0 (nI 24) 24 s = _
    rw [ef_J7_fill_d0a16_L6, if_pos (by decide)]
theorem xaddKnown {g : Nat} (hg : g < 5) (σ : ST) : ∃ σ', f_X8_addKnown (nI g) σ = some σ' ∧ Fr aO b41 σ σ' ∧ ∀ t, t < 24 → gB σ' 41 t = gB σ 41 t ||| gB σ (43 + g) t := by
  unfold f_X8_addKnown
  refine jloop (fun n i s => f_X8_addKnown_L2 n (nI g) (nI i) s) 24 (fun i s => Fr aO b41 σ s ∧ (∀ t, t < i → gB s 41 t = gB σ 41 t ||| gB σ (43 + g) t) ∧ ∀ t, i ≤ t → gB s 41 t = gB σ 41 t) (fun r => ∃ σ', r = some σ' ∧ Fr aO b41 σ σ' ∧ ∀ t, t < 24 → gB σ' 41 t = gB σ 41 t ||| gB σ (43 + g) t) ?_ ?_ FU 0 σ (by omega) (by unfold FU; omega) ⟨Fr.rf, fun t h => absurd h (Nat.not_lt_zero _), fun _ _ => rfl⟩
  · intro n i s hi ⟨p1, p2, p3⟩
    refine Or.inr ⟨sB s 41 i (gB s 41 i ||| gB s (43 + g) i), ⟨p1.sB rfl, fun t ht => ?_, fun t ht => ?_⟩, ?_⟩
    · rw [gB_sB]
      split
      · rename_i q
        rw [q.2, p3 i (Nat.le_refl _), p1.B (show b41 (43 + g) = false by unfold b41; simp; omega)]
      · exact p2 t (by omega)
    · rw [gB_sB, if_neg (by omega)]
      exact p3 t (by omega)
    · show f_X8_addKnown_L2 (n + 1) (nI g) (nI i) s = _
      rw [ef_X8_addKnown_L2, if_neg (nle24 hi), jix_t hi (by omega), jix_t hg (by omega), nI_clamp (by omega), nI_clamp (by omega), jlet_s, jix_t hi (by omega), jix_t hi (by omega), jlet_s, jlet_s, nI_1]
  · intro n s ⟨p1, p2, p3⟩
    refine ⟨s, ?_, p1, p2⟩
    show f_X8_addKnown_L2 (n + 1) (nI g) (nI 24) s = _
    rw [ef_X8_addKnown_L2, if_pos (by decide)]
theorem xaddFound {S : Nat → Int64} {r n : Nat} {T : TT} {G : Nat → Nat → Nat} {g : Nat} {σ : ST} (hg : g < 5) (hV : VX S r T G n σ) : ∃ σ', f_X8_addFound (nI g) σ = some σ' ∧ Fr aS bF σ σ' ∧ ∀ t, t < 24 → gB σ' 41 t = gB σ 41 t ||| Zthr S T (G g) g t := by
  unfold f_X8_addFound
  refine jloop (fun n i s => f_X8_addFound_L2 n (nI g) (nI i) s) 24 (fun i s => Fr aS bF σ s ∧ (∀ t, t < i → gB s 41 t = gB σ 41 t ||| Zthr S T (G g) g t) ∧ ∀ t, i ≤ t → gB s 41 t = gB σ 41 t) (fun r => ∃ σ', r = some σ' ∧ Fr aS bF σ σ' ∧ ∀ t, t < 24 → gB σ' 41 t = gB σ 41 t ||| Zthr S T (G g) g t) ?_ ?_ FU 0 σ (by omega) (by unfold FU; omega) ⟨Fr.rf, fun t h => absurd h (Nat.not_lt_zero _), fun _ _ => rfl⟩
  · intro n i s hi ⟨p1, p2, p3⟩
    have hv := hV.fr p1 okXX_S
    obtain ⟨s2, e1, e2, e3, e4⟩ := xsight hg hi (hv.2.2.2 g hg).2 (hv.2.2.2 g hg).1 hv.1
    have e2' : Fr aS bF s s2 := e2.mono (fun _ q => q) (fun k q => by unfold bF at q; unfold bL; simp at q ⊢; exact q.1)
    refine Or.inr ⟨sB s2 41 i (gB s2 41 i ||| Zthr S T (G g) g i), ⟨(p1.trans e2').sB rfl, fun t ht => ?_, fun t ht => ?_⟩, ?_⟩
    · rw [gB_sB]
      split
      · rename_i q
        rw [q.2, e2.B rfl, p3 i (Nat.le_refl _)]
      · rw [e2.B rfl]; exact p2 t (by omega)
    · rw [gB_sB, if_neg (by omega), e2.B rfl]
      exact p3 t (by omega)
    · show f_X8_addFound_L2 (n + 1) (nI g) (nI i) s = _
      rw [ef_X8_addFound_L2, if_neg (nle24 hi), e1, jbp_s, jix_t hi (by omega), jix_t hi (by omega), nI_clamp (by omega), jlet_s, jlet_s, nI_1, e4]
      rfl
  · intro n s ⟨p1, p2, p3⟩
    refine ⟨s, ?_, p1, p2⟩
    show f_X8_addFound_L2 (n + 1) (nI g) (nI 24) s = _
    rw [ef_X8_addFound_L2, if_pos (by decide)]
theorem xsupBribed {n : Nat} {σ : ST} (hn : n ≤ 5) (h6 : gA σ 2 6 = nI n) (m : Int32) : ∃ σ', f_X8_supposeBribed m σ = some σ' ∧ Fr aO b41 σ σ' ∧ ∀ t, t < 24 → gB σ' 41 t = Zor (fun g t => gB σ (43 + g) t) (fun g => !bt m g) n t := by
  obtain ⟨σ1, e1, f1, r1⟩ := xfill σ
  unfold f_X8_supposeBribed
  rw [e1, jb_s]
  refine jloop (fun k i s => f_X8_supposeBribed_L10 k m (nI i) s) n (fun i s => Fr aO b41 σ s ∧ ∀ t, t < 24 → gB s 41 t = Zor (fun g t => gB σ (43 + g) t) (fun g => !bt m g) i t) (fun r => ∃ σ', r = some σ' ∧ Fr aO b41 σ σ' ∧ ∀ t, t < 24 → gB σ' 41 t = Zor (fun g t => gB σ (43 + g) t) (fun g => !bt m g) n t) ?_ ?_ FU 0 σ1 (by omega) (by unfold FU; omega) ⟨f1, r1⟩
  · intro k i s hi ⟨p1, p2⟩
    have h6' : gA s 2 6 = nI n := by rw [p1.2.2]; exact h6
    cases hb : bt m i with
    | true =>
      refine Or.inr ⟨s, ⟨p1, fun t ht => ?_⟩, ?_⟩
      · rw [p2 t ht]
        show _ = Zor _ _ i t ||| (if (!bt m i) then _ else _)
        rw [hb, if_neg (by decide), Int64.or_zero]
      · show f_X8_supposeBribed_L10 (k + 1) m (nI i) s = _
        rw [ef_X8_supposeBribed_L10, h6', if_neg (nI_ge hi (by omega)), isIn_b _ (by omega), bit_wide m (by omega), hb, jlet_s, if_pos (by decide)]
        unfold f_X8_supposeBribed_L35
        rw [jlet_s, nI_1]
    | false =>
      obtain ⟨s2, e2, f2, r2⟩ := xaddKnown (show i < 5 by omega) s
      refine Or.inr ⟨s2, ⟨p1.trans f2, fun t ht => ?_⟩, ?_⟩
      · rw [r2 t ht, p2 t ht, p1.B (show b41 (43 + i) = false by unfold b41; simp; omega)]
        show _ = Zor _ _ i t ||| (if (!bt m i) then _ else _)
        rw [hb, if_pos (by decide)]
      · show f_X8_supposeBribed_L10 (k + 1) m (nI i) s = _
        rw [ef_X8_supposeBribed_L10, h6', if_neg (nI_ge hi (by omega)), isIn_b _ (by omega), bit_wide m (by omega), hb, jlet_s, if_neg (by decide), e2, jb_s]
        unfold f_X8_supposeBribed_L35
        rw [jlet_s, nI_1]
  · intro k s ⟨p1, p2⟩
    refine ⟨s, ?_, p1, p2⟩
    show f_X8_supposeBribed_L10 (k + 1) m (nI n) s = _
    rw [ef_X8_supposeBribed_L10, show gA s 2 6 = nI n by rw [p1.2.2]; exact h6, if_pos (Int32.le_refl _)]
/-! ===== the class's memory of it ===== -/
def Ztou (S : Nat → Int64) (T : TT) (G : Nat → Nat) (g : Nat) : Nat → Int64
  | 0 => 0
  | t + 1 => Ztou S T G g t ||| Ztrail S T G g t
def CX (S : Nat → Int64) (T : TT) (G : Nat → Nat → Nat) (n : Nat) (σ : ST) : Prop := (∀ g, g < n → (∀ t, t < 24 → gB σ (43 + g) t = Zthr S T (G g) g t) ∧ gB σ 48 g = Ztou S T (G g) g 24) ∧ ∀ t, t < 24 → gB σ 40 t = ZV S T G n (fun _ => true) t
def aR : Nat → Bool := fun k => k == 2 || k == 38 || k == 39 || k == 5
def bR : Nat → Bool := fun k => k == 5 || k == 40 || k == 41 || (43 ≤ k && k ≤ 48)
theorem okXX_R : okXX aR bR := ⟨⟨rfl, fun t ht => by
  unfold aR
  refine ⟨?_, ?_⟩ <;> simp <;> omega, rfl⟩, rfl, rfl, rfl, rfl, rfl, rfl⟩
theorem Fr.FR {σ σ' : ST} (h : Fr aS bF σ σ') : Fr aR bR σ σ' := h.mono (fun k q => by unfold aR at q; unfold aS; simp at q ⊢; exact q.1) (fun k q => by unfold bR at q; unfold bF; simp at q ⊢; exact ⟨q.1.1.1, q.1.2⟩)
theorem xrefL30 {S : Nat → Int64} {r n : Nat} {T : TT} {G : Nat → Nat → Nat} {g : Nat} {σ : ST} (hg : g < 5) (hV : VX S r T G n σ) (h0 : gB σ 48 g = 0) (k10 : Int32 → ST → Option ST) : ∃ σ', f_X8_refresh_L30 k10 FU (nI g) 0 σ = k10 (nI (g + 1)) σ' ∧ Fr aS (fun k => k == 5 || k == 43 + g || k == 48) σ σ' ∧ (∀ t, t < 24 → gB σ' (43 + g) t = Zthr S T (G g) g t) ∧ gB σ' 48 g = Ztou S T (G g) g 24 ∧ ∀ j, j ≠ g → gB σ' 48 j = gB σ 48 j := by
  have oV : okXX aS (fun k => k == 5 || k == 43 + g || k == 48) := ⟨⟨rfl, fun t ht => by
    unfold aS
    refine ⟨?_, ?_⟩ <;> simp <;> omega, by simp; omega⟩, rfl, rfl, rfl, rfl, rfl, rfl⟩
  refine jloop (fun n i s => f_X8_refresh_L30 k10 n (nI g) (nI i) s) 24 (fun i s => Fr aS (fun k => k == 5 || k == 43 + g || k == 48) σ s ∧ (∀ t, t < i → gB s (43 + g) t = Zthr S T (G g) g t) ∧ gB s 48 g = Ztou S T (G g) g i ∧ ∀ j, j ≠ g → gB s 48 j = gB σ 48 j) (fun r => ∃ σ', r = k10 (nI (g + 1)) σ' ∧ Fr aS (fun k => k == 5 || k == 43 + g || k == 48) σ σ' ∧ (∀ t, t < 24 → gB σ' (43 + g) t = Zthr S T (G g) g t) ∧ gB σ' 48 g = Ztou S T (G g) g 24 ∧ ∀ j, j ≠ g → gB σ' 48 j = gB σ 48 j) ?_ ?_ FU 0 σ (by omega) (by unfold FU; omega) ⟨Fr.rf, fun t h => absurd h (Nat.not_lt_zero _), h0, fun _ _ => rfl⟩
  · intro n i s hi ⟨p1, p2, p3, p4⟩
    have hv := hV.fr p1 oV
    obtain ⟨s2, e1, e2, e3, e4⟩ := xsight hg hi (hv.2.2.2 g hg).2 (hv.2.2.2 g hg).1 hv.1
    have e2' : Fr aS (fun k => k == 5 || k == 43 + g || k == 48) s s2 := e2.mono (fun _ q => q) (fun k q => by unfold bL; simp at q ⊢; exact q.1.1)
    refine Or.inr ⟨sB (sB s2 (43 + g) i (Zthr S T (G g) g i)) 48 g (gB s2 48 g ||| Ztrail S T (G g) g i), ⟨((p1.trans e2').sB (by simp)).sB (by simp), fun t ht => ?_, ?_, fun j hj => ?_⟩, ?_⟩
    · rw [gB_sB, if_neg (by omega), gB_sB]
      split
      · rename_i q
        rw [q.2]
      · rw [e2.B (show bL (43 + g) = false by unfold bL; simp; omega)]; exact p2 t (by omega)
    · rw [gB_sB, if_pos ⟨rfl, rfl⟩, e2.B rfl, p3]
      rfl
    · rw [gB_sB, if_neg (by omega), gB_sB, if_neg (by omega), e2.B rfl]
      exact p4 j hj
    · show f_X8_refresh_L30 k10 (n + 1) (nI g) (nI i) s = _
      rw [ef_X8_refresh_L30, if_neg (nle24 hi), e1, jbp_s, jix_t hg (by omega), nI_clamp (by omega), jlet_s, jix_t hi (by omega), nI_clamp (by omega), jlet_s, jix_t hg (by omega), jix_t hg (by omega), jlet_s, jlet_s, nI_1, e4]
      show f_X8_refresh_L30 k10 n (nI g) (nI (i + 1)) (sB (sB s2 (43 + g) i (Zthr S T (G g) g i)) 48 g (gB (sB s2 (43 + g) i (Zthr S T (G g) g i)) 48 g ||| gB (sB s2 (43 + g) i (Zthr S T (G g) g i)) 5 8)) = _
      rw [gB_sB, if_neg (by omega), gB_sB, if_neg (by omega), e3]
  · intro n s ⟨p1, p2, p3, p4⟩
    refine ⟨s, ?_, p1, p2, p3, p4⟩
    show f_X8_refresh_L30 k10 (n + 1) (nI g) (nI 24) s = _
    rw [ef_X8_refresh_L30, if_pos (by decide), jlet_s, nI_1]
theorem xrefresh {S : Nat → Int64} {r n : Nat} {T : TT} {G : Nat → Nat → Nat} {σ : ST} (hV : VX S r T G n σ) (hC : gA σ 5 3 = 0 → CX S T G n σ) : ∃ σ', f_X8_refresh σ = some σ' ∧ Fr aR bR σ σ' ∧ gA σ' 5 3 = 0 ∧ CX S T G n σ' := by
  unfold f_X8_refresh
  by_cases h0 : gA σ 5 3 = 0
  · rw [if_neg (fun q => q h0)]
    exact ⟨σ, rfl, Fr.rf, h0, hC h0⟩
  · rw [if_pos h0]
    refine jloop (fun k i s => f_X8_refresh_L10 k (nI i) s) n (fun i s => Fr aR bR σ s ∧ ∀ g, g < i → (∀ t, t < 24 → gB s (43 + g) t = Zthr S T (G g) g t) ∧ gB s 48 g = Ztou S T (G g) g 24) (fun r => ∃ σ', r = some σ' ∧ Fr aR bR σ σ' ∧ gA σ' 5 3 = 0 ∧ CX S T G n σ') ?_ ?_ FU 0 σ (by omega) (by have := hV.2.2.1; unfold FU; omega) ⟨Fr.rf, fun t h => absurd h (Nat.not_lt_zero _)⟩
    · intro k i s hi ⟨p1, p2⟩
      have hn := hV.2.2.1
      have f1 : Fr aR bR σ (sB s 48 i 0) := p1.sB rfl
      have hv := hV.fr f1 okXX_R
      obtain ⟨s2, e1, e2, e3, e4, e5⟩ := xrefL30 (show i < 5 by omega) hv (by rw [gB_sB, if_pos ⟨rfl, rfl⟩]) (f_X8_refresh_L10 k)
      refine Or.inr ⟨s2, ⟨f1.trans (e2.mono (fun k q => by unfold aR at q; unfold aS; simp at q ⊢; exact q.1) (fun k q => by unfold bR at q; simp at q ⊢; omega)), fun g hg => ?_⟩, ?_⟩
      · rcases (show g < i ∨ g = i by omega) with q | q
        · refine ⟨fun t ht => ?_, ?_⟩
          · rw [e2.B (by simp; omega), gB_sB, if_neg (by omega)]; exact (p2 g q).1 t ht
          · rw [e5 g (by omega), gB_sB, if_neg (by omega)]; exact (p2 g q).2
        · subst q
          exact ⟨e3, e4⟩
      · show f_X8_refresh_L10 (k + 1) (nI i) s = _
        rw [ef_X8_refresh_L10, show gA s 2 6 = nI n by rw [p1.2.2]; exact hV.2.1, if_neg (nI_ge hi (by omega)), jix_t (show i < 5 by omega) (by omega), nI_clamp (by omega), jlet_s]
        exact e1
    · intro k s ⟨p1, p2⟩
      have hn := hV.2.2.1
      have h6 : gA s 2 6 = nI n := by rw [p1.2.2]; exact hV.2.1
      obtain ⟨s2, e1, f2, e3⟩ := xsupBribed hn h6 0
      refine ⟨sA (rB s2 40 (va_cpy (gB s2 41) (gB s2 40) 0 0 24)) 5 3 0, ?_, ((p1.trans f2.O41.FR).rB rfl).sA rfl (by omega), by rw [gA_sA, if_pos ⟨rfl, rfl⟩], fun g hg => ⟨fun t ht => ?_, ?_⟩, fun t ht => ?_⟩
      · show f_X8_refresh_L10 (k + 1) (nI n) s = _
        rw [ef_X8_refresh_L10, h6, if_pos (Int32.le_refl _), e1, jb_s]
        rfl
      · rw [gB_sA, gB_rB_ne (by omega), f2.B (show b41 (43 + g) = false by unfold b41; simp; omega)]; exact (p2 g hg).1 t ht
      · rw [gB_sA, gB_rB_ne (by omega), f2.B rfl]; exact (p2 g hg).2
      · rw [gB_sA, gB_rB, pk_cpy_in (by omega) (by omega), Nat.sub_zero, Nat.zero_add, e3 t ht]
        exact Zor_cong (fun g hg => by rw [bt_0]; rfl) (fun g hg _ => (p2 g hg).1 t ht)
/-! ===== the reference's rows ===== -/
def bT : Nat → Bool := fun k => k == 22
theorem okMM_T : okMM aN bT := ⟨⟨rfl, rfl, rfl, rfl⟩, rfl, rfl, rfl, rfl, rfl, rfl⟩
theorem mwatches {S : Nat → Int64} {r n : Nat} {T : TT} {G : Nat → Nat → Nat} {g : Nat} {σ : ST} (hg : g < 5) (hV : VM S r T G n σ) : ∃ σ', f_X10_watches (nI g) σ = some σ' ∧ Fr aN bT σ σ' ∧ (∀ t, t < 24 → gB σ' 22 (24 * g + t) = Zthr S T (G g) g t) ∧ ∀ j, (j < 24 * g ∨ 24 * g + 24 ≤ j) → gB σ' 22 j = gB σ 22 j := by
  unfold f_X10_watches
  refine jloop (fun n i s => f_X10_watches_L2 n (nI g) (nI i) s) 24 (fun i s => Fr aN bT σ s ∧ (∀ t, t < i → gB s 22 (24 * g + t) = Zthr S T (G g) g t) ∧ ∀ j, (j < 24 * g ∨ 24 * g + i ≤ j) → gB s 22 j = gB σ 22 j) (fun r => ∃ σ', r = some σ' ∧ Fr aN bT σ σ' ∧ (∀ t, t < 24 → gB σ' 22 (24 * g + t) = Zthr S T (G g) g t) ∧ ∀ j, (j < 24 * g ∨ 24 * g + 24 ≤ j) → gB σ' 22 j = gB σ 22 j) ?_ ?_ FU 0 σ (by omega) (by unfold FU; omega) ⟨Fr.rf, fun t h => absurd h (Nat.not_lt_zero _), fun _ _ => rfl⟩
  · intro n i s hi ⟨p1, p2, p3⟩
    have hv := hV.fr p1 okMM_T
    obtain ⟨s2, e1, e2⟩ := msee hg hi (hv.2.2.2 g hg).2 (hv.2.2.2 g hg).1 hv.1
    have e2' : Fr aN bT s s2 := e2.mono (fun _ q => q) (fun _ _ => rfl)
    have hv2 := hv.fr e2' okMM_T
    refine Or.inr ⟨sB s2 22 (24 * g + i) (Zthr S T (G g) g i), ⟨(p1.trans e2').sB rfl, fun t ht => ?_, fun j hj => ?_⟩, ?_⟩
    · rw [gB_sB]
      split
      · rename_i q
        rw [show t = i by omega]
      · rw [e2.B rfl]; exact p2 t (by omega)
    · rw [gB_sB, if_neg (by omega), e2.B rfl]
      exact p3 j (by omega)
    · show f_X10_watches_L2 (n + 1) (nI g) (nI i) s = _
      rw [ef_X10_watches_L2, if_neg (nle24 hi), e1, jbp_s, mstands hv2.1.1.1 hg (hv2.2.2.2 g hg).1 (hv2.2.2.2 g hg).2 hi, jb_s, show (24 : Int32) = nI 24 from rfl, pk_mul, nI_add, jix_t (by omega) (by omega), nI_clamp (by omega), jlet_s, jlet_s, nI_1]
      rfl
  · intro n s ⟨p1, p2, p3⟩
    refine ⟨s, ?_, p1, p2, p3⟩
    show f_X10_watches_L2 (n + 1) (nI g) (nI 24) s = _
    rw [ef_X10_watches_L2, if_pos (by decide)]
theorem mwatchesAll {S : Nat → Int64} {r n : Nat} {T : TT} {G : Nat → Nat → Nat} {σ : ST} (hV : VM S r T G n σ) : ∃ σ', f_X10_watchesAll σ = some σ' ∧ Fr aN bT σ σ' ∧ ∀ g, g < n → ∀ t, t < 24 → gB σ' 22 (24 * g + t) = Zthr S T (G g) g t := by
  have hn := hV.2.2.1
  unfold f_X10_watchesAll
  refine jloop (fun k i s => f_X10_watchesAll_L2 k (nI i) s) n (fun i s => Fr aN bT σ s ∧ ∀ g, g < i → ∀ t, t < 24 → gB s 22 (24 * g + t) = Zthr S T (G g) g t) (fun r => ∃ σ', r = some σ' ∧ Fr aN bT σ σ' ∧ ∀ g, g < n → ∀ t, t < 24 → gB σ' 22 (24 * g + t) = Zthr S T (G g) g t) ?_ ?_ FU 0 σ (by omega) (by unfold FU; omega) ⟨Fr.rf, fun t h => absurd h (Nat.not_lt_zero _)⟩
  · intro k i s hi ⟨p1, p2⟩
    have hv := hV.fr p1 okMM_T
    obtain ⟨s2, e1, e2, e3, e4⟩ := mwatches (show i < 5 by omega) hv
    refine Or.inr ⟨s2, ⟨p1.trans e2, fun g hg t ht => ?_⟩, ?_⟩
    · rcases (show g < i ∨ g = i by omega) with q | q
      · rw [e4 _ (by omega)]; exact p2 g q t ht
      · subst q; exact e3 t ht
    · show f_X10_watchesAll_L2 (k + 1) (nI i) s = _
      rw [ef_X10_watchesAll_L2, hv.2.1, if_neg (nI_ge hi (by omega)), e1, jb_s, jlet_s, nI_1]
  · intro k s ⟨p1, p2⟩
    refine ⟨s, ?_, p1, p2⟩
    show f_X10_watchesAll_L2 (k + 1) (nI n) s = _
    rw [ef_X10_watchesAll_L2, (hV.fr p1 okMM_T).2.1, if_pos (Int32.le_refl _)]
theorem mseenAt {n t : Nat} {σ : ST} (hn : n ≤ 5) (hg : gA σ 0 1 = nI n) (ht : t < 24) (m : Int32) : f_X10_seenAt (nI t) m σ = some (Zor (fun g t => gB σ 22 (24 * g + t)) (bt m) n t) := by
  unfold f_X10_seenAt
  refine jloop (fun k i (a : Int64) => f_X10_seenAt_L5 k (nI t) m a (nI i) σ) n (fun i a => a = Zor (fun g t => gB σ 22 (24 * g + t)) (bt m) i t) (fun r => r = some (Zor (fun g t => gB σ 22 (24 * g + t)) (bt m) n t)) ?_ ?_ FU 0 0 (by omega) (by unfold FU; omega) rfl
  · intro k i a hi hp
    refine Or.inr ⟨Zor (fun g t => gB σ 22 (24 * g + t)) (bt m) (i + 1) t, rfl, ?_⟩
    show f_X10_seenAt_L5 (k + 1) (nI t) m a (nI i) σ = _
    rw [ef_X10_seenAt_L5, hg, if_neg (nI_ge hi (by omega)), bt_sh1 m (by omega), hp]
    unfold f_X10_seenAt_L41
    show _ = f_X10_seenAt_L5 k (nI t) m (Zor _ _ i t ||| (if bt m i then _ else _)) (nI (i + 1)) σ
    cases bt m i with
    | false => rw [if_pos (by decide), if_neg (by decide), jlet_s, jlet_s, nI_1]
    | true => rw [if_neg (by decide), if_pos rfl, show (24 : Int32) = nI 24 from rfl, pk_mul, nI_add, jix_t (by omega) (by omega), nI_clamp (by omega), jlet_s, jlet_s, nI_1]
  · intro k a hp
    show f_X10_seenAt_L5 (k + 1) (nI t) m a (nI n) σ = _
    rw [ef_X10_seenAt_L5, hg, if_pos (Int32.le_refl _), hp]
def Zal (V : Nat → Int64) (c : Nat) : Nat → Int32
  | 0 => 0
  | t + 1 => Zal V c t ||| (if bit (V t) c then 0 else jshl 1 (nI t))
theorem Zal_bt (V : Nat → Int64) (c : Nat) {j : Nat} (hj : j < 32) : ∀ t, t ≤ 32 → bt (Zal V c t) j = (decide (j < t) && !bit (V j) c)
  | 0, _ => by
    unfold Zal
    rw [bt_0]; rfl
  | t + 1, ht => by
    unfold Zal
    rw [bt_or, Zal_bt V c hj t (by omega)]
    by_cases e : j = t
    · subst e
      cases e2 : bit (V j) c with
      | true => rw [if_pos rfl, bt_0]; simp
      | false => rw [if_neg (by decide), bt_one (by omega) hj]; simp
    · have e3 : bt (if bit (V t) c then 0 else jshl 1 (nI t)) j = false := by
        split
        · exact bt_0 j
        · rw [bt_one (by omega) hj]; exact decide_eq_false e
      rw [e3, Bool.or_false]
      congr 1
      exact decide_eq_decide.mpr (by omega)
theorem Zal_cong {V V' : Nat → Int64} {c : Nat} : ∀ {n : Nat}, (∀ t, t < n → V t = V' t) → Zal V c n = Zal V' c n
  | 0, _ => rfl
  | n + 1, h => by
    unfold Zal
    rw [Zal_cong (fun t ht => h t (by omega)), h n (by omega)]
theorem maloneBy {n c : Nat} {σ : ST} (hn : n ≤ 5) (hg : gA σ 0 1 = nI n) (hc : c < 36) (m : Int32) : f_X10_aloneBy (nI c) m σ = some (Zal (Zor (fun g t => gB σ 22 (24 * g + t)) (bt m) n) c 24) := by
  unfold f_X10_aloneBy
  refine jloop (fun k i (a : Int32) => f_X10_aloneBy_L5 k (nI c) m a (nI i) σ) 24 (fun i a => a = Zal (Zor (fun g t => gB σ 22 (24 * g + t)) (bt m) n) c i) (fun r => r = some (Zal (Zor (fun g t => gB σ 22 (24 * g + t)) (bt m) n) c 24)) ?_ ?_ FU 0 0 (by omega) (by unfold FU; omega) rfl
  · intro k i a hi hp
    refine Or.inr ⟨Zal (Zor (fun g t => gB σ 22 (24 * g + t)) (bt m) n) c (i + 1), rfl, ?_⟩
    show f_X10_aloneBy_L5 (k + 1) (nI c) m a (nI i) σ = _
    rw [ef_X10_aloneBy_L5, if_neg (nle24 hi), mseenAt hn hg hi, jb_s, has_b _ (by omega), jlet_s, hp]
    unfold f_X10_aloneBy_L35
    show _ = f_X10_aloneBy_L5 k (nI c) m (Zal _ c i ||| (if bit _ c then _ else _)) (nI (i + 1)) σ
    cases bit (Zor (fun g t => gB σ 22 (24 * g + t)) (bt m) n i) c with
    | false => rw [if_pos (by decide), if_neg (by decide), jlet_s, jlet_s, nI_1]
    | true => rw [if_neg (by decide), if_pos rfl, jlet_s, jlet_s, nI_1]
  · intro k a hp
    show f_X10_aloneBy_L5 (k + 1) (nI c) m a (nI 24) σ = _
    rw [ef_X10_aloneBy_L5, if_pos (by decide), hp]
