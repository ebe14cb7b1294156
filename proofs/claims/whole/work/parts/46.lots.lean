/-! ===== rounds by lot ===== -/
def lot (s : Nat) : Nat → Nat
  | 0 => s + 1
  | g + 1 => lot s g * 48271 % 2147483647
theorem lot_lt {s : Nat} (hs : s < 200000) : ∀ g, lot s g < 2147483647
  | 0 => by unfold lot; omega
  | g + 1 => Nat.mod_lt _ (by decide)
theorem lot_n {s : Nat} (hs : s < 200000) (g : Nat) : jreml (lN (lot s g) * 48271) 2147483647 = lN (lot s (g + 1)) ∧ (jreml (lN (lot s (g + 1))) 24).toInt32 = nI (lot s (g + 1) % 24) := by
  have h1 := lot_lt hs g
  have h2 := lot_lt hs (g + 1)
  refine ⟨?_, ?_⟩
  · rw [show (48271 : Int64) = lN 48271 from rfl, lN_mul, show (2147483647 : Int64) = lN 2147483647 from rfl]
    exact pk_lRem (by omega) (by omega) (by omega)
  · have e : jreml (lN (lot s (g + 1))) 24 = lN (lot s (g + 1) % 24) := pk_lRem (b := 24) (by omega) (by omega) (by omega)
    rw [e, lN_i]
/-- the guards as the lots have them -/
def GL (G : Nat → Nat → Nat) (s : Nat) : Nat → Nat → Nat := fun g j => if j = 5 then lot s (g + 1) % 24 else G g j
theorem GL_set (G : Nat → Nat → Nat) (s g : Nat) : setA G g (lot s (g + 1) % 24) g = GL G s g := by
  funext j
  unfold setA GL
  by_cases h : j = 5
  · rw [if_pos ⟨rfl, h⟩, if_pos h]
  · rw [if_neg (fun q => h q.2), if_neg h]
theorem seed_n (s : Nat) (hs : s < 200000) : (nI s).toInt64 + 1 = lN (lot s 0) := by
  rw [nI_l (by omega), lN_1]
  rfl
theorem xsupLots {S : Nat → Int64} {r n s : Nat} {T : TT} {G : Nat → Nat → Nat} {σ : ST} (hX : VX S r T G n σ) (hs : s < 200000) : ∃ σ', f_X8_supposeLots (nI s) σ = some σ' ∧ Fr aS bF σ σ' ∧ ∀ t, t < 24 → gB σ' 41 t = ZV S T (GL G s) n (fun _ => true) t := by
  have hn := hX.2.2.1
  obtain ⟨s1, e1, f1, r1⟩ := xfill σ
  unfold f_X8_supposeLots
  rw [e1, jb_s, seed_n s hs, jlet_s]
  refine jloop (fun k i τ => f_X8_supposeLots_L16 k (lN (lot s i)) (nI i) τ) n (fun i τ => Fr aS bF σ τ ∧ ∀ t, t < 24 → gB τ 41 t = ZV S T (GL G s) i (fun _ => true) t) (fun q => ∃ σ', q = some σ' ∧ Fr aS bF σ σ' ∧ ∀ t, t < 24 → gB σ' 41 t = ZV S T (GL G s) n (fun _ => true) t) ?_ ?_ FU 0 s1 (by omega) (by unfold FU; omega) ⟨f1.O41, r1⟩
  · intro k i τ hi ⟨p1, p2⟩
    have hi5 : i < 5 := by omega
    have hv := hX.fr p1 okXX_S
    have ha : lot s (i + 1) % 24 < 24 := Nat.mod_lt _ (by decide)
    obtain ⟨l1, l2⟩ := lot_n hs i
    obtain ⟨s2, e2, f2, r2⟩ := xaddFound hi5 (hv.ahead hi5 ha)
    refine Or.inr ⟨sA s2 20 i (gA τ 20 i), ⟨p1.trans (fr_ahead f2 rfl), fun t ht => ?_⟩, ?_⟩
    · rw [gB_sA, r2 t ht, gB_sA, p2 t ht, GL_set]
      rfl
    · show f_X8_supposeLots_L16 (k + 1) (lN (lot s i)) (nI i) τ = _
      rw [ef_X8_supposeLots_L16, hv.2.1, if_neg (nI_ge hi (by omega)), l1, jlet_s, jix_t hi5 (by omega), nI_clamp (by omega), jlet_s, jix_t hi5 (by omega), l2, jlet_s, e2, jb_s, jix_t hi5 (by omega), jlet_s, jlet_s, nI_1]
  · intro k τ ⟨p1, p2⟩
    refine ⟨τ, ?_, p1, p2⟩
    show f_X8_supposeLots_L16 (k + 1) (lN (lot s n)) (nI n) τ = _
    rw [ef_X8_supposeLots_L16, (hX.fr p1 okXX_S).2.1, if_pos (Int32.le_refl _)]
