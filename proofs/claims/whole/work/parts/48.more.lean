/-! ===== one lamp or mirror more ===== -/
def setS (S : Nat → Int64) (w : Nat) (v : Int64) : Nat → Int64 := fun i => if i = w then v else S i
theorem VX.laid {S : Nat → Int64} {r n w : Nat} {T : TT} {G : Nat → Nat → Nat} {σ : ST} (v : Int64) (h : VX S r T G n σ) : VX (setS S w v) r T G n (sB σ 14 w v) := by
  obtain ⟨⟨⟨s0, s1, s2⟩, q1, q2, q3, q4⟩, q6, q7, q8⟩ := h
  refine ⟨⟨⟨?_, ?_, ?_⟩, q1, q2, q3, q4⟩, q6, q7, q8⟩
  all_goals
    rw [gB_sB]
    unfold setS
    by_cases e : w = 0 ∨ w = 1 ∨ w = 2
  · rcases e with rfl | rfl | rfl <;> simp [s0]
  · rw [if_neg (by omega), if_neg (by omega)]; exact s0
  · rcases e with rfl | rfl | rfl <;> simp [s1]
  · rw [if_neg (by omega), if_neg (by omega)]; exact s1
  · rcases e with rfl | rfl | rfl <;> simp [s2]
  · rw [if_neg (by omega), if_neg (by omega)]; exact s2
theorem VM.laid {S : Nat → Int64} {r n w : Nat} {T : TT} {G : Nat → Nat → Nat} {σ : ST} (v : Int64) (h : VM S r T G n σ) : VM (setS S w v) r T G n (sB σ 1 w v) := by
  obtain ⟨⟨⟨s0, s1, s2⟩, q1, q2, q3, q4⟩, q6, q7, q8⟩ := h
  refine ⟨⟨⟨?_, ?_, ?_⟩, q1, q2, q3, q4⟩, q6, q7, q8⟩
  all_goals
    rw [gB_sB]
    unfold setS
    by_cases e : w = 0 ∨ w = 1 ∨ w = 2
  · rcases e with rfl | rfl | rfl <;> simp [s0]
  · rw [if_neg (by omega), if_neg (by omega)]; exact s0
  · rcases e with rfl | rfl | rfl <;> simp [s1]
  · rw [if_neg (by omega), if_neg (by omega)]; exact s1
  · rcases e with rfl | rfl | rfl <;> simp [s2]
  · rw [if_neg (by omega), if_neg (by omega)]; exact s2
def plus (S : Nat → Int64) (w c : Nat) : Nat → Int64 := setS S w (S w ||| jlshl 1 (nI c))
theorem plus_bit {S : Nat → Int64} {w c i d : Nat} (hc : c < 36) (hd : d < 36) (h : d ≠ c) : bit (plus S w c i) d = bit (S i) d := by
  unfold plus setS
  by_cases e : i = w
  · rw [if_pos e, bit_or, bit_one (by omega) (by omega), decide_eq_false h, Bool.or_false, e]
  · rw [if_neg e]
theorem plus_0 {S : Nat → Int64} {w c : Nat} (hw : w ≠ 0) : plus S w c 0 = S 0 := if_neg (by omega)
theorem not_at {x : Int64} {d c : Nat} (hd : d < 36) (hc : c < 36) (h : bit (jlshl 1 (nI d) ||| x) c = false) : d ≠ c ∧ bit x c = false := by
  rw [bit_or, bit_one (by omega) (by omega), Bool.or_eq_false_iff] at h
  exact ⟨fun e => by rw [e, decide_eq_true rfl] at h; exact absurd h.1 (by decide), h.2⟩
theorem Zsl_plus {S : Nat → Int64} {T : TT} {w c mo t g : Nat} (hw : w ≠ 0) (hc : c < 36) : ∀ n far d y, (d = 99 ∨ d < 36) → y < 4 → bit (Ztl S n d y) c = false → Zsl (plus S w c) T mo t g n far d y = Zsl S T mo t g n far d y
  | 0, _, _, _, _, _, _ => rfl
  | n + 1, far, d, y, hd, hy, h => by
    unfold Ztl at h
    unfold Zsl
    by_cases e : d = 99
    · rw [if_pos e, if_pos e]
    · rw [if_neg e] at h
      rw [if_neg e, if_neg e]
      have hd' := hd.resolve_left e
      obtain ⟨h1, h2⟩ := not_at hd' hc h
      have ht : turnL (plus S w c) d y = turnL S d y := by unfold turnL; rw [plus_bit hc hd' h1]
      have hs : see1 (plus S w c) T mo t g far d = see1 S T mo t g far d := by
        unfold see1 Zlit
        rw [plus_bit hc hd' h1]
      rw [ht, hs, plus_0 hw, Zsl_plus hw hc n (far + 1) _ _ (nbw_99 hd' (turnL_lt hy)) (turnL_lt hy) h2]
theorem Zthr_plus {S : Nat → Int64} {T : TT} {G : Nat → Nat} {w c g t : Nat} (hw : w ≠ 0) (hc : c < 36) (hG : GW G) (h : bit (Ztrail S T G g t) c = false) : Zthr (plus S w c) T G g t = Zthr S T G g t := by
  have hst := Zstand_lt (W := S 0) (t := t) hG
  unfold Ztrail at h
  obtain ⟨h1, h2⟩ := not_at hst hc h
  have hr : Zreach (plus S w c) T G g t = Zreach S T G g t := by
    unfold Zreach Zlit
    rw [plus_0 hw, plus_bit hc hst h1]
  have hw0 : Zw0 (plus S w c) G t = Zw0 S G t := by unfold Zw0; rw [plus_0 hw]
  have hd0 : Zd0 (plus S w c) G t = Zd0 S G t := by unfold Zd0; rw [plus_0 hw, hw0]
  unfold Zthr Zsee
  rw [plus_0 hw, hr, hw0, hd0]
  cases hl : Zlook G t with
  | false => rw [if_neg (by decide), if_neg (by decide)]
  | true =>
    rw [hl, if_pos rfl] at h2
    have hd : Zd0 S G t = 99 ∨ Zd0 S G t < 36 := by
      unfold Zd0
      exact nbw_99 hst Zw0_lt
    rw [if_pos rfl, if_pos rfl, Zsl_plus hw hc _ _ _ _ hd Zw0_lt h2]
theorem Ztou_bit {S : Nat → Int64} {T : TT} {G : Nat → Nat} {g c : Nat} : ∀ n, bit (Ztou S T G g n) c = false → ∀ t, t < n → bit (Ztrail S T G g t) c = false
  | 0, _, t, ht => absurd ht (Nat.not_lt_zero _)
  | n + 1, h, t, ht => by
    unfold Ztou at h
    rw [bit_or, Bool.or_eq_false_iff] at h
    rcases (show t < n ∨ t = n by omega) with q | q
    · exact Ztou_bit n h.1 t q
    · subst q; exact h.2
