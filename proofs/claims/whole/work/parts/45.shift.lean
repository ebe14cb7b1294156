/-! ===== a guard's seconds ahead, supposed ===== -/
def setA (G : Nat → Nat → Nat) (g a : Nat) : Nat → Nat → Nat := fun g' j => if g' = g ∧ j = 5 then a else G g' j
theorem setA_ne {G : Nat → Nat → Nat} {g a g' : Nat} (h : g' ≠ g) : setA G g a g' = G g' := by
  funext j
  unfold setA
  rw [if_neg (fun q => h q.1)]
theorem setA_GW {G : Nat → Nat → Nat} {g a : Nat} (h : GW (G g)) (ha : a < 24) : GW (setA G g a g) := by
  obtain ⟨h0, h1, h2, h3, h4, h5⟩ := h
  unfold GW setA
  exact ⟨by rw [if_neg (by omega)]; exact h0, by rw [if_neg (by omega)]; exact h1, by rw [if_neg (by omega)]; exact h2, by rw [if_neg (by omega)]; exact h3, by rw [if_neg (by omega)]; exact h4, by rw [if_pos ⟨rfl, rfl⟩]; exact ha⟩
theorem VX.ahead {S : Nat → Int64} {r n g a : Nat} {T : TT} {G : Nat → Nat → Nat} {σ : ST} (h : VX S r T G n σ) (hg : g < 5) (ha : a < 24) : VX S r T (setA G g a) n (sA σ 20 g (nI a)) := by
  obtain ⟨⟨s, q1, q2, q3, q4⟩, q6, q7, q8⟩ := h
  refine ⟨⟨s, by rw [gA_sA, if_neg (by omega)]; exact q1, q2, q3, ⟨fun i hi => ?_, fun p hp => ?_⟩⟩, by rw [gA_sA, if_neg (by omega)]; exact q6, q7, fun g' hg' => ?_⟩
  · rw [gA_sA, if_neg (by omega)]; exact q4.1 i hi
  · rw [gA_sA, if_neg (by omega)]; exact q4.2 p hp
  · by_cases e : g' = g
    · subst e
      refine ⟨?_, setA_GW (q8 g' hg').2 ha⟩
      obtain ⟨a0, a1, a2, a3, a4, a5⟩ := (q8 g' hg').1
      unfold atX setA
      simp only [gA_sA]
      simpa using ⟨a0, a1, a2, a3, a4⟩
    · rw [setA_ne e]
      refine ⟨?_, (q8 g' hg').2⟩
      obtain ⟨a0, a1, a2, a3, a4, a5⟩ := (q8 g' hg').1
      unfold atX
      simp only [gA_sA]
      simpa [e] using ⟨a0, a1, a2, a3, a4, a5⟩
theorem VM.ahead {S : Nat → Int64} {r n g a : Nat} {T : TT} {G : Nat → Nat → Nat} {σ : ST} (h : VM S r T G n σ) (hg : g < 5) (ha : a < 24) : VM S r T (setA G g a) n (sA σ 7 g (nI a)) := by
  obtain ⟨⟨s, q1, q2, q3, q4⟩, q6, q7, q8⟩ := h
  refine ⟨⟨s, by rw [gA_sA, if_neg (by omega)]; exact q1, q2, q3, ⟨fun i hi => ?_, fun p hp => ?_⟩⟩, by rw [gA_sA, if_neg (by omega)]; exact q6, q7, fun g' hg' => ?_⟩
  · rw [gA_sA, if_neg (by omega)]; exact q4.1 i hi
  · rw [gA_sA, if_neg (by omega)]; exact q4.2 p hp
  · by_cases e : g' = g
    · subst e
      refine ⟨?_, setA_GW (q8 g' hg').2 ha⟩
      obtain ⟨a0, a1, a2, a3, a4, a5⟩ := (q8 g' hg').1
      unfold atM setA
      simp only [gA_sA]
      simpa using ⟨a0, a1, a2, a3, a4⟩
    · rw [setA_ne e]
      refine ⟨?_, (q8 g' hg').2⟩
      obtain ⟨a0, a1, a2, a3, a4, a5⟩ := (q8 g' hg').1
      unfold atM
      simp only [gA_sA]
      simpa [e] using ⟨a0, a1, a2, a3, a4, a5⟩
theorem fr_ahead {σ σ' : ST} {g : Nat} {v v' : Int32} {b : Nat → Bool} (f : Fr aS b (sA σ 20 g v) σ') (h : gA σ 20 g = v') : Fr aS b σ (sA σ' 20 g v') := ⟨fun k q => by
  by_cases hk : k = 20
  · subst hk
    funext j
    rw [gA_sA]
    by_cases hj : j = g
    · rw [if_pos ⟨rfl, hj⟩, hj, h]
    · rw [if_neg (by omega), f.A q, gA_sA, if_neg (by omega)]
  · rw [gA_sA_ne hk, f.1 k q, gA_sA_ne hk], fun k q => by rw [gB_sA, f.2.1 k q, gB_sA], by
  rw [gA_sA, if_neg (by omega), f.2.2, gA_sA, if_neg (by omega)]⟩
theorem xsupAhead {S : Nat → Int64} {r n g a : Nat} {T : TT} {G : Nat → Nat → Nat} {σ : ST} (hX : VX S r T G n σ) (hC : CX S T G n σ) (hg : g < n) (ha : a < 24) : ∃ σ', f_X8_supposeAhead (nI g) (nI a) σ = some σ' ∧ Fr aS bF σ σ' ∧ ∀ t, t < 24 → gB σ' 41 t = ZV S T (setA G g a) n (fun _ => true) t := by
  have hn := hX.2.2.1
  have hg5 : g < 5 := by omega
  have hX1 := hX.ahead hg5 ha
  obtain ⟨s1, e1, f1, r1⟩ := xsupBribed hn hX1.2.1 (jshl 1 (nI g))
  have hX2 := hX1.fr f1 okXX_41
  obtain ⟨s2, e2, f2, r2⟩ := xaddFound hg5 hX2
  unfold f_X8_supposeAhead
  rw [jix_t hg5 (by omega), nI_clamp (by omega), jlet_s, jix_t hg5 (by omega), jlet_s, e1, jb_s, e2, jb_s, jix_t hg5 (by omega), jlet_s]
  refine ⟨_, rfl, fr_ahead (f1.O41.trans f2) rfl, fun t ht => ?_⟩
  rw [gB_sA, r2 t ht, r1 t ht]
  apply bit_ext
  intro c hc
  rw [bit_or]
  have h1 := Zor_bit (fun g' t => gB (sA σ 20 g (nI a)) (43 + g') t) (fun g' => !bt (jshl 1 (nI g)) g') t c n
  have h2 := Zor_bit (fun g' t => Zthr S T (setA G g a g') g' t) (fun _ => true) t c n
  have key : (bit (Zor (fun g' t => gB (sA σ 20 g (nI a)) (43 + g') t) (fun g' => !bt (jshl 1 (nI g)) g') n t) c || bit (Zthr S T (setA G g a g) g t) c) = true ↔ bit (Zor (fun g' t => Zthr S T (setA G g a g') g' t) (fun _ => true) n t) c = true := by
    rw [Bool.or_eq_true, h1, h2]
    constructor
    · rintro (⟨g', q1, q2, q3⟩ | q)
      · have hne : g' ≠ g := fun e => by
          rw [e, bt_one (by omega) (by omega), decide_eq_true rfl] at q2; cases q2
        refine ⟨g', q1, rfl, ?_⟩
        rw [setA_ne hne]
        rw [gB_sA, (hC.1 g' q1).1 t ht] at q3
        exact q3
      · exact ⟨g, hg, rfl, q⟩
    · rintro ⟨g', q1, -, q3⟩
      by_cases e : g' = g
      · subst e; exact Or.inr q3
      · rw [setA_ne e] at q3
        refine Or.inl ⟨g', q1, ?_, ?_⟩
        · rw [bt_one (by omega) (by omega), decide_eq_false e]; rfl
        · rw [gB_sA, (hC.1 g' q1).1 t ht]; exact q3
  show (_ || _) = bit (Zor (fun g' t => Zthr S T (setA G g a g') g' t) (fun _ => true) n t) c
  cases z : bit (Zor (fun g' t => Zthr S T (setA G g a g') g' t) (fun _ => true) n t) c with
  | true => exact key.mpr z
  | false =>
    cases y : (bit (Zor (fun g' t => gB (sA σ 20 g (nI a)) (43 + g') t) (fun g' => !bt (jshl 1 (nI g)) g') n t) c || bit (Zthr S T (setA G g a g) g t) c) with
    | false => rfl
    | true => rw [key.mp y] at z; cases z
