/-! ===== what one sees at a second ===== -/
def Zlit (S : Nat → Int64) (d : Nat) : Int32 := bI (bit (S 1) d)
def see1 (S : Nat → Int64) (T : TT) (mo t g far d : Nat) : Bool := decide (Zsay T (nmf (nI far) (Zlit S d) (nI mo) (nI t) (nI g) (nI d)) 1 ≠ 0)
def turnL (S : Nat → Int64) (d w : Nat) : Nat := if bit (S 2) d then (w + 3) % 4 else w
def Zsl (S : Nat → Int64) (T : TT) (mo t g : Nat) : Nat → Nat → Nat → Nat → Int64
  | 0, _, _, _ => 0
  | n + 1, far, d, w => if d = 99 then 0 else (if see1 S T mo t g far d then jlshl 1 (nI d) else 0) ||| Zsl S T mo t g n (far + 1) (nbw (S 0) d (turnL S d w)) (turnL S d w)
def Ztl (S : Nat → Int64) : Nat → Nat → Nat → Int64
  | 0, _, _ => 0
  | n + 1, d, w => if d = 99 then 0 else jlshl 1 (nI d) ||| Ztl S n (nbw (S 0) d (turnL S d w)) (turnL S d w)
def Zreach (S : Nat → Int64) (T : TT) (G : Nat → Nat) (g t : Nat) : Nat := Zsay T (nmf 0 (Zlit S (Zstand (S 0) G t)) (nI (G 3)) (nI t) (nI g) (nI (Zstand (S 0) G t))) 0
def Zw0 (S : Nat → Int64) (G : Nat → Nat) (t : Nat) : Nat := (Zturn (S 0) G t + 3) % 4
def Zd0 (S : Nat → Int64) (G : Nat → Nat) (t : Nat) : Nat := nbw (S 0) (Zstand (S 0) G t) (Zw0 S G t)
def Zsee (S : Nat → Int64) (T : TT) (G : Nat → Nat) (g t : Nat) : Int64 := if Zlook G t then Zsl S T (G 3) t g (Zreach S T G g t) 1 (Zd0 S G t) (Zw0 S G t) else 0
def Ztrail (S : Nat → Int64) (T : TT) (G : Nat → Nat) (g t : Nat) : Int64 := jlshl 1 (nI (Zstand (S 0) G t)) ||| (if Zlook G t then Ztl S (Zreach S T G g t) (Zd0 S G t) (Zw0 S G t) else 0)
theorem Zsay_lt (T : TT) (nm : Nat → Int32) (p : Nat) : Zsay T nm p ≤ 99 := by
  unfold Zsay
  repeat' split
  all_goals omega
theorem Zsay_1 (T : TT) (nm : Nat → Int32) : Zsay T nm 1 = 0 ∨ Zsay T nm 1 = 1 := by
  unfold Zsay
  rw [if_pos rfl]
  split
  · exact Or.inl rfl
  · exact Or.inr rfl
theorem Zsay_0 (T : TT) (nm : Nat → Int32) : Zsay T nm 0 ≤ 9 := by
  unfold Zsay
  rw [if_neg (by omega), if_pos rfl]
  omega
theorem turnL_lt {S : Nat → Int64} {d w : Nat} (h : w < 4) : turnL S d w < 4 := by
  unfold turnL
  split
  · exact Nat.mod_lt _ (by decide)
  · exact h
theorem Zw0_lt {S : Nat → Int64} {G : Nat → Nat} {t : Nat} : Zw0 S G t < 4 := Nat.mod_lt _ (by decide)
theorem nbw_99 {W : Int64} {c w : Nat} (hc : c < 36) (hw : w < 4) : nbw W c w = 99 ∨ nbw W c w < 36 := by
  by_cases e : nbw W c w = 99
  · exact Or.inl e
  · exact Or.inr (nbw_lt hc hw e).1
def vX (S : Nat → Int64) (r : Nat) (T : TT) (σ : ST) : Prop := (gB σ 14 0 = S 0 ∧ gB σ 14 1 = S 1 ∧ gB σ 14 2 = S 2) ∧ gA σ 4 3 = nI r ∧ r < 6 ∧ TW T ∧ txX σ r T
def vM (S : Nat → Int64) (r : Nat) (T : TT) (σ : ST) : Prop := (gB σ 1 0 = S 0 ∧ gB σ 1 1 = S 1 ∧ gB σ 1 2 = S 2) ∧ gA σ 0 13 = nI r ∧ r < 6 ∧ TW T ∧ txM σ r T
def okX (a b : Nat → Bool) : Prop := a 4 = false ∧ (∀ t, t < 6 → a (25 + t) = false ∧ a (32 + t) = false) ∧ b 14 = false
theorem vX.fr {a b : Nat → Bool} {S : Nat → Int64} {r : Nat} {T : TT} {σ σ' : ST} (h : vX S r T σ) (f : Fr a b σ σ') (o : okX a b) : vX S r T σ' := by
  obtain ⟨⟨s0, s1, s2⟩, h1, h2, h3, h4, h5⟩ := h
  obtain ⟨o1, o2, o3⟩ := o
  refine ⟨⟨?_, ?_, ?_⟩, ?_, h2, h3, fun i hi => ?_, fun p hp => ?_⟩
  · rw [f.B o3]; exact s0
  · rw [f.B o3]; exact s1
  · rw [f.B o3]; exact s2
  · rw [f.A o1]; exact h1
  · rw [f.A (o2 r h2).1]; exact h4 i hi
  · rw [f.A (o2 r h2).2]; exact h5 p hp
def okM (a b : Nat → Bool) : Prop := a 0 = false ∧ a 9 = false ∧ a 10 = false ∧ b 1 = false
theorem vM.fr {a b : Nat → Bool} {S : Nat → Int64} {r : Nat} {T : TT} {σ σ' : ST} (h : vM S r T σ) (f : Fr a b σ σ') (o : okM a b) : vM S r T σ' := by
  obtain ⟨⟨s0, s1, s2⟩, h1, h2, h3, h4, h5⟩ := h
  obtain ⟨o1, o2, o3, o4⟩ := o
  refine ⟨⟨?_, ?_, ?_⟩, ?_, h2, h3, fun i hi => ?_, fun p hp => ?_⟩
  · rw [f.B o4]; exact s0
  · rw [f.B o4]; exact s1
  · rw [f.B o4]; exact s2
  · rw [f.A o1]; exact h1
  · rw [f.A o2]; exact h4 i hi
  · rw [f.A o3]; exact h5 p hp
theorem atM.fr {a b : Nat → Bool} {σ σ' : ST} {g : Nat} {G : Nat → Nat} (h : atM σ g G) (f : Fr a b σ σ') (h1 : a 2 = false) (h2 : a 3 = false) (h3 : a 4 = false) (h4 : a 5 = false) (h5 : a 6 = false) (h6 : a 7 = false) : atM σ' g G := by
  unfold atM
  rw [f.A h1, f.A h2, f.A h3, f.A h4, f.A h5, f.A h6]
  exact h
theorem xlit {S : Nat → Int64} {σ : ST} {d : Nat} (h : gB σ 14 1 = S 1) (hd : d < 36) : f_X3_lit (nI d) σ = Zlit S d := by
  unfold f_X3_lit Zlit
  rw [show Int32.toNatClampNeg 1 = 1 from rfl, h, isIn_b _ (by omega), jlet_s]
  cases bit (S 1) d <;> rfl
theorem mlit {S : Nat → Int64} {σ : ST} {d : Nat} (h : gB σ 1 1 = S 1) (hd : d < 36) : f_X10_lit (nI d) σ = Zlit S d := by
  unfold f_X10_lit Zlit
  rw [show Int32.toNatClampNeg 1 = 1 from rfl, h, has_b _ (by omega), jlet_s]
  cases bit (S 1) d <;> rfl
theorem xleft {w : Nat} (h : w < 4) : f_X9_leftOf (nI w) = nI ((w + 3) % 4) := by
  unfold f_X9_leftOf
  rw [show (3 : Int32) = nI 3 from rfl, show (4 : Int32) = nI 4 from rfl, nI_add, jrem_n (by omega) (by omega) (by omega)]
theorem xnameC {σ : ST} {a b c d e f : Int32} (h2 : gA σ 38 2 = c) (h3 : gA σ 38 3 = d) (h4 : gA σ 38 4 = e) : ∀ j, j < 6 → gA (f_X6_nameCell a b f σ) 38 j = nmf a b c d e f j := by
  intro j hj
  unfold f_X6_nameCell
  simp only [jlet_s, show Int32.toNatClampNeg 0 = 0 from rfl, show Int32.toNatClampNeg 1 = 1 from rfl, show Int32.toNatClampNeg 5 = 5 from rfl, gA_sA]
  rcases (show j = 0 ∨ j = 1 ∨ j = 2 ∨ j = 3 ∨ j = 4 ∨ j = 5 by omega) with rfl | rfl | rfl | rfl | rfl | rfl
  · rfl
  · rfl
  · exact h2
  · exact h3
  · exact h4
  · rfl
theorem xnameC_fr {a b : Nat → Bool} {σ σ' : ST} {x y z : Int32} (h : Fr a b σ σ') (ha : a 38 = true) : Fr a b σ (f_X6_nameCell x y z σ') := by
  unfold f_X6_nameCell
  exact ((h.sA ha (by omega)).sA ha (by omega)).sA ha (by omega)
theorem xnameG_fr {a b : Nat → Bool} {σ σ' : ST} {x y z : Int32} (h : Fr a b σ σ') (ha : a 38 = true) : Fr a b σ (f_X6_nameGuard x y z σ') := by
  unfold f_X6_nameGuard
  exact ((h.sA ha (by omega)).sA ha (by omega)).sA ha (by omega)
theorem xnameG {σ : ST} {x y z : Int32} : gA (f_X6_nameGuard x y z σ) 38 2 = x ∧ gA (f_X6_nameGuard x y z σ) 38 3 = y ∧ gA (f_X6_nameGuard x y z σ) 38 4 = z := by
  unfold f_X6_nameGuard
  simp only [jlet_s, show Int32.toNatClampNeg 2 = 2 from rfl, show Int32.toNatClampNeg 3 = 3 from rfl, show Int32.toNatClampNeg 4 = 4 from rfl, gA_sA]
  exact ⟨rfl, rfl, rfl⟩
def aL : Nat → Bool := fun k => k == 38 || k == 39
def bL : Nat → Bool := fun k => k == 5
theorem okX_L : okX aL bL := ⟨rfl, fun t ht => by
  unfold aL
  refine ⟨?_, ?_⟩ <;> simp <;> omega, rfl⟩
theorem a39L : ∀ k, aL k = false → a39 k = false := fun k q => by
  unfold aL at q; unfold a39; simp at q ⊢; exact q.2
theorem xsl {S : Nat → Int64} {r mo t g R : Nat} {T : TT} (hR : R ≤ 9) : ∀ n far c w fuel acc σ, far + n = R + 1 → c < 36 → w < 4 → n < fuel → vX S r T σ → gA σ 38 2 = nI mo → gA σ 38 3 = nI t → gA σ 38 4 = nI g → ∃ σ', f_X8_sight_L108 fuel (nI c) (nI R) (nI w) acc (nI far) σ = some (acc ||| Zsl S T mo t g n far (nbw (S 0) c w) w, σ') ∧ Fr aL bL σ σ' ∧ gB σ' 5 8 = gB σ 5 8 ||| Ztl S n (nbw (S 0) c w) w := by
  intro n
  induction n with
  | zero =>
    intro far c w fuel acc σ hf hc hw hfu hv n2 n3 n4
    obtain ⟨fuel, rfl⟩ : ∃ k, fuel = k + 1 := ⟨fuel - 1, by omega⟩
    rw [ef_X8_sight_L108, if_pos (by rw [nI_ltI (by omega) (by omega)]; omega)]
    refine ⟨σ, ?_, Fr.rf, ?_⟩
    · unfold Zsl; rw [Int64.or_zero]
    · unfold Ztl; rw [Int64.or_zero]
  | succ n ih =>
    intro far c w fuel acc σ hf hc hw hfu hv n2 n3 n4
    obtain ⟨fuel, rfl⟩ : ∃ k, fuel = k + 1 := ⟨fuel - 1, by omega⟩
    have hv' := hv
    obtain ⟨⟨s0, s1, s2⟩, h1, h2, h3, h4⟩ := hv'
    rw [ef_X8_sight_L108, if_neg (by rw [nI_ltI (by omega) (by omega)]; omega), beside_n c hc w hw, jlet_s]
    unfold Zsl Ztl
    by_cases e : nb c w = 99
    · have e2 : nbw (S 0) c w = 99 := by unfold nbw; rw [if_pos e]
      rw [e, if_pos cI_99, if_pos e2, if_pos e2]
      exact ⟨σ, by rw [Int64.or_zero], Fr.rf, by rw [Int64.or_zero]⟩
    · have hd := (nb_lt c hc w hw).resolve_left e
      rw [cI_ne hd, if_neg (nI_ne_m1 _ (by omega)), show Int32.toNatClampNeg 0 = 0 from rfl, s0, isIn_b _ (by omega), jlet_s]
      cases e3 : bit (S 0) (nb c w) with
      | true =>
        have e2 : nbw (S 0) c w = 99 := by unfold nbw; rw [if_neg e, if_pos e3]
        rw [if_neg (by decide), if_pos e2, if_pos e2]
        exact ⟨σ, by rw [Int64.or_zero], Fr.rf, by rw [Int64.or_zero]⟩
      | false =>
        have e2 : nbw (S 0) c w = nb c w := by unfold nbw; rw [if_neg e, if_neg (by rw [e3]; decide)]
        rw [e2]
        generalize nb c w = d at hd e ⊢
        rw [if_pos (by decide), if_neg e, if_neg e, jlet_s]
        have f1 : Fr aL bL σ (sB σ 5 8 (gB σ 5 8 ||| jlshl 1 (nI d))) := Fr.rf.sB rfl
        have q1 : ∀ k, gA (sB σ 5 8 (gB σ 5 8 ||| jlshl 1 (nI d))) k = gA σ k := fun k => gA_sB
        have t1 : gB (sB σ 5 8 (gB σ 5 8 ||| jlshl 1 (nI d))) 5 8 = gB σ 5 8 ||| jlshl 1 (nI d) := by rw [gB_sB, if_pos ⟨rfl, rfl⟩]
        generalize sB σ 5 8 (gB σ 5 8 ||| jlshl 1 (nI d)) = σ1 at f1 t1 q1 ⊢
        rw [xlit (S := S) (by rw [f1.B rfl]; exact s1) hd]
        rw [jlet_s, jlet_s]
        have f2 : Fr aL bL σ (f_X6_nameCell (nI far) (Zlit S d) (nI d) σ1) := xnameC_fr f1 rfl
        have hnm := xnameC (a := nI far) (b := Zlit S d) (f := nI d) (show gA σ1 38 2 = nI mo by rw [q1]; exact n2) (show gA σ1 38 3 = nI t by rw [q1]; exact n3) (show gA σ1 38 4 = nI g by rw [q1]; exact n4)
        have m2 : gB (f_X6_nameCell (nI far) (Zlit S d) (nI d) σ1) = gB σ1 := rfl
        generalize f_X6_nameCell (nI far) (Zlit S d) (nI d) σ1 = σ2 at f2 hnm m2 ⊢
        have hv2 := hv.fr f2 okX_L
        obtain ⟨σ3, e4, f3⟩ := xsays (p := 1) h3 h2 (by omega) hv2.2.1 hv2.2.2.2.2 hnm
        have f4 : Fr aL bL σ σ3 := f2.trans (f3.mono a39L (fun k _ => rfl))
        have hv3 := hv.fr f4 okX_L
        rw [show f_X6_says 1 σ2 = _ from e4, jbp_s]
        have t3 : gB σ3 5 8 = gB σ 5 8 ||| jlshl 1 (nI d) := by rw [f3.B rfl, m2]; exact t1
        have j2 : ∀ j, 2 ≤ j → j < 5 → gA σ3 38 j = nmf (nI far) (Zlit S d) (nI mo) (nI t) (nI g) (nI d) j := fun j _ hj => by rw [f3.A rfl]; exact hnm j (by omega)
        -- how it goes on
        have go : ∀ acc2, ∃ σ', f_X8_sight_L195 (f_X8_sight_L108 fuel) (nI d) (nI R) (nI w) acc2 (nI far) σ3 = some (acc2 ||| Zsl S T mo t g n (far + 1) (nbw (S 0) d (turnL S d w)) (turnL S d w), σ') ∧ Fr aL bL σ σ' ∧ gB σ' 5 8 = gB σ 5 8 ||| (jlshl 1 (nI d) ||| Ztl S n (nbw (S 0) d (turnL S d w)) (turnL S d w)) := by
          intro acc2
          obtain ⟨σ4, r1, r2, r3⟩ := ih (far + 1) d (turnL S d w) fuel acc2 σ3 (by omega) hd (turnL_lt hw) (by omega) hv3 (j2 2 (by omega) (by omega)) (j2 3 (by omega) (by omega)) (j2 4 (by omega) (by omega))
          refine ⟨σ4, ?_, f4.trans r2, by rw [r3, t3, Int64.or_assoc]⟩
          unfold f_X8_sight_L195 f_X8_sight_L218
          rw [show Int32.toNatClampNeg 2 = 2 from rfl, hv3.1.2.2, isIn_b _ (by omega), jlet_s, xleft hw, nI_1, jlet_s, jlet_s, jlet_s]
          rw [← r1]
          unfold turnL
          cases bit (S 2) d <;> rfl
        by_cases hz : Zsay T (nmf (nI far) (Zlit S d) (nI mo) (nI t) (nI g) (nI d)) 1 = 0
        · have hs : see1 S T mo t g far d = false := by unfold see1; rw [hz]; rfl
          rw [hz, if_pos (show nI 0 = 0 from rfl), hs, if_neg (by decide), Int64.zero_or]
          exact go acc
        · have hs : see1 S T mo t g far d = true := decide_eq_true hz
          rw [if_neg (nI_ne0 (by omega) (by have := Zsay_lt T (nmf (nI far) (Zlit S d) (nI mo) (nI t) (nI g) (nI d)) 1; omega)), hs, if_pos rfl, jlet_s, ← Int64.or_assoc]
          exact go _
def aS : Nat → Bool := fun k => k == 2 || k == 38 || k == 39
theorem xsight {S : Nat → Int64} {r t g : Nat} {T : TT} {G : Nat → Nat} {σ : ST} (hg : g < 5) (ht : t < 24) (hG : GW G) (hA : atX σ g G) (hv : vX S r T σ) : ∃ σ', f_X8_sight (nI g) (nI t) σ = some (Zsee S T G g t, σ') ∧ Fr aS bL σ σ' ∧ gB σ' 5 8 = Ztrail S T G g t ∧ gA σ' 2 7 = nI (Zstand (S 0) G t) := by
  obtain ⟨σ1, e1, f1, h7, h8, h9⟩ := xwalk (W := S 0) hg hA hG ht
  have hc := Zstand_lt (W := S 0) (t := t) hG
  have htu := Zturn_lt (W := S 0) (t := t) hG
  unfold f_X8_sight
  rw [show Int32.toNatClampNeg 0 = 0 from rfl, hv.1.1, e1, jb_s, h7, jlet_s, jlet_s]
  generalize hst : Zstand (S 0) G t = c at hc h7 ⊢
  have f2 : Fr aS bL σ (sB σ1 5 8 (jlshl 1 (nI c))) := (f1.mono (fun k q => by unfold aS at q; unfold aW; simp at q ⊢; exact q.1.1) (fun k _ => rfl)).sB rfl
  have t2 : gB (sB σ1 5 8 (jlshl 1 (nI c))) 5 8 = jlshl 1 (nI c) := by rw [gB_sB, if_pos ⟨rfl, rfl⟩]
  have q2 : ∀ k, gA (sB σ1 5 8 (jlshl 1 (nI c))) k = gA σ1 k := fun k => gA_sB
  generalize sB σ1 5 8 (jlshl 1 (nI c)) = σ2 at f2 t2 q2 ⊢
  rw [← q2] at h7 h8 h9
  have oS : okX aS bL := ⟨rfl, fun t ht => by
    unfold aS
    refine ⟨?_, ?_⟩ <;> simp <;> omega, rfl⟩
  have hv2 := hv.fr f2 oS
  rw [h9]
  unfold Zsee Ztrail
  rw [hst]
  cases hl : Zlook G t with
  | false =>
    rw [if_neg (by decide), if_neg (by decide), if_neg (by decide), Int64.or_zero]
    exact ⟨σ2, rfl, f2, t2, h7⟩
  | true =>
    rw [if_pos (by decide), if_pos rfl, if_pos rfl, jix_t hg (by omega), nI_clamp (by omega), f2.A rfl, hA.2.2.2.1, jlet_s]
    have f3 : Fr aL bL σ2 (f_X6_nameGuard (nI (G 3)) (nI t) (nI g) σ2) := xnameG_fr Fr.rf rfl
    have n3 := xnameG (σ := σ2) (x := nI (G 3)) (y := nI t) (z := nI g)
    have m3 : gB (f_X6_nameGuard (nI (G 3)) (nI t) (nI g) σ2) = gB σ2 := rfl
    generalize f_X6_nameGuard (nI (G 3)) (nI t) (nI g) σ2 = σ3 at f3 n3 m3 ⊢
    rw [xlit (S := S) (by rw [m3]; exact hv2.1.2.1) hc, jlet_s, jlet_s]
    have f4 : Fr aL bL σ2 (f_X6_nameCell 0 (Zlit S c) (nI c) σ3) := xnameC_fr f3 rfl
    have n4 := xnameC (a := 0) (b := Zlit S c) (f := nI c) n3.1 n3.2.1 n3.2.2
    have m4 : gB (f_X6_nameCell 0 (Zlit S c) (nI c) σ3) = gB σ3 := rfl
    generalize f_X6_nameCell 0 (Zlit S c) (nI c) σ3 = σ4 at f4 n4 m4 ⊢
    have hv4 := hv2.fr f4 okX_L
    obtain ⟨σ5, e5, f5⟩ := xsays (p := 0) hv4.2.2.2.1 hv4.2.2.1 (by omega) hv4.2.1 hv4.2.2.2.2 n4
    have f6 : Fr aL bL σ2 σ5 := f4.trans (f5.mono a39L (fun k _ => rfl))
    have hv5 := hv2.fr f6 okX_L
    rw [show f_X6_says 0 σ4 = _ from e5, jbp_s, f6.A rfl, h8, xleft htu, jlet_s]
    have er : Zsay T (nmf 0 (Zlit S c) (nI (G 3)) (nI t) (nI g) (nI c)) 0 = Zreach S T G g t := by unfold Zreach; rw [hst]
    rw [er]
    have hr9 : Zreach S T G g t ≤ 9 := Zsay_0 _ _
    have k5 : ∀ j, 2 ≤ j → j < 5 → gA σ5 38 j = nmf 0 (Zlit S c) (nI (G 3)) (nI t) (nI g) (nI c) j := fun j _ hj => by rw [f5.A rfl]; exact n4 j (by omega)
    obtain ⟨σ6, e6, f7, t6⟩ := xsl (mo := G 3) (t := t) (g := g) hr9 (Zreach S T G g t) 1 c (Zw0 S G t) FU 0 σ5 (by omega) hc Zw0_lt (by unfold FU; omega) hv5 (k5 2 (by omega) (by omega)) (k5 3 (by omega) (by omega)) (k5 4 (by omega) (by omega))
    have f8 : Fr aL bL σ2 σ6 := f6.trans f7
    rw [Int64.zero_or] at e6
    refine ⟨σ6, ?_, f2.trans (f8.mono (fun k q => by unfold aS at q; unfold aL; simp at q ⊢; exact ⟨q.1.2, q.2⟩) (fun k q => q)), ?_, by rw [f8.A rfl]; exact h7⟩
    · show f_X8_sight_L108 FU (nI c) (nI (Zreach S T G g t)) (nI (Zw0 S G t)) 0 1 σ5 = _
      unfold Zd0
      rw [hst]
      exact e6
    · rw [t6, f5.B rfl, m4, m3, t2]
      unfold Zd0
      rw [hst]
/-! ===== the reference's ===== -/
theorem msl {S : Nat → Int64} {r t g R : Nat} {T : TT} {G : Nat → Nat} (hR : R ≤ 9) (hg : g < 5) (hG : GW G) : ∀ n far d w fuel acc σ, far + n = R + 1 → (d = 99 ∨ d < 36) → w < 4 → n < fuel → vM S r T σ → atM σ g G → ∃ σ', f_X10_seenBy_L66 fuel (nI g) (nI t) (cI d) (nI R) (nI w) acc (nI far) σ = some (acc ||| Zsl S T (G 3) t g n far d w, σ') ∧ Fr aN bW σ σ' := by
  intro n
  induction n with
  | zero =>
    intro far d w fuel acc σ hf hd hw hfu hv hA
    obtain ⟨fuel, rfl⟩ : ∃ k, fuel = k + 1 := ⟨fuel - 1, by omega⟩
    rw [ef_X10_seenBy_L66, if_pos (by rw [nI_ltI (by omega) (by omega)]; omega)]
    refine ⟨σ, ?_, Fr.rf⟩
    unfold Zsl; rw [Int64.or_zero]
  | succ n ih =>
    intro far d w fuel acc σ hf hd hw hfu hv hA
    obtain ⟨fuel, rfl⟩ : ∃ k, fuel = k + 1 := ⟨fuel - 1, by omega⟩
    rw [ef_X10_seenBy_L66, if_neg (by rw [nI_ltI (by omega) (by omega)]; omega)]
    unfold Zsl
    by_cases e : d = 99
    · rw [e, if_pos cI_99, if_pos rfl, Int64.or_zero]
      exact ⟨σ, rfl, Fr.rf⟩
    · have hd' := hd.resolve_left e
      rw [cI_ne hd', if_neg (nI_ne_m1 _ (by omega)), if_neg e, mlit hv.1.2.1 hd', jlet_s, jix_t hg (by omega), nI_clamp (by omega), hA.2.2.2.1]
      obtain ⟨σ3, e4, f3⟩ := masks (p := 1) hv.2.2.2.1 hv.2.2.1 (by omega) hv.2.1 hv.2.2.2.2 (nI far) (Zlit S d) (nI (G 3)) (nI t) (nI g) (nI d)
      have oN : okM aN bW := ⟨rfl, rfl, rfl, rfl⟩
      have hv3 := hv.fr f3 oN
      have hA3 := hA.fr f3 rfl rfl rfl rfl rfl rfl
      rw [show f_X10_asksOf 1 (nI far) (Zlit S d) (nI (G 3)) (nI t) (nI g) (nI d) σ = _ from e4, jbp_s]
      have go : ∀ x, ∃ σ', f_X10_seenBy_L112 (f_X10_seenBy_L66 fuel) (nI g) (nI t) (nI d) (nI R) (nI w) (nI far) acc x σ3 = some (acc ||| (x ||| Zsl S T (G 3) t g n (far + 1) (nbw (S 0) d (turnL S d w)) (turnL S d w)), σ') ∧ Fr aN bW σ σ' := by
        intro x
        obtain ⟨σ4, r1, r2⟩ := ih (far + 1) (nbw (S 0) d (turnL S d w)) (turnL S d w) fuel (acc ||| x) σ3 (by omega) (nbw_99 hd' (turnL_lt hw)) (turnL_lt hw) (by omega) hv3 hA3
        refine ⟨σ4, ?_, f3.trans r2⟩
        rw [Int64.or_assoc] at r1
        rw [← r1]
        unfold f_X10_seenBy_L112 f_X10_seenBy_L139
        rw [show Int32.toNatClampNeg 2 = 2 from rfl, hv3.1.2.2, has_b _ (by omega), jlet_s, jlet_s, show (3 : Int32) = nI 3 from rfl, show (4 : Int32) = nI 4 from rfl, nI_add, jrem_n (by omega) (by omega) (by omega), nI_1]
        unfold turnL
        cases hb : bit (S 2) d with
        | true => rw [if_neg (by decide), mbeside hd' (Nat.mod_lt _ (by decide)), hv3.1.1]; rfl
        | false => rw [if_pos (by decide), mbeside hd' hw, hv3.1.1]; rfl
      rcases Zsay_1 T (nmf (nI far) (Zlit S d) (nI (G 3)) (nI t) (nI g) (nI d)) with hz | hz
      · have hs : see1 S T (G 3) t g far d = false := by unfold see1; rw [hz]; rfl
        rw [hz, if_pos (by decide), hs, if_neg (by decide)]
        exact go 0
      · have hs : see1 S T (G 3) t g far d = true := by unfold see1; rw [hz]; rfl
        rw [hz, if_neg (by decide), hs, if_pos rfl]
        exact go _
theorem msee {S : Nat → Int64} {r t g : Nat} {T : TT} {G : Nat → Nat} {σ : ST} (hg : g < 5) (ht : t < 24) (hG : GW G) (hA : atM σ g G) (hv : vM S r T σ) : ∃ σ', f_X10_seenBy (nI g) (nI t) σ = some (Zsee S T G g t, σ') ∧ Fr aN bW σ σ' := by
  have hc := Zstand_lt (W := S 0) (t := t) hG
  have htu := Zturn_lt (W := S 0) (t := t) hG
  unfold f_X10_seenBy
  rw [mlooks hg hA hG ht, jb_s]
  unfold Zsee
  cases hl : Zlook G t with
  | false =>
    rw [if_neg (by decide), if_neg (by decide)]
    exact ⟨σ, rfl, Fr.rf⟩
  | true =>
    rw [if_pos (by decide), if_pos rfl, mstands hv.1.1 hg hA hG ht, jb_s, mlit hv.1.2.1 hc, jlet_s, jix_t hg (by omega), nI_clamp (by omega), hA.2.2.2.1]
    obtain ⟨σ3, e4, f3⟩ := masks (p := 0) hv.2.2.2.1 hv.2.2.1 (by omega) hv.2.1 hv.2.2.2.2 0 (Zlit S (Zstand (S 0) G t)) (nI (G 3)) (nI t) (nI g) (nI (Zstand (S 0) G t))
    have oN : okM aN bW := ⟨rfl, rfl, rfl, rfl⟩
    have hv3 := hv.fr f3 oN
    have hA3 := hA.fr f3 rfl rfl rfl rfl rfl rfl
    rw [show f_X10_asksOf 0 0 (Zlit S (Zstand (S 0) G t)) (nI (G 3)) (nI t) (nI g) (nI (Zstand (S 0) G t)) σ = _ from e4, jbp_s, mturned hv3.1.1 hg hA3 hG ht, jb_s, show (3 : Int32) = nI 3 from rfl, show (4 : Int32) = nI 4 from rfl, nI_add, jrem_n (by omega) (by omega) (by omega), jlet_s, mbeside hc (Nat.mod_lt _ (by decide)), hv3.1.1, jlet_s]
    have hr9 : Zreach S T G g t ≤ 9 := Zsay_0 _ _
    obtain ⟨σ6, e6, f7⟩ := msl (t := t) hr9 hg hG (Zreach S T G g t) 1 (Zd0 S G t) (Zw0 S G t) FU 0 σ3 (by omega) (nbw_99 hc Zw0_lt) Zw0_lt (by unfold FU; omega) hv3 hA3
    rw [Int64.zero_or] at e6
    exact ⟨σ6, e6, f3.trans f7⟩
