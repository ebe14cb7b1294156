/-! ===== the pure side: tools ===== -/
theorem jix_t {α : Type} {i n : Nat} {k : Option α} (h : i < n) (hn : n < 2 ^ 31) : jix (nI i) n k = k := if_neg (nI_in h hn)
theorem jnz_t {α : Type} {y : Int32} {k : Option α} (h : ¬ y = 0) : jnz y k = k := if_neg h
theorem jb_s {α β : Type} {a : α} {f : α → Option β} : jb (some a) f = f a := rfl
theorem jbp_s {α β γ : Type} {a : α} {b : β} {f : α → β → Option γ} : jbp (some (a, b)) f = f a b := rfl
theorem jlet_s {α β : Type} {a : α} {f : α → β} : jlet a f = f a := rfl
theorem gA_sA {σ : ST} {k j k' j' : Nat} {v : Int32} : gA (sA σ k j v) k' j' = if k' = k ∧ j' = j then v else gA σ k' j' := by
  unfold sA
  by_cases h : k' = k
  · subst h
    rw [gA_rA]
    unfold upd
    by_cases h2 : j' = j
    · simp [h2]
    · simp [h2]
  · rw [gA_rA_ne h]
    simp [h]
theorem gB_sB {σ : ST} {k j k' j' : Nat} {v : Int64} : gB (sB σ k j v) k' j' = if k' = k ∧ j' = j then v else gB σ k' j' := by
  unfold sB
  by_cases h : k' = k
  · subst h
    rw [gB_rB]
    unfold vp_updL
    by_cases h2 : j' = j
    · simp [h2]
    · simp [h2]
  · rw [gB_rB_ne h]
    simp [h]
theorem gB_sA {σ : ST} {k j k' : Nat} {v : Int32} : gB (sA σ k j v) k' = gB σ k' := rfl
theorem gA_sB {σ : ST} {k j k' : Nat} {v : Int64} : gA (sB σ k j v) k' = gA σ k' := rfl
theorem gA_sA_ne {σ : ST} {k j k' : Nat} {v : Int32} (h : k' ≠ k) : gA (sA σ k j v) k' = gA σ k' := gA_rA_ne h
theorem gB_sB_ne {σ : ST} {k j k' : Nat} {v : Int64} (h : k' ≠ k) : gB (sB σ k j v) k' = gB σ k' := gB_rB_ne h
/-- a loop that counts up to N, or leaves before -/
theorem jloop {α β : Type} (L : Nat → Nat → α → β) (N : Nat) (P : Nat → α → Prop) (Q : β → Prop)
    (hs : ∀ n i a, i < N → P i a → Q (L (n + 1) i a) ∨ ∃ a', P (i + 1) a' ∧ L (n + 1) i a = L n (i + 1) a')
    (he : ∀ n a, P N a → Q (L (n + 1) N a)) : ∀ (n i : Nat) (a : α), i ≤ N → N - i < n → P i a → Q (L n i a)
  | 0, _, _ => fun _ h _ => absurd h (Nat.not_lt_zero _)
  | n + 1, i, a => fun hi hn hp => by
    rcases Nat.lt_or_ge i N with h | h
    · rcases hs n i a h hp with q | ⟨a', h1, h2⟩
      · exact q
      · rw [h2]
        exact jloop L N P Q hs he n (i + 1) a' h (by omega) h1
    · have e : i = N := by omega
      subst e
      exact he n a hp
theorem jrem_n {a d : Nat} (ha : a < 2 ^ 31) (h0 : 0 < d) (hd : d < 2 ^ 31) : jrem (nI a) (nI d) = nI (a % d) := pk_rem ha h0 hd
theorem jdiv_n {a d : Nat} (ha : a < 2 ^ 31) (h0 : 0 < d) (hd : d < 2 ^ 31) : nI a / nI d = nI (a / d) := pk_div ha h0 hd
/-! ===== bits of longs ===== -/
def bit (w : Int64) (c : Nat) : Bool := w.toBitVec.getLsbD c
theorem bit_ext {x y : Int64} (h : ∀ i, i < 64 → bit x i = bit y i) : x = y := Int64.toBitVec_inj.mp (BitVec.eq_of_getLsbD_eq (fun i hi => h i hi))
theorem bit_or (x y : Int64) (i : Nat) : bit (x ||| y) i = (bit x i || bit y i) := by unfold bit; rw [Int64.toBitVec_or, BitVec.getLsbD_or]
theorem bit_and (x y : Int64) (i : Nat) : bit (x &&& y) i = (bit x i && bit y i) := by unfold bit; rw [Int64.toBitVec_and, BitVec.getLsbD_and]
theorem bit_xor (x y : Int64) (i : Nat) : bit (x ^^^ y) i = (bit x i ^^ bit y i) := by unfold bit; rw [Int64.toBitVec_xor, BitVec.getLsbD_xor]
theorem bit_big {x : Int64} {i : Nat} (h : 64 ≤ i) : bit x i = false := BitVec.getLsbD_of_ge _ _ h
theorem bit_0 (i : Nat) : bit 0 i = false := BitVec.getLsbD_zero
theorem bit_m1 : ∀ i, i < 64 → bit (-1) i = true := by decide +kernel
theorem bit_not (x : Int64) {i : Nat} (h : i < 64) : bit (x ^^^ (-1)) i = !bit x i := by rw [bit_xor, bit_m1 i h, Bool.xor_true]
theorem bit_36 (i : Nat) : bit 68719476735 i = decide (i < 36) := by
  rcases Nat.lt_or_ge i 64 with h | h
  · exact (by decide +kernel : ∀ i, i < 64 → bit 68719476735 i = decide (i < 36)) i h
  · rw [bit_big h]
    simp; omega
theorem sl_l : ∀ n, n < 64 → (((nI n).toInt64 &&& 63).toBitVec.smod 64).toNat = n := by decide +kernel
theorem sl_u : ∀ n, n < 64 → (((nI n).toInt64.toUInt64 &&& Int64.toUInt64 63).toBitVec % 64).toNat = n := by decide +kernel
theorem bit_shl (n : Nat) (hn : n < 64) (x : Int64) {i : Nat} (hi : i < 64) : bit (jlshl x (nI n)) i = (decide (n ≤ i) && bit x (i - n)) := by
  unfold bit jlshl
  rw [Int64.toBitVec_shiftLeft]
  show (x.toBitVec <<< (((nI n).toInt64 &&& 63).toBitVec.smod 64).toNat).getLsbD i = _
  rw [sl_l n hn, BitVec.getLsbD_shiftLeft]
  rcases Nat.lt_or_ge i n with h | h
  · simp [h, Nat.not_le.mpr h]
  · simp [hi, h, Nat.not_lt.mpr h]
theorem bit_ushr (n : Nat) (hn : n < 64) (x : Int64) (i : Nat) : bit (jlushr x (nI n)) i = bit x (n + i) := by
  show (x.toUInt64 >>> ((nI n).toInt64.toUInt64 &&& Int64.toUInt64 63)).toBitVec.getLsbD i = x.toUInt64.toBitVec.getLsbD (n + i)
  rw [UInt64.toBitVec_shiftRight]
  show (x.toUInt64.toBitVec >>> (((nI n).toInt64.toUInt64 &&& Int64.toUInt64 63).toBitVec % 64).toNat).getLsbD i = _
  rw [sl_u n hn, BitVec.getLsbD_ushiftRight]
theorem bit_shr (n : Nat) (hn : n < 64) (x : Int64) {i : Nat} (hi : i < 64) : bit (jlshr x (nI n)) i = if n + i < 64 then bit x (n + i) else bit x 63 := by
  unfold bit jlshr
  rw [Int64.toBitVec_shiftRight]
  show (x.toBitVec.sshiftRight (((nI n).toInt64 &&& 63).toBitVec.smod 64).toNat).getLsbD i = _
  rw [sl_l n hn, BitVec.getLsbD_sshiftRight, BitVec.msb_eq_getLsbD_last]
  simp [hi]
theorem bit_1 (i : Nat) : bit 1 i = decide (i = 0) := by
  rcases Nat.lt_or_ge i 64 with h | h
  · exact (by decide +kernel : ∀ i, i < 64 → bit 1 i = decide (i = 0)) i h
  · rw [bit_big h]
    simp; omega
theorem bit_one {c : Nat} (hc : c < 64) {i : Nat} (hi : i < 64) : bit (jlshl 1 (nI c)) i = decide (i = c) := by
  rw [bit_shl c hc 1 hi, bit_1]
  by_cases h : c ≤ i
  · have e : (i - c = 0) ↔ i = c := by omega
    simp [h, e]
  · have e : ¬ i = c := by omega
    simp [h, e]
theorem bit_eq0 {x : Int64} : x = 0 ↔ ∀ i, i < 64 → bit x i = false := ⟨fun h i _ => by rw [h, bit_0], fun h => bit_ext (fun i hi => by rw [h i hi, bit_0])⟩
theorem bit_low (x : Int64) : (x &&& 1 = 0 ↔ bit x 0 = false) ∧ (x &&& 1 = 1 ↔ bit x 0 = true) := by
  refine ⟨⟨fun h => ?_, fun h => ?_⟩, ⟨fun h => ?_, fun h => ?_⟩⟩
  · have t := congrArg (fun z => bit z 0) h
    simp only [bit_and, bit_1, bit_0] at t
    simpa using t
  · refine bit_ext (fun i hi => ?_)
    rw [bit_and, bit_1, bit_0]
    by_cases e : i = 0
    · subst e; rw [h]; rfl
    · simp [e]
  · have t := congrArg (fun z => bit z 0) h
    simp only [bit_and, bit_1] at t
    simpa using t
  · refine bit_ext (fun i hi => ?_)
    rw [bit_and, bit_1]
    by_cases e : i = 0
    · subst e; rw [h]; rfl
    · simp [e]
def bI (b : Bool) : Int32 := if b then 1 else 0
theorem bI_0 {b : Bool} : (bI b = 0) ↔ b = false := by cases b <;> decide
theorem bI_t : bI true = 1 := rfl
theorem bI_f : bI false = 0 := rfl
theorem isIn_b (w : Int64) {c : Nat} (hc : c < 64) : f_X9_isIn w (nI c) = bI (bit w c) := by
  unfold f_X9_isIn
  have h := (bit_low (jlushr w (nI c))).1
  rw [bit_ushr c hc w 0, Nat.add_zero] at h
  cases e : bit w c with
  | false => rw [if_pos (h.mpr e)]; rfl
  | true => rw [if_neg (fun q => by rw [h.mp q] at e; cases e)]; rfl
theorem has_b (w : Int64) {c : Nat} (hc : c < 64) : f_X10_has w (nI c) = bI (bit w c) := by
  unfold f_X10_has
  have h := (bit_low (jlshr w (nI c))).2
  rw [bit_shr c hc w (by omega), Nat.add_zero, if_pos hc] at h
  cases e : bit w c with
  | true => rw [if_neg (fun q => q (h.mpr e))]; rfl
  | false => rw [if_pos (fun q => by rw [h.mp q] at e; cases e)]; rfl
/-! ===== bits of ints ===== -/
def bt (x : Int32) (i : Nat) : Bool := x.toBitVec.getLsbD i
theorem bt_ext {x y : Int32} (h : ∀ i, i < 32 → bt x i = bt y i) : x = y := Int32.toBitVec_inj.mp (BitVec.eq_of_getLsbD_eq (fun i hi => h i hi))
theorem bt_or (x y : Int32) (i : Nat) : bt (x ||| y) i = (bt x i || bt y i) := by unfold bt; rw [Int32.toBitVec_or, BitVec.getLsbD_or]
theorem bt_and (x y : Int32) (i : Nat) : bt (x &&& y) i = (bt x i && bt y i) := by unfold bt; rw [Int32.toBitVec_and, BitVec.getLsbD_and]
theorem bt_xor (x y : Int32) (i : Nat) : bt (x ^^^ y) i = (bt x i ^^ bt y i) := by unfold bt; rw [Int32.toBitVec_xor, BitVec.getLsbD_xor]
theorem bt_big {x : Int32} {i : Nat} (h : 32 ≤ i) : bt x i = false := BitVec.getLsbD_of_ge _ _ h
theorem bt_0 (i : Nat) : bt 0 i = false := BitVec.getLsbD_zero
theorem bt_m1 : ∀ i, i < 32 → bt (-1) i = true := by decide +kernel
theorem bt_not (x : Int32) {i : Nat} (h : i < 32) : bt (x ^^^ (-1)) i = !bt x i := by rw [bt_xor, bt_m1 i h, Bool.xor_true]
theorem si_l : ∀ n, n < 32 → ((nI n &&& 31).toBitVec.smod 32).toNat = n := by decide +kernel
theorem bt_shl (n : Nat) (hn : n < 32) (x : Int32) {i : Nat} (hi : i < 32) : bt (jshl x (nI n)) i = (decide (n ≤ i) && bt x (i - n)) := by
  unfold bt jshl
  rw [Int32.toBitVec_shiftLeft]
  show (x.toBitVec <<< ((nI n &&& 31).toBitVec.smod 32).toNat).getLsbD i = _
  rw [si_l n hn, BitVec.getLsbD_shiftLeft]
  rcases Nat.lt_or_ge i n with h | h
  · simp [h, Nat.not_le.mpr h]
  · simp [hi, h, Nat.not_lt.mpr h]
theorem bt_shr (n : Nat) (hn : n < 32) (x : Int32) {i : Nat} (hi : i < 32) : bt (jshr x (nI n)) i = if n + i < 32 then bt x (n + i) else bt x 31 := by
  unfold bt jshr
  rw [Int32.toBitVec_shiftRight]
  show (x.toBitVec.sshiftRight ((nI n &&& 31).toBitVec.smod 32).toNat).getLsbD i = _
  rw [si_l n hn, BitVec.getLsbD_sshiftRight, BitVec.msb_eq_getLsbD_last]
  simp [hi]
theorem bt_1 (i : Nat) : bt 1 i = decide (i = 0) := by
  rcases Nat.lt_or_ge i 32 with h | h
  · exact (by decide +kernel : ∀ i, i < 32 → bt 1 i = decide (i = 0)) i h
  · rw [bt_big h]
    simp; omega
theorem bt_one {c : Nat} (hc : c < 32) {i : Nat} (hi : i < 32) : bt (jshl 1 (nI c)) i = decide (i = c) := by
  rw [bt_shl c hc 1 hi, bt_1]
  by_cases h : c ≤ i
  · have e : (i - c = 0) ↔ i = c := by omega
    simp [h, e]
  · have e : ¬ i = c := by omega
    simp [h, e]
theorem bt_low (x : Int32) : (x &&& 1 = 0 ↔ bt x 0 = false) ∧ (x &&& 1 = 1 ↔ bt x 0 = true) := by
  refine ⟨⟨fun h => ?_, fun h => ?_⟩, ⟨fun h => ?_, fun h => ?_⟩⟩
  · have t := congrArg (fun z => bt z 0) h
    simp only [bt_and, bt_1, bt_0] at t
    simpa using t
  · refine bt_ext (fun i hi => ?_)
    rw [bt_and, bt_1, bt_0]
    by_cases e : i = 0
    · subst e; rw [h]; rfl
    · simp [e]
  · have t := congrArg (fun z => bt z 0) h
    simp only [bt_and, bt_1] at t
    simpa using t
  · refine bt_ext (fun i hi => ?_)
    rw [bt_and, bt_1]
    by_cases e : i = 0
    · subst e; rw [h]; rfl
    · simp [e]
/-- one bit of an int, by the shift to the right -/
theorem bt_sh1 (x : Int32) {t : Nat} (ht : t < 32) : (jshr x (nI t) &&& 1) = bI (bt x t) := by
  have h := bt_low (jshr x (nI t))
  rw [bt_shr t ht x (by omega), Nat.add_zero, if_pos ht] at h
  cases e : bt x t with
  | true => exact h.2.mpr e
  | false => exact h.1.mpr e
/-! ===== cells ===== -/
def nb (c w : Nat) : Nat := if w = 0 then (if c / 6 < 5 then c + 6 else 99) else if w = 1 then (if c % 6 < 5 then c + 1 else 99) else if w = 2 then (if 0 < c / 6 then c - 6 else 99) else (if 0 < c % 6 then c - 1 else 99)
def cI (d : Nat) : Int32 := if d = 99 then -1 else nI d
theorem nb_lt : ∀ c, c < 36 → ∀ w, w < 4 → nb c w = 99 ∨ nb c w < 36 := by decide +kernel
theorem beside_n : ∀ c, c < 36 → ∀ w, w < 4 → f_X9_beside (nI c) (nI w) = cI (nb c w) := by decide +kernel
def nbw (W : Int64) (c w : Nat) : Nat := if nb c w = 99 then 99 else if bit W (nb c w) then 99 else nb c w
theorem nbw_lt {W : Int64} {c w : Nat} (hc : c < 36) (hw : w < 4) (h : nbw W c w ≠ 99) : nbw W c w < 36 ∧ nbw W c w = nb c w ∧ bit W (nb c w) = false := by
  unfold nbw at h ⊢
  by_cases e : nb c w = 99
  · rw [if_pos e] at h; exact absurd rfl h
  · rw [if_neg e] at h ⊢
    cases e2 : bit W (nb c w) with
    | true => rw [e2] at h; exact absurd rfl h
    | false => exact ⟨(nb_lt c hc w hw).resolve_left e, rfl, rfl⟩
theorem cI_ne {d : Nat} (h : d < 36) : cI d = nI d := if_neg (by omega)
theorem cI_99 : cI 99 = -1 := rfl
theorem nI_ne_m1 : ∀ d, d < 200 → ¬ nI d = -1 := by decide +kernel
theorem cI_m1 {d : Nat} (h : d = 99 ∨ d < 36) : cI d = -1 ↔ d = 99 := by
  rcases h with h | h
  · subst h; exact ⟨fun _ => rfl, fun _ => rfl⟩
  · rw [cI_ne h]
    exact ⟨fun q => absurd q (nI_ne_m1 d (by omega)), fun q => by omega⟩
theorem litI (n : Nat) : (OfNat.ofNat n : Int32) = nI n := rfl
/-! ===== frames ===== -/
def Fr (a b : Nat → Bool) (σ σ' : ST) : Prop := (∀ k, a k = false → gA σ' k = gA σ k) ∧ (∀ k, b k = false → gB σ' k = gB σ k) ∧ gA σ' 2 6 = gA σ 2 6
theorem Fr.rf {a b : Nat → Bool} {σ : ST} : Fr a b σ σ := ⟨fun _ _ => rfl, fun _ _ => rfl, rfl⟩
theorem Fr.trans {a b : Nat → Bool} {σ σ' σ'' : ST} (h : Fr a b σ σ') (h2 : Fr a b σ' σ'') : Fr a b σ σ'' := ⟨fun k q => (h2.1 k q).trans (h.1 k q), fun k q => (h2.2.1 k q).trans (h.2.1 k q), h2.2.2.trans h.2.2⟩
theorem Fr.mono {a b a' b' : Nat → Bool} {σ σ' : ST} (h : Fr a b σ σ') (ha : ∀ k, a' k = false → a k = false) (hb : ∀ k, b' k = false → b k = false) : Fr a' b' σ σ' := ⟨fun k q => h.1 k (ha k q), fun k q => h.2.1 k (hb k q), h.2.2⟩
theorem Fr.sA {a b : Nat → Bool} {σ σ' : ST} {k j : Nat} {v : Int32} (h : Fr a b σ σ') (hk : a k = true) (h2 : k ≠ 2 ∨ j ≠ 6) : Fr a b σ (sA σ' k j v) := ⟨fun i q => by
  have e : i ≠ k := fun e => by rw [e, hk] at q; cases q
  rw [gA_sA_ne e]; exact h.1 i q, fun i q => h.2.1 i q, by
  rw [gA_sA, if_neg (fun q => by omega)]; exact h.2.2⟩
theorem Fr.sB {a b : Nat → Bool} {σ σ' : ST} {k j : Nat} {v : Int64} (h : Fr a b σ σ') (hk : b k = true) : Fr a b σ (sB σ' k j v) := ⟨fun i q => h.1 i q, fun i q => by
  have e : i ≠ k := fun e => by rw [e, hk] at q; cases q
  rw [gB_sB_ne e]; exact h.2.1 i q, h.2.2⟩
theorem Fr.rA {a b : Nat → Bool} {σ σ' : ST} {k : Nat} {f : Nat → Int32} (h : Fr a b σ σ') (hk : a k = true) (h2 : k ≠ 2) : Fr a b σ (rA σ' k f) := ⟨fun i q => by
  have e : i ≠ k := fun e => by rw [e, hk] at q; cases q
  rw [gA_rA_ne e]; exact h.1 i q, fun i q => h.2.1 i q, by
  rw [gA_rA_ne (Ne.symm h2)]; exact h.2.2⟩
theorem Fr.rB {a b : Nat → Bool} {σ σ' : ST} {k : Nat} {f : Nat → Int64} (h : Fr a b σ σ') (hk : b k = true) : Fr a b σ (rB σ' k f) := ⟨fun i q => h.1 i q, fun i q => by
  have e : i ≠ k := fun e => by rw [e, hk] at q; cases q
  rw [gB_rB_ne e]; exact h.2.1 i q, h.2.2⟩
theorem Fr.A {a b : Nat → Bool} {σ σ' : ST} (h : Fr a b σ σ') {k : Nat} (hk : a k = false) (j : Nat) : gA σ' k j = gA σ k j := by rw [h.1 k hk]
theorem Fr.B {a b : Nat → Bool} {σ σ' : ST} (h : Fr a b σ σ') {k : Nat} (hk : b k = false) (j : Nat) : gB σ' k j = gB σ k j := by rw [h.2.1 k hk]
theorem nle3 {a : Nat} (h : a < 3) : ¬ (3 : Int32) ≤ nI a := nI_ge h (by decide)
theorem nle4 {a : Nat} (h : a < 4) : ¬ (4 : Int32) ≤ nI a := nI_ge h (by decide)
theorem nle5 {a : Nat} (h : a < 5) : ¬ (5 : Int32) ≤ nI a := nI_ge h (by decide)
theorem nle6 {a : Nat} (h : a < 6) : ¬ (6 : Int32) ≤ nI a := nI_ge h (by decide)
theorem nle24 {a : Nat} (h : a < 24) : ¬ (24 : Int32) ≤ nI a := nI_ge h (by decide)
theorem nle25 {a : Nat} (h : a < 25) : ¬ (25 : Int32) ≤ nI a := nI_ge h (by decide)
theorem nle36 {a : Nat} (h : a < 36) : ¬ (36 : Int32) ≤ nI a := nI_ge h (by decide)
theorem nle40 {a : Nat} (h : a < 40) : ¬ (40 : Int32) ≤ nI a := nI_ge h (by decide)
theorem nle41 {a : Nat} (h : a < 41) : ¬ (41 : Int32) ≤ nI a := nI_ge h (by decide)
theorem nle48 {a : Nat} (h : a < 48) : ¬ (48 : Int32) ≤ nI a := nI_ge h (by decide)
theorem ifN1 {α : Type} {a b : α} : (if ¬ (1 : Int32) = 0 then a else b) = a := if_pos (by decide)
theorem ifN0 {α : Type} {a b : α} : (if ¬ (0 : Int32) = 0 then a else b) = b := if_neg (by decide)
theorem if10 {α : Type} {a b : α} : (if (1 : Int32) = 0 then a else b) = b := if_neg (by decide)
theorem if00 {α : Type} {a b : α} : (if (0 : Int32) = 0 then a else b) = a := if_pos rfl
