/-! ===== the mean, in its lowest terms ===== -/
def S00 : ST := (fun _ _ => 0, fun _ _ => 0)
theorem L94_state : ∀ (n : Nat) (v2 v3 v4 v5 v6 : Int32) (s : ST), f_X9_mean_L94 n v2 v3 v4 v5 v6 s = (f_X9_mean_L94 n v2 v3 v4 v5 v6 S00).map (fun q => (q.1, s))
  | 0, _, _, _, _, _, _ => rfl
  | n + 1, v2, v3, v4, v5, v6, s => by
    rw [ef_X9_mean_L94, ef_X9_mean_L94]
    unfold f_X9_mean_L119 f_X9_mean_L135 jnz
    simp only [jlet_s]
    rw [L94_state n v2 v3 v4 v5 (v6 + 1) s, L94_state n v2 v3 v4 v6 (v6 + 1) s]
    repeat' split
    all_goals first | rfl | simp_all
def mean1 (sum seeds part : Nat) : Option Int64 := (f_X9_mean_L94 30 (nI seeds) (nI part) (nI sum) 1 2 S00).map (fun q => q.1)
def mean2 (sum seeds part : Nat) : Option Int64 := f_X10_lowest (lN sum) (nI seeds).toInt64 (nI part)
set_option maxRecDepth 100000 in
theorem mean_0 : ∀ part, part < 2 → ∀ seeds, seeds < 13 → 0 < seeds → ∀ sum, sum < 289 → mean1 sum seeds part = mean2 sum seeds part ∧ (mean1 sum seeds part).isSome = true := by decide +kernel
