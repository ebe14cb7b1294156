
-- ===== YOUR PART BEGINS =====
theorem st_K {s : State} {args : Array Value} {b : Nat} (hts : ∀ w ∈ lw_tbl, w.before #[Value.ref b] s = true) : ∃ cy : Nat → ClassId, ∀ (k : Nat) (q : ClassId × FieldType), (tysG cy)[k]? = some q → ArrOfT s q.1 q.2 ∧ va_RA s q.1 q.2 := by
  obtain ⟨c0, k0, p0, a1, a2, a3⟩ := Cond.arrayClass_spec (hts (.arrayClass .int) (by decide +kernel))
  obtain ⟨c1, k1, p1, b1, b2, b3⟩ := Cond.arrayClass_spec (hts (.arrayClass .long) (by decide +kernel))
  obtain ⟨p2, c2, k2, d1, d2, d3, d4, d5⟩ := Cond.arrayOver_spec (hts (.arrayOver (.object "GuardsLookLeft$Sheet")) (by decide +kernel))
  obtain ⟨p3, c3, k3, e1, e2, e3, e4, e5⟩ := arrayOverA_spec (hts (.arrayOver (.array .int)) (by decide +kernel))
  obtain ⟨p4, c4, k4, f1, f2, f3, f4, f5⟩ := arrayOverA_spec (hts (.arrayOver (.array .long)) (by decide +kernel))
  refine ⟨fun k => if k = 0 then c0 else if k = 1 then c1 else if k = 2 then c2 else if k = 3 then c3 else c4, fun k q h => ?_⟩
  have ha : ∀ (cA : ClassId) (kA : Class) (cm : ClassId) (ty : FieldType), s.vm.classes[cA]? = some kA → kA.kind = .array cm ty → ArrOfT s cA ty := fun cA kA cm ty h1 h2 n z => ⟨(fun q hq => by cases hq), kA, h1, cm, h2⟩
  match k, h with
  | 0, h => cases h; exact ⟨ha _ _ _ _ a2 a3, a1⟩
  | 1, h => cases h; exact ⟨ha _ _ _ _ b2 b3, b1⟩
  | 2, h => cases h; exact ⟨ha _ _ _ _ d3 d4, k2, p2, d3, d4, d1, d5⟩
  | 3, h => cases h; exact ⟨ha _ _ _ _ e3 e4, e5⟩
  | 4, h => cases h; exact ⟨ha _ _ _ _ f3 f4, f5⟩
  | k + 5, h => simp at h
def stTm (i : Nat) : Term := Term.string (strT.getD i ("", 0, "")).1 (strT.getD i ("", 0, "")).2.1
def vTm (i : Nat) : Term := Term.field (stTm i) "java/lang/String" "value" "[B"
def ATOMS : List Cond := flatC (Jvm.Cond.and given_1 narrow_1)
set_option maxRecDepth 100000 in
theorem at1 : ∀ i, i < 13 → Cond.exactly (stTm i) "java/lang/String" ∈ ATOMS := by decide +kernel
set_option maxRecDepth 100000 in
theorem at2 : ∀ i, i < 13 → Cond.eq (.field (stTm i) "java/lang/String" "coder" "B") (.int 0) ∈ ATOMS := by decide +kernel
set_option maxRecDepth 100000 in
theorem at3 : ∀ i, i < 13 → Cond.arrayOf (vTm i) .byte ∈ ATOMS := by decide +kernel
set_option maxRecDepth 100000 in
theorem at4 : ∀ i, i < 13 → Cond.eq (.length (vTm i)) (.int (Int32.ofNat (lenS.getD i 0))) ∈ ATOMS := by decide +kernel
set_option maxRecDepth 100000 in
theorem at5 : ∀ i, i < 13 → ∀ j, j < lenS.getD i 0 → Cond.eq (.elem (vTm i) (.int (Int32.ofNat j))) (.int ((bytS.getD i []).getD j 0)) ∈ ATOMS := by decide +kernel
set_option maxRecDepth 100000 in
theorem at6_0 : ∀ j, j < 13 → 0 ≠ j → Cond.not (Cond.eq (stTm 0) (stTm j)) ∈ ATOMS ∨ Cond.not (Cond.eq (stTm j) (stTm 0)) ∈ ATOMS := by decide +kernel
set_option maxRecDepth 100000 in
theorem at6_1 : ∀ j, j < 13 → 1 ≠ j → Cond.not (Cond.eq (stTm 1) (stTm j)) ∈ ATOMS ∨ Cond.not (Cond.eq (stTm j) (stTm 1)) ∈ ATOMS := by decide +kernel
set_option maxRecDepth 100000 in
theorem at6_2 : ∀ j, j < 13 → 2 ≠ j → Cond.not (Cond.eq (stTm 2) (stTm j)) ∈ ATOMS ∨ Cond.not (Cond.eq (stTm j) (stTm 2)) ∈ ATOMS := by decide +kernel
set_option maxRecDepth 100000 in
theorem at6_3 : ∀ j, j < 13 → 3 ≠ j → Cond.not (Cond.eq (stTm 3) (stTm j)) ∈ ATOMS ∨ Cond.not (Cond.eq (stTm j) (stTm 3)) ∈ ATOMS := by decide +kernel
set_option maxRecDepth 100000 in
theorem at6_4 : ∀ j, j < 13 → 4 ≠ j → Cond.not (Cond.eq (stTm 4) (stTm j)) ∈ ATOMS ∨ Cond.not (Cond.eq (stTm j) (stTm 4)) ∈ ATOMS := by decide +kernel
set_option maxRecDepth 100000 in
theorem at6_5 : ∀ j, j < 13 → 5 ≠ j → Cond.not (Cond.eq (stTm 5) (stTm j)) ∈ ATOMS ∨ Cond.not (Cond.eq (stTm j) (stTm 5)) ∈ ATOMS := by decide +kernel
set_option maxRecDepth 100000 in
theorem at6_6 : ∀ j, j < 13 → 6 ≠ j → Cond.not (Cond.eq (stTm 6) (stTm j)) ∈ ATOMS ∨ Cond.not (Cond.eq (stTm j) (stTm 6)) ∈ ATOMS := by decide +kernel
set_option maxRecDepth 100000 in
theorem at6_7 : ∀ j, j < 13 → 7 ≠ j → Cond.not (Cond.eq (stTm 7) (stTm j)) ∈ ATOMS ∨ Cond.not (Cond.eq (stTm j) (stTm 7)) ∈ ATOMS := by decide +kernel
set_option maxRecDepth 100000 in
theorem at6_8 : ∀ j, j < 13 → 8 ≠ j → Cond.not (Cond.eq (stTm 8) (stTm j)) ∈ ATOMS ∨ Cond.not (Cond.eq (stTm j) (stTm 8)) ∈ ATOMS := by decide +kernel
set_option maxRecDepth 100000 in
theorem at6_9 : ∀ j, j < 13 → 9 ≠ j → Cond.not (Cond.eq (stTm 9) (stTm j)) ∈ ATOMS ∨ Cond.not (Cond.eq (stTm j) (stTm 9)) ∈ ATOMS := by decide +kernel
set_option maxRecDepth 100000 in
theorem at6_10 : ∀ j, j < 13 → 10 ≠ j → Cond.not (Cond.eq (stTm 10) (stTm j)) ∈ ATOMS ∨ Cond.not (Cond.eq (stTm j) (stTm 10)) ∈ ATOMS := by decide +kernel
set_option maxRecDepth 100000 in
theorem at6_11 : ∀ j, j < 13 → 11 ≠ j → Cond.not (Cond.eq (stTm 11) (stTm j)) ∈ ATOMS ∨ Cond.not (Cond.eq (stTm j) (stTm 11)) ∈ ATOMS := by decide +kernel
set_option maxRecDepth 100000 in
theorem at6_12 : ∀ j, j < 13 → 12 ≠ j → Cond.not (Cond.eq (stTm 12) (stTm j)) ∈ ATOMS ∨ Cond.not (Cond.eq (stTm j) (stTm 12)) ∈ ATOMS := by decide +kernel
theorem at6 : ∀ i, i < 13 → ∀ j, j < 13 → i ≠ j → Cond.not (Cond.eq (stTm i) (stTm j)) ∈ ATOMS ∨ Cond.not (Cond.eq (stTm j) (stTm i)) ∈ ATOMS := by
  intro i hi
  rcases (show i = 0 ∨ i = 1 ∨ i = 2 ∨ i = 3 ∨ i = 4 ∨ i = 5 ∨ i = 6 ∨ i = 7 ∨ i = 8 ∨ i = 9 ∨ i = 10 ∨ i = 11 ∨ i = 12 by omega) with rfl | rfl | rfl | rfl | rfl | rfl | rfl | rfl | rfl | rfl | rfl | rfl | rfl
  · exact at6_0
  · exact at6_1
  · exact at6_2
  · exact at6_3
  · exact at6_4
  · exact at6_5
  · exact at6_6
  · exact at6_7
  · exact at6_8
  · exact at6_9
  · exact at6_10
  · exact at6_11
  · exact at6_12
set_option maxRecDepth 100000 in
theorem at7 : ∀ i, i < 13 → Cond.stringRef (strT.getD i ("", 0, "")).1 (strT.getD i ("", 0, "")).2.1 (strT.getD i ("", 0, "")).2.2 ∈ tables_1 := by decide +kernel
theorem at_NW : ∀ w ∈ NWL, w ∈ tables_1 := by decide +kernel
def tabC (k : Nat) : String × String × List Int32 := if k = 0 then ("GuardsLookLeft$Guards", "KIND_ABOVE", tab0) else if k = 1 then ("GuardsLookLeft$Guards", "WAY_ADDS", tab1) else ("GuardsLookLeft$Reader", "KEY_OF_PART", tab2)
def tTm (k : Nat) : Term := Term.static (tabC k).1 (tabC k).2.1 "[I"
set_option maxRecDepth 100000 in
theorem at8 : ∀ k, k < 3 → Cond.arrayOf (tTm k) .int ∈ ATOMS ∧ Cond.eq (.length (tTm k)) (.int (Int32.ofNat (tabC k).2.2.length)) ∈ ATOMS ∧ (∀ j, j < (tabC k).2.2.length → Cond.eq (.elem (tTm k) (.int (Int32.ofNat j))) (.int ((tabC k).2.2.getD j 0)) ∈ ATOMS) ∧ Cond.laysStatic (tabC k).1 (tabC k).2.1 "[I" ∈ tables_1 ∧ Cond.initialized (tabC k).1 ∈ tables_1 := by decide +kernel
set_option maxHeartbeats 4000000 in
set_option maxRecDepth 100000 in
theorem st_E {s : State} {b : Nat} (hts : ∀ w ∈ lw_tbl, w.before #[Value.ref b] s = true) (hgv : (Jvm.Cond.and given_1 narrow_1).before #[Value.ref b] s = true) : ∃ ad : Nat → Nat, EHX ad (fun q : Nat => s.heap.size ≤ q) s := by
  have hs : ∀ c ∈ ATOMS, c.before #[Value.ref b] s = true := flat_of_before _ hgv
  have ht : ∀ c ∈ tables_1, c.before #[Value.ref b] s = true := fun c hc => hts c (List.mem_append_right _ hc)
  have hA : ∀ a : Nat, a < s.heap.size → ¬ (fun q : Nat => s.heap.size ≤ q) a := fun a h => Nat.not_le.mpr h
  obtain ⟨adK, adV, hV, hE⟩ := vk_Sof (tm := stTm) (N := 13) (len := lenS) (byt := bytS) (A := fun q : Nat => s.heap.size ≤ q) js_len (fun i hi => hs _ (at1 i hi)) (fun i hi => hs _ (at2 i hi)) (fun i hi => hs _ (at3 i hi)) (fun i hi => hs _ (at4 i hi)) (fun i hi j hj => hs _ (at5 i hi j hj)) (fun i j hi hj hij => (at6 i hi j hj hij).imp (hs _) (hs _)) hA
  have hT : ∀ k, k < 3 → ∃ t : Nat, va_Z (tabC k).1 (tabC k).2.1 "[I" (.ref t) (fun q : Nat => s.heap.size ≤ q) s s.heap ∧ va_T .int t (tabC k).2.2.length (fun j => .int ((tabC k).2.2.getD j 0)) (fun q : Nat => s.heap.size ≤ q) s s.heap := by
    intro k hk
    obtain ⟨z1, z2, z3, z4, z5⟩ := at8 k hk
    have hlen : (tabC k).2.2.length < 2 ^ 31 := by
      rcases (show k = 0 ∨ k = 1 ∨ k = 2 by omega) with rfl | rfl | rfl <;> decide
    obtain ⟨t, h1, h2⟩ := va_Tof (tm := tTm k) (ty := .int) (N := (tabC k).2.2.length) (f := fun j => .int ((tabC k).2.2.getD j 0)) (A := fun q : Nat => s.heap.size ≤ q) hlen (hs _ z1) (va_eqt (hs _ z2)) (fun j hj => va_eqt (hs _ (z3 j hj))) hA
    exact ⟨t, va_Zof (ht _ z4) (ht _ z5) h1 hA, h2⟩
  obtain ⟨t0, h0⟩ := hT 0 (by decide)
  obtain ⟨t1, h1⟩ := hT 1 (by decide)
  obtain ⟨t2, h2⟩ := hT 2 (by decide)
  refine ⟨fun k => if k < 20 then adK k else if k < 40 then adV (k - 20) else if k = 40 then t0 else if k = 41 then t1 else t2, fun w hw => ?_, ?_, fun i hi => ?_, h0, h1, h2, ?_, ?_⟩
  · refine va_Nw.of ?_ (ht _ (at_NW w hw))
    simp only [NWL, List.mem_cons, List.not_mem_nil, or_false] at hw
    rcases hw with rfl | rfl | rfl | rfl | rfl | rfl | rfl | rfl | rfl | rfl | rfl | rfl | rfl | rfl | rfl | rfl | rfl <;> rfl
  · have e1 : ∀ i, i < 13 → (if i < 20 then adK i else if i < 40 then adV (i - 20) else if i = 40 then t0 else if i = 41 then t1 else t2) = adK i := fun i hi => if_pos (by omega)
    have e2 : ∀ i, i < 13 → (if 20 + i < 20 then adK (20 + i) else if 20 + i < 40 then adV (20 + i - 20) else if 20 + i = 40 then t0 else if 20 + i = 41 then t1 else t2) = adV i := fun i hi => by
      rw [if_neg (by omega), if_pos (by omega), show 20 + i - 20 = i by omega]
    refine ⟨fun i hi => ?_, fun i j hi hj e => ?_⟩
    · show va_O _ (ite _ _ _) _ _ _ ∧ va_OF _ _ _ _ (ite _ _ _) _ _ _ ∧ va_OF _ _ _ (.ref (ite _ _ _)) (ite _ _ _) _ _ _ ∧ va_T _ (ite _ _ _) _ _ _ _ _
      rw [e1 i hi, e2 i hi]
      exact hV.1 i hi
    · exact hV.2 i j hi hj (by rw [← e1 i hi, ← e1 j hj]; exact e)
  · have e1 : (if i < 20 then adK i else if i < 40 then adV (i - 20) else if i = 40 then t0 else if i = 41 then t1 else t2) = adK i := if_pos (by omega)
    show vk_R _ _ _ (ite _ _ _) _
    rw [e1]
    exact vk_R.same (u := s) rfl (vk_R.of (ht _ (at7 i hi)) (hE i hi))
  · exact va_Zof (ht (.laysStatic "java/lang/String" "COMPACT_STRINGS" "Z") (by decide +kernel)) (ht (.initialized "java/lang/String") (by decide +kernel)) (va_eqi (hs _ (by decide +kernel))) hA
  · exact va_Zqof (ht (.laysStatic "jdk/internal/util/Preconditions" "SIOOBE_FORMATTER" "Ljava/util/function/BiFunction;") (by decide +kernel)) (ht (.initialized "jdk/internal/util/Preconditions") (by decide +kernel)) (hs _ (by decide +kernel)) hA
theorem va_P.split {D : va_G} {cl : List vw_C} {w1 w2 : va_W} {H : Heap} (h : va_P D cl (w1 ++ w2) H) : va_P D cl w1 H ∧ va_P D cl w2 H := by
  refine ⟨fun k q hk => ?_, fun k q hk => ?_⟩
  · exact h k q (by rw [List.getElem?_append_left (List.getElem?_eq_some_iff.mp hk).1]; exact hk)
  · exact h (w1.length + k) q (by rw [List.getElem?_append_right (Nat.le_add_right _ _), Nat.add_sub_cancel_left]; exact hk)
theorem ctbE {av : List Value} {D : va_G} {cy : Nat → ClassId} {ws ws' : va_W} {sz : Nat} {ad : Nat → Nat} {A : Nat → Prop} : FrameBlind (va_Pc av (fun U => U.heap.size = sz ∧ va_P D vwCl ws U.heap ∧ va_K D vwCl (tysG cy) U ∧ va_D (fun _ => True) ws' ∧ AOS U ∧ EHX ad A U)) := fun x U g mk q => by
  obtain ⟨q0, q1, qP, qK, qD, qo, qE⟩ := q
  exact ⟨q0, q1, qP, va_K.moved (u := U) (U := U.calling g mk x) (Vm.Alike.refl U.vm) qK, qD, qo.moved (u := U) (U := U.calling g mk x) (Vm.Alike.refl U.vm), EHX_call qE⟩
set_option maxHeartbeats 8000000 in
set_option maxRecDepth 100000 in
theorem whole_open (Rl : ST → ST → Prop) (hops : OPS Rl) (hini : ∃ σx σm : ST, f_X9_init σZX = some σx ∧ f_X10_init σZM = some σm ∧ Rl σx σm) {p : Program} {e : Env} {s : State} {m : MethodId} {below : List Frame} {meth : Method} {c : Code} (l : Launch) {b L : Nat} {xs : Nat → Int32} (hL : L ≤ 3584) (C0 : lw_At p s m meth c b L xs) : W p l e room_1 s m #[Value.ref b] below meth c s.heap [] 0 0 (lw_Z below #[Value.ref b] s) (entryFrame m ([Value.ref b] : List Value).toArray 4) := by
  obtain ⟨hx, hb, hr, hml, hown, hts, hX, hbl, hlocks, hgv⟩ := id C0
  obtain ⟨σx, σm, hf1, hf2, hR⟩ := hini
  have ts : ∀ w ∈ WS, w.before #[Value.ref b] s = true := fun w hw => hts w (List.mem_filter.mp hw).1
  have hown : s.vm.findClass "GuardsLookLeftLaw" = some m.cls := hown
  have hA : ∀ q : Nat, s.heap.size ≤ q → (fun q : Nat => s.heap.size ≤ q) q := fun _ h => h
  obtain ⟨c0, iS0, hKn0⟩ := u_known (C := RX0) (T := TX0) (N := 2) (n := 2) ts inX0 (ts _ wk_1_207)
  obtain ⟨c1, iS1, hKn1⟩ := u_known (C := RX1) (T := TX1) (N := 10) (n := 10) ts inX1 (ts _ wk_1_44)
  obtain ⟨c2, iS2, hKn2⟩ := u_known (C := RX2) (T := TX2) (N := 6) (n := 6) ts inX2 (ts _ wk_1_232)
  obtain ⟨c3, iS3, hKn3⟩ := u_known (C := RX3) (T := TX3) (N := 1) (n := 1) ts inX3 (ts _ wk_1_30)
  obtain ⟨c4, iS4, hKn4⟩ := u_known (C := RX4) (T := TX4) (N := 9) (n := 9) ts inX4 (ts _ wk_1_101)
  obtain ⟨c5, iS5, hKn5⟩ := u_known (C := RX5) (T := TX5) (N := 3) (n := 3) ts inX5 (ts _ wk_2_20)
  obtain ⟨c6, iS6, hKn6⟩ := u_known (C := RX6) (T := TX6) (N := 6) (n := 6) ts inX6 (ts _ wk_1_138)
  obtain ⟨c7, iS7, hKn7⟩ := u_known (C := RX7) (T := TX7) (N := 1) (n := 1) ts inX7 (ts _ wk_1_221)
  obtain ⟨c8, iS8, hKn8⟩ := u_known (C := RX8) (T := TX8) (N := 9) (n := 9) ts inX8 (ts _ wk_1_168)
  obtain ⟨c9, iS9, hKn9⟩ := u_known (C := RX9) (T := TX9) (N := 9) (n := 9) ts inX9 (ts _ wk_1_22)
  obtain ⟨c10, iS10, hKn10⟩ := u_known (C := RX10) (T := TX10) (N := 41) (n := 41) ts inX10 (ts _ wk_4_145)
  obtain ⟨dC, dI, hKc⟩ : ∃ (dC : Nat → ClassId) (dI : Nat → Nat → Nat), ∀ (k : Nat) (q : vw_C), vwCl[k]? = some q → u_Kn s q.1 q.2.1 q.2.2 (dC k) (dI k) := by
    refine ⟨fun k => match k with | 0 => c0 | 1 => c1 | 2 => c2 | 3 => c3 | 4 => c4 | 5 => c5 | 6 => c6 | 7 => c7 | 8 => c8 | 9 => c9 | _ => c10, fun k => match k with | 0 => iS0 | 1 => iS1 | 2 => iS2 | 3 => iS3 | 4 => iS4 | 5 => iS5 | 6 => iS6 | 7 => iS7 | 8 => iS8 | 9 => iS9 | _ => iS10, ?_⟩
    intro k q hq
    match k, hq with
    | 0, hq => cases hq; exact hKn0
    | 1, hq => cases hq; exact hKn1
    | 2, hq => cases hq; exact hKn2
    | 3, hq => cases hq; exact hKn3
    | 4, hq => cases hq; exact hKn4
    | 5, hq => cases hq; exact hKn5
    | 6, hq => cases hq; exact hKn6
    | 7, hq => cases hq; exact hKn7
    | 8, hq => cases hq; exact hKn8
    | 9, hq => cases hq; exact hKn9
    | 10, hq => cases hq; exact hKn10
    | k + 11, hq => simp [vwCl] at hq
  obtain ⟨cy, hcy⟩ := st_K (args := #[]) hts
  obtain ⟨ad, hE⟩ := st_E hts hgv
  have ho : AOS s := ⟨hts (.arrayOver (.array .int)) (by decide +kernel), hts (.arrayOver (.array .long)) (by decide +kernel), va_AO.of (hts (.arrayOver (.object "GuardsLookLeft$Sheet")) (by decide +kernel))⟩
  have hS : va_S (fun q : Nat => s.heap.size ≤ q) s.heap s.heap [] := va_S.rf
  have hK : va_K (dC, dI) vwCl (tysG cy) s := ⟨hKc, hcy⟩
  have hP : va_P (dC, dI) vwCl [] s.heap := fun k q h => by simp at h
  have hD : va_D (fun q : Nat => s.heap.size ≤ q) [] := ⟨fun i j p q h => by simp at h, fun k q h => by simp at h⟩
  have hl := lv_entry ([.ref b]) (n := 4) (Nat.le_of_ble_eq_true rfl)
  rw [lg_entry_eq]
  generalize (lg_sl ([.ref b]) ++ List.replicate (4 - (lg_sl ([.ref b])).length) Slot.unset).toArray = ls at hl ⊢
  have hl : lv_has ls 4 [(0, .ref b)] := hl
  refine va_new (ci := 9) (fs := [.null, .null, .null, .null, .null, .null, .null, .null, .null]) (C := RX9) (T := TX9) (N := 9) hx hb ts inX9 tyX9 tyX9_ok hown (ts _ wk_1_21) (ts _ wk_1_22) (ts _ wk_1_1) hK hP hD hS hA rfl (fun j hj => by rcases (show j = 0 ∨ j = 1 ∨ j = 2 ∨ j = 3 ∨ j = 4 ∨ j = 5 ∨ j = 6 ∨ j = 7 ∨ j = 8 by omega) with rfl | rfl | rfl | rfl | rfl | rfl | rfl | rfl | rfl <;> rfl) (Nat.le_of_ble_eq_true rfl) (Nat.le_of_ble_eq_true rfl) dL_law_0 (fun q0 H hP hD hS => ?_)
  have hP : va_P (dC, dI) vwCl [(q0, .inr (9, [.null, .null, .null, .null, .null, .null, .null, .null, .null]))] H := hP
  have hD : va_D (fun q : Nat => s.heap.size ≤ q) [(q0, .inr (9, [.null, .null, .null, .null, .null, .null, .null, .null, .null]))] := hD
  refine W.widen (k := 1) (n := 9) (by omega) (by omega) ?_
  refine lv_dup hx hb dL_law_3 rfl ?_
  have hFc := va_free (wc := [(q0, .inr (9, [.null, .null, .null, .null, .null, .null, .null, .null, .null]))]) hD hS hA [0] rfl
  refine va_callv (va_runI (Ts := WS) (As := []) (rest := [.ref q0]) ⟨hx, hb, hml, hown, ts⟩ (n_X9_init (l := l) (cy := cy) (D := (dC, dI)) (ad := ad) q0 H.size hf1) (cwI 0 ts (good_code wk_1_25) rfl rfl rfl (ts _ wk_1_1) (ts _ wk_1_23) (ts _ wk_1_24) rfl ⟨by decide, by decide, by decide +kernel⟩ ⟨Nat.le_of_ble_eq_true rfl, Nat.le_of_ble_eq_true rfl⟩) ⟨ctbE, fun U hU hW => ⟨rfl, by rw [hU], by rw [hU]; exact hP, va_K.moved hW.alike hK, hD.weaken (fun _ _ _ _ => trivial), ho.moved hW.alike, EHX_narrow (EHX_use hE hS hU hW) hFc⟩⟩ rfl rfl hl.1 rfl (lv_room (Nat.le_of_ble_eq_true rfl)) dL_law_4 ⟨Nat.le_of_ble_eq_true rfl, Nat.le_of_ble_eq_true rfl⟩) hS (fun q _ h => hFc q h) hFc (fun u t H1 locs ht hvm hu hB hz1 hk1 hS => ?_)
  obtain ⟨hPx, hDx⟩ := hB
  rw [ht] at hPx
  have hDy : va_D (fun q : Nat => s.heap.size ≤ q) (wG NX eX u cy σx) := hDx.weaken (fun _ q _ h => hFc q.1 h)
  have hu : u 0 = q0 := hu
  subst hu
  refine W.widen (k := 58) (n := 1981) (by omega) (by omega) ?_
  refine lv_astore_n (lv' := [(1, .ref (u 0)), (0, .ref b)]) hx hb dL_law_7 rfl hl (by decide) rfl (fun ls hl => ?_)
  refine va_new (ci := 10) (fs := [.null, .int 0, .null, .null, .null, .null, .null, .null, .null, .int 0, .null, .null, .int 0, .int 0, .int 0, .int 0, .int 0, .null, .null, .null, .null, .null, .null, .null, .int 0, .int 0, .int 0, .int 0, .null, .null, .int 0, .int 0, .int 0, .null, .null, .null, .int 0, .int 0, .int 0, .null, .null]) (C := RX10) (T := TX10) (N := 41) hx hb ts inX10 tyX10 tyX10_ok hown (ts _ wk_4_144) (ts _ wk_4_145) (ts _ wk_1_16) hK hPx hDy hS hA rfl (fun j hj => by rcases (show j = 0 ∨ j = 1 ∨ j = 2 ∨ j = 3 ∨ j = 4 ∨ j = 5 ∨ j = 6 ∨ j = 7 ∨ j = 8 ∨ j = 9 ∨ j = 10 ∨ j = 11 ∨ j = 12 ∨ j = 13 ∨ j = 14 ∨ j = 15 ∨ j = 16 ∨ j = 17 ∨ j = 18 ∨ j = 19 ∨ j = 20 ∨ j = 21 ∨ j = 22 ∨ j = 23 ∨ j = 24 ∨ j = 25 ∨ j = 26 ∨ j = 27 ∨ j = 28 ∨ j = 29 ∨ j = 30 ∨ j = 31 ∨ j = 32 ∨ j = 33 ∨ j = 34 ∨ j = 35 ∨ j = 36 ∨ j = 37 ∨ j = 38 ∨ j = 39 ∨ j = 40 by omega) with rfl | rfl | rfl | rfl | rfl | rfl | rfl | rfl | rfl | rfl | rfl | rfl | rfl | rfl | rfl | rfl | rfl | rfl | rfl | rfl | rfl | rfl | rfl | rfl | rfl | rfl | rfl | rfl | rfl | rfl | rfl | rfl | rfl | rfl | rfl | rfl | rfl | rfl | rfl | rfl | rfl <;> rfl) (Nat.le_of_ble_eq_true rfl) (Nat.le_of_ble_eq_true rfl) dL_law_8 (fun q1 H2 hP2 hD2 hS => ?_)
  obtain ⟨hPx, hPc⟩ := hP2.split
  have hDc : va_D (fun q : Nat => s.heap.size ≤ q) [(q1, .inr (10, [.null, .int 0, .null, .null, .null, .null, .null, .null, .null, .int 0, .null, .null, .int 0, .int 0, .int 0, .int 0, .int 0, .null, .null, .null, .null, .null, .null, .null, .int 0, .int 0, .int 0, .int 0, .null, .null, .int 0, .int 0, .int 0, .null, .null, .null, .int 0, .int 0, .int 0, .null, .null]))] := hD2.sub [58] (by decide) (by rw [List.map_cons, List.map_nil, List.getElem?_append_right (by rw [g_len]; exact Nat.le_refl _), g_len]; rfl)
  refine W.widen (k := 59) (n := 2022) (by omega) (by omega) ?_
  refine lv_dup hx hb dL_law_11 rfl ?_
  have hFc2 := va_free (wc := [(q1, .inr (10, [.null, .int 0, .null, .null, .null, .null, .null, .null, .null, .int 0, .null, .null, .int 0, .int 0, .int 0, .int 0, .int 0, .null, .null, .null, .null, .null, .null, .null, .int 0, .int 0, .int 0, .int 0, .null, .null, .int 0, .int 0, .int 0, .null, .null, .null, .int 0, .int 0, .int 0, .null, .null]))]) hDc hS hA [0] rfl
  refine va_callv (va_runI (Ts := WS) (As := []) (rest := [.ref q1]) ⟨hx, hb, hml, hown, ts⟩ (n_X10_init (l := l) (cy := cy) (D := (dC, dI)) q1 H2.size hf2) (cwI 0 ts (good_code wk_4_148) rfl rfl rfl (ts _ wk_1_16) (ts _ wk_4_146) (ts _ wk_4_147) rfl ⟨by decide, by decide, by decide +kernel⟩ ⟨Nat.le_of_ble_eq_true rfl, Nat.le_of_ble_eq_true rfl⟩) ⟨ctb, fun U hU hW => ⟨rfl, by rw [hU], by rw [hU]; exact hPc, va_K.moved hW.alike hK, hDc.weaken (fun _ _ _ _ => trivial), ho.moved hW.alike⟩⟩ rfl rfl hl.1 rfl (lv_room (Nat.le_of_ble_eq_true rfl)) dL_law_12 ⟨Nat.le_of_ble_eq_true rfl, Nat.le_of_ble_eq_true rfl⟩) hS (fun q _ h => hFc2 q h) hFc2 (fun v t2 H3 locs ht2 hvm2 hv hB2 hz2 hk2 hS => ?_)
  obtain ⟨hPm, hDm⟩ := hB2
  rw [ht2] at hPm
  have hv : v 0 = q1 := hv
  have hne : ∀ i, i < NX → u i ≠ q1 := fun i hi q => by
    have hi58 : i < 58 := hi
    have := hD2.1 i 58 (u i, eX i u cy (gA σx i) (gB σx i)) (q1, .inr (10, [.null, .int 0, .null, .null, .null, .null, .null, .null, .null, .int 0, .null, .null, .int 0, .int 0, .int 0, .int 0, .int 0, .null, .null, .null, .null, .null, .null, .null, .int 0, .int 0, .int 0, .int 0, .null, .null, .int 0, .int 0, .int 0, .null, .null, .null, .int 0, .int 0, .int 0, .null, .null])) (by rw [List.getElem?_append_left (by rw [g_len]; exact hi)]; exact g_at hi) (by rw [List.getElem?_append_right (by rw [g_len]; exact Nat.le_refl _), g_len]; rfl) q
    omega
  have hlt : ∀ i, i < NX → u i < H2.size := fun i hi => (hPx i _ (g_at hi)).lt
  have hPx : va_P (dC, dI) vwCl (wG NX eX u cy σx) H3 := hPx.kept (fun k q hq => by
    obtain ⟨h1, h2⟩ := g_get hq
    refine hk2 q.1 (hPx k q hq).lt (fun z => ?_)
    rcases z with ⟨k2, e2, z⟩ | z
    · match k2, z with
      | 0, z => cases z; exact hne k h1 h2.symm
      | k2 + 1, z => simp at z
    · rw [h2] at z
      have := hlt k h1
      omega)
  have hmA : ∀ j, j < NM → v j = q1 ∨ H2.size ≤ v j := fun j hj => by
    rcases hDm.2 j _ (g_at hj) with ⟨k2, e2, z⟩ | z
    · match k2, z with
      | 0, z => cases z; exact Or.inl rfl
      | k2 + 1, z => simp at z
    · exact Or.inr z
  refine W.widen (k := 83) (n := 4313) (by omega) (by omega) ?_
  have hq1 : Value.ref q1 = .ref (v 0) := by rw [hv]
  rw [hq1]
  refine lv_astore_n (lv' := [(2, .ref (v 0)), (1, .ref (u 0)), (0, .ref b)]) hx hb dL_law_15 rfl hl (by decide) rfl (fun ls hl => ?_)
  refine lv_iconst (v := (0 : Int32)) hx hb dL_law_16 (by decide) ?_
  refine lv_istore_n (lv' := [(3, .int 0), (2, .ref (v 0)), (1, .ref (u 0)), (0, .ref b)]) hx hb dL_law_17 rfl hl (by decide) rfl (fun ls hl => ?_)
  have LC : LCx p s m meth c b L xs u v ad cy (dC, dI) := ⟨C0, hL, hK, hE, ⟨fun i j hi hj q => hDy.1 i j _ _ (g_at hi) (g_at hj) q, fun i hi => hDy.2 i _ (g_at hi)⟩, ⟨fun i j hi hj q => hDm.1 i j _ _ (g_at hi) (g_at hj) q, fun i hi => hFc2 _ (hDm.2 i _ (g_at hi))⟩, fun i j hi hj q => by
    rcases hmA j hj with z | z
    · exact hne i hi (q.trans z)
    · have := hlt i hi
      omega⟩
  exact law_loop LC Rl hops (L + 1) 0 (Nat.zero_le L) (by omega) σx σm hR H3 locs hPx hPm hS ls (lv_sub hl [3, 2, 1, 0] rfl)
