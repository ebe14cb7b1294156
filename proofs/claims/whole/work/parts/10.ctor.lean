/-! ===== what the making of arrays of arrays wants of the tables ===== -/
def va_AOA (t : FieldType) (U : State) : Prop := (Cond.arrayOver (.array t)).before #[] U = true
theorem va_AOA.use {t : FieldType} {A : Array Value} {U : State} (h : va_AOA t U) : (Cond.arrayOver (.array t)).before A U = true := h
theorem va_AOA.moved {t : FieldType} {u U : State} (hvm : u.vm.Alike U.vm) (h : va_AOA t u) : va_AOA t U := over_moved (a := #[]) (a' := #[]) hvm h
def AOS (U : State) : Prop := va_AOA .int U ∧ va_AOA .long U ∧ va_AO "GuardsLookLeft$Sheet" U
theorem AOS.moved {u U : State} (hvm : u.vm.Alike U.vm) (h : AOS u) : AOS U := ⟨h.1.moved hvm, h.2.1.moved hvm, h.2.2.moved hvm⟩
/-! ===== BEGIN new T[n][m]: the outer array a place, the inner ones among the pooled ===== -/
/-- f, but v at every address of l -/
def vr_up {α : Type} (f : Nat → α) (l : List Nat) (v : α) : Nat → α := fun a => if a ∈ l then v else f a
theorem vr_up_in {α : Type} {f : Nat → α} {l : List Nat} {v : α} {a : Nat} (h : a ∈ l) : vr_up f l v a = v := if_pos h
theorem vr_up_ne {α : Type} {f : Nat → α} {l : List Nat} {v : α} {a : Nat} (h : a ∉ l) : vr_up f l v a = f a := if_neg h
theorem vr_rows {L l : List Nat} {f : Nat → va_E} {e : va_E} (h : ∀ a, a ∈ l → a ∉ L) : va_pl L f ++ l.map (fun a => (a, e)) = va_pl (L ++ l) (vr_up f l e) := by
  unfold va_pl
  rw [List.map_append]
  congr 1
  · apply List.map_congr_left
    intro a ha
    rw [vr_up_ne (fun q => h a q ha)]
  · apply List.map_congr_left
    intro a ha
    rw [vr_up_in ha]
theorem vr_lay {X rows : va_W} {x : Nat × va_E} {pl : va_W} {D : va_G} {cl : List vw_C} {H : Heap} (hP : va_P D cl (((X ++ pl) ++ [x]) ++ rows) H) : va_P D cl ((X ++ [x]) ++ (pl ++ rows)) H := by
  rw [List.append_assoc (X ++ pl)] at hP
  have h := va_P.swap hP
  rw [← List.append_assoc X] at h
  have h2 := va_P.swap h
  rw [List.append_assoc (X ++ [x])] at h2
  exact h2
theorem vr_layD {X rows : va_W} {x : Nat × va_E} {pl : va_W} {A : Nat → Prop} (hD : va_D A (((X ++ pl) ++ [x]) ++ rows)) : va_D A ((X ++ [x]) ++ (pl ++ rows)) := by
  rw [List.append_assoc (X ++ pl)] at hD
  have h := va_D.swap hD
  rw [← List.append_assoc X] at h
  have h2 := va_D.swap h
  rw [List.append_assoc (X ++ [x])] at h2
  exact h2
theorem vr_outer (c : ClassId) (N h0 : Nat) : ∀ i : Nat, Jvm.Free.Multi.outerC c N h0 i = arrV c N (fun j => va_rf (if j < i then some (h0 + 1 + j) else none))
  | 0 => by
    show ({ cls := c, slots := Array.replicate N .null, vm := .none } : Cell) = _
    rw [arrV_new]
    refine congrArg (arrV c N) (funext fun j => ?_)
    simp [va_rf]
  | i + 1 => by
    show (Jvm.Free.Multi.outerC c N h0 i).setSlot i (.ref (h0 + 1 + i)) = _
    rw [vr_outer c N h0 i, arrV_store]
    refine congrArg (arrV c N) (funext fun j => ?_)
    by_cases e : j = i
    · subst e
      simp [updV, va_rf]
    · by_cases h : j < i
      · simp [updV, e, h, Nat.lt_succ_of_lt h]
      · simp [updV, e, h, show ¬ j < i + 1 by omega]
section VGM
variable {p : Program} {l : Launch} {e : Env} {R : Room} {s : State} {m : MethodId} {args : Array Value} {below : List Frame} {meth : Method} {c : Code} {H : Heap} {locs : List Loc} {cells slots : Nat} {Q : State → Prop}
variable {cc : ByteArray} {pc : Nat} {ls : Array Slot} {rest : List Value} {D : va_G} {cl : List vw_C} {A : Nat → Prop} {a : Nat} {tys : List (ClassId × FieldType)} {ws : va_W} {H0 : Heap}
theorem va_mna {X : va_W} {L : List Nat} {f : Nat → va_E} {cc : ByteArray} (hexec : p.tables.exec = Jvm.exec) (hb : c.code = cc) {own : String} {index : Nat} {ty : FieldType} {cy : ClassId} (hown : s.vm.findClass own = some m.cls) (hclink : (Cond.classLink own index ("[" ++ (FieldType.array ty).toString)).before args s = true) (hover : va_AOA ty s) (harr : (Cond.arrayClass ty).before args s = true) (hcy : s.vm.findClass (FieldType.array ty).toString = some cy)
    (hK : va_K D cl tys s) (hP : va_P D cl (X ++ va_pl L f) H) (hD : va_D A (X ++ va_pl L f)) (hS : va_S A H0 H locs) (hA : ∀ q, H0.size ≤ q → A q) {n k : Int32} {N' K' : Nat} {z : vp_A} (hn : ¬ n < 0) (hk : ¬ k < 0) (hN : n.toNatClampNeg = N') (hM : k.toNatClampNeg = K')
    (hb1 : N' * 4 ≤ 536870912) (hb2 : K' * componentBytes ty ≤ 536870912) (hb3 : K' ≤ 536870912) (hdf : fits ty (defaultValue ty) = true) (hdd : (defaultValue ty).isDefault = true) (hcells : cells + (1 + N') ≤ R.cells) (hslots : slots + (N' + N' * K') ≤ R.slots) (hz : ∀ c : ClassId, Jvm.Free.Multi.innerC c K' (defaultValue ty) = vp_cell c z) (hdg : decode cc pc = .ok (.multianewarray index 2, 4))
    (kk : ∀ (q : Nat) (r : Nat → Nat) (cA : ClassId) (H1 : Heap), (∀ i j : Nat, i < N' → j < N' → r i = r j → i = j) → (∀ i : Nat, i < N' → r i ∉ L) → va_K D cl (tys ++ [(cA, .array ty)]) s →
      va_P D cl ((X ++ [(q, .inl (cA, N', .inr (.inr (.inr (.inr (fun i => if i < N' then some (r i) else none))))))]) ++ va_pl (L ++ (List.range N').map r) (vr_up f ((List.range N').map r) (.inl (cy, z)))) H1 → va_D A ((X ++ [(q, .inl (cA, N', .inr (.inr (.inr (.inr (fun i => if i < N' then some (r i) else none))))))]) ++ va_pl (L ++ (List.range N').map r) (vr_up f ((List.range N').map r) (.inl (cy, z)))) → va_S A H0 H1 locs →
      W p l e R s m args below meth c H1 locs (cells + 1 + N') (slots + N' + N' * K') Q (F0 m (pc + 4) ls (.ref q :: rest))) : W p l e R s m args below meth c H locs cells slots Q (F0 m pc ls (.int k :: .int n :: rest)) := by
  subst hN
  subst hM
  intro T hT Xs
  obtain ⟨vm₁, cA, comp, -, fA, fC, hO, -, X', step⟩ := Xs.multianewarray2F hexec hown hclink (va_AOA.use hover) harr (g := F0 m pc ls (.int k :: .int n :: rest)) rfl (by rw [hb]; exact hdg) rfl hn hk hb1 hb2 hb3 hdf hdd hcells hslots
  have ec : some cy = some comp := hcy.symm.trans fC
  cases ec
  generalize hF : Jvm.Free.Multi.fill (T.setVm vm₁) cA cy n.toNatClampNeg k.toNatClampNeg (defaultValue ty) n.toNatClampNeg = F at X' step
  have hTh : (T.setVm vm₁).heap = H := hT
  obtain ⟨f1, f2, -, -⟩ := Jvm.Free.Multi.fill_facts (T.setVm vm₁) cA cy n.toNatClampNeg k.toNatClampNeg (defaultValue ty) n.toNatClampNeg
  rw [hF, hTh] at f1 f2
  have hold : ∀ x : Nat, x < H.size → F.heap[x]? = H[x]? := fun x hx => by
    have := Jvm.Free.Multi.fill_old (T.setVm vm₁) cA cy n.toNatClampNeg k.toNatClampNeg (defaultValue ty) (a := x) (by rw [hTh]; exact hx) n.toNatClampNeg
    rw [hF, hTh] at this
    exact this
  have hrow : ∀ j : Nat, j < n.toNatClampNeg → F.heap[H.size + 1 + j]? = some (vp_cell cy z) := fun j hj => by
    have := Jvm.Free.Multi.fill_inner (T.setVm vm₁) cA cy n.toNatClampNeg k.toNatClampNeg (defaultValue ty) n.toNatClampNeg j hj
    rw [hF, hTh, hz] at this
    exact this
  have hout : Jvm.Free.Multi.outerC cA n.toNatClampNeg H.size n.toNatClampNeg = vp_cell cA (n.toNatClampNeg, .inr (.inr (.inr (.inr (fun i => if i < n.toNatClampNeg then some (H.size + 1 + i) else none))))) := by
    rw [vp_cell_q]
    exact vr_outer cA n.toNatClampNeg H.size n.toNatClampNeg
  rw [hout] at f2
  have hlt : ∀ a, a ∈ L → a < H.size := fun a ha => by
    obtain ⟨k9, hk9⟩ := va_pl_get (X := X) (f := f) ha
    exact (hP k9 _ hk9).lt
  have hnl : ∀ i : Nat, i < n.toNatClampNeg → H.size + 1 + i ∉ L := fun i _ h => by
    have := hlt _ h
    omega
  have hnm : ∀ a, a ∈ (List.range n.toNatClampNeg).map (fun i => H.size + 1 + i) → a ∉ L := fun a ha h => by
    obtain ⟨i, -, rfl⟩ := List.mem_map.mp ha
    have := hlt _ h
    omega
  have hP0 : va_P D cl (X ++ va_pl L f) F.heap := hP.kept (fun k9 x hx => hold x.1 ((hP k9 x hx).lt))
  have hP1 : va_P D cl ((X ++ va_pl L f) ++ [(H.size, .inl (cA, n.toNatClampNeg, .inr (.inr (.inr (.inr (fun i => if i < n.toNatClampNeg then some (H.size + 1 + i) else none))))))]) F.heap := hP0.app (fun k9 x hx => by
    have h0 : k9 < 1 := (List.getElem?_eq_some_iff.mp hx).1
    rw [show k9 = 0 by omega] at hx
    cases hx
    exact f2)
  have hP2 : va_P D cl (((X ++ va_pl L f) ++ [(H.size, .inl (cA, n.toNatClampNeg, .inr (.inr (.inr (.inr (fun i => if i < n.toNatClampNeg then some (H.size + 1 + i) else none))))))]) ++ ((List.range n.toNatClampNeg).map (fun i => H.size + 1 + i)).map (fun a => (a, .inl (cy, z)))) F.heap := hP1.app (fun k9 x hx => by
    obtain ⟨a, ha, rfl⟩ := List.mem_map.mp (List.mem_of_getElem? hx)
    obtain ⟨i, hi, rfl⟩ := List.mem_map.mp ha
    exact hrow i (List.mem_range.mp hi))
  have hD2 : va_D A (((X ++ va_pl L f) ++ [(H.size, .inl (cA, n.toNatClampNeg, .inr (.inr (.inr (.inr (fun i => if i < n.toNatClampNeg then some (H.size + 1 + i) else none))))))]) ++ ((List.range n.toNatClampNeg).map (fun i => H.size + 1 + i)).map (fun a => (a, .inl (cy, z)))) := by
    have hD1 := hD.push (e := .inl (cA, n.toNatClampNeg, .inr (.inr (.inr (.inr (fun i => if i < n.toNatClampNeg then some (H.size + 1 + i) else none)))))) hP rfl (hA _ hS.1)
    generalize hW1 : (X ++ va_pl L f) ++ [(H.size, .inl (cA, n.toNatClampNeg, .inr (.inr (.inr (.inr (fun i => if i < n.toNatClampNeg then some (H.size + 1 + i) else none))))))] = W1 at hD1 hP1 ⊢
    have hle : ∀ (k9 : Nat) (x : Nat × va_E), W1[k9]? = some x → x.1 ≤ H.size := fun k9 x hx => by
      rw [← hW1] at hx
      by_cases hl : k9 < (X ++ va_pl L f).length
      · rw [List.getElem?_append_left hl] at hx
        exact Nat.le_of_lt ((hP k9 x hx).lt)
      · rw [List.getElem?_append_right (by omega)] at hx
        have h0 : k9 - (X ++ va_pl L f).length < 1 := (List.getElem?_eq_some_iff.mp hx).1
        rw [show k9 - (X ++ va_pl L f).length = 0 by omega] at hx
        cases hx
        exact Nat.le_refl _
    have hr : ∀ (k9 : Nat) (x : Nat × va_E), (((List.range n.toNatClampNeg).map (fun i => H.size + 1 + i)).map (fun a => ((a, .inl (cy, z)) : Nat × va_E)))[k9]? = some x → x.1 = H.size + 1 + k9 := fun k9 x hx => by
      rw [List.getElem?_map, List.getElem?_map] at hx
      by_cases h9 : k9 < n.toNatClampNeg
      · rw [List.getElem?_range h9] at hx
        cases hx
        rfl
      · have hn0 : (List.range n.toNatClampNeg)[k9]? = none := List.getElem?_eq_none (by rw [List.length_range]; omega)
        rw [hn0] at hx
        cases hx
    refine ⟨fun i j x y hi hj hxy => ?_, fun k9 x hx => ?_⟩
    · by_cases h1 : i < W1.length <;> by_cases h2 : j < W1.length
      · rw [List.getElem?_append_left h1] at hi
        rw [List.getElem?_append_left h2] at hj
        exact hD1.1 i j x y hi hj hxy
      · rw [List.getElem?_append_left h1] at hi
        rw [List.getElem?_append_right (by omega)] at hj
        have := hle _ _ hi
        have := hr _ _ hj
        omega
      · rw [List.getElem?_append_right (by omega)] at hi
        rw [List.getElem?_append_left h2] at hj
        have := hle _ _ hj
        have := hr _ _ hi
        omega
      · rw [List.getElem?_append_right (by omega)] at hi hj
        have := hr _ _ hi
        have := hr _ _ hj
        omega
    · by_cases h1 : k9 < W1.length
      · rw [List.getElem?_append_left h1] at hx
        exact hD1.2 k9 x hx
      · rw [List.getElem?_append_right (by omega)] at hx
        have := hr _ _ hx
        exact hA _ (by have := hS.1; omega)
  have hAr : ArrOfT s cA (.array ty) := fun N9 z9 => by
    obtain ⟨-, k9, hk9, cm9, hkk9⟩ := (hO 0 0 0).1
    exact ⟨(fun q hq => by cases hq), k9, hk9, cm9, hkk9⟩
  have hK2 : va_K D cl (tys ++ [(cA, .array ty)]) s := ⟨hK.1, fun k9 x hx => by
    by_cases hl : k9 < tys.length
    · rw [List.getElem?_append_left hl] at hx
      exact hK.2 k9 x hx
    · rw [List.getElem?_append_right (by omega)] at hx
      have h0 : k9 - tys.length < 1 := (List.getElem?_eq_some_iff.mp hx).1
      rw [show k9 - tys.length = 0 by omega] at hx
      cases hx
      exact ⟨hAr, fA⟩⟩
  obtain ⟨t, a1, b1⟩ := kk H.size (fun i => H.size + 1 + i) cA F.heap (fun i j _ _ h => by have h9 : H.size + 1 + i = H.size + 1 + j := h; omega) hnl hK2 (by rw [← vr_rows hnm]; exact vr_lay hP2) (by rw [← vr_rows hnm]; exact vr_layD hD2) ⟨by rw [f1]; have := hS.1; omega, fun x h1 h2 => (hold x (Nat.lt_of_lt_of_le h1 hS.1)).trans (hS.2.1 x h1 h2), hS.2.2⟩ F rfl X'
  refine ⟨t, step t ?_, b1⟩
  have e : T.heap.size = H.size := by rw [hT]
  rw [e]
  exact a1
end VGM
/-! ===== END ===== -/


theorem vr_all {r : Nat → Nat} {f : Nat → va_E} {e : va_E} (N : Nat) : va_pl ((List.range N).map r) (vr_up f ((List.range N).map r) e) = (List.range N).map (fun i => (r i, e)) := by
  unfold va_pl
  rw [List.map_map]
  apply List.map_congr_left
  intro i hi
  show (r i, vr_up f _ e (r i)) = (r i, e)
  rw [vr_up_in (List.mem_map.mpr ⟨i, hi, rfl⟩)]
theorem arrV_cg {c : ClassId} {n : Nat} {f g : Nat → Value} (h : ∀ i, i < n → f i = g i) : arrV c n f = arrV c n g := by
  unfold arrV
  congr 1
  apply Array.ext
  · simp
  · intro i h1 h2
    simp only [Array.size_ofFn] at h1
    simp [h i h1]
theorem q_outer {D : va_G} {cl : List vw_C} {ws : va_W} {H : Heap} {x n : Nat} {c : ClassId} {f g : Nat → Option Nat} (hP : va_P D cl ws H) (p : Nat) (hp : ws[p]? = some (x, .inl (c, n, .inr (.inr (.inr (.inr f)))))) (h : ∀ i, i < n → f i = g i) : va_P D cl (ws.set p (x, .inl (c, n, .inr (.inr (.inr (.inr g)))))) H := by
  have hl := (List.getElem?_eq_some_iff.mp hp).1
  intro k q hk
  by_cases hkp : k = p
  · subst hkp
    rw [List.getElem?_set_self hl] at hk
    cases hk
    have h0 : H[x]? = some (vp_cell c (n, .inr (.inr (.inr (.inr f))))) := hP k _ hp
    show H[x]? = some (vp_cell c (n, .inr (.inr (.inr (.inr g)))))
    rw [h0, vp_cell_q, vp_cell_q, arrV_cg (fun i hi => by rw [h i hi])]
  · rw [List.getElem?_set_ne (Ne.symm hkp)] at hk
    exact hP k q hk
section QN
variable {p : Program} {l : Launch} {e : Env} {R : Room} {s : State} {m : MethodId} {args : Array Value} {below : List Frame} {meth : Method} {c : Code} {H : Heap} {locs : List Loc} {cells slots : Nat} {Q : State → Prop}
variable {cc : ByteArray} {own : String} {cy : Nat → ClassId} {D : va_G} {A : Nat → Prop} {pc : Nat} {ls : Array Slot} {rest : List Value} {ws : va_W} {H0 : Heap}
theorem q_newI (hx : p.tables.exec = Jvm.exec) (hb : c.code = cc) (ts : ∀ w ∈ WS, w.before args s = true) (hK : va_K D vwCl (tysG cy) s) (hP : va_P D vwCl ws H) (hD : va_D A ws) (hS : va_S A H0 H locs) (hA : ∀ q, H0.size ≤ q → A q) {n : Int32} {N2 : Nat} (hn : ¬ n < 0) (hN : n.toNatClampNeg = N2) (hby : N2 * 4 ≤ 536870912) (hcells : cells + 1 ≤ R.cells) (hslots : slots + N2 ≤ R.slots) (hdg : decode cc pc = .ok (.newarray .int, 2))
    (kk : ∀ (q : Nat) (H1 : Heap), va_P D vwCl (ws ++ [(q, .inl (cy 0, N2, .inl (fun _ => 0)))]) H1 → va_D A (ws ++ [(q, .inl (cy 0, N2, .inl (fun _ => 0)))]) → va_S A H0 H1 locs → W p l e R s m args below meth c H1 locs (cells + 1) (slots + N2) Q (F0 m (pc + 2) ls (.ref q :: rest))) : W p l e R s m args below meth c H locs cells slots Q (F0 m pc ls (.int n :: rest)) := by
  refine va_newa (atype := .int) (ty := .int) (a0 := (N2, .inl (fun _ => 0))) hx hb (ts _ wk_1_99) rfl hK hP hD hS hA (fun _ => rfl) hn hN hby hcells hslots hdg (fun q cA H1 hK1 hP1 hD1 hS1 => ?_)
  have e1 := (hK1.2 5 (cA, .int) rfl).2
  have e2 := (hK.2 0 (cy 0, .int) rfl).2
  have e3 : cA = cy 0 := Option.some.inj (e1.symm.trans e2)
  subst e3
  exact kk q H1 hP1 hD1 hS1
theorem q_newJ (hx : p.tables.exec = Jvm.exec) (hb : c.code = cc) (ts : ∀ w ∈ WS, w.before args s = true) (hK : va_K D vwCl (tysG cy) s) (hP : va_P D vwCl ws H) (hD : va_D A ws) (hS : va_S A H0 H locs) (hA : ∀ q, H0.size ≤ q → A q) {n : Int32} {N2 : Nat} (hn : ¬ n < 0) (hN : n.toNatClampNeg = N2) (hby : N2 * 8 ≤ 536870912) (hcells : cells + 1 ≤ R.cells) (hslots : slots + N2 ≤ R.slots) (hdg : decode cc pc = .ok (.newarray .long, 2))
    (kk : ∀ (q : Nat) (H1 : Heap), va_P D vwCl (ws ++ [(q, .inl (cy 1, N2, .inr (.inl (fun _ => 0))))]) H1 → va_D A (ws ++ [(q, .inl (cy 1, N2, .inr (.inl (fun _ => 0))))]) → va_S A H0 H1 locs → W p l e R s m args below meth c H1 locs (cells + 1) (slots + N2) Q (F0 m (pc + 2) ls (.ref q :: rest))) : W p l e R s m args below meth c H locs cells slots Q (F0 m pc ls (.int n :: rest)) := by
  refine va_newa (atype := .long) (ty := .long) (a0 := (N2, .inr (.inl (fun _ => 0)))) hx hb (ts _ wk_1_42) rfl hK hP hD hS hA (fun _ => rfl) hn hN hby hcells hslots hdg (fun q cA H1 hK1 hP1 hD1 hS1 => ?_)
  have e1 := (hK1.2 5 (cA, .long) rfl).2
  have e2 := (hK.2 1 (cy 1, .long) rfl).2
  have e3 : cA = cy 1 := Option.some.inj (e1.symm.trans e2)
  subst e3
  exact kk q H1 hP1 hD1 hS1
theorem q_mulI (hx : p.tables.exec = Jvm.exec) (hb : c.code = cc) (hown : s.vm.findClass own = some m.cls) (ts : ∀ w ∈ WS, w.before args s = true) (hK : va_K D vwCl (tysG cy) s) (ho : va_AOA .int s) (hP : va_P D vwCl ws H) (hD : va_D A ws) (hS : va_S A H0 H locs) (hA : ∀ q, H0.size ≤ q → A q) {index : Nat} {n k : Int32} {N2 K2 : Nat} (hcl : (Cond.classLink own index ("[" ++ (FieldType.array FieldType.int).toString)).before args s = true) (hn : ¬ n < 0) (hk : ¬ k < 0) (hN : n.toNatClampNeg = N2) (hM : k.toNatClampNeg = K2) (hb1 : N2 * 4 ≤ 536870912) (hb2 : K2 * 4 ≤ 536870912) (hcells : cells + (1 + N2) ≤ R.cells) (hslots : slots + (N2 + N2 * K2) ≤ R.slots) (hdg : decode cc pc = .ok (.multianewarray index 2, 4))
    (kk : ∀ (q : Nat) (r : Nat → Nat) (H1 : Heap), va_P D vwCl ((ws ++ [(q, .inl (cy 3, N2, .inr (.inr (.inr (.inr (fun i => if i < N2 then some (r i) else none))))))]) ++ (List.range N2).map (fun i => (r i, .inl (cy 0, K2, .inl (fun _ => 0))))) H1 → va_D A ((ws ++ [(q, .inl (cy 3, N2, .inr (.inr (.inr (.inr (fun i => if i < N2 then some (r i) else none))))))]) ++ (List.range N2).map (fun i => (r i, .inl (cy 0, K2, .inl (fun _ => 0))))) → va_S A H0 H1 locs → W p l e R s m args below meth c H1 locs (cells + 1 + N2) (slots + N2 + N2 * K2) Q (F0 m (pc + 4) ls (.ref q :: rest))) : W p l e R s m args below meth c H locs cells slots Q (F0 m pc ls (.int k :: .int n :: rest)) := by
  have e0 : ws ++ va_pl [] (fun _ => .inl (cy 0, 0, .inl (fun _ => 0))) = ws := by simp [va_pl]
  refine va_mna (X := ws) (L := []) (f := fun _ => .inl (cy 0, 0, .inl (fun _ => 0))) (ty := .int) (cy := cy 0) (z := (K2, .inl (fun _ => 0))) hx hb hown hcl ho (ts _ wk_1_99) (hK.2 0 (cy 0, .int) rfl).2 hK (by rw [e0]; exact hP) (by rw [e0]; exact hD) hS hA hn hk hN hM hb1 hb2 (by omega) rfl rfl hcells hslots (fun c9 => by
    show _ = arrV c9 K2 (fun _ => .int 0)
    rw [← arrV_new]; rfl) hdg (fun q r cA H1 _ _ hK1 hP1 hD1 hS1 => ?_)
  have e1 := (hK1.2 5 (cA, .array .int) rfl).2
  have e2 := (hK.2 3 (cy 3, .array .int) rfl).2
  have e3 : cA = cy 3 := Option.some.inj (e1.symm.trans e2)
  subst e3
  rw [List.nil_append, vr_all] at hP1 hD1
  exact kk q r H1 hP1 hD1 hS1
theorem q_mulJ (hx : p.tables.exec = Jvm.exec) (hb : c.code = cc) (hown : s.vm.findClass own = some m.cls) (ts : ∀ w ∈ WS, w.before args s = true) (hK : va_K D vwCl (tysG cy) s) (ho : va_AOA .long s) (hP : va_P D vwCl ws H) (hD : va_D A ws) (hS : va_S A H0 H locs) (hA : ∀ q, H0.size ≤ q → A q) {index : Nat} {n k : Int32} {N2 K2 : Nat} (hcl : (Cond.classLink own index ("[" ++ (FieldType.array FieldType.long).toString)).before args s = true) (hn : ¬ n < 0) (hk : ¬ k < 0) (hN : n.toNatClampNeg = N2) (hM : k.toNatClampNeg = K2) (hb1 : N2 * 4 ≤ 536870912) (hb2 : K2 * 8 ≤ 536870912) (hcells : cells + (1 + N2) ≤ R.cells) (hslots : slots + (N2 + N2 * K2) ≤ R.slots) (hdg : decode cc pc = .ok (.multianewarray index 2, 4))
    (kk : ∀ (q : Nat) (r : Nat → Nat) (H1 : Heap), va_P D vwCl ((ws ++ [(q, .inl (cy 4, N2, .inr (.inr (.inr (.inr (fun i => if i < N2 then some (r i) else none))))))]) ++ (List.range N2).map (fun i => (r i, .inl (cy 1, K2, .inr (.inl (fun _ => 0)))))) H1 → va_D A ((ws ++ [(q, .inl (cy 4, N2, .inr (.inr (.inr (.inr (fun i => if i < N2 then some (r i) else none))))))]) ++ (List.range N2).map (fun i => (r i, .inl (cy 1, K2, .inr (.inl (fun _ => 0)))))) → va_S A H0 H1 locs → W p l e R s m args below meth c H1 locs (cells + 1 + N2) (slots + N2 + N2 * K2) Q (F0 m (pc + 4) ls (.ref q :: rest))) : W p l e R s m args below meth c H locs cells slots Q (F0 m pc ls (.int k :: .int n :: rest)) := by
  have e0 : ws ++ va_pl [] (fun _ => .inl (cy 0, 0, .inl (fun _ => 0))) = ws := by simp [va_pl]
  refine va_mna (X := ws) (L := []) (f := fun _ => .inl (cy 0, 0, .inl (fun _ => 0))) (ty := .long) (cy := cy 1) (z := (K2, .inr (.inl (fun _ => 0)))) hx hb hown hcl ho (ts _ wk_1_42) (hK.2 1 (cy 1, .long) rfl).2 hK (by rw [e0]; exact hP) (by rw [e0]; exact hD) hS hA hn hk hN hM hb1 hb2 (by omega) rfl rfl hcells hslots (fun c9 => by
    show _ = arrV c9 K2 (fun _ => .long 0)
    rw [← arrV_new]; rfl) hdg (fun q r cA H1 _ _ hK1 hP1 hD1 hS1 => ?_)
  have e1 := (hK1.2 5 (cA, .array .long) rfl).2
  have e2 := (hK.2 4 (cy 4, .array .long) rfl).2
  have e3 : cA = cy 4 := Option.some.inj (e1.symm.trans e2)
  subst e3
  rw [List.nil_append, vr_all] at hP1 hD1
  exact kk q r H1 hP1 hD1 hS1
end QN

abbrev w_X3_init (cy : Nat → ClassId) (h0 : Nat) (u : Nat → Nat) : va_W := [(h0, .inr (3, [.ref (u 0)])), ((u 0), .inl (cy 1, 3, .inr (.inl (fun _ => 0))))]
set_option maxHeartbeats 4000000 in
set_option maxRecDepth 100000 in
theorem n_X3_init {l : Launch} {cy : Nat → ClassId} {D : va_G} (h0 sz : Nat) : Met l yX3_init (Cond.code yX3_init cX3_init 1 none :: WS) { frames := 1, cells := 1, slots := 3, locals := 12 } (va_Pc [.ref h0] (fun U => U.heap.size = sz ∧ va_P D vwCl [(h0, .inr (3, [.null]))] U.heap ∧ va_K D vwCl (tysG cy) U ∧ va_D (fun _ => True) [(h0, .inr (3, [.null]))] ∧ AOS U)) (va_Qv (S := Nat → Nat) (fun _ => True) (fun u t => va_P D vwCl (w_X3_init cy h0 u) t.heap ∧ va_D (va_A [(h0, .inr (3, [.null]))] sz) (w_X3_init cy h0 u)) (va_A [(h0, .inr (3, [.null]))] sz)) 1 3 (va_A [(h0, .inr (3, [.null]))] sz) := by
  refine Met.ofW (cc := cX3_init) (maxL := 1) (ret := none) (by decide +kernel) rfl ?_
  intro p e s m args below meth c s₁ B hml hv
  obtain ⟨rfl, hsz, hP, hK, hD0, ho⟩ := hv
  have hx := B.exec
  have hb := B.bytes
  have hr := B.returns
  have hts := atoms_spec (ws := Cond.code yX3_init cX3_init 1 none :: WS) B.pre
  have ts : ∀ w ∈ WS, w.before _ s = true := fun w hw => hts w (List.mem_cons_of_mem _ hw)
  have hown : s.vm.findClass RX3 = some m.cls := findClass_of_methodNamed B.named
  have hlk := B.notSynchronized
  have hin : meth.name = "<init>" := (name_of_methodNamed B.named B.method).1
  subst hsz
  have hD := hD0.self (sz := s.heap.size)
  generalize hAe : va_A [(h0, .inr (3, [.null]))] s.heap.size = A at hD ⊢
  have hA : ∀ q : Nat, s.heap.size ≤ q → A q := fun q h => by rw [← hAe]; exact Or.inr h
  have hS : va_S A s.heap s.heap [] := va_S.rf
  have hl := lv_entry ([.ref h0]) (n := 1) (Nat.le_of_ble_eq_true rfl)
  rw [lg_entry_eq]
  generalize (lg_sl ([.ref h0]) ++ List.replicate (1 - (lg_sl ([.ref h0])).length) Slot.unset).toArray = ls at hl ⊢
  have hl : lv_has ls 1 [(0, .ref h0)] := hl
  refine lv_aload_n hx hb dX3_init_0 rfl (lv_at hl 0 rfl) ?_
  refine W.objInit hx hb hown (ts _ wk_1_34) (ts _ wk_1_27) (ts _ wk_1_28) rfl (by rw [hml]; exact hl.1) rfl dX3_init_1 (Nat.le_of_ble_eq_true rfl) (Nat.le_of_ble_eq_true rfl) ?_
  refine W.eq (g2 := F0 m 4 ls []) rfl ?_
  refine lv_aload_n hx hb dX3_init_4 rfl (lv_at hl 0 rfl) ?_
  refine lv_iconst (v := (3 : Int32)) hx hb dX3_init_5 (by decide) ?_
  refine q_newJ hx hb ts hK hP hD hS hA (N2 := 3) (by decide) (by decide) (by decide) (Nat.le_of_ble_eq_true rfl) (Nat.le_of_ble_eq_true rfl) dX3_init_6 (fun q0 H hP hD hS => ?_)
  have hP : va_P D vwCl [(h0, .inr (3, [.null])), (q0, .inl (cy 1, 3, .inr (.inl (fun _ => 0))))] H := hP
  have hD : va_D A [(h0, .inr (3, [.null])), (q0, .inl (cy 1, 3, .inr (.inl (fun _ => 0))))] := hD
  refine W.widen (k := 1) (n := 3) (by omega) (by omega) ?_
  refine va_putF (D := D) (ci := 3) (v := .ref q0) (ty := (.array .long)) (C := RX3) (T := TX3) (N := 1) hx hb ts inX3 tyX3 tyX3_ok nmX3 hown hK hP hD hS 0 rfl rfl 0 (by decide) (ts _ wk_1_35) (fun _ h9 => h9) rfl hin rfl (by decide +kernel) rfl rfl (Nat.le_of_ble_eq_true rfl) dX3_init_8 (fun H locs hP hD hS => ?_)
  have hP : va_P D vwCl [(h0, .inr (3, [.ref q0])), (q0, .inl (cy 1, 3, .inr (.inl (fun _ => 0))))] H := hP
  have hD : va_D A [(h0, .inr (3, [.ref q0])), (q0, .inl (cy 1, 3, .inr (.inl (fun _ => 0))))] := hD
  let u : Nat → Nat := fun k => [q0].getD k 0
  have hP : va_P D vwCl (w_X3_init cy h0 u) H := hP
  have hD : va_D A (w_X3_init cy h0 u) := hD
  exact W.vret hx hb hr (fun t ht hW => ⟨⟨u, rfl, trivial, by rw [ht]; exact hP, hD⟩, hS.F ht⟩) hS.2.2 dX3_init_11 hlk
abbrev w_X1_init (cy : Nat → ClassId) (h0 : Nat) (u : Nat → Nat) : va_W := [(h0, .inr (1, [.ref (u 0), .ref (u 1), .ref (u 2), .ref (u 3), .ref (u 4), .ref (u 5), .int 0, .int 0, .int 0, .int 0])), ((u 0), .inl (cy 0, 5, .inl (fun _ => 0))), ((u 1), .inl (cy 0, 5, .inl (fun _ => 0))), ((u 2), .inl (cy 0, 5, .inl (fun _ => 0))), ((u 3), .inl (cy 0, 5, .inl (fun _ => 0))), ((u 4), .inl (cy 0, 5, .inl (fun _ => 0))), ((u 5), .inl (cy 0, 5, .inl (fun _ => 0)))]
set_option maxHeartbeats 4000000 in
set_option maxRecDepth 100000 in
theorem n_X1_init {l : Launch} {cy : Nat → ClassId} {D : va_G} (h0 sz : Nat) : Met l yX1_init (Cond.code yX1_init cX1_init 1 none :: WS) { frames := 1, cells := 6, slots := 30, locals := 12 } (va_Pc [.ref h0] (fun U => U.heap.size = sz ∧ va_P D vwCl [(h0, .inr (1, [.null, .null, .null, .null, .null, .null, .int 0, .int 0, .int 0, .int 0]))] U.heap ∧ va_K D vwCl (tysG cy) U ∧ va_D (fun _ => True) [(h0, .inr (1, [.null, .null, .null, .null, .null, .null, .int 0, .int 0, .int 0, .int 0]))] ∧ AOS U)) (va_Qv (S := Nat → Nat) (fun _ => True) (fun u t => va_P D vwCl (w_X1_init cy h0 u) t.heap ∧ va_D (va_A [(h0, .inr (1, [.null, .null, .null, .null, .null, .null, .int 0, .int 0, .int 0, .int 0]))] sz) (w_X1_init cy h0 u)) (va_A [(h0, .inr (1, [.null, .null, .null, .null, .null, .null, .int 0, .int 0, .int 0, .int 0]))] sz)) 6 30 (va_A [(h0, .inr (1, [.null, .null, .null, .null, .null, .null, .int 0, .int 0, .int 0, .int 0]))] sz) := by
  refine Met.ofW (cc := cX1_init) (maxL := 1) (ret := none) (by decide +kernel) rfl ?_
  intro p e s m args below meth c s₁ B hml hv
  obtain ⟨rfl, hsz, hP, hK, hD0, ho⟩ := hv
  have hx := B.exec
  have hb := B.bytes
  have hr := B.returns
  have hts := atoms_spec (ws := Cond.code yX1_init cX1_init 1 none :: WS) B.pre
  have ts : ∀ w ∈ WS, w.before _ s = true := fun w hw => hts w (List.mem_cons_of_mem _ hw)
  have hown : s.vm.findClass RX1 = some m.cls := findClass_of_methodNamed B.named
  have hlk := B.notSynchronized
  have hin : meth.name = "<init>" := (name_of_methodNamed B.named B.method).1
  subst hsz
  have hD := hD0.self (sz := s.heap.size)
  generalize hAe : va_A [(h0, .inr (1, [.null, .null, .null, .null, .null, .null, .int 0, .int 0, .int 0, .int 0]))] s.heap.size = A at hD ⊢
  have hA : ∀ q : Nat, s.heap.size ≤ q → A q := fun q h => by rw [← hAe]; exact Or.inr h
  have hS : va_S A s.heap s.heap [] := va_S.rf
  have hl := lv_entry ([.ref h0]) (n := 1) (Nat.le_of_ble_eq_true rfl)
  rw [lg_entry_eq]
  generalize (lg_sl ([.ref h0]) ++ List.replicate (1 - (lg_sl ([.ref h0])).length) Slot.unset).toArray = ls at hl ⊢
  have hl : lv_has ls 1 [(0, .ref h0)] := hl
  refine lv_aload_n hx hb dX1_init_0 rfl (lv_at hl 0 rfl) ?_
  refine W.objInit hx hb hown (ts _ wk_1_48) (ts _ wk_1_27) (ts _ wk_1_28) rfl (by rw [hml]; exact hl.1) rfl dX1_init_1 (Nat.le_of_ble_eq_true rfl) (Nat.le_of_ble_eq_true rfl) ?_
  refine W.eq (g2 := F0 m 4 ls []) rfl ?_
  refine lv_aload_n hx hb dX1_init_4 rfl (lv_at hl 0 rfl) ?_
  refine lv_iconst (v := (5 : Int32)) hx hb dX1_init_5 (by decide) ?_
  refine q_newI hx hb ts hK hP hD hS hA (N2 := 5) (by decide) (by decide) (by decide) (Nat.le_of_ble_eq_true rfl) (Nat.le_of_ble_eq_true rfl) dX1_init_6 (fun q0 H hP hD hS => ?_)
  have hP : va_P D vwCl [(h0, .inr (1, [.null, .null, .null, .null, .null, .null, .int 0, .int 0, .int 0, .int 0])), (q0, .inl (cy 0, 5, .inl (fun _ => 0)))] H := hP
  have hD : va_D A [(h0, .inr (1, [.null, .null, .null, .null, .null, .null, .int 0, .int 0, .int 0, .int 0])), (q0, .inl (cy 0, 5, .inl (fun _ => 0)))] := hD
  refine W.widen (k := 1) (n := 5) (by omega) (by omega) ?_
  refine va_putF (D := D) (ci := 1) (v := .ref q0) (ty := (.array .int)) (C := RX1) (T := TX1) (N := 10) hx hb ts inX1 tyX1 tyX1_ok nmX1 hown hK hP hD hS 0 rfl rfl 0 (by decide) (ts _ wk_1_49) (fun _ h9 => h9) rfl hin rfl (by decide +kernel) rfl rfl (Nat.le_of_ble_eq_true rfl) dX1_init_8 (fun H locs hP hD hS => ?_)
  have hP : va_P D vwCl [(h0, .inr (1, [.ref q0, .null, .null, .null, .null, .null, .int 0, .int 0, .int 0, .int 0])), (q0, .inl (cy 0, 5, .inl (fun _ => 0)))] H := hP
  have hD : va_D A [(h0, .inr (1, [.ref q0, .null, .null, .null, .null, .null, .int 0, .int 0, .int 0, .int 0])), (q0, .inl (cy 0, 5, .inl (fun _ => 0)))] := hD
  refine lv_aload_n hx hb dX1_init_11 rfl (lv_at hl 0 rfl) ?_
  refine lv_iconst (v := (5 : Int32)) hx hb dX1_init_12 (by decide) ?_
  refine q_newI hx hb ts hK hP hD hS hA (N2 := 5) (by decide) (by decide) (by decide) (Nat.le_of_ble_eq_true rfl) (Nat.le_of_ble_eq_true rfl) dX1_init_13 (fun q1 H hP hD hS => ?_)
  have hP : va_P D vwCl [(h0, .inr (1, [.ref q0, .null, .null, .null, .null, .null, .int 0, .int 0, .int 0, .int 0])), (q0, .inl (cy 0, 5, .inl (fun _ => 0))), (q1, .inl (cy 0, 5, .inl (fun _ => 0)))] H := hP
  have hD : va_D A [(h0, .inr (1, [.ref q0, .null, .null, .null, .null, .null, .int 0, .int 0, .int 0, .int 0])), (q0, .inl (cy 0, 5, .inl (fun _ => 0))), (q1, .inl (cy 0, 5, .inl (fun _ => 0)))] := hD
  refine W.widen (k := 2) (n := 10) (by omega) (by omega) ?_
  refine va_putF (D := D) (ci := 1) (v := .ref q1) (ty := (.array .int)) (C := RX1) (T := TX1) (N := 10) hx hb ts inX1 tyX1 tyX1_ok nmX1 hown hK hP hD hS 0 rfl rfl 1 (by decide) (ts _ wk_1_51) (fun _ h9 => h9) rfl hin rfl (by decide +kernel) rfl rfl (Nat.le_of_ble_eq_true rfl) dX1_init_15 (fun H locs hP hD hS => ?_)
  have hP : va_P D vwCl [(h0, .inr (1, [.ref q0, .ref q1, .null, .null, .null, .null, .int 0, .int 0, .int 0, .int 0])), (q0, .inl (cy 0, 5, .inl (fun _ => 0))), (q1, .inl (cy 0, 5, .inl (fun _ => 0)))] H := hP
  have hD : va_D A [(h0, .inr (1, [.ref q0, .ref q1, .null, .null, .null, .null, .int 0, .int 0, .int 0, .int 0])), (q0, .inl (cy 0, 5, .inl (fun _ => 0))), (q1, .inl (cy 0, 5, .inl (fun _ => 0)))] := hD
  refine lv_aload_n hx hb dX1_init_18 rfl (lv_at hl 0 rfl) ?_
  refine lv_iconst (v := (5 : Int32)) hx hb dX1_init_19 (by decide) ?_
  refine q_newI hx hb ts hK hP hD hS hA (N2 := 5) (by decide) (by decide) (by decide) (Nat.le_of_ble_eq_true rfl) (Nat.le_of_ble_eq_true rfl) dX1_init_20 (fun q2 H hP hD hS => ?_)
  have hP : va_P D vwCl [(h0, .inr (1, [.ref q0, .ref q1, .null, .null, .null, .null, .int 0, .int 0, .int 0, .int 0])), (q0, .inl (cy 0, 5, .inl (fun _ => 0))), (q1, .inl (cy 0, 5, .inl (fun _ => 0))), (q2, .inl (cy 0, 5, .inl (fun _ => 0)))] H := hP
  have hD : va_D A [(h0, .inr (1, [.ref q0, .ref q1, .null, .null, .null, .null, .int 0, .int 0, .int 0, .int 0])), (q0, .inl (cy 0, 5, .inl (fun _ => 0))), (q1, .inl (cy 0, 5, .inl (fun _ => 0))), (q2, .inl (cy 0, 5, .inl (fun _ => 0)))] := hD
  refine W.widen (k := 3) (n := 15) (by omega) (by omega) ?_
  refine va_putF (D := D) (ci := 1) (v := .ref q2) (ty := (.array .int)) (C := RX1) (T := TX1) (N := 10) hx hb ts inX1 tyX1 tyX1_ok nmX1 hown hK hP hD hS 0 rfl rfl 2 (by decide) (ts _ wk_1_53) (fun _ h9 => h9) rfl hin rfl (by decide +kernel) rfl rfl (Nat.le_of_ble_eq_true rfl) dX1_init_22 (fun H locs hP hD hS => ?_)
  have hP : va_P D vwCl [(h0, .inr (1, [.ref q0, .ref q1, .ref q2, .null, .null, .null, .int 0, .int 0, .int 0, .int 0])), (q0, .inl (cy 0, 5, .inl (fun _ => 0))), (q1, .inl (cy 0, 5, .inl (fun _ => 0))), (q2, .inl (cy 0, 5, .inl (fun _ => 0)))] H := hP
  have hD : va_D A [(h0, .inr (1, [.ref q0, .ref q1, .ref q2, .null, .null, .null, .int 0, .int 0, .int 0, .int 0])), (q0, .inl (cy 0, 5, .inl (fun _ => 0))), (q1, .inl (cy 0, 5, .inl (fun _ => 0))), (q2, .inl (cy 0, 5, .inl (fun _ => 0)))] := hD
  refine lv_aload_n hx hb dX1_init_25 rfl (lv_at hl 0 rfl) ?_
  refine lv_iconst (v := (5 : Int32)) hx hb dX1_init_26 (by decide) ?_
  refine q_newI hx hb ts hK hP hD hS hA (N2 := 5) (by decide) (by decide) (by decide) (Nat.le_of_ble_eq_true rfl) (Nat.le_of_ble_eq_true rfl) dX1_init_27 (fun q3 H hP hD hS => ?_)
  have hP : va_P D vwCl [(h0, .inr (1, [.ref q0, .ref q1, .ref q2, .null, .null, .null, .int 0, .int 0, .int 0, .int 0])), (q0, .inl (cy 0, 5, .inl (fun _ => 0))), (q1, .inl (cy 0, 5, .inl (fun _ => 0))), (q2, .inl (cy 0, 5, .inl (fun _ => 0))), (q3, .inl (cy 0, 5, .inl (fun _ => 0)))] H := hP
  have hD : va_D A [(h0, .inr (1, [.ref q0, .ref q1, .ref q2, .null, .null, .null, .int 0, .int 0, .int 0, .int 0])), (q0, .inl (cy 0, 5, .inl (fun _ => 0))), (q1, .inl (cy 0, 5, .inl (fun _ => 0))), (q2, .inl (cy 0, 5, .inl (fun _ => 0))), (q3, .inl (cy 0, 5, .inl (fun _ => 0)))] := hD
  refine W.widen (k := 4) (n := 20) (by omega) (by omega) ?_
  refine va_putF (D := D) (ci := 1) (v := .ref q3) (ty := (.array .int)) (C := RX1) (T := TX1) (N := 10) hx hb ts inX1 tyX1 tyX1_ok nmX1 hown hK hP hD hS 0 rfl rfl 3 (by decide) (ts _ wk_1_55) (fun _ h9 => h9) rfl hin rfl (by decide +kernel) rfl rfl (Nat.le_of_ble_eq_true rfl) dX1_init_29 (fun H locs hP hD hS => ?_)
  have hP : va_P D vwCl [(h0, .inr (1, [.ref q0, .ref q1, .ref q2, .ref q3, .null, .null, .int 0, .int 0, .int 0, .int 0])), (q0, .inl (cy 0, 5, .inl (fun _ => 0))), (q1, .inl (cy 0, 5, .inl (fun _ => 0))), (q2, .inl (cy 0, 5, .inl (fun _ => 0))), (q3, .inl (cy 0, 5, .inl (fun _ => 0)))] H := hP
  have hD : va_D A [(h0, .inr (1, [.ref q0, .ref q1, .ref q2, .ref q3, .null, .null, .int 0, .int 0, .int 0, .int 0])), (q0, .inl (cy 0, 5, .inl (fun _ => 0))), (q1, .inl (cy 0, 5, .inl (fun _ => 0))), (q2, .inl (cy 0, 5, .inl (fun _ => 0))), (q3, .inl (cy 0, 5, .inl (fun _ => 0)))] := hD
  refine lv_aload_n hx hb dX1_init_32 rfl (lv_at hl 0 rfl) ?_
  refine lv_iconst (v := (5 : Int32)) hx hb dX1_init_33 (by decide) ?_
  refine q_newI hx hb ts hK hP hD hS hA (N2 := 5) (by decide) (by decide) (by decide) (Nat.le_of_ble_eq_true rfl) (Nat.le_of_ble_eq_true rfl) dX1_init_34 (fun q4 H hP hD hS => ?_)
  have hP : va_P D vwCl [(h0, .inr (1, [.ref q0, .ref q1, .ref q2, .ref q3, .null, .null, .int 0, .int 0, .int 0, .int 0])), (q0, .inl (cy 0, 5, .inl (fun _ => 0))), (q1, .inl (cy 0, 5, .inl (fun _ => 0))), (q2, .inl (cy 0, 5, .inl (fun _ => 0))), (q3, .inl (cy 0, 5, .inl (fun _ => 0))), (q4, .inl (cy 0, 5, .inl (fun _ => 0)))] H := hP
  have hD : va_D A [(h0, .inr (1, [.ref q0, .ref q1, .ref q2, .ref q3, .null, .null, .int 0, .int 0, .int 0, .int 0])), (q0, .inl (cy 0, 5, .inl (fun _ => 0))), (q1, .inl (cy 0, 5, .inl (fun _ => 0))), (q2, .inl (cy 0, 5, .inl (fun _ => 0))), (q3, .inl (cy 0, 5, .inl (fun _ => 0))), (q4, .inl (cy 0, 5, .inl (fun _ => 0)))] := hD
  refine W.widen (k := 5) (n := 25) (by omega) (by omega) ?_
  refine va_putF (D := D) (ci := 1) (v := .ref q4) (ty := (.array .int)) (C := RX1) (T := TX1) (N := 10) hx hb ts inX1 tyX1 tyX1_ok nmX1 hown hK hP hD hS 0 rfl rfl 4 (by decide) (ts _ wk_1_58) (fun _ h9 => h9) rfl hin rfl (by decide +kernel) rfl rfl (Nat.le_of_ble_eq_true rfl) dX1_init_36 (fun H locs hP hD hS => ?_)
  have hP : va_P D vwCl [(h0, .inr (1, [.ref q0, .ref q1, .ref q2, .ref q3, .ref q4, .null, .int 0, .int 0, .int 0, .int 0])), (q0, .inl (cy 0, 5, .inl (fun _ => 0))), (q1, .inl (cy 0, 5, .inl (fun _ => 0))), (q2, .inl (cy 0, 5, .inl (fun _ => 0))), (q3, .inl (cy 0, 5, .inl (fun _ => 0))), (q4, .inl (cy 0, 5, .inl (fun _ => 0)))] H := hP
  have hD : va_D A [(h0, .inr (1, [.ref q0, .ref q1, .ref q2, .ref q3, .ref q4, .null, .int 0, .int 0, .int 0, .int 0])), (q0, .inl (cy 0, 5, .inl (fun _ => 0))), (q1, .inl (cy 0, 5, .inl (fun _ => 0))), (q2, .inl (cy 0, 5, .inl (fun _ => 0))), (q3, .inl (cy 0, 5, .inl (fun _ => 0))), (q4, .inl (cy 0, 5, .inl (fun _ => 0)))] := hD
  refine lv_aload_n hx hb dX1_init_39 rfl (lv_at hl 0 rfl) ?_
  refine lv_iconst (v := (5 : Int32)) hx hb dX1_init_40 (by decide) ?_
  refine q_newI hx hb ts hK hP hD hS hA (N2 := 5) (by decide) (by decide) (by decide) (Nat.le_of_ble_eq_true rfl) (Nat.le_of_ble_eq_true rfl) dX1_init_41 (fun q5 H hP hD hS => ?_)
  have hP : va_P D vwCl [(h0, .inr (1, [.ref q0, .ref q1, .ref q2, .ref q3, .ref q4, .null, .int 0, .int 0, .int 0, .int 0])), (q0, .inl (cy 0, 5, .inl (fun _ => 0))), (q1, .inl (cy 0, 5, .inl (fun _ => 0))), (q2, .inl (cy 0, 5, .inl (fun _ => 0))), (q3, .inl (cy 0, 5, .inl (fun _ => 0))), (q4, .inl (cy 0, 5, .inl (fun _ => 0))), (q5, .inl (cy 0, 5, .inl (fun _ => 0)))] H := hP
  have hD : va_D A [(h0, .inr (1, [.ref q0, .ref q1, .ref q2, .ref q3, .ref q4, .null, .int 0, .int 0, .int 0, .int 0])), (q0, .inl (cy 0, 5, .inl (fun _ => 0))), (q1, .inl (cy 0, 5, .inl (fun _ => 0))), (q2, .inl (cy 0, 5, .inl (fun _ => 0))), (q3, .inl (cy 0, 5, .inl (fun _ => 0))), (q4, .inl (cy 0, 5, .inl (fun _ => 0))), (q5, .inl (cy 0, 5, .inl (fun _ => 0)))] := hD
  refine W.widen (k := 6) (n := 30) (by omega) (by omega) ?_
  refine va_putF (D := D) (ci := 1) (v := .ref q5) (ty := (.array .int)) (C := RX1) (T := TX1) (N := 10) hx hb ts inX1 tyX1 tyX1_ok nmX1 hown hK hP hD hS 0 rfl rfl 5 (by decide) (ts _ wk_1_61) (fun _ h9 => h9) rfl hin rfl (by decide +kernel) rfl rfl (Nat.le_of_ble_eq_true rfl) dX1_init_43 (fun H locs hP hD hS => ?_)
  have hP : va_P D vwCl [(h0, .inr (1, [.ref q0, .ref q1, .ref q2, .ref q3, .ref q4, .ref q5, .int 0, .int 0, .int 0, .int 0])), (q0, .inl (cy 0, 5, .inl (fun _ => 0))), (q1, .inl (cy 0, 5, .inl (fun _ => 0))), (q2, .inl (cy 0, 5, .inl (fun _ => 0))), (q3, .inl (cy 0, 5, .inl (fun _ => 0))), (q4, .inl (cy 0, 5, .inl (fun _ => 0))), (q5, .inl (cy 0, 5, .inl (fun _ => 0)))] H := hP
  have hD : va_D A [(h0, .inr (1, [.ref q0, .ref q1, .ref q2, .ref q3, .ref q4, .ref q5, .int 0, .int 0, .int 0, .int 0])), (q0, .inl (cy 0, 5, .inl (fun _ => 0))), (q1, .inl (cy 0, 5, .inl (fun _ => 0))), (q2, .inl (cy 0, 5, .inl (fun _ => 0))), (q3, .inl (cy 0, 5, .inl (fun _ => 0))), (q4, .inl (cy 0, 5, .inl (fun _ => 0))), (q5, .inl (cy 0, 5, .inl (fun _ => 0)))] := hD
  let u : Nat → Nat := fun k => [q0, q1, q2, q3, q4, q5].getD k 0
  have hP : va_P D vwCl (w_X1_init cy h0 u) H := hP
  have hD : va_D A (w_X1_init cy h0 u) := hD
  exact W.vret hx hb hr (fun t ht hW => ⟨⟨u, rfl, trivial, by rw [ht]; exact hP, hD⟩, hS.F ht⟩) hS.2.2 dX1_init_46 hlk
abbrev w_X4_init (cy : Nat → ClassId) (h0 : Nat) (u : Nat → Nat) : va_W := [(h0, .inr (4, [.ref (u 0), .int 0, .ref (u 1), .ref (u 2), .int 0, .int 0, .int 0, .int 0, .int 0])), ((u 0), .inl (cy 0, 160, .inl (fun _ => 0))), ((u 1), .inl (cy 0, 160, .inl (fun _ => 0))), ((u 2), .inl (cy 0, 3, .inl (fun _ => 0)))]
set_option maxHeartbeats 4000000 in
set_option maxRecDepth 100000 in
theorem n_X4_init {l : Launch} {cy : Nat → ClassId} {D : va_G} (h0 sz : Nat) : Met l yX4_init (Cond.code yX4_init cX4_init 1 none :: WS) { frames := 1, cells := 3, slots := 323, locals := 12 } (va_Pc [.ref h0] (fun U => U.heap.size = sz ∧ va_P D vwCl [(h0, .inr (4, [.null, .int 0, .null, .null, .int 0, .int 0, .int 0, .int 0, .int 0]))] U.heap ∧ va_K D vwCl (tysG cy) U ∧ va_D (fun _ => True) [(h0, .inr (4, [.null, .int 0, .null, .null, .int 0, .int 0, .int 0, .int 0, .int 0]))] ∧ AOS U)) (va_Qv (S := Nat → Nat) (fun _ => True) (fun u t => va_P D vwCl (w_X4_init cy h0 u) t.heap ∧ va_D (va_A [(h0, .inr (4, [.null, .int 0, .null, .null, .int 0, .int 0, .int 0, .int 0, .int 0]))] sz) (w_X4_init cy h0 u)) (va_A [(h0, .inr (4, [.null, .int 0, .null, .null, .int 0, .int 0, .int 0, .int 0, .int 0]))] sz)) 3 323 (va_A [(h0, .inr (4, [.null, .int 0, .null, .null, .int 0, .int 0, .int 0, .int 0, .int 0]))] sz) := by
  refine Met.ofW (cc := cX4_init) (maxL := 1) (ret := none) (by decide +kernel) rfl ?_
  intro p e s m args below meth c s₁ B hml hv
  obtain ⟨rfl, hsz, hP, hK, hD0, ho⟩ := hv
  have hx := B.exec
  have hb := B.bytes
  have hr := B.returns
  have hts := atoms_spec (ws := Cond.code yX4_init cX4_init 1 none :: WS) B.pre
  have ts : ∀ w ∈ WS, w.before _ s = true := fun w hw => hts w (List.mem_cons_of_mem _ hw)
  have hown : s.vm.findClass RX4 = some m.cls := findClass_of_methodNamed B.named
  have hlk := B.notSynchronized
  have hin : meth.name = "<init>" := (name_of_methodNamed B.named B.method).1
  subst hsz
  have hD := hD0.self (sz := s.heap.size)
  generalize hAe : va_A [(h0, .inr (4, [.null, .int 0, .null, .null, .int 0, .int 0, .int 0, .int 0, .int 0]))] s.heap.size = A at hD ⊢
  have hA : ∀ q : Nat, s.heap.size ≤ q → A q := fun q h => by rw [← hAe]; exact Or.inr h
  have hS : va_S A s.heap s.heap [] := va_S.rf
  have hl := lv_entry ([.ref h0]) (n := 1) (Nat.le_of_ble_eq_true rfl)
  rw [lg_entry_eq]
  generalize (lg_sl ([.ref h0]) ++ List.replicate (1 - (lg_sl ([.ref h0])).length) Slot.unset).toArray = ls at hl ⊢
  have hl : lv_has ls 1 [(0, .ref h0)] := hl
  refine lv_aload_n hx hb dX4_init_0 rfl (lv_at hl 0 rfl) ?_
  refine W.objInit hx hb hown (ts _ wk_1_105) (ts _ wk_1_27) (ts _ wk_1_28) rfl (by rw [hml]; exact hl.1) rfl dX4_init_1 (Nat.le_of_ble_eq_true rfl) (Nat.le_of_ble_eq_true rfl) ?_
  refine W.eq (g2 := F0 m 4 ls []) rfl ?_
  refine lv_aload_n hx hb dX4_init_4 rfl (lv_at hl 0 rfl) ?_
  refine lv_sipush (v := (160 : Int32)) hx hb dX4_init_5 (by decide) ?_
  refine q_newI hx hb ts hK hP hD hS hA (N2 := 160) (by decide) (by decide) (by decide) (Nat.le_of_ble_eq_true rfl) (Nat.le_of_ble_eq_true rfl) dX4_init_8 (fun q0 H hP hD hS => ?_)
  have hP : va_P D vwCl [(h0, .inr (4, [.null, .int 0, .null, .null, .int 0, .int 0, .int 0, .int 0, .int 0])), (q0, .inl (cy 0, 160, .inl (fun _ => 0)))] H := hP
  have hD : va_D A [(h0, .inr (4, [.null, .int 0, .null, .null, .int 0, .int 0, .int 0, .int 0, .int 0])), (q0, .inl (cy 0, 160, .inl (fun _ => 0)))] := hD
  refine W.widen (k := 1) (n := 160) (by omega) (by omega) ?_
  refine va_putF (D := D) (ci := 4) (v := .ref q0) (ty := (.array .int)) (C := RX4) (T := TX4) (N := 9) hx hb ts inX4 tyX4 tyX4_ok nmX4 hown hK hP hD hS 0 rfl rfl 0 (by decide) (ts _ wk_1_106) (fun _ h9 => h9) rfl hin rfl (by decide +kernel) rfl rfl (Nat.le_of_ble_eq_true rfl) dX4_init_10 (fun H locs hP hD hS => ?_)
  have hP : va_P D vwCl [(h0, .inr (4, [.ref q0, .int 0, .null, .null, .int 0, .int 0, .int 0, .int 0, .int 0])), (q0, .inl (cy 0, 160, .inl (fun _ => 0)))] H := hP
  have hD : va_D A [(h0, .inr (4, [.ref q0, .int 0, .null, .null, .int 0, .int 0, .int 0, .int 0, .int 0])), (q0, .inl (cy 0, 160, .inl (fun _ => 0)))] := hD
  refine lv_aload_n hx hb dX4_init_13 rfl (lv_at hl 0 rfl) ?_
  refine lv_sipush (v := (160 : Int32)) hx hb dX4_init_14 (by decide) ?_
  refine q_newI hx hb ts hK hP hD hS hA (N2 := 160) (by decide) (by decide) (by decide) (Nat.le_of_ble_eq_true rfl) (Nat.le_of_ble_eq_true rfl) dX4_init_17 (fun q1 H hP hD hS => ?_)
  have hP : va_P D vwCl [(h0, .inr (4, [.ref q0, .int 0, .null, .null, .int 0, .int 0, .int 0, .int 0, .int 0])), (q0, .inl (cy 0, 160, .inl (fun _ => 0))), (q1, .inl (cy 0, 160, .inl (fun _ => 0)))] H := hP
  have hD : va_D A [(h0, .inr (4, [.ref q0, .int 0, .null, .null, .int 0, .int 0, .int 0, .int 0, .int 0])), (q0, .inl (cy 0, 160, .inl (fun _ => 0))), (q1, .inl (cy 0, 160, .inl (fun _ => 0)))] := hD
  refine W.widen (k := 2) (n := 320) (by omega) (by omega) ?_
  refine va_putF (D := D) (ci := 4) (v := .ref q1) (ty := (.array .int)) (C := RX4) (T := TX4) (N := 9) hx hb ts inX4 tyX4 tyX4_ok nmX4 hown hK hP hD hS 0 rfl rfl 2 (by decide) (ts _ wk_1_109) (fun _ h9 => h9) rfl hin rfl (by decide +kernel) rfl rfl (Nat.le_of_ble_eq_true rfl) dX4_init_19 (fun H locs hP hD hS => ?_)
  have hP : va_P D vwCl [(h0, .inr (4, [.ref q0, .int 0, .ref q1, .null, .int 0, .int 0, .int 0, .int 0, .int 0])), (q0, .inl (cy 0, 160, .inl (fun _ => 0))), (q1, .inl (cy 0, 160, .inl (fun _ => 0)))] H := hP
  have hD : va_D A [(h0, .inr (4, [.ref q0, .int 0, .ref q1, .null, .int 0, .int 0, .int 0, .int 0, .int 0])), (q0, .inl (cy 0, 160, .inl (fun _ => 0))), (q1, .inl (cy 0, 160, .inl (fun _ => 0)))] := hD
  refine lv_aload_n hx hb dX4_init_22 rfl (lv_at hl 0 rfl) ?_
  refine lv_iconst (v := (3 : Int32)) hx hb dX4_init_23 (by decide) ?_
  refine q_newI hx hb ts hK hP hD hS hA (N2 := 3) (by decide) (by decide) (by decide) (Nat.le_of_ble_eq_true rfl) (Nat.le_of_ble_eq_true rfl) dX4_init_24 (fun q2 H hP hD hS => ?_)
  have hP : va_P D vwCl [(h0, .inr (4, [.ref q0, .int 0, .ref q1, .null, .int 0, .int 0, .int 0, .int 0, .int 0])), (q0, .inl (cy 0, 160, .inl (fun _ => 0))), (q1, .inl (cy 0, 160, .inl (fun _ => 0))), (q2, .inl (cy 0, 3, .inl (fun _ => 0)))] H := hP
  have hD : va_D A [(h0, .inr (4, [.ref q0, .int 0, .ref q1, .null, .int 0, .int 0, .int 0, .int 0, .int 0])), (q0, .inl (cy 0, 160, .inl (fun _ => 0))), (q1, .inl (cy 0, 160, .inl (fun _ => 0))), (q2, .inl (cy 0, 3, .inl (fun _ => 0)))] := hD
  refine W.widen (k := 3) (n := 323) (by omega) (by omega) ?_
  refine va_putF (D := D) (ci := 4) (v := .ref q2) (ty := (.array .int)) (C := RX4) (T := TX4) (N := 9) hx hb ts inX4 tyX4 tyX4_ok nmX4 hown hK hP hD hS 0 rfl rfl 3 (by decide) (ts _ wk_1_111) (fun _ h9 => h9) rfl hin rfl (by decide +kernel) rfl rfl (Nat.le_of_ble_eq_true rfl) dX4_init_26 (fun H locs hP hD hS => ?_)
  have hP : va_P D vwCl [(h0, .inr (4, [.ref q0, .int 0, .ref q1, .ref q2, .int 0, .int 0, .int 0, .int 0, .int 0])), (q0, .inl (cy 0, 160, .inl (fun _ => 0))), (q1, .inl (cy 0, 160, .inl (fun _ => 0))), (q2, .inl (cy 0, 3, .inl (fun _ => 0)))] H := hP
  have hD : va_D A [(h0, .inr (4, [.ref q0, .int 0, .ref q1, .ref q2, .int 0, .int 0, .int 0, .int 0, .int 0])), (q0, .inl (cy 0, 160, .inl (fun _ => 0))), (q1, .inl (cy 0, 160, .inl (fun _ => 0))), (q2, .inl (cy 0, 3, .inl (fun _ => 0)))] := hD
  let u : Nat → Nat := fun k => [q0, q1, q2].getD k 0
  have hP : va_P D vwCl (w_X4_init cy h0 u) H := hP
  have hD : va_D A (w_X4_init cy h0 u) := hD
  exact W.vret hx hb hr (fun t ht hW => ⟨⟨u, rfl, trivial, by rw [ht]; exact hP, hD⟩, hS.F ht⟩) hS.2.2 dX4_init_29 hlk
abbrev w_X6_init (cy : Nat → ClassId) (h0 : Nat) (u : Nat → Nat) : va_W := [(h0, .inr (6, [.ref (u 0), .ref (u 7), .int 0, .int 0, .ref (u 14), .ref (u 15)])), ((u 0), .inl (cy 3, 6, .inr (.inr (.inr (.inr (fun i => some (u (1 + i)))))))), ((u 1), .inl (cy 0, 160, .inl (fun _ => 0))), ((u 2), .inl (cy 0, 160, .inl (fun _ => 0))), ((u 3), .inl (cy 0, 160, .inl (fun _ => 0))), ((u 4), .inl (cy 0, 160, .inl (fun _ => 0))), ((u 5), .inl (cy 0, 160, .inl (fun _ => 0))), ((u 6), .inl (cy 0, 160, .inl (fun _ => 0))), ((u 7), .inl (cy 3, 6, .inr (.inr (.inr (.inr (fun i => some (u (8 + i)))))))), ((u 8), .inl (cy 0, 3, .inl (fun _ => 0))), ((u 9), .inl (cy 0, 3, .inl (fun _ => 0))), ((u 10), .inl (cy 0, 3, .inl (fun _ => 0))), ((u 11), .inl (cy 0, 3, .inl (fun _ => 0))), ((u 12), .inl (cy 0, 3, .inl (fun _ => 0))), ((u 13), .inl (cy 0, 3, .inl (fun _ => 0))), ((u 14), .inl (cy 0, 6, .inl (fun _ => 0))), ((u 15), .inl (cy 0, 160, .inl (fun _ => 0)))]
set_option maxHeartbeats 4000000 in
set_option maxRecDepth 100000 in
theorem n_X6_init {l : Launch} {cy : Nat → ClassId} {D : va_G} (h0 sz : Nat) : Met l yX6_init (Cond.code yX6_init cX6_init 1 none :: WS) { frames := 1, cells := 16, slots := 1156, locals := 12 } (va_Pc [.ref h0] (fun U => U.heap.size = sz ∧ va_P D vwCl [(h0, .inr (6, [.null, .null, .int 0, .int 0, .null, .null]))] U.heap ∧ va_K D vwCl (tysG cy) U ∧ va_D (fun _ => True) [(h0, .inr (6, [.null, .null, .int 0, .int 0, .null, .null]))] ∧ AOS U)) (va_Qv (S := Nat → Nat) (fun _ => True) (fun u t => va_P D vwCl (w_X6_init cy h0 u) t.heap ∧ va_D (va_A [(h0, .inr (6, [.null, .null, .int 0, .int 0, .null, .null]))] sz) (w_X6_init cy h0 u)) (va_A [(h0, .inr (6, [.null, .null, .int 0, .int 0, .null, .null]))] sz)) 16 1156 (va_A [(h0, .inr (6, [.null, .null, .int 0, .int 0, .null, .null]))] sz) := by
  refine Met.ofW (cc := cX6_init) (maxL := 1) (ret := none) (by decide +kernel) rfl ?_
  intro p e s m args below meth c s₁ B hml hv
  obtain ⟨rfl, hsz, hP, hK, hD0, ho⟩ := hv
  have hx := B.exec
  have hb := B.bytes
  have hr := B.returns
  have hts := atoms_spec (ws := Cond.code yX6_init cX6_init 1 none :: WS) B.pre
  have ts : ∀ w ∈ WS, w.before _ s = true := fun w hw => hts w (List.mem_cons_of_mem _ hw)
  have hown : s.vm.findClass RX6 = some m.cls := findClass_of_methodNamed B.named
  have hlk := B.notSynchronized
  have hin : meth.name = "<init>" := (name_of_methodNamed B.named B.method).1
  subst hsz
  have hD := hD0.self (sz := s.heap.size)
  generalize hAe : va_A [(h0, .inr (6, [.null, .null, .int 0, .int 0, .null, .null]))] s.heap.size = A at hD ⊢
  have hA : ∀ q : Nat, s.heap.size ≤ q → A q := fun q h => by rw [← hAe]; exact Or.inr h
  have hS : va_S A s.heap s.heap [] := va_S.rf
  have hl := lv_entry ([.ref h0]) (n := 1) (Nat.le_of_ble_eq_true rfl)
  rw [lg_entry_eq]
  generalize (lg_sl ([.ref h0]) ++ List.replicate (1 - (lg_sl ([.ref h0])).length) Slot.unset).toArray = ls at hl ⊢
  have hl : lv_has ls 1 [(0, .ref h0)] := hl
  refine lv_aload_n hx hb dX6_init_0 rfl (lv_at hl 0 rfl) ?_
  refine W.objInit hx hb hown (ts _ wk_1_142) (ts _ wk_1_27) (ts _ wk_1_28) rfl (by rw [hml]; exact hl.1) rfl dX6_init_1 (Nat.le_of_ble_eq_true rfl) (Nat.le_of_ble_eq_true rfl) ?_
  refine W.eq (g2 := F0 m 4 ls []) rfl ?_
  refine lv_aload_n hx hb dX6_init_4 rfl (lv_at hl 0 rfl) ?_
  refine lv_bipush (v := (6 : Int32)) hx hb dX6_init_5 (by decide) ?_
  refine lv_sipush (v := (160 : Int32)) hx hb dX6_init_7 (by decide) ?_
  refine q_mulI hx hb hown ts hK (ho.1) hP hD hS hA (N2 := 6) (K2 := 160) (ts _ wk_1_143) (by decide) (by decide) (by decide) (by decide) (by decide) (by decide) (Nat.le_of_ble_eq_true rfl) (Nat.le_of_ble_eq_true rfl) dX6_init_10 (fun q0 r0 H hP hD hS => ?_)
  have hP : va_P D vwCl [(h0, .inr (6, [.null, .null, .int 0, .int 0, .null, .null])), (q0, .inl (cy 3, 6, .inr (.inr (.inr (.inr (fun i => if i < 6 then some (r0 i) else none)))))), ((r0 0), .inl (cy 0, 160, .inl (fun _ => 0))), ((r0 1), .inl (cy 0, 160, .inl (fun _ => 0))), ((r0 2), .inl (cy 0, 160, .inl (fun _ => 0))), ((r0 3), .inl (cy 0, 160, .inl (fun _ => 0))), ((r0 4), .inl (cy 0, 160, .inl (fun _ => 0))), ((r0 5), .inl (cy 0, 160, .inl (fun _ => 0)))] H := hP
  have hD : va_D A [(h0, .inr (6, [.null, .null, .int 0, .int 0, .null, .null])), (q0, .inl (cy 3, 6, .inr (.inr (.inr (.inr (fun i => if i < 6 then some (r0 i) else none)))))), ((r0 0), .inl (cy 0, 160, .inl (fun _ => 0))), ((r0 1), .inl (cy 0, 160, .inl (fun _ => 0))), ((r0 2), .inl (cy 0, 160, .inl (fun _ => 0))), ((r0 3), .inl (cy 0, 160, .inl (fun _ => 0))), ((r0 4), .inl (cy 0, 160, .inl (fun _ => 0))), ((r0 5), .inl (cy 0, 160, .inl (fun _ => 0)))] := hD
  refine W.widen (k := 7) (n := 966) (by omega) (by omega) ?_
  refine va_putF (D := D) (ci := 6) (v := .ref q0) (ty := (.array (.array .int))) (C := RX6) (T := TX6) (N := 6) hx hb ts inX6 tyX6 tyX6_ok nmX6 hown hK hP hD hS 0 rfl rfl 0 (by decide) (ts _ wk_1_145) (fun _ h9 => h9) rfl hin rfl (by decide +kernel) rfl rfl (Nat.le_of_ble_eq_true rfl) dX6_init_14 (fun H locs hP hD hS => ?_)
  have hP : va_P D vwCl [(h0, .inr (6, [.ref q0, .null, .int 0, .int 0, .null, .null])), (q0, .inl (cy 3, 6, .inr (.inr (.inr (.inr (fun i => if i < 6 then some (r0 i) else none)))))), ((r0 0), .inl (cy 0, 160, .inl (fun _ => 0))), ((r0 1), .inl (cy 0, 160, .inl (fun _ => 0))), ((r0 2), .inl (cy 0, 160, .inl (fun _ => 0))), ((r0 3), .inl (cy 0, 160, .inl (fun _ => 0))), ((r0 4), .inl (cy 0, 160, .inl (fun _ => 0))), ((r0 5), .inl (cy 0, 160, .inl (fun _ => 0)))] H := hP
  have hD : va_D A [(h0, .inr (6, [.ref q0, .null, .int 0, .int 0, .null, .null])), (q0, .inl (cy 3, 6, .inr (.inr (.inr (.inr (fun i => if i < 6 then some (r0 i) else none)))))), ((r0 0), .inl (cy 0, 160, .inl (fun _ => 0))), ((r0 1), .inl (cy 0, 160, .inl (fun _ => 0))), ((r0 2), .inl (cy 0, 160, .inl (fun _ => 0))), ((r0 3), .inl (cy 0, 160, .inl (fun _ => 0))), ((r0 4), .inl (cy 0, 160, .inl (fun _ => 0))), ((r0 5), .inl (cy 0, 160, .inl (fun _ => 0)))] := hD
  refine lv_aload_n hx hb dX6_init_17 rfl (lv_at hl 0 rfl) ?_
  refine lv_bipush (v := (6 : Int32)) hx hb dX6_init_18 (by decide) ?_
  refine lv_iconst (v := (3 : Int32)) hx hb dX6_init_20 (by decide) ?_
  refine q_mulI hx hb hown ts hK (ho.1) hP hD hS hA (N2 := 6) (K2 := 3) (ts _ wk_1_143) (by decide) (by decide) (by decide) (by decide) (by decide) (by decide) (Nat.le_of_ble_eq_true rfl) (Nat.le_of_ble_eq_true rfl) dX6_init_21 (fun q1 r1 H hP hD hS => ?_)
  have hP : va_P D vwCl [(h0, .inr (6, [.ref q0, .null, .int 0, .int 0, .null, .null])), (q0, .inl (cy 3, 6, .inr (.inr (.inr (.inr (fun i => if i < 6 then some (r0 i) else none)))))), ((r0 0), .inl (cy 0, 160, .inl (fun _ => 0))), ((r0 1), .inl (cy 0, 160, .inl (fun _ => 0))), ((r0 2), .inl (cy 0, 160, .inl (fun _ => 0))), ((r0 3), .inl (cy 0, 160, .inl (fun _ => 0))), ((r0 4), .inl (cy 0, 160, .inl (fun _ => 0))), ((r0 5), .inl (cy 0, 160, .inl (fun _ => 0))), (q1, .inl (cy 3, 6, .inr (.inr (.inr (.inr (fun i => if i < 6 then some (r1 i) else none)))))), ((r1 0), .inl (cy 0, 3, .inl (fun _ => 0))), ((r1 1), .inl (cy 0, 3, .inl (fun _ => 0))), ((r1 2), .inl (cy 0, 3, .inl (fun _ => 0))), ((r1 3), .inl (cy 0, 3, .inl (fun _ => 0))), ((r1 4), .inl (cy 0, 3, .inl (fun _ => 0))), ((r1 5), .inl (cy 0, 3, .inl (fun _ => 0)))] H := hP
  have hD : va_D A [(h0, .inr (6, [.ref q0, .null, .int 0, .int 0, .null, .null])), (q0, .inl (cy 3, 6, .inr (.inr (.inr (.inr (fun i => if i < 6 then some (r0 i) else none)))))), ((r0 0), .inl (cy 0, 160, .inl (fun _ => 0))), ((r0 1), .inl (cy 0, 160, .inl (fun _ => 0))), ((r0 2), .inl (cy 0, 160, .inl (fun _ => 0))), ((r0 3), .inl (cy 0, 160, .inl (fun _ => 0))), ((r0 4), .inl (cy 0, 160, .inl (fun _ => 0))), ((r0 5), .inl (cy 0, 160, .inl (fun _ => 0))), (q1, .inl (cy 3, 6, .inr (.inr (.inr (.inr (fun i => if i < 6 then some (r1 i) else none)))))), ((r1 0), .inl (cy 0, 3, .inl (fun _ => 0))), ((r1 1), .inl (cy 0, 3, .inl (fun _ => 0))), ((r1 2), .inl (cy 0, 3, .inl (fun _ => 0))), ((r1 3), .inl (cy 0, 3, .inl (fun _ => 0))), ((r1 4), .inl (cy 0, 3, .inl (fun _ => 0))), ((r1 5), .inl (cy 0, 3, .inl (fun _ => 0)))] := hD
  refine W.widen (k := 14) (n := 990) (by omega) (by omega) ?_
  refine va_putF (D := D) (ci := 6) (v := .ref q1) (ty := (.array (.array .int))) (C := RX6) (T := TX6) (N := 6) hx hb ts inX6 tyX6 tyX6_ok nmX6 hown hK hP hD hS 0 rfl rfl 1 (by decide) (ts _ wk_1_146) (fun _ h9 => h9) rfl hin rfl (by decide +kernel) rfl rfl (Nat.le_of_ble_eq_true rfl) dX6_init_25 (fun H locs hP hD hS => ?_)
  have hP : va_P D vwCl [(h0, .inr (6, [.ref q0, .ref q1, .int 0, .int 0, .null, .null])), (q0, .inl (cy 3, 6, .inr (.inr (.inr (.inr (fun i => if i < 6 then some (r0 i) else none)))))), ((r0 0), .inl (cy 0, 160, .inl (fun _ => 0))), ((r0 1), .inl (cy 0, 160, .inl (fun _ => 0))), ((r0 2), .inl (cy 0, 160, .inl (fun _ => 0))), ((r0 3), .inl (cy 0, 160, .inl (fun _ => 0))), ((r0 4), .inl (cy 0, 160, .inl (fun _ => 0))), ((r0 5), .inl (cy 0, 160, .inl (fun _ => 0))), (q1, .inl (cy 3, 6, .inr (.inr (.inr (.inr (fun i => if i < 6 then some (r1 i) else none)))))), ((r1 0), .inl (cy 0, 3, .inl (fun _ => 0))), ((r1 1), .inl (cy 0, 3, .inl (fun _ => 0))), ((r1 2), .inl (cy 0, 3, .inl (fun _ => 0))), ((r1 3), .inl (cy 0, 3, .inl (fun _ => 0))), ((r1 4), .inl (cy 0, 3, .inl (fun _ => 0))), ((r1 5), .inl (cy 0, 3, .inl (fun _ => 0)))] H := hP
  have hD : va_D A [(h0, .inr (6, [.ref q0, .ref q1, .int 0, .int 0, .null, .null])), (q0, .inl (cy 3, 6, .inr (.inr (.inr (.inr (fun i => if i < 6 then some (r0 i) else none)))))), ((r0 0), .inl (cy 0, 160, .inl (fun _ => 0))), ((r0 1), .inl (cy 0, 160, .inl (fun _ => 0))), ((r0 2), .inl (cy 0, 160, .inl (fun _ => 0))), ((r0 3), .inl (cy 0, 160, .inl (fun _ => 0))), ((r0 4), .inl (cy 0, 160, .inl (fun _ => 0))), ((r0 5), .inl (cy 0, 160, .inl (fun _ => 0))), (q1, .inl (cy 3, 6, .inr (.inr (.inr (.inr (fun i => if i < 6 then some (r1 i) else none)))))), ((r1 0), .inl (cy 0, 3, .inl (fun _ => 0))), ((r1 1), .inl (cy 0, 3, .inl (fun _ => 0))), ((r1 2), .inl (cy 0, 3, .inl (fun _ => 0))), ((r1 3), .inl (cy 0, 3, .inl (fun _ => 0))), ((r1 4), .inl (cy 0, 3, .inl (fun _ => 0))), ((r1 5), .inl (cy 0, 3, .inl (fun _ => 0)))] := hD
  refine lv_aload_n hx hb dX6_init_28 rfl (lv_at hl 0 rfl) ?_
  refine lv_bipush (v := (6 : Int32)) hx hb dX6_init_29 (by decide) ?_
  refine q_newI hx hb ts hK hP hD hS hA (N2 := 6) (by decide) (by decide) (by decide) (Nat.le_of_ble_eq_true rfl) (Nat.le_of_ble_eq_true rfl) dX6_init_31 (fun q2 H hP hD hS => ?_)
  have hP : va_P D vwCl [(h0, .inr (6, [.ref q0, .ref q1, .int 0, .int 0, .null, .null])), (q0, .inl (cy 3, 6, .inr (.inr (.inr (.inr (fun i => if i < 6 then some (r0 i) else none)))))), ((r0 0), .inl (cy 0, 160, .inl (fun _ => 0))), ((r0 1), .inl (cy 0, 160, .inl (fun _ => 0))), ((r0 2), .inl (cy 0, 160, .inl (fun _ => 0))), ((r0 3), .inl (cy 0, 160, .inl (fun _ => 0))), ((r0 4), .inl (cy 0, 160, .inl (fun _ => 0))), ((r0 5), .inl (cy 0, 160, .inl (fun _ => 0))), (q1, .inl (cy 3, 6, .inr (.inr (.inr (.inr (fun i => if i < 6 then some (r1 i) else none)))))), ((r1 0), .inl (cy 0, 3, .inl (fun _ => 0))), ((r1 1), .inl (cy 0, 3, .inl (fun _ => 0))), ((r1 2), .inl (cy 0, 3, .inl (fun _ => 0))), ((r1 3), .inl (cy 0, 3, .inl (fun _ => 0))), ((r1 4), .inl (cy 0, 3, .inl (fun _ => 0))), ((r1 5), .inl (cy 0, 3, .inl (fun _ => 0))), (q2, .inl (cy 0, 6, .inl (fun _ => 0)))] H := hP
  have hD : va_D A [(h0, .inr (6, [.ref q0, .ref q1, .int 0, .int 0, .null, .null])), (q0, .inl (cy 3, 6, .inr (.inr (.inr (.inr (fun i => if i < 6 then some (r0 i) else none)))))), ((r0 0), .inl (cy 0, 160, .inl (fun _ => 0))), ((r0 1), .inl (cy 0, 160, .inl (fun _ => 0))), ((r0 2), .inl (cy 0, 160, .inl (fun _ => 0))), ((r0 3), .inl (cy 0, 160, .inl (fun _ => 0))), ((r0 4), .inl (cy 0, 160, .inl (fun _ => 0))), ((r0 5), .inl (cy 0, 160, .inl (fun _ => 0))), (q1, .inl (cy 3, 6, .inr (.inr (.inr (.inr (fun i => if i < 6 then some (r1 i) else none)))))), ((r1 0), .inl (cy 0, 3, .inl (fun _ => 0))), ((r1 1), .inl (cy 0, 3, .inl (fun _ => 0))), ((r1 2), .inl (cy 0, 3, .inl (fun _ => 0))), ((r1 3), .inl (cy 0, 3, .inl (fun _ => 0))), ((r1 4), .inl (cy 0, 3, .inl (fun _ => 0))), ((r1 5), .inl (cy 0, 3, .inl (fun _ => 0))), (q2, .inl (cy 0, 6, .inl (fun _ => 0)))] := hD
  refine W.widen (k := 15) (n := 996) (by omega) (by omega) ?_
  refine va_putF (D := D) (ci := 6) (v := .ref q2) (ty := (.array .int)) (C := RX6) (T := TX6) (N := 6) hx hb ts inX6 tyX6 tyX6_ok nmX6 hown hK hP hD hS 0 rfl rfl 4 (by decide) (ts _ wk_1_152) (fun _ h9 => h9) rfl hin rfl (by decide +kernel) rfl rfl (Nat.le_of_ble_eq_true rfl) dX6_init_33 (fun H locs hP hD hS => ?_)
  have hP : va_P D vwCl [(h0, .inr (6, [.ref q0, .ref q1, .int 0, .int 0, .ref q2, .null])), (q0, .inl (cy 3, 6, .inr (.inr (.inr (.inr (fun i => if i < 6 then some (r0 i) else none)))))), ((r0 0), .inl (cy 0, 160, .inl (fun _ => 0))), ((r0 1), .inl (cy 0, 160, .inl (fun _ => 0))), ((r0 2), .inl (cy 0, 160, .inl (fun _ => 0))), ((r0 3), .inl (cy 0, 160, .inl (fun _ => 0))), ((r0 4), .inl (cy 0, 160, .inl (fun _ => 0))), ((r0 5), .inl (cy 0, 160, .inl (fun _ => 0))), (q1, .inl (cy 3, 6, .inr (.inr (.inr (.inr (fun i => if i < 6 then some (r1 i) else none)))))), ((r1 0), .inl (cy 0, 3, .inl (fun _ => 0))), ((r1 1), .inl (cy 0, 3, .inl (fun _ => 0))), ((r1 2), .inl (cy 0, 3, .inl (fun _ => 0))), ((r1 3), .inl (cy 0, 3, .inl (fun _ => 0))), ((r1 4), .inl (cy 0, 3, .inl (fun _ => 0))), ((r1 5), .inl (cy 0, 3, .inl (fun _ => 0))), (q2, .inl (cy 0, 6, .inl (fun _ => 0)))] H := hP
  have hD : va_D A [(h0, .inr (6, [.ref q0, .ref q1, .int 0, .int 0, .ref q2, .null])), (q0, .inl (cy 3, 6, .inr (.inr (.inr (.inr (fun i => if i < 6 then some (r0 i) else none)))))), ((r0 0), .inl (cy 0, 160, .inl (fun _ => 0))), ((r0 1), .inl (cy 0, 160, .inl (fun _ => 0))), ((r0 2), .inl (cy 0, 160, .inl (fun _ => 0))), ((r0 3), .inl (cy 0, 160, .inl (fun _ => 0))), ((r0 4), .inl (cy 0, 160, .inl (fun _ => 0))), ((r0 5), .inl (cy 0, 160, .inl (fun _ => 0))), (q1, .inl (cy 3, 6, .inr (.inr (.inr (.inr (fun i => if i < 6 then some (r1 i) else none)))))), ((r1 0), .inl (cy 0, 3, .inl (fun _ => 0))), ((r1 1), .inl (cy 0, 3, .inl (fun _ => 0))), ((r1 2), .inl (cy 0, 3, .inl (fun _ => 0))), ((r1 3), .inl (cy 0, 3, .inl (fun _ => 0))), ((r1 4), .inl (cy 0, 3, .inl (fun _ => 0))), ((r1 5), .inl (cy 0, 3, .inl (fun _ => 0))), (q2, .inl (cy 0, 6, .inl (fun _ => 0)))] := hD
  refine lv_aload_n hx hb dX6_init_36 rfl (lv_at hl 0 rfl) ?_
  refine lv_sipush (v := (160 : Int32)) hx hb dX6_init_37 (by decide) ?_
  refine q_newI hx hb ts hK hP hD hS hA (N2 := 160) (by decide) (by decide) (by decide) (Nat.le_of_ble_eq_true rfl) (Nat.le_of_ble_eq_true rfl) dX6_init_40 (fun q3 H hP hD hS => ?_)
  have hP : va_P D vwCl [(h0, .inr (6, [.ref q0, .ref q1, .int 0, .int 0, .ref q2, .null])), (q0, .inl (cy 3, 6, .inr (.inr (.inr (.inr (fun i => if i < 6 then some (r0 i) else none)))))), ((r0 0), .inl (cy 0, 160, .inl (fun _ => 0))), ((r0 1), .inl (cy 0, 160, .inl (fun _ => 0))), ((r0 2), .inl (cy 0, 160, .inl (fun _ => 0))), ((r0 3), .inl (cy 0, 160, .inl (fun _ => 0))), ((r0 4), .inl (cy 0, 160, .inl (fun _ => 0))), ((r0 5), .inl (cy 0, 160, .inl (fun _ => 0))), (q1, .inl (cy 3, 6, .inr (.inr (.inr (.inr (fun i => if i < 6 then some (r1 i) else none)))))), ((r1 0), .inl (cy 0, 3, .inl (fun _ => 0))), ((r1 1), .inl (cy 0, 3, .inl (fun _ => 0))), ((r1 2), .inl (cy 0, 3, .inl (fun _ => 0))), ((r1 3), .inl (cy 0, 3, .inl (fun _ => 0))), ((r1 4), .inl (cy 0, 3, .inl (fun _ => 0))), ((r1 5), .inl (cy 0, 3, .inl (fun _ => 0))), (q2, .inl (cy 0, 6, .inl (fun _ => 0))), (q3, .inl (cy 0, 160, .inl (fun _ => 0)))] H := hP
  have hD : va_D A [(h0, .inr (6, [.ref q0, .ref q1, .int 0, .int 0, .ref q2, .null])), (q0, .inl (cy 3, 6, .inr (.inr (.inr (.inr (fun i => if i < 6 then some (r0 i) else none)))))), ((r0 0), .inl (cy 0, 160, .inl (fun _ => 0))), ((r0 1), .inl (cy 0, 160, .inl (fun _ => 0))), ((r0 2), .inl (cy 0, 160, .inl (fun _ => 0))), ((r0 3), .inl (cy 0, 160, .inl (fun _ => 0))), ((r0 4), .inl (cy 0, 160, .inl (fun _ => 0))), ((r0 5), .inl (cy 0, 160, .inl (fun _ => 0))), (q1, .inl (cy 3, 6, .inr (.inr (.inr (.inr (fun i => if i < 6 then some (r1 i) else none)))))), ((r1 0), .inl (cy 0, 3, .inl (fun _ => 0))), ((r1 1), .inl (cy 0, 3, .inl (fun _ => 0))), ((r1 2), .inl (cy 0, 3, .inl (fun _ => 0))), ((r1 3), .inl (cy 0, 3, .inl (fun _ => 0))), ((r1 4), .inl (cy 0, 3, .inl (fun _ => 0))), ((r1 5), .inl (cy 0, 3, .inl (fun _ => 0))), (q2, .inl (cy 0, 6, .inl (fun _ => 0))), (q3, .inl (cy 0, 160, .inl (fun _ => 0)))] := hD
  refine W.widen (k := 16) (n := 1156) (by omega) (by omega) ?_
  refine va_putF (D := D) (ci := 6) (v := .ref q3) (ty := (.array .int)) (C := RX6) (T := TX6) (N := 6) hx hb ts inX6 tyX6 tyX6_ok nmX6 hown hK hP hD hS 0 rfl rfl 5 (by decide) (ts _ wk_1_153) (fun _ h9 => h9) rfl hin rfl (by decide +kernel) rfl rfl (Nat.le_of_ble_eq_true rfl) dX6_init_42 (fun H locs hP hD hS => ?_)
  have hP : va_P D vwCl [(h0, .inr (6, [.ref q0, .ref q1, .int 0, .int 0, .ref q2, .ref q3])), (q0, .inl (cy 3, 6, .inr (.inr (.inr (.inr (fun i => if i < 6 then some (r0 i) else none)))))), ((r0 0), .inl (cy 0, 160, .inl (fun _ => 0))), ((r0 1), .inl (cy 0, 160, .inl (fun _ => 0))), ((r0 2), .inl (cy 0, 160, .inl (fun _ => 0))), ((r0 3), .inl (cy 0, 160, .inl (fun _ => 0))), ((r0 4), .inl (cy 0, 160, .inl (fun _ => 0))), ((r0 5), .inl (cy 0, 160, .inl (fun _ => 0))), (q1, .inl (cy 3, 6, .inr (.inr (.inr (.inr (fun i => if i < 6 then some (r1 i) else none)))))), ((r1 0), .inl (cy 0, 3, .inl (fun _ => 0))), ((r1 1), .inl (cy 0, 3, .inl (fun _ => 0))), ((r1 2), .inl (cy 0, 3, .inl (fun _ => 0))), ((r1 3), .inl (cy 0, 3, .inl (fun _ => 0))), ((r1 4), .inl (cy 0, 3, .inl (fun _ => 0))), ((r1 5), .inl (cy 0, 3, .inl (fun _ => 0))), (q2, .inl (cy 0, 6, .inl (fun _ => 0))), (q3, .inl (cy 0, 160, .inl (fun _ => 0)))] H := hP
  have hD : va_D A [(h0, .inr (6, [.ref q0, .ref q1, .int 0, .int 0, .ref q2, .ref q3])), (q0, .inl (cy 3, 6, .inr (.inr (.inr (.inr (fun i => if i < 6 then some (r0 i) else none)))))), ((r0 0), .inl (cy 0, 160, .inl (fun _ => 0))), ((r0 1), .inl (cy 0, 160, .inl (fun _ => 0))), ((r0 2), .inl (cy 0, 160, .inl (fun _ => 0))), ((r0 3), .inl (cy 0, 160, .inl (fun _ => 0))), ((r0 4), .inl (cy 0, 160, .inl (fun _ => 0))), ((r0 5), .inl (cy 0, 160, .inl (fun _ => 0))), (q1, .inl (cy 3, 6, .inr (.inr (.inr (.inr (fun i => if i < 6 then some (r1 i) else none)))))), ((r1 0), .inl (cy 0, 3, .inl (fun _ => 0))), ((r1 1), .inl (cy 0, 3, .inl (fun _ => 0))), ((r1 2), .inl (cy 0, 3, .inl (fun _ => 0))), ((r1 3), .inl (cy 0, 3, .inl (fun _ => 0))), ((r1 4), .inl (cy 0, 3, .inl (fun _ => 0))), ((r1 5), .inl (cy 0, 3, .inl (fun _ => 0))), (q2, .inl (cy 0, 6, .inl (fun _ => 0))), (q3, .inl (cy 0, 160, .inl (fun _ => 0)))] := hD
  let u : Nat → Nat := fun k => [q0, (r0 0), (r0 1), (r0 2), (r0 3), (r0 4), (r0 5), q1, (r1 0), (r1 1), (r1 2), (r1 3), (r1 4), (r1 5), q2, q3].getD k 0
  have hP := q_outer (g := fun i => some (u (1 + i))) hP 1 rfl (fun i hi => by rcases (show i = 0 ∨ i = 1 ∨ i = 2 ∨ i = 3 ∨ i = 4 ∨ i = 5 by omega) with rfl | rfl | rfl | rfl | rfl | rfl <;> rfl)
  have hD := hD.set (e := .inl (cy 3, 6, .inr (.inr (.inr (.inr (fun i => some (u (1 + i)))))))) (p := 1) (a := q0) rfl
  have hP := q_outer (g := fun i => some (u (8 + i))) hP 8 rfl (fun i hi => by rcases (show i = 0 ∨ i = 1 ∨ i = 2 ∨ i = 3 ∨ i = 4 ∨ i = 5 by omega) with rfl | rfl | rfl | rfl | rfl | rfl <;> rfl)
  have hD := hD.set (e := .inl (cy 3, 6, .inr (.inr (.inr (.inr (fun i => some (u (8 + i)))))))) (p := 8) (a := q1) rfl
  have hP : va_P D vwCl (w_X6_init cy h0 u) H := hP
  have hD : va_D A (w_X6_init cy h0 u) := hD
  exact W.vret hx hb hr (fun t ht hW => ⟨⟨u, rfl, trivial, by rw [ht]; exact hP, hD⟩, hS.F ht⟩) hS.2.2 dX6_init_45 hlk
abbrev w_X8_init (cy : Nat → ClassId) (h0 : Nat) (g1 : Nat) (g2 : Nat) (g3 : Nat) (u : Nat → Nat) : va_W := [(h0, .inr (8, [.ref g1, .ref g2, .ref g3, .int (1 : Int32), .ref (u 0), .ref (u 1), .ref (u 2), .ref (u 8), .long 0])), ((u 0), .inl (cy 1, 24, .inr (.inl (fun _ => 0)))), ((u 1), .inl (cy 1, 24, .inr (.inl (fun _ => 0)))), ((u 2), .inl (cy 4, 5, .inr (.inr (.inr (.inr (fun i => some (u (3 + i)))))))), ((u 3), .inl (cy 1, 24, .inr (.inl (fun _ => 0)))), ((u 4), .inl (cy 1, 24, .inr (.inl (fun _ => 0)))), ((u 5), .inl (cy 1, 24, .inr (.inl (fun _ => 0)))), ((u 6), .inl (cy 1, 24, .inr (.inl (fun _ => 0)))), ((u 7), .inl (cy 1, 24, .inr (.inl (fun _ => 0)))), ((u 8), .inl (cy 1, 5, .inr (.inl (fun _ => 0))))]
set_option maxHeartbeats 4000000 in
set_option maxRecDepth 100000 in
theorem n_X8_init {l : Launch} {cy : Nat → ClassId} {D : va_G} (h0 g1 g2 g3 sz : Nat) : Met l yX8_init (Cond.code yX8_init cX8_init 4 none :: WS) { frames := 1, cells := 9, slots := 178, locals := 12 } (va_Pc [.ref h0, .ref g1, .ref g2, .ref g3] (fun U => U.heap.size = sz ∧ va_P D vwCl [(h0, .inr (8, [.null, .null, .null, .int 0, .null, .null, .null, .null, .long 0]))] U.heap ∧ va_K D vwCl (tysG cy) U ∧ va_D (fun _ => True) [(h0, .inr (8, [.null, .null, .null, .int 0, .null, .null, .null, .null, .long 0]))] ∧ AOS U)) (va_Qv (S := Nat → Nat) (fun _ => True) (fun u t => va_P D vwCl (w_X8_init cy h0 g1 g2 g3 u) t.heap ∧ va_D (va_A [(h0, .inr (8, [.null, .null, .null, .int 0, .null, .null, .null, .null, .long 0]))] sz) (w_X8_init cy h0 g1 g2 g3 u)) (va_A [(h0, .inr (8, [.null, .null, .null, .int 0, .null, .null, .null, .null, .long 0]))] sz)) 9 178 (va_A [(h0, .inr (8, [.null, .null, .null, .int 0, .null, .null, .null, .null, .long 0]))] sz) := by
  refine Met.ofW (cc := cX8_init) (maxL := 4) (ret := none) (by decide +kernel) rfl ?_
  intro p e s m args below meth c s₁ B hml hv
  obtain ⟨rfl, hsz, hP, hK, hD0, ho⟩ := hv
  have hx := B.exec
  have hb := B.bytes
  have hr := B.returns
  have hts := atoms_spec (ws := Cond.code yX8_init cX8_init 4 none :: WS) B.pre
  have ts : ∀ w ∈ WS, w.before _ s = true := fun w hw => hts w (List.mem_cons_of_mem _ hw)
  have hown : s.vm.findClass RX8 = some m.cls := findClass_of_methodNamed B.named
  have hlk := B.notSynchronized
  have hin : meth.name = "<init>" := (name_of_methodNamed B.named B.method).1
  subst hsz
  have hD := hD0.self (sz := s.heap.size)
  generalize hAe : va_A [(h0, .inr (8, [.null, .null, .null, .int 0, .null, .null, .null, .null, .long 0]))] s.heap.size = A at hD ⊢
  have hA : ∀ q : Nat, s.heap.size ≤ q → A q := fun q h => by rw [← hAe]; exact Or.inr h
  have hS : va_S A s.heap s.heap [] := va_S.rf
  have hl := lv_entry ([.ref h0, .ref g1, .ref g2, .ref g3]) (n := 4) (Nat.le_of_ble_eq_true rfl)
  rw [lg_entry_eq]
  generalize (lg_sl ([.ref h0, .ref g1, .ref g2, .ref g3]) ++ List.replicate (4 - (lg_sl ([.ref h0, .ref g1, .ref g2, .ref g3])).length) Slot.unset).toArray = ls at hl ⊢
  have hl : lv_has ls 4 [(0, .ref h0), (1, .ref g1), (2, .ref g2), (3, .ref g3)] := hl
  refine lv_aload_n hx hb dX8_init_0 rfl (lv_at hl 0 rfl) ?_
  refine W.objInit hx hb hown (ts _ wk_1_172) (ts _ wk_1_27) (ts _ wk_1_28) rfl (by rw [hml]; exact hl.1) rfl dX8_init_1 (Nat.le_of_ble_eq_true rfl) (Nat.le_of_ble_eq_true rfl) ?_
  refine W.eq (g2 := F0 m 4 ls []) rfl ?_
  refine lv_aload_n hx hb dX8_init_4 rfl (lv_at hl 0 rfl) ?_
  refine lv_iconst (v := (1 : Int32)) hx hb dX8_init_5 (by decide) ?_
  refine va_put (D := D) (ci := 8) (v := .int (1 : Int32)) (ty := .boolean) (C := RX8) (T := TX8) (N := 9) hx hb ts inX8 tyX8 tyX8_ok nmX8 hown hK hP hD hS 0 rfl rfl 3 (by decide) (ts _ wk_1_178) (fun _ h9 => h9) rfl (by decide +kernel) rfl rfl (Nat.le_of_ble_eq_true rfl) dX8_init_6 (fun H locs hP hD hS => ?_)
  have hP : va_P D vwCl [(h0, .inr (8, [.null, .null, .null, .int (1 : Int32), .null, .null, .null, .null, .long 0]))] H := hP
  have hD : va_D A [(h0, .inr (8, [.null, .null, .null, .int (1 : Int32), .null, .null, .null, .null, .long 0]))] := hD
  refine lv_aload_n hx hb dX8_init_9 rfl (lv_at hl 0 rfl) ?_
  refine lv_bipush (v := (24 : Int32)) hx hb dX8_init_10 (by decide) ?_
  refine q_newJ hx hb ts hK hP hD hS hA (N2 := 24) (by decide) (by decide) (by decide) (Nat.le_of_ble_eq_true rfl) (Nat.le_of_ble_eq_true rfl) dX8_init_12 (fun q0 H hP hD hS => ?_)
  have hP : va_P D vwCl [(h0, .inr (8, [.null, .null, .null, .int (1 : Int32), .null, .null, .null, .null, .long 0])), (q0, .inl (cy 1, 24, .inr (.inl (fun _ => 0))))] H := hP
  have hD : va_D A [(h0, .inr (8, [.null, .null, .null, .int (1 : Int32), .null, .null, .null, .null, .long 0])), (q0, .inl (cy 1, 24, .inr (.inl (fun _ => 0))))] := hD
  refine W.widen (k := 1) (n := 24) (by omega) (by omega) ?_
  refine va_putF (D := D) (ci := 8) (v := .ref q0) (ty := (.array .long)) (C := RX8) (T := TX8) (N := 9) hx hb ts inX8 tyX8 tyX8_ok nmX8 hown hK hP hD hS 0 rfl rfl 4 (by decide) (ts _ wk_1_180) (fun _ h9 => h9) rfl hin rfl (by decide +kernel) rfl rfl (Nat.le_of_ble_eq_true rfl) dX8_init_14 (fun H locs hP hD hS => ?_)
  have hP : va_P D vwCl [(h0, .inr (8, [.null, .null, .null, .int (1 : Int32), .ref q0, .null, .null, .null, .long 0])), (q0, .inl (cy 1, 24, .inr (.inl (fun _ => 0))))] H := hP
  have hD : va_D A [(h0, .inr (8, [.null, .null, .null, .int (1 : Int32), .ref q0, .null, .null, .null, .long 0])), (q0, .inl (cy 1, 24, .inr (.inl (fun _ => 0))))] := hD
  refine lv_aload_n hx hb dX8_init_17 rfl (lv_at hl 0 rfl) ?_
  refine lv_bipush (v := (24 : Int32)) hx hb dX8_init_18 (by decide) ?_
  refine q_newJ hx hb ts hK hP hD hS hA (N2 := 24) (by decide) (by decide) (by decide) (Nat.le_of_ble_eq_true rfl) (Nat.le_of_ble_eq_true rfl) dX8_init_20 (fun q1 H hP hD hS => ?_)
  have hP : va_P D vwCl [(h0, .inr (8, [.null, .null, .null, .int (1 : Int32), .ref q0, .null, .null, .null, .long 0])), (q0, .inl (cy 1, 24, .inr (.inl (fun _ => 0)))), (q1, .inl (cy 1, 24, .inr (.inl (fun _ => 0))))] H := hP
  have hD : va_D A [(h0, .inr (8, [.null, .null, .null, .int (1 : Int32), .ref q0, .null, .null, .null, .long 0])), (q0, .inl (cy 1, 24, .inr (.inl (fun _ => 0)))), (q1, .inl (cy 1, 24, .inr (.inl (fun _ => 0))))] := hD
  refine W.widen (k := 2) (n := 48) (by omega) (by omega) ?_
  refine va_putF (D := D) (ci := 8) (v := .ref q1) (ty := (.array .long)) (C := RX8) (T := TX8) (N := 9) hx hb ts inX8 tyX8 tyX8_ok nmX8 hown hK hP hD hS 0 rfl rfl 5 (by decide) (ts _ wk_1_182) (fun _ h9 => h9) rfl hin rfl (by decide +kernel) rfl rfl (Nat.le_of_ble_eq_true rfl) dX8_init_22 (fun H locs hP hD hS => ?_)
  have hP : va_P D vwCl [(h0, .inr (8, [.null, .null, .null, .int (1 : Int32), .ref q0, .ref q1, .null, .null, .long 0])), (q0, .inl (cy 1, 24, .inr (.inl (fun _ => 0)))), (q1, .inl (cy 1, 24, .inr (.inl (fun _ => 0))))] H := hP
  have hD : va_D A [(h0, .inr (8, [.null, .null, .null, .int (1 : Int32), .ref q0, .ref q1, .null, .null, .long 0])), (q0, .inl (cy 1, 24, .inr (.inl (fun _ => 0)))), (q1, .inl (cy 1, 24, .inr (.inl (fun _ => 0))))] := hD
  refine lv_aload_n hx hb dX8_init_25 rfl (lv_at hl 0 rfl) ?_
  refine lv_iconst (v := (5 : Int32)) hx hb dX8_init_26 (by decide) ?_
  refine lv_bipush (v := (24 : Int32)) hx hb dX8_init_27 (by decide) ?_
  refine q_mulJ hx hb hown ts hK (ho.2.1) hP hD hS hA (N2 := 5) (K2 := 24) (ts _ wk_1_173) (by decide) (by decide) (by decide) (by decide) (by decide) (by decide) (Nat.le_of_ble_eq_true rfl) (Nat.le_of_ble_eq_true rfl) dX8_init_29 (fun q2 r2 H hP hD hS => ?_)
  have hP : va_P D vwCl [(h0, .inr (8, [.null, .null, .null, .int (1 : Int32), .ref q0, .ref q1, .null, .null, .long 0])), (q0, .inl (cy 1, 24, .inr (.inl (fun _ => 0)))), (q1, .inl (cy 1, 24, .inr (.inl (fun _ => 0)))), (q2, .inl (cy 4, 5, .inr (.inr (.inr (.inr (fun i => if i < 5 then some (r2 i) else none)))))), ((r2 0), .inl (cy 1, 24, .inr (.inl (fun _ => 0)))), ((r2 1), .inl (cy 1, 24, .inr (.inl (fun _ => 0)))), ((r2 2), .inl (cy 1, 24, .inr (.inl (fun _ => 0)))), ((r2 3), .inl (cy 1, 24, .inr (.inl (fun _ => 0)))), ((r2 4), .inl (cy 1, 24, .inr (.inl (fun _ => 0))))] H := hP
  have hD : va_D A [(h0, .inr (8, [.null, .null, .null, .int (1 : Int32), .ref q0, .ref q1, .null, .null, .long 0])), (q0, .inl (cy 1, 24, .inr (.inl (fun _ => 0)))), (q1, .inl (cy 1, 24, .inr (.inl (fun _ => 0)))), (q2, .inl (cy 4, 5, .inr (.inr (.inr (.inr (fun i => if i < 5 then some (r2 i) else none)))))), ((r2 0), .inl (cy 1, 24, .inr (.inl (fun _ => 0)))), ((r2 1), .inl (cy 1, 24, .inr (.inl (fun _ => 0)))), ((r2 2), .inl (cy 1, 24, .inr (.inl (fun _ => 0)))), ((r2 3), .inl (cy 1, 24, .inr (.inl (fun _ => 0)))), ((r2 4), .inl (cy 1, 24, .inr (.inl (fun _ => 0))))] := hD
  refine W.widen (k := 8) (n := 173) (by omega) (by omega) ?_
  refine va_putF (D := D) (ci := 8) (v := .ref q2) (ty := (.array (.array .long))) (C := RX8) (T := TX8) (N := 9) hx hb ts inX8 tyX8 tyX8_ok nmX8 hown hK hP hD hS 0 rfl rfl 6 (by decide) (ts _ wk_1_184) (fun _ h9 => h9) rfl hin rfl (by decide +kernel) rfl rfl (Nat.le_of_ble_eq_true rfl) dX8_init_33 (fun H locs hP hD hS => ?_)
  have hP : va_P D vwCl [(h0, .inr (8, [.null, .null, .null, .int (1 : Int32), .ref q0, .ref q1, .ref q2, .null, .long 0])), (q0, .inl (cy 1, 24, .inr (.inl (fun _ => 0)))), (q1, .inl (cy 1, 24, .inr (.inl (fun _ => 0)))), (q2, .inl (cy 4, 5, .inr (.inr (.inr (.inr (fun i => if i < 5 then some (r2 i) else none)))))), ((r2 0), .inl (cy 1, 24, .inr (.inl (fun _ => 0)))), ((r2 1), .inl (cy 1, 24, .inr (.inl (fun _ => 0)))), ((r2 2), .inl (cy 1, 24, .inr (.inl (fun _ => 0)))), ((r2 3), .inl (cy 1, 24, .inr (.inl (fun _ => 0)))), ((r2 4), .inl (cy 1, 24, .inr (.inl (fun _ => 0))))] H := hP
  have hD : va_D A [(h0, .inr (8, [.null, .null, .null, .int (1 : Int32), .ref q0, .ref q1, .ref q2, .null, .long 0])), (q0, .inl (cy 1, 24, .inr (.inl (fun _ => 0)))), (q1, .inl (cy 1, 24, .inr (.inl (fun _ => 0)))), (q2, .inl (cy 4, 5, .inr (.inr (.inr (.inr (fun i => if i < 5 then some (r2 i) else none)))))), ((r2 0), .inl (cy 1, 24, .inr (.inl (fun _ => 0)))), ((r2 1), .inl (cy 1, 24, .inr (.inl (fun _ => 0)))), ((r2 2), .inl (cy 1, 24, .inr (.inl (fun _ => 0)))), ((r2 3), .inl (cy 1, 24, .inr (.inl (fun _ => 0)))), ((r2 4), .inl (cy 1, 24, .inr (.inl (fun _ => 0))))] := hD
  refine lv_aload_n hx hb dX8_init_36 rfl (lv_at hl 0 rfl) ?_
  refine lv_iconst (v := (5 : Int32)) hx hb dX8_init_37 (by decide) ?_
  refine q_newJ hx hb ts hK hP hD hS hA (N2 := 5) (by decide) (by decide) (by decide) (Nat.le_of_ble_eq_true rfl) (Nat.le_of_ble_eq_true rfl) dX8_init_38 (fun q3 H hP hD hS => ?_)
  have hP : va_P D vwCl [(h0, .inr (8, [.null, .null, .null, .int (1 : Int32), .ref q0, .ref q1, .ref q2, .null, .long 0])), (q0, .inl (cy 1, 24, .inr (.inl (fun _ => 0)))), (q1, .inl (cy 1, 24, .inr (.inl (fun _ => 0)))), (q2, .inl (cy 4, 5, .inr (.inr (.inr (.inr (fun i => if i < 5 then some (r2 i) else none)))))), ((r2 0), .inl (cy 1, 24, .inr (.inl (fun _ => 0)))), ((r2 1), .inl (cy 1, 24, .inr (.inl (fun _ => 0)))), ((r2 2), .inl (cy 1, 24, .inr (.inl (fun _ => 0)))), ((r2 3), .inl (cy 1, 24, .inr (.inl (fun _ => 0)))), ((r2 4), .inl (cy 1, 24, .inr (.inl (fun _ => 0)))), (q3, .inl (cy 1, 5, .inr (.inl (fun _ => 0))))] H := hP
  have hD : va_D A [(h0, .inr (8, [.null, .null, .null, .int (1 : Int32), .ref q0, .ref q1, .ref q2, .null, .long 0])), (q0, .inl (cy 1, 24, .inr (.inl (fun _ => 0)))), (q1, .inl (cy 1, 24, .inr (.inl (fun _ => 0)))), (q2, .inl (cy 4, 5, .inr (.inr (.inr (.inr (fun i => if i < 5 then some (r2 i) else none)))))), ((r2 0), .inl (cy 1, 24, .inr (.inl (fun _ => 0)))), ((r2 1), .inl (cy 1, 24, .inr (.inl (fun _ => 0)))), ((r2 2), .inl (cy 1, 24, .inr (.inl (fun _ => 0)))), ((r2 3), .inl (cy 1, 24, .inr (.inl (fun _ => 0)))), ((r2 4), .inl (cy 1, 24, .inr (.inl (fun _ => 0)))), (q3, .inl (cy 1, 5, .inr (.inl (fun _ => 0))))] := hD
  refine W.widen (k := 9) (n := 178) (by omega) (by omega) ?_
  refine va_putF (D := D) (ci := 8) (v := .ref q3) (ty := (.array .long)) (C := RX8) (T := TX8) (N := 9) hx hb ts inX8 tyX8 tyX8_ok nmX8 hown hK hP hD hS 0 rfl rfl 7 (by decide) (ts _ wk_1_185) (fun _ h9 => h9) rfl hin rfl (by decide +kernel) rfl rfl (Nat.le_of_ble_eq_true rfl) dX8_init_40 (fun H locs hP hD hS => ?_)
  have hP : va_P D vwCl [(h0, .inr (8, [.null, .null, .null, .int (1 : Int32), .ref q0, .ref q1, .ref q2, .ref q3, .long 0])), (q0, .inl (cy 1, 24, .inr (.inl (fun _ => 0)))), (q1, .inl (cy 1, 24, .inr (.inl (fun _ => 0)))), (q2, .inl (cy 4, 5, .inr (.inr (.inr (.inr (fun i => if i < 5 then some (r2 i) else none)))))), ((r2 0), .inl (cy 1, 24, .inr (.inl (fun _ => 0)))), ((r2 1), .inl (cy 1, 24, .inr (.inl (fun _ => 0)))), ((r2 2), .inl (cy 1, 24, .inr (.inl (fun _ => 0)))), ((r2 3), .inl (cy 1, 24, .inr (.inl (fun _ => 0)))), ((r2 4), .inl (cy 1, 24, .inr (.inl (fun _ => 0)))), (q3, .inl (cy 1, 5, .inr (.inl (fun _ => 0))))] H := hP
  have hD : va_D A [(h0, .inr (8, [.null, .null, .null, .int (1 : Int32), .ref q0, .ref q1, .ref q2, .ref q3, .long 0])), (q0, .inl (cy 1, 24, .inr (.inl (fun _ => 0)))), (q1, .inl (cy 1, 24, .inr (.inl (fun _ => 0)))), (q2, .inl (cy 4, 5, .inr (.inr (.inr (.inr (fun i => if i < 5 then some (r2 i) else none)))))), ((r2 0), .inl (cy 1, 24, .inr (.inl (fun _ => 0)))), ((r2 1), .inl (cy 1, 24, .inr (.inl (fun _ => 0)))), ((r2 2), .inl (cy 1, 24, .inr (.inl (fun _ => 0)))), ((r2 3), .inl (cy 1, 24, .inr (.inl (fun _ => 0)))), ((r2 4), .inl (cy 1, 24, .inr (.inl (fun _ => 0)))), (q3, .inl (cy 1, 5, .inr (.inl (fun _ => 0))))] := hD
  refine lv_aload_n hx hb dX8_init_43 rfl (lv_at hl 0 rfl) ?_
  refine lv_aload_n hx hb dX8_init_44 rfl (lv_at hl 1 rfl) ?_
  refine va_putF (D := D) (ci := 8) (v := .ref g1) (ty := (.object "GuardsLookLeft$Palace")) (C := RX8) (T := TX8) (N := 9) hx hb ts inX8 tyX8 tyX8_ok nmX8 hown hK hP hD hS 0 rfl rfl 0 (by decide) (ts _ wk_1_175) (fun _ h9 => h9) rfl hin rfl (by decide +kernel) rfl rfl (Nat.le_of_ble_eq_true rfl) dX8_init_45 (fun H locs hP hD hS => ?_)
  have hP : va_P D vwCl [(h0, .inr (8, [.ref g1, .null, .null, .int (1 : Int32), .ref q0, .ref q1, .ref q2, .ref q3, .long 0])), (q0, .inl (cy 1, 24, .inr (.inl (fun _ => 0)))), (q1, .inl (cy 1, 24, .inr (.inl (fun _ => 0)))), (q2, .inl (cy 4, 5, .inr (.inr (.inr (.inr (fun i => if i < 5 then some (r2 i) else none)))))), ((r2 0), .inl (cy 1, 24, .inr (.inl (fun _ => 0)))), ((r2 1), .inl (cy 1, 24, .inr (.inl (fun _ => 0)))), ((r2 2), .inl (cy 1, 24, .inr (.inl (fun _ => 0)))), ((r2 3), .inl (cy 1, 24, .inr (.inl (fun _ => 0)))), ((r2 4), .inl (cy 1, 24, .inr (.inl (fun _ => 0)))), (q3, .inl (cy 1, 5, .inr (.inl (fun _ => 0))))] H := hP
  have hD : va_D A [(h0, .inr (8, [.ref g1, .null, .null, .int (1 : Int32), .ref q0, .ref q1, .ref q2, .ref q3, .long 0])), (q0, .inl (cy 1, 24, .inr (.inl (fun _ => 0)))), (q1, .inl (cy 1, 24, .inr (.inl (fun _ => 0)))), (q2, .inl (cy 4, 5, .inr (.inr (.inr (.inr (fun i => if i < 5 then some (r2 i) else none)))))), ((r2 0), .inl (cy 1, 24, .inr (.inl (fun _ => 0)))), ((r2 1), .inl (cy 1, 24, .inr (.inl (fun _ => 0)))), ((r2 2), .inl (cy 1, 24, .inr (.inl (fun _ => 0)))), ((r2 3), .inl (cy 1, 24, .inr (.inl (fun _ => 0)))), ((r2 4), .inl (cy 1, 24, .inr (.inl (fun _ => 0)))), (q3, .inl (cy 1, 5, .inr (.inl (fun _ => 0))))] := hD
  refine lv_aload_n hx hb dX8_init_48 rfl (lv_at hl 0 rfl) ?_
  refine lv_aload_n hx hb dX8_init_49 rfl (lv_at hl 2 rfl) ?_
  refine va_putF (D := D) (ci := 8) (v := .ref g2) (ty := (.object "GuardsLookLeft$Guards")) (C := RX8) (T := TX8) (N := 9) hx hb ts inX8 tyX8 tyX8_ok nmX8 hown hK hP hD hS 0 rfl rfl 1 (by decide) (ts _ wk_1_176) (fun _ h9 => h9) rfl hin rfl (by decide +kernel) rfl rfl (Nat.le_of_ble_eq_true rfl) dX8_init_50 (fun H locs hP hD hS => ?_)
  have hP : va_P D vwCl [(h0, .inr (8, [.ref g1, .ref g2, .null, .int (1 : Int32), .ref q0, .ref q1, .ref q2, .ref q3, .long 0])), (q0, .inl (cy 1, 24, .inr (.inl (fun _ => 0)))), (q1, .inl (cy 1, 24, .inr (.inl (fun _ => 0)))), (q2, .inl (cy 4, 5, .inr (.inr (.inr (.inr (fun i => if i < 5 then some (r2 i) else none)))))), ((r2 0), .inl (cy 1, 24, .inr (.inl (fun _ => 0)))), ((r2 1), .inl (cy 1, 24, .inr (.inl (fun _ => 0)))), ((r2 2), .inl (cy 1, 24, .inr (.inl (fun _ => 0)))), ((r2 3), .inl (cy 1, 24, .inr (.inl (fun _ => 0)))), ((r2 4), .inl (cy 1, 24, .inr (.inl (fun _ => 0)))), (q3, .inl (cy 1, 5, .inr (.inl (fun _ => 0))))] H := hP
  have hD : va_D A [(h0, .inr (8, [.ref g1, .ref g2, .null, .int (1 : Int32), .ref q0, .ref q1, .ref q2, .ref q3, .long 0])), (q0, .inl (cy 1, 24, .inr (.inl (fun _ => 0)))), (q1, .inl (cy 1, 24, .inr (.inl (fun _ => 0)))), (q2, .inl (cy 4, 5, .inr (.inr (.inr (.inr (fun i => if i < 5 then some (r2 i) else none)))))), ((r2 0), .inl (cy 1, 24, .inr (.inl (fun _ => 0)))), ((r2 1), .inl (cy 1, 24, .inr (.inl (fun _ => 0)))), ((r2 2), .inl (cy 1, 24, .inr (.inl (fun _ => 0)))), ((r2 3), .inl (cy 1, 24, .inr (.inl (fun _ => 0)))), ((r2 4), .inl (cy 1, 24, .inr (.inl (fun _ => 0)))), (q3, .inl (cy 1, 5, .inr (.inl (fun _ => 0))))] := hD
  refine lv_aload_n hx hb dX8_init_53 rfl (lv_at hl 0 rfl) ?_
  refine lv_aload_n hx hb dX8_init_54 rfl (lv_at hl 3 rfl) ?_
  refine va_putF (D := D) (ci := 8) (v := .ref g3) (ty := (.object "GuardsLookLeft$Texts")) (C := RX8) (T := TX8) (N := 9) hx hb ts inX8 tyX8 tyX8_ok nmX8 hown hK hP hD hS 0 rfl rfl 2 (by decide) (ts _ wk_1_177) (fun _ h9 => h9) rfl hin rfl (by decide +kernel) rfl rfl (Nat.le_of_ble_eq_true rfl) dX8_init_55 (fun H locs hP hD hS => ?_)
  have hP : va_P D vwCl [(h0, .inr (8, [.ref g1, .ref g2, .ref g3, .int (1 : Int32), .ref q0, .ref q1, .ref q2, .ref q3, .long 0])), (q0, .inl (cy 1, 24, .inr (.inl (fun _ => 0)))), (q1, .inl (cy 1, 24, .inr (.inl (fun _ => 0)))), (q2, .inl (cy 4, 5, .inr (.inr (.inr (.inr (fun i => if i < 5 then some (r2 i) else none)))))), ((r2 0), .inl (cy 1, 24, .inr (.inl (fun _ => 0)))), ((r2 1), .inl (cy 1, 24, .inr (.inl (fun _ => 0)))), ((r2 2), .inl (cy 1, 24, .inr (.inl (fun _ => 0)))), ((r2 3), .inl (cy 1, 24, .inr (.inl (fun _ => 0)))), ((r2 4), .inl (cy 1, 24, .inr (.inl (fun _ => 0)))), (q3, .inl (cy 1, 5, .inr (.inl (fun _ => 0))))] H := hP
  have hD : va_D A [(h0, .inr (8, [.ref g1, .ref g2, .ref g3, .int (1 : Int32), .ref q0, .ref q1, .ref q2, .ref q3, .long 0])), (q0, .inl (cy 1, 24, .inr (.inl (fun _ => 0)))), (q1, .inl (cy 1, 24, .inr (.inl (fun _ => 0)))), (q2, .inl (cy 4, 5, .inr (.inr (.inr (.inr (fun i => if i < 5 then some (r2 i) else none)))))), ((r2 0), .inl (cy 1, 24, .inr (.inl (fun _ => 0)))), ((r2 1), .inl (cy 1, 24, .inr (.inl (fun _ => 0)))), ((r2 2), .inl (cy 1, 24, .inr (.inl (fun _ => 0)))), ((r2 3), .inl (cy 1, 24, .inr (.inl (fun _ => 0)))), ((r2 4), .inl (cy 1, 24, .inr (.inl (fun _ => 0)))), (q3, .inl (cy 1, 5, .inr (.inl (fun _ => 0))))] := hD
  let u : Nat → Nat := fun k => [q0, q1, q2, (r2 0), (r2 1), (r2 2), (r2 3), (r2 4), q3].getD k 0
  have hP := q_outer (g := fun i => some (u (3 + i))) hP 3 rfl (fun i hi => by rcases (show i = 0 ∨ i = 1 ∨ i = 2 ∨ i = 3 ∨ i = 4 by omega) with rfl | rfl | rfl | rfl | rfl <;> rfl)
  have hD := hD.set (e := .inl (cy 4, 5, .inr (.inr (.inr (.inr (fun i => some (u (3 + i)))))))) (p := 3) (a := q2) rfl
  have hP : va_P D vwCl (w_X8_init cy h0 g1 g2 g3 u) H := hP
  have hD : va_D A (w_X8_init cy h0 g1 g2 g3 u) := hD
  exact W.vret hx hb hr (fun t ht hW => ⟨⟨u, rfl, trivial, by rw [ht]; exact hP, hD⟩, hS.F ht⟩) hS.2.2 dX8_init_58 hlk
abbrev w_X0_init (cy : Nat → ClassId) (h0 : Nat) (u : Nat → Nat) : va_W := [(h0, .inr (0, [.long 0, .ref (u 0)])), ((u 0), .inl (cy 1, 24, .inr (.inl (fun _ => 0))))]
set_option maxHeartbeats 4000000 in
set_option maxRecDepth 100000 in
theorem n_X0_init {l : Launch} {cy : Nat → ClassId} {D : va_G} (h0 sz : Nat) : Met l yX0_init (Cond.code yX0_init cX0_init 1 none :: WS) { frames := 1, cells := 1, slots := 24, locals := 12 } (va_Pc [.ref h0] (fun U => U.heap.size = sz ∧ va_P D vwCl [(h0, .inr (0, [.long 0, .null]))] U.heap ∧ va_K D vwCl (tysG cy) U ∧ va_D (fun _ => True) [(h0, .inr (0, [.long 0, .null]))] ∧ AOS U)) (va_Qv (S := Nat → Nat) (fun _ => True) (fun u t => va_P D vwCl (w_X0_init cy h0 u) t.heap ∧ va_D (va_A [(h0, .inr (0, [.long 0, .null]))] sz) (w_X0_init cy h0 u)) (va_A [(h0, .inr (0, [.long 0, .null]))] sz)) 1 24 (va_A [(h0, .inr (0, [.long 0, .null]))] sz) := by
  refine Met.ofW (cc := cX0_init) (maxL := 1) (ret := none) (by decide +kernel) rfl ?_
  intro p e s m args below meth c s₁ B hml hv
  obtain ⟨rfl, hsz, hP, hK, hD0, ho⟩ := hv
  have hx := B.exec
  have hb := B.bytes
  have hr := B.returns
  have hts := atoms_spec (ws := Cond.code yX0_init cX0_init 1 none :: WS) B.pre
  have ts : ∀ w ∈ WS, w.before _ s = true := fun w hw => hts w (List.mem_cons_of_mem _ hw)
  have hown : s.vm.findClass RX0 = some m.cls := findClass_of_methodNamed B.named
  have hlk := B.notSynchronized
  have hin : meth.name = "<init>" := (name_of_methodNamed B.named B.method).1
  subst hsz
  have hD := hD0.self (sz := s.heap.size)
  generalize hAe : va_A [(h0, .inr (0, [.long 0, .null]))] s.heap.size = A at hD ⊢
  have hA : ∀ q : Nat, s.heap.size ≤ q → A q := fun q h => by rw [← hAe]; exact Or.inr h
  have hS : va_S A s.heap s.heap [] := va_S.rf
  have hl := lv_entry ([.ref h0]) (n := 1) (Nat.le_of_ble_eq_true rfl)
  rw [lg_entry_eq]
  generalize (lg_sl ([.ref h0]) ++ List.replicate (1 - (lg_sl ([.ref h0])).length) Slot.unset).toArray = ls at hl ⊢
  have hl : lv_has ls 1 [(0, .ref h0)] := hl
  refine lv_aload_n hx hb dX0_init_0 rfl (lv_at hl 0 rfl) ?_
  refine W.objInit hx hb hown (ts _ wk_1_211) (ts _ wk_1_27) (ts _ wk_1_28) rfl (by rw [hml]; exact hl.1) rfl dX0_init_1 (Nat.le_of_ble_eq_true rfl) (Nat.le_of_ble_eq_true rfl) ?_
  refine W.eq (g2 := F0 m 4 ls []) rfl ?_
  refine lv_aload_n hx hb dX0_init_4 rfl (lv_at hl 0 rfl) ?_
  refine lv_bipush (v := (24 : Int32)) hx hb dX0_init_5 (by decide) ?_
  refine q_newJ hx hb ts hK hP hD hS hA (N2 := 24) (by decide) (by decide) (by decide) (Nat.le_of_ble_eq_true rfl) (Nat.le_of_ble_eq_true rfl) dX0_init_7 (fun q0 H hP hD hS => ?_)
  have hP : va_P D vwCl [(h0, .inr (0, [.long 0, .null])), (q0, .inl (cy 1, 24, .inr (.inl (fun _ => 0))))] H := hP
  have hD : va_D A [(h0, .inr (0, [.long 0, .null])), (q0, .inl (cy 1, 24, .inr (.inl (fun _ => 0))))] := hD
  refine W.widen (k := 1) (n := 24) (by omega) (by omega) ?_
  refine va_putF (D := D) (ci := 0) (v := .ref q0) (ty := (.array .long)) (C := RX0) (T := TX0) (N := 2) hx hb ts inX0 tyX0 tyX0_ok nmX0 hown hK hP hD hS 0 rfl rfl 1 (by decide) (ts _ wk_1_214) (fun _ h9 => h9) rfl hin rfl (by decide +kernel) rfl rfl (Nat.le_of_ble_eq_true rfl) dX0_init_9 (fun H locs hP hD hS => ?_)
  have hP : va_P D vwCl [(h0, .inr (0, [.long 0, .ref q0])), (q0, .inl (cy 1, 24, .inr (.inl (fun _ => 0))))] H := hP
  have hD : va_D A [(h0, .inr (0, [.long 0, .ref q0])), (q0, .inl (cy 1, 24, .inr (.inl (fun _ => 0))))] := hD
  let u : Nat → Nat := fun k => [q0].getD k 0
  have hP : va_P D vwCl (w_X0_init cy h0 u) H := hP
  have hD : va_D A (w_X0_init cy h0 u) := hD
  exact W.vret hx hb hr (fun t ht hW => ⟨⟨u, rfl, trivial, by rw [ht]; exact hP, hD⟩, hS.F ht⟩) hS.2.2 dX0_init_12 hlk
abbrev w_X7_init (cy : Nat → ClassId) (h0 : Nat) (u : Nat → Nat) : va_W := [(h0, .inr (7, [.ref (u 0)])), ((u 0), .inl (cy 1, 25, .inr (.inl (fun _ => 0))))]
set_option maxHeartbeats 4000000 in
set_option maxRecDepth 100000 in
theorem n_X7_init {l : Launch} {cy : Nat → ClassId} {D : va_G} (h0 sz : Nat) : Met l yX7_init (Cond.code yX7_init cX7_init 1 none :: WS) { frames := 1, cells := 1, slots := 25, locals := 12 } (va_Pc [.ref h0] (fun U => U.heap.size = sz ∧ va_P D vwCl [(h0, .inr (7, [.null]))] U.heap ∧ va_K D vwCl (tysG cy) U ∧ va_D (fun _ => True) [(h0, .inr (7, [.null]))] ∧ AOS U)) (va_Qv (S := Nat → Nat) (fun _ => True) (fun u t => va_P D vwCl (w_X7_init cy h0 u) t.heap ∧ va_D (va_A [(h0, .inr (7, [.null]))] sz) (w_X7_init cy h0 u)) (va_A [(h0, .inr (7, [.null]))] sz)) 1 25 (va_A [(h0, .inr (7, [.null]))] sz) := by
  refine Met.ofW (cc := cX7_init) (maxL := 1) (ret := none) (by decide +kernel) rfl ?_
  intro p e s m args below meth c s₁ B hml hv
  obtain ⟨rfl, hsz, hP, hK, hD0, ho⟩ := hv
  have hx := B.exec
  have hb := B.bytes
  have hr := B.returns
  have hts := atoms_spec (ws := Cond.code yX7_init cX7_init 1 none :: WS) B.pre
  have ts : ∀ w ∈ WS, w.before _ s = true := fun w hw => hts w (List.mem_cons_of_mem _ hw)
  have hown : s.vm.findClass RX7 = some m.cls := findClass_of_methodNamed B.named
  have hlk := B.notSynchronized
  have hin : meth.name = "<init>" := (name_of_methodNamed B.named B.method).1
  subst hsz
  have hD := hD0.self (sz := s.heap.size)
  generalize hAe : va_A [(h0, .inr (7, [.null]))] s.heap.size = A at hD ⊢
  have hA : ∀ q : Nat, s.heap.size ≤ q → A q := fun q h => by rw [← hAe]; exact Or.inr h
  have hS : va_S A s.heap s.heap [] := va_S.rf
  have hl := lv_entry ([.ref h0]) (n := 1) (Nat.le_of_ble_eq_true rfl)
  rw [lg_entry_eq]
  generalize (lg_sl ([.ref h0]) ++ List.replicate (1 - (lg_sl ([.ref h0])).length) Slot.unset).toArray = ls at hl ⊢
  have hl : lv_has ls 1 [(0, .ref h0)] := hl
  refine lv_aload_n hx hb dX7_init_0 rfl (lv_at hl 0 rfl) ?_
  refine W.objInit hx hb hown (ts _ wk_1_225) (ts _ wk_1_27) (ts _ wk_1_28) rfl (by rw [hml]; exact hl.1) rfl dX7_init_1 (Nat.le_of_ble_eq_true rfl) (Nat.le_of_ble_eq_true rfl) ?_
  refine W.eq (g2 := F0 m 4 ls []) rfl ?_
  refine lv_aload_n hx hb dX7_init_4 rfl (lv_at hl 0 rfl) ?_
  refine lv_bipush (v := (25 : Int32)) hx hb dX7_init_5 (by decide) ?_
  refine q_newJ hx hb ts hK hP hD hS hA (N2 := 25) (by decide) (by decide) (by decide) (Nat.le_of_ble_eq_true rfl) (Nat.le_of_ble_eq_true rfl) dX7_init_7 (fun q0 H hP hD hS => ?_)
  have hP : va_P D vwCl [(h0, .inr (7, [.null])), (q0, .inl (cy 1, 25, .inr (.inl (fun _ => 0))))] H := hP
  have hD : va_D A [(h0, .inr (7, [.null])), (q0, .inl (cy 1, 25, .inr (.inl (fun _ => 0))))] := hD
  refine W.widen (k := 1) (n := 25) (by omega) (by omega) ?_
  refine va_putF (D := D) (ci := 7) (v := .ref q0) (ty := (.array .long)) (C := RX7) (T := TX7) (N := 1) hx hb ts inX7 tyX7 tyX7_ok nmX7 hown hK hP hD hS 0 rfl rfl 0 (by decide) (ts _ wk_1_226) (fun _ h9 => h9) rfl hin rfl (by decide +kernel) rfl rfl (Nat.le_of_ble_eq_true rfl) dX7_init_9 (fun H locs hP hD hS => ?_)
  have hP : va_P D vwCl [(h0, .inr (7, [.ref q0])), (q0, .inl (cy 1, 25, .inr (.inl (fun _ => 0))))] H := hP
  have hD : va_D A [(h0, .inr (7, [.ref q0])), (q0, .inl (cy 1, 25, .inr (.inl (fun _ => 0))))] := hD
  let u : Nat → Nat := fun k => [q0].getD k 0
  have hP : va_P D vwCl (w_X7_init cy h0 u) H := hP
  have hD : va_D A (w_X7_init cy h0 u) := hD
  exact W.vret hx hb hr (fun t ht hW => ⟨⟨u, rfl, trivial, by rw [ht]; exact hP, hD⟩, hS.F ht⟩) hS.2.2 dX7_init_12 hlk
abbrev w_X2_init (cy : Nat → ClassId) (h0 : Nat) (u : Nat → Nat) : va_W := [(h0, .inr (2, [.int 0, .int 0, .int 0, .ref (u 0), .ref (u 1), .ref (u 2)])), ((u 0), .inl (cy 1, 3, .inr (.inl (fun _ => 0)))), ((u 1), .inl (cy 0, 5, .inl (fun _ => 0))), ((u 2), .inl (cy 0, 5, .inl (fun _ => 0)))]
set_option maxHeartbeats 4000000 in
set_option maxRecDepth 100000 in
theorem n_X2_init {l : Launch} {cy : Nat → ClassId} {D : va_G} (h0 sz : Nat) : Met l yX2_init (Cond.code yX2_init cX2_init 1 none :: WS) { frames := 1, cells := 3, slots := 13, locals := 12 } (va_Pc [.ref h0] (fun U => U.heap.size = sz ∧ va_P D vwCl [(h0, .inr (2, [.int 0, .int 0, .int 0, .null, .null, .null]))] U.heap ∧ va_K D vwCl (tysG cy) U ∧ va_D (fun _ => True) [(h0, .inr (2, [.int 0, .int 0, .int 0, .null, .null, .null]))] ∧ AOS U)) (va_Qv (S := Nat → Nat) (fun _ => True) (fun u t => va_P D vwCl (w_X2_init cy h0 u) t.heap ∧ va_D (va_A [(h0, .inr (2, [.int 0, .int 0, .int 0, .null, .null, .null]))] sz) (w_X2_init cy h0 u)) (va_A [(h0, .inr (2, [.int 0, .int 0, .int 0, .null, .null, .null]))] sz)) 3 13 (va_A [(h0, .inr (2, [.int 0, .int 0, .int 0, .null, .null, .null]))] sz) := by
  refine Met.ofW (cc := cX2_init) (maxL := 1) (ret := none) (by decide +kernel) rfl ?_
  intro p e s m args below meth c s₁ B hml hv
  obtain ⟨rfl, hsz, hP, hK, hD0, ho⟩ := hv
  have hx := B.exec
  have hb := B.bytes
  have hr := B.returns
  have hts := atoms_spec (ws := Cond.code yX2_init cX2_init 1 none :: WS) B.pre
  have ts : ∀ w ∈ WS, w.before _ s = true := fun w hw => hts w (List.mem_cons_of_mem _ hw)
  have hown : s.vm.findClass RX2 = some m.cls := findClass_of_methodNamed B.named
  have hlk := B.notSynchronized
  have hin : meth.name = "<init>" := (name_of_methodNamed B.named B.method).1
  subst hsz
  have hD := hD0.self (sz := s.heap.size)
  generalize hAe : va_A [(h0, .inr (2, [.int 0, .int 0, .int 0, .null, .null, .null]))] s.heap.size = A at hD ⊢
  have hA : ∀ q : Nat, s.heap.size ≤ q → A q := fun q h => by rw [← hAe]; exact Or.inr h
  have hS : va_S A s.heap s.heap [] := va_S.rf
  have hl := lv_entry ([.ref h0]) (n := 1) (Nat.le_of_ble_eq_true rfl)
  rw [lg_entry_eq]
  generalize (lg_sl ([.ref h0]) ++ List.replicate (1 - (lg_sl ([.ref h0])).length) Slot.unset).toArray = ls at hl ⊢
  have hl : lv_has ls 1 [(0, .ref h0)] := hl
  refine lv_aload_n hx hb dX2_init_0 rfl (lv_at hl 0 rfl) ?_
  refine W.objInit hx hb hown (ts _ wk_1_236) (ts _ wk_1_27) (ts _ wk_1_28) rfl (by rw [hml]; exact hl.1) rfl dX2_init_1 (Nat.le_of_ble_eq_true rfl) (Nat.le_of_ble_eq_true rfl) ?_
  refine W.eq (g2 := F0 m 4 ls []) rfl ?_
  refine lv_aload_n hx hb dX2_init_4 rfl (lv_at hl 0 rfl) ?_
  refine lv_iconst (v := (3 : Int32)) hx hb dX2_init_5 (by decide) ?_
  refine q_newJ hx hb ts hK hP hD hS hA (N2 := 3) (by decide) (by decide) (by decide) (Nat.le_of_ble_eq_true rfl) (Nat.le_of_ble_eq_true rfl) dX2_init_6 (fun q0 H hP hD hS => ?_)
  have hP : va_P D vwCl [(h0, .inr (2, [.int 0, .int 0, .int 0, .null, .null, .null])), (q0, .inl (cy 1, 3, .inr (.inl (fun _ => 0))))] H := hP
  have hD : va_D A [(h0, .inr (2, [.int 0, .int 0, .int 0, .null, .null, .null])), (q0, .inl (cy 1, 3, .inr (.inl (fun _ => 0))))] := hD
  refine W.widen (k := 1) (n := 3) (by omega) (by omega) ?_
  refine va_putF (D := D) (ci := 2) (v := .ref q0) (ty := (.array .long)) (C := RX2) (T := TX2) (N := 6) hx hb ts inX2 tyX2 tyX2_ok nmX2 hown hK hP hD hS 0 rfl rfl 3 (by decide) (ts _ wk_2_2) (fun _ h9 => h9) rfl hin rfl (by decide +kernel) rfl rfl (Nat.le_of_ble_eq_true rfl) dX2_init_8 (fun H locs hP hD hS => ?_)
  have hP : va_P D vwCl [(h0, .inr (2, [.int 0, .int 0, .int 0, .ref q0, .null, .null])), (q0, .inl (cy 1, 3, .inr (.inl (fun _ => 0))))] H := hP
  have hD : va_D A [(h0, .inr (2, [.int 0, .int 0, .int 0, .ref q0, .null, .null])), (q0, .inl (cy 1, 3, .inr (.inl (fun _ => 0))))] := hD
  refine lv_aload_n hx hb dX2_init_11 rfl (lv_at hl 0 rfl) ?_
  refine lv_iconst (v := (5 : Int32)) hx hb dX2_init_12 (by decide) ?_
  refine q_newI hx hb ts hK hP hD hS hA (N2 := 5) (by decide) (by decide) (by decide) (Nat.le_of_ble_eq_true rfl) (Nat.le_of_ble_eq_true rfl) dX2_init_13 (fun q1 H hP hD hS => ?_)
  have hP : va_P D vwCl [(h0, .inr (2, [.int 0, .int 0, .int 0, .ref q0, .null, .null])), (q0, .inl (cy 1, 3, .inr (.inl (fun _ => 0)))), (q1, .inl (cy 0, 5, .inl (fun _ => 0)))] H := hP
  have hD : va_D A [(h0, .inr (2, [.int 0, .int 0, .int 0, .ref q0, .null, .null])), (q0, .inl (cy 1, 3, .inr (.inl (fun _ => 0)))), (q1, .inl (cy 0, 5, .inl (fun _ => 0)))] := hD
  refine W.widen (k := 2) (n := 8) (by omega) (by omega) ?_
  refine va_putF (D := D) (ci := 2) (v := .ref q1) (ty := (.array .int)) (C := RX2) (T := TX2) (N := 6) hx hb ts inX2 tyX2 tyX2_ok nmX2 hown hK hP hD hS 0 rfl rfl 4 (by decide) (ts _ wk_2_3) (fun _ h9 => h9) rfl hin rfl (by decide +kernel) rfl rfl (Nat.le_of_ble_eq_true rfl) dX2_init_15 (fun H locs hP hD hS => ?_)
  have hP : va_P D vwCl [(h0, .inr (2, [.int 0, .int 0, .int 0, .ref q0, .ref q1, .null])), (q0, .inl (cy 1, 3, .inr (.inl (fun _ => 0)))), (q1, .inl (cy 0, 5, .inl (fun _ => 0)))] H := hP
  have hD : va_D A [(h0, .inr (2, [.int 0, .int 0, .int 0, .ref q0, .ref q1, .null])), (q0, .inl (cy 1, 3, .inr (.inl (fun _ => 0)))), (q1, .inl (cy 0, 5, .inl (fun _ => 0)))] := hD
  refine lv_aload_n hx hb dX2_init_18 rfl (lv_at hl 0 rfl) ?_
  refine lv_iconst (v := (5 : Int32)) hx hb dX2_init_19 (by decide) ?_
  refine q_newI hx hb ts hK hP hD hS hA (N2 := 5) (by decide) (by decide) (by decide) (Nat.le_of_ble_eq_true rfl) (Nat.le_of_ble_eq_true rfl) dX2_init_20 (fun q2 H hP hD hS => ?_)
  have hP : va_P D vwCl [(h0, .inr (2, [.int 0, .int 0, .int 0, .ref q0, .ref q1, .null])), (q0, .inl (cy 1, 3, .inr (.inl (fun _ => 0)))), (q1, .inl (cy 0, 5, .inl (fun _ => 0))), (q2, .inl (cy 0, 5, .inl (fun _ => 0)))] H := hP
  have hD : va_D A [(h0, .inr (2, [.int 0, .int 0, .int 0, .ref q0, .ref q1, .null])), (q0, .inl (cy 1, 3, .inr (.inl (fun _ => 0)))), (q1, .inl (cy 0, 5, .inl (fun _ => 0))), (q2, .inl (cy 0, 5, .inl (fun _ => 0)))] := hD
  refine W.widen (k := 3) (n := 13) (by omega) (by omega) ?_
  refine va_putF (D := D) (ci := 2) (v := .ref q2) (ty := (.array .int)) (C := RX2) (T := TX2) (N := 6) hx hb ts inX2 tyX2 tyX2_ok nmX2 hown hK hP hD hS 0 rfl rfl 5 (by decide) (ts _ wk_2_4) (fun _ h9 => h9) rfl hin rfl (by decide +kernel) rfl rfl (Nat.le_of_ble_eq_true rfl) dX2_init_22 (fun H locs hP hD hS => ?_)
  have hP : va_P D vwCl [(h0, .inr (2, [.int 0, .int 0, .int 0, .ref q0, .ref q1, .ref q2])), (q0, .inl (cy 1, 3, .inr (.inl (fun _ => 0)))), (q1, .inl (cy 0, 5, .inl (fun _ => 0))), (q2, .inl (cy 0, 5, .inl (fun _ => 0)))] H := hP
  have hD : va_D A [(h0, .inr (2, [.int 0, .int 0, .int 0, .ref q0, .ref q1, .ref q2])), (q0, .inl (cy 1, 3, .inr (.inl (fun _ => 0)))), (q1, .inl (cy 0, 5, .inl (fun _ => 0))), (q2, .inl (cy 0, 5, .inl (fun _ => 0)))] := hD
  let u : Nat → Nat := fun k => [q0, q1, q2].getD k 0
  have hP : va_P D vwCl (w_X2_init cy h0 u) H := hP
  have hD : va_D A (w_X2_init cy h0 u) := hD
  exact W.vret hx hb hr (fun t ht hW => ⟨⟨u, rfl, trivial, by rw [ht]; exact hP, hD⟩, hS.F ht⟩) hS.2.2 dX2_init_25 hlk
abbrev w_X5_init (cy : Nat → ClassId) (h0 : Nat) (u : Nat → Nat) : va_W := [(h0, .inr (5, [.int (-1 : Int32), .int 0, .ref (u 0)])), ((u 0), .inl (cy 0, 40, .inl (fun _ => 0)))]
set_option maxHeartbeats 4000000 in
set_option maxRecDepth 100000 in
theorem n_X5_init {l : Launch} {cy : Nat → ClassId} {D : va_G} (h0 sz : Nat) : Met l yX5_init (Cond.code yX5_init cX5_init 1 none :: WS) { frames := 1, cells := 1, slots := 40, locals := 12 } (va_Pc [.ref h0] (fun U => U.heap.size = sz ∧ va_P D vwCl [(h0, .inr (5, [.int 0, .int 0, .null]))] U.heap ∧ va_K D vwCl (tysG cy) U ∧ va_D (fun _ => True) [(h0, .inr (5, [.int 0, .int 0, .null]))] ∧ AOS U)) (va_Qv (S := Nat → Nat) (fun _ => True) (fun u t => va_P D vwCl (w_X5_init cy h0 u) t.heap ∧ va_D (va_A [(h0, .inr (5, [.int 0, .int 0, .null]))] sz) (w_X5_init cy h0 u)) (va_A [(h0, .inr (5, [.int 0, .int 0, .null]))] sz)) 1 40 (va_A [(h0, .inr (5, [.int 0, .int 0, .null]))] sz) := by
  refine Met.ofW (cc := cX5_init) (maxL := 1) (ret := none) (by decide +kernel) rfl ?_
  intro p e s m args below meth c s₁ B hml hv
  obtain ⟨rfl, hsz, hP, hK, hD0, ho⟩ := hv
  have hx := B.exec
  have hb := B.bytes
  have hr := B.returns
  have hts := atoms_spec (ws := Cond.code yX5_init cX5_init 1 none :: WS) B.pre
  have ts : ∀ w ∈ WS, w.before _ s = true := fun w hw => hts w (List.mem_cons_of_mem _ hw)
  have hown : s.vm.findClass RX5 = some m.cls := findClass_of_methodNamed B.named
  have hlk := B.notSynchronized
  have hin : meth.name = "<init>" := (name_of_methodNamed B.named B.method).1
  subst hsz
  have hD := hD0.self (sz := s.heap.size)
  generalize hAe : va_A [(h0, .inr (5, [.int 0, .int 0, .null]))] s.heap.size = A at hD ⊢
  have hA : ∀ q : Nat, s.heap.size ≤ q → A q := fun q h => by rw [← hAe]; exact Or.inr h
  have hS : va_S A s.heap s.heap [] := va_S.rf
  have hl := lv_entry ([.ref h0]) (n := 1) (Nat.le_of_ble_eq_true rfl)
  rw [lg_entry_eq]
  generalize (lg_sl ([.ref h0]) ++ List.replicate (1 - (lg_sl ([.ref h0])).length) Slot.unset).toArray = ls at hl ⊢
  have hl : lv_has ls 1 [(0, .ref h0)] := hl
  refine lv_aload_n hx hb dX5_init_0 rfl (lv_at hl 0 rfl) ?_
  refine W.objInit hx hb hown (ts _ wk_2_24) (ts _ wk_1_27) (ts _ wk_1_28) rfl (by rw [hml]; exact hl.1) rfl dX5_init_1 (Nat.le_of_ble_eq_true rfl) (Nat.le_of_ble_eq_true rfl) ?_
  refine W.eq (g2 := F0 m 4 ls []) rfl ?_
  refine lv_aload_n hx hb dX5_init_4 rfl (lv_at hl 0 rfl) ?_
  refine lv_iconst (v := (-1 : Int32)) hx hb dX5_init_5 (by decide) ?_
  refine va_put (D := D) (ci := 5) (v := .int (-1 : Int32)) (ty := .int) (C := RX5) (T := TX5) (N := 3) hx hb ts inX5 tyX5 tyX5_ok nmX5 hown hK hP hD hS 0 rfl rfl 0 (by decide) (ts _ wk_2_25) (fun _ h9 => h9) rfl (by decide +kernel) rfl rfl (Nat.le_of_ble_eq_true rfl) dX5_init_6 (fun H locs hP hD hS => ?_)
  have hP : va_P D vwCl [(h0, .inr (5, [.int (-1 : Int32), .int 0, .null]))] H := hP
  have hD : va_D A [(h0, .inr (5, [.int (-1 : Int32), .int 0, .null]))] := hD
  refine lv_aload_n hx hb dX5_init_9 rfl (lv_at hl 0 rfl) ?_
  refine lv_bipush (v := (40 : Int32)) hx hb dX5_init_10 (by decide) ?_
  refine q_newI hx hb ts hK hP hD hS hA (N2 := 40) (by decide) (by decide) (by decide) (Nat.le_of_ble_eq_true rfl) (Nat.le_of_ble_eq_true rfl) dX5_init_12 (fun q0 H hP hD hS => ?_)
  have hP : va_P D vwCl [(h0, .inr (5, [.int (-1 : Int32), .int 0, .null])), (q0, .inl (cy 0, 40, .inl (fun _ => 0)))] H := hP
  have hD : va_D A [(h0, .inr (5, [.int (-1 : Int32), .int 0, .null])), (q0, .inl (cy 0, 40, .inl (fun _ => 0)))] := hD
  refine W.widen (k := 1) (n := 40) (by omega) (by omega) ?_
  refine va_putF (D := D) (ci := 5) (v := .ref q0) (ty := (.array .int)) (C := RX5) (T := TX5) (N := 3) hx hb ts inX5 tyX5 tyX5_ok nmX5 hown hK hP hD hS 0 rfl rfl 2 (by decide) (ts _ wk_2_29) (fun _ h9 => h9) rfl hin rfl (by decide +kernel) rfl rfl (Nat.le_of_ble_eq_true rfl) dX5_init_14 (fun H locs hP hD hS => ?_)
  have hP : va_P D vwCl [(h0, .inr (5, [.int (-1 : Int32), .int 0, .ref q0])), (q0, .inl (cy 0, 40, .inl (fun _ => 0)))] H := hP
  have hD : va_D A [(h0, .inr (5, [.int (-1 : Int32), .int 0, .ref q0])), (q0, .inl (cy 0, 40, .inl (fun _ => 0)))] := hD
  let u : Nat → Nat := fun k => [q0].getD k 0
  have hP : va_P D vwCl (w_X5_init cy h0 u) H := hP
  have hD : va_D A (w_X5_init cy h0 u) := hD
  exact W.vret hx hb hr (fun t ht hW => ⟨⟨u, rfl, trivial, by rw [ht]; exact hP, hD⟩, hS.F ht⟩) hS.2.2 dX5_init_17 hlk
