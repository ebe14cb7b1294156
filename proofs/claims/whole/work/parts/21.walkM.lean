set_option maxHeartbeats 4000000 in
set_option maxRecDepth 100000 in
theorem k_X10_in {l : Launch} {a : Nat → Nat} {cy : Nat → ClassId} {D : va_G} {A : Nat → Prop} (O : WO NM a (fun _ => True) A) {x1 : Int32} {x2 : Int32} {x3 : Int32} {r : Int32} {σ : ST} (hf : f_X10_in x1 x2 x3 = r) : Met l yX10_in (Cond.code yX10_in cX10_in 3 (some .boolean) :: WS) (rmk 0 0) (PC [.int x1, .int x2, .int x3] NM eM a cy D (fun _ => True) σ) (QZ NM eM a cy D A r σ) 0 0 A := by
  refine met_go (own := "GuardsLookLeftModel") O (by decide +kernel) rfl (Nat.le_of_ble_eq_true rfl) ?_
  intro p e s m args below meth c ls C hP hS hl
  have hx := C.hx
  have hb := C.hb
  have hl : lv_has ls 3 [(0, .int x1), (1, .int x2), (2, .int x3)] := hl
  obtain ⟨H, hH⟩ : ∃ H, H = s.heap := ⟨_, rfl⟩
  rw [← hH] at hP
  have hS : va_S A s.heap H [] := by rw [hH]; exact va_S.rf
  suffices g : W p l e (rmk 0 0) s m args below meth c H [] 0 0 (MQ below (QZ NM eM a cy D A r σ) args s 0 0 A) (F0 m 0 ls []) by rw [hH] at g; exact g
  clear hH
  obtain ⟨locs, hlocs⟩ : ∃ z : List Loc, z = [] := ⟨_, rfl⟩
  rw [← hlocs] at hS ⊢
  refine lv_iload_n hx hb dX10_in_0 rfl (lv_at hl 0 rfl) ?_
  refine lv_iload_n hx hb dX10_in_1 rfl (lv_at hl 1 rfl) ?_
  refine lv_icmp_lt (tgt := 14) hx hb dX10_in_2 (by decide) (fun hc => ?_) (fun hc => ?_)
  · have hf := jif_t hc hf
    refine lv_iconst (v := (0 : Int32)) hx hb dX10_in_14 (by decide) ?_
    exact ret_z C hP hS bz_0 hf rfl dX10_in_15
  · have hf := jif_f hc hf
    refine lv_iload_n hx hb dX10_in_5 rfl (lv_at hl 0 rfl) ?_
    refine lv_iload_n hx hb dX10_in_6 rfl (lv_at hl 2 rfl) ?_
    refine lv_icmp_gt (tgt := 14) hx hb dX10_in_7 (by decide) (fun hc => ?_) (fun hc => ?_)
    · have hf := jif_t hc hf
      refine lv_iconst (v := (0 : Int32)) hx hb dX10_in_14 (by decide) ?_
      exact ret_z C hP hS bz_0 hf rfl dX10_in_15
    · have hf := jif_f hc hf
      refine lv_iconst (v := (1 : Int32)) hx hb dX10_in_10 (by decide) ?_
      refine lv_goto (tgt := 15) hx hb dX10_in_11 (by decide) ?_
      exact ret_z C hP hS bz_1 hf rfl dX10_in_15
set_option maxHeartbeats 4000000 in
set_option maxRecDepth 100000 in
theorem k_X10_within {l : Launch} {a : Nat → Nat} {cy : Nat → ClassId} {D : va_G} {A : Nat → Prop} (O : WO NM a (fun _ => True) A) {x1 : Int32} {x2 : Int32} {x3 : Int32} {r : Int32} {σ : ST} (hf : f_X10_within x1 x2 x3 = r) : Met l yX10_within (Cond.code yX10_within cX10_within 3 (some .int) :: WS) (rmk 0 0) (PC [.int x1, .int x2, .int x3] NM eM a cy D (fun _ => True) σ) (QI NM eM a cy D A r σ) 0 0 A := by
  refine met_go (own := "GuardsLookLeftModel") O (by decide +kernel) rfl (Nat.le_of_ble_eq_true rfl) ?_
  intro p e s m args below meth c ls C hP hS hl
  have hx := C.hx
  have hb := C.hb
  have hl : lv_has ls 3 [(0, .int x1), (1, .int x2), (2, .int x3)] := hl
  obtain ⟨H, hH⟩ : ∃ H, H = s.heap := ⟨_, rfl⟩
  rw [← hH] at hP
  have hS : va_S A s.heap H [] := by rw [hH]; exact va_S.rf
  suffices g : W p l e (rmk 0 0) s m args below meth c H [] 0 0 (MQ below (QI NM eM a cy D A r σ) args s 0 0 A) (F0 m 0 ls []) by rw [hH] at g; exact g
  clear hH
  obtain ⟨locs, hlocs⟩ : ∃ z : List Loc, z = [] := ⟨_, rfl⟩
  rw [← hlocs] at hS ⊢
  refine lv_iload_n hx hb dX10_within_0 rfl (lv_at hl 0 rfl) ?_
  refine lv_iload_n hx hb dX10_within_1 rfl (lv_at hl 1 rfl) ?_
  refine lv_icmp_ge (tgt := 9) hx hb dX10_within_2 (by decide) (fun hc => ?_) (fun hc => ?_)
  · have hf := jif_t hc hf
    refine lv_iload_n hx hb dX10_within_9 rfl (lv_at hl 0 rfl) ?_
    refine lv_iload_n hx hb dX10_within_10 rfl (lv_at hl 2 rfl) ?_
    refine lv_icmp_le (tgt := 18) hx hb dX10_within_11 (by decide) (fun hc => ?_) (fun hc => ?_)
    · have hf := jif_t hc hf
      refine lv_iload_n hx hb dX10_within_18 rfl (lv_at hl 0 rfl) ?_
      exact ret_i C hP hS hf rfl dX10_within_19
    · have hf := jif_f hc hf
      refine lv_iload_n hx hb dX10_within_14 rfl (lv_at hl 2 rfl) ?_
      refine lv_goto (tgt := 19) hx hb dX10_within_15 (by decide) ?_
      exact ret_i C hP hS hf rfl dX10_within_19
  · have hf := jif_f hc hf
    refine lv_iload_n hx hb dX10_within_5 rfl (lv_at hl 1 rfl) ?_
    refine lv_goto (tgt := 19) hx hb dX10_within_6 (by decide) ?_
    exact ret_i C hP hS hf rfl dX10_within_19
set_option maxHeartbeats 4000000 in
set_option maxRecDepth 100000 in
theorem k_X10_isCell {l : Launch} {a : Nat → Nat} {cy : Nat → ClassId} {D : va_G} {A : Nat → Prop} (O : WO NM a (fun _ => True) A) {x1 : Int32} {r : Int32} {σ : ST} (hf : f_X10_isCell x1 = r) : Met l yX10_isCell (Cond.code yX10_isCell cX10_isCell 1 (some .boolean) :: WS) (rmk 1 22) (PC [.int x1] NM eM a cy D (fun _ => True) σ) (QZ NM eM a cy D A r σ) 0 0 A := by
  refine met_go (own := "GuardsLookLeftModel") O (by decide +kernel) rfl (Nat.le_of_ble_eq_true rfl) ?_
  intro p e s m args below meth c ls C hP hS hl
  have hx := C.hx
  have hb := C.hb
  have hl : lv_has ls 1 [(0, .int x1)] := hl
  obtain ⟨H, hH⟩ : ∃ H, H = s.heap := ⟨_, rfl⟩
  rw [← hH] at hP
  have hS : va_S A s.heap H [] := by rw [hH]; exact va_S.rf
  suffices g : W p l e (rmk 1 22) s m args below meth c H [] 0 0 (MQ below (QZ NM eM a cy D A r σ) args s 0 0 A) (F0 m 0 ls []) by rw [hH] at g; exact g
  clear hH
  obtain ⟨locs, hlocs⟩ : ∃ z : List Loc, z = [] := ⟨_, rfl⟩
  rw [← hlocs] at hS ⊢
  refine lv_iload_n hx hb dX10_isCell_0 rfl (lv_at hl 0 rfl) ?_
  refine lv_iconst (v := (0 : Int32)) hx hb dX10_isCell_1 (by decide) ?_
  refine lv_bipush (v := (35 : Int32)) hx hb dX10_isCell_2 (by decide) ?_
  refine r_cz (r_runS (As := [.int x1, .int (0 : Int32), .int (35 : Int32)]) (rest := []) C hP hS (k_X10_in (l := l) O (σ := σ) rfl) mw_X10_in ms_X10_in wk_4_158 ⟨Nat.le_of_ble_eq_true rfl, Nat.le_of_ble_eq_true rfl⟩ ⟨rfl, rfl⟩ ⟨Nat.zero_le _, Nat.zero_le _⟩ rfl hl.1 rfl (Nat.le_of_ble_eq_true rfl) dX10_isCell_4) hS (fun H locs hzy1 hP hS => ?_)
  refine jl_topz hf hzy1 (fun y1 hzy1 hf => ?_)
  exact ret_z C hP hS hzy1 hf rfl dX10_isCell_7
set_option maxHeartbeats 4000000 in
set_option maxRecDepth 100000 in
theorem k_X10_isSecond {l : Launch} {a : Nat → Nat} {cy : Nat → ClassId} {D : va_G} {A : Nat → Prop} (O : WO NM a (fun _ => True) A) {x1 : Int32} {r : Int32} {σ : ST} (hf : f_X10_isSecond x1 = r) : Met l yX10_isSecond (Cond.code yX10_isSecond cX10_isSecond 1 (some .boolean) :: WS) (rmk 1 22) (PC [.int x1] NM eM a cy D (fun _ => True) σ) (QZ NM eM a cy D A r σ) 0 0 A := by
  refine met_go (own := "GuardsLookLeftModel") O (by decide +kernel) rfl (Nat.le_of_ble_eq_true rfl) ?_
  intro p e s m args below meth c ls C hP hS hl
  have hx := C.hx
  have hb := C.hb
  have hl : lv_has ls 1 [(0, .int x1)] := hl
  obtain ⟨H, hH⟩ : ∃ H, H = s.heap := ⟨_, rfl⟩
  rw [← hH] at hP
  have hS : va_S A s.heap H [] := by rw [hH]; exact va_S.rf
  suffices g : W p l e (rmk 1 22) s m args below meth c H [] 0 0 (MQ below (QZ NM eM a cy D A r σ) args s 0 0 A) (F0 m 0 ls []) by rw [hH] at g; exact g
  clear hH
  obtain ⟨locs, hlocs⟩ : ∃ z : List Loc, z = [] := ⟨_, rfl⟩
  rw [← hlocs] at hS ⊢
  refine lv_iload_n hx hb dX10_isSecond_0 rfl (lv_at hl 0 rfl) ?_
  refine lv_iconst (v := (0 : Int32)) hx hb dX10_isSecond_1 (by decide) ?_
  refine lv_bipush (v := (23 : Int32)) hx hb dX10_isSecond_2 (by decide) ?_
  refine r_cz (r_runS (As := [.int x1, .int (0 : Int32), .int (23 : Int32)]) (rest := []) C hP hS (k_X10_in (l := l) O (σ := σ) rfl) mw_X10_in ms_X10_in wk_4_158 ⟨Nat.le_of_ble_eq_true rfl, Nat.le_of_ble_eq_true rfl⟩ ⟨rfl, rfl⟩ ⟨Nat.zero_le _, Nat.zero_le _⟩ rfl hl.1 rfl (Nat.le_of_ble_eq_true rfl) dX10_isSecond_4) hS (fun H locs hzy1 hP hS => ?_)
  refine jl_topz hf hzy1 (fun y1 hzy1 hf => ?_)
  exact ret_z C hP hS hzy1 hf rfl dX10_isSecond_7
set_option maxHeartbeats 4000000 in
set_option maxRecDepth 100000 in
theorem k_X10_areCells {l : Launch} {a : Nat → Nat} {cy : Nat → ClassId} {D : va_G} {A : Nat → Prop} (O : WO NM a (fun _ => True) A) {x1 : Int64} {r : Int32} {σ : ST} (hf : f_X10_areCells x1 = r) : Met l yX10_areCells (Cond.code yX10_areCells cX10_areCells 2 (some .boolean) :: WS) (rmk 0 0) (PC [.long x1] NM eM a cy D (fun _ => True) σ) (QZ NM eM a cy D A r σ) 0 0 A := by
  refine met_go (own := "GuardsLookLeftModel") O (by decide +kernel) rfl (Nat.le_of_ble_eq_true rfl) ?_
  intro p e s m args below meth c ls C hP hS hl
  have hx := C.hx
  have hb := C.hb
  have hl : lv_has ls 2 [(0, .long x1)] := hl
  obtain ⟨H, hH⟩ : ∃ H, H = s.heap := ⟨_, rfl⟩
  rw [← hH] at hP
  have hS : va_S A s.heap H [] := by rw [hH]; exact va_S.rf
  suffices g : W p l e (rmk 0 0) s m args below meth c H [] 0 0 (MQ below (QZ NM eM a cy D A r σ) args s 0 0 A) (F0 m 0 ls []) by rw [hH] at g; exact g
  clear hH
  obtain ⟨locs, hlocs⟩ : ∃ z : List Loc, z = [] := ⟨_, rfl⟩
  rw [← hlocs] at hS ⊢
  refine lv_lload_n hx hb dX10_areCells_0 rfl (lv_at hl 0 rfl) ?_
  refine lv_lconst (v := (0 : Int64)) hx hb dX10_areCells_1 (by decide) ?_
  refine lc_lt C (tgt := 18) dX10_areCells_2 dX10_areCells_3 (by decide) (fun hc => ?_) (fun hc => ?_)
  · have hf := jif_t hc hf
    refine lv_iconst (v := (0 : Int32)) hx hb dX10_areCells_18 (by decide) ?_
    exact ret_z C hP hS bz_0 hf rfl dX10_areCells_19
  · have hf := jif_f hc hf
    refine lv_lload_n hx hb dX10_areCells_6 rfl (lv_at hl 0 rfl) ?_
    refine lv_ldc2 hx hb C.hown (C.ts _ wk_5_88) dX10_areCells_7 ?_
    refine lc_gt C (tgt := 18) dX10_areCells_10 dX10_areCells_11 (by decide) (fun hc => ?_) (fun hc => ?_)
    · have hf := jif_t hc hf
      refine lv_iconst (v := (0 : Int32)) hx hb dX10_areCells_18 (by decide) ?_
      exact ret_z C hP hS bz_0 hf rfl dX10_areCells_19
    · have hf := jif_f hc hf
      refine lv_iconst (v := (1 : Int32)) hx hb dX10_areCells_14 (by decide) ?_
      refine lv_goto (tgt := 19) hx hb dX10_areCells_15 (by decide) ?_
      exact ret_z C hP hS bz_1 hf rfl dX10_areCells_19
set_option maxHeartbeats 4000000 in
set_option maxRecDepth 100000 in
theorem k_X10_isGuard {l : Launch} {a : Nat → Nat} {cy : Nat → ClassId} {D : va_G} {A : Nat → Prop} (O : WO NM a (fun _ => True) A) {x1 : Int32} {r : Int32} {σ : ST} (hf : f_X10_isGuard x1 σ = r) : Met l yX10_isGuard (Cond.code yX10_isGuard cX10_isGuard 2 (some .boolean) :: WS) (rmk 1 22) (PC [.ref (a 0), .int x1] NM eM a cy D (fun _ => True) σ) (QZ NM eM a cy D A r σ) 0 0 A := by
  refine met_go (own := "GuardsLookLeftModel") O (by decide +kernel) rfl (Nat.le_of_ble_eq_true rfl) ?_
  intro p e s m args below meth c ls C hP hS hl
  have hx := C.hx
  have hb := C.hb
  have hl : lv_has ls 2 [(0, .ref (a 0)), (1, .int x1)] := hl
  obtain ⟨H, hH⟩ : ∃ H, H = s.heap := ⟨_, rfl⟩
  rw [← hH] at hP
  have hS : va_S A s.heap H [] := by rw [hH]; exact va_S.rf
  suffices g : W p l e (rmk 1 22) s m args below meth c H [] 0 0 (MQ below (QZ NM eM a cy D A r σ) args s 0 0 A) (F0 m 0 ls []) by rw [hH] at g; exact g
  clear hH
  obtain ⟨locs, hlocs⟩ : ∃ z : List Loc, z = [] := ⟨_, rfl⟩
  rw [← hlocs] at hS ⊢
  refine lv_iload_n hx hb dX10_isGuard_0 rfl (lv_at hl 1 rfl) ?_
  refine lv_iconst (v := (0 : Int32)) hx hb dX10_isGuard_1 (by decide) ?_
  refine lv_aload_n hx hb dX10_isGuard_2 rfl (lv_at hl 0 rfl) ?_
  refine gf_X10_1 C hP wk_4_198 dX10_isGuard_3 ?_
  refine lv_iconst (v := (1 : Int32)) hx hb dX10_isGuard_6 (by decide) ?_
  refine lv_isub hx hb dX10_isGuard_7 ?_
  refine r_cz (r_runS (As := [.int x1, .int (0 : Int32), .int ((gA σ 0 1) - (1 : Int32))]) (rest := []) C hP hS (k_X10_in (l := l) O (σ := σ) rfl) mw_X10_in ms_X10_in wk_4_158 ⟨Nat.le_of_ble_eq_true rfl, Nat.le_of_ble_eq_true rfl⟩ ⟨rfl, rfl⟩ ⟨Nat.zero_le _, Nat.zero_le _⟩ rfl hl.1 rfl (Nat.le_of_ble_eq_true rfl) dX10_isGuard_8) hS (fun H locs hzy1 hP hS => ?_)
  refine jl_topz hf hzy1 (fun y1 hzy1 hf => ?_)
  exact ret_z C hP hS hzy1 hf rfl dX10_isGuard_11
set_option maxHeartbeats 4000000 in
set_option maxRecDepth 100000 in
theorem k_X10_has {l : Launch} {a : Nat → Nat} {cy : Nat → ClassId} {D : va_G} {A : Nat → Prop} (O : WO NM a (fun _ => True) A) {x1 : Int64} {x2 : Int32} {r : Int32} {σ : ST} (hf : f_X10_has x1 x2 = r) : Met l yX10_has (Cond.code yX10_has cX10_has 3 (some .boolean) :: WS) (rmk 0 0) (PC [.long x1, .int x2] NM eM a cy D (fun _ => True) σ) (QZ NM eM a cy D A r σ) 0 0 A := by
  refine met_go (own := "GuardsLookLeftModel") O (by decide +kernel) rfl (Nat.le_of_ble_eq_true rfl) ?_
  intro p e s m args below meth c ls C hP hS hl
  have hx := C.hx
  have hb := C.hb
  have hl : lv_has ls 3 [(0, .long x1), (2, .int x2)] := hl
  obtain ⟨H, hH⟩ : ∃ H, H = s.heap := ⟨_, rfl⟩
  rw [← hH] at hP
  have hS : va_S A s.heap H [] := by rw [hH]; exact va_S.rf
  suffices g : W p l e (rmk 0 0) s m args below meth c H [] 0 0 (MQ below (QZ NM eM a cy D A r σ) args s 0 0 A) (F0 m 0 ls []) by rw [hH] at g; exact g
  clear hH
  obtain ⟨locs, hlocs⟩ : ∃ z : List Loc, z = [] := ⟨_, rfl⟩
  rw [← hlocs] at hS ⊢
  refine lv_lload_n hx hb dX10_has_0 rfl (lv_at hl 0 rfl) ?_
  refine lv_iload_n hx hb dX10_has_1 rfl (lv_at hl 1 rfl) ?_
  refine r_lshr C dX10_has_2 ?_
  refine lv_lconst (v := (1 : Int64)) hx hb dX10_has_3 (by decide) ?_
  refine lv_land hx hb dX10_has_4 ?_
  refine lv_lconst (v := (1 : Int64)) hx hb dX10_has_5 (by decide) ?_
  refine lc_ne C (tgt := 14) dX10_has_6 dX10_has_7 (by decide) (fun hc => ?_) (fun hc => ?_)
  · have hf := jif_t hc hf
    refine lv_iconst (v := (0 : Int32)) hx hb dX10_has_14 (by decide) ?_
    exact ret_z C hP hS bz_0 hf rfl dX10_has_15
  · have hf := jif_n hc hf
    refine lv_iconst (v := (1 : Int32)) hx hb dX10_has_10 (by decide) ?_
    refine lv_goto (tgt := 15) hx hb dX10_has_11 (by decide) ?_
    exact ret_z C hP hS bz_1 hf rfl dX10_has_15
set_option maxHeartbeats 4000000 in
set_option maxRecDepth 100000 in
theorem k_X10_bitsOf {l : Launch} {a : Nat → Nat} {cy : Nat → ClassId} {D : va_G} {A : Nat → Prop} (O : WO NM a (fun _ => True) A) {x1 : Int64} {r : Int32} {σ : ST} (hf : f_X10_bitsOf x1 = some r) : Met l yX10_bitsOf (Cond.code yX10_bitsOf cX10_bitsOf 4 (some .int) :: WS) (rmk 1 22) (PC [.long x1] NM eM a cy D (fun _ => True) σ) (QI NM eM a cy D A r σ) 0 0 A := by
  refine met_go (own := "GuardsLookLeftModel") O (by decide +kernel) rfl (Nat.le_of_ble_eq_true rfl) ?_
  intro p e s m args below meth c ls C hP hS hl
  have hx := C.hx
  have hb := C.hb
  have hl : lv_has ls 4 [(0, .long x1)] := hl
  obtain ⟨H, hH⟩ : ∃ H, H = s.heap := ⟨_, rfl⟩
  rw [← hH] at hP
  have hS : va_S A s.heap H [] := by rw [hH]; exact va_S.rf
  suffices g : W p l e (rmk 1 22) s m args below meth c H [] 0 0 (MQ below (QI NM eM a cy D A r σ) args s 0 0 A) (F0 m 0 ls []) by rw [hH] at g; exact g
  clear hH
  obtain ⟨locs, hlocs⟩ : ∃ z : List Loc, z = [] := ⟨_, rfl⟩
  rw [← hlocs] at hS ⊢
  have hL24 : ∀ (k4 : Int64 → Int32 → Int32 → Option Int32) (hk4 : (∀ (v0 : Int64) (v2 : Int32) (v3 : Int32) (H : Heap) (locs : List Loc) (ls : Array Slot), k4 v0 v2 v3 = some r → va_P D vwCl (wG NM eM a cy σ) H → va_S A s.heap H locs → lv_has ls 4 [(0, .long v0), (2, .int v2), (3, .int v3)] → W p l e (rmk 1 22) s m args below meth c H locs 0 0 (MQ below (QI NM eM a cy D A r σ) args s 0 0 A) (F0 m 4 ls []))), (∀ (v0 : Int64) (v3 : Int32) (t0 : Int32) (t1 : Int32) (H : Heap) (locs : List Loc) (ls : Array Slot), f_X10_bitsOf_L24 k4 v0 v3 t0 t1 = some r → va_P D vwCl (wG NM eM a cy σ) H → va_S A s.heap H locs → lv_has ls 4 [(0, .long v0), (3, .int v3)] → W p l e (rmk 1 22) s m args below meth c H locs 0 0 (MQ below (QI NM eM a cy D A r σ) args s 0 0 A) (F0 m 24 ls [.int t1, .int t0])) := by
    intro k4 hk4 v0 v3 t0 t1 H locs ls hf hP hS hl
    refine lv_iadd hx hb dX10_bitsOf_24 ?_
    refine jl_topi hf (fun y1 hf => ?_)
    refine lv_istore_n (lv' := [(2, .int y1), (0, .long v0), (3, .int v3)]) hx hb dX10_bitsOf_25 rfl hl (by decide) rfl (fun ls hl => ?_)
    obtain ⟨y2, ey2, hf⟩ := jlet_e hf
    refine lv_iinc (v := y2) (lv' := [(3, .int y2), (2, .int y1), (0, .long v0)]) hx hb dX10_bitsOf_26 hl (k := 2) rfl ey2 (by decide) rfl (fun ls hl => ?_)
    refine lv_goto (tgt := 4) hx hb dX10_bitsOf_29 (by decide) ?_
    exact hk4 v0 y1 y2 H locs ls hf hP hS (lv_sub hl [2, 1, 0] rfl)
  have hL4 : ∀ (n : Nat), (∀ (v0 : Int64) (v2 : Int32) (v3 : Int32) (H : Heap) (locs : List Loc) (ls : Array Slot), f_X10_bitsOf_L4 n v0 v2 v3 = some r → va_P D vwCl (wG NM eM a cy σ) H → va_S A s.heap H locs → lv_has ls 4 [(0, .long v0), (2, .int v2), (3, .int v3)] → W p l e (rmk 1 22) s m args below meth c H locs 0 0 (MQ below (QI NM eM a cy D A r σ) args s 0 0 A) (F0 m 4 ls [])) := by
    intro n
    induction n with
    | zero => intro v0 v2 v3 H locs ls hf hP hS hl; exact no_o hf
    | succ n ih =>
      intro v0 v2 v3 H locs ls hf hP hS hl
      have hf := (ef_X10_bitsOf_L4 _ _ _).symm.trans hf
      refine lv_iload_n hx hb dX10_bitsOf_4 rfl (lv_at hl 2 rfl) ?_
      refine lv_bipush (v := (36 : Int32)) hx hb dX10_bitsOf_5 (by decide) ?_
      refine lv_icmp_ge (tgt := 32) hx hb dX10_bitsOf_7 (by decide) (fun hc => ?_) (fun hc => ?_)
      · have hf := jif_t hc hf
        refine lv_iload_n hx hb dX10_bitsOf_32 rfl (lv_at hl 1 rfl) ?_
        exact ret_i C hP hS (Option.some.inj hf) rfl dX10_bitsOf_33
      · have hf := jif_f hc hf
        refine lv_iload_n hx hb dX10_bitsOf_10 rfl (lv_at hl 1 rfl) ?_
        refine lv_lload_n hx hb dX10_bitsOf_11 rfl (lv_at hl 0 rfl) ?_
        refine lv_iload_n hx hb dX10_bitsOf_12 rfl (lv_at hl 2 rfl) ?_
        refine r_cz (r_runS (As := [.long v0, .int v3]) (rest := [.int v2]) C hP hS (k_X10_has (l := l) O (σ := σ) rfl) mw_X10_has ms_X10_has wk_5_101 ⟨Nat.le_of_ble_eq_true rfl, Nat.le_of_ble_eq_true rfl⟩ ⟨rfl, rfl⟩ ⟨Nat.zero_le _, Nat.zero_le _⟩ rfl hl.1 rfl (Nat.le_of_ble_eq_true rfl) dX10_bitsOf_13) hS (fun H locs hzy1 hP hS => ?_)
        refine jl_topz hf hzy1 (fun y1 hzy1 hf => ?_)
        refine lv_if_eq (tgt := 23) hx hb dX10_bitsOf_16 (by decide) (fun hc => ?_) (fun hc => ?_)
        · have hf := jif_t hc hf
          refine lv_iconst (v := (0 : Int32)) hx hb dX10_bitsOf_23 (by decide) ?_
          exact hL24 (f_X10_bitsOf_L4 n) ih v0 v3 v2 (0 : Int32) H locs ls hf hP hS (lv_sub hl [0, 2] rfl)
        · have hf := jif_f hc hf
          refine lv_iconst (v := (1 : Int32)) hx hb dX10_bitsOf_19 (by decide) ?_
          refine lv_goto (tgt := 24) hx hb dX10_bitsOf_20 (by decide) ?_
          exact hL24 (f_X10_bitsOf_L4 n) ih v0 v3 v2 (1 : Int32) H locs ls hf hP hS (lv_sub hl [0, 2] rfl)
  refine lv_iconst (v := (0 : Int32)) hx hb dX10_bitsOf_0 (by decide) ?_
  refine lv_istore_n (lv' := [(2, .int (0 : Int32)), (0, .long x1)]) hx hb dX10_bitsOf_1 rfl hl (by decide) rfl (fun ls hl => ?_)
  refine lv_iconst (v := (0 : Int32)) hx hb dX10_bitsOf_2 (by decide) ?_
  refine lv_istore_n (lv' := [(3, .int (0 : Int32)), (2, .int (0 : Int32)), (0, .long x1)]) hx hb dX10_bitsOf_3 rfl hl (by decide) rfl (fun ls hl => ?_)
  exact hL4 FU x1 (0 : Int32) (0 : Int32) H locs ls hf hP hS (lv_sub hl [2, 1, 0] rfl)
set_option maxHeartbeats 4000000 in
set_option maxRecDepth 100000 in
theorem k_X10_lay {l : Launch} {a : Nat → Nat} {cy : Nat → ClassId} {D : va_G} {A : Nat → Prop} (O : WO NM a (fun _ => True) A) {x1 : Int32} {x2 : Int64} {r : Int64} {σ : ST} {σ' : ST} (hf : f_X10_lay x1 x2 σ = some (r, σ')) : Met l yX10_lay (Cond.code yX10_lay cX10_lay 6 (some .long) :: WS) (rmk 1 22) (PC [.ref (a 0), .int x1, .long x2] NM eM a cy D (fun _ => True) σ) (QL NM eM a cy D A r σ') 0 0 A := by
  refine met_go (own := "GuardsLookLeftModel") O (by decide +kernel) rfl (Nat.le_of_ble_eq_true rfl) ?_
  intro p e s m args below meth c ls C hP hS hl
  have hx := C.hx
  have hb := C.hb
  have hl : lv_has ls 6 [(0, .ref (a 0)), (1, .int x1), (2, .long x2)] := hl
  obtain ⟨H, hH⟩ : ∃ H, H = s.heap := ⟨_, rfl⟩
  rw [← hH] at hP
  have hS : va_S A s.heap H [] := by rw [hH]; exact va_S.rf
  suffices g : W p l e (rmk 1 22) s m args below meth c H [] 0 0 (MQ below (QL NM eM a cy D A r σ') args s 0 0 A) (F0 m 0 ls []) by rw [hH] at g; exact g
  clear hH
  obtain ⟨locs, hlocs⟩ : ∃ z : List Loc, z = [] := ⟨_, rfl⟩
  rw [← hlocs] at hS ⊢
  have hL16 : (∀ (s0 : ST) (H : Heap) (locs : List Loc) (ls : Array Slot), f_X10_lay_L16 s0 = some (r, σ') → va_P D vwCl (wG NM eM a cy s0) H → va_S A s.heap H locs → lv_has ls 6 [] → W p l e (rmk 1 22) s m args below meth c H locs 0 0 (MQ below (QL NM eM a cy D A r σ') args s 0 0 A) (F0 m 16 ls [])) := by
    intro s0 H locs ls hf hP hS hl
    refine lv_ldc2 hx hb C.hown (C.ts _ wk_5_89) dX10_lay_16 ?_
    exact ret_l C hP hS (Prod.mk.inj (Option.some.inj hf)).1 (Prod.mk.inj (Option.some.inj hf)).2 dX10_lay_19
  refine lv_iload_n hx hb dX10_lay_0 rfl (lv_at hl 1 rfl) ?_
  refine lv_iconst (v := (0 : Int32)) hx hb dX10_lay_1 (by decide) ?_
  refine lv_iconst (v := (2 : Int32)) hx hb dX10_lay_2 (by decide) ?_
  refine r_cz (r_runS (As := [.int x1, .int (0 : Int32), .int (2 : Int32)]) (rest := []) C hP hS (k_X10_in (l := l) O (σ := σ) rfl) mw_X10_in ms_X10_in wk_4_158 ⟨Nat.le_of_ble_eq_true rfl, Nat.le_of_ble_eq_true rfl⟩ ⟨rfl, rfl⟩ ⟨Nat.zero_le _, Nat.zero_le _⟩ rfl hl.1 rfl (Nat.le_of_ble_eq_true rfl) dX10_lay_3) hS (fun H locs hzy1 hP hS => ?_)
  refine jl_topz hf hzy1 (fun y1 hzy1 hf => ?_)
  refine lv_if_eq (tgt := 16) hx hb dX10_lay_6 (by decide) (fun hc => ?_) (fun hc => ?_)
  · have hf := jif_t hc hf
    exact hL16 σ H locs ls hf hP hS (lv_sub hl [] rfl)
  · have hf := jif_f hc hf
    refine lv_lload_n hx hb dX10_lay_9 rfl (lv_at hl 2 rfl) ?_
    refine r_cz (r_runS (As := [.long x2]) (rest := []) C hP hS (k_X10_areCells (l := l) O (σ := σ) rfl) mw_X10_areCells ms_X10_areCells wk_5_85 ⟨Nat.le_of_ble_eq_true rfl, Nat.le_of_ble_eq_true rfl⟩ ⟨rfl, rfl⟩ ⟨Nat.zero_le _, Nat.zero_le _⟩ rfl hl.1 rfl (Nat.le_of_ble_eq_true rfl) dX10_lay_10) hS (fun H locs hzy3 hP hS => ?_)
    refine jl_topz hf hzy3 (fun y3 hzy3 hf => ?_)
    refine lv_if_ne (tgt := 20) hx hb dX10_lay_13 (by decide) (fun hc => ?_) (fun hc => ?_)
    · have hf := jif_t hc hf
      refine lv_aload_n hx hb dX10_lay_20 rfl (lv_at hl 0 rfl) ?_
      refine gf_X10_0 C hP wk_4_197 dX10_lay_21 ?_
      refine lv_iload_n hx hb dX10_lay_24 rfl (lv_at hl 1 rfl) ?_
      obtain ⟨hi5, hf⟩ := jix_e hf
      refine r_lald C hP aM_1 hi5 dX10_lay_25 ?_
      refine jl_topl hf (fun y6 hf => ?_)
      refine lv_lstore (lv' := [(4, .long y6), (0, .ref (a 0)), (1, .int x1), (2, .long x2)]) hx hb dX10_lay_26 hl (by decide) rfl (fun ls hl => ?_)
      refine lv_aload_n hx hb dX10_lay_28 rfl (lv_at hl 1 rfl) ?_
      refine gf_X10_0 C hP wk_4_197 dX10_lay_29 ?_
      refine lv_iload_n hx hb dX10_lay_32 rfl (lv_at hl 2 rfl) ?_
      refine lv_lload_n hx hb dX10_lay_33 rfl (lv_at hl 3 rfl) ?_
      obtain ⟨hi7, hf⟩ := jix_e hf
      refine r_last C hP hS aM_1 hi7 dX10_lay_34 hf (fun H locs s8 hf hP hS => ?_)
      refine lv_lload hx hb dX10_lay_35 (lv_at hl 0 rfl) ?_
      exact ret_l C hP hS (Prod.mk.inj (Option.some.inj hf)).1 (Prod.mk.inj (Option.some.inj hf)).2 dX10_lay_37
    · have hf := jif_n hc hf
      exact hL16 σ H locs ls hf hP hS (lv_sub hl [] rfl)
set_option maxHeartbeats 4000000 in
set_option maxRecDepth 100000 in
theorem k_X10_laid {l : Launch} {a : Nat → Nat} {cy : Nat → ClassId} {D : va_G} {A : Nat → Prop} (O : WO NM a (fun _ => True) A) {x1 : Int32} {r : Int64} {σ : ST} (hf : f_X10_laid x1 σ = some r) : Met l yX10_laid (Cond.code yX10_laid cX10_laid 2 (some .long) :: WS) (rmk 1 22) (PC [.ref (a 0), .int x1] NM eM a cy D (fun _ => True) σ) (QL NM eM a cy D A r σ) 0 0 A := by
  refine met_go (own := "GuardsLookLeftModel") O (by decide +kernel) rfl (Nat.le_of_ble_eq_true rfl) ?_
  intro p e s m args below meth c ls C hP hS hl
  have hx := C.hx
  have hb := C.hb
  have hl : lv_has ls 2 [(0, .ref (a 0)), (1, .int x1)] := hl
  obtain ⟨H, hH⟩ : ∃ H, H = s.heap := ⟨_, rfl⟩
  rw [← hH] at hP
  have hS : va_S A s.heap H [] := by rw [hH]; exact va_S.rf
  suffices g : W p l e (rmk 1 22) s m args below meth c H [] 0 0 (MQ below (QL NM eM a cy D A r σ) args s 0 0 A) (F0 m 0 ls []) by rw [hH] at g; exact g
  clear hH
  obtain ⟨locs, hlocs⟩ : ∃ z : List Loc, z = [] := ⟨_, rfl⟩
  rw [← hlocs] at hS ⊢
  refine lv_iload_n hx hb dX10_laid_0 rfl (lv_at hl 1 rfl) ?_
  refine lv_iconst (v := (0 : Int32)) hx hb dX10_laid_1 (by decide) ?_
  refine lv_iconst (v := (2 : Int32)) hx hb dX10_laid_2 (by decide) ?_
  refine r_cz (r_runS (As := [.int x1, .int (0 : Int32), .int (2 : Int32)]) (rest := []) C hP hS (k_X10_in (l := l) O (σ := σ) rfl) mw_X10_in ms_X10_in wk_4_158 ⟨Nat.le_of_ble_eq_true rfl, Nat.le_of_ble_eq_true rfl⟩ ⟨rfl, rfl⟩ ⟨Nat.zero_le _, Nat.zero_le _⟩ rfl hl.1 rfl (Nat.le_of_ble_eq_true rfl) dX10_laid_3) hS (fun H locs hzy1 hP hS => ?_)
  refine jl_topz hf hzy1 (fun y1 hzy1 hf => ?_)
  refine lv_if_eq (tgt := 18) hx hb dX10_laid_6 (by decide) (fun hc => ?_) (fun hc => ?_)
  · have hf := jif_t hc hf
    refine lv_ldc2 hx hb C.hown (C.ts _ wk_5_89) dX10_laid_18 ?_
    exact ret_l C hP hS (Option.some.inj hf) rfl dX10_laid_21
  · have hf := jif_f hc hf
    refine lv_aload_n hx hb dX10_laid_9 rfl (lv_at hl 0 rfl) ?_
    refine gf_X10_0 C hP wk_4_197 dX10_laid_10 ?_
    refine lv_iload_n hx hb dX10_laid_13 rfl (lv_at hl 1 rfl) ?_
    obtain ⟨hi3, hf⟩ := jix_e hf
    refine r_lald C hP aM_1 hi3 dX10_laid_14 ?_
    refine lv_goto (tgt := 21) hx hb dX10_laid_15 (by decide) ?_
    exact ret_l C hP hS (Option.some.inj hf) rfl dX10_laid_21
set_option maxHeartbeats 4000000 in
set_option maxRecDepth 100000 in
theorem k_X10_put {l : Launch} {a : Nat → Nat} {cy : Nat → ClassId} {D : va_G} {A : Nat → Prop} (O : WO NM a (fun _ => True) A) {x1 : Int32} {x2 : Int32} {x3 : Int32} {r : Int32} {σ : ST} {σ' : ST} (hf : f_X10_put x1 x2 x3 σ = some (r, σ')) : Met l yX10_put (Cond.code yX10_put cX10_put 5 (some .int) :: WS) (rmk 2 42) (PC [.ref (a 0), .int x1, .int x2, .int x3] NM eM a cy D (fun _ => True) σ) (QI NM eM a cy D A r σ') 0 0 A := by
  refine met_go (own := "GuardsLookLeftModel") O (by decide +kernel) rfl (Nat.le_of_ble_eq_true rfl) ?_
  intro p e s m args below meth c ls C hP hS hl
  have hx := C.hx
  have hb := C.hb
  have hl : lv_has ls 5 [(0, .ref (a 0)), (1, .int x1), (2, .int x2), (3, .int x3)] := hl
  obtain ⟨H, hH⟩ : ∃ H, H = s.heap := ⟨_, rfl⟩
  rw [← hH] at hP
  have hS : va_S A s.heap H [] := by rw [hH]; exact va_S.rf
  suffices g : W p l e (rmk 2 42) s m args below meth c H [] 0 0 (MQ below (QI NM eM a cy D A r σ') args s 0 0 A) (F0 m 0 ls []) by rw [hH] at g; exact g
  clear hH
  obtain ⟨locs, hlocs⟩ : ∃ z : List Loc, z = [] := ⟨_, rfl⟩
  rw [← hlocs] at hS ⊢
  have hL88 : (∀ (v4 : Int32) (t1 : Int32) (t2 : Int64) (s0 : ST) (H : Heap) (locs : List Loc) (ls : Array Slot), f_X10_put_L88 v4 t1 t2 s0 = some (r, σ') → va_P D vwCl (wG NM eM a cy s0) H → va_S A s.heap H locs → lv_has ls 5 [(4, .int v4)] → W p l e (rmk 2 42) s m args below meth c H locs 0 0 (MQ below (QI NM eM a cy D A r σ') args s 0 0 A) (F0 m 88 ls [.long t2, .int t1, .ref (a 1)])) := by
    intro v4 t1 t2 s0 H locs ls hf hP hS hl
    obtain ⟨hi1, hf⟩ := jix_e hf
    refine r_last C hP hS aM_1 hi1 dX10_put_88 hf (fun H locs s2 hf hP hS => ?_)
    refine lv_iload hx hb dX10_put_89 (lv_at hl 0 rfl) ?_
    exact ret_i C hP hS (Prod.mk.inj (Option.some.inj hf)).1 (Prod.mk.inj (Option.some.inj hf)).2 dX10_put_91
  have hL49 : (∀ (v1 : Int32) (v2 : Int32) (v3 : Int32) (t0 : Int32) (s0 : ST) (H : Heap) (locs : List Loc) (ls : Array Slot), f_X10_put_L49 v1 v2 v3 t0 s0 = some (r, σ') → va_P D vwCl (wG NM eM a cy s0) H → va_S A s.heap H locs → lv_has ls 5 [(0, .ref (a 0)), (1, .int v1), (2, .int v2), (3, .int v3)] → W p l e (rmk 2 42) s m args below meth c H locs 0 0 (MQ below (QI NM eM a cy D A r σ') args s 0 0 A) (F0 m 49 ls [.int t0])) := by
    intro v1 v2 v3 t0 s0 H locs ls hf hP hS hl
    refine lv_istore (lv' := [(4, .int t0), (0, .ref (a 0)), (1, .int v1), (2, .int v2), (3, .int v3)]) hx hb dX10_put_49 hl (by decide) rfl (fun ls hl => ?_)
    refine lv_aload_n hx hb dX10_put_51 rfl (lv_at hl 1 rfl) ?_
    refine gf_X10_0 C hP wk_4_197 dX10_put_52 ?_
    refine lv_iload_n hx hb dX10_put_55 rfl (lv_at hl 3 rfl) ?_
    refine lv_iload_n hx hb dX10_put_56 rfl (lv_at hl 4 rfl) ?_
    refine lv_iconst (v := (1 : Int32)) hx hb dX10_put_57 (by decide) ?_
    refine lv_icmp_ne (tgt := 74) hx hb dX10_put_58 (by decide) (fun hc => ?_) (fun hc => ?_)
    · have hf := jif_t hc hf
      refine lv_aload_n hx hb dX10_put_74 rfl (lv_at hl 1 rfl) ?_
      refine gf_X10_0 C hP wk_4_197 dX10_put_75 ?_
      refine lv_iload_n hx hb dX10_put_78 rfl (lv_at hl 3 rfl) ?_
      obtain ⟨hi1, hf⟩ := jix_e hf
      refine r_lald C hP aM_1 hi1 dX10_put_79 ?_
      refine lv_lconst (v := (1 : Int64)) hx hb dX10_put_80 (by decide) ?_
      refine lv_iload_n hx hb dX10_put_81 rfl (lv_at hl 2 rfl) ?_
      refine r_lshl C dX10_put_82 ?_
      refine lv_ldc2 hx hb C.hown (C.ts _ wk_5_104) dX10_put_83 ?_
      refine lv_lxor hx hb dX10_put_86 ?_
      refine lv_land hx hb dX10_put_87 ?_
      exact hL88 t0 v2 ((gB s0 1 (Int32.toNatClampNeg v2)) &&& ((jlshl (1 : Int64) v1) ^^^ (-1 : Int64))) s0 H locs ls hf hP hS (lv_sub hl [0] rfl)
    · have hf := jif_n hc hf
      refine lv_aload_n hx hb dX10_put_61 rfl (lv_at hl 1 rfl) ?_
      refine gf_X10_0 C hP wk_4_197 dX10_put_62 ?_
      refine lv_iload_n hx hb dX10_put_65 rfl (lv_at hl 3 rfl) ?_
      obtain ⟨hi2, hf⟩ := jix_e hf
      refine r_lald C hP aM_1 hi2 dX10_put_66 ?_
      refine lv_lconst (v := (1 : Int64)) hx hb dX10_put_67 (by decide) ?_
      refine lv_iload_n hx hb dX10_put_68 rfl (lv_at hl 2 rfl) ?_
      refine r_lshl C dX10_put_69 ?_
      refine lv_lor hx hb dX10_put_70 ?_
      refine lv_goto (tgt := 88) hx hb dX10_put_71 (by decide) ?_
      exact hL88 t0 v2 ((gB s0 1 (Int32.toNatClampNeg v2)) ||| (jlshl (1 : Int64) v1)) s0 H locs ls hf hP hS (lv_sub hl [0] rfl)
  refine lv_iload_n hx hb dX10_put_0 rfl (lv_at hl 1 rfl) ?_
  refine r_cz (r_runS (As := [.int x1]) (rest := []) C hP hS (k_X10_isCell (l := l) O (σ := σ) rfl) mw_X10_isCell ms_X10_isCell wk_5_98 ⟨Nat.le_of_ble_eq_true rfl, Nat.le_of_ble_eq_true rfl⟩ ⟨rfl, rfl⟩ ⟨Nat.zero_le _, Nat.zero_le _⟩ rfl hl.1 rfl (Nat.le_of_ble_eq_true rfl) dX10_put_1) hS (fun H locs hzy1 hP hS => ?_)
  refine jl_topz hf hzy1 (fun y1 hzy1 hf => ?_)
  refine lv_if_ne (tgt := 10) hx hb dX10_put_4 (by decide) (fun hc => ?_) (fun hc => ?_)
  · have hf := jif_t hc hf
    refine lv_iload_n hx hb dX10_put_10 rfl (lv_at hl 2 rfl) ?_
    refine lv_iconst (v := (0 : Int32)) hx hb dX10_put_11 (by decide) ?_
    refine lv_iconst (v := (2 : Int32)) hx hb dX10_put_12 (by decide) ?_
    refine r_cz (r_runS (As := [.int x2, .int (0 : Int32), .int (2 : Int32)]) (rest := []) C hP hS (k_X10_in (l := l) O (σ := σ) rfl) mw_X10_in ms_X10_in wk_4_158 ⟨Nat.le_of_ble_eq_true rfl, Nat.le_of_ble_eq_true rfl⟩ ⟨rfl, rfl⟩ ⟨Nat.zero_le _, Nat.zero_le _⟩ rfl hl.1 rfl (Nat.le_of_ble_eq_true rfl) dX10_put_13) hS (fun H locs hzy3 hP hS => ?_)
    refine jl_topz hf hzy3 (fun y3 hzy3 hf => ?_)
    refine lv_if_eq (tgt := 28) hx hb dX10_put_16 (by decide) (fun hc => ?_) (fun hc => ?_)
    · have hf := jif_t hc hf
      refine lv_bipush (v := (-7 : Int32)) hx hb dX10_put_28 (by decide) ?_
      exact ret_i C hP hS (Prod.mk.inj (Option.some.inj hf)).1 (Prod.mk.inj (Option.some.inj hf)).2 dX10_put_30
    · have hf := jif_f hc hf
      refine lv_iload_n hx hb dX10_put_19 rfl (lv_at hl 3 rfl) ?_
      refine lv_iconst (v := (0 : Int32)) hx hb dX10_put_20 (by decide) ?_
      refine lv_iconst (v := (1 : Int32)) hx hb dX10_put_21 (by decide) ?_
      refine r_cz (r_runS (As := [.int x3, .int (0 : Int32), .int (1 : Int32)]) (rest := []) C hP hS (k_X10_in (l := l) O (σ := σ) rfl) mw_X10_in ms_X10_in wk_4_158 ⟨Nat.le_of_ble_eq_true rfl, Nat.le_of_ble_eq_true rfl⟩ ⟨rfl, rfl⟩ ⟨Nat.zero_le _, Nat.zero_le _⟩ rfl hl.1 rfl (Nat.le_of_ble_eq_true rfl) dX10_put_22) hS (fun H locs hzy5 hP hS => ?_)
      refine jl_topz hf hzy5 (fun y5 hzy5 hf => ?_)
      refine lv_if_ne (tgt := 31) hx hb dX10_put_25 (by decide) (fun hc => ?_) (fun hc => ?_)
      · have hf := jif_t hc hf
        refine lv_aload_n hx hb dX10_put_31 rfl (lv_at hl 0 rfl) ?_
        refine gf_X10_0 C hP wk_4_197 dX10_put_32 ?_
        refine lv_iload_n hx hb dX10_put_35 rfl (lv_at hl 2 rfl) ?_
        obtain ⟨hi7, hf⟩ := jix_e hf
        refine r_lald C hP aM_1 hi7 dX10_put_36 ?_
        refine lv_iload_n hx hb dX10_put_37 rfl (lv_at hl 1 rfl) ?_
        refine r_cz (r_runS (As := [.long (gB σ 1 (Int32.toNatClampNeg x2)), .int x1]) (rest := []) C hP hS (k_X10_has (l := l) O (σ := σ) rfl) mw_X10_has ms_X10_has wk_5_101 ⟨Nat.le_of_ble_eq_true rfl, Nat.le_of_ble_eq_true rfl⟩ ⟨rfl, rfl⟩ ⟨Nat.zero_le _, Nat.zero_le _⟩ rfl hl.1 rfl (Nat.le_of_ble_eq_true rfl) dX10_put_38) hS (fun H locs hzy8 hP hS => ?_)
        refine jl_topz hf hzy8 (fun y8 hzy8 hf => ?_)
        refine lv_if_eq (tgt := 48) hx hb dX10_put_41 (by decide) (fun hc => ?_) (fun hc => ?_)
        · have hf := jif_t hc hf
          refine lv_iconst (v := (0 : Int32)) hx hb dX10_put_48 (by decide) ?_
          exact hL49 x1 x2 x3 (0 : Int32) σ H locs ls hf hP hS (lv_sub hl [0, 1, 2, 3] rfl)
        · have hf := jif_f hc hf
          refine lv_iconst (v := (1 : Int32)) hx hb dX10_put_44 (by decide) ?_
          refine lv_goto (tgt := 49) hx hb dX10_put_45 (by decide) ?_
          exact hL49 x1 x2 x3 (1 : Int32) σ H locs ls hf hP hS (lv_sub hl [0, 1, 2, 3] rfl)
      · have hf := jif_n hc hf
        refine lv_bipush (v := (-7 : Int32)) hx hb dX10_put_28 (by decide) ?_
        exact ret_i C hP hS (Prod.mk.inj (Option.some.inj hf)).1 (Prod.mk.inj (Option.some.inj hf)).2 dX10_put_30
  · have hf := jif_n hc hf
    refine lv_bipush (v := (-5 : Int32)) hx hb dX10_put_7 (by decide) ?_
    exact ret_i C hP hS (Prod.mk.inj (Option.some.inj hf)).1 (Prod.mk.inj (Option.some.inj hf)).2 dX10_put_9
set_option maxHeartbeats 4000000 in
set_option maxRecDepth 100000 in
theorem k_X10_count {l : Launch} {a : Nat → Nat} {cy : Nat → ClassId} {D : va_G} {A : Nat → Prop} (O : WO NM a (fun _ => True) A) {x1 : Int32} {r : Int32} {σ : ST} (hf : f_X10_count x1 σ = some r) : Met l yX10_count (Cond.code yX10_count cX10_count 2 (some .int) :: WS) (rmk 2 45) (PC [.ref (a 0), .int x1] NM eM a cy D (fun _ => True) σ) (QI NM eM a cy D A r σ) 0 0 A := by
  refine met_go (own := "GuardsLookLeftModel") O (by decide +kernel) rfl (Nat.le_of_ble_eq_true rfl) ?_
  intro p e s m args below meth c ls C hP hS hl
  have hx := C.hx
  have hb := C.hb
  have hl : lv_has ls 2 [(0, .ref (a 0)), (1, .int x1)] := hl
  obtain ⟨H, hH⟩ : ∃ H, H = s.heap := ⟨_, rfl⟩
  rw [← hH] at hP
  have hS : va_S A s.heap H [] := by rw [hH]; exact va_S.rf
  suffices g : W p l e (rmk 2 45) s m args below meth c H [] 0 0 (MQ below (QI NM eM a cy D A r σ) args s 0 0 A) (F0 m 0 ls []) by rw [hH] at g; exact g
  clear hH
  obtain ⟨locs, hlocs⟩ : ∃ z : List Loc, z = [] := ⟨_, rfl⟩
  rw [← hlocs] at hS ⊢
  refine lv_iload_n hx hb dX10_count_0 rfl (lv_at hl 1 rfl) ?_
  by_cases hk100 : x1 = (0 : Int32)
  · have hf := jif_t hk100 hf
    refine sw_in (k := (0 : Int32)) (tgt := 44) C hk100 dX10_count_1 (by decide) (by decide) rfl (by decide) ?_
    refine lv_aload_n hx hb dX10_count_44 rfl (lv_at hl 0 rfl) ?_
    refine gf_X10_1 C hP wk_4_198 dX10_count_45 ?_
    exact ret_i C hP hS (Option.some.inj hf) rfl dX10_count_48
  · have hf := jif_f hk100 hf
    by_cases hk101 : x1 = (1 : Int32)
    · have hf := jif_t hk101 hf
      refine sw_in (k := (1 : Int32)) (tgt := 49) C hk101 dX10_count_1 (by decide) (by decide) rfl (by decide) ?_
      refine lv_aload_n hx hb dX10_count_49 rfl (lv_at hl 0 rfl) ?_
      refine gf_X10_0 C hP wk_4_197 dX10_count_50 ?_
      refine lv_iload_n hx hb dX10_count_53 rfl (lv_at hl 1 rfl) ?_
      refine lv_iconst (v := (1 : Int32)) hx hb dX10_count_54 (by decide) ?_
      refine lv_isub hx hb dX10_count_55 ?_
      obtain ⟨hi1, hf⟩ := jix_e hf
      refine r_lald C hP aM_1 hi1 dX10_count_56 ?_
      obtain ⟨y2, hc, hf⟩ := jb_e hf
      refine r_ci (r_runS (As := [.long (gB σ 1 (Int32.toNatClampNeg (x1 - (1 : Int32))))]) (rest := []) C hP hS (k_X10_bitsOf (l := l) O (σ := σ) hc) mw_X10_bitsOf ms_X10_bitsOf wk_5_109 ⟨Nat.le_of_ble_eq_true rfl, Nat.le_of_ble_eq_true rfl⟩ ⟨rfl, rfl⟩ ⟨Nat.zero_le _, Nat.zero_le _⟩ rfl hl.1 rfl (Nat.le_of_ble_eq_true rfl) dX10_count_57) hS (fun H locs hP hS => ?_)
      exact ret_i C hP hS (Option.some.inj hf) rfl dX10_count_60
    · have hf := jif_f hk101 hf
      by_cases hk102 : x1 = (2 : Int32)
      · have hf := jif_t hk102 hf
        refine sw_in (k := (2 : Int32)) (tgt := 49) C hk102 dX10_count_1 (by decide) (by decide) rfl (by decide) ?_
        refine lv_aload_n hx hb dX10_count_49 rfl (lv_at hl 0 rfl) ?_
        refine gf_X10_0 C hP wk_4_197 dX10_count_50 ?_
        refine lv_iload_n hx hb dX10_count_53 rfl (lv_at hl 1 rfl) ?_
        refine lv_iconst (v := (1 : Int32)) hx hb dX10_count_54 (by decide) ?_
        refine lv_isub hx hb dX10_count_55 ?_
        obtain ⟨hi4, hf⟩ := jix_e hf
        refine r_lald C hP aM_1 hi4 dX10_count_56 ?_
        obtain ⟨y5, hc, hf⟩ := jb_e hf
        refine r_ci (r_runS (As := [.long (gB σ 1 (Int32.toNatClampNeg (x1 - (1 : Int32))))]) (rest := []) C hP hS (k_X10_bitsOf (l := l) O (σ := σ) hc) mw_X10_bitsOf ms_X10_bitsOf wk_5_109 ⟨Nat.le_of_ble_eq_true rfl, Nat.le_of_ble_eq_true rfl⟩ ⟨rfl, rfl⟩ ⟨Nat.zero_le _, Nat.zero_le _⟩ rfl hl.1 rfl (Nat.le_of_ble_eq_true rfl) dX10_count_57) hS (fun H locs hP hS => ?_)
        exact ret_i C hP hS (Option.some.inj hf) rfl dX10_count_60
      · have hf := jif_f hk102 hf
        by_cases hk103 : x1 = (3 : Int32)
        · have hf := jif_t hk103 hf
          refine sw_in (k := (3 : Int32)) (tgt := 49) C hk103 dX10_count_1 (by decide) (by decide) rfl (by decide) ?_
          refine lv_aload_n hx hb dX10_count_49 rfl (lv_at hl 0 rfl) ?_
          refine gf_X10_0 C hP wk_4_197 dX10_count_50 ?_
          refine lv_iload_n hx hb dX10_count_53 rfl (lv_at hl 1 rfl) ?_
          refine lv_iconst (v := (1 : Int32)) hx hb dX10_count_54 (by decide) ?_
          refine lv_isub hx hb dX10_count_55 ?_
          obtain ⟨hi7, hf⟩ := jix_e hf
          refine r_lald C hP aM_1 hi7 dX10_count_56 ?_
          obtain ⟨y8, hc, hf⟩ := jb_e hf
          refine r_ci (r_runS (As := [.long (gB σ 1 (Int32.toNatClampNeg (x1 - (1 : Int32))))]) (rest := []) C hP hS (k_X10_bitsOf (l := l) O (σ := σ) hc) mw_X10_bitsOf ms_X10_bitsOf wk_5_109 ⟨Nat.le_of_ble_eq_true rfl, Nat.le_of_ble_eq_true rfl⟩ ⟨rfl, rfl⟩ ⟨Nat.zero_le _, Nat.zero_le _⟩ rfl hl.1 rfl (Nat.le_of_ble_eq_true rfl) dX10_count_57) hS (fun H locs hP hS => ?_)
          exact ret_i C hP hS (Option.some.inj hf) rfl dX10_count_60
        · have hf := jif_f hk103 hf
          by_cases hk104 : x1 = (4 : Int32)
          · have hf := jif_t hk104 hf
            refine sw_in (k := (4 : Int32)) (tgt := 61) C hk104 dX10_count_1 (by decide) (by decide) rfl (by decide) ?_
            refine lv_aload_n hx hb dX10_count_61 rfl (lv_at hl 0 rfl) ?_
            refine gf_X10_12 C hP wk_4_209 dX10_count_62 ?_
            exact ret_i C hP hS (Option.some.inj hf) rfl dX10_count_65
          · have hf := jif_f hk104 hf
            by_cases hk105 : x1 = (5 : Int32)
            · have hf := jif_t hk105 hf
              refine sw_in (k := (5 : Int32)) (tgt := 66) C hk105 dX10_count_1 (by decide) (by decide) rfl (by decide) ?_
              refine lv_aload_n hx hb dX10_count_66 rfl (lv_at hl 0 rfl) ?_
              refine gf_X10_13 C hP wk_4_210 dX10_count_67 ?_
              exact ret_i C hP hS (Option.some.inj hf) rfl dX10_count_70
            · have hf := jif_f hk105 hf
              by_cases hk106 : x1 = (6 : Int32)
              · have hf := jif_t hk106 hf
                refine sw_in (k := (6 : Int32)) (tgt := 71) C hk106 dX10_count_1 (by decide) (by decide) rfl (by decide) ?_
                refine lv_aload_n hx hb dX10_count_71 rfl (lv_at hl 0 rfl) ?_
                refine gf_X10_9 C hP wk_4_206 dX10_count_72 ?_
                exact ret_i C hP hS (Option.some.inj hf) rfl dX10_count_75
              · have hf := jif_f hk106 hf
                refine lv_tableOut (tgt := 76) hx hb dX10_count_1 (by have q100 := lv_neT hk100 (a := 0) (by decide); have q101 := lv_neT hk101 (a := 1) (by decide); have q102 := lv_neT hk102 (a := 2) (by decide); have q103 := lv_neT hk103 (a := 3) (by decide); have q104 := lv_neT hk104 (a := 4) (by decide); have q105 := lv_neT hk105 (a := 5) (by decide); have q106 := lv_neT hk106 (a := 6) (by decide); omega) (by decide) ?_
                refine lv_bipush (v := (-2 : Int32)) hx hb dX10_count_76 (by decide) ?_
                exact ret_i C hP hS (Option.some.inj hf) rfl dX10_count_78
set_option maxHeartbeats 4000000 in
set_option maxRecDepth 100000 in
theorem k_X10_isByte {l : Launch} {a : Nat → Nat} {cy : Nat → ClassId} {D : va_G} {A : Nat → Prop} (O : WO NM a (fun _ => True) A) {x1 : Int32} {r : Int32} {σ : ST} (hf : f_X10_isByte x1 = r) : Met l yX10_isByte (Cond.code yX10_isByte cX10_isByte 1 (some .boolean) :: WS) (rmk 1 22) (PC [.int x1] NM eM a cy D (fun _ => True) σ) (QZ NM eM a cy D A r σ) 0 0 A := by
  refine met_go (own := "GuardsLookLeftModel") O (by decide +kernel) rfl (Nat.le_of_ble_eq_true rfl) ?_
  intro p e s m args below meth c ls C hP hS hl
  have hx := C.hx
  have hb := C.hb
  have hl : lv_has ls 1 [(0, .int x1)] := hl
  obtain ⟨H, hH⟩ : ∃ H, H = s.heap := ⟨_, rfl⟩
  rw [← hH] at hP
  have hS : va_S A s.heap H [] := by rw [hH]; exact va_S.rf
  suffices g : W p l e (rmk 1 22) s m args below meth c H [] 0 0 (MQ below (QZ NM eM a cy D A r σ) args s 0 0 A) (F0 m 0 ls []) by rw [hH] at g; exact g
  clear hH
  obtain ⟨locs, hlocs⟩ : ∃ z : List Loc, z = [] := ⟨_, rfl⟩
  rw [← hlocs] at hS ⊢
  refine lv_iload_n hx hb dX10_isByte_0 rfl (lv_at hl 0 rfl) ?_
  refine lv_iconst (v := (0 : Int32)) hx hb dX10_isByte_1 (by decide) ?_
  refine lv_sipush (v := (255 : Int32)) hx hb dX10_isByte_2 (by decide) ?_
  refine r_cz (r_runS (As := [.int x1, .int (0 : Int32), .int (255 : Int32)]) (rest := []) C hP hS (k_X10_in (l := l) O (σ := σ) rfl) mw_X10_in ms_X10_in wk_4_158 ⟨Nat.le_of_ble_eq_true rfl, Nat.le_of_ble_eq_true rfl⟩ ⟨rfl, rfl⟩ ⟨Nat.zero_le _, Nat.zero_le _⟩ rfl hl.1 rfl (Nat.le_of_ble_eq_true rfl) dX10_isByte_5) hS (fun H locs hzy1 hP hS => ?_)
  refine jl_topz hf hzy1 (fun y1 hzy1 hf => ?_)
  exact ret_z C hP hS hzy1 hf rfl dX10_isByte_8
set_option maxHeartbeats 4000000 in
set_option maxRecDepth 100000 in
theorem k_X10_feed {l : Launch} {a : Nat → Nat} {cy : Nat → ClassId} {D : va_G} {A : Nat → Prop} (O : WO NM a (fun _ => True) A) {x1 : Int32} {x2 : Int32} {x3 : Int32} {x4 : Int32} {x5 : Int32} {x6 : Int32} {r : Int32} {σ : ST} {σ' : ST} (hf : f_X10_feed x1 x2 x3 x4 x5 x6 σ = some (r, σ')) : Met l yX10_feed (Cond.code yX10_feed cX10_feed 8 (some .int) :: WS) (rmk 2 42) (PC [.ref (a 0), .int x1, .int x2, .int x3, .int x4, .int x5, .int x6] NM eM a cy D (fun _ => True) σ) (QI NM eM a cy D A r σ') 0 0 A := by
  refine met_go (own := "GuardsLookLeftModel") O (by decide +kernel) rfl (Nat.le_of_ble_eq_true rfl) ?_
  intro p e s m args below meth c ls C hP hS hl
  have hx := C.hx
  have hb := C.hb
  have hl : lv_has ls 8 [(0, .ref (a 0)), (1, .int x1), (2, .int x2), (3, .int x3), (4, .int x4), (5, .int x5), (6, .int x6)] := hl
  obtain ⟨H, hH⟩ : ∃ H, H = s.heap := ⟨_, rfl⟩
  rw [← hH] at hP
  have hS : va_S A s.heap H [] := by rw [hH]; exact va_S.rf
  suffices g : W p l e (rmk 2 42) s m args below meth c H [] 0 0 (MQ below (QI NM eM a cy D A r σ') args s 0 0 A) (F0 m 0 ls []) by rw [hH] at g; exact g
  clear hH
  obtain ⟨locs, hlocs⟩ : ∃ z : List Loc, z = [] := ⟨_, rfl⟩
  rw [← hlocs] at hS ⊢
  have hL125 : ∀ (k68 : Int32 → Int32 → Int32 → Int32 → Int32 → Int32 → Int32 → ST → Option (Int32 × ST)) (hk68 : (∀ (v1 : Int32) (v2 : Int32) (v3 : Int32) (v4 : Int32) (v5 : Int32) (v6 : Int32) (v7 : Int32) (s0 : ST) (H : Heap) (locs : List Loc) (ls : Array Slot), k68 v1 v2 v3 v4 v5 v6 v7 s0 = some (r, σ') → va_P D vwCl (wG NM eM a cy s0) H → va_S A s.heap H locs → lv_has ls 8 [(0, .ref (a 0)), (1, .int v1), (2, .int v2), (3, .int v3), (4, .int v4), (5, .int v5), (6, .int v6), (7, .int v7)] → W p l e (rmk 2 42) s m args below meth c H locs 0 0 (MQ below (QI NM eM a cy D A r σ') args s 0 0 A) (F0 m 68 ls []))), (∀ (v1 : Int32) (v2 : Int32) (v3 : Int32) (v4 : Int32) (v5 : Int32) (v6 : Int32) (v7 : Int32) (t1 : Int32) (t2 : Int32) (s0 : ST) (H : Heap) (locs : List Loc) (ls : Array Slot), f_X10_feed_L125 k68 v1 v2 v3 v4 v5 v6 v7 t1 t2 s0 = some (r, σ') → va_P D vwCl (wG NM eM a cy s0) H → va_S A s.heap H locs → lv_has ls 8 [(0, .ref (a 0)), (1, .int v1), (2, .int v2), (3, .int v3), (4, .int v4), (5, .int v5), (6, .int v6), (7, .int v7)] → W p l e (rmk 2 42) s m args below meth c H locs 0 0 (MQ below (QI NM eM a cy D A r σ') args s 0 0 A) (F0 m 125 ls [.int t2, .int t1, .ref (a 8)])) := by
    intro k68 hk68 v1 v2 v3 v4 v5 v6 v7 t1 t2 s0 H locs ls hf hP hS hl
    obtain ⟨hi1, hf⟩ := jix_e hf
    refine r_iast C hP hS aM_8 hi1 dX10_feed_125 hf (fun H locs s2 hf hP hS => ?_)
    refine lv_aload_n hx hb dX10_feed_126 rfl (lv_at hl 0 rfl) ?_
    refine lv_dup hx hb dX10_feed_127 rfl ?_
    refine gf_X10_9 C hP wk_4_206 dX10_feed_128 ?_
    refine lv_iconst (v := (1 : Int32)) hx hb dX10_feed_131 (by decide) ?_
    refine lv_iadd hx hb dX10_feed_132 ?_
    refine pf_X10_9 C hP hS wk_4_206 dX10_feed_133 hf (fun H locs s3 hf hP hS => ?_)
    obtain ⟨y4, ey4, hf⟩ := jlet_e hf
    refine lv_iinc (v := y4) (lv' := [(7, .int y4), (0, .ref (a 0)), (1, .int v1), (2, .int v2), (3, .int v3), (4, .int v4), (5, .int v5), (6, .int v6)]) hx hb dX10_feed_136 hl (k := 7) rfl ey4 (by decide) rfl (fun ls hl => ?_)
    refine lv_goto (tgt := 68) hx hb dX10_feed_139 (by decide) ?_
    exact hk68 v1 v2 v3 v4 v5 v6 y4 s3 H locs ls hf hP hS (lv_sub hl [1, 2, 3, 4, 5, 6, 7, 0] rfl)
  have hL68 : ∀ (n : Nat), (∀ (v1 : Int32) (v2 : Int32) (v3 : Int32) (v4 : Int32) (v5 : Int32) (v6 : Int32) (v7 : Int32) (s0 : ST) (H : Heap) (locs : List Loc) (ls : Array Slot), f_X10_feed_L68 n v1 v2 v3 v4 v5 v6 v7 s0 = some (r, σ') → va_P D vwCl (wG NM eM a cy s0) H → va_S A s.heap H locs → lv_has ls 8 [(0, .ref (a 0)), (1, .int v1), (2, .int v2), (3, .int v3), (4, .int v4), (5, .int v5), (6, .int v6), (7, .int v7)] → W p l e (rmk 2 42) s m args below meth c H locs 0 0 (MQ below (QI NM eM a cy D A r σ') args s 0 0 A) (F0 m 68 ls [])) := by
    intro n
    induction n with
    | zero => intro v1 v2 v3 v4 v5 v6 v7 s0 H locs ls hf hP hS hl; exact no_o hf
    | succ n ih =>
      intro v1 v2 v3 v4 v5 v6 v7 s0 H locs ls hf hP hS hl
      have hf := (ef_X10_feed_L68 _ _ _ _ _ _ _ _).symm.trans hf
      refine lv_iload hx hb dX10_feed_68 (lv_at hl 7 rfl) ?_
      refine lv_iload_n hx hb dX10_feed_70 rfl (lv_at hl 1 rfl) ?_
      refine lv_icmp_ge (tgt := 142) hx hb dX10_feed_71 (by decide) (fun hc => ?_) (fun hc => ?_)
      · have hf := jif_t hc hf
        refine lv_aload_n hx hb dX10_feed_142 rfl (lv_at hl 0 rfl) ?_
        refine gf_X10_9 C hP wk_4_206 dX10_feed_143 ?_
        exact ret_i C hP hS (Prod.mk.inj (Option.some.inj hf)).1 (Prod.mk.inj (Option.some.inj hf)).2 dX10_feed_146
      · have hf := jif_f hc hf
        refine lv_aload_n hx hb dX10_feed_74 rfl (lv_at hl 0 rfl) ?_
        refine gf_X10_8 C hP wk_4_205 dX10_feed_75 ?_
        refine lv_aload_n hx hb dX10_feed_78 rfl (lv_at hl 0 rfl) ?_
        refine gf_X10_9 C hP wk_4_206 dX10_feed_79 ?_
        refine lv_iload hx hb dX10_feed_82 (lv_at hl 7 rfl) ?_
        refine lv_if_ne (tgt := 91) hx hb dX10_feed_84 (by decide) (fun hc => ?_) (fun hc => ?_)
        · have hf := jif_t hc hf
          refine lv_iload hx hb dX10_feed_91 (lv_at hl 7 rfl) ?_
          refine lv_iconst (v := (1 : Int32)) hx hb dX10_feed_93 (by decide) ?_
          refine lv_icmp_ne (tgt := 101) hx hb dX10_feed_94 (by decide) (fun hc => ?_) (fun hc => ?_)
          · have hf := jif_t hc hf
            refine lv_iload hx hb dX10_feed_101 (lv_at hl 7 rfl) ?_
            refine lv_iconst (v := (2 : Int32)) hx hb dX10_feed_103 (by decide) ?_
            refine lv_icmp_ne (tgt := 112) hx hb dX10_feed_104 (by decide) (fun hc => ?_) (fun hc => ?_)
            · have hf := jif_t hc hf
              refine lv_iload hx hb dX10_feed_112 (lv_at hl 7 rfl) ?_
              refine lv_iconst (v := (3 : Int32)) hx hb dX10_feed_114 (by decide) ?_
              refine lv_icmp_ne (tgt := 123) hx hb dX10_feed_115 (by decide) (fun hc => ?_) (fun hc => ?_)
              · have hf := jif_t hc hf
                refine lv_iload hx hb dX10_feed_123 (lv_at hl 6 rfl) ?_
                exact hL125 (f_X10_feed_L68 n) ih v1 v2 v3 v4 v5 v6 v7 (gA s0 0 9) v6 s0 H locs ls hf hP hS (lv_sub hl [0, 1, 2, 3, 4, 5, 6, 7] rfl)
              · have hf := jif_n hc hf
                refine lv_iload hx hb dX10_feed_118 (lv_at hl 5 rfl) ?_
                refine lv_goto (tgt := 125) hx hb dX10_feed_120 (by decide) ?_
                exact hL125 (f_X10_feed_L68 n) ih v1 v2 v3 v4 v5 v6 v7 (gA s0 0 9) v5 s0 H locs ls hf hP hS (lv_sub hl [0, 1, 2, 3, 4, 5, 6, 7] rfl)
            · have hf := jif_n hc hf
              refine lv_iload hx hb dX10_feed_107 (lv_at hl 4 rfl) ?_
              refine lv_goto (tgt := 125) hx hb dX10_feed_109 (by decide) ?_
              exact hL125 (f_X10_feed_L68 n) ih v1 v2 v3 v4 v5 v6 v7 (gA s0 0 9) v4 s0 H locs ls hf hP hS (lv_sub hl [0, 1, 2, 3, 4, 5, 6, 7] rfl)
          · have hf := jif_n hc hf
            refine lv_iload_n hx hb dX10_feed_97 rfl (lv_at hl 3 rfl) ?_
            refine lv_goto (tgt := 125) hx hb dX10_feed_98 (by decide) ?_
            exact hL125 (f_X10_feed_L68 n) ih v1 v2 v3 v4 v5 v6 v7 (gA s0 0 9) v3 s0 H locs ls hf hP hS (lv_sub hl [0, 1, 2, 3, 4, 5, 6, 7] rfl)
        · have hf := jif_n hc hf
          refine lv_iload_n hx hb dX10_feed_87 rfl (lv_at hl 2 rfl) ?_
          refine lv_goto (tgt := 125) hx hb dX10_feed_88 (by decide) ?_
          exact hL125 (f_X10_feed_L68 n) ih v1 v2 v3 v4 v5 v6 v7 (gA s0 0 9) v2 s0 H locs ls hf hP hS (lv_sub hl [0, 1, 2, 3, 4, 5, 6, 7] rfl)
  refine lv_iload_n hx hb dX10_feed_0 rfl (lv_at hl 1 rfl) ?_
  refine lv_iconst (v := (1 : Int32)) hx hb dX10_feed_1 (by decide) ?_
  refine lv_iconst (v := (5 : Int32)) hx hb dX10_feed_2 (by decide) ?_
  refine r_cz (r_runS (As := [.int x1, .int (1 : Int32), .int (5 : Int32)]) (rest := []) C hP hS (k_X10_in (l := l) O (σ := σ) rfl) mw_X10_in ms_X10_in wk_4_158 ⟨Nat.le_of_ble_eq_true rfl, Nat.le_of_ble_eq_true rfl⟩ ⟨rfl, rfl⟩ ⟨Nat.zero_le _, Nat.zero_le _⟩ rfl hl.1 rfl (Nat.le_of_ble_eq_true rfl) dX10_feed_3) hS (fun H locs hzy1 hP hS => ?_)
  refine jl_topz hf hzy1 (fun y1 hzy1 hf => ?_)
  refine lv_if_eq (tgt := 47) hx hb dX10_feed_6 (by decide) (fun hc => ?_) (fun hc => ?_)
  · have hf := jif_t hc hf
    refine lv_bipush (v := (-2 : Int32)) hx hb dX10_feed_47 (by decide) ?_
    exact ret_i C hP hS (Prod.mk.inj (Option.some.inj hf)).1 (Prod.mk.inj (Option.some.inj hf)).2 dX10_feed_49
  · have hf := jif_f hc hf
    refine lv_iload_n hx hb dX10_feed_9 rfl (lv_at hl 2 rfl) ?_
    refine r_cz (r_runS (As := [.int x2]) (rest := []) C hP hS (k_X10_isByte (l := l) O (σ := σ) rfl) mw_X10_isByte ms_X10_isByte wk_5_116 ⟨Nat.le_of_ble_eq_true rfl, Nat.le_of_ble_eq_true rfl⟩ ⟨rfl, rfl⟩ ⟨Nat.zero_le _, Nat.zero_le _⟩ rfl hl.1 rfl (Nat.le_of_ble_eq_true rfl) dX10_feed_10) hS (fun H locs hzy3 hP hS => ?_)
    refine jl_topz hf hzy3 (fun y3 hzy3 hf => ?_)
    refine lv_if_eq (tgt := 47) hx hb dX10_feed_13 (by decide) (fun hc => ?_) (fun hc => ?_)
    · have hf := jif_t hc hf
      refine lv_bipush (v := (-2 : Int32)) hx hb dX10_feed_47 (by decide) ?_
      exact ret_i C hP hS (Prod.mk.inj (Option.some.inj hf)).1 (Prod.mk.inj (Option.some.inj hf)).2 dX10_feed_49
    · have hf := jif_f hc hf
      refine lv_iload_n hx hb dX10_feed_16 rfl (lv_at hl 3 rfl) ?_
      refine r_cz (r_runS (As := [.int x3]) (rest := []) C hP hS (k_X10_isByte (l := l) O (σ := σ) rfl) mw_X10_isByte ms_X10_isByte wk_5_116 ⟨Nat.le_of_ble_eq_true rfl, Nat.le_of_ble_eq_true rfl⟩ ⟨rfl, rfl⟩ ⟨Nat.zero_le _, Nat.zero_le _⟩ rfl hl.1 rfl (Nat.le_of_ble_eq_true rfl) dX10_feed_17) hS (fun H locs hzy5 hP hS => ?_)
      refine jl_topz hf hzy5 (fun y5 hzy5 hf => ?_)
      refine lv_if_eq (tgt := 47) hx hb dX10_feed_20 (by decide) (fun hc => ?_) (fun hc => ?_)
      · have hf := jif_t hc hf
        refine lv_bipush (v := (-2 : Int32)) hx hb dX10_feed_47 (by decide) ?_
        exact ret_i C hP hS (Prod.mk.inj (Option.some.inj hf)).1 (Prod.mk.inj (Option.some.inj hf)).2 dX10_feed_49
      · have hf := jif_f hc hf
        refine lv_iload hx hb dX10_feed_23 (lv_at hl 4 rfl) ?_
        refine r_cz (r_runS (As := [.int x4]) (rest := []) C hP hS (k_X10_isByte (l := l) O (σ := σ) rfl) mw_X10_isByte ms_X10_isByte wk_5_116 ⟨Nat.le_of_ble_eq_true rfl, Nat.le_of_ble_eq_true rfl⟩ ⟨rfl, rfl⟩ ⟨Nat.zero_le _, Nat.zero_le _⟩ rfl hl.1 rfl (Nat.le_of_ble_eq_true rfl) dX10_feed_25) hS (fun H locs hzy7 hP hS => ?_)
        refine jl_topz hf hzy7 (fun y7 hzy7 hf => ?_)
        refine lv_if_eq (tgt := 47) hx hb dX10_feed_28 (by decide) (fun hc => ?_) (fun hc => ?_)
        · have hf := jif_t hc hf
          refine lv_bipush (v := (-2 : Int32)) hx hb dX10_feed_47 (by decide) ?_
          exact ret_i C hP hS (Prod.mk.inj (Option.some.inj hf)).1 (Prod.mk.inj (Option.some.inj hf)).2 dX10_feed_49
        · have hf := jif_f hc hf
          refine lv_iload hx hb dX10_feed_31 (lv_at hl 5 rfl) ?_
          refine r_cz (r_runS (As := [.int x5]) (rest := []) C hP hS (k_X10_isByte (l := l) O (σ := σ) rfl) mw_X10_isByte ms_X10_isByte wk_5_116 ⟨Nat.le_of_ble_eq_true rfl, Nat.le_of_ble_eq_true rfl⟩ ⟨rfl, rfl⟩ ⟨Nat.zero_le _, Nat.zero_le _⟩ rfl hl.1 rfl (Nat.le_of_ble_eq_true rfl) dX10_feed_33) hS (fun H locs hzy9 hP hS => ?_)
          refine jl_topz hf hzy9 (fun y9 hzy9 hf => ?_)
          refine lv_if_eq (tgt := 47) hx hb dX10_feed_36 (by decide) (fun hc => ?_) (fun hc => ?_)
          · have hf := jif_t hc hf
            refine lv_bipush (v := (-2 : Int32)) hx hb dX10_feed_47 (by decide) ?_
            exact ret_i C hP hS (Prod.mk.inj (Option.some.inj hf)).1 (Prod.mk.inj (Option.some.inj hf)).2 dX10_feed_49
          · have hf := jif_f hc hf
            refine lv_iload hx hb dX10_feed_39 (lv_at hl 6 rfl) ?_
            refine r_cz (r_runS (As := [.int x6]) (rest := []) C hP hS (k_X10_isByte (l := l) O (σ := σ) rfl) mw_X10_isByte ms_X10_isByte wk_5_116 ⟨Nat.le_of_ble_eq_true rfl, Nat.le_of_ble_eq_true rfl⟩ ⟨rfl, rfl⟩ ⟨Nat.zero_le _, Nat.zero_le _⟩ rfl hl.1 rfl (Nat.le_of_ble_eq_true rfl) dX10_feed_41) hS (fun H locs hzy11 hP hS => ?_)
            refine jl_topz hf hzy11 (fun y11 hzy11 hf => ?_)
            refine lv_if_ne (tgt := 50) hx hb dX10_feed_44 (by decide) (fun hc => ?_) (fun hc => ?_)
            · have hf := jif_t hc hf
              refine lv_aload_n hx hb dX10_feed_50 rfl (lv_at hl 0 rfl) ?_
              refine gf_X10_9 C hP wk_4_206 dX10_feed_51 ?_
              refine lv_iload_n hx hb dX10_feed_54 rfl (lv_at hl 1 rfl) ?_
              refine lv_iadd hx hb dX10_feed_55 ?_
              refine lv_sipush (v := (160 : Int32)) hx hb dX10_feed_56 (by decide) ?_
              refine lv_icmp_le (tgt := 65) hx hb dX10_feed_59 (by decide) (fun hc => ?_) (fun hc => ?_)
              · have hf := jif_t hc hf
                refine lv_iconst (v := (0 : Int32)) hx hb dX10_feed_65 (by decide) ?_
                refine lv_istore (lv' := [(7, .int (0 : Int32)), (0, .ref (a 0)), (1, .int x1), (2, .int x2), (3, .int x3), (4, .int x4), (5, .int x5), (6, .int x6)]) hx hb dX10_feed_66 hl (by decide) rfl (fun ls hl => ?_)
                exact hL68 FU x1 x2 x3 x4 x5 x6 (0 : Int32) σ H locs ls hf hP hS (lv_sub hl [1, 2, 3, 4, 5, 6, 7, 0] rfl)
              · have hf := jif_f hc hf
                refine lv_bipush (v := (-4 : Int32)) hx hb dX10_feed_62 (by decide) ?_
                exact ret_i C hP hS (Prod.mk.inj (Option.some.inj hf)).1 (Prod.mk.inj (Option.some.inj hf)).2 dX10_feed_64
            · have hf := jif_n hc hf
              refine lv_bipush (v := (-2 : Int32)) hx hb dX10_feed_47 (by decide) ?_
              exact ret_i C hP hS (Prod.mk.inj (Option.some.inj hf)).1 (Prod.mk.inj (Option.some.inj hf)).2 dX10_feed_49
set_option maxHeartbeats 4000000 in
set_option maxRecDepth 100000 in
theorem k_X10_wordFrom {l : Launch} {a : Nat → Nat} {cy : Nat → ClassId} {D : va_G} {A : Nat → Prop} (O : WO NM a (fun _ => True) A) {x1 : Int32} {x2 : Int32} {r : Int32} {σ : ST} (hf : f_X10_wordFrom x1 x2 σ = some r) : Met l yX10_wordFrom (Cond.code yX10_wordFrom cX10_wordFrom 6 (some .int) :: WS) (rmk 0 0) (PC [.ref (a 0), .int x1, .int x2] NM eM a cy D (fun _ => True) σ) (QI NM eM a cy D A r σ) 0 0 A := by
  refine met_go (own := "GuardsLookLeftModel") O (by decide +kernel) rfl (Nat.le_of_ble_eq_true rfl) ?_
  intro p e s m args below meth c ls C hP hS hl
  have hx := C.hx
  have hb := C.hb
  have hl : lv_has ls 6 [(0, .ref (a 0)), (1, .int x1), (2, .int x2)] := hl
  obtain ⟨H, hH⟩ : ∃ H, H = s.heap := ⟨_, rfl⟩
  rw [← hH] at hP
  have hS : va_S A s.heap H [] := by rw [hH]; exact va_S.rf
  suffices g : W p l e (rmk 0 0) s m args below meth c H [] 0 0 (MQ below (QI NM eM a cy D A r σ) args s 0 0 A) (F0 m 0 ls []) by rw [hH] at g; exact g
  clear hH
  obtain ⟨locs, hlocs⟩ : ∃ z : List Loc, z = [] := ⟨_, rfl⟩
  rw [← hlocs] at hS ⊢
  have hL88 : ∀ (k2 : Int32 → Int32 → Int32 → ST → Option Int32) (hk2 : (∀ (v1 : Int32) (v2 : Int32) (v3 : Int32) (H : Heap) (locs : List Loc) (ls : Array Slot), k2 v1 v2 v3 σ = some r → va_P D vwCl (wG NM eM a cy σ) H → va_S A s.heap H locs → lv_has ls 6 [(0, .ref (a 0)), (1, .int v1), (2, .int v2), (3, .int v3)] → W p l e (rmk 0 0) s m args below meth c H locs 0 0 (MQ below (QI NM eM a cy D A r σ) args s 0 0 A) (F0 m 2 ls []))), (∀ (v1 : Int32) (v2 : Int32) (v3 : Int32) (v4 : Int32) (H : Heap) (locs : List Loc) (ls : Array Slot), f_X10_wordFrom_L88 k2 v1 v2 v3 v4 σ = some r → va_P D vwCl (wG NM eM a cy σ) H → va_S A s.heap H locs → lv_has ls 6 [(0, .ref (a 0)), (1, .int v1), (2, .int v2), (3, .int v3), (4, .int v4)] → W p l e (rmk 0 0) s m args below meth c H locs 0 0 (MQ below (QI NM eM a cy D A r σ) args s 0 0 A) (F0 m 88 ls [])) := by
    intro k2 hk2 v1 v2 v3 v4 H locs ls hf hP hS hl
    refine lv_iload hx hb dX10_wordFrom_88 (lv_at hl 4 rfl) ?_
    refine lv_if_eq (tgt := 95) hx hb dX10_wordFrom_90 (by decide) (fun hc => ?_) (fun hc => ?_)
    · have hf := jif_t hc hf
      obtain ⟨y1, ey1, hf⟩ := jlet_e hf
      refine lv_iinc (v := y1) (lv' := [(3, .int y1), (0, .ref (a 0)), (1, .int v1), (2, .int v2), (4, .int v4)]) hx hb dX10_wordFrom_95 hl (k := 3) rfl ey1 (by decide) rfl (fun ls hl => ?_)
      refine lv_goto (tgt := 2) hx hb dX10_wordFrom_98 (by decide) ?_
      exact hk2 v1 v2 y1 H locs ls hf hP hS (lv_sub hl [1, 2, 3, 0] rfl)
    · have hf := jif_f hc hf
      refine lv_iload_n hx hb dX10_wordFrom_93 rfl (lv_at hl 3 rfl) ?_
      exact ret_i C hP hS (Option.some.inj hf) rfl dX10_wordFrom_94
  have hL80 : ∀ (k2 : Int32 → Int32 → Int32 → ST → Option Int32) (hk2 : (∀ (v1 : Int32) (v2 : Int32) (v3 : Int32) (H : Heap) (locs : List Loc) (ls : Array Slot), k2 v1 v2 v3 σ = some r → va_P D vwCl (wG NM eM a cy σ) H → va_S A s.heap H locs → lv_has ls 6 [(0, .ref (a 0)), (1, .int v1), (2, .int v2), (3, .int v3)] → W p l e (rmk 0 0) s m args below meth c H locs 0 0 (MQ below (QI NM eM a cy D A r σ) args s 0 0 A) (F0 m 2 ls []))) (k26 : Int32 → Int32 → Int32 → Int32 → Int32 → ST → Option Int32) (hk26 : (∀ (v1 : Int32) (v2 : Int32) (v3 : Int32) (v4 : Int32) (v5 : Int32) (H : Heap) (locs : List Loc) (ls : Array Slot), k26 v1 v2 v3 v4 v5 σ = some r → va_P D vwCl (wG NM eM a cy σ) H → va_S A s.heap H locs → lv_has ls 6 [(0, .ref (a 0)), (1, .int v1), (2, .int v2), (3, .int v3), (4, .int v4), (5, .int v5)] → W p l e (rmk 0 0) s m args below meth c H locs 0 0 (MQ below (QI NM eM a cy D A r σ) args s 0 0 A) (F0 m 26 ls []))), (∀ (v1 : Int32) (v2 : Int32) (v3 : Int32) (v5 : Int32) (t0 : Int32) (H : Heap) (locs : List Loc) (ls : Array Slot), f_X10_wordFrom_L80 k2 k26 v1 v2 v3 v5 t0 σ = some r → va_P D vwCl (wG NM eM a cy σ) H → va_S A s.heap H locs → lv_has ls 6 [(0, .ref (a 0)), (1, .int v1), (2, .int v2), (3, .int v3), (5, .int v5)] → W p l e (rmk 0 0) s m args below meth c H locs 0 0 (MQ below (QI NM eM a cy D A r σ) args s 0 0 A) (F0 m 80 ls [.int t0])) := by
    intro k2 hk2 k26 hk26 v1 v2 v3 v5 t0 H locs ls hf hP hS hl
    refine lv_istore (lv' := [(4, .int t0), (0, .ref (a 0)), (1, .int v1), (2, .int v2), (3, .int v3), (5, .int v5)]) hx hb dX10_wordFrom_80 hl (by decide) rfl (fun ls hl => ?_)
    obtain ⟨y1, ey1, hf⟩ := jlet_e hf
    refine lv_iinc (v := y1) (lv' := [(5, .int y1), (4, .int t0), (0, .ref (a 0)), (1, .int v1), (2, .int v2), (3, .int v3)]) hx hb dX10_wordFrom_82 hl (k := 5) rfl ey1 (by decide) rfl (fun ls hl => ?_)
    refine lv_goto (tgt := 26) hx hb dX10_wordFrom_85 (by decide) ?_
    exact hk26 v1 v2 v3 t0 y1 H locs ls hf hP hS (lv_sub hl [2, 3, 4, 5, 1, 0] rfl)
  have hL72 : ∀ (k2 : Int32 → Int32 → Int32 → ST → Option Int32) (hk2 : (∀ (v1 : Int32) (v2 : Int32) (v3 : Int32) (H : Heap) (locs : List Loc) (ls : Array Slot), k2 v1 v2 v3 σ = some r → va_P D vwCl (wG NM eM a cy σ) H → va_S A s.heap H locs → lv_has ls 6 [(0, .ref (a 0)), (1, .int v1), (2, .int v2), (3, .int v3)] → W p l e (rmk 0 0) s m args below meth c H locs 0 0 (MQ below (QI NM eM a cy D A r σ) args s 0 0 A) (F0 m 2 ls []))) (k26 : Int32 → Int32 → Int32 → Int32 → Int32 → ST → Option Int32) (hk26 : (∀ (v1 : Int32) (v2 : Int32) (v3 : Int32) (v4 : Int32) (v5 : Int32) (H : Heap) (locs : List Loc) (ls : Array Slot), k26 v1 v2 v3 v4 v5 σ = some r → va_P D vwCl (wG NM eM a cy σ) H → va_S A s.heap H locs → lv_has ls 6 [(0, .ref (a 0)), (1, .int v1), (2, .int v2), (3, .int v3), (4, .int v4), (5, .int v5)] → W p l e (rmk 0 0) s m args below meth c H locs 0 0 (MQ below (QI NM eM a cy D A r σ) args s 0 0 A) (F0 m 26 ls []))), (∀ (v1 : Int32) (v2 : Int32) (v3 : Int32) (v5 : Int32) (t0 : Int32) (t1 : Int32) (H : Heap) (locs : List Loc) (ls : Array Slot), f_X10_wordFrom_L72 k2 k26 v1 v2 v3 v5 t0 t1 σ = some r → va_P D vwCl (wG NM eM a cy σ) H → va_S A s.heap H locs → lv_has ls 6 [(0, .ref (a 0)), (1, .int v1), (2, .int v2), (3, .int v3), (5, .int v5)] → W p l e (rmk 0 0) s m args below meth c H locs 0 0 (MQ below (QI NM eM a cy D A r σ) args s 0 0 A) (F0 m 72 ls [.int t1, .int t0])) := by
    intro k2 hk2 k26 hk26 v1 v2 v3 v5 t0 t1 H locs ls hf hP hS hl
    refine lv_icmp_ne (tgt := 79) hx hb dX10_wordFrom_72 (by decide) (fun hc => ?_) (fun hc => ?_)
    · have hf := jif_t hc hf
      refine lv_iconst (v := (0 : Int32)) hx hb dX10_wordFrom_79 (by decide) ?_
      exact hL80 k2 hk2 k26 hk26 v1 v2 v3 v5 (0 : Int32) H locs ls hf hP hS (lv_sub hl [0, 1, 2, 3, 4] rfl)
    · have hf := jif_n hc hf
      refine lv_iconst (v := (1 : Int32)) hx hb dX10_wordFrom_75 (by decide) ?_
      refine lv_goto (tgt := 80) hx hb dX10_wordFrom_76 (by decide) ?_
      exact hL80 k2 hk2 k26 hk26 v1 v2 v3 v5 (1 : Int32) H locs ls hf hP hS (lv_sub hl [0, 1, 2, 3, 4] rfl)
  have hL26 : ∀ (k2 : Int32 → Int32 → Int32 → ST → Option Int32) (hk2 : (∀ (v1 : Int32) (v2 : Int32) (v3 : Int32) (H : Heap) (locs : List Loc) (ls : Array Slot), k2 v1 v2 v3 σ = some r → va_P D vwCl (wG NM eM a cy σ) H → va_S A s.heap H locs → lv_has ls 6 [(0, .ref (a 0)), (1, .int v1), (2, .int v2), (3, .int v3)] → W p l e (rmk 0 0) s m args below meth c H locs 0 0 (MQ below (QI NM eM a cy D A r σ) args s 0 0 A) (F0 m 2 ls []))) (n : Nat), (∀ (v1 : Int32) (v2 : Int32) (v3 : Int32) (v4 : Int32) (v5 : Int32) (H : Heap) (locs : List Loc) (ls : Array Slot), f_X10_wordFrom_L26 k2 n v1 v2 v3 v4 v5 σ = some r → va_P D vwCl (wG NM eM a cy σ) H → va_S A s.heap H locs → lv_has ls 6 [(0, .ref (a 0)), (1, .int v1), (2, .int v2), (3, .int v3), (4, .int v4), (5, .int v5)] → W p l e (rmk 0 0) s m args below meth c H locs 0 0 (MQ below (QI NM eM a cy D A r σ) args s 0 0 A) (F0 m 26 ls [])) := by
    intro k2 hk2 n
    induction n with
    | zero => intro v1 v2 v3 v4 v5 H locs ls hf hP hS hl; exact no_o hf
    | succ n ih =>
      intro v1 v2 v3 v4 v5 H locs ls hf hP hS hl
      have hf := (ef_X10_wordFrom_L26 k2 _ _ _ _ _ _).symm.trans hf
      refine lv_iload hx hb dX10_wordFrom_26 (lv_at hl 5 rfl) ?_
      refine lv_bipush (v := (8 : Int32)) hx hb dX10_wordFrom_28 (by decide) ?_
      refine lv_icmp_ge (tgt := 88) hx hb dX10_wordFrom_30 (by decide) (fun hc => ?_) (fun hc => ?_)
      · have hf := jif_t hc hf
        exact hL88 k2 hk2 v1 v2 v3 v4 H locs ls hf hP hS (lv_sub hl [0, 1, 2, 3, 4] rfl)
      · have hf := jif_f hc hf
        refine lv_iload hx hb dX10_wordFrom_33 (lv_at hl 4 rfl) ?_
        refine lv_if_eq (tgt := 88) hx hb dX10_wordFrom_35 (by decide) (fun hc => ?_) (fun hc => ?_)
        · have hf := jif_t hc hf
          exact hL88 k2 hk2 v1 v2 v3 v4 H locs ls hf hP hS (lv_sub hl [0, 1, 2, 3, 4] rfl)
        · have hf := jif_f hc hf
          refine lv_aload_n hx hb dX10_wordFrom_38 rfl (lv_at hl 0 rfl) ?_
          refine gf_X10_28 C hP wk_4_225 dX10_wordFrom_39 ?_
          refine lv_bipush (v := (8 : Int32)) hx hb dX10_wordFrom_42 (by decide) ?_
          refine lv_iload_n hx hb dX10_wordFrom_44 rfl (lv_at hl 3 rfl) ?_
          refine lv_imul hx hb dX10_wordFrom_45 ?_
          refine lv_iload hx hb dX10_wordFrom_46 (lv_at hl 5 rfl) ?_
          refine lv_iadd hx hb dX10_wordFrom_48 ?_
          obtain ⟨hi1, hf⟩ := jix_e hf
          refine r_iald C hP aM_18 hi1 dX10_wordFrom_49 ?_
          refine lv_iload_n hx hb dX10_wordFrom_50 rfl (lv_at hl 1 rfl) ?_
          refine lv_iload hx hb dX10_wordFrom_51 (lv_at hl 5 rfl) ?_
          refine lv_iadd hx hb dX10_wordFrom_53 ?_
          refine lv_iload_n hx hb dX10_wordFrom_54 rfl (lv_at hl 2 rfl) ?_
          refine lv_icmp_ge (tgt := 70) hx hb dX10_wordFrom_55 (by decide) (fun hc => ?_) (fun hc => ?_)
          · have hf := jif_t hc hf
            refine lv_bipush (v := (32 : Int32)) hx hb dX10_wordFrom_70 (by decide) ?_
            exact hL72 k2 hk2 (f_X10_wordFrom_L26 k2 n) ih v1 v2 v3 v5 (gA σ 18 (Int32.toNatClampNeg (((8 : Int32) * v3) + v5))) (32 : Int32) H locs ls hf hP hS (lv_sub hl [0, 1, 2, 3, 5] rfl)
          · have hf := jif_f hc hf
            refine lv_aload_n hx hb dX10_wordFrom_58 rfl (lv_at hl 0 rfl) ?_
            refine gf_X10_8 C hP wk_4_205 dX10_wordFrom_59 ?_
            refine lv_iload_n hx hb dX10_wordFrom_62 rfl (lv_at hl 1 rfl) ?_
            refine lv_iload hx hb dX10_wordFrom_63 (lv_at hl 5 rfl) ?_
            refine lv_iadd hx hb dX10_wordFrom_65 ?_
            obtain ⟨hi2, hf⟩ := jix_e hf
            refine r_iald C hP aM_8 hi2 dX10_wordFrom_66 ?_
            refine lv_goto (tgt := 72) hx hb dX10_wordFrom_67 (by decide) ?_
            exact hL72 k2 hk2 (f_X10_wordFrom_L26 k2 n) ih v1 v2 v3 v5 (gA σ 18 (Int32.toNatClampNeg (((8 : Int32) * v3) + v5))) (gA σ 8 (Int32.toNatClampNeg (v1 + v5))) H locs ls hf hP hS (lv_sub hl [0, 1, 2, 3, 5] rfl)
  have hL21 : ∀ (k2 : Int32 → Int32 → Int32 → ST → Option Int32) (hk2 : (∀ (v1 : Int32) (v2 : Int32) (v3 : Int32) (H : Heap) (locs : List Loc) (ls : Array Slot), k2 v1 v2 v3 σ = some r → va_P D vwCl (wG NM eM a cy σ) H → va_S A s.heap H locs → lv_has ls 6 [(0, .ref (a 0)), (1, .int v1), (2, .int v2), (3, .int v3)] → W p l e (rmk 0 0) s m args below meth c H locs 0 0 (MQ below (QI NM eM a cy D A r σ) args s 0 0 A) (F0 m 2 ls []))), (∀ (v1 : Int32) (v2 : Int32) (v3 : Int32) (t0 : Int32) (H : Heap) (locs : List Loc) (ls : Array Slot), f_X10_wordFrom_L21 k2 v1 v2 v3 t0 σ = some r → va_P D vwCl (wG NM eM a cy σ) H → va_S A s.heap H locs → lv_has ls 6 [(0, .ref (a 0)), (1, .int v1), (2, .int v2), (3, .int v3)] → W p l e (rmk 0 0) s m args below meth c H locs 0 0 (MQ below (QI NM eM a cy D A r σ) args s 0 0 A) (F0 m 21 ls [.int t0])) := by
    intro k2 hk2 v1 v2 v3 t0 H locs ls hf hP hS hl
    refine lv_istore (lv' := [(4, .int t0), (0, .ref (a 0)), (1, .int v1), (2, .int v2), (3, .int v3)]) hx hb dX10_wordFrom_21 hl (by decide) rfl (fun ls hl => ?_)
    refine lv_iconst (v := (0 : Int32)) hx hb dX10_wordFrom_23 (by decide) ?_
    refine lv_istore (lv' := [(5, .int (0 : Int32)), (4, .int t0), (0, .ref (a 0)), (1, .int v1), (2, .int v2), (3, .int v3)]) hx hb dX10_wordFrom_24 hl (by decide) rfl (fun ls hl => ?_)
    exact hL26 k2 hk2 FU v1 v2 v3 t0 (0 : Int32) H locs ls hf hP hS (lv_sub hl [2, 3, 4, 5, 1, 0] rfl)
  have hL2 : ∀ (n : Nat), (∀ (v1 : Int32) (v2 : Int32) (v3 : Int32) (H : Heap) (locs : List Loc) (ls : Array Slot), f_X10_wordFrom_L2 n v1 v2 v3 σ = some r → va_P D vwCl (wG NM eM a cy σ) H → va_S A s.heap H locs → lv_has ls 6 [(0, .ref (a 0)), (1, .int v1), (2, .int v2), (3, .int v3)] → W p l e (rmk 0 0) s m args below meth c H locs 0 0 (MQ below (QI NM eM a cy D A r σ) args s 0 0 A) (F0 m 2 ls [])) := by
    intro n
    induction n with
    | zero => intro v1 v2 v3 H locs ls hf hP hS hl; exact no_o hf
    | succ n ih =>
      intro v1 v2 v3 H locs ls hf hP hS hl
      have hf := (ef_X10_wordFrom_L2 _ _ _ _).symm.trans hf
      refine lv_iload_n hx hb dX10_wordFrom_2 rfl (lv_at hl 3 rfl) ?_
      refine lv_bipush (v := (12 : Int32)) hx hb dX10_wordFrom_3 (by decide) ?_
      refine lv_icmp_ge (tgt := 101) hx hb dX10_wordFrom_5 (by decide) (fun hc => ?_) (fun hc => ?_)
      · have hf := jif_t hc hf
        refine lv_bipush (v := (12 : Int32)) hx hb dX10_wordFrom_101 (by decide) ?_
        exact ret_i C hP hS (Option.some.inj hf) rfl dX10_wordFrom_103
      · have hf := jif_f hc hf
        refine lv_iload_n hx hb dX10_wordFrom_8 rfl (lv_at hl 2 rfl) ?_
        refine lv_iload_n hx hb dX10_wordFrom_9 rfl (lv_at hl 1 rfl) ?_
        refine lv_isub hx hb dX10_wordFrom_10 ?_
        refine lv_bipush (v := (8 : Int32)) hx hb dX10_wordFrom_11 (by decide) ?_
        refine lv_icmp_gt (tgt := 20) hx hb dX10_wordFrom_13 (by decide) (fun hc => ?_) (fun hc => ?_)
        · have hf := jif_t hc hf
          refine lv_iconst (v := (0 : Int32)) hx hb dX10_wordFrom_20 (by decide) ?_
          exact hL21 (f_X10_wordFrom_L2 n) ih v1 v2 v3 (0 : Int32) H locs ls hf hP hS (lv_sub hl [0, 1, 2, 3] rfl)
        · have hf := jif_f hc hf
          refine lv_iconst (v := (1 : Int32)) hx hb dX10_wordFrom_16 (by decide) ?_
          refine lv_goto (tgt := 21) hx hb dX10_wordFrom_17 (by decide) ?_
          exact hL21 (f_X10_wordFrom_L2 n) ih v1 v2 v3 (1 : Int32) H locs ls hf hP hS (lv_sub hl [0, 1, 2, 3] rfl)
  refine lv_iconst (v := (0 : Int32)) hx hb dX10_wordFrom_0 (by decide) ?_
  refine lv_istore_n (lv' := [(3, .int (0 : Int32)), (0, .ref (a 0)), (1, .int x1), (2, .int x2)]) hx hb dX10_wordFrom_1 rfl hl (by decide) rfl (fun ls hl => ?_)
  exact hL2 FU x1 x2 (0 : Int32) H locs ls hf hP hS (lv_sub hl [1, 2, 3, 0] rfl)
set_option maxHeartbeats 4000000 in
set_option maxRecDepth 100000 in
theorem k_X10_next {l : Launch} {a : Nat → Nat} {cy : Nat → ClassId} {D : va_G} {A : Nat → Prop} (O : WO NM a (fun _ => True) A) {σ : ST} {σ' : ST} (hf : f_X10_next σ = some σ') : Met l yX10_next (Cond.code yX10_next cX10_next 3 none :: WS) (rmk 1 25) (PC [.ref (a 0)] NM eM a cy D (fun _ => True) σ) (QV NM eM a cy D A σ') 0 0 A := by
  refine met_go (own := "GuardsLookLeftModel") O (by decide +kernel) rfl (Nat.le_of_ble_eq_true rfl) ?_
  intro p e s m args below meth c ls C hP hS hl
  have hx := C.hx
  have hb := C.hb
  have hl : lv_has ls 3 [(0, .ref (a 0))] := hl
  obtain ⟨H, hH⟩ : ∃ H, H = s.heap := ⟨_, rfl⟩
  rw [← hH] at hP
  have hS : va_S A s.heap H [] := by rw [hH]; exact va_S.rf
  suffices g : W p l e (rmk 1 25) s m args below meth c H [] 0 0 (MQ below (QV NM eM a cy D A σ') args s 0 0 A) (F0 m 0 ls []) by rw [hH] at g; exact g
  clear hH
  obtain ⟨locs, hlocs⟩ : ∃ z : List Loc, z = [] := ⟨_, rfl⟩
  rw [← hlocs] at hS ⊢
  have hL390 : (∀ (t1 : Int32) (s0 : ST) (H : Heap) (locs : List Loc) (ls : Array Slot), f_X10_next_L390 t1 s0 = some σ' → va_P D vwCl (wG NM eM a cy s0) H → va_S A s.heap H locs → lv_has ls 3 [(0, .ref (a 0))] → W p l e (rmk 1 25) s m args below meth c H locs 0 0 (MQ below (QV NM eM a cy D A σ') args s 0 0 A) (F0 m 390 ls [.int t1, .ref (a 0)])) := by
    intro t1 s0 H locs ls hf hP hS hl
    refine pf_X10_26 C hP hS wk_4_223 dX10_next_390 hf (fun H locs s1 hf hP hS => ?_)
    refine lv_aload_n hx hb dX10_next_393 rfl (lv_at hl 0 rfl) ?_
    refine lv_dup hx hb dX10_next_394 rfl ?_
    refine gf_X10_24 C hP wk_4_221 dX10_next_395 ?_
    refine lv_iconst (v := (1 : Int32)) hx hb dX10_next_398 (by decide) ?_
    refine lv_iadd hx hb dX10_next_399 ?_
    refine pf_X10_24 C hP hS wk_4_221 dX10_next_400 hf (fun H locs s2 hf hP hS => ?_)
    exact ret_v C hP hS (Option.some.inj hf) dX10_next_403
  have hL379 : (∀ (v1 : Int32) (t0 : Int32) (s0 : ST) (H : Heap) (locs : List Loc) (ls : Array Slot), f_X10_next_L379 v1 t0 s0 = some σ' → va_P D vwCl (wG NM eM a cy s0) H → va_S A s.heap H locs → lv_has ls 3 [(0, .ref (a 0)), (1, .int v1)] → W p l e (rmk 1 25) s m args below meth c H locs 0 0 (MQ below (QV NM eM a cy D A σ') args s 0 0 A) (F0 m 379 ls [.int t0])) := by
    intro v1 t0 s0 H locs ls hf hP hS hl
    refine lv_istore_n (lv' := [(2, .int t0), (0, .ref (a 0)), (1, .int v1)]) hx hb dX10_next_379 rfl hl (by decide) rfl (fun ls hl => ?_)
    refine lv_aload_n hx hb dX10_next_380 rfl (lv_at hl 1 rfl) ?_
    refine lv_iload_n hx hb dX10_next_381 rfl (lv_at hl 0 rfl) ?_
    refine lv_if_eq (tgt := 389) hx hb dX10_next_382 (by decide) (fun hc => ?_) (fun hc => ?_)
    · have hf := jif_t hc hf
      refine lv_iconst (v := (-1 : Int32)) hx hb dX10_next_389 (by decide) ?_
      exact hL390 (-1 : Int32) s0 H locs ls hf hP hS (lv_sub hl [1] rfl)
    · have hf := jif_f hc hf
      refine lv_iload_n hx hb dX10_next_385 rfl (lv_at hl 2 rfl) ?_
      refine lv_goto (tgt := 390) hx hb dX10_next_386 (by decide) ?_
      exact hL390 v1 s0 H locs ls hf hP hS (lv_sub hl [1] rfl)
  have hL374 : (∀ (v1 : Int32) (s0 : ST) (H : Heap) (locs : List Loc) (ls : Array Slot), f_X10_next_L374 v1 s0 = some σ' → va_P D vwCl (wG NM eM a cy s0) H → va_S A s.heap H locs → lv_has ls 3 [(0, .ref (a 0)), (1, .int v1)] → W p l e (rmk 1 25) s m args below meth c H locs 0 0 (MQ below (QV NM eM a cy D A σ') args s 0 0 A) (F0 m 374 ls [])) := by
    intro v1 s0 H locs ls hf hP hS hl
    refine lv_iconst (v := (1 : Int32)) hx hb dX10_next_374 (by decide) ?_
    refine lv_goto (tgt := 379) hx hb dX10_next_375 (by decide) ?_
    exact hL379 v1 (1 : Int32) s0 H locs ls hf hP hS (lv_sub hl [0, 1] rfl)
  have hL320 : (∀ (t1 : Int32) (s0 : ST) (H : Heap) (locs : List Loc) (ls : Array Slot), f_X10_next_L320 t1 s0 = some σ' → va_P D vwCl (wG NM eM a cy s0) H → va_S A s.heap H locs → lv_has ls 3 [] → W p l e (rmk 1 25) s m args below meth c H locs 0 0 (MQ below (QV NM eM a cy D A σ') args s 0 0 A) (F0 m 320 ls [.int t1, .ref (a 0)])) := by
    intro t1 s0 H locs ls hf hP hS hl
    refine pf_X10_26 C hP hS wk_4_223 dX10_next_320 hf (fun H locs s1 hf hP hS => ?_)
    refine lv_goto (tgt := 403) hx hb dX10_next_323 (by decide) ?_
    exact ret_v C hP hS (Option.some.inj hf) dX10_next_403
  have hL309 : (∀ (v2 : Int32) (s0 : ST) (H : Heap) (locs : List Loc) (ls : Array Slot), f_X10_next_L309 v2 s0 = some σ' → va_P D vwCl (wG NM eM a cy s0) H → va_S A s.heap H locs → lv_has ls 3 [(0, .ref (a 0)), (2, .int v2)] → W p l e (rmk 1 25) s m args below meth c H locs 0 0 (MQ below (QV NM eM a cy D A σ') args s 0 0 A) (F0 m 309 ls [])) := by
    intro v2 s0 H locs ls hf hP hS hl
    refine lv_aload_n hx hb dX10_next_309 rfl (lv_at hl 0 rfl) ?_
    refine lv_iload_n hx hb dX10_next_310 rfl (lv_at hl 1 rfl) ?_
    refine lv_iconst (v := (4 : Int32)) hx hb dX10_next_311 (by decide) ?_
    refine lv_icmp_le (tgt := 319) hx hb dX10_next_312 (by decide) (fun hc => ?_) (fun hc => ?_)
    · have hf := jif_t hc hf
      refine lv_iconst (v := (1 : Int32)) hx hb dX10_next_319 (by decide) ?_
      exact hL320 (1 : Int32) s0 H locs ls hf hP hS (lv_sub hl [] rfl)
    · have hf := jif_f hc hf
      refine lv_iconst (v := (-1 : Int32)) hx hb dX10_next_315 (by decide) ?_
      refine lv_goto (tgt := 320) hx hb dX10_next_316 (by decide) ?_
      exact hL320 (-1 : Int32) s0 H locs ls hf hP hS (lv_sub hl [] rfl)
  have hL290 : ∀ (k230 : Int32 → ST → Option ST) (hk230 : (∀ (v2 : Int32) (s0 : ST) (H : Heap) (locs : List Loc) (ls : Array Slot), k230 v2 s0 = some σ' → va_P D vwCl (wG NM eM a cy s0) H → va_S A s.heap H locs → lv_has ls 3 [(0, .ref (a 0)), (2, .int v2)] → W p l e (rmk 1 25) s m args below meth c H locs 0 0 (MQ below (QV NM eM a cy D A σ') args s 0 0 A) (F0 m 230 ls []))), (∀ (v2 : Int32) (t1 : Int32) (s0 : ST) (H : Heap) (locs : List Loc) (ls : Array Slot), f_X10_next_L290 k230 v2 t1 s0 = some σ' → va_P D vwCl (wG NM eM a cy s0) H → va_S A s.heap H locs → lv_has ls 3 [(0, .ref (a 0)), (2, .int v2)] → W p l e (rmk 1 25) s m args below meth c H locs 0 0 (MQ below (QV NM eM a cy D A σ') args s 0 0 A) (F0 m 290 ls [.int t1, .ref (a 0)])) := by
    intro k230 hk230 v2 t1 s0 H locs ls hf hP hS hl
    refine pf_X10_27 C hP hS wk_4_224 dX10_next_290 hf (fun H locs s1 hf hP hS => ?_)
    obtain ⟨y2, ey2, hf⟩ := jlet_e hf
    refine lv_iinc (v := y2) (lv' := [(2, .int y2), (0, .ref (a 0))]) hx hb dX10_next_293 hl (k := 1) rfl ey2 (by decide) rfl (fun ls hl => ?_)
    refine lv_aload_n hx hb dX10_next_296 rfl (lv_at hl 1 rfl) ?_
    refine lv_dup hx hb dX10_next_297 rfl ?_
    refine gf_X10_24 C hP wk_4_221 dX10_next_298 ?_
    refine lv_iconst (v := (1 : Int32)) hx hb dX10_next_301 (by decide) ?_
    refine lv_iadd hx hb dX10_next_302 ?_
    refine pf_X10_24 C hP hS wk_4_221 dX10_next_303 hf (fun H locs s3 hf hP hS => ?_)
    refine lv_goto (tgt := 230) hx hb dX10_next_306 (by decide) ?_
    exact hk230 y2 s3 H locs ls hf hP hS (lv_sub hl [1, 0] rfl)
  have hL230 : ∀ (n : Nat), (∀ (v2 : Int32) (s0 : ST) (H : Heap) (locs : List Loc) (ls : Array Slot), f_X10_next_L230 n v2 s0 = some σ' → va_P D vwCl (wG NM eM a cy s0) H → va_S A s.heap H locs → lv_has ls 3 [(0, .ref (a 0)), (2, .int v2)] → W p l e (rmk 1 25) s m args below meth c H locs 0 0 (MQ below (QV NM eM a cy D A σ') args s 0 0 A) (F0 m 230 ls [])) := by
    intro n
    induction n with
    | zero => intro v2 s0 H locs ls hf hP hS hl; exact no_o hf
    | succ n ih =>
      intro v2 s0 H locs ls hf hP hS hl
      have hf := (ef_X10_next_L230 _ _).symm.trans hf
      refine lv_aload_n hx hb dX10_next_230 rfl (lv_at hl 0 rfl) ?_
      refine gf_X10_24 C hP wk_4_221 dX10_next_231 ?_
      refine lv_aload_n hx hb dX10_next_234 rfl (lv_at hl 0 rfl) ?_
      refine gf_X10_9 C hP wk_4_206 dX10_next_235 ?_
      refine lv_icmp_ge (tgt := 309) hx hb dX10_next_238 (by decide) (fun hc => ?_) (fun hc => ?_)
      · have hf := jif_t hc hf
        exact hL309 v2 s0 H locs ls hf hP hS (lv_sub hl [0, 1] rfl)
      · have hf := jif_f hc hf
        refine lv_aload_n hx hb dX10_next_241 rfl (lv_at hl 0 rfl) ?_
        refine gf_X10_8 C hP wk_4_205 dX10_next_242 ?_
        refine lv_aload_n hx hb dX10_next_245 rfl (lv_at hl 0 rfl) ?_
        refine gf_X10_24 C hP wk_4_221 dX10_next_246 ?_
        obtain ⟨hi1, hf⟩ := jix_e hf
        refine r_iald C hP aM_8 hi1 dX10_next_249 ?_
        refine lv_bipush (v := (48 : Int32)) hx hb dX10_next_250 (by decide) ?_
        refine lv_bipush (v := (57 : Int32)) hx hb dX10_next_252 (by decide) ?_
        refine r_cz (r_runS (As := [.int (gA s0 8 (Int32.toNatClampNeg (gA s0 0 24))), .int (48 : Int32), .int (57 : Int32)]) (rest := []) C hP hS (k_X10_in (l := l) O (σ := s0) rfl) mw_X10_in ms_X10_in wk_4_158 ⟨Nat.le_of_ble_eq_true rfl, Nat.le_of_ble_eq_true rfl⟩ ⟨rfl, rfl⟩ ⟨Nat.zero_le _, Nat.zero_le _⟩ rfl hl.1 rfl (Nat.le_of_ble_eq_true rfl) dX10_next_254) hS (fun H locs hzy2 hP hS => ?_)
        refine jl_topz hf hzy2 (fun y2 hzy2 hf => ?_)
        refine lv_if_eq (tgt := 309) hx hb dX10_next_257 (by decide) (fun hc => ?_) (fun hc => ?_)
        · have hf := jif_t hc hf
          exact hL309 v2 s0 H locs ls hf hP hS (lv_sub hl [0, 1] rfl)
        · have hf := jif_f hc hf
          refine lv_aload_n hx hb dX10_next_260 rfl (lv_at hl 0 rfl) ?_
          refine lv_iload_n hx hb dX10_next_261 rfl (lv_at hl 1 rfl) ?_
          refine lv_iconst (v := (4 : Int32)) hx hb dX10_next_262 (by decide) ?_
          refine lv_icmp_ge (tgt := 289) hx hb dX10_next_263 (by decide) (fun hc => ?_) (fun hc => ?_)
          · have hf := jif_t hc hf
            refine lv_iconst (v := (0 : Int32)) hx hb dX10_next_289 (by decide) ?_
            exact hL290 (f_X10_next_L230 n) ih v2 (0 : Int32) s0 H locs ls hf hP hS (lv_sub hl [0, 1] rfl)
          · have hf := jif_f hc hf
            refine lv_bipush (v := (10 : Int32)) hx hb dX10_next_266 (by decide) ?_
            refine lv_aload_n hx hb dX10_next_268 rfl (lv_at hl 0 rfl) ?_
            refine gf_X10_27 C hP wk_4_224 dX10_next_269 ?_
            refine lv_imul hx hb dX10_next_272 ?_
            refine lv_aload_n hx hb dX10_next_273 rfl (lv_at hl 0 rfl) ?_
            refine gf_X10_8 C hP wk_4_205 dX10_next_274 ?_
            refine lv_aload_n hx hb dX10_next_277 rfl (lv_at hl 0 rfl) ?_
            refine gf_X10_24 C hP wk_4_221 dX10_next_278 ?_
            obtain ⟨hi4, hf⟩ := jix_e hf
            refine r_iald C hP aM_8 hi4 dX10_next_281 ?_
            refine lv_iadd hx hb dX10_next_282 ?_
            refine lv_bipush (v := (48 : Int32)) hx hb dX10_next_283 (by decide) ?_
            refine lv_isub hx hb dX10_next_285 ?_
            refine lv_goto (tgt := 290) hx hb dX10_next_286 (by decide) ?_
            exact hL290 (f_X10_next_L230 n) ih v2 ((((10 : Int32) * (gA s0 0 27)) + (gA s0 8 (Int32.toNatClampNeg (gA s0 0 24)))) - (48 : Int32)) s0 H locs ls hf hP hS (lv_sub hl [0, 1] rfl)
  have hL211 : (∀ (t1 : Int32) (s0 : ST) (H : Heap) (locs : List Loc) (ls : Array Slot), f_X10_next_L211 t1 s0 = some σ' → va_P D vwCl (wG NM eM a cy s0) H → va_S A s.heap H locs → lv_has ls 3 [] → W p l e (rmk 1 25) s m args below meth c H locs 0 0 (MQ below (QV NM eM a cy D A σ') args s 0 0 A) (F0 m 211 ls [.int t1, .ref (a 0)])) := by
    intro t1 s0 H locs ls hf hP hS hl
    refine pf_X10_27 C hP hS wk_4_224 dX10_next_211 hf (fun H locs s1 hf hP hS => ?_)
    refine lv_goto (tgt := 403) hx hb dX10_next_214 (by decide) ?_
    exact ret_v C hP hS (Option.some.inj hf) dX10_next_403
  have hL195 : (∀ (v2 : Int32) (t1 : Int32) (s0 : ST) (H : Heap) (locs : List Loc) (ls : Array Slot), f_X10_next_L195 v2 t1 s0 = some σ' → va_P D vwCl (wG NM eM a cy s0) H → va_S A s.heap H locs → lv_has ls 3 [(0, .ref (a 0)), (2, .int v2)] → W p l e (rmk 1 25) s m args below meth c H locs 0 0 (MQ below (QV NM eM a cy D A σ') args s 0 0 A) (F0 m 195 ls [.int t1, .ref (a 0)])) := by
    intro v2 t1 s0 H locs ls hf hP hS hl
    refine pf_X10_26 C hP hS wk_4_223 dX10_next_195 hf (fun H locs s1 hf hP hS => ?_)
    refine lv_aload_n hx hb dX10_next_198 rfl (lv_at hl 0 rfl) ?_
    refine lv_iload_n hx hb dX10_next_199 rfl (lv_at hl 1 rfl) ?_
    refine lv_iconst (v := (3 : Int32)) hx hb dX10_next_200 (by decide) ?_
    refine lv_icmp_ge (tgt := 208) hx hb dX10_next_201 (by decide) (fun hc => ?_) (fun hc => ?_)
    · have hf := jif_t hc hf
      refine lv_iload_n hx hb dX10_next_208 rfl (lv_at hl 1 rfl) ?_
      refine lv_iconst (v := (3 : Int32)) hx hb dX10_next_209 (by decide) ?_
      refine lv_isub hx hb dX10_next_210 ?_
      exact hL211 (v2 - (3 : Int32)) s1 H locs ls hf hP hS (lv_sub hl [] rfl)
    · have hf := jif_f hc hf
      refine lv_iload_n hx hb dX10_next_204 rfl (lv_at hl 1 rfl) ?_
      refine lv_goto (tgt := 211) hx hb dX10_next_205 (by decide) ?_
      exact hL211 v2 s1 H locs ls hf hP hS (lv_sub hl [] rfl)
  have hL146 : (∀ (s0 : ST) (H : Heap) (locs : List Loc) (ls : Array Slot), f_X10_next_L146 s0 = some σ' → va_P D vwCl (wG NM eM a cy s0) H → va_S A s.heap H locs → lv_has ls 3 [(0, .ref (a 0))] → W p l e (rmk 1 25) s m args below meth c H locs 0 0 (MQ below (QV NM eM a cy D A σ') args s 0 0 A) (F0 m 146 ls [])) := by
    intro s0 H locs ls hf hP hS hl
    refine lv_aload_n hx hb dX10_next_146 rfl (lv_at hl 0 rfl) ?_
    refine lv_aload_n hx hb dX10_next_147 rfl (lv_at hl 0 rfl) ?_
    refine gf_X10_25 C hP wk_4_222 dX10_next_148 ?_
    refine lv_aload_n hx hb dX10_next_151 rfl (lv_at hl 0 rfl) ?_
    refine gf_X10_24 C hP wk_4_221 dX10_next_152 ?_
    obtain ⟨y1, hc, hf⟩ := jb_e hf
    refine r_ci (r_runV (As := [.int (gA s0 0 25), .int (gA s0 0 24)]) (rest := []) C hP hS (va_recv C.hK hP (q0 := 0) (ci := 10) rfl (by rw [g_at oM_10.1, oM_10.2])) (k_X10_wordFrom (l := l) O (σ := s0) hc) mw_X10_wordFrom mi_X10_wordFrom mv_X10_wordFrom wk_4_161 ⟨Nat.le_of_ble_eq_true rfl, Nat.le_of_ble_eq_true rfl⟩ ⟨rfl, rfl⟩ ⟨Nat.zero_le _, Nat.zero_le _⟩ rfl hl.1 rfl (Nat.le_of_ble_eq_true rfl) dX10_next_155) hS (fun H locs hP hS => ?_)
    refine lv_istore_n (lv' := [(2, .int y1), (0, .ref (a 0))]) hx hb dX10_next_158 rfl hl (by decide) rfl (fun ls hl => ?_)
    refine lv_aload_n hx hb dX10_next_159 rfl (lv_at hl 1 rfl) ?_
    refine lv_iload_n hx hb dX10_next_160 rfl (lv_at hl 0 rfl) ?_
    refine lv_iconst (v := (3 : Int32)) hx hb dX10_next_161 (by decide) ?_
    refine lv_icmp_ge (tgt := 169) hx hb dX10_next_162 (by decide) (fun hc => ?_) (fun hc => ?_)
    · have hf := jif_t hc hf
      refine lv_iload_n hx hb dX10_next_169 rfl (lv_at hl 0 rfl) ?_
      refine lv_bipush (v := (9 : Int32)) hx hb dX10_next_170 (by decide) ?_
      refine lv_icmp_ge (tgt := 179) hx hb dX10_next_172 (by decide) (fun hc => ?_) (fun hc => ?_)
      · have hf := jif_t hc hf
        refine lv_iload_n hx hb dX10_next_179 rfl (lv_at hl 0 rfl) ?_
        refine lv_bipush (v := (12 : Int32)) hx hb dX10_next_180 (by decide) ?_
        refine lv_icmp_ne (tgt := 189) hx hb dX10_next_182 (by decide) (fun hc => ?_) (fun hc => ?_)
        · have hf := jif_t hc hf
          refine lv_iconst (v := (4 : Int32)) hx hb dX10_next_189 (by decide) ?_
          refine lv_iload_n hx hb dX10_next_190 rfl (lv_at hl 0 rfl) ?_
          refine lv_iadd hx hb dX10_next_191 ?_
          refine lv_bipush (v := (9 : Int32)) hx hb dX10_next_192 (by decide) ?_
          refine lv_isub hx hb dX10_next_194 ?_
          exact hL195 y1 (((4 : Int32) + y1) - (9 : Int32)) s0 H locs ls hf hP hS (lv_sub hl [1, 0] rfl)
        · have hf := jif_n hc hf
          refine lv_iconst (v := (-1 : Int32)) hx hb dX10_next_185 (by decide) ?_
          refine lv_goto (tgt := 195) hx hb dX10_next_186 (by decide) ?_
          exact hL195 y1 (-1 : Int32) s0 H locs ls hf hP hS (lv_sub hl [1, 0] rfl)
      · have hf := jif_f hc hf
        refine lv_iconst (v := (2 : Int32)) hx hb dX10_next_175 (by decide) ?_
        refine lv_goto (tgt := 195) hx hb dX10_next_176 (by decide) ?_
        exact hL195 y1 (2 : Int32) s0 H locs ls hf hP hS (lv_sub hl [1, 0] rfl)
    · have hf := jif_f hc hf
      refine lv_iconst (v := (3 : Int32)) hx hb dX10_next_165 (by decide) ?_
      refine lv_goto (tgt := 195) hx hb dX10_next_166 (by decide) ?_
      exact hL195 y1 (3 : Int32) s0 H locs ls hf hP hS (lv_sub hl [1, 0] rfl)
  have hL103 : ∀ (n : Nat), (∀ (s0 : ST) (H : Heap) (locs : List Loc) (ls : Array Slot), f_X10_next_L103 n s0 = some σ' → va_P D vwCl (wG NM eM a cy s0) H → va_S A s.heap H locs → lv_has ls 3 [(0, .ref (a 0))] → W p l e (rmk 1 25) s m args below meth c H locs 0 0 (MQ below (QV NM eM a cy D A σ') args s 0 0 A) (F0 m 103 ls [])) := by
    intro n
    induction n with
    | zero => intro s0 H locs ls hf hP hS hl; exact no_o hf
    | succ n ih =>
      intro s0 H locs ls hf hP hS hl
      have hf := (ef_X10_next_L103 _).symm.trans hf
      refine lv_aload_n hx hb dX10_next_103 rfl (lv_at hl 0 rfl) ?_
      refine gf_X10_24 C hP wk_4_221 dX10_next_104 ?_
      refine lv_aload_n hx hb dX10_next_107 rfl (lv_at hl 0 rfl) ?_
      refine gf_X10_9 C hP wk_4_206 dX10_next_108 ?_
      refine lv_icmp_ge (tgt := 146) hx hb dX10_next_111 (by decide) (fun hc => ?_) (fun hc => ?_)
      · have hf := jif_t hc hf
        exact hL146 s0 H locs ls hf hP hS (lv_sub hl [0] rfl)
      · have hf := jif_f hc hf
        refine lv_aload_n hx hb dX10_next_114 rfl (lv_at hl 0 rfl) ?_
        refine gf_X10_8 C hP wk_4_205 dX10_next_115 ?_
        refine lv_aload_n hx hb dX10_next_118 rfl (lv_at hl 0 rfl) ?_
        refine gf_X10_24 C hP wk_4_221 dX10_next_119 ?_
        obtain ⟨hi1, hf⟩ := jix_e hf
        refine r_iald C hP aM_8 hi1 dX10_next_122 ?_
        refine lv_bipush (v := (97 : Int32)) hx hb dX10_next_123 (by decide) ?_
        refine lv_bipush (v := (122 : Int32)) hx hb dX10_next_125 (by decide) ?_
        refine r_cz (r_runS (As := [.int (gA s0 8 (Int32.toNatClampNeg (gA s0 0 24))), .int (97 : Int32), .int (122 : Int32)]) (rest := []) C hP hS (k_X10_in (l := l) O (σ := s0) rfl) mw_X10_in ms_X10_in wk_4_158 ⟨Nat.le_of_ble_eq_true rfl, Nat.le_of_ble_eq_true rfl⟩ ⟨rfl, rfl⟩ ⟨Nat.zero_le _, Nat.zero_le _⟩ rfl hl.1 rfl (Nat.le_of_ble_eq_true rfl) dX10_next_127) hS (fun H locs hzy2 hP hS => ?_)
        refine jl_topz hf hzy2 (fun y2 hzy2 hf => ?_)
        refine lv_if_eq (tgt := 146) hx hb dX10_next_130 (by decide) (fun hc => ?_) (fun hc => ?_)
        · have hf := jif_t hc hf
          exact hL146 s0 H locs ls hf hP hS (lv_sub hl [0] rfl)
        · have hf := jif_f hc hf
          refine lv_aload_n hx hb dX10_next_133 rfl (lv_at hl 0 rfl) ?_
          refine lv_dup hx hb dX10_next_134 rfl ?_
          refine gf_X10_24 C hP wk_4_221 dX10_next_135 ?_
          refine lv_iconst (v := (1 : Int32)) hx hb dX10_next_138 (by decide) ?_
          refine lv_iadd hx hb dX10_next_139 ?_
          refine pf_X10_24 C hP hS wk_4_221 dX10_next_140 hf (fun H locs s4 hf hP hS => ?_)
          refine lv_goto (tgt := 103) hx hb dX10_next_143 (by decide) ?_
          exact ih s4 H locs ls hf hP hS (lv_sub hl [0] rfl)
  have hL52 : (∀ (s0 : ST) (H : Heap) (locs : List Loc) (ls : Array Slot), f_X10_next_L52 s0 = some σ' → va_P D vwCl (wG NM eM a cy s0) H → va_S A s.heap H locs → lv_has ls 3 [(0, .ref (a 0))] → W p l e (rmk 1 25) s m args below meth c H locs 0 0 (MQ below (QV NM eM a cy D A σ') args s 0 0 A) (F0 m 52 ls [])) := by
    intro s0 H locs ls hf hP hS hl
    refine lv_aload_n hx hb dX10_next_52 rfl (lv_at hl 0 rfl) ?_
    refine lv_aload_n hx hb dX10_next_53 rfl (lv_at hl 0 rfl) ?_
    refine gf_X10_24 C hP wk_4_221 dX10_next_54 ?_
    refine pf_X10_25 C hP hS wk_4_222 dX10_next_57 hf (fun H locs s1 hf hP hS => ?_)
    refine lv_aload_n hx hb dX10_next_60 rfl (lv_at hl 0 rfl) ?_
    refine lv_iconst (v := (0 : Int32)) hx hb dX10_next_61 (by decide) ?_
    refine pf_X10_26 C hP hS wk_4_223 dX10_next_62 hf (fun H locs s2 hf hP hS => ?_)
    refine lv_aload_n hx hb dX10_next_65 rfl (lv_at hl 0 rfl) ?_
    refine lv_iconst (v := (0 : Int32)) hx hb dX10_next_66 (by decide) ?_
    refine pf_X10_27 C hP hS wk_4_224 dX10_next_67 hf (fun H locs s3 hf hP hS => ?_)
    refine lv_aload_n hx hb dX10_next_70 rfl (lv_at hl 0 rfl) ?_
    refine gf_X10_24 C hP wk_4_221 dX10_next_71 ?_
    refine lv_aload_n hx hb dX10_next_74 rfl (lv_at hl 0 rfl) ?_
    refine gf_X10_9 C hP wk_4_206 dX10_next_75 ?_
    refine lv_icmp_ne (tgt := 82) hx hb dX10_next_78 (by decide) (fun hc => ?_) (fun hc => ?_)
    · have hf := jif_t hc hf
      refine lv_aload_n hx hb dX10_next_82 rfl (lv_at hl 0 rfl) ?_
      refine gf_X10_8 C hP wk_4_205 dX10_next_83 ?_
      refine lv_aload_n hx hb dX10_next_86 rfl (lv_at hl 0 rfl) ?_
      refine gf_X10_24 C hP wk_4_221 dX10_next_87 ?_
      obtain ⟨hi4, hf⟩ := jix_e hf
      refine r_iald C hP aM_8 hi4 dX10_next_90 ?_
      refine jl_topi hf (fun y5 hf => ?_)
      refine lv_istore_n (lv' := [(1, .int y5), (0, .ref (a 0))]) hx hb dX10_next_91 rfl hl (by decide) rfl (fun ls hl => ?_)
      refine lv_iload_n hx hb dX10_next_92 rfl (lv_at hl 0 rfl) ?_
      refine lv_bipush (v := (97 : Int32)) hx hb dX10_next_93 (by decide) ?_
      refine lv_bipush (v := (122 : Int32)) hx hb dX10_next_95 (by decide) ?_
      refine r_cz (r_runS (As := [.int y5, .int (97 : Int32), .int (122 : Int32)]) (rest := []) C hP hS (k_X10_in (l := l) O (σ := s3) rfl) mw_X10_in ms_X10_in wk_4_158 ⟨Nat.le_of_ble_eq_true rfl, Nat.le_of_ble_eq_true rfl⟩ ⟨rfl, rfl⟩ ⟨Nat.zero_le _, Nat.zero_le _⟩ rfl hl.1 rfl (Nat.le_of_ble_eq_true rfl) dX10_next_97) hS (fun H locs hzy6 hP hS => ?_)
      refine jl_topz hf hzy6 (fun y6 hzy6 hf => ?_)
      refine lv_if_eq (tgt := 217) hx hb dX10_next_100 (by decide) (fun hc => ?_) (fun hc => ?_)
      · have hf := jif_t hc hf
        refine lv_iload_n hx hb dX10_next_217 rfl (lv_at hl 0 rfl) ?_
        refine lv_bipush (v := (48 : Int32)) hx hb dX10_next_218 (by decide) ?_
        refine lv_bipush (v := (57 : Int32)) hx hb dX10_next_220 (by decide) ?_
        refine r_cz (r_runS (As := [.int y5, .int (48 : Int32), .int (57 : Int32)]) (rest := []) C hP hS (k_X10_in (l := l) O (σ := s3) rfl) mw_X10_in ms_X10_in wk_4_158 ⟨Nat.le_of_ble_eq_true rfl, Nat.le_of_ble_eq_true rfl⟩ ⟨rfl, rfl⟩ ⟨Nat.zero_le _, Nat.zero_le _⟩ rfl hl.1 rfl (Nat.le_of_ble_eq_true rfl) dX10_next_222) hS (fun H locs hzy8 hP hS => ?_)
        refine jl_topz hf hzy8 (fun y8 hzy8 hf => ?_)
        refine lv_if_eq (tgt := 326) hx hb dX10_next_225 (by decide) (fun hc => ?_) (fun hc => ?_)
        · have hf := jif_t hc hf
          refine lv_iload_n hx hb dX10_next_326 rfl (lv_at hl 0 rfl) ?_
          refine lv_bipush (v := (40 : Int32)) hx hb dX10_next_327 (by decide) ?_
          refine lv_icmp_eq (tgt := 374) hx hb dX10_next_329 (by decide) (fun hc => ?_) (fun hc => ?_)
          · have hf := jif_t hc hf
            exact hL374 y5 s3 H locs ls hf hP hS (lv_sub hl [1, 0] rfl)
          · have hf := jif_f hc hf
            refine lv_iload_n hx hb dX10_next_332 rfl (lv_at hl 0 rfl) ?_
            refine lv_bipush (v := (41 : Int32)) hx hb dX10_next_333 (by decide) ?_
            refine lv_icmp_eq (tgt := 374) hx hb dX10_next_335 (by decide) (fun hc => ?_) (fun hc => ?_)
            · have hf := jif_t hc hf
              exact hL374 y5 s3 H locs ls hf hP hS (lv_sub hl [1, 0] rfl)
            · have hf := jif_f hc hf
              refine lv_iload_n hx hb dX10_next_338 rfl (lv_at hl 0 rfl) ?_
              refine lv_bipush (v := (59 : Int32)) hx hb dX10_next_339 (by decide) ?_
              refine lv_icmp_eq (tgt := 374) hx hb dX10_next_341 (by decide) (fun hc => ?_) (fun hc => ?_)
              · have hf := jif_t hc hf
                exact hL374 y5 s3 H locs ls hf hP hS (lv_sub hl [1, 0] rfl)
              · have hf := jif_f hc hf
                refine lv_iload_n hx hb dX10_next_344 rfl (lv_at hl 0 rfl) ?_
                refine lv_bipush (v := (43 : Int32)) hx hb dX10_next_345 (by decide) ?_
                refine lv_icmp_eq (tgt := 374) hx hb dX10_next_347 (by decide) (fun hc => ?_) (fun hc => ?_)
                · have hf := jif_t hc hf
                  exact hL374 y5 s3 H locs ls hf hP hS (lv_sub hl [1, 0] rfl)
                · have hf := jif_f hc hf
                  refine lv_iload_n hx hb dX10_next_350 rfl (lv_at hl 0 rfl) ?_
                  refine lv_bipush (v := (45 : Int32)) hx hb dX10_next_351 (by decide) ?_
                  refine lv_icmp_eq (tgt := 374) hx hb dX10_next_353 (by decide) (fun hc => ?_) (fun hc => ?_)
                  · have hf := jif_t hc hf
                    exact hL374 y5 s3 H locs ls hf hP hS (lv_sub hl [1, 0] rfl)
                  · have hf := jif_f hc hf
                    refine lv_iload_n hx hb dX10_next_356 rfl (lv_at hl 0 rfl) ?_
                    refine lv_bipush (v := (42 : Int32)) hx hb dX10_next_357 (by decide) ?_
                    refine lv_icmp_eq (tgt := 374) hx hb dX10_next_359 (by decide) (fun hc => ?_) (fun hc => ?_)
                    · have hf := jif_t hc hf
                      exact hL374 y5 s3 H locs ls hf hP hS (lv_sub hl [1, 0] rfl)
                    · have hf := jif_f hc hf
                      refine lv_iload_n hx hb dX10_next_362 rfl (lv_at hl 0 rfl) ?_
                      refine lv_bipush (v := (60 : Int32)) hx hb dX10_next_363 (by decide) ?_
                      refine lv_icmp_eq (tgt := 374) hx hb dX10_next_365 (by decide) (fun hc => ?_) (fun hc => ?_)
                      · have hf := jif_t hc hf
                        exact hL374 y5 s3 H locs ls hf hP hS (lv_sub hl [1, 0] rfl)
                      · have hf := jif_f hc hf
                        refine lv_iload_n hx hb dX10_next_368 rfl (lv_at hl 0 rfl) ?_
                        refine lv_bipush (v := (61 : Int32)) hx hb dX10_next_369 (by decide) ?_
                        refine lv_icmp_ne (tgt := 378) hx hb dX10_next_371 (by decide) (fun hc => ?_) (fun hc => ?_)
                        · have hf := jif_t hc hf
                          refine lv_iconst (v := (0 : Int32)) hx hb dX10_next_378 (by decide) ?_
                          exact hL379 y5 (0 : Int32) s3 H locs ls hf hP hS (lv_sub hl [1, 0] rfl)
                        · have hf := jif_n hc hf
                          exact hL374 y5 s3 H locs ls hf hP hS (lv_sub hl [1, 0] rfl)
        · have hf := jif_f hc hf
          refine lv_iconst (v := (0 : Int32)) hx hb dX10_next_228 (by decide) ?_
          refine lv_istore_n (lv' := [(2, .int (0 : Int32)), (1, .int y5), (0, .ref (a 0))]) hx hb dX10_next_229 rfl hl (by decide) rfl (fun ls hl => ?_)
          exact hL230 FU (0 : Int32) s3 H locs ls hf hP hS (lv_sub hl [2, 0] rfl)
      · have hf := jif_f hc hf
        exact hL103 FU s3 H locs ls hf hP hS (lv_sub hl [1] rfl)
    · have hf := jif_n hc hf
      exact ret_v C hP hS (Option.some.inj hf) dX10_next_81
  have hL39 : ∀ (k0 : ST → Option ST) (hk0 : (∀ (s0 : ST) (H : Heap) (locs : List Loc) (ls : Array Slot), k0 s0 = some σ' → va_P D vwCl (wG NM eM a cy s0) H → va_S A s.heap H locs → lv_has ls 3 [(0, .ref (a 0))] → W p l e (rmk 1 25) s m args below meth c H locs 0 0 (MQ below (QV NM eM a cy D A σ') args s 0 0 A) (F0 m 0 ls []))), (∀ (s0 : ST) (H : Heap) (locs : List Loc) (ls : Array Slot), f_X10_next_L39 k0 s0 = some σ' → va_P D vwCl (wG NM eM a cy s0) H → va_S A s.heap H locs → lv_has ls 3 [(0, .ref (a 0))] → W p l e (rmk 1 25) s m args below meth c H locs 0 0 (MQ below (QV NM eM a cy D A σ') args s 0 0 A) (F0 m 39 ls [])) := by
    intro k0 hk0 s0 H locs ls hf hP hS hl
    refine lv_aload_n hx hb dX10_next_39 rfl (lv_at hl 0 rfl) ?_
    refine lv_dup hx hb dX10_next_40 rfl ?_
    refine gf_X10_24 C hP wk_4_221 dX10_next_41 ?_
    refine lv_iconst (v := (1 : Int32)) hx hb dX10_next_44 (by decide) ?_
    refine lv_iadd hx hb dX10_next_45 ?_
    refine pf_X10_24 C hP hS wk_4_221 dX10_next_46 hf (fun H locs s1 hf hP hS => ?_)
    refine lv_goto (tgt := 0) hx hb dX10_next_49 (by decide) ?_
    exact hk0 s1 H locs ls hf hP hS (lv_sub hl [0] rfl)
  have hL0 : ∀ (n : Nat), (∀ (s0 : ST) (H : Heap) (locs : List Loc) (ls : Array Slot), f_X10_next_L0 n s0 = some σ' → va_P D vwCl (wG NM eM a cy s0) H → va_S A s.heap H locs → lv_has ls 3 [(0, .ref (a 0))] → W p l e (rmk 1 25) s m args below meth c H locs 0 0 (MQ below (QV NM eM a cy D A σ') args s 0 0 A) (F0 m 0 ls [])) := by
    intro n
    induction n with
    | zero => intro s0 H locs ls hf hP hS hl; exact no_o hf
    | succ n ih =>
      intro s0 H locs ls hf hP hS hl
      have hf := (ef_X10_next_L0 _).symm.trans hf
      refine lv_aload_n hx hb dX10_next_0 rfl (lv_at hl 0 rfl) ?_
      refine gf_X10_24 C hP wk_4_221 dX10_next_1 ?_
      refine lv_aload_n hx hb dX10_next_4 rfl (lv_at hl 0 rfl) ?_
      refine gf_X10_9 C hP wk_4_206 dX10_next_5 ?_
      refine lv_icmp_ge (tgt := 52) hx hb dX10_next_8 (by decide) (fun hc => ?_) (fun hc => ?_)
      · have hf := jif_t hc hf
        exact hL52 s0 H locs ls hf hP hS (lv_sub hl [0] rfl)
      · have hf := jif_f hc hf
        refine lv_aload_n hx hb dX10_next_11 rfl (lv_at hl 0 rfl) ?_
        refine gf_X10_8 C hP wk_4_205 dX10_next_12 ?_
        refine lv_aload_n hx hb dX10_next_15 rfl (lv_at hl 0 rfl) ?_
        refine gf_X10_24 C hP wk_4_221 dX10_next_16 ?_
        obtain ⟨hi1, hf⟩ := jix_e hf
        refine r_iald C hP aM_8 hi1 dX10_next_19 ?_
        refine lv_bipush (v := (32 : Int32)) hx hb dX10_next_20 (by decide) ?_
        refine lv_icmp_eq (tgt := 39) hx hb dX10_next_22 (by decide) (fun hc => ?_) (fun hc => ?_)
        · have hf := jif_t hc hf
          exact hL39 (f_X10_next_L0 n) ih s0 H locs ls hf hP hS (lv_sub hl [0] rfl)
        · have hf := jif_f hc hf
          refine lv_aload_n hx hb dX10_next_25 rfl (lv_at hl 0 rfl) ?_
          refine gf_X10_8 C hP wk_4_205 dX10_next_26 ?_
          refine lv_aload_n hx hb dX10_next_29 rfl (lv_at hl 0 rfl) ?_
          refine gf_X10_24 C hP wk_4_221 dX10_next_30 ?_
          obtain ⟨hi2, hf⟩ := jix_e hf
          refine r_iald C hP aM_8 hi2 dX10_next_33 ?_
          refine lv_bipush (v := (10 : Int32)) hx hb dX10_next_34 (by decide) ?_
          refine lv_icmp_ne (tgt := 52) hx hb dX10_next_36 (by decide) (fun hc => ?_) (fun hc => ?_)
          · have hf := jif_t hc hf
            exact hL52 s0 H locs ls hf hP hS (lv_sub hl [0] rfl)
          · have hf := jif_n hc hf
            exact hL39 (f_X10_next_L0 n) ih s0 H locs ls hf hP hS (lv_sub hl [0] rfl)
  exact hL0 FU σ H locs ls hf hP hS (lv_sub hl [0] rfl)
set_option maxHeartbeats 4000000 in
set_option maxRecDepth 100000 in
theorem k_X10_rank {l : Launch} {a : Nat → Nat} {cy : Nat → ClassId} {D : va_G} {A : Nat → Prop} (O : WO NM a (fun _ => True) A) {x1 : Int32} {r : Int32} {σ : ST} (hf : f_X10_rank x1 = r) : Met l yX10_rank (Cond.code yX10_rank cX10_rank 1 (some .int) :: WS) (rmk 0 0) (PC [.int x1] NM eM a cy D (fun _ => True) σ) (QI NM eM a cy D A r σ) 0 0 A := by
  refine met_go (own := "GuardsLookLeftModel") O (by decide +kernel) rfl (Nat.le_of_ble_eq_true rfl) ?_
  intro p e s m args below meth c ls C hP hS hl
  have hx := C.hx
  have hb := C.hb
  have hl : lv_has ls 1 [(0, .int x1)] := hl
  obtain ⟨H, hH⟩ : ∃ H, H = s.heap := ⟨_, rfl⟩
  rw [← hH] at hP
  have hS : va_S A s.heap H [] := by rw [hH]; exact va_S.rf
  suffices g : W p l e (rmk 0 0) s m args below meth c H [] 0 0 (MQ below (QI NM eM a cy D A r σ) args s 0 0 A) (F0 m 0 ls []) by rw [hH] at g; exact g
  clear hH
  obtain ⟨locs, hlocs⟩ : ∃ z : List Loc, z = [] := ⟨_, rfl⟩
  rw [← hlocs] at hS ⊢
  refine lv_iload_n hx hb dX10_rank_0 rfl (lv_at hl 0 rfl) ?_
  refine lv_if_ne (tgt := 8) hx hb dX10_rank_1 (by decide) (fun hc => ?_) (fun hc => ?_)
  · have hf := jif_t hc hf
    refine lv_iload_n hx hb dX10_rank_8 rfl (lv_at hl 0 rfl) ?_
    refine lv_bipush (v := (11 : Int32)) hx hb dX10_rank_9 (by decide) ?_
    refine lv_icmp_ne (tgt := 18) hx hb dX10_rank_11 (by decide) (fun hc => ?_) (fun hc => ?_)
    · have hf := jif_t hc hf
      refine lv_iload_n hx hb dX10_rank_18 rfl (lv_at hl 0 rfl) ?_
      refine lv_bipush (v := (12 : Int32)) hx hb dX10_rank_19 (by decide) ?_
      refine lv_icmp_ne (tgt := 28) hx hb dX10_rank_21 (by decide) (fun hc => ?_) (fun hc => ?_)
      · have hf := jif_t hc hf
        refine lv_iload_n hx hb dX10_rank_28 rfl (lv_at hl 0 rfl) ?_
        refine lv_bipush (v := (13 : Int32)) hx hb dX10_rank_29 (by decide) ?_
        refine lv_icmp_ne (tgt := 38) hx hb dX10_rank_31 (by decide) (fun hc => ?_) (fun hc => ?_)
        · have hf := jif_t hc hf
          refine lv_iload_n hx hb dX10_rank_38 rfl (lv_at hl 0 rfl) ?_
          refine lv_bipush (v := (15 : Int32)) hx hb dX10_rank_39 (by decide) ?_
          refine lv_icmp_gt (tgt := 48) hx hb dX10_rank_41 (by decide) (fun hc => ?_) (fun hc => ?_)
          · have hf := jif_t hc hf
            refine lv_iload_n hx hb dX10_rank_48 rfl (lv_at hl 0 rfl) ?_
            refine lv_bipush (v := (17 : Int32)) hx hb dX10_rank_49 (by decide) ?_
            refine lv_icmp_gt (tgt := 58) hx hb dX10_rank_51 (by decide) (fun hc => ?_) (fun hc => ?_)
            · have hf := jif_t hc hf
              refine lv_iload_n hx hb dX10_rank_58 rfl (lv_at hl 0 rfl) ?_
              refine lv_bipush (v := (18 : Int32)) hx hb dX10_rank_59 (by decide) ?_
              refine lv_icmp_ne (tgt := 69) hx hb dX10_rank_61 (by decide) (fun hc => ?_) (fun hc => ?_)
              · have hf := jif_t hc hf
                refine lv_bipush (v := (7 : Int32)) hx hb dX10_rank_69 (by decide) ?_
                exact ret_i C hP hS hf rfl dX10_rank_71
              · have hf := jif_n hc hf
                refine lv_bipush (v := (6 : Int32)) hx hb dX10_rank_64 (by decide) ?_
                refine lv_goto (tgt := 71) hx hb dX10_rank_66 (by decide) ?_
                exact ret_i C hP hS hf rfl dX10_rank_71
            · have hf := jif_f hc hf
              refine lv_iconst (v := (5 : Int32)) hx hb dX10_rank_54 (by decide) ?_
              refine lv_goto (tgt := 71) hx hb dX10_rank_55 (by decide) ?_
              exact ret_i C hP hS hf rfl dX10_rank_71
          · have hf := jif_f hc hf
            refine lv_iconst (v := (4 : Int32)) hx hb dX10_rank_44 (by decide) ?_
            refine lv_goto (tgt := 71) hx hb dX10_rank_45 (by decide) ?_
            exact ret_i C hP hS hf rfl dX10_rank_71
        · have hf := jif_n hc hf
          refine lv_iconst (v := (3 : Int32)) hx hb dX10_rank_34 (by decide) ?_
          refine lv_goto (tgt := 71) hx hb dX10_rank_35 (by decide) ?_
          exact ret_i C hP hS hf rfl dX10_rank_71
      · have hf := jif_n hc hf
        refine lv_iconst (v := (2 : Int32)) hx hb dX10_rank_24 (by decide) ?_
        refine lv_goto (tgt := 71) hx hb dX10_rank_25 (by decide) ?_
        exact ret_i C hP hS hf rfl dX10_rank_71
    · have hf := jif_n hc hf
      refine lv_iconst (v := (1 : Int32)) hx hb dX10_rank_14 (by decide) ?_
      refine lv_goto (tgt := 71) hx hb dX10_rank_15 (by decide) ?_
      exact ret_i C hP hS hf rfl dX10_rank_71
  · have hf := jif_n hc hf
    refine lv_iconst (v := (0 : Int32)) hx hb dX10_rank_4 (by decide) ?_
    refine lv_goto (tgt := 71) hx hb dX10_rank_5 (by decide) ?_
    exact ret_i C hP hS hf rfl dX10_rank_71
set_option maxHeartbeats 4000000 in
set_option maxRecDepth 100000 in
theorem k_X10_puts {l : Launch} {a : Nat → Nat} {cy : Nat → ClassId} {D : va_G} {A : Nat → Prop} (O : WO NM a (fun _ => True) A) {x1 : Int32} {σ : ST} {σ' : ST} (hf : f_X10_puts x1 σ = some σ') : Met l yX10_puts (Cond.code yX10_puts cX10_puts 2 none :: WS) (rmk 0 0) (PC [.ref (a 0), .int x1] NM eM a cy D (fun _ => True) σ) (QV NM eM a cy D A σ') 0 0 A := by
  refine met_go (own := "GuardsLookLeftModel") O (by decide +kernel) rfl (Nat.le_of_ble_eq_true rfl) ?_
  intro p e s m args below meth c ls C hP hS hl
  have hx := C.hx
  have hb := C.hb
  have hl : lv_has ls 2 [(0, .ref (a 0)), (1, .int x1)] := hl
  obtain ⟨H, hH⟩ : ∃ H, H = s.heap := ⟨_, rfl⟩
  rw [← hH] at hP
  have hS : va_S A s.heap H [] := by rw [hH]; exact va_S.rf
  suffices g : W p l e (rmk 0 0) s m args below meth c H [] 0 0 (MQ below (QV NM eM a cy D A σ') args s 0 0 A) (F0 m 0 ls []) by rw [hH] at g; exact g
  clear hH
  obtain ⟨locs, hlocs⟩ : ∃ z : List Loc, z = [] := ⟨_, rfl⟩
  rw [← hlocs] at hS ⊢
  refine lv_aload_n hx hb dX10_puts_0 rfl (lv_at hl 0 rfl) ?_
  refine gf_X10_10 C hP wk_4_207 dX10_puts_1 ?_
  refine lv_sipush (v := (200 : Int32)) hx hb dX10_puts_4 (by decide) ?_
  refine lv_aload_n hx hb dX10_puts_7 rfl (lv_at hl 0 rfl) ?_
  refine gf_X10_12 C hP wk_4_209 dX10_puts_8 ?_
  refine lv_imul hx hb dX10_puts_11 ?_
  refine lv_aload_n hx hb dX10_puts_12 rfl (lv_at hl 0 rfl) ?_
  refine gf_X10_32 C hP wk_4_229 dX10_puts_13 ?_
  refine lv_iadd hx hb dX10_puts_16 ?_
  refine lv_iload_n hx hb dX10_puts_17 rfl (lv_at hl 1 rfl) ?_
  obtain ⟨hi1, hf⟩ := jix_e hf
  refine r_iast C hP hS aM_9 hi1 dX10_puts_18 hf (fun H locs s2 hf hP hS => ?_)
  refine lv_aload_n hx hb dX10_puts_19 rfl (lv_at hl 0 rfl) ?_
  refine lv_dup hx hb dX10_puts_20 rfl ?_
  refine gf_X10_32 C hP wk_4_229 dX10_puts_21 ?_
  refine lv_iconst (v := (1 : Int32)) hx hb dX10_puts_24 (by decide) ?_
  refine lv_iadd hx hb dX10_puts_25 ?_
  refine pf_X10_32 C hP hS wk_4_229 dX10_puts_26 hf (fun H locs s3 hf hP hS => ?_)
  exact ret_v C hP hS (Option.some.inj hf) dX10_puts_29
set_option maxHeartbeats 4000000 in
set_option maxRecDepth 100000 in
theorem k_X10_unwinds {l : Launch} {a : Nat → Nat} {cy : Nat → ClassId} {D : va_G} {A : Nat → Prop} (O : WO NM a (fun _ => True) A) {x1 : Int32} {σ : ST} {σ' : ST} (hf : f_X10_unwinds x1 σ = some σ') : Met l yX10_unwinds (Cond.code yX10_unwinds cX10_unwinds 3 none :: WS) (rmk 1 21) (PC [.ref (a 0), .int x1] NM eM a cy D (fun _ => True) σ) (QV NM eM a cy D A σ') 0 0 A := by
  refine met_go (own := "GuardsLookLeftModel") O (by decide +kernel) rfl (Nat.le_of_ble_eq_true rfl) ?_
  intro p e s m args below meth c ls C hP hS hl
  have hx := C.hx
  have hb := C.hb
  have hl : lv_has ls 3 [(0, .ref (a 0)), (1, .int x1)] := hl
  obtain ⟨H, hH⟩ : ∃ H, H = s.heap := ⟨_, rfl⟩
  rw [← hH] at hP
  have hS : va_S A s.heap H [] := by rw [hH]; exact va_S.rf
  suffices g : W p l e (rmk 1 21) s m args below meth c H [] 0 0 (MQ below (QV NM eM a cy D A σ') args s 0 0 A) (F0 m 0 ls []) by rw [hH] at g; exact g
  clear hH
  obtain ⟨locs, hlocs⟩ : ∃ z : List Loc, z = [] := ⟨_, rfl⟩
  rw [← hlocs] at hS ⊢
  have hL67 : ∀ (k0 : Int32 → ST → Option ST) (hk0 : (∀ (v1 : Int32) (s0 : ST) (H : Heap) (locs : List Loc) (ls : Array Slot), k0 v1 s0 = some σ' → va_P D vwCl (wG NM eM a cy s0) H → va_S A s.heap H locs → lv_has ls 3 [(0, .ref (a 0)), (1, .int v1)] → W p l e (rmk 1 21) s m args below meth c H locs 0 0 (MQ below (QV NM eM a cy D A σ') args s 0 0 A) (F0 m 0 ls []))), (∀ (v1 : Int32) (v2 : Int32) (t1 : Int32) (t2 : Int32) (s0 : ST) (H : Heap) (locs : List Loc) (ls : Array Slot), f_X10_unwinds_L67 k0 v1 v2 t1 t2 s0 = some σ' → va_P D vwCl (wG NM eM a cy s0) H → va_S A s.heap H locs → lv_has ls 3 [(0, .ref (a 0)), (1, .int v1), (2, .int v2)] → W p l e (rmk 1 21) s m args below meth c H locs 0 0 (MQ below (QV NM eM a cy D A σ') args s 0 0 A) (F0 m 67 ls [.int t2, .int t1, .ref (a 0)])) := by
    intro k0 hk0 v1 v2 t1 t2 s0 H locs ls hf hP hS hl
    refine lv_isub hx hb dX10_unwinds_67 ?_
    refine pf_X10_31 C hP hS wk_4_228 dX10_unwinds_68 hf (fun H locs s1 hf hP hS => ?_)
    refine lv_aload_n hx hb dX10_unwinds_71 rfl (lv_at hl 0 rfl) ?_
    refine lv_iload_n hx hb dX10_unwinds_72 rfl (lv_at hl 2 rfl) ?_
    obtain ⟨s3, hc, hf⟩ := jb_e hf
    refine r_cv (r_runV (As := [.int v2]) (rest := []) C hP hS (va_recv C.hK hP (q0 := 0) (ci := 10) rfl (by rw [g_at oM_10.1, oM_10.2])) (k_X10_puts (l := l) O hc) mw_X10_puts mi_X10_puts mv_X10_puts wk_4_170 ⟨Nat.le_of_ble_eq_true rfl, Nat.le_of_ble_eq_true rfl⟩ ⟨rfl, rfl⟩ ⟨Nat.zero_le _, Nat.zero_le _⟩ rfl hl.1 rfl (Nat.le_of_ble_eq_true rfl) dX10_unwinds_73) hS (fun H locs hP hS => ?_)
    refine lv_goto (tgt := 0) hx hb dX10_unwinds_76 (by decide) ?_
    exact hk0 v1 s3 H locs ls hf hP hS (lv_sub hl [0, 1] rfl)
  have hL62 : ∀ (k0 : Int32 → ST → Option ST) (hk0 : (∀ (v1 : Int32) (s0 : ST) (H : Heap) (locs : List Loc) (ls : Array Slot), k0 v1 s0 = some σ' → va_P D vwCl (wG NM eM a cy s0) H → va_S A s.heap H locs → lv_has ls 3 [(0, .ref (a 0)), (1, .int v1)] → W p l e (rmk 1 21) s m args below meth c H locs 0 0 (MQ below (QV NM eM a cy D A σ') args s 0 0 A) (F0 m 0 ls []))), (∀ (v1 : Int32) (v2 : Int32) (t1 : Int32) (s0 : ST) (H : Heap) (locs : List Loc) (ls : Array Slot), f_X10_unwinds_L62 k0 v1 v2 t1 s0 = some σ' → va_P D vwCl (wG NM eM a cy s0) H → va_S A s.heap H locs → lv_has ls 3 [(0, .ref (a 0)), (1, .int v1), (2, .int v2)] → W p l e (rmk 1 21) s m args below meth c H locs 0 0 (MQ below (QV NM eM a cy D A σ') args s 0 0 A) (F0 m 62 ls [.int t1, .ref (a 0)])) := by
    intro k0 hk0 v1 v2 t1 s0 H locs ls hf hP hS hl
    refine lv_iconst (v := (1 : Int32)) hx hb dX10_unwinds_62 (by decide) ?_
    refine lv_goto (tgt := 67) hx hb dX10_unwinds_63 (by decide) ?_
    exact hL67 k0 hk0 v1 v2 t1 (1 : Int32) s0 H locs ls hf hP hS (lv_sub hl [0, 1, 2] rfl)
  have hL0 : ∀ (n : Nat), (∀ (v1 : Int32) (s0 : ST) (H : Heap) (locs : List Loc) (ls : Array Slot), f_X10_unwinds_L0 n v1 s0 = some σ' → va_P D vwCl (wG NM eM a cy s0) H → va_S A s.heap H locs → lv_has ls 3 [(0, .ref (a 0)), (1, .int v1)] → W p l e (rmk 1 21) s m args below meth c H locs 0 0 (MQ below (QV NM eM a cy D A σ') args s 0 0 A) (F0 m 0 ls [])) := by
    intro n
    induction n with
    | zero => intro v1 s0 H locs ls hf hP hS hl; exact no_o hf
    | succ n ih =>
      intro v1 s0 H locs ls hf hP hS hl
      have hf := (ef_X10_unwinds_L0 _ _).symm.trans hf
      refine lv_aload_n hx hb dX10_unwinds_0 rfl (lv_at hl 0 rfl) ?_
      refine gf_X10_30 C hP wk_4_227 dX10_unwinds_1 ?_
      refine lv_if_le (tgt := 79) hx hb dX10_unwinds_4 (by decide) (fun hc => ?_) (fun hc => ?_)
      · have hf := jif_t hc hf
        exact ret_v C hP hS (Option.some.inj hf) dX10_unwinds_79
      · have hf := jif_f hc hf
        refine lv_aload_n hx hb dX10_unwinds_7 rfl (lv_at hl 0 rfl) ?_
        refine gf_X10_29 C hP wk_4_226 dX10_unwinds_8 ?_
        refine lv_aload_n hx hb dX10_unwinds_11 rfl (lv_at hl 0 rfl) ?_
        refine gf_X10_30 C hP wk_4_227 dX10_unwinds_12 ?_
        refine lv_iconst (v := (1 : Int32)) hx hb dX10_unwinds_15 (by decide) ?_
        refine lv_isub hx hb dX10_unwinds_16 ?_
        obtain ⟨hi1, hf⟩ := jix_e hf
        refine r_iald C hP aM_19 hi1 dX10_unwinds_17 ?_
        refine r_ci (r_runS (As := [.int (gA s0 19 (Int32.toNatClampNeg ((gA s0 0 30) - (1 : Int32))))]) (rest := []) C hP hS (k_X10_rank (l := l) O (σ := s0) rfl) mw_X10_rank ms_X10_rank wk_4_178 ⟨Nat.le_of_ble_eq_true rfl, Nat.le_of_ble_eq_true rfl⟩ ⟨rfl, rfl⟩ ⟨Nat.zero_le _, Nat.zero_le _⟩ rfl hl.1 rfl (Nat.le_of_ble_eq_true rfl) dX10_unwinds_18) hS (fun H locs hP hS => ?_)
        refine jl_topi hf (fun y2 hf => ?_)
        refine lv_iload_n hx hb dX10_unwinds_21 rfl (lv_at hl 1 rfl) ?_
        refine lv_icmp_lt (tgt := 79) hx hb dX10_unwinds_22 (by decide) (fun hc => ?_) (fun hc => ?_)
        · have hf := jif_t hc hf
          exact ret_v C hP hS (Option.some.inj hf) dX10_unwinds_79
        · have hf := jif_f hc hf
          refine lv_aload_n hx hb dX10_unwinds_25 rfl (lv_at hl 0 rfl) ?_
          refine lv_dup hx hb dX10_unwinds_26 rfl ?_
          refine gf_X10_30 C hP wk_4_227 dX10_unwinds_27 ?_
          refine lv_iconst (v := (1 : Int32)) hx hb dX10_unwinds_30 (by decide) ?_
          refine lv_isub hx hb dX10_unwinds_31 ?_
          refine pf_X10_30 C hP hS wk_4_227 dX10_unwinds_32 hf (fun H locs s4 hf hP hS => ?_)
          refine lv_aload_n hx hb dX10_unwinds_35 rfl (lv_at hl 0 rfl) ?_
          refine gf_X10_29 C hP wk_4_226 dX10_unwinds_36 ?_
          refine lv_aload_n hx hb dX10_unwinds_39 rfl (lv_at hl 0 rfl) ?_
          refine gf_X10_30 C hP wk_4_227 dX10_unwinds_40 ?_
          obtain ⟨hi5, hf⟩ := jix_e hf
          refine r_iald C hP aM_19 hi5 dX10_unwinds_43 ?_
          refine jl_topi hf (fun y6 hf => ?_)
          refine lv_istore_n (lv' := [(2, .int y6), (0, .ref (a 0)), (1, .int v1)]) hx hb dX10_unwinds_44 rfl hl (by decide) rfl (fun ls hl => ?_)
          refine lv_aload_n hx hb dX10_unwinds_45 rfl (lv_at hl 1 rfl) ?_
          refine lv_dup hx hb dX10_unwinds_46 rfl ?_
          refine gf_X10_31 C hP wk_4_228 dX10_unwinds_47 ?_
          refine lv_iload_n hx hb dX10_unwinds_50 rfl (lv_at hl 0 rfl) ?_
          refine lv_bipush (v := (13 : Int32)) hx hb dX10_unwinds_51 (by decide) ?_
          refine lv_icmp_eq (tgt := 62) hx hb dX10_unwinds_53 (by decide) (fun hc => ?_) (fun hc => ?_)
          · have hf := jif_t hc hf
            exact hL62 (f_X10_unwinds_L0 n) ih v1 y6 (gA s4 0 31) s4 H locs ls hf hP hS (lv_sub hl [1, 2, 0] rfl)
          · have hf := jif_f hc hf
            refine lv_iload_n hx hb dX10_unwinds_56 rfl (lv_at hl 0 rfl) ?_
            refine lv_bipush (v := (19 : Int32)) hx hb dX10_unwinds_57 (by decide) ?_
            refine lv_icmp_ne (tgt := 66) hx hb dX10_unwinds_59 (by decide) (fun hc => ?_) (fun hc => ?_)
            · have hf := jif_t hc hf
              refine lv_iconst (v := (0 : Int32)) hx hb dX10_unwinds_66 (by decide) ?_
              exact hL67 (f_X10_unwinds_L0 n) ih v1 y6 (gA s4 0 31) (0 : Int32) s4 H locs ls hf hP hS (lv_sub hl [1, 2, 0] rfl)
            · have hf := jif_n hc hf
              exact hL62 (f_X10_unwinds_L0 n) ih v1 y6 (gA s4 0 31) s4 H locs ls hf hP hS (lv_sub hl [1, 2, 0] rfl)
  exact hL0 FU x1 σ H locs ls hf hP hS (lv_sub hl [0, 1] rfl)
set_option maxHeartbeats 4000000 in
set_option maxRecDepth 100000 in
theorem k_X10_holds {l : Launch} {a : Nat → Nat} {cy : Nat → ClassId} {D : va_G} {A : Nat → Prop} (O : WO NM a (fun _ => True) A) {x1 : Int32} {σ : ST} {σ' : ST} (hf : f_X10_holds x1 σ = some σ') : Met l yX10_holds (Cond.code yX10_holds cX10_holds 2 none :: WS) (rmk 0 0) (PC [.ref (a 0), .int x1] NM eM a cy D (fun _ => True) σ) (QV NM eM a cy D A σ') 0 0 A := by
  refine met_go (own := "GuardsLookLeftModel") O (by decide +kernel) rfl (Nat.le_of_ble_eq_true rfl) ?_
  intro p e s m args below meth c ls C hP hS hl
  have hx := C.hx
  have hb := C.hb
  have hl : lv_has ls 2 [(0, .ref (a 0)), (1, .int x1)] := hl
  obtain ⟨H, hH⟩ : ∃ H, H = s.heap := ⟨_, rfl⟩
  rw [← hH] at hP
  have hS : va_S A s.heap H [] := by rw [hH]; exact va_S.rf
  suffices g : W p l e (rmk 0 0) s m args below meth c H [] 0 0 (MQ below (QV NM eM a cy D A σ') args s 0 0 A) (F0 m 0 ls []) by rw [hH] at g; exact g
  clear hH
  obtain ⟨locs, hlocs⟩ : ∃ z : List Loc, z = [] := ⟨_, rfl⟩
  rw [← hlocs] at hS ⊢
  refine lv_aload_n hx hb dX10_holds_0 rfl (lv_at hl 0 rfl) ?_
  refine gf_X10_29 C hP wk_4_226 dX10_holds_1 ?_
  refine lv_aload_n hx hb dX10_holds_4 rfl (lv_at hl 0 rfl) ?_
  refine gf_X10_30 C hP wk_4_227 dX10_holds_5 ?_
  refine lv_iload_n hx hb dX10_holds_8 rfl (lv_at hl 1 rfl) ?_
  obtain ⟨hi1, hf⟩ := jix_e hf
  refine r_iast C hP hS aM_19 hi1 dX10_holds_9 hf (fun H locs s2 hf hP hS => ?_)
  refine lv_aload_n hx hb dX10_holds_10 rfl (lv_at hl 0 rfl) ?_
  refine lv_dup hx hb dX10_holds_11 rfl ?_
  refine gf_X10_30 C hP wk_4_227 dX10_holds_12 ?_
  refine lv_iconst (v := (1 : Int32)) hx hb dX10_holds_15 (by decide) ?_
  refine lv_iadd hx hb dX10_holds_16 ?_
  refine pf_X10_30 C hP hS wk_4_227 dX10_holds_17 hf (fun H locs s3 hf hP hS => ?_)
  exact ret_v C hP hS (Option.some.inj hf) dX10_holds_20
set_option maxHeartbeats 4000000 in
set_option maxRecDepth 100000 in
theorem k_X10_opensOne {l : Launch} {a : Nat → Nat} {cy : Nat → ClassId} {D : va_G} {A : Nat → Prop} (O : WO NM a (fun _ => True) A) {x1 : Int32} {r : Int32} {σ : ST} {σ' : ST} (hf : f_X10_opensOne x1 σ = some (r, σ')) : Met l yX10_opensOne (Cond.code yX10_opensOne cX10_opensOne 2 (some .boolean) :: WS) (rmk 1 21) (PC [.ref (a 0), .int x1] NM eM a cy D (fun _ => True) σ) (QZ NM eM a cy D A r σ') 0 0 A := by
  refine met_go (own := "GuardsLookLeftModel") O (by decide +kernel) rfl (Nat.le_of_ble_eq_true rfl) ?_
  intro p e s m args below meth c ls C hP hS hl
  have hx := C.hx
  have hb := C.hb
  have hl : lv_has ls 2 [(0, .ref (a 0)), (1, .int x1)] := hl
  obtain ⟨H, hH⟩ : ∃ H, H = s.heap := ⟨_, rfl⟩
  rw [← hH] at hP
  have hS : va_S A s.heap H [] := by rw [hH]; exact va_S.rf
  suffices g : W p l e (rmk 1 21) s m args below meth c H [] 0 0 (MQ below (QZ NM eM a cy D A r σ') args s 0 0 A) (F0 m 0 ls []) by rw [hH] at g; exact g
  clear hH
  obtain ⟨locs, hlocs⟩ : ∃ z : List Loc, z = [] := ⟨_, rfl⟩
  rw [← hlocs] at hS ⊢
  refine lv_aload_n hx hb dX10_opensOne_0 rfl (lv_at hl 0 rfl) ?_
  refine gf_X10_31 C hP wk_4_228 dX10_opensOne_1 ?_
  refine lv_iconst (v := (5 : Int32)) hx hb dX10_opensOne_4 (by decide) ?_
  refine lv_icmp_ne (tgt := 10) hx hb dX10_opensOne_5 (by decide) (fun hc => ?_) (fun hc => ?_)
  · have hf := jif_t hc hf
    refine lv_aload_n hx hb dX10_opensOne_10 rfl (lv_at hl 0 rfl) ?_
    refine lv_dup hx hb dX10_opensOne_11 rfl ?_
    refine gf_X10_31 C hP wk_4_228 dX10_opensOne_12 ?_
    refine lv_iconst (v := (1 : Int32)) hx hb dX10_opensOne_15 (by decide) ?_
    refine lv_iadd hx hb dX10_opensOne_16 ?_
    refine pf_X10_31 C hP hS wk_4_228 dX10_opensOne_17 hf (fun H locs s1 hf hP hS => ?_)
    refine lv_aload_n hx hb dX10_opensOne_20 rfl (lv_at hl 0 rfl) ?_
    refine lv_iload_n hx hb dX10_opensOne_21 rfl (lv_at hl 1 rfl) ?_
    obtain ⟨s3, hc, hf⟩ := jb_e hf
    refine r_cv (r_runV (As := [.int x1]) (rest := []) C hP hS (va_recv C.hK hP (q0 := 0) (ci := 10) rfl (by rw [g_at oM_10.1, oM_10.2])) (k_X10_holds (l := l) O hc) mw_X10_holds mi_X10_holds mv_X10_holds wk_4_185 ⟨Nat.le_of_ble_eq_true rfl, Nat.le_of_ble_eq_true rfl⟩ ⟨rfl, rfl⟩ ⟨Nat.zero_le _, Nat.zero_le _⟩ rfl hl.1 rfl (Nat.le_of_ble_eq_true rfl) dX10_opensOne_22) hS (fun H locs hP hS => ?_)
    refine lv_iconst (v := (1 : Int32)) hx hb dX10_opensOne_25 (by decide) ?_
    exact ret_z C hP hS bz_1 (Prod.mk.inj (Option.some.inj hf)).1 (Prod.mk.inj (Option.some.inj hf)).2 dX10_opensOne_26
  · have hf := jif_n hc hf
    refine lv_iconst (v := (0 : Int32)) hx hb dX10_opensOne_8 (by decide) ?_
    exact ret_z C hP hS bz_0 (Prod.mk.inj (Option.some.inj hf)).1 (Prod.mk.inj (Option.some.inj hf)).2 dX10_opensOne_9
set_option maxHeartbeats 4000000 in
set_option maxRecDepth 100000 in
theorem k_X10_between {l : Launch} {a : Nat → Nat} {cy : Nat → ClassId} {D : va_G} {A : Nat → Prop} (O : WO NM a (fun _ => True) A) {x1 : Int32} {r : Int32} {σ : ST} {σ' : ST} (hf : f_X10_between x1 σ = some (r, σ')) : Met l yX10_between (Cond.code yX10_between cX10_between 2 (some .boolean) :: WS) (rmk 2 43) (PC [.ref (a 0), .int x1] NM eM a cy D (fun _ => True) σ) (QZ NM eM a cy D A r σ') 0 0 A := by
  refine met_go (own := "GuardsLookLeftModel") O (by decide +kernel) rfl (Nat.le_of_ble_eq_true rfl) ?_
  intro p e s m args below meth c ls C hP hS hl
  have hx := C.hx
  have hb := C.hb
  have hl : lv_has ls 2 [(0, .ref (a 0)), (1, .int x1)] := hl
  obtain ⟨H, hH⟩ : ∃ H, H = s.heap := ⟨_, rfl⟩
  rw [← hH] at hP
  have hS : va_S A s.heap H [] := by rw [hH]; exact va_S.rf
  suffices g : W p l e (rmk 2 43) s m args below meth c H [] 0 0 (MQ below (QZ NM eM a cy D A r σ') args s 0 0 A) (F0 m 0 ls []) by rw [hH] at g; exact g
  clear hH
  obtain ⟨locs, hlocs⟩ : ∃ z : List Loc, z = [] := ⟨_, rfl⟩
  rw [← hlocs] at hS ⊢
  have hL55 : (∀ (v1 : Int32) (s0 : ST) (H : Heap) (locs : List Loc) (ls : Array Slot), f_X10_between_L55 v1 s0 = some (r, σ') → va_P D vwCl (wG NM eM a cy s0) H → va_S A s.heap H locs → lv_has ls 2 [(0, .ref (a 0)), (1, .int v1)] → W p l e (rmk 2 43) s m args below meth c H locs 0 0 (MQ below (QZ NM eM a cy D A r σ') args s 0 0 A) (F0 m 55 ls [])) := by
    intro v1 s0 H locs ls hf hP hS hl
    refine lv_aload_n hx hb dX10_between_55 rfl (lv_at hl 0 rfl) ?_
    refine lv_iload_n hx hb dX10_between_56 rfl (lv_at hl 1 rfl) ?_
    obtain ⟨s2, hc, hf⟩ := jb_e hf
    refine r_cv (r_runV (As := [.int v1]) (rest := []) C hP hS (va_recv C.hK hP (q0 := 0) (ci := 10) rfl (by rw [g_at oM_10.1, oM_10.2])) (k_X10_holds (l := l) O hc) mw_X10_holds mi_X10_holds mv_X10_holds wk_4_185 ⟨Nat.le_of_ble_eq_true rfl, Nat.le_of_ble_eq_true rfl⟩ ⟨rfl, rfl⟩ ⟨Nat.zero_le _, Nat.zero_le _⟩ rfl hl.1 rfl (Nat.le_of_ble_eq_true rfl) dX10_between_57) hS (fun H locs hP hS => ?_)
    refine lv_iconst (v := (1 : Int32)) hx hb dX10_between_60 (by decide) ?_
    exact ret_z C hP hS bz_1 (Prod.mk.inj (Option.some.inj hf)).1 (Prod.mk.inj (Option.some.inj hf)).2 dX10_between_61
  have hL17 : (∀ (v1 : Int32) (t1 : Int32) (s0 : ST) (H : Heap) (locs : List Loc) (ls : Array Slot), f_X10_between_L17 v1 t1 s0 = some (r, σ') → va_P D vwCl (wG NM eM a cy s0) H → va_S A s.heap H locs → lv_has ls 2 [(0, .ref (a 0)), (1, .int v1)] → W p l e (rmk 2 43) s m args below meth c H locs 0 0 (MQ below (QZ NM eM a cy D A r σ') args s 0 0 A) (F0 m 17 ls [.int t1, .ref (a 0)])) := by
    intro v1 t1 s0 H locs ls hf hP hS hl
    obtain ⟨s2, hc, hf⟩ := jb_e hf
    refine r_cv (r_runV (As := [.int t1]) (rest := []) C hP hS (va_recv C.hK hP (q0 := 0) (ci := 10) rfl (by rw [g_at oM_10.1, oM_10.2])) (k_X10_unwinds (l := l) O hc) mw_X10_unwinds mi_X10_unwinds mv_X10_unwinds wk_4_174 ⟨Nat.le_of_ble_eq_true rfl, Nat.le_of_ble_eq_true rfl⟩ ⟨rfl, rfl⟩ ⟨Nat.zero_le _, Nat.zero_le _⟩ rfl hl.1 rfl (Nat.le_of_ble_eq_true rfl) dX10_between_17) hS (fun H locs hP hS => ?_)
    refine lv_iload_n hx hb dX10_between_20 rfl (lv_at hl 1 rfl) ?_
    refine r_ci (r_runS (As := [.int v1]) (rest := []) C hP hS (k_X10_rank (l := l) O (σ := s2) rfl) mw_X10_rank ms_X10_rank wk_4_178 ⟨Nat.le_of_ble_eq_true rfl, Nat.le_of_ble_eq_true rfl⟩ ⟨rfl, rfl⟩ ⟨Nat.zero_le _, Nat.zero_le _⟩ rfl hl.1 rfl (Nat.le_of_ble_eq_true rfl) dX10_between_21) hS (fun H locs hP hS => ?_)
    refine jl_topi hf (fun y3 hf => ?_)
    refine lv_iconst (v := (4 : Int32)) hx hb dX10_between_24 (by decide) ?_
    refine lv_icmp_ne (tgt := 55) hx hb dX10_between_25 (by decide) (fun hc => ?_) (fun hc => ?_)
    · have hf := jif_t hc hf
      exact hL55 v1 s2 H locs ls hf hP hS (lv_sub hl [0, 1] rfl)
    · have hf := jif_n hc hf
      refine lv_aload_n hx hb dX10_between_28 rfl (lv_at hl 0 rfl) ?_
      refine gf_X10_30 C hP wk_4_227 dX10_between_29 ?_
      refine lv_if_le (tgt := 55) hx hb dX10_between_32 (by decide) (fun hc => ?_) (fun hc => ?_)
      · have hf := jif_t hc hf
        exact hL55 v1 s2 H locs ls hf hP hS (lv_sub hl [0, 1] rfl)
      · have hf := jif_f hc hf
        refine lv_aload_n hx hb dX10_between_35 rfl (lv_at hl 0 rfl) ?_
        refine gf_X10_29 C hP wk_4_226 dX10_between_36 ?_
        refine lv_aload_n hx hb dX10_between_39 rfl (lv_at hl 0 rfl) ?_
        refine gf_X10_30 C hP wk_4_227 dX10_between_40 ?_
        refine lv_iconst (v := (1 : Int32)) hx hb dX10_between_43 (by decide) ?_
        refine lv_isub hx hb dX10_between_44 ?_
        obtain ⟨hi5, hf⟩ := jix_e hf
        refine r_iald C hP aM_19 hi5 dX10_between_45 ?_
        refine r_ci (r_runS (As := [.int (gA s2 19 (Int32.toNatClampNeg ((gA s2 0 30) - (1 : Int32))))]) (rest := []) C hP hS (k_X10_rank (l := l) O (σ := s2) rfl) mw_X10_rank ms_X10_rank wk_4_178 ⟨Nat.le_of_ble_eq_true rfl, Nat.le_of_ble_eq_true rfl⟩ ⟨rfl, rfl⟩ ⟨Nat.zero_le _, Nat.zero_le _⟩ rfl hl.1 rfl (Nat.le_of_ble_eq_true rfl) dX10_between_46) hS (fun H locs hP hS => ?_)
        refine jl_topi hf (fun y6 hf => ?_)
        refine lv_iconst (v := (4 : Int32)) hx hb dX10_between_49 (by decide) ?_
        refine lv_icmp_ne (tgt := 55) hx hb dX10_between_50 (by decide) (fun hc => ?_) (fun hc => ?_)
        · have hf := jif_t hc hf
          exact hL55 v1 s2 H locs ls hf hP hS (lv_sub hl [0, 1] rfl)
        · have hf := jif_n hc hf
          refine lv_iconst (v := (0 : Int32)) hx hb dX10_between_53 (by decide) ?_
          exact ret_z C hP hS bz_0 (Prod.mk.inj (Option.some.inj hf)).1 (Prod.mk.inj (Option.some.inj hf)).2 dX10_between_54
  refine lv_aload_n hx hb dX10_between_0 rfl (lv_at hl 0 rfl) ?_
  refine lv_iload_n hx hb dX10_between_1 rfl (lv_at hl 1 rfl) ?_
  refine r_ci (r_runS (As := [.int x1]) (rest := [.ref (a 0)]) C hP hS (k_X10_rank (l := l) O (σ := σ) rfl) mw_X10_rank ms_X10_rank wk_4_178 ⟨Nat.le_of_ble_eq_true rfl, Nat.le_of_ble_eq_true rfl⟩ ⟨rfl, rfl⟩ ⟨Nat.zero_le _, Nat.zero_le _⟩ rfl hl.1 rfl (Nat.le_of_ble_eq_true rfl) dX10_between_2) hS (fun H locs hP hS => ?_)
  refine jl_topi hf (fun y1 hf => ?_)
  refine lv_iconst (v := (4 : Int32)) hx hb dX10_between_5 (by decide) ?_
  refine lv_icmp_ne (tgt := 13) hx hb dX10_between_6 (by decide) (fun hc => ?_) (fun hc => ?_)
  · have hf := jif_t hc hf
    refine lv_iload_n hx hb dX10_between_13 rfl (lv_at hl 1 rfl) ?_
    refine r_ci (r_runS (As := [.int x1]) (rest := [.ref (a 0)]) C hP hS (k_X10_rank (l := l) O (σ := σ) rfl) mw_X10_rank ms_X10_rank wk_4_178 ⟨Nat.le_of_ble_eq_true rfl, Nat.le_of_ble_eq_true rfl⟩ ⟨rfl, rfl⟩ ⟨Nat.zero_le _, Nat.zero_le _⟩ rfl hl.1 rfl (Nat.le_of_ble_eq_true rfl) dX10_between_14) hS (fun H locs hP hS => ?_)
    refine jl_topi hf (fun y3 hf => ?_)
    exact hL17 x1 y3 σ H locs ls hf hP hS (lv_sub hl [0, 1] rfl)
  · have hf := jif_n hc hf
    refine lv_iconst (v := (5 : Int32)) hx hb dX10_between_9 (by decide) ?_
    refine lv_goto (tgt := 17) hx hb dX10_between_10 (by decide) ?_
    exact hL17 x1 (5 : Int32) σ H locs ls hf hP hS (lv_sub hl [0, 1] rfl)
set_option maxHeartbeats 4000000 in
set_option maxRecDepth 100000 in
theorem k_X10_signOf {l : Launch} {a : Nat → Nat} {cy : Nat → ClassId} {D : va_G} {A : Nat → Prop} (O : WO NM a (fun _ => True) A) {r : Int32} {σ : ST} (hf : f_X10_signOf σ = r) : Met l yX10_signOf (Cond.code yX10_signOf cX10_signOf 1 (some .int) :: WS) (rmk 0 0) (PC [.ref (a 0)] NM eM a cy D (fun _ => True) σ) (QI NM eM a cy D A r σ) 0 0 A := by
  refine met_go (own := "GuardsLookLeftModel") O (by decide +kernel) rfl (Nat.le_of_ble_eq_true rfl) ?_
  intro p e s m args below meth c ls C hP hS hl
  have hx := C.hx
  have hb := C.hb
  have hl : lv_has ls 1 [(0, .ref (a 0))] := hl
  obtain ⟨H, hH⟩ : ∃ H, H = s.heap := ⟨_, rfl⟩
  rw [← hH] at hP
  have hS : va_S A s.heap H [] := by rw [hH]; exact va_S.rf
  suffices g : W p l e (rmk 0 0) s m args below meth c H [] 0 0 (MQ below (QI NM eM a cy D A r σ) args s 0 0 A) (F0 m 0 ls []) by rw [hH] at g; exact g
  clear hH
  obtain ⟨locs, hlocs⟩ : ∃ z : List Loc, z = [] := ⟨_, rfl⟩
  rw [← hlocs] at hS ⊢
  refine lv_aload_n hx hb dX10_signOf_0 rfl (lv_at hl 0 rfl) ?_
  refine gf_X10_26 C hP wk_4_223 dX10_signOf_1 ?_
  refine lv_iconst (v := (4 : Int32)) hx hb dX10_signOf_4 (by decide) ?_
  refine lv_icmp_ne (tgt := 13) hx hb dX10_signOf_5 (by decide) (fun hc => ?_) (fun hc => ?_)
  · have hf := jif_t hc hf
    refine lv_aload_n hx hb dX10_signOf_13 rfl (lv_at hl 0 rfl) ?_
    refine gf_X10_26 C hP wk_4_223 dX10_signOf_14 ?_
    refine lv_iconst (v := (5 : Int32)) hx hb dX10_signOf_17 (by decide) ?_
    refine lv_icmp_ne (tgt := 26) hx hb dX10_signOf_18 (by decide) (fun hc => ?_) (fun hc => ?_)
    · have hf := jif_t hc hf
      refine lv_aload_n hx hb dX10_signOf_26 rfl (lv_at hl 0 rfl) ?_
      refine gf_X10_26 C hP wk_4_223 dX10_signOf_27 ?_
      refine lv_bipush (v := (60 : Int32)) hx hb dX10_signOf_30 (by decide) ?_
      refine lv_icmp_ne (tgt := 40) hx hb dX10_signOf_32 (by decide) (fun hc => ?_) (fun hc => ?_)
      · have hf := jif_t hc hf
        refine lv_aload_n hx hb dX10_signOf_40 rfl (lv_at hl 0 rfl) ?_
        refine gf_X10_26 C hP wk_4_223 dX10_signOf_41 ?_
        refine lv_bipush (v := (61 : Int32)) hx hb dX10_signOf_44 (by decide) ?_
        refine lv_icmp_ne (tgt := 54) hx hb dX10_signOf_46 (by decide) (fun hc => ?_) (fun hc => ?_)
        · have hf := jif_t hc hf
          refine lv_aload_n hx hb dX10_signOf_54 rfl (lv_at hl 0 rfl) ?_
          refine gf_X10_26 C hP wk_4_223 dX10_signOf_55 ?_
          refine lv_bipush (v := (43 : Int32)) hx hb dX10_signOf_58 (by decide) ?_
          refine lv_icmp_ne (tgt := 68) hx hb dX10_signOf_60 (by decide) (fun hc => ?_) (fun hc => ?_)
          · have hf := jif_t hc hf
            refine lv_aload_n hx hb dX10_signOf_68 rfl (lv_at hl 0 rfl) ?_
            refine gf_X10_26 C hP wk_4_223 dX10_signOf_69 ?_
            refine lv_bipush (v := (45 : Int32)) hx hb dX10_signOf_72 (by decide) ?_
            refine lv_icmp_ne (tgt := 82) hx hb dX10_signOf_74 (by decide) (fun hc => ?_) (fun hc => ?_)
            · have hf := jif_t hc hf
              refine lv_aload_n hx hb dX10_signOf_82 rfl (lv_at hl 0 rfl) ?_
              refine gf_X10_26 C hP wk_4_223 dX10_signOf_83 ?_
              refine lv_bipush (v := (42 : Int32)) hx hb dX10_signOf_86 (by decide) ?_
              refine lv_icmp_ne (tgt := 96) hx hb dX10_signOf_88 (by decide) (fun hc => ?_) (fun hc => ?_)
              · have hf := jif_t hc hf
                refine lv_iconst (v := (-1 : Int32)) hx hb dX10_signOf_96 (by decide) ?_
                exact ret_i C hP hS hf rfl dX10_signOf_97
              · have hf := jif_n hc hf
                refine lv_bipush (v := (18 : Int32)) hx hb dX10_signOf_91 (by decide) ?_
                refine lv_goto (tgt := 97) hx hb dX10_signOf_93 (by decide) ?_
                exact ret_i C hP hS hf rfl dX10_signOf_97
            · have hf := jif_n hc hf
              refine lv_bipush (v := (17 : Int32)) hx hb dX10_signOf_77 (by decide) ?_
              refine lv_goto (tgt := 97) hx hb dX10_signOf_79 (by decide) ?_
              exact ret_i C hP hS hf rfl dX10_signOf_97
          · have hf := jif_n hc hf
            refine lv_bipush (v := (16 : Int32)) hx hb dX10_signOf_63 (by decide) ?_
            refine lv_goto (tgt := 97) hx hb dX10_signOf_65 (by decide) ?_
            exact ret_i C hP hS hf rfl dX10_signOf_97
        · have hf := jif_n hc hf
          refine lv_bipush (v := (15 : Int32)) hx hb dX10_signOf_49 (by decide) ?_
          refine lv_goto (tgt := 97) hx hb dX10_signOf_51 (by decide) ?_
          exact ret_i C hP hS hf rfl dX10_signOf_97
      · have hf := jif_n hc hf
        refine lv_bipush (v := (14 : Int32)) hx hb dX10_signOf_35 (by decide) ?_
        refine lv_goto (tgt := 97) hx hb dX10_signOf_37 (by decide) ?_
        exact ret_i C hP hS hf rfl dX10_signOf_97
    · have hf := jif_n hc hf
      refine lv_bipush (v := (12 : Int32)) hx hb dX10_signOf_21 (by decide) ?_
      refine lv_goto (tgt := 97) hx hb dX10_signOf_23 (by decide) ?_
      exact ret_i C hP hS hf rfl dX10_signOf_97
  · have hf := jif_n hc hf
    refine lv_bipush (v := (11 : Int32)) hx hb dX10_signOf_8 (by decide) ?_
    refine lv_goto (tgt := 97) hx hb dX10_signOf_10 (by decide) ?_
    exact ret_i C hP hS hf rfl dX10_signOf_97
set_option maxHeartbeats 4000000 in
set_option maxRecDepth 100000 in
theorem k_X10_eRead {l : Launch} {a : Nat → Nat} {cy : Nat → ClassId} {D : va_G} {A : Nat → Prop} (O : WO NM a (fun _ => True) A) {r : Int32} {σ : ST} {σ' : ST} (hf : f_X10_eRead σ = some (r, σ')) : Met l yX10_eRead (Cond.code yX10_eRead cX10_eRead 4 (some .boolean) :: WS) (rmk 3 64) (PC [.ref (a 0)] NM eM a cy D (fun _ => True) σ) (QZ NM eM a cy D A r σ') 0 0 A := by
  refine met_go (own := "GuardsLookLeftModel") O (by decide +kernel) rfl (Nat.le_of_ble_eq_true rfl) ?_
  intro p e s m args below meth c ls C hP hS hl
  have hx := C.hx
  have hb := C.hb
  have hl : lv_has ls 4 [(0, .ref (a 0))] := hl
  obtain ⟨H, hH⟩ : ∃ H, H = s.heap := ⟨_, rfl⟩
  rw [← hH] at hP
  have hS : va_S A s.heap H [] := by rw [hH]; exact va_S.rf
  suffices g : W p l e (rmk 3 64) s m args below meth c H [] 0 0 (MQ below (QZ NM eM a cy D A r σ') args s 0 0 A) (F0 m 0 ls []) by rw [hH] at g; exact g
  clear hH
  obtain ⟨locs, hlocs⟩ : ∃ z : List Loc, z = [] := ⟨_, rfl⟩
  rw [← hlocs] at hS ⊢
  have hL262 : ∀ (k14 : Int32 → Int32 → ST → Option (Int32 × ST)) (hk14 : (∀ (v1 : Int32) (v2 : Int32) (s0 : ST) (H : Heap) (locs : List Loc) (ls : Array Slot), k14 v1 v2 s0 = some (r, σ') → va_P D vwCl (wG NM eM a cy s0) H → va_S A s.heap H locs → lv_has ls 4 [(0, .ref (a 0)), (1, .int v1), (2, .int v2)] → W p l e (rmk 3 64) s m args below meth c H locs 0 0 (MQ below (QZ NM eM a cy D A r σ') args s 0 0 A) (F0 m 14 ls []))), (∀ (v1 : Int32) (t0 : Int32) (s0 : ST) (H : Heap) (locs : List Loc) (ls : Array Slot), f_X10_eRead_L262 k14 v1 t0 s0 = some (r, σ') → va_P D vwCl (wG NM eM a cy s0) H → va_S A s.heap H locs → lv_has ls 4 [(0, .ref (a 0)), (1, .int v1)] → W p l e (rmk 3 64) s m args below meth c H locs 0 0 (MQ below (QZ NM eM a cy D A r σ') args s 0 0 A) (F0 m 262 ls [.int t0])) := by
    intro k14 hk14 v1 t0 s0 H locs ls hf hP hS hl
    refine lv_istore_n (lv' := [(2, .int t0), (0, .ref (a 0)), (1, .int v1)]) hx hb dX10_eRead_262 rfl hl (by decide) rfl (fun ls hl => ?_)
    refine lv_goto (tgt := 14) hx hb dX10_eRead_263 (by decide) ?_
    exact hk14 v1 t0 s0 H locs ls hf hP hS (lv_sub hl [1, 2, 0] rfl)
  have hL61 : ∀ (k14 : Int32 → Int32 → ST → Option (Int32 × ST)) (hk14 : (∀ (v1 : Int32) (v2 : Int32) (s0 : ST) (H : Heap) (locs : List Loc) (ls : Array Slot), k14 v1 v2 s0 = some (r, σ') → va_P D vwCl (wG NM eM a cy s0) H → va_S A s.heap H locs → lv_has ls 4 [(0, .ref (a 0)), (1, .int v1), (2, .int v2)] → W p l e (rmk 3 64) s m args below meth c H locs 0 0 (MQ below (QZ NM eM a cy D A r σ') args s 0 0 A) (F0 m 14 ls []))), (∀ (v2 : Int32) (t1 : Int32) (s0 : ST) (H : Heap) (locs : List Loc) (ls : Array Slot), f_X10_eRead_L61 k14 v2 t1 s0 = some (r, σ') → va_P D vwCl (wG NM eM a cy s0) H → va_S A s.heap H locs → lv_has ls 4 [(0, .ref (a 0)), (2, .int v2)] → W p l e (rmk 3 64) s m args below meth c H locs 0 0 (MQ below (QZ NM eM a cy D A r σ') args s 0 0 A) (F0 m 61 ls [.int t1, .ref (a 0)])) := by
    intro k14 hk14 v2 t1 s0 H locs ls hf hP hS hl
    obtain ⟨s2, hc, hf⟩ := jb_e hf
    refine r_cv (r_runV (As := [.int t1]) (rest := []) C hP hS (va_recv C.hK hP (q0 := 0) (ci := 10) rfl (by rw [g_at oM_10.1, oM_10.2])) (k_X10_puts (l := l) O hc) mw_X10_puts mi_X10_puts mv_X10_puts wk_4_170 ⟨Nat.le_of_ble_eq_true rfl, Nat.le_of_ble_eq_true rfl⟩ ⟨rfl, rfl⟩ ⟨Nat.zero_le _, Nat.zero_le _⟩ rfl hl.1 rfl (Nat.le_of_ble_eq_true rfl) dX10_eRead_61) hS (fun H locs hP hS => ?_)
    refine lv_aload_n hx hb dX10_eRead_64 rfl (lv_at hl 0 rfl) ?_
    refine lv_bipush (v := (7 : Int32)) hx hb dX10_eRead_65 (by decide) ?_
    obtain ⟨s4, hc, hf⟩ := jb_e hf
    refine r_cv (r_runV (As := [.int (7 : Int32)]) (rest := []) C hP hS (va_recv C.hK hP (q0 := 0) (ci := 10) rfl (by rw [g_at oM_10.1, oM_10.2])) (k_X10_unwinds (l := l) O hc) mw_X10_unwinds mi_X10_unwinds mv_X10_unwinds wk_4_174 ⟨Nat.le_of_ble_eq_true rfl, Nat.le_of_ble_eq_true rfl⟩ ⟨rfl, rfl⟩ ⟨Nat.zero_le _, Nat.zero_le _⟩ rfl hl.1 rfl (Nat.le_of_ble_eq_true rfl) dX10_eRead_67) hS (fun H locs hP hS => ?_)
    refine lv_iconst (v := (0 : Int32)) hx hb dX10_eRead_70 (by decide) ?_
    refine lv_istore_n (lv' := [(1, .int (0 : Int32)), (0, .ref (a 0)), (2, .int v2)]) hx hb dX10_eRead_71 rfl hl (by decide) rfl (fun ls hl => ?_)
    refine lv_goto (tgt := 14) hx hb dX10_eRead_72 (by decide) ?_
    exact hk14 (0 : Int32) v2 s4 H locs ls hf hP hS (lv_sub hl [1, 0, 2] rfl)
  have hL38 : ∀ (k14 : Int32 → Int32 → ST → Option (Int32 × ST)) (hk14 : (∀ (v1 : Int32) (v2 : Int32) (s0 : ST) (H : Heap) (locs : List Loc) (ls : Array Slot), k14 v1 v2 s0 = some (r, σ') → va_P D vwCl (wG NM eM a cy s0) H → va_S A s.heap H locs → lv_has ls 4 [(0, .ref (a 0)), (1, .int v1), (2, .int v2)] → W p l e (rmk 3 64) s m args below meth c H locs 0 0 (MQ below (QZ NM eM a cy D A r σ') args s 0 0 A) (F0 m 14 ls []))), (∀ (v2 : Int32) (s0 : ST) (H : Heap) (locs : List Loc) (ls : Array Slot), f_X10_eRead_L38 k14 v2 s0 = some (r, σ') → va_P D vwCl (wG NM eM a cy s0) H → va_S A s.heap H locs → lv_has ls 4 [(0, .ref (a 0)), (2, .int v2)] → W p l e (rmk 3 64) s m args below meth c H locs 0 0 (MQ below (QZ NM eM a cy D A r σ') args s 0 0 A) (F0 m 38 ls [])) := by
    intro k14 hk14 v2 s0 H locs ls hf hP hS hl
    refine lv_aload_n hx hb dX10_eRead_38 rfl (lv_at hl 0 rfl) ?_
    refine lv_aload_n hx hb dX10_eRead_39 rfl (lv_at hl 0 rfl) ?_
    refine gf_X10_26 C hP wk_4_223 dX10_eRead_40 ?_
    refine lv_iconst (v := (1 : Int32)) hx hb dX10_eRead_43 (by decide) ?_
    refine lv_icmp_ne (tgt := 57) hx hb dX10_eRead_44 (by decide) (fun hc => ?_) (fun hc => ?_)
    · have hf := jif_t hc hf
      refine lv_aload_n hx hb dX10_eRead_57 rfl (lv_at hl 0 rfl) ?_
      refine gf_X10_27 C hP wk_4_224 dX10_eRead_58 ?_
      exact hL61 k14 hk14 v2 (gA s0 0 27) s0 H locs ls hf hP hS (lv_sub hl [0, 1] rfl)
    · have hf := jif_n hc hf
      refine lv_ldc hx hb C.hown (C.ts _ wk_4_169) dX10_eRead_47 ?_
      refine lv_aload_n hx hb dX10_eRead_49 rfl (lv_at hl 0 rfl) ?_
      refine gf_X10_27 C hP wk_4_224 dX10_eRead_50 ?_
      refine lv_iadd hx hb dX10_eRead_53 ?_
      refine lv_goto (tgt := 61) hx hb dX10_eRead_54 (by decide) ?_
      exact hL61 k14 hk14 v2 ((100000 : Int32) + (gA s0 0 27)) s0 H locs ls hf hP hS (lv_sub hl [0, 1] rfl)
  have hL99 : ∀ (k14 : Int32 → Int32 → ST → Option (Int32 × ST)) (hk14 : (∀ (v1 : Int32) (v2 : Int32) (s0 : ST) (H : Heap) (locs : List Loc) (ls : Array Slot), k14 v1 v2 s0 = some (r, σ') → va_P D vwCl (wG NM eM a cy s0) H → va_S A s.heap H locs → lv_has ls 4 [(0, .ref (a 0)), (1, .int v1), (2, .int v2)] → W p l e (rmk 3 64) s m args below meth c H locs 0 0 (MQ below (QZ NM eM a cy D A r σ') args s 0 0 A) (F0 m 14 ls []))), (∀ (v1 : Int32) (s0 : ST) (H : Heap) (locs : List Loc) (ls : Array Slot), f_X10_eRead_L99 k14 v1 s0 = some (r, σ') → va_P D vwCl (wG NM eM a cy s0) H → va_S A s.heap H locs → lv_has ls 4 [(0, .ref (a 0)), (1, .int v1)] → W p l e (rmk 3 64) s m args below meth c H locs 0 0 (MQ below (QZ NM eM a cy D A r σ') args s 0 0 A) (F0 m 99 ls [])) := by
    intro k14 hk14 v1 s0 H locs ls hf hP hS hl
    refine lv_aload_n hx hb dX10_eRead_99 rfl (lv_at hl 0 rfl) ?_
    refine gf_X10_26 C hP wk_4_223 dX10_eRead_100 ?_
    refine lv_bipush (v := (45 : Int32)) hx hb dX10_eRead_103 (by decide) ?_
    refine lv_icmp_ne (tgt := 124) hx hb dX10_eRead_105 (by decide) (fun hc => ?_) (fun hc => ?_)
    · have hf := jif_t hc hf
      refine lv_aload_n hx hb dX10_eRead_124 rfl (lv_at hl 0 rfl) ?_
      refine gf_X10_26 C hP wk_4_223 dX10_eRead_125 ?_
      refine lv_bipush (v := (40 : Int32)) hx hb dX10_eRead_128 (by decide) ?_
      refine lv_icmp_ne (tgt := 148) hx hb dX10_eRead_130 (by decide) (fun hc => ?_) (fun hc => ?_)
      · have hf := jif_t hc hf
        refine lv_iconst (v := (0 : Int32)) hx hb dX10_eRead_148 (by decide) ?_
        exact ret_z C hP hS bz_0 (Prod.mk.inj (Option.some.inj hf)).1 (Prod.mk.inj (Option.some.inj hf)).2 dX10_eRead_149
      · have hf := jif_n hc hf
        refine lv_aload_n hx hb dX10_eRead_133 rfl (lv_at hl 0 rfl) ?_
        refine lv_iconst (v := (0 : Int32)) hx hb dX10_eRead_134 (by decide) ?_
        obtain ⟨y1, s2, hc, hf⟩ := jbp_e hf
        refine r_cz (r_runV (As := [.int (0 : Int32)]) (rest := []) C hP hS (va_recv C.hK hP (q0 := 0) (ci := 10) rfl (by rw [g_at oM_10.1, oM_10.2])) (k_X10_opensOne (l := l) O hc) mw_X10_opensOne mi_X10_opensOne mv_X10_opensOne wk_4_181 ⟨Nat.le_of_ble_eq_true rfl, Nat.le_of_ble_eq_true rfl⟩ ⟨rfl, rfl⟩ ⟨Nat.zero_le _, Nat.zero_le _⟩ rfl hl.1 rfl (Nat.le_of_ble_eq_true rfl) dX10_eRead_135) hS (fun H locs hzy1 hP hS => ?_)
        refine lv_if_ne (tgt := 143) hx hb dX10_eRead_138 (by decide) (fun hc => ?_) (fun hc => ?_)
        · have hf := jif_t hc hf
          refine lv_iconst (v := (1 : Int32)) hx hb dX10_eRead_143 (by decide) ?_
          refine lv_istore_n (lv' := [(2, .int (1 : Int32)), (0, .ref (a 0)), (1, .int v1)]) hx hb dX10_eRead_144 rfl hl (by decide) rfl (fun ls hl => ?_)
          refine lv_goto (tgt := 14) hx hb dX10_eRead_145 (by decide) ?_
          exact hk14 v1 (1 : Int32) s2 H locs ls hf hP hS (lv_sub hl [1, 2, 0] rfl)
        · have hf := jif_n hc hf
          refine lv_iconst (v := (0 : Int32)) hx hb dX10_eRead_141 (by decide) ?_
          exact ret_z C hP hS bz_0 (Prod.mk.inj (Option.some.inj hf)).1 (Prod.mk.inj (Option.some.inj hf)).2 dX10_eRead_142
    · have hf := jif_n hc hf
      refine lv_aload_n hx hb dX10_eRead_108 rfl (lv_at hl 0 rfl) ?_
      refine lv_bipush (v := (19 : Int32)) hx hb dX10_eRead_109 (by decide) ?_
      obtain ⟨y3, s4, hc, hf⟩ := jbp_e hf
      refine r_cz (r_runV (As := [.int (19 : Int32)]) (rest := []) C hP hS (va_recv C.hK hP (q0 := 0) (ci := 10) rfl (by rw [g_at oM_10.1, oM_10.2])) (k_X10_opensOne (l := l) O hc) mw_X10_opensOne mi_X10_opensOne mv_X10_opensOne wk_4_181 ⟨Nat.le_of_ble_eq_true rfl, Nat.le_of_ble_eq_true rfl⟩ ⟨rfl, rfl⟩ ⟨Nat.zero_le _, Nat.zero_le _⟩ rfl hl.1 rfl (Nat.le_of_ble_eq_true rfl) dX10_eRead_111) hS (fun H locs hzy3 hP hS => ?_)
      refine lv_if_ne (tgt := 119) hx hb dX10_eRead_114 (by decide) (fun hc => ?_) (fun hc => ?_)
      · have hf := jif_t hc hf
        refine lv_iconst (v := (0 : Int32)) hx hb dX10_eRead_119 (by decide) ?_
        refine lv_istore_n (lv' := [(2, .int (0 : Int32)), (0, .ref (a 0)), (1, .int v1)]) hx hb dX10_eRead_120 rfl hl (by decide) rfl (fun ls hl => ?_)
        refine lv_goto (tgt := 14) hx hb dX10_eRead_121 (by decide) ?_
        exact hk14 v1 (0 : Int32) s4 H locs ls hf hP hS (lv_sub hl [1, 2, 0] rfl)
      · have hf := jif_n hc hf
        refine lv_iconst (v := (0 : Int32)) hx hb dX10_eRead_117 (by decide) ?_
        exact ret_z C hP hS bz_0 (Prod.mk.inj (Option.some.inj hf)).1 (Prod.mk.inj (Option.some.inj hf)).2 dX10_eRead_118
  have hL14 : ∀ (n : Nat), (∀ (v1 : Int32) (v2 : Int32) (s0 : ST) (H : Heap) (locs : List Loc) (ls : Array Slot), f_X10_eRead_L14 n v1 v2 s0 = some (r, σ') → va_P D vwCl (wG NM eM a cy s0) H → va_S A s.heap H locs → lv_has ls 4 [(0, .ref (a 0)), (1, .int v1), (2, .int v2)] → W p l e (rmk 3 64) s m args below meth c H locs 0 0 (MQ below (QZ NM eM a cy D A r σ') args s 0 0 A) (F0 m 14 ls [])) := by
    intro n
    induction n with
    | zero => intro v1 v2 s0 H locs ls hf hP hS hl; exact no_o hf
    | succ n ih =>
      intro v1 v2 s0 H locs ls hf hP hS hl
      have hf := (ef_X10_eRead_L14 _ _ _).symm.trans hf
      refine lv_aload_n hx hb dX10_eRead_14 rfl (lv_at hl 0 rfl) ?_
      obtain ⟨s2, hc, hf⟩ := jb_e hf
      refine r_cv (r_runV (As := []) (rest := []) C hP hS (va_recv C.hK hP (q0 := 0) (ci := 10) rfl (by rw [g_at oM_10.1, oM_10.2])) (k_X10_next (l := l) O hc) mw_X10_next mi_X10_next mv_X10_next wk_4_154 ⟨Nat.le_of_ble_eq_true rfl, Nat.le_of_ble_eq_true rfl⟩ ⟨rfl, rfl⟩ ⟨Nat.zero_le _, Nat.zero_le _⟩ rfl hl.1 rfl (Nat.le_of_ble_eq_true rfl) dX10_eRead_15) hS (fun H locs hP hS => ?_)
      refine lv_iload_n hx hb dX10_eRead_18 rfl (lv_at hl 1 rfl) ?_
      refine lv_if_eq (tgt := 150) hx hb dX10_eRead_19 (by decide) (fun hc => ?_) (fun hc => ?_)
      · have hf := jif_t hc hf
        refine lv_aload_n hx hb dX10_eRead_150 rfl (lv_at hl 0 rfl) ?_
        refine gf_X10_26 C hP wk_4_223 dX10_eRead_151 ?_
        refine lv_bipush (v := (59 : Int32)) hx hb dX10_eRead_154 (by decide) ?_
        refine lv_icmp_ne (tgt := 177) hx hb dX10_eRead_156 (by decide) (fun hc => ?_) (fun hc => ?_)
        · have hf := jif_t hc hf
          refine lv_aload_n hx hb dX10_eRead_177 rfl (lv_at hl 0 rfl) ?_
          refine gf_X10_26 C hP wk_4_223 dX10_eRead_178 ?_
          refine lv_bipush (v := (41 : Int32)) hx hb dX10_eRead_181 (by decide) ?_
          refine lv_icmp_ne (tgt := 229) hx hb dX10_eRead_183 (by decide) (fun hc => ?_) (fun hc => ?_)
          · have hf := jif_t hc hf
            refine lv_aload_n hx hb dX10_eRead_229 rfl (lv_at hl 0 rfl) ?_
            refine r_ci (r_runV (As := []) (rest := []) C hP hS (va_recv C.hK hP (q0 := 0) (ci := 10) rfl (by rw [g_at oM_10.1, oM_10.2])) (k_X10_signOf (l := l) O (σ := s2) rfl) mw_X10_signOf mi_X10_signOf mv_X10_signOf wk_4_189 ⟨Nat.le_of_ble_eq_true rfl, Nat.le_of_ble_eq_true rfl⟩ ⟨rfl, rfl⟩ ⟨Nat.zero_le _, Nat.zero_le _⟩ rfl hl.1 rfl (Nat.le_of_ble_eq_true rfl) dX10_eRead_230) hS (fun H locs hP hS => ?_)
            refine jl_topi hf (fun y3 hf => ?_)
            refine lv_istore_n (lv' := [(3, .int y3), (0, .ref (a 0)), (1, .int v1), (2, .int v2)]) hx hb dX10_eRead_233 rfl hl (by decide) rfl (fun ls hl => ?_)
            refine lv_iload_n hx hb dX10_eRead_234 rfl (lv_at hl 0 rfl) ?_
            refine lv_iconst (v := (-1 : Int32)) hx hb dX10_eRead_235 (by decide) ?_
            refine lv_icmp_eq (tgt := 247) hx hb dX10_eRead_236 (by decide) (fun hc => ?_) (fun hc => ?_)
            · have hf := jif_t hc hf
              refine lv_iconst (v := (0 : Int32)) hx hb dX10_eRead_247 (by decide) ?_
              exact ret_z C hP hS bz_0 (Prod.mk.inj (Option.some.inj hf)).1 (Prod.mk.inj (Option.some.inj hf)).2 dX10_eRead_248
            · have hf := jif_f hc hf
              refine lv_aload_n hx hb dX10_eRead_239 rfl (lv_at hl 1 rfl) ?_
              refine lv_iload_n hx hb dX10_eRead_240 rfl (lv_at hl 0 rfl) ?_
              obtain ⟨y5, s6, hc, hf⟩ := jbp_e hf
              refine r_cz (r_runV (As := [.int y3]) (rest := []) C hP hS (va_recv C.hK hP (q0 := 0) (ci := 10) rfl (by rw [g_at oM_10.1, oM_10.2])) (k_X10_between (l := l) O hc) mw_X10_between mi_X10_between mv_X10_between wk_4_193 ⟨Nat.le_of_ble_eq_true rfl, Nat.le_of_ble_eq_true rfl⟩ ⟨rfl, rfl⟩ ⟨Nat.zero_le _, Nat.zero_le _⟩ rfl hl.1 rfl (Nat.le_of_ble_eq_true rfl) dX10_eRead_241) hS (fun H locs hzy5 hP hS => ?_)
              refine lv_if_ne (tgt := 249) hx hb dX10_eRead_244 (by decide) (fun hc => ?_) (fun hc => ?_)
              · have hf := jif_t hc hf
                refine lv_iconst (v := (1 : Int32)) hx hb dX10_eRead_249 (by decide) ?_
                refine lv_istore_n (lv' := [(1, .int (1 : Int32)), (3, .int y3), (0, .ref (a 0)), (2, .int v2)]) hx hb dX10_eRead_250 rfl hl (by decide) rfl (fun ls hl => ?_)
                refine lv_iload_n hx hb dX10_eRead_251 rfl (lv_at hl 1 rfl) ?_
                refine lv_bipush (v := (12 : Int32)) hx hb dX10_eRead_252 (by decide) ?_
                refine lv_icmp_gt (tgt := 261) hx hb dX10_eRead_254 (by decide) (fun hc => ?_) (fun hc => ?_)
                · have hf := jif_t hc hf
                  refine lv_iconst (v := (0 : Int32)) hx hb dX10_eRead_261 (by decide) ?_
                  exact hL262 (f_X10_eRead_L14 n) ih (1 : Int32) (0 : Int32) s6 H locs ls hf hP hS (lv_sub hl [2, 0] rfl)
                · have hf := jif_f hc hf
                  refine lv_iconst (v := (1 : Int32)) hx hb dX10_eRead_257 (by decide) ?_
                  refine lv_goto (tgt := 262) hx hb dX10_eRead_258 (by decide) ?_
                  exact hL262 (f_X10_eRead_L14 n) ih (1 : Int32) (1 : Int32) s6 H locs ls hf hP hS (lv_sub hl [2, 0] rfl)
              · have hf := jif_n hc hf
                refine lv_iconst (v := (0 : Int32)) hx hb dX10_eRead_247 (by decide) ?_
                exact ret_z C hP hS bz_0 (Prod.mk.inj (Option.some.inj hf)).1 (Prod.mk.inj (Option.some.inj hf)).2 dX10_eRead_248
          · have hf := jif_n hc hf
            refine lv_aload_n hx hb dX10_eRead_186 rfl (lv_at hl 0 rfl) ?_
            refine lv_iconst (v := (1 : Int32)) hx hb dX10_eRead_187 (by decide) ?_
            obtain ⟨s8, hc, hf⟩ := jb_e hf
            refine r_cv (r_runV (As := [.int (1 : Int32)]) (rest := []) C hP hS (va_recv C.hK hP (q0 := 0) (ci := 10) rfl (by rw [g_at oM_10.1, oM_10.2])) (k_X10_unwinds (l := l) O hc) mw_X10_unwinds mi_X10_unwinds mv_X10_unwinds wk_4_174 ⟨Nat.le_of_ble_eq_true rfl, Nat.le_of_ble_eq_true rfl⟩ ⟨rfl, rfl⟩ ⟨Nat.zero_le _, Nat.zero_le _⟩ rfl hl.1 rfl (Nat.le_of_ble_eq_true rfl) dX10_eRead_188) hS (fun H locs hP hS => ?_)
            refine lv_aload_n hx hb dX10_eRead_191 rfl (lv_at hl 0 rfl) ?_
            refine gf_X10_30 C hP wk_4_227 dX10_eRead_192 ?_
            refine lv_if_ne (tgt := 200) hx hb dX10_eRead_195 (by decide) (fun hc => ?_) (fun hc => ?_)
            · have hf := jif_t hc hf
              refine lv_aload_n hx hb dX10_eRead_200 rfl (lv_at hl 0 rfl) ?_
              refine lv_dup hx hb dX10_eRead_201 rfl ?_
              refine gf_X10_30 C hP wk_4_227 dX10_eRead_202 ?_
              refine lv_iconst (v := (1 : Int32)) hx hb dX10_eRead_205 (by decide) ?_
              refine lv_isub hx hb dX10_eRead_206 ?_
              refine pf_X10_30 C hP hS wk_4_227 dX10_eRead_207 hf (fun H locs s9 hf hP hS => ?_)
              refine lv_aload_n hx hb dX10_eRead_210 rfl (lv_at hl 0 rfl) ?_
              refine lv_dup hx hb dX10_eRead_211 rfl ?_
              refine gf_X10_31 C hP wk_4_228 dX10_eRead_212 ?_
              refine lv_iconst (v := (1 : Int32)) hx hb dX10_eRead_215 (by decide) ?_
              refine lv_isub hx hb dX10_eRead_216 ?_
              refine pf_X10_31 C hP hS wk_4_228 dX10_eRead_217 hf (fun H locs s10 hf hP hS => ?_)
              refine lv_aload_n hx hb dX10_eRead_220 rfl (lv_at hl 0 rfl) ?_
              refine lv_bipush (v := (7 : Int32)) hx hb dX10_eRead_221 (by decide) ?_
              obtain ⟨s12, hc, hf⟩ := jb_e hf
              refine r_cv (r_runV (As := [.int (7 : Int32)]) (rest := []) C hP hS (va_recv C.hK hP (q0 := 0) (ci := 10) rfl (by rw [g_at oM_10.1, oM_10.2])) (k_X10_unwinds (l := l) O hc) mw_X10_unwinds mi_X10_unwinds mv_X10_unwinds wk_4_174 ⟨Nat.le_of_ble_eq_true rfl, Nat.le_of_ble_eq_true rfl⟩ ⟨rfl, rfl⟩ ⟨Nat.zero_le _, Nat.zero_le _⟩ rfl hl.1 rfl (Nat.le_of_ble_eq_true rfl) dX10_eRead_223) hS (fun H locs hP hS => ?_)
              refine lv_goto (tgt := 14) hx hb dX10_eRead_226 (by decide) ?_
              exact ih v1 v2 s12 H locs ls hf hP hS (lv_sub hl [0, 1, 2] rfl)
            · have hf := jif_n hc hf
              refine lv_iconst (v := (0 : Int32)) hx hb dX10_eRead_198 (by decide) ?_
              exact ret_z C hP hS bz_0 (Prod.mk.inj (Option.some.inj hf)).1 (Prod.mk.inj (Option.some.inj hf)).2 dX10_eRead_199
        · have hf := jif_n hc hf
          refine lv_aload_n hx hb dX10_eRead_159 rfl (lv_at hl 0 rfl) ?_
          refine lv_iconst (v := (1 : Int32)) hx hb dX10_eRead_160 (by decide) ?_
          obtain ⟨s14, hc, hf⟩ := jb_e hf
          refine r_cv (r_runV (As := [.int (1 : Int32)]) (rest := []) C hP hS (va_recv C.hK hP (q0 := 0) (ci := 10) rfl (by rw [g_at oM_10.1, oM_10.2])) (k_X10_unwinds (l := l) O hc) mw_X10_unwinds mi_X10_unwinds mv_X10_unwinds wk_4_174 ⟨Nat.le_of_ble_eq_true rfl, Nat.le_of_ble_eq_true rfl⟩ ⟨rfl, rfl⟩ ⟨Nat.zero_le _, Nat.zero_le _⟩ rfl hl.1 rfl (Nat.le_of_ble_eq_true rfl) dX10_eRead_161) hS (fun H locs hP hS => ?_)
          refine lv_aload_n hx hb dX10_eRead_164 rfl (lv_at hl 0 rfl) ?_
          refine gf_X10_30 C hP wk_4_227 dX10_eRead_165 ?_
          refine lv_if_ne (tgt := 175) hx hb dX10_eRead_168 (by decide) (fun hc => ?_) (fun hc => ?_)
          · have hf := jif_t hc hf
            refine lv_iconst (v := (0 : Int32)) hx hb dX10_eRead_175 (by decide) ?_
            exact ret_z C hP hS bz_0 (Prod.mk.inj (Option.some.inj hf)).1 (Prod.mk.inj (Option.some.inj hf)).2 dX10_eRead_176
          · have hf := jif_n hc hf
            refine lv_iconst (v := (1 : Int32)) hx hb dX10_eRead_171 (by decide) ?_
            refine lv_goto (tgt := 176) hx hb dX10_eRead_172 (by decide) ?_
            exact ret_z C hP hS bz_1 (Prod.mk.inj (Option.some.inj hf)).1 (Prod.mk.inj (Option.some.inj hf)).2 dX10_eRead_176
      · have hf := jif_f hc hf
        refine lv_aload_n hx hb dX10_eRead_22 rfl (lv_at hl 0 rfl) ?_
        refine gf_X10_26 C hP wk_4_223 dX10_eRead_23 ?_
        refine lv_iconst (v := (1 : Int32)) hx hb dX10_eRead_26 (by decide) ?_
        refine lv_icmp_eq (tgt := 38) hx hb dX10_eRead_27 (by decide) (fun hc => ?_) (fun hc => ?_)
        · have hf := jif_t hc hf
          exact hL38 (f_X10_eRead_L14 n) ih v2 s2 H locs ls hf hP hS (lv_sub hl [0, 2] rfl)
        · have hf := jif_f hc hf
          refine lv_aload_n hx hb dX10_eRead_30 rfl (lv_at hl 0 rfl) ?_
          refine gf_X10_26 C hP wk_4_223 dX10_eRead_31 ?_
          refine lv_iconst (v := (2 : Int32)) hx hb dX10_eRead_34 (by decide) ?_
          refine lv_icmp_ne (tgt := 75) hx hb dX10_eRead_35 (by decide) (fun hc => ?_) (fun hc => ?_)
          · have hf := jif_t hc hf
            refine lv_aload_n hx hb dX10_eRead_75 rfl (lv_at hl 0 rfl) ?_
            refine gf_X10_26 C hP wk_4_223 dX10_eRead_76 ?_
            refine lv_bipush (v := (6 : Int32)) hx hb dX10_eRead_79 (by decide) ?_
            refine lv_icmp_ne (tgt := 99) hx hb dX10_eRead_81 (by decide) (fun hc => ?_) (fun hc => ?_)
            · have hf := jif_t hc hf
              exact hL99 (f_X10_eRead_L14 n) ih v1 s2 H locs ls hf hP hS (lv_sub hl [0, 1] rfl)
            · have hf := jif_n hc hf
              refine lv_iload_n hx hb dX10_eRead_84 rfl (lv_at hl 2 rfl) ?_
              refine lv_if_eq (tgt := 99) hx hb dX10_eRead_85 (by decide) (fun hc => ?_) (fun hc => ?_)
              · have hf := jif_t hc hf
                exact hL99 (f_X10_eRead_L14 n) ih v1 s2 H locs ls hf hP hS (lv_sub hl [0, 1] rfl)
              · have hf := jif_f hc hf
                refine lv_aload_n hx hb dX10_eRead_88 rfl (lv_at hl 0 rfl) ?_
                refine lv_bipush (v := (13 : Int32)) hx hb dX10_eRead_89 (by decide) ?_
                obtain ⟨y15, s16, hc, hf⟩ := jbp_e hf
                refine r_cz (r_runV (As := [.int (13 : Int32)]) (rest := []) C hP hS (va_recv C.hK hP (q0 := 0) (ci := 10) rfl (by rw [g_at oM_10.1, oM_10.2])) (k_X10_opensOne (l := l) O hc) mw_X10_opensOne mi_X10_opensOne mv_X10_opensOne wk_4_181 ⟨Nat.le_of_ble_eq_true rfl, Nat.le_of_ble_eq_true rfl⟩ ⟨rfl, rfl⟩ ⟨Nat.zero_le _, Nat.zero_le _⟩ rfl hl.1 rfl (Nat.le_of_ble_eq_true rfl) dX10_eRead_91) hS (fun H locs hzy15 hP hS => ?_)
                refine lv_if_ne (tgt := 14) hx hb dX10_eRead_94 (by decide) (fun hc => ?_) (fun hc => ?_)
                · have hf := jif_t hc hf
                  exact ih v1 v2 s16 H locs ls hf hP hS (lv_sub hl [0, 1, 2] rfl)
                · have hf := jif_n hc hf
                  refine lv_iconst (v := (0 : Int32)) hx hb dX10_eRead_97 (by decide) ?_
                  exact ret_z C hP hS bz_0 (Prod.mk.inj (Option.some.inj hf)).1 (Prod.mk.inj (Option.some.inj hf)).2 dX10_eRead_98
          · have hf := jif_n hc hf
            exact hL38 (f_X10_eRead_L14 n) ih v2 s2 H locs ls hf hP hS (lv_sub hl [0, 2] rfl)
  refine lv_aload_n hx hb dX10_eRead_0 rfl (lv_at hl 0 rfl) ?_
  refine lv_iconst (v := (0 : Int32)) hx hb dX10_eRead_1 (by decide) ?_
  refine pf_X10_30 C hP hS wk_4_227 dX10_eRead_2 hf (fun H locs s1 hf hP hS => ?_)
  refine lv_aload_n hx hb dX10_eRead_5 rfl (lv_at hl 0 rfl) ?_
  refine lv_iconst (v := (0 : Int32)) hx hb dX10_eRead_6 (by decide) ?_
  refine pf_X10_31 C hP hS wk_4_228 dX10_eRead_7 hf (fun H locs s2 hf hP hS => ?_)
  refine lv_iconst (v := (1 : Int32)) hx hb dX10_eRead_10 (by decide) ?_
  refine lv_istore_n (lv' := [(1, .int (1 : Int32)), (0, .ref (a 0))]) hx hb dX10_eRead_11 rfl hl (by decide) rfl (fun ls hl => ?_)
  refine lv_iconst (v := (1 : Int32)) hx hb dX10_eRead_12 (by decide) ?_
  refine lv_istore_n (lv' := [(2, .int (1 : Int32)), (1, .int (1 : Int32)), (0, .ref (a 0))]) hx hb dX10_eRead_13 rfl hl (by decide) rfl (fun ls hl => ?_)
  exact hL14 FU (1 : Int32) (1 : Int32) s2 H locs ls hf hP hS (lv_sub hl [2, 1, 0] rfl)
set_option maxHeartbeats 4000000 in
set_option maxRecDepth 100000 in
theorem k_X10_text {l : Launch} {a : Nat → Nat} {cy : Nat → ClassId} {D : va_G} {A : Nat → Prop} (O : WO NM a (fun _ => True) A) {r : Int32} {σ : ST} {σ' : ST} (hf : f_X10_text σ = some (r, σ')) : Met l yX10_text (Cond.code yX10_text cX10_text 3 (some .int) :: WS) (rmk 4 87) (PC [.ref (a 0)] NM eM a cy D (fun _ => True) σ) (QI NM eM a cy D A r σ') 0 0 A := by
  refine met_go (own := "GuardsLookLeftModel") O (by decide +kernel) rfl (Nat.le_of_ble_eq_true rfl) ?_
  intro p e s m args below meth c ls C hP hS hl
  have hx := C.hx
  have hb := C.hb
  have hl : lv_has ls 3 [(0, .ref (a 0))] := hl
  obtain ⟨H, hH⟩ : ∃ H, H = s.heap := ⟨_, rfl⟩
  rw [← hH] at hP
  have hS : va_S A s.heap H [] := by rw [hH]; exact va_S.rf
  suffices g : W p l e (rmk 4 87) s m args below meth c H [] 0 0 (MQ below (QI NM eM a cy D A r σ') args s 0 0 A) (F0 m 0 ls []) by rw [hH] at g; exact g
  clear hH
  obtain ⟨locs, hlocs⟩ : ∃ z : List Loc, z = [] := ⟨_, rfl⟩
  rw [← hlocs] at hS ⊢
  have hL122 : (∀ (v1 : Int32) (s0 : ST) (H : Heap) (locs : List Loc) (ls : Array Slot), f_X10_text_L122 v1 s0 = some (r, σ') → va_P D vwCl (wG NM eM a cy s0) H → va_S A s.heap H locs → lv_has ls 3 [(0, .ref (a 0)), (1, .int v1)] → W p l e (rmk 4 87) s m args below meth c H locs 0 0 (MQ below (QI NM eM a cy D A r σ') args s 0 0 A) (F0 m 122 ls [])) := by
    intro v1 s0 H locs ls hf hP hS hl
    refine lv_aload_n hx hb dX10_text_122 rfl (lv_at hl 0 rfl) ?_
    refine gf_X10_11 C hP wk_4_208 dX10_text_123 ?_
    refine lv_iconst (v := (4 : Int32)) hx hb dX10_text_126 (by decide) ?_
    refine lv_aload_n hx hb dX10_text_127 rfl (lv_at hl 0 rfl) ?_
    refine gf_X10_12 C hP wk_4_209 dX10_text_128 ?_
    refine lv_imul hx hb dX10_text_131 ?_
    refine lv_iconst (v := (3 : Int32)) hx hb dX10_text_132 (by decide) ?_
    refine lv_iadd hx hb dX10_text_133 ?_
    refine lv_aload_n hx hb dX10_text_134 rfl (lv_at hl 0 rfl) ?_
    refine gf_X10_32 C hP wk_4_229 dX10_text_135 ?_
    obtain ⟨hi1, hf⟩ := jix_e hf
    refine r_iast C hP hS aM_10 hi1 dX10_text_138 hf (fun H locs s2 hf hP hS => ?_)
    refine lv_aload_n hx hb dX10_text_139 rfl (lv_at hl 0 rfl) ?_
    refine lv_iconst (v := (0 : Int32)) hx hb dX10_text_140 (by decide) ?_
    refine pf_X10_9 C hP hS wk_4_206 dX10_text_141 hf (fun H locs s3 hf hP hS => ?_)
    refine lv_iload_n hx hb dX10_text_144 rfl (lv_at hl 1 rfl) ?_
    refine lv_if_ne (tgt := 156) hx hb dX10_text_145 (by decide) (fun hc => ?_) (fun hc => ?_)
    · have hf := jif_t hc hf
      refine lv_aload_n hx hb dX10_text_156 rfl (lv_at hl 0 rfl) ?_
      refine lv_dup hx hb dX10_text_157 rfl ?_
      refine gf_X10_12 C hP wk_4_209 dX10_text_158 ?_
      refine lv_iconst (v := (1 : Int32)) hx hb dX10_text_161 (by decide) ?_
      refine lv_iadd hx hb dX10_text_162 ?_
      refine pf_X10_12 C hP hS wk_4_209 dX10_text_163 hf (fun H locs s4 hf hP hS => ?_)
      refine lv_aload_n hx hb dX10_text_166 rfl (lv_at hl 0 rfl) ?_
      refine gf_X10_12 C hP wk_4_209 dX10_text_167 ?_
      refine lv_iconst (v := (1 : Int32)) hx hb dX10_text_170 (by decide) ?_
      refine lv_isub hx hb dX10_text_171 ?_
      exact ret_i C hP hS (Prod.mk.inj (Option.some.inj hf)).1 (Prod.mk.inj (Option.some.inj hf)).2 dX10_text_172
    · have hf := jif_n hc hf
      refine lv_bipush (v := (-100 : Int32)) hx hb dX10_text_148 (by decide) ?_
      refine lv_aload_n hx hb dX10_text_150 rfl (lv_at hl 0 rfl) ?_
      refine gf_X10_25 C hP wk_4_222 dX10_text_151 ?_
      refine lv_isub hx hb dX10_text_154 ?_
      exact ret_i C hP hS (Prod.mk.inj (Option.some.inj hf)).1 (Prod.mk.inj (Option.some.inj hf)).2 dX10_text_155
  have hL121 : (∀ (t0 : Int32) (s0 : ST) (H : Heap) (locs : List Loc) (ls : Array Slot), f_X10_text_L121 t0 s0 = some (r, σ') → va_P D vwCl (wG NM eM a cy s0) H → va_S A s.heap H locs → lv_has ls 3 [(0, .ref (a 0))] → W p l e (rmk 4 87) s m args below meth c H locs 0 0 (MQ below (QI NM eM a cy D A r σ') args s 0 0 A) (F0 m 121 ls [.int t0])) := by
    intro t0 s0 H locs ls hf hP hS hl
    refine lv_istore_n (lv' := [(1, .int t0), (0, .ref (a 0))]) hx hb dX10_text_121 rfl hl (by decide) rfl (fun ls hl => ?_)
    exact hL122 t0 s0 H locs ls hf hP hS (lv_sub hl [1, 0] rfl)
  have hL101 : (∀ (v1 : Int32) (s0 : ST) (H : Heap) (locs : List Loc) (ls : Array Slot), f_X10_text_L101 v1 s0 = some (r, σ') → va_P D vwCl (wG NM eM a cy s0) H → va_S A s.heap H locs → lv_has ls 3 [(0, .ref (a 0)), (1, .int v1)] → W p l e (rmk 4 87) s m args below meth c H locs 0 0 (MQ below (QI NM eM a cy D A r σ') args s 0 0 A) (F0 m 101 ls [])) := by
    intro v1 s0 H locs ls hf hP hS hl
    refine lv_iload_n hx hb dX10_text_101 rfl (lv_at hl 1 rfl) ?_
    refine lv_if_eq (tgt := 122) hx hb dX10_text_102 (by decide) (fun hc => ?_) (fun hc => ?_)
    · have hf := jif_t hc hf
      exact hL122 v1 s0 H locs ls hf hP hS (lv_sub hl [0, 1] rfl)
    · have hf := jif_f hc hf
      refine lv_aload_n hx hb dX10_text_105 rfl (lv_at hl 0 rfl) ?_
      obtain ⟨s2, hc, hf⟩ := jb_e hf
      refine r_cv (r_runV (As := []) (rest := []) C hP hS (va_recv C.hK hP (q0 := 0) (ci := 10) rfl (by rw [g_at oM_10.1, oM_10.2])) (k_X10_next (l := l) O hc) mw_X10_next mi_X10_next mv_X10_next wk_4_154 ⟨Nat.le_of_ble_eq_true rfl, Nat.le_of_ble_eq_true rfl⟩ ⟨rfl, rfl⟩ ⟨Nat.zero_le _, Nat.zero_le _⟩ rfl hl.1 rfl (Nat.le_of_ble_eq_true rfl) dX10_text_106) hS (fun H locs hP hS => ?_)
      refine lv_aload_n hx hb dX10_text_109 rfl (lv_at hl 0 rfl) ?_
      refine gf_X10_26 C hP wk_4_223 dX10_text_110 ?_
      refine lv_if_ne (tgt := 120) hx hb dX10_text_113 (by decide) (fun hc => ?_) (fun hc => ?_)
      · have hf := jif_t hc hf
        refine lv_iconst (v := (0 : Int32)) hx hb dX10_text_120 (by decide) ?_
        exact hL121 (0 : Int32) s2 H locs ls hf hP hS (lv_sub hl [0] rfl)
      · have hf := jif_n hc hf
        refine lv_iconst (v := (1 : Int32)) hx hb dX10_text_116 (by decide) ?_
        refine lv_goto (tgt := 121) hx hb dX10_text_117 (by decide) ?_
        exact hL121 (1 : Int32) s2 H locs ls hf hP hS (lv_sub hl [0] rfl)
  have hL94 : ∀ (k26 : Int32 → Int32 → ST → Option (Int32 × ST)) (hk26 : (∀ (v1 : Int32) (v2 : Int32) (s0 : ST) (H : Heap) (locs : List Loc) (ls : Array Slot), k26 v1 v2 s0 = some (r, σ') → va_P D vwCl (wG NM eM a cy s0) H → va_S A s.heap H locs → lv_has ls 3 [(0, .ref (a 0)), (1, .int v1), (2, .int v2)] → W p l e (rmk 4 87) s m args below meth c H locs 0 0 (MQ below (QI NM eM a cy D A r σ') args s 0 0 A) (F0 m 26 ls []))), (∀ (v2 : Int32) (t0 : Int32) (s0 : ST) (H : Heap) (locs : List Loc) (ls : Array Slot), f_X10_text_L94 k26 v2 t0 s0 = some (r, σ') → va_P D vwCl (wG NM eM a cy s0) H → va_S A s.heap H locs → lv_has ls 3 [(0, .ref (a 0)), (2, .int v2)] → W p l e (rmk 4 87) s m args below meth c H locs 0 0 (MQ below (QI NM eM a cy D A r σ') args s 0 0 A) (F0 m 94 ls [.int t0])) := by
    intro k26 hk26 v2 t0 s0 H locs ls hf hP hS hl
    refine lv_istore_n (lv' := [(1, .int t0), (0, .ref (a 0)), (2, .int v2)]) hx hb dX10_text_94 rfl hl (by decide) rfl (fun ls hl => ?_)
    obtain ⟨y1, ey1, hf⟩ := jlet_e hf
    refine lv_iinc (v := y1) (lv' := [(2, .int y1), (1, .int t0), (0, .ref (a 0))]) hx hb dX10_text_95 hl (k := 2) rfl ey1 (by decide) rfl (fun ls hl => ?_)
    refine lv_goto (tgt := 26) hx hb dX10_text_98 (by decide) ?_
    exact hk26 t0 y1 s0 H locs ls hf hP hS (lv_sub hl [2, 1, 0] rfl)
  have hL93 : ∀ (k26 : Int32 → Int32 → ST → Option (Int32 × ST)) (hk26 : (∀ (v1 : Int32) (v2 : Int32) (s0 : ST) (H : Heap) (locs : List Loc) (ls : Array Slot), k26 v1 v2 s0 = some (r, σ') → va_P D vwCl (wG NM eM a cy s0) H → va_S A s.heap H locs → lv_has ls 3 [(0, .ref (a 0)), (1, .int v1), (2, .int v2)] → W p l e (rmk 4 87) s m args below meth c H locs 0 0 (MQ below (QI NM eM a cy D A r σ') args s 0 0 A) (F0 m 26 ls []))), (∀ (v2 : Int32) (s0 : ST) (H : Heap) (locs : List Loc) (ls : Array Slot), f_X10_text_L93 k26 v2 s0 = some (r, σ') → va_P D vwCl (wG NM eM a cy s0) H → va_S A s.heap H locs → lv_has ls 3 [(0, .ref (a 0)), (2, .int v2)] → W p l e (rmk 4 87) s m args below meth c H locs 0 0 (MQ below (QI NM eM a cy D A r σ') args s 0 0 A) (F0 m 93 ls [])) := by
    intro k26 hk26 v2 s0 H locs ls hf hP hS hl
    refine lv_iconst (v := (0 : Int32)) hx hb dX10_text_93 (by decide) ?_
    exact hL94 k26 hk26 v2 (0 : Int32) s0 H locs ls hf hP hS (lv_sub hl [0, 1] rfl)
  have hL60 : ∀ (k26 : Int32 → Int32 → ST → Option (Int32 × ST)) (hk26 : (∀ (v1 : Int32) (v2 : Int32) (s0 : ST) (H : Heap) (locs : List Loc) (ls : Array Slot), k26 v1 v2 s0 = some (r, σ') → va_P D vwCl (wG NM eM a cy s0) H → va_S A s.heap H locs → lv_has ls 3 [(0, .ref (a 0)), (1, .int v1), (2, .int v2)] → W p l e (rmk 4 87) s m args below meth c H locs 0 0 (MQ below (QI NM eM a cy D A r σ') args s 0 0 A) (F0 m 26 ls []))), (∀ (v2 : Int32) (t0 : Int32) (s0 : ST) (H : Heap) (locs : List Loc) (ls : Array Slot), f_X10_text_L60 k26 v2 t0 s0 = some (r, σ') → va_P D vwCl (wG NM eM a cy s0) H → va_S A s.heap H locs → lv_has ls 3 [(0, .ref (a 0)), (2, .int v2)] → W p l e (rmk 4 87) s m args below meth c H locs 0 0 (MQ below (QI NM eM a cy D A r σ') args s 0 0 A) (F0 m 60 ls [.int t0])) := by
    intro k26 hk26 v2 t0 s0 H locs ls hf hP hS hl
    refine lv_istore_n (lv' := [(1, .int t0), (0, .ref (a 0)), (2, .int v2)]) hx hb dX10_text_60 rfl hl (by decide) rfl (fun ls hl => ?_)
    refine lv_aload_n hx hb dX10_text_61 rfl (lv_at hl 1 rfl) ?_
    refine gf_X10_11 C hP wk_4_208 dX10_text_62 ?_
    refine lv_iconst (v := (4 : Int32)) hx hb dX10_text_65 (by decide) ?_
    refine lv_aload_n hx hb dX10_text_66 rfl (lv_at hl 1 rfl) ?_
    refine gf_X10_12 C hP wk_4_209 dX10_text_67 ?_
    refine lv_imul hx hb dX10_text_70 ?_
    refine lv_iload_n hx hb dX10_text_71 rfl (lv_at hl 2 rfl) ?_
    refine lv_iadd hx hb dX10_text_72 ?_
    refine lv_aload_n hx hb dX10_text_73 rfl (lv_at hl 1 rfl) ?_
    refine gf_X10_32 C hP wk_4_229 dX10_text_74 ?_
    obtain ⟨hi1, hf⟩ := jix_e hf
    refine r_iast C hP hS aM_10 hi1 dX10_text_77 hf (fun H locs s2 hf hP hS => ?_)
    refine lv_iload_n hx hb dX10_text_78 rfl (lv_at hl 0 rfl) ?_
    refine lv_if_eq (tgt := 93) hx hb dX10_text_79 (by decide) (fun hc => ?_) (fun hc => ?_)
    · have hf := jif_t hc hf
      exact hL93 k26 hk26 v2 s2 H locs ls hf hP hS (lv_sub hl [1, 2] rfl)
    · have hf := jif_f hc hf
      refine lv_aload_n hx hb dX10_text_82 rfl (lv_at hl 1 rfl) ?_
      obtain ⟨y3, s4, hc, hf⟩ := jbp_e hf
      refine r_cz (r_runV (As := []) (rest := []) C hP hS (va_recv C.hK hP (q0 := 0) (ci := 10) rfl (by rw [g_at oM_10.1, oM_10.2])) (k_X10_eRead (l := l) O hc) mw_X10_eRead mi_X10_eRead mv_X10_eRead wk_4_165 ⟨Nat.le_of_ble_eq_true rfl, Nat.le_of_ble_eq_true rfl⟩ ⟨rfl, rfl⟩ ⟨Nat.zero_le _, Nat.zero_le _⟩ rfl hl.1 rfl (Nat.le_of_ble_eq_true rfl) dX10_text_83) hS (fun H locs hzy3 hP hS => ?_)
      refine lv_if_eq (tgt := 93) hx hb dX10_text_86 (by decide) (fun hc => ?_) (fun hc => ?_)
      · have hf := jif_t hc hf
        exact hL93 k26 hk26 v2 s4 H locs ls hf hP hS (lv_sub hl [1, 2] rfl)
      · have hf := jif_f hc hf
        refine lv_iconst (v := (1 : Int32)) hx hb dX10_text_89 (by decide) ?_
        refine lv_goto (tgt := 94) hx hb dX10_text_90 (by decide) ?_
        exact hL94 k26 hk26 v2 (1 : Int32) s4 H locs ls hf hP hS (lv_sub hl [1, 2] rfl)
  have hL59 : ∀ (k26 : Int32 → Int32 → ST → Option (Int32 × ST)) (hk26 : (∀ (v1 : Int32) (v2 : Int32) (s0 : ST) (H : Heap) (locs : List Loc) (ls : Array Slot), k26 v1 v2 s0 = some (r, σ') → va_P D vwCl (wG NM eM a cy s0) H → va_S A s.heap H locs → lv_has ls 3 [(0, .ref (a 0)), (1, .int v1), (2, .int v2)] → W p l e (rmk 4 87) s m args below meth c H locs 0 0 (MQ below (QI NM eM a cy D A r σ') args s 0 0 A) (F0 m 26 ls []))), (∀ (v2 : Int32) (s0 : ST) (H : Heap) (locs : List Loc) (ls : Array Slot), f_X10_text_L59 k26 v2 s0 = some (r, σ') → va_P D vwCl (wG NM eM a cy s0) H → va_S A s.heap H locs → lv_has ls 3 [(0, .ref (a 0)), (2, .int v2)] → W p l e (rmk 4 87) s m args below meth c H locs 0 0 (MQ below (QI NM eM a cy D A r σ') args s 0 0 A) (F0 m 59 ls [])) := by
    intro k26 hk26 v2 s0 H locs ls hf hP hS hl
    refine lv_iconst (v := (0 : Int32)) hx hb dX10_text_59 (by decide) ?_
    exact hL60 k26 hk26 v2 (0 : Int32) s0 H locs ls hf hP hS (lv_sub hl [0, 1] rfl)
  have hL26 : ∀ (n : Nat), (∀ (v1 : Int32) (v2 : Int32) (s0 : ST) (H : Heap) (locs : List Loc) (ls : Array Slot), f_X10_text_L26 n v1 v2 s0 = some (r, σ') → va_P D vwCl (wG NM eM a cy s0) H → va_S A s.heap H locs → lv_has ls 3 [(0, .ref (a 0)), (1, .int v1), (2, .int v2)] → W p l e (rmk 4 87) s m args below meth c H locs 0 0 (MQ below (QI NM eM a cy D A r σ') args s 0 0 A) (F0 m 26 ls [])) := by
    intro n
    induction n with
    | zero => intro v1 v2 s0 H locs ls hf hP hS hl; exact no_o hf
    | succ n ih =>
      intro v1 v2 s0 H locs ls hf hP hS hl
      have hf := (ef_X10_text_L26 _ _ _).symm.trans hf
      refine lv_iload_n hx hb dX10_text_26 rfl (lv_at hl 2 rfl) ?_
      refine lv_iconst (v := (3 : Int32)) hx hb dX10_text_27 (by decide) ?_
      refine lv_icmp_ge (tgt := 101) hx hb dX10_text_28 (by decide) (fun hc => ?_) (fun hc => ?_)
      · have hf := jif_t hc hf
        exact hL101 v1 s0 H locs ls hf hP hS (lv_sub hl [0, 1] rfl)
      · have hf := jif_f hc hf
        refine lv_iload_n hx hb dX10_text_31 rfl (lv_at hl 1 rfl) ?_
        refine lv_if_eq (tgt := 101) hx hb dX10_text_32 (by decide) (fun hc => ?_) (fun hc => ?_)
        · have hf := jif_t hc hf
          exact hL101 v1 s0 H locs ls hf hP hS (lv_sub hl [0, 1] rfl)
        · have hf := jif_f hc hf
          refine lv_aload_n hx hb dX10_text_35 rfl (lv_at hl 0 rfl) ?_
          obtain ⟨s2, hc, hf⟩ := jb_e hf
          refine r_cv (r_runV (As := []) (rest := []) C hP hS (va_recv C.hK hP (q0 := 0) (ci := 10) rfl (by rw [g_at oM_10.1, oM_10.2])) (k_X10_next (l := l) O hc) mw_X10_next mi_X10_next mv_X10_next wk_4_154 ⟨Nat.le_of_ble_eq_true rfl, Nat.le_of_ble_eq_true rfl⟩ ⟨rfl, rfl⟩ ⟨Nat.zero_le _, Nat.zero_le _⟩ rfl hl.1 rfl (Nat.le_of_ble_eq_true rfl) dX10_text_36) hS (fun H locs hP hS => ?_)
          refine lv_aload_n hx hb dX10_text_39 rfl (lv_at hl 0 rfl) ?_
          refine gf_X10_26 C hP wk_4_223 dX10_text_40 ?_
          refine lv_iconst (v := (3 : Int32)) hx hb dX10_text_43 (by decide) ?_
          refine lv_icmp_ne (tgt := 59) hx hb dX10_text_44 (by decide) (fun hc => ?_) (fun hc => ?_)
          · have hf := jif_t hc hf
            exact hL59 (f_X10_text_L26 n) ih v2 s2 H locs ls hf hP hS (lv_sub hl [0, 2] rfl)
          · have hf := jif_n hc hf
            refine lv_aload_n hx hb dX10_text_47 rfl (lv_at hl 0 rfl) ?_
            refine gf_X10_27 C hP wk_4_224 dX10_text_48 ?_
            refine lv_iload_n hx hb dX10_text_51 rfl (lv_at hl 2 rfl) ?_
            refine lv_icmp_ne (tgt := 59) hx hb dX10_text_52 (by decide) (fun hc => ?_) (fun hc => ?_)
            · have hf := jif_t hc hf
              exact hL59 (f_X10_text_L26 n) ih v2 s2 H locs ls hf hP hS (lv_sub hl [0, 2] rfl)
            · have hf := jif_n hc hf
              refine lv_iconst (v := (1 : Int32)) hx hb dX10_text_55 (by decide) ?_
              refine lv_goto (tgt := 60) hx hb dX10_text_56 (by decide) ?_
              exact hL60 (f_X10_text_L26 n) ih v2 (1 : Int32) s2 H locs ls hf hP hS (lv_sub hl [0, 2] rfl)
  refine lv_aload_n hx hb dX10_text_0 rfl (lv_at hl 0 rfl) ?_
  refine gf_X10_12 C hP wk_4_209 dX10_text_1 ?_
  refine lv_bipush (v := (6 : Int32)) hx hb dX10_text_4 (by decide) ?_
  refine lv_icmp_ne (tgt := 12) hx hb dX10_text_6 (by decide) (fun hc => ?_) (fun hc => ?_)
  · have hf := jif_t hc hf
    refine lv_aload_n hx hb dX10_text_12 rfl (lv_at hl 0 rfl) ?_
    refine lv_iconst (v := (0 : Int32)) hx hb dX10_text_13 (by decide) ?_
    refine pf_X10_24 C hP hS wk_4_221 dX10_text_14 hf (fun H locs s1 hf hP hS => ?_)
    refine lv_aload_n hx hb dX10_text_17 rfl (lv_at hl 0 rfl) ?_
    refine lv_iconst (v := (0 : Int32)) hx hb dX10_text_18 (by decide) ?_
    refine pf_X10_32 C hP hS wk_4_229 dX10_text_19 hf (fun H locs s2 hf hP hS => ?_)
    refine lv_iconst (v := (1 : Int32)) hx hb dX10_text_22 (by decide) ?_
    refine lv_istore_n (lv' := [(1, .int (1 : Int32)), (0, .ref (a 0))]) hx hb dX10_text_23 rfl hl (by decide) rfl (fun ls hl => ?_)
    refine lv_iconst (v := (0 : Int32)) hx hb dX10_text_24 (by decide) ?_
    refine lv_istore_n (lv' := [(2, .int (0 : Int32)), (1, .int (1 : Int32)), (0, .ref (a 0))]) hx hb dX10_text_25 rfl hl (by decide) rfl (fun ls hl => ?_)
    exact hL26 FU (1 : Int32) (0 : Int32) s2 H locs ls hf hP hS (lv_sub hl [2, 1, 0] rfl)
  · have hf := jif_n hc hf
    refine lv_bipush (v := (-4 : Int32)) hx hb dX10_text_9 (by decide) ?_
    exact ret_i C hP hS (Prod.mk.inj (Option.some.inj hf)).1 (Prod.mk.inj (Option.some.inj hf)).2 dX10_text_11
set_option maxHeartbeats 4000000 in
set_option maxRecDepth 100000 in
theorem k_X10_two {l : Launch} {a : Nat → Nat} {cy : Nat → ClassId} {D : va_G} {A : Nat → Prop} (O : WO NM a (fun _ => True) A) {x1 : Int32} {x2 : Int32} {x3 : Int32} {r : Int32} {σ : ST} (hf : f_X10_two x1 x2 x3 = r) : Met l yX10_two (Cond.code yX10_two cX10_two 3 (some .int) :: WS) (rmk 0 0) (PC [.int x1, .int x2, .int x3] NM eM a cy D (fun _ => True) σ) (QI NM eM a cy D A r σ) 0 0 A := by
  refine met_go (own := "GuardsLookLeftModel") O (by decide +kernel) rfl (Nat.le_of_ble_eq_true rfl) ?_
  intro p e s m args below meth c ls C hP hS hl
  have hx := C.hx
  have hb := C.hb
  have hl : lv_has ls 3 [(0, .int x1), (1, .int x2), (2, .int x3)] := hl
  obtain ⟨H, hH⟩ : ∃ H, H = s.heap := ⟨_, rfl⟩
  rw [← hH] at hP
  have hS : va_S A s.heap H [] := by rw [hH]; exact va_S.rf
  suffices g : W p l e (rmk 0 0) s m args below meth c H [] 0 0 (MQ below (QI NM eM a cy D A r σ) args s 0 0 A) (F0 m 0 ls []) by rw [hH] at g; exact g
  clear hH
  obtain ⟨locs, hlocs⟩ : ∃ z : List Loc, z = [] := ⟨_, rfl⟩
  rw [← hlocs] at hS ⊢
  refine lv_iload_n hx hb dX10_two_0 rfl (lv_at hl 0 rfl) ?_
  by_cases hk111 : x1 = (11 : Int32)
  · have hf := jif_t hk111 hf
    refine sw_in (k := (11 : Int32)) (tgt := 44) C hk111 dX10_two_1 (by decide) (by decide) rfl (by decide) ?_
    refine lv_iload_n hx hb dX10_two_44 rfl (lv_at hl 1 rfl) ?_
    refine lv_if_ne (tgt := 52) hx hb dX10_two_45 (by decide) (fun hc => ?_) (fun hc => ?_)
    · have hf := jif_t hc hf
      refine lv_iconst (v := (1 : Int32)) hx hb dX10_two_52 (by decide) ?_
      refine lv_goto (tgt := 57) hx hb dX10_two_53 (by decide) ?_
      exact ret_i C hP hS hf rfl dX10_two_57
    · have hf := jif_n hc hf
      refine lv_iload_n hx hb dX10_two_48 rfl (lv_at hl 2 rfl) ?_
      refine lv_if_eq (tgt := 56) hx hb dX10_two_49 (by decide) (fun hc => ?_) (fun hc => ?_)
      · have hf := jif_t hc hf
        refine lv_iconst (v := (0 : Int32)) hx hb dX10_two_56 (by decide) ?_
        exact ret_i C hP hS hf rfl dX10_two_57
      · have hf := jif_f hc hf
        refine lv_iconst (v := (1 : Int32)) hx hb dX10_two_52 (by decide) ?_
        refine lv_goto (tgt := 57) hx hb dX10_two_53 (by decide) ?_
        exact ret_i C hP hS hf rfl dX10_two_57
  · have hf := jif_f hk111 hf
    by_cases hk112 : x1 = (12 : Int32)
    · have hf := jif_t hk112 hf
      refine sw_in (k := (12 : Int32)) (tgt := 58) C hk112 dX10_two_1 (by decide) (by decide) rfl (by decide) ?_
      refine lv_iload_n hx hb dX10_two_58 rfl (lv_at hl 1 rfl) ?_
      refine lv_if_eq (tgt := 70) hx hb dX10_two_59 (by decide) (fun hc => ?_) (fun hc => ?_)
      · have hf := jif_t hc hf
        refine lv_iconst (v := (0 : Int32)) hx hb dX10_two_70 (by decide) ?_
        exact ret_i C hP hS hf rfl dX10_two_71
      · have hf := jif_f hc hf
        refine lv_iload_n hx hb dX10_two_62 rfl (lv_at hl 2 rfl) ?_
        refine lv_if_eq (tgt := 70) hx hb dX10_two_63 (by decide) (fun hc => ?_) (fun hc => ?_)
        · have hf := jif_t hc hf
          refine lv_iconst (v := (0 : Int32)) hx hb dX10_two_70 (by decide) ?_
          exact ret_i C hP hS hf rfl dX10_two_71
        · have hf := jif_f hc hf
          refine lv_iconst (v := (1 : Int32)) hx hb dX10_two_66 (by decide) ?_
          refine lv_goto (tgt := 71) hx hb dX10_two_67 (by decide) ?_
          exact ret_i C hP hS hf rfl dX10_two_71
    · have hf := jif_f hk112 hf
      by_cases hk113 : x1 = (13 : Int32)
      · have hf := jif_t hk113 hf
        refine sw_in (k := (13 : Int32)) (tgt := 102) C hk113 dX10_two_1 (by decide) (by decide) rfl (by decide) ?_
        refine lv_iload_n hx hb dX10_two_102 rfl (lv_at hl 1 rfl) ?_
        refine lv_iload_n hx hb dX10_two_103 rfl (lv_at hl 2 rfl) ?_
        refine lv_imul hx hb dX10_two_104 ?_
        exact ret_i C hP hS hf rfl dX10_two_105
      · have hf := jif_f hk113 hf
        by_cases hk114 : x1 = (14 : Int32)
        · have hf := jif_t hk114 hf
          refine sw_in (k := (14 : Int32)) (tgt := 72) C hk114 dX10_two_1 (by decide) (by decide) rfl (by decide) ?_
          refine lv_iload_n hx hb dX10_two_72 rfl (lv_at hl 1 rfl) ?_
          refine lv_iload_n hx hb dX10_two_73 rfl (lv_at hl 2 rfl) ?_
          refine lv_icmp_ge (tgt := 81) hx hb dX10_two_74 (by decide) (fun hc => ?_) (fun hc => ?_)
          · have hf := jif_t hc hf
            refine lv_iconst (v := (0 : Int32)) hx hb dX10_two_81 (by decide) ?_
            exact ret_i C hP hS hf rfl dX10_two_82
          · have hf := jif_f hc hf
            refine lv_iconst (v := (1 : Int32)) hx hb dX10_two_77 (by decide) ?_
            refine lv_goto (tgt := 82) hx hb dX10_two_78 (by decide) ?_
            exact ret_i C hP hS hf rfl dX10_two_82
        · have hf := jif_f hk114 hf
          by_cases hk115 : x1 = (15 : Int32)
          · have hf := jif_t hk115 hf
            refine sw_in (k := (15 : Int32)) (tgt := 83) C hk115 dX10_two_1 (by decide) (by decide) rfl (by decide) ?_
            refine lv_iload_n hx hb dX10_two_83 rfl (lv_at hl 1 rfl) ?_
            refine lv_iload_n hx hb dX10_two_84 rfl (lv_at hl 2 rfl) ?_
            refine lv_icmp_ne (tgt := 92) hx hb dX10_two_85 (by decide) (fun hc => ?_) (fun hc => ?_)
            · have hf := jif_t hc hf
              refine lv_iconst (v := (0 : Int32)) hx hb dX10_two_92 (by decide) ?_
              exact ret_i C hP hS hf rfl dX10_two_93
            · have hf := jif_n hc hf
              refine lv_iconst (v := (1 : Int32)) hx hb dX10_two_88 (by decide) ?_
              refine lv_goto (tgt := 93) hx hb dX10_two_89 (by decide) ?_
              exact ret_i C hP hS hf rfl dX10_two_93
          · have hf := jif_f hk115 hf
            by_cases hk116 : x1 = (16 : Int32)
            · have hf := jif_t hk116 hf
              refine sw_in (k := (16 : Int32)) (tgt := 94) C hk116 dX10_two_1 (by decide) (by decide) rfl (by decide) ?_
              refine lv_iload_n hx hb dX10_two_94 rfl (lv_at hl 1 rfl) ?_
              refine lv_iload_n hx hb dX10_two_95 rfl (lv_at hl 2 rfl) ?_
              refine lv_iadd hx hb dX10_two_96 ?_
              exact ret_i C hP hS hf rfl dX10_two_97
            · have hf := jif_f hk116 hf
              by_cases hk117 : x1 = (17 : Int32)
              · have hf := jif_t hk117 hf
                refine sw_in (k := (17 : Int32)) (tgt := 98) C hk117 dX10_two_1 (by decide) (by decide) rfl (by decide) ?_
                refine lv_iload_n hx hb dX10_two_98 rfl (lv_at hl 1 rfl) ?_
                refine lv_iload_n hx hb dX10_two_99 rfl (lv_at hl 2 rfl) ?_
                refine lv_isub hx hb dX10_two_100 ?_
                exact ret_i C hP hS hf rfl dX10_two_101
              · have hf := jif_f hk117 hf
                refine lv_tableOut (tgt := 102) hx hb dX10_two_1 (by have q111 := lv_neT hk111 (a := 11) (by decide); have q112 := lv_neT hk112 (a := 12) (by decide); have q113 := lv_neT hk113 (a := 13) (by decide); have q114 := lv_neT hk114 (a := 14) (by decide); have q115 := lv_neT hk115 (a := 15) (by decide); have q116 := lv_neT hk116 (a := 16) (by decide); have q117 := lv_neT hk117 (a := 17) (by decide); omega) (by decide) ?_
                refine lv_iload_n hx hb dX10_two_102 rfl (lv_at hl 1 rfl) ?_
                refine lv_iload_n hx hb dX10_two_103 rfl (lv_at hl 2 rfl) ?_
                refine lv_imul hx hb dX10_two_104 ?_
                exact ret_i C hP hS hf rfl dX10_two_105
set_option maxHeartbeats 4000000 in
set_option maxRecDepth 100000 in
theorem k_X10_worth {l : Launch} {a : Nat → Nat} {cy : Nat → ClassId} {D : va_G} {A : Nat → Prop} (O : WO NM a (fun _ => True) A) {x1 : Int32} {r : Int32} {σ : ST} {σ' : ST} (hf : f_X10_worth x1 σ = some (r, σ')) : Met l yX10_worth (Cond.code yX10_worth cX10_worth 5 (some .int) :: WS) (rmk 1 22) (PC [.ref (a 0), .int x1] NM eM a cy D (fun _ => True) σ) (QI NM eM a cy D A r σ') 0 0 A := by
  refine met_go (own := "GuardsLookLeftModel") O (by decide +kernel) rfl (Nat.le_of_ble_eq_true rfl) ?_
  intro p e s m args below meth c ls C hP hS hl
  have hx := C.hx
  have hb := C.hb
  have hl : lv_has ls 5 [(0, .ref (a 0)), (1, .int x1)] := hl
  obtain ⟨H, hH⟩ : ∃ H, H = s.heap := ⟨_, rfl⟩
  rw [← hH] at hP
  have hS : va_S A s.heap H [] := by rw [hH]; exact va_S.rf
  suffices g : W p l e (rmk 1 22) s m args below meth c H [] 0 0 (MQ below (QI NM eM a cy D A r σ') args s 0 0 A) (F0 m 0 ls []) by rw [hH] at g; exact g
  clear hH
  obtain ⟨locs, hlocs⟩ : ∃ z : List Loc, z = [] := ⟨_, rfl⟩
  rw [← hlocs] at hS ⊢
  have hL191 : ∀ (k16 : Int32 → Int32 → Int32 → ST → Option (Int32 × ST)) (hk16 : (∀ (v1 : Int32) (v2 : Int32) (v3 : Int32) (s0 : ST) (H : Heap) (locs : List Loc) (ls : Array Slot), k16 v1 v2 v3 s0 = some (r, σ') → va_P D vwCl (wG NM eM a cy s0) H → va_S A s.heap H locs → lv_has ls 5 [(0, .ref (a 0)), (1, .int v1), (2, .int v2), (3, .int v3)] → W p l e (rmk 1 22) s m args below meth c H locs 0 0 (MQ below (QI NM eM a cy D A r σ') args s 0 0 A) (F0 m 16 ls []))), (∀ (v1 : Int32) (v2 : Int32) (v3 : Int32) (s0 : ST) (H : Heap) (locs : List Loc) (ls : Array Slot), f_X10_worth_L191 k16 v1 v2 v3 s0 = some (r, σ') → va_P D vwCl (wG NM eM a cy s0) H → va_S A s.heap H locs → lv_has ls 5 [(0, .ref (a 0)), (1, .int v1), (2, .int v2), (3, .int v3)] → W p l e (rmk 1 22) s m args below meth c H locs 0 0 (MQ below (QI NM eM a cy D A r σ') args s 0 0 A) (F0 m 191 ls [])) := by
    intro k16 hk16 v1 v2 v3 s0 H locs ls hf hP hS hl
    obtain ⟨y1, ey1, hf⟩ := jlet_e hf
    refine lv_iinc (v := y1) (lv' := [(3, .int y1), (0, .ref (a 0)), (1, .int v1), (2, .int v2)]) hx hb dX10_worth_191 hl (k := 3) rfl ey1 (by decide) rfl (fun ls hl => ?_)
    refine lv_goto (tgt := 16) hx hb dX10_worth_194 (by decide) ?_
    exact hk16 v1 v2 y1 s0 H locs ls hf hP hS (lv_sub hl [1, 2, 3, 0] rfl)
  have hL93 : ∀ (k16 : Int32 → Int32 → Int32 → ST → Option (Int32 × ST)) (hk16 : (∀ (v1 : Int32) (v2 : Int32) (v3 : Int32) (s0 : ST) (H : Heap) (locs : List Loc) (ls : Array Slot), k16 v1 v2 v3 s0 = some (r, σ') → va_P D vwCl (wG NM eM a cy s0) H → va_S A s.heap H locs → lv_has ls 5 [(0, .ref (a 0)), (1, .int v1), (2, .int v2), (3, .int v3)] → W p l e (rmk 1 22) s m args below meth c H locs 0 0 (MQ below (QI NM eM a cy D A r σ') args s 0 0 A) (F0 m 16 ls []))), (∀ (v1 : Int32) (v2 : Int32) (v3 : Int32) (t1 : Int32) (t2 : Int32) (s0 : ST) (H : Heap) (locs : List Loc) (ls : Array Slot), f_X10_worth_L93 k16 v1 v2 v3 t1 t2 s0 = some (r, σ') → va_P D vwCl (wG NM eM a cy s0) H → va_S A s.heap H locs → lv_has ls 5 [(0, .ref (a 0)), (1, .int v1), (2, .int v2), (3, .int v3)] → W p l e (rmk 1 22) s m args below meth c H locs 0 0 (MQ below (QI NM eM a cy D A r σ') args s 0 0 A) (F0 m 93 ls [.int t2, .int t1, .ref (a 20)])) := by
    intro k16 hk16 v1 v2 v3 t1 t2 s0 H locs ls hf hP hS hl
    obtain ⟨hi1, hf⟩ := jix_e hf
    refine r_iast C hP hS aM_20 hi1 dX10_worth_93 hf (fun H locs s2 hf hP hS => ?_)
    obtain ⟨y3, ey3, hf⟩ := jlet_e hf
    refine lv_iinc (v := y3) (lv' := [(2, .int y3), (0, .ref (a 0)), (1, .int v1), (3, .int v3)]) hx hb dX10_worth_94 hl (k := 2) rfl ey3 (by decide) rfl (fun ls hl => ?_)
    refine lv_goto (tgt := 191) hx hb dX10_worth_97 (by decide) ?_
    exact hL191 k16 hk16 v1 y3 v3 s2 H locs ls hf hP hS (lv_sub hl [1, 2, 0, 3] rfl)
  have hL66 : ∀ (k16 : Int32 → Int32 → Int32 → ST → Option (Int32 × ST)) (hk16 : (∀ (v1 : Int32) (v2 : Int32) (v3 : Int32) (s0 : ST) (H : Heap) (locs : List Loc) (ls : Array Slot), k16 v1 v2 v3 s0 = some (r, σ') → va_P D vwCl (wG NM eM a cy s0) H → va_S A s.heap H locs → lv_has ls 5 [(0, .ref (a 0)), (1, .int v1), (2, .int v2), (3, .int v3)] → W p l e (rmk 1 22) s m args below meth c H locs 0 0 (MQ below (QI NM eM a cy D A r σ') args s 0 0 A) (F0 m 16 ls []))), (∀ (v1 : Int32) (v2 : Int32) (v3 : Int32) (v4 : Int32) (s0 : ST) (H : Heap) (locs : List Loc) (ls : Array Slot), f_X10_worth_L66 k16 v1 v2 v3 v4 s0 = some (r, σ') → va_P D vwCl (wG NM eM a cy s0) H → va_S A s.heap H locs → lv_has ls 5 [(0, .ref (a 0)), (1, .int v1), (2, .int v2), (3, .int v3), (4, .int v4)] → W p l e (rmk 1 22) s m args below meth c H locs 0 0 (MQ below (QI NM eM a cy D A r σ') args s 0 0 A) (F0 m 66 ls [])) := by
    intro k16 hk16 v1 v2 v3 v4 s0 H locs ls hf hP hS hl
    refine lv_aload_n hx hb dX10_worth_66 rfl (lv_at hl 0 rfl) ?_
    refine gf_X10_33 C hP wk_4_230 dX10_worth_67 ?_
    refine lv_iload_n hx hb dX10_worth_70 rfl (lv_at hl 2 rfl) ?_
    refine lv_iload hx hb dX10_worth_71 (lv_at hl 4 rfl) ?_
    refine lv_bipush (v := (11 : Int32)) hx hb dX10_worth_73 (by decide) ?_
    refine lv_icmp_ge (tgt := 88) hx hb dX10_worth_75 (by decide) (fun hc => ?_) (fun hc => ?_)
    · have hf := jif_t hc hf
      refine lv_iload hx hb dX10_worth_88 (lv_at hl 4 rfl) ?_
      refine lv_ldc hx hb C.hown (C.ts _ wk_4_169) dX10_worth_90 ?_
      refine lv_isub hx hb dX10_worth_92 ?_
      exact hL93 k16 hk16 v1 v2 v3 v2 (v4 - (100000 : Int32)) s0 H locs ls hf hP hS (lv_sub hl [0, 1, 2, 3] rfl)
    · have hf := jif_f hc hf
      refine lv_aload_n hx hb dX10_worth_78 rfl (lv_at hl 0 rfl) ?_
      refine gf_X10_34 C hP wk_4_231 dX10_worth_79 ?_
      refine lv_iload hx hb dX10_worth_82 (lv_at hl 4 rfl) ?_
      obtain ⟨hi1, hf⟩ := jix_e hf
      refine r_iald C hP aM_21 hi1 dX10_worth_84 ?_
      refine lv_goto (tgt := 93) hx hb dX10_worth_85 (by decide) ?_
      exact hL93 k16 hk16 v1 v2 v3 v2 (gA s0 21 (Int32.toNatClampNeg v4)) s0 H locs ls hf hP hS (lv_sub hl [0, 1, 2, 3] rfl)
  have hL130 : ∀ (k16 : Int32 → Int32 → Int32 → ST → Option (Int32 × ST)) (hk16 : (∀ (v1 : Int32) (v2 : Int32) (v3 : Int32) (s0 : ST) (H : Heap) (locs : List Loc) (ls : Array Slot), k16 v1 v2 v3 s0 = some (r, σ') → va_P D vwCl (wG NM eM a cy s0) H → va_S A s.heap H locs → lv_has ls 5 [(0, .ref (a 0)), (1, .int v1), (2, .int v2), (3, .int v3)] → W p l e (rmk 1 22) s m args below meth c H locs 0 0 (MQ below (QI NM eM a cy D A r σ') args s 0 0 A) (F0 m 16 ls []))), (∀ (v1 : Int32) (v2 : Int32) (v3 : Int32) (t1 : Int32) (t2 : Int32) (s0 : ST) (H : Heap) (locs : List Loc) (ls : Array Slot), f_X10_worth_L130 k16 v1 v2 v3 t1 t2 s0 = some (r, σ') → va_P D vwCl (wG NM eM a cy s0) H → va_S A s.heap H locs → lv_has ls 5 [(0, .ref (a 0)), (1, .int v1), (2, .int v2), (3, .int v3)] → W p l e (rmk 1 22) s m args below meth c H locs 0 0 (MQ below (QI NM eM a cy D A r σ') args s 0 0 A) (F0 m 130 ls [.int t2, .int t1, .ref (a 20)])) := by
    intro k16 hk16 v1 v2 v3 t1 t2 s0 H locs ls hf hP hS hl
    obtain ⟨hi1, hf⟩ := jix_e hf
    refine r_iast C hP hS aM_20 hi1 dX10_worth_130 hf (fun H locs s2 hf hP hS => ?_)
    refine lv_goto (tgt := 191) hx hb dX10_worth_131 (by decide) ?_
    exact hL191 k16 hk16 v1 v2 v3 s2 H locs ls hf hP hS (lv_sub hl [0, 1, 2, 3] rfl)
  have hL16 : ∀ (n : Nat), (∀ (v1 : Int32) (v2 : Int32) (v3 : Int32) (s0 : ST) (H : Heap) (locs : List Loc) (ls : Array Slot), f_X10_worth_L16 n v1 v2 v3 s0 = some (r, σ') → va_P D vwCl (wG NM eM a cy s0) H → va_S A s.heap H locs → lv_has ls 5 [(0, .ref (a 0)), (1, .int v1), (2, .int v2), (3, .int v3)] → W p l e (rmk 1 22) s m args below meth c H locs 0 0 (MQ below (QI NM eM a cy D A r σ') args s 0 0 A) (F0 m 16 ls [])) := by
    intro n
    induction n with
    | zero => intro v1 v2 v3 s0 H locs ls hf hP hS hl; exact no_o hf
    | succ n ih =>
      intro v1 v2 v3 s0 H locs ls hf hP hS hl
      have hf := (ef_X10_worth_L16 _ _ _ _).symm.trans hf
      refine lv_iload_n hx hb dX10_worth_16 rfl (lv_at hl 3 rfl) ?_
      refine lv_aload_n hx hb dX10_worth_17 rfl (lv_at hl 0 rfl) ?_
      refine gf_X10_11 C hP wk_4_208 dX10_worth_18 ?_
      refine lv_iconst (v := (4 : Int32)) hx hb dX10_worth_21 (by decide) ?_
      refine lv_aload_n hx hb dX10_worth_22 rfl (lv_at hl 0 rfl) ?_
      refine gf_X10_13 C hP wk_4_210 dX10_worth_23 ?_
      refine lv_imul hx hb dX10_worth_26 ?_
      refine lv_iload_n hx hb dX10_worth_27 rfl (lv_at hl 1 rfl) ?_
      refine lv_iadd hx hb dX10_worth_28 ?_
      refine lv_iconst (v := (1 : Int32)) hx hb dX10_worth_29 (by decide) ?_
      refine lv_iadd hx hb dX10_worth_30 ?_
      obtain ⟨hi1, hf⟩ := jix_e hf
      refine r_iald C hP aM_10 hi1 dX10_worth_31 ?_
      refine lv_icmp_ge (tgt := 197) hx hb dX10_worth_32 (by decide) (fun hc => ?_) (fun hc => ?_)
      · have hf := jif_t hc hf
        refine lv_aload_n hx hb dX10_worth_197 rfl (lv_at hl 0 rfl) ?_
        refine gf_X10_33 C hP wk_4_230 dX10_worth_198 ?_
        refine lv_iconst (v := (0 : Int32)) hx hb dX10_worth_201 (by decide) ?_
        refine r_iald C hP aM_20 (vp_lit (by decide)) dX10_worth_202 ?_
        exact ret_i C hP hS (Prod.mk.inj (Option.some.inj hf)).1 (Prod.mk.inj (Option.some.inj hf)).2 dX10_worth_203
      · have hf := jif_f hc hf
        refine lv_aload_n hx hb dX10_worth_35 rfl (lv_at hl 0 rfl) ?_
        refine gf_X10_10 C hP wk_4_207 dX10_worth_36 ?_
        refine lv_sipush (v := (200 : Int32)) hx hb dX10_worth_39 (by decide) ?_
        refine lv_aload_n hx hb dX10_worth_42 rfl (lv_at hl 0 rfl) ?_
        refine gf_X10_13 C hP wk_4_210 dX10_worth_43 ?_
        refine lv_imul hx hb dX10_worth_46 ?_
        refine lv_iload_n hx hb dX10_worth_47 rfl (lv_at hl 3 rfl) ?_
        refine lv_iadd hx hb dX10_worth_48 ?_
        obtain ⟨hi2, hf⟩ := jix_e hf
        refine r_iald C hP aM_9 hi2 dX10_worth_49 ?_
        refine jl_topi hf (fun y3 hf => ?_)
        refine lv_istore (lv' := [(4, .int y3), (0, .ref (a 0)), (1, .int v1), (2, .int v2), (3, .int v3)]) hx hb dX10_worth_50 hl (by decide) rfl (fun ls hl => ?_)
        refine lv_iload hx hb dX10_worth_52 (lv_at hl 0 rfl) ?_
        refine lv_ldc hx hb C.hown (C.ts _ wk_4_169) dX10_worth_54 ?_
        refine lv_icmp_ge (tgt := 66) hx hb dX10_worth_56 (by decide) (fun hc => ?_) (fun hc => ?_)
        · have hf := jif_t hc hf
          exact hL66 (f_X10_worth_L16 n) ih v1 v2 v3 y3 s0 H locs ls hf hP hS (lv_sub hl [1, 2, 3, 4, 0] rfl)
        · have hf := jif_f hc hf
          refine lv_iload hx hb dX10_worth_59 (lv_at hl 0 rfl) ?_
          refine lv_bipush (v := (11 : Int32)) hx hb dX10_worth_61 (by decide) ?_
          refine lv_icmp_ge (tgt := 100) hx hb dX10_worth_63 (by decide) (fun hc => ?_) (fun hc => ?_)
          · have hf := jif_t hc hf
            refine lv_iload hx hb dX10_worth_100 (lv_at hl 0 rfl) ?_
            refine lv_bipush (v := (13 : Int32)) hx hb dX10_worth_102 (by decide) ?_
            refine lv_icmp_ne (tgt := 134) hx hb dX10_worth_104 (by decide) (fun hc => ?_) (fun hc => ?_)
            · have hf := jif_t hc hf
              refine lv_iload hx hb dX10_worth_134 (lv_at hl 0 rfl) ?_
              refine lv_bipush (v := (19 : Int32)) hx hb dX10_worth_136 (by decide) ?_
              refine lv_icmp_ne (tgt := 161) hx hb dX10_worth_138 (by decide) (fun hc => ?_) (fun hc => ?_)
              · have hf := jif_t hc hf
                obtain ⟨y4, ey4, hf⟩ := jlet_e hf
                refine lv_iinc (v := y4) (lv' := [(2, .int y4), (4, .int y3), (0, .ref (a 0)), (1, .int v1), (3, .int v3)]) hx hb dX10_worth_161 hl (k := 3) rfl ey4 (by decide) rfl (fun ls hl => ?_)
                refine lv_aload_n hx hb dX10_worth_164 rfl (lv_at hl 2 rfl) ?_
                refine gf_X10_33 C hP wk_4_230 dX10_worth_165 ?_
                refine lv_iload_n hx hb dX10_worth_168 rfl (lv_at hl 0 rfl) ?_
                refine lv_iconst (v := (1 : Int32)) hx hb dX10_worth_169 (by decide) ?_
                refine lv_isub hx hb dX10_worth_170 ?_
                refine lv_iload hx hb dX10_worth_171 (lv_at hl 1 rfl) ?_
                refine lv_aload_n hx hb dX10_worth_173 rfl (lv_at hl 2 rfl) ?_
                refine gf_X10_33 C hP wk_4_230 dX10_worth_174 ?_
                refine lv_iload_n hx hb dX10_worth_177 rfl (lv_at hl 0 rfl) ?_
                refine lv_iconst (v := (1 : Int32)) hx hb dX10_worth_178 (by decide) ?_
                refine lv_isub hx hb dX10_worth_179 ?_
                obtain ⟨hi5, hf⟩ := jix_e hf
                refine r_iald C hP aM_20 hi5 dX10_worth_180 ?_
                refine lv_aload_n hx hb dX10_worth_181 rfl (lv_at hl 2 rfl) ?_
                refine gf_X10_33 C hP wk_4_230 dX10_worth_182 ?_
                refine lv_iload_n hx hb dX10_worth_185 rfl (lv_at hl 0 rfl) ?_
                obtain ⟨hi6, hf⟩ := jix_e hf
                refine r_iald C hP aM_20 hi6 dX10_worth_186 ?_
                refine r_ci (r_runS (As := [.int y3, .int (gA s0 20 (Int32.toNatClampNeg (y4 - (1 : Int32)))), .int (gA s0 20 (Int32.toNatClampNeg y4))]) (rest := [.int (y4 - (1 : Int32)), .ref (a 20)]) C hP hS (k_X10_two (l := l) O (σ := s0) rfl) mw_X10_two ms_X10_two wk_5_139 ⟨Nat.le_of_ble_eq_true rfl, Nat.le_of_ble_eq_true rfl⟩ ⟨rfl, rfl⟩ ⟨Nat.zero_le _, Nat.zero_le _⟩ rfl hl.1 rfl (Nat.le_of_ble_eq_true rfl) dX10_worth_187) hS (fun H locs hP hS => ?_)
                refine jl_topi hf (fun y7 hf => ?_)
                obtain ⟨hi9, hf⟩ := jix_e hf
                refine r_iast C hP hS aM_20 hi9 dX10_worth_190 hf (fun H locs s10 hf hP hS => ?_)
                exact hL191 (f_X10_worth_L16 n) ih v1 y4 v3 s10 H locs ls hf hP hS (lv_sub hl [2, 3, 0, 4] rfl)
              · have hf := jif_n hc hf
                refine lv_aload_n hx hb dX10_worth_141 rfl (lv_at hl 1 rfl) ?_
                refine gf_X10_33 C hP wk_4_230 dX10_worth_142 ?_
                refine lv_iload_n hx hb dX10_worth_145 rfl (lv_at hl 3 rfl) ?_
                refine lv_iconst (v := (1 : Int32)) hx hb dX10_worth_146 (by decide) ?_
                refine lv_isub hx hb dX10_worth_147 ?_
                refine lv_aload_n hx hb dX10_worth_148 rfl (lv_at hl 1 rfl) ?_
                refine gf_X10_33 C hP wk_4_230 dX10_worth_149 ?_
                refine lv_iload_n hx hb dX10_worth_152 rfl (lv_at hl 3 rfl) ?_
                refine lv_iconst (v := (1 : Int32)) hx hb dX10_worth_153 (by decide) ?_
                refine lv_isub hx hb dX10_worth_154 ?_
                obtain ⟨hi11, hf⟩ := jix_e hf
                refine r_iald C hP aM_20 hi11 dX10_worth_155 ?_
                refine lv_ineg hx hb dX10_worth_156 ?_
                obtain ⟨hi12, hf⟩ := jix_e hf
                refine r_iast C hP hS aM_20 hi12 dX10_worth_157 hf (fun H locs s13 hf hP hS => ?_)
                refine lv_goto (tgt := 191) hx hb dX10_worth_158 (by decide) ?_
                exact hL191 (f_X10_worth_L16 n) ih v1 v2 v3 s13 H locs ls hf hP hS (lv_sub hl [1, 2, 3, 4] rfl)
            · have hf := jif_n hc hf
              refine lv_aload_n hx hb dX10_worth_107 rfl (lv_at hl 1 rfl) ?_
              refine gf_X10_33 C hP wk_4_230 dX10_worth_108 ?_
              refine lv_iload_n hx hb dX10_worth_111 rfl (lv_at hl 3 rfl) ?_
              refine lv_iconst (v := (1 : Int32)) hx hb dX10_worth_112 (by decide) ?_
              refine lv_isub hx hb dX10_worth_113 ?_
              refine lv_aload_n hx hb dX10_worth_114 rfl (lv_at hl 1 rfl) ?_
              refine gf_X10_33 C hP wk_4_230 dX10_worth_115 ?_
              refine lv_iload_n hx hb dX10_worth_118 rfl (lv_at hl 3 rfl) ?_
              refine lv_iconst (v := (1 : Int32)) hx hb dX10_worth_119 (by decide) ?_
              refine lv_isub hx hb dX10_worth_120 ?_
              obtain ⟨hi14, hf⟩ := jix_e hf
              refine r_iald C hP aM_20 hi14 dX10_worth_121 ?_
              refine lv_if_ne (tgt := 129) hx hb dX10_worth_122 (by decide) (fun hc => ?_) (fun hc => ?_)
              · have hf := jif_t hc hf
                refine lv_iconst (v := (0 : Int32)) hx hb dX10_worth_129 (by decide) ?_
                exact hL130 (f_X10_worth_L16 n) ih v1 v2 v3 (v2 - (1 : Int32)) (0 : Int32) s0 H locs ls hf hP hS (lv_sub hl [1, 2, 3, 4] rfl)
              · have hf := jif_n hc hf
                refine lv_iconst (v := (1 : Int32)) hx hb dX10_worth_125 (by decide) ?_
                refine lv_goto (tgt := 130) hx hb dX10_worth_126 (by decide) ?_
                exact hL130 (f_X10_worth_L16 n) ih v1 v2 v3 (v2 - (1 : Int32)) (1 : Int32) s0 H locs ls hf hP hS (lv_sub hl [1, 2, 3, 4] rfl)
          · have hf := jif_f hc hf
            exact hL66 (f_X10_worth_L16 n) ih v1 v2 v3 y3 s0 H locs ls hf hP hS (lv_sub hl [1, 2, 3, 4, 0] rfl)
  refine lv_iconst (v := (0 : Int32)) hx hb dX10_worth_0 (by decide) ?_
  refine lv_istore_n (lv' := [(2, .int (0 : Int32)), (0, .ref (a 0)), (1, .int x1)]) hx hb dX10_worth_1 rfl hl (by decide) rfl (fun ls hl => ?_)
  refine lv_aload_n hx hb dX10_worth_2 rfl (lv_at hl 1 rfl) ?_
  refine gf_X10_11 C hP wk_4_208 dX10_worth_3 ?_
  refine lv_iconst (v := (4 : Int32)) hx hb dX10_worth_6 (by decide) ?_
  refine lv_aload_n hx hb dX10_worth_7 rfl (lv_at hl 1 rfl) ?_
  refine gf_X10_13 C hP wk_4_210 dX10_worth_8 ?_
  refine lv_imul hx hb dX10_worth_11 ?_
  refine lv_iload_n hx hb dX10_worth_12 rfl (lv_at hl 2 rfl) ?_
  refine lv_iadd hx hb dX10_worth_13 ?_
  obtain ⟨hi1, hf⟩ := jix_e hf
  refine r_iald C hP aM_10 hi1 dX10_worth_14 ?_
  refine jl_topi hf (fun y2 hf => ?_)
  refine lv_istore_n (lv' := [(3, .int y2), (2, .int (0 : Int32)), (0, .ref (a 0)), (1, .int x1)]) hx hb dX10_worth_15 rfl hl (by decide) rfl (fun ls hl => ?_)
  exact hL16 FU x1 (0 : Int32) y2 σ H locs ls hf hP hS (lv_sub hl [2, 3, 1, 0] rfl)
set_option maxHeartbeats 4000000 in
set_option maxRecDepth 100000 in
theorem k_X10_force {l : Launch} {a : Nat → Nat} {cy : Nat → ClassId} {D : va_G} {A : Nat → Prop} (O : WO NM a (fun _ => True) A) {x1 : Int32} {r : Int32} {σ : ST} {σ' : ST} (hf : f_X10_force x1 σ = (r, σ')) : Met l yX10_force (Cond.code yX10_force cX10_force 3 (some .int) :: WS) (rmk 1 22) (PC [.ref (a 0), .int x1] NM eM a cy D (fun _ => True) σ) (QI NM eM a cy D A r σ') 0 0 A := by
  refine met_go (own := "GuardsLookLeftModel") O (by decide +kernel) rfl (Nat.le_of_ble_eq_true rfl) ?_
  intro p e s m args below meth c ls C hP hS hl
  have hx := C.hx
  have hb := C.hb
  have hl : lv_has ls 3 [(0, .ref (a 0)), (1, .int x1)] := hl
  obtain ⟨H, hH⟩ : ∃ H, H = s.heap := ⟨_, rfl⟩
  rw [← hH] at hP
  have hS : va_S A s.heap H [] := by rw [hH]; exact va_S.rf
  suffices g : W p l e (rmk 1 22) s m args below meth c H [] 0 0 (MQ below (QI NM eM a cy D A r σ') args s 0 0 A) (F0 m 0 ls []) by rw [hH] at g; exact g
  clear hH
  obtain ⟨locs, hlocs⟩ : ∃ z : List Loc, z = [] := ⟨_, rfl⟩
  rw [← hlocs] at hS ⊢
  refine lv_iload_n hx hb dX10_force_0 rfl (lv_at hl 1 rfl) ?_
  refine lv_iconst (v := (0 : Int32)) hx hb dX10_force_1 (by decide) ?_
  refine lv_aload_n hx hb dX10_force_2 rfl (lv_at hl 0 rfl) ?_
  refine gf_X10_12 C hP wk_4_209 dX10_force_3 ?_
  refine lv_iconst (v := (1 : Int32)) hx hb dX10_force_6 (by decide) ?_
  refine lv_isub hx hb dX10_force_7 ?_
  refine r_cz (r_runS (As := [.int x1, .int (0 : Int32), .int ((gA σ 0 12) - (1 : Int32))]) (rest := []) C hP hS (k_X10_in (l := l) O (σ := σ) rfl) mw_X10_in ms_X10_in wk_4_158 ⟨Nat.le_of_ble_eq_true rfl, Nat.le_of_ble_eq_true rfl⟩ ⟨rfl, rfl⟩ ⟨Nat.zero_le _, Nat.zero_le _⟩ rfl hl.1 rfl (Nat.le_of_ble_eq_true rfl) dX10_force_8) hS (fun H locs hzy1 hP hS => ?_)
  refine jl_topz hf hzy1 (fun y1 hzy1 hf => ?_)
  refine lv_if_ne (tgt := 17) hx hb dX10_force_11 (by decide) (fun hc => ?_) (fun hc => ?_)
  · have hf := jif_t hc hf
    refine lv_aload_n hx hb dX10_force_17 rfl (lv_at hl 0 rfl) ?_
    refine gf_X10_13 C hP wk_4_210 dX10_force_18 ?_
    refine jl_topi hf (fun y3 hf => ?_)
    refine lv_istore_n (lv' := [(2, .int y3), (0, .ref (a 0)), (1, .int x1)]) hx hb dX10_force_21 rfl hl (by decide) rfl (fun ls hl => ?_)
    refine lv_aload_n hx hb dX10_force_22 rfl (lv_at hl 1 rfl) ?_
    refine lv_iload_n hx hb dX10_force_23 rfl (lv_at hl 2 rfl) ?_
    refine pf_X10_13 C hP hS wk_4_210 dX10_force_24 hf (fun H locs s4 hf hP hS => ?_)
    refine lv_iload_n hx hb dX10_force_27 rfl (lv_at hl 0 rfl) ?_
    exact ret_i C hP hS (Prod.mk.inj hf).1 (Prod.mk.inj hf).2 dX10_force_28
  · have hf := jif_n hc hf
    refine lv_bipush (v := (-2 : Int32)) hx hb dX10_force_14 (by decide) ?_
    exact ret_i C hP hS (Prod.mk.inj hf).1 (Prod.mk.inj hf).2 dX10_force_16
set_option maxHeartbeats 4000000 in
set_option maxRecDepth 100000 in
theorem k_X10_asksOf {l : Launch} {a : Nat → Nat} {cy : Nat → ClassId} {D : va_G} {A : Nat → Prop} (O : WO NM a (fun _ => True) A) {x1 : Int32} {x2 : Int32} {x3 : Int32} {x4 : Int32} {x5 : Int32} {x6 : Int32} {x7 : Int32} {r : Int32} {σ : ST} {σ' : ST} (hf : f_X10_asksOf x1 x2 x3 x4 x5 x6 x7 σ = some (r, σ')) : Met l yX10_asksOf (Cond.code yX10_asksOf cX10_asksOf 9 (some .int) :: WS) (rmk 2 46) (PC [.ref (a 0), .int x1, .int x2, .int x3, .int x4, .int x5, .int x6, .int x7] NM eM a cy D (fun _ => True) σ) (QI NM eM a cy D A r σ') 0 0 A := by
  refine met_go (own := "GuardsLookLeftModel") O (by decide +kernel) rfl (Nat.le_of_ble_eq_true rfl) ?_
  intro p e s m args below meth c ls C hP hS hl
  have hx := C.hx
  have hb := C.hb
  have hl : lv_has ls 9 [(0, .ref (a 0)), (1, .int x1), (2, .int x2), (3, .int x3), (4, .int x4), (5, .int x5), (6, .int x6), (7, .int x7)] := hl
  obtain ⟨H, hH⟩ : ∃ H, H = s.heap := ⟨_, rfl⟩
  rw [← hH] at hP
  have hS : va_S A s.heap H [] := by rw [hH]; exact va_S.rf
  suffices g : W p l e (rmk 2 46) s m args below meth c H [] 0 0 (MQ below (QI NM eM a cy D A r σ') args s 0 0 A) (F0 m 0 ls []) by rw [hH] at g; exact g
  clear hH
  obtain ⟨locs, hlocs⟩ : ∃ z : List Loc, z = [] := ⟨_, rfl⟩
  rw [← hlocs] at hS ⊢
  have hL85 : (∀ (t0 : Int32) (t1 : Int32) (t2 : Int32) (s0 : ST) (H : Heap) (locs : List Loc) (ls : Array Slot), f_X10_asksOf_L85 t0 t1 t2 s0 = some (r, σ') → va_P D vwCl (wG NM eM a cy s0) H → va_S A s.heap H locs → lv_has ls 9 [] → W p l e (rmk 2 46) s m args below meth c H locs 0 0 (MQ below (QI NM eM a cy D A r σ') args s 0 0 A) (F0 m 85 ls [.int t2, .int t1, .int t0])) := by
    intro t0 t1 t2 s0 H locs ls hf hP hS hl
    refine r_ci (r_runS (As := [.int t0, .int t1, .int t2]) (rest := []) C hP hS (k_X10_within (l := l) O (σ := s0) rfl) mw_X10_within ms_X10_within wk_5_142 ⟨Nat.le_of_ble_eq_true rfl, Nat.le_of_ble_eq_true rfl⟩ ⟨rfl, rfl⟩ ⟨Nat.zero_le _, Nat.zero_le _⟩ rfl hl.1 rfl (Nat.le_of_ble_eq_true rfl) dX10_asksOf_85) hS (fun H locs hP hS => ?_)
    refine jl_topi hf (fun y1 hf => ?_)
    exact ret_i C hP hS (Prod.mk.inj (Option.some.inj hf)).1 (Prod.mk.inj (Option.some.inj hf)).2 dX10_asksOf_88
  refine lv_aload_n hx hb dX10_asksOf_0 rfl (lv_at hl 0 rfl) ?_
  refine gf_X10_34 C hP wk_4_231 dX10_asksOf_1 ?_
  refine lv_iconst (v := (0 : Int32)) hx hb dX10_asksOf_4 (by decide) ?_
  refine lv_iload_n hx hb dX10_asksOf_5 rfl (lv_at hl 2 rfl) ?_
  refine r_iast C hP hS aM_21 (vp_lit (by decide)) dX10_asksOf_6 hf (fun H locs s1 hf hP hS => ?_)
  refine lv_aload_n hx hb dX10_asksOf_7 rfl (lv_at hl 0 rfl) ?_
  refine gf_X10_34 C hP wk_4_231 dX10_asksOf_8 ?_
  refine lv_iconst (v := (1 : Int32)) hx hb dX10_asksOf_11 (by decide) ?_
  refine lv_iload_n hx hb dX10_asksOf_12 rfl (lv_at hl 3 rfl) ?_
  refine r_iast C hP hS aM_21 (vp_lit (by decide)) dX10_asksOf_13 hf (fun H locs s2 hf hP hS => ?_)
  refine lv_aload_n hx hb dX10_asksOf_14 rfl (lv_at hl 0 rfl) ?_
  refine gf_X10_34 C hP wk_4_231 dX10_asksOf_15 ?_
  refine lv_iconst (v := (2 : Int32)) hx hb dX10_asksOf_18 (by decide) ?_
  refine lv_iload hx hb dX10_asksOf_19 (lv_at hl 4 rfl) ?_
  refine r_iast C hP hS aM_21 (vp_lit (by decide)) dX10_asksOf_21 hf (fun H locs s3 hf hP hS => ?_)
  refine lv_aload_n hx hb dX10_asksOf_22 rfl (lv_at hl 0 rfl) ?_
  refine gf_X10_34 C hP wk_4_231 dX10_asksOf_23 ?_
  refine lv_iconst (v := (3 : Int32)) hx hb dX10_asksOf_26 (by decide) ?_
  refine lv_iload hx hb dX10_asksOf_27 (lv_at hl 5 rfl) ?_
  refine r_iast C hP hS aM_21 (vp_lit (by decide)) dX10_asksOf_29 hf (fun H locs s4 hf hP hS => ?_)
  refine lv_aload_n hx hb dX10_asksOf_30 rfl (lv_at hl 0 rfl) ?_
  refine gf_X10_34 C hP wk_4_231 dX10_asksOf_31 ?_
  refine lv_iconst (v := (4 : Int32)) hx hb dX10_asksOf_34 (by decide) ?_
  refine lv_iload hx hb dX10_asksOf_35 (lv_at hl 6 rfl) ?_
  refine r_iast C hP hS aM_21 (vp_lit (by decide)) dX10_asksOf_37 hf (fun H locs s5 hf hP hS => ?_)
  refine lv_aload_n hx hb dX10_asksOf_38 rfl (lv_at hl 0 rfl) ?_
  refine gf_X10_34 C hP wk_4_231 dX10_asksOf_39 ?_
  refine lv_iconst (v := (5 : Int32)) hx hb dX10_asksOf_42 (by decide) ?_
  refine lv_iload hx hb dX10_asksOf_43 (lv_at hl 7 rfl) ?_
  refine r_iast C hP hS aM_21 (vp_lit (by decide)) dX10_asksOf_45 hf (fun H locs s6 hf hP hS => ?_)
  refine lv_aload_n hx hb dX10_asksOf_46 rfl (lv_at hl 0 rfl) ?_
  refine lv_iload_n hx hb dX10_asksOf_47 rfl (lv_at hl 1 rfl) ?_
  obtain ⟨y7, s8, hc, hf⟩ := jbp_e hf
  refine r_ci (r_runV (As := [.int x1]) (rest := []) C hP hS (va_recv C.hK hP (q0 := 0) (ci := 10) rfl (by rw [g_at oM_10.1, oM_10.2])) (k_X10_worth (l := l) O hc) mw_X10_worth mi_X10_worth mv_X10_worth wk_5_135 ⟨Nat.le_of_ble_eq_true rfl, Nat.le_of_ble_eq_true rfl⟩ ⟨rfl, rfl⟩ ⟨Nat.zero_le _, Nat.zero_le _⟩ rfl hl.1 rfl (Nat.le_of_ble_eq_true rfl) dX10_asksOf_48) hS (fun H locs hP hS => ?_)
  refine lv_istore (lv' := [(8, .int y7), (0, .ref (a 0)), (1, .int x1), (2, .int x2), (3, .int x3), (4, .int x4), (5, .int x5), (6, .int x6), (7, .int x7)]) hx hb dX10_asksOf_51 hl (by decide) rfl (fun ls hl => ?_)
  refine lv_iload_n hx hb dX10_asksOf_53 rfl (lv_at hl 2 rfl) ?_
  refine lv_iconst (v := (1 : Int32)) hx hb dX10_asksOf_54 (by decide) ?_
  refine lv_icmp_ne (tgt := 71) hx hb dX10_asksOf_55 (by decide) (fun hc => ?_) (fun hc => ?_)
  · have hf := jif_t hc hf
    refine lv_iload hx hb dX10_asksOf_71 (lv_at hl 0 rfl) ?_
    refine lv_iconst (v := (0 : Int32)) hx hb dX10_asksOf_73 (by decide) ?_
    refine lv_iload_n hx hb dX10_asksOf_74 rfl (lv_at hl 2 rfl) ?_
    refine lv_if_ne (tgt := 83) hx hb dX10_asksOf_75 (by decide) (fun hc => ?_) (fun hc => ?_)
    · have hf := jif_t hc hf
      refine lv_bipush (v := (99 : Int32)) hx hb dX10_asksOf_83 (by decide) ?_
      exact hL85 y7 (0 : Int32) (99 : Int32) s8 H locs ls hf hP hS (lv_sub hl [] rfl)
    · have hf := jif_n hc hf
      refine lv_bipush (v := (9 : Int32)) hx hb dX10_asksOf_78 (by decide) ?_
      refine lv_goto (tgt := 85) hx hb dX10_asksOf_80 (by decide) ?_
      exact hL85 y7 (0 : Int32) (9 : Int32) s8 H locs ls hf hP hS (lv_sub hl [] rfl)
  · have hf := jif_n hc hf
    refine lv_iload hx hb dX10_asksOf_58 (lv_at hl 0 rfl) ?_
    refine lv_if_ne (tgt := 67) hx hb dX10_asksOf_60 (by decide) (fun hc => ?_) (fun hc => ?_)
    · have hf := jif_t hc hf
      refine lv_iconst (v := (1 : Int32)) hx hb dX10_asksOf_67 (by decide) ?_
      refine lv_goto (tgt := 88) hx hb dX10_asksOf_68 (by decide) ?_
      exact ret_i C hP hS (Prod.mk.inj (Option.some.inj hf)).1 (Prod.mk.inj (Option.some.inj hf)).2 dX10_asksOf_88
    · have hf := jif_n hc hf
      refine lv_iconst (v := (0 : Int32)) hx hb dX10_asksOf_63 (by decide) ?_
      refine lv_goto (tgt := 88) hx hb dX10_asksOf_64 (by decide) ?_
      exact ret_i C hP hS (Prod.mk.inj (Option.some.inj hf)).1 (Prod.mk.inj (Option.some.inj hf)).2 dX10_asksOf_88
set_option maxHeartbeats 4000000 in
set_option maxRecDepth 100000 in
theorem k_X10_asks {l : Launch} {a : Nat → Nat} {cy : Nat → ClassId} {D : va_G} {A : Nat → Prop} (O : WO NM a (fun _ => True) A) {x1 : Int32} {x2 : Int32} {x3 : Int32} {x4 : Int32} {x5 : Int32} {r : Int32} {σ : ST} {σ' : ST} (hf : f_X10_asks x1 x2 x3 x4 x5 σ = some (r, σ')) : Met l yX10_asks (Cond.code yX10_asks cX10_asks 7 (some .int) :: WS) (rmk 3 74) (PC [.ref (a 0), .int x1, .int x2, .int x3, .int x4, .int x5] NM eM a cy D (fun _ => True) σ) (QI NM eM a cy D A r σ') 0 0 A := by
  refine met_go (own := "GuardsLookLeftModel") O (by decide +kernel) rfl (Nat.le_of_ble_eq_true rfl) ?_
  intro p e s m args below meth c ls C hP hS hl
  have hx := C.hx
  have hb := C.hb
  have hl : lv_has ls 7 [(0, .ref (a 0)), (1, .int x1), (2, .int x2), (3, .int x3), (4, .int x4), (5, .int x5)] := hl
  obtain ⟨H, hH⟩ : ∃ H, H = s.heap := ⟨_, rfl⟩
  rw [← hH] at hP
  have hS : va_S A s.heap H [] := by rw [hH]; exact va_S.rf
  suffices g : W p l e (rmk 3 74) s m args below meth c H [] 0 0 (MQ below (QI NM eM a cy D A r σ') args s 0 0 A) (F0 m 0 ls []) by rw [hH] at g; exact g
  clear hH
  obtain ⟨locs, hlocs⟩ : ∃ z : List Loc, z = [] := ⟨_, rfl⟩
  rw [← hlocs] at hS ⊢
  have hL54 : (∀ (v1 : Int32) (v2 : Int32) (v3 : Int32) (v4 : Int32) (v5 : Int32) (t0 : Int32) (s0 : ST) (H : Heap) (locs : List Loc) (ls : Array Slot), f_X10_asks_L54 v1 v2 v3 v4 v5 t0 s0 = some (r, σ') → va_P D vwCl (wG NM eM a cy s0) H → va_S A s.heap H locs → lv_has ls 7 [(0, .ref (a 0)), (1, .int v1), (2, .int v2), (3, .int v3), (4, .int v4), (5, .int v5)] → W p l e (rmk 3 74) s m args below meth c H locs 0 0 (MQ below (QI NM eM a cy D A r σ') args s 0 0 A) (F0 m 54 ls [.int t0])) := by
    intro v1 v2 v3 v4 v5 t0 s0 H locs ls hf hP hS hl
    refine lv_istore (lv' := [(6, .int t0), (0, .ref (a 0)), (1, .int v1), (2, .int v2), (3, .int v3), (4, .int v4), (5, .int v5)]) hx hb dX10_asks_54 hl (by decide) rfl (fun ls hl => ?_)
    refine lv_iload hx hb dX10_asks_56 (lv_at hl 0 rfl) ?_
    refine lv_if_eq (tgt := 90) hx hb dX10_asks_58 (by decide) (fun hc => ?_) (fun hc => ?_)
    · have hf := jif_t hc hf
      refine lv_bipush (v := (-2 : Int32)) hx hb dX10_asks_90 (by decide) ?_
      exact ret_i C hP hS (Prod.mk.inj (Option.some.inj hf)).1 (Prod.mk.inj (Option.some.inj hf)).2 dX10_asks_92
    · have hf := jif_f hc hf
      refine lv_aload_n hx hb dX10_asks_61 rfl (lv_at hl 1 rfl) ?_
      refine lv_iload_n hx hb dX10_asks_62 rfl (lv_at hl 2 rfl) ?_
      refine lv_iload_n hx hb dX10_asks_63 rfl (lv_at hl 3 rfl) ?_
      refine lv_bipush (v := (10 : Int32)) hx hb dX10_asks_64 (by decide) ?_
      refine lv_idiv hx hb dX10_asks_66 (by decide) ?_
      refine lv_iload_n hx hb dX10_asks_67 rfl (lv_at hl 3 rfl) ?_
      refine lv_bipush (v := (10 : Int32)) hx hb dX10_asks_68 (by decide) ?_
      refine r_irem C dX10_asks_70 (by decide) ?_
      refine lv_iload_n hx hb dX10_asks_71 rfl (lv_at hl 4 rfl) ?_
      refine lv_iload hx hb dX10_asks_72 (lv_at hl 5 rfl) ?_
      refine lv_iload hx hb dX10_asks_74 (lv_at hl 6 rfl) ?_
      refine lv_bipush (v := (100 : Int32)) hx hb dX10_asks_76 (by decide) ?_
      refine lv_idiv hx hb dX10_asks_78 (by decide) ?_
      refine lv_iload hx hb dX10_asks_79 (lv_at hl 6 rfl) ?_
      refine lv_bipush (v := (100 : Int32)) hx hb dX10_asks_81 (by decide) ?_
      refine r_irem C dX10_asks_83 (by decide) ?_
      obtain ⟨y1, s2, hc, hf⟩ := jbp_e hf
      refine r_ci (r_runV (As := [.int v1, .int (v2 / (10 : Int32)), .int (jrem v2 (10 : Int32)), .int v3, .int v4, .int (v5 / (100 : Int32)), .int (jrem v5 (100 : Int32))]) (rest := []) C hP hS (va_recv C.hK hP (q0 := 0) (ci := 10) rfl (by rw [g_at oM_10.1, oM_10.2])) (k_X10_asksOf (l := l) O hc) mw_X10_asksOf mi_X10_asksOf mv_X10_asksOf wk_5_131 ⟨Nat.le_of_ble_eq_true rfl, Nat.le_of_ble_eq_true rfl⟩ ⟨rfl, rfl⟩ ⟨Nat.zero_le _, Nat.zero_le _⟩ rfl hl.1 rfl (Nat.le_of_ble_eq_true rfl) dX10_asks_84) hS (fun H locs hP hS => ?_)
      refine lv_goto (tgt := 92) hx hb dX10_asks_87 (by decide) ?_
      exact ret_i C hP hS (Prod.mk.inj (Option.some.inj hf)).1 (Prod.mk.inj (Option.some.inj hf)).2 dX10_asks_92
  have hL53 : (∀ (v1 : Int32) (v2 : Int32) (v3 : Int32) (v4 : Int32) (v5 : Int32) (s0 : ST) (H : Heap) (locs : List Loc) (ls : Array Slot), f_X10_asks_L53 v1 v2 v3 v4 v5 s0 = some (r, σ') → va_P D vwCl (wG NM eM a cy s0) H → va_S A s.heap H locs → lv_has ls 7 [(0, .ref (a 0)), (1, .int v1), (2, .int v2), (3, .int v3), (4, .int v4), (5, .int v5)] → W p l e (rmk 3 74) s m args below meth c H locs 0 0 (MQ below (QI NM eM a cy D A r σ') args s 0 0 A) (F0 m 53 ls [])) := by
    intro v1 v2 v3 v4 v5 s0 H locs ls hf hP hS hl
    refine lv_iconst (v := (0 : Int32)) hx hb dX10_asks_53 (by decide) ?_
    exact hL54 v1 v2 v3 v4 v5 (0 : Int32) s0 H locs ls hf hP hS (lv_sub hl [0, 1, 2, 3, 4, 5] rfl)
  refine lv_iload_n hx hb dX10_asks_0 rfl (lv_at hl 1 rfl) ?_
  refine lv_iconst (v := (0 : Int32)) hx hb dX10_asks_1 (by decide) ?_
  refine lv_iconst (v := (2 : Int32)) hx hb dX10_asks_2 (by decide) ?_
  refine r_cz (r_runS (As := [.int x1, .int (0 : Int32), .int (2 : Int32)]) (rest := []) C hP hS (k_X10_in (l := l) O (σ := σ) rfl) mw_X10_in ms_X10_in wk_4_158 ⟨Nat.le_of_ble_eq_true rfl, Nat.le_of_ble_eq_true rfl⟩ ⟨rfl, rfl⟩ ⟨Nat.zero_le _, Nat.zero_le _⟩ rfl hl.1 rfl (Nat.le_of_ble_eq_true rfl) dX10_asks_3) hS (fun H locs hzy1 hP hS => ?_)
  refine jl_topz hf hzy1 (fun y1 hzy1 hf => ?_)
  refine lv_if_eq (tgt := 53) hx hb dX10_asks_6 (by decide) (fun hc => ?_) (fun hc => ?_)
  · have hf := jif_t hc hf
    exact hL53 x1 x2 x3 x4 x5 σ H locs ls hf hP hS (lv_sub hl [0, 1, 2, 3, 4, 5] rfl)
  · have hf := jif_f hc hf
    refine lv_iload_n hx hb dX10_asks_9 rfl (lv_at hl 2 rfl) ?_
    refine lv_iconst (v := (0 : Int32)) hx hb dX10_asks_10 (by decide) ?_
    refine lv_bipush (v := (99 : Int32)) hx hb dX10_asks_11 (by decide) ?_
    refine r_cz (r_runS (As := [.int x2, .int (0 : Int32), .int (99 : Int32)]) (rest := []) C hP hS (k_X10_in (l := l) O (σ := σ) rfl) mw_X10_in ms_X10_in wk_4_158 ⟨Nat.le_of_ble_eq_true rfl, Nat.le_of_ble_eq_true rfl⟩ ⟨rfl, rfl⟩ ⟨Nat.zero_le _, Nat.zero_le _⟩ rfl hl.1 rfl (Nat.le_of_ble_eq_true rfl) dX10_asks_13) hS (fun H locs hzy3 hP hS => ?_)
    refine jl_topz hf hzy3 (fun y3 hzy3 hf => ?_)
    refine lv_if_eq (tgt := 53) hx hb dX10_asks_16 (by decide) (fun hc => ?_) (fun hc => ?_)
    · have hf := jif_t hc hf
      exact hL53 x1 x2 x3 x4 x5 σ H locs ls hf hP hS (lv_sub hl [0, 1, 2, 3, 4, 5] rfl)
    · have hf := jif_f hc hf
      refine lv_iload_n hx hb dX10_asks_19 rfl (lv_at hl 3 rfl) ?_
      refine lv_iconst (v := (0 : Int32)) hx hb dX10_asks_20 (by decide) ?_
      refine lv_bipush (v := (9 : Int32)) hx hb dX10_asks_21 (by decide) ?_
      refine r_cz (r_runS (As := [.int x3, .int (0 : Int32), .int (9 : Int32)]) (rest := []) C hP hS (k_X10_in (l := l) O (σ := σ) rfl) mw_X10_in ms_X10_in wk_4_158 ⟨Nat.le_of_ble_eq_true rfl, Nat.le_of_ble_eq_true rfl⟩ ⟨rfl, rfl⟩ ⟨Nat.zero_le _, Nat.zero_le _⟩ rfl hl.1 rfl (Nat.le_of_ble_eq_true rfl) dX10_asks_23) hS (fun H locs hzy5 hP hS => ?_)
      refine jl_topz hf hzy5 (fun y5 hzy5 hf => ?_)
      refine lv_if_eq (tgt := 53) hx hb dX10_asks_26 (by decide) (fun hc => ?_) (fun hc => ?_)
      · have hf := jif_t hc hf
        exact hL53 x1 x2 x3 x4 x5 σ H locs ls hf hP hS (lv_sub hl [0, 1, 2, 3, 4, 5] rfl)
      · have hf := jif_f hc hf
        refine lv_iload hx hb dX10_asks_29 (lv_at hl 4 rfl) ?_
        refine r_cz (r_runS (As := [.int x4]) (rest := []) C hP hS (k_X10_isSecond (l := l) O (σ := σ) rfl) mw_X10_isSecond ms_X10_isSecond wk_5_128 ⟨Nat.le_of_ble_eq_true rfl, Nat.le_of_ble_eq_true rfl⟩ ⟨rfl, rfl⟩ ⟨Nat.zero_le _, Nat.zero_le _⟩ rfl hl.1 rfl (Nat.le_of_ble_eq_true rfl) dX10_asks_31) hS (fun H locs hzy7 hP hS => ?_)
        refine jl_topz hf hzy7 (fun y7 hzy7 hf => ?_)
        refine lv_if_eq (tgt := 53) hx hb dX10_asks_34 (by decide) (fun hc => ?_) (fun hc => ?_)
        · have hf := jif_t hc hf
          exact hL53 x1 x2 x3 x4 x5 σ H locs ls hf hP hS (lv_sub hl [0, 1, 2, 3, 4, 5] rfl)
        · have hf := jif_f hc hf
          refine lv_iload hx hb dX10_asks_37 (lv_at hl 5 rfl) ?_
          refine lv_iconst (v := (0 : Int32)) hx hb dX10_asks_39 (by decide) ?_
          refine lv_sipush (v := (999 : Int32)) hx hb dX10_asks_40 (by decide) ?_
          refine r_cz (r_runS (As := [.int x5, .int (0 : Int32), .int (999 : Int32)]) (rest := []) C hP hS (k_X10_in (l := l) O (σ := σ) rfl) mw_X10_in ms_X10_in wk_4_158 ⟨Nat.le_of_ble_eq_true rfl, Nat.le_of_ble_eq_true rfl⟩ ⟨rfl, rfl⟩ ⟨Nat.zero_le _, Nat.zero_le _⟩ rfl hl.1 rfl (Nat.le_of_ble_eq_true rfl) dX10_asks_43) hS (fun H locs hzy9 hP hS => ?_)
          refine jl_topz hf hzy9 (fun y9 hzy9 hf => ?_)
          refine lv_if_eq (tgt := 53) hx hb dX10_asks_46 (by decide) (fun hc => ?_) (fun hc => ?_)
          · have hf := jif_t hc hf
            exact hL53 x1 x2 x3 x4 x5 σ H locs ls hf hP hS (lv_sub hl [0, 1, 2, 3, 4, 5] rfl)
          · have hf := jif_f hc hf
            refine lv_iconst (v := (1 : Int32)) hx hb dX10_asks_49 (by decide) ?_
            refine lv_goto (tgt := 54) hx hb dX10_asks_50 (by decide) ?_
            exact hL54 x1 x2 x3 x4 x5 (1 : Int32) σ H locs ls hf hP hS (lv_sub hl [0, 1, 2, 3, 4, 5] rfl)
set_option maxHeartbeats 4000000 in
set_option maxRecDepth 100000 in
theorem k_X10_guard {l : Launch} {a : Nat → Nat} {cy : Nat → ClassId} {D : va_G} {A : Nat → Prop} (O : WO NM a (fun _ => True) A) {x1 : Int32} {x2 : Int32} {x3 : Int32} {x4 : Int32} {r : Int32} {σ : ST} {σ' : ST} (hf : f_X10_guard x1 x2 x3 x4 σ = some (r, σ')) : Met l yX10_guard (Cond.code yX10_guard cX10_guard 6 (some .int) :: WS) (rmk 2 42) (PC [.ref (a 0), .int x1, .int x2, .int x3, .int x4] NM eM a cy D (fun _ => True) σ) (QI NM eM a cy D A r σ') 0 0 A := by
  refine met_go (own := "GuardsLookLeftModel") O (by decide +kernel) rfl (Nat.le_of_ble_eq_true rfl) ?_
  intro p e s m args below meth c ls C hP hS hl
  have hx := C.hx
  have hb := C.hb
  have hl : lv_has ls 6 [(0, .ref (a 0)), (1, .int x1), (2, .int x2), (3, .int x3), (4, .int x4)] := hl
  obtain ⟨H, hH⟩ : ∃ H, H = s.heap := ⟨_, rfl⟩
  rw [← hH] at hP
  have hS : va_S A s.heap H [] := by rw [hH]; exact va_S.rf
  suffices g : W p l e (rmk 2 42) s m args below meth c H [] 0 0 (MQ below (QI NM eM a cy D A r σ') args s 0 0 A) (F0 m 0 ls []) by rw [hH] at g; exact g
  clear hH
  obtain ⟨locs, hlocs⟩ : ∃ z : List Loc, z = [] := ⟨_, rfl⟩
  rw [← hlocs] at hS ⊢
  have hL50 : (∀ (v1 : Int32) (v2 : Int32) (v3 : Int32) (v4 : Int32) (t0 : Int32) (s0 : ST) (H : Heap) (locs : List Loc) (ls : Array Slot), f_X10_guard_L50 v1 v2 v3 v4 t0 s0 = some (r, σ') → va_P D vwCl (wG NM eM a cy s0) H → va_S A s.heap H locs → lv_has ls 6 [(0, .ref (a 0)), (1, .int v1), (2, .int v2), (3, .int v3), (4, .int v4)] → W p l e (rmk 2 42) s m args below meth c H locs 0 0 (MQ below (QI NM eM a cy D A r σ') args s 0 0 A) (F0 m 50 ls [.int t0])) := by
    intro v1 v2 v3 v4 t0 s0 H locs ls hf hP hS hl
    refine lv_istore (lv' := [(5, .int t0), (0, .ref (a 0)), (1, .int v1), (2, .int v2), (3, .int v3), (4, .int v4)]) hx hb dX10_guard_50 hl (by decide) rfl (fun ls hl => ?_)
    refine lv_iload hx hb dX10_guard_52 (lv_at hl 0 rfl) ?_
    refine lv_if_ne (tgt := 60) hx hb dX10_guard_54 (by decide) (fun hc => ?_) (fun hc => ?_)
    · have hf := jif_t hc hf
      refine lv_aload_n hx hb dX10_guard_60 rfl (lv_at hl 1 rfl) ?_
      refine gf_X10_1 C hP wk_4_198 dX10_guard_61 ?_
      refine lv_iconst (v := (5 : Int32)) hx hb dX10_guard_64 (by decide) ?_
      refine lv_icmp_ne (tgt := 71) hx hb dX10_guard_65 (by decide) (fun hc => ?_) (fun hc => ?_)
      · have hf := jif_t hc hf
        refine lv_aload_n hx hb dX10_guard_71 rfl (lv_at hl 1 rfl) ?_
        refine gf_X10_2 C hP wk_4_199 dX10_guard_72 ?_
        refine lv_aload_n hx hb dX10_guard_75 rfl (lv_at hl 1 rfl) ?_
        refine gf_X10_1 C hP wk_4_198 dX10_guard_76 ?_
        refine lv_iload_n hx hb dX10_guard_79 rfl (lv_at hl 2 rfl) ?_
        obtain ⟨hi1, hf⟩ := jix_e hf
        refine r_iast C hP hS aM_2 hi1 dX10_guard_80 hf (fun H locs s2 hf hP hS => ?_)
        refine lv_aload_n hx hb dX10_guard_81 rfl (lv_at hl 1 rfl) ?_
        refine gf_X10_3 C hP wk_4_200 dX10_guard_82 ?_
        refine lv_aload_n hx hb dX10_guard_85 rfl (lv_at hl 1 rfl) ?_
        refine gf_X10_1 C hP wk_4_198 dX10_guard_86 ?_
        refine lv_iload_n hx hb dX10_guard_89 rfl (lv_at hl 3 rfl) ?_
        obtain ⟨hi3, hf⟩ := jix_e hf
        refine r_iast C hP hS aM_3 hi3 dX10_guard_90 hf (fun H locs s4 hf hP hS => ?_)
        refine lv_aload_n hx hb dX10_guard_91 rfl (lv_at hl 1 rfl) ?_
        refine gf_X10_4 C hP wk_4_201 dX10_guard_92 ?_
        refine lv_aload_n hx hb dX10_guard_95 rfl (lv_at hl 1 rfl) ?_
        refine gf_X10_1 C hP wk_4_198 dX10_guard_96 ?_
        refine lv_iload_n hx hb dX10_guard_99 rfl (lv_at hl 4 rfl) ?_
        refine lv_bipush (v := (10 : Int32)) hx hb dX10_guard_100 (by decide) ?_
        refine lv_idiv hx hb dX10_guard_102 (by decide) ?_
        obtain ⟨hi5, hf⟩ := jix_e hf
        refine r_iast C hP hS aM_4 hi5 dX10_guard_103 hf (fun H locs s6 hf hP hS => ?_)
        refine lv_aload_n hx hb dX10_guard_104 rfl (lv_at hl 1 rfl) ?_
        refine gf_X10_5 C hP wk_4_202 dX10_guard_105 ?_
        refine lv_aload_n hx hb dX10_guard_108 rfl (lv_at hl 1 rfl) ?_
        refine gf_X10_1 C hP wk_4_198 dX10_guard_109 ?_
        refine lv_iload_n hx hb dX10_guard_112 rfl (lv_at hl 4 rfl) ?_
        refine lv_bipush (v := (10 : Int32)) hx hb dX10_guard_113 (by decide) ?_
        refine r_irem C dX10_guard_115 (by decide) ?_
        obtain ⟨hi7, hf⟩ := jix_e hf
        refine r_iast C hP hS aM_5 hi7 dX10_guard_116 hf (fun H locs s8 hf hP hS => ?_)
        refine lv_aload_n hx hb dX10_guard_117 rfl (lv_at hl 1 rfl) ?_
        refine gf_X10_6 C hP wk_4_203 dX10_guard_118 ?_
        refine lv_aload_n hx hb dX10_guard_121 rfl (lv_at hl 1 rfl) ?_
        refine gf_X10_1 C hP wk_4_198 dX10_guard_122 ?_
        refine lv_iload hx hb dX10_guard_125 (lv_at hl 5 rfl) ?_
        obtain ⟨hi9, hf⟩ := jix_e hf
        refine r_iast C hP hS aM_6 hi9 dX10_guard_127 hf (fun H locs s10 hf hP hS => ?_)
        refine lv_aload_n hx hb dX10_guard_128 rfl (lv_at hl 1 rfl) ?_
        refine gf_X10_7 C hP wk_4_204 dX10_guard_129 ?_
        refine lv_aload_n hx hb dX10_guard_132 rfl (lv_at hl 1 rfl) ?_
        refine gf_X10_1 C hP wk_4_198 dX10_guard_133 ?_
        refine lv_iconst (v := (0 : Int32)) hx hb dX10_guard_136 (by decide) ?_
        obtain ⟨hi11, hf⟩ := jix_e hf
        refine r_iast C hP hS aM_7 hi11 dX10_guard_137 hf (fun H locs s12 hf hP hS => ?_)
        refine lv_aload_n hx hb dX10_guard_138 rfl (lv_at hl 1 rfl) ?_
        refine lv_dup hx hb dX10_guard_139 rfl ?_
        refine gf_X10_1 C hP wk_4_198 dX10_guard_140 ?_
        refine lv_iconst (v := (1 : Int32)) hx hb dX10_guard_143 (by decide) ?_
        refine lv_iadd hx hb dX10_guard_144 ?_
        refine pf_X10_1 C hP hS wk_4_198 dX10_guard_145 hf (fun H locs s13 hf hP hS => ?_)
        refine lv_aload_n hx hb dX10_guard_148 rfl (lv_at hl 1 rfl) ?_
        refine gf_X10_1 C hP wk_4_198 dX10_guard_149 ?_
        refine lv_iconst (v := (1 : Int32)) hx hb dX10_guard_152 (by decide) ?_
        refine lv_isub hx hb dX10_guard_153 ?_
        exact ret_i C hP hS (Prod.mk.inj (Option.some.inj hf)).1 (Prod.mk.inj (Option.some.inj hf)).2 dX10_guard_154
      · have hf := jif_n hc hf
        refine lv_bipush (v := (-4 : Int32)) hx hb dX10_guard_68 (by decide) ?_
        exact ret_i C hP hS (Prod.mk.inj (Option.some.inj hf)).1 (Prod.mk.inj (Option.some.inj hf)).2 dX10_guard_70
    · have hf := jif_n hc hf
      refine lv_bipush (v := (-2 : Int32)) hx hb dX10_guard_57 (by decide) ?_
      exact ret_i C hP hS (Prod.mk.inj (Option.some.inj hf)).1 (Prod.mk.inj (Option.some.inj hf)).2 dX10_guard_59
  have hL49 : (∀ (v1 : Int32) (v2 : Int32) (v3 : Int32) (v4 : Int32) (s0 : ST) (H : Heap) (locs : List Loc) (ls : Array Slot), f_X10_guard_L49 v1 v2 v3 v4 s0 = some (r, σ') → va_P D vwCl (wG NM eM a cy s0) H → va_S A s.heap H locs → lv_has ls 6 [(0, .ref (a 0)), (1, .int v1), (2, .int v2), (3, .int v3), (4, .int v4)] → W p l e (rmk 2 42) s m args below meth c H locs 0 0 (MQ below (QI NM eM a cy D A r σ') args s 0 0 A) (F0 m 49 ls [])) := by
    intro v1 v2 v3 v4 s0 H locs ls hf hP hS hl
    refine lv_iconst (v := (0 : Int32)) hx hb dX10_guard_49 (by decide) ?_
    exact hL50 v1 v2 v3 v4 (0 : Int32) s0 H locs ls hf hP hS (lv_sub hl [0, 1, 2, 3, 4] rfl)
  refine lv_iload_n hx hb dX10_guard_0 rfl (lv_at hl 1 rfl) ?_
  refine lv_iconst (v := (0 : Int32)) hx hb dX10_guard_1 (by decide) ?_
  refine lv_iconst (v := (5 : Int32)) hx hb dX10_guard_2 (by decide) ?_
  refine r_cz (r_runS (As := [.int x1, .int (0 : Int32), .int (5 : Int32)]) (rest := []) C hP hS (k_X10_in (l := l) O (σ := σ) rfl) mw_X10_in ms_X10_in wk_4_158 ⟨Nat.le_of_ble_eq_true rfl, Nat.le_of_ble_eq_true rfl⟩ ⟨rfl, rfl⟩ ⟨Nat.zero_le _, Nat.zero_le _⟩ rfl hl.1 rfl (Nat.le_of_ble_eq_true rfl) dX10_guard_3) hS (fun H locs hzy1 hP hS => ?_)
  refine jl_topz hf hzy1 (fun y1 hzy1 hf => ?_)
  refine lv_if_eq (tgt := 49) hx hb dX10_guard_6 (by decide) (fun hc => ?_) (fun hc => ?_)
  · have hf := jif_t hc hf
    exact hL49 x1 x2 x3 x4 σ H locs ls hf hP hS (lv_sub hl [0, 1, 2, 3, 4] rfl)
  · have hf := jif_f hc hf
    refine lv_iload_n hx hb dX10_guard_9 rfl (lv_at hl 2 rfl) ?_
    refine r_cz (r_runS (As := [.int x2]) (rest := []) C hP hS (k_X10_isCell (l := l) O (σ := σ) rfl) mw_X10_isCell ms_X10_isCell wk_5_98 ⟨Nat.le_of_ble_eq_true rfl, Nat.le_of_ble_eq_true rfl⟩ ⟨rfl, rfl⟩ ⟨Nat.zero_le _, Nat.zero_le _⟩ rfl hl.1 rfl (Nat.le_of_ble_eq_true rfl) dX10_guard_10) hS (fun H locs hzy3 hP hS => ?_)
    refine jl_topz hf hzy3 (fun y3 hzy3 hf => ?_)
    refine lv_if_eq (tgt := 49) hx hb dX10_guard_13 (by decide) (fun hc => ?_) (fun hc => ?_)
    · have hf := jif_t hc hf
      exact hL49 x1 x2 x3 x4 σ H locs ls hf hP hS (lv_sub hl [0, 1, 2, 3, 4] rfl)
    · have hf := jif_f hc hf
      refine lv_iload_n hx hb dX10_guard_16 rfl (lv_at hl 3 rfl) ?_
      refine lv_iconst (v := (0 : Int32)) hx hb dX10_guard_17 (by decide) ?_
      refine lv_bipush (v := (35 : Int32)) hx hb dX10_guard_18 (by decide) ?_
      refine r_cz (r_runS (As := [.int x3, .int (0 : Int32), .int (35 : Int32)]) (rest := []) C hP hS (k_X10_in (l := l) O (σ := σ) rfl) mw_X10_in ms_X10_in wk_4_158 ⟨Nat.le_of_ble_eq_true rfl, Nat.le_of_ble_eq_true rfl⟩ ⟨rfl, rfl⟩ ⟨Nat.zero_le _, Nat.zero_le _⟩ rfl hl.1 rfl (Nat.le_of_ble_eq_true rfl) dX10_guard_20) hS (fun H locs hzy5 hP hS => ?_)
      refine jl_topz hf hzy5 (fun y5 hzy5 hf => ?_)
      refine lv_if_eq (tgt := 49) hx hb dX10_guard_23 (by decide) (fun hc => ?_) (fun hc => ?_)
      · have hf := jif_t hc hf
        exact hL49 x1 x2 x3 x4 σ H locs ls hf hP hS (lv_sub hl [0, 1, 2, 3, 4] rfl)
      · have hf := jif_f hc hf
        refine lv_iload_n hx hb dX10_guard_26 rfl (lv_at hl 3 rfl) ?_
        refine lv_bipush (v := (10 : Int32)) hx hb dX10_guard_27 (by decide) ?_
        refine r_irem C dX10_guard_29 (by decide) ?_
        refine lv_iconst (v := (5 : Int32)) hx hb dX10_guard_30 (by decide) ?_
        refine lv_icmp_gt (tgt := 49) hx hb dX10_guard_31 (by decide) (fun hc => ?_) (fun hc => ?_)
        · have hf := jif_t hc hf
          exact hL49 x1 x2 x3 x4 σ H locs ls hf hP hS (lv_sub hl [0, 1, 2, 3, 4] rfl)
        · have hf := jif_f hc hf
          refine lv_iload hx hb dX10_guard_34 (lv_at hl 4 rfl) ?_
          refine lv_iconst (v := (0 : Int32)) hx hb dX10_guard_36 (by decide) ?_
          refine lv_bipush (v := (9 : Int32)) hx hb dX10_guard_37 (by decide) ?_
          refine r_cz (r_runS (As := [.int x4, .int (0 : Int32), .int (9 : Int32)]) (rest := []) C hP hS (k_X10_in (l := l) O (σ := σ) rfl) mw_X10_in ms_X10_in wk_4_158 ⟨Nat.le_of_ble_eq_true rfl, Nat.le_of_ble_eq_true rfl⟩ ⟨rfl, rfl⟩ ⟨Nat.zero_le _, Nat.zero_le _⟩ rfl hl.1 rfl (Nat.le_of_ble_eq_true rfl) dX10_guard_39) hS (fun H locs hzy7 hP hS => ?_)
          refine jl_topz hf hzy7 (fun y7 hzy7 hf => ?_)
          refine lv_if_eq (tgt := 49) hx hb dX10_guard_42 (by decide) (fun hc => ?_) (fun hc => ?_)
          · have hf := jif_t hc hf
            exact hL49 x1 x2 x3 x4 σ H locs ls hf hP hS (lv_sub hl [0, 1, 2, 3, 4] rfl)
          · have hf := jif_f hc hf
            refine lv_iconst (v := (1 : Int32)) hx hb dX10_guard_45 (by decide) ?_
            refine lv_goto (tgt := 50) hx hb dX10_guard_46 (by decide) ?_
            exact hL50 x1 x2 x3 x4 (1 : Int32) σ H locs ls hf hP hS (lv_sub hl [0, 1, 2, 3, 4] rfl)
set_option maxHeartbeats 4000000 in
set_option maxRecDepth 100000 in
theorem k_X10_set {l : Launch} {a : Nat → Nat} {cy : Nat → ClassId} {D : va_G} {A : Nat → Prop} (O : WO NM a (fun _ => True) A) {x1 : Int32} {x2 : Int32} {x3 : Int32} {r : Int32} {σ : ST} {σ' : ST} (hf : f_X10_set x1 x2 x3 σ = some (r, σ')) : Met l yX10_set (Cond.code yX10_set cX10_set 5 (some .int) :: WS) (rmk 2 43) (PC [.ref (a 0), .int x1, .int x2, .int x3] NM eM a cy D (fun _ => True) σ) (QI NM eM a cy D A r σ') 0 0 A := by
  refine met_go (own := "GuardsLookLeftModel") O (by decide +kernel) rfl (Nat.le_of_ble_eq_true rfl) ?_
  intro p e s m args below meth c ls C hP hS hl
  have hx := C.hx
  have hb := C.hb
  have hl : lv_has ls 5 [(0, .ref (a 0)), (1, .int x1), (2, .int x2), (3, .int x3)] := hl
  obtain ⟨H, hH⟩ : ∃ H, H = s.heap := ⟨_, rfl⟩
  rw [← hH] at hP
  have hS : va_S A s.heap H [] := by rw [hH]; exact va_S.rf
  suffices g : W p l e (rmk 2 43) s m args below meth c H [] 0 0 (MQ below (QI NM eM a cy D A r σ') args s 0 0 A) (F0 m 0 ls []) by rw [hH] at g; exact g
  clear hH
  obtain ⟨locs, hlocs⟩ : ∃ z : List Loc, z = [] := ⟨_, rfl⟩
  rw [← hlocs] at hS ⊢
  have hL102 : (∀ (v4 : Int32) (t1 : Int32) (t2 : Int32) (s0 : ST) (H : Heap) (locs : List Loc) (ls : Array Slot), f_X10_set_L102 v4 t1 t2 s0 = some (r, σ') → va_P D vwCl (wG NM eM a cy s0) H → va_S A s.heap H locs → lv_has ls 5 [(4, .int v4)] → W p l e (rmk 2 43) s m args below meth c H locs 0 0 (MQ below (QI NM eM a cy D A r σ') args s 0 0 A) (F0 m 102 ls [.int t2, .int t1, .ref (a 5)])) := by
    intro v4 t1 t2 s0 H locs ls hf hP hS hl
    obtain ⟨hi1, hf⟩ := jix_e hf
    refine r_iast C hP hS aM_5 hi1 dX10_set_102 hf (fun H locs s2 hf hP hS => ?_)
    refine lv_iload hx hb dX10_set_103 (lv_at hl 0 rfl) ?_
    exact ret_i C hP hS (Prod.mk.inj (Option.some.inj hf)).1 (Prod.mk.inj (Option.some.inj hf)).2 dX10_set_105
  have hL81 : (∀ (v1 : Int32) (v2 : Int32) (v3 : Int32) (v4 : Int32) (t1 : Int32) (t2 : Int32) (s0 : ST) (H : Heap) (locs : List Loc) (ls : Array Slot), f_X10_set_L81 v1 v2 v3 v4 t1 t2 s0 = some (r, σ') → va_P D vwCl (wG NM eM a cy s0) H → va_S A s.heap H locs → lv_has ls 5 [(0, .ref (a 0)), (1, .int v1), (2, .int v2), (3, .int v3), (4, .int v4)] → W p l e (rmk 2 43) s m args below meth c H locs 0 0 (MQ below (QI NM eM a cy D A r σ') args s 0 0 A) (F0 m 81 ls [.int t2, .int t1, .ref (a 7)])) := by
    intro v1 v2 v3 v4 t1 t2 s0 H locs ls hf hP hS hl
    obtain ⟨hi1, hf⟩ := jix_e hf
    refine r_iast C hP hS aM_7 hi1 dX10_set_81 hf (fun H locs s2 hf hP hS => ?_)
    refine lv_aload_n hx hb dX10_set_82 rfl (lv_at hl 0 rfl) ?_
    refine gf_X10_5 C hP wk_4_202 dX10_set_83 ?_
    refine lv_iload_n hx hb dX10_set_86 rfl (lv_at hl 1 rfl) ?_
    refine lv_iload_n hx hb dX10_set_87 rfl (lv_at hl 2 rfl) ?_
    refine lv_iconst (v := (1 : Int32)) hx hb dX10_set_88 (by decide) ?_
    refine lv_icmp_ne (tgt := 96) hx hb dX10_set_89 (by decide) (fun hc => ?_) (fun hc => ?_)
    · have hf := jif_t hc hf
      refine lv_aload_n hx hb dX10_set_96 rfl (lv_at hl 0 rfl) ?_
      refine gf_X10_5 C hP wk_4_202 dX10_set_97 ?_
      refine lv_iload_n hx hb dX10_set_100 rfl (lv_at hl 1 rfl) ?_
      obtain ⟨hi3, hf⟩ := jix_e hf
      refine r_iald C hP aM_5 hi3 dX10_set_101 ?_
      exact hL102 v4 v1 (gA s2 5 (Int32.toNatClampNeg v1)) s2 H locs ls hf hP hS (lv_sub hl [4] rfl)
    · have hf := jif_n hc hf
      refine lv_iload_n hx hb dX10_set_92 rfl (lv_at hl 3 rfl) ?_
      refine lv_goto (tgt := 102) hx hb dX10_set_93 (by decide) ?_
      exact hL102 v4 v1 v3 s2 H locs ls hf hP hS (lv_sub hl [4] rfl)
  have hL60 : (∀ (v1 : Int32) (v2 : Int32) (v3 : Int32) (t0 : Int32) (s0 : ST) (H : Heap) (locs : List Loc) (ls : Array Slot), f_X10_set_L60 v1 v2 v3 t0 s0 = some (r, σ') → va_P D vwCl (wG NM eM a cy s0) H → va_S A s.heap H locs → lv_has ls 5 [(0, .ref (a 0)), (1, .int v1), (2, .int v2), (3, .int v3)] → W p l e (rmk 2 43) s m args below meth c H locs 0 0 (MQ below (QI NM eM a cy D A r σ') args s 0 0 A) (F0 m 60 ls [.int t0])) := by
    intro v1 v2 v3 t0 s0 H locs ls hf hP hS hl
    refine lv_istore (lv' := [(4, .int t0), (0, .ref (a 0)), (1, .int v1), (2, .int v2), (3, .int v3)]) hx hb dX10_set_60 hl (by decide) rfl (fun ls hl => ?_)
    refine lv_aload_n hx hb dX10_set_62 rfl (lv_at hl 1 rfl) ?_
    refine gf_X10_7 C hP wk_4_204 dX10_set_63 ?_
    refine lv_iload_n hx hb dX10_set_66 rfl (lv_at hl 2 rfl) ?_
    refine lv_iload_n hx hb dX10_set_67 rfl (lv_at hl 3 rfl) ?_
    refine lv_if_ne (tgt := 75) hx hb dX10_set_68 (by decide) (fun hc => ?_) (fun hc => ?_)
    · have hf := jif_t hc hf
      refine lv_aload_n hx hb dX10_set_75 rfl (lv_at hl 1 rfl) ?_
      refine gf_X10_7 C hP wk_4_204 dX10_set_76 ?_
      refine lv_iload_n hx hb dX10_set_79 rfl (lv_at hl 2 rfl) ?_
      obtain ⟨hi1, hf⟩ := jix_e hf
      refine r_iald C hP aM_7 hi1 dX10_set_80 ?_
      exact hL81 v1 v2 v3 t0 v1 (gA s0 7 (Int32.toNatClampNeg v1)) s0 H locs ls hf hP hS (lv_sub hl [1, 2, 3, 4, 0] rfl)
    · have hf := jif_n hc hf
      refine lv_iload_n hx hb dX10_set_71 rfl (lv_at hl 4 rfl) ?_
      refine lv_goto (tgt := 81) hx hb dX10_set_72 (by decide) ?_
      exact hL81 v1 v2 v3 t0 v1 v3 s0 H locs ls hf hP hS (lv_sub hl [1, 2, 3, 4, 0] rfl)
  have hL32 : (∀ (v1 : Int32) (v2 : Int32) (v3 : Int32) (t0 : Int32) (t1 : Int32) (t2 : Int32) (s0 : ST) (H : Heap) (locs : List Loc) (ls : Array Slot), f_X10_set_L32 v1 v2 v3 t0 t1 t2 s0 = some (r, σ') → va_P D vwCl (wG NM eM a cy s0) H → va_S A s.heap H locs → lv_has ls 5 [(0, .ref (a 0)), (1, .int v1), (2, .int v2), (3, .int v3)] → W p l e (rmk 2 43) s m args below meth c H locs 0 0 (MQ below (QI NM eM a cy D A r σ') args s 0 0 A) (F0 m 32 ls [.int t2, .int t1, .int t0])) := by
    intro v1 v2 v3 t0 t1 t2 s0 H locs ls hf hP hS hl
    refine r_cz (r_runS (As := [.int t0, .int t1, .int t2]) (rest := []) C hP hS (k_X10_in (l := l) O (σ := s0) rfl) mw_X10_in ms_X10_in wk_4_158 ⟨Nat.le_of_ble_eq_true rfl, Nat.le_of_ble_eq_true rfl⟩ ⟨rfl, rfl⟩ ⟨Nat.zero_le _, Nat.zero_le _⟩ rfl hl.1 rfl (Nat.le_of_ble_eq_true rfl) dX10_set_32) hS (fun H locs hzy1 hP hS => ?_)
    refine jl_topz hf hzy1 (fun y1 hzy1 hf => ?_)
    refine lv_if_ne (tgt := 41) hx hb dX10_set_35 (by decide) (fun hc => ?_) (fun hc => ?_)
    · have hf := jif_t hc hf
      refine lv_iload_n hx hb dX10_set_41 rfl (lv_at hl 2 rfl) ?_
      refine lv_if_ne (tgt := 54) hx hb dX10_set_42 (by decide) (fun hc => ?_) (fun hc => ?_)
      · have hf := jif_t hc hf
        refine lv_aload_n hx hb dX10_set_54 rfl (lv_at hl 0 rfl) ?_
        refine gf_X10_5 C hP wk_4_202 dX10_set_55 ?_
        refine lv_iload_n hx hb dX10_set_58 rfl (lv_at hl 1 rfl) ?_
        obtain ⟨hi3, hf⟩ := jix_e hf
        refine r_iald C hP aM_5 hi3 dX10_set_59 ?_
        exact hL60 v1 v2 v3 (gA s0 5 (Int32.toNatClampNeg v1)) s0 H locs ls hf hP hS (lv_sub hl [0, 1, 2, 3] rfl)
      · have hf := jif_n hc hf
        refine lv_aload_n hx hb dX10_set_45 rfl (lv_at hl 0 rfl) ?_
        refine gf_X10_7 C hP wk_4_204 dX10_set_46 ?_
        refine lv_iload_n hx hb dX10_set_49 rfl (lv_at hl 1 rfl) ?_
        obtain ⟨hi4, hf⟩ := jix_e hf
        refine r_iald C hP aM_7 hi4 dX10_set_50 ?_
        refine lv_goto (tgt := 60) hx hb dX10_set_51 (by decide) ?_
        exact hL60 v1 v2 v3 (gA s0 7 (Int32.toNatClampNeg v1)) s0 H locs ls hf hP hS (lv_sub hl [0, 1, 2, 3] rfl)
    · have hf := jif_n hc hf
      refine lv_bipush (v := (-7 : Int32)) hx hb dX10_set_38 (by decide) ?_
      exact ret_i C hP hS (Prod.mk.inj (Option.some.inj hf)).1 (Prod.mk.inj (Option.some.inj hf)).2 dX10_set_40
  refine lv_aload_n hx hb dX10_set_0 rfl (lv_at hl 0 rfl) ?_
  refine lv_iload_n hx hb dX10_set_1 rfl (lv_at hl 1 rfl) ?_
  refine r_cz (r_runV (As := [.int x1]) (rest := []) C hP hS (va_recv C.hK hP (q0 := 0) (ci := 10) rfl (by rw [g_at oM_10.1, oM_10.2])) (k_X10_isGuard (l := l) O (σ := σ) rfl) mw_X10_isGuard mi_X10_isGuard mv_X10_isGuard wk_5_153 ⟨Nat.le_of_ble_eq_true rfl, Nat.le_of_ble_eq_true rfl⟩ ⟨rfl, rfl⟩ ⟨Nat.zero_le _, Nat.zero_le _⟩ rfl hl.1 rfl (Nat.le_of_ble_eq_true rfl) dX10_set_2) hS (fun H locs hzy1 hP hS => ?_)
  refine jl_topz hf hzy1 (fun y1 hzy1 hf => ?_)
  refine lv_if_ne (tgt := 11) hx hb dX10_set_5 (by decide) (fun hc => ?_) (fun hc => ?_)
  · have hf := jif_t hc hf
    refine lv_iload_n hx hb dX10_set_11 rfl (lv_at hl 2 rfl) ?_
    refine lv_iconst (v := (0 : Int32)) hx hb dX10_set_12 (by decide) ?_
    refine lv_iconst (v := (1 : Int32)) hx hb dX10_set_13 (by decide) ?_
    refine r_cz (r_runS (As := [.int x2, .int (0 : Int32), .int (1 : Int32)]) (rest := []) C hP hS (k_X10_in (l := l) O (σ := σ) rfl) mw_X10_in ms_X10_in wk_4_158 ⟨Nat.le_of_ble_eq_true rfl, Nat.le_of_ble_eq_true rfl⟩ ⟨rfl, rfl⟩ ⟨Nat.zero_le _, Nat.zero_le _⟩ rfl hl.1 rfl (Nat.le_of_ble_eq_true rfl) dX10_set_14) hS (fun H locs hzy3 hP hS => ?_)
    refine jl_topz hf hzy3 (fun y3 hzy3 hf => ?_)
    refine lv_if_eq (tgt := 38) hx hb dX10_set_17 (by decide) (fun hc => ?_) (fun hc => ?_)
    · have hf := jif_t hc hf
      refine lv_bipush (v := (-7 : Int32)) hx hb dX10_set_38 (by decide) ?_
      exact ret_i C hP hS (Prod.mk.inj (Option.some.inj hf)).1 (Prod.mk.inj (Option.some.inj hf)).2 dX10_set_40
    · have hf := jif_f hc hf
      refine lv_iload_n hx hb dX10_set_20 rfl (lv_at hl 3 rfl) ?_
      refine lv_iconst (v := (0 : Int32)) hx hb dX10_set_21 (by decide) ?_
      refine lv_iload_n hx hb dX10_set_22 rfl (lv_at hl 2 rfl) ?_
      refine lv_if_ne (tgt := 31) hx hb dX10_set_23 (by decide) (fun hc => ?_) (fun hc => ?_)
      · have hf := jif_t hc hf
        refine lv_iconst (v := (5 : Int32)) hx hb dX10_set_31 (by decide) ?_
        exact hL32 x1 x2 x3 x3 (0 : Int32) (5 : Int32) σ H locs ls hf hP hS (lv_sub hl [0, 1, 2, 3] rfl)
      · have hf := jif_n hc hf
        refine lv_bipush (v := (23 : Int32)) hx hb dX10_set_26 (by decide) ?_
        refine lv_goto (tgt := 32) hx hb dX10_set_28 (by decide) ?_
        exact hL32 x1 x2 x3 x3 (0 : Int32) (23 : Int32) σ H locs ls hf hP hS (lv_sub hl [0, 1, 2, 3] rfl)
  · have hf := jif_n hc hf
    refine lv_bipush (v := (-5 : Int32)) hx hb dX10_set_8 (by decide) ?_
    exact ret_i C hP hS (Prod.mk.inj (Option.some.inj hf)).1 (Prod.mk.inj (Option.some.inj hf)).2 dX10_set_10
set_option maxHeartbeats 4000000 in
set_option maxRecDepth 100000 in
theorem k_X10_guardTold {l : Launch} {a : Nat → Nat} {cy : Nat → ClassId} {D : va_G} {A : Nat → Prop} (O : WO NM a (fun _ => True) A) {x1 : Int32} {x2 : Int32} {r : Int32} {σ : ST} (hf : f_X10_guardTold x1 x2 σ = some r) : Met l yX10_guardTold (Cond.code yX10_guardTold cX10_guardTold 3 (some .int) :: WS) (rmk 2 43) (PC [.ref (a 0), .int x1, .int x2] NM eM a cy D (fun _ => True) σ) (QI NM eM a cy D A r σ) 0 0 A := by
  refine met_go (own := "GuardsLookLeftModel") O (by decide +kernel) rfl (Nat.le_of_ble_eq_true rfl) ?_
  intro p e s m args below meth c ls C hP hS hl
  have hx := C.hx
  have hb := C.hb
  have hl : lv_has ls 3 [(0, .ref (a 0)), (1, .int x1), (2, .int x2)] := hl
  obtain ⟨H, hH⟩ : ∃ H, H = s.heap := ⟨_, rfl⟩
  rw [← hH] at hP
  have hS : va_S A s.heap H [] := by rw [hH]; exact va_S.rf
  suffices g : W p l e (rmk 2 43) s m args below meth c H [] 0 0 (MQ below (QI NM eM a cy D A r σ) args s 0 0 A) (F0 m 0 ls []) by rw [hH] at g; exact g
  clear hH
  obtain ⟨locs, hlocs⟩ : ∃ z : List Loc, z = [] := ⟨_, rfl⟩
  rw [← hlocs] at hS ⊢
  refine lv_aload_n hx hb dX10_guardTold_0 rfl (lv_at hl 0 rfl) ?_
  refine lv_iload_n hx hb dX10_guardTold_1 rfl (lv_at hl 1 rfl) ?_
  refine r_cz (r_runV (As := [.int x1]) (rest := []) C hP hS (va_recv C.hK hP (q0 := 0) (ci := 10) rfl (by rw [g_at oM_10.1, oM_10.2])) (k_X10_isGuard (l := l) O (σ := σ) rfl) mw_X10_isGuard mi_X10_isGuard mv_X10_isGuard wk_5_153 ⟨Nat.le_of_ble_eq_true rfl, Nat.le_of_ble_eq_true rfl⟩ ⟨rfl, rfl⟩ ⟨Nat.zero_le _, Nat.zero_le _⟩ rfl hl.1 rfl (Nat.le_of_ble_eq_true rfl) dX10_guardTold_2) hS (fun H locs hzy1 hP hS => ?_)
  refine jl_topz hf hzy1 (fun y1 hzy1 hf => ?_)
  refine lv_if_ne (tgt := 11) hx hb dX10_guardTold_5 (by decide) (fun hc => ?_) (fun hc => ?_)
  · have hf := jif_t hc hf
    refine lv_iload_n hx hb dX10_guardTold_11 rfl (lv_at hl 2 rfl) ?_
    by_cases hk100 : x2 = (0 : Int32)
    · have hf := jif_t hk100 hf
      refine sw_in (k := (0 : Int32)) (tgt := 52) C hk100 dX10_guardTold_12 (by decide) (by decide) rfl (by decide) ?_
      refine lv_aload_n hx hb dX10_guardTold_52 rfl (lv_at hl 0 rfl) ?_
      refine gf_X10_7 C hP wk_4_204 dX10_guardTold_53 ?_
      refine lv_iload_n hx hb dX10_guardTold_56 rfl (lv_at hl 1 rfl) ?_
      obtain ⟨hi3, hf⟩ := jix_e hf
      refine r_iald C hP aM_7 hi3 dX10_guardTold_57 ?_
      exact ret_i C hP hS (Option.some.inj hf) rfl dX10_guardTold_58
    · have hf := jif_f hk100 hf
      by_cases hk101 : x2 = (1 : Int32)
      · have hf := jif_t hk101 hf
        refine sw_in (k := (1 : Int32)) (tgt := 59) C hk101 dX10_guardTold_12 (by decide) (by decide) rfl (by decide) ?_
        refine lv_aload_n hx hb dX10_guardTold_59 rfl (lv_at hl 0 rfl) ?_
        refine gf_X10_5 C hP wk_4_202 dX10_guardTold_60 ?_
        refine lv_iload_n hx hb dX10_guardTold_63 rfl (lv_at hl 1 rfl) ?_
        obtain ⟨hi4, hf⟩ := jix_e hf
        refine r_iald C hP aM_5 hi4 dX10_guardTold_64 ?_
        exact ret_i C hP hS (Option.some.inj hf) rfl dX10_guardTold_65
      · have hf := jif_f hk101 hf
        by_cases hk102 : x2 = (2 : Int32)
        · have hf := jif_t hk102 hf
          refine sw_in (k := (2 : Int32)) (tgt := 66) C hk102 dX10_guardTold_12 (by decide) (by decide) rfl (by decide) ?_
          refine lv_aload_n hx hb dX10_guardTold_66 rfl (lv_at hl 0 rfl) ?_
          refine gf_X10_2 C hP wk_4_199 dX10_guardTold_67 ?_
          refine lv_iload_n hx hb dX10_guardTold_70 rfl (lv_at hl 1 rfl) ?_
          obtain ⟨hi5, hf⟩ := jix_e hf
          refine r_iald C hP aM_2 hi5 dX10_guardTold_71 ?_
          exact ret_i C hP hS (Option.some.inj hf) rfl dX10_guardTold_72
        · have hf := jif_f hk102 hf
          by_cases hk103 : x2 = (3 : Int32)
          · have hf := jif_t hk103 hf
            refine sw_in (k := (3 : Int32)) (tgt := 73) C hk103 dX10_guardTold_12 (by decide) (by decide) rfl (by decide) ?_
            refine lv_aload_n hx hb dX10_guardTold_73 rfl (lv_at hl 0 rfl) ?_
            refine gf_X10_3 C hP wk_4_200 dX10_guardTold_74 ?_
            refine lv_iload_n hx hb dX10_guardTold_77 rfl (lv_at hl 1 rfl) ?_
            obtain ⟨hi6, hf⟩ := jix_e hf
            refine r_iald C hP aM_3 hi6 dX10_guardTold_78 ?_
            exact ret_i C hP hS (Option.some.inj hf) rfl dX10_guardTold_79
          · have hf := jif_f hk103 hf
            by_cases hk104 : x2 = (4 : Int32)
            · have hf := jif_t hk104 hf
              refine sw_in (k := (4 : Int32)) (tgt := 80) C hk104 dX10_guardTold_12 (by decide) (by decide) rfl (by decide) ?_
              refine lv_aload_n hx hb dX10_guardTold_80 rfl (lv_at hl 0 rfl) ?_
              refine gf_X10_4 C hP wk_4_201 dX10_guardTold_81 ?_
              refine lv_iload_n hx hb dX10_guardTold_84 rfl (lv_at hl 1 rfl) ?_
              obtain ⟨hi7, hf⟩ := jix_e hf
              refine r_iald C hP aM_4 hi7 dX10_guardTold_85 ?_
              exact ret_i C hP hS (Option.some.inj hf) rfl dX10_guardTold_86
            · have hf := jif_f hk104 hf
              by_cases hk105 : x2 = (5 : Int32)
              · have hf := jif_t hk105 hf
                refine sw_in (k := (5 : Int32)) (tgt := 87) C hk105 dX10_guardTold_12 (by decide) (by decide) rfl (by decide) ?_
                refine lv_aload_n hx hb dX10_guardTold_87 rfl (lv_at hl 0 rfl) ?_
                refine gf_X10_6 C hP wk_4_203 dX10_guardTold_88 ?_
                refine lv_iload_n hx hb dX10_guardTold_91 rfl (lv_at hl 1 rfl) ?_
                obtain ⟨hi8, hf⟩ := jix_e hf
                refine r_iald C hP aM_6 hi8 dX10_guardTold_92 ?_
                exact ret_i C hP hS (Option.some.inj hf) rfl dX10_guardTold_93
              · have hf := jif_f hk105 hf
                refine lv_tableOut (tgt := 94) hx hb dX10_guardTold_12 (by have q100 := lv_neT hk100 (a := 0) (by decide); have q101 := lv_neT hk101 (a := 1) (by decide); have q102 := lv_neT hk102 (a := 2) (by decide); have q103 := lv_neT hk103 (a := 3) (by decide); have q104 := lv_neT hk104 (a := 4) (by decide); have q105 := lv_neT hk105 (a := 5) (by decide); omega) (by decide) ?_
                refine lv_bipush (v := (-7 : Int32)) hx hb dX10_guardTold_94 (by decide) ?_
                exact ret_i C hP hS (Option.some.inj hf) rfl dX10_guardTold_96
  · have hf := jif_n hc hf
    refine lv_bipush (v := (-5 : Int32)) hx hb dX10_guardTold_8 (by decide) ?_
    exact ret_i C hP hS (Option.some.inj hf) rfl dX10_guardTold_10
set_option maxHeartbeats 4000000 in
set_option maxRecDepth 100000 in
theorem k_X10_beside {l : Launch} {a : Nat → Nat} {cy : Nat → ClassId} {D : va_G} {A : Nat → Prop} (O : WO NM a (fun _ => True) A) {x1 : Int32} {x2 : Int32} {r : Int32} {σ : ST} (hf : f_X10_beside x1 x2 σ = r) : Met l yX10_beside (Cond.code yX10_beside cX10_beside 6 (some .int) :: WS) (rmk 1 22) (PC [.ref (a 0), .int x1, .int x2] NM eM a cy D (fun _ => True) σ) (QI NM eM a cy D A r σ) 0 0 A := by
  refine met_go (own := "GuardsLookLeftModel") O (by decide +kernel) rfl (Nat.le_of_ble_eq_true rfl) ?_
  intro p e s m args below meth c ls C hP hS hl
  have hx := C.hx
  have hb := C.hb
  have hl : lv_has ls 6 [(0, .ref (a 0)), (1, .int x1), (2, .int x2)] := hl
  obtain ⟨H, hH⟩ : ∃ H, H = s.heap := ⟨_, rfl⟩
  rw [← hH] at hP
  have hS : va_S A s.heap H [] := by rw [hH]; exact va_S.rf
  suffices g : W p l e (rmk 1 22) s m args below meth c H [] 0 0 (MQ below (QI NM eM a cy D A r σ) args s 0 0 A) (F0 m 0 ls []) by rw [hH] at g; exact g
  clear hH
  obtain ⟨locs, hlocs⟩ : ∃ z : List Loc, z = [] := ⟨_, rfl⟩
  rw [← hlocs] at hS ⊢
  have hL74 : (∀ (v3 : Int32) (v4 : Int32) (t0 : Int32) (H : Heap) (locs : List Loc) (ls : Array Slot), f_X10_beside_L74 v3 v4 t0 σ = r → va_P D vwCl (wG NM eM a cy σ) H → va_S A s.heap H locs → lv_has ls 6 [(0, .ref (a 0)), (3, .int v3), (4, .int v4)] → W p l e (rmk 1 22) s m args below meth c H locs 0 0 (MQ below (QI NM eM a cy D A r σ) args s 0 0 A) (F0 m 74 ls [.int t0])) := by
    intro v3 v4 t0 H locs ls hf hP hS hl
    refine lv_istore (lv' := [(5, .int t0), (0, .ref (a 0)), (3, .int v3), (4, .int v4)]) hx hb dX10_beside_74 hl (by decide) rfl (fun ls hl => ?_)
    refine lv_iload hx hb dX10_beside_76 (lv_at hl 0 rfl) ?_
    refine lv_if_eq (tgt := 110) hx hb dX10_beside_78 (by decide) (fun hc => ?_) (fun hc => ?_)
    · have hf := jif_t hc hf
      refine lv_iconst (v := (-1 : Int32)) hx hb dX10_beside_110 (by decide) ?_
      exact ret_i C hP hS hf rfl dX10_beside_111
    · have hf := jif_f hc hf
      refine lv_aload_n hx hb dX10_beside_81 rfl (lv_at hl 1 rfl) ?_
      refine gf_X10_0 C hP wk_4_197 dX10_beside_82 ?_
      refine lv_iconst (v := (0 : Int32)) hx hb dX10_beside_85 (by decide) ?_
      refine r_lald C hP aM_1 (vp_lit (by decide)) dX10_beside_86 ?_
      refine lv_bipush (v := (6 : Int32)) hx hb dX10_beside_87 (by decide) ?_
      refine lv_iload_n hx hb dX10_beside_89 rfl (lv_at hl 2 rfl) ?_
      refine lv_imul hx hb dX10_beside_90 ?_
      refine lv_iload hx hb dX10_beside_91 (lv_at hl 3 rfl) ?_
      refine lv_iadd hx hb dX10_beside_93 ?_
      refine r_cz (r_runS (As := [.long (gB σ 1 (Int32.toNatClampNeg (0 : Int32))), .int (((6 : Int32) * v3) + v4)]) (rest := []) C hP hS (k_X10_has (l := l) O (σ := σ) rfl) mw_X10_has ms_X10_has wk_5_101 ⟨Nat.le_of_ble_eq_true rfl, Nat.le_of_ble_eq_true rfl⟩ ⟨rfl, rfl⟩ ⟨Nat.zero_le _, Nat.zero_le _⟩ rfl hl.1 rfl (Nat.le_of_ble_eq_true rfl) dX10_beside_94) hS (fun H locs hzy1 hP hS => ?_)
      refine jl_topz hf hzy1 (fun y1 hzy1 hf => ?_)
      refine lv_if_ne (tgt := 110) hx hb dX10_beside_97 (by decide) (fun hc => ?_) (fun hc => ?_)
      · have hf := jif_t hc hf
        refine lv_iconst (v := (-1 : Int32)) hx hb dX10_beside_110 (by decide) ?_
        exact ret_i C hP hS hf rfl dX10_beside_111
      · have hf := jif_n hc hf
        refine lv_bipush (v := (6 : Int32)) hx hb dX10_beside_100 (by decide) ?_
        refine lv_iload_n hx hb dX10_beside_102 rfl (lv_at hl 2 rfl) ?_
        refine lv_imul hx hb dX10_beside_103 ?_
        refine lv_iload hx hb dX10_beside_104 (lv_at hl 3 rfl) ?_
        refine lv_iadd hx hb dX10_beside_106 ?_
        refine lv_goto (tgt := 111) hx hb dX10_beside_107 (by decide) ?_
        exact ret_i C hP hS hf rfl dX10_beside_111
  have hL73 : (∀ (v3 : Int32) (v4 : Int32) (H : Heap) (locs : List Loc) (ls : Array Slot), f_X10_beside_L73 v3 v4 σ = r → va_P D vwCl (wG NM eM a cy σ) H → va_S A s.heap H locs → lv_has ls 6 [(0, .ref (a 0)), (3, .int v3), (4, .int v4)] → W p l e (rmk 1 22) s m args below meth c H locs 0 0 (MQ below (QI NM eM a cy D A r σ) args s 0 0 A) (F0 m 73 ls [])) := by
    intro v3 v4 H locs ls hf hP hS hl
    refine lv_iconst (v := (0 : Int32)) hx hb dX10_beside_73 (by decide) ?_
    exact hL74 v3 v4 (0 : Int32) H locs ls hf hP hS (lv_sub hl [0, 1, 2] rfl)
  have hL47 : (∀ (v3 : Int32) (t0 : Int32) (t1 : Int32) (H : Heap) (locs : List Loc) (ls : Array Slot), f_X10_beside_L47 v3 t0 t1 σ = r → va_P D vwCl (wG NM eM a cy σ) H → va_S A s.heap H locs → lv_has ls 6 [(0, .ref (a 0)), (3, .int v3)] → W p l e (rmk 1 22) s m args below meth c H locs 0 0 (MQ below (QI NM eM a cy D A r σ) args s 0 0 A) (F0 m 47 ls [.int t1, .int t0])) := by
    intro v3 t0 t1 H locs ls hf hP hS hl
    refine lv_iadd hx hb dX10_beside_47 ?_
    refine jl_topi hf (fun y1 hf => ?_)
    refine lv_istore (lv' := [(4, .int y1), (0, .ref (a 0)), (3, .int v3)]) hx hb dX10_beside_48 hl (by decide) rfl (fun ls hl => ?_)
    refine lv_iload_n hx hb dX10_beside_50 rfl (lv_at hl 2 rfl) ?_
    refine lv_iconst (v := (0 : Int32)) hx hb dX10_beside_51 (by decide) ?_
    refine lv_iconst (v := (5 : Int32)) hx hb dX10_beside_52 (by decide) ?_
    refine r_cz (r_runS (As := [.int v3, .int (0 : Int32), .int (5 : Int32)]) (rest := []) C hP hS (k_X10_in (l := l) O (σ := σ) rfl) mw_X10_in ms_X10_in wk_4_158 ⟨Nat.le_of_ble_eq_true rfl, Nat.le_of_ble_eq_true rfl⟩ ⟨rfl, rfl⟩ ⟨Nat.zero_le _, Nat.zero_le _⟩ rfl hl.1 rfl (Nat.le_of_ble_eq_true rfl) dX10_beside_53) hS (fun H locs hzy2 hP hS => ?_)
    refine jl_topz hf hzy2 (fun y2 hzy2 hf => ?_)
    refine lv_if_eq (tgt := 73) hx hb dX10_beside_56 (by decide) (fun hc => ?_) (fun hc => ?_)
    · have hf := jif_t hc hf
      exact hL73 v3 y1 H locs ls hf hP hS (lv_sub hl [1, 2, 0] rfl)
    · have hf := jif_f hc hf
      refine lv_iload hx hb dX10_beside_59 (lv_at hl 0 rfl) ?_
      refine lv_iconst (v := (0 : Int32)) hx hb dX10_beside_61 (by decide) ?_
      refine lv_iconst (v := (5 : Int32)) hx hb dX10_beside_62 (by decide) ?_
      refine r_cz (r_runS (As := [.int y1, .int (0 : Int32), .int (5 : Int32)]) (rest := []) C hP hS (k_X10_in (l := l) O (σ := σ) rfl) mw_X10_in ms_X10_in wk_4_158 ⟨Nat.le_of_ble_eq_true rfl, Nat.le_of_ble_eq_true rfl⟩ ⟨rfl, rfl⟩ ⟨Nat.zero_le _, Nat.zero_le _⟩ rfl hl.1 rfl (Nat.le_of_ble_eq_true rfl) dX10_beside_63) hS (fun H locs hzy4 hP hS => ?_)
      refine jl_topz hf hzy4 (fun y4 hzy4 hf => ?_)
      refine lv_if_eq (tgt := 73) hx hb dX10_beside_66 (by decide) (fun hc => ?_) (fun hc => ?_)
      · have hf := jif_t hc hf
        exact hL73 v3 y1 H locs ls hf hP hS (lv_sub hl [1, 2, 0] rfl)
      · have hf := jif_f hc hf
        refine lv_iconst (v := (1 : Int32)) hx hb dX10_beside_69 (by decide) ?_
        refine lv_goto (tgt := 74) hx hb dX10_beside_70 (by decide) ?_
        exact hL74 v3 y1 (1 : Int32) H locs ls hf hP hS (lv_sub hl [1, 2, 0] rfl)
  have hL22 : (∀ (v1 : Int32) (v2 : Int32) (t0 : Int32) (t1 : Int32) (H : Heap) (locs : List Loc) (ls : Array Slot), f_X10_beside_L22 v1 v2 t0 t1 σ = r → va_P D vwCl (wG NM eM a cy σ) H → va_S A s.heap H locs → lv_has ls 6 [(0, .ref (a 0)), (1, .int v1), (2, .int v2)] → W p l e (rmk 1 22) s m args below meth c H locs 0 0 (MQ below (QI NM eM a cy D A r σ) args s 0 0 A) (F0 m 22 ls [.int t1, .int t0])) := by
    intro v1 v2 t0 t1 H locs ls hf hP hS hl
    refine lv_iadd hx hb dX10_beside_22 ?_
    refine jl_topi hf (fun y1 hf => ?_)
    refine lv_istore_n (lv' := [(3, .int y1), (0, .ref (a 0)), (1, .int v1), (2, .int v2)]) hx hb dX10_beside_23 rfl hl (by decide) rfl (fun ls hl => ?_)
    refine lv_iload_n hx hb dX10_beside_24 rfl (lv_at hl 2 rfl) ?_
    refine lv_bipush (v := (6 : Int32)) hx hb dX10_beside_25 (by decide) ?_
    refine r_irem C dX10_beside_27 (by decide) ?_
    refine lv_iload_n hx hb dX10_beside_28 rfl (lv_at hl 3 rfl) ?_
    refine lv_iconst (v := (1 : Int32)) hx hb dX10_beside_29 (by decide) ?_
    refine lv_icmp_ne (tgt := 37) hx hb dX10_beside_30 (by decide) (fun hc => ?_) (fun hc => ?_)
    · have hf := jif_t hc hf
      refine lv_iload_n hx hb dX10_beside_37 rfl (lv_at hl 3 rfl) ?_
      refine lv_iconst (v := (3 : Int32)) hx hb dX10_beside_38 (by decide) ?_
      refine lv_icmp_ne (tgt := 46) hx hb dX10_beside_39 (by decide) (fun hc => ?_) (fun hc => ?_)
      · have hf := jif_t hc hf
        refine lv_iconst (v := (0 : Int32)) hx hb dX10_beside_46 (by decide) ?_
        exact hL47 y1 (jrem v1 (6 : Int32)) (0 : Int32) H locs ls hf hP hS (lv_sub hl [1, 0] rfl)
      · have hf := jif_n hc hf
        refine lv_iconst (v := (-1 : Int32)) hx hb dX10_beside_42 (by decide) ?_
        refine lv_goto (tgt := 47) hx hb dX10_beside_43 (by decide) ?_
        exact hL47 y1 (jrem v1 (6 : Int32)) (-1 : Int32) H locs ls hf hP hS (lv_sub hl [1, 0] rfl)
    · have hf := jif_n hc hf
      refine lv_iconst (v := (1 : Int32)) hx hb dX10_beside_33 (by decide) ?_
      refine lv_goto (tgt := 47) hx hb dX10_beside_34 (by decide) ?_
      exact hL47 y1 (jrem v1 (6 : Int32)) (1 : Int32) H locs ls hf hP hS (lv_sub hl [1, 0] rfl)
  refine lv_iload_n hx hb dX10_beside_0 rfl (lv_at hl 1 rfl) ?_
  refine lv_bipush (v := (6 : Int32)) hx hb dX10_beside_1 (by decide) ?_
  refine lv_idiv hx hb dX10_beside_3 (by decide) ?_
  refine lv_iload_n hx hb dX10_beside_4 rfl (lv_at hl 2 rfl) ?_
  refine lv_if_ne (tgt := 12) hx hb dX10_beside_5 (by decide) (fun hc => ?_) (fun hc => ?_)
  · have hf := jif_t hc hf
    refine lv_iload_n hx hb dX10_beside_12 rfl (lv_at hl 2 rfl) ?_
    refine lv_iconst (v := (2 : Int32)) hx hb dX10_beside_13 (by decide) ?_
    refine lv_icmp_ne (tgt := 21) hx hb dX10_beside_14 (by decide) (fun hc => ?_) (fun hc => ?_)
    · have hf := jif_t hc hf
      refine lv_iconst (v := (0 : Int32)) hx hb dX10_beside_21 (by decide) ?_
      exact hL22 x1 x2 (x1 / (6 : Int32)) (0 : Int32) H locs ls hf hP hS (lv_sub hl [0, 1, 2] rfl)
    · have hf := jif_n hc hf
      refine lv_iconst (v := (-1 : Int32)) hx hb dX10_beside_17 (by decide) ?_
      refine lv_goto (tgt := 22) hx hb dX10_beside_18 (by decide) ?_
      exact hL22 x1 x2 (x1 / (6 : Int32)) (-1 : Int32) H locs ls hf hP hS (lv_sub hl [0, 1, 2] rfl)
  · have hf := jif_n hc hf
    refine lv_iconst (v := (1 : Int32)) hx hb dX10_beside_8 (by decide) ?_
    refine lv_goto (tgt := 22) hx hb dX10_beside_9 (by decide) ?_
    exact hL22 x1 x2 (x1 / (6 : Int32)) (1 : Int32) H locs ls hf hP hS (lv_sub hl [0, 1, 2] rfl)
set_option maxHeartbeats 4000000 in
set_option maxRecDepth 100000 in
theorem k_X10_own {l : Launch} {a : Nat → Nat} {cy : Nat → ClassId} {D : va_G} {A : Nat → Prop} (O : WO NM a (fun _ => True) A) {x1 : Int32} {x2 : Int32} {r : Int32} {σ : ST} (hf : f_X10_own x1 x2 σ = some r) : Met l yX10_own (Cond.code yX10_own cX10_own 3 (some .int) :: WS) (rmk 0 0) (PC [.ref (a 0), .int x1, .int x2] NM eM a cy D (fun _ => True) σ) (QI NM eM a cy D A r σ) 0 0 A := by
  refine met_go (own := "GuardsLookLeftModel") O (by decide +kernel) rfl (Nat.le_of_ble_eq_true rfl) ?_
  intro p e s m args below meth c ls C hP hS hl
  have hx := C.hx
  have hb := C.hb
  have hl : lv_has ls 3 [(0, .ref (a 0)), (1, .int x1), (2, .int x2)] := hl
  obtain ⟨H, hH⟩ : ∃ H, H = s.heap := ⟨_, rfl⟩
  rw [← hH] at hP
  have hS : va_S A s.heap H [] := by rw [hH]; exact va_S.rf
  suffices g : W p l e (rmk 0 0) s m args below meth c H [] 0 0 (MQ below (QI NM eM a cy D A r σ) args s 0 0 A) (F0 m 0 ls []) by rw [hH] at g; exact g
  clear hH
  obtain ⟨locs, hlocs⟩ : ∃ z : List Loc, z = [] := ⟨_, rfl⟩
  rw [← hlocs] at hS ⊢
  refine lv_iload_n hx hb dX10_own_0 rfl (lv_at hl 2 rfl) ?_
  refine lv_aload_n hx hb dX10_own_1 rfl (lv_at hl 0 rfl) ?_
  refine gf_X10_7 C hP wk_4_204 dX10_own_2 ?_
  refine lv_iload_n hx hb dX10_own_5 rfl (lv_at hl 1 rfl) ?_
  obtain ⟨hi1, hf⟩ := jix_e hf
  refine r_iald C hP aM_7 hi1 dX10_own_6 ?_
  refine lv_iadd hx hb dX10_own_7 ?_
  refine lv_bipush (v := (24 : Int32)) hx hb dX10_own_8 (by decide) ?_
  refine r_irem C dX10_own_10 (by decide) ?_
  exact ret_i C hP hS (Option.some.inj hf) rfl dX10_own_11
set_option maxHeartbeats 4000000 in
set_option maxRecDepth 100000 in
theorem k_X10_steps {l : Launch} {a : Nat → Nat} {cy : Nat → ClassId} {D : va_G} {A : Nat → Prop} (O : WO NM a (fun _ => True) A) {x1 : Int32} {x2 : Int32} {r : Int32} {σ : ST} (hf : f_X10_steps x1 x2 σ = some r) : Met l yX10_steps (Cond.code yX10_steps cX10_steps 4 (some .int) :: WS) (rmk 0 0) (PC [.ref (a 0), .int x1, .int x2] NM eM a cy D (fun _ => True) σ) (QI NM eM a cy D A r σ) 0 0 A := by
  refine met_go (own := "GuardsLookLeftModel") O (by decide +kernel) rfl (Nat.le_of_ble_eq_true rfl) ?_
  intro p e s m args below meth c ls C hP hS hl
  have hx := C.hx
  have hb := C.hb
  have hl : lv_has ls 4 [(0, .ref (a 0)), (1, .int x1), (2, .int x2)] := hl
  obtain ⟨H, hH⟩ : ∃ H, H = s.heap := ⟨_, rfl⟩
  rw [← hH] at hP
  have hS : va_S A s.heap H [] := by rw [hH]; exact va_S.rf
  suffices g : W p l e (rmk 0 0) s m args below meth c H [] 0 0 (MQ below (QI NM eM a cy D A r σ) args s 0 0 A) (F0 m 0 ls []) by rw [hH] at g; exact g
  clear hH
  obtain ⟨locs, hlocs⟩ : ∃ z : List Loc, z = [] := ⟨_, rfl⟩
  rw [← hlocs] at hS ⊢
  have hL31 : (∀ (v2 : Int32) (H : Heap) (locs : List Loc) (ls : Array Slot), f_X10_steps_L31 v2 σ = some r → va_P D vwCl (wG NM eM a cy σ) H → va_S A s.heap H locs → lv_has ls 4 [(2, .int v2)] → W p l e (rmk 0 0) s m args below meth c H locs 0 0 (MQ below (QI NM eM a cy D A r σ) args s 0 0 A) (F0 m 31 ls [])) := by
    intro v2 H locs ls hf hP hS hl
    refine lv_iload_n hx hb dX10_steps_31 rfl (lv_at hl 0 rfl) ?_
    refine lv_iconst (v := (2 : Int32)) hx hb dX10_steps_32 (by decide) ?_
    refine lv_idiv hx hb dX10_steps_33 (by decide) ?_
    refine lv_goto (tgt := 49) hx hb dX10_steps_34 (by decide) ?_
    exact ret_i C hP hS (Option.some.inj hf) rfl dX10_steps_49
  refine lv_aload_n hx hb dX10_steps_0 rfl (lv_at hl 0 rfl) ?_
  refine gf_X10_2 C hP wk_4_199 dX10_steps_1 ?_
  refine lv_iload_n hx hb dX10_steps_4 rfl (lv_at hl 1 rfl) ?_
  obtain ⟨hi1, hf⟩ := jix_e hf
  refine r_iald C hP aM_2 hi1 dX10_steps_5 ?_
  refine jl_topi hf (fun y2 hf => ?_)
  refine lv_istore_n (lv' := [(3, .int y2), (0, .ref (a 0)), (1, .int x1), (2, .int x2)]) hx hb dX10_steps_6 rfl hl (by decide) rfl (fun ls hl => ?_)
  refine lv_iload_n hx hb dX10_steps_7 rfl (lv_at hl 0 rfl) ?_
  refine lv_iconst (v := (1 : Int32)) hx hb dX10_steps_8 (by decide) ?_
  refine lv_icmp_eq (tgt := 17) hx hb dX10_steps_9 (by decide) (fun hc => ?_) (fun hc => ?_)
  · have hf := jif_t hc hf
    refine lv_iconst (v := (0 : Int32)) hx hb dX10_steps_17 (by decide) ?_
    refine lv_goto (tgt := 49) hx hb dX10_steps_18 (by decide) ?_
    exact ret_i C hP hS (Option.some.inj hf) rfl dX10_steps_49
  · have hf := jif_f hc hf
    refine lv_iload_n hx hb dX10_steps_12 rfl (lv_at hl 0 rfl) ?_
    refine lv_iconst (v := (3 : Int32)) hx hb dX10_steps_13 (by decide) ?_
    refine lv_icmp_ne (tgt := 21) hx hb dX10_steps_14 (by decide) (fun hc => ?_) (fun hc => ?_)
    · have hf := jif_t hc hf
      refine lv_iload_n hx hb dX10_steps_21 rfl (lv_at hl 0 rfl) ?_
      refine lv_iconst (v := (2 : Int32)) hx hb dX10_steps_22 (by decide) ?_
      refine lv_icmp_eq (tgt := 31) hx hb dX10_steps_23 (by decide) (fun hc => ?_) (fun hc => ?_)
      · have hf := jif_t hc hf
        exact hL31 x2 H locs ls hf hP hS (lv_sub hl [3] rfl)
      · have hf := jif_f hc hf
        refine lv_iload_n hx hb dX10_steps_26 rfl (lv_at hl 0 rfl) ?_
        refine lv_iconst (v := (4 : Int32)) hx hb dX10_steps_27 (by decide) ?_
        refine lv_icmp_ne (tgt := 37) hx hb dX10_steps_28 (by decide) (fun hc => ?_) (fun hc => ?_)
        · have hf := jif_t hc hf
          refine lv_iload_n hx hb dX10_steps_37 rfl (lv_at hl 0 rfl) ?_
          refine lv_iconst (v := (5 : Int32)) hx hb dX10_steps_38 (by decide) ?_
          refine lv_icmp_ne (tgt := 48) hx hb dX10_steps_39 (by decide) (fun hc => ?_) (fun hc => ?_)
          · have hf := jif_t hc hf
            refine lv_iload_n hx hb dX10_steps_48 rfl (lv_at hl 3 rfl) ?_
            exact ret_i C hP hS (Option.some.inj hf) rfl dX10_steps_49
          · have hf := jif_n hc hf
            refine lv_iconst (v := (2 : Int32)) hx hb dX10_steps_42 (by decide) ?_
            refine lv_iload_n hx hb dX10_steps_43 rfl (lv_at hl 3 rfl) ?_
            refine lv_imul hx hb dX10_steps_44 ?_
            refine lv_goto (tgt := 49) hx hb dX10_steps_45 (by decide) ?_
            exact ret_i C hP hS (Option.some.inj hf) rfl dX10_steps_49
        · have hf := jif_n hc hf
          exact hL31 x2 H locs ls hf hP hS (lv_sub hl [3] rfl)
    · have hf := jif_n hc hf
      refine lv_iconst (v := (0 : Int32)) hx hb dX10_steps_17 (by decide) ?_
      refine lv_goto (tgt := 49) hx hb dX10_steps_18 (by decide) ?_
      exact ret_i C hP hS (Option.some.inj hf) rfl dX10_steps_49
set_option maxHeartbeats 4000000 in
set_option maxRecDepth 100000 in
theorem k_X10_looks {l : Launch} {a : Nat → Nat} {cy : Nat → ClassId} {D : va_G} {A : Nat → Prop} (O : WO NM a (fun _ => True) A) {x1 : Int32} {x2 : Int32} {r : Int32} {σ : ST} (hf : f_X10_looks x1 x2 σ = some r) : Met l yX10_looks (Cond.code yX10_looks cX10_looks 4 (some .boolean) :: WS) (rmk 1 22) (PC [.ref (a 0), .int x1, .int x2] NM eM a cy D (fun _ => True) σ) (QZ NM eM a cy D A r σ) 0 0 A := by
  refine met_go (own := "GuardsLookLeftModel") O (by decide +kernel) rfl (Nat.le_of_ble_eq_true rfl) ?_
  intro p e s m args below meth c ls C hP hS hl
  have hx := C.hx
  have hb := C.hb
  have hl : lv_has ls 4 [(0, .ref (a 0)), (1, .int x1), (2, .int x2)] := hl
  obtain ⟨H, hH⟩ : ∃ H, H = s.heap := ⟨_, rfl⟩
  rw [← hH] at hP
  have hS : va_S A s.heap H [] := by rw [hH]; exact va_S.rf
  suffices g : W p l e (rmk 1 22) s m args below meth c H [] 0 0 (MQ below (QZ NM eM a cy D A r σ) args s 0 0 A) (F0 m 0 ls []) by rw [hH] at g; exact g
  clear hH
  obtain ⟨locs, hlocs⟩ : ∃ z : List Loc, z = [] := ⟨_, rfl⟩
  rw [← hlocs] at hS ⊢
  refine lv_aload_n hx hb dX10_looks_0 rfl (lv_at hl 0 rfl) ?_
  refine lv_iload_n hx hb dX10_looks_1 rfl (lv_at hl 1 rfl) ?_
  refine lv_iload_n hx hb dX10_looks_2 rfl (lv_at hl 2 rfl) ?_
  obtain ⟨y1, hc, hf⟩ := jb_e hf
  refine r_ci (r_runV (As := [.int x1, .int x2]) (rest := []) C hP hS (va_recv C.hK hP (q0 := 0) (ci := 10) rfl (by rw [g_at oM_10.1, oM_10.2])) (k_X10_own (l := l) O (σ := σ) hc) mw_X10_own mi_X10_own mv_X10_own wk_5_181 ⟨Nat.le_of_ble_eq_true rfl, Nat.le_of_ble_eq_true rfl⟩ ⟨rfl, rfl⟩ ⟨Nat.zero_le _, Nat.zero_le _⟩ rfl hl.1 rfl (Nat.le_of_ble_eq_true rfl) dX10_looks_3) hS (fun H locs hP hS => ?_)
  refine lv_istore_n (lv' := [(3, .int y1), (0, .ref (a 0)), (1, .int x1), (2, .int x2)]) hx hb dX10_looks_6 rfl hl (by decide) rfl (fun ls hl => ?_)
  refine lv_aload_n hx hb dX10_looks_7 rfl (lv_at hl 1 rfl) ?_
  refine gf_X10_2 C hP wk_4_199 dX10_looks_8 ?_
  refine lv_iload_n hx hb dX10_looks_11 rfl (lv_at hl 2 rfl) ?_
  obtain ⟨hi3, hf⟩ := jix_e hf
  refine r_iald C hP aM_2 hi3 dX10_looks_12 ?_
  refine lv_iconst (v := (4 : Int32)) hx hb dX10_looks_13 (by decide) ?_
  refine lv_icmp_ne (tgt := 38) hx hb dX10_looks_14 (by decide) (fun hc => ?_) (fun hc => ?_)
  · have hf := jif_t hc hf
    refine lv_aload_n hx hb dX10_looks_38 rfl (lv_at hl 1 rfl) ?_
    refine gf_X10_2 C hP wk_4_199 dX10_looks_39 ?_
    refine lv_iload_n hx hb dX10_looks_42 rfl (lv_at hl 2 rfl) ?_
    obtain ⟨hi4, hf⟩ := jix_e hf
    refine r_iald C hP aM_2 hi4 dX10_looks_43 ?_
    refine lv_iconst (v := (5 : Int32)) hx hb dX10_looks_44 (by decide) ?_
    refine lv_icmp_ne (tgt := 58) hx hb dX10_looks_45 (by decide) (fun hc => ?_) (fun hc => ?_)
    · have hf := jif_t hc hf
      refine lv_iconst (v := (1 : Int32)) hx hb dX10_looks_58 (by decide) ?_
      refine lv_goto (tgt := 63) hx hb dX10_looks_59 (by decide) ?_
      exact ret_z C hP hS bz_1 (Option.some.inj hf) rfl dX10_looks_63
    · have hf := jif_n hc hf
      refine lv_iload_n hx hb dX10_looks_48 rfl (lv_at hl 0 rfl) ?_
      refine lv_aload_n hx hb dX10_looks_49 rfl (lv_at hl 1 rfl) ?_
      refine gf_X10_6 C hP wk_4_203 dX10_looks_50 ?_
      refine lv_iload_n hx hb dX10_looks_53 rfl (lv_at hl 2 rfl) ?_
      obtain ⟨hi5, hf⟩ := jix_e hf
      refine r_iald C hP aM_6 hi5 dX10_looks_54 ?_
      refine lv_icmp_lt (tgt := 62) hx hb dX10_looks_55 (by decide) (fun hc => ?_) (fun hc => ?_)
      · have hf := jif_t hc hf
        refine lv_iconst (v := (0 : Int32)) hx hb dX10_looks_62 (by decide) ?_
        exact ret_z C hP hS bz_0 (Option.some.inj hf) rfl dX10_looks_63
      · have hf := jif_f hc hf
        refine lv_iconst (v := (1 : Int32)) hx hb dX10_looks_58 (by decide) ?_
        refine lv_goto (tgt := 63) hx hb dX10_looks_59 (by decide) ?_
        exact ret_z C hP hS bz_1 (Option.some.inj hf) rfl dX10_looks_63
  · have hf := jif_n hc hf
    refine lv_iload_n hx hb dX10_looks_17 rfl (lv_at hl 0 rfl) ?_
    refine lv_aload_n hx hb dX10_looks_18 rfl (lv_at hl 1 rfl) ?_
    refine gf_X10_6 C hP wk_4_203 dX10_looks_19 ?_
    refine lv_iload_n hx hb dX10_looks_22 rfl (lv_at hl 2 rfl) ?_
    obtain ⟨hi6, hf⟩ := jix_e hf
    refine r_iald C hP aM_6 hi6 dX10_looks_23 ?_
    refine lv_iconst (v := (2 : Int32)) hx hb dX10_looks_24 (by decide) ?_
    refine lv_iadd hx hb dX10_looks_25 ?_
    obtain ⟨hne, hf⟩ := jnz_e hf
    refine r_irem C dX10_looks_26 hne ?_
    refine lv_if_eq (tgt := 34) hx hb dX10_looks_27 (by decide) (fun hc => ?_) (fun hc => ?_)
    · have hf := jif_t hc hf
      refine lv_iconst (v := (0 : Int32)) hx hb dX10_looks_34 (by decide) ?_
      refine lv_goto (tgt := 63) hx hb dX10_looks_35 (by decide) ?_
      exact ret_z C hP hS bz_0 (Option.some.inj hf) rfl dX10_looks_63
    · have hf := jif_f hc hf
      refine lv_iconst (v := (1 : Int32)) hx hb dX10_looks_30 (by decide) ?_
      refine lv_goto (tgt := 63) hx hb dX10_looks_31 (by decide) ?_
      exact ret_z C hP hS bz_1 (Option.some.inj hf) rfl dX10_looks_63
set_option maxHeartbeats 4000000 in
set_option maxRecDepth 100000 in
theorem k_X10_beat {l : Launch} {a : Nat → Nat} {cy : Nat → ClassId} {D : va_G} {A : Nat → Prop} (O : WO NM a (fun _ => True) A) {x1 : Int32} {r : Int32} {σ : ST} (hf : f_X10_beat x1 σ = some r) : Met l yX10_beat (Cond.code yX10_beat cX10_beat 4 (some .int) :: WS) (rmk 2 47) (PC [.ref (a 0), .int x1] NM eM a cy D (fun _ => True) σ) (QI NM eM a cy D A r σ) 0 0 A := by
  refine met_go (own := "GuardsLookLeftModel") O (by decide +kernel) rfl (Nat.le_of_ble_eq_true rfl) ?_
  intro p e s m args below meth c ls C hP hS hl
  have hx := C.hx
  have hb := C.hb
  have hl : lv_has ls 4 [(0, .ref (a 0)), (1, .int x1)] := hl
  obtain ⟨H, hH⟩ : ∃ H, H = s.heap := ⟨_, rfl⟩
  rw [← hH] at hP
  have hS : va_S A s.heap H [] := by rw [hH]; exact va_S.rf
  suffices g : W p l e (rmk 2 47) s m args below meth c H [] 0 0 (MQ below (QI NM eM a cy D A r σ) args s 0 0 A) (F0 m 0 ls []) by rw [hH] at g; exact g
  clear hH
  obtain ⟨locs, hlocs⟩ : ∃ z : List Loc, z = [] := ⟨_, rfl⟩
  rw [← hlocs] at hS ⊢
  have hL9 : ∀ (n : Nat), (∀ (v1 : Int32) (v2 : Int32) (v3 : Int32) (H : Heap) (locs : List Loc) (ls : Array Slot), f_X10_beat_L9 n v1 v2 v3 σ = some r → va_P D vwCl (wG NM eM a cy σ) H → va_S A s.heap H locs → lv_has ls 4 [(0, .ref (a 0)), (1, .int v1), (2, .int v2), (3, .int v3)] → W p l e (rmk 2 47) s m args below meth c H locs 0 0 (MQ below (QI NM eM a cy D A r σ) args s 0 0 A) (F0 m 9 ls [])) := by
    intro n
    induction n with
    | zero => intro v1 v2 v3 H locs ls hf hP hS hl; exact no_o hf
    | succ n ih =>
      intro v1 v2 v3 H locs ls hf hP hS hl
      have hf := (ef_X10_beat_L9 _ _ _ _).symm.trans hf
      refine lv_iload_n hx hb dX10_beat_9 rfl (lv_at hl 2 rfl) ?_
      refine lv_aload_n hx hb dX10_beat_10 rfl (lv_at hl 0 rfl) ?_
      refine gf_X10_5 C hP wk_4_202 dX10_beat_11 ?_
      refine lv_iload_n hx hb dX10_beat_14 rfl (lv_at hl 1 rfl) ?_
      obtain ⟨hi1, hf⟩ := jix_e hf
      refine r_iald C hP aM_5 hi1 dX10_beat_15 ?_
      refine lv_icmp_ge (tgt := 52) hx hb dX10_beat_16 (by decide) (fun hc => ?_) (fun hc => ?_)
      · have hf := jif_t hc hf
        refine lv_iload_n hx hb dX10_beat_52 rfl (lv_at hl 2 rfl) ?_
        exact ret_i C hP hS (Option.some.inj hf) rfl dX10_beat_53
      · have hf := jif_f hc hf
        refine lv_aload_n hx hb dX10_beat_19 rfl (lv_at hl 0 rfl) ?_
        refine lv_iload_n hx hb dX10_beat_20 rfl (lv_at hl 3 rfl) ?_
        refine lv_aload_n hx hb dX10_beat_21 rfl (lv_at hl 0 rfl) ?_
        refine gf_X10_4 C hP wk_4_201 dX10_beat_22 ?_
        refine lv_iload_n hx hb dX10_beat_25 rfl (lv_at hl 1 rfl) ?_
        obtain ⟨hi2, hf⟩ := jix_e hf
        refine r_iald C hP aM_4 hi2 dX10_beat_26 ?_
        refine r_ci (r_runV (As := [.int v3, .int (gA σ 4 (Int32.toNatClampNeg v1))]) (rest := []) C hP hS (va_recv C.hK hP (q0 := 0) (ci := 10) rfl (by rw [g_at oM_10.1, oM_10.2])) (k_X10_beside (l := l) O (σ := σ) rfl) mw_X10_beside mi_X10_beside mv_X10_beside wk_5_173 ⟨Nat.le_of_ble_eq_true rfl, Nat.le_of_ble_eq_true rfl⟩ ⟨rfl, rfl⟩ ⟨Nat.zero_le _, Nat.zero_le _⟩ rfl hl.1 rfl (Nat.le_of_ble_eq_true rfl) dX10_beat_27) hS (fun H locs hP hS => ?_)
        refine jl_topi hf (fun y3 hf => ?_)
        refine lv_iconst (v := (-1 : Int32)) hx hb dX10_beat_30 (by decide) ?_
        refine lv_icmp_eq (tgt := 52) hx hb dX10_beat_31 (by decide) (fun hc => ?_) (fun hc => ?_)
        · have hf := jif_t hc hf
          refine lv_iload_n hx hb dX10_beat_52 rfl (lv_at hl 2 rfl) ?_
          exact ret_i C hP hS (Option.some.inj hf) rfl dX10_beat_53
        · have hf := jif_f hc hf
          refine lv_aload_n hx hb dX10_beat_34 rfl (lv_at hl 0 rfl) ?_
          refine lv_iload_n hx hb dX10_beat_35 rfl (lv_at hl 3 rfl) ?_
          refine lv_aload_n hx hb dX10_beat_36 rfl (lv_at hl 0 rfl) ?_
          refine gf_X10_4 C hP wk_4_201 dX10_beat_37 ?_
          refine lv_iload_n hx hb dX10_beat_40 rfl (lv_at hl 1 rfl) ?_
          obtain ⟨hi5, hf⟩ := jix_e hf
          refine r_iald C hP aM_4 hi5 dX10_beat_41 ?_
          refine r_ci (r_runV (As := [.int v3, .int (gA σ 4 (Int32.toNatClampNeg v1))]) (rest := []) C hP hS (va_recv C.hK hP (q0 := 0) (ci := 10) rfl (by rw [g_at oM_10.1, oM_10.2])) (k_X10_beside (l := l) O (σ := σ) rfl) mw_X10_beside mi_X10_beside mv_X10_beside wk_5_173 ⟨Nat.le_of_ble_eq_true rfl, Nat.le_of_ble_eq_true rfl⟩ ⟨rfl, rfl⟩ ⟨Nat.zero_le _, Nat.zero_le _⟩ rfl hl.1 rfl (Nat.le_of_ble_eq_true rfl) dX10_beat_42) hS (fun H locs hP hS => ?_)
          refine jl_topi hf (fun y6 hf => ?_)
          refine lv_istore_n (lv' := [(3, .int y6), (0, .ref (a 0)), (1, .int v1), (2, .int v2)]) hx hb dX10_beat_45 rfl hl (by decide) rfl (fun ls hl => ?_)
          obtain ⟨y8, ey8, hf⟩ := jlet_e hf
          refine lv_iinc (v := y8) (lv' := [(2, .int y8), (3, .int y6), (0, .ref (a 0)), (1, .int v1)]) hx hb dX10_beat_46 hl (k := 3) rfl ey8 (by decide) rfl (fun ls hl => ?_)
          refine lv_goto (tgt := 9) hx hb dX10_beat_49 (by decide) ?_
          exact ih v1 y8 y6 H locs ls hf hP hS (lv_sub hl [2, 3, 0, 1] rfl)
  refine lv_iconst (v := (0 : Int32)) hx hb dX10_beat_0 (by decide) ?_
  refine lv_istore_n (lv' := [(2, .int (0 : Int32)), (0, .ref (a 0)), (1, .int x1)]) hx hb dX10_beat_1 rfl hl (by decide) rfl (fun ls hl => ?_)
  refine lv_aload_n hx hb dX10_beat_2 rfl (lv_at hl 1 rfl) ?_
  refine gf_X10_3 C hP wk_4_200 dX10_beat_3 ?_
  refine lv_iload_n hx hb dX10_beat_6 rfl (lv_at hl 2 rfl) ?_
  obtain ⟨hi1, hf⟩ := jix_e hf
  refine r_iald C hP aM_3 hi1 dX10_beat_7 ?_
  refine jl_topi hf (fun y2 hf => ?_)
  refine lv_istore_n (lv' := [(3, .int y2), (2, .int (0 : Int32)), (0, .ref (a 0)), (1, .int x1)]) hx hb dX10_beat_8 rfl hl (by decide) rfl (fun ls hl => ?_)
  exact hL9 FU x1 (0 : Int32) y2 H locs ls hf hP hS (lv_sub hl [2, 3, 1, 0] rfl)
set_option maxHeartbeats 4000000 in
set_option maxRecDepth 100000 in
theorem k_X10_walked {l : Launch} {a : Nat → Nat} {cy : Nat → ClassId} {D : va_G} {A : Nat → Prop} (O : WO NM a (fun _ => True) A) {x1 : Int32} {x2 : Int32} {r : Int32} {σ : ST} (hf : f_X10_walked x1 x2 σ = some r) : Met l yX10_walked (Cond.code yX10_walked cX10_walked 4 (some .int) :: WS) (rmk 3 70) (PC [.ref (a 0), .int x1, .int x2] NM eM a cy D (fun _ => True) σ) (QI NM eM a cy D A r σ) 0 0 A := by
  refine met_go (own := "GuardsLookLeftModel") O (by decide +kernel) rfl (Nat.le_of_ble_eq_true rfl) ?_
  intro p e s m args below meth c ls C hP hS hl
  have hx := C.hx
  have hb := C.hb
  have hl : lv_has ls 4 [(0, .ref (a 0)), (1, .int x1), (2, .int x2)] := hl
  obtain ⟨H, hH⟩ : ∃ H, H = s.heap := ⟨_, rfl⟩
  rw [← hH] at hP
  have hS : va_S A s.heap H [] := by rw [hH]; exact va_S.rf
  suffices g : W p l e (rmk 3 70) s m args below meth c H [] 0 0 (MQ below (QI NM eM a cy D A r σ) args s 0 0 A) (F0 m 0 ls []) by rw [hH] at g; exact g
  clear hH
  obtain ⟨locs, hlocs⟩ : ∃ z : List Loc, z = [] := ⟨_, rfl⟩
  rw [← hlocs] at hS ⊢
  refine lv_aload_n hx hb dX10_walked_0 rfl (lv_at hl 0 rfl) ?_
  refine lv_iload_n hx hb dX10_walked_1 rfl (lv_at hl 1 rfl) ?_
  obtain ⟨y1, hc, hf⟩ := jb_e hf
  refine r_ci (r_runV (As := [.int x1]) (rest := []) C hP hS (va_recv C.hK hP (q0 := 0) (ci := 10) rfl (by rw [g_at oM_10.1, oM_10.2])) (k_X10_beat (l := l) O (σ := σ) hc) mw_X10_beat mi_X10_beat mv_X10_beat wk_5_169 ⟨Nat.le_of_ble_eq_true rfl, Nat.le_of_ble_eq_true rfl⟩ ⟨rfl, rfl⟩ ⟨Nat.zero_le _, Nat.zero_le _⟩ rfl hl.1 rfl (Nat.le_of_ble_eq_true rfl) dX10_walked_2) hS (fun H locs hP hS => ?_)
  refine lv_istore_n (lv' := [(3, .int y1), (0, .ref (a 0)), (1, .int x1), (2, .int x2)]) hx hb dX10_walked_5 rfl hl (by decide) rfl (fun ls hl => ?_)
  refine lv_iload_n hx hb dX10_walked_6 rfl (lv_at hl 0 rfl) ?_
  refine lv_if_ne (tgt := 14) hx hb dX10_walked_7 (by decide) (fun hc => ?_) (fun hc => ?_)
  · have hf := jif_t hc hf
    refine lv_aload_n hx hb dX10_walked_14 rfl (lv_at hl 1 rfl) ?_
    refine lv_iload_n hx hb dX10_walked_15 rfl (lv_at hl 2 rfl) ?_
    refine lv_aload_n hx hb dX10_walked_16 rfl (lv_at hl 1 rfl) ?_
    refine lv_iload_n hx hb dX10_walked_17 rfl (lv_at hl 2 rfl) ?_
    refine lv_iload_n hx hb dX10_walked_18 rfl (lv_at hl 3 rfl) ?_
    obtain ⟨y3, hc, hf⟩ := jb_e hf
    refine r_ci (r_runV (As := [.int x1, .int x2]) (rest := [.int x1, .ref (a 0)]) C hP hS (va_recv C.hK hP (q0 := 0) (ci := 10) rfl (by rw [g_at oM_10.1, oM_10.2])) (k_X10_own (l := l) O (σ := σ) hc) mw_X10_own mi_X10_own mv_X10_own wk_5_181 ⟨Nat.le_of_ble_eq_true rfl, Nat.le_of_ble_eq_true rfl⟩ ⟨rfl, rfl⟩ ⟨Nat.zero_le _, Nat.zero_le _⟩ rfl hl.1 rfl (Nat.le_of_ble_eq_true rfl) dX10_walked_19) hS (fun H locs hP hS => ?_)
    obtain ⟨y5, hc, hf⟩ := jb_e hf
    refine r_ci (r_runV (As := [.int x1, .int y3]) (rest := []) C hP hS (va_recv C.hK hP (q0 := 0) (ci := 10) rfl (by rw [g_at oM_10.1, oM_10.2])) (k_X10_steps (l := l) O (σ := σ) hc) mw_X10_steps mi_X10_steps mv_X10_steps wk_5_185 ⟨Nat.le_of_ble_eq_true rfl, Nat.le_of_ble_eq_true rfl⟩ ⟨rfl, rfl⟩ ⟨Nat.zero_le _, Nat.zero_le _⟩ rfl hl.1 rfl (Nat.le_of_ble_eq_true rfl) dX10_walked_22) hS (fun H locs hP hS => ?_)
    refine lv_iconst (v := (2 : Int32)) hx hb dX10_walked_25 (by decide) ?_
    refine lv_iload_n hx hb dX10_walked_26 rfl (lv_at hl 0 rfl) ?_
    refine lv_imul hx hb dX10_walked_27 ?_
    obtain ⟨hne, hf⟩ := jnz_e hf
    refine r_irem C dX10_walked_28 hne ?_
    exact ret_i C hP hS (Option.some.inj hf) rfl dX10_walked_29
  · have hf := jif_n hc hf
    refine lv_iconst (v := (0 : Int32)) hx hb dX10_walked_10 (by decide) ?_
    refine lv_goto (tgt := 29) hx hb dX10_walked_11 (by decide) ?_
    exact ret_i C hP hS (Option.some.inj hf) rfl dX10_walked_29
set_option maxHeartbeats 4000000 in
set_option maxRecDepth 100000 in
theorem k_X10_stands {l : Launch} {a : Nat → Nat} {cy : Nat → ClassId} {D : va_G} {A : Nat → Prop} (O : WO NM a (fun _ => True) A) {x1 : Int32} {x2 : Int32} {r : Int32} {σ : ST} (hf : f_X10_stands x1 x2 σ = some r) : Met l yX10_stands (Cond.code yX10_stands cX10_stands 8 (some .int) :: WS) (rmk 4 93) (PC [.ref (a 0), .int x1, .int x2] NM eM a cy D (fun _ => True) σ) (QI NM eM a cy D A r σ) 0 0 A := by
  refine met_go (own := "GuardsLookLeftModel") O (by decide +kernel) rfl (Nat.le_of_ble_eq_true rfl) ?_
  intro p e s m args below meth c ls C hP hS hl
  have hx := C.hx
  have hb := C.hb
  have hl : lv_has ls 8 [(0, .ref (a 0)), (1, .int x1), (2, .int x2)] := hl
  obtain ⟨H, hH⟩ : ∃ H, H = s.heap := ⟨_, rfl⟩
  rw [← hH] at hP
  have hS : va_S A s.heap H [] := by rw [hH]; exact va_S.rf
  suffices g : W p l e (rmk 4 93) s m args below meth c H [] 0 0 (MQ below (QI NM eM a cy D A r σ) args s 0 0 A) (F0 m 0 ls []) by rw [hH] at g; exact g
  clear hH
  obtain ⟨locs, hlocs⟩ : ∃ z : List Loc, z = [] := ⟨_, rfl⟩
  rw [← hlocs] at hS ⊢
  have hL44 : ∀ (n : Nat), (∀ (v1 : Int32) (v5 : Int32) (v6 : Int32) (v7 : Int32) (H : Heap) (locs : List Loc) (ls : Array Slot), f_X10_stands_L44 n v1 v5 v6 v7 σ = some r → va_P D vwCl (wG NM eM a cy σ) H → va_S A s.heap H locs → lv_has ls 8 [(0, .ref (a 0)), (1, .int v1), (5, .int v5), (6, .int v6), (7, .int v7)] → W p l e (rmk 4 93) s m args below meth c H locs 0 0 (MQ below (QI NM eM a cy D A r σ) args s 0 0 A) (F0 m 44 ls [])) := by
    intro n
    induction n with
    | zero => intro v1 v5 v6 v7 H locs ls hf hP hS hl; exact no_o hf
    | succ n ih =>
      intro v1 v5 v6 v7 H locs ls hf hP hS hl
      have hf := (ef_X10_stands_L44 _ _ _ _ _).symm.trans hf
      refine lv_iload hx hb dX10_stands_44 (lv_at hl 4 rfl) ?_
      refine lv_iload hx hb dX10_stands_46 (lv_at hl 2 rfl) ?_
      refine lv_icmp_ge (tgt := 71) hx hb dX10_stands_48 (by decide) (fun hc => ?_) (fun hc => ?_)
      · have hf := jif_t hc hf
        refine lv_iload hx hb dX10_stands_71 (lv_at hl 3 rfl) ?_
        exact ret_i C hP hS (Option.some.inj hf) rfl dX10_stands_73
      · have hf := jif_f hc hf
        refine lv_aload_n hx hb dX10_stands_51 rfl (lv_at hl 0 rfl) ?_
        refine lv_iload hx hb dX10_stands_52 (lv_at hl 3 rfl) ?_
        refine lv_aload_n hx hb dX10_stands_54 rfl (lv_at hl 0 rfl) ?_
        refine gf_X10_4 C hP wk_4_201 dX10_stands_55 ?_
        refine lv_iload_n hx hb dX10_stands_58 rfl (lv_at hl 1 rfl) ?_
        obtain ⟨hi1, hf⟩ := jix_e hf
        refine r_iald C hP aM_4 hi1 dX10_stands_59 ?_
        refine r_ci (r_runV (As := [.int v6, .int (gA σ 4 (Int32.toNatClampNeg v1))]) (rest := []) C hP hS (va_recv C.hK hP (q0 := 0) (ci := 10) rfl (by rw [g_at oM_10.1, oM_10.2])) (k_X10_beside (l := l) O (σ := σ) rfl) mw_X10_beside mi_X10_beside mv_X10_beside wk_5_173 ⟨Nat.le_of_ble_eq_true rfl, Nat.le_of_ble_eq_true rfl⟩ ⟨rfl, rfl⟩ ⟨Nat.zero_le _, Nat.zero_le _⟩ rfl hl.1 rfl (Nat.le_of_ble_eq_true rfl) dX10_stands_60) hS (fun H locs hP hS => ?_)
        refine jl_topi hf (fun y2 hf => ?_)
        refine lv_istore (lv' := [(6, .int y2), (0, .ref (a 0)), (1, .int v1), (5, .int v5), (7, .int v7)]) hx hb dX10_stands_63 hl (by decide) rfl (fun ls hl => ?_)
        obtain ⟨y4, ey4, hf⟩ := jlet_e hf
        refine lv_iinc (v := y4) (lv' := [(7, .int y4), (6, .int y2), (0, .ref (a 0)), (1, .int v1), (5, .int v5)]) hx hb dX10_stands_65 hl (k := 4) rfl ey4 (by decide) rfl (fun ls hl => ?_)
        refine lv_goto (tgt := 44) hx hb dX10_stands_68 (by decide) ?_
        exact ih v1 v5 y2 y4 H locs ls hf hP hS (lv_sub hl [2, 3, 4, 1, 0] rfl)
  have hL31 : (∀ (v1 : Int32) (t0 : Int32) (H : Heap) (locs : List Loc) (ls : Array Slot), f_X10_stands_L31 v1 t0 σ = some r → va_P D vwCl (wG NM eM a cy σ) H → va_S A s.heap H locs → lv_has ls 8 [(0, .ref (a 0)), (1, .int v1)] → W p l e (rmk 4 93) s m args below meth c H locs 0 0 (MQ below (QI NM eM a cy D A r σ) args s 0 0 A) (F0 m 31 ls [.int t0])) := by
    intro v1 t0 H locs ls hf hP hS hl
    refine lv_istore (lv' := [(5, .int t0), (0, .ref (a 0)), (1, .int v1)]) hx hb dX10_stands_31 hl (by decide) rfl (fun ls hl => ?_)
    refine lv_aload_n hx hb dX10_stands_33 rfl (lv_at hl 1 rfl) ?_
    refine gf_X10_3 C hP wk_4_200 dX10_stands_34 ?_
    refine lv_iload_n hx hb dX10_stands_37 rfl (lv_at hl 2 rfl) ?_
    obtain ⟨hi1, hf⟩ := jix_e hf
    refine r_iald C hP aM_3 hi1 dX10_stands_38 ?_
    refine jl_topi hf (fun y2 hf => ?_)
    refine lv_istore (lv' := [(6, .int y2), (5, .int t0), (0, .ref (a 0)), (1, .int v1)]) hx hb dX10_stands_39 hl (by decide) rfl (fun ls hl => ?_)
    refine lv_iconst (v := (0 : Int32)) hx hb dX10_stands_41 (by decide) ?_
    refine lv_istore (lv' := [(7, .int (0 : Int32)), (6, .int y2), (5, .int t0), (0, .ref (a 0)), (1, .int v1)]) hx hb dX10_stands_42 hl (by decide) rfl (fun ls hl => ?_)
    exact hL44 FU v1 t0 y2 (0 : Int32) H locs ls hf hP hS (lv_sub hl [3, 4, 2, 1, 0] rfl)
  refine lv_aload_n hx hb dX10_stands_0 rfl (lv_at hl 0 rfl) ?_
  refine lv_iload_n hx hb dX10_stands_1 rfl (lv_at hl 1 rfl) ?_
  obtain ⟨y1, hc, hf⟩ := jb_e hf
  refine r_ci (r_runV (As := [.int x1]) (rest := []) C hP hS (va_recv C.hK hP (q0 := 0) (ci := 10) rfl (by rw [g_at oM_10.1, oM_10.2])) (k_X10_beat (l := l) O (σ := σ) hc) mw_X10_beat mi_X10_beat mv_X10_beat wk_5_169 ⟨Nat.le_of_ble_eq_true rfl, Nat.le_of_ble_eq_true rfl⟩ ⟨rfl, rfl⟩ ⟨Nat.zero_le _, Nat.zero_le _⟩ rfl hl.1 rfl (Nat.le_of_ble_eq_true rfl) dX10_stands_2) hS (fun H locs hP hS => ?_)
  refine lv_istore_n (lv' := [(3, .int y1), (0, .ref (a 0)), (1, .int x1), (2, .int x2)]) hx hb dX10_stands_5 rfl hl (by decide) rfl (fun ls hl => ?_)
  refine lv_aload_n hx hb dX10_stands_6 rfl (lv_at hl 1 rfl) ?_
  refine lv_iload_n hx hb dX10_stands_7 rfl (lv_at hl 2 rfl) ?_
  refine lv_iload_n hx hb dX10_stands_8 rfl (lv_at hl 3 rfl) ?_
  obtain ⟨y3, hc, hf⟩ := jb_e hf
  refine r_ci (r_runV (As := [.int x1, .int x2]) (rest := []) C hP hS (va_recv C.hK hP (q0 := 0) (ci := 10) rfl (by rw [g_at oM_10.1, oM_10.2])) (k_X10_walked (l := l) O (σ := σ) hc) mw_X10_walked mi_X10_walked mv_X10_walked wk_5_177 ⟨Nat.le_of_ble_eq_true rfl, Nat.le_of_ble_eq_true rfl⟩ ⟨rfl, rfl⟩ ⟨Nat.zero_le _, Nat.zero_le _⟩ rfl hl.1 rfl (Nat.le_of_ble_eq_true rfl) dX10_stands_9) hS (fun H locs hP hS => ?_)
  refine lv_istore (lv' := [(4, .int y3), (3, .int y1), (0, .ref (a 0)), (1, .int x1), (2, .int x2)]) hx hb dX10_stands_12 hl (by decide) rfl (fun ls hl => ?_)
  refine lv_iload hx hb dX10_stands_14 (lv_at hl 0 rfl) ?_
  refine lv_iload_n hx hb dX10_stands_16 rfl (lv_at hl 1 rfl) ?_
  refine lv_icmp_gt (tgt := 25) hx hb dX10_stands_17 (by decide) (fun hc => ?_) (fun hc => ?_)
  · have hf := jif_t hc hf
    refine lv_iconst (v := (2 : Int32)) hx hb dX10_stands_25 (by decide) ?_
    refine lv_iload_n hx hb dX10_stands_26 rfl (lv_at hl 1 rfl) ?_
    refine lv_imul hx hb dX10_stands_27 ?_
    refine lv_iload hx hb dX10_stands_28 (lv_at hl 0 rfl) ?_
    refine lv_isub hx hb dX10_stands_30 ?_
    exact hL31 x1 (((2 : Int32) * y1) - y3) H locs ls hf hP hS (lv_sub hl [2, 3] rfl)
  · have hf := jif_f hc hf
    refine lv_iload hx hb dX10_stands_20 (lv_at hl 0 rfl) ?_
    refine lv_goto (tgt := 31) hx hb dX10_stands_22 (by decide) ?_
    exact hL31 x1 y3 H locs ls hf hP hS (lv_sub hl [2, 3] rfl)
set_option maxHeartbeats 4000000 in
set_option maxRecDepth 100000 in
theorem k_X10_turned {l : Launch} {a : Nat → Nat} {cy : Nat → ClassId} {D : va_G} {A : Nat → Prop} (O : WO NM a (fun _ => True) A) {x1 : Int32} {x2 : Int32} {r : Int32} {σ : ST} (hf : f_X10_turned x1 x2 σ = some r) : Met l yX10_turned (Cond.code yX10_turned cX10_turned 5 (some .int) :: WS) (rmk 4 93) (PC [.ref (a 0), .int x1, .int x2] NM eM a cy D (fun _ => True) σ) (QI NM eM a cy D A r σ) 0 0 A := by
  refine met_go (own := "GuardsLookLeftModel") O (by decide +kernel) rfl (Nat.le_of_ble_eq_true rfl) ?_
  intro p e s m args below meth c ls C hP hS hl
  have hx := C.hx
  have hb := C.hb
  have hl : lv_has ls 5 [(0, .ref (a 0)), (1, .int x1), (2, .int x2)] := hl
  obtain ⟨H, hH⟩ : ∃ H, H = s.heap := ⟨_, rfl⟩
  rw [← hH] at hP
  have hS : va_S A s.heap H [] := by rw [hH]; exact va_S.rf
  suffices g : W p l e (rmk 4 93) s m args below meth c H [] 0 0 (MQ below (QI NM eM a cy D A r σ) args s 0 0 A) (F0 m 0 ls []) by rw [hH] at g; exact g
  clear hH
  obtain ⟨locs, hlocs⟩ : ∃ z : List Loc, z = [] := ⟨_, rfl⟩
  rw [← hlocs] at hS ⊢
  have hL39 : (∀ (v1 : Int32) (v2 : Int32) (t0 : Int32) (H : Heap) (locs : List Loc) (ls : Array Slot), f_X10_turned_L39 v1 v2 t0 σ = some r → va_P D vwCl (wG NM eM a cy σ) H → va_S A s.heap H locs → lv_has ls 5 [(0, .ref (a 0)), (1, .int v1), (2, .int v2)] → W p l e (rmk 4 93) s m args below meth c H locs 0 0 (MQ below (QI NM eM a cy D A r σ) args s 0 0 A) (F0 m 39 ls [.int t0])) := by
    intro v1 v2 t0 H locs ls hf hP hS hl
    refine lv_istore (lv' := [(4, .int t0), (0, .ref (a 0)), (1, .int v1), (2, .int v2)]) hx hb dX10_turned_39 hl (by decide) rfl (fun ls hl => ?_)
    refine lv_aload_n hx hb dX10_turned_41 rfl (lv_at hl 1 rfl) ?_
    refine gf_X10_2 C hP wk_4_199 dX10_turned_42 ?_
    refine lv_iload_n hx hb dX10_turned_45 rfl (lv_at hl 2 rfl) ?_
    obtain ⟨hi1, hf⟩ := jix_e hf
    refine r_iald C hP aM_2 hi1 dX10_turned_46 ?_
    refine lv_iconst (v := (3 : Int32)) hx hb dX10_turned_47 (by decide) ?_
    refine lv_icmp_ne (tgt := 76) hx hb dX10_turned_48 (by decide) (fun hc => ?_) (fun hc => ?_)
    · have hf := jif_t hc hf
      refine lv_iload hx hb dX10_turned_76 (lv_at hl 0 rfl) ?_
      exact ret_i C hP hS (Option.some.inj hf) rfl dX10_turned_78
    · have hf := jif_n hc hf
      refine lv_iload hx hb dX10_turned_51 (lv_at hl 0 rfl) ?_
      refine lv_iconst (v := (3 : Int32)) hx hb dX10_turned_53 (by decide) ?_
      refine lv_aload_n hx hb dX10_turned_54 rfl (lv_at hl 1 rfl) ?_
      refine lv_iload_n hx hb dX10_turned_55 rfl (lv_at hl 2 rfl) ?_
      refine lv_iload_n hx hb dX10_turned_56 rfl (lv_at hl 3 rfl) ?_
      obtain ⟨y2, hc, hf⟩ := jb_e hf
      refine r_ci (r_runV (As := [.int v1, .int v2]) (rest := [.int (3 : Int32), .int t0]) C hP hS (va_recv C.hK hP (q0 := 0) (ci := 10) rfl (by rw [g_at oM_10.1, oM_10.2])) (k_X10_own (l := l) O (σ := σ) hc) mw_X10_own mi_X10_own mv_X10_own wk_5_181 ⟨Nat.le_of_ble_eq_true rfl, Nat.le_of_ble_eq_true rfl⟩ ⟨rfl, rfl⟩ ⟨Nat.zero_le _, Nat.zero_le _⟩ rfl hl.1 rfl (Nat.le_of_ble_eq_true rfl) dX10_turned_57) hS (fun H locs hP hS => ?_)
      refine lv_aload_n hx hb dX10_turned_60 rfl (lv_at hl 1 rfl) ?_
      refine gf_X10_6 C hP wk_4_203 dX10_turned_61 ?_
      refine lv_iload_n hx hb dX10_turned_64 rfl (lv_at hl 2 rfl) ?_
      obtain ⟨hi4, hf⟩ := jix_e hf
      refine r_iald C hP aM_6 hi4 dX10_turned_65 ?_
      refine lv_iconst (v := (1 : Int32)) hx hb dX10_turned_66 (by decide) ?_
      refine lv_iadd hx hb dX10_turned_67 ?_
      obtain ⟨hne, hf⟩ := jnz_e hf
      refine lv_idiv hx hb dX10_turned_68 hne ?_
      refine lv_imul hx hb dX10_turned_69 ?_
      refine lv_iadd hx hb dX10_turned_70 ?_
      refine lv_iconst (v := (4 : Int32)) hx hb dX10_turned_71 (by decide) ?_
      refine r_irem C dX10_turned_72 (by decide) ?_
      refine lv_goto (tgt := 78) hx hb dX10_turned_73 (by decide) ?_
      exact ret_i C hP hS (Option.some.inj hf) rfl dX10_turned_78
  have hL20 : (∀ (v1 : Int32) (v2 : Int32) (H : Heap) (locs : List Loc) (ls : Array Slot), f_X10_turned_L20 v1 v2 σ = some r → va_P D vwCl (wG NM eM a cy σ) H → va_S A s.heap H locs → lv_has ls 5 [(0, .ref (a 0)), (1, .int v1), (2, .int v2)] → W p l e (rmk 4 93) s m args below meth c H locs 0 0 (MQ below (QI NM eM a cy D A r σ) args s 0 0 A) (F0 m 20 ls [])) := by
    intro v1 v2 H locs ls hf hP hS hl
    refine lv_aload_n hx hb dX10_turned_20 rfl (lv_at hl 0 rfl) ?_
    refine gf_X10_4 C hP wk_4_201 dX10_turned_21 ?_
    refine lv_iload_n hx hb dX10_turned_24 rfl (lv_at hl 1 rfl) ?_
    obtain ⟨hi1, hf⟩ := jix_e hf
    refine r_iald C hP aM_4 hi1 dX10_turned_25 ?_
    refine lv_goto (tgt := 39) hx hb dX10_turned_26 (by decide) ?_
    exact hL39 v1 v2 (gA σ 4 (Int32.toNatClampNeg v1)) H locs ls hf hP hS (lv_sub hl [0, 1, 2] rfl)
  refine lv_aload_n hx hb dX10_turned_0 rfl (lv_at hl 0 rfl) ?_
  refine lv_iload_n hx hb dX10_turned_1 rfl (lv_at hl 1 rfl) ?_
  obtain ⟨y1, hc, hf⟩ := jb_e hf
  refine r_ci (r_runV (As := [.int x1]) (rest := []) C hP hS (va_recv C.hK hP (q0 := 0) (ci := 10) rfl (by rw [g_at oM_10.1, oM_10.2])) (k_X10_beat (l := l) O (σ := σ) hc) mw_X10_beat mi_X10_beat mv_X10_beat wk_5_169 ⟨Nat.le_of_ble_eq_true rfl, Nat.le_of_ble_eq_true rfl⟩ ⟨rfl, rfl⟩ ⟨Nat.zero_le _, Nat.zero_le _⟩ rfl hl.1 rfl (Nat.le_of_ble_eq_true rfl) dX10_turned_2) hS (fun H locs hP hS => ?_)
  refine lv_istore_n (lv' := [(3, .int y1), (0, .ref (a 0)), (1, .int x1), (2, .int x2)]) hx hb dX10_turned_5 rfl hl (by decide) rfl (fun ls hl => ?_)
  refine lv_iload_n hx hb dX10_turned_6 rfl (lv_at hl 0 rfl) ?_
  refine lv_if_eq (tgt := 20) hx hb dX10_turned_7 (by decide) (fun hc => ?_) (fun hc => ?_)
  · have hf := jif_t hc hf
    exact hL20 x1 x2 H locs ls hf hP hS (lv_sub hl [1, 2, 3] rfl)
  · have hf := jif_f hc hf
    refine lv_aload_n hx hb dX10_turned_10 rfl (lv_at hl 1 rfl) ?_
    refine lv_iload_n hx hb dX10_turned_11 rfl (lv_at hl 2 rfl) ?_
    refine lv_iload_n hx hb dX10_turned_12 rfl (lv_at hl 3 rfl) ?_
    obtain ⟨y3, hc, hf⟩ := jb_e hf
    refine r_ci (r_runV (As := [.int x1, .int x2]) (rest := []) C hP hS (va_recv C.hK hP (q0 := 0) (ci := 10) rfl (by rw [g_at oM_10.1, oM_10.2])) (k_X10_walked (l := l) O (σ := σ) hc) mw_X10_walked mi_X10_walked mv_X10_walked wk_5_177 ⟨Nat.le_of_ble_eq_true rfl, Nat.le_of_ble_eq_true rfl⟩ ⟨rfl, rfl⟩ ⟨Nat.zero_le _, Nat.zero_le _⟩ rfl hl.1 rfl (Nat.le_of_ble_eq_true rfl) dX10_turned_13) hS (fun H locs hP hS => ?_)
    refine lv_iload_n hx hb dX10_turned_16 rfl (lv_at hl 0 rfl) ?_
    refine lv_icmp_ge (tgt := 29) hx hb dX10_turned_17 (by decide) (fun hc => ?_) (fun hc => ?_)
    · have hf := jif_t hc hf
      refine lv_aload_n hx hb dX10_turned_29 rfl (lv_at hl 1 rfl) ?_
      refine gf_X10_4 C hP wk_4_201 dX10_turned_30 ?_
      refine lv_iload_n hx hb dX10_turned_33 rfl (lv_at hl 2 rfl) ?_
      obtain ⟨hi5, hf⟩ := jix_e hf
      refine r_iald C hP aM_4 hi5 dX10_turned_34 ?_
      refine lv_iconst (v := (2 : Int32)) hx hb dX10_turned_35 (by decide) ?_
      refine lv_iadd hx hb dX10_turned_36 ?_
      refine lv_iconst (v := (4 : Int32)) hx hb dX10_turned_37 (by decide) ?_
      refine r_irem C dX10_turned_38 (by decide) ?_
      exact hL39 x1 x2 (jrem ((gA σ 4 (Int32.toNatClampNeg x1)) + (2 : Int32)) (4 : Int32)) H locs ls hf hP hS (lv_sub hl [1, 2, 3] rfl)
    · have hf := jif_f hc hf
      exact hL20 x1 x2 H locs ls hf hP hS (lv_sub hl [1, 2, 3] rfl)
set_option maxHeartbeats 4000000 in
set_option maxRecDepth 100000 in
theorem k_X10_at {l : Launch} {a : Nat → Nat} {cy : Nat → ClassId} {D : va_G} {A : Nat → Prop} (O : WO NM a (fun _ => True) A) {x1 : Int32} {x2 : Int32} {x3 : Int32} {r : Int32} {σ : ST} (hf : f_X10_at x1 x2 x3 σ = some r) : Met l yX10_at (Cond.code yX10_at cX10_at 4 (some .int) :: WS) (rmk 5 120) (PC [.ref (a 0), .int x1, .int x2, .int x3] NM eM a cy D (fun _ => True) σ) (QI NM eM a cy D A r σ) 0 0 A := by
  refine met_go (own := "GuardsLookLeftModel") O (by decide +kernel) rfl (Nat.le_of_ble_eq_true rfl) ?_
  intro p e s m args below meth c ls C hP hS hl
  have hx := C.hx
  have hb := C.hb
  have hl : lv_has ls 4 [(0, .ref (a 0)), (1, .int x1), (2, .int x2), (3, .int x3)] := hl
  obtain ⟨H, hH⟩ : ∃ H, H = s.heap := ⟨_, rfl⟩
  rw [← hH] at hP
  have hS : va_S A s.heap H [] := by rw [hH]; exact va_S.rf
  suffices g : W p l e (rmk 5 120) s m args below meth c H [] 0 0 (MQ below (QI NM eM a cy D A r σ) args s 0 0 A) (F0 m 0 ls []) by rw [hH] at g; exact g
  clear hH
  obtain ⟨locs, hlocs⟩ : ∃ z : List Loc, z = [] := ⟨_, rfl⟩
  rw [← hlocs] at hS ⊢
  refine lv_aload_n hx hb dX10_at_0 rfl (lv_at hl 0 rfl) ?_
  refine lv_iload_n hx hb dX10_at_1 rfl (lv_at hl 1 rfl) ?_
  refine r_cz (r_runV (As := [.int x1]) (rest := []) C hP hS (va_recv C.hK hP (q0 := 0) (ci := 10) rfl (by rw [g_at oM_10.1, oM_10.2])) (k_X10_isGuard (l := l) O (σ := σ) rfl) mw_X10_isGuard mi_X10_isGuard mv_X10_isGuard wk_5_153 ⟨Nat.le_of_ble_eq_true rfl, Nat.le_of_ble_eq_true rfl⟩ ⟨rfl, rfl⟩ ⟨Nat.zero_le _, Nat.zero_le _⟩ rfl hl.1 rfl (Nat.le_of_ble_eq_true rfl) dX10_at_2) hS (fun H locs hzy1 hP hS => ?_)
  refine jl_topz hf hzy1 (fun y1 hzy1 hf => ?_)
  refine lv_if_ne (tgt := 11) hx hb dX10_at_5 (by decide) (fun hc => ?_) (fun hc => ?_)
  · have hf := jif_t hc hf
    refine lv_iload_n hx hb dX10_at_11 rfl (lv_at hl 2 rfl) ?_
    refine r_cz (r_runS (As := [.int x2]) (rest := []) C hP hS (k_X10_isSecond (l := l) O (σ := σ) rfl) mw_X10_isSecond ms_X10_isSecond wk_5_128 ⟨Nat.le_of_ble_eq_true rfl, Nat.le_of_ble_eq_true rfl⟩ ⟨rfl, rfl⟩ ⟨Nat.zero_le _, Nat.zero_le _⟩ rfl hl.1 rfl (Nat.le_of_ble_eq_true rfl) dX10_at_12) hS (fun H locs hzy3 hP hS => ?_)
    refine jl_topz hf hzy3 (fun y3 hzy3 hf => ?_)
    refine lv_if_eq (tgt := 27) hx hb dX10_at_15 (by decide) (fun hc => ?_) (fun hc => ?_)
    · have hf := jif_t hc hf
      refine lv_bipush (v := (-7 : Int32)) hx hb dX10_at_27 (by decide) ?_
      exact ret_i C hP hS (Option.some.inj hf) rfl dX10_at_29
    · have hf := jif_f hc hf
      refine lv_iload_n hx hb dX10_at_18 rfl (lv_at hl 3 rfl) ?_
      refine lv_iconst (v := (0 : Int32)) hx hb dX10_at_19 (by decide) ?_
      refine lv_iconst (v := (2 : Int32)) hx hb dX10_at_20 (by decide) ?_
      refine r_cz (r_runS (As := [.int x3, .int (0 : Int32), .int (2 : Int32)]) (rest := []) C hP hS (k_X10_in (l := l) O (σ := σ) rfl) mw_X10_in ms_X10_in wk_4_158 ⟨Nat.le_of_ble_eq_true rfl, Nat.le_of_ble_eq_true rfl⟩ ⟨rfl, rfl⟩ ⟨Nat.zero_le _, Nat.zero_le _⟩ rfl hl.1 rfl (Nat.le_of_ble_eq_true rfl) dX10_at_21) hS (fun H locs hzy5 hP hS => ?_)
      refine jl_topz hf hzy5 (fun y5 hzy5 hf => ?_)
      refine lv_if_ne (tgt := 30) hx hb dX10_at_24 (by decide) (fun hc => ?_) (fun hc => ?_)
      · have hf := jif_t hc hf
        refine lv_iload_n hx hb dX10_at_30 rfl (lv_at hl 3 rfl) ?_
        refine lv_if_ne (tgt := 43) hx hb dX10_at_31 (by decide) (fun hc => ?_) (fun hc => ?_)
        · have hf := jif_t hc hf
          refine lv_iload_n hx hb dX10_at_43 rfl (lv_at hl 3 rfl) ?_
          refine lv_iconst (v := (1 : Int32)) hx hb dX10_at_44 (by decide) ?_
          refine lv_icmp_ne (tgt := 57) hx hb dX10_at_45 (by decide) (fun hc => ?_) (fun hc => ?_)
          · have hf := jif_t hc hf
            refine lv_aload_n hx hb dX10_at_57 rfl (lv_at hl 0 rfl) ?_
            refine lv_iload_n hx hb dX10_at_58 rfl (lv_at hl 1 rfl) ?_
            refine lv_iload_n hx hb dX10_at_59 rfl (lv_at hl 2 rfl) ?_
            obtain ⟨y7, hc, hf⟩ := jb_e hf
            refine r_cz (r_runV (As := [.int x1, .int x2]) (rest := []) C hP hS (va_recv C.hK hP (q0 := 0) (ci := 10) rfl (by rw [g_at oM_10.1, oM_10.2])) (k_X10_looks (l := l) O (σ := σ) hc) mw_X10_looks mi_X10_looks mv_X10_looks wk_5_193 ⟨Nat.le_of_ble_eq_true rfl, Nat.le_of_ble_eq_true rfl⟩ ⟨rfl, rfl⟩ ⟨Nat.zero_le _, Nat.zero_le _⟩ rfl hl.1 rfl (Nat.le_of_ble_eq_true rfl) dX10_at_60) hS (fun H locs hzy7 hP hS => ?_)
            refine lv_if_eq (tgt := 70) hx hb dX10_at_63 (by decide) (fun hc => ?_) (fun hc => ?_)
            · have hf := jif_t hc hf
              refine lv_iconst (v := (0 : Int32)) hx hb dX10_at_70 (by decide) ?_
              exact ret_i C hP hS (Option.some.inj hf) rfl dX10_at_71
            · have hf := jif_f hc hf
              refine lv_iconst (v := (1 : Int32)) hx hb dX10_at_66 (by decide) ?_
              refine lv_goto (tgt := 71) hx hb dX10_at_67 (by decide) ?_
              exact ret_i C hP hS (Option.some.inj hf) rfl dX10_at_71
          · have hf := jif_n hc hf
            refine lv_aload_n hx hb dX10_at_48 rfl (lv_at hl 0 rfl) ?_
            refine lv_iload_n hx hb dX10_at_49 rfl (lv_at hl 1 rfl) ?_
            refine lv_iload_n hx hb dX10_at_50 rfl (lv_at hl 2 rfl) ?_
            obtain ⟨y9, hc, hf⟩ := jb_e hf
            refine r_ci (r_runV (As := [.int x1, .int x2]) (rest := []) C hP hS (va_recv C.hK hP (q0 := 0) (ci := 10) rfl (by rw [g_at oM_10.1, oM_10.2])) (k_X10_turned (l := l) O (σ := σ) hc) mw_X10_turned mi_X10_turned mv_X10_turned wk_5_189 ⟨Nat.le_of_ble_eq_true rfl, Nat.le_of_ble_eq_true rfl⟩ ⟨rfl, rfl⟩ ⟨Nat.zero_le _, Nat.zero_le _⟩ rfl hl.1 rfl (Nat.le_of_ble_eq_true rfl) dX10_at_51) hS (fun H locs hP hS => ?_)
            refine lv_goto (tgt := 71) hx hb dX10_at_54 (by decide) ?_
            exact ret_i C hP hS (Option.some.inj hf) rfl dX10_at_71
        · have hf := jif_n hc hf
          refine lv_aload_n hx hb dX10_at_34 rfl (lv_at hl 0 rfl) ?_
          refine lv_iload_n hx hb dX10_at_35 rfl (lv_at hl 1 rfl) ?_
          refine lv_iload_n hx hb dX10_at_36 rfl (lv_at hl 2 rfl) ?_
          obtain ⟨y11, hc, hf⟩ := jb_e hf
          refine r_ci (r_runV (As := [.int x1, .int x2]) (rest := []) C hP hS (va_recv C.hK hP (q0 := 0) (ci := 10) rfl (by rw [g_at oM_10.1, oM_10.2])) (k_X10_stands (l := l) O (σ := σ) hc) mw_X10_stands mi_X10_stands mv_X10_stands wk_5_165 ⟨Nat.le_of_ble_eq_true rfl, Nat.le_of_ble_eq_true rfl⟩ ⟨rfl, rfl⟩ ⟨Nat.zero_le _, Nat.zero_le _⟩ rfl hl.1 rfl (Nat.le_of_ble_eq_true rfl) dX10_at_37) hS (fun H locs hP hS => ?_)
          refine lv_goto (tgt := 71) hx hb dX10_at_40 (by decide) ?_
          exact ret_i C hP hS (Option.some.inj hf) rfl dX10_at_71
      · have hf := jif_n hc hf
        refine lv_bipush (v := (-7 : Int32)) hx hb dX10_at_27 (by decide) ?_
        exact ret_i C hP hS (Option.some.inj hf) rfl dX10_at_29
  · have hf := jif_n hc hf
    refine lv_bipush (v := (-5 : Int32)) hx hb dX10_at_8 (by decide) ?_
    exact ret_i C hP hS (Option.some.inj hf) rfl dX10_at_10
set_option maxHeartbeats 4000000 in
set_option maxRecDepth 100000 in
theorem k_X10_lit {l : Launch} {a : Nat → Nat} {cy : Nat → ClassId} {D : va_G} {A : Nat → Prop} (O : WO NM a (fun _ => True) A) {x1 : Int32} {r : Int32} {σ : ST} (hf : f_X10_lit x1 σ = r) : Met l yX10_lit (Cond.code yX10_lit cX10_lit 2 (some .int) :: WS) (rmk 1 22) (PC [.ref (a 0), .int x1] NM eM a cy D (fun _ => True) σ) (QI NM eM a cy D A r σ) 0 0 A := by
  refine met_go (own := "GuardsLookLeftModel") O (by decide +kernel) rfl (Nat.le_of_ble_eq_true rfl) ?_
  intro p e s m args below meth c ls C hP hS hl
  have hx := C.hx
  have hb := C.hb
  have hl : lv_has ls 2 [(0, .ref (a 0)), (1, .int x1)] := hl
  obtain ⟨H, hH⟩ : ∃ H, H = s.heap := ⟨_, rfl⟩
  rw [← hH] at hP
  have hS : va_S A s.heap H [] := by rw [hH]; exact va_S.rf
  suffices g : W p l e (rmk 1 22) s m args below meth c H [] 0 0 (MQ below (QI NM eM a cy D A r σ) args s 0 0 A) (F0 m 0 ls []) by rw [hH] at g; exact g
  clear hH
  obtain ⟨locs, hlocs⟩ : ∃ z : List Loc, z = [] := ⟨_, rfl⟩
  rw [← hlocs] at hS ⊢
  refine lv_aload_n hx hb dX10_lit_0 rfl (lv_at hl 0 rfl) ?_
  refine gf_X10_0 C hP wk_4_197 dX10_lit_1 ?_
  refine lv_iconst (v := (1 : Int32)) hx hb dX10_lit_4 (by decide) ?_
  refine r_lald C hP aM_1 (vp_lit (by decide)) dX10_lit_5 ?_
  refine lv_iload_n hx hb dX10_lit_6 rfl (lv_at hl 1 rfl) ?_
  refine r_cz (r_runS (As := [.long (gB σ 1 (Int32.toNatClampNeg (1 : Int32))), .int x1]) (rest := []) C hP hS (k_X10_has (l := l) O (σ := σ) rfl) mw_X10_has ms_X10_has wk_5_101 ⟨Nat.le_of_ble_eq_true rfl, Nat.le_of_ble_eq_true rfl⟩ ⟨rfl, rfl⟩ ⟨Nat.zero_le _, Nat.zero_le _⟩ rfl hl.1 rfl (Nat.le_of_ble_eq_true rfl) dX10_lit_7) hS (fun H locs hzy1 hP hS => ?_)
  refine jl_topz hf hzy1 (fun y1 hzy1 hf => ?_)
  refine lv_if_eq (tgt := 17) hx hb dX10_lit_10 (by decide) (fun hc => ?_) (fun hc => ?_)
  · have hf := jif_t hc hf
    refine lv_iconst (v := (0 : Int32)) hx hb dX10_lit_17 (by decide) ?_
    exact ret_i C hP hS hf rfl dX10_lit_18
  · have hf := jif_f hc hf
    refine lv_iconst (v := (1 : Int32)) hx hb dX10_lit_13 (by decide) ?_
    refine lv_goto (tgt := 18) hx hb dX10_lit_14 (by decide) ?_
    exact ret_i C hP hS hf rfl dX10_lit_18
set_option maxHeartbeats 4000000 in
set_option maxRecDepth 100000 in
theorem k_X10_seenBy {l : Launch} {a : Nat → Nat} {cy : Nat → ClassId} {D : va_G} {A : Nat → Prop} (O : WO NM a (fun _ => True) A) {x1 : Int32} {x2 : Int32} {r : Int64} {σ : ST} {σ' : ST} (hf : f_X10_seenBy x1 x2 σ = some (r, σ')) : Met l yX10_seenBy (Cond.code yX10_seenBy cX10_seenBy 9 (some .long) :: WS) (rmk 5 120) (PC [.ref (a 0), .int x1, .int x2] NM eM a cy D (fun _ => True) σ) (QL NM eM a cy D A r σ') 0 0 A := by
  refine met_go (own := "GuardsLookLeftModel") O (by decide +kernel) rfl (Nat.le_of_ble_eq_true rfl) ?_
  intro p e s m args below meth c ls C hP hS hl
  have hx := C.hx
  have hb := C.hb
  have hl : lv_has ls 9 [(0, .ref (a 0)), (1, .int x1), (2, .int x2)] := hl
  obtain ⟨H, hH⟩ : ∃ H, H = s.heap := ⟨_, rfl⟩
  rw [← hH] at hP
  have hS : va_S A s.heap H [] := by rw [hH]; exact va_S.rf
  suffices g : W p l e (rmk 5 120) s m args below meth c H [] 0 0 (MQ below (QL NM eM a cy D A r σ') args s 0 0 A) (F0 m 0 ls []) by rw [hH] at g; exact g
  clear hH
  obtain ⟨locs, hlocs⟩ : ∃ z : List Loc, z = [] := ⟨_, rfl⟩
  rw [← hlocs] at hS ⊢
  have hL139 : ∀ (k66 : Int32 → Int32 → Int32 → Int32 → Int32 → Int64 → Int32 → ST → Option (Int64 × ST)) (hk66 : (∀ (v1 : Int32) (v2 : Int32) (v3 : Int32) (v4 : Int32) (v5 : Int32) (v6 : Int64) (v8 : Int32) (s0 : ST) (H : Heap) (locs : List Loc) (ls : Array Slot), k66 v1 v2 v3 v4 v5 v6 v8 s0 = some (r, σ') → va_P D vwCl (wG NM eM a cy s0) H → va_S A s.heap H locs → lv_has ls 9 [(0, .ref (a 0)), (1, .int v1), (2, .int v2), (3, .int v3), (4, .int v4), (5, .int v5), (6, .long v6), (8, .int v8)] → W p l e (rmk 5 120) s m args below meth c H locs 0 0 (MQ below (QL NM eM a cy D A r σ') args s 0 0 A) (F0 m 66 ls []))), (∀ (v1 : Int32) (v2 : Int32) (v3 : Int32) (v4 : Int32) (v6 : Int64) (v8 : Int32) (t0 : Int32) (s0 : ST) (H : Heap) (locs : List Loc) (ls : Array Slot), f_X10_seenBy_L139 k66 v1 v2 v3 v4 v6 v8 t0 s0 = some (r, σ') → va_P D vwCl (wG NM eM a cy s0) H → va_S A s.heap H locs → lv_has ls 9 [(0, .ref (a 0)), (1, .int v1), (2, .int v2), (3, .int v3), (4, .int v4), (6, .long v6), (8, .int v8)] → W p l e (rmk 5 120) s m args below meth c H locs 0 0 (MQ below (QL NM eM a cy D A r σ') args s 0 0 A) (F0 m 139 ls [.int t0])) := by
    intro k66 hk66 v1 v2 v3 v4 v6 v8 t0 s0 H locs ls hf hP hS hl
    refine lv_istore (lv' := [(5, .int t0), (0, .ref (a 0)), (1, .int v1), (2, .int v2), (3, .int v3), (4, .int v4), (6, .long v6), (8, .int v8)]) hx hb dX10_seenBy_139 hl (by decide) rfl (fun ls hl => ?_)
    refine lv_aload_n hx hb dX10_seenBy_141 rfl (lv_at hl 1 rfl) ?_
    refine lv_iload_n hx hb dX10_seenBy_142 rfl (lv_at hl 4 rfl) ?_
    refine lv_iload hx hb dX10_seenBy_143 (lv_at hl 0 rfl) ?_
    refine r_ci (r_runV (As := [.int v3, .int t0]) (rest := []) C hP hS (va_recv C.hK hP (q0 := 0) (ci := 10) rfl (by rw [g_at oM_10.1, oM_10.2])) (k_X10_beside (l := l) O (σ := s0) rfl) mw_X10_beside mi_X10_beside mv_X10_beside wk_5_173 ⟨Nat.le_of_ble_eq_true rfl, Nat.le_of_ble_eq_true rfl⟩ ⟨rfl, rfl⟩ ⟨Nat.zero_le _, Nat.zero_le _⟩ rfl hl.1 rfl (Nat.le_of_ble_eq_true rfl) dX10_seenBy_145) hS (fun H locs hP hS => ?_)
    refine jl_topi hf (fun y1 hf => ?_)
    refine lv_istore_n (lv' := [(3, .int y1), (5, .int t0), (0, .ref (a 0)), (1, .int v1), (2, .int v2), (4, .int v4), (6, .long v6), (8, .int v8)]) hx hb dX10_seenBy_148 rfl hl (by decide) rfl (fun ls hl => ?_)
    obtain ⟨y3, ey3, hf⟩ := jlet_e hf
    refine lv_iinc (v := y3) (lv' := [(8, .int y3), (3, .int y1), (5, .int t0), (0, .ref (a 0)), (1, .int v1), (2, .int v2), (4, .int v4), (6, .long v6)]) hx hb dX10_seenBy_149 hl (k := 7) rfl ey3 (by decide) rfl (fun ls hl => ?_)
    refine lv_goto (tgt := 66) hx hb dX10_seenBy_152 (by decide) ?_
    exact hk66 v1 v2 y1 v4 t0 v6 y3 s0 H locs ls hf hP hS (lv_sub hl [3, 4, 5, 1, 6, 2, 7, 0] rfl)
  have hL112 : ∀ (k66 : Int32 → Int32 → Int32 → Int32 → Int32 → Int64 → Int32 → ST → Option (Int64 × ST)) (hk66 : (∀ (v1 : Int32) (v2 : Int32) (v3 : Int32) (v4 : Int32) (v5 : Int32) (v6 : Int64) (v8 : Int32) (s0 : ST) (H : Heap) (locs : List Loc) (ls : Array Slot), k66 v1 v2 v3 v4 v5 v6 v8 s0 = some (r, σ') → va_P D vwCl (wG NM eM a cy s0) H → va_S A s.heap H locs → lv_has ls 9 [(0, .ref (a 0)), (1, .int v1), (2, .int v2), (3, .int v3), (4, .int v4), (5, .int v5), (6, .long v6), (8, .int v8)] → W p l e (rmk 5 120) s m args below meth c H locs 0 0 (MQ below (QL NM eM a cy D A r σ') args s 0 0 A) (F0 m 66 ls []))), (∀ (v1 : Int32) (v2 : Int32) (v3 : Int32) (v4 : Int32) (v5 : Int32) (v8 : Int32) (t0 : Int64) (t1 : Int64) (s0 : ST) (H : Heap) (locs : List Loc) (ls : Array Slot), f_X10_seenBy_L112 k66 v1 v2 v3 v4 v5 v8 t0 t1 s0 = some (r, σ') → va_P D vwCl (wG NM eM a cy s0) H → va_S A s.heap H locs → lv_has ls 9 [(0, .ref (a 0)), (1, .int v1), (2, .int v2), (3, .int v3), (4, .int v4), (5, .int v5), (8, .int v8)] → W p l e (rmk 5 120) s m args below meth c H locs 0 0 (MQ below (QL NM eM a cy D A r σ') args s 0 0 A) (F0 m 112 ls [.long t1, .long t0])) := by
    intro k66 hk66 v1 v2 v3 v4 v5 v8 t0 t1 s0 H locs ls hf hP hS hl
    refine lv_lor hx hb dX10_seenBy_112 ?_
    refine jl_topl hf (fun y1 hf => ?_)
    refine lv_lstore (lv' := [(6, .long y1), (0, .ref (a 0)), (1, .int v1), (2, .int v2), (3, .int v3), (4, .int v4), (5, .int v5), (8, .int v8)]) hx hb dX10_seenBy_113 hl (by decide) rfl (fun ls hl => ?_)
    refine lv_aload_n hx hb dX10_seenBy_115 rfl (lv_at hl 1 rfl) ?_
    refine gf_X10_0 C hP wk_4_197 dX10_seenBy_116 ?_
    refine lv_iconst (v := (2 : Int32)) hx hb dX10_seenBy_119 (by decide) ?_
    refine r_lald C hP aM_1 (vp_lit (by decide)) dX10_seenBy_120 ?_
    refine lv_iload_n hx hb dX10_seenBy_121 rfl (lv_at hl 4 rfl) ?_
    refine r_cz (r_runS (As := [.long (gB s0 1 (Int32.toNatClampNeg (2 : Int32))), .int v3]) (rest := []) C hP hS (k_X10_has (l := l) O (σ := s0) rfl) mw_X10_has ms_X10_has wk_5_101 ⟨Nat.le_of_ble_eq_true rfl, Nat.le_of_ble_eq_true rfl⟩ ⟨rfl, rfl⟩ ⟨Nat.zero_le _, Nat.zero_le _⟩ rfl hl.1 rfl (Nat.le_of_ble_eq_true rfl) dX10_seenBy_122) hS (fun H locs hzy2 hP hS => ?_)
    refine jl_topz hf hzy2 (fun y2 hzy2 hf => ?_)
    refine lv_if_eq (tgt := 137) hx hb dX10_seenBy_125 (by decide) (fun hc => ?_) (fun hc => ?_)
    · have hf := jif_t hc hf
      refine lv_iload hx hb dX10_seenBy_137 (lv_at hl 6 rfl) ?_
      exact hL139 k66 hk66 v1 v2 v3 v4 y1 v8 v5 s0 H locs ls hf hP hS (lv_sub hl [1, 2, 3, 4, 5, 0, 7] rfl)
    · have hf := jif_f hc hf
      refine lv_iload hx hb dX10_seenBy_128 (lv_at hl 6 rfl) ?_
      refine lv_iconst (v := (3 : Int32)) hx hb dX10_seenBy_130 (by decide) ?_
      refine lv_iadd hx hb dX10_seenBy_131 ?_
      refine lv_iconst (v := (4 : Int32)) hx hb dX10_seenBy_132 (by decide) ?_
      refine r_irem C dX10_seenBy_133 (by decide) ?_
      refine lv_goto (tgt := 139) hx hb dX10_seenBy_134 (by decide) ?_
      exact hL139 k66 hk66 v1 v2 v3 v4 y1 v8 (jrem (v5 + (3 : Int32)) (4 : Int32)) s0 H locs ls hf hP hS (lv_sub hl [1, 2, 3, 4, 5, 0, 7] rfl)
  have hL66 : ∀ (n : Nat), (∀ (v1 : Int32) (v2 : Int32) (v3 : Int32) (v4 : Int32) (v5 : Int32) (v6 : Int64) (v8 : Int32) (s0 : ST) (H : Heap) (locs : List Loc) (ls : Array Slot), f_X10_seenBy_L66 n v1 v2 v3 v4 v5 v6 v8 s0 = some (r, σ') → va_P D vwCl (wG NM eM a cy s0) H → va_S A s.heap H locs → lv_has ls 9 [(0, .ref (a 0)), (1, .int v1), (2, .int v2), (3, .int v3), (4, .int v4), (5, .int v5), (6, .long v6), (8, .int v8)] → W p l e (rmk 5 120) s m args below meth c H locs 0 0 (MQ below (QL NM eM a cy D A r σ') args s 0 0 A) (F0 m 66 ls [])) := by
    intro n
    induction n with
    | zero => intro v1 v2 v3 v4 v5 v6 v8 s0 H locs ls hf hP hS hl; exact no_o hf
    | succ n ih =>
      intro v1 v2 v3 v4 v5 v6 v8 s0 H locs ls hf hP hS hl
      have hf := (ef_X10_seenBy_L66 _ _ _ _ _ _ _ _).symm.trans hf
      refine lv_iload hx hb dX10_seenBy_66 (lv_at hl 7 rfl) ?_
      refine lv_iload hx hb dX10_seenBy_68 (lv_at hl 4 rfl) ?_
      refine lv_icmp_gt (tgt := 155) hx hb dX10_seenBy_70 (by decide) (fun hc => ?_) (fun hc => ?_)
      · have hf := jif_t hc hf
        refine lv_lload hx hb dX10_seenBy_155 (lv_at hl 6 rfl) ?_
        exact ret_l C hP hS (Prod.mk.inj (Option.some.inj hf)).1 (Prod.mk.inj (Option.some.inj hf)).2 dX10_seenBy_157
      · have hf := jif_f hc hf
        refine lv_iload_n hx hb dX10_seenBy_73 rfl (lv_at hl 3 rfl) ?_
        refine lv_iconst (v := (-1 : Int32)) hx hb dX10_seenBy_74 (by decide) ?_
        refine lv_icmp_eq (tgt := 155) hx hb dX10_seenBy_75 (by decide) (fun hc => ?_) (fun hc => ?_)
        · have hf := jif_t hc hf
          refine lv_lload hx hb dX10_seenBy_155 (lv_at hl 6 rfl) ?_
          exact ret_l C hP hS (Prod.mk.inj (Option.some.inj hf)).1 (Prod.mk.inj (Option.some.inj hf)).2 dX10_seenBy_157
        · have hf := jif_f hc hf
          refine lv_lload hx hb dX10_seenBy_78 (lv_at hl 6 rfl) ?_
          refine lv_aload_n hx hb dX10_seenBy_80 rfl (lv_at hl 0 rfl) ?_
          refine lv_iconst (v := (1 : Int32)) hx hb dX10_seenBy_81 (by decide) ?_
          refine lv_iload hx hb dX10_seenBy_82 (lv_at hl 7 rfl) ?_
          refine lv_aload_n hx hb dX10_seenBy_84 rfl (lv_at hl 0 rfl) ?_
          refine lv_iload_n hx hb dX10_seenBy_85 rfl (lv_at hl 3 rfl) ?_
          refine r_ci (r_runV (As := [.int v3]) (rest := [.int v8, .int (1 : Int32), .ref (a 0), .long v6]) C hP hS (va_recv C.hK hP (q0 := 0) (ci := 10) rfl (by rw [g_at oM_10.1, oM_10.2])) (k_X10_lit (l := l) O (σ := s0) rfl) mw_X10_lit mi_X10_lit mv_X10_lit wk_5_205 ⟨Nat.le_of_ble_eq_true rfl, Nat.le_of_ble_eq_true rfl⟩ ⟨rfl, rfl⟩ ⟨Nat.zero_le _, Nat.zero_le _⟩ rfl hl.1 rfl (Nat.le_of_ble_eq_true rfl) dX10_seenBy_86) hS (fun H locs hP hS => ?_)
          refine jl_topi hf (fun y1 hf => ?_)
          refine lv_aload_n hx hb dX10_seenBy_89 rfl (lv_at hl 0 rfl) ?_
          refine gf_X10_6 C hP wk_4_203 dX10_seenBy_90 ?_
          refine lv_iload_n hx hb dX10_seenBy_93 rfl (lv_at hl 1 rfl) ?_
          obtain ⟨hi3, hf⟩ := jix_e hf
          refine r_iald C hP aM_6 hi3 dX10_seenBy_94 ?_
          refine lv_iload_n hx hb dX10_seenBy_95 rfl (lv_at hl 2 rfl) ?_
          refine lv_iload_n hx hb dX10_seenBy_96 rfl (lv_at hl 1 rfl) ?_
          refine lv_iload_n hx hb dX10_seenBy_97 rfl (lv_at hl 3 rfl) ?_
          obtain ⟨y4, s5, hc, hf⟩ := jbp_e hf
          refine r_ci (r_runV (As := [.int (1 : Int32), .int v8, .int y1, .int (gA s0 6 (Int32.toNatClampNeg v1)), .int v2, .int v1, .int v3]) (rest := [.long v6]) C hP hS (va_recv C.hK hP (q0 := 0) (ci := 10) rfl (by rw [g_at oM_10.1, oM_10.2])) (k_X10_asksOf (l := l) O hc) mw_X10_asksOf mi_X10_asksOf mv_X10_asksOf wk_5_131 ⟨Nat.le_of_ble_eq_true rfl, Nat.le_of_ble_eq_true rfl⟩ ⟨rfl, rfl⟩ ⟨Nat.zero_le _, Nat.zero_le _⟩ rfl hl.1 rfl (Nat.le_of_ble_eq_true rfl) dX10_seenBy_98) hS (fun H locs hP hS => ?_)
          refine lv_iconst (v := (1 : Int32)) hx hb dX10_seenBy_101 (by decide) ?_
          refine lv_icmp_ne (tgt := 111) hx hb dX10_seenBy_102 (by decide) (fun hc => ?_) (fun hc => ?_)
          · have hf := jif_t hc hf
            refine lv_lconst (v := (0 : Int64)) hx hb dX10_seenBy_111 (by decide) ?_
            exact hL112 (f_X10_seenBy_L66 n) ih v1 v2 v3 v4 v5 v8 v6 (0 : Int64) s5 H locs ls hf hP hS (lv_sub hl [0, 1, 2, 3, 4, 5, 7] rfl)
          · have hf := jif_n hc hf
            refine lv_lconst (v := (1 : Int64)) hx hb dX10_seenBy_105 (by decide) ?_
            refine lv_iload_n hx hb dX10_seenBy_106 rfl (lv_at hl 3 rfl) ?_
            refine r_lshl C dX10_seenBy_107 ?_
            refine lv_goto (tgt := 112) hx hb dX10_seenBy_108 (by decide) ?_
            exact hL112 (f_X10_seenBy_L66 n) ih v1 v2 v3 v4 v5 v8 v6 (jlshl (1 : Int64) v3) s5 H locs ls hf hP hS (lv_sub hl [0, 1, 2, 3, 4, 5, 7] rfl)
  refine lv_aload_n hx hb dX10_seenBy_0 rfl (lv_at hl 0 rfl) ?_
  refine lv_iload_n hx hb dX10_seenBy_1 rfl (lv_at hl 1 rfl) ?_
  refine lv_iload_n hx hb dX10_seenBy_2 rfl (lv_at hl 2 rfl) ?_
  obtain ⟨y1, hc, hf⟩ := jb_e hf
  refine r_cz (r_runV (As := [.int x1, .int x2]) (rest := []) C hP hS (va_recv C.hK hP (q0 := 0) (ci := 10) rfl (by rw [g_at oM_10.1, oM_10.2])) (k_X10_looks (l := l) O (σ := σ) hc) mw_X10_looks mi_X10_looks mv_X10_looks wk_5_193 ⟨Nat.le_of_ble_eq_true rfl, Nat.le_of_ble_eq_true rfl⟩ ⟨rfl, rfl⟩ ⟨Nat.zero_le _, Nat.zero_le _⟩ rfl hl.1 rfl (Nat.le_of_ble_eq_true rfl) dX10_seenBy_3) hS (fun H locs hzy1 hP hS => ?_)
  refine lv_if_ne (tgt := 11) hx hb dX10_seenBy_6 (by decide) (fun hc => ?_) (fun hc => ?_)
  · have hf := jif_t hc hf
    refine lv_aload_n hx hb dX10_seenBy_11 rfl (lv_at hl 0 rfl) ?_
    refine lv_iload_n hx hb dX10_seenBy_12 rfl (lv_at hl 1 rfl) ?_
    refine lv_iload_n hx hb dX10_seenBy_13 rfl (lv_at hl 2 rfl) ?_
    obtain ⟨y3, hc, hf⟩ := jb_e hf
    refine r_ci (r_runV (As := [.int x1, .int x2]) (rest := []) C hP hS (va_recv C.hK hP (q0 := 0) (ci := 10) rfl (by rw [g_at oM_10.1, oM_10.2])) (k_X10_stands (l := l) O (σ := σ) hc) mw_X10_stands mi_X10_stands mv_X10_stands wk_5_165 ⟨Nat.le_of_ble_eq_true rfl, Nat.le_of_ble_eq_true rfl⟩ ⟨rfl, rfl⟩ ⟨Nat.zero_le _, Nat.zero_le _⟩ rfl hl.1 rfl (Nat.le_of_ble_eq_true rfl) dX10_seenBy_14) hS (fun H locs hP hS => ?_)
    refine lv_istore_n (lv' := [(3, .int y3), (0, .ref (a 0)), (1, .int x1), (2, .int x2)]) hx hb dX10_seenBy_17 rfl hl (by decide) rfl (fun ls hl => ?_)
    refine lv_aload_n hx hb dX10_seenBy_18 rfl (lv_at hl 1 rfl) ?_
    refine lv_iconst (v := (0 : Int32)) hx hb dX10_seenBy_19 (by decide) ?_
    refine lv_iconst (v := (0 : Int32)) hx hb dX10_seenBy_20 (by decide) ?_
    refine lv_aload_n hx hb dX10_seenBy_21 rfl (lv_at hl 1 rfl) ?_
    refine lv_iload_n hx hb dX10_seenBy_22 rfl (lv_at hl 0 rfl) ?_
    refine r_ci (r_runV (As := [.int y3]) (rest := [.int (0 : Int32), .int (0 : Int32), .ref (a 0)]) C hP hS (va_recv C.hK hP (q0 := 0) (ci := 10) rfl (by rw [g_at oM_10.1, oM_10.2])) (k_X10_lit (l := l) O (σ := σ) rfl) mw_X10_lit mi_X10_lit mv_X10_lit wk_5_205 ⟨Nat.le_of_ble_eq_true rfl, Nat.le_of_ble_eq_true rfl⟩ ⟨rfl, rfl⟩ ⟨Nat.zero_le _, Nat.zero_le _⟩ rfl hl.1 rfl (Nat.le_of_ble_eq_true rfl) dX10_seenBy_23) hS (fun H locs hP hS => ?_)
    refine jl_topi hf (fun y5 hf => ?_)
    refine lv_aload_n hx hb dX10_seenBy_26 rfl (lv_at hl 1 rfl) ?_
    refine gf_X10_6 C hP wk_4_203 dX10_seenBy_27 ?_
    refine lv_iload_n hx hb dX10_seenBy_30 rfl (lv_at hl 2 rfl) ?_
    obtain ⟨hi7, hf⟩ := jix_e hf
    refine r_iald C hP aM_6 hi7 dX10_seenBy_31 ?_
    refine lv_iload_n hx hb dX10_seenBy_32 rfl (lv_at hl 3 rfl) ?_
    refine lv_iload_n hx hb dX10_seenBy_33 rfl (lv_at hl 2 rfl) ?_
    refine lv_iload_n hx hb dX10_seenBy_34 rfl (lv_at hl 0 rfl) ?_
    obtain ⟨y8, s9, hc, hf⟩ := jbp_e hf
    refine r_ci (r_runV (As := [.int (0 : Int32), .int (0 : Int32), .int y5, .int (gA σ 6 (Int32.toNatClampNeg x1)), .int x2, .int x1, .int y3]) (rest := []) C hP hS (va_recv C.hK hP (q0 := 0) (ci := 10) rfl (by rw [g_at oM_10.1, oM_10.2])) (k_X10_asksOf (l := l) O hc) mw_X10_asksOf mi_X10_asksOf mv_X10_asksOf wk_5_131 ⟨Nat.le_of_ble_eq_true rfl, Nat.le_of_ble_eq_true rfl⟩ ⟨rfl, rfl⟩ ⟨Nat.zero_le _, Nat.zero_le _⟩ rfl hl.1 rfl (Nat.le_of_ble_eq_true rfl) dX10_seenBy_35) hS (fun H locs hP hS => ?_)
    refine lv_istore (lv' := [(4, .int y8), (3, .int y3), (0, .ref (a 0)), (1, .int x1), (2, .int x2)]) hx hb dX10_seenBy_38 hl (by decide) rfl (fun ls hl => ?_)
    refine lv_aload_n hx hb dX10_seenBy_40 rfl (lv_at hl 2 rfl) ?_
    refine lv_iload_n hx hb dX10_seenBy_41 rfl (lv_at hl 3 rfl) ?_
    refine lv_iload_n hx hb dX10_seenBy_42 rfl (lv_at hl 4 rfl) ?_
    obtain ⟨y10, hc, hf⟩ := jb_e hf
    refine r_ci (r_runV (As := [.int x1, .int x2]) (rest := []) C hP hS (va_recv C.hK hP (q0 := 0) (ci := 10) rfl (by rw [g_at oM_10.1, oM_10.2])) (k_X10_turned (l := l) O (σ := s9) hc) mw_X10_turned mi_X10_turned mv_X10_turned wk_5_189 ⟨Nat.le_of_ble_eq_true rfl, Nat.le_of_ble_eq_true rfl⟩ ⟨rfl, rfl⟩ ⟨Nat.zero_le _, Nat.zero_le _⟩ rfl hl.1 rfl (Nat.le_of_ble_eq_true rfl) dX10_seenBy_43) hS (fun H locs hP hS => ?_)
    refine lv_iconst (v := (3 : Int32)) hx hb dX10_seenBy_46 (by decide) ?_
    refine lv_iadd hx hb dX10_seenBy_47 ?_
    refine lv_iconst (v := (4 : Int32)) hx hb dX10_seenBy_48 (by decide) ?_
    refine r_irem C dX10_seenBy_49 (by decide) ?_
    refine jl_topi hf (fun y12 hf => ?_)
    refine lv_istore (lv' := [(5, .int y12), (4, .int y8), (3, .int y3), (0, .ref (a 0)), (1, .int x1), (2, .int x2)]) hx hb dX10_seenBy_50 hl (by decide) rfl (fun ls hl => ?_)
    refine lv_lconst (v := (0 : Int64)) hx hb dX10_seenBy_52 (by decide) ?_
    refine lv_lstore (lv' := [(6, .long (0 : Int64)), (5, .int y12), (4, .int y8), (3, .int y3), (0, .ref (a 0)), (1, .int x1), (2, .int x2)]) hx hb dX10_seenBy_53 hl (by decide) rfl (fun ls hl => ?_)
    refine lv_aload_n hx hb dX10_seenBy_55 rfl (lv_at hl 4 rfl) ?_
    refine lv_iload_n hx hb dX10_seenBy_56 rfl (lv_at hl 3 rfl) ?_
    refine lv_iload hx hb dX10_seenBy_57 (lv_at hl 1 rfl) ?_
    refine r_ci (r_runV (As := [.int y3, .int y12]) (rest := []) C hP hS (va_recv C.hK hP (q0 := 0) (ci := 10) rfl (by rw [g_at oM_10.1, oM_10.2])) (k_X10_beside (l := l) O (σ := s9) rfl) mw_X10_beside mi_X10_beside mv_X10_beside wk_5_173 ⟨Nat.le_of_ble_eq_true rfl, Nat.le_of_ble_eq_true rfl⟩ ⟨rfl, rfl⟩ ⟨Nat.zero_le _, Nat.zero_le _⟩ rfl hl.1 rfl (Nat.le_of_ble_eq_true rfl) dX10_seenBy_59) hS (fun H locs hP hS => ?_)
    refine jl_topi hf (fun y13 hf => ?_)
    refine lv_istore_n (lv' := [(3, .int y13), (6, .long (0 : Int64)), (5, .int y12), (4, .int y8), (0, .ref (a 0)), (1, .int x1), (2, .int x2)]) hx hb dX10_seenBy_62 rfl hl (by decide) rfl (fun ls hl => ?_)
    refine lv_iconst (v := (1 : Int32)) hx hb dX10_seenBy_63 (by decide) ?_
    refine lv_istore (lv' := [(8, .int (1 : Int32)), (3, .int y13), (6, .long (0 : Int64)), (5, .int y12), (4, .int y8), (0, .ref (a 0)), (1, .int x1), (2, .int x2)]) hx hb dX10_seenBy_64 hl (by decide) rfl (fun ls hl => ?_)
    exact hL66 FU x1 x2 y13 y8 y12 (0 : Int64) (1 : Int32) s9 H locs ls hf hP hS (lv_sub hl [5, 6, 7, 1, 4, 3, 2, 0] rfl)
  · have hf := jif_n hc hf
    refine lv_lconst (v := (0 : Int64)) hx hb dX10_seenBy_9 (by decide) ?_
    exact ret_l C hP hS (Prod.mk.inj (Option.some.inj hf)).1 (Prod.mk.inj (Option.some.inj hf)).2 dX10_seenBy_10
set_option maxHeartbeats 4000000 in
set_option maxRecDepth 100000 in
theorem k_X10_watches {l : Launch} {a : Nat → Nat} {cy : Nat → ClassId} {D : va_G} {A : Nat → Prop} (O : WO NM a (fun _ => True) A) {x1 : Int32} {σ : ST} {σ' : ST} (hf : f_X10_watches x1 σ = some σ') : Met l yX10_watches (Cond.code yX10_watches cX10_watches 3 none :: WS) (rmk 6 148) (PC [.ref (a 0), .int x1] NM eM a cy D (fun _ => True) σ) (QV NM eM a cy D A σ') 0 0 A := by
  refine met_go (own := "GuardsLookLeftModel") O (by decide +kernel) rfl (Nat.le_of_ble_eq_true rfl) ?_
  intro p e s m args below meth c ls C hP hS hl
  have hx := C.hx
  have hb := C.hb
  have hl : lv_has ls 3 [(0, .ref (a 0)), (1, .int x1)] := hl
  obtain ⟨H, hH⟩ : ∃ H, H = s.heap := ⟨_, rfl⟩
  rw [← hH] at hP
  have hS : va_S A s.heap H [] := by rw [hH]; exact va_S.rf
  suffices g : W p l e (rmk 6 148) s m args below meth c H [] 0 0 (MQ below (QV NM eM a cy D A σ') args s 0 0 A) (F0 m 0 ls []) by rw [hH] at g; exact g
  clear hH
  obtain ⟨locs, hlocs⟩ : ∃ z : List Loc, z = [] := ⟨_, rfl⟩
  rw [← hlocs] at hS ⊢
  have hL2 : ∀ (n : Nat), (∀ (v1 : Int32) (v2 : Int32) (s0 : ST) (H : Heap) (locs : List Loc) (ls : Array Slot), f_X10_watches_L2 n v1 v2 s0 = some σ' → va_P D vwCl (wG NM eM a cy s0) H → va_S A s.heap H locs → lv_has ls 3 [(0, .ref (a 0)), (1, .int v1), (2, .int v2)] → W p l e (rmk 6 148) s m args below meth c H locs 0 0 (MQ below (QV NM eM a cy D A σ') args s 0 0 A) (F0 m 2 ls [])) := by
    intro n
    induction n with
    | zero => intro v1 v2 s0 H locs ls hf hP hS hl; exact no_o hf
    | succ n ih =>
      intro v1 v2 s0 H locs ls hf hP hS hl
      have hf := (ef_X10_watches_L2 _ _ _).symm.trans hf
      refine lv_iload_n hx hb dX10_watches_2 rfl (lv_at hl 2 rfl) ?_
      refine lv_bipush (v := (24 : Int32)) hx hb dX10_watches_3 (by decide) ?_
      refine lv_icmp_ge (tgt := 40) hx hb dX10_watches_5 (by decide) (fun hc => ?_) (fun hc => ?_)
      · have hf := jif_t hc hf
        exact ret_v C hP hS (Option.some.inj hf) dX10_watches_40
      · have hf := jif_f hc hf
        refine lv_aload_n hx hb dX10_watches_8 rfl (lv_at hl 0 rfl) ?_
        refine gf_X10_35 C hP wk_4_232 dX10_watches_9 ?_
        refine lv_bipush (v := (24 : Int32)) hx hb dX10_watches_12 (by decide) ?_
        refine lv_iload_n hx hb dX10_watches_14 rfl (lv_at hl 1 rfl) ?_
        refine lv_imul hx hb dX10_watches_15 ?_
        refine lv_iload_n hx hb dX10_watches_16 rfl (lv_at hl 2 rfl) ?_
        refine lv_iadd hx hb dX10_watches_17 ?_
        refine lv_aload_n hx hb dX10_watches_18 rfl (lv_at hl 0 rfl) ?_
        refine lv_iload_n hx hb dX10_watches_19 rfl (lv_at hl 1 rfl) ?_
        refine lv_iload_n hx hb dX10_watches_20 rfl (lv_at hl 2 rfl) ?_
        obtain ⟨y1, s2, hc, hf⟩ := jbp_e hf
        refine r_cl (r_runV (As := [.int v1, .int v2]) (rest := [.int (((24 : Int32) * v1) + v2), .ref (a 22)]) C hP hS (va_recv C.hK hP (q0 := 0) (ci := 10) rfl (by rw [g_at oM_10.1, oM_10.2])) (k_X10_seenBy (l := l) O hc) mw_X10_seenBy mi_X10_seenBy mv_X10_seenBy wk_5_201 ⟨Nat.le_of_ble_eq_true rfl, Nat.le_of_ble_eq_true rfl⟩ ⟨rfl, rfl⟩ ⟨Nat.zero_le _, Nat.zero_le _⟩ rfl hl.1 rfl (Nat.le_of_ble_eq_true rfl) dX10_watches_21) hS (fun H locs hP hS => ?_)
        refine lv_lconst (v := (1 : Int64)) hx hb dX10_watches_24 (by decide) ?_
        refine lv_aload_n hx hb dX10_watches_25 rfl (lv_at hl 0 rfl) ?_
        refine lv_iload_n hx hb dX10_watches_26 rfl (lv_at hl 1 rfl) ?_
        refine lv_iload_n hx hb dX10_watches_27 rfl (lv_at hl 2 rfl) ?_
        obtain ⟨y3, hc, hf⟩ := jb_e hf
        refine r_ci (r_runV (As := [.int v1, .int v2]) (rest := [.long (1 : Int64), .long y1, .int (((24 : Int32) * v1) + v2), .ref (a 22)]) C hP hS (va_recv C.hK hP (q0 := 0) (ci := 10) rfl (by rw [g_at oM_10.1, oM_10.2])) (k_X10_stands (l := l) O (σ := s2) hc) mw_X10_stands mi_X10_stands mv_X10_stands wk_5_165 ⟨Nat.le_of_ble_eq_true rfl, Nat.le_of_ble_eq_true rfl⟩ ⟨rfl, rfl⟩ ⟨Nat.zero_le _, Nat.zero_le _⟩ rfl hl.1 rfl (Nat.le_of_ble_eq_true rfl) dX10_watches_28) hS (fun H locs hP hS => ?_)
        refine r_lshl C dX10_watches_31 ?_
        refine lv_lor hx hb dX10_watches_32 ?_
        obtain ⟨hi5, hf⟩ := jix_e hf
        refine r_last C hP hS aM_22 hi5 dX10_watches_33 hf (fun H locs s6 hf hP hS => ?_)
        obtain ⟨y7, ey7, hf⟩ := jlet_e hf
        refine lv_iinc (v := y7) (lv' := [(2, .int y7), (0, .ref (a 0)), (1, .int v1)]) hx hb dX10_watches_34 hl (k := 2) rfl ey7 (by decide) rfl (fun ls hl => ?_)
        refine lv_goto (tgt := 2) hx hb dX10_watches_37 (by decide) ?_
        exact ih v1 y7 s6 H locs ls hf hP hS (lv_sub hl [1, 2, 0] rfl)
  refine lv_iconst (v := (0 : Int32)) hx hb dX10_watches_0 (by decide) ?_
  refine lv_istore_n (lv' := [(2, .int (0 : Int32)), (0, .ref (a 0)), (1, .int x1)]) hx hb dX10_watches_1 rfl hl (by decide) rfl (fun ls hl => ?_)
  exact hL2 FU x1 (0 : Int32) σ H locs ls hf hP hS (lv_sub hl [1, 2, 0] rfl)
set_option maxHeartbeats 4000000 in
set_option maxRecDepth 100000 in
theorem k_X10_watchesAll {l : Launch} {a : Nat → Nat} {cy : Nat → ClassId} {D : va_G} {A : Nat → Prop} (O : WO NM a (fun _ => True) A) {σ : ST} {σ' : ST} (hf : f_X10_watchesAll σ = some σ') : Met l yX10_watchesAll (Cond.code yX10_watchesAll cX10_watchesAll 2 none :: WS) (rmk 7 170) (PC [.ref (a 0)] NM eM a cy D (fun _ => True) σ) (QV NM eM a cy D A σ') 0 0 A := by
  refine met_go (own := "GuardsLookLeftModel") O (by decide +kernel) rfl (Nat.le_of_ble_eq_true rfl) ?_
  intro p e s m args below meth c ls C hP hS hl
  have hx := C.hx
  have hb := C.hb
  have hl : lv_has ls 2 [(0, .ref (a 0))] := hl
  obtain ⟨H, hH⟩ : ∃ H, H = s.heap := ⟨_, rfl⟩
  rw [← hH] at hP
  have hS : va_S A s.heap H [] := by rw [hH]; exact va_S.rf
  suffices g : W p l e (rmk 7 170) s m args below meth c H [] 0 0 (MQ below (QV NM eM a cy D A σ') args s 0 0 A) (F0 m 0 ls []) by rw [hH] at g; exact g
  clear hH
  obtain ⟨locs, hlocs⟩ : ∃ z : List Loc, z = [] := ⟨_, rfl⟩
  rw [← hlocs] at hS ⊢
  have hL2 : ∀ (n : Nat), (∀ (v1 : Int32) (s0 : ST) (H : Heap) (locs : List Loc) (ls : Array Slot), f_X10_watchesAll_L2 n v1 s0 = some σ' → va_P D vwCl (wG NM eM a cy s0) H → va_S A s.heap H locs → lv_has ls 2 [(0, .ref (a 0)), (1, .int v1)] → W p l e (rmk 7 170) s m args below meth c H locs 0 0 (MQ below (QV NM eM a cy D A σ') args s 0 0 A) (F0 m 2 ls [])) := by
    intro n
    induction n with
    | zero => intro v1 s0 H locs ls hf hP hS hl; exact no_o hf
    | succ n ih =>
      intro v1 s0 H locs ls hf hP hS hl
      have hf := (ef_X10_watchesAll_L2 _ _).symm.trans hf
      refine lv_iload_n hx hb dX10_watchesAll_2 rfl (lv_at hl 1 rfl) ?_
      refine lv_aload_n hx hb dX10_watchesAll_3 rfl (lv_at hl 0 rfl) ?_
      refine gf_X10_1 C hP wk_4_198 dX10_watchesAll_4 ?_
      refine lv_icmp_ge (tgt := 21) hx hb dX10_watchesAll_7 (by decide) (fun hc => ?_) (fun hc => ?_)
      · have hf := jif_t hc hf
        exact ret_v C hP hS (Option.some.inj hf) dX10_watchesAll_21
      · have hf := jif_f hc hf
        refine lv_aload_n hx hb dX10_watchesAll_10 rfl (lv_at hl 0 rfl) ?_
        refine lv_iload_n hx hb dX10_watchesAll_11 rfl (lv_at hl 1 rfl) ?_
        obtain ⟨s2, hc, hf⟩ := jb_e hf
        refine r_cv (r_runV (As := [.int v1]) (rest := []) C hP hS (va_recv C.hK hP (q0 := 0) (ci := 10) rfl (by rw [g_at oM_10.1, oM_10.2])) (k_X10_watches (l := l) O hc) mw_X10_watches mi_X10_watches mv_X10_watches wk_5_217 ⟨Nat.le_of_ble_eq_true rfl, Nat.le_of_ble_eq_true rfl⟩ ⟨rfl, rfl⟩ ⟨Nat.zero_le _, Nat.zero_le _⟩ rfl hl.1 rfl (Nat.le_of_ble_eq_true rfl) dX10_watchesAll_12) hS (fun H locs hP hS => ?_)
        obtain ⟨y3, ey3, hf⟩ := jlet_e hf
        refine lv_iinc (v := y3) (lv' := [(1, .int y3), (0, .ref (a 0))]) hx hb dX10_watchesAll_15 hl (k := 1) rfl ey3 (by decide) rfl (fun ls hl => ?_)
        refine lv_goto (tgt := 2) hx hb dX10_watchesAll_18 (by decide) ?_
        exact ih y3 s2 H locs ls hf hP hS (lv_sub hl [1, 0] rfl)
  refine lv_iconst (v := (0 : Int32)) hx hb dX10_watchesAll_0 (by decide) ?_
  refine lv_istore_n (lv' := [(1, .int (0 : Int32)), (0, .ref (a 0))]) hx hb dX10_watchesAll_1 rfl hl (by decide) rfl (fun ls hl => ?_)
  exact hL2 FU (0 : Int32) σ H locs ls hf hP hS (lv_sub hl [1, 0] rfl)
set_option maxHeartbeats 4000000 in
set_option maxRecDepth 100000 in
theorem k_X10_seenAt {l : Launch} {a : Nat → Nat} {cy : Nat → ClassId} {D : va_G} {A : Nat → Prop} (O : WO NM a (fun _ => True) A) {x1 : Int32} {x2 : Int32} {r : Int64} {σ : ST} (hf : f_X10_seenAt x1 x2 σ = some r) : Met l yX10_seenAt (Cond.code yX10_seenAt cX10_seenAt 6 (some .long) :: WS) (rmk 0 0) (PC [.ref (a 0), .int x1, .int x2] NM eM a cy D (fun _ => True) σ) (QL NM eM a cy D A r σ) 0 0 A := by
  refine met_go (own := "GuardsLookLeftModel") O (by decide +kernel) rfl (Nat.le_of_ble_eq_true rfl) ?_
  intro p e s m args below meth c ls C hP hS hl
  have hx := C.hx
  have hb := C.hb
  have hl : lv_has ls 6 [(0, .ref (a 0)), (1, .int x1), (2, .int x2)] := hl
  obtain ⟨H, hH⟩ : ∃ H, H = s.heap := ⟨_, rfl⟩
  rw [← hH] at hP
  have hS : va_S A s.heap H [] := by rw [hH]; exact va_S.rf
  suffices g : W p l e (rmk 0 0) s m args below meth c H [] 0 0 (MQ below (QL NM eM a cy D A r σ) args s 0 0 A) (F0 m 0 ls []) by rw [hH] at g; exact g
  clear hH
  obtain ⟨locs, hlocs⟩ : ∃ z : List Loc, z = [] := ⟨_, rfl⟩
  rw [← hlocs] at hS ⊢
  have hL41 : ∀ (k5 : Int32 → Int32 → Int64 → Int32 → ST → Option Int64) (hk5 : (∀ (v1 : Int32) (v2 : Int32) (v3 : Int64) (v5 : Int32) (H : Heap) (locs : List Loc) (ls : Array Slot), k5 v1 v2 v3 v5 σ = some r → va_P D vwCl (wG NM eM a cy σ) H → va_S A s.heap H locs → lv_has ls 6 [(0, .ref (a 0)), (1, .int v1), (2, .int v2), (3, .long v3), (5, .int v5)] → W p l e (rmk 0 0) s m args below meth c H locs 0 0 (MQ below (QL NM eM a cy D A r σ) args s 0 0 A) (F0 m 5 ls []))), (∀ (v1 : Int32) (v2 : Int32) (v5 : Int32) (t0 : Int64) (t1 : Int64) (H : Heap) (locs : List Loc) (ls : Array Slot), f_X10_seenAt_L41 k5 v1 v2 v5 t0 t1 σ = some r → va_P D vwCl (wG NM eM a cy σ) H → va_S A s.heap H locs → lv_has ls 6 [(0, .ref (a 0)), (1, .int v1), (2, .int v2), (5, .int v5)] → W p l e (rmk 0 0) s m args below meth c H locs 0 0 (MQ below (QL NM eM a cy D A r σ) args s 0 0 A) (F0 m 41 ls [.long t1, .long t0])) := by
    intro k5 hk5 v1 v2 v5 t0 t1 H locs ls hf hP hS hl
    refine lv_lor hx hb dX10_seenAt_41 ?_
    refine jl_topl hf (fun y1 hf => ?_)
    refine lv_lstore_n (lv' := [(3, .long y1), (0, .ref (a 0)), (1, .int v1), (2, .int v2), (5, .int v5)]) hx hb dX10_seenAt_42 rfl hl (by decide) rfl (fun ls hl => ?_)
    obtain ⟨y2, ey2, hf⟩ := jlet_e hf
    refine lv_iinc (v := y2) (lv' := [(5, .int y2), (3, .long y1), (0, .ref (a 0)), (1, .int v1), (2, .int v2)]) hx hb dX10_seenAt_43 hl (k := 4) rfl ey2 (by decide) rfl (fun ls hl => ?_)
    refine lv_goto (tgt := 5) hx hb dX10_seenAt_46 (by decide) ?_
    exact hk5 v1 v2 y1 y2 H locs ls hf hP hS (lv_sub hl [2, 3, 4, 1, 0] rfl)
  have hL5 : ∀ (n : Nat), (∀ (v1 : Int32) (v2 : Int32) (v3 : Int64) (v5 : Int32) (H : Heap) (locs : List Loc) (ls : Array Slot), f_X10_seenAt_L5 n v1 v2 v3 v5 σ = some r → va_P D vwCl (wG NM eM a cy σ) H → va_S A s.heap H locs → lv_has ls 6 [(0, .ref (a 0)), (1, .int v1), (2, .int v2), (3, .long v3), (5, .int v5)] → W p l e (rmk 0 0) s m args below meth c H locs 0 0 (MQ below (QL NM eM a cy D A r σ) args s 0 0 A) (F0 m 5 ls [])) := by
    intro n
    induction n with
    | zero => intro v1 v2 v3 v5 H locs ls hf hP hS hl; exact no_o hf
    | succ n ih =>
      intro v1 v2 v3 v5 H locs ls hf hP hS hl
      have hf := (ef_X10_seenAt_L5 _ _ _ _ _).symm.trans hf
      refine lv_iload hx hb dX10_seenAt_5 (lv_at hl 4 rfl) ?_
      refine lv_aload_n hx hb dX10_seenAt_7 rfl (lv_at hl 0 rfl) ?_
      refine gf_X10_1 C hP wk_4_198 dX10_seenAt_8 ?_
      refine lv_icmp_ge (tgt := 49) hx hb dX10_seenAt_11 (by decide) (fun hc => ?_) (fun hc => ?_)
      · have hf := jif_t hc hf
        refine lv_lload_n hx hb dX10_seenAt_49 rfl (lv_at hl 3 rfl) ?_
        exact ret_l C hP hS (Option.some.inj hf) rfl dX10_seenAt_50
      · have hf := jif_f hc hf
        refine lv_lload_n hx hb dX10_seenAt_14 rfl (lv_at hl 3 rfl) ?_
        refine lv_iload_n hx hb dX10_seenAt_15 rfl (lv_at hl 2 rfl) ?_
        refine lv_iload hx hb dX10_seenAt_16 (lv_at hl 4 rfl) ?_
        refine r_ishr C dX10_seenAt_18 ?_
        refine lv_iconst (v := (1 : Int32)) hx hb dX10_seenAt_19 (by decide) ?_
        refine lv_iand hx hb dX10_seenAt_20 ?_
        refine lv_iconst (v := (1 : Int32)) hx hb dX10_seenAt_21 (by decide) ?_
        refine lv_icmp_ne (tgt := 40) hx hb dX10_seenAt_22 (by decide) (fun hc => ?_) (fun hc => ?_)
        · have hf := jif_t hc hf
          refine lv_lconst (v := (0 : Int64)) hx hb dX10_seenAt_40 (by decide) ?_
          exact hL41 (f_X10_seenAt_L5 n) ih v1 v2 v5 v3 (0 : Int64) H locs ls hf hP hS (lv_sub hl [0, 1, 2, 4] rfl)
        · have hf := jif_n hc hf
          refine lv_aload_n hx hb dX10_seenAt_25 rfl (lv_at hl 0 rfl) ?_
          refine gf_X10_35 C hP wk_4_232 dX10_seenAt_26 ?_
          refine lv_bipush (v := (24 : Int32)) hx hb dX10_seenAt_29 (by decide) ?_
          refine lv_iload hx hb dX10_seenAt_31 (lv_at hl 4 rfl) ?_
          refine lv_imul hx hb dX10_seenAt_33 ?_
          refine lv_iload_n hx hb dX10_seenAt_34 rfl (lv_at hl 1 rfl) ?_
          refine lv_iadd hx hb dX10_seenAt_35 ?_
          obtain ⟨hi1, hf⟩ := jix_e hf
          refine r_lald C hP aM_22 hi1 dX10_seenAt_36 ?_
          refine lv_goto (tgt := 41) hx hb dX10_seenAt_37 (by decide) ?_
          exact hL41 (f_X10_seenAt_L5 n) ih v1 v2 v5 v3 (gB σ 22 (Int32.toNatClampNeg (((24 : Int32) * v5) + v1))) H locs ls hf hP hS (lv_sub hl [0, 1, 2, 4] rfl)
  refine lv_lconst (v := (0 : Int64)) hx hb dX10_seenAt_0 (by decide) ?_
  refine lv_lstore_n (lv' := [(3, .long (0 : Int64)), (0, .ref (a 0)), (1, .int x1), (2, .int x2)]) hx hb dX10_seenAt_1 rfl hl (by decide) rfl (fun ls hl => ?_)
  refine lv_iconst (v := (0 : Int32)) hx hb dX10_seenAt_2 (by decide) ?_
  refine lv_istore (lv' := [(5, .int (0 : Int32)), (3, .long (0 : Int64)), (0, .ref (a 0)), (1, .int x1), (2, .int x2)]) hx hb dX10_seenAt_3 hl (by decide) rfl (fun ls hl => ?_)
  exact hL5 FU x1 x2 (0 : Int64) (0 : Int32) H locs ls hf hP hS (lv_sub hl [2, 3, 4, 1, 0] rfl)
set_option maxHeartbeats 4000000 in
set_option maxRecDepth 100000 in
theorem k_X10_allGuards {l : Launch} {a : Nat → Nat} {cy : Nat → ClassId} {D : va_G} {A : Nat → Prop} (O : WO NM a (fun _ => True) A) {r : Int32} {σ : ST} (hf : f_X10_allGuards σ = r) : Met l yX10_allGuards (Cond.code yX10_allGuards cX10_allGuards 1 (some .int) :: WS) (rmk 0 0) (PC [.ref (a 0)] NM eM a cy D (fun _ => True) σ) (QI NM eM a cy D A r σ) 0 0 A := by
  refine met_go (own := "GuardsLookLeftModel") O (by decide +kernel) rfl (Nat.le_of_ble_eq_true rfl) ?_
  intro p e s m args below meth c ls C hP hS hl
  have hx := C.hx
  have hb := C.hb
  have hl : lv_has ls 1 [(0, .ref (a 0))] := hl
  obtain ⟨H, hH⟩ : ∃ H, H = s.heap := ⟨_, rfl⟩
  rw [← hH] at hP
  have hS : va_S A s.heap H [] := by rw [hH]; exact va_S.rf
  suffices g : W p l e (rmk 0 0) s m args below meth c H [] 0 0 (MQ below (QI NM eM a cy D A r σ) args s 0 0 A) (F0 m 0 ls []) by rw [hH] at g; exact g
  clear hH
  obtain ⟨locs, hlocs⟩ : ∃ z : List Loc, z = [] := ⟨_, rfl⟩
  rw [← hlocs] at hS ⊢
  refine lv_iconst (v := (1 : Int32)) hx hb dX10_allGuards_0 (by decide) ?_
  refine lv_aload_n hx hb dX10_allGuards_1 rfl (lv_at hl 0 rfl) ?_
  refine gf_X10_1 C hP wk_4_198 dX10_allGuards_2 ?_
  refine r_ishl C dX10_allGuards_5 ?_
  refine lv_iconst (v := (1 : Int32)) hx hb dX10_allGuards_6 (by decide) ?_
  refine lv_isub hx hb dX10_allGuards_7 ?_
  exact ret_i C hP hS hf rfl dX10_allGuards_8
set_option maxHeartbeats 4000000 in
set_option maxRecDepth 100000 in
theorem k_X10_sees {l : Launch} {a : Nat → Nat} {cy : Nat → ClassId} {D : va_G} {A : Nat → Prop} (O : WO NM a (fun _ => True) A) {x1 : Int32} {x2 : Int32} {r : Int64} {σ : ST} {σ' : ST} (hf : f_X10_sees x1 x2 σ = some (r, σ')) : Met l yX10_sees (Cond.code yX10_sees cX10_sees 3 (some .long) :: WS) (rmk 6 148) (PC [.ref (a 0), .int x1, .int x2] NM eM a cy D (fun _ => True) σ) (QL NM eM a cy D A r σ') 0 0 A := by
  refine met_go (own := "GuardsLookLeftModel") O (by decide +kernel) rfl (Nat.le_of_ble_eq_true rfl) ?_
  intro p e s m args below meth c ls C hP hS hl
  have hx := C.hx
  have hb := C.hb
  have hl : lv_has ls 3 [(0, .ref (a 0)), (1, .int x1), (2, .int x2)] := hl
  obtain ⟨H, hH⟩ : ∃ H, H = s.heap := ⟨_, rfl⟩
  rw [← hH] at hP
  have hS : va_S A s.heap H [] := by rw [hH]; exact va_S.rf
  suffices g : W p l e (rmk 6 148) s m args below meth c H [] 0 0 (MQ below (QL NM eM a cy D A r σ') args s 0 0 A) (F0 m 0 ls []) by rw [hH] at g; exact g
  clear hH
  obtain ⟨locs, hlocs⟩ : ∃ z : List Loc, z = [] := ⟨_, rfl⟩
  rw [← hlocs] at hS ⊢
  have hL24 : (∀ (s0 : ST) (H : Heap) (locs : List Loc) (ls : Array Slot), f_X10_sees_L24 s0 = some (r, σ') → va_P D vwCl (wG NM eM a cy s0) H → va_S A s.heap H locs → lv_has ls 3 [] → W p l e (rmk 6 148) s m args below meth c H locs 0 0 (MQ below (QL NM eM a cy D A r σ') args s 0 0 A) (F0 m 24 ls [])) := by
    intro s0 H locs ls hf hP hS hl
    refine lv_ldc2 hx hb C.hown (C.ts _ wk_5_89) dX10_sees_24 ?_
    exact ret_l C hP hS (Prod.mk.inj (Option.some.inj hf)).1 (Prod.mk.inj (Option.some.inj hf)).2 dX10_sees_27
  refine lv_aload_n hx hb dX10_sees_0 rfl (lv_at hl 0 rfl) ?_
  refine lv_iload_n hx hb dX10_sees_1 rfl (lv_at hl 1 rfl) ?_
  refine r_cz (r_runV (As := [.int x1]) (rest := []) C hP hS (va_recv C.hK hP (q0 := 0) (ci := 10) rfl (by rw [g_at oM_10.1, oM_10.2])) (k_X10_isGuard (l := l) O (σ := σ) rfl) mw_X10_isGuard mi_X10_isGuard mv_X10_isGuard wk_5_153 ⟨Nat.le_of_ble_eq_true rfl, Nat.le_of_ble_eq_true rfl⟩ ⟨rfl, rfl⟩ ⟨Nat.zero_le _, Nat.zero_le _⟩ rfl hl.1 rfl (Nat.le_of_ble_eq_true rfl) dX10_sees_2) hS (fun H locs hzy1 hP hS => ?_)
  refine jl_topz hf hzy1 (fun y1 hzy1 hf => ?_)
  refine lv_if_eq (tgt := 24) hx hb dX10_sees_5 (by decide) (fun hc => ?_) (fun hc => ?_)
  · have hf := jif_t hc hf
    exact hL24 σ H locs ls hf hP hS (lv_sub hl [] rfl)
  · have hf := jif_f hc hf
    refine lv_iload_n hx hb dX10_sees_8 rfl (lv_at hl 2 rfl) ?_
    refine r_cz (r_runS (As := [.int x2]) (rest := []) C hP hS (k_X10_isSecond (l := l) O (σ := σ) rfl) mw_X10_isSecond ms_X10_isSecond wk_5_128 ⟨Nat.le_of_ble_eq_true rfl, Nat.le_of_ble_eq_true rfl⟩ ⟨rfl, rfl⟩ ⟨Nat.zero_le _, Nat.zero_le _⟩ rfl hl.1 rfl (Nat.le_of_ble_eq_true rfl) dX10_sees_9) hS (fun H locs hzy3 hP hS => ?_)
    refine jl_topz hf hzy3 (fun y3 hzy3 hf => ?_)
    refine lv_if_eq (tgt := 24) hx hb dX10_sees_12 (by decide) (fun hc => ?_) (fun hc => ?_)
    · have hf := jif_t hc hf
      exact hL24 σ H locs ls hf hP hS (lv_sub hl [] rfl)
    · have hf := jif_f hc hf
      refine lv_aload_n hx hb dX10_sees_15 rfl (lv_at hl 0 rfl) ?_
      refine lv_iload_n hx hb dX10_sees_16 rfl (lv_at hl 1 rfl) ?_
      refine lv_iload_n hx hb dX10_sees_17 rfl (lv_at hl 2 rfl) ?_
      obtain ⟨y5, s6, hc, hf⟩ := jbp_e hf
      refine r_cl (r_runV (As := [.int x1, .int x2]) (rest := []) C hP hS (va_recv C.hK hP (q0 := 0) (ci := 10) rfl (by rw [g_at oM_10.1, oM_10.2])) (k_X10_seenBy (l := l) O hc) mw_X10_seenBy mi_X10_seenBy mv_X10_seenBy wk_5_201 ⟨Nat.le_of_ble_eq_true rfl, Nat.le_of_ble_eq_true rfl⟩ ⟨rfl, rfl⟩ ⟨Nat.zero_le _, Nat.zero_le _⟩ rfl hl.1 rfl (Nat.le_of_ble_eq_true rfl) dX10_sees_18) hS (fun H locs hP hS => ?_)
      refine lv_goto (tgt := 27) hx hb dX10_sees_21 (by decide) ?_
      exact ret_l C hP hS (Prod.mk.inj (Option.some.inj hf)).1 (Prod.mk.inj (Option.some.inj hf)).2 dX10_sees_27
set_option maxHeartbeats 4000000 in
set_option maxRecDepth 100000 in
theorem k_X10_watched {l : Launch} {a : Nat → Nat} {cy : Nat → ClassId} {D : va_G} {A : Nat → Prop} (O : WO NM a (fun _ => True) A) {x1 : Int32} {r : Int64} {σ : ST} {σ' : ST} (hf : f_X10_watched x1 σ = some (r, σ')) : Met l yX10_watched (Cond.code yX10_watched cX10_watched 2 (some .long) :: WS) (rmk 8 191) (PC [.ref (a 0), .int x1] NM eM a cy D (fun _ => True) σ) (QL NM eM a cy D A r σ') 0 0 A := by
  refine met_go (own := "GuardsLookLeftModel") O (by decide +kernel) rfl (Nat.le_of_ble_eq_true rfl) ?_
  intro p e s m args below meth c ls C hP hS hl
  have hx := C.hx
  have hb := C.hb
  have hl : lv_has ls 2 [(0, .ref (a 0)), (1, .int x1)] := hl
  obtain ⟨H, hH⟩ : ∃ H, H = s.heap := ⟨_, rfl⟩
  rw [← hH] at hP
  have hS : va_S A s.heap H [] := by rw [hH]; exact va_S.rf
  suffices g : W p l e (rmk 8 191) s m args below meth c H [] 0 0 (MQ below (QL NM eM a cy D A r σ') args s 0 0 A) (F0 m 0 ls []) by rw [hH] at g; exact g
  clear hH
  obtain ⟨locs, hlocs⟩ : ∃ z : List Loc, z = [] := ⟨_, rfl⟩
  rw [← hlocs] at hS ⊢
  refine lv_iload_n hx hb dX10_watched_0 rfl (lv_at hl 1 rfl) ?_
  refine r_cz (r_runS (As := [.int x1]) (rest := []) C hP hS (k_X10_isSecond (l := l) O (σ := σ) rfl) mw_X10_isSecond ms_X10_isSecond wk_5_128 ⟨Nat.le_of_ble_eq_true rfl, Nat.le_of_ble_eq_true rfl⟩ ⟨rfl, rfl⟩ ⟨Nat.zero_le _, Nat.zero_le _⟩ rfl hl.1 rfl (Nat.le_of_ble_eq_true rfl) dX10_watched_1) hS (fun H locs hzy1 hP hS => ?_)
  refine jl_topz hf hzy1 (fun y1 hzy1 hf => ?_)
  refine lv_if_ne (tgt := 11) hx hb dX10_watched_4 (by decide) (fun hc => ?_) (fun hc => ?_)
  · have hf := jif_t hc hf
    refine lv_aload_n hx hb dX10_watched_11 rfl (lv_at hl 0 rfl) ?_
    obtain ⟨s4, hc, hf⟩ := jb_e hf
    refine r_cv (r_runV (As := []) (rest := []) C hP hS (va_recv C.hK hP (q0 := 0) (ci := 10) rfl (by rw [g_at oM_10.1, oM_10.2])) (k_X10_watchesAll (l := l) O hc) mw_X10_watchesAll mi_X10_watchesAll mv_X10_watchesAll wk_5_213 ⟨Nat.le_of_ble_eq_true rfl, Nat.le_of_ble_eq_true rfl⟩ ⟨rfl, rfl⟩ ⟨Nat.zero_le _, Nat.zero_le _⟩ rfl hl.1 rfl (Nat.le_of_ble_eq_true rfl) dX10_watched_12) hS (fun H locs hP hS => ?_)
    refine lv_aload_n hx hb dX10_watched_15 rfl (lv_at hl 0 rfl) ?_
    refine lv_iload_n hx hb dX10_watched_16 rfl (lv_at hl 1 rfl) ?_
    refine lv_aload_n hx hb dX10_watched_17 rfl (lv_at hl 0 rfl) ?_
    refine r_ci (r_runV (As := []) (rest := [.int x1, .ref (a 0)]) C hP hS (va_recv C.hK hP (q0 := 0) (ci := 10) rfl (by rw [g_at oM_10.1, oM_10.2])) (k_X10_allGuards (l := l) O (σ := s4) rfl) mw_X10_allGuards mi_X10_allGuards mv_X10_allGuards wk_5_221 ⟨Nat.le_of_ble_eq_true rfl, Nat.le_of_ble_eq_true rfl⟩ ⟨rfl, rfl⟩ ⟨Nat.zero_le _, Nat.zero_le _⟩ rfl hl.1 rfl (Nat.le_of_ble_eq_true rfl) dX10_watched_18) hS (fun H locs hP hS => ?_)
    refine jl_topi hf (fun y5 hf => ?_)
    obtain ⟨y7, hc, hf⟩ := jb_e hf
    refine r_cl (r_runV (As := [.int x1, .int y5]) (rest := []) C hP hS (va_recv C.hK hP (q0 := 0) (ci := 10) rfl (by rw [g_at oM_10.1, oM_10.2])) (k_X10_seenAt (l := l) O (σ := s4) hc) mw_X10_seenAt mi_X10_seenAt mv_X10_seenAt wk_5_225 ⟨Nat.le_of_ble_eq_true rfl, Nat.le_of_ble_eq_true rfl⟩ ⟨rfl, rfl⟩ ⟨Nat.zero_le _, Nat.zero_le _⟩ rfl hl.1 rfl (Nat.le_of_ble_eq_true rfl) dX10_watched_21) hS (fun H locs hP hS => ?_)
    exact ret_l C hP hS (Prod.mk.inj (Option.some.inj hf)).1 (Prod.mk.inj (Option.some.inj hf)).2 dX10_watched_24
  · have hf := jif_n hc hf
    refine lv_ldc2 hx hb C.hown (C.ts _ wk_5_89) dX10_watched_7 ?_
    exact ret_l C hP hS (Prod.mk.inj (Option.some.inj hf)).1 (Prod.mk.inj (Option.some.inj hf)).2 dX10_watched_10
set_option maxHeartbeats 4000000 in
set_option maxRecDepth 100000 in
theorem k_X10_aloneBy {l : Launch} {a : Nat → Nat} {cy : Nat → ClassId} {D : va_G} {A : Nat → Prop} (O : WO NM a (fun _ => True) A) {x1 : Int32} {x2 : Int32} {r : Int32} {σ : ST} (hf : f_X10_aloneBy x1 x2 σ = some r) : Met l yX10_aloneBy (Cond.code yX10_aloneBy cX10_aloneBy 5 (some .int) :: WS) (rmk 1 25) (PC [.ref (a 0), .int x1, .int x2] NM eM a cy D (fun _ => True) σ) (QI NM eM a cy D A r σ) 0 0 A := by
  refine met_go (own := "GuardsLookLeftModel") O (by decide +kernel) rfl (Nat.le_of_ble_eq_true rfl) ?_
  intro p e s m args below meth c ls C hP hS hl
  have hx := C.hx
  have hb := C.hb
  have hl : lv_has ls 5 [(0, .ref (a 0)), (1, .int x1), (2, .int x2)] := hl
  obtain ⟨H, hH⟩ : ∃ H, H = s.heap := ⟨_, rfl⟩
  rw [← hH] at hP
  have hS : va_S A s.heap H [] := by rw [hH]; exact va_S.rf
  suffices g : W p l e (rmk 1 25) s m args below meth c H [] 0 0 (MQ below (QI NM eM a cy D A r σ) args s 0 0 A) (F0 m 0 ls []) by rw [hH] at g; exact g
  clear hH
  obtain ⟨locs, hlocs⟩ : ∃ z : List Loc, z = [] := ⟨_, rfl⟩
  rw [← hlocs] at hS ⊢
  have hL35 : ∀ (k5 : Int32 → Int32 → Int32 → Int32 → ST → Option Int32) (hk5 : (∀ (v1 : Int32) (v2 : Int32) (v3 : Int32) (v4 : Int32) (H : Heap) (locs : List Loc) (ls : Array Slot), k5 v1 v2 v3 v4 σ = some r → va_P D vwCl (wG NM eM a cy σ) H → va_S A s.heap H locs → lv_has ls 5 [(0, .ref (a 0)), (1, .int v1), (2, .int v2), (3, .int v3), (4, .int v4)] → W p l e (rmk 1 25) s m args below meth c H locs 0 0 (MQ below (QI NM eM a cy D A r σ) args s 0 0 A) (F0 m 5 ls []))), (∀ (v1 : Int32) (v2 : Int32) (v4 : Int32) (t0 : Int32) (t1 : Int32) (H : Heap) (locs : List Loc) (ls : Array Slot), f_X10_aloneBy_L35 k5 v1 v2 v4 t0 t1 σ = some r → va_P D vwCl (wG NM eM a cy σ) H → va_S A s.heap H locs → lv_has ls 5 [(0, .ref (a 0)), (1, .int v1), (2, .int v2), (4, .int v4)] → W p l e (rmk 1 25) s m args below meth c H locs 0 0 (MQ below (QI NM eM a cy D A r σ) args s 0 0 A) (F0 m 35 ls [.int t1, .int t0])) := by
    intro k5 hk5 v1 v2 v4 t0 t1 H locs ls hf hP hS hl
    refine lv_ior hx hb dX10_aloneBy_35 ?_
    refine jl_topi hf (fun y1 hf => ?_)
    refine lv_istore_n (lv' := [(3, .int y1), (0, .ref (a 0)), (1, .int v1), (2, .int v2), (4, .int v4)]) hx hb dX10_aloneBy_36 rfl hl (by decide) rfl (fun ls hl => ?_)
    obtain ⟨y2, ey2, hf⟩ := jlet_e hf
    refine lv_iinc (v := y2) (lv' := [(4, .int y2), (3, .int y1), (0, .ref (a 0)), (1, .int v1), (2, .int v2)]) hx hb dX10_aloneBy_37 hl (k := 4) rfl ey2 (by decide) rfl (fun ls hl => ?_)
    refine lv_goto (tgt := 5) hx hb dX10_aloneBy_40 (by decide) ?_
    exact hk5 v1 v2 y1 y2 H locs ls hf hP hS (lv_sub hl [2, 3, 4, 1, 0] rfl)
  have hL5 : ∀ (n : Nat), (∀ (v1 : Int32) (v2 : Int32) (v3 : Int32) (v4 : Int32) (H : Heap) (locs : List Loc) (ls : Array Slot), f_X10_aloneBy_L5 n v1 v2 v3 v4 σ = some r → va_P D vwCl (wG NM eM a cy σ) H → va_S A s.heap H locs → lv_has ls 5 [(0, .ref (a 0)), (1, .int v1), (2, .int v2), (3, .int v3), (4, .int v4)] → W p l e (rmk 1 25) s m args below meth c H locs 0 0 (MQ below (QI NM eM a cy D A r σ) args s 0 0 A) (F0 m 5 ls [])) := by
    intro n
    induction n with
    | zero => intro v1 v2 v3 v4 H locs ls hf hP hS hl; exact no_o hf
    | succ n ih =>
      intro v1 v2 v3 v4 H locs ls hf hP hS hl
      have hf := (ef_X10_aloneBy_L5 _ _ _ _ _).symm.trans hf
      refine lv_iload hx hb dX10_aloneBy_5 (lv_at hl 4 rfl) ?_
      refine lv_bipush (v := (24 : Int32)) hx hb dX10_aloneBy_7 (by decide) ?_
      refine lv_icmp_ge (tgt := 43) hx hb dX10_aloneBy_9 (by decide) (fun hc => ?_) (fun hc => ?_)
      · have hf := jif_t hc hf
        refine lv_iload_n hx hb dX10_aloneBy_43 rfl (lv_at hl 3 rfl) ?_
        exact ret_i C hP hS (Option.some.inj hf) rfl dX10_aloneBy_44
      · have hf := jif_f hc hf
        refine lv_iload_n hx hb dX10_aloneBy_12 rfl (lv_at hl 3 rfl) ?_
        refine lv_aload_n hx hb dX10_aloneBy_13 rfl (lv_at hl 0 rfl) ?_
        refine lv_iload hx hb dX10_aloneBy_14 (lv_at hl 4 rfl) ?_
        refine lv_iload_n hx hb dX10_aloneBy_16 rfl (lv_at hl 2 rfl) ?_
        obtain ⟨y1, hc, hf⟩ := jb_e hf
        refine r_cl (r_runV (As := [.int v4, .int v2]) (rest := [.int v3]) C hP hS (va_recv C.hK hP (q0 := 0) (ci := 10) rfl (by rw [g_at oM_10.1, oM_10.2])) (k_X10_seenAt (l := l) O (σ := σ) hc) mw_X10_seenAt mi_X10_seenAt mv_X10_seenAt wk_5_225 ⟨Nat.le_of_ble_eq_true rfl, Nat.le_of_ble_eq_true rfl⟩ ⟨rfl, rfl⟩ ⟨Nat.zero_le _, Nat.zero_le _⟩ rfl hl.1 rfl (Nat.le_of_ble_eq_true rfl) dX10_aloneBy_17) hS (fun H locs hP hS => ?_)
        refine lv_iload_n hx hb dX10_aloneBy_20 rfl (lv_at hl 1 rfl) ?_
        refine r_cz (r_runS (As := [.long y1, .int v1]) (rest := [.int v3]) C hP hS (k_X10_has (l := l) O (σ := σ) rfl) mw_X10_has ms_X10_has wk_5_101 ⟨Nat.le_of_ble_eq_true rfl, Nat.le_of_ble_eq_true rfl⟩ ⟨rfl, rfl⟩ ⟨Nat.zero_le _, Nat.zero_le _⟩ rfl hl.1 rfl (Nat.le_of_ble_eq_true rfl) dX10_aloneBy_21) hS (fun H locs hzy3 hP hS => ?_)
        refine jl_topz hf hzy3 (fun y3 hzy3 hf => ?_)
        refine lv_if_eq (tgt := 31) hx hb dX10_aloneBy_24 (by decide) (fun hc => ?_) (fun hc => ?_)
        · have hf := jif_t hc hf
          refine lv_iconst (v := (1 : Int32)) hx hb dX10_aloneBy_31 (by decide) ?_
          refine lv_iload hx hb dX10_aloneBy_32 (lv_at hl 4 rfl) ?_
          refine r_ishl C dX10_aloneBy_34 ?_
          exact hL35 (f_X10_aloneBy_L5 n) ih v1 v2 v4 v3 (jshl (1 : Int32) v4) H locs ls hf hP hS (lv_sub hl [0, 1, 2, 4] rfl)
        · have hf := jif_f hc hf
          refine lv_iconst (v := (0 : Int32)) hx hb dX10_aloneBy_27 (by decide) ?_
          refine lv_goto (tgt := 35) hx hb dX10_aloneBy_28 (by decide) ?_
          exact hL35 (f_X10_aloneBy_L5 n) ih v1 v2 v4 v3 (0 : Int32) H locs ls hf hP hS (lv_sub hl [0, 1, 2, 4] rfl)
  refine lv_iconst (v := (0 : Int32)) hx hb dX10_aloneBy_0 (by decide) ?_
  refine lv_istore_n (lv' := [(3, .int (0 : Int32)), (0, .ref (a 0)), (1, .int x1), (2, .int x2)]) hx hb dX10_aloneBy_1 rfl hl (by decide) rfl (fun ls hl => ?_)
  refine lv_iconst (v := (0 : Int32)) hx hb dX10_aloneBy_2 (by decide) ?_
  refine lv_istore (lv' := [(4, .int (0 : Int32)), (3, .int (0 : Int32)), (0, .ref (a 0)), (1, .int x1), (2, .int x2)]) hx hb dX10_aloneBy_3 hl (by decide) rfl (fun ls hl => ?_)
  exact hL5 FU x1 x2 (0 : Int32) (0 : Int32) H locs ls hf hP hS (lv_sub hl [2, 3, 4, 1, 0] rfl)
set_option maxHeartbeats 4000000 in
set_option maxRecDepth 100000 in
theorem k_X10_gapOf {l : Launch} {a : Nat → Nat} {cy : Nat → ClassId} {D : va_G} {A : Nat → Prop} (O : WO NM a (fun _ => True) A) {x1 : Int32} {r : Int32} {σ : ST} (hf : f_X10_gapOf x1 = some r) : Met l yX10_gapOf (Cond.code yX10_gapOf cX10_gapOf 4 (some .int) :: WS) (rmk 0 0) (PC [.int x1] NM eM a cy D (fun _ => True) σ) (QI NM eM a cy D A r σ) 0 0 A := by
  refine met_go (own := "GuardsLookLeftModel") O (by decide +kernel) rfl (Nat.le_of_ble_eq_true rfl) ?_
  intro p e s m args below meth c ls C hP hS hl
  have hx := C.hx
  have hb := C.hb
  have hl : lv_has ls 4 [(0, .int x1)] := hl
  obtain ⟨H, hH⟩ : ∃ H, H = s.heap := ⟨_, rfl⟩
  rw [← hH] at hP
  have hS : va_S A s.heap H [] := by rw [hH]; exact va_S.rf
  suffices g : W p l e (rmk 0 0) s m args below meth c H [] 0 0 (MQ below (QI NM eM a cy D A r σ) args s 0 0 A) (F0 m 0 ls []) by rw [hH] at g; exact g
  clear hH
  obtain ⟨locs, hlocs⟩ : ∃ z : List Loc, z = [] := ⟨_, rfl⟩
  rw [← hlocs] at hS ⊢
  have hL42 : ∀ (k6 : Int32 → Int32 → Int32 → Int32 → Option Int32) (hk6 : (∀ (v0 : Int32) (v1 : Int32) (v2 : Int32) (v3 : Int32) (H : Heap) (locs : List Loc) (ls : Array Slot), k6 v0 v1 v2 v3 = some r → va_P D vwCl (wG NM eM a cy σ) H → va_S A s.heap H locs → lv_has ls 4 [(0, .int v0), (1, .int v1), (2, .int v2), (3, .int v3)] → W p l e (rmk 0 0) s m args below meth c H locs 0 0 (MQ below (QI NM eM a cy D A r σ) args s 0 0 A) (F0 m 6 ls []))), (∀ (v0 : Int32) (v2 : Int32) (v3 : Int32) (t0 : Int32) (H : Heap) (locs : List Loc) (ls : Array Slot), f_X10_gapOf_L42 k6 v0 v2 v3 t0 = some r → va_P D vwCl (wG NM eM a cy σ) H → va_S A s.heap H locs → lv_has ls 4 [(0, .int v0), (2, .int v2), (3, .int v3)] → W p l e (rmk 0 0) s m args below meth c H locs 0 0 (MQ below (QI NM eM a cy D A r σ) args s 0 0 A) (F0 m 42 ls [.int t0])) := by
    intro k6 hk6 v0 v2 v3 t0 H locs ls hf hP hS hl
    refine lv_istore_n (lv' := [(1, .int t0), (0, .int v0), (2, .int v2), (3, .int v3)]) hx hb dX10_gapOf_42 rfl hl (by decide) rfl (fun ls hl => ?_)
    obtain ⟨y1, ey1, hf⟩ := jlet_e hf
    refine lv_iinc (v := y1) (lv' := [(3, .int y1), (1, .int t0), (0, .int v0), (2, .int v2)]) hx hb dX10_gapOf_43 hl (k := 3) rfl ey1 (by decide) rfl (fun ls hl => ?_)
    refine lv_goto (tgt := 6) hx hb dX10_gapOf_46 (by decide) ?_
    exact hk6 v0 t0 v2 y1 H locs ls hf hP hS (lv_sub hl [2, 1, 3, 0] rfl)
  have hL31 : ∀ (k6 : Int32 → Int32 → Int32 → Int32 → Option Int32) (hk6 : (∀ (v0 : Int32) (v1 : Int32) (v2 : Int32) (v3 : Int32) (H : Heap) (locs : List Loc) (ls : Array Slot), k6 v0 v1 v2 v3 = some r → va_P D vwCl (wG NM eM a cy σ) H → va_S A s.heap H locs → lv_has ls 4 [(0, .int v0), (1, .int v1), (2, .int v2), (3, .int v3)] → W p l e (rmk 0 0) s m args below meth c H locs 0 0 (MQ below (QI NM eM a cy D A r σ) args s 0 0 A) (F0 m 6 ls []))), (∀ (v0 : Int32) (v1 : Int32) (v3 : Int32) (t0 : Int32) (H : Heap) (locs : List Loc) (ls : Array Slot), f_X10_gapOf_L31 k6 v0 v1 v3 t0 = some r → va_P D vwCl (wG NM eM a cy σ) H → va_S A s.heap H locs → lv_has ls 4 [(0, .int v0), (1, .int v1), (3, .int v3)] → W p l e (rmk 0 0) s m args below meth c H locs 0 0 (MQ below (QI NM eM a cy D A r σ) args s 0 0 A) (F0 m 31 ls [.int t0])) := by
    intro k6 hk6 v0 v1 v3 t0 H locs ls hf hP hS hl
    refine lv_istore_n (lv' := [(2, .int t0), (0, .int v0), (1, .int v1), (3, .int v3)]) hx hb dX10_gapOf_31 rfl hl (by decide) rfl (fun ls hl => ?_)
    refine lv_iload_n hx hb dX10_gapOf_32 rfl (lv_at hl 0 rfl) ?_
    refine lv_iload_n hx hb dX10_gapOf_33 rfl (lv_at hl 2 rfl) ?_
    refine lv_icmp_le (tgt := 41) hx hb dX10_gapOf_34 (by decide) (fun hc => ?_) (fun hc => ?_)
    · have hf := jif_t hc hf
      refine lv_iload_n hx hb dX10_gapOf_41 rfl (lv_at hl 2 rfl) ?_
      exact hL42 k6 hk6 v0 t0 v3 v1 H locs ls hf hP hS (lv_sub hl [1, 0, 3] rfl)
    · have hf := jif_f hc hf
      refine lv_iload_n hx hb dX10_gapOf_37 rfl (lv_at hl 0 rfl) ?_
      refine lv_goto (tgt := 42) hx hb dX10_gapOf_38 (by decide) ?_
      exact hL42 k6 hk6 v0 t0 v3 t0 H locs ls hf hP hS (lv_sub hl [1, 0, 3] rfl)
  have hL6 : ∀ (n : Nat), (∀ (v0 : Int32) (v1 : Int32) (v2 : Int32) (v3 : Int32) (H : Heap) (locs : List Loc) (ls : Array Slot), f_X10_gapOf_L6 n v0 v1 v2 v3 = some r → va_P D vwCl (wG NM eM a cy σ) H → va_S A s.heap H locs → lv_has ls 4 [(0, .int v0), (1, .int v1), (2, .int v2), (3, .int v3)] → W p l e (rmk 0 0) s m args below meth c H locs 0 0 (MQ below (QI NM eM a cy D A r σ) args s 0 0 A) (F0 m 6 ls [])) := by
    intro n
    induction n with
    | zero => intro v0 v1 v2 v3 H locs ls hf hP hS hl; exact no_o hf
    | succ n ih =>
      intro v0 v1 v2 v3 H locs ls hf hP hS hl
      have hf := (ef_X10_gapOf_L6 _ _ _ _).symm.trans hf
      refine lv_iload_n hx hb dX10_gapOf_6 rfl (lv_at hl 3 rfl) ?_
      refine lv_bipush (v := (48 : Int32)) hx hb dX10_gapOf_7 (by decide) ?_
      refine lv_icmp_ge (tgt := 49) hx hb dX10_gapOf_9 (by decide) (fun hc => ?_) (fun hc => ?_)
      · have hf := jif_t hc hf
        refine lv_iload_n hx hb dX10_gapOf_49 rfl (lv_at hl 1 rfl) ?_
        refine lv_bipush (v := (24 : Int32)) hx hb dX10_gapOf_50 (by decide) ?_
        refine lv_icmp_le (tgt := 60) hx hb dX10_gapOf_52 (by decide) (fun hc => ?_) (fun hc => ?_)
        · have hf := jif_t hc hf
          refine lv_iload_n hx hb dX10_gapOf_60 rfl (lv_at hl 1 rfl) ?_
          exact ret_i C hP hS (Option.some.inj hf) rfl dX10_gapOf_61
        · have hf := jif_f hc hf
          refine lv_bipush (v := (24 : Int32)) hx hb dX10_gapOf_55 (by decide) ?_
          refine lv_goto (tgt := 61) hx hb dX10_gapOf_57 (by decide) ?_
          exact ret_i C hP hS (Option.some.inj hf) rfl dX10_gapOf_61
      · have hf := jif_f hc hf
        refine lv_iload_n hx hb dX10_gapOf_12 rfl (lv_at hl 0 rfl) ?_
        refine lv_iload_n hx hb dX10_gapOf_13 rfl (lv_at hl 3 rfl) ?_
        refine lv_bipush (v := (24 : Int32)) hx hb dX10_gapOf_14 (by decide) ?_
        refine r_irem C dX10_gapOf_16 (by decide) ?_
        refine r_ishr C dX10_gapOf_17 ?_
        refine lv_iconst (v := (1 : Int32)) hx hb dX10_gapOf_18 (by decide) ?_
        refine lv_iand hx hb dX10_gapOf_19 ?_
        refine lv_iconst (v := (1 : Int32)) hx hb dX10_gapOf_20 (by decide) ?_
        refine lv_icmp_ne (tgt := 30) hx hb dX10_gapOf_21 (by decide) (fun hc => ?_) (fun hc => ?_)
        · have hf := jif_t hc hf
          refine lv_iconst (v := (0 : Int32)) hx hb dX10_gapOf_30 (by decide) ?_
          exact hL31 (f_X10_gapOf_L6 n) ih v0 v1 v3 (0 : Int32) H locs ls hf hP hS (lv_sub hl [0, 1, 3] rfl)
        · have hf := jif_n hc hf
          refine lv_iload_n hx hb dX10_gapOf_24 rfl (lv_at hl 2 rfl) ?_
          refine lv_iconst (v := (1 : Int32)) hx hb dX10_gapOf_25 (by decide) ?_
          refine lv_iadd hx hb dX10_gapOf_26 ?_
          refine lv_goto (tgt := 31) hx hb dX10_gapOf_27 (by decide) ?_
          exact hL31 (f_X10_gapOf_L6 n) ih v0 v1 v3 (v2 + (1 : Int32)) H locs ls hf hP hS (lv_sub hl [0, 1, 3] rfl)
  refine lv_iconst (v := (0 : Int32)) hx hb dX10_gapOf_0 (by decide) ?_
  refine lv_istore_n (lv' := [(1, .int (0 : Int32)), (0, .int x1)]) hx hb dX10_gapOf_1 rfl hl (by decide) rfl (fun ls hl => ?_)
  refine lv_iconst (v := (0 : Int32)) hx hb dX10_gapOf_2 (by decide) ?_
  refine lv_istore_n (lv' := [(2, .int (0 : Int32)), (1, .int (0 : Int32)), (0, .int x1)]) hx hb dX10_gapOf_3 rfl hl (by decide) rfl (fun ls hl => ?_)
  refine lv_iconst (v := (0 : Int32)) hx hb dX10_gapOf_4 (by decide) ?_
  refine lv_istore_n (lv' := [(3, .int (0 : Int32)), (2, .int (0 : Int32)), (1, .int (0 : Int32)), (0, .int x1)]) hx hb dX10_gapOf_5 rfl hl (by decide) rfl (fun ls hl => ?_)
  exact hL6 FU x1 (0 : Int32) (0 : Int32) (0 : Int32) H locs ls hf hP hS (lv_sub hl [3, 2, 1, 0] rfl)
set_option maxHeartbeats 4000000 in
set_option maxRecDepth 100000 in
theorem k_X10_alone {l : Launch} {a : Nat → Nat} {cy : Nat → ClassId} {D : va_G} {A : Nat → Prop} (O : WO NM a (fun _ => True) A) {x1 : Int32} {r : Int32} {σ : ST} {σ' : ST} (hf : f_X10_alone x1 σ = some (r, σ')) : Met l yX10_alone (Cond.code yX10_alone cX10_alone 2 (some .int) :: WS) (rmk 8 191) (PC [.ref (a 0), .int x1] NM eM a cy D (fun _ => True) σ) (QI NM eM a cy D A r σ') 0 0 A := by
  refine met_go (own := "GuardsLookLeftModel") O (by decide +kernel) rfl (Nat.le_of_ble_eq_true rfl) ?_
  intro p e s m args below meth c ls C hP hS hl
  have hx := C.hx
  have hb := C.hb
  have hl : lv_has ls 2 [(0, .ref (a 0)), (1, .int x1)] := hl
  obtain ⟨H, hH⟩ : ∃ H, H = s.heap := ⟨_, rfl⟩
  rw [← hH] at hP
  have hS : va_S A s.heap H [] := by rw [hH]; exact va_S.rf
  suffices g : W p l e (rmk 8 191) s m args below meth c H [] 0 0 (MQ below (QI NM eM a cy D A r σ') args s 0 0 A) (F0 m 0 ls []) by rw [hH] at g; exact g
  clear hH
  obtain ⟨locs, hlocs⟩ : ∃ z : List Loc, z = [] := ⟨_, rfl⟩
  rw [← hlocs] at hS ⊢
  refine lv_iload_n hx hb dX10_alone_0 rfl (lv_at hl 1 rfl) ?_
  refine r_cz (r_runS (As := [.int x1]) (rest := []) C hP hS (k_X10_isCell (l := l) O (σ := σ) rfl) mw_X10_isCell ms_X10_isCell wk_5_98 ⟨Nat.le_of_ble_eq_true rfl, Nat.le_of_ble_eq_true rfl⟩ ⟨rfl, rfl⟩ ⟨Nat.zero_le _, Nat.zero_le _⟩ rfl hl.1 rfl (Nat.le_of_ble_eq_true rfl) dX10_alone_1) hS (fun H locs hzy1 hP hS => ?_)
  refine jl_topz hf hzy1 (fun y1 hzy1 hf => ?_)
  refine lv_if_ne (tgt := 10) hx hb dX10_alone_4 (by decide) (fun hc => ?_) (fun hc => ?_)
  · have hf := jif_t hc hf
    refine lv_aload_n hx hb dX10_alone_10 rfl (lv_at hl 0 rfl) ?_
    obtain ⟨s4, hc, hf⟩ := jb_e hf
    refine r_cv (r_runV (As := []) (rest := []) C hP hS (va_recv C.hK hP (q0 := 0) (ci := 10) rfl (by rw [g_at oM_10.1, oM_10.2])) (k_X10_watchesAll (l := l) O hc) mw_X10_watchesAll mi_X10_watchesAll mv_X10_watchesAll wk_5_213 ⟨Nat.le_of_ble_eq_true rfl, Nat.le_of_ble_eq_true rfl⟩ ⟨rfl, rfl⟩ ⟨Nat.zero_le _, Nat.zero_le _⟩ rfl hl.1 rfl (Nat.le_of_ble_eq_true rfl) dX10_alone_11) hS (fun H locs hP hS => ?_)
    refine lv_aload_n hx hb dX10_alone_14 rfl (lv_at hl 0 rfl) ?_
    refine lv_iload_n hx hb dX10_alone_15 rfl (lv_at hl 1 rfl) ?_
    refine lv_aload_n hx hb dX10_alone_16 rfl (lv_at hl 0 rfl) ?_
    refine r_ci (r_runV (As := []) (rest := [.int x1, .ref (a 0)]) C hP hS (va_recv C.hK hP (q0 := 0) (ci := 10) rfl (by rw [g_at oM_10.1, oM_10.2])) (k_X10_allGuards (l := l) O (σ := s4) rfl) mw_X10_allGuards mi_X10_allGuards mv_X10_allGuards wk_5_221 ⟨Nat.le_of_ble_eq_true rfl, Nat.le_of_ble_eq_true rfl⟩ ⟨rfl, rfl⟩ ⟨Nat.zero_le _, Nat.zero_le _⟩ rfl hl.1 rfl (Nat.le_of_ble_eq_true rfl) dX10_alone_17) hS (fun H locs hP hS => ?_)
    refine jl_topi hf (fun y5 hf => ?_)
    obtain ⟨y7, hc, hf⟩ := jb_e hf
    refine r_ci (r_runV (As := [.int x1, .int y5]) (rest := []) C hP hS (va_recv C.hK hP (q0 := 0) (ci := 10) rfl (by rw [g_at oM_10.1, oM_10.2])) (k_X10_aloneBy (l := l) O (σ := s4) hc) mw_X10_aloneBy mi_X10_aloneBy mv_X10_aloneBy wk_5_233 ⟨Nat.le_of_ble_eq_true rfl, Nat.le_of_ble_eq_true rfl⟩ ⟨rfl, rfl⟩ ⟨Nat.zero_le _, Nat.zero_le _⟩ rfl hl.1 rfl (Nat.le_of_ble_eq_true rfl) dX10_alone_20) hS (fun H locs hP hS => ?_)
    exact ret_i C hP hS (Prod.mk.inj (Option.some.inj hf)).1 (Prod.mk.inj (Option.some.inj hf)).2 dX10_alone_23
  · have hf := jif_n hc hf
    refine lv_bipush (v := (-5 : Int32)) hx hb dX10_alone_7 (by decide) ?_
    exact ret_i C hP hS (Prod.mk.inj (Option.some.inj hf)).1 (Prod.mk.inj (Option.some.inj hf)).2 dX10_alone_9
set_option maxHeartbeats 4000000 in
set_option maxRecDepth 100000 in
theorem k_X10_unseen {l : Launch} {a : Nat → Nat} {cy : Nat → ClassId} {D : va_G} {A : Nat → Prop} (O : WO NM a (fun _ => True) A) {x1 : Int32} {r : Int32} {σ : ST} {σ' : ST} (hf : f_X10_unseen x1 σ = some (r, σ')) : Met l yX10_unseen (Cond.code yX10_unseen cX10_unseen 2 (some .int) :: WS) (rmk 9 212) (PC [.ref (a 0), .int x1] NM eM a cy D (fun _ => True) σ) (QI NM eM a cy D A r σ') 0 0 A := by
  refine met_go (own := "GuardsLookLeftModel") O (by decide +kernel) rfl (Nat.le_of_ble_eq_true rfl) ?_
  intro p e s m args below meth c ls C hP hS hl
  have hx := C.hx
  have hb := C.hb
  have hl : lv_has ls 2 [(0, .ref (a 0)), (1, .int x1)] := hl
  obtain ⟨H, hH⟩ : ∃ H, H = s.heap := ⟨_, rfl⟩
  rw [← hH] at hP
  have hS : va_S A s.heap H [] := by rw [hH]; exact va_S.rf
  suffices g : W p l e (rmk 9 212) s m args below meth c H [] 0 0 (MQ below (QI NM eM a cy D A r σ') args s 0 0 A) (F0 m 0 ls []) by rw [hH] at g; exact g
  clear hH
  obtain ⟨locs, hlocs⟩ : ∃ z : List Loc, z = [] := ⟨_, rfl⟩
  rw [← hlocs] at hS ⊢
  refine lv_iload_n hx hb dX10_unseen_0 rfl (lv_at hl 1 rfl) ?_
  refine r_cz (r_runS (As := [.int x1]) (rest := []) C hP hS (k_X10_isCell (l := l) O (σ := σ) rfl) mw_X10_isCell ms_X10_isCell wk_5_98 ⟨Nat.le_of_ble_eq_true rfl, Nat.le_of_ble_eq_true rfl⟩ ⟨rfl, rfl⟩ ⟨Nat.zero_le _, Nat.zero_le _⟩ rfl hl.1 rfl (Nat.le_of_ble_eq_true rfl) dX10_unseen_1) hS (fun H locs hzy1 hP hS => ?_)
  refine jl_topz hf hzy1 (fun y1 hzy1 hf => ?_)
  refine lv_if_eq (tgt := 18) hx hb dX10_unseen_4 (by decide) (fun hc => ?_) (fun hc => ?_)
  · have hf := jif_t hc hf
    refine lv_bipush (v := (-5 : Int32)) hx hb dX10_unseen_18 (by decide) ?_
    exact ret_i C hP hS (Prod.mk.inj (Option.some.inj hf)).1 (Prod.mk.inj (Option.some.inj hf)).2 dX10_unseen_20
  · have hf := jif_f hc hf
    refine lv_aload_n hx hb dX10_unseen_7 rfl (lv_at hl 0 rfl) ?_
    refine lv_iload_n hx hb dX10_unseen_8 rfl (lv_at hl 1 rfl) ?_
    obtain ⟨y3, s4, hc, hf⟩ := jbp_e hf
    refine r_ci (r_runV (As := [.int x1]) (rest := []) C hP hS (va_recv C.hK hP (q0 := 0) (ci := 10) rfl (by rw [g_at oM_10.1, oM_10.2])) (k_X10_alone (l := l) O hc) mw_X10_alone mi_X10_alone mv_X10_alone wk_6_1 ⟨Nat.le_of_ble_eq_true rfl, Nat.le_of_ble_eq_true rfl⟩ ⟨rfl, rfl⟩ ⟨Nat.zero_le _, Nat.zero_le _⟩ rfl hl.1 rfl (Nat.le_of_ble_eq_true rfl) dX10_unseen_9) hS (fun H locs hP hS => ?_)
    obtain ⟨y5, hc, hf⟩ := jb_e hf
    refine r_ci (r_runS (As := [.int y3]) (rest := []) C hP hS (k_X10_gapOf (l := l) O (σ := s4) hc) mw_X10_gapOf ms_X10_gapOf wk_6_2 ⟨Nat.le_of_ble_eq_true rfl, Nat.le_of_ble_eq_true rfl⟩ ⟨rfl, rfl⟩ ⟨Nat.zero_le _, Nat.zero_le _⟩ rfl hl.1 rfl (Nat.le_of_ble_eq_true rfl) dX10_unseen_12) hS (fun H locs hP hS => ?_)
    refine lv_goto (tgt := 20) hx hb dX10_unseen_15 (by decide) ?_
    exact ret_i C hP hS (Prod.mk.inj (Option.some.inj hf)).1 (Prod.mk.inj (Option.some.inj hf)).2 dX10_unseen_20
set_option maxHeartbeats 4000000 in
set_option maxRecDepth 100000 in
theorem k_X10_findsGaps {l : Launch} {a : Nat → Nat} {cy : Nat → ClassId} {D : va_G} {A : Nat → Prop} (O : WO NM a (fun _ => True) A) {σ : ST} {σ' : ST} (hf : f_X10_findsGaps σ = some σ') : Met l yX10_findsGaps (Cond.code yX10_findsGaps cX10_findsGaps 4 none :: WS) (rmk 2 49) (PC [.ref (a 0)] NM eM a cy D (fun _ => True) σ) (QV NM eM a cy D A σ') 0 0 A := by
  refine met_go (own := "GuardsLookLeftModel") O (by decide +kernel) rfl (Nat.le_of_ble_eq_true rfl) ?_
  intro p e s m args below meth c ls C hP hS hl
  have hx := C.hx
  have hb := C.hb
  have hl : lv_has ls 4 [(0, .ref (a 0))] := hl
  obtain ⟨H, hH⟩ : ∃ H, H = s.heap := ⟨_, rfl⟩
  rw [← hH] at hP
  have hS : va_S A s.heap H [] := by rw [hH]; exact va_S.rf
  suffices g : W p l e (rmk 2 49) s m args below meth c H [] 0 0 (MQ below (QV NM eM a cy D A σ') args s 0 0 A) (F0 m 0 ls []) by rw [hH] at g; exact g
  clear hH
  obtain ⟨locs, hlocs⟩ : ∃ z : List Loc, z = [] := ⟨_, rfl⟩
  rw [← hlocs] at hS ⊢
  have hL123 : ∀ (k17 : Int32 → ST → Option ST) (hk17 : (∀ (v1 : Int32) (s0 : ST) (H : Heap) (locs : List Loc) (ls : Array Slot), k17 v1 s0 = some σ' → va_P D vwCl (wG NM eM a cy s0) H → va_S A s.heap H locs → lv_has ls 4 [(0, .ref (a 0)), (1, .int v1)] → W p l e (rmk 2 49) s m args below meth c H locs 0 0 (MQ below (QV NM eM a cy D A σ') args s 0 0 A) (F0 m 17 ls []))), (∀ (v1 : Int32) (s0 : ST) (H : Heap) (locs : List Loc) (ls : Array Slot), f_X10_findsGaps_L123 k17 v1 s0 = some σ' → va_P D vwCl (wG NM eM a cy s0) H → va_S A s.heap H locs → lv_has ls 4 [(0, .ref (a 0)), (1, .int v1)] → W p l e (rmk 2 49) s m args below meth c H locs 0 0 (MQ below (QV NM eM a cy D A σ') args s 0 0 A) (F0 m 123 ls [])) := by
    intro k17 hk17 v1 s0 H locs ls hf hP hS hl
    obtain ⟨y1, ey1, hf⟩ := jlet_e hf
    refine lv_iinc (v := y1) (lv' := [(1, .int y1), (0, .ref (a 0))]) hx hb dX10_findsGaps_123 hl (k := 1) rfl ey1 (by decide) rfl (fun ls hl => ?_)
    refine lv_goto (tgt := 17) hx hb dX10_findsGaps_126 (by decide) ?_
    exact hk17 y1 s0 H locs ls hf hP hS (lv_sub hl [1, 0] rfl)
  have hL119 : ∀ (k17 : Int32 → ST → Option ST) (hk17 : (∀ (v1 : Int32) (s0 : ST) (H : Heap) (locs : List Loc) (ls : Array Slot), k17 v1 s0 = some σ' → va_P D vwCl (wG NM eM a cy s0) H → va_S A s.heap H locs → lv_has ls 4 [(0, .ref (a 0)), (1, .int v1)] → W p l e (rmk 2 49) s m args below meth c H locs 0 0 (MQ below (QV NM eM a cy D A σ') args s 0 0 A) (F0 m 17 ls []))), (∀ (v1 : Int32) (t1 : Int32) (t2 : Int32) (s0 : ST) (H : Heap) (locs : List Loc) (ls : Array Slot), f_X10_findsGaps_L119 k17 v1 t1 t2 s0 = some σ' → va_P D vwCl (wG NM eM a cy s0) H → va_S A s.heap H locs → lv_has ls 4 [(0, .ref (a 0)), (1, .int v1)] → W p l e (rmk 2 49) s m args below meth c H locs 0 0 (MQ below (QV NM eM a cy D A σ') args s 0 0 A) (F0 m 119 ls [.int t2, .int t1, .ref (a 0)])) := by
    intro k17 hk17 v1 t1 t2 s0 H locs ls hf hP hS hl
    refine lv_iadd hx hb dX10_findsGaps_119 ?_
    refine pf_X10_38 C hP hS wk_4_235 dX10_findsGaps_120 hf (fun H locs s1 hf hP hS => ?_)
    exact hL123 k17 hk17 v1 s1 H locs ls hf hP hS (lv_sub hl [0, 1] rfl)
  have hL100 : ∀ (k17 : Int32 → ST → Option ST) (hk17 : (∀ (v1 : Int32) (s0 : ST) (H : Heap) (locs : List Loc) (ls : Array Slot), k17 v1 s0 = some σ' → va_P D vwCl (wG NM eM a cy s0) H → va_S A s.heap H locs → lv_has ls 4 [(0, .ref (a 0)), (1, .int v1)] → W p l e (rmk 2 49) s m args below meth c H locs 0 0 (MQ below (QV NM eM a cy D A σ') args s 0 0 A) (F0 m 17 ls []))), (∀ (v1 : Int32) (v2 : Int32) (t1 : Int32) (s0 : ST) (H : Heap) (locs : List Loc) (ls : Array Slot), f_X10_findsGaps_L100 k17 v1 v2 t1 s0 = some σ' → va_P D vwCl (wG NM eM a cy s0) H → va_S A s.heap H locs → lv_has ls 4 [(0, .ref (a 0)), (1, .int v1), (2, .int v2)] → W p l e (rmk 2 49) s m args below meth c H locs 0 0 (MQ below (QV NM eM a cy D A σ') args s 0 0 A) (F0 m 100 ls [.int t1, .ref (a 0)])) := by
    intro k17 hk17 v1 v2 t1 s0 H locs ls hf hP hS hl
    refine pf_X10_37 C hP hS wk_4_234 dX10_findsGaps_100 hf (fun H locs s1 hf hP hS => ?_)
    refine lv_aload_n hx hb dX10_findsGaps_103 rfl (lv_at hl 0 rfl) ?_
    refine lv_dup hx hb dX10_findsGaps_104 rfl ?_
    refine gf_X10_38 C hP wk_4_235 dX10_findsGaps_105 ?_
    refine lv_iload_n hx hb dX10_findsGaps_108 rfl (lv_at hl 2 rfl) ?_
    refine lv_bipush (v := (24 : Int32)) hx hb dX10_findsGaps_109 (by decide) ?_
    refine lv_icmp_ne (tgt := 118) hx hb dX10_findsGaps_111 (by decide) (fun hc => ?_) (fun hc => ?_)
    · have hf := jif_t hc hf
      refine lv_iconst (v := (0 : Int32)) hx hb dX10_findsGaps_118 (by decide) ?_
      exact hL119 k17 hk17 v1 (gA s1 0 38) (0 : Int32) s1 H locs ls hf hP hS (lv_sub hl [0, 1] rfl)
    · have hf := jif_n hc hf
      refine lv_iconst (v := (1 : Int32)) hx hb dX10_findsGaps_114 (by decide) ?_
      refine lv_goto (tgt := 119) hx hb dX10_findsGaps_115 (by decide) ?_
      exact hL119 k17 hk17 v1 (gA s1 0 38) (1 : Int32) s1 H locs ls hf hP hS (lv_sub hl [0, 1] rfl)
  have hL84 : ∀ (k17 : Int32 → ST → Option ST) (hk17 : (∀ (v1 : Int32) (s0 : ST) (H : Heap) (locs : List Loc) (ls : Array Slot), k17 v1 s0 = some σ' → va_P D vwCl (wG NM eM a cy s0) H → va_S A s.heap H locs → lv_has ls 4 [(0, .ref (a 0)), (1, .int v1)] → W p l e (rmk 2 49) s m args below meth c H locs 0 0 (MQ below (QV NM eM a cy D A σ') args s 0 0 A) (F0 m 17 ls []))), (∀ (v1 : Int32) (v2 : Int32) (v3 : Int32) (t1 : Int32) (s0 : ST) (H : Heap) (locs : List Loc) (ls : Array Slot), f_X10_findsGaps_L84 k17 v1 v2 v3 t1 s0 = some σ' → va_P D vwCl (wG NM eM a cy s0) H → va_S A s.heap H locs → lv_has ls 4 [(0, .ref (a 0)), (1, .int v1), (2, .int v2), (3, .int v3)] → W p l e (rmk 2 49) s m args below meth c H locs 0 0 (MQ below (QV NM eM a cy D A σ') args s 0 0 A) (F0 m 84 ls [.int t1, .ref (a 0)])) := by
    intro k17 hk17 v1 v2 v3 t1 s0 H locs ls hf hP hS hl
    refine pf_X10_36 C hP hS wk_4_233 dX10_findsGaps_84 hf (fun H locs s1 hf hP hS => ?_)
    refine lv_aload_n hx hb dX10_findsGaps_87 rfl (lv_at hl 0 rfl) ?_
    refine lv_iload_n hx hb dX10_findsGaps_88 rfl (lv_at hl 3 rfl) ?_
    refine lv_if_eq (tgt := 96) hx hb dX10_findsGaps_89 (by decide) (fun hc => ?_) (fun hc => ?_)
    · have hf := jif_t hc hf
      refine lv_aload_n hx hb dX10_findsGaps_96 rfl (lv_at hl 0 rfl) ?_
      refine gf_X10_37 C hP wk_4_234 dX10_findsGaps_97 ?_
      exact hL100 k17 hk17 v1 v2 (gA s1 0 37) s1 H locs ls hf hP hS (lv_sub hl [0, 1, 2] rfl)
    · have hf := jif_f hc hf
      refine lv_iload_n hx hb dX10_findsGaps_92 rfl (lv_at hl 2 rfl) ?_
      refine lv_goto (tgt := 100) hx hb dX10_findsGaps_93 (by decide) ?_
      exact hL100 k17 hk17 v1 v2 v2 s1 H locs ls hf hP hS (lv_sub hl [0, 1, 2] rfl)
  have hL70 : ∀ (k17 : Int32 → ST → Option ST) (hk17 : (∀ (v1 : Int32) (s0 : ST) (H : Heap) (locs : List Loc) (ls : Array Slot), k17 v1 s0 = some σ' → va_P D vwCl (wG NM eM a cy s0) H → va_S A s.heap H locs → lv_has ls 4 [(0, .ref (a 0)), (1, .int v1)] → W p l e (rmk 2 49) s m args below meth c H locs 0 0 (MQ below (QV NM eM a cy D A σ') args s 0 0 A) (F0 m 17 ls []))), (∀ (v1 : Int32) (v2 : Int32) (t0 : Int32) (s0 : ST) (H : Heap) (locs : List Loc) (ls : Array Slot), f_X10_findsGaps_L70 k17 v1 v2 t0 s0 = some σ' → va_P D vwCl (wG NM eM a cy s0) H → va_S A s.heap H locs → lv_has ls 4 [(0, .ref (a 0)), (1, .int v1), (2, .int v2)] → W p l e (rmk 2 49) s m args below meth c H locs 0 0 (MQ below (QV NM eM a cy D A σ') args s 0 0 A) (F0 m 70 ls [.int t0])) := by
    intro k17 hk17 v1 v2 t0 s0 H locs ls hf hP hS hl
    refine lv_istore_n (lv' := [(3, .int t0), (0, .ref (a 0)), (1, .int v1), (2, .int v2)]) hx hb dX10_findsGaps_70 rfl hl (by decide) rfl (fun ls hl => ?_)
    refine lv_aload_n hx hb dX10_findsGaps_71 rfl (lv_at hl 1 rfl) ?_
    refine lv_iload_n hx hb dX10_findsGaps_72 rfl (lv_at hl 0 rfl) ?_
    refine lv_if_eq (tgt := 80) hx hb dX10_findsGaps_73 (by decide) (fun hc => ?_) (fun hc => ?_)
    · have hf := jif_t hc hf
      refine lv_aload_n hx hb dX10_findsGaps_80 rfl (lv_at hl 1 rfl) ?_
      refine gf_X10_36 C hP wk_4_233 dX10_findsGaps_81 ?_
      exact hL84 k17 hk17 v1 v2 t0 (gA s0 0 36) s0 H locs ls hf hP hS (lv_sub hl [1, 2, 3, 0] rfl)
    · have hf := jif_f hc hf
      refine lv_iload_n hx hb dX10_findsGaps_76 rfl (lv_at hl 2 rfl) ?_
      refine lv_goto (tgt := 84) hx hb dX10_findsGaps_77 (by decide) ?_
      exact hL84 k17 hk17 v1 v2 t0 v1 s0 H locs ls hf hP hS (lv_sub hl [1, 2, 3, 0] rfl)
  have hL65 : ∀ (k17 : Int32 → ST → Option ST) (hk17 : (∀ (v1 : Int32) (s0 : ST) (H : Heap) (locs : List Loc) (ls : Array Slot), k17 v1 s0 = some σ' → va_P D vwCl (wG NM eM a cy s0) H → va_S A s.heap H locs → lv_has ls 4 [(0, .ref (a 0)), (1, .int v1)] → W p l e (rmk 2 49) s m args below meth c H locs 0 0 (MQ below (QV NM eM a cy D A σ') args s 0 0 A) (F0 m 17 ls []))), (∀ (v1 : Int32) (v2 : Int32) (s0 : ST) (H : Heap) (locs : List Loc) (ls : Array Slot), f_X10_findsGaps_L65 k17 v1 v2 s0 = some σ' → va_P D vwCl (wG NM eM a cy s0) H → va_S A s.heap H locs → lv_has ls 4 [(0, .ref (a 0)), (1, .int v1), (2, .int v2)] → W p l e (rmk 2 49) s m args below meth c H locs 0 0 (MQ below (QV NM eM a cy D A σ') args s 0 0 A) (F0 m 65 ls [])) := by
    intro k17 hk17 v1 v2 s0 H locs ls hf hP hS hl
    refine lv_iconst (v := (1 : Int32)) hx hb dX10_findsGaps_65 (by decide) ?_
    refine lv_goto (tgt := 70) hx hb dX10_findsGaps_66 (by decide) ?_
    exact hL70 k17 hk17 v1 v2 (1 : Int32) s0 H locs ls hf hP hS (lv_sub hl [0, 1, 2] rfl)
  have hL17 : ∀ (n : Nat), (∀ (v1 : Int32) (s0 : ST) (H : Heap) (locs : List Loc) (ls : Array Slot), f_X10_findsGaps_L17 n v1 s0 = some σ' → va_P D vwCl (wG NM eM a cy s0) H → va_S A s.heap H locs → lv_has ls 4 [(0, .ref (a 0)), (1, .int v1)] → W p l e (rmk 2 49) s m args below meth c H locs 0 0 (MQ below (QV NM eM a cy D A σ') args s 0 0 A) (F0 m 17 ls [])) := by
    intro n
    induction n with
    | zero => intro v1 s0 H locs ls hf hP hS hl; exact no_o hf
    | succ n ih =>
      intro v1 s0 H locs ls hf hP hS hl
      have hf := (ef_X10_findsGaps_L17 _ _).symm.trans hf
      refine lv_iload_n hx hb dX10_findsGaps_17 rfl (lv_at hl 1 rfl) ?_
      refine lv_bipush (v := (36 : Int32)) hx hb dX10_findsGaps_18 (by decide) ?_
      refine lv_icmp_ge (tgt := 129) hx hb dX10_findsGaps_20 (by decide) (fun hc => ?_) (fun hc => ?_)
      · have hf := jif_t hc hf
        exact ret_v C hP hS (Option.some.inj hf) dX10_findsGaps_129
      · have hf := jif_f hc hf
        refine lv_aload_n hx hb dX10_findsGaps_23 rfl (lv_at hl 0 rfl) ?_
        refine gf_X10_0 C hP wk_4_197 dX10_findsGaps_24 ?_
        refine lv_iconst (v := (0 : Int32)) hx hb dX10_findsGaps_27 (by decide) ?_
        refine r_lald C hP aM_1 (vp_lit (by decide)) dX10_findsGaps_28 ?_
        refine lv_iload_n hx hb dX10_findsGaps_29 rfl (lv_at hl 1 rfl) ?_
        refine r_cz (r_runS (As := [.long (gB s0 1 (Int32.toNatClampNeg (0 : Int32))), .int v1]) (rest := []) C hP hS (k_X10_has (l := l) O (σ := s0) rfl) mw_X10_has ms_X10_has wk_5_101 ⟨Nat.le_of_ble_eq_true rfl, Nat.le_of_ble_eq_true rfl⟩ ⟨rfl, rfl⟩ ⟨Nat.zero_le _, Nat.zero_le _⟩ rfl hl.1 rfl (Nat.le_of_ble_eq_true rfl) dX10_findsGaps_30) hS (fun H locs hzy1 hP hS => ?_)
        refine jl_topz hf hzy1 (fun y1 hzy1 hf => ?_)
        refine lv_if_ne (tgt := 123) hx hb dX10_findsGaps_33 (by decide) (fun hc => ?_) (fun hc => ?_)
        · have hf := jif_t hc hf
          exact hL123 (f_X10_findsGaps_L17 n) ih v1 s0 H locs ls hf hP hS (lv_sub hl [0, 1] rfl)
        · have hf := jif_n hc hf
          refine lv_aload_n hx hb dX10_findsGaps_36 rfl (lv_at hl 0 rfl) ?_
          refine lv_iload_n hx hb dX10_findsGaps_37 rfl (lv_at hl 1 rfl) ?_
          refine lv_aload_n hx hb dX10_findsGaps_38 rfl (lv_at hl 0 rfl) ?_
          refine r_ci (r_runV (As := []) (rest := [.int v1, .ref (a 0)]) C hP hS (va_recv C.hK hP (q0 := 0) (ci := 10) rfl (by rw [g_at oM_10.1, oM_10.2])) (k_X10_allGuards (l := l) O (σ := s0) rfl) mw_X10_allGuards mi_X10_allGuards mv_X10_allGuards wk_5_221 ⟨Nat.le_of_ble_eq_true rfl, Nat.le_of_ble_eq_true rfl⟩ ⟨rfl, rfl⟩ ⟨Nat.zero_le _, Nat.zero_le _⟩ rfl hl.1 rfl (Nat.le_of_ble_eq_true rfl) dX10_findsGaps_39) hS (fun H locs hP hS => ?_)
          refine jl_topi hf (fun y3 hf => ?_)
          obtain ⟨y5, hc, hf⟩ := jb_e hf
          refine r_ci (r_runV (As := [.int v1, .int y3]) (rest := []) C hP hS (va_recv C.hK hP (q0 := 0) (ci := 10) rfl (by rw [g_at oM_10.1, oM_10.2])) (k_X10_aloneBy (l := l) O (σ := s0) hc) mw_X10_aloneBy mi_X10_aloneBy mv_X10_aloneBy wk_5_233 ⟨Nat.le_of_ble_eq_true rfl, Nat.le_of_ble_eq_true rfl⟩ ⟨rfl, rfl⟩ ⟨Nat.zero_le _, Nat.zero_le _⟩ rfl hl.1 rfl (Nat.le_of_ble_eq_true rfl) dX10_findsGaps_42) hS (fun H locs hP hS => ?_)
          obtain ⟨y7, hc, hf⟩ := jb_e hf
          refine r_ci (r_runS (As := [.int y5]) (rest := []) C hP hS (k_X10_gapOf (l := l) O (σ := s0) hc) mw_X10_gapOf ms_X10_gapOf wk_6_2 ⟨Nat.le_of_ble_eq_true rfl, Nat.le_of_ble_eq_true rfl⟩ ⟨rfl, rfl⟩ ⟨Nat.zero_le _, Nat.zero_le _⟩ rfl hl.1 rfl (Nat.le_of_ble_eq_true rfl) dX10_findsGaps_45) hS (fun H locs hP hS => ?_)
          refine lv_istore_n (lv' := [(2, .int y7), (0, .ref (a 0)), (1, .int v1)]) hx hb dX10_findsGaps_48 rfl hl (by decide) rfl (fun ls hl => ?_)
          refine lv_aload_n hx hb dX10_findsGaps_49 rfl (lv_at hl 1 rfl) ?_
          refine gf_X10_36 C hP wk_4_233 dX10_findsGaps_50 ?_
          refine lv_iconst (v := (-1 : Int32)) hx hb dX10_findsGaps_53 (by decide) ?_
          refine lv_icmp_eq (tgt := 65) hx hb dX10_findsGaps_54 (by decide) (fun hc => ?_) (fun hc => ?_)
          · have hf := jif_t hc hf
            exact hL65 (f_X10_findsGaps_L17 n) ih v1 y7 s0 H locs ls hf hP hS (lv_sub hl [1, 2, 0] rfl)
          · have hf := jif_f hc hf
            refine lv_iload_n hx hb dX10_findsGaps_57 rfl (lv_at hl 0 rfl) ?_
            refine lv_aload_n hx hb dX10_findsGaps_58 rfl (lv_at hl 1 rfl) ?_
            refine gf_X10_37 C hP wk_4_234 dX10_findsGaps_59 ?_
            refine lv_icmp_le (tgt := 69) hx hb dX10_findsGaps_62 (by decide) (fun hc => ?_) (fun hc => ?_)
            · have hf := jif_t hc hf
              refine lv_iconst (v := (0 : Int32)) hx hb dX10_findsGaps_69 (by decide) ?_
              exact hL70 (f_X10_findsGaps_L17 n) ih v1 y7 (0 : Int32) s0 H locs ls hf hP hS (lv_sub hl [1, 2, 0] rfl)
            · have hf := jif_f hc hf
              exact hL65 (f_X10_findsGaps_L17 n) ih v1 y7 s0 H locs ls hf hP hS (lv_sub hl [1, 2, 0] rfl)
  refine lv_aload_n hx hb dX10_findsGaps_0 rfl (lv_at hl 0 rfl) ?_
  refine lv_iconst (v := (-1 : Int32)) hx hb dX10_findsGaps_1 (by decide) ?_
  refine pf_X10_36 C hP hS wk_4_233 dX10_findsGaps_2 hf (fun H locs s1 hf hP hS => ?_)
  refine lv_aload_n hx hb dX10_findsGaps_5 rfl (lv_at hl 0 rfl) ?_
  refine lv_iconst (v := (0 : Int32)) hx hb dX10_findsGaps_6 (by decide) ?_
  refine pf_X10_37 C hP hS wk_4_234 dX10_findsGaps_7 hf (fun H locs s2 hf hP hS => ?_)
  refine lv_aload_n hx hb dX10_findsGaps_10 rfl (lv_at hl 0 rfl) ?_
  refine lv_iconst (v := (0 : Int32)) hx hb dX10_findsGaps_11 (by decide) ?_
  refine pf_X10_38 C hP hS wk_4_235 dX10_findsGaps_12 hf (fun H locs s3 hf hP hS => ?_)
  refine lv_iconst (v := (0 : Int32)) hx hb dX10_findsGaps_15 (by decide) ?_
  refine lv_istore_n (lv' := [(1, .int (0 : Int32)), (0, .ref (a 0))]) hx hb dX10_findsGaps_16 rfl hl (by decide) rfl (fun ls hl => ?_)
  exact hL17 FU (0 : Int32) s3 H locs ls hf hP hS (lv_sub hl [1, 0] rfl)
set_option maxHeartbeats 4000000 in
set_option maxRecDepth 100000 in
theorem k_X10_worthUnseen {l : Launch} {a : Nat → Nat} {cy : Nat → ClassId} {D : va_G} {A : Nat → Prop} (O : WO NM a (fun _ => True) A) {r : Int32} {σ : ST} {σ' : ST} (hf : f_X10_worthUnseen σ = some (r, σ')) : Met l yX10_worthUnseen (Cond.code yX10_worthUnseen cX10_worthUnseen 6 (some .int) :: WS) (rmk 3 74) (PC [.ref (a 0)] NM eM a cy D (fun _ => True) σ) (QI NM eM a cy D A r σ') 0 0 A := by
  refine met_go (own := "GuardsLookLeftModel") O (by decide +kernel) rfl (Nat.le_of_ble_eq_true rfl) ?_
  intro p e s m args below meth c ls C hP hS hl
  have hx := C.hx
  have hb := C.hb
  have hl : lv_has ls 6 [(0, .ref (a 0))] := hl
  obtain ⟨H, hH⟩ : ∃ H, H = s.heap := ⟨_, rfl⟩
  rw [← hH] at hP
  have hS : va_S A s.heap H [] := by rw [hH]; exact va_S.rf
  suffices g : W p l e (rmk 3 74) s m args below meth c H [] 0 0 (MQ below (QI NM eM a cy D A r σ') args s 0 0 A) (F0 m 0 ls []) by rw [hH] at g; exact g
  clear hH
  obtain ⟨locs, hlocs⟩ : ∃ z : List Loc, z = [] := ⟨_, rfl⟩
  rw [← hlocs] at hS ⊢
  have hL68 : ∀ (k4 : Int32 → Int32 → ST → Option (Int32 × ST)) (hk4 : (∀ (v1 : Int32) (v2 : Int32) (s0 : ST) (H : Heap) (locs : List Loc) (ls : Array Slot), k4 v1 v2 s0 = some (r, σ') → va_P D vwCl (wG NM eM a cy s0) H → va_S A s.heap H locs → lv_has ls 6 [(0, .ref (a 0)), (1, .int v1), (2, .int v2)] → W p l e (rmk 3 74) s m args below meth c H locs 0 0 (MQ below (QI NM eM a cy D A r σ') args s 0 0 A) (F0 m 4 ls []))) (k30 : Int32 → Int32 → Int64 → Int32 → ST → Option (Int32 × ST)) (hk30 : (∀ (v1 : Int32) (v2 : Int32) (v3 : Int64) (v5 : Int32) (s0 : ST) (H : Heap) (locs : List Loc) (ls : Array Slot), k30 v1 v2 v3 v5 s0 = some (r, σ') → va_P D vwCl (wG NM eM a cy s0) H → va_S A s.heap H locs → lv_has ls 6 [(0, .ref (a 0)), (1, .int v1), (2, .int v2), (3, .long v3), (5, .int v5)] → W p l e (rmk 3 74) s m args below meth c H locs 0 0 (MQ below (QI NM eM a cy D A r σ') args s 0 0 A) (F0 m 30 ls []))), (∀ (v2 : Int32) (v3 : Int64) (v5 : Int32) (t0 : Int32) (t1 : Int32) (s0 : ST) (H : Heap) (locs : List Loc) (ls : Array Slot), f_X10_worthUnseen_L68 k4 k30 v2 v3 v5 t0 t1 s0 = some (r, σ') → va_P D vwCl (wG NM eM a cy s0) H → va_S A s.heap H locs → lv_has ls 6 [(0, .ref (a 0)), (2, .int v2), (3, .long v3), (5, .int v5)] → W p l e (rmk 3 74) s m args below meth c H locs 0 0 (MQ below (QI NM eM a cy D A r σ') args s 0 0 A) (F0 m 68 ls [.int t1, .int t0])) := by
    intro k4 hk4 k30 hk30 v2 v3 v5 t0 t1 s0 H locs ls hf hP hS hl
    refine lv_iadd hx hb dX10_worthUnseen_68 ?_
    refine jl_topi hf (fun y1 hf => ?_)
    refine lv_istore_n (lv' := [(1, .int y1), (0, .ref (a 0)), (2, .int v2), (3, .long v3), (5, .int v5)]) hx hb dX10_worthUnseen_69 rfl hl (by decide) rfl (fun ls hl => ?_)
    obtain ⟨y2, ey2, hf⟩ := jlet_e hf
    refine lv_iinc (v := y2) (lv' := [(5, .int y2), (1, .int y1), (0, .ref (a 0)), (2, .int v2), (3, .long v3)]) hx hb dX10_worthUnseen_70 hl (k := 4) rfl ey2 (by decide) rfl (fun ls hl => ?_)
    refine lv_goto (tgt := 30) hx hb dX10_worthUnseen_73 (by decide) ?_
    exact hk30 y1 v2 v3 y2 s0 H locs ls hf hP hS (lv_sub hl [2, 1, 3, 4, 0] rfl)
  have hL30 : ∀ (k4 : Int32 → Int32 → ST → Option (Int32 × ST)) (hk4 : (∀ (v1 : Int32) (v2 : Int32) (s0 : ST) (H : Heap) (locs : List Loc) (ls : Array Slot), k4 v1 v2 s0 = some (r, σ') → va_P D vwCl (wG NM eM a cy s0) H → va_S A s.heap H locs → lv_has ls 6 [(0, .ref (a 0)), (1, .int v1), (2, .int v2)] → W p l e (rmk 3 74) s m args below meth c H locs 0 0 (MQ below (QI NM eM a cy D A r σ') args s 0 0 A) (F0 m 4 ls []))) (n : Nat), (∀ (v1 : Int32) (v2 : Int32) (v3 : Int64) (v5 : Int32) (s0 : ST) (H : Heap) (locs : List Loc) (ls : Array Slot), f_X10_worthUnseen_L30 k4 n v1 v2 v3 v5 s0 = some (r, σ') → va_P D vwCl (wG NM eM a cy s0) H → va_S A s.heap H locs → lv_has ls 6 [(0, .ref (a 0)), (1, .int v1), (2, .int v2), (3, .long v3), (5, .int v5)] → W p l e (rmk 3 74) s m args below meth c H locs 0 0 (MQ below (QI NM eM a cy D A r σ') args s 0 0 A) (F0 m 30 ls [])) := by
    intro k4 hk4 n
    induction n with
    | zero => intro v1 v2 v3 v5 s0 H locs ls hf hP hS hl; exact no_o hf
    | succ n ih =>
      intro v1 v2 v3 v5 s0 H locs ls hf hP hS hl
      have hf := (ef_X10_worthUnseen_L30 k4 _ _ _ _ _).symm.trans hf
      refine lv_iload hx hb dX10_worthUnseen_30 (lv_at hl 4 rfl) ?_
      refine lv_bipush (v := (36 : Int32)) hx hb dX10_worthUnseen_32 (by decide) ?_
      refine lv_icmp_ge (tgt := 76) hx hb dX10_worthUnseen_34 (by decide) (fun hc => ?_) (fun hc => ?_)
      · have hf := jif_t hc hf
        obtain ⟨y1, ey1, hf⟩ := jlet_e hf
        refine lv_iinc (v := y1) (lv' := [(2, .int y1), (0, .ref (a 0)), (1, .int v1), (3, .long v3), (5, .int v5)]) hx hb dX10_worthUnseen_76 hl (k := 2) rfl ey1 (by decide) rfl (fun ls hl => ?_)
        refine lv_goto (tgt := 4) hx hb dX10_worthUnseen_79 (by decide) ?_
        exact hk4 v1 y1 s0 H locs ls hf hP hS (lv_sub hl [1, 2, 0] rfl)
      · have hf := jif_f hc hf
        refine lv_iload_n hx hb dX10_worthUnseen_37 rfl (lv_at hl 1 rfl) ?_
        refine lv_lload_n hx hb dX10_worthUnseen_38 rfl (lv_at hl 3 rfl) ?_
        refine lv_iload hx hb dX10_worthUnseen_39 (lv_at hl 4 rfl) ?_
        refine r_cz (r_runS (As := [.long v3, .int v5]) (rest := [.int v1]) C hP hS (k_X10_has (l := l) O (σ := s0) rfl) mw_X10_has ms_X10_has wk_5_101 ⟨Nat.le_of_ble_eq_true rfl, Nat.le_of_ble_eq_true rfl⟩ ⟨rfl, rfl⟩ ⟨Nat.zero_le _, Nat.zero_le _⟩ rfl hl.1 rfl (Nat.le_of_ble_eq_true rfl) dX10_worthUnseen_41) hS (fun H locs hzy2 hP hS => ?_)
        refine jl_topz hf hzy2 (fun y2 hzy2 hf => ?_)
        refine lv_if_eq (tgt := 51) hx hb dX10_worthUnseen_44 (by decide) (fun hc => ?_) (fun hc => ?_)
        · have hf := jif_t hc hf
          refine lv_aload_n hx hb dX10_worthUnseen_51 rfl (lv_at hl 0 rfl) ?_
          refine lv_iconst (v := (2 : Int32)) hx hb dX10_worthUnseen_52 (by decide) ?_
          refine lv_iconst (v := (0 : Int32)) hx hb dX10_worthUnseen_53 (by decide) ?_
          refine lv_aload_n hx hb dX10_worthUnseen_54 rfl (lv_at hl 0 rfl) ?_
          refine lv_iload hx hb dX10_worthUnseen_55 (lv_at hl 4 rfl) ?_
          refine r_ci (r_runV (As := [.int v5]) (rest := [.int (0 : Int32), .int (2 : Int32), .ref (a 0), .int v1]) C hP hS (va_recv C.hK hP (q0 := 0) (ci := 10) rfl (by rw [g_at oM_10.1, oM_10.2])) (k_X10_lit (l := l) O (σ := s0) rfl) mw_X10_lit mi_X10_lit mv_X10_lit wk_5_205 ⟨Nat.le_of_ble_eq_true rfl, Nat.le_of_ble_eq_true rfl⟩ ⟨rfl, rfl⟩ ⟨Nat.zero_le _, Nat.zero_le _⟩ rfl hl.1 rfl (Nat.le_of_ble_eq_true rfl) dX10_worthUnseen_57) hS (fun H locs hP hS => ?_)
          refine jl_topi hf (fun y4 hf => ?_)
          refine lv_iconst (v := (0 : Int32)) hx hb dX10_worthUnseen_60 (by decide) ?_
          refine lv_iload_n hx hb dX10_worthUnseen_61 rfl (lv_at hl 2 rfl) ?_
          refine lv_iconst (v := (0 : Int32)) hx hb dX10_worthUnseen_62 (by decide) ?_
          refine lv_iload hx hb dX10_worthUnseen_63 (lv_at hl 4 rfl) ?_
          obtain ⟨y6, s7, hc, hf⟩ := jbp_e hf
          refine r_ci (r_runV (As := [.int (2 : Int32), .int (0 : Int32), .int y4, .int (0 : Int32), .int v2, .int (0 : Int32), .int v5]) (rest := [.int v1]) C hP hS (va_recv C.hK hP (q0 := 0) (ci := 10) rfl (by rw [g_at oM_10.1, oM_10.2])) (k_X10_asksOf (l := l) O hc) mw_X10_asksOf mi_X10_asksOf mv_X10_asksOf wk_5_131 ⟨Nat.le_of_ble_eq_true rfl, Nat.le_of_ble_eq_true rfl⟩ ⟨rfl, rfl⟩ ⟨Nat.zero_le _, Nat.zero_le _⟩ rfl hl.1 rfl (Nat.le_of_ble_eq_true rfl) dX10_worthUnseen_65) hS (fun H locs hP hS => ?_)
          exact hL68 k4 hk4 (f_X10_worthUnseen_L30 k4 n) ih v2 v3 v5 v1 y6 s7 H locs ls hf hP hS (lv_sub hl [0, 2, 3, 4] rfl)
        · have hf := jif_f hc hf
          refine lv_iconst (v := (0 : Int32)) hx hb dX10_worthUnseen_47 (by decide) ?_
          refine lv_goto (tgt := 68) hx hb dX10_worthUnseen_48 (by decide) ?_
          exact hL68 k4 hk4 (f_X10_worthUnseen_L30 k4 n) ih v2 v3 v5 v1 (0 : Int32) s0 H locs ls hf hP hS (lv_sub hl [0, 2, 3, 4] rfl)
  have hL4 : ∀ (n : Nat), (∀ (v1 : Int32) (v2 : Int32) (s0 : ST) (H : Heap) (locs : List Loc) (ls : Array Slot), f_X10_worthUnseen_L4 n v1 v2 s0 = some (r, σ') → va_P D vwCl (wG NM eM a cy s0) H → va_S A s.heap H locs → lv_has ls 6 [(0, .ref (a 0)), (1, .int v1), (2, .int v2)] → W p l e (rmk 3 74) s m args below meth c H locs 0 0 (MQ below (QI NM eM a cy D A r σ') args s 0 0 A) (F0 m 4 ls [])) := by
    intro n
    induction n with
    | zero => intro v1 v2 s0 H locs ls hf hP hS hl; exact no_o hf
    | succ n ih =>
      intro v1 v2 s0 H locs ls hf hP hS hl
      have hf := (ef_X10_worthUnseen_L4 _ _ _).symm.trans hf
      refine lv_iload_n hx hb dX10_worthUnseen_4 rfl (lv_at hl 2 rfl) ?_
      refine lv_bipush (v := (24 : Int32)) hx hb dX10_worthUnseen_5 (by decide) ?_
      refine lv_icmp_ge (tgt := 82) hx hb dX10_worthUnseen_7 (by decide) (fun hc => ?_) (fun hc => ?_)
      · have hf := jif_t hc hf
        refine lv_iload_n hx hb dX10_worthUnseen_82 rfl (lv_at hl 1 rfl) ?_
        exact ret_i C hP hS (Prod.mk.inj (Option.some.inj hf)).1 (Prod.mk.inj (Option.some.inj hf)).2 dX10_worthUnseen_83
      · have hf := jif_f hc hf
        refine lv_aload_n hx hb dX10_worthUnseen_10 rfl (lv_at hl 0 rfl) ?_
        refine lv_iload_n hx hb dX10_worthUnseen_11 rfl (lv_at hl 2 rfl) ?_
        refine lv_aload_n hx hb dX10_worthUnseen_12 rfl (lv_at hl 0 rfl) ?_
        refine r_ci (r_runV (As := []) (rest := [.int v2, .ref (a 0)]) C hP hS (va_recv C.hK hP (q0 := 0) (ci := 10) rfl (by rw [g_at oM_10.1, oM_10.2])) (k_X10_allGuards (l := l) O (σ := s0) rfl) mw_X10_allGuards mi_X10_allGuards mv_X10_allGuards wk_5_221 ⟨Nat.le_of_ble_eq_true rfl, Nat.le_of_ble_eq_true rfl⟩ ⟨rfl, rfl⟩ ⟨Nat.zero_le _, Nat.zero_le _⟩ rfl hl.1 rfl (Nat.le_of_ble_eq_true rfl) dX10_worthUnseen_13) hS (fun H locs hP hS => ?_)
        refine jl_topi hf (fun y1 hf => ?_)
        obtain ⟨y3, hc, hf⟩ := jb_e hf
        refine r_cl (r_runV (As := [.int v2, .int y1]) (rest := []) C hP hS (va_recv C.hK hP (q0 := 0) (ci := 10) rfl (by rw [g_at oM_10.1, oM_10.2])) (k_X10_seenAt (l := l) O (σ := s0) hc) mw_X10_seenAt mi_X10_seenAt mv_X10_seenAt wk_5_225 ⟨Nat.le_of_ble_eq_true rfl, Nat.le_of_ble_eq_true rfl⟩ ⟨rfl, rfl⟩ ⟨Nat.zero_le _, Nat.zero_le _⟩ rfl hl.1 rfl (Nat.le_of_ble_eq_true rfl) dX10_worthUnseen_16) hS (fun H locs hP hS => ?_)
        refine lv_aload_n hx hb dX10_worthUnseen_19 rfl (lv_at hl 0 rfl) ?_
        refine gf_X10_0 C hP wk_4_197 dX10_worthUnseen_20 ?_
        refine lv_iconst (v := (0 : Int32)) hx hb dX10_worthUnseen_23 (by decide) ?_
        refine r_lald C hP aM_1 (vp_lit (by decide)) dX10_worthUnseen_24 ?_
        refine lv_lor hx hb dX10_worthUnseen_25 ?_
        refine jl_topl hf (fun y5 hf => ?_)
        refine lv_lstore_n (lv' := [(3, .long y5), (0, .ref (a 0)), (1, .int v1), (2, .int v2)]) hx hb dX10_worthUnseen_26 rfl hl (by decide) rfl (fun ls hl => ?_)
        refine lv_iconst (v := (0 : Int32)) hx hb dX10_worthUnseen_27 (by decide) ?_
        refine lv_istore (lv' := [(5, .int (0 : Int32)), (3, .long y5), (0, .ref (a 0)), (1, .int v1), (2, .int v2)]) hx hb dX10_worthUnseen_28 hl (by decide) rfl (fun ls hl => ?_)
        exact hL30 (f_X10_worthUnseen_L4 n) ih FU v1 v2 y5 (0 : Int32) s0 H locs ls hf hP hS (lv_sub hl [2, 3, 4, 1, 0] rfl)
  refine lv_iconst (v := (0 : Int32)) hx hb dX10_worthUnseen_0 (by decide) ?_
  refine lv_istore_n (lv' := [(1, .int (0 : Int32)), (0, .ref (a 0))]) hx hb dX10_worthUnseen_1 rfl hl (by decide) rfl (fun ls hl => ?_)
  refine lv_iconst (v := (0 : Int32)) hx hb dX10_worthUnseen_2 (by decide) ?_
  refine lv_istore_n (lv' := [(2, .int (0 : Int32)), (1, .int (0 : Int32)), (0, .ref (a 0))]) hx hb dX10_worthUnseen_3 rfl hl (by decide) rfl (fun ls hl => ?_)
  exact hL4 FU (0 : Int32) (0 : Int32) σ H locs ls hf hP hS (lv_sub hl [2, 1, 0] rfl)
set_option maxHeartbeats 4000000 in
set_option maxRecDepth 100000 in
theorem k_X10_worst {l : Launch} {a : Nat → Nat} {cy : Nat → ClassId} {D : va_G} {A : Nat → Prop} (O : WO NM a (fun _ => True) A) {x1 : Int32} {r : Int32} {σ : ST} {σ' : ST} (hf : f_X10_worst x1 σ = some (r, σ')) : Met l yX10_worst (Cond.code yX10_worst cX10_worst 2 (some .int) :: WS) (rmk 8 191) (PC [.ref (a 0), .int x1] NM eM a cy D (fun _ => True) σ) (QI NM eM a cy D A r σ') 0 0 A := by
  refine met_go (own := "GuardsLookLeftModel") O (by decide +kernel) rfl (Nat.le_of_ble_eq_true rfl) ?_
  intro p e s m args below meth c ls C hP hS hl
  have hx := C.hx
  have hb := C.hb
  have hl : lv_has ls 2 [(0, .ref (a 0)), (1, .int x1)] := hl
  obtain ⟨H, hH⟩ : ∃ H, H = s.heap := ⟨_, rfl⟩
  rw [← hH] at hP
  have hS : va_S A s.heap H [] := by rw [hH]; exact va_S.rf
  suffices g : W p l e (rmk 8 191) s m args below meth c H [] 0 0 (MQ below (QI NM eM a cy D A r σ') args s 0 0 A) (F0 m 0 ls []) by rw [hH] at g; exact g
  clear hH
  obtain ⟨locs, hlocs⟩ : ∃ z : List Loc, z = [] := ⟨_, rfl⟩
  rw [← hlocs] at hS ⊢
  refine lv_iload_n hx hb dX10_worst_0 rfl (lv_at hl 1 rfl) ?_
  refine lv_iconst (v := (0 : Int32)) hx hb dX10_worst_1 (by decide) ?_
  refine lv_iconst (v := (3 : Int32)) hx hb dX10_worst_2 (by decide) ?_
  refine r_cz (r_runS (As := [.int x1, .int (0 : Int32), .int (3 : Int32)]) (rest := []) C hP hS (k_X10_in (l := l) O (σ := σ) rfl) mw_X10_in ms_X10_in wk_4_158 ⟨Nat.le_of_ble_eq_true rfl, Nat.le_of_ble_eq_true rfl⟩ ⟨rfl, rfl⟩ ⟨Nat.zero_le _, Nat.zero_le _⟩ rfl hl.1 rfl (Nat.le_of_ble_eq_true rfl) dX10_worst_3) hS (fun H locs hzy1 hP hS => ?_)
  refine jl_topz hf hzy1 (fun y1 hzy1 hf => ?_)
  refine lv_if_ne (tgt := 12) hx hb dX10_worst_6 (by decide) (fun hc => ?_) (fun hc => ?_)
  · have hf := jif_t hc hf
    refine lv_aload_n hx hb dX10_worst_12 rfl (lv_at hl 0 rfl) ?_
    obtain ⟨s4, hc, hf⟩ := jb_e hf
    refine r_cv (r_runV (As := []) (rest := []) C hP hS (va_recv C.hK hP (q0 := 0) (ci := 10) rfl (by rw [g_at oM_10.1, oM_10.2])) (k_X10_watchesAll (l := l) O hc) mw_X10_watchesAll mi_X10_watchesAll mv_X10_watchesAll wk_5_213 ⟨Nat.le_of_ble_eq_true rfl, Nat.le_of_ble_eq_true rfl⟩ ⟨rfl, rfl⟩ ⟨Nat.zero_le _, Nat.zero_le _⟩ rfl hl.1 rfl (Nat.le_of_ble_eq_true rfl) dX10_worst_13) hS (fun H locs hP hS => ?_)
    refine lv_aload_n hx hb dX10_worst_16 rfl (lv_at hl 0 rfl) ?_
    obtain ⟨s6, hc, hf⟩ := jb_e hf
    refine r_cv (r_runV (As := []) (rest := []) C hP hS (va_recv C.hK hP (q0 := 0) (ci := 10) rfl (by rw [g_at oM_10.1, oM_10.2])) (k_X10_findsGaps (l := l) O hc) mw_X10_findsGaps mi_X10_findsGaps mv_X10_findsGaps wk_6_9 ⟨Nat.le_of_ble_eq_true rfl, Nat.le_of_ble_eq_true rfl⟩ ⟨rfl, rfl⟩ ⟨Nat.zero_le _, Nat.zero_le _⟩ rfl hl.1 rfl (Nat.le_of_ble_eq_true rfl) dX10_worst_17) hS (fun H locs hP hS => ?_)
    refine lv_iload_n hx hb dX10_worst_20 rfl (lv_at hl 1 rfl) ?_
    refine lv_if_ne (tgt := 31) hx hb dX10_worst_21 (by decide) (fun hc => ?_) (fun hc => ?_)
    · have hf := jif_t hc hf
      refine lv_iload_n hx hb dX10_worst_31 rfl (lv_at hl 1 rfl) ?_
      refine lv_iconst (v := (1 : Int32)) hx hb dX10_worst_32 (by decide) ?_
      refine lv_icmp_ne (tgt := 43) hx hb dX10_worst_33 (by decide) (fun hc => ?_) (fun hc => ?_)
      · have hf := jif_t hc hf
        refine lv_iload_n hx hb dX10_worst_43 rfl (lv_at hl 1 rfl) ?_
        refine lv_iconst (v := (2 : Int32)) hx hb dX10_worst_44 (by decide) ?_
        refine lv_icmp_ne (tgt := 55) hx hb dX10_worst_45 (by decide) (fun hc => ?_) (fun hc => ?_)
        · have hf := jif_t hc hf
          refine lv_aload_n hx hb dX10_worst_55 rfl (lv_at hl 0 rfl) ?_
          obtain ⟨y7, s8, hc, hf⟩ := jbp_e hf
          refine r_ci (r_runV (As := []) (rest := []) C hP hS (va_recv C.hK hP (q0 := 0) (ci := 10) rfl (by rw [g_at oM_10.1, oM_10.2])) (k_X10_worthUnseen (l := l) O hc) mw_X10_worthUnseen mi_X10_worthUnseen mv_X10_worthUnseen wk_6_13 ⟨Nat.le_of_ble_eq_true rfl, Nat.le_of_ble_eq_true rfl⟩ ⟨rfl, rfl⟩ ⟨Nat.zero_le _, Nat.zero_le _⟩ rfl hl.1 rfl (Nat.le_of_ble_eq_true rfl) dX10_worst_56) hS (fun H locs hP hS => ?_)
          exact ret_i C hP hS (Prod.mk.inj (Option.some.inj hf)).1 (Prod.mk.inj (Option.some.inj hf)).2 dX10_worst_59
        · have hf := jif_n hc hf
          refine lv_aload_n hx hb dX10_worst_48 rfl (lv_at hl 0 rfl) ?_
          refine gf_X10_38 C hP wk_4_235 dX10_worst_49 ?_
          refine lv_goto (tgt := 59) hx hb dX10_worst_52 (by decide) ?_
          exact ret_i C hP hS (Prod.mk.inj (Option.some.inj hf)).1 (Prod.mk.inj (Option.some.inj hf)).2 dX10_worst_59
      · have hf := jif_n hc hf
        refine lv_aload_n hx hb dX10_worst_36 rfl (lv_at hl 0 rfl) ?_
        refine gf_X10_36 C hP wk_4_233 dX10_worst_37 ?_
        refine lv_goto (tgt := 59) hx hb dX10_worst_40 (by decide) ?_
        exact ret_i C hP hS (Prod.mk.inj (Option.some.inj hf)).1 (Prod.mk.inj (Option.some.inj hf)).2 dX10_worst_59
    · have hf := jif_n hc hf
      refine lv_aload_n hx hb dX10_worst_24 rfl (lv_at hl 0 rfl) ?_
      refine gf_X10_37 C hP wk_4_234 dX10_worst_25 ?_
      refine lv_goto (tgt := 59) hx hb dX10_worst_28 (by decide) ?_
      exact ret_i C hP hS (Prod.mk.inj (Option.some.inj hf)).1 (Prod.mk.inj (Option.some.inj hf)).2 dX10_worst_59
  · have hf := jif_n hc hf
    refine lv_bipush (v := (-2 : Int32)) hx hb dX10_worst_9 (by decide) ?_
    exact ret_i C hP hS (Prod.mk.inj (Option.some.inj hf)).1 (Prod.mk.inj (Option.some.inj hf)).2 dX10_worst_11
set_option maxHeartbeats 4000000 in
set_option maxRecDepth 100000 in
theorem k_X10_spread {l : Launch} {a : Nat → Nat} {cy : Nat → ClassId} {D : va_G} {A : Nat → Prop} (O : WO NM a (fun _ => True) A) {x1 : Int64} {r : Int64} {σ : ST} (hf : f_X10_spread x1 σ = r) : Met l yX10_spread (Cond.code yX10_spread cX10_spread 9 (some .long) :: WS) (rmk 0 0) (PC [.ref (a 0), .long x1] NM eM a cy D (fun _ => True) σ) (QL NM eM a cy D A r σ) 0 0 A := by
  refine met_go (own := "GuardsLookLeftModel") O (by decide +kernel) rfl (Nat.le_of_ble_eq_true rfl) ?_
  intro p e s m args below meth c ls C hP hS hl
  have hx := C.hx
  have hb := C.hb
  have hl : lv_has ls 9 [(0, .ref (a 0)), (1, .long x1)] := hl
  obtain ⟨H, hH⟩ : ∃ H, H = s.heap := ⟨_, rfl⟩
  rw [← hH] at hP
  have hS : va_S A s.heap H [] := by rw [hH]; exact va_S.rf
  suffices g : W p l e (rmk 0 0) s m args below meth c H [] 0 0 (MQ below (QL NM eM a cy D A r σ) args s 0 0 A) (F0 m 0 ls []) by rw [hH] at g; exact g
  clear hH
  obtain ⟨locs, hlocs⟩ : ∃ z : List Loc, z = [] := ⟨_, rfl⟩
  rw [← hlocs] at hS ⊢
  refine lv_lload_n hx hb dX10_spread_0 rfl (lv_at hl 1 rfl) ?_
  refine lv_ldc2 hx hb C.hown (C.ts _ wk_6_29) dX10_spread_1 ?_
  refine lv_land hx hb dX10_spread_4 ?_
  refine lv_iconst (v := (1 : Int32)) hx hb dX10_spread_5 (by decide) ?_
  refine r_lshl C dX10_spread_6 ?_
  refine jl_topl hf (fun y1 hf => ?_)
  refine lv_lstore_n (lv' := [(3, .long y1), (0, .ref (a 0)), (1, .long x1)]) hx hb dX10_spread_7 rfl hl (by decide) rfl (fun ls hl => ?_)
  refine lv_lload_n hx hb dX10_spread_8 rfl (lv_at hl 2 rfl) ?_
  refine lv_ldc2 hx hb C.hown (C.ts _ wk_6_30) dX10_spread_9 ?_
  refine lv_land hx hb dX10_spread_12 ?_
  refine lv_iconst (v := (1 : Int32)) hx hb dX10_spread_13 (by decide) ?_
  refine r_lshr C dX10_spread_14 ?_
  refine jl_topl hf (fun y2 hf => ?_)
  refine lv_lstore (lv' := [(5, .long y2), (3, .long y1), (0, .ref (a 0)), (1, .long x1)]) hx hb dX10_spread_15 hl (by decide) rfl (fun ls hl => ?_)
  refine lv_lload_n hx hb dX10_spread_17 rfl (lv_at hl 1 rfl) ?_
  refine lv_lload hx hb dX10_spread_18 (lv_at hl 0 rfl) ?_
  refine lv_lor hx hb dX10_spread_20 ?_
  refine lv_lload_n hx hb dX10_spread_21 rfl (lv_at hl 3 rfl) ?_
  refine lv_bipush (v := (6 : Int32)) hx hb dX10_spread_22 (by decide) ?_
  refine r_lshl C dX10_spread_24 ?_
  refine lv_lor hx hb dX10_spread_25 ?_
  refine lv_lload_n hx hb dX10_spread_26 rfl (lv_at hl 3 rfl) ?_
  refine lv_bipush (v := (6 : Int32)) hx hb dX10_spread_27 (by decide) ?_
  refine r_lshr C dX10_spread_29 ?_
  refine lv_lor hx hb dX10_spread_30 ?_
  refine jl_topl hf (fun y3 hf => ?_)
  refine lv_lstore (lv' := [(7, .long y3), (5, .long y2), (3, .long y1), (0, .ref (a 0)), (1, .long x1)]) hx hb dX10_spread_31 hl (by decide) rfl (fun ls hl => ?_)
  refine lv_lload_n hx hb dX10_spread_33 rfl (lv_at hl 4 rfl) ?_
  refine lv_lload hx hb dX10_spread_34 (lv_at hl 0 rfl) ?_
  refine lv_ldc2 hx hb C.hown (C.ts _ wk_5_88) dX10_spread_36 ?_
  refine lv_land hx hb dX10_spread_39 ?_
  refine lv_aload_n hx hb dX10_spread_40 rfl (lv_at hl 3 rfl) ?_
  refine gf_X10_0 C hP wk_4_197 dX10_spread_41 ?_
  refine lv_iconst (v := (0 : Int32)) hx hb dX10_spread_44 (by decide) ?_
  refine r_lald C hP aM_1 (vp_lit (by decide)) dX10_spread_45 ?_
  refine lv_ldc2 hx hb C.hown (C.ts _ wk_5_104) dX10_spread_46 ?_
  refine lv_lxor hx hb dX10_spread_49 ?_
  refine lv_land hx hb dX10_spread_50 ?_
  refine lv_lor hx hb dX10_spread_51 ?_
  exact ret_l C hP hS hf rfl dX10_spread_52
set_option maxHeartbeats 4000000 in
set_option maxRecDepth 100000 in
theorem k_X10_sneaks {l : Launch} {a : Nat → Nat} {cy : Nat → ClassId} {D : va_G} {A : Nat → Prop} (O : WO NM a (fun _ => True) A) {x1 : Int32} {x2 : Int32} {σ : ST} {σ' : ST} (hf : f_X10_sneaks x1 x2 σ = some σ') : Met l yX10_sneaks (Cond.code yX10_sneaks cX10_sneaks 6 none :: WS) (rmk 1 28) (PC [.ref (a 0), .int x1, .int x2] NM eM a cy D (fun _ => True) σ) (QV NM eM a cy D A σ') 0 0 A := by
  refine met_go (own := "GuardsLookLeftModel") O (by decide +kernel) rfl (Nat.le_of_ble_eq_true rfl) ?_
  intro p e s m args below meth c ls C hP hS hl
  have hx := C.hx
  have hb := C.hb
  have hl : lv_has ls 6 [(0, .ref (a 0)), (1, .int x1), (2, .int x2)] := hl
  obtain ⟨H, hH⟩ : ∃ H, H = s.heap := ⟨_, rfl⟩
  rw [← hH] at hP
  have hS : va_S A s.heap H [] := by rw [hH]; exact va_S.rf
  suffices g : W p l e (rmk 1 28) s m args below meth c H [] 0 0 (MQ below (QV NM eM a cy D A σ') args s 0 0 A) (F0 m 0 ls []) by rw [hH] at g; exact g
  clear hH
  obtain ⟨locs, hlocs⟩ : ∃ z : List Loc, z = [] := ⟨_, rfl⟩
  rw [← hlocs] at hS ⊢
  have hL30 : ∀ (k2 : Int32 → Int32 → Int32 → ST → Option ST) (hk2 : (∀ (v1 : Int32) (v2 : Int32) (v3 : Int32) (s0 : ST) (H : Heap) (locs : List Loc) (ls : Array Slot), k2 v1 v2 v3 s0 = some σ' → va_P D vwCl (wG NM eM a cy s0) H → va_S A s.heap H locs → lv_has ls 6 [(0, .ref (a 0)), (1, .int v1), (2, .int v2), (3, .int v3)] → W p l e (rmk 1 28) s m args below meth c H locs 0 0 (MQ below (QV NM eM a cy D A σ') args s 0 0 A) (F0 m 2 ls []))), (∀ (v1 : Int32) (v2 : Int32) (v3 : Int32) (t0 : Int64) (s0 : ST) (H : Heap) (locs : List Loc) (ls : Array Slot), f_X10_sneaks_L30 k2 v1 v2 v3 t0 s0 = some σ' → va_P D vwCl (wG NM eM a cy s0) H → va_S A s.heap H locs → lv_has ls 6 [(0, .ref (a 0)), (1, .int v1), (2, .int v2), (3, .int v3)] → W p l e (rmk 1 28) s m args below meth c H locs 0 0 (MQ below (QV NM eM a cy D A σ') args s 0 0 A) (F0 m 30 ls [.long t0])) := by
    intro k2 hk2 v1 v2 v3 t0 s0 H locs ls hf hP hS hl
    refine lv_lstore (lv' := [(4, .long t0), (0, .ref (a 0)), (1, .int v1), (2, .int v2), (3, .int v3)]) hx hb dX10_sneaks_30 hl (by decide) rfl (fun ls hl => ?_)
    refine lv_aload_n hx hb dX10_sneaks_32 rfl (lv_at hl 1 rfl) ?_
    refine gf_X10_39 C hP wk_4_236 dX10_sneaks_33 ?_
    refine lv_iload_n hx hb dX10_sneaks_36 rfl (lv_at hl 4 rfl) ?_
    refine lv_lload hx hb dX10_sneaks_37 (lv_at hl 0 rfl) ?_
    refine lv_aload_n hx hb dX10_sneaks_39 rfl (lv_at hl 1 rfl) ?_
    refine gf_X10_0 C hP wk_4_197 dX10_sneaks_40 ?_
    refine lv_iconst (v := (0 : Int32)) hx hb dX10_sneaks_43 (by decide) ?_
    refine r_lald C hP aM_1 (vp_lit (by decide)) dX10_sneaks_44 ?_
    refine lv_ldc2 hx hb C.hown (C.ts _ wk_5_104) dX10_sneaks_45 ?_
    refine lv_lxor hx hb dX10_sneaks_48 ?_
    refine lv_land hx hb dX10_sneaks_49 ?_
    refine lv_aload_n hx hb dX10_sneaks_50 rfl (lv_at hl 1 rfl) ?_
    refine lv_iload_n hx hb dX10_sneaks_51 rfl (lv_at hl 3 rfl) ?_
    refine lv_iload_n hx hb dX10_sneaks_52 rfl (lv_at hl 4 rfl) ?_
    refine lv_iadd hx hb dX10_sneaks_53 ?_
    refine lv_bipush (v := (24 : Int32)) hx hb dX10_sneaks_54 (by decide) ?_
    refine r_irem C dX10_sneaks_56 (by decide) ?_
    refine lv_aload_n hx hb dX10_sneaks_57 rfl (lv_at hl 1 rfl) ?_
    refine r_ci (r_runV (As := []) (rest := [.int (jrem (v2 + v3) (24 : Int32)), .ref (a 0), .long (t0 &&& ((gB s0 1 (Int32.toNatClampNeg (0 : Int32))) ^^^ (-1 : Int64))), .int v3, .ref (a 23)]) C hP hS (va_recv C.hK hP (q0 := 0) (ci := 10) rfl (by rw [g_at oM_10.1, oM_10.2])) (k_X10_allGuards (l := l) O (σ := s0) rfl) mw_X10_allGuards mi_X10_allGuards mv_X10_allGuards wk_5_221 ⟨Nat.le_of_ble_eq_true rfl, Nat.le_of_ble_eq_true rfl⟩ ⟨rfl, rfl⟩ ⟨Nat.zero_le _, Nat.zero_le _⟩ rfl hl.1 rfl (Nat.le_of_ble_eq_true rfl) dX10_sneaks_58) hS (fun H locs hP hS => ?_)
    refine jl_topi hf (fun y1 hf => ?_)
    obtain ⟨y3, hc, hf⟩ := jb_e hf
    refine r_cl (r_runV (As := [.int (jrem (v2 + v3) (24 : Int32)), .int y1]) (rest := [.long (t0 &&& ((gB s0 1 (Int32.toNatClampNeg (0 : Int32))) ^^^ (-1 : Int64))), .int v3, .ref (a 23)]) C hP hS (va_recv C.hK hP (q0 := 0) (ci := 10) rfl (by rw [g_at oM_10.1, oM_10.2])) (k_X10_seenAt (l := l) O (σ := s0) hc) mw_X10_seenAt mi_X10_seenAt mv_X10_seenAt wk_5_225 ⟨Nat.le_of_ble_eq_true rfl, Nat.le_of_ble_eq_true rfl⟩ ⟨rfl, rfl⟩ ⟨Nat.zero_le _, Nat.zero_le _⟩ rfl hl.1 rfl (Nat.le_of_ble_eq_true rfl) dX10_sneaks_61) hS (fun H locs hP hS => ?_)
    refine lv_ldc2 hx hb C.hown (C.ts _ wk_5_104) dX10_sneaks_64 ?_
    refine lv_lxor hx hb dX10_sneaks_67 ?_
    refine lv_land hx hb dX10_sneaks_68 ?_
    obtain ⟨hi5, hf⟩ := jix_e hf
    refine r_last C hP hS aM_23 hi5 dX10_sneaks_69 hf (fun H locs s6 hf hP hS => ?_)
    obtain ⟨y7, ey7, hf⟩ := jlet_e hf
    refine lv_iinc (v := y7) (lv' := [(3, .int y7), (4, .long t0), (0, .ref (a 0)), (1, .int v1), (2, .int v2)]) hx hb dX10_sneaks_70 hl (k := 4) rfl ey7 (by decide) rfl (fun ls hl => ?_)
    refine lv_goto (tgt := 2) hx hb dX10_sneaks_73 (by decide) ?_
    exact hk2 v1 v2 y7 s6 H locs ls hf hP hS (lv_sub hl [2, 3, 4, 0] rfl)
  have hL2 : ∀ (n : Nat), (∀ (v1 : Int32) (v2 : Int32) (v3 : Int32) (s0 : ST) (H : Heap) (locs : List Loc) (ls : Array Slot), f_X10_sneaks_L2 n v1 v2 v3 s0 = some σ' → va_P D vwCl (wG NM eM a cy s0) H → va_S A s.heap H locs → lv_has ls 6 [(0, .ref (a 0)), (1, .int v1), (2, .int v2), (3, .int v3)] → W p l e (rmk 1 28) s m args below meth c H locs 0 0 (MQ below (QV NM eM a cy D A σ') args s 0 0 A) (F0 m 2 ls [])) := by
    intro n
    induction n with
    | zero => intro v1 v2 v3 s0 H locs ls hf hP hS hl; exact no_o hf
    | succ n ih =>
      intro v1 v2 v3 s0 H locs ls hf hP hS hl
      have hf := (ef_X10_sneaks_L2 _ _ _ _).symm.trans hf
      refine lv_iload_n hx hb dX10_sneaks_2 rfl (lv_at hl 3 rfl) ?_
      refine lv_bipush (v := (24 : Int32)) hx hb dX10_sneaks_3 (by decide) ?_
      refine lv_icmp_gt (tgt := 76) hx hb dX10_sneaks_5 (by decide) (fun hc => ?_) (fun hc => ?_)
      · have hf := jif_t hc hf
        exact ret_v C hP hS (Option.some.inj hf) dX10_sneaks_76
      · have hf := jif_f hc hf
        refine lv_iload_n hx hb dX10_sneaks_8 rfl (lv_at hl 3 rfl) ?_
        refine lv_if_ne (tgt := 18) hx hb dX10_sneaks_9 (by decide) (fun hc => ?_) (fun hc => ?_)
        · have hf := jif_t hc hf
          refine lv_aload_n hx hb dX10_sneaks_18 rfl (lv_at hl 0 rfl) ?_
          refine lv_aload_n hx hb dX10_sneaks_19 rfl (lv_at hl 0 rfl) ?_
          refine gf_X10_39 C hP wk_4_236 dX10_sneaks_20 ?_
          refine lv_iload_n hx hb dX10_sneaks_23 rfl (lv_at hl 3 rfl) ?_
          refine lv_iconst (v := (1 : Int32)) hx hb dX10_sneaks_24 (by decide) ?_
          refine lv_isub hx hb dX10_sneaks_25 ?_
          obtain ⟨hi1, hf⟩ := jix_e hf
          refine r_lald C hP aM_23 hi1 dX10_sneaks_26 ?_
          refine r_cl (r_runV (As := [.long (gB s0 23 (Int32.toNatClampNeg (v3 - (1 : Int32))))]) (rest := []) C hP hS (va_recv C.hK hP (q0 := 0) (ci := 10) rfl (by rw [g_at oM_10.1, oM_10.2])) (k_X10_spread (l := l) O (σ := s0) rfl) mw_X10_spread mi_X10_spread mv_X10_spread wk_6_25 ⟨Nat.le_of_ble_eq_true rfl, Nat.le_of_ble_eq_true rfl⟩ ⟨rfl, rfl⟩ ⟨Nat.zero_le _, Nat.zero_le _⟩ rfl hl.1 rfl (Nat.le_of_ble_eq_true rfl) dX10_sneaks_27) hS (fun H locs hP hS => ?_)
          refine jl_topl hf (fun y2 hf => ?_)
          exact hL30 (f_X10_sneaks_L2 n) ih v1 v2 v3 y2 s0 H locs ls hf hP hS (lv_sub hl [0, 1, 2, 3] rfl)
        · have hf := jif_n hc hf
          refine lv_lconst (v := (1 : Int64)) hx hb dX10_sneaks_12 (by decide) ?_
          refine lv_iload_n hx hb dX10_sneaks_13 rfl (lv_at hl 1 rfl) ?_
          refine r_lshl C dX10_sneaks_14 ?_
          refine lv_goto (tgt := 30) hx hb dX10_sneaks_15 (by decide) ?_
          exact hL30 (f_X10_sneaks_L2 n) ih v1 v2 v3 (jlshl (1 : Int64) v1) s0 H locs ls hf hP hS (lv_sub hl [0, 1, 2, 3] rfl)
  refine lv_iconst (v := (0 : Int32)) hx hb dX10_sneaks_0 (by decide) ?_
  refine lv_istore_n (lv' := [(3, .int (0 : Int32)), (0, .ref (a 0)), (1, .int x1), (2, .int x2)]) hx hb dX10_sneaks_1 rfl hl (by decide) rfl (fun ls hl => ?_)
  exact hL2 FU x1 x2 (0 : Int32) σ H locs ls hf hP hS (lv_sub hl [1, 2, 3, 0] rfl)
set_option maxHeartbeats 4000000 in
set_option maxRecDepth 100000 in
theorem k_X10_soonest {l : Launch} {a : Nat → Nat} {cy : Nat → ClassId} {D : va_G} {A : Nat → Prop} (O : WO NM a (fun _ => True) A) {x1 : Int32} {r : Int32} {σ : ST} (hf : f_X10_soonest x1 σ = some r) : Met l yX10_soonest (Cond.code yX10_soonest cX10_soonest 3 (some .int) :: WS) (rmk 1 22) (PC [.ref (a 0), .int x1] NM eM a cy D (fun _ => True) σ) (QI NM eM a cy D A r σ) 0 0 A := by
  refine met_go (own := "GuardsLookLeftModel") O (by decide +kernel) rfl (Nat.le_of_ble_eq_true rfl) ?_
  intro p e s m args below meth c ls C hP hS hl
  have hx := C.hx
  have hb := C.hb
  have hl : lv_has ls 3 [(0, .ref (a 0)), (1, .int x1)] := hl
  obtain ⟨H, hH⟩ : ∃ H, H = s.heap := ⟨_, rfl⟩
  rw [← hH] at hP
  have hS : va_S A s.heap H [] := by rw [hH]; exact va_S.rf
  suffices g : W p l e (rmk 1 22) s m args below meth c H [] 0 0 (MQ below (QI NM eM a cy D A r σ) args s 0 0 A) (F0 m 0 ls []) by rw [hH] at g; exact g
  clear hH
  obtain ⟨locs, hlocs⟩ : ∃ z : List Loc, z = [] := ⟨_, rfl⟩
  rw [← hlocs] at hS ⊢
  have hL2 : ∀ (n : Nat), (∀ (v1 : Int32) (v2 : Int32) (H : Heap) (locs : List Loc) (ls : Array Slot), f_X10_soonest_L2 n v1 v2 σ = some r → va_P D vwCl (wG NM eM a cy σ) H → va_S A s.heap H locs → lv_has ls 3 [(0, .ref (a 0)), (1, .int v1), (2, .int v2)] → W p l e (rmk 1 22) s m args below meth c H locs 0 0 (MQ below (QI NM eM a cy D A r σ) args s 0 0 A) (F0 m 2 ls [])) := by
    intro n
    induction n with
    | zero => intro v1 v2 H locs ls hf hP hS hl; exact no_o hf
    | succ n ih =>
      intro v1 v2 H locs ls hf hP hS hl
      have hf := (ef_X10_soonest_L2 _ _ _).symm.trans hf
      refine lv_iload_n hx hb dX10_soonest_2 rfl (lv_at hl 2 rfl) ?_
      refine lv_bipush (v := (24 : Int32)) hx hb dX10_soonest_3 (by decide) ?_
      refine lv_icmp_gt (tgt := 29) hx hb dX10_soonest_5 (by decide) (fun hc => ?_) (fun hc => ?_)
      · have hf := jif_t hc hf
        refine lv_iconst (v := (-1 : Int32)) hx hb dX10_soonest_29 (by decide) ?_
        exact ret_i C hP hS (Option.some.inj hf) rfl dX10_soonest_30
      · have hf := jif_f hc hf
        refine lv_aload_n hx hb dX10_soonest_8 rfl (lv_at hl 0 rfl) ?_
        refine gf_X10_39 C hP wk_4_236 dX10_soonest_9 ?_
        refine lv_iload_n hx hb dX10_soonest_12 rfl (lv_at hl 2 rfl) ?_
        obtain ⟨hi1, hf⟩ := jix_e hf
        refine r_lald C hP aM_23 hi1 dX10_soonest_13 ?_
        refine lv_iload_n hx hb dX10_soonest_14 rfl (lv_at hl 1 rfl) ?_
        refine r_cz (r_runS (As := [.long (gB σ 23 (Int32.toNatClampNeg v2)), .int v1]) (rest := []) C hP hS (k_X10_has (l := l) O (σ := σ) rfl) mw_X10_has ms_X10_has wk_5_101 ⟨Nat.le_of_ble_eq_true rfl, Nat.le_of_ble_eq_true rfl⟩ ⟨rfl, rfl⟩ ⟨Nat.zero_le _, Nat.zero_le _⟩ rfl hl.1 rfl (Nat.le_of_ble_eq_true rfl) dX10_soonest_15) hS (fun H locs hzy2 hP hS => ?_)
        refine jl_topz hf hzy2 (fun y2 hzy2 hf => ?_)
        refine lv_if_eq (tgt := 23) hx hb dX10_soonest_18 (by decide) (fun hc => ?_) (fun hc => ?_)
        · have hf := jif_t hc hf
          obtain ⟨y4, ey4, hf⟩ := jlet_e hf
          refine lv_iinc (v := y4) (lv' := [(2, .int y4), (0, .ref (a 0)), (1, .int v1)]) hx hb dX10_soonest_23 hl (k := 2) rfl ey4 (by decide) rfl (fun ls hl => ?_)
          refine lv_goto (tgt := 2) hx hb dX10_soonest_26 (by decide) ?_
          exact ih v1 y4 H locs ls hf hP hS (lv_sub hl [1, 2, 0] rfl)
        · have hf := jif_f hc hf
          refine lv_iload_n hx hb dX10_soonest_21 rfl (lv_at hl 2 rfl) ?_
          exact ret_i C hP hS (Option.some.inj hf) rfl dX10_soonest_22
  refine lv_iconst (v := (0 : Int32)) hx hb dX10_soonest_0 (by decide) ?_
  refine lv_istore_n (lv' := [(2, .int (0 : Int32)), (0, .ref (a 0)), (1, .int x1)]) hx hb dX10_soonest_1 rfl hl (by decide) rfl (fun ls hl => ?_)
  exact hL2 FU x1 (0 : Int32) H locs ls hf hP hS (lv_sub hl [1, 2, 0] rfl)
set_option maxHeartbeats 4000000 in
set_option maxRecDepth 100000 in
theorem k_X10_soon {l : Launch} {a : Nat → Nat} {cy : Nat → ClassId} {D : va_G} {A : Nat → Prop} (O : WO NM a (fun _ => True) A) {x1 : Int32} {x2 : Int32} {x3 : Int32} {r : Int32} {σ : ST} {σ' : ST} (hf : f_X10_soon x1 x2 x3 σ = some (r, σ')) : Met l yX10_soon (Cond.code yX10_soon cX10_soon 4 (some .int) :: WS) (rmk 8 191) (PC [.ref (a 0), .int x1, .int x2, .int x3] NM eM a cy D (fun _ => True) σ) (QI NM eM a cy D A r σ') 0 0 A := by
  refine met_go (own := "GuardsLookLeftModel") O (by decide +kernel) rfl (Nat.le_of_ble_eq_true rfl) ?_
  intro p e s m args below meth c ls C hP hS hl
  have hx := C.hx
  have hb := C.hb
  have hl : lv_has ls 4 [(0, .ref (a 0)), (1, .int x1), (2, .int x2), (3, .int x3)] := hl
  obtain ⟨H, hH⟩ : ∃ H, H = s.heap := ⟨_, rfl⟩
  rw [← hH] at hP
  have hS : va_S A s.heap H [] := by rw [hH]; exact va_S.rf
  suffices g : W p l e (rmk 8 191) s m args below meth c H [] 0 0 (MQ below (QI NM eM a cy D A r σ') args s 0 0 A) (F0 m 0 ls []) by rw [hH] at g; exact g
  clear hH
  obtain ⟨locs, hlocs⟩ : ∃ z : List Loc, z = [] := ⟨_, rfl⟩
  rw [← hlocs] at hS ⊢
  refine lv_iload_n hx hb dX10_soon_0 rfl (lv_at hl 1 rfl) ?_
  refine r_cz (r_runS (As := [.int x1]) (rest := []) C hP hS (k_X10_isCell (l := l) O (σ := σ) rfl) mw_X10_isCell ms_X10_isCell wk_5_98 ⟨Nat.le_of_ble_eq_true rfl, Nat.le_of_ble_eq_true rfl⟩ ⟨rfl, rfl⟩ ⟨Nat.zero_le _, Nat.zero_le _⟩ rfl hl.1 rfl (Nat.le_of_ble_eq_true rfl) dX10_soon_1) hS (fun H locs hzy1 hP hS => ?_)
  refine jl_topz hf hzy1 (fun y1 hzy1 hf => ?_)
  refine lv_if_eq (tgt := 14) hx hb dX10_soon_4 (by decide) (fun hc => ?_) (fun hc => ?_)
  · have hf := jif_t hc hf
    refine lv_bipush (v := (-5 : Int32)) hx hb dX10_soon_14 (by decide) ?_
    exact ret_i C hP hS (Prod.mk.inj (Option.some.inj hf)).1 (Prod.mk.inj (Option.some.inj hf)).2 dX10_soon_16
  · have hf := jif_f hc hf
    refine lv_iload_n hx hb dX10_soon_7 rfl (lv_at hl 2 rfl) ?_
    refine r_cz (r_runS (As := [.int x2]) (rest := []) C hP hS (k_X10_isCell (l := l) O (σ := σ) rfl) mw_X10_isCell ms_X10_isCell wk_5_98 ⟨Nat.le_of_ble_eq_true rfl, Nat.le_of_ble_eq_true rfl⟩ ⟨rfl, rfl⟩ ⟨Nat.zero_le _, Nat.zero_le _⟩ rfl hl.1 rfl (Nat.le_of_ble_eq_true rfl) dX10_soon_8) hS (fun H locs hzy3 hP hS => ?_)
    refine jl_topz hf hzy3 (fun y3 hzy3 hf => ?_)
    refine lv_if_ne (tgt := 17) hx hb dX10_soon_11 (by decide) (fun hc => ?_) (fun hc => ?_)
    · have hf := jif_t hc hf
      refine lv_iload_n hx hb dX10_soon_17 rfl (lv_at hl 3 rfl) ?_
      refine r_cz (r_runS (As := [.int x3]) (rest := []) C hP hS (k_X10_isSecond (l := l) O (σ := σ) rfl) mw_X10_isSecond ms_X10_isSecond wk_5_128 ⟨Nat.le_of_ble_eq_true rfl, Nat.le_of_ble_eq_true rfl⟩ ⟨rfl, rfl⟩ ⟨Nat.zero_le _, Nat.zero_le _⟩ rfl hl.1 rfl (Nat.le_of_ble_eq_true rfl) dX10_soon_18) hS (fun H locs hzy5 hP hS => ?_)
      refine jl_topz hf hzy5 (fun y5 hzy5 hf => ?_)
      refine lv_if_ne (tgt := 27) hx hb dX10_soon_21 (by decide) (fun hc => ?_) (fun hc => ?_)
      · have hf := jif_t hc hf
        refine lv_aload_n hx hb dX10_soon_27 rfl (lv_at hl 0 rfl) ?_
        obtain ⟨s8, hc, hf⟩ := jb_e hf
        refine r_cv (r_runV (As := []) (rest := []) C hP hS (va_recv C.hK hP (q0 := 0) (ci := 10) rfl (by rw [g_at oM_10.1, oM_10.2])) (k_X10_watchesAll (l := l) O hc) mw_X10_watchesAll mi_X10_watchesAll mv_X10_watchesAll wk_5_213 ⟨Nat.le_of_ble_eq_true rfl, Nat.le_of_ble_eq_true rfl⟩ ⟨rfl, rfl⟩ ⟨Nat.zero_le _, Nat.zero_le _⟩ rfl hl.1 rfl (Nat.le_of_ble_eq_true rfl) dX10_soon_28) hS (fun H locs hP hS => ?_)
        refine lv_aload_n hx hb dX10_soon_31 rfl (lv_at hl 0 rfl) ?_
        refine lv_iload_n hx hb dX10_soon_32 rfl (lv_at hl 1 rfl) ?_
        refine lv_iload_n hx hb dX10_soon_33 rfl (lv_at hl 3 rfl) ?_
        obtain ⟨s10, hc, hf⟩ := jb_e hf
        refine r_cv (r_runV (As := [.int x1, .int x3]) (rest := []) C hP hS (va_recv C.hK hP (q0 := 0) (ci := 10) rfl (by rw [g_at oM_10.1, oM_10.2])) (k_X10_sneaks (l := l) O hc) mw_X10_sneaks mi_X10_sneaks mv_X10_sneaks wk_6_21 ⟨Nat.le_of_ble_eq_true rfl, Nat.le_of_ble_eq_true rfl⟩ ⟨rfl, rfl⟩ ⟨Nat.zero_le _, Nat.zero_le _⟩ rfl hl.1 rfl (Nat.le_of_ble_eq_true rfl) dX10_soon_34) hS (fun H locs hP hS => ?_)
        refine lv_aload_n hx hb dX10_soon_37 rfl (lv_at hl 0 rfl) ?_
        refine lv_iload_n hx hb dX10_soon_38 rfl (lv_at hl 2 rfl) ?_
        obtain ⟨y11, hc, hf⟩ := jb_e hf
        refine r_ci (r_runV (As := [.int x2]) (rest := []) C hP hS (va_recv C.hK hP (q0 := 0) (ci := 10) rfl (by rw [g_at oM_10.1, oM_10.2])) (k_X10_soonest (l := l) O (σ := s10) hc) mw_X10_soonest mi_X10_soonest mv_X10_soonest wk_6_31 ⟨Nat.le_of_ble_eq_true rfl, Nat.le_of_ble_eq_true rfl⟩ ⟨rfl, rfl⟩ ⟨Nat.zero_le _, Nat.zero_le _⟩ rfl hl.1 rfl (Nat.le_of_ble_eq_true rfl) dX10_soon_39) hS (fun H locs hP hS => ?_)
        exact ret_i C hP hS (Prod.mk.inj (Option.some.inj hf)).1 (Prod.mk.inj (Option.some.inj hf)).2 dX10_soon_42
      · have hf := jif_n hc hf
        refine lv_bipush (v := (-7 : Int32)) hx hb dX10_soon_24 (by decide) ?_
        exact ret_i C hP hS (Prod.mk.inj (Option.some.inj hf)).1 (Prod.mk.inj (Option.some.inj hf)).2 dX10_soon_26
    · have hf := jif_n hc hf
      refine lv_bipush (v := (-5 : Int32)) hx hb dX10_soon_14 (by decide) ?_
      exact ret_i C hP hS (Prod.mk.inj (Option.some.inj hf)).1 (Prod.mk.inj (Option.some.inj hf)).2 dX10_soon_16
set_option maxHeartbeats 4000000 in
set_option maxRecDepth 100000 in
theorem k_X10_was {l : Launch} {a : Nat → Nat} {cy : Nat → ClassId} {D : va_G} {A : Nat → Prop} (O : WO NM a (fun _ => True) A) {x1 : Int32} {x2 : Int32} {r : Int32} {σ : ST} (hf : f_X10_was x1 x2 σ = some r) : Met l yX10_was (Cond.code yX10_was cX10_was 5 (some .int) :: WS) (rmk 2 47) (PC [.ref (a 0), .int x1, .int x2] NM eM a cy D (fun _ => True) σ) (QI NM eM a cy D A r σ) 0 0 A := by
  refine met_go (own := "GuardsLookLeftModel") O (by decide +kernel) rfl (Nat.le_of_ble_eq_true rfl) ?_
  intro p e s m args below meth c ls C hP hS hl
  have hx := C.hx
  have hb := C.hb
  have hl : lv_has ls 5 [(0, .ref (a 0)), (1, .int x1), (2, .int x2)] := hl
  obtain ⟨H, hH⟩ : ∃ H, H = s.heap := ⟨_, rfl⟩
  rw [← hH] at hP
  have hS : va_S A s.heap H [] := by rw [hH]; exact va_S.rf
  suffices g : W p l e (rmk 2 47) s m args below meth c H [] 0 0 (MQ below (QI NM eM a cy D A r σ) args s 0 0 A) (F0 m 0 ls []) by rw [hH] at g; exact g
  clear hH
  obtain ⟨locs, hlocs⟩ : ∃ z : List Loc, z = [] := ⟨_, rfl⟩
  rw [← hlocs] at hS ⊢
  have hL53 : ∀ (k17 : Int32 → Int32 → Int32 → ST → Option Int32) (hk17 : (∀ (v1 : Int32) (v2 : Int32) (v3 : Int32) (H : Heap) (locs : List Loc) (ls : Array Slot), k17 v1 v2 v3 σ = some r → va_P D vwCl (wG NM eM a cy σ) H → va_S A s.heap H locs → lv_has ls 5 [(0, .ref (a 0)), (1, .int v1), (2, .int v2), (3, .int v3)] → W p l e (rmk 2 47) s m args below meth c H locs 0 0 (MQ below (QI NM eM a cy D A r σ) args s 0 0 A) (F0 m 17 ls []))), (∀ (v1 : Int32) (v2 : Int32) (v3 : Int32) (H : Heap) (locs : List Loc) (ls : Array Slot), f_X10_was_L53 k17 v1 v2 v3 σ = some r → va_P D vwCl (wG NM eM a cy σ) H → va_S A s.heap H locs → lv_has ls 5 [(0, .ref (a 0)), (1, .int v1), (2, .int v2), (3, .int v3)] → W p l e (rmk 2 47) s m args below meth c H locs 0 0 (MQ below (QI NM eM a cy D A r σ) args s 0 0 A) (F0 m 53 ls [])) := by
    intro k17 hk17 v1 v2 v3 H locs ls hf hP hS hl
    obtain ⟨y1, ey1, hf⟩ := jlet_e hf
    refine lv_iinc (v := y1) (lv' := [(3, .int y1), (0, .ref (a 0)), (1, .int v1), (2, .int v2)]) hx hb dX10_was_53 hl (k := 3) rfl ey1 (by decide) rfl (fun ls hl => ?_)
    refine lv_goto (tgt := 17) hx hb dX10_was_56 (by decide) ?_
    exact hk17 v1 v2 y1 H locs ls hf hP hS (lv_sub hl [1, 2, 3, 0] rfl)
  have hL17 : ∀ (n : Nat), (∀ (v1 : Int32) (v2 : Int32) (v3 : Int32) (H : Heap) (locs : List Loc) (ls : Array Slot), f_X10_was_L17 n v1 v2 v3 σ = some r → va_P D vwCl (wG NM eM a cy σ) H → va_S A s.heap H locs → lv_has ls 5 [(0, .ref (a 0)), (1, .int v1), (2, .int v2), (3, .int v3)] → W p l e (rmk 2 47) s m args below meth c H locs 0 0 (MQ below (QI NM eM a cy D A r σ) args s 0 0 A) (F0 m 17 ls [])) := by
    intro n
    induction n with
    | zero => intro v1 v2 v3 H locs ls hf hP hS hl; exact no_o hf
    | succ n ih =>
      intro v1 v2 v3 H locs ls hf hP hS hl
      have hf := (ef_X10_was_L17 _ _ _ _).symm.trans hf
      refine lv_iload_n hx hb dX10_was_17 rfl (lv_at hl 3 rfl) ?_
      refine lv_iconst (v := (4 : Int32)) hx hb dX10_was_18 (by decide) ?_
      refine lv_icmp_ge (tgt := 59) hx hb dX10_was_19 (by decide) (fun hc => ?_) (fun hc => ?_)
      · have hf := jif_t hc hf
        refine lv_iconst (v := (-1 : Int32)) hx hb dX10_was_59 (by decide) ?_
        exact ret_i C hP hS (Option.some.inj hf) rfl dX10_was_60
      · have hf := jif_f hc hf
        refine lv_aload_n hx hb dX10_was_22 rfl (lv_at hl 0 rfl) ?_
        refine lv_iload_n hx hb dX10_was_23 rfl (lv_at hl 1 rfl) ?_
        refine lv_iload_n hx hb dX10_was_24 rfl (lv_at hl 3 rfl) ?_
        refine r_ci (r_runV (As := [.int v1, .int v3]) (rest := []) C hP hS (va_recv C.hK hP (q0 := 0) (ci := 10) rfl (by rw [g_at oM_10.1, oM_10.2])) (k_X10_beside (l := l) O (σ := σ) rfl) mw_X10_beside mi_X10_beside mv_X10_beside wk_5_173 ⟨Nat.le_of_ble_eq_true rfl, Nat.le_of_ble_eq_true rfl⟩ ⟨rfl, rfl⟩ ⟨Nat.zero_le _, Nat.zero_le _⟩ rfl hl.1 rfl (Nat.le_of_ble_eq_true rfl) dX10_was_25) hS (fun H locs hP hS => ?_)
        refine jl_topi hf (fun y1 hf => ?_)
        refine lv_istore (lv' := [(4, .int y1), (0, .ref (a 0)), (1, .int v1), (2, .int v2), (3, .int v3)]) hx hb dX10_was_28 hl (by decide) rfl (fun ls hl => ?_)
        refine lv_iload hx hb dX10_was_30 (lv_at hl 0 rfl) ?_
        refine lv_iconst (v := (-1 : Int32)) hx hb dX10_was_32 (by decide) ?_
        refine lv_icmp_eq (tgt := 53) hx hb dX10_was_33 (by decide) (fun hc => ?_) (fun hc => ?_)
        · have hf := jif_t hc hf
          exact hL53 (f_X10_was_L17 n) ih v1 v2 v3 H locs ls hf hP hS (lv_sub hl [1, 2, 3, 4] rfl)
        · have hf := jif_f hc hf
          refine lv_aload_n hx hb dX10_was_36 rfl (lv_at hl 1 rfl) ?_
          refine gf_X10_39 C hP wk_4_236 dX10_was_37 ?_
          refine lv_iload_n hx hb dX10_was_40 rfl (lv_at hl 3 rfl) ?_
          obtain ⟨hi3, hf⟩ := jix_e hf
          refine r_lald C hP aM_23 hi3 dX10_was_41 ?_
          refine lv_iload hx hb dX10_was_42 (lv_at hl 0 rfl) ?_
          refine r_cz (r_runS (As := [.long (gB σ 23 (Int32.toNatClampNeg v2)), .int y1]) (rest := []) C hP hS (k_X10_has (l := l) O (σ := σ) rfl) mw_X10_has ms_X10_has wk_5_101 ⟨Nat.le_of_ble_eq_true rfl, Nat.le_of_ble_eq_true rfl⟩ ⟨rfl, rfl⟩ ⟨Nat.zero_le _, Nat.zero_le _⟩ rfl hl.1 rfl (Nat.le_of_ble_eq_true rfl) dX10_was_44) hS (fun H locs hzy4 hP hS => ?_)
          refine jl_topz hf hzy4 (fun y4 hzy4 hf => ?_)
          refine lv_if_eq (tgt := 53) hx hb dX10_was_47 (by decide) (fun hc => ?_) (fun hc => ?_)
          · have hf := jif_t hc hf
            exact hL53 (f_X10_was_L17 n) ih v1 v2 v3 H locs ls hf hP hS (lv_sub hl [1, 2, 3, 4] rfl)
          · have hf := jif_f hc hf
            refine lv_iload hx hb dX10_was_50 (lv_at hl 0 rfl) ?_
            exact ret_i C hP hS (Option.some.inj hf) rfl dX10_was_52
  refine lv_aload_n hx hb dX10_was_0 rfl (lv_at hl 0 rfl) ?_
  refine gf_X10_39 C hP wk_4_236 dX10_was_1 ?_
  refine lv_iload_n hx hb dX10_was_4 rfl (lv_at hl 2 rfl) ?_
  obtain ⟨hi1, hf⟩ := jix_e hf
  refine r_lald C hP aM_23 hi1 dX10_was_5 ?_
  refine lv_iload_n hx hb dX10_was_6 rfl (lv_at hl 1 rfl) ?_
  refine r_cz (r_runS (As := [.long (gB σ 23 (Int32.toNatClampNeg x2)), .int x1]) (rest := []) C hP hS (k_X10_has (l := l) O (σ := σ) rfl) mw_X10_has ms_X10_has wk_5_101 ⟨Nat.le_of_ble_eq_true rfl, Nat.le_of_ble_eq_true rfl⟩ ⟨rfl, rfl⟩ ⟨Nat.zero_le _, Nat.zero_le _⟩ rfl hl.1 rfl (Nat.le_of_ble_eq_true rfl) dX10_was_7) hS (fun H locs hzy2 hP hS => ?_)
  refine jl_topz hf hzy2 (fun y2 hzy2 hf => ?_)
  refine lv_if_eq (tgt := 15) hx hb dX10_was_10 (by decide) (fun hc => ?_) (fun hc => ?_)
  · have hf := jif_t hc hf
    refine lv_iconst (v := (0 : Int32)) hx hb dX10_was_15 (by decide) ?_
    refine lv_istore_n (lv' := [(3, .int (0 : Int32)), (0, .ref (a 0)), (1, .int x1), (2, .int x2)]) hx hb dX10_was_16 rfl hl (by decide) rfl (fun ls hl => ?_)
    exact hL17 FU x1 x2 (0 : Int32) H locs ls hf hP hS (lv_sub hl [1, 2, 3, 0] rfl)
  · have hf := jif_f hc hf
    refine lv_iload_n hx hb dX10_was_13 rfl (lv_at hl 1 rfl) ?_
    exact ret_i C hP hS (Option.some.inj hf) rfl dX10_was_14
set_option maxHeartbeats 4000000 in
set_option maxRecDepth 100000 in
theorem k_X10_path {l : Launch} {a : Nat → Nat} {cy : Nat → ClassId} {D : va_G} {A : Nat → Prop} (O : WO NM a (fun _ => True) A) {x1 : Int32} {x2 : Int32} {x3 : Int32} {x4 : Int32} {r : Int32} {σ : ST} {σ' : ST} (hf : f_X10_path x1 x2 x3 x4 σ = some (r, σ')) : Met l yX10_path (Cond.code yX10_path cX10_path 8 (some .int) :: WS) (rmk 8 191) (PC [.ref (a 0), .int x1, .int x2, .int x3, .int x4] NM eM a cy D (fun _ => True) σ) (QI NM eM a cy D A r σ') 0 0 A := by
  refine met_go (own := "GuardsLookLeftModel") O (by decide +kernel) rfl (Nat.le_of_ble_eq_true rfl) ?_
  intro p e s m args below meth c ls C hP hS hl
  have hx := C.hx
  have hb := C.hb
  have hl : lv_has ls 8 [(0, .ref (a 0)), (1, .int x1), (2, .int x2), (3, .int x3), (4, .int x4)] := hl
  obtain ⟨H, hH⟩ : ∃ H, H = s.heap := ⟨_, rfl⟩
  rw [← hH] at hP
  have hS : va_S A s.heap H [] := by rw [hH]; exact va_S.rf
  suffices g : W p l e (rmk 8 191) s m args below meth c H [] 0 0 (MQ below (QI NM eM a cy D A r σ') args s 0 0 A) (F0 m 0 ls []) by rw [hH] at g; exact g
  clear hH
  obtain ⟨locs, hlocs⟩ : ∃ z : List Loc, z = [] := ⟨_, rfl⟩
  rw [← hlocs] at hS ⊢
  have hL62 : ∀ (n : Nat), (∀ (v4 : Int32) (v5 : Int32) (v6 : Int32) (v7 : Int32) (s0 : ST) (H : Heap) (locs : List Loc) (ls : Array Slot), f_X10_path_L62 n v4 v5 v6 v7 s0 = some (r, σ') → va_P D vwCl (wG NM eM a cy s0) H → va_S A s.heap H locs → lv_has ls 8 [(0, .ref (a 0)), (4, .int v4), (5, .int v5), (6, .int v6), (7, .int v7)] → W p l e (rmk 8 191) s m args below meth c H locs 0 0 (MQ below (QI NM eM a cy D A r σ') args s 0 0 A) (F0 m 62 ls [])) := by
    intro n
    induction n with
    | zero => intro v4 v5 v6 v7 s0 H locs ls hf hP hS hl; exact no_o hf
    | succ n ih =>
      intro v4 v5 v6 v7 s0 H locs ls hf hP hS hl
      have hf := (ef_X10_path_L62 _ _ _ _ _).symm.trans hf
      refine lv_iload hx hb dX10_path_62 (lv_at hl 4 rfl) ?_
      refine lv_iload hx hb dX10_path_64 (lv_at hl 1 rfl) ?_
      refine lv_icmp_le (tgt := 87) hx hb dX10_path_66 (by decide) (fun hc => ?_) (fun hc => ?_)
      · have hf := jif_t hc hf
        refine lv_iload hx hb dX10_path_87 (lv_at hl 2 rfl) ?_
        refine lv_iconst (v := (-1 : Int32)) hx hb dX10_path_89 (by decide) ?_
        refine lv_icmp_eq (tgt := 100) hx hb dX10_path_90 (by decide) (fun hc => ?_) (fun hc => ?_)
        · have hf := jif_t hc hf
          refine lv_iconst (v := (-1 : Int32)) hx hb dX10_path_100 (by decide) ?_
          refine lv_goto (tgt := 106) hx hb dX10_path_101 (by decide) ?_
          exact ret_i C hP hS (Prod.mk.inj (Option.some.inj hf)).1 (Prod.mk.inj (Option.some.inj hf)).2 dX10_path_106
        · have hf := jif_f hc hf
          refine lv_iload hx hb dX10_path_93 (lv_at hl 1 rfl) ?_
          refine lv_iload hx hb dX10_path_95 (lv_at hl 2 rfl) ?_
          refine lv_icmp_le (tgt := 104) hx hb dX10_path_97 (by decide) (fun hc => ?_) (fun hc => ?_)
          · have hf := jif_t hc hf
            refine lv_iload hx hb dX10_path_104 (lv_at hl 3 rfl) ?_
            exact ret_i C hP hS (Prod.mk.inj (Option.some.inj hf)).1 (Prod.mk.inj (Option.some.inj hf)).2 dX10_path_106
          · have hf := jif_f hc hf
            refine lv_iconst (v := (-1 : Int32)) hx hb dX10_path_100 (by decide) ?_
            refine lv_goto (tgt := 106) hx hb dX10_path_101 (by decide) ?_
            exact ret_i C hP hS (Prod.mk.inj (Option.some.inj hf)).1 (Prod.mk.inj (Option.some.inj hf)).2 dX10_path_106
      · have hf := jif_f hc hf
        refine lv_aload_n hx hb dX10_path_69 rfl (lv_at hl 0 rfl) ?_
        refine lv_iload hx hb dX10_path_70 (lv_at hl 3 rfl) ?_
        refine lv_iload hx hb dX10_path_72 (lv_at hl 4 rfl) ?_
        refine lv_iconst (v := (1 : Int32)) hx hb dX10_path_74 (by decide) ?_
        refine lv_isub hx hb dX10_path_75 ?_
        obtain ⟨y1, hc, hf⟩ := jb_e hf
        refine r_ci (r_runV (As := [.int v6, .int (v7 - (1 : Int32))]) (rest := []) C hP hS (va_recv C.hK hP (q0 := 0) (ci := 10) rfl (by rw [g_at oM_10.1, oM_10.2])) (k_X10_was (l := l) O (σ := s0) hc) mw_X10_was mi_X10_was mv_X10_was wk_6_39 ⟨Nat.le_of_ble_eq_true rfl, Nat.le_of_ble_eq_true rfl⟩ ⟨rfl, rfl⟩ ⟨Nat.zero_le _, Nat.zero_le _⟩ rfl hl.1 rfl (Nat.le_of_ble_eq_true rfl) dX10_path_76) hS (fun H locs hP hS => ?_)
        refine lv_istore (lv' := [(6, .int y1), (0, .ref (a 0)), (4, .int v4), (5, .int v5), (7, .int v7)]) hx hb dX10_path_79 hl (by decide) rfl (fun ls hl => ?_)
        obtain ⟨y3, ey3, hf⟩ := jlet_e hf
        refine lv_iinc (v := y3) (lv' := [(7, .int y3), (6, .int y1), (0, .ref (a 0)), (4, .int v4), (5, .int v5)]) hx hb dX10_path_81 hl (k := 4) rfl ey3 (by decide) rfl (fun ls hl => ?_)
        refine lv_goto (tgt := 62) hx hb dX10_path_84 (by decide) ?_
        exact ih v4 v5 y1 y3 s0 H locs ls hf hP hS (lv_sub hl [2, 3, 4, 1, 0] rfl)
  refine lv_iload_n hx hb dX10_path_0 rfl (lv_at hl 1 rfl) ?_
  refine r_cz (r_runS (As := [.int x1]) (rest := []) C hP hS (k_X10_isCell (l := l) O (σ := σ) rfl) mw_X10_isCell ms_X10_isCell wk_5_98 ⟨Nat.le_of_ble_eq_true rfl, Nat.le_of_ble_eq_true rfl⟩ ⟨rfl, rfl⟩ ⟨Nat.zero_le _, Nat.zero_le _⟩ rfl hl.1 rfl (Nat.le_of_ble_eq_true rfl) dX10_path_1) hS (fun H locs hzy1 hP hS => ?_)
  refine jl_topz hf hzy1 (fun y1 hzy1 hf => ?_)
  refine lv_if_eq (tgt := 14) hx hb dX10_path_4 (by decide) (fun hc => ?_) (fun hc => ?_)
  · have hf := jif_t hc hf
    refine lv_bipush (v := (-5 : Int32)) hx hb dX10_path_14 (by decide) ?_
    exact ret_i C hP hS (Prod.mk.inj (Option.some.inj hf)).1 (Prod.mk.inj (Option.some.inj hf)).2 dX10_path_16
  · have hf := jif_f hc hf
    refine lv_iload_n hx hb dX10_path_7 rfl (lv_at hl 2 rfl) ?_
    refine r_cz (r_runS (As := [.int x2]) (rest := []) C hP hS (k_X10_isCell (l := l) O (σ := σ) rfl) mw_X10_isCell ms_X10_isCell wk_5_98 ⟨Nat.le_of_ble_eq_true rfl, Nat.le_of_ble_eq_true rfl⟩ ⟨rfl, rfl⟩ ⟨Nat.zero_le _, Nat.zero_le _⟩ rfl hl.1 rfl (Nat.le_of_ble_eq_true rfl) dX10_path_8) hS (fun H locs hzy3 hP hS => ?_)
    refine jl_topz hf hzy3 (fun y3 hzy3 hf => ?_)
    refine lv_if_ne (tgt := 17) hx hb dX10_path_11 (by decide) (fun hc => ?_) (fun hc => ?_)
    · have hf := jif_t hc hf
      refine lv_iload_n hx hb dX10_path_17 rfl (lv_at hl 3 rfl) ?_
      refine r_cz (r_runS (As := [.int x3]) (rest := []) C hP hS (k_X10_isSecond (l := l) O (σ := σ) rfl) mw_X10_isSecond ms_X10_isSecond wk_5_128 ⟨Nat.le_of_ble_eq_true rfl, Nat.le_of_ble_eq_true rfl⟩ ⟨rfl, rfl⟩ ⟨Nat.zero_le _, Nat.zero_le _⟩ rfl hl.1 rfl (Nat.le_of_ble_eq_true rfl) dX10_path_18) hS (fun H locs hzy5 hP hS => ?_)
      refine jl_topz hf hzy5 (fun y5 hzy5 hf => ?_)
      refine lv_if_eq (tgt := 35) hx hb dX10_path_21 (by decide) (fun hc => ?_) (fun hc => ?_)
      · have hf := jif_t hc hf
        refine lv_bipush (v := (-7 : Int32)) hx hb dX10_path_35 (by decide) ?_
        exact ret_i C hP hS (Prod.mk.inj (Option.some.inj hf)).1 (Prod.mk.inj (Option.some.inj hf)).2 dX10_path_37
      · have hf := jif_f hc hf
        refine lv_iload hx hb dX10_path_24 (lv_at hl 4 rfl) ?_
        refine lv_iconst (v := (0 : Int32)) hx hb dX10_path_26 (by decide) ?_
        refine lv_bipush (v := (24 : Int32)) hx hb dX10_path_27 (by decide) ?_
        refine r_cz (r_runS (As := [.int x4, .int (0 : Int32), .int (24 : Int32)]) (rest := []) C hP hS (k_X10_in (l := l) O (σ := σ) rfl) mw_X10_in ms_X10_in wk_4_158 ⟨Nat.le_of_ble_eq_true rfl, Nat.le_of_ble_eq_true rfl⟩ ⟨rfl, rfl⟩ ⟨Nat.zero_le _, Nat.zero_le _⟩ rfl hl.1 rfl (Nat.le_of_ble_eq_true rfl) dX10_path_29) hS (fun H locs hzy7 hP hS => ?_)
        refine jl_topz hf hzy7 (fun y7 hzy7 hf => ?_)
        refine lv_if_ne (tgt := 38) hx hb dX10_path_32 (by decide) (fun hc => ?_) (fun hc => ?_)
        · have hf := jif_t hc hf
          refine lv_aload_n hx hb dX10_path_38 rfl (lv_at hl 0 rfl) ?_
          obtain ⟨s10, hc, hf⟩ := jb_e hf
          refine r_cv (r_runV (As := []) (rest := []) C hP hS (va_recv C.hK hP (q0 := 0) (ci := 10) rfl (by rw [g_at oM_10.1, oM_10.2])) (k_X10_watchesAll (l := l) O hc) mw_X10_watchesAll mi_X10_watchesAll mv_X10_watchesAll wk_5_213 ⟨Nat.le_of_ble_eq_true rfl, Nat.le_of_ble_eq_true rfl⟩ ⟨rfl, rfl⟩ ⟨Nat.zero_le _, Nat.zero_le _⟩ rfl hl.1 rfl (Nat.le_of_ble_eq_true rfl) dX10_path_39) hS (fun H locs hP hS => ?_)
          refine lv_aload_n hx hb dX10_path_42 rfl (lv_at hl 0 rfl) ?_
          refine lv_iload_n hx hb dX10_path_43 rfl (lv_at hl 1 rfl) ?_
          refine lv_iload_n hx hb dX10_path_44 rfl (lv_at hl 3 rfl) ?_
          obtain ⟨s12, hc, hf⟩ := jb_e hf
          refine r_cv (r_runV (As := [.int x1, .int x3]) (rest := []) C hP hS (va_recv C.hK hP (q0 := 0) (ci := 10) rfl (by rw [g_at oM_10.1, oM_10.2])) (k_X10_sneaks (l := l) O hc) mw_X10_sneaks mi_X10_sneaks mv_X10_sneaks wk_6_21 ⟨Nat.le_of_ble_eq_true rfl, Nat.le_of_ble_eq_true rfl⟩ ⟨rfl, rfl⟩ ⟨Nat.zero_le _, Nat.zero_le _⟩ rfl hl.1 rfl (Nat.le_of_ble_eq_true rfl) dX10_path_45) hS (fun H locs hP hS => ?_)
          refine lv_aload_n hx hb dX10_path_48 rfl (lv_at hl 0 rfl) ?_
          refine lv_iload_n hx hb dX10_path_49 rfl (lv_at hl 2 rfl) ?_
          obtain ⟨y13, hc, hf⟩ := jb_e hf
          refine r_ci (r_runV (As := [.int x2]) (rest := []) C hP hS (va_recv C.hK hP (q0 := 0) (ci := 10) rfl (by rw [g_at oM_10.1, oM_10.2])) (k_X10_soonest (l := l) O (σ := s12) hc) mw_X10_soonest mi_X10_soonest mv_X10_soonest wk_6_31 ⟨Nat.le_of_ble_eq_true rfl, Nat.le_of_ble_eq_true rfl⟩ ⟨rfl, rfl⟩ ⟨Nat.zero_le _, Nat.zero_le _⟩ rfl hl.1 rfl (Nat.le_of_ble_eq_true rfl) dX10_path_50) hS (fun H locs hP hS => ?_)
          refine lv_istore (lv' := [(5, .int y13), (0, .ref (a 0)), (1, .int x1), (2, .int x2), (3, .int x3), (4, .int x4)]) hx hb dX10_path_53 hl (by decide) rfl (fun ls hl => ?_)
          refine lv_iload_n hx hb dX10_path_55 rfl (lv_at hl 3 rfl) ?_
          refine lv_istore (lv' := [(6, .int x2), (5, .int y13), (0, .ref (a 0)), (1, .int x1), (2, .int x2), (3, .int x3), (4, .int x4)]) hx hb dX10_path_56 hl (by decide) rfl (fun ls hl => ?_)
          refine lv_iload hx hb dX10_path_58 (lv_at hl 1 rfl) ?_
          refine lv_istore (lv' := [(7, .int y13), (6, .int x2), (5, .int y13), (0, .ref (a 0)), (1, .int x1), (2, .int x2), (3, .int x3), (4, .int x4)]) hx hb dX10_path_60 hl (by decide) rfl (fun ls hl => ?_)
          exact hL62 FU x4 y13 x2 y13 s12 H locs ls hf hP hS (lv_sub hl [3, 7, 2, 1, 0] rfl)
        · have hf := jif_n hc hf
          refine lv_bipush (v := (-7 : Int32)) hx hb dX10_path_35 (by decide) ?_
          exact ret_i C hP hS (Prod.mk.inj (Option.some.inj hf)).1 (Prod.mk.inj (Option.some.inj hf)).2 dX10_path_37
    · have hf := jif_n hc hf
      refine lv_bipush (v := (-5 : Int32)) hx hb dX10_path_14 (by decide) ?_
      exact ret_i C hP hS (Prod.mk.inj (Option.some.inj hf)).1 (Prod.mk.inj (Option.some.inj hf)).2 dX10_path_16
set_option maxHeartbeats 4000000 in
set_option maxRecDepth 100000 in
theorem k_X10_hides {l : Launch} {a : Nat → Nat} {cy : Nat → ClassId} {D : va_G} {A : Nat → Prop} (O : WO NM a (fun _ => True) A) {x1 : Int32} {x2 : Int32} {x3 : Int32} {r : Int64} {σ : ST} {σ' : ST} (hf : f_X10_hides x1 x2 x3 σ = some (r, σ')) : Met l yX10_hides (Cond.code yX10_hides cX10_hides 4 (some .long) :: WS) (rmk 8 191) (PC [.ref (a 0), .int x1, .int x2, .int x3] NM eM a cy D (fun _ => True) σ) (QL NM eM a cy D A r σ') 0 0 A := by
  refine met_go (own := "GuardsLookLeftModel") O (by decide +kernel) rfl (Nat.le_of_ble_eq_true rfl) ?_
  intro p e s m args below meth c ls C hP hS hl
  have hx := C.hx
  have hb := C.hb
  have hl : lv_has ls 4 [(0, .ref (a 0)), (1, .int x1), (2, .int x2), (3, .int x3)] := hl
  obtain ⟨H, hH⟩ : ∃ H, H = s.heap := ⟨_, rfl⟩
  rw [← hH] at hP
  have hS : va_S A s.heap H [] := by rw [hH]; exact va_S.rf
  suffices g : W p l e (rmk 8 191) s m args below meth c H [] 0 0 (MQ below (QL NM eM a cy D A r σ') args s 0 0 A) (F0 m 0 ls []) by rw [hH] at g; exact g
  clear hH
  obtain ⟨locs, hlocs⟩ : ∃ z : List Loc, z = [] := ⟨_, rfl⟩
  rw [← hlocs] at hS ⊢
  have hL24 : (∀ (s0 : ST) (H : Heap) (locs : List Loc) (ls : Array Slot), f_X10_hides_L24 s0 = some (r, σ') → va_P D vwCl (wG NM eM a cy s0) H → va_S A s.heap H locs → lv_has ls 4 [] → W p l e (rmk 8 191) s m args below meth c H locs 0 0 (MQ below (QL NM eM a cy D A r σ') args s 0 0 A) (F0 m 24 ls [])) := by
    intro s0 H locs ls hf hP hS hl
    refine lv_ldc2 hx hb C.hown (C.ts _ wk_5_89) dX10_hides_24 ?_
    exact ret_l C hP hS (Prod.mk.inj (Option.some.inj hf)).1 (Prod.mk.inj (Option.some.inj hf)).2 dX10_hides_27
  refine lv_iload_n hx hb dX10_hides_0 rfl (lv_at hl 1 rfl) ?_
  refine r_cz (r_runS (As := [.int x1]) (rest := []) C hP hS (k_X10_isCell (l := l) O (σ := σ) rfl) mw_X10_isCell ms_X10_isCell wk_5_98 ⟨Nat.le_of_ble_eq_true rfl, Nat.le_of_ble_eq_true rfl⟩ ⟨rfl, rfl⟩ ⟨Nat.zero_le _, Nat.zero_le _⟩ rfl hl.1 rfl (Nat.le_of_ble_eq_true rfl) dX10_hides_1) hS (fun H locs hzy1 hP hS => ?_)
  refine jl_topz hf hzy1 (fun y1 hzy1 hf => ?_)
  refine lv_if_eq (tgt := 24) hx hb dX10_hides_4 (by decide) (fun hc => ?_) (fun hc => ?_)
  · have hf := jif_t hc hf
    exact hL24 σ H locs ls hf hP hS (lv_sub hl [] rfl)
  · have hf := jif_f hc hf
    refine lv_iload_n hx hb dX10_hides_7 rfl (lv_at hl 2 rfl) ?_
    refine r_cz (r_runS (As := [.int x2]) (rest := []) C hP hS (k_X10_isSecond (l := l) O (σ := σ) rfl) mw_X10_isSecond ms_X10_isSecond wk_5_128 ⟨Nat.le_of_ble_eq_true rfl, Nat.le_of_ble_eq_true rfl⟩ ⟨rfl, rfl⟩ ⟨Nat.zero_le _, Nat.zero_le _⟩ rfl hl.1 rfl (Nat.le_of_ble_eq_true rfl) dX10_hides_8) hS (fun H locs hzy3 hP hS => ?_)
    refine jl_topz hf hzy3 (fun y3 hzy3 hf => ?_)
    refine lv_if_eq (tgt := 24) hx hb dX10_hides_11 (by decide) (fun hc => ?_) (fun hc => ?_)
    · have hf := jif_t hc hf
      exact hL24 σ H locs ls hf hP hS (lv_sub hl [] rfl)
    · have hf := jif_f hc hf
      refine lv_iload_n hx hb dX10_hides_14 rfl (lv_at hl 3 rfl) ?_
      refine lv_iconst (v := (0 : Int32)) hx hb dX10_hides_15 (by decide) ?_
      refine lv_bipush (v := (24 : Int32)) hx hb dX10_hides_16 (by decide) ?_
      refine r_cz (r_runS (As := [.int x3, .int (0 : Int32), .int (24 : Int32)]) (rest := []) C hP hS (k_X10_in (l := l) O (σ := σ) rfl) mw_X10_in ms_X10_in wk_4_158 ⟨Nat.le_of_ble_eq_true rfl, Nat.le_of_ble_eq_true rfl⟩ ⟨rfl, rfl⟩ ⟨Nat.zero_le _, Nat.zero_le _⟩ rfl hl.1 rfl (Nat.le_of_ble_eq_true rfl) dX10_hides_18) hS (fun H locs hzy5 hP hS => ?_)
      refine jl_topz hf hzy5 (fun y5 hzy5 hf => ?_)
      refine lv_if_ne (tgt := 28) hx hb dX10_hides_21 (by decide) (fun hc => ?_) (fun hc => ?_)
      · have hf := jif_t hc hf
        refine lv_aload_n hx hb dX10_hides_28 rfl (lv_at hl 0 rfl) ?_
        obtain ⟨s8, hc, hf⟩ := jb_e hf
        refine r_cv (r_runV (As := []) (rest := []) C hP hS (va_recv C.hK hP (q0 := 0) (ci := 10) rfl (by rw [g_at oM_10.1, oM_10.2])) (k_X10_watchesAll (l := l) O hc) mw_X10_watchesAll mi_X10_watchesAll mv_X10_watchesAll wk_5_213 ⟨Nat.le_of_ble_eq_true rfl, Nat.le_of_ble_eq_true rfl⟩ ⟨rfl, rfl⟩ ⟨Nat.zero_le _, Nat.zero_le _⟩ rfl hl.1 rfl (Nat.le_of_ble_eq_true rfl) dX10_hides_29) hS (fun H locs hP hS => ?_)
        refine lv_aload_n hx hb dX10_hides_32 rfl (lv_at hl 0 rfl) ?_
        refine lv_iload_n hx hb dX10_hides_33 rfl (lv_at hl 1 rfl) ?_
        refine lv_iload_n hx hb dX10_hides_34 rfl (lv_at hl 2 rfl) ?_
        obtain ⟨s10, hc, hf⟩ := jb_e hf
        refine r_cv (r_runV (As := [.int x1, .int x2]) (rest := []) C hP hS (va_recv C.hK hP (q0 := 0) (ci := 10) rfl (by rw [g_at oM_10.1, oM_10.2])) (k_X10_sneaks (l := l) O hc) mw_X10_sneaks mi_X10_sneaks mv_X10_sneaks wk_6_21 ⟨Nat.le_of_ble_eq_true rfl, Nat.le_of_ble_eq_true rfl⟩ ⟨rfl, rfl⟩ ⟨Nat.zero_le _, Nat.zero_le _⟩ rfl hl.1 rfl (Nat.le_of_ble_eq_true rfl) dX10_hides_35) hS (fun H locs hP hS => ?_)
        refine lv_aload_n hx hb dX10_hides_38 rfl (lv_at hl 0 rfl) ?_
        refine gf_X10_39 C hP wk_4_236 dX10_hides_39 ?_
        refine lv_iload_n hx hb dX10_hides_42 rfl (lv_at hl 3 rfl) ?_
        obtain ⟨hi11, hf⟩ := jix_e hf
        refine r_lald C hP aM_23 hi11 dX10_hides_43 ?_
        exact ret_l C hP hS (Prod.mk.inj (Option.some.inj hf)).1 (Prod.mk.inj (Option.some.inj hf)).2 dX10_hides_44
      · have hf := jif_n hc hf
        exact hL24 σ H locs ls hf hP hS (lv_sub hl [] rfl)
set_option maxHeartbeats 4000000 in
set_option maxRecDepth 100000 in
theorem k_X10_whenFrom {l : Launch} {a : Nat → Nat} {cy : Nat → ClassId} {D : va_G} {A : Nat → Prop} (O : WO NM a (fun _ => True) A) {x1 : Int32} {x2 : Int32} {r : Int32} {σ : ST} {σ' : ST} (hf : f_X10_whenFrom x1 x2 σ = some (r, σ')) : Met l yX10_whenFrom (Cond.code yX10_whenFrom cX10_whenFrom 5 (some .int) :: WS) (rmk 8 191) (PC [.ref (a 0), .int x1, .int x2] NM eM a cy D (fun _ => True) σ) (QI NM eM a cy D A r σ') 0 0 A := by
  refine met_go (own := "GuardsLookLeftModel") O (by decide +kernel) rfl (Nat.le_of_ble_eq_true rfl) ?_
  intro p e s m args below meth c ls C hP hS hl
  have hx := C.hx
  have hb := C.hb
  have hl : lv_has ls 5 [(0, .ref (a 0)), (1, .int x1), (2, .int x2)] := hl
  obtain ⟨H, hH⟩ : ∃ H, H = s.heap := ⟨_, rfl⟩
  rw [← hH] at hP
  have hS : va_S A s.heap H [] := by rw [hH]; exact va_S.rf
  suffices g : W p l e (rmk 8 191) s m args below meth c H [] 0 0 (MQ below (QI NM eM a cy D A r σ') args s 0 0 A) (F0 m 0 ls []) by rw [hH] at g; exact g
  clear hH
  obtain ⟨locs, hlocs⟩ : ∃ z : List Loc, z = [] := ⟨_, rfl⟩
  rw [← hlocs] at hS ⊢
  have hL41 : ∀ (k9 : Int32 → Int32 → Int32 → Int32 → ST → Option (Int32 × ST)) (hk9 : (∀ (v1 : Int32) (v2 : Int32) (v3 : Int32) (v4 : Int32) (s0 : ST) (H : Heap) (locs : List Loc) (ls : Array Slot), k9 v1 v2 v3 v4 s0 = some (r, σ') → va_P D vwCl (wG NM eM a cy s0) H → va_S A s.heap H locs → lv_has ls 5 [(0, .ref (a 0)), (1, .int v1), (2, .int v2), (3, .int v3), (4, .int v4)] → W p l e (rmk 8 191) s m args below meth c H locs 0 0 (MQ below (QI NM eM a cy D A r σ') args s 0 0 A) (F0 m 9 ls []))), (∀ (v1 : Int32) (v2 : Int32) (v4 : Int32) (t0 : Int32) (t1 : Int32) (s0 : ST) (H : Heap) (locs : List Loc) (ls : Array Slot), f_X10_whenFrom_L41 k9 v1 v2 v4 t0 t1 s0 = some (r, σ') → va_P D vwCl (wG NM eM a cy s0) H → va_S A s.heap H locs → lv_has ls 5 [(0, .ref (a 0)), (1, .int v1), (2, .int v2), (4, .int v4)] → W p l e (rmk 8 191) s m args below meth c H locs 0 0 (MQ below (QI NM eM a cy D A r σ') args s 0 0 A) (F0 m 41 ls [.int t1, .int t0])) := by
    intro k9 hk9 v1 v2 v4 t0 t1 s0 H locs ls hf hP hS hl
    refine lv_ior hx hb dX10_whenFrom_41 ?_
    refine jl_topi hf (fun y1 hf => ?_)
    refine lv_istore_n (lv' := [(3, .int y1), (0, .ref (a 0)), (1, .int v1), (2, .int v2), (4, .int v4)]) hx hb dX10_whenFrom_42 rfl hl (by decide) rfl (fun ls hl => ?_)
    obtain ⟨y2, ey2, hf⟩ := jlet_e hf
    refine lv_iinc (v := y2) (lv' := [(4, .int y2), (3, .int y1), (0, .ref (a 0)), (1, .int v1), (2, .int v2)]) hx hb dX10_whenFrom_43 hl (k := 4) rfl ey2 (by decide) rfl (fun ls hl => ?_)
    refine lv_goto (tgt := 9) hx hb dX10_whenFrom_46 (by decide) ?_
    exact hk9 v1 v2 y1 y2 s0 H locs ls hf hP hS (lv_sub hl [2, 3, 4, 1, 0] rfl)
  have hL9 : ∀ (n : Nat), (∀ (v1 : Int32) (v2 : Int32) (v3 : Int32) (v4 : Int32) (s0 : ST) (H : Heap) (locs : List Loc) (ls : Array Slot), f_X10_whenFrom_L9 n v1 v2 v3 v4 s0 = some (r, σ') → va_P D vwCl (wG NM eM a cy s0) H → va_S A s.heap H locs → lv_has ls 5 [(0, .ref (a 0)), (1, .int v1), (2, .int v2), (3, .int v3), (4, .int v4)] → W p l e (rmk 8 191) s m args below meth c H locs 0 0 (MQ below (QI NM eM a cy D A r σ') args s 0 0 A) (F0 m 9 ls [])) := by
    intro n
    induction n with
    | zero => intro v1 v2 v3 v4 s0 H locs ls hf hP hS hl; exact no_o hf
    | succ n ih =>
      intro v1 v2 v3 v4 s0 H locs ls hf hP hS hl
      have hf := (ef_X10_whenFrom_L9 _ _ _ _ _).symm.trans hf
      refine lv_iload hx hb dX10_whenFrom_9 (lv_at hl 4 rfl) ?_
      refine lv_bipush (v := (24 : Int32)) hx hb dX10_whenFrom_11 (by decide) ?_
      refine lv_icmp_ge (tgt := 49) hx hb dX10_whenFrom_13 (by decide) (fun hc => ?_) (fun hc => ?_)
      · have hf := jif_t hc hf
        refine lv_iload_n hx hb dX10_whenFrom_49 rfl (lv_at hl 3 rfl) ?_
        exact ret_i C hP hS (Prod.mk.inj (Option.some.inj hf)).1 (Prod.mk.inj (Option.some.inj hf)).2 dX10_whenFrom_50
      · have hf := jif_f hc hf
        refine lv_aload_n hx hb dX10_whenFrom_16 rfl (lv_at hl 0 rfl) ?_
        refine lv_iload_n hx hb dX10_whenFrom_17 rfl (lv_at hl 1 rfl) ?_
        refine lv_iload hx hb dX10_whenFrom_18 (lv_at hl 4 rfl) ?_
        obtain ⟨s2, hc, hf⟩ := jb_e hf
        refine r_cv (r_runV (As := [.int v1, .int v4]) (rest := []) C hP hS (va_recv C.hK hP (q0 := 0) (ci := 10) rfl (by rw [g_at oM_10.1, oM_10.2])) (k_X10_sneaks (l := l) O hc) mw_X10_sneaks mi_X10_sneaks mv_X10_sneaks wk_6_21 ⟨Nat.le_of_ble_eq_true rfl, Nat.le_of_ble_eq_true rfl⟩ ⟨rfl, rfl⟩ ⟨Nat.zero_le _, Nat.zero_le _⟩ rfl hl.1 rfl (Nat.le_of_ble_eq_true rfl) dX10_whenFrom_20) hS (fun H locs hP hS => ?_)
        refine lv_iload_n hx hb dX10_whenFrom_23 rfl (lv_at hl 3 rfl) ?_
        refine lv_aload_n hx hb dX10_whenFrom_24 rfl (lv_at hl 0 rfl) ?_
        refine lv_iload_n hx hb dX10_whenFrom_25 rfl (lv_at hl 2 rfl) ?_
        obtain ⟨y3, hc, hf⟩ := jb_e hf
        refine r_ci (r_runV (As := [.int v2]) (rest := [.int v3]) C hP hS (va_recv C.hK hP (q0 := 0) (ci := 10) rfl (by rw [g_at oM_10.1, oM_10.2])) (k_X10_soonest (l := l) O (σ := s2) hc) mw_X10_soonest mi_X10_soonest mv_X10_soonest wk_6_31 ⟨Nat.le_of_ble_eq_true rfl, Nat.le_of_ble_eq_true rfl⟩ ⟨rfl, rfl⟩ ⟨Nat.zero_le _, Nat.zero_le _⟩ rfl hl.1 rfl (Nat.le_of_ble_eq_true rfl) dX10_whenFrom_26) hS (fun H locs hP hS => ?_)
        refine lv_iconst (v := (-1 : Int32)) hx hb dX10_whenFrom_29 (by decide) ?_
        refine lv_icmp_ne (tgt := 37) hx hb dX10_whenFrom_30 (by decide) (fun hc => ?_) (fun hc => ?_)
        · have hf := jif_t hc hf
          refine lv_iconst (v := (1 : Int32)) hx hb dX10_whenFrom_37 (by decide) ?_
          refine lv_iload hx hb dX10_whenFrom_38 (lv_at hl 4 rfl) ?_
          refine r_ishl C dX10_whenFrom_40 ?_
          exact hL41 (f_X10_whenFrom_L9 n) ih v1 v2 v4 v3 (jshl (1 : Int32) v4) s2 H locs ls hf hP hS (lv_sub hl [0, 1, 2, 4] rfl)
        · have hf := jif_n hc hf
          refine lv_iconst (v := (0 : Int32)) hx hb dX10_whenFrom_33 (by decide) ?_
          refine lv_goto (tgt := 41) hx hb dX10_whenFrom_34 (by decide) ?_
          exact hL41 (f_X10_whenFrom_L9 n) ih v1 v2 v4 v3 (0 : Int32) s2 H locs ls hf hP hS (lv_sub hl [0, 1, 2, 4] rfl)
  refine lv_aload_n hx hb dX10_whenFrom_0 rfl (lv_at hl 0 rfl) ?_
  obtain ⟨s2, hc, hf⟩ := jb_e hf
  refine r_cv (r_runV (As := []) (rest := []) C hP hS (va_recv C.hK hP (q0 := 0) (ci := 10) rfl (by rw [g_at oM_10.1, oM_10.2])) (k_X10_watchesAll (l := l) O hc) mw_X10_watchesAll mi_X10_watchesAll mv_X10_watchesAll wk_5_213 ⟨Nat.le_of_ble_eq_true rfl, Nat.le_of_ble_eq_true rfl⟩ ⟨rfl, rfl⟩ ⟨Nat.zero_le _, Nat.zero_le _⟩ rfl hl.1 rfl (Nat.le_of_ble_eq_true rfl) dX10_whenFrom_1) hS (fun H locs hP hS => ?_)
  refine lv_iconst (v := (0 : Int32)) hx hb dX10_whenFrom_4 (by decide) ?_
  refine lv_istore_n (lv' := [(3, .int (0 : Int32)), (0, .ref (a 0)), (1, .int x1), (2, .int x2)]) hx hb dX10_whenFrom_5 rfl hl (by decide) rfl (fun ls hl => ?_)
  refine lv_iconst (v := (0 : Int32)) hx hb dX10_whenFrom_6 (by decide) ?_
  refine lv_istore (lv' := [(4, .int (0 : Int32)), (3, .int (0 : Int32)), (0, .ref (a 0)), (1, .int x1), (2, .int x2)]) hx hb dX10_whenFrom_7 hl (by decide) rfl (fun ls hl => ?_)
  exact hL9 FU x1 x2 (0 : Int32) (0 : Int32) s2 H locs ls hf hP hS (lv_sub hl [2, 3, 4, 1, 0] rfl)
set_option maxHeartbeats 4000000 in
set_option maxRecDepth 100000 in
theorem k_X10_when {l : Launch} {a : Nat → Nat} {cy : Nat → ClassId} {D : va_G} {A : Nat → Prop} (O : WO NM a (fun _ => True) A) {x1 : Int32} {x2 : Int32} {r : Int32} {σ : ST} {σ' : ST} (hf : f_X10_when x1 x2 σ = some (r, σ')) : Met l yX10_when (Cond.code yX10_when cX10_when 3 (some .int) :: WS) (rmk 9 215) (PC [.ref (a 0), .int x1, .int x2] NM eM a cy D (fun _ => True) σ) (QI NM eM a cy D A r σ') 0 0 A := by
  refine met_go (own := "GuardsLookLeftModel") O (by decide +kernel) rfl (Nat.le_of_ble_eq_true rfl) ?_
  intro p e s m args below meth c ls C hP hS hl
  have hx := C.hx
  have hb := C.hb
  have hl : lv_has ls 3 [(0, .ref (a 0)), (1, .int x1), (2, .int x2)] := hl
  obtain ⟨H, hH⟩ : ∃ H, H = s.heap := ⟨_, rfl⟩
  rw [← hH] at hP
  have hS : va_S A s.heap H [] := by rw [hH]; exact va_S.rf
  suffices g : W p l e (rmk 9 215) s m args below meth c H [] 0 0 (MQ below (QI NM eM a cy D A r σ') args s 0 0 A) (F0 m 0 ls []) by rw [hH] at g; exact g
  clear hH
  obtain ⟨locs, hlocs⟩ : ∃ z : List Loc, z = [] := ⟨_, rfl⟩
  rw [← hlocs] at hS ⊢
  refine lv_iload_n hx hb dX10_when_0 rfl (lv_at hl 1 rfl) ?_
  refine r_cz (r_runS (As := [.int x1]) (rest := []) C hP hS (k_X10_isCell (l := l) O (σ := σ) rfl) mw_X10_isCell ms_X10_isCell wk_5_98 ⟨Nat.le_of_ble_eq_true rfl, Nat.le_of_ble_eq_true rfl⟩ ⟨rfl, rfl⟩ ⟨Nat.zero_le _, Nat.zero_le _⟩ rfl hl.1 rfl (Nat.le_of_ble_eq_true rfl) dX10_when_1) hS (fun H locs hzy1 hP hS => ?_)
  refine jl_topz hf hzy1 (fun y1 hzy1 hf => ?_)
  refine lv_if_eq (tgt := 23) hx hb dX10_when_4 (by decide) (fun hc => ?_) (fun hc => ?_)
  · have hf := jif_t hc hf
    refine lv_bipush (v := (-5 : Int32)) hx hb dX10_when_23 (by decide) ?_
    exact ret_i C hP hS (Prod.mk.inj (Option.some.inj hf)).1 (Prod.mk.inj (Option.some.inj hf)).2 dX10_when_25
  · have hf := jif_f hc hf
    refine lv_iload_n hx hb dX10_when_7 rfl (lv_at hl 2 rfl) ?_
    refine r_cz (r_runS (As := [.int x2]) (rest := []) C hP hS (k_X10_isCell (l := l) O (σ := σ) rfl) mw_X10_isCell ms_X10_isCell wk_5_98 ⟨Nat.le_of_ble_eq_true rfl, Nat.le_of_ble_eq_true rfl⟩ ⟨rfl, rfl⟩ ⟨Nat.zero_le _, Nat.zero_le _⟩ rfl hl.1 rfl (Nat.le_of_ble_eq_true rfl) dX10_when_8) hS (fun H locs hzy3 hP hS => ?_)
    refine jl_topz hf hzy3 (fun y3 hzy3 hf => ?_)
    refine lv_if_eq (tgt := 23) hx hb dX10_when_11 (by decide) (fun hc => ?_) (fun hc => ?_)
    · have hf := jif_t hc hf
      refine lv_bipush (v := (-5 : Int32)) hx hb dX10_when_23 (by decide) ?_
      exact ret_i C hP hS (Prod.mk.inj (Option.some.inj hf)).1 (Prod.mk.inj (Option.some.inj hf)).2 dX10_when_25
    · have hf := jif_f hc hf
      refine lv_aload_n hx hb dX10_when_14 rfl (lv_at hl 0 rfl) ?_
      refine lv_iload_n hx hb dX10_when_15 rfl (lv_at hl 1 rfl) ?_
      refine lv_iload_n hx hb dX10_when_16 rfl (lv_at hl 2 rfl) ?_
      obtain ⟨y5, s6, hc, hf⟩ := jbp_e hf
      refine r_ci (r_runV (As := [.int x1, .int x2]) (rest := []) C hP hS (va_recv C.hK hP (q0 := 0) (ci := 10) rfl (by rw [g_at oM_10.1, oM_10.2])) (k_X10_whenFrom (l := l) O hc) mw_X10_whenFrom mi_X10_whenFrom mv_X10_whenFrom wk_6_51 ⟨Nat.le_of_ble_eq_true rfl, Nat.le_of_ble_eq_true rfl⟩ ⟨rfl, rfl⟩ ⟨Nat.zero_le _, Nat.zero_le _⟩ rfl hl.1 rfl (Nat.le_of_ble_eq_true rfl) dX10_when_17) hS (fun H locs hP hS => ?_)
      refine lv_goto (tgt := 25) hx hb dX10_when_20 (by decide) ?_
      exact ret_i C hP hS (Prod.mk.inj (Option.some.inj hf)).1 (Prod.mk.inj (Option.some.inj hf)).2 dX10_when_25
set_option maxHeartbeats 4000000 in
set_option maxRecDepth 100000 in
theorem k_X10_more {l : Launch} {a : Nat → Nat} {cy : Nat → ClassId} {D : va_G} {A : Nat → Prop} (O : WO NM a (fun _ => True) A) {x1 : Int32} {x2 : Int32} {x3 : Int32} {r : Int32} {σ : ST} {σ' : ST} (hf : f_X10_more x1 x2 x3 σ = some (r, σ')) : Met l yX10_more (Cond.code yX10_more cX10_more 11 (some .int) :: WS) (rmk 9 215) (PC [.ref (a 0), .int x1, .int x2, .int x3] NM eM a cy D (fun _ => True) σ) (QI NM eM a cy D A r σ') 0 0 A := by
  refine met_go (own := "GuardsLookLeftModel") O (by decide +kernel) rfl (Nat.le_of_ble_eq_true rfl) ?_
  intro p e s m args below meth c ls C hP hS hl
  have hx := C.hx
  have hb := C.hb
  have hl : lv_has ls 11 [(0, .ref (a 0)), (1, .int x1), (2, .int x2), (3, .int x3)] := hl
  obtain ⟨H, hH⟩ : ∃ H, H = s.heap := ⟨_, rfl⟩
  rw [← hH] at hP
  have hS : va_S A s.heap H [] := by rw [hH]; exact va_S.rf
  suffices g : W p l e (rmk 9 215) s m args below meth c H [] 0 0 (MQ below (QI NM eM a cy D A r σ') args s 0 0 A) (F0 m 0 ls []) by rw [hH] at g; exact g
  clear hH
  obtain ⟨locs, hlocs⟩ : ∃ z : List Loc, z = [] := ⟨_, rfl⟩
  rw [← hlocs] at hS ⊢
  have hL152 : ∀ (k63 : Int32 → Int32 → Int32 → Int32 → Int64 → Int32 → Int32 → Int32 → ST → Option (Int32 × ST)) (hk63 : (∀ (v1 : Int32) (v2 : Int32) (v3 : Int32) (v4 : Int32) (v5 : Int64) (v7 : Int32) (v8 : Int32) (v9 : Int32) (s0 : ST) (H : Heap) (locs : List Loc) (ls : Array Slot), k63 v1 v2 v3 v4 v5 v7 v8 v9 s0 = some (r, σ') → va_P D vwCl (wG NM eM a cy s0) H → va_S A s.heap H locs → lv_has ls 11 [(0, .ref (a 0)), (1, .int v1), (2, .int v2), (3, .int v3), (4, .int v4), (5, .long v5), (7, .int v7), (8, .int v8), (9, .int v9)] → W p l e (rmk 9 215) s m args below meth c H locs 0 0 (MQ below (QI NM eM a cy D A r σ') args s 0 0 A) (F0 m 63 ls []))), (∀ (v1 : Int32) (v2 : Int32) (v3 : Int32) (v4 : Int32) (v5 : Int64) (v7 : Int32) (v8 : Int32) (v9 : Int32) (s0 : ST) (H : Heap) (locs : List Loc) (ls : Array Slot), f_X10_more_L152 k63 v1 v2 v3 v4 v5 v7 v8 v9 s0 = some (r, σ') → va_P D vwCl (wG NM eM a cy s0) H → va_S A s.heap H locs → lv_has ls 11 [(0, .ref (a 0)), (1, .int v1), (2, .int v2), (3, .int v3), (4, .int v4), (5, .long v5), (7, .int v7), (8, .int v8), (9, .int v9)] → W p l e (rmk 9 215) s m args below meth c H locs 0 0 (MQ below (QI NM eM a cy D A r σ') args s 0 0 A) (F0 m 152 ls [])) := by
    intro k63 hk63 v1 v2 v3 v4 v5 v7 v8 v9 s0 H locs ls hf hP hS hl
    obtain ⟨y1, ey1, hf⟩ := jlet_e hf
    refine lv_iinc (v := y1) (lv' := [(9, .int y1), (0, .ref (a 0)), (1, .int v1), (2, .int v2), (3, .int v3), (4, .int v4), (5, .long v5), (7, .int v7), (8, .int v8)]) hx hb dX10_more_152 hl (k := 8) rfl ey1 (by decide) rfl (fun ls hl => ?_)
    refine lv_goto (tgt := 63) hx hb dX10_more_155 (by decide) ?_
    exact hk63 v1 v2 v3 v4 v5 v7 v8 y1 s0 H locs ls hf hP hS (lv_sub hl [1, 2, 3, 4, 5, 6, 7, 8, 0] rfl)
  have hL150 : ∀ (k63 : Int32 → Int32 → Int32 → Int32 → Int64 → Int32 → Int32 → Int32 → ST → Option (Int32 × ST)) (hk63 : (∀ (v1 : Int32) (v2 : Int32) (v3 : Int32) (v4 : Int32) (v5 : Int64) (v7 : Int32) (v8 : Int32) (v9 : Int32) (s0 : ST) (H : Heap) (locs : List Loc) (ls : Array Slot), k63 v1 v2 v3 v4 v5 v7 v8 v9 s0 = some (r, σ') → va_P D vwCl (wG NM eM a cy s0) H → va_S A s.heap H locs → lv_has ls 11 [(0, .ref (a 0)), (1, .int v1), (2, .int v2), (3, .int v3), (4, .int v4), (5, .long v5), (7, .int v7), (8, .int v8), (9, .int v9)] → W p l e (rmk 9 215) s m args below meth c H locs 0 0 (MQ below (QI NM eM a cy D A r σ') args s 0 0 A) (F0 m 63 ls []))), (∀ (v1 : Int32) (v2 : Int32) (v3 : Int32) (v4 : Int32) (v5 : Int64) (v7 : Int32) (v9 : Int32) (t0 : Int32) (s0 : ST) (H : Heap) (locs : List Loc) (ls : Array Slot), f_X10_more_L150 k63 v1 v2 v3 v4 v5 v7 v9 t0 s0 = some (r, σ') → va_P D vwCl (wG NM eM a cy s0) H → va_S A s.heap H locs → lv_has ls 11 [(0, .ref (a 0)), (1, .int v1), (2, .int v2), (3, .int v3), (4, .int v4), (5, .long v5), (7, .int v7), (9, .int v9)] → W p l e (rmk 9 215) s m args below meth c H locs 0 0 (MQ below (QI NM eM a cy D A r σ') args s 0 0 A) (F0 m 150 ls [.int t0])) := by
    intro k63 hk63 v1 v2 v3 v4 v5 v7 v9 t0 s0 H locs ls hf hP hS hl
    refine lv_istore (lv' := [(8, .int t0), (0, .ref (a 0)), (1, .int v1), (2, .int v2), (3, .int v3), (4, .int v4), (5, .long v5), (7, .int v7), (9, .int v9)]) hx hb dX10_more_150 hl (by decide) rfl (fun ls hl => ?_)
    exact hL152 k63 hk63 v1 v2 v3 v4 v5 v7 t0 v9 s0 H locs ls hf hP hS (lv_sub hl [1, 2, 3, 4, 5, 6, 7, 0, 8] rfl)
  have hL134 : ∀ (k63 : Int32 → Int32 → Int32 → Int32 → Int64 → Int32 → Int32 → Int32 → ST → Option (Int32 × ST)) (hk63 : (∀ (v1 : Int32) (v2 : Int32) (v3 : Int32) (v4 : Int32) (v5 : Int64) (v7 : Int32) (v8 : Int32) (v9 : Int32) (s0 : ST) (H : Heap) (locs : List Loc) (ls : Array Slot), k63 v1 v2 v3 v4 v5 v7 v8 v9 s0 = some (r, σ') → va_P D vwCl (wG NM eM a cy s0) H → va_S A s.heap H locs → lv_has ls 11 [(0, .ref (a 0)), (1, .int v1), (2, .int v2), (3, .int v3), (4, .int v4), (5, .long v5), (7, .int v7), (8, .int v8), (9, .int v9)] → W p l e (rmk 9 215) s m args below meth c H locs 0 0 (MQ below (QI NM eM a cy D A r σ') args s 0 0 A) (F0 m 63 ls []))), (∀ (v1 : Int32) (v2 : Int32) (v3 : Int32) (v4 : Int32) (v5 : Int64) (v8 : Int32) (v9 : Int32) (v10 : Int32) (t0 : Int32) (s0 : ST) (H : Heap) (locs : List Loc) (ls : Array Slot), f_X10_more_L134 k63 v1 v2 v3 v4 v5 v8 v9 v10 t0 s0 = some (r, σ') → va_P D vwCl (wG NM eM a cy s0) H → va_S A s.heap H locs → lv_has ls 11 [(0, .ref (a 0)), (1, .int v1), (2, .int v2), (3, .int v3), (4, .int v4), (5, .long v5), (8, .int v8), (9, .int v9), (10, .int v10)] → W p l e (rmk 9 215) s m args below meth c H locs 0 0 (MQ below (QI NM eM a cy D A r σ') args s 0 0 A) (F0 m 134 ls [.int t0])) := by
    intro k63 hk63 v1 v2 v3 v4 v5 v8 v9 v10 t0 s0 H locs ls hf hP hS hl
    refine lv_istore (lv' := [(7, .int t0), (0, .ref (a 0)), (1, .int v1), (2, .int v2), (3, .int v3), (4, .int v4), (5, .long v5), (8, .int v8), (9, .int v9), (10, .int v10)]) hx hb dX10_more_134 hl (by decide) rfl (fun ls hl => ?_)
    refine lv_iload hx hb dX10_more_136 (lv_at hl 9 rfl) ?_
    refine lv_iload hx hb dX10_more_138 (lv_at hl 7 rfl) ?_
    refine lv_icmp_ge (tgt := 148) hx hb dX10_more_140 (by decide) (fun hc => ?_) (fun hc => ?_)
    · have hf := jif_t hc hf
      refine lv_iload hx hb dX10_more_148 (lv_at hl 7 rfl) ?_
      exact hL150 k63 hk63 v1 v2 v3 v4 v5 t0 v9 v8 s0 H locs ls hf hP hS (lv_sub hl [1, 2, 3, 4, 5, 6, 0, 8] rfl)
    · have hf := jif_f hc hf
      refine lv_iload hx hb dX10_more_143 (lv_at hl 9 rfl) ?_
      refine lv_goto (tgt := 150) hx hb dX10_more_145 (by decide) ?_
      exact hL150 k63 hk63 v1 v2 v3 v4 v5 t0 v9 v10 s0 H locs ls hf hP hS (lv_sub hl [1, 2, 3, 4, 5, 6, 0, 8] rfl)
  have hL63 : ∀ (n : Nat), (∀ (v1 : Int32) (v2 : Int32) (v3 : Int32) (v4 : Int32) (v5 : Int64) (v7 : Int32) (v8 : Int32) (v9 : Int32) (s0 : ST) (H : Heap) (locs : List Loc) (ls : Array Slot), f_X10_more_L63 n v1 v2 v3 v4 v5 v7 v8 v9 s0 = some (r, σ') → va_P D vwCl (wG NM eM a cy s0) H → va_S A s.heap H locs → lv_has ls 11 [(0, .ref (a 0)), (1, .int v1), (2, .int v2), (3, .int v3), (4, .int v4), (5, .long v5), (7, .int v7), (8, .int v8), (9, .int v9)] → W p l e (rmk 9 215) s m args below meth c H locs 0 0 (MQ below (QI NM eM a cy D A r σ') args s 0 0 A) (F0 m 63 ls [])) := by
    intro n
    induction n with
    | zero => intro v1 v2 v3 v4 v5 v7 v8 v9 s0 H locs ls hf hP hS hl; exact no_o hf
    | succ n ih =>
      intro v1 v2 v3 v4 v5 v7 v8 v9 s0 H locs ls hf hP hS hl
      have hf := (ef_X10_more_L63 _ _ _ _ _ _ _ _ _).symm.trans hf
      refine lv_iload hx hb dX10_more_63 (lv_at hl 8 rfl) ?_
      refine lv_bipush (v := (36 : Int32)) hx hb dX10_more_65 (by decide) ?_
      refine lv_icmp_ge (tgt := 158) hx hb dX10_more_67 (by decide) (fun hc => ?_) (fun hc => ?_)
      · have hf := jif_t hc hf
        refine lv_aload_n hx hb dX10_more_158 rfl (lv_at hl 0 rfl) ?_
        refine gf_X10_0 C hP wk_4_197 dX10_more_159 ?_
        refine lv_iload hx hb dX10_more_162 (lv_at hl 4 rfl) ?_
        refine lv_lload hx hb dX10_more_164 (lv_at hl 5 rfl) ?_
        obtain ⟨hi1, hf⟩ := jix_e hf
        refine r_last C hP hS aM_1 hi1 dX10_more_166 hf (fun H locs s2 hf hP hS => ?_)
        refine lv_iload_n hx hb dX10_more_167 rfl (lv_at hl 3 rfl) ?_
        refine lv_iconst (v := (2 : Int32)) hx hb dX10_more_168 (by decide) ?_
        refine lv_icmp_ge (tgt := 177) hx hb dX10_more_169 (by decide) (fun hc => ?_) (fun hc => ?_)
        · have hf := jif_t hc hf
          refine lv_iload hx hb dX10_more_177 (lv_at hl 7 rfl) ?_
          exact ret_i C hP hS (Prod.mk.inj (Option.some.inj hf)).1 (Prod.mk.inj (Option.some.inj hf)).2 dX10_more_179
        · have hf := jif_f hc hf
          refine lv_iload hx hb dX10_more_172 (lv_at hl 6 rfl) ?_
          refine lv_goto (tgt := 179) hx hb dX10_more_174 (by decide) ?_
          exact ret_i C hP hS (Prod.mk.inj (Option.some.inj hf)).1 (Prod.mk.inj (Option.some.inj hf)).2 dX10_more_179
      · have hf := jif_f hc hf
        refine lv_aload_n hx hb dX10_more_70 rfl (lv_at hl 0 rfl) ?_
        refine gf_X10_0 C hP wk_4_197 dX10_more_71 ?_
        refine lv_iconst (v := (0 : Int32)) hx hb dX10_more_74 (by decide) ?_
        refine r_lald C hP aM_1 (vp_lit (by decide)) dX10_more_75 ?_
        refine lv_iload hx hb dX10_more_76 (lv_at hl 8 rfl) ?_
        refine r_cz (r_runS (As := [.long (gB s0 1 (Int32.toNatClampNeg (0 : Int32))), .int v9]) (rest := []) C hP hS (k_X10_has (l := l) O (σ := s0) rfl) mw_X10_has ms_X10_has wk_5_101 ⟨Nat.le_of_ble_eq_true rfl, Nat.le_of_ble_eq_true rfl⟩ ⟨rfl, rfl⟩ ⟨Nat.zero_le _, Nat.zero_le _⟩ rfl hl.1 rfl (Nat.le_of_ble_eq_true rfl) dX10_more_78) hS (fun H locs hzy3 hP hS => ?_)
        refine jl_topz hf hzy3 (fun y3 hzy3 hf => ?_)
        refine lv_if_ne (tgt := 152) hx hb dX10_more_81 (by decide) (fun hc => ?_) (fun hc => ?_)
        · have hf := jif_t hc hf
          exact hL152 (f_X10_more_L63 n) ih v1 v2 v3 v4 v5 v7 v8 v9 s0 H locs ls hf hP hS (lv_sub hl [0, 1, 2, 3, 4, 5, 6, 7, 8] rfl)
        · have hf := jif_n hc hf
          refine lv_lload hx hb dX10_more_84 (lv_at hl 5 rfl) ?_
          refine lv_iload hx hb dX10_more_86 (lv_at hl 8 rfl) ?_
          refine r_cz (r_runS (As := [.long v5, .int v9]) (rest := []) C hP hS (k_X10_has (l := l) O (σ := s0) rfl) mw_X10_has ms_X10_has wk_5_101 ⟨Nat.le_of_ble_eq_true rfl, Nat.le_of_ble_eq_true rfl⟩ ⟨rfl, rfl⟩ ⟨Nat.zero_le _, Nat.zero_le _⟩ rfl hl.1 rfl (Nat.le_of_ble_eq_true rfl) dX10_more_88) hS (fun H locs hzy5 hP hS => ?_)
          refine jl_topz hf hzy5 (fun y5 hzy5 hf => ?_)
          refine lv_if_ne (tgt := 152) hx hb dX10_more_91 (by decide) (fun hc => ?_) (fun hc => ?_)
          · have hf := jif_t hc hf
            exact hL152 (f_X10_more_L63 n) ih v1 v2 v3 v4 v5 v7 v8 v9 s0 H locs ls hf hP hS (lv_sub hl [0, 1, 2, 3, 4, 5, 6, 7, 8] rfl)
          · have hf := jif_n hc hf
            refine lv_aload_n hx hb dX10_more_94 rfl (lv_at hl 0 rfl) ?_
            refine gf_X10_0 C hP wk_4_197 dX10_more_95 ?_
            refine lv_iload hx hb dX10_more_98 (lv_at hl 4 rfl) ?_
            refine lv_lload hx hb dX10_more_100 (lv_at hl 5 rfl) ?_
            refine lv_lconst (v := (1 : Int64)) hx hb dX10_more_102 (by decide) ?_
            refine lv_iload hx hb dX10_more_103 (lv_at hl 8 rfl) ?_
            refine r_lshl C dX10_more_105 ?_
            refine lv_lor hx hb dX10_more_106 ?_
            obtain ⟨hi7, hf⟩ := jix_e hf
            refine r_last C hP hS aM_1 hi7 dX10_more_107 hf (fun H locs s8 hf hP hS => ?_)
            refine lv_aload_n hx hb dX10_more_108 rfl (lv_at hl 0 rfl) ?_
            refine lv_iload_n hx hb dX10_more_109 rfl (lv_at hl 1 rfl) ?_
            refine lv_iload_n hx hb dX10_more_110 rfl (lv_at hl 2 rfl) ?_
            obtain ⟨y9, s10, hc, hf⟩ := jbp_e hf
            refine r_ci (r_runV (As := [.int v1, .int v2]) (rest := []) C hP hS (va_recv C.hK hP (q0 := 0) (ci := 10) rfl (by rw [g_at oM_10.1, oM_10.2])) (k_X10_whenFrom (l := l) O hc) mw_X10_whenFrom mi_X10_whenFrom mv_X10_whenFrom wk_6_51 ⟨Nat.le_of_ble_eq_true rfl, Nat.le_of_ble_eq_true rfl⟩ ⟨rfl, rfl⟩ ⟨Nat.zero_le _, Nat.zero_le _⟩ rfl hl.1 rfl (Nat.le_of_ble_eq_true rfl) dX10_more_111) hS (fun H locs hP hS => ?_)
            refine lv_i2l hx hb dX10_more_114 rfl ?_
            obtain ⟨y11, hc, hf⟩ := jb_e hf
            refine r_ci (r_runS (As := [.long (Int32.toInt64 y9)]) (rest := []) C hP hS (k_X10_bitsOf (l := l) O (σ := s10) hc) mw_X10_bitsOf ms_X10_bitsOf wk_5_109 ⟨Nat.le_of_ble_eq_true rfl, Nat.le_of_ble_eq_true rfl⟩ ⟨rfl, rfl⟩ ⟨Nat.zero_le _, Nat.zero_le _⟩ rfl hl.1 rfl (Nat.le_of_ble_eq_true rfl) dX10_more_115) hS (fun H locs hP hS => ?_)
            refine lv_istore (lv' := [(10, .int y11), (0, .ref (a 0)), (1, .int v1), (2, .int v2), (3, .int v3), (4, .int v4), (5, .long v5), (7, .int v7), (8, .int v8), (9, .int v9)]) hx hb dX10_more_118 hl (by decide) rfl (fun ls hl => ?_)
            refine lv_iload hx hb dX10_more_120 (lv_at hl 0 rfl) ?_
            refine lv_iload hx hb dX10_more_122 (lv_at hl 8 rfl) ?_
            refine lv_icmp_ge (tgt := 132) hx hb dX10_more_124 (by decide) (fun hc => ?_) (fun hc => ?_)
            · have hf := jif_t hc hf
              refine lv_iload hx hb dX10_more_132 (lv_at hl 7 rfl) ?_
              exact hL134 (f_X10_more_L63 n) ih v1 v2 v3 v4 v5 v8 v9 y11 v7 s10 H locs ls hf hP hS (lv_sub hl [1, 2, 3, 4, 5, 6, 8, 9, 0] rfl)
            · have hf := jif_f hc hf
              refine lv_iload hx hb dX10_more_127 (lv_at hl 9 rfl) ?_
              refine lv_goto (tgt := 134) hx hb dX10_more_129 (by decide) ?_
              exact hL134 (f_X10_more_L63 n) ih v1 v2 v3 v4 v5 v8 v9 y11 v9 s10 H locs ls hf hP hS (lv_sub hl [1, 2, 3, 4, 5, 6, 8, 9, 0] rfl)
  refine lv_iload_n hx hb dX10_more_0 rfl (lv_at hl 1 rfl) ?_
  refine r_cz (r_runS (As := [.int x1]) (rest := []) C hP hS (k_X10_isCell (l := l) O (σ := σ) rfl) mw_X10_isCell ms_X10_isCell wk_5_98 ⟨Nat.le_of_ble_eq_true rfl, Nat.le_of_ble_eq_true rfl⟩ ⟨rfl, rfl⟩ ⟨Nat.zero_le _, Nat.zero_le _⟩ rfl hl.1 rfl (Nat.le_of_ble_eq_true rfl) dX10_more_1) hS (fun H locs hzy1 hP hS => ?_)
  refine jl_topz hf hzy1 (fun y1 hzy1 hf => ?_)
  refine lv_if_eq (tgt := 14) hx hb dX10_more_4 (by decide) (fun hc => ?_) (fun hc => ?_)
  · have hf := jif_t hc hf
    refine lv_bipush (v := (-5 : Int32)) hx hb dX10_more_14 (by decide) ?_
    exact ret_i C hP hS (Prod.mk.inj (Option.some.inj hf)).1 (Prod.mk.inj (Option.some.inj hf)).2 dX10_more_16
  · have hf := jif_f hc hf
    refine lv_iload_n hx hb dX10_more_7 rfl (lv_at hl 2 rfl) ?_
    refine r_cz (r_runS (As := [.int x2]) (rest := []) C hP hS (k_X10_isCell (l := l) O (σ := σ) rfl) mw_X10_isCell ms_X10_isCell wk_5_98 ⟨Nat.le_of_ble_eq_true rfl, Nat.le_of_ble_eq_true rfl⟩ ⟨rfl, rfl⟩ ⟨Nat.zero_le _, Nat.zero_le _⟩ rfl hl.1 rfl (Nat.le_of_ble_eq_true rfl) dX10_more_8) hS (fun H locs hzy3 hP hS => ?_)
    refine jl_topz hf hzy3 (fun y3 hzy3 hf => ?_)
    refine lv_if_ne (tgt := 17) hx hb dX10_more_11 (by decide) (fun hc => ?_) (fun hc => ?_)
    · have hf := jif_t hc hf
      refine lv_iload_n hx hb dX10_more_17 rfl (lv_at hl 3 rfl) ?_
      refine lv_iconst (v := (0 : Int32)) hx hb dX10_more_18 (by decide) ?_
      refine lv_iconst (v := (3 : Int32)) hx hb dX10_more_19 (by decide) ?_
      refine r_cz (r_runS (As := [.int x3, .int (0 : Int32), .int (3 : Int32)]) (rest := []) C hP hS (k_X10_in (l := l) O (σ := σ) rfl) mw_X10_in ms_X10_in wk_4_158 ⟨Nat.le_of_ble_eq_true rfl, Nat.le_of_ble_eq_true rfl⟩ ⟨rfl, rfl⟩ ⟨Nat.zero_le _, Nat.zero_le _⟩ rfl hl.1 rfl (Nat.le_of_ble_eq_true rfl) dX10_more_20) hS (fun H locs hzy5 hP hS => ?_)
      refine jl_topz hf hzy5 (fun y5 hzy5 hf => ?_)
      refine lv_if_ne (tgt := 29) hx hb dX10_more_23 (by decide) (fun hc => ?_) (fun hc => ?_)
      · have hf := jif_t hc hf
        refine lv_iconst (v := (1 : Int32)) hx hb dX10_more_29 (by decide) ?_
        refine lv_iload_n hx hb dX10_more_30 rfl (lv_at hl 3 rfl) ?_
        refine lv_iconst (v := (2 : Int32)) hx hb dX10_more_31 (by decide) ?_
        refine r_irem C dX10_more_32 (by decide) ?_
        refine lv_iadd hx hb dX10_more_33 ?_
        refine jl_topi hf (fun y7 hf => ?_)
        refine lv_istore (lv' := [(4, .int y7), (0, .ref (a 0)), (1, .int x1), (2, .int x2), (3, .int x3)]) hx hb dX10_more_34 hl (by decide) rfl (fun ls hl => ?_)
        refine lv_aload_n hx hb dX10_more_36 rfl (lv_at hl 1 rfl) ?_
        refine gf_X10_0 C hP wk_4_197 dX10_more_37 ?_
        refine lv_iload hx hb dX10_more_40 (lv_at hl 0 rfl) ?_
        obtain ⟨hi8, hf⟩ := jix_e hf
        refine r_lald C hP aM_1 hi8 dX10_more_42 ?_
        refine jl_topl hf (fun y9 hf => ?_)
        refine lv_lstore (lv' := [(5, .long y9), (4, .int y7), (0, .ref (a 0)), (1, .int x1), (2, .int x2), (3, .int x3)]) hx hb dX10_more_43 hl (by decide) rfl (fun ls hl => ?_)
        refine lv_iconst (v := (-1 : Int32)) hx hb dX10_more_45 (by decide) ?_
        refine lv_istore (lv' := [(7, .int (-1 : Int32)), (5, .long y9), (4, .int y7), (0, .ref (a 0)), (1, .int x1), (2, .int x2), (3, .int x3)]) hx hb dX10_more_46 hl (by decide) rfl (fun ls hl => ?_)
        refine lv_aload_n hx hb dX10_more_48 rfl (lv_at hl 3 rfl) ?_
        refine lv_iload_n hx hb dX10_more_49 rfl (lv_at hl 4 rfl) ?_
        refine lv_iload_n hx hb dX10_more_50 rfl (lv_at hl 5 rfl) ?_
        obtain ⟨y10, s11, hc, hf⟩ := jbp_e hf
        refine r_ci (r_runV (As := [.int x1, .int x2]) (rest := []) C hP hS (va_recv C.hK hP (q0 := 0) (ci := 10) rfl (by rw [g_at oM_10.1, oM_10.2])) (k_X10_whenFrom (l := l) O hc) mw_X10_whenFrom mi_X10_whenFrom mv_X10_whenFrom wk_6_51 ⟨Nat.le_of_ble_eq_true rfl, Nat.le_of_ble_eq_true rfl⟩ ⟨rfl, rfl⟩ ⟨Nat.zero_le _, Nat.zero_le _⟩ rfl hl.1 rfl (Nat.le_of_ble_eq_true rfl) dX10_more_51) hS (fun H locs hP hS => ?_)
        refine lv_i2l hx hb dX10_more_54 rfl ?_
        obtain ⟨y12, hc, hf⟩ := jb_e hf
        refine r_ci (r_runS (As := [.long (Int32.toInt64 y10)]) (rest := []) C hP hS (k_X10_bitsOf (l := l) O (σ := s11) hc) mw_X10_bitsOf ms_X10_bitsOf wk_5_109 ⟨Nat.le_of_ble_eq_true rfl, Nat.le_of_ble_eq_true rfl⟩ ⟨rfl, rfl⟩ ⟨Nat.zero_le _, Nat.zero_le _⟩ rfl hl.1 rfl (Nat.le_of_ble_eq_true rfl) dX10_more_55) hS (fun H locs hP hS => ?_)
        refine lv_istore (lv' := [(8, .int y12), (7, .int (-1 : Int32)), (5, .long y9), (4, .int y7), (0, .ref (a 0)), (1, .int x1), (2, .int x2), (3, .int x3)]) hx hb dX10_more_58 hl (by decide) rfl (fun ls hl => ?_)
        refine lv_iconst (v := (0 : Int32)) hx hb dX10_more_60 (by decide) ?_
        refine lv_istore (lv' := [(9, .int (0 : Int32)), (8, .int y12), (7, .int (-1 : Int32)), (5, .long y9), (4, .int y7), (0, .ref (a 0)), (1, .int x1), (2, .int x2), (3, .int x3)]) hx hb dX10_more_61 hl (by decide) rfl (fun ls hl => ?_)
        exact hL63 FU x1 x2 x3 y7 y9 (-1 : Int32) y12 (0 : Int32) s11 H locs ls hf hP hS (lv_sub hl [5, 6, 7, 8, 4, 3, 2, 1, 0] rfl)
      · have hf := jif_n hc hf
        refine lv_bipush (v := (-7 : Int32)) hx hb dX10_more_26 (by decide) ?_
        exact ret_i C hP hS (Prod.mk.inj (Option.some.inj hf)).1 (Prod.mk.inj (Option.some.inj hf)).2 dX10_more_28
    · have hf := jif_n hc hf
      refine lv_bipush (v := (-5 : Int32)) hx hb dX10_more_14 (by decide) ?_
      exact ret_i C hP hS (Prod.mk.inj (Option.some.inj hf)).1 (Prod.mk.inj (Option.some.inj hf)).2 dX10_more_16
set_option maxHeartbeats 4000000 in
set_option maxRecDepth 100000 in
theorem k_X10_shift {l : Launch} {a : Nat → Nat} {cy : Nat → ClassId} {D : va_G} {A : Nat → Prop} (O : WO NM a (fun _ => True) A) {x1 : Int32} {x2 : Int32} {r : Int32} {σ : ST} {σ' : ST} (hf : f_X10_shift x1 x2 σ = some (r, σ')) : Met l yX10_shift (Cond.code yX10_shift cX10_shift 7 (some .int) :: WS) (rmk 8 191) (PC [.ref (a 0), .int x1, .int x2] NM eM a cy D (fun _ => True) σ) (QI NM eM a cy D A r σ') 0 0 A := by
  refine met_go (own := "GuardsLookLeftModel") O (by decide +kernel) rfl (Nat.le_of_ble_eq_true rfl) ?_
  intro p e s m args below meth c ls C hP hS hl
  have hx := C.hx
  have hb := C.hb
  have hl : lv_has ls 7 [(0, .ref (a 0)), (1, .int x1), (2, .int x2)] := hl
  obtain ⟨H, hH⟩ : ∃ H, H = s.heap := ⟨_, rfl⟩
  rw [← hH] at hP
  have hS : va_S A s.heap H [] := by rw [hH]; exact va_S.rf
  suffices g : W p l e (rmk 8 191) s m args below meth c H [] 0 0 (MQ below (QI NM eM a cy D A r σ') args s 0 0 A) (F0 m 0 ls []) by rw [hH] at g; exact g
  clear hH
  obtain ⟨locs, hlocs⟩ : ∃ z : List Loc, z = [] := ⟨_, rfl⟩
  rw [← hlocs] at hS ⊢
  have hL104 : ∀ (k44 : Int32 → Int32 → Int32 → Int32 → Int32 → Int32 → ST → Option (Int32 × ST)) (hk44 : (∀ (v1 : Int32) (v2 : Int32) (v3 : Int32) (v4 : Int32) (v5 : Int32) (v6 : Int32) (s0 : ST) (H : Heap) (locs : List Loc) (ls : Array Slot), k44 v1 v2 v3 v4 v5 v6 s0 = some (r, σ') → va_P D vwCl (wG NM eM a cy s0) H → va_S A s.heap H locs → lv_has ls 7 [(0, .ref (a 0)), (1, .int v1), (2, .int v2), (3, .int v3), (4, .int v4), (5, .int v5), (6, .int v6)] → W p l e (rmk 8 191) s m args below meth c H locs 0 0 (MQ below (QI NM eM a cy D A r σ') args s 0 0 A) (F0 m 44 ls []))), (∀ (v1 : Int32) (v2 : Int32) (v3 : Int32) (v4 : Int32) (v6 : Int32) (t0 : Int32) (s0 : ST) (H : Heap) (locs : List Loc) (ls : Array Slot), f_X10_shift_L104 k44 v1 v2 v3 v4 v6 t0 s0 = some (r, σ') → va_P D vwCl (wG NM eM a cy s0) H → va_S A s.heap H locs → lv_has ls 7 [(0, .ref (a 0)), (1, .int v1), (2, .int v2), (3, .int v3), (4, .int v4), (6, .int v6)] → W p l e (rmk 8 191) s m args below meth c H locs 0 0 (MQ below (QI NM eM a cy D A r σ') args s 0 0 A) (F0 m 104 ls [.int t0])) := by
    intro k44 hk44 v1 v2 v3 v4 v6 t0 s0 H locs ls hf hP hS hl
    refine lv_istore (lv' := [(5, .int t0), (0, .ref (a 0)), (1, .int v1), (2, .int v2), (3, .int v3), (4, .int v4), (6, .int v6)]) hx hb dX10_shift_104 hl (by decide) rfl (fun ls hl => ?_)
    obtain ⟨y1, ey1, hf⟩ := jlet_e hf
    refine lv_iinc (v := y1) (lv' := [(6, .int y1), (5, .int t0), (0, .ref (a 0)), (1, .int v1), (2, .int v2), (3, .int v3), (4, .int v4)]) hx hb dX10_shift_106 hl (k := 6) rfl ey1 (by decide) rfl (fun ls hl => ?_)
    refine lv_goto (tgt := 44) hx hb dX10_shift_109 (by decide) ?_
    exact hk44 v1 v2 v3 v4 t0 y1 s0 H locs ls hf hP hS (lv_sub hl [2, 3, 4, 5, 6, 1, 0] rfl)
  have hL84 : ∀ (k44 : Int32 → Int32 → Int32 → Int32 → Int32 → Int32 → ST → Option (Int32 × ST)) (hk44 : (∀ (v1 : Int32) (v2 : Int32) (v3 : Int32) (v4 : Int32) (v5 : Int32) (v6 : Int32) (s0 : ST) (H : Heap) (locs : List Loc) (ls : Array Slot), k44 v1 v2 v3 v4 v5 v6 s0 = some (r, σ') → va_P D vwCl (wG NM eM a cy s0) H → va_S A s.heap H locs → lv_has ls 7 [(0, .ref (a 0)), (1, .int v1), (2, .int v2), (3, .int v3), (4, .int v4), (5, .int v5), (6, .int v6)] → W p l e (rmk 8 191) s m args below meth c H locs 0 0 (MQ below (QI NM eM a cy D A r σ') args s 0 0 A) (F0 m 44 ls []))), (∀ (v1 : Int32) (v2 : Int32) (v3 : Int32) (v5 : Int32) (v6 : Int32) (t0 : Int32) (s0 : ST) (H : Heap) (locs : List Loc) (ls : Array Slot), f_X10_shift_L84 k44 v1 v2 v3 v5 v6 t0 s0 = some (r, σ') → va_P D vwCl (wG NM eM a cy s0) H → va_S A s.heap H locs → lv_has ls 7 [(0, .ref (a 0)), (1, .int v1), (2, .int v2), (3, .int v3), (5, .int v5), (6, .int v6)] → W p l e (rmk 8 191) s m args below meth c H locs 0 0 (MQ below (QI NM eM a cy D A r σ') args s 0 0 A) (F0 m 84 ls [.int t0])) := by
    intro k44 hk44 v1 v2 v3 v5 v6 t0 s0 H locs ls hf hP hS hl
    refine lv_istore (lv' := [(4, .int t0), (0, .ref (a 0)), (1, .int v1), (2, .int v2), (3, .int v3), (5, .int v5), (6, .int v6)]) hx hb dX10_shift_84 hl (by decide) rfl (fun ls hl => ?_)
    refine lv_aload_n hx hb dX10_shift_86 rfl (lv_at hl 1 rfl) ?_
    refine gf_X10_37 C hP wk_4_234 dX10_shift_87 ?_
    refine lv_iload hx hb dX10_shift_90 (lv_at hl 5 rfl) ?_
    refine lv_icmp_ge (tgt := 102) hx hb dX10_shift_92 (by decide) (fun hc => ?_) (fun hc => ?_)
    · have hf := jif_t hc hf
      refine lv_iload hx hb dX10_shift_102 (lv_at hl 5 rfl) ?_
      exact hL104 k44 hk44 v1 v2 v3 t0 v6 v5 s0 H locs ls hf hP hS (lv_sub hl [1, 2, 3, 4, 0, 6] rfl)
    · have hf := jif_f hc hf
      refine lv_aload_n hx hb dX10_shift_95 rfl (lv_at hl 1 rfl) ?_
      refine gf_X10_37 C hP wk_4_234 dX10_shift_96 ?_
      refine lv_goto (tgt := 104) hx hb dX10_shift_99 (by decide) ?_
      exact hL104 k44 hk44 v1 v2 v3 t0 v6 (gA s0 0 37) s0 H locs ls hf hP hS (lv_sub hl [1, 2, 3, 4, 0, 6] rfl)
  have hL44 : ∀ (n : Nat), (∀ (v1 : Int32) (v2 : Int32) (v3 : Int32) (v4 : Int32) (v5 : Int32) (v6 : Int32) (s0 : ST) (H : Heap) (locs : List Loc) (ls : Array Slot), f_X10_shift_L44 n v1 v2 v3 v4 v5 v6 s0 = some (r, σ') → va_P D vwCl (wG NM eM a cy s0) H → va_S A s.heap H locs → lv_has ls 7 [(0, .ref (a 0)), (1, .int v1), (2, .int v2), (3, .int v3), (4, .int v4), (5, .int v5), (6, .int v6)] → W p l e (rmk 8 191) s m args below meth c H locs 0 0 (MQ below (QI NM eM a cy D A r σ') args s 0 0 A) (F0 m 44 ls [])) := by
    intro n
    induction n with
    | zero => intro v1 v2 v3 v4 v5 v6 s0 H locs ls hf hP hS hl; exact no_o hf
    | succ n ih =>
      intro v1 v2 v3 v4 v5 v6 s0 H locs ls hf hP hS hl
      have hf := (ef_X10_shift_L44 _ _ _ _ _ _ _).symm.trans hf
      refine lv_iload hx hb dX10_shift_44 (lv_at hl 6 rfl) ?_
      refine lv_bipush (v := (24 : Int32)) hx hb dX10_shift_46 (by decide) ?_
      refine lv_icmp_ge (tgt := 112) hx hb dX10_shift_48 (by decide) (fun hc => ?_) (fun hc => ?_)
      · have hf := jif_t hc hf
        refine lv_aload_n hx hb dX10_shift_112 rfl (lv_at hl 0 rfl) ?_
        refine gf_X10_7 C hP wk_4_204 dX10_shift_113 ?_
        refine lv_iload_n hx hb dX10_shift_116 rfl (lv_at hl 1 rfl) ?_
        refine lv_iload_n hx hb dX10_shift_117 rfl (lv_at hl 3 rfl) ?_
        obtain ⟨hi1, hf⟩ := jix_e hf
        refine r_iast C hP hS aM_7 hi1 dX10_shift_118 hf (fun H locs s2 hf hP hS => ?_)
        refine lv_iload_n hx hb dX10_shift_119 rfl (lv_at hl 2 rfl) ?_
        refine lv_if_ne (tgt := 128) hx hb dX10_shift_120 (by decide) (fun hc => ?_) (fun hc => ?_)
        · have hf := jif_t hc hf
          refine lv_iload hx hb dX10_shift_128 (lv_at hl 5 rfl) ?_
          exact ret_i C hP hS (Prod.mk.inj (Option.some.inj hf)).1 (Prod.mk.inj (Option.some.inj hf)).2 dX10_shift_130
        · have hf := jif_n hc hf
          refine lv_iload hx hb dX10_shift_123 (lv_at hl 4 rfl) ?_
          refine lv_goto (tgt := 130) hx hb dX10_shift_125 (by decide) ?_
          exact ret_i C hP hS (Prod.mk.inj (Option.some.inj hf)).1 (Prod.mk.inj (Option.some.inj hf)).2 dX10_shift_130
      · have hf := jif_f hc hf
        refine lv_aload_n hx hb dX10_shift_51 rfl (lv_at hl 0 rfl) ?_
        refine gf_X10_7 C hP wk_4_204 dX10_shift_52 ?_
        refine lv_iload_n hx hb dX10_shift_55 rfl (lv_at hl 1 rfl) ?_
        refine lv_iload hx hb dX10_shift_56 (lv_at hl 6 rfl) ?_
        obtain ⟨hi3, hf⟩ := jix_e hf
        refine r_iast C hP hS aM_7 hi3 dX10_shift_58 hf (fun H locs s4 hf hP hS => ?_)
        refine lv_aload_n hx hb dX10_shift_59 rfl (lv_at hl 0 rfl) ?_
        refine lv_iload_n hx hb dX10_shift_60 rfl (lv_at hl 1 rfl) ?_
        obtain ⟨s6, hc, hf⟩ := jb_e hf
        refine r_cv (r_runV (As := [.int v1]) (rest := []) C hP hS (va_recv C.hK hP (q0 := 0) (ci := 10) rfl (by rw [g_at oM_10.1, oM_10.2])) (k_X10_watches (l := l) O hc) mw_X10_watches mi_X10_watches mv_X10_watches wk_5_217 ⟨Nat.le_of_ble_eq_true rfl, Nat.le_of_ble_eq_true rfl⟩ ⟨rfl, rfl⟩ ⟨Nat.zero_le _, Nat.zero_le _⟩ rfl hl.1 rfl (Nat.le_of_ble_eq_true rfl) dX10_shift_61) hS (fun H locs hP hS => ?_)
        refine lv_aload_n hx hb dX10_shift_64 rfl (lv_at hl 0 rfl) ?_
        obtain ⟨s8, hc, hf⟩ := jb_e hf
        refine r_cv (r_runV (As := []) (rest := []) C hP hS (va_recv C.hK hP (q0 := 0) (ci := 10) rfl (by rw [g_at oM_10.1, oM_10.2])) (k_X10_findsGaps (l := l) O hc) mw_X10_findsGaps mi_X10_findsGaps mv_X10_findsGaps wk_6_9 ⟨Nat.le_of_ble_eq_true rfl, Nat.le_of_ble_eq_true rfl⟩ ⟨rfl, rfl⟩ ⟨Nat.zero_le _, Nat.zero_le _⟩ rfl hl.1 rfl (Nat.le_of_ble_eq_true rfl) dX10_shift_65) hS (fun H locs hP hS => ?_)
        refine lv_aload_n hx hb dX10_shift_68 rfl (lv_at hl 0 rfl) ?_
        refine gf_X10_37 C hP wk_4_234 dX10_shift_69 ?_
        refine lv_iload hx hb dX10_shift_72 (lv_at hl 5 rfl) ?_
        refine lv_icmp_ge (tgt := 82) hx hb dX10_shift_74 (by decide) (fun hc => ?_) (fun hc => ?_)
        · have hf := jif_t hc hf
          refine lv_iload hx hb dX10_shift_82 (lv_at hl 4 rfl) ?_
          exact hL84 (f_X10_shift_L44 n) ih v1 v2 v3 v5 v6 v4 s8 H locs ls hf hP hS (lv_sub hl [0, 1, 2, 3, 5, 6] rfl)
        · have hf := jif_f hc hf
          refine lv_iload hx hb dX10_shift_77 (lv_at hl 6 rfl) ?_
          refine lv_goto (tgt := 84) hx hb dX10_shift_79 (by decide) ?_
          exact hL84 (f_X10_shift_L44 n) ih v1 v2 v3 v5 v6 v6 s8 H locs ls hf hP hS (lv_sub hl [0, 1, 2, 3, 5, 6] rfl)
  refine lv_aload_n hx hb dX10_shift_0 rfl (lv_at hl 0 rfl) ?_
  refine lv_iload_n hx hb dX10_shift_1 rfl (lv_at hl 1 rfl) ?_
  refine r_cz (r_runV (As := [.int x1]) (rest := []) C hP hS (va_recv C.hK hP (q0 := 0) (ci := 10) rfl (by rw [g_at oM_10.1, oM_10.2])) (k_X10_isGuard (l := l) O (σ := σ) rfl) mw_X10_isGuard mi_X10_isGuard mv_X10_isGuard wk_5_153 ⟨Nat.le_of_ble_eq_true rfl, Nat.le_of_ble_eq_true rfl⟩ ⟨rfl, rfl⟩ ⟨Nat.zero_le _, Nat.zero_le _⟩ rfl hl.1 rfl (Nat.le_of_ble_eq_true rfl) dX10_shift_2) hS (fun H locs hzy1 hP hS => ?_)
  refine jl_topz hf hzy1 (fun y1 hzy1 hf => ?_)
  refine lv_if_ne (tgt := 11) hx hb dX10_shift_5 (by decide) (fun hc => ?_) (fun hc => ?_)
  · have hf := jif_t hc hf
    refine lv_iload_n hx hb dX10_shift_11 rfl (lv_at hl 2 rfl) ?_
    refine lv_iconst (v := (0 : Int32)) hx hb dX10_shift_12 (by decide) ?_
    refine lv_iconst (v := (1 : Int32)) hx hb dX10_shift_13 (by decide) ?_
    refine r_cz (r_runS (As := [.int x2, .int (0 : Int32), .int (1 : Int32)]) (rest := []) C hP hS (k_X10_in (l := l) O (σ := σ) rfl) mw_X10_in ms_X10_in wk_4_158 ⟨Nat.le_of_ble_eq_true rfl, Nat.le_of_ble_eq_true rfl⟩ ⟨rfl, rfl⟩ ⟨Nat.zero_le _, Nat.zero_le _⟩ rfl hl.1 rfl (Nat.le_of_ble_eq_true rfl) dX10_shift_14) hS (fun H locs hzy3 hP hS => ?_)
    refine jl_topz hf hzy3 (fun y3 hzy3 hf => ?_)
    refine lv_if_ne (tgt := 23) hx hb dX10_shift_17 (by decide) (fun hc => ?_) (fun hc => ?_)
    · have hf := jif_t hc hf
      refine lv_aload_n hx hb dX10_shift_23 rfl (lv_at hl 0 rfl) ?_
      refine gf_X10_7 C hP wk_4_204 dX10_shift_24 ?_
      refine lv_iload_n hx hb dX10_shift_27 rfl (lv_at hl 1 rfl) ?_
      obtain ⟨hi5, hf⟩ := jix_e hf
      refine r_iald C hP aM_7 hi5 dX10_shift_28 ?_
      refine jl_topi hf (fun y6 hf => ?_)
      refine lv_istore_n (lv' := [(3, .int y6), (0, .ref (a 0)), (1, .int x1), (2, .int x2)]) hx hb dX10_shift_29 rfl hl (by decide) rfl (fun ls hl => ?_)
      refine lv_iconst (v := (0 : Int32)) hx hb dX10_shift_30 (by decide) ?_
      refine lv_istore (lv' := [(4, .int (0 : Int32)), (3, .int y6), (0, .ref (a 0)), (1, .int x1), (2, .int x2)]) hx hb dX10_shift_31 hl (by decide) rfl (fun ls hl => ?_)
      refine lv_bipush (v := (25 : Int32)) hx hb dX10_shift_33 (by decide) ?_
      refine lv_istore (lv' := [(5, .int (25 : Int32)), (4, .int (0 : Int32)), (3, .int y6), (0, .ref (a 0)), (1, .int x1), (2, .int x2)]) hx hb dX10_shift_35 hl (by decide) rfl (fun ls hl => ?_)
      refine lv_aload_n hx hb dX10_shift_37 rfl (lv_at hl 3 rfl) ?_
      obtain ⟨s8, hc, hf⟩ := jb_e hf
      refine r_cv (r_runV (As := []) (rest := []) C hP hS (va_recv C.hK hP (q0 := 0) (ci := 10) rfl (by rw [g_at oM_10.1, oM_10.2])) (k_X10_watchesAll (l := l) O hc) mw_X10_watchesAll mi_X10_watchesAll mv_X10_watchesAll wk_5_213 ⟨Nat.le_of_ble_eq_true rfl, Nat.le_of_ble_eq_true rfl⟩ ⟨rfl, rfl⟩ ⟨Nat.zero_le _, Nat.zero_le _⟩ rfl hl.1 rfl (Nat.le_of_ble_eq_true rfl) dX10_shift_38) hS (fun H locs hP hS => ?_)
      refine lv_iconst (v := (0 : Int32)) hx hb dX10_shift_41 (by decide) ?_
      refine lv_istore (lv' := [(6, .int (0 : Int32)), (5, .int (25 : Int32)), (4, .int (0 : Int32)), (3, .int y6), (0, .ref (a 0)), (1, .int x1), (2, .int x2)]) hx hb dX10_shift_42 hl (by decide) rfl (fun ls hl => ?_)
      exact hL44 FU x1 x2 y6 (0 : Int32) (25 : Int32) (0 : Int32) s8 H locs ls hf hP hS (lv_sub hl [4, 5, 6, 3, 2, 1, 0] rfl)
    · have hf := jif_n hc hf
      refine lv_bipush (v := (-7 : Int32)) hx hb dX10_shift_20 (by decide) ?_
      exact ret_i C hP hS (Prod.mk.inj (Option.some.inj hf)).1 (Prod.mk.inj (Option.some.inj hf)).2 dX10_shift_22
  · have hf := jif_n hc hf
    refine lv_bipush (v := (-5 : Int32)) hx hb dX10_shift_8 (by decide) ?_
    exact ret_i C hP hS (Prod.mk.inj (Option.some.inj hf)).1 (Prod.mk.inj (Option.some.inj hf)).2 dX10_shift_10
set_option maxHeartbeats 4000000 in
set_option maxRecDepth 100000 in
theorem k_X10_holdsBy {l : Launch} {a : Nat → Nat} {cy : Nat → ClassId} {D : va_G} {A : Nat → Prop} (O : WO NM a (fun _ => True) A) {x1 : Int64} {x2 : Int32} {x3 : Int32} {r : Int32} {σ : ST} (hf : f_X10_holdsBy x1 x2 x3 σ = some r) : Met l yX10_holdsBy (Cond.code yX10_holdsBy cX10_holdsBy 6 (some .boolean) :: WS) (rmk 2 49) (PC [.ref (a 0), .long x1, .int x2, .int x3] NM eM a cy D (fun _ => True) σ) (QZ NM eM a cy D A r σ) 0 0 A := by
  refine met_go (own := "GuardsLookLeftModel") O (by decide +kernel) rfl (Nat.le_of_ble_eq_true rfl) ?_
  intro p e s m args below meth c ls C hP hS hl
  have hx := C.hx
  have hb := C.hb
  have hl : lv_has ls 6 [(0, .ref (a 0)), (1, .long x1), (3, .int x2), (4, .int x3)] := hl
  obtain ⟨H, hH⟩ : ∃ H, H = s.heap := ⟨_, rfl⟩
  rw [← hH] at hP
  have hS : va_S A s.heap H [] := by rw [hH]; exact va_S.rf
  suffices g : W p l e (rmk 2 49) s m args below meth c H [] 0 0 (MQ below (QZ NM eM a cy D A r σ) args s 0 0 A) (F0 m 0 ls []) by rw [hH] at g; exact g
  clear hH
  obtain ⟨locs, hlocs⟩ : ∃ z : List Loc, z = [] := ⟨_, rfl⟩
  rw [← hlocs] at hS ⊢
  have hL47 : ∀ (k3 : Int64 → Int32 → Int32 → Int32 → ST → Option Int32) (hk3 : (∀ (v1 : Int64) (v3 : Int32) (v4 : Int32) (v5 : Int32) (H : Heap) (locs : List Loc) (ls : Array Slot), k3 v1 v3 v4 v5 σ = some r → va_P D vwCl (wG NM eM a cy σ) H → va_S A s.heap H locs → lv_has ls 6 [(0, .ref (a 0)), (1, .long v1), (3, .int v3), (4, .int v4), (5, .int v5)] → W p l e (rmk 2 49) s m args below meth c H locs 0 0 (MQ below (QZ NM eM a cy D A r σ) args s 0 0 A) (F0 m 3 ls []))), (∀ (v1 : Int64) (v3 : Int32) (v4 : Int32) (v5 : Int32) (H : Heap) (locs : List Loc) (ls : Array Slot), f_X10_holdsBy_L47 k3 v1 v3 v4 v5 σ = some r → va_P D vwCl (wG NM eM a cy σ) H → va_S A s.heap H locs → lv_has ls 6 [(0, .ref (a 0)), (1, .long v1), (3, .int v3), (4, .int v4), (5, .int v5)] → W p l e (rmk 2 49) s m args below meth c H locs 0 0 (MQ below (QZ NM eM a cy D A r σ) args s 0 0 A) (F0 m 47 ls [])) := by
    intro k3 hk3 v1 v3 v4 v5 H locs ls hf hP hS hl
    obtain ⟨y1, ey1, hf⟩ := jlet_e hf
    refine lv_iinc (v := y1) (lv' := [(5, .int y1), (0, .ref (a 0)), (1, .long v1), (3, .int v3), (4, .int v4)]) hx hb dX10_holdsBy_47 hl (k := 4) rfl ey1 (by decide) rfl (fun ls hl => ?_)
    refine lv_goto (tgt := 3) hx hb dX10_holdsBy_50 (by decide) ?_
    exact hk3 v1 v3 v4 y1 H locs ls hf hP hS (lv_sub hl [1, 2, 3, 4, 0] rfl)
  have hL3 : ∀ (n : Nat), (∀ (v1 : Int64) (v3 : Int32) (v4 : Int32) (v5 : Int32) (H : Heap) (locs : List Loc) (ls : Array Slot), f_X10_holdsBy_L3 n v1 v3 v4 v5 σ = some r → va_P D vwCl (wG NM eM a cy σ) H → va_S A s.heap H locs → lv_has ls 6 [(0, .ref (a 0)), (1, .long v1), (3, .int v3), (4, .int v4), (5, .int v5)] → W p l e (rmk 2 49) s m args below meth c H locs 0 0 (MQ below (QZ NM eM a cy D A r σ) args s 0 0 A) (F0 m 3 ls [])) := by
    intro n
    induction n with
    | zero => intro v1 v3 v4 v5 H locs ls hf hP hS hl; exact no_o hf
    | succ n ih =>
      intro v1 v3 v4 v5 H locs ls hf hP hS hl
      have hf := (ef_X10_holdsBy_L3 _ _ _ _ _).symm.trans hf
      refine lv_iload hx hb dX10_holdsBy_3 (lv_at hl 4 rfl) ?_
      refine lv_bipush (v := (36 : Int32)) hx hb dX10_holdsBy_5 (by decide) ?_
      refine lv_icmp_ge (tgt := 53) hx hb dX10_holdsBy_7 (by decide) (fun hc => ?_) (fun hc => ?_)
      · have hf := jif_t hc hf
        refine lv_iconst (v := (1 : Int32)) hx hb dX10_holdsBy_53 (by decide) ?_
        exact ret_z C hP hS bz_1 (Option.some.inj hf) rfl dX10_holdsBy_54
      · have hf := jif_f hc hf
        refine lv_lload_n hx hb dX10_holdsBy_10 rfl (lv_at hl 1 rfl) ?_
        refine lv_aload_n hx hb dX10_holdsBy_11 rfl (lv_at hl 0 rfl) ?_
        refine gf_X10_0 C hP wk_4_197 dX10_holdsBy_12 ?_
        refine lv_iconst (v := (0 : Int32)) hx hb dX10_holdsBy_15 (by decide) ?_
        refine r_lald C hP aM_1 (vp_lit (by decide)) dX10_holdsBy_16 ?_
        refine lv_ldc2 hx hb C.hown (C.ts _ wk_5_104) dX10_holdsBy_17 ?_
        refine lv_lxor hx hb dX10_holdsBy_20 ?_
        refine lv_land hx hb dX10_holdsBy_21 ?_
        refine lv_iload hx hb dX10_holdsBy_22 (lv_at hl 4 rfl) ?_
        refine r_cz (r_runS (As := [.long (v1 &&& ((gB σ 1 (Int32.toNatClampNeg (0 : Int32))) ^^^ (-1 : Int64))), .int v5]) (rest := []) C hP hS (k_X10_has (l := l) O (σ := σ) rfl) mw_X10_has ms_X10_has wk_5_101 ⟨Nat.le_of_ble_eq_true rfl, Nat.le_of_ble_eq_true rfl⟩ ⟨rfl, rfl⟩ ⟨Nat.zero_le _, Nat.zero_le _⟩ rfl hl.1 rfl (Nat.le_of_ble_eq_true rfl) dX10_holdsBy_24) hS (fun H locs hzy1 hP hS => ?_)
        refine jl_topz hf hzy1 (fun y1 hzy1 hf => ?_)
        refine lv_if_eq (tgt := 47) hx hb dX10_holdsBy_27 (by decide) (fun hc => ?_) (fun hc => ?_)
        · have hf := jif_t hc hf
          exact hL47 (f_X10_holdsBy_L3 n) ih v1 v3 v4 v5 H locs ls hf hP hS (lv_sub hl [0, 1, 2, 3, 4] rfl)
        · have hf := jif_f hc hf
          refine lv_aload_n hx hb dX10_holdsBy_30 rfl (lv_at hl 0 rfl) ?_
          refine lv_iload hx hb dX10_holdsBy_31 (lv_at hl 4 rfl) ?_
          refine lv_iload hx hb dX10_holdsBy_33 (lv_at hl 3 rfl) ?_
          obtain ⟨y3, hc, hf⟩ := jb_e hf
          refine r_ci (r_runV (As := [.int v5, .int v4]) (rest := []) C hP hS (va_recv C.hK hP (q0 := 0) (ci := 10) rfl (by rw [g_at oM_10.1, oM_10.2])) (k_X10_aloneBy (l := l) O (σ := σ) hc) mw_X10_aloneBy mi_X10_aloneBy mv_X10_aloneBy wk_5_233 ⟨Nat.le_of_ble_eq_true rfl, Nat.le_of_ble_eq_true rfl⟩ ⟨rfl, rfl⟩ ⟨Nat.zero_le _, Nat.zero_le _⟩ rfl hl.1 rfl (Nat.le_of_ble_eq_true rfl) dX10_holdsBy_35) hS (fun H locs hP hS => ?_)
          obtain ⟨y5, hc, hf⟩ := jb_e hf
          refine r_ci (r_runS (As := [.int y3]) (rest := []) C hP hS (k_X10_gapOf (l := l) O (σ := σ) hc) mw_X10_gapOf ms_X10_gapOf wk_6_2 ⟨Nat.le_of_ble_eq_true rfl, Nat.le_of_ble_eq_true rfl⟩ ⟨rfl, rfl⟩ ⟨Nat.zero_le _, Nat.zero_le _⟩ rfl hl.1 rfl (Nat.le_of_ble_eq_true rfl) dX10_holdsBy_38) hS (fun H locs hP hS => ?_)
          refine lv_iload_n hx hb dX10_holdsBy_41 rfl (lv_at hl 2 rfl) ?_
          refine lv_icmp_le (tgt := 47) hx hb dX10_holdsBy_42 (by decide) (fun hc => ?_) (fun hc => ?_)
          · have hf := jif_t hc hf
            exact hL47 (f_X10_holdsBy_L3 n) ih v1 v3 v4 v5 H locs ls hf hP hS (lv_sub hl [0, 1, 2, 3, 4] rfl)
          · have hf := jif_f hc hf
            refine lv_iconst (v := (0 : Int32)) hx hb dX10_holdsBy_45 (by decide) ?_
            exact ret_z C hP hS bz_0 (Option.some.inj hf) rfl dX10_holdsBy_46
  refine lv_iconst (v := (0 : Int32)) hx hb dX10_holdsBy_0 (by decide) ?_
  refine lv_istore (lv' := [(5, .int (0 : Int32)), (0, .ref (a 0)), (1, .long x1), (3, .int x2), (4, .int x3)]) hx hb dX10_holdsBy_1 hl (by decide) rfl (fun ls hl => ?_)
  exact hL3 FU x1 x2 x3 (0 : Int32) H locs ls hf hP hS (lv_sub hl [1, 2, 3, 4, 0] rfl)
set_option maxHeartbeats 4000000 in
set_option maxRecDepth 100000 in
theorem k_X10_holds_ {l : Launch} {a : Nat → Nat} {cy : Nat → ClassId} {D : va_G} {A : Nat → Prop} (O : WO NM a (fun _ => True) A) {x1 : Int64} {x2 : Int32} {r : Int32} {σ : ST} {σ' : ST} (hf : f_X10_holds_ x1 x2 σ = some (r, σ')) : Met l yX10_holds_ (Cond.code yX10_holds_ cX10_holds_ 4 (some .int) :: WS) (rmk 8 191) (PC [.ref (a 0), .long x1, .int x2] NM eM a cy D (fun _ => True) σ) (QI NM eM a cy D A r σ') 0 0 A := by
  refine met_go (own := "GuardsLookLeftModel") O (by decide +kernel) rfl (Nat.le_of_ble_eq_true rfl) ?_
  intro p e s m args below meth c ls C hP hS hl
  have hx := C.hx
  have hb := C.hb
  have hl : lv_has ls 4 [(0, .ref (a 0)), (1, .long x1), (3, .int x2)] := hl
  obtain ⟨H, hH⟩ : ∃ H, H = s.heap := ⟨_, rfl⟩
  rw [← hH] at hP
  have hS : va_S A s.heap H [] := by rw [hH]; exact va_S.rf
  suffices g : W p l e (rmk 8 191) s m args below meth c H [] 0 0 (MQ below (QI NM eM a cy D A r σ') args s 0 0 A) (F0 m 0 ls []) by rw [hH] at g; exact g
  clear hH
  obtain ⟨locs, hlocs⟩ : ∃ z : List Loc, z = [] := ⟨_, rfl⟩
  rw [← hlocs] at hS ⊢
  refine lv_lload_n hx hb dX10_holds__0 rfl (lv_at hl 1 rfl) ?_
  refine r_cz (r_runS (As := [.long x1]) (rest := []) C hP hS (k_X10_areCells (l := l) O (σ := σ) rfl) mw_X10_areCells ms_X10_areCells wk_5_85 ⟨Nat.le_of_ble_eq_true rfl, Nat.le_of_ble_eq_true rfl⟩ ⟨rfl, rfl⟩ ⟨Nat.zero_le _, Nat.zero_le _⟩ rfl hl.1 rfl (Nat.le_of_ble_eq_true rfl) dX10_holds__1) hS (fun H locs hzy1 hP hS => ?_)
  refine jl_topz hf hzy1 (fun y1 hzy1 hf => ?_)
  refine lv_if_ne (tgt := 10) hx hb dX10_holds__4 (by decide) (fun hc => ?_) (fun hc => ?_)
  · have hf := jif_t hc hf
    refine lv_iload_n hx hb dX10_holds__10 rfl (lv_at hl 2 rfl) ?_
    refine lv_iconst (v := (0 : Int32)) hx hb dX10_holds__11 (by decide) ?_
    refine lv_bipush (v := (24 : Int32)) hx hb dX10_holds__12 (by decide) ?_
    refine r_cz (r_runS (As := [.int x2, .int (0 : Int32), .int (24 : Int32)]) (rest := []) C hP hS (k_X10_in (l := l) O (σ := σ) rfl) mw_X10_in ms_X10_in wk_4_158 ⟨Nat.le_of_ble_eq_true rfl, Nat.le_of_ble_eq_true rfl⟩ ⟨rfl, rfl⟩ ⟨Nat.zero_le _, Nat.zero_le _⟩ rfl hl.1 rfl (Nat.le_of_ble_eq_true rfl) dX10_holds__14) hS (fun H locs hzy3 hP hS => ?_)
    refine jl_topz hf hzy3 (fun y3 hzy3 hf => ?_)
    refine lv_if_ne (tgt := 23) hx hb dX10_holds__17 (by decide) (fun hc => ?_) (fun hc => ?_)
    · have hf := jif_t hc hf
      refine lv_aload_n hx hb dX10_holds__23 rfl (lv_at hl 0 rfl) ?_
      obtain ⟨s6, hc, hf⟩ := jb_e hf
      refine r_cv (r_runV (As := []) (rest := []) C hP hS (va_recv C.hK hP (q0 := 0) (ci := 10) rfl (by rw [g_at oM_10.1, oM_10.2])) (k_X10_watchesAll (l := l) O hc) mw_X10_watchesAll mi_X10_watchesAll mv_X10_watchesAll wk_5_213 ⟨Nat.le_of_ble_eq_true rfl, Nat.le_of_ble_eq_true rfl⟩ ⟨rfl, rfl⟩ ⟨Nat.zero_le _, Nat.zero_le _⟩ rfl hl.1 rfl (Nat.le_of_ble_eq_true rfl) dX10_holds__24) hS (fun H locs hP hS => ?_)
      refine lv_aload_n hx hb dX10_holds__27 rfl (lv_at hl 0 rfl) ?_
      refine lv_lload_n hx hb dX10_holds__28 rfl (lv_at hl 1 rfl) ?_
      refine lv_iload_n hx hb dX10_holds__29 rfl (lv_at hl 2 rfl) ?_
      refine lv_aload_n hx hb dX10_holds__30 rfl (lv_at hl 0 rfl) ?_
      refine r_ci (r_runV (As := []) (rest := [.int x2, .long x1, .ref (a 0)]) C hP hS (va_recv C.hK hP (q0 := 0) (ci := 10) rfl (by rw [g_at oM_10.1, oM_10.2])) (k_X10_allGuards (l := l) O (σ := s6) rfl) mw_X10_allGuards mi_X10_allGuards mv_X10_allGuards wk_5_221 ⟨Nat.le_of_ble_eq_true rfl, Nat.le_of_ble_eq_true rfl⟩ ⟨rfl, rfl⟩ ⟨Nat.zero_le _, Nat.zero_le _⟩ rfl hl.1 rfl (Nat.le_of_ble_eq_true rfl) dX10_holds__31) hS (fun H locs hP hS => ?_)
      refine jl_topi hf (fun y7 hf => ?_)
      obtain ⟨y9, hc, hf⟩ := jb_e hf
      refine r_cz (r_runV (As := [.long x1, .int x2, .int y7]) (rest := []) C hP hS (va_recv C.hK hP (q0 := 0) (ci := 10) rfl (by rw [g_at oM_10.1, oM_10.2])) (k_X10_holdsBy (l := l) O (σ := s6) hc) mw_X10_holdsBy mi_X10_holdsBy mv_X10_holdsBy wk_6_67 ⟨Nat.le_of_ble_eq_true rfl, Nat.le_of_ble_eq_true rfl⟩ ⟨rfl, rfl⟩ ⟨Nat.zero_le _, Nat.zero_le _⟩ rfl hl.1 rfl (Nat.le_of_ble_eq_true rfl) dX10_holds__34) hS (fun H locs hzy9 hP hS => ?_)
      refine lv_if_eq (tgt := 44) hx hb dX10_holds__37 (by decide) (fun hc => ?_) (fun hc => ?_)
      · have hf := jif_t hc hf
        refine lv_iconst (v := (0 : Int32)) hx hb dX10_holds__44 (by decide) ?_
        exact ret_i C hP hS (Prod.mk.inj (Option.some.inj hf)).1 (Prod.mk.inj (Option.some.inj hf)).2 dX10_holds__45
      · have hf := jif_f hc hf
        refine lv_iconst (v := (1 : Int32)) hx hb dX10_holds__40 (by decide) ?_
        refine lv_goto (tgt := 45) hx hb dX10_holds__41 (by decide) ?_
        exact ret_i C hP hS (Prod.mk.inj (Option.some.inj hf)).1 (Prod.mk.inj (Option.some.inj hf)).2 dX10_holds__45
    · have hf := jif_n hc hf
      refine lv_bipush (v := (-7 : Int32)) hx hb dX10_holds__20 (by decide) ?_
      exact ret_i C hP hS (Prod.mk.inj (Option.some.inj hf)).1 (Prod.mk.inj (Option.some.inj hf)).2 dX10_holds__22
  · have hf := jif_n hc hf
    refine lv_bipush (v := (-5 : Int32)) hx hb dX10_holds__7 (by decide) ?_
    exact ret_i C hP hS (Prod.mk.inj (Option.some.inj hf)).1 (Prod.mk.inj (Option.some.inj hf)).2 dX10_holds__9
set_option maxHeartbeats 4000000 in
set_option maxRecDepth 100000 in
theorem k_X10_bribes {l : Launch} {a : Nat → Nat} {cy : Nat → ClassId} {D : va_G} {A : Nat → Prop} (O : WO NM a (fun _ => True) A) {x1 : Int64} {x2 : Int32} {r : Int32} {σ : ST} {σ' : ST} (hf : f_X10_bribes x1 x2 σ = some (r, σ')) : Met l yX10_bribes (Cond.code yX10_bribes cX10_bribes 6 (some .int) :: WS) (rmk 8 191) (PC [.ref (a 0), .long x1, .int x2] NM eM a cy D (fun _ => True) σ) (QI NM eM a cy D A r σ') 0 0 A := by
  refine met_go (own := "GuardsLookLeftModel") O (by decide +kernel) rfl (Nat.le_of_ble_eq_true rfl) ?_
  intro p e s m args below meth c ls C hP hS hl
  have hx := C.hx
  have hb := C.hb
  have hl : lv_has ls 6 [(0, .ref (a 0)), (1, .long x1), (3, .int x2)] := hl
  obtain ⟨H, hH⟩ : ∃ H, H = s.heap := ⟨_, rfl⟩
  rw [← hH] at hP
  have hS : va_S A s.heap H [] := by rw [hH]; exact va_S.rf
  suffices g : W p l e (rmk 8 191) s m args below meth c H [] 0 0 (MQ below (QI NM eM a cy D A r σ') args s 0 0 A) (F0 m 0 ls []) by rw [hH] at g; exact g
  clear hH
  obtain ⟨locs, hlocs⟩ : ∃ z : List Loc, z = [] := ⟨_, rfl⟩
  rw [← hlocs] at hS ⊢
  have hL66 : ∀ (k29 : Int64 → Int32 → Int32 → Int32 → ST → Option (Int32 × ST)) (hk29 : (∀ (v1 : Int64) (v3 : Int32) (v4 : Int32) (v5 : Int32) (s0 : ST) (H : Heap) (locs : List Loc) (ls : Array Slot), k29 v1 v3 v4 v5 s0 = some (r, σ') → va_P D vwCl (wG NM eM a cy s0) H → va_S A s.heap H locs → lv_has ls 6 [(0, .ref (a 0)), (1, .long v1), (3, .int v3), (4, .int v4), (5, .int v5)] → W p l e (rmk 8 191) s m args below meth c H locs 0 0 (MQ below (QI NM eM a cy D A r σ') args s 0 0 A) (F0 m 29 ls []))), (∀ (v1 : Int64) (v3 : Int32) (v5 : Int32) (t0 : Int32) (t1 : Int32) (s0 : ST) (H : Heap) (locs : List Loc) (ls : Array Slot), f_X10_bribes_L66 k29 v1 v3 v5 t0 t1 s0 = some (r, σ') → va_P D vwCl (wG NM eM a cy s0) H → va_S A s.heap H locs → lv_has ls 6 [(0, .ref (a 0)), (1, .long v1), (3, .int v3), (5, .int v5)] → W p l e (rmk 8 191) s m args below meth c H locs 0 0 (MQ below (QI NM eM a cy D A r σ') args s 0 0 A) (F0 m 66 ls [.int t1, .int t0])) := by
    intro k29 hk29 v1 v3 v5 t0 t1 s0 H locs ls hf hP hS hl
    refine lv_ior hx hb dX10_bribes_66 ?_
    refine jl_topi hf (fun y1 hf => ?_)
    refine lv_istore (lv' := [(4, .int y1), (0, .ref (a 0)), (1, .long v1), (3, .int v3), (5, .int v5)]) hx hb dX10_bribes_67 hl (by decide) rfl (fun ls hl => ?_)
    obtain ⟨y2, ey2, hf⟩ := jlet_e hf
    refine lv_iinc (v := y2) (lv' := [(5, .int y2), (4, .int y1), (0, .ref (a 0)), (1, .long v1), (3, .int v3)]) hx hb dX10_bribes_69 hl (k := 4) rfl ey2 (by decide) rfl (fun ls hl => ?_)
    refine lv_goto (tgt := 29) hx hb dX10_bribes_72 (by decide) ?_
    exact hk29 v1 v3 y1 y2 s0 H locs ls hf hP hS (lv_sub hl [2, 3, 4, 1, 0] rfl)
  have hL29 : ∀ (n : Nat), (∀ (v1 : Int64) (v3 : Int32) (v4 : Int32) (v5 : Int32) (s0 : ST) (H : Heap) (locs : List Loc) (ls : Array Slot), f_X10_bribes_L29 n v1 v3 v4 v5 s0 = some (r, σ') → va_P D vwCl (wG NM eM a cy s0) H → va_S A s.heap H locs → lv_has ls 6 [(0, .ref (a 0)), (1, .long v1), (3, .int v3), (4, .int v4), (5, .int v5)] → W p l e (rmk 8 191) s m args below meth c H locs 0 0 (MQ below (QI NM eM a cy D A r σ') args s 0 0 A) (F0 m 29 ls [])) := by
    intro n
    induction n with
    | zero => intro v1 v3 v4 v5 s0 H locs ls hf hP hS hl; exact no_o hf
    | succ n ih =>
      intro v1 v3 v4 v5 s0 H locs ls hf hP hS hl
      have hf := (ef_X10_bribes_L29 _ _ _ _ _).symm.trans hf
      refine lv_iload hx hb dX10_bribes_29 (lv_at hl 4 rfl) ?_
      refine lv_aload_n hx hb dX10_bribes_31 rfl (lv_at hl 0 rfl) ?_
      refine r_ci (r_runV (As := []) (rest := [.int v5]) C hP hS (va_recv C.hK hP (q0 := 0) (ci := 10) rfl (by rw [g_at oM_10.1, oM_10.2])) (k_X10_allGuards (l := l) O (σ := s0) rfl) mw_X10_allGuards mi_X10_allGuards mv_X10_allGuards wk_5_221 ⟨Nat.le_of_ble_eq_true rfl, Nat.le_of_ble_eq_true rfl⟩ ⟨rfl, rfl⟩ ⟨Nat.zero_le _, Nat.zero_le _⟩ rfl hl.1 rfl (Nat.le_of_ble_eq_true rfl) dX10_bribes_32) hS (fun H locs hP hS => ?_)
      refine jl_topi hf (fun y1 hf => ?_)
      refine lv_icmp_gt (tgt := 75) hx hb dX10_bribes_35 (by decide) (fun hc => ?_) (fun hc => ?_)
      · have hf := jif_t hc hf
        refine lv_iload hx hb dX10_bribes_75 (lv_at hl 3 rfl) ?_
        exact ret_i C hP hS (Prod.mk.inj (Option.some.inj hf)).1 (Prod.mk.inj (Option.some.inj hf)).2 dX10_bribes_77
      · have hf := jif_f hc hf
        refine lv_iload hx hb dX10_bribes_38 (lv_at hl 3 rfl) ?_
        refine lv_aload_n hx hb dX10_bribes_40 rfl (lv_at hl 0 rfl) ?_
        refine lv_lload_n hx hb dX10_bribes_41 rfl (lv_at hl 1 rfl) ?_
        refine lv_iload_n hx hb dX10_bribes_42 rfl (lv_at hl 2 rfl) ?_
        refine lv_aload_n hx hb dX10_bribes_43 rfl (lv_at hl 0 rfl) ?_
        refine r_ci (r_runV (As := []) (rest := [.int v3, .long v1, .ref (a 0), .int v4]) C hP hS (va_recv C.hK hP (q0 := 0) (ci := 10) rfl (by rw [g_at oM_10.1, oM_10.2])) (k_X10_allGuards (l := l) O (σ := s0) rfl) mw_X10_allGuards mi_X10_allGuards mv_X10_allGuards wk_5_221 ⟨Nat.le_of_ble_eq_true rfl, Nat.le_of_ble_eq_true rfl⟩ ⟨rfl, rfl⟩ ⟨Nat.zero_le _, Nat.zero_le _⟩ rfl hl.1 rfl (Nat.le_of_ble_eq_true rfl) dX10_bribes_44) hS (fun H locs hP hS => ?_)
        refine jl_topi hf (fun y3 hf => ?_)
        refine lv_iload hx hb dX10_bribes_47 (lv_at hl 4 rfl) ?_
        refine lv_iconst (v := (-1 : Int32)) hx hb dX10_bribes_49 (by decide) ?_
        refine lv_ixor hx hb dX10_bribes_50 ?_
        refine lv_iand hx hb dX10_bribes_51 ?_
        obtain ⟨y5, hc, hf⟩ := jb_e hf
        refine r_cz (r_runV (As := [.long v1, .int v3, .int (y3 &&& (v5 ^^^ (-1 : Int32)))]) (rest := [.int v4]) C hP hS (va_recv C.hK hP (q0 := 0) (ci := 10) rfl (by rw [g_at oM_10.1, oM_10.2])) (k_X10_holdsBy (l := l) O (σ := s0) hc) mw_X10_holdsBy mi_X10_holdsBy mv_X10_holdsBy wk_6_67 ⟨Nat.le_of_ble_eq_true rfl, Nat.le_of_ble_eq_true rfl⟩ ⟨rfl, rfl⟩ ⟨Nat.zero_le _, Nat.zero_le _⟩ rfl hl.1 rfl (Nat.le_of_ble_eq_true rfl) dX10_bribes_52) hS (fun H locs hzy5 hP hS => ?_)
        refine lv_if_eq (tgt := 65) hx hb dX10_bribes_55 (by decide) (fun hc => ?_) (fun hc => ?_)
        · have hf := jif_t hc hf
          refine lv_iconst (v := (0 : Int32)) hx hb dX10_bribes_65 (by decide) ?_
          exact hL66 (f_X10_bribes_L29 n) ih v1 v3 v5 v4 (0 : Int32) s0 H locs ls hf hP hS (lv_sub hl [0, 1, 2, 4] rfl)
        · have hf := jif_f hc hf
          refine lv_iconst (v := (1 : Int32)) hx hb dX10_bribes_58 (by decide) ?_
          refine lv_iload hx hb dX10_bribes_59 (lv_at hl 4 rfl) ?_
          refine r_ishl C dX10_bribes_61 ?_
          refine lv_goto (tgt := 66) hx hb dX10_bribes_62 (by decide) ?_
          exact hL66 (f_X10_bribes_L29 n) ih v1 v3 v5 v4 (jshl (1 : Int32) v5) s0 H locs ls hf hP hS (lv_sub hl [0, 1, 2, 4] rfl)
  refine lv_lload_n hx hb dX10_bribes_0 rfl (lv_at hl 1 rfl) ?_
  refine r_cz (r_runS (As := [.long x1]) (rest := []) C hP hS (k_X10_areCells (l := l) O (σ := σ) rfl) mw_X10_areCells ms_X10_areCells wk_5_85 ⟨Nat.le_of_ble_eq_true rfl, Nat.le_of_ble_eq_true rfl⟩ ⟨rfl, rfl⟩ ⟨Nat.zero_le _, Nat.zero_le _⟩ rfl hl.1 rfl (Nat.le_of_ble_eq_true rfl) dX10_bribes_1) hS (fun H locs hzy1 hP hS => ?_)
  refine jl_topz hf hzy1 (fun y1 hzy1 hf => ?_)
  refine lv_if_eq (tgt := 17) hx hb dX10_bribes_4 (by decide) (fun hc => ?_) (fun hc => ?_)
  · have hf := jif_t hc hf
    refine lv_iconst (v := (0 : Int32)) hx hb dX10_bribes_17 (by decide) ?_
    exact ret_i C hP hS (Prod.mk.inj (Option.some.inj hf)).1 (Prod.mk.inj (Option.some.inj hf)).2 dX10_bribes_18
  · have hf := jif_f hc hf
    refine lv_iload_n hx hb dX10_bribes_7 rfl (lv_at hl 2 rfl) ?_
    refine lv_iconst (v := (0 : Int32)) hx hb dX10_bribes_8 (by decide) ?_
    refine lv_bipush (v := (24 : Int32)) hx hb dX10_bribes_9 (by decide) ?_
    refine r_cz (r_runS (As := [.int x2, .int (0 : Int32), .int (24 : Int32)]) (rest := []) C hP hS (k_X10_in (l := l) O (σ := σ) rfl) mw_X10_in ms_X10_in wk_4_158 ⟨Nat.le_of_ble_eq_true rfl, Nat.le_of_ble_eq_true rfl⟩ ⟨rfl, rfl⟩ ⟨Nat.zero_le _, Nat.zero_le _⟩ rfl hl.1 rfl (Nat.le_of_ble_eq_true rfl) dX10_bribes_11) hS (fun H locs hzy3 hP hS => ?_)
    refine jl_topz hf hzy3 (fun y3 hzy3 hf => ?_)
    refine lv_if_ne (tgt := 19) hx hb dX10_bribes_14 (by decide) (fun hc => ?_) (fun hc => ?_)
    · have hf := jif_t hc hf
      refine lv_aload_n hx hb dX10_bribes_19 rfl (lv_at hl 0 rfl) ?_
      obtain ⟨s6, hc, hf⟩ := jb_e hf
      refine r_cv (r_runV (As := []) (rest := []) C hP hS (va_recv C.hK hP (q0 := 0) (ci := 10) rfl (by rw [g_at oM_10.1, oM_10.2])) (k_X10_watchesAll (l := l) O hc) mw_X10_watchesAll mi_X10_watchesAll mv_X10_watchesAll wk_5_213 ⟨Nat.le_of_ble_eq_true rfl, Nat.le_of_ble_eq_true rfl⟩ ⟨rfl, rfl⟩ ⟨Nat.zero_le _, Nat.zero_le _⟩ rfl hl.1 rfl (Nat.le_of_ble_eq_true rfl) dX10_bribes_20) hS (fun H locs hP hS => ?_)
      refine lv_iconst (v := (0 : Int32)) hx hb dX10_bribes_23 (by decide) ?_
      refine lv_istore (lv' := [(4, .int (0 : Int32)), (0, .ref (a 0)), (1, .long x1), (3, .int x2)]) hx hb dX10_bribes_24 hl (by decide) rfl (fun ls hl => ?_)
      refine lv_iconst (v := (0 : Int32)) hx hb dX10_bribes_26 (by decide) ?_
      refine lv_istore (lv' := [(5, .int (0 : Int32)), (4, .int (0 : Int32)), (0, .ref (a 0)), (1, .long x1), (3, .int x2)]) hx hb dX10_bribes_27 hl (by decide) rfl (fun ls hl => ?_)
      exact hL29 FU x1 x2 (0 : Int32) (0 : Int32) s6 H locs ls hf hP hS (lv_sub hl [2, 3, 4, 1, 0] rfl)
    · have hf := jif_n hc hf
      refine lv_iconst (v := (0 : Int32)) hx hb dX10_bribes_17 (by decide) ?_
      exact ret_i C hP hS (Prod.mk.inj (Option.some.inj hf)).1 (Prod.mk.inj (Option.some.inj hf)).2 dX10_bribes_18
set_option maxHeartbeats 4000000 in
set_option maxRecDepth 100000 in
theorem k_X10_fewest {l : Launch} {a : Nat → Nat} {cy : Nat → ClassId} {D : va_G} {A : Nat → Prop} (O : WO NM a (fun _ => True) A) {x1 : Int64} {x2 : Int32} {x3 : Int32} {r : Int32} {σ : ST} {σ' : ST} (hf : f_X10_fewest x1 x2 x3 σ = some (r, σ')) : Met l yX10_fewest (Cond.code yX10_fewest cX10_fewest 8 (some .int) :: WS) (rmk 8 191) (PC [.ref (a 0), .long x1, .int x2, .int x3] NM eM a cy D (fun _ => True) σ) (QI NM eM a cy D A r σ') 0 0 A := by
  refine met_go (own := "GuardsLookLeftModel") O (by decide +kernel) rfl (Nat.le_of_ble_eq_true rfl) ?_
  intro p e s m args below meth c ls C hP hS hl
  have hx := C.hx
  have hb := C.hb
  have hl : lv_has ls 8 [(0, .ref (a 0)), (1, .long x1), (3, .int x2), (4, .int x3)] := hl
  obtain ⟨H, hH⟩ : ∃ H, H = s.heap := ⟨_, rfl⟩
  rw [← hH] at hP
  have hS : va_S A s.heap H [] := by rw [hH]; exact va_S.rf
  suffices g : W p l e (rmk 8 191) s m args below meth c H [] 0 0 (MQ below (QI NM eM a cy D A r σ') args s 0 0 A) (F0 m 0 ls []) by rw [hH] at g; exact g
  clear hH
  obtain ⟨locs, hlocs⟩ : ∃ z : List Loc, z = [] := ⟨_, rfl⟩
  rw [← hlocs] at hS ⊢
  have hL103 : ∀ (k43 : Int64 → Int32 → Int32 → Int32 → Int32 → ST → Option (Int32 × ST)) (hk43 : (∀ (v1 : Int64) (v3 : Int32) (v4 : Int32) (v5 : Int32) (v6 : Int32) (s0 : ST) (H : Heap) (locs : List Loc) (ls : Array Slot), k43 v1 v3 v4 v5 v6 s0 = some (r, σ') → va_P D vwCl (wG NM eM a cy s0) H → va_S A s.heap H locs → lv_has ls 8 [(0, .ref (a 0)), (1, .long v1), (3, .int v3), (4, .int v4), (5, .int v5), (6, .int v6)] → W p l e (rmk 8 191) s m args below meth c H locs 0 0 (MQ below (QI NM eM a cy D A r σ') args s 0 0 A) (F0 m 43 ls []))), (∀ (v1 : Int64) (v3 : Int32) (v4 : Int32) (v6 : Int32) (t0 : Int32) (s0 : ST) (H : Heap) (locs : List Loc) (ls : Array Slot), f_X10_fewest_L103 k43 v1 v3 v4 v6 t0 s0 = some (r, σ') → va_P D vwCl (wG NM eM a cy s0) H → va_S A s.heap H locs → lv_has ls 8 [(0, .ref (a 0)), (1, .long v1), (3, .int v3), (4, .int v4), (6, .int v6)] → W p l e (rmk 8 191) s m args below meth c H locs 0 0 (MQ below (QI NM eM a cy D A r σ') args s 0 0 A) (F0 m 103 ls [.int t0])) := by
    intro k43 hk43 v1 v3 v4 v6 t0 s0 H locs ls hf hP hS hl
    refine lv_istore (lv' := [(5, .int t0), (0, .ref (a 0)), (1, .long v1), (3, .int v3), (4, .int v4), (6, .int v6)]) hx hb dX10_fewest_103 hl (by decide) rfl (fun ls hl => ?_)
    obtain ⟨y1, ey1, hf⟩ := jlet_e hf
    refine lv_iinc (v := y1) (lv' := [(6, .int y1), (5, .int t0), (0, .ref (a 0)), (1, .long v1), (3, .int v3), (4, .int v4)]) hx hb dX10_fewest_105 hl (k := 5) rfl ey1 (by decide) rfl (fun ls hl => ?_)
    refine lv_goto (tgt := 43) hx hb dX10_fewest_108 (by decide) ?_
    exact hk43 v1 v3 v4 t0 y1 s0 H locs ls hf hP hS (lv_sub hl [2, 3, 4, 5, 1, 0] rfl)
  have hL101 : ∀ (k43 : Int64 → Int32 → Int32 → Int32 → Int32 → ST → Option (Int32 × ST)) (hk43 : (∀ (v1 : Int64) (v3 : Int32) (v4 : Int32) (v5 : Int32) (v6 : Int32) (s0 : ST) (H : Heap) (locs : List Loc) (ls : Array Slot), k43 v1 v3 v4 v5 v6 s0 = some (r, σ') → va_P D vwCl (wG NM eM a cy s0) H → va_S A s.heap H locs → lv_has ls 8 [(0, .ref (a 0)), (1, .long v1), (3, .int v3), (4, .int v4), (5, .int v5), (6, .int v6)] → W p l e (rmk 8 191) s m args below meth c H locs 0 0 (MQ below (QI NM eM a cy D A r σ') args s 0 0 A) (F0 m 43 ls []))), (∀ (v1 : Int64) (v3 : Int32) (v4 : Int32) (v5 : Int32) (v6 : Int32) (s0 : ST) (H : Heap) (locs : List Loc) (ls : Array Slot), f_X10_fewest_L101 k43 v1 v3 v4 v5 v6 s0 = some (r, σ') → va_P D vwCl (wG NM eM a cy s0) H → va_S A s.heap H locs → lv_has ls 8 [(0, .ref (a 0)), (1, .long v1), (3, .int v3), (4, .int v4), (5, .int v5), (6, .int v6)] → W p l e (rmk 8 191) s m args below meth c H locs 0 0 (MQ below (QI NM eM a cy D A r σ') args s 0 0 A) (F0 m 101 ls [])) := by
    intro k43 hk43 v1 v3 v4 v5 v6 s0 H locs ls hf hP hS hl
    refine lv_iload hx hb dX10_fewest_101 (lv_at hl 4 rfl) ?_
    exact hL103 k43 hk43 v1 v3 v4 v6 v5 s0 H locs ls hf hP hS (lv_sub hl [0, 1, 2, 3, 5] rfl)
  have hL78 : ∀ (k43 : Int64 → Int32 → Int32 → Int32 → Int32 → ST → Option (Int32 × ST)) (hk43 : (∀ (v1 : Int64) (v3 : Int32) (v4 : Int32) (v5 : Int32) (v6 : Int32) (s0 : ST) (H : Heap) (locs : List Loc) (ls : Array Slot), k43 v1 v3 v4 v5 v6 s0 = some (r, σ') → va_P D vwCl (wG NM eM a cy s0) H → va_S A s.heap H locs → lv_has ls 8 [(0, .ref (a 0)), (1, .long v1), (3, .int v3), (4, .int v4), (5, .int v5), (6, .int v6)] → W p l e (rmk 8 191) s m args below meth c H locs 0 0 (MQ below (QI NM eM a cy D A r σ') args s 0 0 A) (F0 m 43 ls []))), (∀ (v1 : Int64) (v3 : Int32) (v4 : Int32) (v5 : Int32) (v6 : Int32) (t0 : Int32) (s0 : ST) (H : Heap) (locs : List Loc) (ls : Array Slot), f_X10_fewest_L78 k43 v1 v3 v4 v5 v6 t0 s0 = some (r, σ') → va_P D vwCl (wG NM eM a cy s0) H → va_S A s.heap H locs → lv_has ls 8 [(0, .ref (a 0)), (1, .long v1), (3, .int v3), (4, .int v4), (5, .int v5), (6, .int v6)] → W p l e (rmk 8 191) s m args below meth c H locs 0 0 (MQ below (QI NM eM a cy D A r σ') args s 0 0 A) (F0 m 78 ls [.int t0])) := by
    intro k43 hk43 v1 v3 v4 v5 v6 t0 s0 H locs ls hf hP hS hl
    refine lv_istore (lv' := [(7, .int t0), (0, .ref (a 0)), (1, .long v1), (3, .int v3), (4, .int v4), (5, .int v5), (6, .int v6)]) hx hb dX10_fewest_78 hl (by decide) rfl (fun ls hl => ?_)
    refine lv_iload hx hb dX10_fewest_80 (lv_at hl 0 rfl) ?_
    refine lv_if_eq (tgt := 101) hx hb dX10_fewest_82 (by decide) (fun hc => ?_) (fun hc => ?_)
    · have hf := jif_t hc hf
      exact hL101 k43 hk43 v1 v3 v4 v5 v6 s0 H locs ls hf hP hS (lv_sub hl [1, 2, 3, 4, 5, 6] rfl)
    · have hf := jif_f hc hf
      refine lv_aload_n hx hb dX10_fewest_85 rfl (lv_at hl 1 rfl) ?_
      refine lv_lload_n hx hb dX10_fewest_86 rfl (lv_at hl 2 rfl) ?_
      refine lv_iload_n hx hb dX10_fewest_87 rfl (lv_at hl 3 rfl) ?_
      refine lv_iload hx hb dX10_fewest_88 (lv_at hl 6 rfl) ?_
      obtain ⟨y1, hc, hf⟩ := jb_e hf
      refine r_cz (r_runV (As := [.long v1, .int v3, .int v6]) (rest := []) C hP hS (va_recv C.hK hP (q0 := 0) (ci := 10) rfl (by rw [g_at oM_10.1, oM_10.2])) (k_X10_holdsBy (l := l) O (σ := s0) hc) mw_X10_holdsBy mi_X10_holdsBy mv_X10_holdsBy wk_6_67 ⟨Nat.le_of_ble_eq_true rfl, Nat.le_of_ble_eq_true rfl⟩ ⟨rfl, rfl⟩ ⟨Nat.zero_le _, Nat.zero_le _⟩ rfl hl.1 rfl (Nat.le_of_ble_eq_true rfl) dX10_fewest_90) hS (fun H locs hzy1 hP hS => ?_)
      refine lv_if_eq (tgt := 101) hx hb dX10_fewest_93 (by decide) (fun hc => ?_) (fun hc => ?_)
      · have hf := jif_t hc hf
        exact hL101 k43 hk43 v1 v3 v4 v5 v6 s0 H locs ls hf hP hS (lv_sub hl [1, 2, 3, 4, 5, 6] rfl)
      · have hf := jif_f hc hf
        refine lv_iload hx hb dX10_fewest_96 (lv_at hl 6 rfl) ?_
        refine lv_goto (tgt := 103) hx hb dX10_fewest_98 (by decide) ?_
        exact hL103 k43 hk43 v1 v3 v4 v6 v6 s0 H locs ls hf hP hS (lv_sub hl [1, 2, 3, 4, 6] rfl)
  have hL73 : ∀ (k43 : Int64 → Int32 → Int32 → Int32 → Int32 → ST → Option (Int32 × ST)) (hk43 : (∀ (v1 : Int64) (v3 : Int32) (v4 : Int32) (v5 : Int32) (v6 : Int32) (s0 : ST) (H : Heap) (locs : List Loc) (ls : Array Slot), k43 v1 v3 v4 v5 v6 s0 = some (r, σ') → va_P D vwCl (wG NM eM a cy s0) H → va_S A s.heap H locs → lv_has ls 8 [(0, .ref (a 0)), (1, .long v1), (3, .int v3), (4, .int v4), (5, .int v5), (6, .int v6)] → W p l e (rmk 8 191) s m args below meth c H locs 0 0 (MQ below (QI NM eM a cy D A r σ') args s 0 0 A) (F0 m 43 ls []))), (∀ (v1 : Int64) (v3 : Int32) (v4 : Int32) (v5 : Int32) (v6 : Int32) (s0 : ST) (H : Heap) (locs : List Loc) (ls : Array Slot), f_X10_fewest_L73 k43 v1 v3 v4 v5 v6 s0 = some (r, σ') → va_P D vwCl (wG NM eM a cy s0) H → va_S A s.heap H locs → lv_has ls 8 [(0, .ref (a 0)), (1, .long v1), (3, .int v3), (4, .int v4), (5, .int v5), (6, .int v6)] → W p l e (rmk 8 191) s m args below meth c H locs 0 0 (MQ below (QI NM eM a cy D A r σ') args s 0 0 A) (F0 m 73 ls [])) := by
    intro k43 hk43 v1 v3 v4 v5 v6 s0 H locs ls hf hP hS hl
    refine lv_iconst (v := (1 : Int32)) hx hb dX10_fewest_73 (by decide) ?_
    refine lv_goto (tgt := 78) hx hb dX10_fewest_74 (by decide) ?_
    exact hL78 k43 hk43 v1 v3 v4 v5 v6 (1 : Int32) s0 H locs ls hf hP hS (lv_sub hl [0, 1, 2, 3, 4, 5] rfl)
  have hL43 : ∀ (n : Nat), (∀ (v1 : Int64) (v3 : Int32) (v4 : Int32) (v5 : Int32) (v6 : Int32) (s0 : ST) (H : Heap) (locs : List Loc) (ls : Array Slot), f_X10_fewest_L43 n v1 v3 v4 v5 v6 s0 = some (r, σ') → va_P D vwCl (wG NM eM a cy s0) H → va_S A s.heap H locs → lv_has ls 8 [(0, .ref (a 0)), (1, .long v1), (3, .int v3), (4, .int v4), (5, .int v5), (6, .int v6)] → W p l e (rmk 8 191) s m args below meth c H locs 0 0 (MQ below (QI NM eM a cy D A r σ') args s 0 0 A) (F0 m 43 ls [])) := by
    intro n
    induction n with
    | zero => intro v1 v3 v4 v5 v6 s0 H locs ls hf hP hS hl; exact no_o hf
    | succ n ih =>
      intro v1 v3 v4 v5 v6 s0 H locs ls hf hP hS hl
      have hf := (ef_X10_fewest_L43 _ _ _ _ _ _).symm.trans hf
      refine lv_iload hx hb dX10_fewest_43 (lv_at hl 5 rfl) ?_
      refine lv_aload_n hx hb dX10_fewest_45 rfl (lv_at hl 0 rfl) ?_
      refine r_ci (r_runV (As := []) (rest := [.int v6]) C hP hS (va_recv C.hK hP (q0 := 0) (ci := 10) rfl (by rw [g_at oM_10.1, oM_10.2])) (k_X10_allGuards (l := l) O (σ := s0) rfl) mw_X10_allGuards mi_X10_allGuards mv_X10_allGuards wk_5_221 ⟨Nat.le_of_ble_eq_true rfl, Nat.le_of_ble_eq_true rfl⟩ ⟨rfl, rfl⟩ ⟨Nat.zero_le _, Nat.zero_le _⟩ rfl hl.1 rfl (Nat.le_of_ble_eq_true rfl) dX10_fewest_46) hS (fun H locs hP hS => ?_)
      refine jl_topi hf (fun y1 hf => ?_)
      refine lv_icmp_gt (tgt := 111) hx hb dX10_fewest_49 (by decide) (fun hc => ?_) (fun hc => ?_)
      · have hf := jif_t hc hf
        refine lv_iload hx hb dX10_fewest_111 (lv_at hl 3 rfl) ?_
        refine lv_if_eq (tgt := 122) hx hb dX10_fewest_113 (by decide) (fun hc => ?_) (fun hc => ?_)
        · have hf := jif_t hc hf
          refine lv_iload hx hb dX10_fewest_122 (lv_at hl 4 rfl) ?_
          refine lv_goto (tgt := 133) hx hb dX10_fewest_124 (by decide) ?_
          exact ret_i C hP hS (Prod.mk.inj (Option.some.inj hf)).1 (Prod.mk.inj (Option.some.inj hf)).2 dX10_fewest_133
        · have hf := jif_f hc hf
          refine lv_iload hx hb dX10_fewest_116 (lv_at hl 4 rfl) ?_
          refine lv_iconst (v := (-1 : Int32)) hx hb dX10_fewest_118 (by decide) ?_
          refine lv_icmp_ne (tgt := 127) hx hb dX10_fewest_119 (by decide) (fun hc => ?_) (fun hc => ?_)
          · have hf := jif_t hc hf
            refine lv_iload hx hb dX10_fewest_127 (lv_at hl 4 rfl) ?_
            refine lv_i2l hx hb dX10_fewest_129 rfl ?_
            obtain ⟨y3, hc, hf⟩ := jb_e hf
            refine r_ci (r_runS (As := [.long (Int32.toInt64 v5)]) (rest := []) C hP hS (k_X10_bitsOf (l := l) O (σ := s0) hc) mw_X10_bitsOf ms_X10_bitsOf wk_5_109 ⟨Nat.le_of_ble_eq_true rfl, Nat.le_of_ble_eq_true rfl⟩ ⟨rfl, rfl⟩ ⟨Nat.zero_le _, Nat.zero_le _⟩ rfl hl.1 rfl (Nat.le_of_ble_eq_true rfl) dX10_fewest_130) hS (fun H locs hP hS => ?_)
            exact ret_i C hP hS (Prod.mk.inj (Option.some.inj hf)).1 (Prod.mk.inj (Option.some.inj hf)).2 dX10_fewest_133
          · have hf := jif_n hc hf
            refine lv_iload hx hb dX10_fewest_122 (lv_at hl 4 rfl) ?_
            refine lv_goto (tgt := 133) hx hb dX10_fewest_124 (by decide) ?_
            exact ret_i C hP hS (Prod.mk.inj (Option.some.inj hf)).1 (Prod.mk.inj (Option.some.inj hf)).2 dX10_fewest_133
      · have hf := jif_f hc hf
        refine lv_iload hx hb dX10_fewest_52 (lv_at hl 4 rfl) ?_
        refine lv_iconst (v := (-1 : Int32)) hx hb dX10_fewest_54 (by decide) ?_
        refine lv_icmp_eq (tgt := 73) hx hb dX10_fewest_55 (by decide) (fun hc => ?_) (fun hc => ?_)
        · have hf := jif_t hc hf
          exact hL73 (f_X10_fewest_L43 n) ih v1 v3 v4 v5 v6 s0 H locs ls hf hP hS (lv_sub hl [0, 1, 2, 3, 4, 5] rfl)
        · have hf := jif_f hc hf
          refine lv_iload hx hb dX10_fewest_58 (lv_at hl 5 rfl) ?_
          refine lv_i2l hx hb dX10_fewest_60 rfl ?_
          obtain ⟨y5, hc, hf⟩ := jb_e hf
          refine r_ci (r_runS (As := [.long (Int32.toInt64 v6)]) (rest := []) C hP hS (k_X10_bitsOf (l := l) O (σ := s0) hc) mw_X10_bitsOf ms_X10_bitsOf wk_5_109 ⟨Nat.le_of_ble_eq_true rfl, Nat.le_of_ble_eq_true rfl⟩ ⟨rfl, rfl⟩ ⟨Nat.zero_le _, Nat.zero_le _⟩ rfl hl.1 rfl (Nat.le_of_ble_eq_true rfl) dX10_fewest_61) hS (fun H locs hP hS => ?_)
          refine lv_iload hx hb dX10_fewest_64 (lv_at hl 4 rfl) ?_
          refine lv_i2l hx hb dX10_fewest_66 rfl ?_
          obtain ⟨y7, hc, hf⟩ := jb_e hf
          refine r_ci (r_runS (As := [.long (Int32.toInt64 v5)]) (rest := [.int y5]) C hP hS (k_X10_bitsOf (l := l) O (σ := s0) hc) mw_X10_bitsOf ms_X10_bitsOf wk_5_109 ⟨Nat.le_of_ble_eq_true rfl, Nat.le_of_ble_eq_true rfl⟩ ⟨rfl, rfl⟩ ⟨Nat.zero_le _, Nat.zero_le _⟩ rfl hl.1 rfl (Nat.le_of_ble_eq_true rfl) dX10_fewest_67) hS (fun H locs hP hS => ?_)
          refine lv_icmp_ge (tgt := 77) hx hb dX10_fewest_70 (by decide) (fun hc => ?_) (fun hc => ?_)
          · have hf := jif_t hc hf
            refine lv_iconst (v := (0 : Int32)) hx hb dX10_fewest_77 (by decide) ?_
            exact hL78 (f_X10_fewest_L43 n) ih v1 v3 v4 v5 v6 (0 : Int32) s0 H locs ls hf hP hS (lv_sub hl [0, 1, 2, 3, 4, 5] rfl)
          · have hf := jif_f hc hf
            exact hL73 (f_X10_fewest_L43 n) ih v1 v3 v4 v5 v6 s0 H locs ls hf hP hS (lv_sub hl [0, 1, 2, 3, 4, 5] rfl)
  refine lv_lload_n hx hb dX10_fewest_0 rfl (lv_at hl 1 rfl) ?_
  refine r_cz (r_runS (As := [.long x1]) (rest := []) C hP hS (k_X10_areCells (l := l) O (σ := σ) rfl) mw_X10_areCells ms_X10_areCells wk_5_85 ⟨Nat.le_of_ble_eq_true rfl, Nat.le_of_ble_eq_true rfl⟩ ⟨rfl, rfl⟩ ⟨Nat.zero_le _, Nat.zero_le _⟩ rfl hl.1 rfl (Nat.le_of_ble_eq_true rfl) dX10_fewest_1) hS (fun H locs hzy1 hP hS => ?_)
  refine jl_topz hf hzy1 (fun y1 hzy1 hf => ?_)
  refine lv_if_ne (tgt := 10) hx hb dX10_fewest_4 (by decide) (fun hc => ?_) (fun hc => ?_)
  · have hf := jif_t hc hf
    refine lv_iload_n hx hb dX10_fewest_10 rfl (lv_at hl 2 rfl) ?_
    refine lv_iconst (v := (0 : Int32)) hx hb dX10_fewest_11 (by decide) ?_
    refine lv_bipush (v := (24 : Int32)) hx hb dX10_fewest_12 (by decide) ?_
    refine r_cz (r_runS (As := [.int x2, .int (0 : Int32), .int (24 : Int32)]) (rest := []) C hP hS (k_X10_in (l := l) O (σ := σ) rfl) mw_X10_in ms_X10_in wk_4_158 ⟨Nat.le_of_ble_eq_true rfl, Nat.le_of_ble_eq_true rfl⟩ ⟨rfl, rfl⟩ ⟨Nat.zero_le _, Nat.zero_le _⟩ rfl hl.1 rfl (Nat.le_of_ble_eq_true rfl) dX10_fewest_14) hS (fun H locs hzy3 hP hS => ?_)
    refine jl_topz hf hzy3 (fun y3 hzy3 hf => ?_)
    refine lv_if_eq (tgt := 30) hx hb dX10_fewest_17 (by decide) (fun hc => ?_) (fun hc => ?_)
    · have hf := jif_t hc hf
      refine lv_bipush (v := (-7 : Int32)) hx hb dX10_fewest_30 (by decide) ?_
      exact ret_i C hP hS (Prod.mk.inj (Option.some.inj hf)).1 (Prod.mk.inj (Option.some.inj hf)).2 dX10_fewest_32
    · have hf := jif_f hc hf
      refine lv_iload hx hb dX10_fewest_20 (lv_at hl 3 rfl) ?_
      refine lv_iconst (v := (0 : Int32)) hx hb dX10_fewest_22 (by decide) ?_
      refine lv_iconst (v := (1 : Int32)) hx hb dX10_fewest_23 (by decide) ?_
      refine r_cz (r_runS (As := [.int x3, .int (0 : Int32), .int (1 : Int32)]) (rest := []) C hP hS (k_X10_in (l := l) O (σ := σ) rfl) mw_X10_in ms_X10_in wk_4_158 ⟨Nat.le_of_ble_eq_true rfl, Nat.le_of_ble_eq_true rfl⟩ ⟨rfl, rfl⟩ ⟨Nat.zero_le _, Nat.zero_le _⟩ rfl hl.1 rfl (Nat.le_of_ble_eq_true rfl) dX10_fewest_24) hS (fun H locs hzy5 hP hS => ?_)
      refine jl_topz hf hzy5 (fun y5 hzy5 hf => ?_)
      refine lv_if_ne (tgt := 33) hx hb dX10_fewest_27 (by decide) (fun hc => ?_) (fun hc => ?_)
      · have hf := jif_t hc hf
        refine lv_aload_n hx hb dX10_fewest_33 rfl (lv_at hl 0 rfl) ?_
        obtain ⟨s8, hc, hf⟩ := jb_e hf
        refine r_cv (r_runV (As := []) (rest := []) C hP hS (va_recv C.hK hP (q0 := 0) (ci := 10) rfl (by rw [g_at oM_10.1, oM_10.2])) (k_X10_watchesAll (l := l) O hc) mw_X10_watchesAll mi_X10_watchesAll mv_X10_watchesAll wk_5_213 ⟨Nat.le_of_ble_eq_true rfl, Nat.le_of_ble_eq_true rfl⟩ ⟨rfl, rfl⟩ ⟨Nat.zero_le _, Nat.zero_le _⟩ rfl hl.1 rfl (Nat.le_of_ble_eq_true rfl) dX10_fewest_34) hS (fun H locs hP hS => ?_)
        refine lv_iconst (v := (-1 : Int32)) hx hb dX10_fewest_37 (by decide) ?_
        refine lv_istore (lv' := [(5, .int (-1 : Int32)), (0, .ref (a 0)), (1, .long x1), (3, .int x2), (4, .int x3)]) hx hb dX10_fewest_38 hl (by decide) rfl (fun ls hl => ?_)
        refine lv_iconst (v := (0 : Int32)) hx hb dX10_fewest_40 (by decide) ?_
        refine lv_istore (lv' := [(6, .int (0 : Int32)), (5, .int (-1 : Int32)), (0, .ref (a 0)), (1, .long x1), (3, .int x2), (4, .int x3)]) hx hb dX10_fewest_41 hl (by decide) rfl (fun ls hl => ?_)
        exact hL43 FU x1 x2 x3 (-1 : Int32) (0 : Int32) s8 H locs ls hf hP hS (lv_sub hl [2, 3, 4, 5, 1, 0] rfl)
      · have hf := jif_n hc hf
        refine lv_bipush (v := (-7 : Int32)) hx hb dX10_fewest_30 (by decide) ?_
        exact ret_i C hP hS (Prod.mk.inj (Option.some.inj hf)).1 (Prod.mk.inj (Option.some.inj hf)).2 dX10_fewest_32
  · have hf := jif_n hc hf
    refine lv_bipush (v := (-5 : Int32)) hx hb dX10_fewest_7 (by decide) ?_
    exact ret_i C hP hS (Prod.mk.inj (Option.some.inj hf)).1 (Prod.mk.inj (Option.some.inj hf)).2 dX10_fewest_9
set_option maxHeartbeats 4000000 in
set_option maxRecDepth 100000 in
theorem k_X10_sheetWrong {l : Launch} {a : Nat → Nat} {cy : Nat → ClassId} {D : va_G} {A : Nat → Prop} (O : WO NM a (fun _ => True) A) {x1 : Int32} {x2 : Int32} {r : Int32} {σ : ST} (hf : f_X10_sheetWrong x1 x2 σ = some r) : Met l yX10_sheetWrong (Cond.code yX10_sheetWrong cX10_sheetWrong 3 (some .int) :: WS) (rmk 2 42) (PC [.ref (a 0), .int x1, .int x2] NM eM a cy D (fun _ => True) σ) (QI NM eM a cy D A r σ) 0 0 A := by
  refine met_go (own := "GuardsLookLeftModel") O (by decide +kernel) rfl (Nat.le_of_ble_eq_true rfl) ?_
  intro p e s m args below meth c ls C hP hS hl
  have hx := C.hx
  have hb := C.hb
  have hl : lv_has ls 3 [(0, .ref (a 0)), (1, .int x1), (2, .int x2)] := hl
  obtain ⟨H, hH⟩ : ∃ H, H = s.heap := ⟨_, rfl⟩
  rw [← hH] at hP
  have hS : va_S A s.heap H [] := by rw [hH]; exact va_S.rf
  suffices g : W p l e (rmk 2 42) s m args below meth c H [] 0 0 (MQ below (QI NM eM a cy D A r σ) args s 0 0 A) (F0 m 0 ls []) by rw [hH] at g; exact g
  clear hH
  obtain ⟨locs, hlocs⟩ : ∃ z : List Loc, z = [] := ⟨_, rfl⟩
  rw [← hlocs] at hS ⊢
  refine lv_iload_n hx hb dX10_sheetWrong_0 rfl (lv_at hl 1 rfl) ?_
  refine lv_iconst (v := (0 : Int32)) hx hb dX10_sheetWrong_1 (by decide) ?_
  refine lv_iconst (v := (3 : Int32)) hx hb dX10_sheetWrong_2 (by decide) ?_
  refine r_cz (r_runS (As := [.int x1, .int (0 : Int32), .int (3 : Int32)]) (rest := []) C hP hS (k_X10_in (l := l) O (σ := σ) rfl) mw_X10_in ms_X10_in wk_4_158 ⟨Nat.le_of_ble_eq_true rfl, Nat.le_of_ble_eq_true rfl⟩ ⟨rfl, rfl⟩ ⟨Nat.zero_le _, Nat.zero_le _⟩ rfl hl.1 rfl (Nat.le_of_ble_eq_true rfl) dX10_sheetWrong_3) hS (fun H locs hzy1 hP hS => ?_)
  refine jl_topz hf hzy1 (fun y1 hzy1 hf => ?_)
  refine lv_if_ne (tgt := 12) hx hb dX10_sheetWrong_6 (by decide) (fun hc => ?_) (fun hc => ?_)
  · have hf := jif_t hc hf
    refine lv_aload_n hx hb dX10_sheetWrong_12 rfl (lv_at hl 0 rfl) ?_
    refine gf_X10_20 C hP wk_4_217 dX10_sheetWrong_13 ?_
    refine lv_iload_n hx hb dX10_sheetWrong_16 rfl (lv_at hl 1 rfl) ?_
    obtain ⟨hi3, hf⟩ := jix_e hf
    refine r_iald C hP aM_14 hi3 dX10_sheetWrong_17 ?_
    refine lv_iconst (v := (-1 : Int32)) hx hb dX10_sheetWrong_18 (by decide) ?_
    refine lv_icmp_ne (tgt := 25) hx hb dX10_sheetWrong_19 (by decide) (fun hc => ?_) (fun hc => ?_)
    · have hf := jif_t hc hf
      refine lv_aload_n hx hb dX10_sheetWrong_25 rfl (lv_at hl 0 rfl) ?_
      refine gf_X10_21 C hP wk_4_218 dX10_sheetWrong_26 ?_
      refine lv_iload_n hx hb dX10_sheetWrong_29 rfl (lv_at hl 1 rfl) ?_
      obtain ⟨hi4, hf⟩ := jix_e hf
      refine r_iald C hP aM_15 hi4 dX10_sheetWrong_30 ?_
      refine lv_bipush (v := (24 : Int32)) hx hb dX10_sheetWrong_31 (by decide) ?_
      refine lv_icmp_eq (tgt := 41) hx hb dX10_sheetWrong_33 (by decide) (fun hc => ?_) (fun hc => ?_)
      · have hf := jif_t hc hf
        refine lv_iload_n hx hb dX10_sheetWrong_41 rfl (lv_at hl 2 rfl) ?_
        refine r_cz (r_runS (As := [.int x2]) (rest := []) C hP hS (k_X10_isCell (l := l) O (σ := σ) rfl) mw_X10_isCell ms_X10_isCell wk_5_98 ⟨Nat.le_of_ble_eq_true rfl, Nat.le_of_ble_eq_true rfl⟩ ⟨rfl, rfl⟩ ⟨Nat.zero_le _, Nat.zero_le _⟩ rfl hl.1 rfl (Nat.le_of_ble_eq_true rfl) dX10_sheetWrong_42) hS (fun H locs hzy5 hP hS => ?_)
        refine jl_topz hf hzy5 (fun y5 hzy5 hf => ?_)
        refine lv_if_eq (tgt := 52) hx hb dX10_sheetWrong_45 (by decide) (fun hc => ?_) (fun hc => ?_)
        · have hf := jif_t hc hf
          refine lv_bipush (v := (-5 : Int32)) hx hb dX10_sheetWrong_52 (by decide) ?_
          exact ret_i C hP hS (Option.some.inj hf) rfl dX10_sheetWrong_54
        · have hf := jif_f hc hf
          refine lv_iconst (v := (0 : Int32)) hx hb dX10_sheetWrong_48 (by decide) ?_
          refine lv_goto (tgt := 54) hx hb dX10_sheetWrong_49 (by decide) ?_
          exact ret_i C hP hS (Option.some.inj hf) rfl dX10_sheetWrong_54
      · have hf := jif_f hc hf
        refine lv_bipush (v := (-2 : Int32)) hx hb dX10_sheetWrong_36 (by decide) ?_
        refine lv_goto (tgt := 54) hx hb dX10_sheetWrong_38 (by decide) ?_
        exact ret_i C hP hS (Option.some.inj hf) rfl dX10_sheetWrong_54
    · have hf := jif_n hc hf
      refine lv_bipush (v := (-11 : Int32)) hx hb dX10_sheetWrong_22 (by decide) ?_
      exact ret_i C hP hS (Option.some.inj hf) rfl dX10_sheetWrong_24
  · have hf := jif_n hc hf
    refine lv_bipush (v := (-2 : Int32)) hx hb dX10_sheetWrong_9 (by decide) ?_
    exact ret_i C hP hS (Option.some.inj hf) rfl dX10_sheetWrong_11
set_option maxHeartbeats 4000000 in
set_option maxRecDepth 100000 in
theorem k_X10_unlike {l : Launch} {a : Nat → Nat} {cy : Nat → ClassId} {D : va_G} {A : Nat → Prop} (O : WO NM a (fun _ => True) A) {x1 : Int32} {x2 : Int32} {x3 : Int32} {r : Int32} {σ : ST} (hf : f_X10_unlike x1 x2 x3 σ = some r) : Met l yX10_unlike (Cond.code yX10_unlike cX10_unlike 6 (some .int) :: WS) (rmk 2 49) (PC [.ref (a 0), .int x1, .int x2, .int x3] NM eM a cy D (fun _ => True) σ) (QI NM eM a cy D A r σ) 0 0 A := by
  refine met_go (own := "GuardsLookLeftModel") O (by decide +kernel) rfl (Nat.le_of_ble_eq_true rfl) ?_
  intro p e s m args below meth c ls C hP hS hl
  have hx := C.hx
  have hb := C.hb
  have hl : lv_has ls 6 [(0, .ref (a 0)), (1, .int x1), (2, .int x2), (3, .int x3)] := hl
  obtain ⟨H, hH⟩ : ∃ H, H = s.heap := ⟨_, rfl⟩
  rw [← hH] at hP
  have hS : va_S A s.heap H [] := by rw [hH]; exact va_S.rf
  suffices g : W p l e (rmk 2 49) s m args below meth c H [] 0 0 (MQ below (QI NM eM a cy D A r σ) args s 0 0 A) (F0 m 0 ls []) by rw [hH] at g; exact g
  clear hH
  obtain ⟨locs, hlocs⟩ : ∃ z : List Loc, z = [] := ⟨_, rfl⟩
  rw [← hlocs] at hS ⊢
  have hL11 : ∀ (n : Nat), (∀ (v1 : Int32) (v4 : Int32) (v5 : Int32) (H : Heap) (locs : List Loc) (ls : Array Slot), f_X10_unlike_L11 n v1 v4 v5 σ = some r → va_P D vwCl (wG NM eM a cy σ) H → va_S A s.heap H locs → lv_has ls 6 [(0, .ref (a 0)), (1, .int v1), (4, .int v4), (5, .int v5)] → W p l e (rmk 2 49) s m args below meth c H locs 0 0 (MQ below (QI NM eM a cy D A r σ) args s 0 0 A) (F0 m 11 ls [])) := by
    intro n
    induction n with
    | zero => intro v1 v4 v5 H locs ls hf hP hS hl; exact no_o hf
    | succ n ih =>
      intro v1 v4 v5 H locs ls hf hP hS hl
      have hf := (ef_X10_unlike_L11 _ _ _ _).symm.trans hf
      refine lv_iload hx hb dX10_unlike_11 (lv_at hl 3 rfl) ?_
      refine lv_bipush (v := (24 : Int32)) hx hb dX10_unlike_13 (by decide) ?_
      refine lv_icmp_ge (tgt := 51) hx hb dX10_unlike_15 (by decide) (fun hc => ?_) (fun hc => ?_)
      · have hf := jif_t hc hf
        refine lv_iconst (v := (-1 : Int32)) hx hb dX10_unlike_51 (by decide) ?_
        exact ret_i C hP hS (Option.some.inj hf) rfl dX10_unlike_52
      · have hf := jif_f hc hf
        refine lv_aload_n hx hb dX10_unlike_18 rfl (lv_at hl 0 rfl) ?_
        refine gf_X10_22 C hP wk_4_219 dX10_unlike_19 ?_
        refine lv_bipush (v := (40 : Int32)) hx hb dX10_unlike_22 (by decide) ?_
        refine lv_iload_n hx hb dX10_unlike_24 rfl (lv_at hl 1 rfl) ?_
        refine lv_imul hx hb dX10_unlike_25 ?_
        refine lv_iload hx hb dX10_unlike_26 (lv_at hl 3 rfl) ?_
        refine lv_iadd hx hb dX10_unlike_28 ?_
        obtain ⟨hi1, hf⟩ := jix_e hf
        refine r_iald C hP aM_16 hi1 dX10_unlike_29 ?_
        refine lv_iconst (v := (1 : Int32)) hx hb dX10_unlike_30 (by decide) ?_
        refine lv_iload hx hb dX10_unlike_31 (lv_at hl 2 rfl) ?_
        refine lv_iload hx hb dX10_unlike_33 (lv_at hl 3 rfl) ?_
        refine r_ishr C dX10_unlike_35 ?_
        refine lv_iconst (v := (1 : Int32)) hx hb dX10_unlike_36 (by decide) ?_
        refine lv_iand hx hb dX10_unlike_37 ?_
        refine lv_isub hx hb dX10_unlike_38 ?_
        refine lv_icmp_eq (tgt := 45) hx hb dX10_unlike_39 (by decide) (fun hc => ?_) (fun hc => ?_)
        · have hf := jif_t hc hf
          obtain ⟨y2, ey2, hf⟩ := jlet_e hf
          refine lv_iinc (v := y2) (lv' := [(5, .int y2), (0, .ref (a 0)), (1, .int v1), (4, .int v4)]) hx hb dX10_unlike_45 hl (k := 3) rfl ey2 (by decide) rfl (fun ls hl => ?_)
          refine lv_goto (tgt := 11) hx hb dX10_unlike_48 (by decide) ?_
          exact ih v1 v4 y2 H locs ls hf hP hS (lv_sub hl [1, 2, 3, 0] rfl)
        · have hf := jif_f hc hf
          refine lv_iload hx hb dX10_unlike_42 (lv_at hl 3 rfl) ?_
          exact ret_i C hP hS (Option.some.inj hf) rfl dX10_unlike_44
  refine lv_aload_n hx hb dX10_unlike_0 rfl (lv_at hl 0 rfl) ?_
  refine lv_iload_n hx hb dX10_unlike_1 rfl (lv_at hl 2 rfl) ?_
  refine lv_iload_n hx hb dX10_unlike_2 rfl (lv_at hl 3 rfl) ?_
  obtain ⟨y1, hc, hf⟩ := jb_e hf
  refine r_ci (r_runV (As := [.int x2, .int x3]) (rest := []) C hP hS (va_recv C.hK hP (q0 := 0) (ci := 10) rfl (by rw [g_at oM_10.1, oM_10.2])) (k_X10_aloneBy (l := l) O (σ := σ) hc) mw_X10_aloneBy mi_X10_aloneBy mv_X10_aloneBy wk_5_233 ⟨Nat.le_of_ble_eq_true rfl, Nat.le_of_ble_eq_true rfl⟩ ⟨rfl, rfl⟩ ⟨Nat.zero_le _, Nat.zero_le _⟩ rfl hl.1 rfl (Nat.le_of_ble_eq_true rfl) dX10_unlike_3) hS (fun H locs hP hS => ?_)
  refine lv_istore (lv' := [(4, .int y1), (0, .ref (a 0)), (1, .int x1), (2, .int x2), (3, .int x3)]) hx hb dX10_unlike_6 hl (by decide) rfl (fun ls hl => ?_)
  refine lv_iconst (v := (0 : Int32)) hx hb dX10_unlike_8 (by decide) ?_
  refine lv_istore (lv' := [(5, .int (0 : Int32)), (4, .int y1), (0, .ref (a 0)), (1, .int x1), (2, .int x2), (3, .int x3)]) hx hb dX10_unlike_9 hl (by decide) rfl (fun ls hl => ?_)
  exact hL11 FU x1 y1 (0 : Int32) H locs ls hf hP hS (lv_sub hl [2, 3, 1, 0] rfl)
set_option maxHeartbeats 4000000 in
set_option maxRecDepth 100000 in
theorem k_X10_judge {l : Launch} {a : Nat → Nat} {cy : Nat → ClassId} {D : va_G} {A : Nat → Prop} (O : WO NM a (fun _ => True) A) {x1 : Int32} {x2 : Int32} {r : Int32} {σ : ST} {σ' : ST} (hf : f_X10_judge x1 x2 σ = some (r, σ')) : Met l yX10_judge (Cond.code yX10_judge cX10_judge 4 (some .int) :: WS) (rmk 8 191) (PC [.ref (a 0), .int x1, .int x2] NM eM a cy D (fun _ => True) σ) (QI NM eM a cy D A r σ') 0 0 A := by
  refine met_go (own := "GuardsLookLeftModel") O (by decide +kernel) rfl (Nat.le_of_ble_eq_true rfl) ?_
  intro p e s m args below meth c ls C hP hS hl
  have hx := C.hx
  have hb := C.hb
  have hl : lv_has ls 4 [(0, .ref (a 0)), (1, .int x1), (2, .int x2)] := hl
  obtain ⟨H, hH⟩ : ∃ H, H = s.heap := ⟨_, rfl⟩
  rw [← hH] at hP
  have hS : va_S A s.heap H [] := by rw [hH]; exact va_S.rf
  suffices g : W p l e (rmk 8 191) s m args below meth c H [] 0 0 (MQ below (QI NM eM a cy D A r σ') args s 0 0 A) (F0 m 0 ls []) by rw [hH] at g; exact g
  clear hH
  obtain ⟨locs, hlocs⟩ : ∃ z : List Loc, z = [] := ⟨_, rfl⟩
  rw [← hlocs] at hS ⊢
  refine lv_aload_n hx hb dX10_judge_0 rfl (lv_at hl 0 rfl) ?_
  refine lv_iload_n hx hb dX10_judge_1 rfl (lv_at hl 1 rfl) ?_
  refine lv_iload_n hx hb dX10_judge_2 rfl (lv_at hl 2 rfl) ?_
  obtain ⟨y1, hc, hf⟩ := jb_e hf
  refine r_ci (r_runV (As := [.int x1, .int x2]) (rest := []) C hP hS (va_recv C.hK hP (q0 := 0) (ci := 10) rfl (by rw [g_at oM_10.1, oM_10.2])) (k_X10_sheetWrong (l := l) O (σ := σ) hc) mw_X10_sheetWrong mi_X10_sheetWrong mv_X10_sheetWrong wk_6_83 ⟨Nat.le_of_ble_eq_true rfl, Nat.le_of_ble_eq_true rfl⟩ ⟨rfl, rfl⟩ ⟨Nat.zero_le _, Nat.zero_le _⟩ rfl hl.1 rfl (Nat.le_of_ble_eq_true rfl) dX10_judge_3) hS (fun H locs hP hS => ?_)
  refine lv_istore_n (lv' := [(3, .int y1), (0, .ref (a 0)), (1, .int x1), (2, .int x2)]) hx hb dX10_judge_6 rfl hl (by decide) rfl (fun ls hl => ?_)
  refine lv_iload_n hx hb dX10_judge_7 rfl (lv_at hl 0 rfl) ?_
  refine lv_if_eq (tgt := 13) hx hb dX10_judge_8 (by decide) (fun hc => ?_) (fun hc => ?_)
  · have hf := jif_t hc hf
    refine lv_aload_n hx hb dX10_judge_13 rfl (lv_at hl 1 rfl) ?_
    obtain ⟨s4, hc, hf⟩ := jb_e hf
    refine r_cv (r_runV (As := []) (rest := []) C hP hS (va_recv C.hK hP (q0 := 0) (ci := 10) rfl (by rw [g_at oM_10.1, oM_10.2])) (k_X10_watchesAll (l := l) O hc) mw_X10_watchesAll mi_X10_watchesAll mv_X10_watchesAll wk_5_213 ⟨Nat.le_of_ble_eq_true rfl, Nat.le_of_ble_eq_true rfl⟩ ⟨rfl, rfl⟩ ⟨Nat.zero_le _, Nat.zero_le _⟩ rfl hl.1 rfl (Nat.le_of_ble_eq_true rfl) dX10_judge_14) hS (fun H locs hP hS => ?_)
    refine lv_aload_n hx hb dX10_judge_17 rfl (lv_at hl 1 rfl) ?_
    refine lv_iload_n hx hb dX10_judge_18 rfl (lv_at hl 2 rfl) ?_
    refine lv_iload_n hx hb dX10_judge_19 rfl (lv_at hl 3 rfl) ?_
    refine lv_aload_n hx hb dX10_judge_20 rfl (lv_at hl 1 rfl) ?_
    refine r_ci (r_runV (As := []) (rest := [.int x2, .int x1, .ref (a 0)]) C hP hS (va_recv C.hK hP (q0 := 0) (ci := 10) rfl (by rw [g_at oM_10.1, oM_10.2])) (k_X10_allGuards (l := l) O (σ := s4) rfl) mw_X10_allGuards mi_X10_allGuards mv_X10_allGuards wk_5_221 ⟨Nat.le_of_ble_eq_true rfl, Nat.le_of_ble_eq_true rfl⟩ ⟨rfl, rfl⟩ ⟨Nat.zero_le _, Nat.zero_le _⟩ rfl hl.1 rfl (Nat.le_of_ble_eq_true rfl) dX10_judge_21) hS (fun H locs hP hS => ?_)
    refine jl_topi hf (fun y5 hf => ?_)
    obtain ⟨y7, hc, hf⟩ := jb_e hf
    refine r_ci (r_runV (As := [.int x1, .int x2, .int y5]) (rest := []) C hP hS (va_recv C.hK hP (q0 := 0) (ci := 10) rfl (by rw [g_at oM_10.1, oM_10.2])) (k_X10_unlike (l := l) O (σ := s4) hc) mw_X10_unlike mi_X10_unlike mv_X10_unlike wk_6_87 ⟨Nat.le_of_ble_eq_true rfl, Nat.le_of_ble_eq_true rfl⟩ ⟨rfl, rfl⟩ ⟨Nat.zero_le _, Nat.zero_le _⟩ rfl hl.1 rfl (Nat.le_of_ble_eq_true rfl) dX10_judge_24) hS (fun H locs hP hS => ?_)
    exact ret_i C hP hS (Prod.mk.inj (Option.some.inj hf)).1 (Prod.mk.inj (Option.some.inj hf)).2 dX10_judge_27
  · have hf := jif_f hc hf
    refine lv_iload_n hx hb dX10_judge_11 rfl (lv_at hl 0 rfl) ?_
    exact ret_i C hP hS (Prod.mk.inj (Option.some.inj hf)).1 (Prod.mk.inj (Option.some.inj hf)).2 dX10_judge_12
set_option maxHeartbeats 4000000 in
set_option maxRecDepth 100000 in
theorem k_X10_which {l : Launch} {a : Nat → Nat} {cy : Nat → ClassId} {D : va_G} {A : Nat → Prop} (O : WO NM a (fun _ => True) A) {x1 : Int32} {r : Int64} {σ : ST} {σ' : ST} (hf : f_X10_which x1 σ = some (r, σ')) : Met l yX10_which (Cond.code yX10_which cX10_which 5 (some .long) :: WS) (rmk 8 191) (PC [.ref (a 0), .int x1] NM eM a cy D (fun _ => True) σ) (QL NM eM a cy D A r σ') 0 0 A := by
  refine met_go (own := "GuardsLookLeftModel") O (by decide +kernel) rfl (Nat.le_of_ble_eq_true rfl) ?_
  intro p e s m args below meth c ls C hP hS hl
  have hx := C.hx
  have hb := C.hb
  have hl : lv_has ls 5 [(0, .ref (a 0)), (1, .int x1)] := hl
  obtain ⟨H, hH⟩ : ∃ H, H = s.heap := ⟨_, rfl⟩
  rw [← hH] at hP
  have hS : va_S A s.heap H [] := by rw [hH]; exact va_S.rf
  suffices g : W p l e (rmk 8 191) s m args below meth c H [] 0 0 (MQ below (QL NM eM a cy D A r σ') args s 0 0 A) (F0 m 0 ls []) by rw [hH] at g; exact g
  clear hH
  obtain ⟨locs, hlocs⟩ : ∃ z : List Loc, z = [] := ⟨_, rfl⟩
  rw [← hlocs] at hS ⊢
  have hL53 : ∀ (k22 : Int32 → Int64 → Int32 → ST → Option (Int64 × ST)) (hk22 : (∀ (v1 : Int32) (v2 : Int64) (v4 : Int32) (s0 : ST) (H : Heap) (locs : List Loc) (ls : Array Slot), k22 v1 v2 v4 s0 = some (r, σ') → va_P D vwCl (wG NM eM a cy s0) H → va_S A s.heap H locs → lv_has ls 5 [(0, .ref (a 0)), (1, .int v1), (2, .long v2), (4, .int v4)] → W p l e (rmk 8 191) s m args below meth c H locs 0 0 (MQ below (QL NM eM a cy D A r σ') args s 0 0 A) (F0 m 22 ls []))), (∀ (v1 : Int32) (v4 : Int32) (t0 : Int64) (t1 : Int64) (s0 : ST) (H : Heap) (locs : List Loc) (ls : Array Slot), f_X10_which_L53 k22 v1 v4 t0 t1 s0 = some (r, σ') → va_P D vwCl (wG NM eM a cy s0) H → va_S A s.heap H locs → lv_has ls 5 [(0, .ref (a 0)), (1, .int v1), (4, .int v4)] → W p l e (rmk 8 191) s m args below meth c H locs 0 0 (MQ below (QL NM eM a cy D A r σ') args s 0 0 A) (F0 m 53 ls [.long t1, .long t0])) := by
    intro k22 hk22 v1 v4 t0 t1 s0 H locs ls hf hP hS hl
    refine lv_lor hx hb dX10_which_53 ?_
    refine jl_topl hf (fun y1 hf => ?_)
    refine lv_lstore_n (lv' := [(2, .long y1), (0, .ref (a 0)), (1, .int v1), (4, .int v4)]) hx hb dX10_which_54 rfl hl (by decide) rfl (fun ls hl => ?_)
    obtain ⟨y2, ey2, hf⟩ := jlet_e hf
    refine lv_iinc (v := y2) (lv' := [(4, .int y2), (2, .long y1), (0, .ref (a 0)), (1, .int v1)]) hx hb dX10_which_55 hl (k := 3) rfl ey2 (by decide) rfl (fun ls hl => ?_)
    refine lv_goto (tgt := 22) hx hb dX10_which_58 (by decide) ?_
    exact hk22 v1 y1 y2 s0 H locs ls hf hP hS (lv_sub hl [2, 3, 1, 0] rfl)
  have hL22 : ∀ (n : Nat), (∀ (v1 : Int32) (v2 : Int64) (v4 : Int32) (s0 : ST) (H : Heap) (locs : List Loc) (ls : Array Slot), f_X10_which_L22 n v1 v2 v4 s0 = some (r, σ') → va_P D vwCl (wG NM eM a cy s0) H → va_S A s.heap H locs → lv_has ls 5 [(0, .ref (a 0)), (1, .int v1), (2, .long v2), (4, .int v4)] → W p l e (rmk 8 191) s m args below meth c H locs 0 0 (MQ below (QL NM eM a cy D A r σ') args s 0 0 A) (F0 m 22 ls [])) := by
    intro n
    induction n with
    | zero => intro v1 v2 v4 s0 H locs ls hf hP hS hl; exact no_o hf
    | succ n ih =>
      intro v1 v2 v4 s0 H locs ls hf hP hS hl
      have hf := (ef_X10_which_L22 _ _ _ _).symm.trans hf
      refine lv_iload hx hb dX10_which_22 (lv_at hl 3 rfl) ?_
      refine lv_bipush (v := (36 : Int32)) hx hb dX10_which_24 (by decide) ?_
      refine lv_icmp_ge (tgt := 61) hx hb dX10_which_26 (by decide) (fun hc => ?_) (fun hc => ?_)
      · have hf := jif_t hc hf
        refine lv_lload_n hx hb dX10_which_61 rfl (lv_at hl 2 rfl) ?_
        exact ret_l C hP hS (Prod.mk.inj (Option.some.inj hf)).1 (Prod.mk.inj (Option.some.inj hf)).2 dX10_which_62
      · have hf := jif_f hc hf
        refine lv_lload_n hx hb dX10_which_29 rfl (lv_at hl 2 rfl) ?_
        refine lv_aload_n hx hb dX10_which_30 rfl (lv_at hl 0 rfl) ?_
        refine lv_iload_n hx hb dX10_which_31 rfl (lv_at hl 1 rfl) ?_
        refine lv_iload hx hb dX10_which_32 (lv_at hl 3 rfl) ?_
        refine lv_aload_n hx hb dX10_which_34 rfl (lv_at hl 0 rfl) ?_
        refine r_ci (r_runV (As := []) (rest := [.int v4, .int v1, .ref (a 0), .long v2]) C hP hS (va_recv C.hK hP (q0 := 0) (ci := 10) rfl (by rw [g_at oM_10.1, oM_10.2])) (k_X10_allGuards (l := l) O (σ := s0) rfl) mw_X10_allGuards mi_X10_allGuards mv_X10_allGuards wk_5_221 ⟨Nat.le_of_ble_eq_true rfl, Nat.le_of_ble_eq_true rfl⟩ ⟨rfl, rfl⟩ ⟨Nat.zero_le _, Nat.zero_le _⟩ rfl hl.1 rfl (Nat.le_of_ble_eq_true rfl) dX10_which_35) hS (fun H locs hP hS => ?_)
        refine jl_topi hf (fun y1 hf => ?_)
        obtain ⟨y3, hc, hf⟩ := jb_e hf
        refine r_ci (r_runV (As := [.int v1, .int v4, .int y1]) (rest := [.long v2]) C hP hS (va_recv C.hK hP (q0 := 0) (ci := 10) rfl (by rw [g_at oM_10.1, oM_10.2])) (k_X10_unlike (l := l) O (σ := s0) hc) mw_X10_unlike mi_X10_unlike mv_X10_unlike wk_6_87 ⟨Nat.le_of_ble_eq_true rfl, Nat.le_of_ble_eq_true rfl⟩ ⟨rfl, rfl⟩ ⟨Nat.zero_le _, Nat.zero_le _⟩ rfl hl.1 rfl (Nat.le_of_ble_eq_true rfl) dX10_which_38) hS (fun H locs hP hS => ?_)
        refine lv_iconst (v := (-1 : Int32)) hx hb dX10_which_41 (by decide) ?_
        refine lv_icmp_ne (tgt := 52) hx hb dX10_which_42 (by decide) (fun hc => ?_) (fun hc => ?_)
        · have hf := jif_t hc hf
          refine lv_lconst (v := (0 : Int64)) hx hb dX10_which_52 (by decide) ?_
          exact hL53 (f_X10_which_L22 n) ih v1 v4 v2 (0 : Int64) s0 H locs ls hf hP hS (lv_sub hl [0, 1, 3] rfl)
        · have hf := jif_n hc hf
          refine lv_lconst (v := (1 : Int64)) hx hb dX10_which_45 (by decide) ?_
          refine lv_iload hx hb dX10_which_46 (lv_at hl 3 rfl) ?_
          refine r_lshl C dX10_which_48 ?_
          refine lv_goto (tgt := 53) hx hb dX10_which_49 (by decide) ?_
          exact hL53 (f_X10_which_L22 n) ih v1 v4 v2 (jlshl (1 : Int64) v4) s0 H locs ls hf hP hS (lv_sub hl [0, 1, 3] rfl)
  refine lv_aload_n hx hb dX10_which_0 rfl (lv_at hl 0 rfl) ?_
  refine lv_iload_n hx hb dX10_which_1 rfl (lv_at hl 1 rfl) ?_
  refine lv_iconst (v := (0 : Int32)) hx hb dX10_which_2 (by decide) ?_
  obtain ⟨y1, hc, hf⟩ := jb_e hf
  refine r_ci (r_runV (As := [.int x1, .int (0 : Int32)]) (rest := []) C hP hS (va_recv C.hK hP (q0 := 0) (ci := 10) rfl (by rw [g_at oM_10.1, oM_10.2])) (k_X10_sheetWrong (l := l) O (σ := σ) hc) mw_X10_sheetWrong mi_X10_sheetWrong mv_X10_sheetWrong wk_6_83 ⟨Nat.le_of_ble_eq_true rfl, Nat.le_of_ble_eq_true rfl⟩ ⟨rfl, rfl⟩ ⟨Nat.zero_le _, Nat.zero_le _⟩ rfl hl.1 rfl (Nat.le_of_ble_eq_true rfl) dX10_which_3) hS (fun H locs hP hS => ?_)
  refine lv_if_eq (tgt := 13) hx hb dX10_which_6 (by decide) (fun hc => ?_) (fun hc => ?_)
  · have hf := jif_t hc hf
    refine lv_aload_n hx hb dX10_which_13 rfl (lv_at hl 0 rfl) ?_
    obtain ⟨s4, hc, hf⟩ := jb_e hf
    refine r_cv (r_runV (As := []) (rest := []) C hP hS (va_recv C.hK hP (q0 := 0) (ci := 10) rfl (by rw [g_at oM_10.1, oM_10.2])) (k_X10_watchesAll (l := l) O hc) mw_X10_watchesAll mi_X10_watchesAll mv_X10_watchesAll wk_5_213 ⟨Nat.le_of_ble_eq_true rfl, Nat.le_of_ble_eq_true rfl⟩ ⟨rfl, rfl⟩ ⟨Nat.zero_le _, Nat.zero_le _⟩ rfl hl.1 rfl (Nat.le_of_ble_eq_true rfl) dX10_which_14) hS (fun H locs hP hS => ?_)
    refine lv_lconst (v := (0 : Int64)) hx hb dX10_which_17 (by decide) ?_
    refine lv_lstore_n (lv' := [(2, .long (0 : Int64)), (0, .ref (a 0)), (1, .int x1)]) hx hb dX10_which_18 rfl hl (by decide) rfl (fun ls hl => ?_)
    refine lv_iconst (v := (0 : Int32)) hx hb dX10_which_19 (by decide) ?_
    refine lv_istore (lv' := [(4, .int (0 : Int32)), (2, .long (0 : Int64)), (0, .ref (a 0)), (1, .int x1)]) hx hb dX10_which_20 hl (by decide) rfl (fun ls hl => ?_)
    exact hL22 FU x1 (0 : Int64) (0 : Int32) s4 H locs ls hf hP hS (lv_sub hl [2, 3, 1, 0] rfl)
  · have hf := jif_f hc hf
    refine lv_ldc2 hx hb C.hown (C.ts _ wk_5_89) dX10_which_9 ?_
    exact ret_l C hP hS (Prod.mk.inj (Option.some.inj hf)).1 (Prod.mk.inj (Option.some.inj hf)).2 dX10_which_12
set_option maxHeartbeats 4000000 in
set_option maxRecDepth 100000 in
theorem k_X10_laws {l : Launch} {a : Nat → Nat} {cy : Nat → ClassId} {D : va_G} {A : Nat → Prop} (O : WO NM a (fun _ => True) A) {x1 : Int32} {x2 : Int32} {r : Int32} {σ : ST} {σ' : ST} (hf : f_X10_laws x1 x2 σ = some (r, σ')) : Met l yX10_laws (Cond.code yX10_laws cX10_laws 7 (some .int) :: WS) (rmk 8 191) (PC [.ref (a 0), .int x1, .int x2] NM eM a cy D (fun _ => True) σ) (QI NM eM a cy D A r σ') 0 0 A := by
  refine met_go (own := "GuardsLookLeftModel") O (by decide +kernel) rfl (Nat.le_of_ble_eq_true rfl) ?_
  intro p e s m args below meth c ls C hP hS hl
  have hx := C.hx
  have hb := C.hb
  have hl : lv_has ls 7 [(0, .ref (a 0)), (1, .int x1), (2, .int x2)] := hl
  obtain ⟨H, hH⟩ : ∃ H, H = s.heap := ⟨_, rfl⟩
  rw [← hH] at hP
  have hS : va_S A s.heap H [] := by rw [hH]; exact va_S.rf
  suffices g : W p l e (rmk 8 191) s m args below meth c H [] 0 0 (MQ below (QI NM eM a cy D A r σ') args s 0 0 A) (F0 m 0 ls []) by rw [hH] at g; exact g
  clear hH
  obtain ⟨locs, hlocs⟩ : ∃ z : List Loc, z = [] := ⟨_, rfl⟩
  rw [← hlocs] at hS ⊢
  have hL68 : ∀ (k25 : Int32 → Int32 → Int32 → Int32 → Int32 → ST → Option (Int32 × ST)) (hk25 : (∀ (v1 : Int32) (v2 : Int32) (v4 : Int32) (v5 : Int32) (v6 : Int32) (s0 : ST) (H : Heap) (locs : List Loc) (ls : Array Slot), k25 v1 v2 v4 v5 v6 s0 = some (r, σ') → va_P D vwCl (wG NM eM a cy s0) H → va_S A s.heap H locs → lv_has ls 7 [(0, .ref (a 0)), (1, .int v1), (2, .int v2), (4, .int v4), (5, .int v5), (6, .int v6)] → W p l e (rmk 8 191) s m args below meth c H locs 0 0 (MQ below (QI NM eM a cy D A r σ') args s 0 0 A) (F0 m 25 ls []))), (∀ (v1 : Int32) (v2 : Int32) (v4 : Int32) (v6 : Int32) (t0 : Int32) (t1 : Int32) (s0 : ST) (H : Heap) (locs : List Loc) (ls : Array Slot), f_X10_laws_L68 k25 v1 v2 v4 v6 t0 t1 s0 = some (r, σ') → va_P D vwCl (wG NM eM a cy s0) H → va_S A s.heap H locs → lv_has ls 7 [(0, .ref (a 0)), (1, .int v1), (2, .int v2), (4, .int v4), (6, .int v6)] → W p l e (rmk 8 191) s m args below meth c H locs 0 0 (MQ below (QI NM eM a cy D A r σ') args s 0 0 A) (F0 m 68 ls [.int t1, .int t0])) := by
    intro k25 hk25 v1 v2 v4 v6 t0 t1 s0 H locs ls hf hP hS hl
    refine lv_ior hx hb dX10_laws_68 ?_
    refine jl_topi hf (fun y1 hf => ?_)
    refine lv_istore (lv' := [(5, .int y1), (0, .ref (a 0)), (1, .int v1), (2, .int v2), (4, .int v4), (6, .int v6)]) hx hb dX10_laws_69 hl (by decide) rfl (fun ls hl => ?_)
    obtain ⟨y2, ey2, hf⟩ := jlet_e hf
    refine lv_iinc (v := y2) (lv' := [(6, .int y2), (5, .int y1), (0, .ref (a 0)), (1, .int v1), (2, .int v2), (4, .int v4)]) hx hb dX10_laws_71 hl (k := 5) rfl ey2 (by decide) rfl (fun ls hl => ?_)
    refine lv_goto (tgt := 25) hx hb dX10_laws_74 (by decide) ?_
    exact hk25 v1 v2 v4 y1 y2 s0 H locs ls hf hP hS (lv_sub hl [2, 3, 4, 5, 1, 0] rfl)
  have hL25 : ∀ (n : Nat), (∀ (v1 : Int32) (v2 : Int32) (v4 : Int32) (v5 : Int32) (v6 : Int32) (s0 : ST) (H : Heap) (locs : List Loc) (ls : Array Slot), f_X10_laws_L25 n v1 v2 v4 v5 v6 s0 = some (r, σ') → va_P D vwCl (wG NM eM a cy s0) H → va_S A s.heap H locs → lv_has ls 7 [(0, .ref (a 0)), (1, .int v1), (2, .int v2), (4, .int v4), (5, .int v5), (6, .int v6)] → W p l e (rmk 8 191) s m args below meth c H locs 0 0 (MQ below (QI NM eM a cy D A r σ') args s 0 0 A) (F0 m 25 ls [])) := by
    intro n
    induction n with
    | zero => intro v1 v2 v4 v5 v6 s0 H locs ls hf hP hS hl; exact no_o hf
    | succ n ih =>
      intro v1 v2 v4 v5 v6 s0 H locs ls hf hP hS hl
      have hf := (ef_X10_laws_L25 _ _ _ _ _ _).symm.trans hf
      refine lv_iload hx hb dX10_laws_25 (lv_at hl 5 rfl) ?_
      refine lv_aload_n hx hb dX10_laws_27 rfl (lv_at hl 0 rfl) ?_
      refine gf_X10_12 C hP wk_4_209 dX10_laws_28 ?_
      refine lv_icmp_ge (tgt := 77) hx hb dX10_laws_31 (by decide) (fun hc => ?_) (fun hc => ?_)
      · have hf := jif_t hc hf
        refine lv_aload_n hx hb dX10_laws_77 rfl (lv_at hl 0 rfl) ?_
        refine lv_iload hx hb dX10_laws_78 (lv_at hl 3 rfl) ?_
        refine pf_X10_13 C hP hS wk_4_210 dX10_laws_80 hf (fun H locs s1 hf hP hS => ?_)
        refine lv_iload hx hb dX10_laws_83 (lv_at hl 4 rfl) ?_
        exact ret_i C hP hS (Prod.mk.inj (Option.some.inj hf)).1 (Prod.mk.inj (Option.some.inj hf)).2 dX10_laws_85
      · have hf := jif_f hc hf
        refine lv_aload_n hx hb dX10_laws_34 rfl (lv_at hl 0 rfl) ?_
        refine lv_iload hx hb dX10_laws_35 (lv_at hl 5 rfl) ?_
        refine pf_X10_13 C hP hS wk_4_210 dX10_laws_37 hf (fun H locs s2 hf hP hS => ?_)
        refine lv_aload_n hx hb dX10_laws_40 rfl (lv_at hl 0 rfl) ?_
        obtain ⟨s4, hc, hf⟩ := jb_e hf
        refine r_cv (r_runV (As := []) (rest := []) C hP hS (va_recv C.hK hP (q0 := 0) (ci := 10) rfl (by rw [g_at oM_10.1, oM_10.2])) (k_X10_watchesAll (l := l) O hc) mw_X10_watchesAll mi_X10_watchesAll mv_X10_watchesAll wk_5_213 ⟨Nat.le_of_ble_eq_true rfl, Nat.le_of_ble_eq_true rfl⟩ ⟨rfl, rfl⟩ ⟨Nat.zero_le _, Nat.zero_le _⟩ rfl hl.1 rfl (Nat.le_of_ble_eq_true rfl) dX10_laws_41) hS (fun H locs hP hS => ?_)
        refine lv_iload hx hb dX10_laws_44 (lv_at hl 4 rfl) ?_
        refine lv_aload_n hx hb dX10_laws_46 rfl (lv_at hl 0 rfl) ?_
        refine lv_iload_n hx hb dX10_laws_47 rfl (lv_at hl 1 rfl) ?_
        refine lv_iload_n hx hb dX10_laws_48 rfl (lv_at hl 2 rfl) ?_
        refine lv_aload_n hx hb dX10_laws_49 rfl (lv_at hl 0 rfl) ?_
        refine r_ci (r_runV (As := []) (rest := [.int v2, .int v1, .ref (a 0), .int v5]) C hP hS (va_recv C.hK hP (q0 := 0) (ci := 10) rfl (by rw [g_at oM_10.1, oM_10.2])) (k_X10_allGuards (l := l) O (σ := s4) rfl) mw_X10_allGuards mi_X10_allGuards mv_X10_allGuards wk_5_221 ⟨Nat.le_of_ble_eq_true rfl, Nat.le_of_ble_eq_true rfl⟩ ⟨rfl, rfl⟩ ⟨Nat.zero_le _, Nat.zero_le _⟩ rfl hl.1 rfl (Nat.le_of_ble_eq_true rfl) dX10_laws_50) hS (fun H locs hP hS => ?_)
        refine jl_topi hf (fun y5 hf => ?_)
        obtain ⟨y7, hc, hf⟩ := jb_e hf
        refine r_ci (r_runV (As := [.int v1, .int v2, .int y5]) (rest := [.int v5]) C hP hS (va_recv C.hK hP (q0 := 0) (ci := 10) rfl (by rw [g_at oM_10.1, oM_10.2])) (k_X10_unlike (l := l) O (σ := s4) hc) mw_X10_unlike mi_X10_unlike mv_X10_unlike wk_6_87 ⟨Nat.le_of_ble_eq_true rfl, Nat.le_of_ble_eq_true rfl⟩ ⟨rfl, rfl⟩ ⟨Nat.zero_le _, Nat.zero_le _⟩ rfl hl.1 rfl (Nat.le_of_ble_eq_true rfl) dX10_laws_53) hS (fun H locs hP hS => ?_)
        refine lv_iconst (v := (-1 : Int32)) hx hb dX10_laws_56 (by decide) ?_
        refine lv_icmp_ne (tgt := 67) hx hb dX10_laws_57 (by decide) (fun hc => ?_) (fun hc => ?_)
        · have hf := jif_t hc hf
          refine lv_iconst (v := (0 : Int32)) hx hb dX10_laws_67 (by decide) ?_
          exact hL68 (f_X10_laws_L25 n) ih v1 v2 v4 v6 v5 (0 : Int32) s4 H locs ls hf hP hS (lv_sub hl [0, 1, 2, 3, 5] rfl)
        · have hf := jif_n hc hf
          refine lv_iconst (v := (1 : Int32)) hx hb dX10_laws_60 (by decide) ?_
          refine lv_iload hx hb dX10_laws_61 (lv_at hl 5 rfl) ?_
          refine r_ishl C dX10_laws_63 ?_
          refine lv_goto (tgt := 68) hx hb dX10_laws_64 (by decide) ?_
          exact hL68 (f_X10_laws_L25 n) ih v1 v2 v4 v6 v5 (jshl (1 : Int32) v6) s4 H locs ls hf hP hS (lv_sub hl [0, 1, 2, 3, 5] rfl)
  refine lv_aload_n hx hb dX10_laws_0 rfl (lv_at hl 0 rfl) ?_
  refine lv_iload_n hx hb dX10_laws_1 rfl (lv_at hl 1 rfl) ?_
  refine lv_iload_n hx hb dX10_laws_2 rfl (lv_at hl 2 rfl) ?_
  obtain ⟨y1, hc, hf⟩ := jb_e hf
  refine r_ci (r_runV (As := [.int x1, .int x2]) (rest := []) C hP hS (va_recv C.hK hP (q0 := 0) (ci := 10) rfl (by rw [g_at oM_10.1, oM_10.2])) (k_X10_sheetWrong (l := l) O (σ := σ) hc) mw_X10_sheetWrong mi_X10_sheetWrong mv_X10_sheetWrong wk_6_83 ⟨Nat.le_of_ble_eq_true rfl, Nat.le_of_ble_eq_true rfl⟩ ⟨rfl, rfl⟩ ⟨Nat.zero_le _, Nat.zero_le _⟩ rfl hl.1 rfl (Nat.le_of_ble_eq_true rfl) dX10_laws_3) hS (fun H locs hP hS => ?_)
  refine lv_istore_n (lv' := [(3, .int y1), (0, .ref (a 0)), (1, .int x1), (2, .int x2)]) hx hb dX10_laws_6 rfl hl (by decide) rfl (fun ls hl => ?_)
  refine lv_iload_n hx hb dX10_laws_7 rfl (lv_at hl 0 rfl) ?_
  refine lv_if_eq (tgt := 13) hx hb dX10_laws_8 (by decide) (fun hc => ?_) (fun hc => ?_)
  · have hf := jif_t hc hf
    refine lv_aload_n hx hb dX10_laws_13 rfl (lv_at hl 1 rfl) ?_
    refine gf_X10_13 C hP wk_4_210 dX10_laws_14 ?_
    refine jl_topi hf (fun y3 hf => ?_)
    refine lv_istore (lv' := [(4, .int y3), (3, .int y1), (0, .ref (a 0)), (1, .int x1), (2, .int x2)]) hx hb dX10_laws_17 hl (by decide) rfl (fun ls hl => ?_)
    refine lv_iconst (v := (0 : Int32)) hx hb dX10_laws_19 (by decide) ?_
    refine lv_istore (lv' := [(5, .int (0 : Int32)), (4, .int y3), (3, .int y1), (0, .ref (a 0)), (1, .int x1), (2, .int x2)]) hx hb dX10_laws_20 hl (by decide) rfl (fun ls hl => ?_)
    refine lv_iconst (v := (0 : Int32)) hx hb dX10_laws_22 (by decide) ?_
    refine lv_istore (lv' := [(6, .int (0 : Int32)), (5, .int (0 : Int32)), (4, .int y3), (3, .int y1), (0, .ref (a 0)), (1, .int x1), (2, .int x2)]) hx hb dX10_laws_23 hl (by decide) rfl (fun ls hl => ?_)
    exact hL25 FU x1 x2 y3 (0 : Int32) (0 : Int32) σ H locs ls hf hP hS (lv_sub hl [4, 5, 6, 2, 1, 0] rfl)
  · have hf := jif_f hc hf
    refine lv_iload_n hx hb dX10_laws_11 rfl (lv_at hl 0 rfl) ?_
    exact ret_i C hP hS (Prod.mk.inj (Option.some.inj hf)).1 (Prod.mk.inj (Option.some.inj hf)).2 dX10_laws_12
set_option maxHeartbeats 4000000 in
set_option maxRecDepth 100000 in
theorem k_X10_gone {l : Launch} {a : Nat → Nat} {cy : Nat → ClassId} {D : va_G} {A : Nat → Prop} (O : WO NM a (fun _ => True) A) {x1 : Int32} {x2 : Int32} {r : Int32} {σ : ST} {σ' : ST} (hf : f_X10_gone x1 x2 σ = some (r, σ')) : Met l yX10_gone (Cond.code yX10_gone cX10_gone 5 (some .int) :: WS) (rmk 8 191) (PC [.ref (a 0), .int x1, .int x2] NM eM a cy D (fun _ => True) σ) (QI NM eM a cy D A r σ') 0 0 A := by
  refine met_go (own := "GuardsLookLeftModel") O (by decide +kernel) rfl (Nat.le_of_ble_eq_true rfl) ?_
  intro p e s m args below meth c ls C hP hS hl
  have hx := C.hx
  have hb := C.hb
  have hl : lv_has ls 5 [(0, .ref (a 0)), (1, .int x1), (2, .int x2)] := hl
  obtain ⟨H, hH⟩ : ∃ H, H = s.heap := ⟨_, rfl⟩
  rw [← hH] at hP
  have hS : va_S A s.heap H [] := by rw [hH]; exact va_S.rf
  suffices g : W p l e (rmk 8 191) s m args below meth c H [] 0 0 (MQ below (QI NM eM a cy D A r σ') args s 0 0 A) (F0 m 0 ls []) by rw [hH] at g; exact g
  clear hH
  obtain ⟨locs, hlocs⟩ : ∃ z : List Loc, z = [] := ⟨_, rfl⟩
  rw [← hlocs] at hS ⊢
  have hL57 : ∀ (k20 : Int32 → Int32 → Int32 → Int32 → ST → Option (Int32 × ST)) (hk20 : (∀ (v1 : Int32) (v2 : Int32) (v3 : Int32) (v4 : Int32) (s0 : ST) (H : Heap) (locs : List Loc) (ls : Array Slot), k20 v1 v2 v3 v4 s0 = some (r, σ') → va_P D vwCl (wG NM eM a cy s0) H → va_S A s.heap H locs → lv_has ls 5 [(0, .ref (a 0)), (1, .int v1), (2, .int v2), (3, .int v3), (4, .int v4)] → W p l e (rmk 8 191) s m args below meth c H locs 0 0 (MQ below (QI NM eM a cy D A r σ') args s 0 0 A) (F0 m 20 ls []))), (∀ (v1 : Int32) (v2 : Int32) (v4 : Int32) (t0 : Int32) (t1 : Int32) (s0 : ST) (H : Heap) (locs : List Loc) (ls : Array Slot), f_X10_gone_L57 k20 v1 v2 v4 t0 t1 s0 = some (r, σ') → va_P D vwCl (wG NM eM a cy s0) H → va_S A s.heap H locs → lv_has ls 5 [(0, .ref (a 0)), (1, .int v1), (2, .int v2), (4, .int v4)] → W p l e (rmk 8 191) s m args below meth c H locs 0 0 (MQ below (QI NM eM a cy D A r σ') args s 0 0 A) (F0 m 57 ls [.int t1, .int t0])) := by
    intro k20 hk20 v1 v2 v4 t0 t1 s0 H locs ls hf hP hS hl
    refine lv_ior hx hb dX10_gone_57 ?_
    refine jl_topi hf (fun y1 hf => ?_)
    refine lv_istore_n (lv' := [(3, .int y1), (0, .ref (a 0)), (1, .int v1), (2, .int v2), (4, .int v4)]) hx hb dX10_gone_58 rfl hl (by decide) rfl (fun ls hl => ?_)
    obtain ⟨y2, ey2, hf⟩ := jlet_e hf
    refine lv_iinc (v := y2) (lv' := [(4, .int y2), (3, .int y1), (0, .ref (a 0)), (1, .int v1), (2, .int v2)]) hx hb dX10_gone_59 hl (k := 4) rfl ey2 (by decide) rfl (fun ls hl => ?_)
    refine lv_goto (tgt := 20) hx hb dX10_gone_62 (by decide) ?_
    exact hk20 v1 v2 y1 y2 s0 H locs ls hf hP hS (lv_sub hl [2, 3, 4, 1, 0] rfl)
  have hL20 : ∀ (n : Nat), (∀ (v1 : Int32) (v2 : Int32) (v3 : Int32) (v4 : Int32) (s0 : ST) (H : Heap) (locs : List Loc) (ls : Array Slot), f_X10_gone_L20 n v1 v2 v3 v4 s0 = some (r, σ') → va_P D vwCl (wG NM eM a cy s0) H → va_S A s.heap H locs → lv_has ls 5 [(0, .ref (a 0)), (1, .int v1), (2, .int v2), (3, .int v3), (4, .int v4)] → W p l e (rmk 8 191) s m args below meth c H locs 0 0 (MQ below (QI NM eM a cy D A r σ') args s 0 0 A) (F0 m 20 ls [])) := by
    intro n
    induction n with
    | zero => intro v1 v2 v3 v4 s0 H locs ls hf hP hS hl; exact no_o hf
    | succ n ih =>
      intro v1 v2 v3 v4 s0 H locs ls hf hP hS hl
      have hf := (ef_X10_gone_L20 _ _ _ _ _).symm.trans hf
      refine lv_iload hx hb dX10_gone_20 (lv_at hl 4 rfl) ?_
      refine lv_aload_n hx hb dX10_gone_22 rfl (lv_at hl 0 rfl) ?_
      refine r_ci (r_runV (As := []) (rest := [.int v4]) C hP hS (va_recv C.hK hP (q0 := 0) (ci := 10) rfl (by rw [g_at oM_10.1, oM_10.2])) (k_X10_allGuards (l := l) O (σ := s0) rfl) mw_X10_allGuards mi_X10_allGuards mv_X10_allGuards wk_5_221 ⟨Nat.le_of_ble_eq_true rfl, Nat.le_of_ble_eq_true rfl⟩ ⟨rfl, rfl⟩ ⟨Nat.zero_le _, Nat.zero_le _⟩ rfl hl.1 rfl (Nat.le_of_ble_eq_true rfl) dX10_gone_23) hS (fun H locs hP hS => ?_)
      refine jl_topi hf (fun y1 hf => ?_)
      refine lv_icmp_gt (tgt := 65) hx hb dX10_gone_26 (by decide) (fun hc => ?_) (fun hc => ?_)
      · have hf := jif_t hc hf
        refine lv_iload_n hx hb dX10_gone_65 rfl (lv_at hl 3 rfl) ?_
        exact ret_i C hP hS (Prod.mk.inj (Option.some.inj hf)).1 (Prod.mk.inj (Option.some.inj hf)).2 dX10_gone_66
      · have hf := jif_f hc hf
        refine lv_iload_n hx hb dX10_gone_29 rfl (lv_at hl 3 rfl) ?_
        refine lv_aload_n hx hb dX10_gone_30 rfl (lv_at hl 0 rfl) ?_
        refine lv_iload_n hx hb dX10_gone_31 rfl (lv_at hl 1 rfl) ?_
        refine lv_iload_n hx hb dX10_gone_32 rfl (lv_at hl 2 rfl) ?_
        refine lv_aload_n hx hb dX10_gone_33 rfl (lv_at hl 0 rfl) ?_
        refine r_ci (r_runV (As := []) (rest := [.int v2, .int v1, .ref (a 0), .int v3]) C hP hS (va_recv C.hK hP (q0 := 0) (ci := 10) rfl (by rw [g_at oM_10.1, oM_10.2])) (k_X10_allGuards (l := l) O (σ := s0) rfl) mw_X10_allGuards mi_X10_allGuards mv_X10_allGuards wk_5_221 ⟨Nat.le_of_ble_eq_true rfl, Nat.le_of_ble_eq_true rfl⟩ ⟨rfl, rfl⟩ ⟨Nat.zero_le _, Nat.zero_le _⟩ rfl hl.1 rfl (Nat.le_of_ble_eq_true rfl) dX10_gone_34) hS (fun H locs hP hS => ?_)
        refine jl_topi hf (fun y3 hf => ?_)
        refine lv_iload hx hb dX10_gone_37 (lv_at hl 4 rfl) ?_
        refine lv_iconst (v := (-1 : Int32)) hx hb dX10_gone_39 (by decide) ?_
        refine lv_ixor hx hb dX10_gone_40 ?_
        refine lv_iand hx hb dX10_gone_41 ?_
        obtain ⟨y5, hc, hf⟩ := jb_e hf
        refine r_ci (r_runV (As := [.int v1, .int v2, .int (y3 &&& (v4 ^^^ (-1 : Int32)))]) (rest := [.int v3]) C hP hS (va_recv C.hK hP (q0 := 0) (ci := 10) rfl (by rw [g_at oM_10.1, oM_10.2])) (k_X10_unlike (l := l) O (σ := s0) hc) mw_X10_unlike mi_X10_unlike mv_X10_unlike wk_6_87 ⟨Nat.le_of_ble_eq_true rfl, Nat.le_of_ble_eq_true rfl⟩ ⟨rfl, rfl⟩ ⟨Nat.zero_le _, Nat.zero_le _⟩ rfl hl.1 rfl (Nat.le_of_ble_eq_true rfl) dX10_gone_42) hS (fun H locs hP hS => ?_)
        refine lv_iconst (v := (-1 : Int32)) hx hb dX10_gone_45 (by decide) ?_
        refine lv_icmp_ne (tgt := 56) hx hb dX10_gone_46 (by decide) (fun hc => ?_) (fun hc => ?_)
        · have hf := jif_t hc hf
          refine lv_iconst (v := (0 : Int32)) hx hb dX10_gone_56 (by decide) ?_
          exact hL57 (f_X10_gone_L20 n) ih v1 v2 v4 v3 (0 : Int32) s0 H locs ls hf hP hS (lv_sub hl [0, 1, 2, 4] rfl)
        · have hf := jif_n hc hf
          refine lv_iconst (v := (1 : Int32)) hx hb dX10_gone_49 (by decide) ?_
          refine lv_iload hx hb dX10_gone_50 (lv_at hl 4 rfl) ?_
          refine r_ishl C dX10_gone_52 ?_
          refine lv_goto (tgt := 57) hx hb dX10_gone_53 (by decide) ?_
          exact hL57 (f_X10_gone_L20 n) ih v1 v2 v4 v3 (jshl (1 : Int32) v4) s0 H locs ls hf hP hS (lv_sub hl [0, 1, 2, 4] rfl)
  refine lv_aload_n hx hb dX10_gone_0 rfl (lv_at hl 0 rfl) ?_
  refine lv_iload_n hx hb dX10_gone_1 rfl (lv_at hl 1 rfl) ?_
  refine lv_iload_n hx hb dX10_gone_2 rfl (lv_at hl 2 rfl) ?_
  obtain ⟨y1, hc, hf⟩ := jb_e hf
  refine r_ci (r_runV (As := [.int x1, .int x2]) (rest := []) C hP hS (va_recv C.hK hP (q0 := 0) (ci := 10) rfl (by rw [g_at oM_10.1, oM_10.2])) (k_X10_sheetWrong (l := l) O (σ := σ) hc) mw_X10_sheetWrong mi_X10_sheetWrong mv_X10_sheetWrong wk_6_83 ⟨Nat.le_of_ble_eq_true rfl, Nat.le_of_ble_eq_true rfl⟩ ⟨rfl, rfl⟩ ⟨Nat.zero_le _, Nat.zero_le _⟩ rfl hl.1 rfl (Nat.le_of_ble_eq_true rfl) dX10_gone_3) hS (fun H locs hP hS => ?_)
  refine lv_if_eq (tgt := 11) hx hb dX10_gone_6 (by decide) (fun hc => ?_) (fun hc => ?_)
  · have hf := jif_t hc hf
    refine lv_aload_n hx hb dX10_gone_11 rfl (lv_at hl 0 rfl) ?_
    obtain ⟨s4, hc, hf⟩ := jb_e hf
    refine r_cv (r_runV (As := []) (rest := []) C hP hS (va_recv C.hK hP (q0 := 0) (ci := 10) rfl (by rw [g_at oM_10.1, oM_10.2])) (k_X10_watchesAll (l := l) O hc) mw_X10_watchesAll mi_X10_watchesAll mv_X10_watchesAll wk_5_213 ⟨Nat.le_of_ble_eq_true rfl, Nat.le_of_ble_eq_true rfl⟩ ⟨rfl, rfl⟩ ⟨Nat.zero_le _, Nat.zero_le _⟩ rfl hl.1 rfl (Nat.le_of_ble_eq_true rfl) dX10_gone_12) hS (fun H locs hP hS => ?_)
    refine lv_iconst (v := (0 : Int32)) hx hb dX10_gone_15 (by decide) ?_
    refine lv_istore_n (lv' := [(3, .int (0 : Int32)), (0, .ref (a 0)), (1, .int x1), (2, .int x2)]) hx hb dX10_gone_16 rfl hl (by decide) rfl (fun ls hl => ?_)
    refine lv_iconst (v := (0 : Int32)) hx hb dX10_gone_17 (by decide) ?_
    refine lv_istore (lv' := [(4, .int (0 : Int32)), (3, .int (0 : Int32)), (0, .ref (a 0)), (1, .int x1), (2, .int x2)]) hx hb dX10_gone_18 hl (by decide) rfl (fun ls hl => ?_)
    exact hL20 FU x1 x2 (0 : Int32) (0 : Int32) s4 H locs ls hf hP hS (lv_sub hl [2, 3, 4, 1, 0] rfl)
  · have hf := jif_f hc hf
    refine lv_iconst (v := (0 : Int32)) hx hb dX10_gone_9 (by decide) ?_
    exact ret_i C hP hS (Prod.mk.inj (Option.some.inj hf)).1 (Prod.mk.inj (Option.some.inj hf)).2 dX10_gone_10
set_option maxHeartbeats 4000000 in
set_option maxRecDepth 100000 in
theorem k_X10_film {l : Launch} {a : Nat → Nat} {cy : Nat → ClassId} {D : va_G} {A : Nat → Prop} (O : WO NM a (fun _ => True) A) {x1 : Int32} {x2 : Int32} {r : Int32} {σ : ST} {σ' : ST} (hf : f_X10_film x1 x2 σ = some (r, σ')) : Met l yX10_film (Cond.code yX10_film cX10_film 5 (some .int) :: WS) (rmk 8 191) (PC [.ref (a 0), .int x1, .int x2] NM eM a cy D (fun _ => True) σ) (QI NM eM a cy D A r σ') 0 0 A := by
  refine met_go (own := "GuardsLookLeftModel") O (by decide +kernel) rfl (Nat.le_of_ble_eq_true rfl) ?_
  intro p e s m args below meth c ls C hP hS hl
  have hx := C.hx
  have hb := C.hb
  have hl : lv_has ls 5 [(0, .ref (a 0)), (1, .int x1), (2, .int x2)] := hl
  obtain ⟨H, hH⟩ : ∃ H, H = s.heap := ⟨_, rfl⟩
  rw [← hH] at hP
  have hS : va_S A s.heap H [] := by rw [hH]; exact va_S.rf
  suffices g : W p l e (rmk 8 191) s m args below meth c H [] 0 0 (MQ below (QI NM eM a cy D A r σ') args s 0 0 A) (F0 m 0 ls []) by rw [hH] at g; exact g
  clear hH
  obtain ⟨locs, hlocs⟩ : ∃ z : List Loc, z = [] := ⟨_, rfl⟩
  rw [← hlocs] at hS ⊢
  have hL91 : ∀ (k54 : Int32 → Int32 → Int32 → ST → Option (Int32 × ST)) (hk54 : (∀ (v1 : Int32) (v3 : Int32) (v4 : Int32) (s0 : ST) (H : Heap) (locs : List Loc) (ls : Array Slot), k54 v1 v3 v4 s0 = some (r, σ') → va_P D vwCl (wG NM eM a cy s0) H → va_S A s.heap H locs → lv_has ls 5 [(0, .ref (a 0)), (1, .int v1), (3, .int v3), (4, .int v4)] → W p l e (rmk 8 191) s m args below meth c H locs 0 0 (MQ below (QI NM eM a cy D A r σ') args s 0 0 A) (F0 m 54 ls []))), (∀ (v1 : Int32) (v3 : Int32) (v4 : Int32) (t1 : Int32) (t2 : Int32) (s0 : ST) (H : Heap) (locs : List Loc) (ls : Array Slot), f_X10_film_L91 k54 v1 v3 v4 t1 t2 s0 = some (r, σ') → va_P D vwCl (wG NM eM a cy s0) H → va_S A s.heap H locs → lv_has ls 5 [(0, .ref (a 0)), (1, .int v1), (3, .int v3), (4, .int v4)] → W p l e (rmk 8 191) s m args below meth c H locs 0 0 (MQ below (QI NM eM a cy D A r σ') args s 0 0 A) (F0 m 91 ls [.int t2, .int t1, .ref (a 16)])) := by
    intro k54 hk54 v1 v3 v4 t1 t2 s0 H locs ls hf hP hS hl
    obtain ⟨hi1, hf⟩ := jix_e hf
    refine r_iast C hP hS aM_16 hi1 dX10_film_91 hf (fun H locs s2 hf hP hS => ?_)
    obtain ⟨y3, ey3, hf⟩ := jlet_e hf
    refine lv_iinc (v := y3) (lv' := [(4, .int y3), (0, .ref (a 0)), (1, .int v1), (3, .int v3)]) hx hb dX10_film_92 hl (k := 3) rfl ey3 (by decide) rfl (fun ls hl => ?_)
    refine lv_goto (tgt := 54) hx hb dX10_film_95 (by decide) ?_
    exact hk54 v1 v3 y3 s2 H locs ls hf hP hS (lv_sub hl [1, 2, 3, 0] rfl)
  have hL54 : ∀ (n : Nat), (∀ (v1 : Int32) (v3 : Int32) (v4 : Int32) (s0 : ST) (H : Heap) (locs : List Loc) (ls : Array Slot), f_X10_film_L54 n v1 v3 v4 s0 = some (r, σ') → va_P D vwCl (wG NM eM a cy s0) H → va_S A s.heap H locs → lv_has ls 5 [(0, .ref (a 0)), (1, .int v1), (3, .int v3), (4, .int v4)] → W p l e (rmk 8 191) s m args below meth c H locs 0 0 (MQ below (QI NM eM a cy D A r σ') args s 0 0 A) (F0 m 54 ls [])) := by
    intro n
    induction n with
    | zero => intro v1 v3 v4 s0 H locs ls hf hP hS hl; exact no_o hf
    | succ n ih =>
      intro v1 v3 v4 s0 H locs ls hf hP hS hl
      have hf := (ef_X10_film_L54 _ _ _ _).symm.trans hf
      refine lv_iload hx hb dX10_film_54 (lv_at hl 3 rfl) ?_
      refine lv_bipush (v := (40 : Int32)) hx hb dX10_film_56 (by decide) ?_
      refine lv_icmp_ge (tgt := 98) hx hb dX10_film_58 (by decide) (fun hc => ?_) (fun hc => ?_)
      · have hf := jif_t hc hf
        refine lv_bipush (v := (24 : Int32)) hx hb dX10_film_98 (by decide) ?_
        exact ret_i C hP hS (Prod.mk.inj (Option.some.inj hf)).1 (Prod.mk.inj (Option.some.inj hf)).2 dX10_film_100
      · have hf := jif_f hc hf
        refine lv_aload_n hx hb dX10_film_61 rfl (lv_at hl 0 rfl) ?_
        refine gf_X10_22 C hP wk_4_219 dX10_film_62 ?_
        refine lv_bipush (v := (40 : Int32)) hx hb dX10_film_65 (by decide) ?_
        refine lv_iload_n hx hb dX10_film_67 rfl (lv_at hl 1 rfl) ?_
        refine lv_imul hx hb dX10_film_68 ?_
        refine lv_iload hx hb dX10_film_69 (lv_at hl 3 rfl) ?_
        refine lv_iadd hx hb dX10_film_71 ?_
        refine lv_iload hx hb dX10_film_72 (lv_at hl 3 rfl) ?_
        refine lv_bipush (v := (24 : Int32)) hx hb dX10_film_74 (by decide) ?_
        refine lv_icmp_ge (tgt := 90) hx hb dX10_film_76 (by decide) (fun hc => ?_) (fun hc => ?_)
        · have hf := jif_t hc hf
          refine lv_iconst (v := (0 : Int32)) hx hb dX10_film_90 (by decide) ?_
          exact hL91 (f_X10_film_L54 n) ih v1 v3 v4 (((40 : Int32) * v1) + v4) (0 : Int32) s0 H locs ls hf hP hS (lv_sub hl [0, 1, 2, 3] rfl)
        · have hf := jif_f hc hf
          refine lv_iconst (v := (1 : Int32)) hx hb dX10_film_79 (by decide) ?_
          refine lv_iload_n hx hb dX10_film_80 rfl (lv_at hl 2 rfl) ?_
          refine lv_iload hx hb dX10_film_81 (lv_at hl 3 rfl) ?_
          refine r_ishr C dX10_film_83 ?_
          refine lv_iconst (v := (1 : Int32)) hx hb dX10_film_84 (by decide) ?_
          refine lv_iand hx hb dX10_film_85 ?_
          refine lv_isub hx hb dX10_film_86 ?_
          refine lv_goto (tgt := 91) hx hb dX10_film_87 (by decide) ?_
          exact hL91 (f_X10_film_L54 n) ih v1 v3 v4 (((40 : Int32) * v1) + v4) ((1 : Int32) - ((jshr v3 v4) &&& (1 : Int32))) s0 H locs ls hf hP hS (lv_sub hl [0, 1, 2, 3] rfl)
  refine lv_iload_n hx hb dX10_film_0 rfl (lv_at hl 1 rfl) ?_
  refine lv_iconst (v := (0 : Int32)) hx hb dX10_film_1 (by decide) ?_
  refine lv_iconst (v := (3 : Int32)) hx hb dX10_film_2 (by decide) ?_
  refine r_cz (r_runS (As := [.int x1, .int (0 : Int32), .int (3 : Int32)]) (rest := []) C hP hS (k_X10_in (l := l) O (σ := σ) rfl) mw_X10_in ms_X10_in wk_4_158 ⟨Nat.le_of_ble_eq_true rfl, Nat.le_of_ble_eq_true rfl⟩ ⟨rfl, rfl⟩ ⟨Nat.zero_le _, Nat.zero_le _⟩ rfl hl.1 rfl (Nat.le_of_ble_eq_true rfl) dX10_film_3) hS (fun H locs hzy1 hP hS => ?_)
  refine jl_topz hf hzy1 (fun y1 hzy1 hf => ?_)
  refine lv_if_ne (tgt := 12) hx hb dX10_film_6 (by decide) (fun hc => ?_) (fun hc => ?_)
  · have hf := jif_t hc hf
    refine lv_iload_n hx hb dX10_film_12 rfl (lv_at hl 2 rfl) ?_
    refine r_cz (r_runS (As := [.int x2]) (rest := []) C hP hS (k_X10_isCell (l := l) O (σ := σ) rfl) mw_X10_isCell ms_X10_isCell wk_5_98 ⟨Nat.le_of_ble_eq_true rfl, Nat.le_of_ble_eq_true rfl⟩ ⟨rfl, rfl⟩ ⟨Nat.zero_le _, Nat.zero_le _⟩ rfl hl.1 rfl (Nat.le_of_ble_eq_true rfl) dX10_film_13) hS (fun H locs hzy3 hP hS => ?_)
    refine jl_topz hf hzy3 (fun y3 hzy3 hf => ?_)
    refine lv_if_ne (tgt := 22) hx hb dX10_film_16 (by decide) (fun hc => ?_) (fun hc => ?_)
    · have hf := jif_t hc hf
      refine lv_aload_n hx hb dX10_film_22 rfl (lv_at hl 0 rfl) ?_
      obtain ⟨s6, hc, hf⟩ := jb_e hf
      refine r_cv (r_runV (As := []) (rest := []) C hP hS (va_recv C.hK hP (q0 := 0) (ci := 10) rfl (by rw [g_at oM_10.1, oM_10.2])) (k_X10_watchesAll (l := l) O hc) mw_X10_watchesAll mi_X10_watchesAll mv_X10_watchesAll wk_5_213 ⟨Nat.le_of_ble_eq_true rfl, Nat.le_of_ble_eq_true rfl⟩ ⟨rfl, rfl⟩ ⟨Nat.zero_le _, Nat.zero_le _⟩ rfl hl.1 rfl (Nat.le_of_ble_eq_true rfl) dX10_film_23) hS (fun H locs hP hS => ?_)
      refine lv_aload_n hx hb dX10_film_26 rfl (lv_at hl 0 rfl) ?_
      refine lv_iload_n hx hb dX10_film_27 rfl (lv_at hl 2 rfl) ?_
      refine lv_aload_n hx hb dX10_film_28 rfl (lv_at hl 0 rfl) ?_
      refine r_ci (r_runV (As := []) (rest := [.int x2, .ref (a 0)]) C hP hS (va_recv C.hK hP (q0 := 0) (ci := 10) rfl (by rw [g_at oM_10.1, oM_10.2])) (k_X10_allGuards (l := l) O (σ := s6) rfl) mw_X10_allGuards mi_X10_allGuards mv_X10_allGuards wk_5_221 ⟨Nat.le_of_ble_eq_true rfl, Nat.le_of_ble_eq_true rfl⟩ ⟨rfl, rfl⟩ ⟨Nat.zero_le _, Nat.zero_le _⟩ rfl hl.1 rfl (Nat.le_of_ble_eq_true rfl) dX10_film_29) hS (fun H locs hP hS => ?_)
      refine jl_topi hf (fun y7 hf => ?_)
      obtain ⟨y9, hc, hf⟩ := jb_e hf
      refine r_ci (r_runV (As := [.int x2, .int y7]) (rest := []) C hP hS (va_recv C.hK hP (q0 := 0) (ci := 10) rfl (by rw [g_at oM_10.1, oM_10.2])) (k_X10_aloneBy (l := l) O (σ := s6) hc) mw_X10_aloneBy mi_X10_aloneBy mv_X10_aloneBy wk_5_233 ⟨Nat.le_of_ble_eq_true rfl, Nat.le_of_ble_eq_true rfl⟩ ⟨rfl, rfl⟩ ⟨Nat.zero_le _, Nat.zero_le _⟩ rfl hl.1 rfl (Nat.le_of_ble_eq_true rfl) dX10_film_32) hS (fun H locs hP hS => ?_)
      refine lv_istore_n (lv' := [(3, .int y9), (0, .ref (a 0)), (1, .int x1), (2, .int x2)]) hx hb dX10_film_35 rfl hl (by decide) rfl (fun ls hl => ?_)
      refine lv_aload_n hx hb dX10_film_36 rfl (lv_at hl 1 rfl) ?_
      refine gf_X10_20 C hP wk_4_217 dX10_film_37 ?_
      refine lv_iload_n hx hb dX10_film_40 rfl (lv_at hl 2 rfl) ?_
      refine lv_iconst (v := (2 : Int32)) hx hb dX10_film_41 (by decide) ?_
      obtain ⟨hi11, hf⟩ := jix_e hf
      refine r_iast C hP hS aM_14 hi11 dX10_film_42 hf (fun H locs s12 hf hP hS => ?_)
      refine lv_aload_n hx hb dX10_film_43 rfl (lv_at hl 1 rfl) ?_
      refine gf_X10_21 C hP wk_4_218 dX10_film_44 ?_
      refine lv_iload_n hx hb dX10_film_47 rfl (lv_at hl 2 rfl) ?_
      refine lv_bipush (v := (24 : Int32)) hx hb dX10_film_48 (by decide) ?_
      obtain ⟨hi13, hf⟩ := jix_e hf
      refine r_iast C hP hS aM_15 hi13 dX10_film_50 hf (fun H locs s14 hf hP hS => ?_)
      refine lv_iconst (v := (0 : Int32)) hx hb dX10_film_51 (by decide) ?_
      refine lv_istore (lv' := [(4, .int (0 : Int32)), (3, .int y9), (0, .ref (a 0)), (1, .int x1), (2, .int x2)]) hx hb dX10_film_52 hl (by decide) rfl (fun ls hl => ?_)
      exact hL54 FU x1 y9 (0 : Int32) s14 H locs ls hf hP hS (lv_sub hl [2, 3, 1, 0] rfl)
    · have hf := jif_n hc hf
      refine lv_bipush (v := (-5 : Int32)) hx hb dX10_film_19 (by decide) ?_
      exact ret_i C hP hS (Prod.mk.inj (Option.some.inj hf)).1 (Prod.mk.inj (Option.some.inj hf)).2 dX10_film_21
  · have hf := jif_n hc hf
    refine lv_bipush (v := (-2 : Int32)) hx hb dX10_film_9 (by decide) ?_
    exact ret_i C hP hS (Prod.mk.inj (Option.some.inj hf)).1 (Prod.mk.inj (Option.some.inj hf)).2 dX10_film_11
set_option maxHeartbeats 4000000 in
set_option maxRecDepth 100000 in
theorem k_X10_worstBy {l : Launch} {a : Nat → Nat} {cy : Nat → ClassId} {D : va_G} {A : Nat → Prop} (O : WO NM a (fun _ => True) A) {x1 : Int32} {r : Int32} {σ : ST} {σ' : ST} (hf : f_X10_worstBy x1 σ = some (r, σ')) : Met l yX10_worstBy (Cond.code yX10_worstBy cX10_worstBy 5 (some .int) :: WS) (rmk 8 191) (PC [.ref (a 0), .int x1] NM eM a cy D (fun _ => True) σ) (QI NM eM a cy D A r σ') 0 0 A := by
  refine met_go (own := "GuardsLookLeftModel") O (by decide +kernel) rfl (Nat.le_of_ble_eq_true rfl) ?_
  intro p e s m args below meth c ls C hP hS hl
  have hx := C.hx
  have hb := C.hb
  have hl : lv_has ls 5 [(0, .ref (a 0)), (1, .int x1)] := hl
  obtain ⟨H, hH⟩ : ∃ H, H = s.heap := ⟨_, rfl⟩
  rw [← hH] at hP
  have hS : va_S A s.heap H [] := by rw [hH]; exact va_S.rf
  suffices g : W p l e (rmk 8 191) s m args below meth c H [] 0 0 (MQ below (QI NM eM a cy D A r σ') args s 0 0 A) (F0 m 0 ls []) by rw [hH] at g; exact g
  clear hH
  obtain ⟨locs, hlocs⟩ : ∃ z : List Loc, z = [] := ⟨_, rfl⟩
  rw [← hlocs] at hS ⊢
  have hL71 : ∀ (n : Nat), (∀ (v4 : Int32) (s0 : ST) (H : Heap) (locs : List Loc) (ls : Array Slot), f_X10_worstBy_L71 n v4 s0 = some (r, σ') → va_P D vwCl (wG NM eM a cy s0) H → va_S A s.heap H locs → lv_has ls 5 [(0, .ref (a 0)), (4, .int v4)] → W p l e (rmk 8 191) s m args below meth c H locs 0 0 (MQ below (QI NM eM a cy D A r σ') args s 0 0 A) (F0 m 71 ls [])) := by
    intro n
    induction n with
    | zero => intro v4 s0 H locs ls hf hP hS hl; exact no_o hf
    | succ n ih =>
      intro v4 s0 H locs ls hf hP hS hl
      have hf := (ef_X10_worstBy_L71 _ _).symm.trans hf
      refine lv_iload hx hb dX10_worstBy_71 (lv_at hl 1 rfl) ?_
      refine lv_aload_n hx hb dX10_worstBy_73 rfl (lv_at hl 0 rfl) ?_
      refine gf_X10_1 C hP wk_4_198 dX10_worstBy_74 ?_
      refine lv_icmp_ge (tgt := 100) hx hb dX10_worstBy_77 (by decide) (fun hc => ?_) (fun hc => ?_)
      · have hf := jif_t hc hf
        refine lv_aload_n hx hb dX10_worstBy_100 rfl (lv_at hl 0 rfl) ?_
        refine gf_X10_37 C hP wk_4_234 dX10_worstBy_101 ?_
        exact ret_i C hP hS (Prod.mk.inj (Option.some.inj hf)).1 (Prod.mk.inj (Option.some.inj hf)).2 dX10_worstBy_104
      · have hf := jif_f hc hf
        refine lv_aload_n hx hb dX10_worstBy_80 rfl (lv_at hl 0 rfl) ?_
        refine gf_X10_7 C hP wk_4_204 dX10_worstBy_81 ?_
        refine lv_iload hx hb dX10_worstBy_84 (lv_at hl 1 rfl) ?_
        refine lv_aload_n hx hb dX10_worstBy_86 rfl (lv_at hl 0 rfl) ?_
        refine gf_X10_40 C hP wk_4_237 dX10_worstBy_87 ?_
        refine lv_iload hx hb dX10_worstBy_90 (lv_at hl 1 rfl) ?_
        obtain ⟨hi1, hf⟩ := jix_e hf
        refine r_iald C hP aM_24 hi1 dX10_worstBy_92 ?_
        obtain ⟨hi2, hf⟩ := jix_e hf
        refine r_iast C hP hS aM_7 hi2 dX10_worstBy_93 hf (fun H locs s3 hf hP hS => ?_)
        obtain ⟨y4, ey4, hf⟩ := jlet_e hf
        refine lv_iinc (v := y4) (lv' := [(4, .int y4), (0, .ref (a 0))]) hx hb dX10_worstBy_94 hl (k := 1) rfl ey4 (by decide) rfl (fun ls hl => ?_)
        refine lv_goto (tgt := 71) hx hb dX10_worstBy_97 (by decide) ?_
        exact ih y4 s3 H locs ls hf hP hS (lv_sub hl [1, 0] rfl)
  have hL8 : ∀ (n : Nat), (∀ (v2 : Int64) (v4 : Int32) (s0 : ST) (H : Heap) (locs : List Loc) (ls : Array Slot), f_X10_worstBy_L8 n v2 v4 s0 = some (r, σ') → va_P D vwCl (wG NM eM a cy s0) H → va_S A s.heap H locs → lv_has ls 5 [(0, .ref (a 0)), (2, .long v2), (4, .int v4)] → W p l e (rmk 8 191) s m args below meth c H locs 0 0 (MQ below (QI NM eM a cy D A r σ') args s 0 0 A) (F0 m 8 ls [])) := by
    intro n
    induction n with
    | zero => intro v2 v4 s0 H locs ls hf hP hS hl; exact no_o hf
    | succ n ih =>
      intro v2 v4 s0 H locs ls hf hP hS hl
      have hf := (ef_X10_worstBy_L8 _ _ _).symm.trans hf
      refine lv_iload hx hb dX10_worstBy_8 (lv_at hl 2 rfl) ?_
      refine lv_aload_n hx hb dX10_worstBy_10 rfl (lv_at hl 0 rfl) ?_
      refine gf_X10_1 C hP wk_4_198 dX10_worstBy_11 ?_
      refine lv_icmp_ge (tgt := 60) hx hb dX10_worstBy_14 (by decide) (fun hc => ?_) (fun hc => ?_)
      · have hf := jif_t hc hf
        refine lv_aload_n hx hb dX10_worstBy_60 rfl (lv_at hl 0 rfl) ?_
        obtain ⟨s2, hc, hf⟩ := jb_e hf
        refine r_cv (r_runV (As := []) (rest := []) C hP hS (va_recv C.hK hP (q0 := 0) (ci := 10) rfl (by rw [g_at oM_10.1, oM_10.2])) (k_X10_watchesAll (l := l) O hc) mw_X10_watchesAll mi_X10_watchesAll mv_X10_watchesAll wk_5_213 ⟨Nat.le_of_ble_eq_true rfl, Nat.le_of_ble_eq_true rfl⟩ ⟨rfl, rfl⟩ ⟨Nat.zero_le _, Nat.zero_le _⟩ rfl hl.1 rfl (Nat.le_of_ble_eq_true rfl) dX10_worstBy_61) hS (fun H locs hP hS => ?_)
        refine lv_aload_n hx hb dX10_worstBy_64 rfl (lv_at hl 0 rfl) ?_
        obtain ⟨s4, hc, hf⟩ := jb_e hf
        refine r_cv (r_runV (As := []) (rest := []) C hP hS (va_recv C.hK hP (q0 := 0) (ci := 10) rfl (by rw [g_at oM_10.1, oM_10.2])) (k_X10_findsGaps (l := l) O hc) mw_X10_findsGaps mi_X10_findsGaps mv_X10_findsGaps wk_6_9 ⟨Nat.le_of_ble_eq_true rfl, Nat.le_of_ble_eq_true rfl⟩ ⟨rfl, rfl⟩ ⟨Nat.zero_le _, Nat.zero_le _⟩ rfl hl.1 rfl (Nat.le_of_ble_eq_true rfl) dX10_worstBy_65) hS (fun H locs hP hS => ?_)
        refine lv_iconst (v := (0 : Int32)) hx hb dX10_worstBy_68 (by decide) ?_
        refine lv_istore (lv' := [(4, .int (0 : Int32)), (0, .ref (a 0)), (2, .long v2)]) hx hb dX10_worstBy_69 hl (by decide) rfl (fun ls hl => ?_)
        exact hL71 FU (0 : Int32) s4 H locs ls hf hP hS (lv_sub hl [1, 0] rfl)
      · have hf := jif_f hc hf
        refine lv_aload_n hx hb dX10_worstBy_17 rfl (lv_at hl 0 rfl) ?_
        refine gf_X10_40 C hP wk_4_237 dX10_worstBy_18 ?_
        refine lv_iload hx hb dX10_worstBy_21 (lv_at hl 2 rfl) ?_
        refine lv_aload_n hx hb dX10_worstBy_23 rfl (lv_at hl 0 rfl) ?_
        refine gf_X10_7 C hP wk_4_204 dX10_worstBy_24 ?_
        refine lv_iload hx hb dX10_worstBy_27 (lv_at hl 2 rfl) ?_
        obtain ⟨hi5, hf⟩ := jix_e hf
        refine r_iald C hP aM_7 hi5 dX10_worstBy_29 ?_
        obtain ⟨hi6, hf⟩ := jix_e hf
        refine r_iast C hP hS aM_24 hi6 dX10_worstBy_30 hf (fun H locs s7 hf hP hS => ?_)
        refine lv_lload_n hx hb dX10_worstBy_31 rfl (lv_at hl 1 rfl) ?_
        refine lv_ldc2 hx hb C.hown (C.ts _ wk_6_119) dX10_worstBy_32 ?_
        refine lv_lmul hx hb dX10_worstBy_35 ?_
        refine lv_ldc2 hx hb C.hown (C.ts _ wk_6_120) dX10_worstBy_36 ?_
        refine r_lrem C dX10_worstBy_39 (by decide) ?_
        refine jl_topl hf (fun y8 hf => ?_)
        refine lv_lstore_n (lv' := [(2, .long y8), (0, .ref (a 0)), (4, .int v4)]) hx hb dX10_worstBy_40 rfl hl (by decide) rfl (fun ls hl => ?_)
        refine lv_aload_n hx hb dX10_worstBy_41 rfl (lv_at hl 1 rfl) ?_
        refine gf_X10_7 C hP wk_4_204 dX10_worstBy_42 ?_
        refine lv_iload hx hb dX10_worstBy_45 (lv_at hl 2 rfl) ?_
        refine lv_lload_n hx hb dX10_worstBy_47 rfl (lv_at hl 0 rfl) ?_
        refine lv_ldc2 hx hb C.hown (C.ts _ wk_6_121) dX10_worstBy_48 ?_
        refine r_lrem C dX10_worstBy_51 (by decide) ?_
        refine lv_l2i hx hb dX10_worstBy_52 rfl ?_
        obtain ⟨hi9, hf⟩ := jix_e hf
        refine r_iast C hP hS aM_7 hi9 dX10_worstBy_53 hf (fun H locs s10 hf hP hS => ?_)
        obtain ⟨y11, ey11, hf⟩ := jlet_e hf
        refine lv_iinc (v := y11) (lv' := [(4, .int y11), (2, .long y8), (0, .ref (a 0))]) hx hb dX10_worstBy_54 hl (k := 2) rfl ey11 (by decide) rfl (fun ls hl => ?_)
        refine lv_goto (tgt := 8) hx hb dX10_worstBy_57 (by decide) ?_
        exact ih y8 y11 s10 H locs ls hf hP hS (lv_sub hl [2, 1, 0] rfl)
  refine lv_iload_n hx hb dX10_worstBy_0 rfl (lv_at hl 1 rfl) ?_
  refine lv_i2l hx hb dX10_worstBy_1 rfl ?_
  refine lv_lconst (v := (1 : Int64)) hx hb dX10_worstBy_2 (by decide) ?_
  refine lv_ladd hx hb dX10_worstBy_3 ?_
  refine jl_topl hf (fun y1 hf => ?_)
  refine lv_lstore_n (lv' := [(2, .long y1), (0, .ref (a 0)), (1, .int x1)]) hx hb dX10_worstBy_4 rfl hl (by decide) rfl (fun ls hl => ?_)
  refine lv_iconst (v := (0 : Int32)) hx hb dX10_worstBy_5 (by decide) ?_
  refine lv_istore (lv' := [(4, .int (0 : Int32)), (2, .long y1), (0, .ref (a 0)), (1, .int x1)]) hx hb dX10_worstBy_6 hl (by decide) rfl (fun ls hl => ?_)
  exact hL8 FU y1 (0 : Int32) σ H locs ls hf hP hS (lv_sub hl [2, 1, 0] rfl)
set_option maxHeartbeats 4000000 in
set_option maxRecDepth 100000 in
theorem k_X10_isSeed {l : Launch} {a : Nat → Nat} {cy : Nat → ClassId} {D : va_G} {A : Nat → Prop} (O : WO NM a (fun _ => True) A) {x1 : Int32} {r : Int32} {σ : ST} (hf : f_X10_isSeed x1 = r) : Met l yX10_isSeed (Cond.code yX10_isSeed cX10_isSeed 1 (some .boolean) :: WS) (rmk 1 22) (PC [.int x1] NM eM a cy D (fun _ => True) σ) (QZ NM eM a cy D A r σ) 0 0 A := by
  refine met_go (own := "GuardsLookLeftModel") O (by decide +kernel) rfl (Nat.le_of_ble_eq_true rfl) ?_
  intro p e s m args below meth c ls C hP hS hl
  have hx := C.hx
  have hb := C.hb
  have hl : lv_has ls 1 [(0, .int x1)] := hl
  obtain ⟨H, hH⟩ : ∃ H, H = s.heap := ⟨_, rfl⟩
  rw [← hH] at hP
  have hS : va_S A s.heap H [] := by rw [hH]; exact va_S.rf
  suffices g : W p l e (rmk 1 22) s m args below meth c H [] 0 0 (MQ below (QZ NM eM a cy D A r σ) args s 0 0 A) (F0 m 0 ls []) by rw [hH] at g; exact g
  clear hH
  obtain ⟨locs, hlocs⟩ : ∃ z : List Loc, z = [] := ⟨_, rfl⟩
  rw [← hlocs] at hS ⊢
  refine lv_iload_n hx hb dX10_isSeed_0 rfl (lv_at hl 0 rfl) ?_
  refine lv_iconst (v := (0 : Int32)) hx hb dX10_isSeed_1 (by decide) ?_
  refine lv_ldcw hx hb C.hown (C.ts _ wk_6_114) dX10_isSeed_2 ?_
  refine r_cz (r_runS (As := [.int x1, .int (0 : Int32), .int (99999 : Int32)]) (rest := []) C hP hS (k_X10_in (l := l) O (σ := σ) rfl) mw_X10_in ms_X10_in wk_4_158 ⟨Nat.le_of_ble_eq_true rfl, Nat.le_of_ble_eq_true rfl⟩ ⟨rfl, rfl⟩ ⟨Nat.zero_le _, Nat.zero_le _⟩ rfl hl.1 rfl (Nat.le_of_ble_eq_true rfl) dX10_isSeed_5) hS (fun H locs hzy1 hP hS => ?_)
  refine jl_topz hf hzy1 (fun y1 hzy1 hf => ?_)
  exact ret_z C hP hS hzy1 hf rfl dX10_isSeed_8
set_option maxHeartbeats 4000000 in
set_option maxRecDepth 100000 in
theorem k_X10_drawn {l : Launch} {a : Nat → Nat} {cy : Nat → ClassId} {D : va_G} {A : Nat → Prop} (O : WO NM a (fun _ => True) A) {x1 : Int32} {r : Int32} {σ : ST} {σ' : ST} (hf : f_X10_drawn x1 σ = some (r, σ')) : Met l yX10_drawn (Cond.code yX10_drawn cX10_drawn 2 (some .int) :: WS) (rmk 9 215) (PC [.ref (a 0), .int x1] NM eM a cy D (fun _ => True) σ) (QI NM eM a cy D A r σ') 0 0 A := by
  refine met_go (own := "GuardsLookLeftModel") O (by decide +kernel) rfl (Nat.le_of_ble_eq_true rfl) ?_
  intro p e s m args below meth c ls C hP hS hl
  have hx := C.hx
  have hb := C.hb
  have hl : lv_has ls 2 [(0, .ref (a 0)), (1, .int x1)] := hl
  obtain ⟨H, hH⟩ : ∃ H, H = s.heap := ⟨_, rfl⟩
  rw [← hH] at hP
  have hS : va_S A s.heap H [] := by rw [hH]; exact va_S.rf
  suffices g : W p l e (rmk 9 215) s m args below meth c H [] 0 0 (MQ below (QI NM eM a cy D A r σ') args s 0 0 A) (F0 m 0 ls []) by rw [hH] at g; exact g
  clear hH
  obtain ⟨locs, hlocs⟩ : ∃ z : List Loc, z = [] := ⟨_, rfl⟩
  rw [← hlocs] at hS ⊢
  refine lv_iload_n hx hb dX10_drawn_0 rfl (lv_at hl 1 rfl) ?_
  refine r_cz (r_runS (As := [.int x1]) (rest := []) C hP hS (k_X10_isSeed (l := l) O (σ := σ) rfl) mw_X10_isSeed ms_X10_isSeed wk_6_111 ⟨Nat.le_of_ble_eq_true rfl, Nat.le_of_ble_eq_true rfl⟩ ⟨rfl, rfl⟩ ⟨Nat.zero_le _, Nat.zero_le _⟩ rfl hl.1 rfl (Nat.le_of_ble_eq_true rfl) dX10_drawn_1) hS (fun H locs hzy1 hP hS => ?_)
  refine jl_topz hf hzy1 (fun y1 hzy1 hf => ?_)
  refine lv_if_eq (tgt := 15) hx hb dX10_drawn_4 (by decide) (fun hc => ?_) (fun hc => ?_)
  · have hf := jif_t hc hf
    refine lv_bipush (v := (-2 : Int32)) hx hb dX10_drawn_15 (by decide) ?_
    exact ret_i C hP hS (Prod.mk.inj (Option.some.inj hf)).1 (Prod.mk.inj (Option.some.inj hf)).2 dX10_drawn_17
  · have hf := jif_f hc hf
    refine lv_aload_n hx hb dX10_drawn_7 rfl (lv_at hl 0 rfl) ?_
    refine lv_iload_n hx hb dX10_drawn_8 rfl (lv_at hl 1 rfl) ?_
    obtain ⟨y3, s4, hc, hf⟩ := jbp_e hf
    refine r_ci (r_runV (As := [.int x1]) (rest := []) C hP hS (va_recv C.hK hP (q0 := 0) (ci := 10) rfl (by rw [g_at oM_10.1, oM_10.2])) (k_X10_worstBy (l := l) O hc) mw_X10_worstBy mi_X10_worstBy mv_X10_worstBy wk_6_115 ⟨Nat.le_of_ble_eq_true rfl, Nat.le_of_ble_eq_true rfl⟩ ⟨rfl, rfl⟩ ⟨Nat.zero_le _, Nat.zero_le _⟩ rfl hl.1 rfl (Nat.le_of_ble_eq_true rfl) dX10_drawn_9) hS (fun H locs hP hS => ?_)
    refine lv_goto (tgt := 17) hx hb dX10_drawn_12 (by decide) ?_
    exact ret_i C hP hS (Prod.mk.inj (Option.some.inj hf)).1 (Prod.mk.inj (Option.some.inj hf)).2 dX10_drawn_17
set_option maxHeartbeats 4000000 in
set_option maxRecDepth 100000 in
theorem k_X10_lowest {l : Launch} {a : Nat → Nat} {cy : Nat → ClassId} {D : va_G} {A : Nat → Prop} (O : WO NM a (fun _ => True) A) {x1 : Int64} {x2 : Int64} {x3 : Int32} {r : Int64} {σ : ST} (hf : f_X10_lowest x1 x2 x3 = some r) : Met l yX10_lowest (Cond.code yX10_lowest cX10_lowest 11 (some .long) :: WS) (rmk 0 0) (PC [.long x1, .long x2, .int x3] NM eM a cy D (fun _ => True) σ) (QL NM eM a cy D A r σ) 0 0 A := by
  refine met_go (own := "GuardsLookLeftModel") O (by decide +kernel) rfl (Nat.le_of_ble_eq_true rfl) ?_
  intro p e s m args below meth c ls C hP hS hl
  have hx := C.hx
  have hb := C.hb
  have hl : lv_has ls 11 [(0, .long x1), (2, .long x2), (4, .int x3)] := hl
  obtain ⟨H, hH⟩ : ∃ H, H = s.heap := ⟨_, rfl⟩
  rw [← hH] at hP
  have hS : va_S A s.heap H [] := by rw [hH]; exact va_S.rf
  suffices g : W p l e (rmk 0 0) s m args below meth c H [] 0 0 (MQ below (QL NM eM a cy D A r σ) args s 0 0 A) (F0 m 0 ls []) by rw [hH] at g; exact g
  clear hH
  obtain ⟨locs, hlocs⟩ : ∃ z : List Loc, z = [] := ⟨_, rfl⟩
  rw [← hlocs] at hS ⊢
  have hL51 : (∀ (v5 : Int64) (t0 : Int64) (H : Heap) (locs : List Loc) (ls : Array Slot), f_X10_lowest_L51 v5 t0 = some r → va_P D vwCl (wG NM eM a cy σ) H → va_S A s.heap H locs → lv_has ls 11 [(5, .long v5)] → W p l e (rmk 0 0) s m args below meth c H locs 0 0 (MQ below (QL NM eM a cy D A r σ) args s 0 0 A) (F0 m 51 ls [.long t0])) := by
    intro v5 t0 H locs ls hf hP hS hl
    refine lv_lload hx hb dX10_lowest_51 (lv_at hl 0 rfl) ?_
    obtain ⟨hne, hf⟩ := jnl_e hf
    refine lv_ldiv hx hb dX10_lowest_53 hne ?_
    exact ret_l C hP hS (Option.some.inj hf) rfl dX10_lowest_54
  have hL16 : ∀ (n : Nat), (∀ (v0 : Int64) (v2 : Int64) (v4 : Int32) (v5 : Int64) (v7 : Int64) (H : Heap) (locs : List Loc) (ls : Array Slot), f_X10_lowest_L16 n v0 v2 v4 v5 v7 = some r → va_P D vwCl (wG NM eM a cy σ) H → va_S A s.heap H locs → lv_has ls 11 [(0, .long v0), (2, .long v2), (4, .int v4), (5, .long v5), (7, .long v7)] → W p l e (rmk 0 0) s m args below meth c H locs 0 0 (MQ below (QL NM eM a cy D A r σ) args s 0 0 A) (F0 m 16 ls [])) := by
    intro n
    induction n with
    | zero => intro v0 v2 v4 v5 v7 H locs ls hf hP hS hl; exact no_o hf
    | succ n ih =>
      intro v0 v2 v4 v5 v7 H locs ls hf hP hS hl
      have hf := (ef_X10_lowest_L16 _ _ _ _ _).symm.trans hf
      refine lv_lload hx hb dX10_lowest_16 (lv_at hl 4 rfl) ?_
      refine lv_lconst (v := (0 : Int64)) hx hb dX10_lowest_18 (by decide) ?_
      refine lc_eq C (tgt := 41) dX10_lowest_19 dX10_lowest_20 (by decide) (fun hc => ?_) (fun hc => ?_)
      · have hf := jif_t hc hf
        refine lv_iload hx hb dX10_lowest_41 (lv_at hl 2 rfl) ?_
        refine lv_if_ne (tgt := 50) hx hb dX10_lowest_43 (by decide) (fun hc => ?_) (fun hc => ?_)
        · have hf := jif_t hc hf
          refine lv_lload_n hx hb dX10_lowest_50 rfl (lv_at hl 1 rfl) ?_
          exact hL51 v5 v2 H locs ls hf hP hS (lv_sub hl [3] rfl)
        · have hf := jif_n hc hf
          refine lv_lload_n hx hb dX10_lowest_46 rfl (lv_at hl 0 rfl) ?_
          refine lv_goto (tgt := 51) hx hb dX10_lowest_47 (by decide) ?_
          exact hL51 v5 v0 H locs ls hf hP hS (lv_sub hl [3] rfl)
      · have hf := jif_f hc hf
        refine lv_lload hx hb dX10_lowest_23 (lv_at hl 3 rfl) ?_
        refine lv_lload hx hb dX10_lowest_25 (lv_at hl 4 rfl) ?_
        obtain ⟨hne, hf⟩ := jnl_e hf
        refine r_lrem C dX10_lowest_27 hne ?_
        refine jl_topl hf (fun y1 hf => ?_)
        refine lv_lstore (lv' := [(9, .long y1), (0, .long v0), (2, .long v2), (4, .int v4), (5, .long v5), (7, .long v7)]) hx hb dX10_lowest_28 hl (by decide) rfl (fun ls hl => ?_)
        refine lv_lload hx hb dX10_lowest_30 (lv_at hl 5 rfl) ?_
        refine lv_lstore (lv' := [(5, .long v7), (9, .long y1), (0, .long v0), (2, .long v2), (4, .int v4), (7, .long v7)]) hx hb dX10_lowest_32 hl (by decide) rfl (fun ls hl => ?_)
        refine lv_lload hx hb dX10_lowest_34 (lv_at hl 1 rfl) ?_
        refine lv_lstore (lv' := [(7, .long y1), (5, .long v7), (9, .long y1), (0, .long v0), (2, .long v2), (4, .int v4)]) hx hb dX10_lowest_36 hl (by decide) rfl (fun ls hl => ?_)
        refine lv_goto (tgt := 16) hx hb dX10_lowest_38 (by decide) ?_
        exact ih v0 v2 v4 v7 y1 H locs ls hf hP hS (lv_sub hl [3, 4, 5, 1, 0] rfl)
  refine lv_lload_n hx hb dX10_lowest_0 rfl (lv_at hl 0 rfl) ?_
  refine lv_lconst (v := (0 : Int64)) hx hb dX10_lowest_1 (by decide) ?_
  refine lc_ne C (tgt := 10) dX10_lowest_2 dX10_lowest_3 (by decide) (fun hc => ?_) (fun hc => ?_)
  · have hf := jif_t hc hf
    refine lv_lload_n hx hb dX10_lowest_10 rfl (lv_at hl 0 rfl) ?_
    refine lv_lstore (lv' := [(5, .long x1), (0, .long x1), (2, .long x2), (4, .int x3)]) hx hb dX10_lowest_11 hl (by decide) rfl (fun ls hl => ?_)
    refine lv_lload_n hx hb dX10_lowest_13 rfl (lv_at hl 2 rfl) ?_
    refine lv_lstore (lv' := [(7, .long x2), (5, .long x1), (0, .long x1), (2, .long x2), (4, .int x3)]) hx hb dX10_lowest_14 hl (by decide) rfl (fun ls hl => ?_)
    exact hL16 FU x1 x2 x3 x1 x2 H locs ls hf hP hS (lv_sub hl [2, 3, 4, 1, 0] rfl)
  · have hf := jif_n hc hf
    refine lv_iload hx hb dX10_lowest_6 (lv_at hl 2 rfl) ?_
    refine lv_i2l hx hb dX10_lowest_8 rfl ?_
    exact ret_l C hP hS (Option.some.inj hf) rfl dX10_lowest_9
set_option maxHeartbeats 4000000 in
set_option maxRecDepth 100000 in
theorem k_X10_mean {l : Launch} {a : Nat → Nat} {cy : Nat → ClassId} {D : va_G} {A : Nat → Prop} (O : WO NM a (fun _ => True) A) {x1 : Int32} {x2 : Int32} {x3 : Int32} {r : Int64} {σ : ST} {σ' : ST} (hf : f_X10_mean x1 x2 x3 σ = some (r, σ')) : Met l yX10_mean (Cond.code yX10_mean cX10_mean 7 (some .long) :: WS) (rmk 9 215) (PC [.ref (a 0), .int x1, .int x2, .int x3] NM eM a cy D (fun _ => True) σ) (QL NM eM a cy D A r σ') 0 0 A := by
  refine met_go (own := "GuardsLookLeftModel") O (by decide +kernel) rfl (Nat.le_of_ble_eq_true rfl) ?_
  intro p e s m args below meth c ls C hP hS hl
  have hx := C.hx
  have hb := C.hb
  have hl : lv_has ls 7 [(0, .ref (a 0)), (1, .int x1), (2, .int x2), (3, .int x3)] := hl
  obtain ⟨H, hH⟩ : ∃ H, H = s.heap := ⟨_, rfl⟩
  rw [← hH] at hP
  have hS : va_S A s.heap H [] := by rw [hH]; exact va_S.rf
  suffices g : W p l e (rmk 9 215) s m args below meth c H [] 0 0 (MQ below (QL NM eM a cy D A r σ') args s 0 0 A) (F0 m 0 ls []) by rw [hH] at g; exact g
  clear hH
  obtain ⟨locs, hlocs⟩ : ∃ z : List Loc, z = [] := ⟨_, rfl⟩
  rw [← hlocs] at hS ⊢
  have hL26 : (∀ (s0 : ST) (H : Heap) (locs : List Loc) (ls : Array Slot), f_X10_mean_L26 s0 = some (r, σ') → va_P D vwCl (wG NM eM a cy s0) H → va_S A s.heap H locs → lv_has ls 7 [] → W p l e (rmk 9 215) s m args below meth c H locs 0 0 (MQ below (QL NM eM a cy D A r σ') args s 0 0 A) (F0 m 26 ls [])) := by
    intro s0 H locs ls hf hP hS hl
    refine lv_ldc2 hx hb C.hown (C.ts _ wk_5_89) dX10_mean_26 ?_
    exact ret_l C hP hS (Prod.mk.inj (Option.some.inj hf)).1 (Prod.mk.inj (Option.some.inj hf)).2 dX10_mean_29
  have hL36 : ∀ (n : Nat), (∀ (v1 : Int32) (v2 : Int32) (v3 : Int32) (v4 : Int64) (v6 : Int32) (s0 : ST) (H : Heap) (locs : List Loc) (ls : Array Slot), f_X10_mean_L36 n v1 v2 v3 v4 v6 s0 = some (r, σ') → va_P D vwCl (wG NM eM a cy s0) H → va_S A s.heap H locs → lv_has ls 7 [(0, .ref (a 0)), (1, .int v1), (2, .int v2), (3, .int v3), (4, .long v4), (6, .int v6)] → W p l e (rmk 9 215) s m args below meth c H locs 0 0 (MQ below (QL NM eM a cy D A r σ') args s 0 0 A) (F0 m 36 ls [])) := by
    intro n
    induction n with
    | zero => intro v1 v2 v3 v4 v6 s0 H locs ls hf hP hS hl; exact no_o hf
    | succ n ih =>
      intro v1 v2 v3 v4 v6 s0 H locs ls hf hP hS hl
      have hf := (ef_X10_mean_L36 _ _ _ _ _ _).symm.trans hf
      refine lv_iload hx hb dX10_mean_36 (lv_at hl 5 rfl) ?_
      refine lv_iload_n hx hb dX10_mean_38 rfl (lv_at hl 2 rfl) ?_
      refine lv_icmp_ge (tgt := 62) hx hb dX10_mean_39 (by decide) (fun hc => ?_) (fun hc => ?_)
      · have hf := jif_t hc hf
        refine lv_lload hx hb dX10_mean_62 (lv_at hl 4 rfl) ?_
        refine lv_iload_n hx hb dX10_mean_64 rfl (lv_at hl 2 rfl) ?_
        refine lv_i2l hx hb dX10_mean_65 rfl ?_
        refine lv_iload_n hx hb dX10_mean_66 rfl (lv_at hl 3 rfl) ?_
        obtain ⟨y1, hc, hf⟩ := jb_e hf
        refine r_cl (r_runS (As := [.long v4, .long (Int32.toInt64 v2), .int v3]) (rest := []) C hP hS (k_X10_lowest (l := l) O (σ := s0) hc) mw_X10_lowest ms_X10_lowest wk_6_126 ⟨Nat.le_of_ble_eq_true rfl, Nat.le_of_ble_eq_true rfl⟩ ⟨rfl, rfl⟩ ⟨Nat.zero_le _, Nat.zero_le _⟩ rfl hl.1 rfl (Nat.le_of_ble_eq_true rfl) dX10_mean_67) hS (fun H locs hP hS => ?_)
        exact ret_l C hP hS (Prod.mk.inj (Option.some.inj hf)).1 (Prod.mk.inj (Option.some.inj hf)).2 dX10_mean_70
      · have hf := jif_f hc hf
        refine lv_lload hx hb dX10_mean_42 (lv_at hl 4 rfl) ?_
        refine lv_aload_n hx hb dX10_mean_44 rfl (lv_at hl 0 rfl) ?_
        refine lv_iload_n hx hb dX10_mean_45 rfl (lv_at hl 1 rfl) ?_
        refine lv_iload hx hb dX10_mean_46 (lv_at hl 5 rfl) ?_
        refine lv_iadd hx hb dX10_mean_48 ?_
        obtain ⟨y3, s4, hc, hf⟩ := jbp_e hf
        refine r_ci (r_runV (As := [.int (v1 + v6)]) (rest := [.long v4]) C hP hS (va_recv C.hK hP (q0 := 0) (ci := 10) rfl (by rw [g_at oM_10.1, oM_10.2])) (k_X10_worstBy (l := l) O hc) mw_X10_worstBy mi_X10_worstBy mv_X10_worstBy wk_6_115 ⟨Nat.le_of_ble_eq_true rfl, Nat.le_of_ble_eq_true rfl⟩ ⟨rfl, rfl⟩ ⟨Nat.zero_le _, Nat.zero_le _⟩ rfl hl.1 rfl (Nat.le_of_ble_eq_true rfl) dX10_mean_49) hS (fun H locs hP hS => ?_)
        refine lv_i2l hx hb dX10_mean_52 rfl ?_
        refine lv_ladd hx hb dX10_mean_53 ?_
        refine jl_topl hf (fun y5 hf => ?_)
        refine lv_lstore (lv' := [(4, .long y5), (0, .ref (a 0)), (1, .int v1), (2, .int v2), (3, .int v3), (6, .int v6)]) hx hb dX10_mean_54 hl (by decide) rfl (fun ls hl => ?_)
        obtain ⟨y6, ey6, hf⟩ := jlet_e hf
        refine lv_iinc (v := y6) (lv' := [(6, .int y6), (4, .long y5), (0, .ref (a 0)), (1, .int v1), (2, .int v2), (3, .int v3)]) hx hb dX10_mean_56 hl (k := 5) rfl ey6 (by decide) rfl (fun ls hl => ?_)
        refine lv_goto (tgt := 36) hx hb dX10_mean_59 (by decide) ?_
        exact ih v1 v2 v3 y5 y6 s4 H locs ls hf hP hS (lv_sub hl [2, 3, 4, 5, 1, 0] rfl)
  refine lv_iload_n hx hb dX10_mean_0 rfl (lv_at hl 1 rfl) ?_
  refine r_cz (r_runS (As := [.int x1]) (rest := []) C hP hS (k_X10_isSeed (l := l) O (σ := σ) rfl) mw_X10_isSeed ms_X10_isSeed wk_6_111 ⟨Nat.le_of_ble_eq_true rfl, Nat.le_of_ble_eq_true rfl⟩ ⟨rfl, rfl⟩ ⟨Nat.zero_le _, Nat.zero_le _⟩ rfl hl.1 rfl (Nat.le_of_ble_eq_true rfl) dX10_mean_1) hS (fun H locs hzy1 hP hS => ?_)
  refine jl_topz hf hzy1 (fun y1 hzy1 hf => ?_)
  refine lv_if_eq (tgt := 26) hx hb dX10_mean_4 (by decide) (fun hc => ?_) (fun hc => ?_)
  · have hf := jif_t hc hf
    exact hL26 σ H locs ls hf hP hS (lv_sub hl [] rfl)
  · have hf := jif_f hc hf
    refine lv_iload_n hx hb dX10_mean_7 rfl (lv_at hl 2 rfl) ?_
    refine lv_iconst (v := (1 : Int32)) hx hb dX10_mean_8 (by decide) ?_
    refine lv_bipush (v := (12 : Int32)) hx hb dX10_mean_9 (by decide) ?_
    refine r_cz (r_runS (As := [.int x2, .int (1 : Int32), .int (12 : Int32)]) (rest := []) C hP hS (k_X10_in (l := l) O (σ := σ) rfl) mw_X10_in ms_X10_in wk_4_158 ⟨Nat.le_of_ble_eq_true rfl, Nat.le_of_ble_eq_true rfl⟩ ⟨rfl, rfl⟩ ⟨Nat.zero_le _, Nat.zero_le _⟩ rfl hl.1 rfl (Nat.le_of_ble_eq_true rfl) dX10_mean_11) hS (fun H locs hzy3 hP hS => ?_)
    refine jl_topz hf hzy3 (fun y3 hzy3 hf => ?_)
    refine lv_if_eq (tgt := 26) hx hb dX10_mean_14 (by decide) (fun hc => ?_) (fun hc => ?_)
    · have hf := jif_t hc hf
      exact hL26 σ H locs ls hf hP hS (lv_sub hl [] rfl)
    · have hf := jif_f hc hf
      refine lv_iload_n hx hb dX10_mean_17 rfl (lv_at hl 3 rfl) ?_
      refine lv_iconst (v := (0 : Int32)) hx hb dX10_mean_18 (by decide) ?_
      refine lv_iconst (v := (1 : Int32)) hx hb dX10_mean_19 (by decide) ?_
      refine r_cz (r_runS (As := [.int x3, .int (0 : Int32), .int (1 : Int32)]) (rest := []) C hP hS (k_X10_in (l := l) O (σ := σ) rfl) mw_X10_in ms_X10_in wk_4_158 ⟨Nat.le_of_ble_eq_true rfl, Nat.le_of_ble_eq_true rfl⟩ ⟨rfl, rfl⟩ ⟨Nat.zero_le _, Nat.zero_le _⟩ rfl hl.1 rfl (Nat.le_of_ble_eq_true rfl) dX10_mean_20) hS (fun H locs hzy5 hP hS => ?_)
      refine jl_topz hf hzy5 (fun y5 hzy5 hf => ?_)
      refine lv_if_ne (tgt := 30) hx hb dX10_mean_23 (by decide) (fun hc => ?_) (fun hc => ?_)
      · have hf := jif_t hc hf
        refine lv_lconst (v := (0 : Int64)) hx hb dX10_mean_30 (by decide) ?_
        refine lv_lstore (lv' := [(4, .long (0 : Int64)), (0, .ref (a 0)), (1, .int x1), (2, .int x2), (3, .int x3)]) hx hb dX10_mean_31 hl (by decide) rfl (fun ls hl => ?_)
        refine lv_iconst (v := (0 : Int32)) hx hb dX10_mean_33 (by decide) ?_
        refine lv_istore (lv' := [(6, .int (0 : Int32)), (4, .long (0 : Int64)), (0, .ref (a 0)), (1, .int x1), (2, .int x2), (3, .int x3)]) hx hb dX10_mean_34 hl (by decide) rfl (fun ls hl => ?_)
        exact hL36 FU x1 x2 x3 (0 : Int64) (0 : Int32) σ H locs ls hf hP hS (lv_sub hl [2, 3, 4, 5, 1, 0] rfl)
      · have hf := jif_n hc hf
        exact hL26 σ H locs ls hf hP hS (lv_sub hl [] rfl)
set_option maxHeartbeats 4000000 in
set_option maxRecDepth 100000 in
theorem k_X10_image {l : Launch} {a : Nat → Nat} {cy : Nat → ClassId} {D : va_G} {A : Nat → Prop} (O : WO NM a (fun _ => True) A) {r : Int32} {σ : ST} {σ' : ST} (hf : f_X10_image σ = some (r, σ')) : Met l yX10_image (Cond.code yX10_image cX10_image 2 (some .int) :: WS) (rmk 0 0) (PC [.ref (a 0)] NM eM a cy D (fun _ => True) σ) (QI NM eM a cy D A r σ') 0 0 A := by
  refine met_go (own := "GuardsLookLeftModel") O (by decide +kernel) rfl (Nat.le_of_ble_eq_true rfl) ?_
  intro p e s m args below meth c ls C hP hS hl
  have hx := C.hx
  have hb := C.hb
  have hl : lv_has ls 2 [(0, .ref (a 0))] := hl
  obtain ⟨H, hH⟩ : ∃ H, H = s.heap := ⟨_, rfl⟩
  rw [← hH] at hP
  have hS : va_S A s.heap H [] := by rw [hH]; exact va_S.rf
  suffices g : W p l e (rmk 0 0) s m args below meth c H [] 0 0 (MQ below (QI NM eM a cy D A r σ') args s 0 0 A) (F0 m 0 ls []) by rw [hH] at g; exact g
  clear hH
  obtain ⟨locs, hlocs⟩ : ∃ z : List Loc, z = [] := ⟨_, rfl⟩
  rw [← hlocs] at hS ⊢
  have hL48 : ∀ (n : Nat), (∀ (v1 : Int32) (s0 : ST) (H : Heap) (locs : List Loc) (ls : Array Slot), f_X10_image_L48 n v1 s0 = some (r, σ') → va_P D vwCl (wG NM eM a cy s0) H → va_S A s.heap H locs → lv_has ls 2 [(0, .ref (a 0)), (1, .int v1)] → W p l e (rmk 0 0) s m args below meth c H locs 0 0 (MQ below (QI NM eM a cy D A r σ') args s 0 0 A) (F0 m 48 ls [])) := by
    intro n
    induction n with
    | zero => intro v1 s0 H locs ls hf hP hS hl; exact no_o hf
    | succ n ih =>
      intro v1 s0 H locs ls hf hP hS hl
      have hf := (ef_X10_image_L48 _ _).symm.trans hf
      refine lv_iload_n hx hb dX10_image_48 rfl (lv_at hl 1 rfl) ?_
      refine lv_iconst (v := (5 : Int32)) hx hb dX10_image_49 (by decide) ?_
      refine lv_icmp_ge (tgt := 83) hx hb dX10_image_50 (by decide) (fun hc => ?_) (fun hc => ?_)
      · have hf := jif_t hc hf
        refine lv_aload_n hx hb dX10_image_83 rfl (lv_at hl 0 rfl) ?_
        refine gf_X10_1 C hP wk_4_198 dX10_image_84 ?_
        exact ret_i C hP hS (Prod.mk.inj (Option.some.inj hf)).1 (Prod.mk.inj (Option.some.inj hf)).2 dX10_image_87
      · have hf := jif_f hc hf
        refine lv_aload_n hx hb dX10_image_53 rfl (lv_at hl 0 rfl) ?_
        refine gf_X10_18 C hP wk_4_215 dX10_image_54 ?_
        refine lv_iload_n hx hb dX10_image_57 rfl (lv_at hl 1 rfl) ?_
        refine lv_aload_n hx hb dX10_image_58 rfl (lv_at hl 0 rfl) ?_
        refine gf_X10_7 C hP wk_4_204 dX10_image_59 ?_
        refine lv_iload_n hx hb dX10_image_62 rfl (lv_at hl 1 rfl) ?_
        obtain ⟨hi1, hf⟩ := jix_e hf
        refine r_iald C hP aM_7 hi1 dX10_image_63 ?_
        obtain ⟨hi2, hf⟩ := jix_e hf
        refine r_iast C hP hS aM_12 hi2 dX10_image_64 hf (fun H locs s3 hf hP hS => ?_)
        refine lv_aload_n hx hb dX10_image_65 rfl (lv_at hl 0 rfl) ?_
        refine gf_X10_19 C hP wk_4_216 dX10_image_66 ?_
        refine lv_iload_n hx hb dX10_image_69 rfl (lv_at hl 1 rfl) ?_
        refine lv_aload_n hx hb dX10_image_70 rfl (lv_at hl 0 rfl) ?_
        refine gf_X10_5 C hP wk_4_202 dX10_image_71 ?_
        refine lv_iload_n hx hb dX10_image_74 rfl (lv_at hl 1 rfl) ?_
        obtain ⟨hi4, hf⟩ := jix_e hf
        refine r_iald C hP aM_5 hi4 dX10_image_75 ?_
        obtain ⟨hi5, hf⟩ := jix_e hf
        refine r_iast C hP hS aM_13 hi5 dX10_image_76 hf (fun H locs s6 hf hP hS => ?_)
        obtain ⟨y7, ey7, hf⟩ := jlet_e hf
        refine lv_iinc (v := y7) (lv' := [(1, .int y7), (0, .ref (a 0))]) hx hb dX10_image_77 hl (k := 1) rfl ey7 (by decide) rfl (fun ls hl => ?_)
        refine lv_goto (tgt := 48) hx hb dX10_image_80 (by decide) ?_
        exact ih y7 s6 H locs ls hf hP hS (lv_sub hl [1, 0] rfl)
  have hL23 : ∀ (n : Nat), (∀ (v1 : Int32) (s0 : ST) (H : Heap) (locs : List Loc) (ls : Array Slot), f_X10_image_L23 n v1 s0 = some (r, σ') → va_P D vwCl (wG NM eM a cy s0) H → va_S A s.heap H locs → lv_has ls 2 [(0, .ref (a 0)), (1, .int v1)] → W p l e (rmk 0 0) s m args below meth c H locs 0 0 (MQ below (QI NM eM a cy D A r σ') args s 0 0 A) (F0 m 23 ls [])) := by
    intro n
    induction n with
    | zero => intro v1 s0 H locs ls hf hP hS hl; exact no_o hf
    | succ n ih =>
      intro v1 s0 H locs ls hf hP hS hl
      have hf := (ef_X10_image_L23 _ _).symm.trans hf
      refine lv_iload_n hx hb dX10_image_23 rfl (lv_at hl 1 rfl) ?_
      refine lv_iconst (v := (3 : Int32)) hx hb dX10_image_24 (by decide) ?_
      refine lv_icmp_ge (tgt := 46) hx hb dX10_image_25 (by decide) (fun hc => ?_) (fun hc => ?_)
      · have hf := jif_t hc hf
        refine lv_iconst (v := (0 : Int32)) hx hb dX10_image_46 (by decide) ?_
        refine lv_istore_n (lv' := [(1, .int (0 : Int32)), (0, .ref (a 0))]) hx hb dX10_image_47 rfl hl (by decide) rfl (fun ls hl => ?_)
        exact hL48 FU (0 : Int32) s0 H locs ls hf hP hS (lv_sub hl [1, 0] rfl)
      · have hf := jif_f hc hf
        refine lv_aload_n hx hb dX10_image_28 rfl (lv_at hl 0 rfl) ?_
        refine gf_X10_17 C hP wk_4_214 dX10_image_29 ?_
        refine lv_iload_n hx hb dX10_image_32 rfl (lv_at hl 1 rfl) ?_
        refine lv_aload_n hx hb dX10_image_33 rfl (lv_at hl 0 rfl) ?_
        refine gf_X10_0 C hP wk_4_197 dX10_image_34 ?_
        refine lv_iload_n hx hb dX10_image_37 rfl (lv_at hl 1 rfl) ?_
        obtain ⟨hi1, hf⟩ := jix_e hf
        refine r_lald C hP aM_1 hi1 dX10_image_38 ?_
        obtain ⟨hi2, hf⟩ := jix_e hf
        refine r_last C hP hS aM_11 hi2 dX10_image_39 hf (fun H locs s3 hf hP hS => ?_)
        obtain ⟨y4, ey4, hf⟩ := jlet_e hf
        refine lv_iinc (v := y4) (lv' := [(1, .int y4), (0, .ref (a 0))]) hx hb dX10_image_40 hl (k := 1) rfl ey4 (by decide) rfl (fun ls hl => ?_)
        refine lv_goto (tgt := 23) hx hb dX10_image_43 (by decide) ?_
        exact ih y4 s3 H locs ls hf hP hS (lv_sub hl [1, 0] rfl)
  refine lv_aload_n hx hb dX10_image_0 rfl (lv_at hl 0 rfl) ?_
  refine lv_iconst (v := (1 : Int32)) hx hb dX10_image_1 (by decide) ?_
  refine pf_X10_14 C hP hS wk_4_211 (bz_n bz_1) dX10_image_2 hf (fun H locs s1 hf hP hS => ?_)
  refine lv_aload_n hx hb dX10_image_5 rfl (lv_at hl 0 rfl) ?_
  refine lv_aload_n hx hb dX10_image_6 rfl (lv_at hl 0 rfl) ?_
  refine gf_X10_1 C hP wk_4_198 dX10_image_7 ?_
  refine pf_X10_15 C hP hS wk_4_212 dX10_image_10 hf (fun H locs s2 hf hP hS => ?_)
  refine lv_aload_n hx hb dX10_image_13 rfl (lv_at hl 0 rfl) ?_
  refine lv_aload_n hx hb dX10_image_14 rfl (lv_at hl 0 rfl) ?_
  refine gf_X10_13 C hP wk_4_210 dX10_image_15 ?_
  refine pf_X10_16 C hP hS wk_4_213 dX10_image_18 hf (fun H locs s3 hf hP hS => ?_)
  refine lv_iconst (v := (0 : Int32)) hx hb dX10_image_21 (by decide) ?_
  refine lv_istore_n (lv' := [(1, .int (0 : Int32)), (0, .ref (a 0))]) hx hb dX10_image_22 rfl hl (by decide) rfl (fun ls hl => ?_)
  exact hL23 FU (0 : Int32) s3 H locs ls hf hP hS (lv_sub hl [1, 0] rfl)
set_option maxHeartbeats 4000000 in
set_option maxRecDepth 100000 in
theorem k_X10_back {l : Launch} {a : Nat → Nat} {cy : Nat → ClassId} {D : va_G} {A : Nat → Prop} (O : WO NM a (fun _ => True) A) {r : Int32} {σ : ST} {σ' : ST} (hf : f_X10_back σ = some (r, σ')) : Met l yX10_back (Cond.code yX10_back cX10_back 2 (some .int) :: WS) (rmk 0 0) (PC [.ref (a 0)] NM eM a cy D (fun _ => True) σ) (QI NM eM a cy D A r σ') 0 0 A := by
  refine met_go (own := "GuardsLookLeftModel") O (by decide +kernel) rfl (Nat.le_of_ble_eq_true rfl) ?_
  intro p e s m args below meth c ls C hP hS hl
  have hx := C.hx
  have hb := C.hb
  have hl : lv_has ls 2 [(0, .ref (a 0))] := hl
  obtain ⟨H, hH⟩ : ∃ H, H = s.heap := ⟨_, rfl⟩
  rw [← hH] at hP
  have hS : va_S A s.heap H [] := by rw [hH]; exact va_S.rf
  suffices g : W p l e (rmk 0 0) s m args below meth c H [] 0 0 (MQ below (QI NM eM a cy D A r σ') args s 0 0 A) (F0 m 0 ls []) by rw [hH] at g; exact g
  clear hH
  obtain ⟨locs, hlocs⟩ : ∃ z : List Loc, z = [] := ⟨_, rfl⟩
  rw [← hlocs] at hS ⊢
  have hL53 : ∀ (n : Nat), (∀ (v1 : Int32) (s0 : ST) (H : Heap) (locs : List Loc) (ls : Array Slot), f_X10_back_L53 n v1 s0 = some (r, σ') → va_P D vwCl (wG NM eM a cy s0) H → va_S A s.heap H locs → lv_has ls 2 [(0, .ref (a 0)), (1, .int v1)] → W p l e (rmk 0 0) s m args below meth c H locs 0 0 (MQ below (QI NM eM a cy D A r σ') args s 0 0 A) (F0 m 53 ls [])) := by
    intro n
    induction n with
    | zero => intro v1 s0 H locs ls hf hP hS hl; exact no_o hf
    | succ n ih =>
      intro v1 s0 H locs ls hf hP hS hl
      have hf := (ef_X10_back_L53 _ _).symm.trans hf
      refine lv_iload_n hx hb dX10_back_53 rfl (lv_at hl 1 rfl) ?_
      refine lv_iconst (v := (5 : Int32)) hx hb dX10_back_54 (by decide) ?_
      refine lv_icmp_ge (tgt := 88) hx hb dX10_back_55 (by decide) (fun hc => ?_) (fun hc => ?_)
      · have hf := jif_t hc hf
        refine lv_aload_n hx hb dX10_back_88 rfl (lv_at hl 0 rfl) ?_
        refine gf_X10_1 C hP wk_4_198 dX10_back_89 ?_
        exact ret_i C hP hS (Prod.mk.inj (Option.some.inj hf)).1 (Prod.mk.inj (Option.some.inj hf)).2 dX10_back_92
      · have hf := jif_f hc hf
        refine lv_aload_n hx hb dX10_back_58 rfl (lv_at hl 0 rfl) ?_
        refine gf_X10_7 C hP wk_4_204 dX10_back_59 ?_
        refine lv_iload_n hx hb dX10_back_62 rfl (lv_at hl 1 rfl) ?_
        refine lv_aload_n hx hb dX10_back_63 rfl (lv_at hl 0 rfl) ?_
        refine gf_X10_18 C hP wk_4_215 dX10_back_64 ?_
        refine lv_iload_n hx hb dX10_back_67 rfl (lv_at hl 1 rfl) ?_
        obtain ⟨hi1, hf⟩ := jix_e hf
        refine r_iald C hP aM_12 hi1 dX10_back_68 ?_
        obtain ⟨hi2, hf⟩ := jix_e hf
        refine r_iast C hP hS aM_7 hi2 dX10_back_69 hf (fun H locs s3 hf hP hS => ?_)
        refine lv_aload_n hx hb dX10_back_70 rfl (lv_at hl 0 rfl) ?_
        refine gf_X10_5 C hP wk_4_202 dX10_back_71 ?_
        refine lv_iload_n hx hb dX10_back_74 rfl (lv_at hl 1 rfl) ?_
        refine lv_aload_n hx hb dX10_back_75 rfl (lv_at hl 0 rfl) ?_
        refine gf_X10_19 C hP wk_4_216 dX10_back_76 ?_
        refine lv_iload_n hx hb dX10_back_79 rfl (lv_at hl 1 rfl) ?_
        obtain ⟨hi4, hf⟩ := jix_e hf
        refine r_iald C hP aM_13 hi4 dX10_back_80 ?_
        obtain ⟨hi5, hf⟩ := jix_e hf
        refine r_iast C hP hS aM_5 hi5 dX10_back_81 hf (fun H locs s6 hf hP hS => ?_)
        obtain ⟨y7, ey7, hf⟩ := jlet_e hf
        refine lv_iinc (v := y7) (lv' := [(1, .int y7), (0, .ref (a 0))]) hx hb dX10_back_82 hl (k := 1) rfl ey7 (by decide) rfl (fun ls hl => ?_)
        refine lv_goto (tgt := 53) hx hb dX10_back_85 (by decide) ?_
        exact ih y7 s6 H locs ls hf hP hS (lv_sub hl [1, 0] rfl)
  have hL28 : ∀ (n : Nat), (∀ (v1 : Int32) (s0 : ST) (H : Heap) (locs : List Loc) (ls : Array Slot), f_X10_back_L28 n v1 s0 = some (r, σ') → va_P D vwCl (wG NM eM a cy s0) H → va_S A s.heap H locs → lv_has ls 2 [(0, .ref (a 0)), (1, .int v1)] → W p l e (rmk 0 0) s m args below meth c H locs 0 0 (MQ below (QI NM eM a cy D A r σ') args s 0 0 A) (F0 m 28 ls [])) := by
    intro n
    induction n with
    | zero => intro v1 s0 H locs ls hf hP hS hl; exact no_o hf
    | succ n ih =>
      intro v1 s0 H locs ls hf hP hS hl
      have hf := (ef_X10_back_L28 _ _).symm.trans hf
      refine lv_iload_n hx hb dX10_back_28 rfl (lv_at hl 1 rfl) ?_
      refine lv_iconst (v := (3 : Int32)) hx hb dX10_back_29 (by decide) ?_
      refine lv_icmp_ge (tgt := 51) hx hb dX10_back_30 (by decide) (fun hc => ?_) (fun hc => ?_)
      · have hf := jif_t hc hf
        refine lv_iconst (v := (0 : Int32)) hx hb dX10_back_51 (by decide) ?_
        refine lv_istore_n (lv' := [(1, .int (0 : Int32)), (0, .ref (a 0))]) hx hb dX10_back_52 rfl hl (by decide) rfl (fun ls hl => ?_)
        exact hL53 FU (0 : Int32) s0 H locs ls hf hP hS (lv_sub hl [1, 0] rfl)
      · have hf := jif_f hc hf
        refine lv_aload_n hx hb dX10_back_33 rfl (lv_at hl 0 rfl) ?_
        refine gf_X10_0 C hP wk_4_197 dX10_back_34 ?_
        refine lv_iload_n hx hb dX10_back_37 rfl (lv_at hl 1 rfl) ?_
        refine lv_aload_n hx hb dX10_back_38 rfl (lv_at hl 0 rfl) ?_
        refine gf_X10_17 C hP wk_4_214 dX10_back_39 ?_
        refine lv_iload_n hx hb dX10_back_42 rfl (lv_at hl 1 rfl) ?_
        obtain ⟨hi1, hf⟩ := jix_e hf
        refine r_lald C hP aM_11 hi1 dX10_back_43 ?_
        obtain ⟨hi2, hf⟩ := jix_e hf
        refine r_last C hP hS aM_1 hi2 dX10_back_44 hf (fun H locs s3 hf hP hS => ?_)
        obtain ⟨y4, ey4, hf⟩ := jlet_e hf
        refine lv_iinc (v := y4) (lv' := [(1, .int y4), (0, .ref (a 0))]) hx hb dX10_back_45 hl (k := 1) rfl ey4 (by decide) rfl (fun ls hl => ?_)
        refine lv_goto (tgt := 28) hx hb dX10_back_48 (by decide) ?_
        exact ih y4 s3 H locs ls hf hP hS (lv_sub hl [1, 0] rfl)
  refine lv_aload_n hx hb dX10_back_0 rfl (lv_at hl 0 rfl) ?_
  refine gf_X10_14 C hP wk_4_211 dX10_back_1 ?_
  refine lv_if_ne (tgt := 10) hx hb dX10_back_4 (by decide) (fun hc => ?_) (fun hc => ?_)
  · have hf := jif_t hc hf
    refine lv_aload_n hx hb dX10_back_10 rfl (lv_at hl 0 rfl) ?_
    refine lv_aload_n hx hb dX10_back_11 rfl (lv_at hl 0 rfl) ?_
    refine gf_X10_15 C hP wk_4_212 dX10_back_12 ?_
    refine pf_X10_1 C hP hS wk_4_198 dX10_back_15 hf (fun H locs s1 hf hP hS => ?_)
    refine lv_aload_n hx hb dX10_back_18 rfl (lv_at hl 0 rfl) ?_
    refine lv_aload_n hx hb dX10_back_19 rfl (lv_at hl 0 rfl) ?_
    refine gf_X10_16 C hP wk_4_213 dX10_back_20 ?_
    refine pf_X10_13 C hP hS wk_4_210 dX10_back_23 hf (fun H locs s2 hf hP hS => ?_)
    refine lv_iconst (v := (0 : Int32)) hx hb dX10_back_26 (by decide) ?_
    refine lv_istore_n (lv' := [(1, .int (0 : Int32)), (0, .ref (a 0))]) hx hb dX10_back_27 rfl hl (by decide) rfl (fun ls hl => ?_)
    exact hL28 FU (0 : Int32) s2 H locs ls hf hP hS (lv_sub hl [1, 0] rfl)
  · have hf := jif_n hc hf
    refine lv_bipush (v := (-3 : Int32)) hx hb dX10_back_7 (by decide) ?_
    exact ret_i C hP hS (Prod.mk.inj (Option.some.inj hf)).1 (Prod.mk.inj (Option.some.inj hf)).2 dX10_back_9
set_option maxHeartbeats 4000000 in
set_option maxRecDepth 100000 in
theorem k_X10_sheet {l : Launch} {a : Nat → Nat} {cy : Nat → ClassId} {D : va_G} {A : Nat → Prop} (O : WO NM a (fun _ => True) A) {x1 : Int32} {x2 : Int32} {x3 : Int32} {r : Int32} {σ : ST} {σ' : ST} (hf : f_X10_sheet x1 x2 x3 σ = some (r, σ')) : Met l yX10_sheet (Cond.code yX10_sheet cX10_sheet 5 (some .int) :: WS) (rmk 1 22) (PC [.ref (a 0), .int x1, .int x2, .int x3] NM eM a cy D (fun _ => True) σ) (QI NM eM a cy D A r σ') 0 0 A := by
  refine met_go (own := "GuardsLookLeftModel") O (by decide +kernel) rfl (Nat.le_of_ble_eq_true rfl) ?_
  intro p e s m args below meth c ls C hP hS hl
  have hx := C.hx
  have hb := C.hb
  have hl : lv_has ls 5 [(0, .ref (a 0)), (1, .int x1), (2, .int x2), (3, .int x3)] := hl
  obtain ⟨H, hH⟩ : ∃ H, H = s.heap := ⟨_, rfl⟩
  rw [← hH] at hP
  have hS : va_S A s.heap H [] := by rw [hH]; exact va_S.rf
  suffices g : W p l e (rmk 1 22) s m args below meth c H [] 0 0 (MQ below (QI NM eM a cy D A r σ') args s 0 0 A) (F0 m 0 ls []) by rw [hH] at g; exact g
  clear hH
  obtain ⟨locs, hlocs⟩ : ∃ z : List Loc, z = [] := ⟨_, rfl⟩
  rw [← hlocs] at hS ⊢
  have hL70 : ∀ (n : Nat), (∀ (v1 : Int32) (v4 : Int32) (s0 : ST) (H : Heap) (locs : List Loc) (ls : Array Slot), f_X10_sheet_L70 n v1 v4 s0 = some (r, σ') → va_P D vwCl (wG NM eM a cy s0) H → va_S A s.heap H locs → lv_has ls 5 [(0, .ref (a 0)), (1, .int v1), (4, .int v4)] → W p l e (rmk 1 22) s m args below meth c H locs 0 0 (MQ below (QI NM eM a cy D A r σ') args s 0 0 A) (F0 m 70 ls [])) := by
    intro n
    induction n with
    | zero => intro v1 v4 s0 H locs ls hf hP hS hl; exact no_o hf
    | succ n ih =>
      intro v1 v4 s0 H locs ls hf hP hS hl
      have hf := (ef_X10_sheet_L70 _ _ _).symm.trans hf
      refine lv_iload hx hb dX10_sheet_70 (lv_at hl 2 rfl) ?_
      refine lv_bipush (v := (40 : Int32)) hx hb dX10_sheet_72 (by decide) ?_
      refine lv_icmp_ge (tgt := 96) hx hb dX10_sheet_74 (by decide) (fun hc => ?_) (fun hc => ?_)
      · have hf := jif_t hc hf
        refine lv_iconst (v := (1 : Int32)) hx hb dX10_sheet_96 (by decide) ?_
        exact ret_i C hP hS (Prod.mk.inj (Option.some.inj hf)).1 (Prod.mk.inj (Option.some.inj hf)).2 dX10_sheet_97
      · have hf := jif_f hc hf
        refine lv_aload_n hx hb dX10_sheet_77 rfl (lv_at hl 0 rfl) ?_
        refine gf_X10_22 C hP wk_4_219 dX10_sheet_78 ?_
        refine lv_bipush (v := (40 : Int32)) hx hb dX10_sheet_81 (by decide) ?_
        refine lv_iload_n hx hb dX10_sheet_83 rfl (lv_at hl 1 rfl) ?_
        refine lv_imul hx hb dX10_sheet_84 ?_
        refine lv_iload hx hb dX10_sheet_85 (lv_at hl 2 rfl) ?_
        refine lv_iadd hx hb dX10_sheet_87 ?_
        refine lv_iconst (v := (0 : Int32)) hx hb dX10_sheet_88 (by decide) ?_
        obtain ⟨hi1, hf⟩ := jix_e hf
        refine r_iast C hP hS aM_16 hi1 dX10_sheet_89 hf (fun H locs s2 hf hP hS => ?_)
        obtain ⟨y3, ey3, hf⟩ := jlet_e hf
        refine lv_iinc (v := y3) (lv' := [(4, .int y3), (0, .ref (a 0)), (1, .int v1)]) hx hb dX10_sheet_90 hl (k := 2) rfl ey3 (by decide) rfl (fun ls hl => ?_)
        refine lv_goto (tgt := 70) hx hb dX10_sheet_93 (by decide) ?_
        exact ih v1 y3 s2 H locs ls hf hP hS (lv_sub hl [1, 2, 0] rfl)
  have hL66 : (∀ (v1 : Int32) (t1 : Int32) (t2 : Int32) (s0 : ST) (H : Heap) (locs : List Loc) (ls : Array Slot), f_X10_sheet_L66 v1 t1 t2 s0 = some (r, σ') → va_P D vwCl (wG NM eM a cy s0) H → va_S A s.heap H locs → lv_has ls 5 [(0, .ref (a 0)), (1, .int v1)] → W p l e (rmk 1 22) s m args below meth c H locs 0 0 (MQ below (QI NM eM a cy D A r σ') args s 0 0 A) (F0 m 66 ls [.int t2, .int t1, .ref (a 15)])) := by
    intro v1 t1 t2 s0 H locs ls hf hP hS hl
    obtain ⟨hi1, hf⟩ := jix_e hf
    refine r_iast C hP hS aM_15 hi1 dX10_sheet_66 hf (fun H locs s2 hf hP hS => ?_)
    refine lv_iconst (v := (0 : Int32)) hx hb dX10_sheet_67 (by decide) ?_
    refine lv_istore (lv' := [(4, .int (0 : Int32)), (0, .ref (a 0)), (1, .int v1)]) hx hb dX10_sheet_68 hl (by decide) rfl (fun ls hl => ?_)
    exact hL70 FU v1 (0 : Int32) s2 H locs ls hf hP hS (lv_sub hl [1, 2, 0] rfl)
  have hL44 : (∀ (v1 : Int32) (v2 : Int32) (v3 : Int32) (s0 : ST) (H : Heap) (locs : List Loc) (ls : Array Slot), f_X10_sheet_L44 v1 v2 v3 s0 = some (r, σ') → va_P D vwCl (wG NM eM a cy s0) H → va_S A s.heap H locs → lv_has ls 5 [(0, .ref (a 0)), (1, .int v1), (2, .int v2), (3, .int v3)] → W p l e (rmk 1 22) s m args below meth c H locs 0 0 (MQ below (QI NM eM a cy D A r σ') args s 0 0 A) (F0 m 44 ls [])) := by
    intro v1 v2 v3 s0 H locs ls hf hP hS hl
    refine lv_aload_n hx hb dX10_sheet_44 rfl (lv_at hl 0 rfl) ?_
    refine gf_X10_20 C hP wk_4_217 dX10_sheet_45 ?_
    refine lv_iload_n hx hb dX10_sheet_48 rfl (lv_at hl 1 rfl) ?_
    refine lv_iload_n hx hb dX10_sheet_49 rfl (lv_at hl 2 rfl) ?_
    obtain ⟨hi1, hf⟩ := jix_e hf
    refine r_iast C hP hS aM_14 hi1 dX10_sheet_50 hf (fun H locs s2 hf hP hS => ?_)
    refine lv_aload_n hx hb dX10_sheet_51 rfl (lv_at hl 0 rfl) ?_
    refine gf_X10_21 C hP wk_4_218 dX10_sheet_52 ?_
    refine lv_iload_n hx hb dX10_sheet_55 rfl (lv_at hl 1 rfl) ?_
    refine lv_iload_n hx hb dX10_sheet_56 rfl (lv_at hl 2 rfl) ?_
    refine lv_iconst (v := (-1 : Int32)) hx hb dX10_sheet_57 (by decide) ?_
    refine lv_icmp_ne (tgt := 65) hx hb dX10_sheet_58 (by decide) (fun hc => ?_) (fun hc => ?_)
    · have hf := jif_t hc hf
      refine lv_iload_n hx hb dX10_sheet_65 rfl (lv_at hl 3 rfl) ?_
      exact hL66 v1 v1 v3 s2 H locs ls hf hP hS (lv_sub hl [0, 1] rfl)
    · have hf := jif_n hc hf
      refine lv_iconst (v := (0 : Int32)) hx hb dX10_sheet_61 (by decide) ?_
      refine lv_goto (tgt := 66) hx hb dX10_sheet_62 (by decide) ?_
      exact hL66 v1 v1 (0 : Int32) s2 H locs ls hf hP hS (lv_sub hl [0, 1] rfl)
  have hL32 : (∀ (v1 : Int32) (v2 : Int32) (v3 : Int32) (s0 : ST) (H : Heap) (locs : List Loc) (ls : Array Slot), f_X10_sheet_L32 v1 v2 v3 s0 = some (r, σ') → va_P D vwCl (wG NM eM a cy s0) H → va_S A s.heap H locs → lv_has ls 5 [(0, .ref (a 0)), (1, .int v1), (2, .int v2), (3, .int v3)] → W p l e (rmk 1 22) s m args below meth c H locs 0 0 (MQ below (QI NM eM a cy D A r σ') args s 0 0 A) (F0 m 32 ls [])) := by
    intro v1 v2 v3 s0 H locs ls hf hP hS hl
    refine lv_iload_n hx hb dX10_sheet_32 rfl (lv_at hl 2 rfl) ?_
    refine lv_iconst (v := (-1 : Int32)) hx hb dX10_sheet_33 (by decide) ?_
    refine lv_icmp_eq (tgt := 44) hx hb dX10_sheet_34 (by decide) (fun hc => ?_) (fun hc => ?_)
    · have hf := jif_t hc hf
      exact hL44 v1 v2 v3 s0 H locs ls hf hP hS (lv_sub hl [0, 1, 2, 3] rfl)
    · have hf := jif_f hc hf
      refine lv_iload_n hx hb dX10_sheet_37 rfl (lv_at hl 3 rfl) ?_
      refine lv_if_ge (tgt := 44) hx hb dX10_sheet_38 (by decide) (fun hc => ?_) (fun hc => ?_)
      · have hf := jif_t hc hf
        exact hL44 v1 v2 v3 s0 H locs ls hf hP hS (lv_sub hl [0, 1, 2, 3] rfl)
      · have hf := jif_f hc hf
        refine lv_bipush (v := (-14 : Int32)) hx hb dX10_sheet_41 (by decide) ?_
        exact ret_i C hP hS (Prod.mk.inj (Option.some.inj hf)).1 (Prod.mk.inj (Option.some.inj hf)).2 dX10_sheet_43
  refine lv_iload_n hx hb dX10_sheet_0 rfl (lv_at hl 1 rfl) ?_
  refine lv_iconst (v := (0 : Int32)) hx hb dX10_sheet_1 (by decide) ?_
  refine lv_iconst (v := (3 : Int32)) hx hb dX10_sheet_2 (by decide) ?_
  refine r_cz (r_runS (As := [.int x1, .int (0 : Int32), .int (3 : Int32)]) (rest := []) C hP hS (k_X10_in (l := l) O (σ := σ) rfl) mw_X10_in ms_X10_in wk_4_158 ⟨Nat.le_of_ble_eq_true rfl, Nat.le_of_ble_eq_true rfl⟩ ⟨rfl, rfl⟩ ⟨Nat.zero_le _, Nat.zero_le _⟩ rfl hl.1 rfl (Nat.le_of_ble_eq_true rfl) dX10_sheet_3) hS (fun H locs hzy1 hP hS => ?_)
  refine jl_topz hf hzy1 (fun y1 hzy1 hf => ?_)
  refine lv_if_eq (tgt := 29) hx hb dX10_sheet_6 (by decide) (fun hc => ?_) (fun hc => ?_)
  · have hf := jif_t hc hf
    refine lv_bipush (v := (-2 : Int32)) hx hb dX10_sheet_29 (by decide) ?_
    exact ret_i C hP hS (Prod.mk.inj (Option.some.inj hf)).1 (Prod.mk.inj (Option.some.inj hf)).2 dX10_sheet_31
  · have hf := jif_f hc hf
    refine lv_iload_n hx hb dX10_sheet_9 rfl (lv_at hl 2 rfl) ?_
    refine lv_iconst (v := (-1 : Int32)) hx hb dX10_sheet_10 (by decide) ?_
    refine lv_iconst (v := (2 : Int32)) hx hb dX10_sheet_11 (by decide) ?_
    refine r_cz (r_runS (As := [.int x2, .int (-1 : Int32), .int (2 : Int32)]) (rest := []) C hP hS (k_X10_in (l := l) O (σ := σ) rfl) mw_X10_in ms_X10_in wk_4_158 ⟨Nat.le_of_ble_eq_true rfl, Nat.le_of_ble_eq_true rfl⟩ ⟨rfl, rfl⟩ ⟨Nat.zero_le _, Nat.zero_le _⟩ rfl hl.1 rfl (Nat.le_of_ble_eq_true rfl) dX10_sheet_12) hS (fun H locs hzy3 hP hS => ?_)
    refine jl_topz hf hzy3 (fun y3 hzy3 hf => ?_)
    refine lv_if_eq (tgt := 29) hx hb dX10_sheet_15 (by decide) (fun hc => ?_) (fun hc => ?_)
    · have hf := jif_t hc hf
      refine lv_bipush (v := (-2 : Int32)) hx hb dX10_sheet_29 (by decide) ?_
      exact ret_i C hP hS (Prod.mk.inj (Option.some.inj hf)).1 (Prod.mk.inj (Option.some.inj hf)).2 dX10_sheet_31
    · have hf := jif_f hc hf
      refine lv_iload_n hx hb dX10_sheet_18 rfl (lv_at hl 2 rfl) ?_
      refine lv_iconst (v := (-1 : Int32)) hx hb dX10_sheet_19 (by decide) ?_
      refine lv_icmp_eq (tgt := 32) hx hb dX10_sheet_20 (by decide) (fun hc => ?_) (fun hc => ?_)
      · have hf := jif_t hc hf
        exact hL32 x1 x2 x3 σ H locs ls hf hP hS (lv_sub hl [0, 1, 2, 3] rfl)
      · have hf := jif_f hc hf
        refine lv_iload_n hx hb dX10_sheet_23 rfl (lv_at hl 3 rfl) ?_
        refine lv_bipush (v := (40 : Int32)) hx hb dX10_sheet_24 (by decide) ?_
        refine lv_icmp_le (tgt := 32) hx hb dX10_sheet_26 (by decide) (fun hc => ?_) (fun hc => ?_)
        · have hf := jif_t hc hf
          exact hL32 x1 x2 x3 σ H locs ls hf hP hS (lv_sub hl [0, 1, 2, 3] rfl)
        · have hf := jif_f hc hf
          refine lv_bipush (v := (-2 : Int32)) hx hb dX10_sheet_29 (by decide) ?_
          exact ret_i C hP hS (Prod.mk.inj (Option.some.inj hf)).1 (Prod.mk.inj (Option.some.inj hf)).2 dX10_sheet_31
set_option maxHeartbeats 4000000 in
set_option maxRecDepth 100000 in
theorem k_X10_cell {l : Launch} {a : Nat → Nat} {cy : Nat → ClassId} {D : va_G} {A : Nat → Prop} (O : WO NM a (fun _ => True) A) {x1 : Int32} {x2 : Int32} {x3 : Int32} {r : Int32} {σ : ST} {σ' : ST} (hf : f_X10_cell x1 x2 x3 σ = some (r, σ')) : Met l yX10_cell (Cond.code yX10_cell cX10_cell 4 (some .int) :: WS) (rmk 1 22) (PC [.ref (a 0), .int x1, .int x2, .int x3] NM eM a cy D (fun _ => True) σ) (QI NM eM a cy D A r σ') 0 0 A := by
  refine met_go (own := "GuardsLookLeftModel") O (by decide +kernel) rfl (Nat.le_of_ble_eq_true rfl) ?_
  intro p e s m args below meth c ls C hP hS hl
  have hx := C.hx
  have hb := C.hb
  have hl : lv_has ls 4 [(0, .ref (a 0)), (1, .int x1), (2, .int x2), (3, .int x3)] := hl
  obtain ⟨H, hH⟩ : ∃ H, H = s.heap := ⟨_, rfl⟩
  rw [← hH] at hP
  have hS : va_S A s.heap H [] := by rw [hH]; exact va_S.rf
  suffices g : W p l e (rmk 1 22) s m args below meth c H [] 0 0 (MQ below (QI NM eM a cy D A r σ') args s 0 0 A) (F0 m 0 ls []) by rw [hH] at g; exact g
  clear hH
  obtain ⟨locs, hlocs⟩ : ∃ z : List Loc, z = [] := ⟨_, rfl⟩
  rw [← hlocs] at hS ⊢
  have hL84 : (∀ (t1 : Int32) (t2 : Int32) (s0 : ST) (H : Heap) (locs : List Loc) (ls : Array Slot), f_X10_cell_L84 t1 t2 s0 = some (r, σ') → va_P D vwCl (wG NM eM a cy s0) H → va_S A s.heap H locs → lv_has ls 4 [] → W p l e (rmk 1 22) s m args below meth c H locs 0 0 (MQ below (QI NM eM a cy D A r σ') args s 0 0 A) (F0 m 84 ls [.int t2, .int t1, .ref (a 16)])) := by
    intro t1 t2 s0 H locs ls hf hP hS hl
    obtain ⟨hi1, hf⟩ := jix_e hf
    refine r_iast C hP hS aM_16 hi1 dX10_cell_84 hf (fun H locs s2 hf hP hS => ?_)
    refine lv_iconst (v := (1 : Int32)) hx hb dX10_cell_85 (by decide) ?_
    exact ret_i C hP hS (Prod.mk.inj (Option.some.inj hf)).1 (Prod.mk.inj (Option.some.inj hf)).2 dX10_cell_86
  refine lv_iload_n hx hb dX10_cell_0 rfl (lv_at hl 1 rfl) ?_
  refine lv_iconst (v := (0 : Int32)) hx hb dX10_cell_1 (by decide) ?_
  refine lv_iconst (v := (3 : Int32)) hx hb dX10_cell_2 (by decide) ?_
  refine r_cz (r_runS (As := [.int x1, .int (0 : Int32), .int (3 : Int32)]) (rest := []) C hP hS (k_X10_in (l := l) O (σ := σ) rfl) mw_X10_in ms_X10_in wk_4_158 ⟨Nat.le_of_ble_eq_true rfl, Nat.le_of_ble_eq_true rfl⟩ ⟨rfl, rfl⟩ ⟨Nat.zero_le _, Nat.zero_le _⟩ rfl hl.1 rfl (Nat.le_of_ble_eq_true rfl) dX10_cell_3) hS (fun H locs hzy1 hP hS => ?_)
  refine jl_topz hf hzy1 (fun y1 hzy1 hf => ?_)
  refine lv_if_ne (tgt := 12) hx hb dX10_cell_6 (by decide) (fun hc => ?_) (fun hc => ?_)
  · have hf := jif_t hc hf
    refine lv_aload_n hx hb dX10_cell_12 rfl (lv_at hl 0 rfl) ?_
    refine gf_X10_20 C hP wk_4_217 dX10_cell_13 ?_
    refine lv_iload_n hx hb dX10_cell_16 rfl (lv_at hl 1 rfl) ?_
    obtain ⟨hi3, hf⟩ := jix_e hf
    refine r_iald C hP aM_14 hi3 dX10_cell_17 ?_
    refine lv_iconst (v := (-1 : Int32)) hx hb dX10_cell_18 (by decide) ?_
    refine lv_icmp_ne (tgt := 25) hx hb dX10_cell_19 (by decide) (fun hc => ?_) (fun hc => ?_)
    · have hf := jif_t hc hf
      refine lv_iload_n hx hb dX10_cell_25 rfl (lv_at hl 2 rfl) ?_
      refine lv_iconst (v := (0 : Int32)) hx hb dX10_cell_26 (by decide) ?_
      refine lv_aload_n hx hb dX10_cell_27 rfl (lv_at hl 0 rfl) ?_
      refine gf_X10_21 C hP wk_4_218 dX10_cell_28 ?_
      refine lv_iload_n hx hb dX10_cell_31 rfl (lv_at hl 1 rfl) ?_
      obtain ⟨hi4, hf⟩ := jix_e hf
      refine r_iald C hP aM_15 hi4 dX10_cell_32 ?_
      refine lv_iconst (v := (1 : Int32)) hx hb dX10_cell_33 (by decide) ?_
      refine lv_isub hx hb dX10_cell_34 ?_
      refine r_cz (r_runS (As := [.int x2, .int (0 : Int32), .int ((gA σ 15 (Int32.toNatClampNeg x1)) - (1 : Int32))]) (rest := []) C hP hS (k_X10_in (l := l) O (σ := σ) rfl) mw_X10_in ms_X10_in wk_4_158 ⟨Nat.le_of_ble_eq_true rfl, Nat.le_of_ble_eq_true rfl⟩ ⟨rfl, rfl⟩ ⟨Nat.zero_le _, Nat.zero_le _⟩ rfl hl.1 rfl (Nat.le_of_ble_eq_true rfl) dX10_cell_35) hS (fun H locs hzy5 hP hS => ?_)
      refine jl_topz hf hzy5 (fun y5 hzy5 hf => ?_)
      refine lv_if_ne (tgt := 44) hx hb dX10_cell_38 (by decide) (fun hc => ?_) (fun hc => ?_)
      · have hf := jif_t hc hf
        refine lv_aload_n hx hb dX10_cell_44 rfl (lv_at hl 0 rfl) ?_
        refine gf_X10_22 C hP wk_4_219 dX10_cell_45 ?_
        refine lv_bipush (v := (40 : Int32)) hx hb dX10_cell_48 (by decide) ?_
        refine lv_iload_n hx hb dX10_cell_50 rfl (lv_at hl 1 rfl) ?_
        refine lv_imul hx hb dX10_cell_51 ?_
        refine lv_iload_n hx hb dX10_cell_52 rfl (lv_at hl 2 rfl) ?_
        refine lv_iadd hx hb dX10_cell_53 ?_
        refine lv_aload_n hx hb dX10_cell_54 rfl (lv_at hl 0 rfl) ?_
        refine gf_X10_20 C hP wk_4_217 dX10_cell_55 ?_
        refine lv_iload_n hx hb dX10_cell_58 rfl (lv_at hl 1 rfl) ?_
        obtain ⟨hi7, hf⟩ := jix_e hf
        refine r_iald C hP aM_14 hi7 dX10_cell_59 ?_
        refine lv_if_ne (tgt := 68) hx hb dX10_cell_60 (by decide) (fun hc => ?_) (fun hc => ?_)
        · have hf := jif_t hc hf
          refine lv_aload_n hx hb dX10_cell_68 rfl (lv_at hl 0 rfl) ?_
          refine gf_X10_20 C hP wk_4_217 dX10_cell_69 ?_
          refine lv_iload_n hx hb dX10_cell_72 rfl (lv_at hl 1 rfl) ?_
          obtain ⟨hi8, hf⟩ := jix_e hf
          refine r_iald C hP aM_14 hi8 dX10_cell_73 ?_
          refine lv_iconst (v := (1 : Int32)) hx hb dX10_cell_74 (by decide) ?_
          refine lv_icmp_ne (tgt := 83) hx hb dX10_cell_75 (by decide) (fun hc => ?_) (fun hc => ?_)
          · have hf := jif_t hc hf
            refine lv_iload_n hx hb dX10_cell_83 rfl (lv_at hl 3 rfl) ?_
            exact hL84 (((40 : Int32) * x1) + x2) x3 σ H locs ls hf hP hS (lv_sub hl [] rfl)
          · have hf := jif_n hc hf
            refine lv_iload_n hx hb dX10_cell_78 rfl (lv_at hl 3 rfl) ?_
            refine lv_i2s hx hb dX10_cell_79 rfl ?_
            refine lv_goto (tgt := 84) hx hb dX10_cell_80 (by decide) ?_
            exact hL84 (((40 : Int32) * x1) + x2) (ji2s x3) σ H locs ls hf hP hS (lv_sub hl [] rfl)
        · have hf := jif_n hc hf
          refine lv_iload_n hx hb dX10_cell_63 rfl (lv_at hl 3 rfl) ?_
          refine lv_i2b hx hb dX10_cell_64 rfl ?_
          refine lv_goto (tgt := 84) hx hb dX10_cell_65 (by decide) ?_
          exact hL84 (((40 : Int32) * x1) + x2) (ji2b x3) σ H locs ls hf hP hS (lv_sub hl [] rfl)
      · have hf := jif_n hc hf
        refine lv_bipush (v := (-12 : Int32)) hx hb dX10_cell_41 (by decide) ?_
        exact ret_i C hP hS (Prod.mk.inj (Option.some.inj hf)).1 (Prod.mk.inj (Option.some.inj hf)).2 dX10_cell_43
    · have hf := jif_n hc hf
      refine lv_bipush (v := (-11 : Int32)) hx hb dX10_cell_22 (by decide) ?_
      exact ret_i C hP hS (Prod.mk.inj (Option.some.inj hf)).1 (Prod.mk.inj (Option.some.inj hf)).2 dX10_cell_24
  · have hf := jif_n hc hf
    refine lv_bipush (v := (-2 : Int32)) hx hb dX10_cell_9 (by decide) ?_
    exact ret_i C hP hS (Prod.mk.inj (Option.some.inj hf)).1 (Prod.mk.inj (Option.some.inj hf)).2 dX10_cell_11
set_option maxHeartbeats 4000000 in
set_option maxRecDepth 100000 in
theorem k_X10_copy {l : Launch} {a : Nat → Nat} {cy : Nat → ClassId} {D : va_G} {A : Nat → Prop} (O : WO NM a (fun _ => True) A) {x1 : Int32} {x2 : Int32} {x3 : Int32} {x4 : Int32} {x5 : Int32} {r : Int32} {σ : ST} {σ' : ST} (hf : f_X10_copy x1 x2 x3 x4 x5 σ = some (r, σ')) : Met l yX10_copy (Cond.code yX10_copy cX10_copy 10 (some .int) :: WS) (rmk 1 22) (PC [.ref (a 0), .int x1, .int x2, .int x3, .int x4, .int x5] NM eM a cy D (fun _ => True) σ) (QI NM eM a cy D A r σ') 0 0 A := by
  refine met_go (own := "GuardsLookLeftModel") O (by decide +kernel) rfl (Nat.le_of_ble_eq_true rfl) ?_
  intro p e s m args below meth c ls C hP hS hl
  have hx := C.hx
  have hb := C.hb
  have hl : lv_has ls 10 [(0, .ref (a 0)), (1, .int x1), (2, .int x2), (3, .int x3), (4, .int x4), (5, .int x5)] := hl
  obtain ⟨H, hH⟩ : ∃ H, H = s.heap := ⟨_, rfl⟩
  rw [← hH] at hP
  have hS : va_S A s.heap H [] := by rw [hH]; exact va_S.rf
  suffices g : W p l e (rmk 1 22) s m args below meth c H [] 0 0 (MQ below (QI NM eM a cy D A r σ') args s 0 0 A) (F0 m 0 ls []) by rw [hH] at g; exact g
  clear hH
  obtain ⟨locs, hlocs⟩ : ∃ z : List Loc, z = [] := ⟨_, rfl⟩
  rw [← hlocs] at hS ⊢
  have hL173 : ∀ (k147 : Int32 → Int32 → Int32 → Int32 → ST → Option (Int32 × ST)) (hk147 : (∀ (v5 : Int32) (v6 : Int32) (v7 : Int32) (v8 : Int32) (s0 : ST) (H : Heap) (locs : List Loc) (ls : Array Slot), k147 v5 v6 v7 v8 s0 = some (r, σ') → va_P D vwCl (wG NM eM a cy s0) H → va_S A s.heap H locs → lv_has ls 10 [(0, .ref (a 0)), (5, .int v5), (6, .int v6), (7, .int v7), (8, .int v8)] → W p l e (rmk 1 22) s m args below meth c H locs 0 0 (MQ below (QI NM eM a cy D A r σ') args s 0 0 A) (F0 m 147 ls []))), (∀ (v5 : Int32) (v6 : Int32) (v7 : Int32) (v8 : Int32) (t0 : Int32) (s0 : ST) (H : Heap) (locs : List Loc) (ls : Array Slot), f_X10_copy_L173 k147 v5 v6 v7 v8 t0 s0 = some (r, σ') → va_P D vwCl (wG NM eM a cy s0) H → va_S A s.heap H locs → lv_has ls 10 [(0, .ref (a 0)), (5, .int v5), (6, .int v6), (7, .int v7), (8, .int v8)] → W p l e (rmk 1 22) s m args below meth c H locs 0 0 (MQ below (QI NM eM a cy D A r σ') args s 0 0 A) (F0 m 173 ls [.int t0])) := by
    intro k147 hk147 v5 v6 v7 v8 t0 s0 H locs ls hf hP hS hl
    refine lv_istore (lv' := [(9, .int t0), (0, .ref (a 0)), (5, .int v5), (6, .int v6), (7, .int v7), (8, .int v8)]) hx hb dX10_copy_173 hl (by decide) rfl (fun ls hl => ?_)
    refine lv_aload_n hx hb dX10_copy_175 rfl (lv_at hl 1 rfl) ?_
    refine gf_X10_22 C hP wk_4_219 dX10_copy_176 ?_
    refine lv_iload hx hb dX10_copy_179 (lv_at hl 4 rfl) ?_
    refine lv_iload hx hb dX10_copy_181 (lv_at hl 0 rfl) ?_
    refine lv_iadd hx hb dX10_copy_183 ?_
    refine lv_aload_n hx hb dX10_copy_184 rfl (lv_at hl 1 rfl) ?_
    refine gf_X10_22 C hP wk_4_219 dX10_copy_185 ?_
    refine lv_iload hx hb dX10_copy_188 (lv_at hl 3 rfl) ?_
    refine lv_iload hx hb dX10_copy_190 (lv_at hl 0 rfl) ?_
    refine lv_iadd hx hb dX10_copy_192 ?_
    obtain ⟨hi1, hf⟩ := jix_e hf
    refine r_iald C hP aM_16 hi1 dX10_copy_193 ?_
    obtain ⟨hi2, hf⟩ := jix_e hf
    refine r_iast C hP hS aM_16 hi2 dX10_copy_194 hf (fun H locs s3 hf hP hS => ?_)
    obtain ⟨y4, ey4, hf⟩ := jlet_e hf
    refine lv_iinc (v := y4) (lv' := [(8, .int y4), (9, .int t0), (0, .ref (a 0)), (5, .int v5), (6, .int v6), (7, .int v7)]) hx hb dX10_copy_195 hl (k := 5) rfl ey4 (by decide) rfl (fun ls hl => ?_)
    refine lv_goto (tgt := 147) hx hb dX10_copy_198 (by decide) ?_
    exact hk147 v5 v6 v7 y4 s3 H locs ls hf hP hS (lv_sub hl [2, 3, 4, 5, 0] rfl)
  have hL147 : ∀ (n : Nat), (∀ (v5 : Int32) (v6 : Int32) (v7 : Int32) (v8 : Int32) (s0 : ST) (H : Heap) (locs : List Loc) (ls : Array Slot), f_X10_copy_L147 n v5 v6 v7 v8 s0 = some (r, σ') → va_P D vwCl (wG NM eM a cy s0) H → va_S A s.heap H locs → lv_has ls 10 [(0, .ref (a 0)), (5, .int v5), (6, .int v6), (7, .int v7), (8, .int v8)] → W p l e (rmk 1 22) s m args below meth c H locs 0 0 (MQ below (QI NM eM a cy D A r σ') args s 0 0 A) (F0 m 147 ls [])) := by
    intro n
    induction n with
    | zero => intro v5 v6 v7 v8 s0 H locs ls hf hP hS hl; exact no_o hf
    | succ n ih =>
      intro v5 v6 v7 v8 s0 H locs ls hf hP hS hl
      have hf := (ef_X10_copy_L147 _ _ _ _ _).symm.trans hf
      refine lv_iload hx hb dX10_copy_147 (lv_at hl 4 rfl) ?_
      refine lv_iload hx hb dX10_copy_149 (lv_at hl 1 rfl) ?_
      refine lv_icmp_ge (tgt := 201) hx hb dX10_copy_151 (by decide) (fun hc => ?_) (fun hc => ?_)
      · have hf := jif_t hc hf
        refine lv_iload hx hb dX10_copy_201 (lv_at hl 1 rfl) ?_
        exact ret_i C hP hS (Prod.mk.inj (Option.some.inj hf)).1 (Prod.mk.inj (Option.some.inj hf)).2 dX10_copy_203
      · have hf := jif_f hc hf
        refine lv_iload hx hb dX10_copy_154 (lv_at hl 2 rfl) ?_
        refine lv_iload hx hb dX10_copy_156 (lv_at hl 3 rfl) ?_
        refine lv_icmp_ge (tgt := 171) hx hb dX10_copy_158 (by decide) (fun hc => ?_) (fun hc => ?_)
        · have hf := jif_t hc hf
          refine lv_iload hx hb dX10_copy_171 (lv_at hl 4 rfl) ?_
          exact hL173 (f_X10_copy_L147 n) ih v5 v6 v7 v8 v8 s0 H locs ls hf hP hS (lv_sub hl [0, 1, 2, 3, 4] rfl)
        · have hf := jif_f hc hf
          refine lv_iload hx hb dX10_copy_161 (lv_at hl 1 rfl) ?_
          refine lv_iconst (v := (1 : Int32)) hx hb dX10_copy_163 (by decide) ?_
          refine lv_isub hx hb dX10_copy_164 ?_
          refine lv_iload hx hb dX10_copy_165 (lv_at hl 4 rfl) ?_
          refine lv_isub hx hb dX10_copy_167 ?_
          refine lv_goto (tgt := 173) hx hb dX10_copy_168 (by decide) ?_
          exact hL173 (f_X10_copy_L147 n) ih v5 v6 v7 v8 ((v5 - (1 : Int32)) - v8) s0 H locs ls hf hP hS (lv_sub hl [0, 1, 2, 3, 4] rfl)
  refine lv_iload_n hx hb dX10_copy_0 rfl (lv_at hl 1 rfl) ?_
  refine lv_iconst (v := (0 : Int32)) hx hb dX10_copy_1 (by decide) ?_
  refine lv_iconst (v := (3 : Int32)) hx hb dX10_copy_2 (by decide) ?_
  refine r_cz (r_runS (As := [.int x1, .int (0 : Int32), .int (3 : Int32)]) (rest := []) C hP hS (k_X10_in (l := l) O (σ := σ) rfl) mw_X10_in ms_X10_in wk_4_158 ⟨Nat.le_of_ble_eq_true rfl, Nat.le_of_ble_eq_true rfl⟩ ⟨rfl, rfl⟩ ⟨Nat.zero_le _, Nat.zero_le _⟩ rfl hl.1 rfl (Nat.le_of_ble_eq_true rfl) dX10_copy_3) hS (fun H locs hzy1 hP hS => ?_)
  refine jl_topz hf hzy1 (fun y1 hzy1 hf => ?_)
  refine lv_if_eq (tgt := 18) hx hb dX10_copy_6 (by decide) (fun hc => ?_) (fun hc => ?_)
  · have hf := jif_t hc hf
    refine lv_bipush (v := (-2 : Int32)) hx hb dX10_copy_18 (by decide) ?_
    exact ret_i C hP hS (Prod.mk.inj (Option.some.inj hf)).1 (Prod.mk.inj (Option.some.inj hf)).2 dX10_copy_20
  · have hf := jif_f hc hf
    refine lv_iload_n hx hb dX10_copy_9 rfl (lv_at hl 3 rfl) ?_
    refine lv_iconst (v := (0 : Int32)) hx hb dX10_copy_10 (by decide) ?_
    refine lv_iconst (v := (3 : Int32)) hx hb dX10_copy_11 (by decide) ?_
    refine r_cz (r_runS (As := [.int x3, .int (0 : Int32), .int (3 : Int32)]) (rest := []) C hP hS (k_X10_in (l := l) O (σ := σ) rfl) mw_X10_in ms_X10_in wk_4_158 ⟨Nat.le_of_ble_eq_true rfl, Nat.le_of_ble_eq_true rfl⟩ ⟨rfl, rfl⟩ ⟨Nat.zero_le _, Nat.zero_le _⟩ rfl hl.1 rfl (Nat.le_of_ble_eq_true rfl) dX10_copy_12) hS (fun H locs hzy3 hP hS => ?_)
    refine jl_topz hf hzy3 (fun y3 hzy3 hf => ?_)
    refine lv_if_ne (tgt := 21) hx hb dX10_copy_15 (by decide) (fun hc => ?_) (fun hc => ?_)
    · have hf := jif_t hc hf
      refine lv_aload_n hx hb dX10_copy_21 rfl (lv_at hl 0 rfl) ?_
      refine gf_X10_20 C hP wk_4_217 dX10_copy_22 ?_
      refine lv_iload_n hx hb dX10_copy_25 rfl (lv_at hl 1 rfl) ?_
      obtain ⟨hi5, hf⟩ := jix_e hf
      refine r_iald C hP aM_14 hi5 dX10_copy_26 ?_
      refine lv_iconst (v := (-1 : Int32)) hx hb dX10_copy_27 (by decide) ?_
      refine lv_icmp_eq (tgt := 41) hx hb dX10_copy_28 (by decide) (fun hc => ?_) (fun hc => ?_)
      · have hf := jif_t hc hf
        refine lv_bipush (v := (-11 : Int32)) hx hb dX10_copy_41 (by decide) ?_
        exact ret_i C hP hS (Prod.mk.inj (Option.some.inj hf)).1 (Prod.mk.inj (Option.some.inj hf)).2 dX10_copy_43
      · have hf := jif_f hc hf
        refine lv_aload_n hx hb dX10_copy_31 rfl (lv_at hl 0 rfl) ?_
        refine gf_X10_20 C hP wk_4_217 dX10_copy_32 ?_
        refine lv_iload_n hx hb dX10_copy_35 rfl (lv_at hl 3 rfl) ?_
        obtain ⟨hi6, hf⟩ := jix_e hf
        refine r_iald C hP aM_14 hi6 dX10_copy_36 ?_
        refine lv_iconst (v := (-1 : Int32)) hx hb dX10_copy_37 (by decide) ?_
        refine lv_icmp_ne (tgt := 44) hx hb dX10_copy_38 (by decide) (fun hc => ?_) (fun hc => ?_)
        · have hf := jif_t hc hf
          refine lv_aload_n hx hb dX10_copy_44 rfl (lv_at hl 0 rfl) ?_
          refine gf_X10_20 C hP wk_4_217 dX10_copy_45 ?_
          refine lv_iload_n hx hb dX10_copy_48 rfl (lv_at hl 1 rfl) ?_
          obtain ⟨hi7, hf⟩ := jix_e hf
          refine r_iald C hP aM_14 hi7 dX10_copy_49 ?_
          refine lv_aload_n hx hb dX10_copy_50 rfl (lv_at hl 0 rfl) ?_
          refine gf_X10_20 C hP wk_4_217 dX10_copy_51 ?_
          refine lv_iload_n hx hb dX10_copy_54 rfl (lv_at hl 3 rfl) ?_
          obtain ⟨hi8, hf⟩ := jix_e hf
          refine r_iald C hP aM_14 hi8 dX10_copy_55 ?_
          refine lv_icmp_eq (tgt := 62) hx hb dX10_copy_56 (by decide) (fun hc => ?_) (fun hc => ?_)
          · have hf := jif_t hc hf
            refine lv_iload hx hb dX10_copy_62 (lv_at hl 5 rfl) ?_
            refine lv_if_lt (tgt := 124) hx hb dX10_copy_64 (by decide) (fun hc => ?_) (fun hc => ?_)
            · have hf := jif_t hc hf
              refine lv_bipush (v := (-12 : Int32)) hx hb dX10_copy_124 (by decide) ?_
              exact ret_i C hP hS (Prod.mk.inj (Option.some.inj hf)).1 (Prod.mk.inj (Option.some.inj hf)).2 dX10_copy_126
            · have hf := jif_f hc hf
              refine lv_iload_n hx hb dX10_copy_67 rfl (lv_at hl 2 rfl) ?_
              refine lv_if_lt (tgt := 124) hx hb dX10_copy_68 (by decide) (fun hc => ?_) (fun hc => ?_)
              · have hf := jif_t hc hf
                refine lv_bipush (v := (-12 : Int32)) hx hb dX10_copy_124 (by decide) ?_
                exact ret_i C hP hS (Prod.mk.inj (Option.some.inj hf)).1 (Prod.mk.inj (Option.some.inj hf)).2 dX10_copy_126
              · have hf := jif_f hc hf
                refine lv_iload hx hb dX10_copy_71 (lv_at hl 4 rfl) ?_
                refine lv_if_lt (tgt := 124) hx hb dX10_copy_73 (by decide) (fun hc => ?_) (fun hc => ?_)
                · have hf := jif_t hc hf
                  refine lv_bipush (v := (-12 : Int32)) hx hb dX10_copy_124 (by decide) ?_
                  exact ret_i C hP hS (Prod.mk.inj (Option.some.inj hf)).1 (Prod.mk.inj (Option.some.inj hf)).2 dX10_copy_126
                · have hf := jif_f hc hf
                  refine lv_iload_n hx hb dX10_copy_76 rfl (lv_at hl 2 rfl) ?_
                  refine lv_aload_n hx hb dX10_copy_77 rfl (lv_at hl 0 rfl) ?_
                  refine gf_X10_21 C hP wk_4_218 dX10_copy_78 ?_
                  refine lv_iload_n hx hb dX10_copy_81 rfl (lv_at hl 1 rfl) ?_
                  obtain ⟨hi9, hf⟩ := jix_e hf
                  refine r_iald C hP aM_15 hi9 dX10_copy_82 ?_
                  refine lv_icmp_gt (tgt := 124) hx hb dX10_copy_83 (by decide) (fun hc => ?_) (fun hc => ?_)
                  · have hf := jif_t hc hf
                    refine lv_bipush (v := (-12 : Int32)) hx hb dX10_copy_124 (by decide) ?_
                    exact ret_i C hP hS (Prod.mk.inj (Option.some.inj hf)).1 (Prod.mk.inj (Option.some.inj hf)).2 dX10_copy_126
                  · have hf := jif_f hc hf
                    refine lv_iload hx hb dX10_copy_86 (lv_at hl 4 rfl) ?_
                    refine lv_aload_n hx hb dX10_copy_88 rfl (lv_at hl 0 rfl) ?_
                    refine gf_X10_21 C hP wk_4_218 dX10_copy_89 ?_
                    refine lv_iload_n hx hb dX10_copy_92 rfl (lv_at hl 3 rfl) ?_
                    obtain ⟨hi10, hf⟩ := jix_e hf
                    refine r_iald C hP aM_15 hi10 dX10_copy_93 ?_
                    refine lv_icmp_gt (tgt := 124) hx hb dX10_copy_94 (by decide) (fun hc => ?_) (fun hc => ?_)
                    · have hf := jif_t hc hf
                      refine lv_bipush (v := (-12 : Int32)) hx hb dX10_copy_124 (by decide) ?_
                      exact ret_i C hP hS (Prod.mk.inj (Option.some.inj hf)).1 (Prod.mk.inj (Option.some.inj hf)).2 dX10_copy_126
                    · have hf := jif_f hc hf
                      refine lv_iload hx hb dX10_copy_97 (lv_at hl 5 rfl) ?_
                      refine lv_aload_n hx hb dX10_copy_99 rfl (lv_at hl 0 rfl) ?_
                      refine gf_X10_21 C hP wk_4_218 dX10_copy_100 ?_
                      refine lv_iload_n hx hb dX10_copy_103 rfl (lv_at hl 1 rfl) ?_
                      obtain ⟨hi11, hf⟩ := jix_e hf
                      refine r_iald C hP aM_15 hi11 dX10_copy_104 ?_
                      refine lv_iload_n hx hb dX10_copy_105 rfl (lv_at hl 2 rfl) ?_
                      refine lv_isub hx hb dX10_copy_106 ?_
                      refine lv_icmp_gt (tgt := 124) hx hb dX10_copy_107 (by decide) (fun hc => ?_) (fun hc => ?_)
                      · have hf := jif_t hc hf
                        refine lv_bipush (v := (-12 : Int32)) hx hb dX10_copy_124 (by decide) ?_
                        exact ret_i C hP hS (Prod.mk.inj (Option.some.inj hf)).1 (Prod.mk.inj (Option.some.inj hf)).2 dX10_copy_126
                      · have hf := jif_f hc hf
                        refine lv_iload hx hb dX10_copy_110 (lv_at hl 5 rfl) ?_
                        refine lv_aload_n hx hb dX10_copy_112 rfl (lv_at hl 0 rfl) ?_
                        refine gf_X10_21 C hP wk_4_218 dX10_copy_113 ?_
                        refine lv_iload_n hx hb dX10_copy_116 rfl (lv_at hl 3 rfl) ?_
                        obtain ⟨hi12, hf⟩ := jix_e hf
                        refine r_iald C hP aM_15 hi12 dX10_copy_117 ?_
                        refine lv_iload hx hb dX10_copy_118 (lv_at hl 4 rfl) ?_
                        refine lv_isub hx hb dX10_copy_120 ?_
                        refine lv_icmp_le (tgt := 127) hx hb dX10_copy_121 (by decide) (fun hc => ?_) (fun hc => ?_)
                        · have hf := jif_t hc hf
                          refine lv_bipush (v := (40 : Int32)) hx hb dX10_copy_127 (by decide) ?_
                          refine lv_iload_n hx hb dX10_copy_129 rfl (lv_at hl 1 rfl) ?_
                          refine lv_imul hx hb dX10_copy_130 ?_
                          refine lv_iload_n hx hb dX10_copy_131 rfl (lv_at hl 2 rfl) ?_
                          refine lv_iadd hx hb dX10_copy_132 ?_
                          refine jl_topi hf (fun y13 hf => ?_)
                          refine lv_istore (lv' := [(6, .int y13), (0, .ref (a 0)), (1, .int x1), (2, .int x2), (3, .int x3), (4, .int x4), (5, .int x5)]) hx hb dX10_copy_133 hl (by decide) rfl (fun ls hl => ?_)
                          refine lv_bipush (v := (40 : Int32)) hx hb dX10_copy_135 (by decide) ?_
                          refine lv_iload_n hx hb dX10_copy_137 rfl (lv_at hl 4 rfl) ?_
                          refine lv_imul hx hb dX10_copy_138 ?_
                          refine lv_iload hx hb dX10_copy_139 (lv_at hl 5 rfl) ?_
                          refine lv_iadd hx hb dX10_copy_141 ?_
                          refine jl_topi hf (fun y14 hf => ?_)
                          refine lv_istore (lv' := [(7, .int y14), (6, .int y13), (0, .ref (a 0)), (1, .int x1), (2, .int x2), (3, .int x3), (4, .int x4), (5, .int x5)]) hx hb dX10_copy_142 hl (by decide) rfl (fun ls hl => ?_)
                          refine lv_iconst (v := (0 : Int32)) hx hb dX10_copy_144 (by decide) ?_
                          refine lv_istore (lv' := [(8, .int (0 : Int32)), (7, .int y14), (6, .int y13), (0, .ref (a 0)), (1, .int x1), (2, .int x2), (3, .int x3), (4, .int x4), (5, .int x5)]) hx hb dX10_copy_145 hl (by decide) rfl (fun ls hl => ?_)
                          exact hL147 FU x5 y13 y14 (0 : Int32) σ H locs ls hf hP hS (lv_sub hl [3, 8, 2, 1, 0] rfl)
                        · have hf := jif_f hc hf
                          refine lv_bipush (v := (-12 : Int32)) hx hb dX10_copy_124 (by decide) ?_
                          exact ret_i C hP hS (Prod.mk.inj (Option.some.inj hf)).1 (Prod.mk.inj (Option.some.inj hf)).2 dX10_copy_126
          · have hf := jif_f hc hf
            refine lv_bipush (v := (-13 : Int32)) hx hb dX10_copy_59 (by decide) ?_
            exact ret_i C hP hS (Prod.mk.inj (Option.some.inj hf)).1 (Prod.mk.inj (Option.some.inj hf)).2 dX10_copy_61
        · have hf := jif_n hc hf
          refine lv_bipush (v := (-11 : Int32)) hx hb dX10_copy_41 (by decide) ?_
          exact ret_i C hP hS (Prod.mk.inj (Option.some.inj hf)).1 (Prod.mk.inj (Option.some.inj hf)).2 dX10_copy_43
    · have hf := jif_n hc hf
      refine lv_bipush (v := (-2 : Int32)) hx hb dX10_copy_18 (by decide) ?_
      exact ret_i C hP hS (Prod.mk.inj (Option.some.inj hf)).1 (Prod.mk.inj (Option.some.inj hf)).2 dX10_copy_20
set_option maxHeartbeats 4000000 in
set_option maxRecDepth 100000 in
theorem k_X10_guardsBy {l : Launch} {a : Nat → Nat} {cy : Nat → ClassId} {D : va_G} {A : Nat → Prop} (O : WO NM a (fun _ => True) A) {x1 : Int32} {x2 : Int32} {x3 : Int32} {x4 : Int32} {r : Int32} {σ : ST} {σ' : ST} (hf : f_X10_guardsBy x1 x2 x3 x4 σ = some (r, σ')) : Met l yX10_guardsBy (Cond.code yX10_guardsBy cX10_guardsBy 9 (some .int) :: WS) (rmk 3 67) (PC [.ref (a 0), .int x1, .int x2, .int x3, .int x4] NM eM a cy D (fun _ => True) σ) (QI NM eM a cy D A r σ') 0 0 A := by
  refine met_go (own := "GuardsLookLeftModel") O (by decide +kernel) rfl (Nat.le_of_ble_eq_true rfl) ?_
  intro p e s m args below meth c ls C hP hS hl
  have hx := C.hx
  have hb := C.hb
  have hl : lv_has ls 9 [(0, .ref (a 0)), (1, .int x1), (2, .int x2), (3, .int x3), (4, .int x4)] := hl
  obtain ⟨H, hH⟩ : ∃ H, H = s.heap := ⟨_, rfl⟩
  rw [← hH] at hP
  have hS : va_S A s.heap H [] := by rw [hH]; exact va_S.rf
  suffices g : W p l e (rmk 3 67) s m args below meth c H [] 0 0 (MQ below (QI NM eM a cy D A r σ') args s 0 0 A) (F0 m 0 ls []) by rw [hH] at g; exact g
  clear hH
  obtain ⟨locs, hlocs⟩ : ∃ z : List Loc, z = [] := ⟨_, rfl⟩
  rw [← hlocs] at hS ⊢
  have hL161 : ∀ (k63 : Int32 → Int32 → Int32 → Int32 → Int32 → ST → Option (Int32 × ST)) (hk63 : (∀ (v1 : Int32) (v3 : Int32) (v4 : Int32) (v5 : Int32) (v6 : Int32) (s0 : ST) (H : Heap) (locs : List Loc) (ls : Array Slot), k63 v1 v3 v4 v5 v6 s0 = some (r, σ') → va_P D vwCl (wG NM eM a cy s0) H → va_S A s.heap H locs → lv_has ls 9 [(0, .ref (a 0)), (1, .int v1), (3, .int v3), (4, .int v4), (5, .int v5), (6, .int v6)] → W p l e (rmk 3 67) s m args below meth c H locs 0 0 (MQ below (QI NM eM a cy D A r σ') args s 0 0 A) (F0 m 63 ls []))), (∀ (v1 : Int32) (v3 : Int32) (v4 : Int32) (v6 : Int32) (t0 : Int32) (t1 : Int32) (s0 : ST) (H : Heap) (locs : List Loc) (ls : Array Slot), f_X10_guardsBy_L161 k63 v1 v3 v4 v6 t0 t1 s0 = some (r, σ') → va_P D vwCl (wG NM eM a cy s0) H → va_S A s.heap H locs → lv_has ls 9 [(0, .ref (a 0)), (1, .int v1), (3, .int v3), (4, .int v4), (6, .int v6)] → W p l e (rmk 3 67) s m args below meth c H locs 0 0 (MQ below (QI NM eM a cy D A r σ') args s 0 0 A) (F0 m 161 ls [.int t1, .int t0])) := by
    intro k63 hk63 v1 v3 v4 v6 t0 t1 s0 H locs ls hf hP hS hl
    refine lv_iadd hx hb dX10_guardsBy_161 ?_
    refine jl_topi hf (fun y1 hf => ?_)
    refine lv_istore (lv' := [(5, .int y1), (0, .ref (a 0)), (1, .int v1), (3, .int v3), (4, .int v4), (6, .int v6)]) hx hb dX10_guardsBy_162 hl (by decide) rfl (fun ls hl => ?_)
    obtain ⟨y2, ey2, hf⟩ := jlet_e hf
    refine lv_iinc (v := y2) (lv' := [(6, .int y2), (5, .int y1), (0, .ref (a 0)), (1, .int v1), (3, .int v3), (4, .int v4)]) hx hb dX10_guardsBy_164 hl (k := 5) rfl ey2 (by decide) rfl (fun ls hl => ?_)
    refine lv_goto (tgt := 63) hx hb dX10_guardsBy_167 (by decide) ?_
    exact hk63 v1 v3 v4 y1 y2 s0 H locs ls hf hP hS (lv_sub hl [2, 3, 4, 5, 1, 0] rfl)
  have hL63 : ∀ (n : Nat), (∀ (v1 : Int32) (v3 : Int32) (v4 : Int32) (v5 : Int32) (v6 : Int32) (s0 : ST) (H : Heap) (locs : List Loc) (ls : Array Slot), f_X10_guardsBy_L63 n v1 v3 v4 v5 v6 s0 = some (r, σ') → va_P D vwCl (wG NM eM a cy s0) H → va_S A s.heap H locs → lv_has ls 9 [(0, .ref (a 0)), (1, .int v1), (3, .int v3), (4, .int v4), (5, .int v5), (6, .int v6)] → W p l e (rmk 3 67) s m args below meth c H locs 0 0 (MQ below (QI NM eM a cy D A r σ') args s 0 0 A) (F0 m 63 ls [])) := by
    intro n
    induction n with
    | zero => intro v1 v3 v4 v5 v6 s0 H locs ls hf hP hS hl; exact no_o hf
    | succ n ih =>
      intro v1 v3 v4 v5 v6 s0 H locs ls hf hP hS hl
      have hf := (ef_X10_guardsBy_L63 _ _ _ _ _ _).symm.trans hf
      refine lv_iload hx hb dX10_guardsBy_63 (lv_at hl 5 rfl) ?_
      refine lv_iload hx hb dX10_guardsBy_65 (lv_at hl 3 rfl) ?_
      refine lv_icmp_ge (tgt := 170) hx hb dX10_guardsBy_67 (by decide) (fun hc => ?_) (fun hc => ?_)
      · have hf := jif_t hc hf
        refine lv_iload hx hb dX10_guardsBy_170 (lv_at hl 4 rfl) ?_
        exact ret_i C hP hS (Prod.mk.inj (Option.some.inj hf)).1 (Prod.mk.inj (Option.some.inj hf)).2 dX10_guardsBy_172
      · have hf := jif_f hc hf
        refine lv_iload_n hx hb dX10_guardsBy_70 rfl (lv_at hl 2 rfl) ?_
        refine lv_iconst (v := (4 : Int32)) hx hb dX10_guardsBy_71 (by decide) ?_
        refine lv_iload hx hb dX10_guardsBy_72 (lv_at hl 5 rfl) ?_
        refine lv_imul hx hb dX10_guardsBy_74 ?_
        refine lv_iadd hx hb dX10_guardsBy_75 ?_
        refine jl_topi hf (fun y1 hf => ?_)
        refine lv_istore (lv' := [(7, .int y1), (0, .ref (a 0)), (1, .int v1), (3, .int v3), (4, .int v4), (5, .int v5), (6, .int v6)]) hx hb dX10_guardsBy_76 hl (by decide) rfl (fun ls hl => ?_)
        refine lv_iload_n hx hb dX10_guardsBy_78 rfl (lv_at hl 3 rfl) ?_
        refine lv_if_lt (tgt := 101) hx hb dX10_guardsBy_79 (by decide) (fun hc => ?_) (fun hc => ?_)
        · have hf := jif_t hc hf
          refine lv_bipush (v := (-12 : Int32)) hx hb dX10_guardsBy_101 (by decide) ?_
          exact ret_i C hP hS (Prod.mk.inj (Option.some.inj hf)).1 (Prod.mk.inj (Option.some.inj hf)).2 dX10_guardsBy_103
        · have hf := jif_f hc hf
          refine lv_iload hx hb dX10_guardsBy_82 (lv_at hl 0 rfl) ?_
          refine lv_iload_n hx hb dX10_guardsBy_84 rfl (lv_at hl 3 rfl) ?_
          refine lv_icmp_lt (tgt := 101) hx hb dX10_guardsBy_85 (by decide) (fun hc => ?_) (fun hc => ?_)
          · have hf := jif_t hc hf
            refine lv_bipush (v := (-12 : Int32)) hx hb dX10_guardsBy_101 (by decide) ?_
            exact ret_i C hP hS (Prod.mk.inj (Option.some.inj hf)).1 (Prod.mk.inj (Option.some.inj hf)).2 dX10_guardsBy_103
          · have hf := jif_f hc hf
            refine lv_iload hx hb dX10_guardsBy_88 (lv_at hl 0 rfl) ?_
            refine lv_aload_n hx hb dX10_guardsBy_90 rfl (lv_at hl 1 rfl) ?_
            refine gf_X10_21 C hP wk_4_218 dX10_guardsBy_91 ?_
            refine lv_iload_n hx hb dX10_guardsBy_94 rfl (lv_at hl 2 rfl) ?_
            obtain ⟨hi2, hf⟩ := jix_e hf
            refine r_iald C hP aM_15 hi2 dX10_guardsBy_95 ?_
            refine lv_iconst (v := (4 : Int32)) hx hb dX10_guardsBy_96 (by decide) ?_
            refine lv_isub hx hb dX10_guardsBy_97 ?_
            refine lv_icmp_le (tgt := 104) hx hb dX10_guardsBy_98 (by decide) (fun hc => ?_) (fun hc => ?_)
            · have hf := jif_t hc hf
              refine lv_bipush (v := (40 : Int32)) hx hb dX10_guardsBy_104 (by decide) ?_
              refine lv_iload_n hx hb dX10_guardsBy_106 rfl (lv_at hl 2 rfl) ?_
              refine lv_imul hx hb dX10_guardsBy_107 ?_
              refine lv_iload hx hb dX10_guardsBy_108 (lv_at hl 0 rfl) ?_
              refine lv_iadd hx hb dX10_guardsBy_110 ?_
              refine jl_topi hf (fun y3 hf => ?_)
              refine lv_istore (lv' := [(8, .int y3), (7, .int y1), (0, .ref (a 0)), (1, .int v1), (3, .int v3), (4, .int v4), (5, .int v5), (6, .int v6)]) hx hb dX10_guardsBy_111 hl (by decide) rfl (fun ls hl => ?_)
              refine lv_iload hx hb dX10_guardsBy_113 (lv_at hl 6 rfl) ?_
              refine lv_aload_n hx hb dX10_guardsBy_115 rfl (lv_at hl 2 rfl) ?_
              refine lv_aload_n hx hb dX10_guardsBy_116 rfl (lv_at hl 2 rfl) ?_
              refine gf_X10_22 C hP wk_4_219 dX10_guardsBy_117 ?_
              refine lv_iload hx hb dX10_guardsBy_120 (lv_at hl 0 rfl) ?_
              obtain ⟨hi4, hf⟩ := jix_e hf
              refine r_iald C hP aM_16 hi4 dX10_guardsBy_122 ?_
              refine lv_aload_n hx hb dX10_guardsBy_123 rfl (lv_at hl 2 rfl) ?_
              refine gf_X10_22 C hP wk_4_219 dX10_guardsBy_124 ?_
              refine lv_iload hx hb dX10_guardsBy_127 (lv_at hl 0 rfl) ?_
              refine lv_iconst (v := (1 : Int32)) hx hb dX10_guardsBy_129 (by decide) ?_
              refine lv_iadd hx hb dX10_guardsBy_130 ?_
              obtain ⟨hi5, hf⟩ := jix_e hf
              refine r_iald C hP aM_16 hi5 dX10_guardsBy_131 ?_
              refine lv_aload_n hx hb dX10_guardsBy_132 rfl (lv_at hl 2 rfl) ?_
              refine gf_X10_22 C hP wk_4_219 dX10_guardsBy_133 ?_
              refine lv_iload hx hb dX10_guardsBy_136 (lv_at hl 0 rfl) ?_
              refine lv_iconst (v := (2 : Int32)) hx hb dX10_guardsBy_138 (by decide) ?_
              refine lv_iadd hx hb dX10_guardsBy_139 ?_
              obtain ⟨hi6, hf⟩ := jix_e hf
              refine r_iald C hP aM_16 hi6 dX10_guardsBy_140 ?_
              refine lv_aload_n hx hb dX10_guardsBy_141 rfl (lv_at hl 2 rfl) ?_
              refine gf_X10_22 C hP wk_4_219 dX10_guardsBy_142 ?_
              refine lv_iload hx hb dX10_guardsBy_145 (lv_at hl 0 rfl) ?_
              refine lv_iconst (v := (3 : Int32)) hx hb dX10_guardsBy_147 (by decide) ?_
              refine lv_iadd hx hb dX10_guardsBy_148 ?_
              obtain ⟨hi7, hf⟩ := jix_e hf
              refine r_iald C hP aM_16 hi7 dX10_guardsBy_149 ?_
              obtain ⟨y8, s9, hc, hf⟩ := jbp_e hf
              refine r_ci (r_runV (As := [.int (gA s0 16 (Int32.toNatClampNeg y3)), .int (gA s0 16 (Int32.toNatClampNeg (y3 + (1 : Int32)))), .int (gA s0 16 (Int32.toNatClampNeg (y3 + (2 : Int32)))), .int (gA s0 16 (Int32.toNatClampNeg (y3 + (3 : Int32))))]) (rest := [.int v5]) C hP hS (va_recv C.hK hP (q0 := 0) (ci := 10) rfl (by rw [g_at oM_10.1, oM_10.2])) (k_X10_guard (l := l) O hc) mw_X10_guard mi_X10_guard mv_X10_guard wk_6_153 ⟨Nat.le_of_ble_eq_true rfl, Nat.le_of_ble_eq_true rfl⟩ ⟨rfl, rfl⟩ ⟨Nat.zero_le _, Nat.zero_le _⟩ rfl hl.1 rfl (Nat.le_of_ble_eq_true rfl) dX10_guardsBy_150) hS (fun H locs hP hS => ?_)
              refine lv_if_lt (tgt := 160) hx hb dX10_guardsBy_153 (by decide) (fun hc => ?_) (fun hc => ?_)
              · have hf := jif_t hc hf
                refine lv_iconst (v := (0 : Int32)) hx hb dX10_guardsBy_160 (by decide) ?_
                exact hL161 (f_X10_guardsBy_L63 n) ih v1 v3 v4 v6 v5 (0 : Int32) s9 H locs ls hf hP hS (lv_sub hl [2, 3, 4, 5, 7] rfl)
              · have hf := jif_f hc hf
                refine lv_iconst (v := (1 : Int32)) hx hb dX10_guardsBy_156 (by decide) ?_
                refine lv_goto (tgt := 161) hx hb dX10_guardsBy_157 (by decide) ?_
                exact hL161 (f_X10_guardsBy_L63 n) ih v1 v3 v4 v6 v5 (1 : Int32) s9 H locs ls hf hP hS (lv_sub hl [2, 3, 4, 5, 7] rfl)
            · have hf := jif_f hc hf
              refine lv_bipush (v := (-12 : Int32)) hx hb dX10_guardsBy_101 (by decide) ?_
              exact ret_i C hP hS (Prod.mk.inj (Option.some.inj hf)).1 (Prod.mk.inj (Option.some.inj hf)).2 dX10_guardsBy_103
  refine lv_iload_n hx hb dX10_guardsBy_0 rfl (lv_at hl 1 rfl) ?_
  refine lv_iconst (v := (0 : Int32)) hx hb dX10_guardsBy_1 (by decide) ?_
  refine lv_iconst (v := (3 : Int32)) hx hb dX10_guardsBy_2 (by decide) ?_
  refine r_cz (r_runS (As := [.int x1, .int (0 : Int32), .int (3 : Int32)]) (rest := []) C hP hS (k_X10_in (l := l) O (σ := σ) rfl) mw_X10_in ms_X10_in wk_4_158 ⟨Nat.le_of_ble_eq_true rfl, Nat.le_of_ble_eq_true rfl⟩ ⟨rfl, rfl⟩ ⟨Nat.zero_le _, Nat.zero_le _⟩ rfl hl.1 rfl (Nat.le_of_ble_eq_true rfl) dX10_guardsBy_3) hS (fun H locs hzy1 hP hS => ?_)
  refine jl_topz hf hzy1 (fun y1 hzy1 hf => ?_)
  refine lv_if_eq (tgt := 28) hx hb dX10_guardsBy_6 (by decide) (fun hc => ?_) (fun hc => ?_)
  · have hf := jif_t hc hf
    refine lv_bipush (v := (-2 : Int32)) hx hb dX10_guardsBy_28 (by decide) ?_
    exact ret_i C hP hS (Prod.mk.inj (Option.some.inj hf)).1 (Prod.mk.inj (Option.some.inj hf)).2 dX10_guardsBy_30
  · have hf := jif_f hc hf
    refine lv_iload_n hx hb dX10_guardsBy_9 rfl (lv_at hl 2 rfl) ?_
    refine lv_iconst (v := (0 : Int32)) hx hb dX10_guardsBy_10 (by decide) ?_
    refine lv_iconst (v := (2 : Int32)) hx hb dX10_guardsBy_11 (by decide) ?_
    refine r_cz (r_runS (As := [.int x2, .int (0 : Int32), .int (2 : Int32)]) (rest := []) C hP hS (k_X10_in (l := l) O (σ := σ) rfl) mw_X10_in ms_X10_in wk_4_158 ⟨Nat.le_of_ble_eq_true rfl, Nat.le_of_ble_eq_true rfl⟩ ⟨rfl, rfl⟩ ⟨Nat.zero_le _, Nat.zero_le _⟩ rfl hl.1 rfl (Nat.le_of_ble_eq_true rfl) dX10_guardsBy_12) hS (fun H locs hzy3 hP hS => ?_)
    refine jl_topz hf hzy3 (fun y3 hzy3 hf => ?_)
    refine lv_if_eq (tgt := 28) hx hb dX10_guardsBy_15 (by decide) (fun hc => ?_) (fun hc => ?_)
    · have hf := jif_t hc hf
      refine lv_bipush (v := (-2 : Int32)) hx hb dX10_guardsBy_28 (by decide) ?_
      exact ret_i C hP hS (Prod.mk.inj (Option.some.inj hf)).1 (Prod.mk.inj (Option.some.inj hf)).2 dX10_guardsBy_30
    · have hf := jif_f hc hf
      refine lv_iload hx hb dX10_guardsBy_18 (lv_at hl 4 rfl) ?_
      refine lv_iconst (v := (0 : Int32)) hx hb dX10_guardsBy_20 (by decide) ?_
      refine lv_iconst (v := (5 : Int32)) hx hb dX10_guardsBy_21 (by decide) ?_
      refine r_cz (r_runS (As := [.int x4, .int (0 : Int32), .int (5 : Int32)]) (rest := []) C hP hS (k_X10_in (l := l) O (σ := σ) rfl) mw_X10_in ms_X10_in wk_4_158 ⟨Nat.le_of_ble_eq_true rfl, Nat.le_of_ble_eq_true rfl⟩ ⟨rfl, rfl⟩ ⟨Nat.zero_le _, Nat.zero_le _⟩ rfl hl.1 rfl (Nat.le_of_ble_eq_true rfl) dX10_guardsBy_22) hS (fun H locs hzy5 hP hS => ?_)
      refine jl_topz hf hzy5 (fun y5 hzy5 hf => ?_)
      refine lv_if_ne (tgt := 31) hx hb dX10_guardsBy_25 (by decide) (fun hc => ?_) (fun hc => ?_)
      · have hf := jif_t hc hf
        refine lv_aload_n hx hb dX10_guardsBy_31 rfl (lv_at hl 0 rfl) ?_
        refine gf_X10_20 C hP wk_4_217 dX10_guardsBy_32 ?_
        refine lv_iload_n hx hb dX10_guardsBy_35 rfl (lv_at hl 1 rfl) ?_
        obtain ⟨hi7, hf⟩ := jix_e hf
        refine r_iald C hP aM_14 hi7 dX10_guardsBy_36 ?_
        refine lv_iconst (v := (-1 : Int32)) hx hb dX10_guardsBy_37 (by decide) ?_
        refine lv_icmp_ne (tgt := 44) hx hb dX10_guardsBy_38 (by decide) (fun hc => ?_) (fun hc => ?_)
        · have hf := jif_t hc hf
          refine lv_aload_n hx hb dX10_guardsBy_44 rfl (lv_at hl 0 rfl) ?_
          refine gf_X10_20 C hP wk_4_217 dX10_guardsBy_45 ?_
          refine lv_iload_n hx hb dX10_guardsBy_48 rfl (lv_at hl 1 rfl) ?_
          obtain ⟨hi8, hf⟩ := jix_e hf
          refine r_iald C hP aM_14 hi8 dX10_guardsBy_49 ?_
          refine lv_iload_n hx hb dX10_guardsBy_50 rfl (lv_at hl 2 rfl) ?_
          refine lv_icmp_eq (tgt := 57) hx hb dX10_guardsBy_51 (by decide) (fun hc => ?_) (fun hc => ?_)
          · have hf := jif_t hc hf
            refine lv_iconst (v := (0 : Int32)) hx hb dX10_guardsBy_57 (by decide) ?_
            refine lv_istore (lv' := [(5, .int (0 : Int32)), (0, .ref (a 0)), (1, .int x1), (2, .int x2), (3, .int x3), (4, .int x4)]) hx hb dX10_guardsBy_58 hl (by decide) rfl (fun ls hl => ?_)
            refine lv_iconst (v := (0 : Int32)) hx hb dX10_guardsBy_60 (by decide) ?_
            refine lv_istore (lv' := [(6, .int (0 : Int32)), (5, .int (0 : Int32)), (0, .ref (a 0)), (1, .int x1), (2, .int x2), (3, .int x3), (4, .int x4)]) hx hb dX10_guardsBy_61 hl (by decide) rfl (fun ls hl => ?_)
            exact hL63 FU x1 x3 x4 (0 : Int32) (0 : Int32) σ H locs ls hf hP hS (lv_sub hl [2, 3, 5, 6, 1, 0] rfl)
          · have hf := jif_f hc hf
            refine lv_bipush (v := (-13 : Int32)) hx hb dX10_guardsBy_54 (by decide) ?_
            exact ret_i C hP hS (Prod.mk.inj (Option.some.inj hf)).1 (Prod.mk.inj (Option.some.inj hf)).2 dX10_guardsBy_56
        · have hf := jif_n hc hf
          refine lv_bipush (v := (-11 : Int32)) hx hb dX10_guardsBy_41 (by decide) ?_
          exact ret_i C hP hS (Prod.mk.inj (Option.some.inj hf)).1 (Prod.mk.inj (Option.some.inj hf)).2 dX10_guardsBy_43
      · have hf := jif_n hc hf
        refine lv_bipush (v := (-2 : Int32)) hx hb dX10_guardsBy_28 (by decide) ?_
        exact ret_i C hP hS (Prod.mk.inj (Option.some.inj hf)).1 (Prod.mk.inj (Option.some.inj hf)).2 dX10_guardsBy_30
set_option maxHeartbeats 4000000 in
set_option maxRecDepth 100000 in
theorem k_X10_isUnder {l : Launch} {a : Nat → Nat} {cy : Nat → ClassId} {D : va_G} {A : Nat → Prop} (O : WO NM a (fun _ => True) A) {x1 : Int32} {x2 : Int32} {r : Int32} {σ : ST} (hf : f_X10_isUnder x1 x2 = r) : Met l yX10_isUnder (Cond.code yX10_isUnder cX10_isUnder 2 (some .boolean) :: WS) (rmk 0 0) (PC [.int x1, .int x2] NM eM a cy D (fun _ => True) σ) (QZ NM eM a cy D A r σ) 0 0 A := by
  refine met_go (own := "GuardsLookLeftModel") O (by decide +kernel) rfl (Nat.le_of_ble_eq_true rfl) ?_
  intro p e s m args below meth c ls C hP hS hl
  have hx := C.hx
  have hb := C.hb
  have hl : lv_has ls 2 [(0, .int x1), (1, .int x2)] := hl
  obtain ⟨H, hH⟩ : ∃ H, H = s.heap := ⟨_, rfl⟩
  rw [← hH] at hP
  have hS : va_S A s.heap H [] := by rw [hH]; exact va_S.rf
  suffices g : W p l e (rmk 0 0) s m args below meth c H [] 0 0 (MQ below (QZ NM eM a cy D A r σ) args s 0 0 A) (F0 m 0 ls []) by rw [hH] at g; exact g
  clear hH
  obtain ⟨locs, hlocs⟩ : ∃ z : List Loc, z = [] := ⟨_, rfl⟩
  rw [← hlocs] at hS ⊢
  have hL19 : (∀ (v0 : Int32) (v1 : Int32) (H : Heap) (locs : List Loc) (ls : Array Slot), f_X10_isUnder_L19 v0 v1 = r → va_P D vwCl (wG NM eM a cy σ) H → va_S A s.heap H locs → lv_has ls 2 [(0, .int v0), (1, .int v1)] → W p l e (rmk 0 0) s m args below meth c H locs 0 0 (MQ below (QZ NM eM a cy D A r σ) args s 0 0 A) (F0 m 19 ls [])) := by
    intro v0 v1 H locs ls hf hP hS hl
    refine lv_iload_n hx hb dX10_isUnder_19 rfl (lv_at hl 1 rfl) ?_
    refine lv_iconst (v := (2 : Int32)) hx hb dX10_isUnder_20 (by decide) ?_
    refine lv_icmp_ne (tgt := 33) hx hb dX10_isUnder_21 (by decide) (fun hc => ?_) (fun hc => ?_)
    · have hf := jif_t hc hf
      refine lv_iconst (v := (0 : Int32)) hx hb dX10_isUnder_33 (by decide) ?_
      exact ret_z C hP hS bz_0 hf rfl dX10_isUnder_34
    · have hf := jif_n hc hf
      refine lv_iload_n hx hb dX10_isUnder_24 rfl (lv_at hl 0 rfl) ?_
      refine lv_iconst (v := (4 : Int32)) hx hb dX10_isUnder_25 (by decide) ?_
      refine lv_icmp_ne (tgt := 33) hx hb dX10_isUnder_26 (by decide) (fun hc => ?_) (fun hc => ?_)
      · have hf := jif_t hc hf
        refine lv_iconst (v := (0 : Int32)) hx hb dX10_isUnder_33 (by decide) ?_
        exact ret_z C hP hS bz_0 hf rfl dX10_isUnder_34
      · have hf := jif_n hc hf
        refine lv_iconst (v := (1 : Int32)) hx hb dX10_isUnder_29 (by decide) ?_
        refine lv_goto (tgt := 34) hx hb dX10_isUnder_30 (by decide) ?_
        exact ret_z C hP hS bz_1 hf rfl dX10_isUnder_34
  refine lv_iload_n hx hb dX10_isUnder_0 rfl (lv_at hl 1 rfl) ?_
  refine lv_if_eq (tgt := 29) hx hb dX10_isUnder_1 (by decide) (fun hc => ?_) (fun hc => ?_)
  · have hf := jif_t hc hf
    refine lv_iconst (v := (1 : Int32)) hx hb dX10_isUnder_29 (by decide) ?_
    refine lv_goto (tgt := 34) hx hb dX10_isUnder_30 (by decide) ?_
    exact ret_z C hP hS bz_1 hf rfl dX10_isUnder_34
  · have hf := jif_f hc hf
    refine lv_iload_n hx hb dX10_isUnder_4 rfl (lv_at hl 0 rfl) ?_
    refine lv_iload_n hx hb dX10_isUnder_5 rfl (lv_at hl 1 rfl) ?_
    refine lv_icmp_eq (tgt := 29) hx hb dX10_isUnder_6 (by decide) (fun hc => ?_) (fun hc => ?_)
    · have hf := jif_t hc hf
      refine lv_iconst (v := (1 : Int32)) hx hb dX10_isUnder_29 (by decide) ?_
      refine lv_goto (tgt := 34) hx hb dX10_isUnder_30 (by decide) ?_
      exact ret_z C hP hS bz_1 hf rfl dX10_isUnder_34
    · have hf := jif_f hc hf
      refine lv_iload_n hx hb dX10_isUnder_9 rfl (lv_at hl 1 rfl) ?_
      refine lv_iconst (v := (1 : Int32)) hx hb dX10_isUnder_10 (by decide) ?_
      refine lv_icmp_ne (tgt := 19) hx hb dX10_isUnder_11 (by decide) (fun hc => ?_) (fun hc => ?_)
      · have hf := jif_t hc hf
        exact hL19 x1 x2 H locs ls hf hP hS (lv_sub hl [0, 1] rfl)
      · have hf := jif_n hc hf
        refine lv_iload_n hx hb dX10_isUnder_14 rfl (lv_at hl 0 rfl) ?_
        refine lv_iconst (v := (3 : Int32)) hx hb dX10_isUnder_15 (by decide) ?_
        refine lv_icmp_eq (tgt := 29) hx hb dX10_isUnder_16 (by decide) (fun hc => ?_) (fun hc => ?_)
        · have hf := jif_t hc hf
          refine lv_iconst (v := (1 : Int32)) hx hb dX10_isUnder_29 (by decide) ?_
          refine lv_goto (tgt := 34) hx hb dX10_isUnder_30 (by decide) ?_
          exact ret_z C hP hS bz_1 hf rfl dX10_isUnder_34
        · have hf := jif_f hc hf
          exact hL19 x1 x2 H locs ls hf hP hS (lv_sub hl [0, 1] rfl)
set_option maxHeartbeats 4000000 in
set_option maxRecDepth 100000 in
theorem k_X10_taken {l : Launch} {a : Nat → Nat} {cy : Nat → ClassId} {D : va_G} {A : Nat → Prop} (O : WO NM a (fun _ => True) A) {x1 : Int32} {x2 : Int32} {r : Int32} {σ : ST} (hf : f_X10_taken x1 x2 σ = some r) : Met l yX10_taken (Cond.code yX10_taken cX10_taken 5 (some .int) :: WS) (rmk 1 22) (PC [.ref (a 0), .int x1, .int x2] NM eM a cy D (fun _ => True) σ) (QI NM eM a cy D A r σ) 0 0 A := by
  refine met_go (own := "GuardsLookLeftModel") O (by decide +kernel) rfl (Nat.le_of_ble_eq_true rfl) ?_
  intro p e s m args below meth c ls C hP hS hl
  have hx := C.hx
  have hb := C.hb
  have hl : lv_has ls 5 [(0, .ref (a 0)), (1, .int x1), (2, .int x2)] := hl
  obtain ⟨H, hH⟩ : ∃ H, H = s.heap := ⟨_, rfl⟩
  rw [← hH] at hP
  have hS : va_S A s.heap H [] := by rw [hH]; exact va_S.rf
  suffices g : W p l e (rmk 1 22) s m args below meth c H [] 0 0 (MQ below (QI NM eM a cy D A r σ) args s 0 0 A) (F0 m 0 ls []) by rw [hH] at g; exact g
  clear hH
  obtain ⟨locs, hlocs⟩ : ∃ z : List Loc, z = [] := ⟨_, rfl⟩
  rw [← hlocs] at hS ⊢
  have hL66 : ∀ (k37 : Int32 → Int32 → Int32 → Int32 → ST → Option Int32) (hk37 : (∀ (v1 : Int32) (v2 : Int32) (v3 : Int32) (v4 : Int32) (H : Heap) (locs : List Loc) (ls : Array Slot), k37 v1 v2 v3 v4 σ = some r → va_P D vwCl (wG NM eM a cy σ) H → va_S A s.heap H locs → lv_has ls 5 [(0, .ref (a 0)), (1, .int v1), (2, .int v2), (3, .int v3), (4, .int v4)] → W p l e (rmk 1 22) s m args below meth c H locs 0 0 (MQ below (QI NM eM a cy D A r σ) args s 0 0 A) (F0 m 37 ls []))), (∀ (v1 : Int32) (v2 : Int32) (v4 : Int32) (t0 : Int32) (t1 : Int32) (H : Heap) (locs : List Loc) (ls : Array Slot), f_X10_taken_L66 k37 v1 v2 v4 t0 t1 σ = some r → va_P D vwCl (wG NM eM a cy σ) H → va_S A s.heap H locs → lv_has ls 5 [(0, .ref (a 0)), (1, .int v1), (2, .int v2), (4, .int v4)] → W p l e (rmk 1 22) s m args below meth c H locs 0 0 (MQ below (QI NM eM a cy D A r σ) args s 0 0 A) (F0 m 66 ls [.int t1, .int t0])) := by
    intro k37 hk37 v1 v2 v4 t0 t1 H locs ls hf hP hS hl
    refine lv_ior hx hb dX10_taken_66 ?_
    refine jl_topi hf (fun y1 hf => ?_)
    refine lv_istore_n (lv' := [(3, .int y1), (0, .ref (a 0)), (1, .int v1), (2, .int v2), (4, .int v4)]) hx hb dX10_taken_67 rfl hl (by decide) rfl (fun ls hl => ?_)
    obtain ⟨y2, ey2, hf⟩ := jlet_e hf
    refine lv_iinc (v := y2) (lv' := [(4, .int y2), (3, .int y1), (0, .ref (a 0)), (1, .int v1), (2, .int v2)]) hx hb dX10_taken_68 hl (k := 4) rfl ey2 (by decide) rfl (fun ls hl => ?_)
    refine lv_goto (tgt := 37) hx hb dX10_taken_71 (by decide) ?_
    exact hk37 v1 v2 y1 y2 H locs ls hf hP hS (lv_sub hl [2, 3, 4, 1, 0] rfl)
  have hL37 : ∀ (n : Nat), (∀ (v1 : Int32) (v2 : Int32) (v3 : Int32) (v4 : Int32) (H : Heap) (locs : List Loc) (ls : Array Slot), f_X10_taken_L37 n v1 v2 v3 v4 σ = some r → va_P D vwCl (wG NM eM a cy σ) H → va_S A s.heap H locs → lv_has ls 5 [(0, .ref (a 0)), (1, .int v1), (2, .int v2), (3, .int v3), (4, .int v4)] → W p l e (rmk 1 22) s m args below meth c H locs 0 0 (MQ below (QI NM eM a cy D A r σ) args s 0 0 A) (F0 m 37 ls [])) := by
    intro n
    induction n with
    | zero => intro v1 v2 v3 v4 H locs ls hf hP hS hl; exact no_o hf
    | succ n ih =>
      intro v1 v2 v3 v4 H locs ls hf hP hS hl
      have hf := (ef_X10_taken_L37 _ _ _ _ _).symm.trans hf
      refine lv_iload hx hb dX10_taken_37 (lv_at hl 4 rfl) ?_
      refine lv_iconst (v := (3 : Int32)) hx hb dX10_taken_39 (by decide) ?_
      refine lv_icmp_ge (tgt := 74) hx hb dX10_taken_40 (by decide) (fun hc => ?_) (fun hc => ?_)
      · have hf := jif_t hc hf
        refine lv_iload_n hx hb dX10_taken_74 rfl (lv_at hl 3 rfl) ?_
        refine lv_if_ne (tgt := 83) hx hb dX10_taken_75 (by decide) (fun hc => ?_) (fun hc => ?_)
        · have hf := jif_t hc hf
          refine lv_iload_n hx hb dX10_taken_83 rfl (lv_at hl 2 rfl) ?_
          refine lv_bipush (v := (6 : Int32)) hx hb dX10_taken_84 (by decide) ?_
          refine lv_icmp_ne (tgt := 93) hx hb dX10_taken_86 (by decide) (fun hc => ?_) (fun hc => ?_)
          · have hf := jif_t hc hf
            refine lv_bipush (v := (-13 : Int32)) hx hb dX10_taken_93 (by decide) ?_
            exact ret_i C hP hS (Option.some.inj hf) rfl dX10_taken_95
          · have hf := jif_n hc hf
            refine lv_iload_n hx hb dX10_taken_89 rfl (lv_at hl 3 rfl) ?_
            refine lv_goto (tgt := 95) hx hb dX10_taken_90 (by decide) ?_
            exact ret_i C hP hS (Option.some.inj hf) rfl dX10_taken_95
        · have hf := jif_n hc hf
          refine lv_bipush (v := (-11 : Int32)) hx hb dX10_taken_78 (by decide) ?_
          refine lv_goto (tgt := 95) hx hb dX10_taken_80 (by decide) ?_
          exact ret_i C hP hS (Option.some.inj hf) rfl dX10_taken_95
      · have hf := jif_f hc hf
        refine lv_iload_n hx hb dX10_taken_43 rfl (lv_at hl 3 rfl) ?_
        refine lv_aload_n hx hb dX10_taken_44 rfl (lv_at hl 0 rfl) ?_
        refine gf_X10_0 C hP wk_4_197 dX10_taken_45 ?_
        refine lv_iload hx hb dX10_taken_48 (lv_at hl 4 rfl) ?_
        obtain ⟨hi1, hf⟩ := jix_e hf
        refine r_lald C hP aM_1 hi1 dX10_taken_50 ?_
        refine lv_iload_n hx hb dX10_taken_51 rfl (lv_at hl 1 rfl) ?_
        refine r_cz (r_runS (As := [.long (gB σ 1 (Int32.toNatClampNeg v4)), .int v1]) (rest := [.int v3]) C hP hS (k_X10_has (l := l) O (σ := σ) rfl) mw_X10_has ms_X10_has wk_5_101 ⟨Nat.le_of_ble_eq_true rfl, Nat.le_of_ble_eq_true rfl⟩ ⟨rfl, rfl⟩ ⟨Nat.zero_le _, Nat.zero_le _⟩ rfl hl.1 rfl (Nat.le_of_ble_eq_true rfl) dX10_taken_52) hS (fun H locs hzy2 hP hS => ?_)
        refine jl_topz hf hzy2 (fun y2 hzy2 hf => ?_)
        refine lv_if_eq (tgt := 65) hx hb dX10_taken_55 (by decide) (fun hc => ?_) (fun hc => ?_)
        · have hf := jif_t hc hf
          refine lv_iconst (v := (0 : Int32)) hx hb dX10_taken_65 (by decide) ?_
          exact hL66 (f_X10_taken_L37 n) ih v1 v2 v4 v3 (0 : Int32) H locs ls hf hP hS (lv_sub hl [0, 1, 2, 4] rfl)
        · have hf := jif_f hc hf
          refine lv_iconst (v := (1 : Int32)) hx hb dX10_taken_58 (by decide) ?_
          refine lv_iload hx hb dX10_taken_59 (lv_at hl 4 rfl) ?_
          refine r_ishl C dX10_taken_61 ?_
          refine lv_goto (tgt := 66) hx hb dX10_taken_62 (by decide) ?_
          exact hL66 (f_X10_taken_L37 n) ih v1 v2 v4 v3 (jshl (1 : Int32) v4) H locs ls hf hP hS (lv_sub hl [0, 1, 2, 4] rfl)
  refine lv_iload_n hx hb dX10_taken_0 rfl (lv_at hl 2 rfl) ?_
  refine lv_iconst (v := (0 : Int32)) hx hb dX10_taken_1 (by decide) ?_
  refine lv_bipush (v := (6 : Int32)) hx hb dX10_taken_2 (by decide) ?_
  refine r_cz (r_runS (As := [.int x2, .int (0 : Int32), .int (6 : Int32)]) (rest := []) C hP hS (k_X10_in (l := l) O (σ := σ) rfl) mw_X10_in ms_X10_in wk_4_158 ⟨Nat.le_of_ble_eq_true rfl, Nat.le_of_ble_eq_true rfl⟩ ⟨rfl, rfl⟩ ⟨Nat.zero_le _, Nat.zero_le _⟩ rfl hl.1 rfl (Nat.le_of_ble_eq_true rfl) dX10_taken_4) hS (fun H locs hzy1 hP hS => ?_)
  refine jl_topz hf hzy1 (fun y1 hzy1 hf => ?_)
  refine lv_if_ne (tgt := 13) hx hb dX10_taken_7 (by decide) (fun hc => ?_) (fun hc => ?_)
  · have hf := jif_t hc hf
    refine lv_iload_n hx hb dX10_taken_13 rfl (lv_at hl 1 rfl) ?_
    refine lv_iconst (v := (0 : Int32)) hx hb dX10_taken_14 (by decide) ?_
    refine lv_bipush (v := (40 : Int32)) hx hb dX10_taken_15 (by decide) ?_
    refine r_cz (r_runS (As := [.int x1, .int (0 : Int32), .int (40 : Int32)]) (rest := []) C hP hS (k_X10_in (l := l) O (σ := σ) rfl) mw_X10_in ms_X10_in wk_4_158 ⟨Nat.le_of_ble_eq_true rfl, Nat.le_of_ble_eq_true rfl⟩ ⟨rfl, rfl⟩ ⟨Nat.zero_le _, Nat.zero_le _⟩ rfl hl.1 rfl (Nat.le_of_ble_eq_true rfl) dX10_taken_17) hS (fun H locs hzy3 hP hS => ?_)
    refine jl_topz hf hzy3 (fun y3 hzy3 hf => ?_)
    refine lv_if_ne (tgt := 26) hx hb dX10_taken_20 (by decide) (fun hc => ?_) (fun hc => ?_)
    · have hf := jif_t hc hf
      refine lv_iload_n hx hb dX10_taken_26 rfl (lv_at hl 1 rfl) ?_
      refine lv_bipush (v := (36 : Int32)) hx hb dX10_taken_27 (by decide) ?_
      refine lv_icmp_ge (tgt := 96) hx hb dX10_taken_29 (by decide) (fun hc => ?_) (fun hc => ?_)
      · have hf := jif_t hc hf
        refine lv_iload_n hx hb dX10_taken_96 rfl (lv_at hl 1 rfl) ?_
        refine lv_bipush (v := (36 : Int32)) hx hb dX10_taken_97 (by decide) ?_
        refine lv_isub hx hb dX10_taken_99 ?_
        refine lv_aload_n hx hb dX10_taken_100 rfl (lv_at hl 0 rfl) ?_
        refine gf_X10_1 C hP wk_4_198 dX10_taken_101 ?_
        refine lv_icmp_lt (tgt := 112) hx hb dX10_taken_104 (by decide) (fun hc => ?_) (fun hc => ?_)
        · have hf := jif_t hc hf
          refine lv_iload_n hx hb dX10_taken_112 rfl (lv_at hl 2 rfl) ?_
          refine lv_bipush (v := (6 : Int32)) hx hb dX10_taken_113 (by decide) ?_
          refine lv_icmp_ge (tgt := 141) hx hb dX10_taken_115 (by decide) (fun hc => ?_) (fun hc => ?_)
          · have hf := jif_t hc hf
            refine lv_bipush (v := (-13 : Int32)) hx hb dX10_taken_141 (by decide) ?_
            exact ret_i C hP hS (Option.some.inj hf) rfl dX10_taken_143
          · have hf := jif_f hc hf
            refine lv_aload_n hx hb dX10_taken_118 rfl (lv_at hl 0 rfl) ?_
            refine gf_X10_2 C hP wk_4_199 dX10_taken_119 ?_
            refine lv_iload_n hx hb dX10_taken_122 rfl (lv_at hl 1 rfl) ?_
            refine lv_bipush (v := (36 : Int32)) hx hb dX10_taken_123 (by decide) ?_
            refine lv_isub hx hb dX10_taken_125 ?_
            obtain ⟨hi5, hf⟩ := jix_e hf
            refine r_iald C hP aM_2 hi5 dX10_taken_126 ?_
            refine lv_iload_n hx hb dX10_taken_127 rfl (lv_at hl 2 rfl) ?_
            refine r_cz (r_runS (As := [.int (gA σ 2 (Int32.toNatClampNeg (x1 - (36 : Int32)))), .int x2]) (rest := []) C hP hS (k_X10_isUnder (l := l) O (σ := σ) rfl) mw_X10_isUnder ms_X10_isUnder wk_6_158 ⟨Nat.le_of_ble_eq_true rfl, Nat.le_of_ble_eq_true rfl⟩ ⟨rfl, rfl⟩ ⟨Nat.zero_le _, Nat.zero_le _⟩ rfl hl.1 rfl (Nat.le_of_ble_eq_true rfl) dX10_taken_128) hS (fun H locs hzy6 hP hS => ?_)
            refine jl_topz hf hzy6 (fun y6 hzy6 hf => ?_)
            refine lv_if_eq (tgt := 141) hx hb dX10_taken_131 (by decide) (fun hc => ?_) (fun hc => ?_)
            · have hf := jif_t hc hf
              refine lv_bipush (v := (-13 : Int32)) hx hb dX10_taken_141 (by decide) ?_
              exact ret_i C hP hS (Option.some.inj hf) rfl dX10_taken_143
            · have hf := jif_f hc hf
              refine lv_iload_n hx hb dX10_taken_134 rfl (lv_at hl 1 rfl) ?_
              refine lv_bipush (v := (36 : Int32)) hx hb dX10_taken_135 (by decide) ?_
              refine lv_isub hx hb dX10_taken_137 ?_
              refine lv_goto (tgt := 143) hx hb dX10_taken_138 (by decide) ?_
              exact ret_i C hP hS (Option.some.inj hf) rfl dX10_taken_143
        · have hf := jif_f hc hf
          refine lv_bipush (v := (-11 : Int32)) hx hb dX10_taken_107 (by decide) ?_
          refine lv_goto (tgt := 143) hx hb dX10_taken_109 (by decide) ?_
          exact ret_i C hP hS (Option.some.inj hf) rfl dX10_taken_143
      · have hf := jif_f hc hf
        refine lv_iconst (v := (0 : Int32)) hx hb dX10_taken_32 (by decide) ?_
        refine lv_istore_n (lv' := [(3, .int (0 : Int32)), (0, .ref (a 0)), (1, .int x1), (2, .int x2)]) hx hb dX10_taken_33 rfl hl (by decide) rfl (fun ls hl => ?_)
        refine lv_iconst (v := (0 : Int32)) hx hb dX10_taken_34 (by decide) ?_
        refine lv_istore (lv' := [(4, .int (0 : Int32)), (3, .int (0 : Int32)), (0, .ref (a 0)), (1, .int x1), (2, .int x2)]) hx hb dX10_taken_35 hl (by decide) rfl (fun ls hl => ?_)
        exact hL37 FU x1 x2 (0 : Int32) (0 : Int32) H locs ls hf hP hS (lv_sub hl [2, 3, 4, 1, 0] rfl)
    · have hf := jif_n hc hf
      refine lv_bipush (v := (-12 : Int32)) hx hb dX10_taken_23 (by decide) ?_
      exact ret_i C hP hS (Option.some.inj hf) rfl dX10_taken_25
  · have hf := jif_n hc hf
    refine lv_bipush (v := (-2 : Int32)) hx hb dX10_taken_10 (by decide) ?_
    exact ret_i C hP hS (Option.some.inj hf) rfl dX10_taken_12
