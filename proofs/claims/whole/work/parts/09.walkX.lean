set_option maxHeartbeats 4000000 in
set_option maxRecDepth 100000 in
theorem k_X9_isCell {l : Launch} {a : Nat → Nat} {cy : Nat → ClassId} {D : va_G} {ad : Nat → Nat} {A : Nat → Prop} (O : WO NX a (EHX ad A) A) {x1 : Int32} {r : Int32} {σ : ST} (hf : f_X9_isCell x1 = r) : Met l yX9_isCell (Cond.code yX9_isCell cX9_isCell 1 (some .boolean) :: WS) (rmk 1 21) (PC [.int x1] NX eX a cy D (EHX ad A) σ) (QZ NX eX a cy D A r σ) 0 0 A := by
  refine met_go (own := "GuardsLookLeft") O (by decide +kernel) rfl (Nat.le_of_ble_eq_true rfl) ?_
  intro p e s m args below meth c ls C hP hS hl
  have hx := C.hx
  have hb := C.hb
  have hl : lv_has ls 1 [(0, .int x1)] := hl
  obtain ⟨H, hH⟩ : ∃ H, H = s.heap := ⟨_, rfl⟩
  rw [← hH] at hP
  have hS : va_S A s.heap H [] := by rw [hH]; exact va_S.rf
  suffices g : W p l e (rmk 1 21) s m args below meth c H [] 0 0 (MQ below (QZ NX eX a cy D A r σ) args s 0 0 A) (F0 m 0 ls []) by rw [hH] at g; exact g
  clear hH
  obtain ⟨locs, hlocs⟩ : ∃ z : List Loc, z = [] := ⟨_, rfl⟩
  rw [← hlocs] at hS ⊢
  refine lv_iload_n hx hb dX9_isCell_0 rfl (lv_at hl 0 rfl) ?_
  refine lv_bipush (v := (35 : Int32)) hx hb dX9_isCell_1 (by decide) ?_
  refine r_cz (r_runS (As := [.int x1, .int (35 : Int32)]) (rest := []) C hP hS (k_X9_isWithin (l := l) O (σ := σ) rfl) mw_X9_isWithin ms_X9_isWithin wk_2_215 ⟨Nat.le_of_ble_eq_true rfl, Nat.le_of_ble_eq_true rfl⟩ ⟨rfl, rfl⟩ ⟨Nat.zero_le _, Nat.zero_le _⟩ rfl hl.1 rfl (Nat.le_of_ble_eq_true rfl) dX9_isCell_3) hS (fun H locs hzy1 hP hS => ?_)
  refine jl_topz hf hzy1 (fun y1 hzy1 hf => ?_)
  exact ret_z C hP hS hzy1 hf rfl dX9_isCell_6
set_option maxHeartbeats 4000000 in
set_option maxRecDepth 100000 in
theorem k_X9_areCells {l : Launch} {a : Nat → Nat} {cy : Nat → ClassId} {D : va_G} {ad : Nat → Nat} {A : Nat → Prop} (O : WO NX a (EHX ad A) A) {x1 : Int64} {r : Int32} {σ : ST} (hf : f_X9_areCells x1 = r) : Met l yX9_areCells (Cond.code yX9_areCells cX9_areCells 2 (some .boolean) :: WS) (rmk 0 0) (PC [.long x1] NX eX a cy D (EHX ad A) σ) (QZ NX eX a cy D A r σ) 0 0 A := by
  refine met_go (own := "GuardsLookLeft") O (by decide +kernel) rfl (Nat.le_of_ble_eq_true rfl) ?_
  intro p e s m args below meth c ls C hP hS hl
  have hx := C.hx
  have hb := C.hb
  have hl : lv_has ls 2 [(0, .long x1)] := hl
  obtain ⟨H, hH⟩ : ∃ H, H = s.heap := ⟨_, rfl⟩
  rw [← hH] at hP
  have hS : va_S A s.heap H [] := by rw [hH]; exact va_S.rf
  suffices g : W p l e (rmk 0 0) s m args below meth c H [] 0 0 (MQ below (QZ NX eX a cy D A r σ) args s 0 0 A) (F0 m 0 ls []) by rw [hH] at g; exact g
  clear hH
  obtain ⟨locs, hlocs⟩ : ∃ z : List Loc, z = [] := ⟨_, rfl⟩
  rw [← hlocs] at hS ⊢
  refine lv_lload_n hx hb dX9_areCells_0 rfl (lv_at hl 0 rfl) ?_
  refine lv_ldc2 hx hb C.hown (C.ts _ wk_2_221) dX9_areCells_1 ?_
  refine lv_land hx hb dX9_areCells_4 ?_
  refine lv_lconst (v := (0 : Int64)) hx hb dX9_areCells_5 (by decide) ?_
  refine lc_ne C (tgt := 14) dX9_areCells_6 dX9_areCells_7 (by decide) (fun hc => ?_) (fun hc => ?_)
  · have hf := jif_t hc hf
    refine lv_iconst (v := (0 : Int32)) hx hb dX9_areCells_14 (by decide) ?_
    exact ret_z C hP hS bz_0 hf rfl dX9_areCells_15
  · have hf := jif_n hc hf
    refine lv_iconst (v := (1 : Int32)) hx hb dX9_areCells_10 (by decide) ?_
    refine lv_goto (tgt := 15) hx hb dX9_areCells_11 (by decide) ?_
    exact ret_z C hP hS bz_1 hf rfl dX9_areCells_15
set_option maxHeartbeats 4000000 in
set_option maxRecDepth 100000 in
theorem k_X9_isLayer {l : Launch} {a : Nat → Nat} {cy : Nat → ClassId} {D : va_G} {ad : Nat → Nat} {A : Nat → Prop} (O : WO NX a (EHX ad A) A) {x1 : Int32} {r : Int32} {σ : ST} (hf : f_X9_isLayer x1 = r) : Met l yX9_isLayer (Cond.code yX9_isLayer cX9_isLayer 1 (some .boolean) :: WS) (rmk 1 21) (PC [.int x1] NX eX a cy D (EHX ad A) σ) (QZ NX eX a cy D A r σ) 0 0 A := by
  refine met_go (own := "GuardsLookLeft") O (by decide +kernel) rfl (Nat.le_of_ble_eq_true rfl) ?_
  intro p e s m args below meth c ls C hP hS hl
  have hx := C.hx
  have hb := C.hb
  have hl : lv_has ls 1 [(0, .int x1)] := hl
  obtain ⟨H, hH⟩ : ∃ H, H = s.heap := ⟨_, rfl⟩
  rw [← hH] at hP
  have hS : va_S A s.heap H [] := by rw [hH]; exact va_S.rf
  suffices g : W p l e (rmk 1 21) s m args below meth c H [] 0 0 (MQ below (QZ NX eX a cy D A r σ) args s 0 0 A) (F0 m 0 ls []) by rw [hH] at g; exact g
  clear hH
  obtain ⟨locs, hlocs⟩ : ∃ z : List Loc, z = [] := ⟨_, rfl⟩
  rw [← hlocs] at hS ⊢
  refine lv_iload_n hx hb dX9_isLayer_0 rfl (lv_at hl 0 rfl) ?_
  refine lv_iconst (v := (2 : Int32)) hx hb dX9_isLayer_1 (by decide) ?_
  refine r_cz (r_runS (As := [.int x1, .int (2 : Int32)]) (rest := []) C hP hS (k_X9_isWithin (l := l) O (σ := σ) rfl) mw_X9_isWithin ms_X9_isWithin wk_2_215 ⟨Nat.le_of_ble_eq_true rfl, Nat.le_of_ble_eq_true rfl⟩ ⟨rfl, rfl⟩ ⟨Nat.zero_le _, Nat.zero_le _⟩ rfl hl.1 rfl (Nat.le_of_ble_eq_true rfl) dX9_isLayer_2) hS (fun H locs hzy1 hP hS => ?_)
  refine jl_topz hf hzy1 (fun y1 hzy1 hf => ?_)
  exact ret_z C hP hS hzy1 hf rfl dX9_isLayer_5
set_option maxHeartbeats 4000000 in
set_option maxRecDepth 100000 in
theorem k_X9_isSecond {l : Launch} {a : Nat → Nat} {cy : Nat → ClassId} {D : va_G} {ad : Nat → Nat} {A : Nat → Prop} (O : WO NX a (EHX ad A) A) {x1 : Int32} {r : Int32} {σ : ST} (hf : f_X9_isSecond x1 = r) : Met l yX9_isSecond (Cond.code yX9_isSecond cX9_isSecond 1 (some .boolean) :: WS) (rmk 1 21) (PC [.int x1] NX eX a cy D (EHX ad A) σ) (QZ NX eX a cy D A r σ) 0 0 A := by
  refine met_go (own := "GuardsLookLeft") O (by decide +kernel) rfl (Nat.le_of_ble_eq_true rfl) ?_
  intro p e s m args below meth c ls C hP hS hl
  have hx := C.hx
  have hb := C.hb
  have hl : lv_has ls 1 [(0, .int x1)] := hl
  obtain ⟨H, hH⟩ : ∃ H, H = s.heap := ⟨_, rfl⟩
  rw [← hH] at hP
  have hS : va_S A s.heap H [] := by rw [hH]; exact va_S.rf
  suffices g : W p l e (rmk 1 21) s m args below meth c H [] 0 0 (MQ below (QZ NX eX a cy D A r σ) args s 0 0 A) (F0 m 0 ls []) by rw [hH] at g; exact g
  clear hH
  obtain ⟨locs, hlocs⟩ : ∃ z : List Loc, z = [] := ⟨_, rfl⟩
  rw [← hlocs] at hS ⊢
  refine lv_iload_n hx hb dX9_isSecond_0 rfl (lv_at hl 0 rfl) ?_
  refine lv_bipush (v := (23 : Int32)) hx hb dX9_isSecond_1 (by decide) ?_
  refine r_cz (r_runS (As := [.int x1, .int (23 : Int32)]) (rest := []) C hP hS (k_X9_isWithin (l := l) O (σ := σ) rfl) mw_X9_isWithin ms_X9_isWithin wk_2_215 ⟨Nat.le_of_ble_eq_true rfl, Nat.le_of_ble_eq_true rfl⟩ ⟨rfl, rfl⟩ ⟨Nat.zero_le _, Nat.zero_le _⟩ rfl hl.1 rfl (Nat.le_of_ble_eq_true rfl) dX9_isSecond_3) hS (fun H locs hzy1 hP hS => ?_)
  refine jl_topz hf hzy1 (fun y1 hzy1 hf => ?_)
  exact ret_z C hP hS hzy1 hf rfl dX9_isSecond_6
set_option maxHeartbeats 4000000 in
set_option maxRecDepth 100000 in
theorem k_X9_isSheet {l : Launch} {a : Nat → Nat} {cy : Nat → ClassId} {D : va_G} {ad : Nat → Nat} {A : Nat → Prop} (O : WO NX a (EHX ad A) A) {x1 : Int32} {r : Int32} {σ : ST} (hf : f_X9_isSheet x1 = r) : Met l yX9_isSheet (Cond.code yX9_isSheet cX9_isSheet 1 (some .boolean) :: WS) (rmk 1 21) (PC [.int x1] NX eX a cy D (EHX ad A) σ) (QZ NX eX a cy D A r σ) 0 0 A := by
  refine met_go (own := "GuardsLookLeft") O (by decide +kernel) rfl (Nat.le_of_ble_eq_true rfl) ?_
  intro p e s m args below meth c ls C hP hS hl
  have hx := C.hx
  have hb := C.hb
  have hl : lv_has ls 1 [(0, .int x1)] := hl
  obtain ⟨H, hH⟩ : ∃ H, H = s.heap := ⟨_, rfl⟩
  rw [← hH] at hP
  have hS : va_S A s.heap H [] := by rw [hH]; exact va_S.rf
  suffices g : W p l e (rmk 1 21) s m args below meth c H [] 0 0 (MQ below (QZ NX eX a cy D A r σ) args s 0 0 A) (F0 m 0 ls []) by rw [hH] at g; exact g
  clear hH
  obtain ⟨locs, hlocs⟩ : ∃ z : List Loc, z = [] := ⟨_, rfl⟩
  rw [← hlocs] at hS ⊢
  refine lv_iload_n hx hb dX9_isSheet_0 rfl (lv_at hl 0 rfl) ?_
  refine lv_iconst (v := (3 : Int32)) hx hb dX9_isSheet_1 (by decide) ?_
  refine r_cz (r_runS (As := [.int x1, .int (3 : Int32)]) (rest := []) C hP hS (k_X9_isWithin (l := l) O (σ := σ) rfl) mw_X9_isWithin ms_X9_isWithin wk_2_215 ⟨Nat.le_of_ble_eq_true rfl, Nat.le_of_ble_eq_true rfl⟩ ⟨rfl, rfl⟩ ⟨Nat.zero_le _, Nat.zero_le _⟩ rfl hl.1 rfl (Nat.le_of_ble_eq_true rfl) dX9_isSheet_2) hS (fun H locs hzy1 hP hS => ?_)
  refine jl_topz hf hzy1 (fun y1 hzy1 hf => ?_)
  exact ret_z C hP hS hzy1 hf rfl dX9_isSheet_5
set_option maxHeartbeats 4000000 in
set_option maxRecDepth 100000 in
theorem k_X9_isGuard {l : Launch} {a : Nat → Nat} {cy : Nat → ClassId} {D : va_G} {ad : Nat → Nat} {A : Nat → Prop} (O : WO NX a (EHX ad A) A) {x1 : Int32} {r : Int32} {σ : ST} (hf : f_X9_isGuard x1 σ = r) : Met l yX9_isGuard (Cond.code yX9_isGuard cX9_isGuard 2 (some .boolean) :: WS) (rmk 1 21) (PC [.ref (a 0), .int x1] NX eX a cy D (EHX ad A) σ) (QZ NX eX a cy D A r σ) 0 0 A := by
  refine met_go (own := "GuardsLookLeft") O (by decide +kernel) rfl (Nat.le_of_ble_eq_true rfl) ?_
  intro p e s m args below meth c ls C hP hS hl
  have hx := C.hx
  have hb := C.hb
  have hl : lv_has ls 2 [(0, .ref (a 0)), (1, .int x1)] := hl
  obtain ⟨H, hH⟩ : ∃ H, H = s.heap := ⟨_, rfl⟩
  rw [← hH] at hP
  have hS : va_S A s.heap H [] := by rw [hH]; exact va_S.rf
  suffices g : W p l e (rmk 1 21) s m args below meth c H [] 0 0 (MQ below (QZ NX eX a cy D A r σ) args s 0 0 A) (F0 m 0 ls []) by rw [hH] at g; exact g
  clear hH
  obtain ⟨locs, hlocs⟩ : ∃ z : List Loc, z = [] := ⟨_, rfl⟩
  rw [← hlocs] at hS ⊢
  refine lv_iload_n hx hb dX9_isGuard_0 rfl (lv_at hl 1 rfl) ?_
  refine lv_aload_n hx hb dX9_isGuard_1 rfl (lv_at hl 0 rfl) ?_
  refine gf_X9_1 C hP wk_2_180 dX9_isGuard_2 ?_
  refine gf_X1_6 C hP wk_1_68 dX9_isGuard_5 ?_
  refine lv_iconst (v := (1 : Int32)) hx hb dX9_isGuard_8 (by decide) ?_
  refine lv_isub hx hb dX9_isGuard_9 ?_
  refine r_cz (r_runS (As := [.int x1, .int ((gA σ 2 6) - (1 : Int32))]) (rest := []) C hP hS (k_X9_isWithin (l := l) O (σ := σ) rfl) mw_X9_isWithin ms_X9_isWithin wk_2_215 ⟨Nat.le_of_ble_eq_true rfl, Nat.le_of_ble_eq_true rfl⟩ ⟨rfl, rfl⟩ ⟨Nat.zero_le _, Nat.zero_le _⟩ rfl hl.1 rfl (Nat.le_of_ble_eq_true rfl) dX9_isGuard_10) hS (fun H locs hzy1 hP hS => ?_)
  refine jl_topz hf hzy1 (fun y1 hzy1 hf => ?_)
  exact ret_z C hP hS hzy1 hf rfl dX9_isGuard_13
set_option maxHeartbeats 4000000 in
set_option maxRecDepth 100000 in
theorem k_X9_lay {l : Launch} {a : Nat → Nat} {cy : Nat → ClassId} {D : va_G} {ad : Nat → Nat} {A : Nat → Prop} (O : WO NX a (EHX ad A) A) {x1 : Int32} {x2 : Int64} {r : Int64} {σ : ST} {σ' : ST} (hf : f_X9_lay x1 x2 σ = some (r, σ')) : Met l yX9_lay (Cond.code yX9_lay cX9_lay 6 (some .long) :: WS) (rmk 2 41) (PC [.ref (a 0), .int x1, .long x2] NX eX a cy D (EHX ad A) σ) (QL NX eX a cy D A r σ') 0 0 A := by
  refine met_go (own := "GuardsLookLeft") O (by decide +kernel) rfl (Nat.le_of_ble_eq_true rfl) ?_
  intro p e s m args below meth c ls C hP hS hl
  have hx := C.hx
  have hb := C.hb
  have hl : lv_has ls 6 [(0, .ref (a 0)), (1, .int x1), (2, .long x2)] := hl
  obtain ⟨H, hH⟩ : ∃ H, H = s.heap := ⟨_, rfl⟩
  rw [← hH] at hP
  have hS : va_S A s.heap H [] := by rw [hH]; exact va_S.rf
  suffices g : W p l e (rmk 2 41) s m args below meth c H [] 0 0 (MQ below (QL NX eX a cy D A r σ') args s 0 0 A) (F0 m 0 ls []) by rw [hH] at g; exact g
  clear hH
  obtain ⟨locs, hlocs⟩ : ∃ z : List Loc, z = [] := ⟨_, rfl⟩
  rw [← hlocs] at hS ⊢
  have hL14 : (∀ (s0 : ST) (H : Heap) (locs : List Loc) (ls : Array Slot), f_X9_lay_L14 s0 = some (r, σ') → va_P D vwCl (wG NX eX a cy s0) H → va_S A s.heap H locs → lv_has ls 6 [] → W p l e (rmk 2 41) s m args below meth c H locs 0 0 (MQ below (QL NX eX a cy D A r σ') args s 0 0 A) (F0 m 14 ls [])) := by
    intro s0 H locs ls hf hP hS hl
    refine lv_ldc2 hx hb C.hown (C.ts _ wk_2_222) dX9_lay_14 ?_
    exact ret_l C hP hS (Prod.mk.inj (Option.some.inj hf)).1 (Prod.mk.inj (Option.some.inj hf)).2 dX9_lay_17
  refine lv_iload_n hx hb dX9_lay_0 rfl (lv_at hl 1 rfl) ?_
  refine r_cz (r_runS (As := [.int x1]) (rest := []) C hP hS (k_X9_isLayer (l := l) O (σ := σ) rfl) mw_X9_isLayer ms_X9_isLayer wk_2_212 ⟨Nat.le_of_ble_eq_true rfl, Nat.le_of_ble_eq_true rfl⟩ ⟨rfl, rfl⟩ ⟨Nat.zero_le _, Nat.zero_le _⟩ rfl hl.1 rfl (Nat.le_of_ble_eq_true rfl) dX9_lay_1) hS (fun H locs hzy1 hP hS => ?_)
  refine jl_topz hf hzy1 (fun y1 hzy1 hf => ?_)
  refine lv_if_eq (tgt := 14) hx hb dX9_lay_4 (by decide) (fun hc => ?_) (fun hc => ?_)
  · have hf := jif_t hc hf
    exact hL14 σ H locs ls hf hP hS (lv_sub hl [] rfl)
  · have hf := jif_f hc hf
    refine lv_lload_n hx hb dX9_lay_7 rfl (lv_at hl 2 rfl) ?_
    refine r_cz (r_runS (As := [.long x2]) (rest := []) C hP hS (k_X9_areCells (l := l) O (σ := σ) rfl) mw_X9_areCells ms_X9_areCells wk_2_218 ⟨Nat.le_of_ble_eq_true rfl, Nat.le_of_ble_eq_true rfl⟩ ⟨rfl, rfl⟩ ⟨Nat.zero_le _, Nat.zero_le _⟩ rfl hl.1 rfl (Nat.le_of_ble_eq_true rfl) dX9_lay_8) hS (fun H locs hzy3 hP hS => ?_)
    refine jl_topz hf hzy3 (fun y3 hzy3 hf => ?_)
    refine lv_if_ne (tgt := 18) hx hb dX9_lay_11 (by decide) (fun hc => ?_) (fun hc => ?_)
    · have hf := jif_t hc hf
      refine lv_aload_n hx hb dX9_lay_18 rfl (lv_at hl 0 rfl) ?_
      refine gf_X9_0 C hP wk_2_179 dX9_lay_19 ?_
      refine gf_X3_0 C hP wk_1_38 dX9_lay_22 ?_
      refine lv_iload_n hx hb dX9_lay_25 rfl (lv_at hl 1 rfl) ?_
      obtain ⟨hi5, hf⟩ := jix_e hf
      refine r_lald C hP aX_14 hi5 dX9_lay_26 ?_
      refine jl_topl hf (fun y6 hf => ?_)
      refine lv_lstore (lv' := [(4, .long y6), (0, .ref (a 0)), (1, .int x1), (2, .long x2)]) hx hb dX9_lay_27 hl (by decide) rfl (fun ls hl => ?_)
      refine lv_aload_n hx hb dX9_lay_29 rfl (lv_at hl 1 rfl) ?_
      refine gf_X9_0 C hP wk_2_179 dX9_lay_30 ?_
      refine gf_X3_0 C hP wk_1_38 dX9_lay_33 ?_
      refine lv_iload_n hx hb dX9_lay_36 rfl (lv_at hl 2 rfl) ?_
      refine lv_lload_n hx hb dX9_lay_37 rfl (lv_at hl 3 rfl) ?_
      obtain ⟨hi7, hf⟩ := jix_e hf
      refine r_last C hP hS aX_14 hi7 dX9_lay_38 hf (fun H locs s8 hf hP hS => ?_)
      refine lv_aload_n hx hb dX9_lay_39 rfl (lv_at hl 1 rfl) ?_
      refine gf_X9_4 C hP wk_2_183 dX9_lay_40 ?_
      refine lv_iconst (v := (1 : Int32)) hx hb dX9_lay_43 (by decide) ?_
      refine pf_X8_3 C hP hS wk_1_179 (bz_n bz_1) dX9_lay_44 hf (fun H locs s9 hf hP hS => ?_)
      refine lv_lload hx hb dX9_lay_47 (lv_at hl 0 rfl) ?_
      exact ret_l C hP hS (Prod.mk.inj (Option.some.inj hf)).1 (Prod.mk.inj (Option.some.inj hf)).2 dX9_lay_49
    · have hf := jif_n hc hf
      exact hL14 σ H locs ls hf hP hS (lv_sub hl [] rfl)
set_option maxHeartbeats 4000000 in
set_option maxRecDepth 100000 in
theorem k_X9_laid {l : Launch} {a : Nat → Nat} {cy : Nat → ClassId} {D : va_G} {ad : Nat → Nat} {A : Nat → Prop} (O : WO NX a (EHX ad A) A) {x1 : Int32} {r : Int64} {σ : ST} (hf : f_X9_laid x1 σ = some r) : Met l yX9_laid (Cond.code yX9_laid cX9_laid 2 (some .long) :: WS) (rmk 2 41) (PC [.ref (a 0), .int x1] NX eX a cy D (EHX ad A) σ) (QL NX eX a cy D A r σ) 0 0 A := by
  refine met_go (own := "GuardsLookLeft") O (by decide +kernel) rfl (Nat.le_of_ble_eq_true rfl) ?_
  intro p e s m args below meth c ls C hP hS hl
  have hx := C.hx
  have hb := C.hb
  have hl : lv_has ls 2 [(0, .ref (a 0)), (1, .int x1)] := hl
  obtain ⟨H, hH⟩ : ∃ H, H = s.heap := ⟨_, rfl⟩
  rw [← hH] at hP
  have hS : va_S A s.heap H [] := by rw [hH]; exact va_S.rf
  suffices g : W p l e (rmk 2 41) s m args below meth c H [] 0 0 (MQ below (QL NX eX a cy D A r σ) args s 0 0 A) (F0 m 0 ls []) by rw [hH] at g; exact g
  clear hH
  obtain ⟨locs, hlocs⟩ : ∃ z : List Loc, z = [] := ⟨_, rfl⟩
  rw [← hlocs] at hS ⊢
  refine lv_iload_n hx hb dX9_laid_0 rfl (lv_at hl 1 rfl) ?_
  refine r_cz (r_runS (As := [.int x1]) (rest := []) C hP hS (k_X9_isLayer (l := l) O (σ := σ) rfl) mw_X9_isLayer ms_X9_isLayer wk_2_212 ⟨Nat.le_of_ble_eq_true rfl, Nat.le_of_ble_eq_true rfl⟩ ⟨rfl, rfl⟩ ⟨Nat.zero_le _, Nat.zero_le _⟩ rfl hl.1 rfl (Nat.le_of_ble_eq_true rfl) dX9_laid_1) hS (fun H locs hzy1 hP hS => ?_)
  refine jl_topz hf hzy1 (fun y1 hzy1 hf => ?_)
  refine lv_if_eq (tgt := 19) hx hb dX9_laid_4 (by decide) (fun hc => ?_) (fun hc => ?_)
  · have hf := jif_t hc hf
    refine lv_ldc2 hx hb C.hown (C.ts _ wk_2_222) dX9_laid_19 ?_
    exact ret_l C hP hS (Option.some.inj hf) rfl dX9_laid_22
  · have hf := jif_f hc hf
    refine lv_aload_n hx hb dX9_laid_7 rfl (lv_at hl 0 rfl) ?_
    refine gf_X9_0 C hP wk_2_179 dX9_laid_8 ?_
    refine gf_X3_0 C hP wk_1_38 dX9_laid_11 ?_
    refine lv_iload_n hx hb dX9_laid_14 rfl (lv_at hl 1 rfl) ?_
    obtain ⟨hi3, hf⟩ := jix_e hf
    refine r_lald C hP aX_14 hi3 dX9_laid_15 ?_
    refine lv_goto (tgt := 22) hx hb dX9_laid_16 (by decide) ?_
    exact ret_l C hP hS (Option.some.inj hf) rfl dX9_laid_22
set_option maxHeartbeats 4000000 in
set_option maxRecDepth 100000 in
theorem k_X9_put {l : Launch} {a : Nat → Nat} {cy : Nat → ClassId} {D : va_G} {ad : Nat → Nat} {A : Nat → Prop} (O : WO NX a (EHX ad A) A) {x1 : Int32} {x2 : Int32} {x3 : Int32} {r : Int32} {σ : ST} {σ' : ST} (hf : f_X9_put x1 x2 x3 σ = some (r, σ')) : Met l yX9_put (Cond.code yX9_put cX9_put 7 (some .int) :: WS) (rmk 2 41) (PC [.ref (a 0), .int x1, .int x2, .int x3] NX eX a cy D (EHX ad A) σ) (QI NX eX a cy D A r σ') 0 0 A := by
  refine met_go (own := "GuardsLookLeft") O (by decide +kernel) rfl (Nat.le_of_ble_eq_true rfl) ?_
  intro p e s m args below meth c ls C hP hS hl
  have hx := C.hx
  have hb := C.hb
  have hl : lv_has ls 7 [(0, .ref (a 0)), (1, .int x1), (2, .int x2), (3, .int x3)] := hl
  obtain ⟨H, hH⟩ : ∃ H, H = s.heap := ⟨_, rfl⟩
  rw [← hH] at hP
  have hS : va_S A s.heap H [] := by rw [hH]; exact va_S.rf
  suffices g : W p l e (rmk 2 41) s m args below meth c H [] 0 0 (MQ below (QI NX eX a cy D A r σ') args s 0 0 A) (F0 m 0 ls []) by rw [hH] at g; exact g
  clear hH
  obtain ⟨locs, hlocs⟩ : ∃ z : List Loc, z = [] := ⟨_, rfl⟩
  rw [← hlocs] at hS ⊢
  refine lv_iload_n hx hb dX9_put_0 rfl (lv_at hl 1 rfl) ?_
  refine r_cz (r_runS (As := [.int x1]) (rest := []) C hP hS (k_X9_isCell (l := l) O (σ := σ) rfl) mw_X9_isCell ms_X9_isCell wk_2_231 ⟨Nat.le_of_ble_eq_true rfl, Nat.le_of_ble_eq_true rfl⟩ ⟨rfl, rfl⟩ ⟨Nat.zero_le _, Nat.zero_le _⟩ rfl hl.1 rfl (Nat.le_of_ble_eq_true rfl) dX9_put_1) hS (fun H locs hzy1 hP hS => ?_)
  refine jl_topz hf hzy1 (fun y1 hzy1 hf => ?_)
  refine lv_if_ne (tgt := 10) hx hb dX9_put_4 (by decide) (fun hc => ?_) (fun hc => ?_)
  · have hf := jif_t hc hf
    refine lv_iload_n hx hb dX9_put_10 rfl (lv_at hl 2 rfl) ?_
    refine r_cz (r_runS (As := [.int x2]) (rest := []) C hP hS (k_X9_isLayer (l := l) O (σ := σ) rfl) mw_X9_isLayer ms_X9_isLayer wk_2_212 ⟨Nat.le_of_ble_eq_true rfl, Nat.le_of_ble_eq_true rfl⟩ ⟨rfl, rfl⟩ ⟨Nat.zero_le _, Nat.zero_le _⟩ rfl hl.1 rfl (Nat.le_of_ble_eq_true rfl) dX9_put_11) hS (fun H locs hzy3 hP hS => ?_)
    refine jl_topz hf hzy3 (fun y3 hzy3 hf => ?_)
    refine lv_if_eq (tgt := 25) hx hb dX9_put_14 (by decide) (fun hc => ?_) (fun hc => ?_)
    · have hf := jif_t hc hf
      refine lv_bipush (v := (-7 : Int32)) hx hb dX9_put_25 (by decide) ?_
      exact ret_i C hP hS (Prod.mk.inj (Option.some.inj hf)).1 (Prod.mk.inj (Option.some.inj hf)).2 dX9_put_27
    · have hf := jif_f hc hf
      refine lv_iload_n hx hb dX9_put_17 rfl (lv_at hl 3 rfl) ?_
      refine lv_iconst (v := (1 : Int32)) hx hb dX9_put_18 (by decide) ?_
      refine r_cz (r_runS (As := [.int x3, .int (1 : Int32)]) (rest := []) C hP hS (k_X9_isWithin (l := l) O (σ := σ) rfl) mw_X9_isWithin ms_X9_isWithin wk_2_215 ⟨Nat.le_of_ble_eq_true rfl, Nat.le_of_ble_eq_true rfl⟩ ⟨rfl, rfl⟩ ⟨Nat.zero_le _, Nat.zero_le _⟩ rfl hl.1 rfl (Nat.le_of_ble_eq_true rfl) dX9_put_19) hS (fun H locs hzy5 hP hS => ?_)
      refine jl_topz hf hzy5 (fun y5 hzy5 hf => ?_)
      refine lv_if_ne (tgt := 28) hx hb dX9_put_22 (by decide) (fun hc => ?_) (fun hc => ?_)
      · have hf := jif_t hc hf
        refine lv_aload_n hx hb dX9_put_28 rfl (lv_at hl 0 rfl) ?_
        refine gf_X9_0 C hP wk_2_179 dX9_put_29 ?_
        refine gf_X3_0 C hP wk_1_38 dX9_put_32 ?_
        refine lv_iload_n hx hb dX9_put_35 rfl (lv_at hl 2 rfl) ?_
        obtain ⟨hi7, hf⟩ := jix_e hf
        refine r_lald C hP aX_14 hi7 dX9_put_36 ?_
        refine lv_iload_n hx hb dX9_put_37 rfl (lv_at hl 1 rfl) ?_
        refine r_cz (r_runS (As := [.long (gB σ 14 (Int32.toNatClampNeg x2)), .int x1]) (rest := []) C hP hS (k_X9_isIn (l := l) O (σ := σ) rfl) mw_X9_isIn ms_X9_isIn wk_2_234 ⟨Nat.le_of_ble_eq_true rfl, Nat.le_of_ble_eq_true rfl⟩ ⟨rfl, rfl⟩ ⟨Nat.zero_le _, Nat.zero_le _⟩ rfl hl.1 rfl (Nat.le_of_ble_eq_true rfl) dX9_put_38) hS (fun H locs hzy8 hP hS => ?_)
        refine jl_topz hf hzy8 (fun y8 hzy8 hf => ?_)
        refine lv_istore (lv' := [(4, .int y8), (0, .ref (a 0)), (1, .int x1), (2, .int x2), (3, .int x3)]) hx hb dX9_put_41 hl (by decide) rfl (fun ls hl => ?_)
        refine lv_aload_n hx hb dX9_put_43 rfl (lv_at hl 1 rfl) ?_
        refine gf_X9_0 C hP wk_2_179 dX9_put_44 ?_
        refine gf_X3_0 C hP wk_1_38 dX9_put_47 ?_
        refine lv_iload_n hx hb dX9_put_50 rfl (lv_at hl 3 rfl) ?_
        obtain ⟨hi10, hf⟩ := jix_e hf
        refine r_lald C hP aX_14 hi10 dX9_put_51 ?_
        refine lv_lconst (v := (1 : Int64)) hx hb dX9_put_52 (by decide) ?_
        refine lv_iload_n hx hb dX9_put_53 rfl (lv_at hl 2 rfl) ?_
        refine r_lshl C dX9_put_54 ?_
        refine lv_ldc2 hx hb C.hown (C.ts _ wk_2_237) dX9_put_55 ?_
        refine lv_lxor hx hb dX9_put_58 ?_
        refine lv_land hx hb dX9_put_59 ?_
        refine jl_topl hf (fun y11 hf => ?_)
        refine lv_lstore (lv' := [(5, .long y11), (4, .int y8), (0, .ref (a 0)), (1, .int x1), (2, .int x2), (3, .int x3)]) hx hb dX9_put_60 hl (by decide) rfl (fun ls hl => ?_)
        refine lv_aload_n hx hb dX9_put_62 rfl (lv_at hl 2 rfl) ?_
        refine gf_X9_0 C hP wk_2_179 dX9_put_63 ?_
        refine gf_X3_0 C hP wk_1_38 dX9_put_66 ?_
        refine lv_iload_n hx hb dX9_put_69 rfl (lv_at hl 4 rfl) ?_
        refine lv_lload hx hb dX9_put_70 (lv_at hl 0 rfl) ?_
        refine lv_iload_n hx hb dX9_put_72 rfl (lv_at hl 5 rfl) ?_
        refine lv_i2l hx hb dX9_put_73 rfl ?_
        refine lv_iload_n hx hb dX9_put_74 rfl (lv_at hl 3 rfl) ?_
        refine r_lshl C dX9_put_75 ?_
        refine lv_lor hx hb dX9_put_76 ?_
        obtain ⟨hi12, hf⟩ := jix_e hf
        refine r_last C hP hS aX_14 hi12 dX9_put_77 hf (fun H locs s13 hf hP hS => ?_)
        refine lv_aload_n hx hb dX9_put_78 rfl (lv_at hl 2 rfl) ?_
        refine gf_X9_4 C hP wk_2_183 dX9_put_79 ?_
        refine lv_iconst (v := (1 : Int32)) hx hb dX9_put_82 (by decide) ?_
        refine pf_X8_3 C hP hS wk_1_179 (bz_n bz_1) dX9_put_83 hf (fun H locs s14 hf hP hS => ?_)
        refine lv_iload hx hb dX9_put_86 (lv_at hl 1 rfl) ?_
        refine lv_if_eq (tgt := 95) hx hb dX9_put_88 (by decide) (fun hc => ?_) (fun hc => ?_)
        · have hf := jif_t hc hf
          refine lv_iconst (v := (0 : Int32)) hx hb dX9_put_95 (by decide) ?_
          exact ret_i C hP hS (Prod.mk.inj (Option.some.inj hf)).1 (Prod.mk.inj (Option.some.inj hf)).2 dX9_put_96
        · have hf := jif_f hc hf
          refine lv_iconst (v := (1 : Int32)) hx hb dX9_put_91 (by decide) ?_
          refine lv_goto (tgt := 96) hx hb dX9_put_92 (by decide) ?_
          exact ret_i C hP hS (Prod.mk.inj (Option.some.inj hf)).1 (Prod.mk.inj (Option.some.inj hf)).2 dX9_put_96
      · have hf := jif_n hc hf
        refine lv_bipush (v := (-7 : Int32)) hx hb dX9_put_25 (by decide) ?_
        exact ret_i C hP hS (Prod.mk.inj (Option.some.inj hf)).1 (Prod.mk.inj (Option.some.inj hf)).2 dX9_put_27
  · have hf := jif_n hc hf
    refine lv_bipush (v := (-5 : Int32)) hx hb dX9_put_7 (by decide) ?_
    exact ret_i C hP hS (Prod.mk.inj (Option.some.inj hf)).1 (Prod.mk.inj (Option.some.inj hf)).2 dX9_put_9
set_option maxHeartbeats 4000000 in
set_option maxRecDepth 100000 in
theorem k_X9_count {l : Launch} {a : Nat → Nat} {cy : Nat → ClassId} {D : va_G} {ad : Nat → Nat} {A : Nat → Prop} (O : WO NX a (EHX ad A) A) {x1 : Int32} {r : Int32} {σ : ST} (hf : f_X9_count x1 σ = r) : Met l yX9_count (Cond.code yX9_count cX9_count 2 (some .int) :: WS) (rmk 1 21) (PC [.ref (a 0), .int x1] NX eX a cy D (EHX ad A) σ) (QI NX eX a cy D A r σ) 0 0 A := by
  refine met_go (own := "GuardsLookLeft") O (by decide +kernel) rfl (Nat.le_of_ble_eq_true rfl) ?_
  intro p e s m args below meth c ls C hP hS hl
  have hx := C.hx
  have hb := C.hb
  have hl : lv_has ls 2 [(0, .ref (a 0)), (1, .int x1)] := hl
  obtain ⟨H, hH⟩ : ∃ H, H = s.heap := ⟨_, rfl⟩
  rw [← hH] at hP
  have hS : va_S A s.heap H [] := by rw [hH]; exact va_S.rf
  suffices g : W p l e (rmk 1 21) s m args below meth c H [] 0 0 (MQ below (QI NX eX a cy D A r σ) args s 0 0 A) (F0 m 0 ls []) by rw [hH] at g; exact g
  clear hH
  obtain ⟨locs, hlocs⟩ : ∃ z : List Loc, z = [] := ⟨_, rfl⟩
  rw [← hlocs] at hS ⊢
  refine lv_iload_n hx hb dX9_count_0 rfl (lv_at hl 1 rfl) ?_
  by_cases hk100 : x1 = (0 : Int32)
  · have hf := jif_t hk100 hf
    refine sw_in (k := (0 : Int32)) (tgt := 44) C hk100 dX9_count_1 (by decide) (by decide) rfl (by decide) ?_
    refine lv_aload_n hx hb dX9_count_44 rfl (lv_at hl 0 rfl) ?_
    refine gf_X9_1 C hP wk_2_180 dX9_count_45 ?_
    refine gf_X1_6 C hP wk_1_68 dX9_count_48 ?_
    exact ret_i C hP hS hf rfl dX9_count_51
  · have hf := jif_f hk100 hf
    by_cases hk101 : x1 = (1 : Int32)
    · have hf := jif_t hk101 hf
      refine sw_in (k := (1 : Int32)) (tgt := 52) C hk101 dX9_count_1 (by decide) (by decide) rfl (by decide) ?_
      refine lv_aload_n hx hb dX9_count_52 rfl (lv_at hl 0 rfl) ?_
      refine gf_X9_0 C hP wk_2_179 dX9_count_53 ?_
      refine gf_X3_0 C hP wk_1_38 dX9_count_56 ?_
      refine lv_iconst (v := (0 : Int32)) hx hb dX9_count_59 (by decide) ?_
      refine r_lald C hP aX_14 (vp_lit (by decide)) dX9_count_60 ?_
      refine r_ci (r_runS (As := [.long (gB σ 14 (Int32.toNatClampNeg (0 : Int32)))]) (rest := []) C hP hS (k_J13_bitCount_95d88 (l := l) O (σ := σ) rfl) mw_J13_bitCount_95d88 ms_J13_bitCount_95d88 wk_3_2 ⟨Nat.le_of_ble_eq_true rfl, Nat.le_of_ble_eq_true rfl⟩ ⟨rfl, rfl⟩ ⟨Nat.zero_le _, Nat.zero_le _⟩ rfl hl.1 rfl (Nat.le_of_ble_eq_true rfl) dX9_count_61) hS (fun H locs hP hS => ?_)
      refine jl_topi hf (fun y1 hf => ?_)
      exact ret_i C hP hS hf rfl dX9_count_64
    · have hf := jif_f hk101 hf
      by_cases hk102 : x1 = (2 : Int32)
      · have hf := jif_t hk102 hf
        refine sw_in (k := (2 : Int32)) (tgt := 65) C hk102 dX9_count_1 (by decide) (by decide) rfl (by decide) ?_
        refine lv_aload_n hx hb dX9_count_65 rfl (lv_at hl 0 rfl) ?_
        refine gf_X9_0 C hP wk_2_179 dX9_count_66 ?_
        refine gf_X3_0 C hP wk_1_38 dX9_count_69 ?_
        refine lv_iconst (v := (1 : Int32)) hx hb dX9_count_72 (by decide) ?_
        refine r_lald C hP aX_14 (vp_lit (by decide)) dX9_count_73 ?_
        refine r_ci (r_runS (As := [.long (gB σ 14 (Int32.toNatClampNeg (1 : Int32)))]) (rest := []) C hP hS (k_J13_bitCount_95d88 (l := l) O (σ := σ) rfl) mw_J13_bitCount_95d88 ms_J13_bitCount_95d88 wk_3_2 ⟨Nat.le_of_ble_eq_true rfl, Nat.le_of_ble_eq_true rfl⟩ ⟨rfl, rfl⟩ ⟨Nat.zero_le _, Nat.zero_le _⟩ rfl hl.1 rfl (Nat.le_of_ble_eq_true rfl) dX9_count_74) hS (fun H locs hP hS => ?_)
        refine jl_topi hf (fun y3 hf => ?_)
        exact ret_i C hP hS hf rfl dX9_count_77
      · have hf := jif_f hk102 hf
        by_cases hk103 : x1 = (3 : Int32)
        · have hf := jif_t hk103 hf
          refine sw_in (k := (3 : Int32)) (tgt := 78) C hk103 dX9_count_1 (by decide) (by decide) rfl (by decide) ?_
          refine lv_aload_n hx hb dX9_count_78 rfl (lv_at hl 0 rfl) ?_
          refine gf_X9_0 C hP wk_2_179 dX9_count_79 ?_
          refine gf_X3_0 C hP wk_1_38 dX9_count_82 ?_
          refine lv_iconst (v := (2 : Int32)) hx hb dX9_count_85 (by decide) ?_
          refine r_lald C hP aX_14 (vp_lit (by decide)) dX9_count_86 ?_
          refine r_ci (r_runS (As := [.long (gB σ 14 (Int32.toNatClampNeg (2 : Int32)))]) (rest := []) C hP hS (k_J13_bitCount_95d88 (l := l) O (σ := σ) rfl) mw_J13_bitCount_95d88 ms_J13_bitCount_95d88 wk_3_2 ⟨Nat.le_of_ble_eq_true rfl, Nat.le_of_ble_eq_true rfl⟩ ⟨rfl, rfl⟩ ⟨Nat.zero_le _, Nat.zero_le _⟩ rfl hl.1 rfl (Nat.le_of_ble_eq_true rfl) dX9_count_87) hS (fun H locs hP hS => ?_)
          refine jl_topi hf (fun y5 hf => ?_)
          exact ret_i C hP hS hf rfl dX9_count_90
        · have hf := jif_f hk103 hf
          by_cases hk104 : x1 = (4 : Int32)
          · have hf := jif_t hk104 hf
            refine sw_in (k := (4 : Int32)) (tgt := 91) C hk104 dX9_count_1 (by decide) (by decide) rfl (by decide) ?_
            refine lv_aload_n hx hb dX9_count_91 rfl (lv_at hl 0 rfl) ?_
            refine gf_X9_3 C hP wk_2_182 dX9_count_92 ?_
            refine gf_X6_2 C hP wk_1_148 dX9_count_95 ?_
            exact ret_i C hP hS hf rfl dX9_count_98
          · have hf := jif_f hk104 hf
            by_cases hk105 : x1 = (5 : Int32)
            · have hf := jif_t hk105 hf
              refine sw_in (k := (5 : Int32)) (tgt := 99) C hk105 dX9_count_1 (by decide) (by decide) rfl (by decide) ?_
              refine lv_aload_n hx hb dX9_count_99 rfl (lv_at hl 0 rfl) ?_
              refine gf_X9_3 C hP wk_2_182 dX9_count_100 ?_
              refine gf_X6_3 C hP wk_1_151 dX9_count_103 ?_
              exact ret_i C hP hS hf rfl dX9_count_106
            · have hf := jif_f hk105 hf
              by_cases hk106 : x1 = (6 : Int32)
              · have hf := jif_t hk106 hf
                refine sw_in (k := (6 : Int32)) (tgt := 107) C hk106 dX9_count_1 (by decide) (by decide) rfl (by decide) ?_
                refine lv_aload_n hx hb dX9_count_107 rfl (lv_at hl 0 rfl) ?_
                refine gf_X9_2 C hP wk_2_181 dX9_count_108 ?_
                refine gf_X4_1 C hP wk_1_107 dX9_count_111 ?_
                exact ret_i C hP hS hf rfl dX9_count_114
              · have hf := jif_f hk106 hf
                refine lv_tableOut (tgt := 115) hx hb dX9_count_1 (by have q100 := lv_neT hk100 (a := 0) (by decide); have q101 := lv_neT hk101 (a := 1) (by decide); have q102 := lv_neT hk102 (a := 2) (by decide); have q103 := lv_neT hk103 (a := 3) (by decide); have q104 := lv_neT hk104 (a := 4) (by decide); have q105 := lv_neT hk105 (a := 5) (by decide); have q106 := lv_neT hk106 (a := 6) (by decide); omega) (by decide) ?_
                refine lv_bipush (v := (-2 : Int32)) hx hb dX9_count_115 (by decide) ?_
                exact ret_i C hP hS hf rfl dX9_count_117
set_option maxHeartbeats 4000000 in
set_option maxRecDepth 100000 in
theorem k_X9_isByte {l : Launch} {a : Nat → Nat} {cy : Nat → ClassId} {D : va_G} {ad : Nat → Nat} {A : Nat → Prop} (O : WO NX a (EHX ad A) A) {x1 : Int32} {r : Int32} {σ : ST} (hf : f_X9_isByte x1 = r) : Met l yX9_isByte (Cond.code yX9_isByte cX9_isByte 1 (some .boolean) :: WS) (rmk 1 21) (PC [.int x1] NX eX a cy D (EHX ad A) σ) (QZ NX eX a cy D A r σ) 0 0 A := by
  refine met_go (own := "GuardsLookLeft") O (by decide +kernel) rfl (Nat.le_of_ble_eq_true rfl) ?_
  intro p e s m args below meth c ls C hP hS hl
  have hx := C.hx
  have hb := C.hb
  have hl : lv_has ls 1 [(0, .int x1)] := hl
  obtain ⟨H, hH⟩ : ∃ H, H = s.heap := ⟨_, rfl⟩
  rw [← hH] at hP
  have hS : va_S A s.heap H [] := by rw [hH]; exact va_S.rf
  suffices g : W p l e (rmk 1 21) s m args below meth c H [] 0 0 (MQ below (QZ NX eX a cy D A r σ) args s 0 0 A) (F0 m 0 ls []) by rw [hH] at g; exact g
  clear hH
  obtain ⟨locs, hlocs⟩ : ∃ z : List Loc, z = [] := ⟨_, rfl⟩
  rw [← hlocs] at hS ⊢
  refine lv_iload_n hx hb dX9_isByte_0 rfl (lv_at hl 0 rfl) ?_
  refine lv_sipush (v := (255 : Int32)) hx hb dX9_isByte_1 (by decide) ?_
  refine r_cz (r_runS (As := [.int x1, .int (255 : Int32)]) (rest := []) C hP hS (k_X9_isWithin (l := l) O (σ := σ) rfl) mw_X9_isWithin ms_X9_isWithin wk_2_215 ⟨Nat.le_of_ble_eq_true rfl, Nat.le_of_ble_eq_true rfl⟩ ⟨rfl, rfl⟩ ⟨Nat.zero_le _, Nat.zero_le _⟩ rfl hl.1 rfl (Nat.le_of_ble_eq_true rfl) dX9_isByte_4) hS (fun H locs hzy1 hP hS => ?_)
  refine jl_topz hf hzy1 (fun y1 hzy1 hf => ?_)
  exact ret_z C hP hS hzy1 hf rfl dX9_isByte_7
set_option maxHeartbeats 4000000 in
set_option maxRecDepth 100000 in
theorem k_X9_feed {l : Launch} {a : Nat → Nat} {cy : Nat → ClassId} {D : va_G} {ad : Nat → Nat} {A : Nat → Prop} (O : WO NX a (EHX ad A) A) {x1 : Int32} {x2 : Int32} {x3 : Int32} {x4 : Int32} {x5 : Int32} {x6 : Int32} {r : Int32} {σ : ST} {σ' : ST} (hf : f_X9_feed x1 x2 x3 x4 x5 x6 σ = some (r, σ')) : Met l yX9_feed (Cond.code yX9_feed cX9_feed 8 (some .int) :: WS) (rmk 2 41) (PC [.ref (a 0), .int x1, .int x2, .int x3, .int x4, .int x5, .int x6] NX eX a cy D (EHX ad A) σ) (QI NX eX a cy D A r σ') 0 0 A := by
  refine met_go (own := "GuardsLookLeft") O (by decide +kernel) rfl (Nat.le_of_ble_eq_true rfl) ?_
  intro p e s m args below meth c ls C hP hS hl
  have hx := C.hx
  have hb := C.hb
  have hl : lv_has ls 8 [(0, .ref (a 0)), (1, .int x1), (2, .int x2), (3, .int x3), (4, .int x4), (5, .int x5), (6, .int x6)] := hl
  obtain ⟨H, hH⟩ : ∃ H, H = s.heap := ⟨_, rfl⟩
  rw [← hH] at hP
  have hS : va_S A s.heap H [] := by rw [hH]; exact va_S.rf
  suffices g : W p l e (rmk 2 41) s m args below meth c H [] 0 0 (MQ below (QI NX eX a cy D A r σ') args s 0 0 A) (F0 m 0 ls []) by rw [hH] at g; exact g
  clear hH
  obtain ⟨locs, hlocs⟩ : ∃ z : List Loc, z = [] := ⟨_, rfl⟩
  rw [← hlocs] at hS ⊢
  have hL125 : ∀ (k72 : Int32 → Int32 → Int32 → Int32 → Int32 → Int32 → Int32 → ST → Option (Int32 × ST)) (hk72 : (∀ (v1 : Int32) (v2 : Int32) (v3 : Int32) (v4 : Int32) (v5 : Int32) (v6 : Int32) (v7 : Int32) (s0 : ST) (H : Heap) (locs : List Loc) (ls : Array Slot), k72 v1 v2 v3 v4 v5 v6 v7 s0 = some (r, σ') → va_P D vwCl (wG NX eX a cy s0) H → va_S A s.heap H locs → lv_has ls 8 [(0, .ref (a 0)), (1, .int v1), (2, .int v2), (3, .int v3), (4, .int v4), (5, .int v5), (6, .int v6), (7, .int v7)] → W p l e (rmk 2 41) s m args below meth c H locs 0 0 (MQ below (QI NX eX a cy D A r σ') args s 0 0 A) (F0 m 72 ls []))), (∀ (v1 : Int32) (v2 : Int32) (v3 : Int32) (v4 : Int32) (v5 : Int32) (v6 : Int32) (v7 : Int32) (t1 : Int32) (s0 : ST) (H : Heap) (locs : List Loc) (ls : Array Slot), f_X9_feed_L125 k72 v1 v2 v3 v4 v5 v6 v7 t1 s0 = some (r, σ') → va_P D vwCl (wG NX eX a cy s0) H → va_S A s.heap H locs → lv_has ls 8 [(0, .ref (a 0)), (1, .int v1), (2, .int v2), (3, .int v3), (4, .int v4), (5, .int v5), (6, .int v6), (7, .int v7)] → W p l e (rmk 2 41) s m args below meth c H locs 0 0 (MQ below (QI NX eX a cy D A r σ') args s 0 0 A) (F0 m 125 ls [.int t1, .ref (a 3)])) := by
    intro k72 hk72 v1 v2 v3 v4 v5 v6 v7 t1 s0 H locs ls hf hP hS hl
    obtain ⟨s2, hc, hf⟩ := jb_e hf
    refine r_cv (r_runV (As := [.int t1]) (rest := []) C hP hS (va_recv C.hK hP (q0 := 3) (ci := 4) rfl (by rw [g_at oX_4.1, oX_4.2])) (k_X4_add (l := l) O hc) mw_X4_add mi_X4_add mv_X4_add wk_2_87 ⟨Nat.le_of_ble_eq_true rfl, Nat.le_of_ble_eq_true rfl⟩ ⟨rfl, rfl⟩ ⟨Nat.zero_le _, Nat.zero_le _⟩ rfl hl.1 rfl (Nat.le_of_ble_eq_true rfl) dX9_feed_125) hS (fun H locs hP hS => ?_)
    obtain ⟨y3, ey3, hf⟩ := jlet_e hf
    refine lv_iinc (v := y3) (lv' := [(7, .int y3), (0, .ref (a 0)), (1, .int v1), (2, .int v2), (3, .int v3), (4, .int v4), (5, .int v5), (6, .int v6)]) hx hb dX9_feed_128 hl (k := 7) rfl ey3 (by decide) rfl (fun ls hl => ?_)
    refine lv_goto (tgt := 72) hx hb dX9_feed_131 (by decide) ?_
    exact hk72 v1 v2 v3 v4 v5 v6 y3 s2 H locs ls hf hP hS (lv_sub hl [1, 2, 3, 4, 5, 6, 7, 0] rfl)
  have hL72 : ∀ (n : Nat), (∀ (v1 : Int32) (v2 : Int32) (v3 : Int32) (v4 : Int32) (v5 : Int32) (v6 : Int32) (v7 : Int32) (s0 : ST) (H : Heap) (locs : List Loc) (ls : Array Slot), f_X9_feed_L72 n v1 v2 v3 v4 v5 v6 v7 s0 = some (r, σ') → va_P D vwCl (wG NX eX a cy s0) H → va_S A s.heap H locs → lv_has ls 8 [(0, .ref (a 0)), (1, .int v1), (2, .int v2), (3, .int v3), (4, .int v4), (5, .int v5), (6, .int v6), (7, .int v7)] → W p l e (rmk 2 41) s m args below meth c H locs 0 0 (MQ below (QI NX eX a cy D A r σ') args s 0 0 A) (F0 m 72 ls [])) := by
    intro n
    induction n with
    | zero => intro v1 v2 v3 v4 v5 v6 v7 s0 H locs ls hf hP hS hl; exact no_o hf
    | succ n ih =>
      intro v1 v2 v3 v4 v5 v6 v7 s0 H locs ls hf hP hS hl
      have hf := (ef_X9_feed_L72 _ _ _ _ _ _ _ _).symm.trans hf
      refine lv_iload hx hb dX9_feed_72 (lv_at hl 7 rfl) ?_
      refine lv_iload_n hx hb dX9_feed_74 rfl (lv_at hl 1 rfl) ?_
      refine lv_icmp_ge (tgt := 134) hx hb dX9_feed_75 (by decide) (fun hc => ?_) (fun hc => ?_)
      · have hf := jif_t hc hf
        refine lv_aload_n hx hb dX9_feed_134 rfl (lv_at hl 0 rfl) ?_
        refine gf_X9_2 C hP wk_2_181 dX9_feed_135 ?_
        refine gf_X4_1 C hP wk_1_107 dX9_feed_138 ?_
        exact ret_i C hP hS (Prod.mk.inj (Option.some.inj hf)).1 (Prod.mk.inj (Option.some.inj hf)).2 dX9_feed_141
      · have hf := jif_f hc hf
        refine lv_aload_n hx hb dX9_feed_78 rfl (lv_at hl 0 rfl) ?_
        refine gf_X9_2 C hP wk_2_181 dX9_feed_79 ?_
        refine lv_iload hx hb dX9_feed_82 (lv_at hl 7 rfl) ?_
        refine lv_if_ne (tgt := 91) hx hb dX9_feed_84 (by decide) (fun hc => ?_) (fun hc => ?_)
        · have hf := jif_t hc hf
          refine lv_iload hx hb dX9_feed_91 (lv_at hl 7 rfl) ?_
          refine lv_iconst (v := (1 : Int32)) hx hb dX9_feed_93 (by decide) ?_
          refine lv_icmp_ne (tgt := 101) hx hb dX9_feed_94 (by decide) (fun hc => ?_) (fun hc => ?_)
          · have hf := jif_t hc hf
            refine lv_iload hx hb dX9_feed_101 (lv_at hl 7 rfl) ?_
            refine lv_iconst (v := (2 : Int32)) hx hb dX9_feed_103 (by decide) ?_
            refine lv_icmp_ne (tgt := 112) hx hb dX9_feed_104 (by decide) (fun hc => ?_) (fun hc => ?_)
            · have hf := jif_t hc hf
              refine lv_iload hx hb dX9_feed_112 (lv_at hl 7 rfl) ?_
              refine lv_iconst (v := (3 : Int32)) hx hb dX9_feed_114 (by decide) ?_
              refine lv_icmp_ne (tgt := 123) hx hb dX9_feed_115 (by decide) (fun hc => ?_) (fun hc => ?_)
              · have hf := jif_t hc hf
                refine lv_iload hx hb dX9_feed_123 (lv_at hl 6 rfl) ?_
                exact hL125 (f_X9_feed_L72 n) ih v1 v2 v3 v4 v5 v6 v7 v6 s0 H locs ls hf hP hS (lv_sub hl [0, 1, 2, 3, 4, 5, 6, 7] rfl)
              · have hf := jif_n hc hf
                refine lv_iload hx hb dX9_feed_118 (lv_at hl 5 rfl) ?_
                refine lv_goto (tgt := 125) hx hb dX9_feed_120 (by decide) ?_
                exact hL125 (f_X9_feed_L72 n) ih v1 v2 v3 v4 v5 v6 v7 v5 s0 H locs ls hf hP hS (lv_sub hl [0, 1, 2, 3, 4, 5, 6, 7] rfl)
            · have hf := jif_n hc hf
              refine lv_iload hx hb dX9_feed_107 (lv_at hl 4 rfl) ?_
              refine lv_goto (tgt := 125) hx hb dX9_feed_109 (by decide) ?_
              exact hL125 (f_X9_feed_L72 n) ih v1 v2 v3 v4 v5 v6 v7 v4 s0 H locs ls hf hP hS (lv_sub hl [0, 1, 2, 3, 4, 5, 6, 7] rfl)
          · have hf := jif_n hc hf
            refine lv_iload_n hx hb dX9_feed_97 rfl (lv_at hl 3 rfl) ?_
            refine lv_goto (tgt := 125) hx hb dX9_feed_98 (by decide) ?_
            exact hL125 (f_X9_feed_L72 n) ih v1 v2 v3 v4 v5 v6 v7 v3 s0 H locs ls hf hP hS (lv_sub hl [0, 1, 2, 3, 4, 5, 6, 7] rfl)
        · have hf := jif_n hc hf
          refine lv_iload_n hx hb dX9_feed_87 rfl (lv_at hl 2 rfl) ?_
          refine lv_goto (tgt := 125) hx hb dX9_feed_88 (by decide) ?_
          exact hL125 (f_X9_feed_L72 n) ih v1 v2 v3 v4 v5 v6 v7 v2 s0 H locs ls hf hP hS (lv_sub hl [0, 1, 2, 3, 4, 5, 6, 7] rfl)
  refine lv_iload_n hx hb dX9_feed_0 rfl (lv_at hl 1 rfl) ?_
  refine lv_iconst (v := (1 : Int32)) hx hb dX9_feed_1 (by decide) ?_
  refine lv_icmp_lt (tgt := 48) hx hb dX9_feed_2 (by decide) (fun hc => ?_) (fun hc => ?_)
  · have hf := jif_t hc hf
    refine lv_bipush (v := (-2 : Int32)) hx hb dX9_feed_48 (by decide) ?_
    exact ret_i C hP hS (Prod.mk.inj (Option.some.inj hf)).1 (Prod.mk.inj (Option.some.inj hf)).2 dX9_feed_50
  · have hf := jif_f hc hf
    refine lv_iload_n hx hb dX9_feed_5 rfl (lv_at hl 1 rfl) ?_
    refine lv_iconst (v := (5 : Int32)) hx hb dX9_feed_6 (by decide) ?_
    refine lv_icmp_gt (tgt := 48) hx hb dX9_feed_7 (by decide) (fun hc => ?_) (fun hc => ?_)
    · have hf := jif_t hc hf
      refine lv_bipush (v := (-2 : Int32)) hx hb dX9_feed_48 (by decide) ?_
      exact ret_i C hP hS (Prod.mk.inj (Option.some.inj hf)).1 (Prod.mk.inj (Option.some.inj hf)).2 dX9_feed_50
    · have hf := jif_f hc hf
      refine lv_iload_n hx hb dX9_feed_10 rfl (lv_at hl 2 rfl) ?_
      refine r_cz (r_runS (As := [.int x2]) (rest := []) C hP hS (k_X9_isByte (l := l) O (σ := σ) rfl) mw_X9_isByte ms_X9_isByte wk_3_12 ⟨Nat.le_of_ble_eq_true rfl, Nat.le_of_ble_eq_true rfl⟩ ⟨rfl, rfl⟩ ⟨Nat.zero_le _, Nat.zero_le _⟩ rfl hl.1 rfl (Nat.le_of_ble_eq_true rfl) dX9_feed_11) hS (fun H locs hzy1 hP hS => ?_)
      refine jl_topz hf hzy1 (fun y1 hzy1 hf => ?_)
      refine lv_if_eq (tgt := 48) hx hb dX9_feed_14 (by decide) (fun hc => ?_) (fun hc => ?_)
      · have hf := jif_t hc hf
        refine lv_bipush (v := (-2 : Int32)) hx hb dX9_feed_48 (by decide) ?_
        exact ret_i C hP hS (Prod.mk.inj (Option.some.inj hf)).1 (Prod.mk.inj (Option.some.inj hf)).2 dX9_feed_50
      · have hf := jif_f hc hf
        refine lv_iload_n hx hb dX9_feed_17 rfl (lv_at hl 3 rfl) ?_
        refine r_cz (r_runS (As := [.int x3]) (rest := []) C hP hS (k_X9_isByte (l := l) O (σ := σ) rfl) mw_X9_isByte ms_X9_isByte wk_3_12 ⟨Nat.le_of_ble_eq_true rfl, Nat.le_of_ble_eq_true rfl⟩ ⟨rfl, rfl⟩ ⟨Nat.zero_le _, Nat.zero_le _⟩ rfl hl.1 rfl (Nat.le_of_ble_eq_true rfl) dX9_feed_18) hS (fun H locs hzy3 hP hS => ?_)
        refine jl_topz hf hzy3 (fun y3 hzy3 hf => ?_)
        refine lv_if_eq (tgt := 48) hx hb dX9_feed_21 (by decide) (fun hc => ?_) (fun hc => ?_)
        · have hf := jif_t hc hf
          refine lv_bipush (v := (-2 : Int32)) hx hb dX9_feed_48 (by decide) ?_
          exact ret_i C hP hS (Prod.mk.inj (Option.some.inj hf)).1 (Prod.mk.inj (Option.some.inj hf)).2 dX9_feed_50
        · have hf := jif_f hc hf
          refine lv_iload hx hb dX9_feed_24 (lv_at hl 4 rfl) ?_
          refine r_cz (r_runS (As := [.int x4]) (rest := []) C hP hS (k_X9_isByte (l := l) O (σ := σ) rfl) mw_X9_isByte ms_X9_isByte wk_3_12 ⟨Nat.le_of_ble_eq_true rfl, Nat.le_of_ble_eq_true rfl⟩ ⟨rfl, rfl⟩ ⟨Nat.zero_le _, Nat.zero_le _⟩ rfl hl.1 rfl (Nat.le_of_ble_eq_true rfl) dX9_feed_26) hS (fun H locs hzy5 hP hS => ?_)
          refine jl_topz hf hzy5 (fun y5 hzy5 hf => ?_)
          refine lv_if_eq (tgt := 48) hx hb dX9_feed_29 (by decide) (fun hc => ?_) (fun hc => ?_)
          · have hf := jif_t hc hf
            refine lv_bipush (v := (-2 : Int32)) hx hb dX9_feed_48 (by decide) ?_
            exact ret_i C hP hS (Prod.mk.inj (Option.some.inj hf)).1 (Prod.mk.inj (Option.some.inj hf)).2 dX9_feed_50
          · have hf := jif_f hc hf
            refine lv_iload hx hb dX9_feed_32 (lv_at hl 5 rfl) ?_
            refine r_cz (r_runS (As := [.int x5]) (rest := []) C hP hS (k_X9_isByte (l := l) O (σ := σ) rfl) mw_X9_isByte ms_X9_isByte wk_3_12 ⟨Nat.le_of_ble_eq_true rfl, Nat.le_of_ble_eq_true rfl⟩ ⟨rfl, rfl⟩ ⟨Nat.zero_le _, Nat.zero_le _⟩ rfl hl.1 rfl (Nat.le_of_ble_eq_true rfl) dX9_feed_34) hS (fun H locs hzy7 hP hS => ?_)
            refine jl_topz hf hzy7 (fun y7 hzy7 hf => ?_)
            refine lv_if_eq (tgt := 48) hx hb dX9_feed_37 (by decide) (fun hc => ?_) (fun hc => ?_)
            · have hf := jif_t hc hf
              refine lv_bipush (v := (-2 : Int32)) hx hb dX9_feed_48 (by decide) ?_
              exact ret_i C hP hS (Prod.mk.inj (Option.some.inj hf)).1 (Prod.mk.inj (Option.some.inj hf)).2 dX9_feed_50
            · have hf := jif_f hc hf
              refine lv_iload hx hb dX9_feed_40 (lv_at hl 6 rfl) ?_
              refine r_cz (r_runS (As := [.int x6]) (rest := []) C hP hS (k_X9_isByte (l := l) O (σ := σ) rfl) mw_X9_isByte ms_X9_isByte wk_3_12 ⟨Nat.le_of_ble_eq_true rfl, Nat.le_of_ble_eq_true rfl⟩ ⟨rfl, rfl⟩ ⟨Nat.zero_le _, Nat.zero_le _⟩ rfl hl.1 rfl (Nat.le_of_ble_eq_true rfl) dX9_feed_42) hS (fun H locs hzy9 hP hS => ?_)
              refine jl_topz hf hzy9 (fun y9 hzy9 hf => ?_)
              refine lv_if_ne (tgt := 51) hx hb dX9_feed_45 (by decide) (fun hc => ?_) (fun hc => ?_)
              · have hf := jif_t hc hf
                refine lv_iload_n hx hb dX9_feed_51 rfl (lv_at hl 1 rfl) ?_
                refine lv_sipush (v := (160 : Int32)) hx hb dX9_feed_52 (by decide) ?_
                refine lv_aload_n hx hb dX9_feed_55 rfl (lv_at hl 0 rfl) ?_
                refine gf_X9_2 C hP wk_2_181 dX9_feed_56 ?_
                refine gf_X4_1 C hP wk_1_107 dX9_feed_59 ?_
                refine lv_isub hx hb dX9_feed_62 ?_
                refine lv_icmp_le (tgt := 69) hx hb dX9_feed_63 (by decide) (fun hc => ?_) (fun hc => ?_)
                · have hf := jif_t hc hf
                  refine lv_iconst (v := (0 : Int32)) hx hb dX9_feed_69 (by decide) ?_
                  refine lv_istore (lv' := [(7, .int (0 : Int32)), (0, .ref (a 0)), (1, .int x1), (2, .int x2), (3, .int x3), (4, .int x4), (5, .int x5), (6, .int x6)]) hx hb dX9_feed_70 hl (by decide) rfl (fun ls hl => ?_)
                  exact hL72 FU x1 x2 x3 x4 x5 x6 (0 : Int32) σ H locs ls hf hP hS (lv_sub hl [1, 2, 3, 4, 5, 6, 7, 0] rfl)
                · have hf := jif_f hc hf
                  refine lv_bipush (v := (-4 : Int32)) hx hb dX9_feed_66 (by decide) ?_
                  exact ret_i C hP hS (Prod.mk.inj (Option.some.inj hf)).1 (Prod.mk.inj (Option.some.inj hf)).2 dX9_feed_68
              · have hf := jif_n hc hf
                refine lv_bipush (v := (-2 : Int32)) hx hb dX9_feed_48 (by decide) ?_
                exact ret_i C hP hS (Prod.mk.inj (Option.some.inj hf)).1 (Prod.mk.inj (Option.some.inj hf)).2 dX9_feed_50
set_option maxHeartbeats 4000000 in
set_option maxRecDepth 100000 in
theorem k_X9_text {l : Launch} {a : Nat → Nat} {cy : Nat → ClassId} {D : va_G} {ad : Nat → Nat} {A : Nat → Prop} (O : WO NX a (EHX ad A) A) {r : Int32} {σ : ST} {σ' : ST} (hf : f_X9_text σ = some (r, σ')) : Met l yX9_text (Cond.code yX9_text cX9_text 2 (some .int) :: WS) (rmk 76 4539) (PC [.ref (a 0)] NX eX a cy D (EHX ad A) σ) (QI NX eX a cy D A r σ') 0 0 A := by
  refine met_go (own := "GuardsLookLeft") O (by decide +kernel) rfl (Nat.le_of_ble_eq_true rfl) ?_
  intro p e s m args below meth c ls C hP hS hl
  have hx := C.hx
  have hb := C.hb
  have hl : lv_has ls 2 [(0, .ref (a 0))] := hl
  obtain ⟨H, hH⟩ : ∃ H, H = s.heap := ⟨_, rfl⟩
  rw [← hH] at hP
  have hS : va_S A s.heap H [] := by rw [hH]; exact va_S.rf
  suffices g : W p l e (rmk 76 4539) s m args below meth c H [] 0 0 (MQ below (QI NX eX a cy D A r σ') args s 0 0 A) (F0 m 0 ls []) by rw [hH] at g; exact g
  clear hH
  obtain ⟨locs, hlocs⟩ : ∃ z : List Loc, z = [] := ⟨_, rfl⟩
  rw [← hlocs] at hS ⊢
  refine lv_aload_n hx hb dX9_text_0 rfl (lv_at hl 0 rfl) ?_
  refine gf_X9_3 C hP wk_2_182 dX9_text_1 ?_
  refine gf_X6_2 C hP wk_1_148 dX9_text_4 ?_
  refine lv_bipush (v := (6 : Int32)) hx hb dX9_text_7 (by decide) ?_
  refine lv_icmp_lt (tgt := 15) hx hb dX9_text_9 (by decide) (fun hc => ?_) (fun hc => ?_)
  · have hf := jif_t hc hf
    refine lv_aload_n hx hb dX9_text_15 rfl (lv_at hl 0 rfl) ?_
    refine gf_X9_2 C hP wk_2_181 dX9_text_16 ?_
    obtain ⟨y1, s2, hc, hf⟩ := jbp_e hf
    refine r_ci (r_runV (As := []) (rest := []) C hP hS (va_recv C.hK hP (q0 := 3) (ci := 4) rfl (by rw [g_at oX_4.1, oX_4.2])) (k_X4_read (l := l) O hc) mw_X4_read mi_X4_read mv_X4_read wk_2_91 ⟨Nat.le_of_ble_eq_true rfl, Nat.le_of_ble_eq_true rfl⟩ ⟨rfl, rfl⟩ ⟨Nat.zero_le _, Nat.zero_le _⟩ rfl hl.1 rfl (Nat.le_of_ble_eq_true rfl) dX9_text_19) hS (fun H locs hP hS => ?_)
    refine lv_istore_n (lv' := [(1, .int y1), (0, .ref (a 0))]) hx hb dX9_text_22 rfl hl (by decide) rfl (fun ls hl => ?_)
    refine lv_aload_n hx hb dX9_text_23 rfl (lv_at hl 1 rfl) ?_
    refine gf_X9_2 C hP wk_2_181 dX9_text_24 ?_
    refine lv_iconst (v := (0 : Int32)) hx hb dX9_text_27 (by decide) ?_
    refine pf_X4_1 C hP hS wk_1_107 dX9_text_28 hf (fun H locs s3 hf hP hS => ?_)
    refine lv_iload_n hx hb dX9_text_31 rfl (lv_at hl 0 rfl) ?_
    refine lv_iconst (v := (-1 : Int32)) hx hb dX9_text_32 (by decide) ?_
    refine lv_icmp_ne (tgt := 60) hx hb dX9_text_33 (by decide) (fun hc => ?_) (fun hc => ?_)
    · have hf := jif_t hc hf
      refine lv_bipush (v := (-100 : Int32)) hx hb dX9_text_60 (by decide) ?_
      refine lv_iload_n hx hb dX9_text_62 rfl (lv_at hl 0 rfl) ?_
      refine lv_isub hx hb dX9_text_63 ?_
      exact ret_i C hP hS (Prod.mk.inj (Option.some.inj hf)).1 (Prod.mk.inj (Option.some.inj hf)).2 dX9_text_64
    · have hf := jif_n hc hf
      refine lv_aload_n hx hb dX9_text_36 rfl (lv_at hl 1 rfl) ?_
      refine gf_X9_3 C hP wk_2_182 dX9_text_37 ?_
      refine lv_aload_n hx hb dX9_text_40 rfl (lv_at hl 1 rfl) ?_
      refine gf_X9_2 C hP wk_2_181 dX9_text_41 ?_
      refine gf_X4_2 C hP wk_1_110 dX9_text_44 ?_
      refine lv_aload_n hx hb dX9_text_47 rfl (lv_at hl 1 rfl) ?_
      refine gf_X9_2 C hP wk_2_181 dX9_text_48 ?_
      refine gf_X4_3 C hP wk_1_112 dX9_text_51 ?_
      obtain ⟨y4, s5, hc, hf⟩ := jbp_e hf
      refine r_ci (r_runV (As := [.ref (a 22), .ref (a 23)]) (rest := []) C hP hS (va_recv C.hK hP (q0 := 4) (ci := 6) rfl (by rw [g_at oX_6.1, oX_6.2])) (k_X6_add (l := l) O hc) mw_X6_add mi_X6_add mv_X6_add wk_2_172 ⟨Nat.le_of_ble_eq_true rfl, Nat.le_of_ble_eq_true rfl⟩ ⟨rfl, rfl⟩ ⟨Nat.zero_le _, Nat.zero_le _⟩ rfl hl.1 rfl (Nat.le_of_ble_eq_true rfl) dX9_text_54) hS (fun H locs hP hS => ?_)
      refine lv_goto (tgt := 64) hx hb dX9_text_57 (by decide) ?_
      exact ret_i C hP hS (Prod.mk.inj (Option.some.inj hf)).1 (Prod.mk.inj (Option.some.inj hf)).2 dX9_text_64
  · have hf := jif_f hc hf
    refine lv_bipush (v := (-4 : Int32)) hx hb dX9_text_12 (by decide) ?_
    exact ret_i C hP hS (Prod.mk.inj (Option.some.inj hf)).1 (Prod.mk.inj (Option.some.inj hf)).2 dX9_text_14
set_option maxHeartbeats 4000000 in
set_option maxRecDepth 100000 in
theorem k_X9_force {l : Launch} {a : Nat → Nat} {cy : Nat → ClassId} {D : va_G} {ad : Nat → Nat} {A : Nat → Prop} (O : WO NX a (EHX ad A) A) {x1 : Int32} {r : Int32} {σ : ST} {σ' : ST} (hf : f_X9_force x1 σ = (r, σ')) : Met l yX9_force (Cond.code yX9_force cX9_force 3 (some .int) :: WS) (rmk 1 21) (PC [.ref (a 0), .int x1] NX eX a cy D (EHX ad A) σ) (QI NX eX a cy D A r σ') 0 0 A := by
  refine met_go (own := "GuardsLookLeft") O (by decide +kernel) rfl (Nat.le_of_ble_eq_true rfl) ?_
  intro p e s m args below meth c ls C hP hS hl
  have hx := C.hx
  have hb := C.hb
  have hl : lv_has ls 3 [(0, .ref (a 0)), (1, .int x1)] := hl
  obtain ⟨H, hH⟩ : ∃ H, H = s.heap := ⟨_, rfl⟩
  rw [← hH] at hP
  have hS : va_S A s.heap H [] := by rw [hH]; exact va_S.rf
  suffices g : W p l e (rmk 1 21) s m args below meth c H [] 0 0 (MQ below (QI NX eX a cy D A r σ') args s 0 0 A) (F0 m 0 ls []) by rw [hH] at g; exact g
  clear hH
  obtain ⟨locs, hlocs⟩ : ∃ z : List Loc, z = [] := ⟨_, rfl⟩
  rw [← hlocs] at hS ⊢
  refine lv_iload_n hx hb dX9_force_0 rfl (lv_at hl 1 rfl) ?_
  refine lv_aload_n hx hb dX9_force_1 rfl (lv_at hl 0 rfl) ?_
  refine gf_X9_3 C hP wk_2_182 dX9_force_2 ?_
  refine gf_X6_2 C hP wk_1_148 dX9_force_5 ?_
  refine lv_iconst (v := (1 : Int32)) hx hb dX9_force_8 (by decide) ?_
  refine lv_isub hx hb dX9_force_9 ?_
  refine r_cz (r_runS (As := [.int x1, .int ((gA σ 4 2) - (1 : Int32))]) (rest := []) C hP hS (k_X9_isWithin (l := l) O (σ := σ) rfl) mw_X9_isWithin ms_X9_isWithin wk_2_215 ⟨Nat.le_of_ble_eq_true rfl, Nat.le_of_ble_eq_true rfl⟩ ⟨rfl, rfl⟩ ⟨Nat.zero_le _, Nat.zero_le _⟩ rfl hl.1 rfl (Nat.le_of_ble_eq_true rfl) dX9_force_10) hS (fun H locs hzy1 hP hS => ?_)
  refine jl_topz hf hzy1 (fun y1 hzy1 hf => ?_)
  refine lv_if_ne (tgt := 19) hx hb dX9_force_13 (by decide) (fun hc => ?_) (fun hc => ?_)
  · have hf := jif_t hc hf
    refine lv_aload_n hx hb dX9_force_19 rfl (lv_at hl 0 rfl) ?_
    refine gf_X9_3 C hP wk_2_182 dX9_force_20 ?_
    refine gf_X6_3 C hP wk_1_151 dX9_force_23 ?_
    refine jl_topi hf (fun y3 hf => ?_)
    refine lv_istore_n (lv' := [(2, .int y3), (0, .ref (a 0)), (1, .int x1)]) hx hb dX9_force_26 rfl hl (by decide) rfl (fun ls hl => ?_)
    refine lv_aload_n hx hb dX9_force_27 rfl (lv_at hl 1 rfl) ?_
    refine gf_X9_3 C hP wk_2_182 dX9_force_28 ?_
    refine lv_iload_n hx hb dX9_force_31 rfl (lv_at hl 2 rfl) ?_
    refine pf_X6_3 C hP hS wk_1_151 dX9_force_32 hf (fun H locs s4 hf hP hS => ?_)
    refine lv_aload_n hx hb dX9_force_35 rfl (lv_at hl 1 rfl) ?_
    refine gf_X9_4 C hP wk_2_183 dX9_force_36 ?_
    refine lv_iconst (v := (1 : Int32)) hx hb dX9_force_39 (by decide) ?_
    refine pf_X8_3 C hP hS wk_1_179 (bz_n bz_1) dX9_force_40 hf (fun H locs s5 hf hP hS => ?_)
    refine lv_iload_n hx hb dX9_force_43 rfl (lv_at hl 0 rfl) ?_
    exact ret_i C hP hS (Prod.mk.inj hf).1 (Prod.mk.inj hf).2 dX9_force_44
  · have hf := jif_n hc hf
    refine lv_bipush (v := (-2 : Int32)) hx hb dX9_force_16 (by decide) ?_
    exact ret_i C hP hS (Prod.mk.inj hf).1 (Prod.mk.inj hf).2 dX9_force_18
set_option maxHeartbeats 4000000 in
set_option maxRecDepth 100000 in
theorem k_X9_asks {l : Launch} {a : Nat → Nat} {cy : Nat → ClassId} {D : va_G} {ad : Nat → Nat} {A : Nat → Prop} (O : WO NX a (EHX ad A) A) {x1 : Int32} {x2 : Int32} {x3 : Int32} {x4 : Int32} {x5 : Int32} {r : Int32} {σ : ST} {σ' : ST} (hf : f_X9_asks x1 x2 x3 x4 x5 σ = some (r, σ')) : Met l yX9_asks (Cond.code yX9_asks cX9_asks 6 (some .int) :: WS) (rmk 3 86) (PC [.ref (a 0), .int x1, .int x2, .int x3, .int x4, .int x5] NX eX a cy D (EHX ad A) σ) (QI NX eX a cy D A r σ') 0 0 A := by
  refine met_go (own := "GuardsLookLeft") O (by decide +kernel) rfl (Nat.le_of_ble_eq_true rfl) ?_
  intro p e s m args below meth c ls C hP hS hl
  have hx := C.hx
  have hb := C.hb
  have hl : lv_has ls 6 [(0, .ref (a 0)), (1, .int x1), (2, .int x2), (3, .int x3), (4, .int x4), (5, .int x5)] := hl
  obtain ⟨H, hH⟩ : ∃ H, H = s.heap := ⟨_, rfl⟩
  rw [← hH] at hP
  have hS : va_S A s.heap H [] := by rw [hH]; exact va_S.rf
  suffices g : W p l e (rmk 3 86) s m args below meth c H [] 0 0 (MQ below (QI NX eX a cy D A r σ') args s 0 0 A) (F0 m 0 ls []) by rw [hH] at g; exact g
  clear hH
  obtain ⟨locs, hlocs⟩ : ∃ z : List Loc, z = [] := ⟨_, rfl⟩
  rw [← hlocs] at hS ⊢
  refine lv_iload_n hx hb dX9_asks_0 rfl (lv_at hl 1 rfl) ?_
  refine lv_iconst (v := (2 : Int32)) hx hb dX9_asks_1 (by decide) ?_
  refine r_cz (r_runS (As := [.int x1, .int (2 : Int32)]) (rest := []) C hP hS (k_X9_isWithin (l := l) O (σ := σ) rfl) mw_X9_isWithin ms_X9_isWithin wk_2_215 ⟨Nat.le_of_ble_eq_true rfl, Nat.le_of_ble_eq_true rfl⟩ ⟨rfl, rfl⟩ ⟨Nat.zero_le _, Nat.zero_le _⟩ rfl hl.1 rfl (Nat.le_of_ble_eq_true rfl) dX9_asks_2) hS (fun H locs hzy1 hP hS => ?_)
  refine jl_topz hf hzy1 (fun y1 hzy1 hf => ?_)
  refine lv_if_eq (tgt := 26) hx hb dX9_asks_5 (by decide) (fun hc => ?_) (fun hc => ?_)
  · have hf := jif_t hc hf
    refine lv_bipush (v := (-2 : Int32)) hx hb dX9_asks_26 (by decide) ?_
    exact ret_i C hP hS (Prod.mk.inj (Option.some.inj hf)).1 (Prod.mk.inj (Option.some.inj hf)).2 dX9_asks_28
  · have hf := jif_f hc hf
    refine lv_iload_n hx hb dX9_asks_8 rfl (lv_at hl 2 rfl) ?_
    refine lv_bipush (v := (99 : Int32)) hx hb dX9_asks_9 (by decide) ?_
    refine r_cz (r_runS (As := [.int x2, .int (99 : Int32)]) (rest := []) C hP hS (k_X9_isWithin (l := l) O (σ := σ) rfl) mw_X9_isWithin ms_X9_isWithin wk_2_215 ⟨Nat.le_of_ble_eq_true rfl, Nat.le_of_ble_eq_true rfl⟩ ⟨rfl, rfl⟩ ⟨Nat.zero_le _, Nat.zero_le _⟩ rfl hl.1 rfl (Nat.le_of_ble_eq_true rfl) dX9_asks_11) hS (fun H locs hzy3 hP hS => ?_)
    refine jl_topz hf hzy3 (fun y3 hzy3 hf => ?_)
    refine lv_if_eq (tgt := 26) hx hb dX9_asks_14 (by decide) (fun hc => ?_) (fun hc => ?_)
    · have hf := jif_t hc hf
      refine lv_bipush (v := (-2 : Int32)) hx hb dX9_asks_26 (by decide) ?_
      exact ret_i C hP hS (Prod.mk.inj (Option.some.inj hf)).1 (Prod.mk.inj (Option.some.inj hf)).2 dX9_asks_28
    · have hf := jif_f hc hf
      refine lv_iload_n hx hb dX9_asks_17 rfl (lv_at hl 3 rfl) ?_
      refine lv_bipush (v := (9 : Int32)) hx hb dX9_asks_18 (by decide) ?_
      refine r_cz (r_runS (As := [.int x3, .int (9 : Int32)]) (rest := []) C hP hS (k_X9_isWithin (l := l) O (σ := σ) rfl) mw_X9_isWithin ms_X9_isWithin wk_2_215 ⟨Nat.le_of_ble_eq_true rfl, Nat.le_of_ble_eq_true rfl⟩ ⟨rfl, rfl⟩ ⟨Nat.zero_le _, Nat.zero_le _⟩ rfl hl.1 rfl (Nat.le_of_ble_eq_true rfl) dX9_asks_20) hS (fun H locs hzy5 hP hS => ?_)
      refine jl_topz hf hzy5 (fun y5 hzy5 hf => ?_)
      refine lv_if_ne (tgt := 29) hx hb dX9_asks_23 (by decide) (fun hc => ?_) (fun hc => ?_)
      · have hf := jif_t hc hf
        refine lv_iload hx hb dX9_asks_29 (lv_at hl 4 rfl) ?_
        refine r_cz (r_runS (As := [.int x4]) (rest := []) C hP hS (k_X9_isSecond (l := l) O (σ := σ) rfl) mw_X9_isSecond ms_X9_isSecond wk_3_27 ⟨Nat.le_of_ble_eq_true rfl, Nat.le_of_ble_eq_true rfl⟩ ⟨rfl, rfl⟩ ⟨Nat.zero_le _, Nat.zero_le _⟩ rfl hl.1 rfl (Nat.le_of_ble_eq_true rfl) dX9_asks_31) hS (fun H locs hzy7 hP hS => ?_)
        refine jl_topz hf hzy7 (fun y7 hzy7 hf => ?_)
        refine lv_if_eq (tgt := 48) hx hb dX9_asks_34 (by decide) (fun hc => ?_) (fun hc => ?_)
        · have hf := jif_t hc hf
          refine lv_bipush (v := (-2 : Int32)) hx hb dX9_asks_48 (by decide) ?_
          exact ret_i C hP hS (Prod.mk.inj (Option.some.inj hf)).1 (Prod.mk.inj (Option.some.inj hf)).2 dX9_asks_50
        · have hf := jif_f hc hf
          refine lv_iload hx hb dX9_asks_37 (lv_at hl 5 rfl) ?_
          refine lv_sipush (v := (999 : Int32)) hx hb dX9_asks_39 (by decide) ?_
          refine r_cz (r_runS (As := [.int x5, .int (999 : Int32)]) (rest := []) C hP hS (k_X9_isWithin (l := l) O (σ := σ) rfl) mw_X9_isWithin ms_X9_isWithin wk_2_215 ⟨Nat.le_of_ble_eq_true rfl, Nat.le_of_ble_eq_true rfl⟩ ⟨rfl, rfl⟩ ⟨Nat.zero_le _, Nat.zero_le _⟩ rfl hl.1 rfl (Nat.le_of_ble_eq_true rfl) dX9_asks_42) hS (fun H locs hzy9 hP hS => ?_)
          refine jl_topz hf hzy9 (fun y9 hzy9 hf => ?_)
          refine lv_if_ne (tgt := 51) hx hb dX9_asks_45 (by decide) (fun hc => ?_) (fun hc => ?_)
          · have hf := jif_t hc hf
            refine lv_aload_n hx hb dX9_asks_51 rfl (lv_at hl 0 rfl) ?_
            refine gf_X9_3 C hP wk_2_182 dX9_asks_52 ?_
            refine lv_iload_n hx hb dX9_asks_55 rfl (lv_at hl 3 rfl) ?_
            refine lv_iload hx hb dX9_asks_56 (lv_at hl 4 rfl) ?_
            refine lv_iload hx hb dX9_asks_58 (lv_at hl 5 rfl) ?_
            refine lv_bipush (v := (100 : Int32)) hx hb dX9_asks_60 (by decide) ?_
            refine lv_idiv hx hb dX9_asks_62 (by decide) ?_
            obtain ⟨s12, hc, hf⟩ := jlet_e hf
            refine r_cv (r_runV (As := [.int x3, .int x4, .int (x5 / (100 : Int32))]) (rest := []) C hP hS (va_recv C.hK hP (q0 := 4) (ci := 6) rfl (by rw [g_at oX_6.1, oX_6.2])) (k_X6_nameGuard (l := l) O hc) mw_X6_nameGuard mi_X6_nameGuard mv_X6_nameGuard wk_3_30 ⟨Nat.le_of_ble_eq_true rfl, Nat.le_of_ble_eq_true rfl⟩ ⟨rfl, rfl⟩ ⟨Nat.zero_le _, Nat.zero_le _⟩ rfl hl.1 rfl (Nat.le_of_ble_eq_true rfl) dX9_asks_63) hS (fun H locs hP hS => ?_)
            refine lv_aload_n hx hb dX9_asks_66 rfl (lv_at hl 0 rfl) ?_
            refine gf_X9_3 C hP wk_2_182 dX9_asks_67 ?_
            refine lv_iload_n hx hb dX9_asks_70 rfl (lv_at hl 2 rfl) ?_
            refine lv_bipush (v := (10 : Int32)) hx hb dX9_asks_71 (by decide) ?_
            refine lv_idiv hx hb dX9_asks_73 (by decide) ?_
            refine lv_iload_n hx hb dX9_asks_74 rfl (lv_at hl 2 rfl) ?_
            refine lv_bipush (v := (10 : Int32)) hx hb dX9_asks_75 (by decide) ?_
            refine r_irem C dX9_asks_77 (by decide) ?_
            refine lv_iload hx hb dX9_asks_78 (lv_at hl 5 rfl) ?_
            refine lv_bipush (v := (100 : Int32)) hx hb dX9_asks_80 (by decide) ?_
            refine r_irem C dX9_asks_82 (by decide) ?_
            obtain ⟨s14, hc, hf⟩ := jlet_e hf
            refine r_cv (r_runV (As := [.int (x2 / (10 : Int32)), .int (jrem x2 (10 : Int32)), .int (jrem x5 (100 : Int32))]) (rest := []) C hP hS (va_recv C.hK hP (q0 := 4) (ci := 6) rfl (by rw [g_at oX_6.1, oX_6.2])) (k_X6_nameCell (l := l) O hc) mw_X6_nameCell mi_X6_nameCell mv_X6_nameCell wk_3_34 ⟨Nat.le_of_ble_eq_true rfl, Nat.le_of_ble_eq_true rfl⟩ ⟨rfl, rfl⟩ ⟨Nat.zero_le _, Nat.zero_le _⟩ rfl hl.1 rfl (Nat.le_of_ble_eq_true rfl) dX9_asks_83) hS (fun H locs hP hS => ?_)
            refine lv_aload_n hx hb dX9_asks_86 rfl (lv_at hl 0 rfl) ?_
            refine gf_X9_3 C hP wk_2_182 dX9_asks_87 ?_
            refine lv_iload_n hx hb dX9_asks_90 rfl (lv_at hl 1 rfl) ?_
            obtain ⟨y15, s16, hc, hf⟩ := jbp_e hf
            refine r_ci (r_runV (As := [.int x1]) (rest := []) C hP hS (va_recv C.hK hP (q0 := 4) (ci := 6) rfl (by rw [g_at oX_6.1, oX_6.2])) (k_X6_says (l := l) O hc) mw_X6_says mi_X6_says mv_X6_says wk_3_38 ⟨Nat.le_of_ble_eq_true rfl, Nat.le_of_ble_eq_true rfl⟩ ⟨rfl, rfl⟩ ⟨Nat.zero_le _, Nat.zero_le _⟩ rfl hl.1 rfl (Nat.le_of_ble_eq_true rfl) dX9_asks_91) hS (fun H locs hP hS => ?_)
            exact ret_i C hP hS (Prod.mk.inj (Option.some.inj hf)).1 (Prod.mk.inj (Option.some.inj hf)).2 dX9_asks_94
          · have hf := jif_n hc hf
            refine lv_bipush (v := (-2 : Int32)) hx hb dX9_asks_48 (by decide) ?_
            exact ret_i C hP hS (Prod.mk.inj (Option.some.inj hf)).1 (Prod.mk.inj (Option.some.inj hf)).2 dX9_asks_50
      · have hf := jif_n hc hf
        refine lv_bipush (v := (-2 : Int32)) hx hb dX9_asks_26 (by decide) ?_
        exact ret_i C hP hS (Prod.mk.inj (Option.some.inj hf)).1 (Prod.mk.inj (Option.some.inj hf)).2 dX9_asks_28
set_option maxHeartbeats 4000000 in
set_option maxRecDepth 100000 in
theorem k_X9_guard {l : Launch} {a : Nat → Nat} {cy : Nat → ClassId} {D : va_G} {ad : Nat → Nat} {A : Nat → Prop} (O : WO NX a (EHX ad A) A) {x1 : Int32} {x2 : Int32} {x3 : Int32} {x4 : Int32} {r : Int32} {σ : ST} {σ' : ST} (hf : f_X9_guard x1 x2 x3 x4 σ = some (r, σ')) : Met l yX9_guard (Cond.code yX9_guard cX9_guard 5 (some .int) :: WS) (rmk 2 41) (PC [.ref (a 0), .int x1, .int x2, .int x3, .int x4] NX eX a cy D (EHX ad A) σ) (QI NX eX a cy D A r σ') 0 0 A := by
  refine met_go (own := "GuardsLookLeft") O (by decide +kernel) rfl (Nat.le_of_ble_eq_true rfl) ?_
  intro p e s m args below meth c ls C hP hS hl
  have hx := C.hx
  have hb := C.hb
  have hl : lv_has ls 5 [(0, .ref (a 0)), (1, .int x1), (2, .int x2), (3, .int x3), (4, .int x4)] := hl
  obtain ⟨H, hH⟩ : ∃ H, H = s.heap := ⟨_, rfl⟩
  rw [← hH] at hP
  have hS : va_S A s.heap H [] := by rw [hH]; exact va_S.rf
  suffices g : W p l e (rmk 2 41) s m args below meth c H [] 0 0 (MQ below (QI NX eX a cy D A r σ') args s 0 0 A) (F0 m 0 ls []) by rw [hH] at g; exact g
  clear hH
  obtain ⟨locs, hlocs⟩ : ∃ z : List Loc, z = [] := ⟨_, rfl⟩
  rw [← hlocs] at hS ⊢
  refine lv_iload_n hx hb dX9_guard_0 rfl (lv_at hl 1 rfl) ?_
  refine lv_iconst (v := (5 : Int32)) hx hb dX9_guard_1 (by decide) ?_
  refine r_cz (r_runS (As := [.int x1, .int (5 : Int32)]) (rest := []) C hP hS (k_X9_isWithin (l := l) O (σ := σ) rfl) mw_X9_isWithin ms_X9_isWithin wk_2_215 ⟨Nat.le_of_ble_eq_true rfl, Nat.le_of_ble_eq_true rfl⟩ ⟨rfl, rfl⟩ ⟨Nat.zero_le _, Nat.zero_le _⟩ rfl hl.1 rfl (Nat.le_of_ble_eq_true rfl) dX9_guard_2) hS (fun H locs hzy1 hP hS => ?_)
  refine jl_topz hf hzy1 (fun y1 hzy1 hf => ?_)
  refine lv_if_eq (tgt := 34) hx hb dX9_guard_5 (by decide) (fun hc => ?_) (fun hc => ?_)
  · have hf := jif_t hc hf
    refine lv_bipush (v := (-2 : Int32)) hx hb dX9_guard_34 (by decide) ?_
    exact ret_i C hP hS (Prod.mk.inj (Option.some.inj hf)).1 (Prod.mk.inj (Option.some.inj hf)).2 dX9_guard_36
  · have hf := jif_f hc hf
    refine lv_iload_n hx hb dX9_guard_8 rfl (lv_at hl 2 rfl) ?_
    refine r_cz (r_runS (As := [.int x2]) (rest := []) C hP hS (k_X9_isCell (l := l) O (σ := σ) rfl) mw_X9_isCell ms_X9_isCell wk_2_231 ⟨Nat.le_of_ble_eq_true rfl, Nat.le_of_ble_eq_true rfl⟩ ⟨rfl, rfl⟩ ⟨Nat.zero_le _, Nat.zero_le _⟩ rfl hl.1 rfl (Nat.le_of_ble_eq_true rfl) dX9_guard_9) hS (fun H locs hzy3 hP hS => ?_)
    refine jl_topz hf hzy3 (fun y3 hzy3 hf => ?_)
    refine lv_if_eq (tgt := 34) hx hb dX9_guard_12 (by decide) (fun hc => ?_) (fun hc => ?_)
    · have hf := jif_t hc hf
      refine lv_bipush (v := (-2 : Int32)) hx hb dX9_guard_34 (by decide) ?_
      exact ret_i C hP hS (Prod.mk.inj (Option.some.inj hf)).1 (Prod.mk.inj (Option.some.inj hf)).2 dX9_guard_36
    · have hf := jif_f hc hf
      refine lv_iload_n hx hb dX9_guard_15 rfl (lv_at hl 3 rfl) ?_
      refine lv_bipush (v := (39 : Int32)) hx hb dX9_guard_16 (by decide) ?_
      refine r_cz (r_runS (As := [.int x3, .int (39 : Int32)]) (rest := []) C hP hS (k_X9_isWithin (l := l) O (σ := σ) rfl) mw_X9_isWithin ms_X9_isWithin wk_2_215 ⟨Nat.le_of_ble_eq_true rfl, Nat.le_of_ble_eq_true rfl⟩ ⟨rfl, rfl⟩ ⟨Nat.zero_le _, Nat.zero_le _⟩ rfl hl.1 rfl (Nat.le_of_ble_eq_true rfl) dX9_guard_18) hS (fun H locs hzy5 hP hS => ?_)
      refine jl_topz hf hzy5 (fun y5 hzy5 hf => ?_)
      refine lv_if_eq (tgt := 34) hx hb dX9_guard_21 (by decide) (fun hc => ?_) (fun hc => ?_)
      · have hf := jif_t hc hf
        refine lv_bipush (v := (-2 : Int32)) hx hb dX9_guard_34 (by decide) ?_
        exact ret_i C hP hS (Prod.mk.inj (Option.some.inj hf)).1 (Prod.mk.inj (Option.some.inj hf)).2 dX9_guard_36
      · have hf := jif_f hc hf
        refine lv_iload hx hb dX9_guard_24 (lv_at hl 4 rfl) ?_
        refine lv_bipush (v := (9 : Int32)) hx hb dX9_guard_26 (by decide) ?_
        refine r_cz (r_runS (As := [.int x4, .int (9 : Int32)]) (rest := []) C hP hS (k_X9_isWithin (l := l) O (σ := σ) rfl) mw_X9_isWithin ms_X9_isWithin wk_2_215 ⟨Nat.le_of_ble_eq_true rfl, Nat.le_of_ble_eq_true rfl⟩ ⟨rfl, rfl⟩ ⟨Nat.zero_le _, Nat.zero_le _⟩ rfl hl.1 rfl (Nat.le_of_ble_eq_true rfl) dX9_guard_28) hS (fun H locs hzy7 hP hS => ?_)
        refine jl_topz hf hzy7 (fun y7 hzy7 hf => ?_)
        refine lv_if_ne (tgt := 37) hx hb dX9_guard_31 (by decide) (fun hc => ?_) (fun hc => ?_)
        · have hf := jif_t hc hf
          refine lv_iload_n hx hb dX9_guard_37 rfl (lv_at hl 3 rfl) ?_
          refine lv_bipush (v := (10 : Int32)) hx hb dX9_guard_38 (by decide) ?_
          refine r_irem C dX9_guard_40 (by decide) ?_
          refine lv_iconst (v := (5 : Int32)) hx hb dX9_guard_41 (by decide) ?_
          refine lv_icmp_le (tgt := 48) hx hb dX9_guard_42 (by decide) (fun hc => ?_) (fun hc => ?_)
          · have hf := jif_t hc hf
            refine lv_aload_n hx hb dX9_guard_48 rfl (lv_at hl 0 rfl) ?_
            refine gf_X9_1 C hP wk_2_180 dX9_guard_49 ?_
            refine gf_X1_6 C hP wk_1_68 dX9_guard_52 ?_
            refine lv_iconst (v := (5 : Int32)) hx hb dX9_guard_55 (by decide) ?_
            refine lv_icmp_lt (tgt := 62) hx hb dX9_guard_56 (by decide) (fun hc => ?_) (fun hc => ?_)
            · have hf := jif_t hc hf
              refine lv_aload_n hx hb dX9_guard_62 rfl (lv_at hl 0 rfl) ?_
              refine gf_X9_4 C hP wk_2_183 dX9_guard_63 ?_
              refine lv_iconst (v := (1 : Int32)) hx hb dX9_guard_66 (by decide) ?_
              refine pf_X8_3 C hP hS wk_1_179 (bz_n bz_1) dX9_guard_67 hf (fun H locs s9 hf hP hS => ?_)
              refine lv_aload_n hx hb dX9_guard_70 rfl (lv_at hl 0 rfl) ?_
              refine gf_X9_1 C hP wk_2_180 dX9_guard_71 ?_
              refine lv_iload_n hx hb dX9_guard_74 rfl (lv_at hl 1 rfl) ?_
              refine lv_iload_n hx hb dX9_guard_75 rfl (lv_at hl 2 rfl) ?_
              refine lv_iload_n hx hb dX9_guard_76 rfl (lv_at hl 3 rfl) ?_
              refine lv_bipush (v := (10 : Int32)) hx hb dX9_guard_77 (by decide) ?_
              refine lv_idiv hx hb dX9_guard_79 (by decide) ?_
              refine lv_iload_n hx hb dX9_guard_80 rfl (lv_at hl 3 rfl) ?_
              refine lv_bipush (v := (10 : Int32)) hx hb dX9_guard_81 (by decide) ?_
              refine r_irem C dX9_guard_83 (by decide) ?_
              refine lv_iload hx hb dX9_guard_84 (lv_at hl 4 rfl) ?_
              obtain ⟨y10, s11, hc, hf⟩ := jbp_e hf
              refine r_ci (r_runV (As := [.int x1, .int x2, .int (x3 / (10 : Int32)), .int (jrem x3 (10 : Int32)), .int x4]) (rest := []) C hP hS (va_recv C.hK hP (q0 := 2) (ci := 1) rfl (by rw [g_at oX_1.1, oX_1.2])) (k_X1_add (l := l) O hc) mw_X1_add mi_X1_add mv_X1_add wk_3_59 ⟨Nat.le_of_ble_eq_true rfl, Nat.le_of_ble_eq_true rfl⟩ ⟨rfl, rfl⟩ ⟨Nat.zero_le _, Nat.zero_le _⟩ rfl hl.1 rfl (Nat.le_of_ble_eq_true rfl) dX9_guard_86) hS (fun H locs hP hS => ?_)
              exact ret_i C hP hS (Prod.mk.inj (Option.some.inj hf)).1 (Prod.mk.inj (Option.some.inj hf)).2 dX9_guard_89
            · have hf := jif_f hc hf
              refine lv_bipush (v := (-4 : Int32)) hx hb dX9_guard_59 (by decide) ?_
              exact ret_i C hP hS (Prod.mk.inj (Option.some.inj hf)).1 (Prod.mk.inj (Option.some.inj hf)).2 dX9_guard_61
          · have hf := jif_f hc hf
            refine lv_bipush (v := (-2 : Int32)) hx hb dX9_guard_45 (by decide) ?_
            exact ret_i C hP hS (Prod.mk.inj (Option.some.inj hf)).1 (Prod.mk.inj (Option.some.inj hf)).2 dX9_guard_47
        · have hf := jif_n hc hf
          refine lv_bipush (v := (-2 : Int32)) hx hb dX9_guard_34 (by decide) ?_
          exact ret_i C hP hS (Prod.mk.inj (Option.some.inj hf)).1 (Prod.mk.inj (Option.some.inj hf)).2 dX9_guard_36
set_option maxHeartbeats 4000000 in
set_option maxRecDepth 100000 in
theorem k_X9_set {l : Launch} {a : Nat → Nat} {cy : Nat → ClassId} {D : va_G} {ad : Nat → Nat} {A : Nat → Prop} (O : WO NX a (EHX ad A) A) {x1 : Int32} {x2 : Int32} {x3 : Int32} {r : Int32} {σ : ST} {σ' : ST} (hf : f_X9_set x1 x2 x3 σ = some (r, σ')) : Met l yX9_set (Cond.code yX9_set cX9_set 6 (some .int) :: WS) (rmk 2 42) (PC [.ref (a 0), .int x1, .int x2, .int x3] NX eX a cy D (EHX ad A) σ) (QI NX eX a cy D A r σ') 0 0 A := by
  refine met_go (own := "GuardsLookLeft") O (by decide +kernel) rfl (Nat.le_of_ble_eq_true rfl) ?_
  intro p e s m args below meth c ls C hP hS hl
  have hx := C.hx
  have hb := C.hb
  have hl : lv_has ls 6 [(0, .ref (a 0)), (1, .int x1), (2, .int x2), (3, .int x3)] := hl
  obtain ⟨H, hH⟩ : ∃ H, H = s.heap := ⟨_, rfl⟩
  rw [← hH] at hP
  have hS : va_S A s.heap H [] := by rw [hH]; exact va_S.rf
  suffices g : W p l e (rmk 2 42) s m args below meth c H [] 0 0 (MQ below (QI NX eX a cy D A r σ') args s 0 0 A) (F0 m 0 ls []) by rw [hH] at g; exact g
  clear hH
  obtain ⟨locs, hlocs⟩ : ∃ z : List Loc, z = [] := ⟨_, rfl⟩
  rw [← hlocs] at hS ⊢
  have hL60 : (∀ (v1 : Int32) (v3 : Int32) (o07 : Nat) (ho07 : 19 ≤ o07 ∧ o07 < 21) (s0 : ST) (H : Heap) (locs : List Loc) (ls : Array Slot), f_X9_set_L60 v1 v3 o07 s0 = some (r, σ') → va_P D vwCl (wG NX eX a cy s0) H → va_S A s.heap H locs → lv_has ls 6 [(0, .ref (a 0)), (1, .int v1), (3, .int v3)] → W p l e (rmk 2 42) s m args below meth c H locs 0 0 (MQ below (QI NX eX a cy D A r σ') args s 0 0 A) (F0 m 60 ls [.ref (a o07)])) := by
    intro v1 v3 o07 ho07 s0 H locs ls hf hP hS hl
    refine lv_astore (lv' := [(4, .ref (a o07)), (0, .ref (a 0)), (1, .int v1), (3, .int v3)]) hx hb dX9_set_60 hl (by decide) rfl (fun ls hl => ?_)
    refine lv_aload hx hb dX9_set_62 (lv_at hl 0 rfl) ?_
    refine lv_iload_n hx hb dX9_set_64 rfl (lv_at hl 2 rfl) ?_
    obtain ⟨hi1, hf⟩ := jix_e hf
    refine r_iald C hP (fX_19 ho07) hi1 dX9_set_65 ?_
    refine jl_topi hf (fun y2 hf => ?_)
    refine lv_istore (lv' := [(5, .int y2), (4, .ref (a o07)), (0, .ref (a 0)), (1, .int v1), (3, .int v3)]) hx hb dX9_set_66 hl (by decide) rfl (fun ls hl => ?_)
    refine lv_aload hx hb dX9_set_68 (lv_at hl 1 rfl) ?_
    refine lv_iload_n hx hb dX9_set_70 rfl (lv_at hl 3 rfl) ?_
    refine lv_iload_n hx hb dX9_set_71 rfl (lv_at hl 4 rfl) ?_
    obtain ⟨hi3, hf⟩ := jix_e hf
    refine r_iast C hP hS (fX_19 ho07) hi3 dX9_set_72 hf (fun H locs s4 hf hP hS => ?_)
    refine lv_aload_n hx hb dX9_set_73 rfl (lv_at hl 2 rfl) ?_
    refine gf_X9_4 C hP wk_2_183 dX9_set_74 ?_
    refine lv_iconst (v := (1 : Int32)) hx hb dX9_set_77 (by decide) ?_
    refine pf_X8_3 C hP hS wk_1_179 (bz_n bz_1) dX9_set_78 hf (fun H locs s5 hf hP hS => ?_)
    refine lv_iload hx hb dX9_set_81 (lv_at hl 0 rfl) ?_
    exact ret_i C hP hS (Prod.mk.inj (Option.some.inj hf)).1 (Prod.mk.inj (Option.some.inj hf)).2 dX9_set_83
  have hL30 : (∀ (v1 : Int32) (v2 : Int32) (v3 : Int32) (t0 : Int32) (t1 : Int32) (s0 : ST) (H : Heap) (locs : List Loc) (ls : Array Slot), f_X9_set_L30 v1 v2 v3 t0 t1 s0 = some (r, σ') → va_P D vwCl (wG NX eX a cy s0) H → va_S A s.heap H locs → lv_has ls 6 [(0, .ref (a 0)), (1, .int v1), (2, .int v2), (3, .int v3)] → W p l e (rmk 2 42) s m args below meth c H locs 0 0 (MQ below (QI NX eX a cy D A r σ') args s 0 0 A) (F0 m 30 ls [.int t1, .int t0])) := by
    intro v1 v2 v3 t0 t1 s0 H locs ls hf hP hS hl
    refine r_cz (r_runS (As := [.int t0, .int t1]) (rest := []) C hP hS (k_X9_isWithin (l := l) O (σ := s0) rfl) mw_X9_isWithin ms_X9_isWithin wk_2_215 ⟨Nat.le_of_ble_eq_true rfl, Nat.le_of_ble_eq_true rfl⟩ ⟨rfl, rfl⟩ ⟨Nat.zero_le _, Nat.zero_le _⟩ rfl hl.1 rfl (Nat.le_of_ble_eq_true rfl) dX9_set_30) hS (fun H locs hzy1 hP hS => ?_)
    refine jl_topz hf hzy1 (fun y1 hzy1 hf => ?_)
    refine lv_if_ne (tgt := 39) hx hb dX9_set_33 (by decide) (fun hc => ?_) (fun hc => ?_)
    · have hf := jif_t hc hf
      refine lv_iload_n hx hb dX9_set_39 rfl (lv_at hl 2 rfl) ?_
      refine lv_if_ne (tgt := 53) hx hb dX9_set_40 (by decide) (fun hc => ?_) (fun hc => ?_)
      · have hf := jif_t hc hf
        refine lv_aload_n hx hb dX9_set_53 rfl (lv_at hl 0 rfl) ?_
        refine gf_X9_1 C hP wk_2_180 dX9_set_54 ?_
        refine gf_X1_4 C hP wk_1_60 dX9_set_57 ?_
        exact hL60 v1 v3 19 (by decide) s0 H locs ls hf hP hS (lv_sub hl [0, 1, 3] rfl)
      · have hf := jif_n hc hf
        refine lv_aload_n hx hb dX9_set_43 rfl (lv_at hl 0 rfl) ?_
        refine gf_X9_1 C hP wk_2_180 dX9_set_44 ?_
        refine gf_X1_5 C hP wk_1_64 dX9_set_47 ?_
        refine lv_goto (tgt := 60) hx hb dX9_set_50 (by decide) ?_
        exact hL60 v1 v3 20 (by decide) s0 H locs ls hf hP hS (lv_sub hl [0, 1, 3] rfl)
    · have hf := jif_n hc hf
      refine lv_bipush (v := (-7 : Int32)) hx hb dX9_set_36 (by decide) ?_
      exact ret_i C hP hS (Prod.mk.inj (Option.some.inj hf)).1 (Prod.mk.inj (Option.some.inj hf)).2 dX9_set_38
  refine lv_aload_n hx hb dX9_set_0 rfl (lv_at hl 0 rfl) ?_
  refine lv_iload_n hx hb dX9_set_1 rfl (lv_at hl 1 rfl) ?_
  refine r_cz (r_runV (As := [.int x1]) (rest := []) C hP hS (va_recv C.hK hP (q0 := 0) (ci := 9) rfl (by rw [g_at oX_9.1, oX_9.2])) (k_X9_isGuard (l := l) O (σ := σ) rfl) mw_X9_isGuard mi_X9_isGuard mv_X9_isGuard wk_3_67 ⟨Nat.le_of_ble_eq_true rfl, Nat.le_of_ble_eq_true rfl⟩ ⟨rfl, rfl⟩ ⟨Nat.zero_le _, Nat.zero_le _⟩ rfl hl.1 rfl (Nat.le_of_ble_eq_true rfl) dX9_set_2) hS (fun H locs hzy1 hP hS => ?_)
  refine jl_topz hf hzy1 (fun y1 hzy1 hf => ?_)
  refine lv_if_ne (tgt := 11) hx hb dX9_set_5 (by decide) (fun hc => ?_) (fun hc => ?_)
  · have hf := jif_t hc hf
    refine lv_iload_n hx hb dX9_set_11 rfl (lv_at hl 2 rfl) ?_
    refine lv_iconst (v := (1 : Int32)) hx hb dX9_set_12 (by decide) ?_
    refine r_cz (r_runS (As := [.int x2, .int (1 : Int32)]) (rest := []) C hP hS (k_X9_isWithin (l := l) O (σ := σ) rfl) mw_X9_isWithin ms_X9_isWithin wk_2_215 ⟨Nat.le_of_ble_eq_true rfl, Nat.le_of_ble_eq_true rfl⟩ ⟨rfl, rfl⟩ ⟨Nat.zero_le _, Nat.zero_le _⟩ rfl hl.1 rfl (Nat.le_of_ble_eq_true rfl) dX9_set_13) hS (fun H locs hzy3 hP hS => ?_)
    refine jl_topz hf hzy3 (fun y3 hzy3 hf => ?_)
    refine lv_if_eq (tgt := 36) hx hb dX9_set_16 (by decide) (fun hc => ?_) (fun hc => ?_)
    · have hf := jif_t hc hf
      refine lv_bipush (v := (-7 : Int32)) hx hb dX9_set_36 (by decide) ?_
      exact ret_i C hP hS (Prod.mk.inj (Option.some.inj hf)).1 (Prod.mk.inj (Option.some.inj hf)).2 dX9_set_38
    · have hf := jif_f hc hf
      refine lv_iload_n hx hb dX9_set_19 rfl (lv_at hl 3 rfl) ?_
      refine lv_iload_n hx hb dX9_set_20 rfl (lv_at hl 2 rfl) ?_
      refine lv_if_ne (tgt := 29) hx hb dX9_set_21 (by decide) (fun hc => ?_) (fun hc => ?_)
      · have hf := jif_t hc hf
        refine lv_iconst (v := (5 : Int32)) hx hb dX9_set_29 (by decide) ?_
        exact hL30 x1 x2 x3 x3 (5 : Int32) σ H locs ls hf hP hS (lv_sub hl [0, 1, 2, 3] rfl)
      · have hf := jif_n hc hf
        refine lv_bipush (v := (23 : Int32)) hx hb dX9_set_24 (by decide) ?_
        refine lv_goto (tgt := 30) hx hb dX9_set_26 (by decide) ?_
        exact hL30 x1 x2 x3 x3 (23 : Int32) σ H locs ls hf hP hS (lv_sub hl [0, 1, 2, 3] rfl)
  · have hf := jif_n hc hf
    refine lv_bipush (v := (-5 : Int32)) hx hb dX9_set_8 (by decide) ?_
    exact ret_i C hP hS (Prod.mk.inj (Option.some.inj hf)).1 (Prod.mk.inj (Option.some.inj hf)).2 dX9_set_10
set_option maxHeartbeats 4000000 in
set_option maxRecDepth 100000 in
theorem k_X9_guardTold {l : Launch} {a : Nat → Nat} {cy : Nat → ClassId} {D : va_G} {ad : Nat → Nat} {A : Nat → Prop} (O : WO NX a (EHX ad A) A) {x1 : Int32} {x2 : Int32} {r : Int32} {σ : ST} (hf : f_X9_guardTold x1 x2 σ = some r) : Met l yX9_guardTold (Cond.code yX9_guardTold cX9_guardTold 3 (some .int) :: WS) (rmk 2 42) (PC [.ref (a 0), .int x1, .int x2] NX eX a cy D (EHX ad A) σ) (QI NX eX a cy D A r σ) 0 0 A := by
  refine met_go (own := "GuardsLookLeft") O (by decide +kernel) rfl (Nat.le_of_ble_eq_true rfl) ?_
  intro p e s m args below meth c ls C hP hS hl
  have hx := C.hx
  have hb := C.hb
  have hl : lv_has ls 3 [(0, .ref (a 0)), (1, .int x1), (2, .int x2)] := hl
  obtain ⟨H, hH⟩ : ∃ H, H = s.heap := ⟨_, rfl⟩
  rw [← hH] at hP
  have hS : va_S A s.heap H [] := by rw [hH]; exact va_S.rf
  suffices g : W p l e (rmk 2 42) s m args below meth c H [] 0 0 (MQ below (QI NX eX a cy D A r σ) args s 0 0 A) (F0 m 0 ls []) by rw [hH] at g; exact g
  clear hH
  obtain ⟨locs, hlocs⟩ : ∃ z : List Loc, z = [] := ⟨_, rfl⟩
  rw [← hlocs] at hS ⊢
  refine lv_aload_n hx hb dX9_guardTold_0 rfl (lv_at hl 0 rfl) ?_
  refine lv_iload_n hx hb dX9_guardTold_1 rfl (lv_at hl 1 rfl) ?_
  refine r_cz (r_runV (As := [.int x1]) (rest := []) C hP hS (va_recv C.hK hP (q0 := 0) (ci := 9) rfl (by rw [g_at oX_9.1, oX_9.2])) (k_X9_isGuard (l := l) O (σ := σ) rfl) mw_X9_isGuard mi_X9_isGuard mv_X9_isGuard wk_3_67 ⟨Nat.le_of_ble_eq_true rfl, Nat.le_of_ble_eq_true rfl⟩ ⟨rfl, rfl⟩ ⟨Nat.zero_le _, Nat.zero_le _⟩ rfl hl.1 rfl (Nat.le_of_ble_eq_true rfl) dX9_guardTold_2) hS (fun H locs hzy1 hP hS => ?_)
  refine jl_topz hf hzy1 (fun y1 hzy1 hf => ?_)
  refine lv_if_ne (tgt := 11) hx hb dX9_guardTold_5 (by decide) (fun hc => ?_) (fun hc => ?_)
  · have hf := jif_t hc hf
    refine lv_iload_n hx hb dX9_guardTold_11 rfl (lv_at hl 2 rfl) ?_
    by_cases hk100 : x2 = (0 : Int32)
    · have hf := jif_t hk100 hf
      refine sw_in (k := (0 : Int32)) (tgt := 52) C hk100 dX9_guardTold_12 (by decide) (by decide) rfl (by decide) ?_
      refine lv_aload_n hx hb dX9_guardTold_52 rfl (lv_at hl 0 rfl) ?_
      refine gf_X9_1 C hP wk_2_180 dX9_guardTold_53 ?_
      refine gf_X1_5 C hP wk_1_64 dX9_guardTold_56 ?_
      refine lv_iload_n hx hb dX9_guardTold_59 rfl (lv_at hl 1 rfl) ?_
      obtain ⟨hi3, hf⟩ := jix_e hf
      refine r_iald C hP aX_20 hi3 dX9_guardTold_60 ?_
      exact ret_i C hP hS (Option.some.inj hf) rfl dX9_guardTold_61
    · have hf := jif_f hk100 hf
      by_cases hk101 : x2 = (1 : Int32)
      · have hf := jif_t hk101 hf
        refine sw_in (k := (1 : Int32)) (tgt := 62) C hk101 dX9_guardTold_12 (by decide) (by decide) rfl (by decide) ?_
        refine lv_aload_n hx hb dX9_guardTold_62 rfl (lv_at hl 0 rfl) ?_
        refine gf_X9_1 C hP wk_2_180 dX9_guardTold_63 ?_
        refine gf_X1_4 C hP wk_1_60 dX9_guardTold_66 ?_
        refine lv_iload_n hx hb dX9_guardTold_69 rfl (lv_at hl 1 rfl) ?_
        obtain ⟨hi4, hf⟩ := jix_e hf
        refine r_iald C hP aX_19 hi4 dX9_guardTold_70 ?_
        exact ret_i C hP hS (Option.some.inj hf) rfl dX9_guardTold_71
      · have hf := jif_f hk101 hf
        by_cases hk102 : x2 = (2 : Int32)
        · have hf := jif_t hk102 hf
          refine sw_in (k := (2 : Int32)) (tgt := 72) C hk102 dX9_guardTold_12 (by decide) (by decide) rfl (by decide) ?_
          refine lv_aload_n hx hb dX9_guardTold_72 rfl (lv_at hl 0 rfl) ?_
          refine gf_X9_1 C hP wk_2_180 dX9_guardTold_73 ?_
          refine gf_X1_0 C hP wk_1_50 dX9_guardTold_76 ?_
          refine lv_iload_n hx hb dX9_guardTold_79 rfl (lv_at hl 1 rfl) ?_
          obtain ⟨hi5, hf⟩ := jix_e hf
          refine r_iald C hP aX_15 hi5 dX9_guardTold_80 ?_
          exact ret_i C hP hS (Option.some.inj hf) rfl dX9_guardTold_81
        · have hf := jif_f hk102 hf
          by_cases hk103 : x2 = (3 : Int32)
          · have hf := jif_t hk103 hf
            refine sw_in (k := (3 : Int32)) (tgt := 82) C hk103 dX9_guardTold_12 (by decide) (by decide) rfl (by decide) ?_
            refine lv_aload_n hx hb dX9_guardTold_82 rfl (lv_at hl 0 rfl) ?_
            refine gf_X9_1 C hP wk_2_180 dX9_guardTold_83 ?_
            refine gf_X1_1 C hP wk_1_52 dX9_guardTold_86 ?_
            refine lv_iload_n hx hb dX9_guardTold_89 rfl (lv_at hl 1 rfl) ?_
            obtain ⟨hi6, hf⟩ := jix_e hf
            refine r_iald C hP aX_16 hi6 dX9_guardTold_90 ?_
            exact ret_i C hP hS (Option.some.inj hf) rfl dX9_guardTold_91
          · have hf := jif_f hk103 hf
            by_cases hk104 : x2 = (4 : Int32)
            · have hf := jif_t hk104 hf
              refine sw_in (k := (4 : Int32)) (tgt := 92) C hk104 dX9_guardTold_12 (by decide) (by decide) rfl (by decide) ?_
              refine lv_aload_n hx hb dX9_guardTold_92 rfl (lv_at hl 0 rfl) ?_
              refine gf_X9_1 C hP wk_2_180 dX9_guardTold_93 ?_
              refine gf_X1_2 C hP wk_1_54 dX9_guardTold_96 ?_
              refine lv_iload_n hx hb dX9_guardTold_99 rfl (lv_at hl 1 rfl) ?_
              obtain ⟨hi7, hf⟩ := jix_e hf
              refine r_iald C hP aX_17 hi7 dX9_guardTold_100 ?_
              exact ret_i C hP hS (Option.some.inj hf) rfl dX9_guardTold_101
            · have hf := jif_f hk104 hf
              by_cases hk105 : x2 = (5 : Int32)
              · have hf := jif_t hk105 hf
                refine sw_in (k := (5 : Int32)) (tgt := 102) C hk105 dX9_guardTold_12 (by decide) (by decide) rfl (by decide) ?_
                refine lv_aload_n hx hb dX9_guardTold_102 rfl (lv_at hl 0 rfl) ?_
                refine gf_X9_1 C hP wk_2_180 dX9_guardTold_103 ?_
                refine gf_X1_3 C hP wk_1_57 dX9_guardTold_106 ?_
                refine lv_iload_n hx hb dX9_guardTold_109 rfl (lv_at hl 1 rfl) ?_
                obtain ⟨hi8, hf⟩ := jix_e hf
                refine r_iald C hP aX_18 hi8 dX9_guardTold_110 ?_
                exact ret_i C hP hS (Option.some.inj hf) rfl dX9_guardTold_111
              · have hf := jif_f hk105 hf
                refine lv_tableOut (tgt := 112) hx hb dX9_guardTold_12 (by have q100 := lv_neT hk100 (a := 0) (by decide); have q101 := lv_neT hk101 (a := 1) (by decide); have q102 := lv_neT hk102 (a := 2) (by decide); have q103 := lv_neT hk103 (a := 3) (by decide); have q104 := lv_neT hk104 (a := 4) (by decide); have q105 := lv_neT hk105 (a := 5) (by decide); omega) (by decide) ?_
                refine lv_bipush (v := (-7 : Int32)) hx hb dX9_guardTold_112 (by decide) ?_
                exact ret_i C hP hS (Option.some.inj hf) rfl dX9_guardTold_114
  · have hf := jif_n hc hf
    refine lv_bipush (v := (-5 : Int32)) hx hb dX9_guardTold_8 (by decide) ?_
    exact ret_i C hP hS (Option.some.inj hf) rfl dX9_guardTold_10
set_option maxHeartbeats 4000000 in
set_option maxRecDepth 100000 in
theorem k_X9_at {l : Launch} {a : Nat → Nat} {cy : Nat → ClassId} {D : va_G} {ad : Nat → Nat} {A : Nat → Prop} (O : WO NX a (EHX ad A) A) {x1 : Int32} {x2 : Int32} {x3 : Int32} {r : Int32} {σ : ST} {σ' : ST} (hf : f_X9_at x1 x2 x3 σ = some (r, σ')) : Met l yX9_at (Cond.code yX9_at cX9_at 4 (some .int) :: WS) (rmk 3 75) (PC [.ref (a 0), .int x1, .int x2, .int x3] NX eX a cy D (EHX ad A) σ) (QI NX eX a cy D A r σ') 0 0 A := by
  refine met_go (own := "GuardsLookLeft") O (by decide +kernel) rfl (Nat.le_of_ble_eq_true rfl) ?_
  intro p e s m args below meth c ls C hP hS hl
  have hx := C.hx
  have hb := C.hb
  have hl : lv_has ls 4 [(0, .ref (a 0)), (1, .int x1), (2, .int x2), (3, .int x3)] := hl
  obtain ⟨H, hH⟩ : ∃ H, H = s.heap := ⟨_, rfl⟩
  rw [← hH] at hP
  have hS : va_S A s.heap H [] := by rw [hH]; exact va_S.rf
  suffices g : W p l e (rmk 3 75) s m args below meth c H [] 0 0 (MQ below (QI NX eX a cy D A r σ') args s 0 0 A) (F0 m 0 ls []) by rw [hH] at g; exact g
  clear hH
  obtain ⟨locs, hlocs⟩ : ∃ z : List Loc, z = [] := ⟨_, rfl⟩
  rw [← hlocs] at hS ⊢
  refine lv_aload_n hx hb dX9_at_0 rfl (lv_at hl 0 rfl) ?_
  refine lv_iload_n hx hb dX9_at_1 rfl (lv_at hl 1 rfl) ?_
  refine r_cz (r_runV (As := [.int x1]) (rest := []) C hP hS (va_recv C.hK hP (q0 := 0) (ci := 9) rfl (by rw [g_at oX_9.1, oX_9.2])) (k_X9_isGuard (l := l) O (σ := σ) rfl) mw_X9_isGuard mi_X9_isGuard mv_X9_isGuard wk_3_67 ⟨Nat.le_of_ble_eq_true rfl, Nat.le_of_ble_eq_true rfl⟩ ⟨rfl, rfl⟩ ⟨Nat.zero_le _, Nat.zero_le _⟩ rfl hl.1 rfl (Nat.le_of_ble_eq_true rfl) dX9_at_2) hS (fun H locs hzy1 hP hS => ?_)
  refine jl_topz hf hzy1 (fun y1 hzy1 hf => ?_)
  refine lv_if_ne (tgt := 11) hx hb dX9_at_5 (by decide) (fun hc => ?_) (fun hc => ?_)
  · have hf := jif_t hc hf
    refine lv_iload_n hx hb dX9_at_11 rfl (lv_at hl 2 rfl) ?_
    refine r_cz (r_runS (As := [.int x2]) (rest := []) C hP hS (k_X9_isSecond (l := l) O (σ := σ) rfl) mw_X9_isSecond ms_X9_isSecond wk_3_27 ⟨Nat.le_of_ble_eq_true rfl, Nat.le_of_ble_eq_true rfl⟩ ⟨rfl, rfl⟩ ⟨Nat.zero_le _, Nat.zero_le _⟩ rfl hl.1 rfl (Nat.le_of_ble_eq_true rfl) dX9_at_12) hS (fun H locs hzy3 hP hS => ?_)
    refine jl_topz hf hzy3 (fun y3 hzy3 hf => ?_)
    refine lv_if_eq (tgt := 26) hx hb dX9_at_15 (by decide) (fun hc => ?_) (fun hc => ?_)
    · have hf := jif_t hc hf
      refine lv_bipush (v := (-7 : Int32)) hx hb dX9_at_26 (by decide) ?_
      exact ret_i C hP hS (Prod.mk.inj (Option.some.inj hf)).1 (Prod.mk.inj (Option.some.inj hf)).2 dX9_at_28
    · have hf := jif_f hc hf
      refine lv_iload_n hx hb dX9_at_18 rfl (lv_at hl 3 rfl) ?_
      refine lv_iconst (v := (2 : Int32)) hx hb dX9_at_19 (by decide) ?_
      refine r_cz (r_runS (As := [.int x3, .int (2 : Int32)]) (rest := []) C hP hS (k_X9_isWithin (l := l) O (σ := σ) rfl) mw_X9_isWithin ms_X9_isWithin wk_2_215 ⟨Nat.le_of_ble_eq_true rfl, Nat.le_of_ble_eq_true rfl⟩ ⟨rfl, rfl⟩ ⟨Nat.zero_le _, Nat.zero_le _⟩ rfl hl.1 rfl (Nat.le_of_ble_eq_true rfl) dX9_at_20) hS (fun H locs hzy5 hP hS => ?_)
      refine jl_topz hf hzy5 (fun y5 hzy5 hf => ?_)
      refine lv_if_ne (tgt := 29) hx hb dX9_at_23 (by decide) (fun hc => ?_) (fun hc => ?_)
      · have hf := jif_t hc hf
        refine lv_aload_n hx hb dX9_at_29 rfl (lv_at hl 0 rfl) ?_
        refine gf_X9_1 C hP wk_2_180 dX9_at_30 ?_
        refine lv_iload_n hx hb dX9_at_33 rfl (lv_at hl 1 rfl) ?_
        refine lv_iload_n hx hb dX9_at_34 rfl (lv_at hl 2 rfl) ?_
        refine lv_aload_n hx hb dX9_at_35 rfl (lv_at hl 0 rfl) ?_
        refine gf_X9_0 C hP wk_2_179 dX9_at_36 ?_
        refine gf_X3_0 C hP wk_1_38 dX9_at_39 ?_
        refine lv_iconst (v := (0 : Int32)) hx hb dX9_at_42 (by decide) ?_
        refine r_lald C hP aX_14 (vp_lit (by decide)) dX9_at_43 ?_
        obtain ⟨s8, hc, hf⟩ := jb_e hf
        refine r_cv (r_runV (As := [.int x1, .int x2, .long (gB σ 14 (Int32.toNatClampNeg (0 : Int32)))]) (rest := []) C hP hS (va_recv C.hK hP (q0 := 2) (ci := 1) rfl (by rw [g_at oX_1.1, oX_1.2])) (k_X1_walk (l := l) O hc) mw_X1_walk mi_X1_walk mv_X1_walk wk_3_79 ⟨Nat.le_of_ble_eq_true rfl, Nat.le_of_ble_eq_true rfl⟩ ⟨rfl, rfl⟩ ⟨Nat.zero_le _, Nat.zero_le _⟩ rfl hl.1 rfl (Nat.le_of_ble_eq_true rfl) dX9_at_44) hS (fun H locs hP hS => ?_)
        refine lv_iload_n hx hb dX9_at_47 rfl (lv_at hl 3 rfl) ?_
        by_cases hk100 : x3 = (0 : Int32)
        · have hf := jif_t hk100 hf
          refine sw_lk (k := (0 : Int32)) (off := 28) (tgt := 76) C hk100 dX9_at_48 (by decide) (by decide) (by decide) ?_
          refine lv_aload_n hx hb dX9_at_76 rfl (lv_at hl 0 rfl) ?_
          refine gf_X9_1 C hP wk_2_180 dX9_at_77 ?_
          refine gf_X1_7 C hP wk_1_71 dX9_at_80 ?_
          exact ret_i C hP hS (Prod.mk.inj (Option.some.inj hf)).1 (Prod.mk.inj (Option.some.inj hf)).2 dX9_at_83
        · have hf := jif_f hk100 hf
          by_cases hk101 : x3 = (1 : Int32)
          · have hf := jif_t hk101 hf
            refine sw_lk (k := (1 : Int32)) (off := 36) (tgt := 84) C hk101 dX9_at_48 (by decide) (by decide) (by decide) ?_
            refine lv_aload_n hx hb dX9_at_84 rfl (lv_at hl 0 rfl) ?_
            refine gf_X9_1 C hP wk_2_180 dX9_at_85 ?_
            refine gf_X1_8 C hP wk_1_74 dX9_at_88 ?_
            exact ret_i C hP hS (Prod.mk.inj (Option.some.inj hf)).1 (Prod.mk.inj (Option.some.inj hf)).2 dX9_at_91
          · have hf := jif_f hk101 hf
            refine lv_lookup (off := 44) (tgt := 92) hx hb dX9_at_48 (by decide) ((lv_osw hk100 (by decide)).trans ((lv_osw hk101 (by decide)).trans rfl)) (by decide) ?_
            refine lv_aload_n hx hb dX9_at_92 rfl (lv_at hl 0 rfl) ?_
            refine gf_X9_1 C hP wk_2_180 dX9_at_93 ?_
            refine gf_X1_9 C hP wk_1_77 dX9_at_96 ?_
            refine lv_if_eq (tgt := 106) hx hb dX9_at_99 (by decide) (fun hc => ?_) (fun hc => ?_)
            · have hf := jif_t hc hf
              refine lv_iconst (v := (0 : Int32)) hx hb dX9_at_106 (by decide) ?_
              exact ret_i C hP hS (Prod.mk.inj (Option.some.inj hf)).1 (Prod.mk.inj (Option.some.inj hf)).2 dX9_at_107
            · have hf := jif_f hc hf
              refine lv_iconst (v := (1 : Int32)) hx hb dX9_at_102 (by decide) ?_
              refine lv_goto (tgt := 107) hx hb dX9_at_103 (by decide) ?_
              exact ret_i C hP hS (Prod.mk.inj (Option.some.inj hf)).1 (Prod.mk.inj (Option.some.inj hf)).2 dX9_at_107
      · have hf := jif_n hc hf
        refine lv_bipush (v := (-7 : Int32)) hx hb dX9_at_26 (by decide) ?_
        exact ret_i C hP hS (Prod.mk.inj (Option.some.inj hf)).1 (Prod.mk.inj (Option.some.inj hf)).2 dX9_at_28
  · have hf := jif_n hc hf
    refine lv_bipush (v := (-5 : Int32)) hx hb dX9_at_8 (by decide) ?_
    exact ret_i C hP hS (Prod.mk.inj (Option.some.inj hf)).1 (Prod.mk.inj (Option.some.inj hf)).2 dX9_at_10
set_option maxHeartbeats 4000000 in
set_option maxRecDepth 100000 in
theorem k_X9_sees {l : Launch} {a : Nat → Nat} {cy : Nat → ClassId} {D : va_G} {ad : Nat → Nat} {A : Nat → Prop} (O : WO NX a (EHX ad A) A) {x1 : Int32} {x2 : Int32} {r : Int64} {σ : ST} {σ' : ST} (hf : f_X9_sees x1 x2 σ = some (r, σ')) : Met l yX9_sees (Cond.code yX9_sees cX9_sees 3 (some .long) :: WS) (rmk 4 114) (PC [.ref (a 0), .int x1, .int x2] NX eX a cy D (EHX ad A) σ) (QL NX eX a cy D A r σ') 0 0 A := by
  refine met_go (own := "GuardsLookLeft") O (by decide +kernel) rfl (Nat.le_of_ble_eq_true rfl) ?_
  intro p e s m args below meth c ls C hP hS hl
  have hx := C.hx
  have hb := C.hb
  have hl : lv_has ls 3 [(0, .ref (a 0)), (1, .int x1), (2, .int x2)] := hl
  obtain ⟨H, hH⟩ : ∃ H, H = s.heap := ⟨_, rfl⟩
  rw [← hH] at hP
  have hS : va_S A s.heap H [] := by rw [hH]; exact va_S.rf
  suffices g : W p l e (rmk 4 114) s m args below meth c H [] 0 0 (MQ below (QL NX eX a cy D A r σ') args s 0 0 A) (F0 m 0 ls []) by rw [hH] at g; exact g
  clear hH
  obtain ⟨locs, hlocs⟩ : ∃ z : List Loc, z = [] := ⟨_, rfl⟩
  rw [← hlocs] at hS ⊢
  have hL27 : (∀ (s0 : ST) (H : Heap) (locs : List Loc) (ls : Array Slot), f_X9_sees_L27 s0 = some (r, σ') → va_P D vwCl (wG NX eX a cy s0) H → va_S A s.heap H locs → lv_has ls 3 [] → W p l e (rmk 4 114) s m args below meth c H locs 0 0 (MQ below (QL NX eX a cy D A r σ') args s 0 0 A) (F0 m 27 ls [])) := by
    intro s0 H locs ls hf hP hS hl
    refine lv_ldc2 hx hb C.hown (C.ts _ wk_2_222) dX9_sees_27 ?_
    exact ret_l C hP hS (Prod.mk.inj (Option.some.inj hf)).1 (Prod.mk.inj (Option.some.inj hf)).2 dX9_sees_30
  refine lv_aload_n hx hb dX9_sees_0 rfl (lv_at hl 0 rfl) ?_
  refine lv_iload_n hx hb dX9_sees_1 rfl (lv_at hl 1 rfl) ?_
  refine r_cz (r_runV (As := [.int x1]) (rest := []) C hP hS (va_recv C.hK hP (q0 := 0) (ci := 9) rfl (by rw [g_at oX_9.1, oX_9.2])) (k_X9_isGuard (l := l) O (σ := σ) rfl) mw_X9_isGuard mi_X9_isGuard mv_X9_isGuard wk_3_67 ⟨Nat.le_of_ble_eq_true rfl, Nat.le_of_ble_eq_true rfl⟩ ⟨rfl, rfl⟩ ⟨Nat.zero_le _, Nat.zero_le _⟩ rfl hl.1 rfl (Nat.le_of_ble_eq_true rfl) dX9_sees_2) hS (fun H locs hzy1 hP hS => ?_)
  refine jl_topz hf hzy1 (fun y1 hzy1 hf => ?_)
  refine lv_if_eq (tgt := 27) hx hb dX9_sees_5 (by decide) (fun hc => ?_) (fun hc => ?_)
  · have hf := jif_t hc hf
    exact hL27 σ H locs ls hf hP hS (lv_sub hl [] rfl)
  · have hf := jif_f hc hf
    refine lv_iload_n hx hb dX9_sees_8 rfl (lv_at hl 2 rfl) ?_
    refine r_cz (r_runS (As := [.int x2]) (rest := []) C hP hS (k_X9_isSecond (l := l) O (σ := σ) rfl) mw_X9_isSecond ms_X9_isSecond wk_3_27 ⟨Nat.le_of_ble_eq_true rfl, Nat.le_of_ble_eq_true rfl⟩ ⟨rfl, rfl⟩ ⟨Nat.zero_le _, Nat.zero_le _⟩ rfl hl.1 rfl (Nat.le_of_ble_eq_true rfl) dX9_sees_9) hS (fun H locs hzy3 hP hS => ?_)
    refine jl_topz hf hzy3 (fun y3 hzy3 hf => ?_)
    refine lv_if_eq (tgt := 27) hx hb dX9_sees_12 (by decide) (fun hc => ?_) (fun hc => ?_)
    · have hf := jif_t hc hf
      exact hL27 σ H locs ls hf hP hS (lv_sub hl [] rfl)
    · have hf := jif_f hc hf
      refine lv_aload_n hx hb dX9_sees_15 rfl (lv_at hl 0 rfl) ?_
      refine gf_X9_4 C hP wk_2_183 dX9_sees_16 ?_
      refine lv_iload_n hx hb dX9_sees_19 rfl (lv_at hl 1 rfl) ?_
      refine lv_iload_n hx hb dX9_sees_20 rfl (lv_at hl 2 rfl) ?_
      obtain ⟨y5, s6, hc, hf⟩ := jbp_e hf
      refine r_cl (r_runV (As := [.int x1, .int x2]) (rest := []) C hP hS (va_recv C.hK hP (q0 := 5) (ci := 8) rfl (by rw [g_at oX_8.1, oX_8.2])) (k_X8_sight (l := l) O hc) mw_X8_sight mi_X8_sight mv_X8_sight wk_3_104 ⟨Nat.le_of_ble_eq_true rfl, Nat.le_of_ble_eq_true rfl⟩ ⟨rfl, rfl⟩ ⟨Nat.zero_le _, Nat.zero_le _⟩ rfl hl.1 rfl (Nat.le_of_ble_eq_true rfl) dX9_sees_21) hS (fun H locs hP hS => ?_)
      refine lv_goto (tgt := 30) hx hb dX9_sees_24 (by decide) ?_
      exact ret_l C hP hS (Prod.mk.inj (Option.some.inj hf)).1 (Prod.mk.inj (Option.some.inj hf)).2 dX9_sees_30
set_option maxHeartbeats 4000000 in
set_option maxRecDepth 100000 in
theorem k_X9_seenNow {l : Launch} {a : Nat → Nat} {cy : Nat → ClassId} {D : va_G} {ad : Nat → Nat} {A : Nat → Prop} (O : WO NX a (EHX ad A) A) {σ : ST} {σ' : ST} (hf : f_X9_seenNow σ = some σ') : Met l yX9_seenNow (Cond.code yX9_seenNow cX9_seenNow 1 (some (.array .long)) :: WS) (rmk 5 138) (PC [.ref (a 0)] NX eX a cy D (EHX ad A) σ) (QR NX eX a cy D A (a 40) σ') 0 0 A := by
  refine met_go (own := "GuardsLookLeft") O (by decide +kernel) rfl (Nat.le_of_ble_eq_true rfl) ?_
  intro p e s m args below meth c ls C hP hS hl
  have hx := C.hx
  have hb := C.hb
  have hl : lv_has ls 1 [(0, .ref (a 0))] := hl
  obtain ⟨H, hH⟩ : ∃ H, H = s.heap := ⟨_, rfl⟩
  rw [← hH] at hP
  have hS : va_S A s.heap H [] := by rw [hH]; exact va_S.rf
  suffices g : W p l e (rmk 5 138) s m args below meth c H [] 0 0 (MQ below (QR NX eX a cy D A (a 40) σ') args s 0 0 A) (F0 m 0 ls []) by rw [hH] at g; exact g
  clear hH
  obtain ⟨locs, hlocs⟩ : ∃ z : List Loc, z = [] := ⟨_, rfl⟩
  rw [← hlocs] at hS ⊢
  refine lv_aload_n hx hb dX9_seenNow_0 rfl (lv_at hl 0 rfl) ?_
  refine gf_X9_4 C hP wk_2_183 dX9_seenNow_1 ?_
  obtain ⟨s2, hc, hf⟩ := jb_e hf
  refine r_cv (r_runV (As := []) (rest := []) C hP hS (va_recv C.hK hP (q0 := 5) (ci := 8) rfl (by rw [g_at oX_8.1, oX_8.2])) (k_X8_refresh (l := l) O hc) mw_X8_refresh mi_X8_refresh mv_X8_refresh wk_3_130 ⟨Nat.le_of_ble_eq_true rfl, Nat.le_of_ble_eq_true rfl⟩ ⟨rfl, rfl⟩ ⟨Nat.zero_le _, Nat.zero_le _⟩ rfl hl.1 rfl (Nat.le_of_ble_eq_true rfl) dX9_seenNow_4) hS (fun H locs hP hS => ?_)
  refine lv_aload_n hx hb dX9_seenNow_7 rfl (lv_at hl 0 rfl) ?_
  refine gf_X9_4 C hP wk_2_183 dX9_seenNow_8 ?_
  refine gf_X8_4 C hP wk_1_181 dX9_seenNow_11 ?_
  exact ret_r C hP hS rfl (Option.some.inj hf) dX9_seenNow_14
set_option maxHeartbeats 4000000 in
set_option maxRecDepth 100000 in
theorem k_X9_watched {l : Launch} {a : Nat → Nat} {cy : Nat → ClassId} {D : va_G} {ad : Nat → Nat} {A : Nat → Prop} (O : WO NX a (EHX ad A) A) {x1 : Int32} {r : Int64} {σ : ST} {σ' : ST} (hf : f_X9_watched x1 σ = some (r, σ')) : Met l yX9_watched (Cond.code yX9_watched cX9_watched 2 (some .long) :: WS) (rmk 6 158) (PC [.ref (a 0), .int x1] NX eX a cy D (EHX ad A) σ) (QL NX eX a cy D A r σ') 0 0 A := by
  refine met_go (own := "GuardsLookLeft") O (by decide +kernel) rfl (Nat.le_of_ble_eq_true rfl) ?_
  intro p e s m args below meth c ls C hP hS hl
  have hx := C.hx
  have hb := C.hb
  have hl : lv_has ls 2 [(0, .ref (a 0)), (1, .int x1)] := hl
  obtain ⟨H, hH⟩ : ∃ H, H = s.heap := ⟨_, rfl⟩
  rw [← hH] at hP
  have hS : va_S A s.heap H [] := by rw [hH]; exact va_S.rf
  suffices g : W p l e (rmk 6 158) s m args below meth c H [] 0 0 (MQ below (QL NX eX a cy D A r σ') args s 0 0 A) (F0 m 0 ls []) by rw [hH] at g; exact g
  clear hH
  obtain ⟨locs, hlocs⟩ : ∃ z : List Loc, z = [] := ⟨_, rfl⟩
  rw [← hlocs] at hS ⊢
  refine lv_iload_n hx hb dX9_watched_0 rfl (lv_at hl 1 rfl) ?_
  refine r_cz (r_runS (As := [.int x1]) (rest := []) C hP hS (k_X9_isSecond (l := l) O (σ := σ) rfl) mw_X9_isSecond ms_X9_isSecond wk_3_27 ⟨Nat.le_of_ble_eq_true rfl, Nat.le_of_ble_eq_true rfl⟩ ⟨rfl, rfl⟩ ⟨Nat.zero_le _, Nat.zero_le _⟩ rfl hl.1 rfl (Nat.le_of_ble_eq_true rfl) dX9_watched_1) hS (fun H locs hzy1 hP hS => ?_)
  refine jl_topz hf hzy1 (fun y1 hzy1 hf => ?_)
  refine lv_if_eq (tgt := 16) hx hb dX9_watched_4 (by decide) (fun hc => ?_) (fun hc => ?_)
  · have hf := jif_t hc hf
    refine lv_ldc2 hx hb C.hown (C.ts _ wk_2_222) dX9_watched_16 ?_
    exact ret_l C hP hS (Prod.mk.inj (Option.some.inj hf)).1 (Prod.mk.inj (Option.some.inj hf)).2 dX9_watched_19
  · have hf := jif_f hc hf
    refine lv_aload_n hx hb dX9_watched_7 rfl (lv_at hl 0 rfl) ?_
    obtain ⟨s4, hc, hf⟩ := jb_e hf
    refine r_cr (r_runV (As := []) (rest := []) C hP hS (va_recv C.hK hP (q0 := 0) (ci := 9) rfl (by rw [g_at oX_9.1, oX_9.2])) (k_X9_seenNow (l := l) O hc) mw_X9_seenNow mi_X9_seenNow mv_X9_seenNow wk_3_126 ⟨Nat.le_of_ble_eq_true rfl, Nat.le_of_ble_eq_true rfl⟩ ⟨rfl, rfl⟩ ⟨Nat.zero_le _, Nat.zero_le _⟩ rfl hl.1 rfl (Nat.le_of_ble_eq_true rfl) dX9_watched_8) hS (fun H locs hP hS => ?_)
    refine lv_iload_n hx hb dX9_watched_11 rfl (lv_at hl 1 rfl) ?_
    obtain ⟨hi5, hf⟩ := jix_e hf
    refine r_lald C hP aX_40 hi5 dX9_watched_12 ?_
    refine lv_goto (tgt := 19) hx hb dX9_watched_13 (by decide) ?_
    exact ret_l C hP hS (Prod.mk.inj (Option.some.inj hf)).1 (Prod.mk.inj (Option.some.inj hf)).2 dX9_watched_19
set_option maxHeartbeats 4000000 in
set_option maxRecDepth 100000 in
theorem k_X9_alone {l : Launch} {a : Nat → Nat} {cy : Nat → ClassId} {D : va_G} {ad : Nat → Nat} {A : Nat → Prop} (O : WO NX a (EHX ad A) A) {x1 : Int32} {r : Int32} {σ : ST} {σ' : ST} (hf : f_X9_alone x1 σ = some (r, σ')) : Met l yX9_alone (Cond.code yX9_alone cX9_alone 5 (some .int) :: WS) (rmk 6 158) (PC [.ref (a 0), .int x1] NX eX a cy D (EHX ad A) σ) (QI NX eX a cy D A r σ') 0 0 A := by
  refine met_go (own := "GuardsLookLeft") O (by decide +kernel) rfl (Nat.le_of_ble_eq_true rfl) ?_
  intro p e s m args below meth c ls C hP hS hl
  have hx := C.hx
  have hb := C.hb
  have hl : lv_has ls 5 [(0, .ref (a 0)), (1, .int x1)] := hl
  obtain ⟨H, hH⟩ : ∃ H, H = s.heap := ⟨_, rfl⟩
  rw [← hH] at hP
  have hS : va_S A s.heap H [] := by rw [hH]; exact va_S.rf
  suffices g : W p l e (rmk 6 158) s m args below meth c H [] 0 0 (MQ below (QI NX eX a cy D A r σ') args s 0 0 A) (F0 m 0 ls []) by rw [hH] at g; exact g
  clear hH
  obtain ⟨locs, hlocs⟩ : ∃ z : List Loc, z = [] := ⟨_, rfl⟩
  rw [← hlocs] at hS ⊢
  have hL45 : ∀ (k20 : Int32 → Int32 → Int32 → ST → Option (Int32 × ST)) (hk20 : (∀ (v1 : Int32) (v3 : Int32) (v4 : Int32) (s0 : ST) (H : Heap) (locs : List Loc) (ls : Array Slot), k20 v1 v3 v4 s0 = some (r, σ') → va_P D vwCl (wG NX eX a cy s0) H → va_S A s.heap H locs → lv_has ls 5 [(1, .int v1), (2, .ref (a 40)), (3, .int v3), (4, .int v4)] → W p l e (rmk 6 158) s m args below meth c H locs 0 0 (MQ below (QI NX eX a cy D A r σ') args s 0 0 A) (F0 m 20 ls []))), (∀ (v1 : Int32) (v3 : Int32) (v4 : Int32) (s0 : ST) (H : Heap) (locs : List Loc) (ls : Array Slot), f_X9_alone_L45 k20 v1 v3 v4 s0 = some (r, σ') → va_P D vwCl (wG NX eX a cy s0) H → va_S A s.heap H locs → lv_has ls 5 [(1, .int v1), (2, .ref (a 40)), (3, .int v3), (4, .int v4)] → W p l e (rmk 6 158) s m args below meth c H locs 0 0 (MQ below (QI NX eX a cy D A r σ') args s 0 0 A) (F0 m 45 ls [])) := by
    intro k20 hk20 v1 v3 v4 s0 H locs ls hf hP hS hl
    obtain ⟨y1, ey1, hf⟩ := jlet_e hf
    refine lv_iinc (v := y1) (lv' := [(4, .int y1), (1, .int v1), (2, .ref (a 40)), (3, .int v3)]) hx hb dX9_alone_45 hl (k := 3) rfl ey1 (by decide) rfl (fun ls hl => ?_)
    refine lv_goto (tgt := 20) hx hb dX9_alone_48 (by decide) ?_
    exact hk20 v1 v3 y1 s0 H locs ls hf hP hS (lv_sub hl [1, 2, 3, 0] rfl)
  have hL20 : ∀ (n : Nat), (∀ (v1 : Int32) (v3 : Int32) (v4 : Int32) (s0 : ST) (H : Heap) (locs : List Loc) (ls : Array Slot), f_X9_alone_L20 n v1 v3 v4 s0 = some (r, σ') → va_P D vwCl (wG NX eX a cy s0) H → va_S A s.heap H locs → lv_has ls 5 [(1, .int v1), (2, .ref (a 40)), (3, .int v3), (4, .int v4)] → W p l e (rmk 6 158) s m args below meth c H locs 0 0 (MQ below (QI NX eX a cy D A r σ') args s 0 0 A) (F0 m 20 ls [])) := by
    intro n
    induction n with
    | zero => intro v1 v3 v4 s0 H locs ls hf hP hS hl; exact no_o hf
    | succ n ih =>
      intro v1 v3 v4 s0 H locs ls hf hP hS hl
      have hf := (ef_X9_alone_L20 _ _ _ _).symm.trans hf
      refine lv_iload hx hb dX9_alone_20 (lv_at hl 3 rfl) ?_
      refine lv_bipush (v := (24 : Int32)) hx hb dX9_alone_22 (by decide) ?_
      refine lv_icmp_ge (tgt := 51) hx hb dX9_alone_24 (by decide) (fun hc => ?_) (fun hc => ?_)
      · have hf := jif_t hc hf
        refine lv_iload_n hx hb dX9_alone_51 rfl (lv_at hl 2 rfl) ?_
        exact ret_i C hP hS (Prod.mk.inj (Option.some.inj hf)).1 (Prod.mk.inj (Option.some.inj hf)).2 dX9_alone_52
      · have hf := jif_f hc hf
        refine lv_aload_n hx hb dX9_alone_27 rfl (lv_at hl 1 rfl) ?_
        refine lv_iload hx hb dX9_alone_28 (lv_at hl 3 rfl) ?_
        obtain ⟨hi1, hf⟩ := jix_e hf
        refine r_lald C hP aX_40 hi1 dX9_alone_30 ?_
        refine lv_iload_n hx hb dX9_alone_31 rfl (lv_at hl 0 rfl) ?_
        refine r_cz (r_runS (As := [.long (gB s0 40 (Int32.toNatClampNeg v4)), .int v1]) (rest := []) C hP hS (k_X9_isIn (l := l) O (σ := s0) rfl) mw_X9_isIn ms_X9_isIn wk_2_234 ⟨Nat.le_of_ble_eq_true rfl, Nat.le_of_ble_eq_true rfl⟩ ⟨rfl, rfl⟩ ⟨Nat.zero_le _, Nat.zero_le _⟩ rfl hl.1 rfl (Nat.le_of_ble_eq_true rfl) dX9_alone_32) hS (fun H locs hzy2 hP hS => ?_)
        refine jl_topz hf hzy2 (fun y2 hzy2 hf => ?_)
        refine lv_if_ne (tgt := 45) hx hb dX9_alone_35 (by decide) (fun hc => ?_) (fun hc => ?_)
        · have hf := jif_t hc hf
          exact hL45 (f_X9_alone_L20 n) ih v1 v3 v4 s0 H locs ls hf hP hS (lv_sub hl [0, 1, 2, 3] rfl)
        · have hf := jif_n hc hf
          refine lv_iload_n hx hb dX9_alone_38 rfl (lv_at hl 2 rfl) ?_
          refine lv_iconst (v := (1 : Int32)) hx hb dX9_alone_39 (by decide) ?_
          refine lv_iload hx hb dX9_alone_40 (lv_at hl 3 rfl) ?_
          refine r_ishl C dX9_alone_42 ?_
          refine lv_ior hx hb dX9_alone_43 ?_
          refine jl_topi hf (fun y4 hf => ?_)
          refine lv_istore_n (lv' := [(3, .int y4), (1, .int v1), (2, .ref (a 40)), (4, .int v4)]) hx hb dX9_alone_44 rfl hl (by decide) rfl (fun ls hl => ?_)
          exact hL45 (f_X9_alone_L20 n) ih v1 y4 v4 s0 H locs ls hf hP hS (lv_sub hl [1, 2, 0, 3] rfl)
  refine lv_iload_n hx hb dX9_alone_0 rfl (lv_at hl 1 rfl) ?_
  refine r_cz (r_runS (As := [.int x1]) (rest := []) C hP hS (k_X9_isCell (l := l) O (σ := σ) rfl) mw_X9_isCell ms_X9_isCell wk_2_231 ⟨Nat.le_of_ble_eq_true rfl, Nat.le_of_ble_eq_true rfl⟩ ⟨rfl, rfl⟩ ⟨Nat.zero_le _, Nat.zero_le _⟩ rfl hl.1 rfl (Nat.le_of_ble_eq_true rfl) dX9_alone_1) hS (fun H locs hzy1 hP hS => ?_)
  refine jl_topz hf hzy1 (fun y1 hzy1 hf => ?_)
  refine lv_if_ne (tgt := 10) hx hb dX9_alone_4 (by decide) (fun hc => ?_) (fun hc => ?_)
  · have hf := jif_t hc hf
    refine lv_aload_n hx hb dX9_alone_10 rfl (lv_at hl 0 rfl) ?_
    obtain ⟨s4, hc, hf⟩ := jb_e hf
    refine r_cr (r_runV (As := []) (rest := []) C hP hS (va_recv C.hK hP (q0 := 0) (ci := 9) rfl (by rw [g_at oX_9.1, oX_9.2])) (k_X9_seenNow (l := l) O hc) mw_X9_seenNow mi_X9_seenNow mv_X9_seenNow wk_3_126 ⟨Nat.le_of_ble_eq_true rfl, Nat.le_of_ble_eq_true rfl⟩ ⟨rfl, rfl⟩ ⟨Nat.zero_le _, Nat.zero_le _⟩ rfl hl.1 rfl (Nat.le_of_ble_eq_true rfl) dX9_alone_11) hS (fun H locs hP hS => ?_)
    refine lv_astore_n (lv' := [(2, .ref (a 40)), (0, .ref (a 0)), (1, .int x1)]) hx hb dX9_alone_14 rfl hl (by decide) rfl (fun ls hl => ?_)
    refine lv_iconst (v := (0 : Int32)) hx hb dX9_alone_15 (by decide) ?_
    refine lv_istore_n (lv' := [(3, .int (0 : Int32)), (2, .ref (a 40)), (0, .ref (a 0)), (1, .int x1)]) hx hb dX9_alone_16 rfl hl (by decide) rfl (fun ls hl => ?_)
    refine lv_iconst (v := (0 : Int32)) hx hb dX9_alone_17 (by decide) ?_
    refine lv_istore (lv' := [(4, .int (0 : Int32)), (3, .int (0 : Int32)), (2, .ref (a 40)), (0, .ref (a 0)), (1, .int x1)]) hx hb dX9_alone_18 hl (by decide) rfl (fun ls hl => ?_)
    exact hL20 FU x1 (0 : Int32) (0 : Int32) s4 H locs ls hf hP hS (lv_sub hl [4, 2, 1, 0] rfl)
  · have hf := jif_n hc hf
    refine lv_bipush (v := (-5 : Int32)) hx hb dX9_alone_7 (by decide) ?_
    exact ret_i C hP hS (Prod.mk.inj (Option.some.inj hf)).1 (Prod.mk.inj (Option.some.inj hf)).2 dX9_alone_9
set_option maxHeartbeats 4000000 in
set_option maxRecDepth 100000 in
theorem k_X9_unseen {l : Launch} {a : Nat → Nat} {cy : Nat → ClassId} {D : va_G} {ad : Nat → Nat} {A : Nat → Prop} (O : WO NX a (EHX ad A) A) {x1 : Int32} {r : Int32} {σ : ST} {σ' : ST} (hf : f_X9_unseen x1 σ = some (r, σ')) : Met l yX9_unseen (Cond.code yX9_unseen cX9_unseen 2 (some .int) :: WS) (rmk 6 158) (PC [.ref (a 0), .int x1] NX eX a cy D (EHX ad A) σ) (QI NX eX a cy D A r σ') 0 0 A := by
  refine met_go (own := "GuardsLookLeft") O (by decide +kernel) rfl (Nat.le_of_ble_eq_true rfl) ?_
  intro p e s m args below meth c ls C hP hS hl
  have hx := C.hx
  have hb := C.hb
  have hl : lv_has ls 2 [(0, .ref (a 0)), (1, .int x1)] := hl
  obtain ⟨H, hH⟩ : ∃ H, H = s.heap := ⟨_, rfl⟩
  rw [← hH] at hP
  have hS : va_S A s.heap H [] := by rw [hH]; exact va_S.rf
  suffices g : W p l e (rmk 6 158) s m args below meth c H [] 0 0 (MQ below (QI NX eX a cy D A r σ') args s 0 0 A) (F0 m 0 ls []) by rw [hH] at g; exact g
  clear hH
  obtain ⟨locs, hlocs⟩ : ∃ z : List Loc, z = [] := ⟨_, rfl⟩
  rw [← hlocs] at hS ⊢
  refine lv_iload_n hx hb dX9_unseen_0 rfl (lv_at hl 1 rfl) ?_
  refine r_cz (r_runS (As := [.int x1]) (rest := []) C hP hS (k_X9_isCell (l := l) O (σ := σ) rfl) mw_X9_isCell ms_X9_isCell wk_2_231 ⟨Nat.le_of_ble_eq_true rfl, Nat.le_of_ble_eq_true rfl⟩ ⟨rfl, rfl⟩ ⟨Nat.zero_le _, Nat.zero_le _⟩ rfl hl.1 rfl (Nat.le_of_ble_eq_true rfl) dX9_unseen_1) hS (fun H locs hzy1 hP hS => ?_)
  refine jl_topz hf hzy1 (fun y1 hzy1 hf => ?_)
  refine lv_if_eq (tgt := 24) hx hb dX9_unseen_4 (by decide) (fun hc => ?_) (fun hc => ?_)
  · have hf := jif_t hc hf
    refine lv_bipush (v := (-5 : Int32)) hx hb dX9_unseen_24 (by decide) ?_
    exact ret_i C hP hS (Prod.mk.inj (Option.some.inj hf)).1 (Prod.mk.inj (Option.some.inj hf)).2 dX9_unseen_26
  · have hf := jif_f hc hf
    refine lv_aload_n hx hb dX9_unseen_7 rfl (lv_at hl 0 rfl) ?_
    refine gf_X9_5 C hP wk_2_184 dX9_unseen_8 ?_
    refine lv_aload_n hx hb dX9_unseen_11 rfl (lv_at hl 0 rfl) ?_
    obtain ⟨s4, hc, hf⟩ := jb_e hf
    refine r_cr (r_runV (As := []) (rest := [.ref (a 6)]) C hP hS (va_recv C.hK hP (q0 := 0) (ci := 9) rfl (by rw [g_at oX_9.1, oX_9.2])) (k_X9_seenNow (l := l) O hc) mw_X9_seenNow mi_X9_seenNow mv_X9_seenNow wk_3_126 ⟨Nat.le_of_ble_eq_true rfl, Nat.le_of_ble_eq_true rfl⟩ ⟨rfl, rfl⟩ ⟨Nat.zero_le _, Nat.zero_le _⟩ rfl hl.1 rfl (Nat.le_of_ble_eq_true rfl) dX9_unseen_12) hS (fun H locs hP hS => ?_)
    refine lv_lconst (v := (1 : Int64)) hx hb dX9_unseen_15 (by decide) ?_
    refine lv_iload_n hx hb dX9_unseen_16 rfl (lv_at hl 1 rfl) ?_
    refine r_lshl C dX9_unseen_17 ?_
    obtain ⟨y5, s6, hc, hf⟩ := jbp_e hf
    refine r_ci (r_runV (As := [.ref (a 40), .long (jlshl (1 : Int64) x1)]) (rest := []) C hP hS (va_recv C.hK hP (q0 := 6) (ci := 0) rfl (by rw [g_at oX_0.1, oX_0.2])) (k_X0_greatest (l := l) O (show 40 ≤ 40 ∧ 40 < 42 by decide) hc) mw_X0_greatest mi_X0_greatest mv_X0_greatest wk_3_155 ⟨Nat.le_of_ble_eq_true rfl, Nat.le_of_ble_eq_true rfl⟩ ⟨rfl, rfl⟩ ⟨Nat.zero_le _, Nat.zero_le _⟩ rfl hl.1 rfl (Nat.le_of_ble_eq_true rfl) dX9_unseen_18) hS (fun H locs hP hS => ?_)
    refine lv_goto (tgt := 26) hx hb dX9_unseen_21 (by decide) ?_
    exact ret_i C hP hS (Prod.mk.inj (Option.some.inj hf)).1 (Prod.mk.inj (Option.some.inj hf)).2 dX9_unseen_26
set_option maxHeartbeats 4000000 in
set_option maxRecDepth 100000 in
theorem k_X9_worthUnseen {l : Launch} {a : Nat → Nat} {cy : Nat → ClassId} {D : va_G} {ad : Nat → Nat} {A : Nat → Prop} (O : WO NX a (EHX ad A) A) {r : Int32} {σ : ST} {σ' : ST} (hf : f_X9_worthUnseen σ = some (r, σ')) : Met l yX9_worthUnseen (Cond.code yX9_worthUnseen cX9_worthUnseen 7 (some .int) :: WS) (rmk 3 86) (PC [.ref (a 0), .ref (a 40)] NX eX a cy D (EHX ad A) σ) (QI NX eX a cy D A r σ') 0 0 A := by
  refine met_go (own := "GuardsLookLeft") O (by decide +kernel) rfl (Nat.le_of_ble_eq_true rfl) ?_
  intro p e s m args below meth c ls C hP hS hl
  have hx := C.hx
  have hb := C.hb
  have hl : lv_has ls 7 [(0, .ref (a 0)), (1, .ref (a 40))] := hl
  obtain ⟨H, hH⟩ : ∃ H, H = s.heap := ⟨_, rfl⟩
  rw [← hH] at hP
  have hS : va_S A s.heap H [] := by rw [hH]; exact va_S.rf
  suffices g : W p l e (rmk 3 86) s m args below meth c H [] 0 0 (MQ below (QI NX eX a cy D A r σ') args s 0 0 A) (F0 m 0 ls []) by rw [hH] at g; exact g
  clear hH
  obtain ⟨locs, hlocs⟩ : ∃ z : List Loc, z = [] := ⟨_, rfl⟩
  rw [← hlocs] at hS ⊢
  have hL87 : ∀ (k4 : Int32 → Int32 → ST → Option (Int32 × ST)) (hk4 : (∀ (v2 : Int32) (v3 : Int32) (s0 : ST) (H : Heap) (locs : List Loc) (ls : Array Slot), k4 v2 v3 s0 = some (r, σ') → va_P D vwCl (wG NX eX a cy s0) H → va_S A s.heap H locs → lv_has ls 7 [(0, .ref (a 0)), (1, .ref (a 40)), (2, .int v2), (3, .int v3)] → W p l e (rmk 3 86) s m args below meth c H locs 0 0 (MQ below (QI NX eX a cy D A r σ') args s 0 0 A) (F0 m 4 ls []))) (k40 : Int32 → Int32 → Int64 → Int32 → ST → Option (Int32 × ST)) (hk40 : (∀ (v2 : Int32) (v3 : Int32) (v4 : Int64) (v6 : Int32) (s0 : ST) (H : Heap) (locs : List Loc) (ls : Array Slot), k40 v2 v3 v4 v6 s0 = some (r, σ') → va_P D vwCl (wG NX eX a cy s0) H → va_S A s.heap H locs → lv_has ls 7 [(0, .ref (a 0)), (1, .ref (a 40)), (2, .int v2), (3, .int v3), (4, .long v4), (6, .int v6)] → W p l e (rmk 3 86) s m args below meth c H locs 0 0 (MQ below (QI NX eX a cy D A r σ') args s 0 0 A) (F0 m 40 ls []))), (∀ (v2 : Int32) (v3 : Int32) (v4 : Int64) (v6 : Int32) (s0 : ST) (H : Heap) (locs : List Loc) (ls : Array Slot), f_X9_worthUnseen_L87 k4 k40 v2 v3 v4 v6 s0 = some (r, σ') → va_P D vwCl (wG NX eX a cy s0) H → va_S A s.heap H locs → lv_has ls 7 [(0, .ref (a 0)), (1, .ref (a 40)), (2, .int v2), (3, .int v3), (4, .long v4), (6, .int v6)] → W p l e (rmk 3 86) s m args below meth c H locs 0 0 (MQ below (QI NX eX a cy D A r σ') args s 0 0 A) (F0 m 87 ls [])) := by
    intro k4 hk4 k40 hk40 v2 v3 v4 v6 s0 H locs ls hf hP hS hl
    obtain ⟨y1, ey1, hf⟩ := jlet_e hf
    refine lv_iinc (v := y1) (lv' := [(6, .int y1), (0, .ref (a 0)), (1, .ref (a 40)), (2, .int v2), (3, .int v3), (4, .long v4)]) hx hb dX9_worthUnseen_87 hl (k := 5) rfl ey1 (by decide) rfl (fun ls hl => ?_)
    refine lv_goto (tgt := 40) hx hb dX9_worthUnseen_90 (by decide) ?_
    exact hk40 v2 v3 v4 y1 s0 H locs ls hf hP hS (lv_sub hl [1, 2, 3, 4, 5, 0] rfl)
  have hL40 : ∀ (k4 : Int32 → Int32 → ST → Option (Int32 × ST)) (hk4 : (∀ (v2 : Int32) (v3 : Int32) (s0 : ST) (H : Heap) (locs : List Loc) (ls : Array Slot), k4 v2 v3 s0 = some (r, σ') → va_P D vwCl (wG NX eX a cy s0) H → va_S A s.heap H locs → lv_has ls 7 [(0, .ref (a 0)), (1, .ref (a 40)), (2, .int v2), (3, .int v3)] → W p l e (rmk 3 86) s m args below meth c H locs 0 0 (MQ below (QI NX eX a cy D A r σ') args s 0 0 A) (F0 m 4 ls []))) (n : Nat), (∀ (v2 : Int32) (v3 : Int32) (v4 : Int64) (v6 : Int32) (s0 : ST) (H : Heap) (locs : List Loc) (ls : Array Slot), f_X9_worthUnseen_L40 k4 n v2 v3 v4 v6 s0 = some (r, σ') → va_P D vwCl (wG NX eX a cy s0) H → va_S A s.heap H locs → lv_has ls 7 [(0, .ref (a 0)), (1, .ref (a 40)), (2, .int v2), (3, .int v3), (4, .long v4), (6, .int v6)] → W p l e (rmk 3 86) s m args below meth c H locs 0 0 (MQ below (QI NX eX a cy D A r σ') args s 0 0 A) (F0 m 40 ls [])) := by
    intro k4 hk4 n
    induction n with
    | zero => intro v2 v3 v4 v6 s0 H locs ls hf hP hS hl; exact no_o hf
    | succ n ih =>
      intro v2 v3 v4 v6 s0 H locs ls hf hP hS hl
      have hf := (ef_X9_worthUnseen_L40 k4 _ _ _ _ _).symm.trans hf
      refine lv_iload hx hb dX9_worthUnseen_40 (lv_at hl 5 rfl) ?_
      refine lv_bipush (v := (36 : Int32)) hx hb dX9_worthUnseen_42 (by decide) ?_
      refine lv_icmp_ge (tgt := 93) hx hb dX9_worthUnseen_44 (by decide) (fun hc => ?_) (fun hc => ?_)
      · have hf := jif_t hc hf
        obtain ⟨y1, ey1, hf⟩ := jlet_e hf
        refine lv_iinc (v := y1) (lv' := [(3, .int y1), (0, .ref (a 0)), (1, .ref (a 40)), (2, .int v2), (4, .long v4), (6, .int v6)]) hx hb dX9_worthUnseen_93 hl (k := 3) rfl ey1 (by decide) rfl (fun ls hl => ?_)
        refine lv_goto (tgt := 4) hx hb dX9_worthUnseen_96 (by decide) ?_
        exact hk4 v2 y1 s0 H locs ls hf hP hS (lv_sub hl [1, 2, 3, 0] rfl)
      · have hf := jif_f hc hf
        refine lv_lload hx hb dX9_worthUnseen_47 (lv_at hl 4 rfl) ?_
        refine lv_iload hx hb dX9_worthUnseen_49 (lv_at hl 5 rfl) ?_
        refine r_cz (r_runS (As := [.long v4, .int v6]) (rest := []) C hP hS (k_X9_isIn (l := l) O (σ := s0) rfl) mw_X9_isIn ms_X9_isIn wk_2_234 ⟨Nat.le_of_ble_eq_true rfl, Nat.le_of_ble_eq_true rfl⟩ ⟨rfl, rfl⟩ ⟨Nat.zero_le _, Nat.zero_le _⟩ rfl hl.1 rfl (Nat.le_of_ble_eq_true rfl) dX9_worthUnseen_51) hS (fun H locs hzy2 hP hS => ?_)
        refine jl_topz hf hzy2 (fun y2 hzy2 hf => ?_)
        refine lv_if_eq (tgt := 87) hx hb dX9_worthUnseen_54 (by decide) (fun hc => ?_) (fun hc => ?_)
        · have hf := jif_t hc hf
          exact hL87 k4 hk4 (f_X9_worthUnseen_L40 k4 n) ih v2 v3 v4 v6 s0 H locs ls hf hP hS (lv_sub hl [0, 1, 2, 3, 4, 5] rfl)
        · have hf := jif_f hc hf
          refine lv_aload_n hx hb dX9_worthUnseen_57 rfl (lv_at hl 0 rfl) ?_
          refine gf_X9_3 C hP wk_2_182 dX9_worthUnseen_58 ?_
          refine lv_iconst (v := (0 : Int32)) hx hb dX9_worthUnseen_61 (by decide) ?_
          refine lv_aload_n hx hb dX9_worthUnseen_62 rfl (lv_at hl 0 rfl) ?_
          refine gf_X9_0 C hP wk_2_179 dX9_worthUnseen_63 ?_
          refine lv_iload hx hb dX9_worthUnseen_66 (lv_at hl 5 rfl) ?_
          refine r_ci (r_runV (As := [.int v6]) (rest := [.int (0 : Int32), .ref (a 4)]) C hP hS (va_recv C.hK hP (q0 := 1) (ci := 3) rfl (by rw [g_at oX_3.1, oX_3.2])) (k_X3_lit (l := l) O (σ := s0) rfl) mw_X3_lit mi_X3_lit mv_X3_lit wk_3_174 ⟨Nat.le_of_ble_eq_true rfl, Nat.le_of_ble_eq_true rfl⟩ ⟨rfl, rfl⟩ ⟨Nat.zero_le _, Nat.zero_le _⟩ rfl hl.1 rfl (Nat.le_of_ble_eq_true rfl) dX9_worthUnseen_68) hS (fun H locs hP hS => ?_)
          refine jl_topi hf (fun y4 hf => ?_)
          refine lv_iload hx hb dX9_worthUnseen_71 (lv_at hl 5 rfl) ?_
          obtain ⟨s7, hc, hf⟩ := jlet_e hf
          refine r_cv (r_runV (As := [.int (0 : Int32), .int y4, .int v6]) (rest := []) C hP hS (va_recv C.hK hP (q0 := 4) (ci := 6) rfl (by rw [g_at oX_6.1, oX_6.2])) (k_X6_nameCell (l := l) O hc) mw_X6_nameCell mi_X6_nameCell mv_X6_nameCell wk_3_34 ⟨Nat.le_of_ble_eq_true rfl, Nat.le_of_ble_eq_true rfl⟩ ⟨rfl, rfl⟩ ⟨Nat.zero_le _, Nat.zero_le _⟩ rfl hl.1 rfl (Nat.le_of_ble_eq_true rfl) dX9_worthUnseen_73) hS (fun H locs hP hS => ?_)
          refine lv_iload_n hx hb dX9_worthUnseen_76 rfl (lv_at hl 2 rfl) ?_
          refine lv_aload_n hx hb dX9_worthUnseen_77 rfl (lv_at hl 0 rfl) ?_
          refine gf_X9_3 C hP wk_2_182 dX9_worthUnseen_78 ?_
          refine lv_iconst (v := (2 : Int32)) hx hb dX9_worthUnseen_81 (by decide) ?_
          obtain ⟨y8, s9, hc, hf⟩ := jbp_e hf
          refine r_ci (r_runV (As := [.int (2 : Int32)]) (rest := [.int v2]) C hP hS (va_recv C.hK hP (q0 := 4) (ci := 6) rfl (by rw [g_at oX_6.1, oX_6.2])) (k_X6_says (l := l) O hc) mw_X6_says mi_X6_says mv_X6_says wk_3_38 ⟨Nat.le_of_ble_eq_true rfl, Nat.le_of_ble_eq_true rfl⟩ ⟨rfl, rfl⟩ ⟨Nat.zero_le _, Nat.zero_le _⟩ rfl hl.1 rfl (Nat.le_of_ble_eq_true rfl) dX9_worthUnseen_82) hS (fun H locs hP hS => ?_)
          refine lv_iadd hx hb dX9_worthUnseen_85 ?_
          refine jl_topi hf (fun y10 hf => ?_)
          refine lv_istore_n (lv' := [(2, .int y10), (0, .ref (a 0)), (1, .ref (a 40)), (3, .int v3), (4, .long v4), (6, .int v6)]) hx hb dX9_worthUnseen_86 rfl hl (by decide) rfl (fun ls hl => ?_)
          exact hL87 k4 hk4 (f_X9_worthUnseen_L40 k4 n) ih y10 v3 v4 v6 s9 H locs ls hf hP hS (lv_sub hl [1, 2, 0, 3, 4, 5] rfl)
  have hL4 : ∀ (n : Nat), (∀ (v2 : Int32) (v3 : Int32) (s0 : ST) (H : Heap) (locs : List Loc) (ls : Array Slot), f_X9_worthUnseen_L4 n v2 v3 s0 = some (r, σ') → va_P D vwCl (wG NX eX a cy s0) H → va_S A s.heap H locs → lv_has ls 7 [(0, .ref (a 0)), (1, .ref (a 40)), (2, .int v2), (3, .int v3)] → W p l e (rmk 3 86) s m args below meth c H locs 0 0 (MQ below (QI NX eX a cy D A r σ') args s 0 0 A) (F0 m 4 ls [])) := by
    intro n
    induction n with
    | zero => intro v2 v3 s0 H locs ls hf hP hS hl; exact no_o hf
    | succ n ih =>
      intro v2 v3 s0 H locs ls hf hP hS hl
      have hf := (ef_X9_worthUnseen_L4 _ _ _).symm.trans hf
      refine lv_iload_n hx hb dX9_worthUnseen_4 rfl (lv_at hl 3 rfl) ?_
      refine lv_bipush (v := (24 : Int32)) hx hb dX9_worthUnseen_5 (by decide) ?_
      refine lv_icmp_ge (tgt := 99) hx hb dX9_worthUnseen_7 (by decide) (fun hc => ?_) (fun hc => ?_)
      · have hf := jif_t hc hf
        refine lv_iload_n hx hb dX9_worthUnseen_99 rfl (lv_at hl 2 rfl) ?_
        exact ret_i C hP hS (Prod.mk.inj (Option.some.inj hf)).1 (Prod.mk.inj (Option.some.inj hf)).2 dX9_worthUnseen_100
      · have hf := jif_f hc hf
        refine lv_aload_n hx hb dX9_worthUnseen_10 rfl (lv_at hl 0 rfl) ?_
        refine gf_X9_0 C hP wk_2_179 dX9_worthUnseen_11 ?_
        refine r_cl (r_runV (As := []) (rest := []) C hP hS (va_recv C.hK hP (q0 := 1) (ci := 3) rfl (by rw [g_at oX_3.1, oX_3.2])) (k_X3_floor (l := l) O (σ := s0) rfl) mw_X3_floor mi_X3_floor mv_X3_floor wk_3_168 ⟨Nat.le_of_ble_eq_true rfl, Nat.le_of_ble_eq_true rfl⟩ ⟨rfl, rfl⟩ ⟨Nat.zero_le _, Nat.zero_le _⟩ rfl hl.1 rfl (Nat.le_of_ble_eq_true rfl) dX9_worthUnseen_14) hS (fun H locs hP hS => ?_)
        refine jl_topl hf (fun y1 hf => ?_)
        refine lv_aload_n hx hb dX9_worthUnseen_17 rfl (lv_at hl 1 rfl) ?_
        refine lv_iload_n hx hb dX9_worthUnseen_18 rfl (lv_at hl 3 rfl) ?_
        obtain ⟨hi3, hf⟩ := jix_e hf
        refine r_lald C hP aX_40 hi3 dX9_worthUnseen_19 ?_
        refine lv_ldc2 hx hb C.hown (C.ts _ wk_2_237) dX9_worthUnseen_20 ?_
        refine lv_lxor hx hb dX9_worthUnseen_23 ?_
        refine lv_land hx hb dX9_worthUnseen_24 ?_
        refine jl_topl hf (fun y4 hf => ?_)
        refine lv_lstore (lv' := [(4, .long y4), (0, .ref (a 0)), (1, .ref (a 40)), (2, .int v2), (3, .int v3)]) hx hb dX9_worthUnseen_25 hl (by decide) rfl (fun ls hl => ?_)
        refine lv_aload_n hx hb dX9_worthUnseen_27 rfl (lv_at hl 1 rfl) ?_
        refine gf_X9_3 C hP wk_2_182 dX9_worthUnseen_28 ?_
        refine lv_iconst (v := (0 : Int32)) hx hb dX9_worthUnseen_31 (by decide) ?_
        refine lv_iload_n hx hb dX9_worthUnseen_32 rfl (lv_at hl 4 rfl) ?_
        refine lv_iconst (v := (0 : Int32)) hx hb dX9_worthUnseen_33 (by decide) ?_
        obtain ⟨s6, hc, hf⟩ := jlet_e hf
        refine r_cv (r_runV (As := [.int (0 : Int32), .int v3, .int (0 : Int32)]) (rest := []) C hP hS (va_recv C.hK hP (q0 := 4) (ci := 6) rfl (by rw [g_at oX_6.1, oX_6.2])) (k_X6_nameGuard (l := l) O hc) mw_X6_nameGuard mi_X6_nameGuard mv_X6_nameGuard wk_3_30 ⟨Nat.le_of_ble_eq_true rfl, Nat.le_of_ble_eq_true rfl⟩ ⟨rfl, rfl⟩ ⟨Nat.zero_le _, Nat.zero_le _⟩ rfl hl.1 rfl (Nat.le_of_ble_eq_true rfl) dX9_worthUnseen_34) hS (fun H locs hP hS => ?_)
        refine lv_iconst (v := (0 : Int32)) hx hb dX9_worthUnseen_37 (by decide) ?_
        refine lv_istore (lv' := [(6, .int (0 : Int32)), (4, .long y4), (0, .ref (a 0)), (1, .ref (a 40)), (2, .int v2), (3, .int v3)]) hx hb dX9_worthUnseen_38 hl (by decide) rfl (fun ls hl => ?_)
        exact hL40 (f_X9_worthUnseen_L4 n) ih FU v2 v3 y4 (0 : Int32) s6 H locs ls hf hP hS (lv_sub hl [2, 3, 4, 5, 1, 0] rfl)
  refine lv_iconst (v := (0 : Int32)) hx hb dX9_worthUnseen_0 (by decide) ?_
  refine lv_istore_n (lv' := [(2, .int (0 : Int32)), (0, .ref (a 0)), (1, .ref (a 40))]) hx hb dX9_worthUnseen_1 rfl hl (by decide) rfl (fun ls hl => ?_)
  refine lv_iconst (v := (0 : Int32)) hx hb dX9_worthUnseen_2 (by decide) ?_
  refine lv_istore_n (lv' := [(3, .int (0 : Int32)), (2, .int (0 : Int32)), (0, .ref (a 0)), (1, .ref (a 40))]) hx hb dX9_worthUnseen_3 rfl hl (by decide) rfl (fun ls hl => ?_)
  exact hL4 FU (0 : Int32) (0 : Int32) σ H locs ls hf hP hS (lv_sub hl [2, 3, 1, 0] rfl)
set_option maxHeartbeats 4000000 in
set_option maxRecDepth 100000 in
theorem k_X9_firstOf {l : Launch} {a : Nat → Nat} {cy : Nat → ClassId} {D : va_G} {ad : Nat → Nat} {A : Nat → Prop} (O : WO NX a (EHX ad A) A) {x1 : Int64} {r : Int32} {σ : ST} (hf : f_X9_firstOf x1 = some r) : Met l yX9_firstOf (Cond.code yX9_firstOf cX9_firstOf 3 (some .int) :: WS) (rmk 1 22) (PC [.long x1] NX eX a cy D (EHX ad A) σ) (QI NX eX a cy D A r σ) 0 0 A := by
  refine met_go (own := "GuardsLookLeft") O (by decide +kernel) rfl (Nat.le_of_ble_eq_true rfl) ?_
  intro p e s m args below meth c ls C hP hS hl
  have hx := C.hx
  have hb := C.hb
  have hl : lv_has ls 3 [(0, .long x1)] := hl
  obtain ⟨H, hH⟩ : ∃ H, H = s.heap := ⟨_, rfl⟩
  rw [← hH] at hP
  have hS : va_S A s.heap H [] := by rw [hH]; exact va_S.rf
  suffices g : W p l e (rmk 1 22) s m args below meth c H [] 0 0 (MQ below (QI NX eX a cy D A r σ) args s 0 0 A) (F0 m 0 ls []) by rw [hH] at g; exact g
  clear hH
  obtain ⟨locs, hlocs⟩ : ∃ z : List Loc, z = [] := ⟨_, rfl⟩
  rw [← hlocs] at hS ⊢
  have hL2 : ∀ (n : Nat), (∀ (v0 : Int64) (v2 : Int32) (H : Heap) (locs : List Loc) (ls : Array Slot), f_X9_firstOf_L2 n v0 v2 = some r → va_P D vwCl (wG NX eX a cy σ) H → va_S A s.heap H locs → lv_has ls 3 [(0, .long v0), (2, .int v2)] → W p l e (rmk 1 22) s m args below meth c H locs 0 0 (MQ below (QI NX eX a cy D A r σ) args s 0 0 A) (F0 m 2 ls [])) := by
    intro n
    induction n with
    | zero => intro v0 v2 H locs ls hf hP hS hl; exact no_o hf
    | succ n ih =>
      intro v0 v2 H locs ls hf hP hS hl
      have hf := (ef_X9_firstOf_L2 _ _).symm.trans hf
      refine lv_iload_n hx hb dX9_firstOf_2 rfl (lv_at hl 1 rfl) ?_
      refine lv_bipush (v := (36 : Int32)) hx hb dX9_firstOf_3 (by decide) ?_
      refine lv_icmp_ge (tgt := 24) hx hb dX9_firstOf_5 (by decide) (fun hc => ?_) (fun hc => ?_)
      · have hf := jif_t hc hf
        refine lv_iconst (v := (-1 : Int32)) hx hb dX9_firstOf_24 (by decide) ?_
        exact ret_i C hP hS (Option.some.inj hf) rfl dX9_firstOf_25
      · have hf := jif_f hc hf
        refine lv_lload_n hx hb dX9_firstOf_8 rfl (lv_at hl 0 rfl) ?_
        refine lv_iload_n hx hb dX9_firstOf_9 rfl (lv_at hl 1 rfl) ?_
        refine r_cz (r_runS (As := [.long v0, .int v2]) (rest := []) C hP hS (k_X9_isIn (l := l) O (σ := σ) rfl) mw_X9_isIn ms_X9_isIn wk_2_234 ⟨Nat.le_of_ble_eq_true rfl, Nat.le_of_ble_eq_true rfl⟩ ⟨rfl, rfl⟩ ⟨Nat.zero_le _, Nat.zero_le _⟩ rfl hl.1 rfl (Nat.le_of_ble_eq_true rfl) dX9_firstOf_10) hS (fun H locs hzy1 hP hS => ?_)
        refine jl_topz hf hzy1 (fun y1 hzy1 hf => ?_)
        refine lv_if_eq (tgt := 18) hx hb dX9_firstOf_13 (by decide) (fun hc => ?_) (fun hc => ?_)
        · have hf := jif_t hc hf
          obtain ⟨y3, ey3, hf⟩ := jlet_e hf
          refine lv_iinc (v := y3) (lv' := [(2, .int y3), (0, .long v0)]) hx hb dX9_firstOf_18 hl (k := 1) rfl ey3 (by decide) rfl (fun ls hl => ?_)
          refine lv_goto (tgt := 2) hx hb dX9_firstOf_21 (by decide) ?_
          exact ih v0 y3 H locs ls hf hP hS (lv_sub hl [1, 0] rfl)
        · have hf := jif_f hc hf
          refine lv_iload_n hx hb dX9_firstOf_16 rfl (lv_at hl 1 rfl) ?_
          exact ret_i C hP hS (Option.some.inj hf) rfl dX9_firstOf_17
  refine lv_iconst (v := (0 : Int32)) hx hb dX9_firstOf_0 (by decide) ?_
  refine lv_istore_n (lv' := [(2, .int (0 : Int32)), (0, .long x1)]) hx hb dX9_firstOf_1 rfl hl (by decide) rfl (fun ls hl => ?_)
  exact hL2 FU x1 (0 : Int32) H locs ls hf hP hS (lv_sub hl [1, 0] rfl)
set_option maxHeartbeats 4000000 in
set_option maxRecDepth 100000 in
theorem k_X9_worst {l : Launch} {a : Nat → Nat} {cy : Nat → ClassId} {D : va_G} {ad : Nat → Nat} {A : Nat → Prop} (O : WO NX a (EHX ad A) A) {x1 : Int32} {r : Int32} {σ : ST} {σ' : ST} (hf : f_X9_worst x1 σ = some (r, σ')) : Met l yX9_worst (Cond.code yX9_worst cX9_worst 3 (some .int) :: WS) (rmk 6 158) (PC [.ref (a 0), .int x1] NX eX a cy D (EHX ad A) σ) (QI NX eX a cy D A r σ') 0 0 A := by
  refine met_go (own := "GuardsLookLeft") O (by decide +kernel) rfl (Nat.le_of_ble_eq_true rfl) ?_
  intro p e s m args below meth c ls C hP hS hl
  have hx := C.hx
  have hb := C.hb
  have hl : lv_has ls 3 [(0, .ref (a 0)), (1, .int x1)] := hl
  obtain ⟨H, hH⟩ : ∃ H, H = s.heap := ⟨_, rfl⟩
  rw [← hH] at hP
  have hS : va_S A s.heap H [] := by rw [hH]; exact va_S.rf
  suffices g : W p l e (rmk 6 158) s m args below meth c H [] 0 0 (MQ below (QI NX eX a cy D A r σ') args s 0 0 A) (F0 m 0 ls []) by rw [hH] at g; exact g
  clear hH
  obtain ⟨locs, hlocs⟩ : ∃ z : List Loc, z = [] := ⟨_, rfl⟩
  rw [← hlocs] at hS ⊢
  refine lv_iload_n hx hb dX9_worst_0 rfl (lv_at hl 1 rfl) ?_
  refine lv_iconst (v := (3 : Int32)) hx hb dX9_worst_1 (by decide) ?_
  refine r_cz (r_runS (As := [.int x1, .int (3 : Int32)]) (rest := []) C hP hS (k_X9_isWithin (l := l) O (σ := σ) rfl) mw_X9_isWithin ms_X9_isWithin wk_2_215 ⟨Nat.le_of_ble_eq_true rfl, Nat.le_of_ble_eq_true rfl⟩ ⟨rfl, rfl⟩ ⟨Nat.zero_le _, Nat.zero_le _⟩ rfl hl.1 rfl (Nat.le_of_ble_eq_true rfl) dX9_worst_2) hS (fun H locs hzy1 hP hS => ?_)
  refine jl_topz hf hzy1 (fun y1 hzy1 hf => ?_)
  refine lv_if_ne (tgt := 11) hx hb dX9_worst_5 (by decide) (fun hc => ?_) (fun hc => ?_)
  · have hf := jif_t hc hf
    refine lv_iload_n hx hb dX9_worst_11 rfl (lv_at hl 1 rfl) ?_
    refine lv_iconst (v := (3 : Int32)) hx hb dX9_worst_12 (by decide) ?_
    refine lv_icmp_ne (tgt := 25) hx hb dX9_worst_13 (by decide) (fun hc => ?_) (fun hc => ?_)
    · have hf := jif_t hc hf
      refine lv_aload_n hx hb dX9_worst_25 rfl (lv_at hl 0 rfl) ?_
      refine gf_X9_5 C hP wk_2_184 dX9_worst_26 ?_
      refine lv_aload_n hx hb dX9_worst_29 rfl (lv_at hl 0 rfl) ?_
      obtain ⟨s4, hc, hf⟩ := jb_e hf
      refine r_cr (r_runV (As := []) (rest := [.ref (a 6)]) C hP hS (va_recv C.hK hP (q0 := 0) (ci := 9) rfl (by rw [g_at oX_9.1, oX_9.2])) (k_X9_seenNow (l := l) O hc) mw_X9_seenNow mi_X9_seenNow mv_X9_seenNow wk_3_126 ⟨Nat.le_of_ble_eq_true rfl, Nat.le_of_ble_eq_true rfl⟩ ⟨rfl, rfl⟩ ⟨Nat.zero_le _, Nat.zero_le _⟩ rfl hl.1 rfl (Nat.le_of_ble_eq_true rfl) dX9_worst_30) hS (fun H locs hP hS => ?_)
      refine lv_aload_n hx hb dX9_worst_33 rfl (lv_at hl 0 rfl) ?_
      refine gf_X9_0 C hP wk_2_179 dX9_worst_34 ?_
      refine r_cl (r_runV (As := []) (rest := [.ref (a 40), .ref (a 6)]) C hP hS (va_recv C.hK hP (q0 := 1) (ci := 3) rfl (by rw [g_at oX_3.1, oX_3.2])) (k_X3_floor (l := l) O (σ := s4) rfl) mw_X3_floor mi_X3_floor mv_X3_floor wk_3_168 ⟨Nat.le_of_ble_eq_true rfl, Nat.le_of_ble_eq_true rfl⟩ ⟨rfl, rfl⟩ ⟨Nat.zero_le _, Nat.zero_le _⟩ rfl hl.1 rfl (Nat.le_of_ble_eq_true rfl) dX9_worst_37) hS (fun H locs hP hS => ?_)
      refine jl_topl hf (fun y5 hf => ?_)
      obtain ⟨y7, s8, hc, hf⟩ := jbp_e hf
      refine r_ci (r_runV (As := [.ref (a 40), .long y5]) (rest := []) C hP hS (va_recv C.hK hP (q0 := 6) (ci := 0) rfl (by rw [g_at oX_0.1, oX_0.2])) (k_X0_greatest (l := l) O (show 40 ≤ 40 ∧ 40 < 42 by decide) hc) mw_X0_greatest mi_X0_greatest mv_X0_greatest wk_3_155 ⟨Nat.le_of_ble_eq_true rfl, Nat.le_of_ble_eq_true rfl⟩ ⟨rfl, rfl⟩ ⟨Nat.zero_le _, Nat.zero_le _⟩ rfl hl.1 rfl (Nat.le_of_ble_eq_true rfl) dX9_worst_40) hS (fun H locs hP hS => ?_)
      refine lv_istore_n (lv' := [(2, .int y7), (0, .ref (a 0)), (1, .int x1)]) hx hb dX9_worst_43 rfl hl (by decide) rfl (fun ls hl => ?_)
      refine lv_iload_n hx hb dX9_worst_44 rfl (lv_at hl 2 rfl) ?_
      by_cases hk100 : x1 = (0 : Int32)
      · have hf := jif_t hk100 hf
        refine sw_lk (k := (0 : Int32)) (off := 27) (tgt := 72) C hk100 dX9_worst_45 (by decide) (by decide) (by decide) ?_
        refine lv_iload_n hx hb dX9_worst_72 rfl (lv_at hl 0 rfl) ?_
        exact ret_i C hP hS (Prod.mk.inj (Option.some.inj hf)).1 (Prod.mk.inj (Option.some.inj hf)).2 dX9_worst_73
      · have hf := jif_f hk100 hf
        by_cases hk101 : x1 = (1 : Int32)
        · have hf := jif_t hk101 hf
          refine sw_lk (k := (1 : Int32)) (off := 29) (tgt := 74) C hk101 dX9_worst_45 (by decide) (by decide) (by decide) ?_
          refine lv_aload_n hx hb dX9_worst_74 rfl (lv_at hl 1 rfl) ?_
          refine gf_X9_5 C hP wk_2_184 dX9_worst_75 ?_
          refine gf_X0_0 C hP wk_1_213 dX9_worst_78 ?_
          obtain ⟨y9, hc, hf⟩ := jb_e hf
          refine r_ci (r_runS (As := [.long (gB s8 6 0)]) (rest := []) C hP hS (k_X9_firstOf (l := l) O (σ := s8) hc) mw_X9_firstOf ms_X9_firstOf wk_3_175 ⟨Nat.le_of_ble_eq_true rfl, Nat.le_of_ble_eq_true rfl⟩ ⟨rfl, rfl⟩ ⟨Nat.zero_le _, Nat.zero_le _⟩ rfl hl.1 rfl (Nat.le_of_ble_eq_true rfl) dX9_worst_81) hS (fun H locs hP hS => ?_)
          exact ret_i C hP hS (Prod.mk.inj (Option.some.inj hf)).1 (Prod.mk.inj (Option.some.inj hf)).2 dX9_worst_84
        · have hf := jif_f hk101 hf
          refine lv_lookup (off := 40) (tgt := 85) hx hb dX9_worst_45 (by decide) ((lv_osw hk100 (by decide)).trans ((lv_osw hk101 (by decide)).trans rfl)) (by decide) ?_
          refine lv_iload_n hx hb dX9_worst_85 rfl (lv_at hl 0 rfl) ?_
          refine lv_bipush (v := (24 : Int32)) hx hb dX9_worst_86 (by decide) ?_
          refine lv_icmp_ne (tgt := 104) hx hb dX9_worst_88 (by decide) (fun hc => ?_) (fun hc => ?_)
          · have hf := jif_t hc hf
            refine lv_iconst (v := (0 : Int32)) hx hb dX9_worst_104 (by decide) ?_
            exact ret_i C hP hS (Prod.mk.inj (Option.some.inj hf)).1 (Prod.mk.inj (Option.some.inj hf)).2 dX9_worst_105
          · have hf := jif_n hc hf
            refine lv_aload_n hx hb dX9_worst_91 rfl (lv_at hl 1 rfl) ?_
            refine gf_X9_5 C hP wk_2_184 dX9_worst_92 ?_
            refine gf_X0_0 C hP wk_1_213 dX9_worst_95 ?_
            refine r_ci (r_runS (As := [.long (gB s8 6 0)]) (rest := []) C hP hS (k_J13_bitCount_95d88 (l := l) O (σ := s8) rfl) mw_J13_bitCount_95d88 ms_J13_bitCount_95d88 wk_3_2 ⟨Nat.le_of_ble_eq_true rfl, Nat.le_of_ble_eq_true rfl⟩ ⟨rfl, rfl⟩ ⟨Nat.zero_le _, Nat.zero_le _⟩ rfl hl.1 rfl (Nat.le_of_ble_eq_true rfl) dX9_worst_98) hS (fun H locs hP hS => ?_)
            refine jl_topi hf (fun y11 hf => ?_)
            refine lv_goto (tgt := 105) hx hb dX9_worst_101 (by decide) ?_
            exact ret_i C hP hS (Prod.mk.inj (Option.some.inj hf)).1 (Prod.mk.inj (Option.some.inj hf)).2 dX9_worst_105
    · have hf := jif_n hc hf
      refine lv_aload_n hx hb dX9_worst_16 rfl (lv_at hl 0 rfl) ?_
      refine lv_aload_n hx hb dX9_worst_17 rfl (lv_at hl 0 rfl) ?_
      obtain ⟨s14, hc, hf⟩ := jb_e hf
      refine r_cr (r_runV (As := []) (rest := [.ref (a 0)]) C hP hS (va_recv C.hK hP (q0 := 0) (ci := 9) rfl (by rw [g_at oX_9.1, oX_9.2])) (k_X9_seenNow (l := l) O hc) mw_X9_seenNow mi_X9_seenNow mv_X9_seenNow wk_3_126 ⟨Nat.le_of_ble_eq_true rfl, Nat.le_of_ble_eq_true rfl⟩ ⟨rfl, rfl⟩ ⟨Nat.zero_le _, Nat.zero_le _⟩ rfl hl.1 rfl (Nat.le_of_ble_eq_true rfl) dX9_worst_18) hS (fun H locs hP hS => ?_)
      obtain ⟨y15, s16, hc, hf⟩ := jbp_e hf
      refine r_ci (r_runV (As := [.ref (a 40)]) (rest := []) C hP hS (va_recv C.hK hP (q0 := 0) (ci := 9) rfl (by rw [g_at oX_9.1, oX_9.2])) (k_X9_worthUnseen (l := l) O hc) mw_X9_worthUnseen mi_X9_worthUnseen mv_X9_worthUnseen wk_3_164 ⟨Nat.le_of_ble_eq_true rfl, Nat.le_of_ble_eq_true rfl⟩ ⟨rfl, rfl⟩ ⟨Nat.zero_le _, Nat.zero_le _⟩ rfl hl.1 rfl (Nat.le_of_ble_eq_true rfl) dX9_worst_21) hS (fun H locs hP hS => ?_)
      exact ret_i C hP hS (Prod.mk.inj (Option.some.inj hf)).1 (Prod.mk.inj (Option.some.inj hf)).2 dX9_worst_24
  · have hf := jif_n hc hf
    refine lv_bipush (v := (-2 : Int32)) hx hb dX9_worst_8 (by decide) ?_
    exact ret_i C hP hS (Prod.mk.inj (Option.some.inj hf)).1 (Prod.mk.inj (Option.some.inj hf)).2 dX9_worst_10
set_option maxHeartbeats 4000000 in
set_option maxRecDepth 100000 in
theorem k_X9_soon {l : Launch} {a : Nat → Nat} {cy : Nat → ClassId} {D : va_G} {ad : Nat → Nat} {A : Nat → Prop} (O : WO NX a (EHX ad A) A) {x1 : Int32} {x2 : Int32} {x3 : Int32} {r : Int32} {σ : ST} {σ' : ST} (hf : f_X9_soon x1 x2 x3 σ = some (r, σ')) : Met l yX9_soon (Cond.code yX9_soon cX9_soon 4 (some .int) :: WS) (rmk 6 158) (PC [.ref (a 0), .int x1, .int x2, .int x3] NX eX a cy D (EHX ad A) σ) (QI NX eX a cy D A r σ') 0 0 A := by
  refine met_go (own := "GuardsLookLeft") O (by decide +kernel) rfl (Nat.le_of_ble_eq_true rfl) ?_
  intro p e s m args below meth c ls C hP hS hl
  have hx := C.hx
  have hb := C.hb
  have hl : lv_has ls 4 [(0, .ref (a 0)), (1, .int x1), (2, .int x2), (3, .int x3)] := hl
  obtain ⟨H, hH⟩ : ∃ H, H = s.heap := ⟨_, rfl⟩
  rw [← hH] at hP
  have hS : va_S A s.heap H [] := by rw [hH]; exact va_S.rf
  suffices g : W p l e (rmk 6 158) s m args below meth c H [] 0 0 (MQ below (QI NX eX a cy D A r σ') args s 0 0 A) (F0 m 0 ls []) by rw [hH] at g; exact g
  clear hH
  obtain ⟨locs, hlocs⟩ : ∃ z : List Loc, z = [] := ⟨_, rfl⟩
  rw [← hlocs] at hS ⊢
  refine lv_iload_n hx hb dX9_soon_0 rfl (lv_at hl 1 rfl) ?_
  refine r_cz (r_runS (As := [.int x1]) (rest := []) C hP hS (k_X9_isCell (l := l) O (σ := σ) rfl) mw_X9_isCell ms_X9_isCell wk_2_231 ⟨Nat.le_of_ble_eq_true rfl, Nat.le_of_ble_eq_true rfl⟩ ⟨rfl, rfl⟩ ⟨Nat.zero_le _, Nat.zero_le _⟩ rfl hl.1 rfl (Nat.le_of_ble_eq_true rfl) dX9_soon_1) hS (fun H locs hzy1 hP hS => ?_)
  refine jl_topz hf hzy1 (fun y1 hzy1 hf => ?_)
  refine lv_if_eq (tgt := 14) hx hb dX9_soon_4 (by decide) (fun hc => ?_) (fun hc => ?_)
  · have hf := jif_t hc hf
    refine lv_bipush (v := (-5 : Int32)) hx hb dX9_soon_14 (by decide) ?_
    exact ret_i C hP hS (Prod.mk.inj (Option.some.inj hf)).1 (Prod.mk.inj (Option.some.inj hf)).2 dX9_soon_16
  · have hf := jif_f hc hf
    refine lv_iload_n hx hb dX9_soon_7 rfl (lv_at hl 2 rfl) ?_
    refine r_cz (r_runS (As := [.int x2]) (rest := []) C hP hS (k_X9_isCell (l := l) O (σ := σ) rfl) mw_X9_isCell ms_X9_isCell wk_2_231 ⟨Nat.le_of_ble_eq_true rfl, Nat.le_of_ble_eq_true rfl⟩ ⟨rfl, rfl⟩ ⟨Nat.zero_le _, Nat.zero_le _⟩ rfl hl.1 rfl (Nat.le_of_ble_eq_true rfl) dX9_soon_8) hS (fun H locs hzy3 hP hS => ?_)
    refine jl_topz hf hzy3 (fun y3 hzy3 hf => ?_)
    refine lv_if_ne (tgt := 17) hx hb dX9_soon_11 (by decide) (fun hc => ?_) (fun hc => ?_)
    · have hf := jif_t hc hf
      refine lv_iload_n hx hb dX9_soon_17 rfl (lv_at hl 3 rfl) ?_
      refine r_cz (r_runS (As := [.int x3]) (rest := []) C hP hS (k_X9_isSecond (l := l) O (σ := σ) rfl) mw_X9_isSecond ms_X9_isSecond wk_3_27 ⟨Nat.le_of_ble_eq_true rfl, Nat.le_of_ble_eq_true rfl⟩ ⟨rfl, rfl⟩ ⟨Nat.zero_le _, Nat.zero_le _⟩ rfl hl.1 rfl (Nat.le_of_ble_eq_true rfl) dX9_soon_18) hS (fun H locs hzy5 hP hS => ?_)
      refine jl_topz hf hzy5 (fun y5 hzy5 hf => ?_)
      refine lv_if_eq (tgt := 48) hx hb dX9_soon_21 (by decide) (fun hc => ?_) (fun hc => ?_)
      · have hf := jif_t hc hf
        refine lv_bipush (v := (-7 : Int32)) hx hb dX9_soon_48 (by decide) ?_
        exact ret_i C hP hS (Prod.mk.inj (Option.some.inj hf)).1 (Prod.mk.inj (Option.some.inj hf)).2 dX9_soon_50
      · have hf := jif_f hc hf
        refine lv_aload_n hx hb dX9_soon_24 rfl (lv_at hl 0 rfl) ?_
        refine gf_X9_6 C hP wk_2_185 dX9_soon_25 ?_
        refine lv_aload_n hx hb dX9_soon_28 rfl (lv_at hl 0 rfl) ?_
        obtain ⟨s8, hc, hf⟩ := jb_e hf
        refine r_cr (r_runV (As := []) (rest := [.ref (a 7)]) C hP hS (va_recv C.hK hP (q0 := 0) (ci := 9) rfl (by rw [g_at oX_9.1, oX_9.2])) (k_X9_seenNow (l := l) O hc) mw_X9_seenNow mi_X9_seenNow mv_X9_seenNow wk_3_126 ⟨Nat.le_of_ble_eq_true rfl, Nat.le_of_ble_eq_true rfl⟩ ⟨rfl, rfl⟩ ⟨Nat.zero_le _, Nat.zero_le _⟩ rfl hl.1 rfl (Nat.le_of_ble_eq_true rfl) dX9_soon_29) hS (fun H locs hP hS => ?_)
        refine lv_aload_n hx hb dX9_soon_32 rfl (lv_at hl 0 rfl) ?_
        refine gf_X9_0 C hP wk_2_179 dX9_soon_33 ?_
        refine r_cl (r_runV (As := []) (rest := [.ref (a 40), .ref (a 7)]) C hP hS (va_recv C.hK hP (q0 := 1) (ci := 3) rfl (by rw [g_at oX_3.1, oX_3.2])) (k_X3_floor (l := l) O (σ := s8) rfl) mw_X3_floor mi_X3_floor mv_X3_floor wk_3_168 ⟨Nat.le_of_ble_eq_true rfl, Nat.le_of_ble_eq_true rfl⟩ ⟨rfl, rfl⟩ ⟨Nat.zero_le _, Nat.zero_le _⟩ rfl hl.1 rfl (Nat.le_of_ble_eq_true rfl) dX9_soon_36) hS (fun H locs hP hS => ?_)
        refine jl_topl hf (fun y9 hf => ?_)
        refine lv_iload_n hx hb dX9_soon_39 rfl (lv_at hl 1 rfl) ?_
        refine lv_iload_n hx hb dX9_soon_40 rfl (lv_at hl 2 rfl) ?_
        refine lv_iload_n hx hb dX9_soon_41 rfl (lv_at hl 3 rfl) ?_
        obtain ⟨y11, s12, hc, hf⟩ := jbp_e hf
        refine r_ci (r_runV (As := [.ref (a 40), .long y9, .int x1, .int x2, .int x3]) (rest := []) C hP hS (va_recv C.hK hP (q0 := 7) (ci := 7) rfl (by rw [g_at oX_7.1, oX_7.2])) (k_X7_soonest (l := l) O (show 40 ≤ 40 ∧ 40 < 42 by decide) hc) mw_X7_soonest mi_X7_soonest mv_X7_soonest wk_3_182 ⟨Nat.le_of_ble_eq_true rfl, Nat.le_of_ble_eq_true rfl⟩ ⟨rfl, rfl⟩ ⟨Nat.zero_le _, Nat.zero_le _⟩ rfl hl.1 rfl (Nat.le_of_ble_eq_true rfl) dX9_soon_42) hS (fun H locs hP hS => ?_)
        refine lv_goto (tgt := 50) hx hb dX9_soon_45 (by decide) ?_
        exact ret_i C hP hS (Prod.mk.inj (Option.some.inj hf)).1 (Prod.mk.inj (Option.some.inj hf)).2 dX9_soon_50
    · have hf := jif_n hc hf
      refine lv_bipush (v := (-5 : Int32)) hx hb dX9_soon_14 (by decide) ?_
      exact ret_i C hP hS (Prod.mk.inj (Option.some.inj hf)).1 (Prod.mk.inj (Option.some.inj hf)).2 dX9_soon_16
set_option maxHeartbeats 4000000 in
set_option maxRecDepth 100000 in
theorem k_X9_path {l : Launch} {a : Nat → Nat} {cy : Nat → ClassId} {D : va_G} {ad : Nat → Nat} {A : Nat → Prop} (O : WO NX a (EHX ad A) A) {x1 : Int32} {x2 : Int32} {x3 : Int32} {x4 : Int32} {r : Int32} {σ : ST} {σ' : ST} (hf : f_X9_path x1 x2 x3 x4 σ = some (r, σ')) : Met l yX9_path (Cond.code yX9_path cX9_path 6 (some .int) :: WS) (rmk 6 158) (PC [.ref (a 0), .int x1, .int x2, .int x3, .int x4] NX eX a cy D (EHX ad A) σ) (QI NX eX a cy D A r σ') 0 0 A := by
  refine met_go (own := "GuardsLookLeft") O (by decide +kernel) rfl (Nat.le_of_ble_eq_true rfl) ?_
  intro p e s m args below meth c ls C hP hS hl
  have hx := C.hx
  have hb := C.hb
  have hl : lv_has ls 6 [(0, .ref (a 0)), (1, .int x1), (2, .int x2), (3, .int x3), (4, .int x4)] := hl
  obtain ⟨H, hH⟩ : ∃ H, H = s.heap := ⟨_, rfl⟩
  rw [← hH] at hP
  have hS : va_S A s.heap H [] := by rw [hH]; exact va_S.rf
  suffices g : W p l e (rmk 6 158) s m args below meth c H [] 0 0 (MQ below (QI NX eX a cy D A r σ') args s 0 0 A) (F0 m 0 ls []) by rw [hH] at g; exact g
  clear hH
  obtain ⟨locs, hlocs⟩ : ∃ z : List Loc, z = [] := ⟨_, rfl⟩
  rw [← hlocs] at hS ⊢
  refine lv_iload_n hx hb dX9_path_0 rfl (lv_at hl 1 rfl) ?_
  refine r_cz (r_runS (As := [.int x1]) (rest := []) C hP hS (k_X9_isCell (l := l) O (σ := σ) rfl) mw_X9_isCell ms_X9_isCell wk_2_231 ⟨Nat.le_of_ble_eq_true rfl, Nat.le_of_ble_eq_true rfl⟩ ⟨rfl, rfl⟩ ⟨Nat.zero_le _, Nat.zero_le _⟩ rfl hl.1 rfl (Nat.le_of_ble_eq_true rfl) dX9_path_1) hS (fun H locs hzy1 hP hS => ?_)
  refine jl_topz hf hzy1 (fun y1 hzy1 hf => ?_)
  refine lv_if_eq (tgt := 14) hx hb dX9_path_4 (by decide) (fun hc => ?_) (fun hc => ?_)
  · have hf := jif_t hc hf
    refine lv_bipush (v := (-5 : Int32)) hx hb dX9_path_14 (by decide) ?_
    exact ret_i C hP hS (Prod.mk.inj (Option.some.inj hf)).1 (Prod.mk.inj (Option.some.inj hf)).2 dX9_path_16
  · have hf := jif_f hc hf
    refine lv_iload_n hx hb dX9_path_7 rfl (lv_at hl 2 rfl) ?_
    refine r_cz (r_runS (As := [.int x2]) (rest := []) C hP hS (k_X9_isCell (l := l) O (σ := σ) rfl) mw_X9_isCell ms_X9_isCell wk_2_231 ⟨Nat.le_of_ble_eq_true rfl, Nat.le_of_ble_eq_true rfl⟩ ⟨rfl, rfl⟩ ⟨Nat.zero_le _, Nat.zero_le _⟩ rfl hl.1 rfl (Nat.le_of_ble_eq_true rfl) dX9_path_8) hS (fun H locs hzy3 hP hS => ?_)
    refine jl_topz hf hzy3 (fun y3 hzy3 hf => ?_)
    refine lv_if_ne (tgt := 17) hx hb dX9_path_11 (by decide) (fun hc => ?_) (fun hc => ?_)
    · have hf := jif_t hc hf
      refine lv_iload_n hx hb dX9_path_17 rfl (lv_at hl 3 rfl) ?_
      refine r_cz (r_runS (As := [.int x3]) (rest := []) C hP hS (k_X9_isSecond (l := l) O (σ := σ) rfl) mw_X9_isSecond ms_X9_isSecond wk_3_27 ⟨Nat.le_of_ble_eq_true rfl, Nat.le_of_ble_eq_true rfl⟩ ⟨rfl, rfl⟩ ⟨Nat.zero_le _, Nat.zero_le _⟩ rfl hl.1 rfl (Nat.le_of_ble_eq_true rfl) dX9_path_18) hS (fun H locs hzy5 hP hS => ?_)
      refine jl_topz hf hzy5 (fun y5 hzy5 hf => ?_)
      refine lv_if_eq (tgt := 34) hx hb dX9_path_21 (by decide) (fun hc => ?_) (fun hc => ?_)
      · have hf := jif_t hc hf
        refine lv_bipush (v := (-7 : Int32)) hx hb dX9_path_34 (by decide) ?_
        exact ret_i C hP hS (Prod.mk.inj (Option.some.inj hf)).1 (Prod.mk.inj (Option.some.inj hf)).2 dX9_path_36
      · have hf := jif_f hc hf
        refine lv_iload hx hb dX9_path_24 (lv_at hl 4 rfl) ?_
        refine lv_bipush (v := (24 : Int32)) hx hb dX9_path_26 (by decide) ?_
        refine r_cz (r_runS (As := [.int x4, .int (24 : Int32)]) (rest := []) C hP hS (k_X9_isWithin (l := l) O (σ := σ) rfl) mw_X9_isWithin ms_X9_isWithin wk_2_215 ⟨Nat.le_of_ble_eq_true rfl, Nat.le_of_ble_eq_true rfl⟩ ⟨rfl, rfl⟩ ⟨Nat.zero_le _, Nat.zero_le _⟩ rfl hl.1 rfl (Nat.le_of_ble_eq_true rfl) dX9_path_28) hS (fun H locs hzy7 hP hS => ?_)
        refine jl_topz hf hzy7 (fun y7 hzy7 hf => ?_)
        refine lv_if_ne (tgt := 37) hx hb dX9_path_31 (by decide) (fun hc => ?_) (fun hc => ?_)
        · have hf := jif_t hc hf
          refine lv_aload_n hx hb dX9_path_37 rfl (lv_at hl 0 rfl) ?_
          refine gf_X9_6 C hP wk_2_185 dX9_path_38 ?_
          refine lv_aload_n hx hb dX9_path_41 rfl (lv_at hl 0 rfl) ?_
          obtain ⟨s10, hc, hf⟩ := jb_e hf
          refine r_cr (r_runV (As := []) (rest := [.ref (a 7)]) C hP hS (va_recv C.hK hP (q0 := 0) (ci := 9) rfl (by rw [g_at oX_9.1, oX_9.2])) (k_X9_seenNow (l := l) O hc) mw_X9_seenNow mi_X9_seenNow mv_X9_seenNow wk_3_126 ⟨Nat.le_of_ble_eq_true rfl, Nat.le_of_ble_eq_true rfl⟩ ⟨rfl, rfl⟩ ⟨Nat.zero_le _, Nat.zero_le _⟩ rfl hl.1 rfl (Nat.le_of_ble_eq_true rfl) dX9_path_42) hS (fun H locs hP hS => ?_)
          refine lv_aload_n hx hb dX9_path_45 rfl (lv_at hl 0 rfl) ?_
          refine gf_X9_0 C hP wk_2_179 dX9_path_46 ?_
          refine r_cl (r_runV (As := []) (rest := [.ref (a 40), .ref (a 7)]) C hP hS (va_recv C.hK hP (q0 := 1) (ci := 3) rfl (by rw [g_at oX_3.1, oX_3.2])) (k_X3_floor (l := l) O (σ := s10) rfl) mw_X3_floor mi_X3_floor mv_X3_floor wk_3_168 ⟨Nat.le_of_ble_eq_true rfl, Nat.le_of_ble_eq_true rfl⟩ ⟨rfl, rfl⟩ ⟨Nat.zero_le _, Nat.zero_le _⟩ rfl hl.1 rfl (Nat.le_of_ble_eq_true rfl) dX9_path_49) hS (fun H locs hP hS => ?_)
          refine jl_topl hf (fun y11 hf => ?_)
          refine lv_iload_n hx hb dX9_path_52 rfl (lv_at hl 1 rfl) ?_
          refine lv_iload_n hx hb dX9_path_53 rfl (lv_at hl 2 rfl) ?_
          refine lv_iload_n hx hb dX9_path_54 rfl (lv_at hl 3 rfl) ?_
          obtain ⟨y13, s14, hc, hf⟩ := jbp_e hf
          refine r_ci (r_runV (As := [.ref (a 40), .long y11, .int x1, .int x2, .int x3]) (rest := []) C hP hS (va_recv C.hK hP (q0 := 7) (ci := 7) rfl (by rw [g_at oX_7.1, oX_7.2])) (k_X7_soonest (l := l) O (show 40 ≤ 40 ∧ 40 < 42 by decide) hc) mw_X7_soonest mi_X7_soonest mv_X7_soonest wk_3_182 ⟨Nat.le_of_ble_eq_true rfl, Nat.le_of_ble_eq_true rfl⟩ ⟨rfl, rfl⟩ ⟨Nat.zero_le _, Nat.zero_le _⟩ rfl hl.1 rfl (Nat.le_of_ble_eq_true rfl) dX9_path_55) hS (fun H locs hP hS => ?_)
          refine lv_istore (lv' := [(5, .int y13), (0, .ref (a 0)), (1, .int x1), (2, .int x2), (3, .int x3), (4, .int x4)]) hx hb dX9_path_58 hl (by decide) rfl (fun ls hl => ?_)
          refine lv_iload hx hb dX9_path_60 (lv_at hl 5 rfl) ?_
          refine lv_iload hx hb dX9_path_62 (lv_at hl 0 rfl) ?_
          refine lv_icmp_gt (tgt := 82) hx hb dX9_path_64 (by decide) (fun hc => ?_) (fun hc => ?_)
          · have hf := jif_t hc hf
            refine lv_iconst (v := (-1 : Int32)) hx hb dX9_path_82 (by decide) ?_
            exact ret_i C hP hS (Prod.mk.inj (Option.some.inj hf)).1 (Prod.mk.inj (Option.some.inj hf)).2 dX9_path_83
          · have hf := jif_f hc hf
            refine lv_aload_n hx hb dX9_path_67 rfl (lv_at hl 1 rfl) ?_
            refine gf_X9_6 C hP wk_2_185 dX9_path_68 ?_
            refine lv_iload_n hx hb dX9_path_71 rfl (lv_at hl 3 rfl) ?_
            refine lv_iload hx hb dX9_path_72 (lv_at hl 0 rfl) ?_
            refine lv_iload hx hb dX9_path_74 (lv_at hl 5 rfl) ?_
            obtain ⟨y15, hc, hf⟩ := jb_e hf
            refine r_ci (r_runV (As := [.int x2, .int y13, .int x4]) (rest := []) C hP hS (va_recv C.hK hP (q0 := 7) (ci := 7) rfl (by rw [g_at oX_7.1, oX_7.2])) (k_X7_before (l := l) O (σ := s14) hc) mw_X7_before mi_X7_before mv_X7_before wk_3_206 ⟨Nat.le_of_ble_eq_true rfl, Nat.le_of_ble_eq_true rfl⟩ ⟨rfl, rfl⟩ ⟨Nat.zero_le _, Nat.zero_le _⟩ rfl hl.1 rfl (Nat.le_of_ble_eq_true rfl) dX9_path_76) hS (fun H locs hP hS => ?_)
            refine lv_goto (tgt := 83) hx hb dX9_path_79 (by decide) ?_
            exact ret_i C hP hS (Prod.mk.inj (Option.some.inj hf)).1 (Prod.mk.inj (Option.some.inj hf)).2 dX9_path_83
        · have hf := jif_n hc hf
          refine lv_bipush (v := (-7 : Int32)) hx hb dX9_path_34 (by decide) ?_
          exact ret_i C hP hS (Prod.mk.inj (Option.some.inj hf)).1 (Prod.mk.inj (Option.some.inj hf)).2 dX9_path_36
    · have hf := jif_n hc hf
      refine lv_bipush (v := (-5 : Int32)) hx hb dX9_path_14 (by decide) ?_
      exact ret_i C hP hS (Prod.mk.inj (Option.some.inj hf)).1 (Prod.mk.inj (Option.some.inj hf)).2 dX9_path_16
set_option maxHeartbeats 4000000 in
set_option maxRecDepth 100000 in
theorem k_X9_hides {l : Launch} {a : Nat → Nat} {cy : Nat → ClassId} {D : va_G} {ad : Nat → Nat} {A : Nat → Prop} (O : WO NX a (EHX ad A) A) {x1 : Int32} {x2 : Int32} {x3 : Int32} {r : Int64} {σ : ST} {σ' : ST} (hf : f_X9_hides x1 x2 x3 σ = some (r, σ')) : Met l yX9_hides (Cond.code yX9_hides cX9_hides 4 (some .long) :: WS) (rmk 6 158) (PC [.ref (a 0), .int x1, .int x2, .int x3] NX eX a cy D (EHX ad A) σ) (QL NX eX a cy D A r σ') 0 0 A := by
  refine met_go (own := "GuardsLookLeft") O (by decide +kernel) rfl (Nat.le_of_ble_eq_true rfl) ?_
  intro p e s m args below meth c ls C hP hS hl
  have hx := C.hx
  have hb := C.hb
  have hl : lv_has ls 4 [(0, .ref (a 0)), (1, .int x1), (2, .int x2), (3, .int x3)] := hl
  obtain ⟨H, hH⟩ : ∃ H, H = s.heap := ⟨_, rfl⟩
  rw [← hH] at hP
  have hS : va_S A s.heap H [] := by rw [hH]; exact va_S.rf
  suffices g : W p l e (rmk 6 158) s m args below meth c H [] 0 0 (MQ below (QL NX eX a cy D A r σ') args s 0 0 A) (F0 m 0 ls []) by rw [hH] at g; exact g
  clear hH
  obtain ⟨locs, hlocs⟩ : ∃ z : List Loc, z = [] := ⟨_, rfl⟩
  rw [← hlocs] at hS ⊢
  have hL23 : (∀ (s0 : ST) (H : Heap) (locs : List Loc) (ls : Array Slot), f_X9_hides_L23 s0 = some (r, σ') → va_P D vwCl (wG NX eX a cy s0) H → va_S A s.heap H locs → lv_has ls 4 [] → W p l e (rmk 6 158) s m args below meth c H locs 0 0 (MQ below (QL NX eX a cy D A r σ') args s 0 0 A) (F0 m 23 ls [])) := by
    intro s0 H locs ls hf hP hS hl
    refine lv_ldc2 hx hb C.hown (C.ts _ wk_2_222) dX9_hides_23 ?_
    exact ret_l C hP hS (Prod.mk.inj (Option.some.inj hf)).1 (Prod.mk.inj (Option.some.inj hf)).2 dX9_hides_26
  refine lv_iload_n hx hb dX9_hides_0 rfl (lv_at hl 1 rfl) ?_
  refine r_cz (r_runS (As := [.int x1]) (rest := []) C hP hS (k_X9_isCell (l := l) O (σ := σ) rfl) mw_X9_isCell ms_X9_isCell wk_2_231 ⟨Nat.le_of_ble_eq_true rfl, Nat.le_of_ble_eq_true rfl⟩ ⟨rfl, rfl⟩ ⟨Nat.zero_le _, Nat.zero_le _⟩ rfl hl.1 rfl (Nat.le_of_ble_eq_true rfl) dX9_hides_1) hS (fun H locs hzy1 hP hS => ?_)
  refine jl_topz hf hzy1 (fun y1 hzy1 hf => ?_)
  refine lv_if_eq (tgt := 23) hx hb dX9_hides_4 (by decide) (fun hc => ?_) (fun hc => ?_)
  · have hf := jif_t hc hf
    exact hL23 σ H locs ls hf hP hS (lv_sub hl [] rfl)
  · have hf := jif_f hc hf
    refine lv_iload_n hx hb dX9_hides_7 rfl (lv_at hl 2 rfl) ?_
    refine r_cz (r_runS (As := [.int x2]) (rest := []) C hP hS (k_X9_isSecond (l := l) O (σ := σ) rfl) mw_X9_isSecond ms_X9_isSecond wk_3_27 ⟨Nat.le_of_ble_eq_true rfl, Nat.le_of_ble_eq_true rfl⟩ ⟨rfl, rfl⟩ ⟨Nat.zero_le _, Nat.zero_le _⟩ rfl hl.1 rfl (Nat.le_of_ble_eq_true rfl) dX9_hides_8) hS (fun H locs hzy3 hP hS => ?_)
    refine jl_topz hf hzy3 (fun y3 hzy3 hf => ?_)
    refine lv_if_eq (tgt := 23) hx hb dX9_hides_11 (by decide) (fun hc => ?_) (fun hc => ?_)
    · have hf := jif_t hc hf
      exact hL23 σ H locs ls hf hP hS (lv_sub hl [] rfl)
    · have hf := jif_f hc hf
      refine lv_iload_n hx hb dX9_hides_14 rfl (lv_at hl 3 rfl) ?_
      refine lv_bipush (v := (24 : Int32)) hx hb dX9_hides_15 (by decide) ?_
      refine r_cz (r_runS (As := [.int x3, .int (24 : Int32)]) (rest := []) C hP hS (k_X9_isWithin (l := l) O (σ := σ) rfl) mw_X9_isWithin ms_X9_isWithin wk_2_215 ⟨Nat.le_of_ble_eq_true rfl, Nat.le_of_ble_eq_true rfl⟩ ⟨rfl, rfl⟩ ⟨Nat.zero_le _, Nat.zero_le _⟩ rfl hl.1 rfl (Nat.le_of_ble_eq_true rfl) dX9_hides_17) hS (fun H locs hzy5 hP hS => ?_)
      refine jl_topz hf hzy5 (fun y5 hzy5 hf => ?_)
      refine lv_if_ne (tgt := 27) hx hb dX9_hides_20 (by decide) (fun hc => ?_) (fun hc => ?_)
      · have hf := jif_t hc hf
        refine lv_aload_n hx hb dX9_hides_27 rfl (lv_at hl 0 rfl) ?_
        refine gf_X9_6 C hP wk_2_185 dX9_hides_28 ?_
        refine lv_aload_n hx hb dX9_hides_31 rfl (lv_at hl 0 rfl) ?_
        obtain ⟨s8, hc, hf⟩ := jb_e hf
        refine r_cr (r_runV (As := []) (rest := [.ref (a 7)]) C hP hS (va_recv C.hK hP (q0 := 0) (ci := 9) rfl (by rw [g_at oX_9.1, oX_9.2])) (k_X9_seenNow (l := l) O hc) mw_X9_seenNow mi_X9_seenNow mv_X9_seenNow wk_3_126 ⟨Nat.le_of_ble_eq_true rfl, Nat.le_of_ble_eq_true rfl⟩ ⟨rfl, rfl⟩ ⟨Nat.zero_le _, Nat.zero_le _⟩ rfl hl.1 rfl (Nat.le_of_ble_eq_true rfl) dX9_hides_32) hS (fun H locs hP hS => ?_)
        refine lv_aload_n hx hb dX9_hides_35 rfl (lv_at hl 0 rfl) ?_
        refine gf_X9_0 C hP wk_2_179 dX9_hides_36 ?_
        refine r_cl (r_runV (As := []) (rest := [.ref (a 40), .ref (a 7)]) C hP hS (va_recv C.hK hP (q0 := 1) (ci := 3) rfl (by rw [g_at oX_3.1, oX_3.2])) (k_X3_floor (l := l) O (σ := s8) rfl) mw_X3_floor mi_X3_floor mv_X3_floor wk_3_168 ⟨Nat.le_of_ble_eq_true rfl, Nat.le_of_ble_eq_true rfl⟩ ⟨rfl, rfl⟩ ⟨Nat.zero_le _, Nat.zero_le _⟩ rfl hl.1 rfl (Nat.le_of_ble_eq_true rfl) dX9_hides_39) hS (fun H locs hP hS => ?_)
        refine jl_topl hf (fun y9 hf => ?_)
        refine lv_iload_n hx hb dX9_hides_42 rfl (lv_at hl 1 rfl) ?_
        refine lv_iload_n hx hb dX9_hides_43 rfl (lv_at hl 2 rfl) ?_
        refine lv_lconst (v := (0 : Int64)) hx hb dX9_hides_44 (by decide) ?_
        obtain ⟨y11, s12, hc, hf⟩ := jbp_e hf
        refine r_ci (r_runV (As := [.ref (a 40), .long y9, .int x1, .int x2, .long (0 : Int64)]) (rest := []) C hP hS (va_recv C.hK hP (q0 := 7) (ci := 7) rfl (by rw [g_at oX_7.1, oX_7.2])) (k_X7_roam (l := l) O (show 40 ≤ 40 ∧ 40 < 42 by decide) hc) mw_X7_roam mi_X7_roam mv_X7_roam wk_3_219 ⟨Nat.le_of_ble_eq_true rfl, Nat.le_of_ble_eq_true rfl⟩ ⟨rfl, rfl⟩ ⟨Nat.zero_le _, Nat.zero_le _⟩ rfl hl.1 rfl (Nat.le_of_ble_eq_true rfl) dX9_hides_45) hS (fun H locs hP hS => ?_)
        refine lv_pop hx hb dX9_hides_48 rfl ?_
        refine lv_aload_n hx hb dX9_hides_49 rfl (lv_at hl 0 rfl) ?_
        refine gf_X9_6 C hP wk_2_185 dX9_hides_50 ?_
        refine gf_X7_0 C hP wk_1_227 dX9_hides_53 ?_
        refine lv_iload_n hx hb dX9_hides_56 rfl (lv_at hl 3 rfl) ?_
        obtain ⟨hi13, hf⟩ := jix_e hf
        refine r_lald C hP aX_50 hi13 dX9_hides_57 ?_
        exact ret_l C hP hS (Prod.mk.inj (Option.some.inj hf)).1 (Prod.mk.inj (Option.some.inj hf)).2 dX9_hides_58
      · have hf := jif_n hc hf
        exact hL23 σ H locs ls hf hP hS (lv_sub hl [] rfl)
set_option maxHeartbeats 4000000 in
set_option maxRecDepth 100000 in
theorem k_X9_when {l : Launch} {a : Nat → Nat} {cy : Nat → ClassId} {D : va_G} {ad : Nat → Nat} {A : Nat → Prop} (O : WO NX a (EHX ad A) A) {x1 : Int32} {x2 : Int32} {r : Int32} {σ : ST} {σ' : ST} (hf : f_X9_when x1 x2 σ = some (r, σ')) : Met l yX9_when (Cond.code yX9_when cX9_when 3 (some .int) :: WS) (rmk 6 158) (PC [.ref (a 0), .int x1, .int x2] NX eX a cy D (EHX ad A) σ) (QI NX eX a cy D A r σ') 0 0 A := by
  refine met_go (own := "GuardsLookLeft") O (by decide +kernel) rfl (Nat.le_of_ble_eq_true rfl) ?_
  intro p e s m args below meth c ls C hP hS hl
  have hx := C.hx
  have hb := C.hb
  have hl : lv_has ls 3 [(0, .ref (a 0)), (1, .int x1), (2, .int x2)] := hl
  obtain ⟨H, hH⟩ : ∃ H, H = s.heap := ⟨_, rfl⟩
  rw [← hH] at hP
  have hS : va_S A s.heap H [] := by rw [hH]; exact va_S.rf
  suffices g : W p l e (rmk 6 158) s m args below meth c H [] 0 0 (MQ below (QI NX eX a cy D A r σ') args s 0 0 A) (F0 m 0 ls []) by rw [hH] at g; exact g
  clear hH
  obtain ⟨locs, hlocs⟩ : ∃ z : List Loc, z = [] := ⟨_, rfl⟩
  rw [← hlocs] at hS ⊢
  refine lv_iload_n hx hb dX9_when_0 rfl (lv_at hl 1 rfl) ?_
  refine r_cz (r_runS (As := [.int x1]) (rest := []) C hP hS (k_X9_isCell (l := l) O (σ := σ) rfl) mw_X9_isCell ms_X9_isCell wk_2_231 ⟨Nat.le_of_ble_eq_true rfl, Nat.le_of_ble_eq_true rfl⟩ ⟨rfl, rfl⟩ ⟨Nat.zero_le _, Nat.zero_le _⟩ rfl hl.1 rfl (Nat.le_of_ble_eq_true rfl) dX9_when_1) hS (fun H locs hzy1 hP hS => ?_)
  refine jl_topz hf hzy1 (fun y1 hzy1 hf => ?_)
  refine lv_if_eq (tgt := 37) hx hb dX9_when_4 (by decide) (fun hc => ?_) (fun hc => ?_)
  · have hf := jif_t hc hf
    refine lv_bipush (v := (-5 : Int32)) hx hb dX9_when_37 (by decide) ?_
    exact ret_i C hP hS (Prod.mk.inj (Option.some.inj hf)).1 (Prod.mk.inj (Option.some.inj hf)).2 dX9_when_39
  · have hf := jif_f hc hf
    refine lv_iload_n hx hb dX9_when_7 rfl (lv_at hl 2 rfl) ?_
    refine r_cz (r_runS (As := [.int x2]) (rest := []) C hP hS (k_X9_isCell (l := l) O (σ := σ) rfl) mw_X9_isCell ms_X9_isCell wk_2_231 ⟨Nat.le_of_ble_eq_true rfl, Nat.le_of_ble_eq_true rfl⟩ ⟨rfl, rfl⟩ ⟨Nat.zero_le _, Nat.zero_le _⟩ rfl hl.1 rfl (Nat.le_of_ble_eq_true rfl) dX9_when_8) hS (fun H locs hzy3 hP hS => ?_)
    refine jl_topz hf hzy3 (fun y3 hzy3 hf => ?_)
    refine lv_if_eq (tgt := 37) hx hb dX9_when_11 (by decide) (fun hc => ?_) (fun hc => ?_)
    · have hf := jif_t hc hf
      refine lv_bipush (v := (-5 : Int32)) hx hb dX9_when_37 (by decide) ?_
      exact ret_i C hP hS (Prod.mk.inj (Option.some.inj hf)).1 (Prod.mk.inj (Option.some.inj hf)).2 dX9_when_39
    · have hf := jif_f hc hf
      refine lv_aload_n hx hb dX9_when_14 rfl (lv_at hl 0 rfl) ?_
      refine gf_X9_6 C hP wk_2_185 dX9_when_15 ?_
      refine lv_aload_n hx hb dX9_when_18 rfl (lv_at hl 0 rfl) ?_
      obtain ⟨s6, hc, hf⟩ := jb_e hf
      refine r_cr (r_runV (As := []) (rest := [.ref (a 7)]) C hP hS (va_recv C.hK hP (q0 := 0) (ci := 9) rfl (by rw [g_at oX_9.1, oX_9.2])) (k_X9_seenNow (l := l) O hc) mw_X9_seenNow mi_X9_seenNow mv_X9_seenNow wk_3_126 ⟨Nat.le_of_ble_eq_true rfl, Nat.le_of_ble_eq_true rfl⟩ ⟨rfl, rfl⟩ ⟨Nat.zero_le _, Nat.zero_le _⟩ rfl hl.1 rfl (Nat.le_of_ble_eq_true rfl) dX9_when_19) hS (fun H locs hP hS => ?_)
      refine lv_aload_n hx hb dX9_when_22 rfl (lv_at hl 0 rfl) ?_
      refine gf_X9_0 C hP wk_2_179 dX9_when_23 ?_
      refine r_cl (r_runV (As := []) (rest := [.ref (a 40), .ref (a 7)]) C hP hS (va_recv C.hK hP (q0 := 1) (ci := 3) rfl (by rw [g_at oX_3.1, oX_3.2])) (k_X3_floor (l := l) O (σ := s6) rfl) mw_X3_floor mi_X3_floor mv_X3_floor wk_3_168 ⟨Nat.le_of_ble_eq_true rfl, Nat.le_of_ble_eq_true rfl⟩ ⟨rfl, rfl⟩ ⟨Nat.zero_le _, Nat.zero_le _⟩ rfl hl.1 rfl (Nat.le_of_ble_eq_true rfl) dX9_when_26) hS (fun H locs hP hS => ?_)
      refine jl_topl hf (fun y7 hf => ?_)
      refine lv_iload_n hx hb dX9_when_29 rfl (lv_at hl 1 rfl) ?_
      refine lv_iload_n hx hb dX9_when_30 rfl (lv_at hl 2 rfl) ?_
      obtain ⟨y9, s10, hc, hf⟩ := jbp_e hf
      refine r_ci (r_runV (As := [.ref (a 40), .long y7, .int x1, .int x2]) (rest := []) C hP hS (va_recv C.hK hP (q0 := 7) (ci := 7) rfl (by rw [g_at oX_7.1, oX_7.2])) (k_X7_starts (l := l) O (show 40 ≤ 40 ∧ 40 < 42 by decide) hc) mw_X7_starts mi_X7_starts mv_X7_starts wk_3_224 ⟨Nat.le_of_ble_eq_true rfl, Nat.le_of_ble_eq_true rfl⟩ ⟨rfl, rfl⟩ ⟨Nat.zero_le _, Nat.zero_le _⟩ rfl hl.1 rfl (Nat.le_of_ble_eq_true rfl) dX9_when_31) hS (fun H locs hP hS => ?_)
      refine lv_goto (tgt := 39) hx hb dX9_when_34 (by decide) ?_
      exact ret_i C hP hS (Prod.mk.inj (Option.some.inj hf)).1 (Prod.mk.inj (Option.some.inj hf)).2 dX9_when_39
set_option maxHeartbeats 4000000 in
set_option maxRecDepth 100000 in
theorem k_X9_more {l : Launch} {a : Nat → Nat} {cy : Nat → ClassId} {D : va_G} {ad : Nat → Nat} {A : Nat → Prop} (O : WO NX a (EHX ad A) A) {x1 : Int32} {x2 : Int32} {x3 : Int32} {r : Int32} {σ : ST} {σ' : ST} (hf : f_X9_more x1 x2 x3 σ = some (r, σ')) : Met l yX9_more (Cond.code yX9_more cX9_more 10 (some .int) :: WS) (rmk 6 165) (PC [.ref (a 0), .int x1, .int x2, .int x3] NX eX a cy D (EHX ad A) σ) (QI NX eX a cy D A r σ') 0 0 A := by
  refine met_go (own := "GuardsLookLeft") O (by decide +kernel) rfl (Nat.le_of_ble_eq_true rfl) ?_
  intro p e s m args below meth c ls C hP hS hl
  have hx := C.hx
  have hb := C.hb
  have hl : lv_has ls 10 [(0, .ref (a 0)), (1, .int x1), (2, .int x2), (3, .int x3)] := hl
  obtain ⟨H, hH⟩ : ∃ H, H = s.heap := ⟨_, rfl⟩
  rw [← hH] at hP
  have hS : va_S A s.heap H [] := by rw [hH]; exact va_S.rf
  suffices g : W p l e (rmk 6 165) s m args below meth c H [] 0 0 (MQ below (QI NX eX a cy D A r σ') args s 0 0 A) (F0 m 0 ls []) by rw [hH] at g; exact g
  clear hH
  obtain ⟨locs, hlocs⟩ : ∃ z : List Loc, z = [] := ⟨_, rfl⟩
  rw [← hlocs] at hS ⊢
  have hL141 : ∀ (k63 : Int32 → Int32 → Int32 → Int64 → Int32 → Int32 → Int32 → ST → Option (Int32 × ST)) (hk63 : (∀ (v1 : Int32) (v2 : Int32) (v3 : Int32) (v4 : Int64) (v6 : Int32) (v7 : Int32) (v8 : Int32) (s0 : ST) (H : Heap) (locs : List Loc) (ls : Array Slot), k63 v1 v2 v3 v4 v6 v7 v8 s0 = some (r, σ') → va_P D vwCl (wG NX eX a cy s0) H → va_S A s.heap H locs → lv_has ls 10 [(0, .ref (a 0)), (1, .int v1), (2, .int v2), (3, .int v3), (4, .long v4), (6, .int v6), (7, .int v7), (8, .int v8)] → W p l e (rmk 6 165) s m args below meth c H locs 0 0 (MQ below (QI NX eX a cy D A r σ') args s 0 0 A) (F0 m 63 ls []))), (∀ (v1 : Int32) (v2 : Int32) (v3 : Int32) (v4 : Int64) (v6 : Int32) (v7 : Int32) (v8 : Int32) (s0 : ST) (H : Heap) (locs : List Loc) (ls : Array Slot), f_X9_more_L141 k63 v1 v2 v3 v4 v6 v7 v8 s0 = some (r, σ') → va_P D vwCl (wG NX eX a cy s0) H → va_S A s.heap H locs → lv_has ls 10 [(0, .ref (a 0)), (1, .int v1), (2, .int v2), (3, .int v3), (4, .long v4), (6, .int v6), (7, .int v7), (8, .int v8)] → W p l e (rmk 6 165) s m args below meth c H locs 0 0 (MQ below (QI NX eX a cy D A r σ') args s 0 0 A) (F0 m 141 ls [])) := by
    intro k63 hk63 v1 v2 v3 v4 v6 v7 v8 s0 H locs ls hf hP hS hl
    obtain ⟨y1, ey1, hf⟩ := jlet_e hf
    refine lv_iinc (v := y1) (lv' := [(8, .int y1), (0, .ref (a 0)), (1, .int v1), (2, .int v2), (3, .int v3), (4, .long v4), (6, .int v6), (7, .int v7)]) hx hb dX9_more_141 hl (k := 7) rfl ey1 (by decide) rfl (fun ls hl => ?_)
    refine lv_goto (tgt := 63) hx hb dX9_more_144 (by decide) ?_
    exact hk63 v1 v2 v3 v4 v6 v7 y1 s0 H locs ls hf hP hS (lv_sub hl [1, 2, 3, 4, 5, 6, 7, 0] rfl)
  have hL95 : ∀ (k63 : Int32 → Int32 → Int32 → Int64 → Int32 → Int32 → Int32 → ST → Option (Int32 × ST)) (hk63 : (∀ (v1 : Int32) (v2 : Int32) (v3 : Int32) (v4 : Int64) (v6 : Int32) (v7 : Int32) (v8 : Int32) (s0 : ST) (H : Heap) (locs : List Loc) (ls : Array Slot), k63 v1 v2 v3 v4 v6 v7 v8 s0 = some (r, σ') → va_P D vwCl (wG NX eX a cy s0) H → va_S A s.heap H locs → lv_has ls 10 [(0, .ref (a 0)), (1, .int v1), (2, .int v2), (3, .int v3), (4, .long v4), (6, .int v6), (7, .int v7), (8, .int v8)] → W p l e (rmk 6 165) s m args below meth c H locs 0 0 (MQ below (QI NX eX a cy D A r σ') args s 0 0 A) (F0 m 63 ls []))), (∀ (v1 : Int32) (v2 : Int32) (v3 : Int32) (v4 : Int64) (v6 : Int32) (v7 : Int32) (v8 : Int32) (t1 : Int32) (s0 : ST) (H : Heap) (locs : List Loc) (ls : Array Slot), f_X9_more_L95 k63 v1 v2 v3 v4 v6 v7 v8 t1 s0 = some (r, σ') → va_P D vwCl (wG NX eX a cy s0) H → va_S A s.heap H locs → lv_has ls 10 [(0, .ref (a 0)), (1, .int v1), (2, .int v2), (3, .int v3), (4, .long v4), (6, .int v6), (7, .int v7), (8, .int v8)] → W p l e (rmk 6 165) s m args below meth c H locs 0 0 (MQ below (QI NX eX a cy D A r σ') args s 0 0 A) (F0 m 95 ls [.int t1, .ref (a 5)])) := by
    intro k63 hk63 v1 v2 v3 v4 v6 v7 v8 t1 s0 H locs ls hf hP hS hl
    refine lv_iload hx hb dX9_more_95 (lv_at hl 7 rfl) ?_
    obtain ⟨y1, s2, hc, hf⟩ := jbp_e hf
    refine r_cz (r_runV (As := [.int t1, .int v8]) (rest := []) C hP hS (va_recv C.hK hP (q0 := 5) (ci := 8) rfl (by rw [g_at oX_8.1, oX_8.2])) (k_X8_supposeLaid (l := l) O hc) mw_X8_supposeLaid mi_X8_supposeLaid mv_X8_supposeLaid wk_3_239 ⟨Nat.le_of_ble_eq_true rfl, Nat.le_of_ble_eq_true rfl⟩ ⟨rfl, rfl⟩ ⟨Nat.zero_le _, Nat.zero_le _⟩ rfl hl.1 rfl (Nat.le_of_ble_eq_true rfl) dX9_more_97) hS (fun H locs hzy1 hP hS => ?_)
    refine lv_if_eq (tgt := 141) hx hb dX9_more_100 (by decide) (fun hc => ?_) (fun hc => ?_)
    · have hf := jif_t hc hf
      exact hL141 k63 hk63 v1 v2 v3 v4 v6 v7 v8 s2 H locs ls hf hP hS (lv_sub hl [0, 1, 2, 3, 4, 5, 6, 7] rfl)
    · have hf := jif_f hc hf
      refine lv_aload_n hx hb dX9_more_103 rfl (lv_at hl 0 rfl) ?_
      refine gf_X9_6 C hP wk_2_185 dX9_more_104 ?_
      refine lv_aload_n hx hb dX9_more_107 rfl (lv_at hl 0 rfl) ?_
      refine gf_X9_4 C hP wk_2_183 dX9_more_108 ?_
      refine gf_X8_5 C hP wk_1_183 dX9_more_111 ?_
      refine lv_lload hx hb dX9_more_114 (lv_at hl 4 rfl) ?_
      refine lv_iload_n hx hb dX9_more_116 rfl (lv_at hl 1 rfl) ?_
      refine lv_iload_n hx hb dX9_more_117 rfl (lv_at hl 2 rfl) ?_
      obtain ⟨y3, s4, hc, hf⟩ := jbp_e hf
      refine r_ci (r_runV (As := [.ref (a 41), .long v4, .int v1, .int v2]) (rest := []) C hP hS (va_recv C.hK hP (q0 := 7) (ci := 7) rfl (by rw [g_at oX_7.1, oX_7.2])) (k_X7_starts (l := l) O (show 40 ≤ 41 ∧ 41 < 42 by decide) hc) mw_X7_starts mi_X7_starts mv_X7_starts wk_3_224 ⟨Nat.le_of_ble_eq_true rfl, Nat.le_of_ble_eq_true rfl⟩ ⟨rfl, rfl⟩ ⟨Nat.zero_le _, Nat.zero_le _⟩ rfl hl.1 rfl (Nat.le_of_ble_eq_true rfl) dX9_more_118) hS (fun H locs hP hS => ?_)
      refine r_ci (r_runS (As := [.int y3]) (rest := []) C hP hS (k_J6_bitCount_0f7a4 (l := l) O (σ := s4) rfl) mw_J6_bitCount_0f7a4 ms_J6_bitCount_0f7a4 wk_3_233 ⟨Nat.le_of_ble_eq_true rfl, Nat.le_of_ble_eq_true rfl⟩ ⟨rfl, rfl⟩ ⟨Nat.zero_le _, Nat.zero_le _⟩ rfl hl.1 rfl (Nat.le_of_ble_eq_true rfl) dX9_more_121) hS (fun H locs hP hS => ?_)
      refine jl_topi hf (fun y5 hf => ?_)
      refine lv_istore (lv' := [(9, .int y5), (0, .ref (a 0)), (1, .int v1), (2, .int v2), (3, .int v3), (4, .long v4), (6, .int v6), (7, .int v7), (8, .int v8)]) hx hb dX9_more_124 hl (by decide) rfl (fun ls hl => ?_)
      refine lv_iload hx hb dX9_more_126 (lv_at hl 0 rfl) ?_
      refine lv_iload hx hb dX9_more_128 (lv_at hl 6 rfl) ?_
      refine lv_icmp_ge (tgt := 141) hx hb dX9_more_130 (by decide) (fun hc => ?_) (fun hc => ?_)
      · have hf := jif_t hc hf
        exact hL141 k63 hk63 v1 v2 v3 v4 v6 v7 v8 s4 H locs ls hf hP hS (lv_sub hl [1, 2, 3, 4, 5, 6, 7, 8] rfl)
      · have hf := jif_f hc hf
        refine lv_iload hx hb dX9_more_133 (lv_at hl 0 rfl) ?_
        refine lv_istore (lv' := [(6, .int y5), (9, .int y5), (0, .ref (a 0)), (1, .int v1), (2, .int v2), (3, .int v3), (4, .long v4), (7, .int v7), (8, .int v8)]) hx hb dX9_more_135 hl (by decide) rfl (fun ls hl => ?_)
        refine lv_iload hx hb dX9_more_137 (lv_at hl 8 rfl) ?_
        refine lv_istore (lv' := [(7, .int v8), (6, .int y5), (9, .int y5), (0, .ref (a 0)), (1, .int v1), (2, .int v2), (3, .int v3), (4, .long v4), (8, .int v8)]) hx hb dX9_more_139 hl (by decide) rfl (fun ls hl => ?_)
        exact hL141 k63 hk63 v1 v2 v3 v4 y5 v8 v8 s4 H locs ls hf hP hS (lv_sub hl [3, 4, 5, 6, 7, 1, 0, 8] rfl)
  have hL63 : ∀ (n : Nat), (∀ (v1 : Int32) (v2 : Int32) (v3 : Int32) (v4 : Int64) (v6 : Int32) (v7 : Int32) (v8 : Int32) (s0 : ST) (H : Heap) (locs : List Loc) (ls : Array Slot), f_X9_more_L63 n v1 v2 v3 v4 v6 v7 v8 s0 = some (r, σ') → va_P D vwCl (wG NX eX a cy s0) H → va_S A s.heap H locs → lv_has ls 10 [(0, .ref (a 0)), (1, .int v1), (2, .int v2), (3, .int v3), (4, .long v4), (6, .int v6), (7, .int v7), (8, .int v8)] → W p l e (rmk 6 165) s m args below meth c H locs 0 0 (MQ below (QI NX eX a cy D A r σ') args s 0 0 A) (F0 m 63 ls [])) := by
    intro n
    induction n with
    | zero => intro v1 v2 v3 v4 v6 v7 v8 s0 H locs ls hf hP hS hl; exact no_o hf
    | succ n ih =>
      intro v1 v2 v3 v4 v6 v7 v8 s0 H locs ls hf hP hS hl
      have hf := (ef_X9_more_L63 _ _ _ _ _ _ _ _).symm.trans hf
      refine lv_iload hx hb dX9_more_63 (lv_at hl 7 rfl) ?_
      refine lv_bipush (v := (36 : Int32)) hx hb dX9_more_65 (by decide) ?_
      refine lv_icmp_ge (tgt := 147) hx hb dX9_more_67 (by decide) (fun hc => ?_) (fun hc => ?_)
      · have hf := jif_t hc hf
        refine lv_iload_n hx hb dX9_more_147 rfl (lv_at hl 3 rfl) ?_
        refine lv_iconst (v := (2 : Int32)) hx hb dX9_more_148 (by decide) ?_
        refine lv_icmp_ge (tgt := 157) hx hb dX9_more_149 (by decide) (fun hc => ?_) (fun hc => ?_)
        · have hf := jif_t hc hf
          refine lv_iload hx hb dX9_more_157 (lv_at hl 5 rfl) ?_
          exact ret_i C hP hS (Prod.mk.inj (Option.some.inj hf)).1 (Prod.mk.inj (Option.some.inj hf)).2 dX9_more_159
        · have hf := jif_f hc hf
          refine lv_iload hx hb dX9_more_152 (lv_at hl 6 rfl) ?_
          refine lv_goto (tgt := 159) hx hb dX9_more_154 (by decide) ?_
          exact ret_i C hP hS (Prod.mk.inj (Option.some.inj hf)).1 (Prod.mk.inj (Option.some.inj hf)).2 dX9_more_159
      · have hf := jif_f hc hf
        refine lv_lload hx hb dX9_more_70 (lv_at hl 4 rfl) ?_
        refine lv_iload hx hb dX9_more_72 (lv_at hl 7 rfl) ?_
        refine r_cz (r_runS (As := [.long v4, .int v8]) (rest := []) C hP hS (k_X9_isIn (l := l) O (σ := s0) rfl) mw_X9_isIn ms_X9_isIn wk_2_234 ⟨Nat.le_of_ble_eq_true rfl, Nat.le_of_ble_eq_true rfl⟩ ⟨rfl, rfl⟩ ⟨Nat.zero_le _, Nat.zero_le _⟩ rfl hl.1 rfl (Nat.le_of_ble_eq_true rfl) dX9_more_74) hS (fun H locs hzy1 hP hS => ?_)
        refine jl_topz hf hzy1 (fun y1 hzy1 hf => ?_)
        refine lv_if_eq (tgt := 141) hx hb dX9_more_77 (by decide) (fun hc => ?_) (fun hc => ?_)
        · have hf := jif_t hc hf
          exact hL141 (f_X9_more_L63 n) ih v1 v2 v3 v4 v6 v7 v8 s0 H locs ls hf hP hS (lv_sub hl [0, 1, 2, 3, 4, 5, 6, 7] rfl)
        · have hf := jif_f hc hf
          refine lv_aload_n hx hb dX9_more_80 rfl (lv_at hl 0 rfl) ?_
          refine gf_X9_4 C hP wk_2_183 dX9_more_81 ?_
          refine lv_iload_n hx hb dX9_more_84 rfl (lv_at hl 3 rfl) ?_
          refine lv_iconst (v := (2 : Int32)) hx hb dX9_more_85 (by decide) ?_
          refine r_irem C dX9_more_86 (by decide) ?_
          refine lv_if_ne (tgt := 94) hx hb dX9_more_87 (by decide) (fun hc => ?_) (fun hc => ?_)
          · have hf := jif_t hc hf
            refine lv_iconst (v := (2 : Int32)) hx hb dX9_more_94 (by decide) ?_
            exact hL95 (f_X9_more_L63 n) ih v1 v2 v3 v4 v6 v7 v8 (2 : Int32) s0 H locs ls hf hP hS (lv_sub hl [0, 1, 2, 3, 4, 5, 6, 7] rfl)
          · have hf := jif_n hc hf
            refine lv_iconst (v := (1 : Int32)) hx hb dX9_more_90 (by decide) ?_
            refine lv_goto (tgt := 95) hx hb dX9_more_91 (by decide) ?_
            exact hL95 (f_X9_more_L63 n) ih v1 v2 v3 v4 v6 v7 v8 (1 : Int32) s0 H locs ls hf hP hS (lv_sub hl [0, 1, 2, 3, 4, 5, 6, 7] rfl)
  refine lv_iload_n hx hb dX9_more_0 rfl (lv_at hl 1 rfl) ?_
  refine r_cz (r_runS (As := [.int x1]) (rest := []) C hP hS (k_X9_isCell (l := l) O (σ := σ) rfl) mw_X9_isCell ms_X9_isCell wk_2_231 ⟨Nat.le_of_ble_eq_true rfl, Nat.le_of_ble_eq_true rfl⟩ ⟨rfl, rfl⟩ ⟨Nat.zero_le _, Nat.zero_le _⟩ rfl hl.1 rfl (Nat.le_of_ble_eq_true rfl) dX9_more_1) hS (fun H locs hzy1 hP hS => ?_)
  refine jl_topz hf hzy1 (fun y1 hzy1 hf => ?_)
  refine lv_if_eq (tgt := 14) hx hb dX9_more_4 (by decide) (fun hc => ?_) (fun hc => ?_)
  · have hf := jif_t hc hf
    refine lv_bipush (v := (-5 : Int32)) hx hb dX9_more_14 (by decide) ?_
    exact ret_i C hP hS (Prod.mk.inj (Option.some.inj hf)).1 (Prod.mk.inj (Option.some.inj hf)).2 dX9_more_16
  · have hf := jif_f hc hf
    refine lv_iload_n hx hb dX9_more_7 rfl (lv_at hl 2 rfl) ?_
    refine r_cz (r_runS (As := [.int x2]) (rest := []) C hP hS (k_X9_isCell (l := l) O (σ := σ) rfl) mw_X9_isCell ms_X9_isCell wk_2_231 ⟨Nat.le_of_ble_eq_true rfl, Nat.le_of_ble_eq_true rfl⟩ ⟨rfl, rfl⟩ ⟨Nat.zero_le _, Nat.zero_le _⟩ rfl hl.1 rfl (Nat.le_of_ble_eq_true rfl) dX9_more_8) hS (fun H locs hzy3 hP hS => ?_)
    refine jl_topz hf hzy3 (fun y3 hzy3 hf => ?_)
    refine lv_if_ne (tgt := 17) hx hb dX9_more_11 (by decide) (fun hc => ?_) (fun hc => ?_)
    · have hf := jif_t hc hf
      refine lv_iload_n hx hb dX9_more_17 rfl (lv_at hl 3 rfl) ?_
      refine lv_iconst (v := (3 : Int32)) hx hb dX9_more_18 (by decide) ?_
      refine r_cz (r_runS (As := [.int x3, .int (3 : Int32)]) (rest := []) C hP hS (k_X9_isWithin (l := l) O (σ := σ) rfl) mw_X9_isWithin ms_X9_isWithin wk_2_215 ⟨Nat.le_of_ble_eq_true rfl, Nat.le_of_ble_eq_true rfl⟩ ⟨rfl, rfl⟩ ⟨Nat.zero_le _, Nat.zero_le _⟩ rfl hl.1 rfl (Nat.le_of_ble_eq_true rfl) dX9_more_19) hS (fun H locs hzy5 hP hS => ?_)
      refine jl_topz hf hzy5 (fun y5 hzy5 hf => ?_)
      refine lv_if_ne (tgt := 28) hx hb dX9_more_22 (by decide) (fun hc => ?_) (fun hc => ?_)
      · have hf := jif_t hc hf
        refine lv_aload_n hx hb dX9_more_28 rfl (lv_at hl 0 rfl) ?_
        refine gf_X9_0 C hP wk_2_179 dX9_more_29 ?_
        refine r_cl (r_runV (As := []) (rest := []) C hP hS (va_recv C.hK hP (q0 := 1) (ci := 3) rfl (by rw [g_at oX_3.1, oX_3.2])) (k_X3_floor (l := l) O (σ := σ) rfl) mw_X3_floor mi_X3_floor mv_X3_floor wk_3_168 ⟨Nat.le_of_ble_eq_true rfl, Nat.le_of_ble_eq_true rfl⟩ ⟨rfl, rfl⟩ ⟨Nat.zero_le _, Nat.zero_le _⟩ rfl hl.1 rfl (Nat.le_of_ble_eq_true rfl) dX9_more_32) hS (fun H locs hP hS => ?_)
        refine jl_topl hf (fun y7 hf => ?_)
        refine lv_lstore (lv' := [(4, .long y7), (0, .ref (a 0)), (1, .int x1), (2, .int x2), (3, .int x3)]) hx hb dX9_more_35 hl (by decide) rfl (fun ls hl => ?_)
        refine lv_aload_n hx hb dX9_more_37 rfl (lv_at hl 1 rfl) ?_
        refine gf_X9_6 C hP wk_2_185 dX9_more_38 ?_
        refine lv_aload_n hx hb dX9_more_41 rfl (lv_at hl 1 rfl) ?_
        obtain ⟨s10, hc, hf⟩ := jb_e hf
        refine r_cr (r_runV (As := []) (rest := [.ref (a 7)]) C hP hS (va_recv C.hK hP (q0 := 0) (ci := 9) rfl (by rw [g_at oX_9.1, oX_9.2])) (k_X9_seenNow (l := l) O hc) mw_X9_seenNow mi_X9_seenNow mv_X9_seenNow wk_3_126 ⟨Nat.le_of_ble_eq_true rfl, Nat.le_of_ble_eq_true rfl⟩ ⟨rfl, rfl⟩ ⟨Nat.zero_le _, Nat.zero_le _⟩ rfl hl.1 rfl (Nat.le_of_ble_eq_true rfl) dX9_more_42) hS (fun H locs hP hS => ?_)
        refine lv_lload hx hb dX9_more_45 (lv_at hl 0 rfl) ?_
        refine lv_iload_n hx hb dX9_more_47 rfl (lv_at hl 2 rfl) ?_
        refine lv_iload_n hx hb dX9_more_48 rfl (lv_at hl 3 rfl) ?_
        obtain ⟨y11, s12, hc, hf⟩ := jbp_e hf
        refine r_ci (r_runV (As := [.ref (a 40), .long y7, .int x1, .int x2]) (rest := []) C hP hS (va_recv C.hK hP (q0 := 7) (ci := 7) rfl (by rw [g_at oX_7.1, oX_7.2])) (k_X7_starts (l := l) O (show 40 ≤ 40 ∧ 40 < 42 by decide) hc) mw_X7_starts mi_X7_starts mv_X7_starts wk_3_224 ⟨Nat.le_of_ble_eq_true rfl, Nat.le_of_ble_eq_true rfl⟩ ⟨rfl, rfl⟩ ⟨Nat.zero_le _, Nat.zero_le _⟩ rfl hl.1 rfl (Nat.le_of_ble_eq_true rfl) dX9_more_49) hS (fun H locs hP hS => ?_)
        refine r_ci (r_runS (As := [.int y11]) (rest := []) C hP hS (k_J6_bitCount_0f7a4 (l := l) O (σ := s12) rfl) mw_J6_bitCount_0f7a4 ms_J6_bitCount_0f7a4 wk_3_233 ⟨Nat.le_of_ble_eq_true rfl, Nat.le_of_ble_eq_true rfl⟩ ⟨rfl, rfl⟩ ⟨Nat.zero_le _, Nat.zero_le _⟩ rfl hl.1 rfl (Nat.le_of_ble_eq_true rfl) dX9_more_52) hS (fun H locs hP hS => ?_)
        refine jl_topi hf (fun y13 hf => ?_)
        refine lv_istore (lv' := [(6, .int y13), (4, .long y7), (0, .ref (a 0)), (1, .int x1), (2, .int x2), (3, .int x3)]) hx hb dX9_more_55 hl (by decide) rfl (fun ls hl => ?_)
        refine lv_iconst (v := (-1 : Int32)) hx hb dX9_more_57 (by decide) ?_
        refine lv_istore (lv' := [(7, .int (-1 : Int32)), (6, .int y13), (4, .long y7), (0, .ref (a 0)), (1, .int x1), (2, .int x2), (3, .int x3)]) hx hb dX9_more_58 hl (by decide) rfl (fun ls hl => ?_)
        refine lv_iconst (v := (0 : Int32)) hx hb dX9_more_60 (by decide) ?_
        refine lv_istore (lv' := [(8, .int (0 : Int32)), (7, .int (-1 : Int32)), (6, .int y13), (4, .long y7), (0, .ref (a 0)), (1, .int x1), (2, .int x2), (3, .int x3)]) hx hb dX9_more_61 hl (by decide) rfl (fun ls hl => ?_)
        exact hL63 FU x1 x2 x3 y7 y13 (-1 : Int32) (0 : Int32) s12 H locs ls hf hP hS (lv_sub hl [4, 5, 6, 7, 3, 2, 1, 0] rfl)
      · have hf := jif_n hc hf
        refine lv_bipush (v := (-7 : Int32)) hx hb dX9_more_25 (by decide) ?_
        exact ret_i C hP hS (Prod.mk.inj (Option.some.inj hf)).1 (Prod.mk.inj (Option.some.inj hf)).2 dX9_more_27
    · have hf := jif_n hc hf
      refine lv_bipush (v := (-5 : Int32)) hx hb dX9_more_14 (by decide) ?_
      exact ret_i C hP hS (Prod.mk.inj (Option.some.inj hf)).1 (Prod.mk.inj (Option.some.inj hf)).2 dX9_more_16
set_option maxHeartbeats 4000000 in
set_option maxRecDepth 100000 in
theorem k_X9_shift {l : Launch} {a : Nat → Nat} {cy : Nat → ClassId} {D : va_G} {ad : Nat → Nat} {A : Nat → Prop} (O : WO NX a (EHX ad A) A) {x1 : Int32} {x2 : Int32} {r : Int32} {σ : ST} {σ' : ST} (hf : f_X9_shift x1 x2 σ = some (r, σ')) : Met l yX9_shift (Cond.code yX9_shift cX9_shift 7 (some .int) :: WS) (rmk 6 161) (PC [.ref (a 0), .int x1, .int x2] NX eX a cy D (EHX ad A) σ) (QI NX eX a cy D A r σ') 0 0 A := by
  refine met_go (own := "GuardsLookLeft") O (by decide +kernel) rfl (Nat.le_of_ble_eq_true rfl) ?_
  intro p e s m args below meth c ls C hP hS hl
  have hx := C.hx
  have hb := C.hb
  have hl : lv_has ls 7 [(0, .ref (a 0)), (1, .int x1), (2, .int x2)] := hl
  obtain ⟨H, hH⟩ : ∃ H, H = s.heap := ⟨_, rfl⟩
  rw [← hH] at hP
  have hS : va_S A s.heap H [] := by rw [hH]; exact va_S.rf
  suffices g : W p l e (rmk 6 161) s m args below meth c H [] 0 0 (MQ below (QI NX eX a cy D A r σ') args s 0 0 A) (F0 m 0 ls []) by rw [hH] at g; exact g
  clear hH
  obtain ⟨locs, hlocs⟩ : ∃ z : List Loc, z = [] := ⟨_, rfl⟩
  rw [← hlocs] at hS ⊢
  have hL91 : ∀ (k38 : Int32 → Int32 → Int32 → Int32 → Int32 → ST → Option (Int32 × ST)) (hk38 : (∀ (v1 : Int32) (v2 : Int32) (v3 : Int32) (v4 : Int32) (v5 : Int32) (s0 : ST) (H : Heap) (locs : List Loc) (ls : Array Slot), k38 v1 v2 v3 v4 v5 s0 = some (r, σ') → va_P D vwCl (wG NX eX a cy s0) H → va_S A s.heap H locs → lv_has ls 7 [(0, .ref (a 0)), (1, .int v1), (2, .int v2), (3, .int v3), (4, .int v4), (5, .int v5)] → W p l e (rmk 6 161) s m args below meth c H locs 0 0 (MQ below (QI NX eX a cy D A r σ') args s 0 0 A) (F0 m 38 ls []))), (∀ (v1 : Int32) (v2 : Int32) (v3 : Int32) (v4 : Int32) (v5 : Int32) (s0 : ST) (H : Heap) (locs : List Loc) (ls : Array Slot), f_X9_shift_L91 k38 v1 v2 v3 v4 v5 s0 = some (r, σ') → va_P D vwCl (wG NX eX a cy s0) H → va_S A s.heap H locs → lv_has ls 7 [(0, .ref (a 0)), (1, .int v1), (2, .int v2), (3, .int v3), (4, .int v4), (5, .int v5)] → W p l e (rmk 6 161) s m args below meth c H locs 0 0 (MQ below (QI NX eX a cy D A r σ') args s 0 0 A) (F0 m 91 ls [])) := by
    intro k38 hk38 v1 v2 v3 v4 v5 s0 H locs ls hf hP hS hl
    obtain ⟨y1, ey1, hf⟩ := jlet_e hf
    refine lv_iinc (v := y1) (lv' := [(5, .int y1), (0, .ref (a 0)), (1, .int v1), (2, .int v2), (3, .int v3), (4, .int v4)]) hx hb dX9_shift_91 hl (k := 5) rfl ey1 (by decide) rfl (fun ls hl => ?_)
    refine lv_goto (tgt := 38) hx hb dX9_shift_94 (by decide) ?_
    exact hk38 v1 v2 v3 v4 y1 s0 H locs ls hf hP hS (lv_sub hl [1, 2, 3, 4, 5, 0] rfl)
  have hL38 : ∀ (n : Nat), (∀ (v1 : Int32) (v2 : Int32) (v3 : Int32) (v4 : Int32) (v5 : Int32) (s0 : ST) (H : Heap) (locs : List Loc) (ls : Array Slot), f_X9_shift_L38 n v1 v2 v3 v4 v5 s0 = some (r, σ') → va_P D vwCl (wG NX eX a cy s0) H → va_S A s.heap H locs → lv_has ls 7 [(0, .ref (a 0)), (1, .int v1), (2, .int v2), (3, .int v3), (4, .int v4), (5, .int v5)] → W p l e (rmk 6 161) s m args below meth c H locs 0 0 (MQ below (QI NX eX a cy D A r σ') args s 0 0 A) (F0 m 38 ls [])) := by
    intro n
    induction n with
    | zero => intro v1 v2 v3 v4 v5 s0 H locs ls hf hP hS hl; exact no_o hf
    | succ n ih =>
      intro v1 v2 v3 v4 v5 s0 H locs ls hf hP hS hl
      have hf := (ef_X9_shift_L38 _ _ _ _ _ _).symm.trans hf
      refine lv_iload hx hb dX9_shift_38 (lv_at hl 5 rfl) ?_
      refine lv_bipush (v := (23 : Int32)) hx hb dX9_shift_40 (by decide) ?_
      refine lv_icmp_gt (tgt := 97) hx hb dX9_shift_42 (by decide) (fun hc => ?_) (fun hc => ?_)
      · have hf := jif_t hc hf
        refine lv_iload_n hx hb dX9_shift_97 rfl (lv_at hl 2 rfl) ?_
        refine lv_if_ne (tgt := 106) hx hb dX9_shift_98 (by decide) (fun hc => ?_) (fun hc => ?_)
        · have hf := jif_t hc hf
          refine lv_iload_n hx hb dX9_shift_106 rfl (lv_at hl 3 rfl) ?_
          exact ret_i C hP hS (Prod.mk.inj (Option.some.inj hf)).1 (Prod.mk.inj (Option.some.inj hf)).2 dX9_shift_107
        · have hf := jif_n hc hf
          refine lv_iload hx hb dX9_shift_101 (lv_at hl 4 rfl) ?_
          refine lv_goto (tgt := 107) hx hb dX9_shift_103 (by decide) ?_
          exact ret_i C hP hS (Prod.mk.inj (Option.some.inj hf)).1 (Prod.mk.inj (Option.some.inj hf)).2 dX9_shift_107
      · have hf := jif_f hc hf
        refine lv_aload_n hx hb dX9_shift_45 rfl (lv_at hl 0 rfl) ?_
        refine gf_X9_4 C hP wk_2_183 dX9_shift_46 ?_
        refine lv_iload_n hx hb dX9_shift_49 rfl (lv_at hl 1 rfl) ?_
        refine lv_iload hx hb dX9_shift_50 (lv_at hl 5 rfl) ?_
        obtain ⟨s2, hc, hf⟩ := jb_e hf
        refine r_cv (r_runV (As := [.int v1, .int v5]) (rest := []) C hP hS (va_recv C.hK hP (q0 := 5) (ci := 8) rfl (by rw [g_at oX_8.1, oX_8.2])) (k_X8_supposeAhead (l := l) O hc) mw_X8_supposeAhead mi_X8_supposeAhead mv_X8_supposeAhead wk_4_11 ⟨Nat.le_of_ble_eq_true rfl, Nat.le_of_ble_eq_true rfl⟩ ⟨rfl, rfl⟩ ⟨Nat.zero_le _, Nat.zero_le _⟩ rfl hl.1 rfl (Nat.le_of_ble_eq_true rfl) dX9_shift_52) hS (fun H locs hP hS => ?_)
        refine lv_aload_n hx hb dX9_shift_55 rfl (lv_at hl 0 rfl) ?_
        refine gf_X9_5 C hP wk_2_184 dX9_shift_56 ?_
        refine lv_aload_n hx hb dX9_shift_59 rfl (lv_at hl 0 rfl) ?_
        refine gf_X9_4 C hP wk_2_183 dX9_shift_60 ?_
        refine gf_X8_5 C hP wk_1_183 dX9_shift_63 ?_
        refine lv_aload_n hx hb dX9_shift_66 rfl (lv_at hl 0 rfl) ?_
        refine gf_X9_0 C hP wk_2_179 dX9_shift_67 ?_
        refine r_cl (r_runV (As := []) (rest := [.ref (a 41), .ref (a 6)]) C hP hS (va_recv C.hK hP (q0 := 1) (ci := 3) rfl (by rw [g_at oX_3.1, oX_3.2])) (k_X3_floor (l := l) O (σ := s2) rfl) mw_X3_floor mi_X3_floor mv_X3_floor wk_3_168 ⟨Nat.le_of_ble_eq_true rfl, Nat.le_of_ble_eq_true rfl⟩ ⟨rfl, rfl⟩ ⟨Nat.zero_le _, Nat.zero_le _⟩ rfl hl.1 rfl (Nat.le_of_ble_eq_true rfl) dX9_shift_70) hS (fun H locs hP hS => ?_)
        refine jl_topl hf (fun y3 hf => ?_)
        obtain ⟨y5, s6, hc, hf⟩ := jbp_e hf
        refine r_ci (r_runV (As := [.ref (a 41), .long y3]) (rest := []) C hP hS (va_recv C.hK hP (q0 := 6) (ci := 0) rfl (by rw [g_at oX_0.1, oX_0.2])) (k_X0_greatest (l := l) O (show 40 ≤ 41 ∧ 41 < 42 by decide) hc) mw_X0_greatest mi_X0_greatest mv_X0_greatest wk_3_155 ⟨Nat.le_of_ble_eq_true rfl, Nat.le_of_ble_eq_true rfl⟩ ⟨rfl, rfl⟩ ⟨Nat.zero_le _, Nat.zero_le _⟩ rfl hl.1 rfl (Nat.le_of_ble_eq_true rfl) dX9_shift_73) hS (fun H locs hP hS => ?_)
        refine lv_istore (lv' := [(6, .int y5), (0, .ref (a 0)), (1, .int v1), (2, .int v2), (3, .int v3), (4, .int v4), (5, .int v5)]) hx hb dX9_shift_76 hl (by decide) rfl (fun ls hl => ?_)
        refine lv_iload hx hb dX9_shift_78 (lv_at hl 0 rfl) ?_
        refine lv_iload_n hx hb dX9_shift_80 rfl (lv_at hl 4 rfl) ?_
        refine lv_icmp_ge (tgt := 91) hx hb dX9_shift_81 (by decide) (fun hc => ?_) (fun hc => ?_)
        · have hf := jif_t hc hf
          exact hL91 (f_X9_shift_L38 n) ih v1 v2 v3 v4 v5 s6 H locs ls hf hP hS (lv_sub hl [1, 2, 3, 4, 5, 6] rfl)
        · have hf := jif_f hc hf
          refine lv_iload hx hb dX9_shift_84 (lv_at hl 0 rfl) ?_
          refine lv_istore_n (lv' := [(3, .int y5), (6, .int y5), (0, .ref (a 0)), (1, .int v1), (2, .int v2), (4, .int v4), (5, .int v5)]) hx hb dX9_shift_86 rfl hl (by decide) rfl (fun ls hl => ?_)
          refine lv_iload hx hb dX9_shift_87 (lv_at hl 6 rfl) ?_
          refine lv_istore (lv' := [(4, .int v5), (3, .int y5), (6, .int y5), (0, .ref (a 0)), (1, .int v1), (2, .int v2), (5, .int v5)]) hx hb dX9_shift_89 hl (by decide) rfl (fun ls hl => ?_)
          exact hL91 (f_X9_shift_L38 n) ih v1 v2 y5 v5 v5 s6 H locs ls hf hP hS (lv_sub hl [3, 4, 5, 1, 0, 6] rfl)
  refine lv_aload_n hx hb dX9_shift_0 rfl (lv_at hl 0 rfl) ?_
  refine lv_iload_n hx hb dX9_shift_1 rfl (lv_at hl 1 rfl) ?_
  refine r_cz (r_runV (As := [.int x1]) (rest := []) C hP hS (va_recv C.hK hP (q0 := 0) (ci := 9) rfl (by rw [g_at oX_9.1, oX_9.2])) (k_X9_isGuard (l := l) O (σ := σ) rfl) mw_X9_isGuard mi_X9_isGuard mv_X9_isGuard wk_3_67 ⟨Nat.le_of_ble_eq_true rfl, Nat.le_of_ble_eq_true rfl⟩ ⟨rfl, rfl⟩ ⟨Nat.zero_le _, Nat.zero_le _⟩ rfl hl.1 rfl (Nat.le_of_ble_eq_true rfl) dX9_shift_2) hS (fun H locs hzy1 hP hS => ?_)
  refine jl_topz hf hzy1 (fun y1 hzy1 hf => ?_)
  refine lv_if_ne (tgt := 11) hx hb dX9_shift_5 (by decide) (fun hc => ?_) (fun hc => ?_)
  · have hf := jif_t hc hf
    refine lv_iload_n hx hb dX9_shift_11 rfl (lv_at hl 2 rfl) ?_
    refine lv_iconst (v := (1 : Int32)) hx hb dX9_shift_12 (by decide) ?_
    refine r_cz (r_runS (As := [.int x2, .int (1 : Int32)]) (rest := []) C hP hS (k_X9_isWithin (l := l) O (σ := σ) rfl) mw_X9_isWithin ms_X9_isWithin wk_2_215 ⟨Nat.le_of_ble_eq_true rfl, Nat.le_of_ble_eq_true rfl⟩ ⟨rfl, rfl⟩ ⟨Nat.zero_le _, Nat.zero_le _⟩ rfl hl.1 rfl (Nat.le_of_ble_eq_true rfl) dX9_shift_13) hS (fun H locs hzy3 hP hS => ?_)
    refine jl_topz hf hzy3 (fun y3 hzy3 hf => ?_)
    refine lv_if_ne (tgt := 22) hx hb dX9_shift_16 (by decide) (fun hc => ?_) (fun hc => ?_)
    · have hf := jif_t hc hf
      refine lv_aload_n hx hb dX9_shift_22 rfl (lv_at hl 0 rfl) ?_
      refine gf_X9_4 C hP wk_2_183 dX9_shift_23 ?_
      obtain ⟨s6, hc, hf⟩ := jb_e hf
      refine r_cv (r_runV (As := []) (rest := []) C hP hS (va_recv C.hK hP (q0 := 5) (ci := 8) rfl (by rw [g_at oX_8.1, oX_8.2])) (k_X8_refresh (l := l) O hc) mw_X8_refresh mi_X8_refresh mv_X8_refresh wk_3_130 ⟨Nat.le_of_ble_eq_true rfl, Nat.le_of_ble_eq_true rfl⟩ ⟨rfl, rfl⟩ ⟨Nat.zero_le _, Nat.zero_le _⟩ rfl hl.1 rfl (Nat.le_of_ble_eq_true rfl) dX9_shift_26) hS (fun H locs hP hS => ?_)
      refine lv_bipush (v := (25 : Int32)) hx hb dX9_shift_29 (by decide) ?_
      refine lv_istore_n (lv' := [(3, .int (25 : Int32)), (0, .ref (a 0)), (1, .int x1), (2, .int x2)]) hx hb dX9_shift_31 rfl hl (by decide) rfl (fun ls hl => ?_)
      refine lv_iconst (v := (0 : Int32)) hx hb dX9_shift_32 (by decide) ?_
      refine lv_istore (lv' := [(4, .int (0 : Int32)), (3, .int (25 : Int32)), (0, .ref (a 0)), (1, .int x1), (2, .int x2)]) hx hb dX9_shift_33 hl (by decide) rfl (fun ls hl => ?_)
      refine lv_iconst (v := (0 : Int32)) hx hb dX9_shift_35 (by decide) ?_
      refine lv_istore (lv' := [(5, .int (0 : Int32)), (4, .int (0 : Int32)), (3, .int (25 : Int32)), (0, .ref (a 0)), (1, .int x1), (2, .int x2)]) hx hb dX9_shift_36 hl (by decide) rfl (fun ls hl => ?_)
      exact hL38 FU x1 x2 (25 : Int32) (0 : Int32) (0 : Int32) s6 H locs ls hf hP hS (lv_sub hl [3, 4, 5, 2, 1, 0] rfl)
    · have hf := jif_n hc hf
      refine lv_bipush (v := (-7 : Int32)) hx hb dX9_shift_19 (by decide) ?_
      exact ret_i C hP hS (Prod.mk.inj (Option.some.inj hf)).1 (Prod.mk.inj (Option.some.inj hf)).2 dX9_shift_21
  · have hf := jif_n hc hf
    refine lv_bipush (v := (-5 : Int32)) hx hb dX9_shift_8 (by decide) ?_
    exact ret_i C hP hS (Prod.mk.inj (Option.some.inj hf)).1 (Prod.mk.inj (Option.some.inj hf)).2 dX9_shift_10
set_option maxHeartbeats 4000000 in
set_option maxRecDepth 100000 in
theorem k_X9_holdsWithout {l : Launch} {a : Nat → Nat} {cy : Nat → ClassId} {D : va_G} {ad : Nat → Nat} {A : Nat → Prop} (O : WO NX a (EHX ad A) A) {x1 : Int32} {x2 : Int64} {x3 : Int32} {r : Int32} {σ : ST} {σ' : ST} (hf : f_X9_holdsWithout x1 x2 x3 σ = some (r, σ')) : Met l yX9_holdsWithout (Cond.code yX9_holdsWithout cX9_holdsWithout 5 (some .boolean) :: WS) (rmk 5 138) (PC [.ref (a 0), .int x1, .long x2, .int x3] NX eX a cy D (EHX ad A) σ) (QZ NX eX a cy D A r σ') 0 0 A := by
  refine met_go (own := "GuardsLookLeft") O (by decide +kernel) rfl (Nat.le_of_ble_eq_true rfl) ?_
  intro p e s m args below meth c ls C hP hS hl
  have hx := C.hx
  have hb := C.hb
  have hl : lv_has ls 5 [(0, .ref (a 0)), (1, .int x1), (2, .long x2), (4, .int x3)] := hl
  obtain ⟨H, hH⟩ : ∃ H, H = s.heap := ⟨_, rfl⟩
  rw [← hH] at hP
  have hS : va_S A s.heap H [] := by rw [hH]; exact va_S.rf
  suffices g : W p l e (rmk 5 138) s m args below meth c H [] 0 0 (MQ below (QZ NX eX a cy D A r σ') args s 0 0 A) (F0 m 0 ls []) by rw [hH] at g; exact g
  clear hH
  obtain ⟨locs, hlocs⟩ : ∃ z : List Loc, z = [] := ⟨_, rfl⟩
  rw [← hlocs] at hS ⊢
  refine lv_aload_n hx hb dX9_holdsWithout_0 rfl (lv_at hl 0 rfl) ?_
  refine gf_X9_4 C hP wk_2_183 dX9_holdsWithout_1 ?_
  obtain ⟨s2, hc, hf⟩ := jb_e hf
  refine r_cv (r_runV (As := []) (rest := []) C hP hS (va_recv C.hK hP (q0 := 5) (ci := 8) rfl (by rw [g_at oX_8.1, oX_8.2])) (k_X8_refresh (l := l) O hc) mw_X8_refresh mi_X8_refresh mv_X8_refresh wk_3_130 ⟨Nat.le_of_ble_eq_true rfl, Nat.le_of_ble_eq_true rfl⟩ ⟨rfl, rfl⟩ ⟨Nat.zero_le _, Nat.zero_le _⟩ rfl hl.1 rfl (Nat.le_of_ble_eq_true rfl) dX9_holdsWithout_4) hS (fun H locs hP hS => ?_)
  refine lv_aload_n hx hb dX9_holdsWithout_7 rfl (lv_at hl 0 rfl) ?_
  refine gf_X9_4 C hP wk_2_183 dX9_holdsWithout_8 ?_
  refine lv_iload_n hx hb dX9_holdsWithout_11 rfl (lv_at hl 1 rfl) ?_
  obtain ⟨s4, hc, hf⟩ := jb_e hf
  refine r_cv (r_runV (As := [.int x1]) (rest := []) C hP hS (va_recv C.hK hP (q0 := 5) (ci := 8) rfl (by rw [g_at oX_8.1, oX_8.2])) (k_X8_supposeBribed (l := l) O hc) mw_X8_supposeBribed mi_X8_supposeBribed mv_X8_supposeBribed wk_4_23 ⟨Nat.le_of_ble_eq_true rfl, Nat.le_of_ble_eq_true rfl⟩ ⟨rfl, rfl⟩ ⟨Nat.zero_le _, Nat.zero_le _⟩ rfl hl.1 rfl (Nat.le_of_ble_eq_true rfl) dX9_holdsWithout_12) hS (fun H locs hP hS => ?_)
  refine lv_aload_n hx hb dX9_holdsWithout_15 rfl (lv_at hl 0 rfl) ?_
  refine gf_X9_5 C hP wk_2_184 dX9_holdsWithout_16 ?_
  refine lv_aload_n hx hb dX9_holdsWithout_19 rfl (lv_at hl 0 rfl) ?_
  refine gf_X9_4 C hP wk_2_183 dX9_holdsWithout_20 ?_
  refine gf_X8_5 C hP wk_1_183 dX9_holdsWithout_23 ?_
  refine lv_lload_n hx hb dX9_holdsWithout_26 rfl (lv_at hl 2 rfl) ?_
  refine lv_aload_n hx hb dX9_holdsWithout_27 rfl (lv_at hl 0 rfl) ?_
  refine gf_X9_0 C hP wk_2_179 dX9_holdsWithout_28 ?_
  refine r_cl (r_runV (As := []) (rest := [.long x2, .ref (a 41), .ref (a 6)]) C hP hS (va_recv C.hK hP (q0 := 1) (ci := 3) rfl (by rw [g_at oX_3.1, oX_3.2])) (k_X3_floor (l := l) O (σ := s4) rfl) mw_X3_floor mi_X3_floor mv_X3_floor wk_3_168 ⟨Nat.le_of_ble_eq_true rfl, Nat.le_of_ble_eq_true rfl⟩ ⟨rfl, rfl⟩ ⟨Nat.zero_le _, Nat.zero_le _⟩ rfl hl.1 rfl (Nat.le_of_ble_eq_true rfl) dX9_holdsWithout_31) hS (fun H locs hP hS => ?_)
  refine jl_topl hf (fun y5 hf => ?_)
  refine lv_land hx hb dX9_holdsWithout_34 ?_
  obtain ⟨y7, s8, hc, hf⟩ := jbp_e hf
  refine r_ci (r_runV (As := [.ref (a 41), .long (x2 &&& y5)]) (rest := []) C hP hS (va_recv C.hK hP (q0 := 6) (ci := 0) rfl (by rw [g_at oX_0.1, oX_0.2])) (k_X0_greatest (l := l) O (show 40 ≤ 41 ∧ 41 < 42 by decide) hc) mw_X0_greatest mi_X0_greatest mv_X0_greatest wk_3_155 ⟨Nat.le_of_ble_eq_true rfl, Nat.le_of_ble_eq_true rfl⟩ ⟨rfl, rfl⟩ ⟨Nat.zero_le _, Nat.zero_le _⟩ rfl hl.1 rfl (Nat.le_of_ble_eq_true rfl) dX9_holdsWithout_35) hS (fun H locs hP hS => ?_)
  refine lv_iload hx hb dX9_holdsWithout_38 (lv_at hl 3 rfl) ?_
  refine lv_icmp_gt (tgt := 47) hx hb dX9_holdsWithout_40 (by decide) (fun hc => ?_) (fun hc => ?_)
  · have hf := jif_t hc hf
    refine lv_iconst (v := (0 : Int32)) hx hb dX9_holdsWithout_47 (by decide) ?_
    exact ret_z C hP hS bz_0 (Prod.mk.inj (Option.some.inj hf)).1 (Prod.mk.inj (Option.some.inj hf)).2 dX9_holdsWithout_48
  · have hf := jif_f hc hf
    refine lv_iconst (v := (1 : Int32)) hx hb dX9_holdsWithout_43 (by decide) ?_
    refine lv_goto (tgt := 48) hx hb dX9_holdsWithout_44 (by decide) ?_
    exact ret_z C hP hS bz_1 (Prod.mk.inj (Option.some.inj hf)).1 (Prod.mk.inj (Option.some.inj hf)).2 dX9_holdsWithout_48
set_option maxHeartbeats 4000000 in
set_option maxRecDepth 100000 in
theorem k_X9_holds {l : Launch} {a : Nat → Nat} {cy : Nat → ClassId} {D : va_G} {ad : Nat → Nat} {A : Nat → Prop} (O : WO NX a (EHX ad A) A) {x1 : Int64} {x2 : Int32} {r : Int32} {σ : ST} {σ' : ST} (hf : f_X9_holds x1 x2 σ = some (r, σ')) : Met l yX9_holds (Cond.code yX9_holds cX9_holds 4 (some .int) :: WS) (rmk 6 162) (PC [.ref (a 0), .long x1, .int x2] NX eX a cy D (EHX ad A) σ) (QI NX eX a cy D A r σ') 0 0 A := by
  refine met_go (own := "GuardsLookLeft") O (by decide +kernel) rfl (Nat.le_of_ble_eq_true rfl) ?_
  intro p e s m args below meth c ls C hP hS hl
  have hx := C.hx
  have hb := C.hb
  have hl : lv_has ls 4 [(0, .ref (a 0)), (1, .long x1), (3, .int x2)] := hl
  obtain ⟨H, hH⟩ : ∃ H, H = s.heap := ⟨_, rfl⟩
  rw [← hH] at hP
  have hS : va_S A s.heap H [] := by rw [hH]; exact va_S.rf
  suffices g : W p l e (rmk 6 162) s m args below meth c H [] 0 0 (MQ below (QI NX eX a cy D A r σ') args s 0 0 A) (F0 m 0 ls []) by rw [hH] at g; exact g
  clear hH
  obtain ⟨locs, hlocs⟩ : ∃ z : List Loc, z = [] := ⟨_, rfl⟩
  rw [← hlocs] at hS ⊢
  refine lv_lload_n hx hb dX9_holds_0 rfl (lv_at hl 1 rfl) ?_
  refine r_cz (r_runS (As := [.long x1]) (rest := []) C hP hS (k_X9_areCells (l := l) O (σ := σ) rfl) mw_X9_areCells ms_X9_areCells wk_2_218 ⟨Nat.le_of_ble_eq_true rfl, Nat.le_of_ble_eq_true rfl⟩ ⟨rfl, rfl⟩ ⟨Nat.zero_le _, Nat.zero_le _⟩ rfl hl.1 rfl (Nat.le_of_ble_eq_true rfl) dX9_holds_1) hS (fun H locs hzy1 hP hS => ?_)
  refine jl_topz hf hzy1 (fun y1 hzy1 hf => ?_)
  refine lv_if_ne (tgt := 10) hx hb dX9_holds_4 (by decide) (fun hc => ?_) (fun hc => ?_)
  · have hf := jif_t hc hf
    refine lv_iload_n hx hb dX9_holds_10 rfl (lv_at hl 2 rfl) ?_
    refine lv_bipush (v := (24 : Int32)) hx hb dX9_holds_11 (by decide) ?_
    refine r_cz (r_runS (As := [.int x2, .int (24 : Int32)]) (rest := []) C hP hS (k_X9_isWithin (l := l) O (σ := σ) rfl) mw_X9_isWithin ms_X9_isWithin wk_2_215 ⟨Nat.le_of_ble_eq_true rfl, Nat.le_of_ble_eq_true rfl⟩ ⟨rfl, rfl⟩ ⟨Nat.zero_le _, Nat.zero_le _⟩ rfl hl.1 rfl (Nat.le_of_ble_eq_true rfl) dX9_holds_13) hS (fun H locs hzy3 hP hS => ?_)
    refine jl_topz hf hzy3 (fun y3 hzy3 hf => ?_)
    refine lv_if_ne (tgt := 22) hx hb dX9_holds_16 (by decide) (fun hc => ?_) (fun hc => ?_)
    · have hf := jif_t hc hf
      refine lv_aload_n hx hb dX9_holds_22 rfl (lv_at hl 0 rfl) ?_
      refine lv_iconst (v := (0 : Int32)) hx hb dX9_holds_23 (by decide) ?_
      refine lv_lload_n hx hb dX9_holds_24 rfl (lv_at hl 1 rfl) ?_
      refine lv_iload_n hx hb dX9_holds_25 rfl (lv_at hl 2 rfl) ?_
      obtain ⟨y5, s6, hc, hf⟩ := jbp_e hf
      refine r_cz (r_runV (As := [.int (0 : Int32), .long x1, .int x2]) (rest := []) C hP hS (va_recv C.hK hP (q0 := 0) (ci := 9) rfl (by rw [g_at oX_9.1, oX_9.2])) (k_X9_holdsWithout (l := l) O hc) mw_X9_holdsWithout mi_X9_holdsWithout mv_X9_holdsWithout wk_4_19 ⟨Nat.le_of_ble_eq_true rfl, Nat.le_of_ble_eq_true rfl⟩ ⟨rfl, rfl⟩ ⟨Nat.zero_le _, Nat.zero_le _⟩ rfl hl.1 rfl (Nat.le_of_ble_eq_true rfl) dX9_holds_26) hS (fun H locs hzy5 hP hS => ?_)
      refine lv_if_eq (tgt := 36) hx hb dX9_holds_29 (by decide) (fun hc => ?_) (fun hc => ?_)
      · have hf := jif_t hc hf
        refine lv_iconst (v := (0 : Int32)) hx hb dX9_holds_36 (by decide) ?_
        exact ret_i C hP hS (Prod.mk.inj (Option.some.inj hf)).1 (Prod.mk.inj (Option.some.inj hf)).2 dX9_holds_37
      · have hf := jif_f hc hf
        refine lv_iconst (v := (1 : Int32)) hx hb dX9_holds_32 (by decide) ?_
        refine lv_goto (tgt := 37) hx hb dX9_holds_33 (by decide) ?_
        exact ret_i C hP hS (Prod.mk.inj (Option.some.inj hf)).1 (Prod.mk.inj (Option.some.inj hf)).2 dX9_holds_37
    · have hf := jif_n hc hf
      refine lv_bipush (v := (-7 : Int32)) hx hb dX9_holds_19 (by decide) ?_
      exact ret_i C hP hS (Prod.mk.inj (Option.some.inj hf)).1 (Prod.mk.inj (Option.some.inj hf)).2 dX9_holds_21
  · have hf := jif_n hc hf
    refine lv_bipush (v := (-5 : Int32)) hx hb dX9_holds_7 (by decide) ?_
    exact ret_i C hP hS (Prod.mk.inj (Option.some.inj hf)).1 (Prod.mk.inj (Option.some.inj hf)).2 dX9_holds_9
set_option maxHeartbeats 4000000 in
set_option maxRecDepth 100000 in
theorem k_X9_bribes {l : Launch} {a : Nat → Nat} {cy : Nat → ClassId} {D : va_G} {ad : Nat → Nat} {A : Nat → Prop} (O : WO NX a (EHX ad A) A) {x1 : Int64} {x2 : Int32} {r : Int32} {σ : ST} {σ' : ST} (hf : f_X9_bribes x1 x2 σ = some (r, σ')) : Met l yX9_bribes (Cond.code yX9_bribes cX9_bribes 6 (some .int) :: WS) (rmk 6 162) (PC [.ref (a 0), .long x1, .int x2] NX eX a cy D (EHX ad A) σ) (QI NX eX a cy D A r σ') 0 0 A := by
  refine met_go (own := "GuardsLookLeft") O (by decide +kernel) rfl (Nat.le_of_ble_eq_true rfl) ?_
  intro p e s m args below meth c ls C hP hS hl
  have hx := C.hx
  have hb := C.hb
  have hl : lv_has ls 6 [(0, .ref (a 0)), (1, .long x1), (3, .int x2)] := hl
  obtain ⟨H, hH⟩ : ∃ H, H = s.heap := ⟨_, rfl⟩
  rw [← hH] at hP
  have hS : va_S A s.heap H [] := by rw [hH]; exact va_S.rf
  suffices g : W p l e (rmk 6 162) s m args below meth c H [] 0 0 (MQ below (QI NX eX a cy D A r σ') args s 0 0 A) (F0 m 0 ls []) by rw [hH] at g; exact g
  clear hH
  obtain ⟨locs, hlocs⟩ : ∃ z : List Loc, z = [] := ⟨_, rfl⟩
  rw [← hlocs] at hS ⊢
  have hL58 : ∀ (k24 : Int64 → Int32 → Int32 → Int32 → ST → Option (Int32 × ST)) (hk24 : (∀ (v1 : Int64) (v3 : Int32) (v4 : Int32) (v5 : Int32) (s0 : ST) (H : Heap) (locs : List Loc) (ls : Array Slot), k24 v1 v3 v4 v5 s0 = some (r, σ') → va_P D vwCl (wG NX eX a cy s0) H → va_S A s.heap H locs → lv_has ls 6 [(0, .ref (a 0)), (1, .long v1), (3, .int v3), (4, .int v4), (5, .int v5)] → W p l e (rmk 6 162) s m args below meth c H locs 0 0 (MQ below (QI NX eX a cy D A r σ') args s 0 0 A) (F0 m 24 ls []))), (∀ (v1 : Int64) (v3 : Int32) (v4 : Int32) (v5 : Int32) (s0 : ST) (H : Heap) (locs : List Loc) (ls : Array Slot), f_X9_bribes_L58 k24 v1 v3 v4 v5 s0 = some (r, σ') → va_P D vwCl (wG NX eX a cy s0) H → va_S A s.heap H locs → lv_has ls 6 [(0, .ref (a 0)), (1, .long v1), (3, .int v3), (4, .int v4), (5, .int v5)] → W p l e (rmk 6 162) s m args below meth c H locs 0 0 (MQ below (QI NX eX a cy D A r σ') args s 0 0 A) (F0 m 58 ls [])) := by
    intro k24 hk24 v1 v3 v4 v5 s0 H locs ls hf hP hS hl
    obtain ⟨y1, ey1, hf⟩ := jlet_e hf
    refine lv_iinc (v := y1) (lv' := [(5, .int y1), (0, .ref (a 0)), (1, .long v1), (3, .int v3), (4, .int v4)]) hx hb dX9_bribes_58 hl (k := 4) rfl ey1 (by decide) rfl (fun ls hl => ?_)
    refine lv_goto (tgt := 24) hx hb dX9_bribes_61 (by decide) ?_
    exact hk24 v1 v3 v4 y1 s0 H locs ls hf hP hS (lv_sub hl [1, 2, 3, 4, 0] rfl)
  have hL24 : ∀ (n : Nat), (∀ (v1 : Int64) (v3 : Int32) (v4 : Int32) (v5 : Int32) (s0 : ST) (H : Heap) (locs : List Loc) (ls : Array Slot), f_X9_bribes_L24 n v1 v3 v4 v5 s0 = some (r, σ') → va_P D vwCl (wG NX eX a cy s0) H → va_S A s.heap H locs → lv_has ls 6 [(0, .ref (a 0)), (1, .long v1), (3, .int v3), (4, .int v4), (5, .int v5)] → W p l e (rmk 6 162) s m args below meth c H locs 0 0 (MQ below (QI NX eX a cy D A r σ') args s 0 0 A) (F0 m 24 ls [])) := by
    intro n
    induction n with
    | zero => intro v1 v3 v4 v5 s0 H locs ls hf hP hS hl; exact no_o hf
    | succ n ih =>
      intro v1 v3 v4 v5 s0 H locs ls hf hP hS hl
      have hf := (ef_X9_bribes_L24 _ _ _ _ _).symm.trans hf
      refine lv_iload hx hb dX9_bribes_24 (lv_at hl 4 rfl) ?_
      refine lv_iconst (v := (1 : Int32)) hx hb dX9_bribes_26 (by decide) ?_
      refine lv_aload_n hx hb dX9_bribes_27 rfl (lv_at hl 0 rfl) ?_
      refine gf_X9_1 C hP wk_2_180 dX9_bribes_28 ?_
      refine gf_X1_6 C hP wk_1_68 dX9_bribes_31 ?_
      refine r_ishl C dX9_bribes_34 ?_
      refine lv_icmp_ge (tgt := 64) hx hb dX9_bribes_35 (by decide) (fun hc => ?_) (fun hc => ?_)
      · have hf := jif_t hc hf
        refine lv_iload hx hb dX9_bribes_64 (lv_at hl 3 rfl) ?_
        exact ret_i C hP hS (Prod.mk.inj (Option.some.inj hf)).1 (Prod.mk.inj (Option.some.inj hf)).2 dX9_bribes_66
      · have hf := jif_f hc hf
        refine lv_aload_n hx hb dX9_bribes_38 rfl (lv_at hl 0 rfl) ?_
        refine lv_iload hx hb dX9_bribes_39 (lv_at hl 4 rfl) ?_
        refine lv_lload_n hx hb dX9_bribes_41 rfl (lv_at hl 1 rfl) ?_
        refine lv_iload_n hx hb dX9_bribes_42 rfl (lv_at hl 2 rfl) ?_
        obtain ⟨y1, s2, hc, hf⟩ := jbp_e hf
        refine r_cz (r_runV (As := [.int v5, .long v1, .int v3]) (rest := []) C hP hS (va_recv C.hK hP (q0 := 0) (ci := 9) rfl (by rw [g_at oX_9.1, oX_9.2])) (k_X9_holdsWithout (l := l) O hc) mw_X9_holdsWithout mi_X9_holdsWithout mv_X9_holdsWithout wk_4_19 ⟨Nat.le_of_ble_eq_true rfl, Nat.le_of_ble_eq_true rfl⟩ ⟨rfl, rfl⟩ ⟨Nat.zero_le _, Nat.zero_le _⟩ rfl hl.1 rfl (Nat.le_of_ble_eq_true rfl) dX9_bribes_43) hS (fun H locs hzy1 hP hS => ?_)
        refine lv_if_eq (tgt := 58) hx hb dX9_bribes_46 (by decide) (fun hc => ?_) (fun hc => ?_)
        · have hf := jif_t hc hf
          exact hL58 (f_X9_bribes_L24 n) ih v1 v3 v4 v5 s2 H locs ls hf hP hS (lv_sub hl [0, 1, 2, 3, 4] rfl)
        · have hf := jif_f hc hf
          refine lv_iload hx hb dX9_bribes_49 (lv_at hl 3 rfl) ?_
          refine lv_iconst (v := (1 : Int32)) hx hb dX9_bribes_51 (by decide) ?_
          refine lv_iload hx hb dX9_bribes_52 (lv_at hl 4 rfl) ?_
          refine r_ishl C dX9_bribes_54 ?_
          refine lv_ior hx hb dX9_bribes_55 ?_
          refine jl_topi hf (fun y3 hf => ?_)
          refine lv_istore (lv' := [(4, .int y3), (0, .ref (a 0)), (1, .long v1), (3, .int v3), (5, .int v5)]) hx hb dX9_bribes_56 hl (by decide) rfl (fun ls hl => ?_)
          exact hL58 (f_X9_bribes_L24 n) ih v1 v3 y3 v5 s2 H locs ls hf hP hS (lv_sub hl [1, 2, 3, 0, 4] rfl)
  refine lv_lload_n hx hb dX9_bribes_0 rfl (lv_at hl 1 rfl) ?_
  refine r_cz (r_runS (As := [.long x1]) (rest := []) C hP hS (k_X9_areCells (l := l) O (σ := σ) rfl) mw_X9_areCells ms_X9_areCells wk_2_218 ⟨Nat.le_of_ble_eq_true rfl, Nat.le_of_ble_eq_true rfl⟩ ⟨rfl, rfl⟩ ⟨Nat.zero_le _, Nat.zero_le _⟩ rfl hl.1 rfl (Nat.le_of_ble_eq_true rfl) dX9_bribes_1) hS (fun H locs hzy1 hP hS => ?_)
  refine jl_topz hf hzy1 (fun y1 hzy1 hf => ?_)
  refine lv_if_eq (tgt := 16) hx hb dX9_bribes_4 (by decide) (fun hc => ?_) (fun hc => ?_)
  · have hf := jif_t hc hf
    refine lv_iconst (v := (0 : Int32)) hx hb dX9_bribes_16 (by decide) ?_
    exact ret_i C hP hS (Prod.mk.inj (Option.some.inj hf)).1 (Prod.mk.inj (Option.some.inj hf)).2 dX9_bribes_17
  · have hf := jif_f hc hf
    refine lv_iload_n hx hb dX9_bribes_7 rfl (lv_at hl 2 rfl) ?_
    refine lv_bipush (v := (24 : Int32)) hx hb dX9_bribes_8 (by decide) ?_
    refine r_cz (r_runS (As := [.int x2, .int (24 : Int32)]) (rest := []) C hP hS (k_X9_isWithin (l := l) O (σ := σ) rfl) mw_X9_isWithin ms_X9_isWithin wk_2_215 ⟨Nat.le_of_ble_eq_true rfl, Nat.le_of_ble_eq_true rfl⟩ ⟨rfl, rfl⟩ ⟨Nat.zero_le _, Nat.zero_le _⟩ rfl hl.1 rfl (Nat.le_of_ble_eq_true rfl) dX9_bribes_10) hS (fun H locs hzy3 hP hS => ?_)
    refine jl_topz hf hzy3 (fun y3 hzy3 hf => ?_)
    refine lv_if_ne (tgt := 18) hx hb dX9_bribes_13 (by decide) (fun hc => ?_) (fun hc => ?_)
    · have hf := jif_t hc hf
      refine lv_iconst (v := (0 : Int32)) hx hb dX9_bribes_18 (by decide) ?_
      refine lv_istore (lv' := [(4, .int (0 : Int32)), (0, .ref (a 0)), (1, .long x1), (3, .int x2)]) hx hb dX9_bribes_19 hl (by decide) rfl (fun ls hl => ?_)
      refine lv_iconst (v := (0 : Int32)) hx hb dX9_bribes_21 (by decide) ?_
      refine lv_istore (lv' := [(5, .int (0 : Int32)), (4, .int (0 : Int32)), (0, .ref (a 0)), (1, .long x1), (3, .int x2)]) hx hb dX9_bribes_22 hl (by decide) rfl (fun ls hl => ?_)
      exact hL24 FU x1 x2 (0 : Int32) (0 : Int32) σ H locs ls hf hP hS (lv_sub hl [2, 3, 4, 1, 0] rfl)
    · have hf := jif_n hc hf
      refine lv_iconst (v := (0 : Int32)) hx hb dX9_bribes_16 (by decide) ?_
      exact ret_i C hP hS (Prod.mk.inj (Option.some.inj hf)).1 (Prod.mk.inj (Option.some.inj hf)).2 dX9_bribes_17
set_option maxHeartbeats 4000000 in
set_option maxRecDepth 100000 in
theorem k_X9_fewest {l : Launch} {a : Nat → Nat} {cy : Nat → ClassId} {D : va_G} {ad : Nat → Nat} {A : Nat → Prop} (O : WO NX a (EHX ad A) A) {x1 : Int64} {x2 : Int32} {x3 : Int32} {r : Int32} {σ : ST} {σ' : ST} (hf : f_X9_fewest x1 x2 x3 σ = some (r, σ')) : Met l yX9_fewest (Cond.code yX9_fewest cX9_fewest 9 (some .int) :: WS) (rmk 6 162) (PC [.ref (a 0), .long x1, .int x2, .int x3] NX eX a cy D (EHX ad A) σ) (QI NX eX a cy D A r σ') 0 0 A := by
  refine met_go (own := "GuardsLookLeft") O (by decide +kernel) rfl (Nat.le_of_ble_eq_true rfl) ?_
  intro p e s m args below meth c ls C hP hS hl
  have hx := C.hx
  have hb := C.hb
  have hl : lv_has ls 9 [(0, .ref (a 0)), (1, .long x1), (3, .int x2), (4, .int x3)] := hl
  obtain ⟨H, hH⟩ : ∃ H, H = s.heap := ⟨_, rfl⟩
  rw [← hH] at hP
  have hS : va_S A s.heap H [] := by rw [hH]; exact va_S.rf
  suffices g : W p l e (rmk 6 162) s m args below meth c H [] 0 0 (MQ below (QI NX eX a cy D A r σ') args s 0 0 A) (F0 m 0 ls []) by rw [hH] at g; exact g
  clear hH
  obtain ⟨locs, hlocs⟩ : ∃ z : List Loc, z = [] := ⟨_, rfl⟩
  rw [← hlocs] at hS ⊢
  have hL98 : ∀ (k54 : Int64 → Int32 → Int32 → Int32 → Int32 → Int32 → Int32 → ST → Option (Int32 × ST)) (hk54 : (∀ (v1 : Int64) (v3 : Int32) (v4 : Int32) (v5 : Int32) (v6 : Int32) (v7 : Int32) (v8 : Int32) (s0 : ST) (H : Heap) (locs : List Loc) (ls : Array Slot), k54 v1 v3 v4 v5 v6 v7 v8 s0 = some (r, σ') → va_P D vwCl (wG NX eX a cy s0) H → va_S A s.heap H locs → lv_has ls 9 [(0, .ref (a 0)), (1, .long v1), (3, .int v3), (4, .int v4), (5, .int v5), (6, .int v6), (7, .int v7), (8, .int v8)] → W p l e (rmk 6 162) s m args below meth c H locs 0 0 (MQ below (QI NX eX a cy D A r σ') args s 0 0 A) (F0 m 54 ls []))), (∀ (v1 : Int64) (v3 : Int32) (v4 : Int32) (v5 : Int32) (v6 : Int32) (v7 : Int32) (v8 : Int32) (s0 : ST) (H : Heap) (locs : List Loc) (ls : Array Slot), f_X9_fewest_L98 k54 v1 v3 v4 v5 v6 v7 v8 s0 = some (r, σ') → va_P D vwCl (wG NX eX a cy s0) H → va_S A s.heap H locs → lv_has ls 9 [(0, .ref (a 0)), (1, .long v1), (3, .int v3), (4, .int v4), (5, .int v5), (6, .int v6), (7, .int v7), (8, .int v8)] → W p l e (rmk 6 162) s m args below meth c H locs 0 0 (MQ below (QI NX eX a cy D A r σ') args s 0 0 A) (F0 m 98 ls [])) := by
    intro k54 hk54 v1 v3 v4 v5 v6 v7 v8 s0 H locs ls hf hP hS hl
    obtain ⟨y1, ey1, hf⟩ := jlet_e hf
    refine lv_iinc (v := y1) (lv' := [(8, .int y1), (0, .ref (a 0)), (1, .long v1), (3, .int v3), (4, .int v4), (5, .int v5), (6, .int v6), (7, .int v7)]) hx hb dX9_fewest_98 hl (k := 7) rfl ey1 (by decide) rfl (fun ls hl => ?_)
    refine lv_goto (tgt := 54) hx hb dX9_fewest_101 (by decide) ?_
    exact hk54 v1 v3 v4 v5 v6 v7 y1 s0 H locs ls hf hP hS (lv_sub hl [1, 2, 3, 4, 5, 6, 7, 0] rfl)
  have hL54 : ∀ (n : Nat), (∀ (v1 : Int64) (v3 : Int32) (v4 : Int32) (v5 : Int32) (v6 : Int32) (v7 : Int32) (v8 : Int32) (s0 : ST) (H : Heap) (locs : List Loc) (ls : Array Slot), f_X9_fewest_L54 n v1 v3 v4 v5 v6 v7 v8 s0 = some (r, σ') → va_P D vwCl (wG NX eX a cy s0) H → va_S A s.heap H locs → lv_has ls 9 [(0, .ref (a 0)), (1, .long v1), (3, .int v3), (4, .int v4), (5, .int v5), (6, .int v6), (7, .int v7), (8, .int v8)] → W p l e (rmk 6 162) s m args below meth c H locs 0 0 (MQ below (QI NX eX a cy D A r σ') args s 0 0 A) (F0 m 54 ls [])) := by
    intro n
    induction n with
    | zero => intro v1 v3 v4 v5 v6 v7 v8 s0 H locs ls hf hP hS hl; exact no_o hf
    | succ n ih =>
      intro v1 v3 v4 v5 v6 v7 v8 s0 H locs ls hf hP hS hl
      have hf := (ef_X9_fewest_L54 _ _ _ _ _ _ _ _).symm.trans hf
      refine lv_iload hx hb dX9_fewest_54 (lv_at hl 7 rfl) ?_
      refine lv_iload hx hb dX9_fewest_56 (lv_at hl 4 rfl) ?_
      refine lv_icmp_gt (tgt := 104) hx hb dX9_fewest_58 (by decide) (fun hc => ?_) (fun hc => ?_)
      · have hf := jif_t hc hf
        refine lv_iload hx hb dX9_fewest_104 (lv_at hl 3 rfl) ?_
        refine lv_if_eq (tgt := 115) hx hb dX9_fewest_106 (by decide) (fun hc => ?_) (fun hc => ?_)
        · have hf := jif_t hc hf
          refine lv_iload hx hb dX9_fewest_115 (lv_at hl 5 rfl) ?_
          refine lv_goto (tgt := 122) hx hb dX9_fewest_117 (by decide) ?_
          exact ret_i C hP hS (Prod.mk.inj (Option.some.inj hf)).1 (Prod.mk.inj (Option.some.inj hf)).2 dX9_fewest_122
        · have hf := jif_f hc hf
          refine lv_iload hx hb dX9_fewest_109 (lv_at hl 5 rfl) ?_
          refine lv_iconst (v := (-1 : Int32)) hx hb dX9_fewest_111 (by decide) ?_
          refine lv_icmp_ne (tgt := 120) hx hb dX9_fewest_112 (by decide) (fun hc => ?_) (fun hc => ?_)
          · have hf := jif_t hc hf
            refine lv_iload hx hb dX9_fewest_120 (lv_at hl 6 rfl) ?_
            exact ret_i C hP hS (Prod.mk.inj (Option.some.inj hf)).1 (Prod.mk.inj (Option.some.inj hf)).2 dX9_fewest_122
          · have hf := jif_n hc hf
            refine lv_iload hx hb dX9_fewest_115 (lv_at hl 5 rfl) ?_
            refine lv_goto (tgt := 122) hx hb dX9_fewest_117 (by decide) ?_
            exact ret_i C hP hS (Prod.mk.inj (Option.some.inj hf)).1 (Prod.mk.inj (Option.some.inj hf)).2 dX9_fewest_122
      · have hf := jif_f hc hf
        refine lv_iload hx hb dX9_fewest_61 (lv_at hl 7 rfl) ?_
        refine r_ci (r_runS (As := [.int v8]) (rest := []) C hP hS (k_J6_bitCount_0f7a4 (l := l) O (σ := s0) rfl) mw_J6_bitCount_0f7a4 ms_J6_bitCount_0f7a4 wk_3_233 ⟨Nat.le_of_ble_eq_true rfl, Nat.le_of_ble_eq_true rfl⟩ ⟨rfl, rfl⟩ ⟨Nat.zero_le _, Nat.zero_le _⟩ rfl hl.1 rfl (Nat.le_of_ble_eq_true rfl) dX9_fewest_63) hS (fun H locs hP hS => ?_)
        refine jl_topi hf (fun y1 hf => ?_)
        refine lv_iload hx hb dX9_fewest_66 (lv_at hl 6 rfl) ?_
        refine lv_icmp_ge (tgt := 98) hx hb dX9_fewest_68 (by decide) (fun hc => ?_) (fun hc => ?_)
        · have hf := jif_t hc hf
          exact hL98 (f_X9_fewest_L54 n) ih v1 v3 v4 v5 v6 v7 v8 s0 H locs ls hf hP hS (lv_sub hl [0, 1, 2, 3, 4, 5, 6, 7] rfl)
        · have hf := jif_f hc hf
          refine lv_aload_n hx hb dX9_fewest_71 rfl (lv_at hl 0 rfl) ?_
          refine lv_iload hx hb dX9_fewest_72 (lv_at hl 4 rfl) ?_
          refine lv_iload hx hb dX9_fewest_74 (lv_at hl 7 rfl) ?_
          refine lv_iconst (v := (-1 : Int32)) hx hb dX9_fewest_76 (by decide) ?_
          refine lv_ixor hx hb dX9_fewest_77 ?_
          refine lv_iand hx hb dX9_fewest_78 ?_
          refine lv_lload_n hx hb dX9_fewest_79 rfl (lv_at hl 1 rfl) ?_
          refine lv_iload_n hx hb dX9_fewest_80 rfl (lv_at hl 2 rfl) ?_
          obtain ⟨y3, s4, hc, hf⟩ := jbp_e hf
          refine r_cz (r_runV (As := [.int (v5 &&& (v8 ^^^ (-1 : Int32))), .long v1, .int v3]) (rest := []) C hP hS (va_recv C.hK hP (q0 := 0) (ci := 9) rfl (by rw [g_at oX_9.1, oX_9.2])) (k_X9_holdsWithout (l := l) O hc) mw_X9_holdsWithout mi_X9_holdsWithout mv_X9_holdsWithout wk_4_19 ⟨Nat.le_of_ble_eq_true rfl, Nat.le_of_ble_eq_true rfl⟩ ⟨rfl, rfl⟩ ⟨Nat.zero_le _, Nat.zero_le _⟩ rfl hl.1 rfl (Nat.le_of_ble_eq_true rfl) dX9_fewest_81) hS (fun H locs hzy3 hP hS => ?_)
          refine lv_if_eq (tgt := 98) hx hb dX9_fewest_84 (by decide) (fun hc => ?_) (fun hc => ?_)
          · have hf := jif_t hc hf
            exact hL98 (f_X9_fewest_L54 n) ih v1 v3 v4 v5 v6 v7 v8 s4 H locs ls hf hP hS (lv_sub hl [0, 1, 2, 3, 4, 5, 6, 7] rfl)
          · have hf := jif_f hc hf
            refine lv_iload hx hb dX9_fewest_87 (lv_at hl 7 rfl) ?_
            refine r_ci (r_runS (As := [.int v8]) (rest := []) C hP hS (k_J6_bitCount_0f7a4 (l := l) O (σ := s4) rfl) mw_J6_bitCount_0f7a4 ms_J6_bitCount_0f7a4 wk_3_233 ⟨Nat.le_of_ble_eq_true rfl, Nat.le_of_ble_eq_true rfl⟩ ⟨rfl, rfl⟩ ⟨Nat.zero_le _, Nat.zero_le _⟩ rfl hl.1 rfl (Nat.le_of_ble_eq_true rfl) dX9_fewest_89) hS (fun H locs hP hS => ?_)
            refine jl_topi hf (fun y5 hf => ?_)
            refine lv_istore (lv' := [(7, .int y5), (0, .ref (a 0)), (1, .long v1), (3, .int v3), (4, .int v4), (5, .int v5), (6, .int v6), (8, .int v8)]) hx hb dX9_fewest_92 hl (by decide) rfl (fun ls hl => ?_)
            refine lv_iload hx hb dX9_fewest_94 (lv_at hl 7 rfl) ?_
            refine lv_istore (lv' := [(6, .int v8), (7, .int y5), (0, .ref (a 0)), (1, .long v1), (3, .int v3), (4, .int v4), (5, .int v5), (8, .int v8)]) hx hb dX9_fewest_96 hl (by decide) rfl (fun ls hl => ?_)
            exact hL98 (f_X9_fewest_L54 n) ih v1 v3 v4 v5 v8 y5 v8 s4 H locs ls hf hP hS (lv_sub hl [2, 3, 4, 5, 6, 0, 1, 7] rfl)
  refine lv_lload_n hx hb dX9_fewest_0 rfl (lv_at hl 1 rfl) ?_
  refine r_cz (r_runS (As := [.long x1]) (rest := []) C hP hS (k_X9_areCells (l := l) O (σ := σ) rfl) mw_X9_areCells ms_X9_areCells wk_2_218 ⟨Nat.le_of_ble_eq_true rfl, Nat.le_of_ble_eq_true rfl⟩ ⟨rfl, rfl⟩ ⟨Nat.zero_le _, Nat.zero_le _⟩ rfl hl.1 rfl (Nat.le_of_ble_eq_true rfl) dX9_fewest_1) hS (fun H locs hzy1 hP hS => ?_)
  refine jl_topz hf hzy1 (fun y1 hzy1 hf => ?_)
  refine lv_if_ne (tgt := 10) hx hb dX9_fewest_4 (by decide) (fun hc => ?_) (fun hc => ?_)
  · have hf := jif_t hc hf
    refine lv_iload_n hx hb dX9_fewest_10 rfl (lv_at hl 2 rfl) ?_
    refine lv_bipush (v := (24 : Int32)) hx hb dX9_fewest_11 (by decide) ?_
    refine r_cz (r_runS (As := [.int x2, .int (24 : Int32)]) (rest := []) C hP hS (k_X9_isWithin (l := l) O (σ := σ) rfl) mw_X9_isWithin ms_X9_isWithin wk_2_215 ⟨Nat.le_of_ble_eq_true rfl, Nat.le_of_ble_eq_true rfl⟩ ⟨rfl, rfl⟩ ⟨Nat.zero_le _, Nat.zero_le _⟩ rfl hl.1 rfl (Nat.le_of_ble_eq_true rfl) dX9_fewest_13) hS (fun H locs hzy3 hP hS => ?_)
    refine jl_topz hf hzy3 (fun y3 hzy3 hf => ?_)
    refine lv_if_eq (tgt := 28) hx hb dX9_fewest_16 (by decide) (fun hc => ?_) (fun hc => ?_)
    · have hf := jif_t hc hf
      refine lv_bipush (v := (-7 : Int32)) hx hb dX9_fewest_28 (by decide) ?_
      exact ret_i C hP hS (Prod.mk.inj (Option.some.inj hf)).1 (Prod.mk.inj (Option.some.inj hf)).2 dX9_fewest_30
    · have hf := jif_f hc hf
      refine lv_iload hx hb dX9_fewest_19 (lv_at hl 3 rfl) ?_
      refine lv_iconst (v := (1 : Int32)) hx hb dX9_fewest_21 (by decide) ?_
      refine r_cz (r_runS (As := [.int x3, .int (1 : Int32)]) (rest := []) C hP hS (k_X9_isWithin (l := l) O (σ := σ) rfl) mw_X9_isWithin ms_X9_isWithin wk_2_215 ⟨Nat.le_of_ble_eq_true rfl, Nat.le_of_ble_eq_true rfl⟩ ⟨rfl, rfl⟩ ⟨Nat.zero_le _, Nat.zero_le _⟩ rfl hl.1 rfl (Nat.le_of_ble_eq_true rfl) dX9_fewest_22) hS (fun H locs hzy5 hP hS => ?_)
      refine jl_topz hf hzy5 (fun y5 hzy5 hf => ?_)
      refine lv_if_ne (tgt := 31) hx hb dX9_fewest_25 (by decide) (fun hc => ?_) (fun hc => ?_)
      · have hf := jif_t hc hf
        refine lv_iconst (v := (1 : Int32)) hx hb dX9_fewest_31 (by decide) ?_
        refine lv_aload_n hx hb dX9_fewest_32 rfl (lv_at hl 0 rfl) ?_
        refine gf_X9_1 C hP wk_2_180 dX9_fewest_33 ?_
        refine gf_X1_6 C hP wk_1_68 dX9_fewest_36 ?_
        refine r_ishl C dX9_fewest_39 ?_
        refine lv_iconst (v := (1 : Int32)) hx hb dX9_fewest_40 (by decide) ?_
        refine lv_isub hx hb dX9_fewest_41 ?_
        refine jl_topi hf (fun y7 hf => ?_)
        refine lv_istore (lv' := [(5, .int y7), (0, .ref (a 0)), (1, .long x1), (3, .int x2), (4, .int x3)]) hx hb dX9_fewest_42 hl (by decide) rfl (fun ls hl => ?_)
        refine lv_iconst (v := (-1 : Int32)) hx hb dX9_fewest_44 (by decide) ?_
        refine lv_istore (lv' := [(6, .int (-1 : Int32)), (5, .int y7), (0, .ref (a 0)), (1, .long x1), (3, .int x2), (4, .int x3)]) hx hb dX9_fewest_45 hl (by decide) rfl (fun ls hl => ?_)
        refine lv_bipush (v := (6 : Int32)) hx hb dX9_fewest_47 (by decide) ?_
        refine lv_istore (lv' := [(7, .int (6 : Int32)), (6, .int (-1 : Int32)), (5, .int y7), (0, .ref (a 0)), (1, .long x1), (3, .int x2), (4, .int x3)]) hx hb dX9_fewest_49 hl (by decide) rfl (fun ls hl => ?_)
        refine lv_iconst (v := (0 : Int32)) hx hb dX9_fewest_51 (by decide) ?_
        refine lv_istore (lv' := [(8, .int (0 : Int32)), (7, .int (6 : Int32)), (6, .int (-1 : Int32)), (5, .int y7), (0, .ref (a 0)), (1, .long x1), (3, .int x2), (4, .int x3)]) hx hb dX9_fewest_52 hl (by decide) rfl (fun ls hl => ?_)
        exact hL54 FU x1 x2 x3 y7 (-1 : Int32) (6 : Int32) (0 : Int32) σ H locs ls hf hP hS (lv_sub hl [4, 5, 6, 7, 3, 2, 1, 0] rfl)
      · have hf := jif_n hc hf
        refine lv_bipush (v := (-7 : Int32)) hx hb dX9_fewest_28 (by decide) ?_
        exact ret_i C hP hS (Prod.mk.inj (Option.some.inj hf)).1 (Prod.mk.inj (Option.some.inj hf)).2 dX9_fewest_30
  · have hf := jif_n hc hf
    refine lv_bipush (v := (-5 : Int32)) hx hb dX9_fewest_7 (by decide) ?_
    exact ret_i C hP hS (Prod.mk.inj (Option.some.inj hf)).1 (Prod.mk.inj (Option.some.inj hf)).2 dX9_fewest_9
set_option maxHeartbeats 4000000 in
set_option maxRecDepth 100000 in
theorem k_X9_refusalOfTold {l : Launch} {a : Nat → Nat} {cy : Nat → ClassId} {D : va_G} {ad : Nat → Nat} {A : Nat → Prop} (O : WO NX a (EHX ad A) A) {x1 : Int32} {x2 : Int32} {r : Int32} {σ : ST} (hf : f_X9_refusalOfTold x1 x2 σ = some r) : Met l yX9_refusalOfTold (Cond.code yX9_refusalOfTold cX9_refusalOfTold 3 (some .int) :: WS) (rmk 2 41) (PC [.ref (a 0), .int x1, .int x2] NX eX a cy D (EHX ad A) σ) (QI NX eX a cy D A r σ) 0 0 A := by
  refine met_go (own := "GuardsLookLeft") O (by decide +kernel) rfl (Nat.le_of_ble_eq_true rfl) ?_
  intro p e s m args below meth c ls C hP hS hl
  have hx := C.hx
  have hb := C.hb
  have hl : lv_has ls 3 [(0, .ref (a 0)), (1, .int x1), (2, .int x2)] := hl
  obtain ⟨H, hH⟩ : ∃ H, H = s.heap := ⟨_, rfl⟩
  rw [← hH] at hP
  have hS : va_S A s.heap H [] := by rw [hH]; exact va_S.rf
  suffices g : W p l e (rmk 2 41) s m args below meth c H [] 0 0 (MQ below (QI NX eX a cy D A r σ) args s 0 0 A) (F0 m 0 ls []) by rw [hH] at g; exact g
  clear hH
  obtain ⟨locs, hlocs⟩ : ∃ z : List Loc, z = [] := ⟨_, rfl⟩
  rw [← hlocs] at hS ⊢
  refine lv_iload_n hx hb dX9_refusalOfTold_0 rfl (lv_at hl 1 rfl) ?_
  refine r_cz (r_runS (As := [.int x1]) (rest := []) C hP hS (k_X9_isSheet (l := l) O (σ := σ) rfl) mw_X9_isSheet ms_X9_isSheet wk_4_40 ⟨Nat.le_of_ble_eq_true rfl, Nat.le_of_ble_eq_true rfl⟩ ⟨rfl, rfl⟩ ⟨Nat.zero_le _, Nat.zero_le _⟩ rfl hl.1 rfl (Nat.le_of_ble_eq_true rfl) dX9_refusalOfTold_1) hS (fun H locs hzy1 hP hS => ?_)
  refine jl_topz hf hzy1 (fun y1 hzy1 hf => ?_)
  refine lv_if_ne (tgt := 10) hx hb dX9_refusalOfTold_4 (by decide) (fun hc => ?_) (fun hc => ?_)
  · have hf := jif_t hc hf
    refine lv_aload_n hx hb dX9_refusalOfTold_10 rfl (lv_at hl 0 rfl) ?_
    refine gf_X9_8 C hP wk_2_187 dX9_refusalOfTold_11 ?_
    refine lv_iload_n hx hb dX9_refusalOfTold_14 rfl (lv_at hl 1 rfl) ?_
    obtain ⟨hi3, hf⟩ := jix_e hf
    refine r_qald C hP aX_13 rfl rfl hi3 dX9_refusalOfTold_15 ?_
    refine jl_ref hf (show 9 ≤ 9 + (Int32.toNatClampNeg x1) ∧ 9 + (Int32.toNatClampNeg x1) < 13 by have := vp_lt hi3; omega) (fun q4 hq4 hf => ?_)
    refine gf_X5_0 hq4 C hP wk_2_26 dX9_refusalOfTold_16 ?_
    refine lv_iconst (v := (-1 : Int32)) hx hb dX9_refusalOfTold_19 (by decide) ?_
    refine lv_icmp_ne (tgt := 26) hx hb dX9_refusalOfTold_20 (by decide) (fun hc => ?_) (fun hc => ?_)
    · have hf := jif_t hc hf
      refine lv_aload_n hx hb dX9_refusalOfTold_26 rfl (lv_at hl 0 rfl) ?_
      refine gf_X9_8 C hP wk_2_187 dX9_refusalOfTold_27 ?_
      refine lv_iload_n hx hb dX9_refusalOfTold_30 rfl (lv_at hl 1 rfl) ?_
      obtain ⟨hi5, hf⟩ := jix_e hf
      refine r_qald C hP aX_13 rfl rfl hi5 dX9_refusalOfTold_31 ?_
      refine jl_ref hf (show 9 ≤ 9 + (Int32.toNatClampNeg x1) ∧ 9 + (Int32.toNatClampNeg x1) < 13 by have := vp_lt hi5; omega) (fun q6 hq6 hf => ?_)
      refine gf_X5_1 hq6 C hP wk_2_28 dX9_refusalOfTold_32 ?_
      refine lv_bipush (v := (24 : Int32)) hx hb dX9_refusalOfTold_35 (by decide) ?_
      refine lv_icmp_eq (tgt := 43) hx hb dX9_refusalOfTold_37 (by decide) (fun hc => ?_) (fun hc => ?_)
      · have hf := jif_t hc hf
        refine lv_iload_n hx hb dX9_refusalOfTold_43 rfl (lv_at hl 2 rfl) ?_
        refine r_cz (r_runS (As := [.int x2]) (rest := []) C hP hS (k_X9_isCell (l := l) O (σ := σ) rfl) mw_X9_isCell ms_X9_isCell wk_2_231 ⟨Nat.le_of_ble_eq_true rfl, Nat.le_of_ble_eq_true rfl⟩ ⟨rfl, rfl⟩ ⟨Nat.zero_le _, Nat.zero_le _⟩ rfl hl.1 rfl (Nat.le_of_ble_eq_true rfl) dX9_refusalOfTold_44) hS (fun H locs hzy7 hP hS => ?_)
        refine jl_topz hf hzy7 (fun y7 hzy7 hf => ?_)
        refine lv_if_eq (tgt := 54) hx hb dX9_refusalOfTold_47 (by decide) (fun hc => ?_) (fun hc => ?_)
        · have hf := jif_t hc hf
          refine lv_bipush (v := (-5 : Int32)) hx hb dX9_refusalOfTold_54 (by decide) ?_
          exact ret_i C hP hS (Option.some.inj hf) rfl dX9_refusalOfTold_56
        · have hf := jif_f hc hf
          refine lv_iconst (v := (0 : Int32)) hx hb dX9_refusalOfTold_50 (by decide) ?_
          refine lv_goto (tgt := 56) hx hb dX9_refusalOfTold_51 (by decide) ?_
          exact ret_i C hP hS (Option.some.inj hf) rfl dX9_refusalOfTold_56
      · have hf := jif_f hc hf
        refine lv_bipush (v := (-2 : Int32)) hx hb dX9_refusalOfTold_40 (by decide) ?_
        exact ret_i C hP hS (Option.some.inj hf) rfl dX9_refusalOfTold_42
    · have hf := jif_n hc hf
      refine lv_bipush (v := (-11 : Int32)) hx hb dX9_refusalOfTold_23 (by decide) ?_
      exact ret_i C hP hS (Option.some.inj hf) rfl dX9_refusalOfTold_25
  · have hf := jif_n hc hf
    refine lv_bipush (v := (-2 : Int32)) hx hb dX9_refusalOfTold_7 (by decide) ?_
    exact ret_i C hP hS (Option.some.inj hf) rfl dX9_refusalOfTold_9
set_option maxHeartbeats 4000000 in
set_option maxRecDepth 100000 in
theorem k_X9_judge {l : Launch} {a : Nat → Nat} {cy : Nat → ClassId} {D : va_G} {ad : Nat → Nat} {A : Nat → Prop} (O : WO NX a (EHX ad A) A) {x1 : Int32} {x2 : Int32} {r : Int32} {σ : ST} {σ' : ST} (hf : f_X9_judge x1 x2 σ = some (r, σ')) : Met l yX9_judge (Cond.code yX9_judge cX9_judge 4 (some .int) :: WS) (rmk 6 158) (PC [.ref (a 0), .int x1, .int x2] NX eX a cy D (EHX ad A) σ) (QI NX eX a cy D A r σ') 0 0 A := by
  refine met_go (own := "GuardsLookLeft") O (by decide +kernel) rfl (Nat.le_of_ble_eq_true rfl) ?_
  intro p e s m args below meth c ls C hP hS hl
  have hx := C.hx
  have hb := C.hb
  have hl : lv_has ls 4 [(0, .ref (a 0)), (1, .int x1), (2, .int x2)] := hl
  obtain ⟨H, hH⟩ : ∃ H, H = s.heap := ⟨_, rfl⟩
  rw [← hH] at hP
  have hS : va_S A s.heap H [] := by rw [hH]; exact va_S.rf
  suffices g : W p l e (rmk 6 158) s m args below meth c H [] 0 0 (MQ below (QI NX eX a cy D A r σ') args s 0 0 A) (F0 m 0 ls []) by rw [hH] at g; exact g
  clear hH
  obtain ⟨locs, hlocs⟩ : ∃ z : List Loc, z = [] := ⟨_, rfl⟩
  rw [← hlocs] at hS ⊢
  refine lv_aload_n hx hb dX9_judge_0 rfl (lv_at hl 0 rfl) ?_
  refine lv_iload_n hx hb dX9_judge_1 rfl (lv_at hl 1 rfl) ?_
  refine lv_iload_n hx hb dX9_judge_2 rfl (lv_at hl 2 rfl) ?_
  obtain ⟨y1, hc, hf⟩ := jb_e hf
  refine r_ci (r_runV (As := [.int x1, .int x2]) (rest := []) C hP hS (va_recv C.hK hP (q0 := 0) (ci := 9) rfl (by rw [g_at oX_9.1, oX_9.2])) (k_X9_refusalOfTold (l := l) O (σ := σ) hc) mw_X9_refusalOfTold mi_X9_refusalOfTold mv_X9_refusalOfTold wk_4_36 ⟨Nat.le_of_ble_eq_true rfl, Nat.le_of_ble_eq_true rfl⟩ ⟨rfl, rfl⟩ ⟨Nat.zero_le _, Nat.zero_le _⟩ rfl hl.1 rfl (Nat.le_of_ble_eq_true rfl) dX9_judge_3) hS (fun H locs hP hS => ?_)
  refine lv_istore_n (lv' := [(3, .int y1), (0, .ref (a 0)), (1, .int x1), (2, .int x2)]) hx hb dX9_judge_6 rfl hl (by decide) rfl (fun ls hl => ?_)
  refine lv_iload_n hx hb dX9_judge_7 rfl (lv_at hl 0 rfl) ?_
  refine lv_if_eq (tgt := 15) hx hb dX9_judge_8 (by decide) (fun hc => ?_) (fun hc => ?_)
  · have hf := jif_t hc hf
    refine lv_aload_n hx hb dX9_judge_15 rfl (lv_at hl 1 rfl) ?_
    refine gf_X9_8 C hP wk_2_187 dX9_judge_16 ?_
    refine lv_iload_n hx hb dX9_judge_19 rfl (lv_at hl 2 rfl) ?_
    obtain ⟨hi3, hf⟩ := jix_e hf
    refine r_qald C hP aX_13 rfl rfl hi3 dX9_judge_20 ?_
    refine jl_ref hf (show 9 ≤ 9 + (Int32.toNatClampNeg x1) ∧ 9 + (Int32.toNatClampNeg x1) < 13 by have := vp_lt hi3; omega) (fun q4 hq4 hf => ?_)
    refine lv_aload_n hx hb dX9_judge_21 rfl (lv_at hl 1 rfl) ?_
    obtain ⟨s6, hc, hf⟩ := jb_e hf
    refine r_cr (r_runV (As := []) (rest := [.ref (a q4)]) C hP hS (va_recv C.hK hP (q0 := 0) (ci := 9) rfl (by rw [g_at oX_9.1, oX_9.2])) (k_X9_seenNow (l := l) O hc) mw_X9_seenNow mi_X9_seenNow mv_X9_seenNow wk_3_126 ⟨Nat.le_of_ble_eq_true rfl, Nat.le_of_ble_eq_true rfl⟩ ⟨rfl, rfl⟩ ⟨Nat.zero_le _, Nat.zero_le _⟩ rfl hl.1 rfl (Nat.le_of_ble_eq_true rfl) dX9_judge_22) hS (fun H locs hP hS => ?_)
    refine lv_iload_n hx hb dX9_judge_25 rfl (lv_at hl 3 rfl) ?_
    obtain ⟨y7, hc, hf⟩ := jb_e hf
    refine r_ci (r_runV (As := [.ref (a 40), .int x2]) (rest := []) C hP hS (va_recv C.hK hP (q0 := q4) (ci := 5) rfl (by rw [g_at (oX_5 hq4).1, (oX_5 hq4).2])) (k_X5_firstOther (l := l) O (σ := s6) hq4 (show 40 ≤ 40 ∧ 40 < 42 by decide) hc) mw_X5_firstOther mi_X5_firstOther mv_X5_firstOther wk_4_43 ⟨Nat.le_of_ble_eq_true rfl, Nat.le_of_ble_eq_true rfl⟩ ⟨rfl, rfl⟩ ⟨Nat.zero_le _, Nat.zero_le _⟩ rfl hl.1 rfl (Nat.le_of_ble_eq_true rfl) dX9_judge_26) hS (fun H locs hP hS => ?_)
    exact ret_i C hP hS (Prod.mk.inj (Option.some.inj hf)).1 (Prod.mk.inj (Option.some.inj hf)).2 dX9_judge_29
  · have hf := jif_f hc hf
    refine lv_iload_n hx hb dX9_judge_11 rfl (lv_at hl 0 rfl) ?_
    refine lv_goto (tgt := 29) hx hb dX9_judge_12 (by decide) ?_
    exact ret_i C hP hS (Prod.mk.inj (Option.some.inj hf)).1 (Prod.mk.inj (Option.some.inj hf)).2 dX9_judge_29
set_option maxHeartbeats 4000000 in
set_option maxRecDepth 100000 in
theorem k_X9_which {l : Launch} {a : Nat → Nat} {cy : Nat → ClassId} {D : va_G} {ad : Nat → Nat} {A : Nat → Prop} (O : WO NX a (EHX ad A) A) {x1 : Int32} {r : Int64} {σ : ST} {σ' : ST} (hf : f_X9_which x1 σ = some (r, σ')) : Met l yX9_which (Cond.code yX9_which cX9_which 5 (some .long) :: WS) (rmk 6 158) (PC [.ref (a 0), .int x1] NX eX a cy D (EHX ad A) σ) (QL NX eX a cy D A r σ') 0 0 A := by
  refine met_go (own := "GuardsLookLeft") O (by decide +kernel) rfl (Nat.le_of_ble_eq_true rfl) ?_
  intro p e s m args below meth c ls C hP hS hl
  have hx := C.hx
  have hb := C.hb
  have hl : lv_has ls 5 [(0, .ref (a 0)), (1, .int x1)] := hl
  obtain ⟨H, hH⟩ : ∃ H, H = s.heap := ⟨_, rfl⟩
  rw [← hH] at hP
  have hS : va_S A s.heap H [] := by rw [hH]; exact va_S.rf
  suffices g : W p l e (rmk 6 158) s m args below meth c H [] 0 0 (MQ below (QL NX eX a cy D A r σ') args s 0 0 A) (F0 m 0 ls []) by rw [hH] at g; exact g
  clear hH
  obtain ⟨locs, hlocs⟩ : ∃ z : List Loc, z = [] := ⟨_, rfl⟩
  rw [← hlocs] at hS ⊢
  have hL51 : ∀ (k18 : Int32 → Int64 → Int32 → ST → Option (Int64 × ST)) (hk18 : (∀ (v1 : Int32) (v2 : Int64) (v4 : Int32) (s0 : ST) (H : Heap) (locs : List Loc) (ls : Array Slot), k18 v1 v2 v4 s0 = some (r, σ') → va_P D vwCl (wG NX eX a cy s0) H → va_S A s.heap H locs → lv_has ls 5 [(0, .ref (a 0)), (1, .int v1), (2, .long v2), (4, .int v4)] → W p l e (rmk 6 158) s m args below meth c H locs 0 0 (MQ below (QL NX eX a cy D A r σ') args s 0 0 A) (F0 m 18 ls []))), (∀ (v1 : Int32) (v2 : Int64) (v4 : Int32) (s0 : ST) (H : Heap) (locs : List Loc) (ls : Array Slot), f_X9_which_L51 k18 v1 v2 v4 s0 = some (r, σ') → va_P D vwCl (wG NX eX a cy s0) H → va_S A s.heap H locs → lv_has ls 5 [(0, .ref (a 0)), (1, .int v1), (2, .long v2), (4, .int v4)] → W p l e (rmk 6 158) s m args below meth c H locs 0 0 (MQ below (QL NX eX a cy D A r σ') args s 0 0 A) (F0 m 51 ls [])) := by
    intro k18 hk18 v1 v2 v4 s0 H locs ls hf hP hS hl
    obtain ⟨y1, ey1, hf⟩ := jlet_e hf
    refine lv_iinc (v := y1) (lv' := [(4, .int y1), (0, .ref (a 0)), (1, .int v1), (2, .long v2)]) hx hb dX9_which_51 hl (k := 3) rfl ey1 (by decide) rfl (fun ls hl => ?_)
    refine lv_goto (tgt := 18) hx hb dX9_which_54 (by decide) ?_
    exact hk18 v1 v2 y1 s0 H locs ls hf hP hS (lv_sub hl [1, 2, 3, 0] rfl)
  have hL18 : ∀ (n : Nat), (∀ (v1 : Int32) (v2 : Int64) (v4 : Int32) (s0 : ST) (H : Heap) (locs : List Loc) (ls : Array Slot), f_X9_which_L18 n v1 v2 v4 s0 = some (r, σ') → va_P D vwCl (wG NX eX a cy s0) H → va_S A s.heap H locs → lv_has ls 5 [(0, .ref (a 0)), (1, .int v1), (2, .long v2), (4, .int v4)] → W p l e (rmk 6 158) s m args below meth c H locs 0 0 (MQ below (QL NX eX a cy D A r σ') args s 0 0 A) (F0 m 18 ls [])) := by
    intro n
    induction n with
    | zero => intro v1 v2 v4 s0 H locs ls hf hP hS hl; exact no_o hf
    | succ n ih =>
      intro v1 v2 v4 s0 H locs ls hf hP hS hl
      have hf := (ef_X9_which_L18 _ _ _ _).symm.trans hf
      refine lv_iload hx hb dX9_which_18 (lv_at hl 3 rfl) ?_
      refine lv_bipush (v := (36 : Int32)) hx hb dX9_which_20 (by decide) ?_
      refine lv_icmp_ge (tgt := 57) hx hb dX9_which_22 (by decide) (fun hc => ?_) (fun hc => ?_)
      · have hf := jif_t hc hf
        refine lv_lload_n hx hb dX9_which_57 rfl (lv_at hl 2 rfl) ?_
        exact ret_l C hP hS (Prod.mk.inj (Option.some.inj hf)).1 (Prod.mk.inj (Option.some.inj hf)).2 dX9_which_58
      · have hf := jif_f hc hf
        refine lv_aload_n hx hb dX9_which_25 rfl (lv_at hl 0 rfl) ?_
        refine gf_X9_8 C hP wk_2_187 dX9_which_26 ?_
        refine lv_iload_n hx hb dX9_which_29 rfl (lv_at hl 1 rfl) ?_
        obtain ⟨hi1, hf⟩ := jix_e hf
        refine r_qald C hP aX_13 rfl rfl hi1 dX9_which_30 ?_
        refine jl_ref hf (show 9 ≤ 9 + (Int32.toNatClampNeg v1) ∧ 9 + (Int32.toNatClampNeg v1) < 13 by have := vp_lt hi1; omega) (fun q2 hq2 hf => ?_)
        refine lv_aload_n hx hb dX9_which_31 rfl (lv_at hl 0 rfl) ?_
        obtain ⟨s4, hc, hf⟩ := jb_e hf
        refine r_cr (r_runV (As := []) (rest := [.ref (a q2)]) C hP hS (va_recv C.hK hP (q0 := 0) (ci := 9) rfl (by rw [g_at oX_9.1, oX_9.2])) (k_X9_seenNow (l := l) O hc) mw_X9_seenNow mi_X9_seenNow mv_X9_seenNow wk_3_126 ⟨Nat.le_of_ble_eq_true rfl, Nat.le_of_ble_eq_true rfl⟩ ⟨rfl, rfl⟩ ⟨Nat.zero_le _, Nat.zero_le _⟩ rfl hl.1 rfl (Nat.le_of_ble_eq_true rfl) dX9_which_32) hS (fun H locs hP hS => ?_)
        refine lv_iload hx hb dX9_which_35 (lv_at hl 3 rfl) ?_
        obtain ⟨y5, hc, hf⟩ := jb_e hf
        refine r_ci (r_runV (As := [.ref (a 40), .int v4]) (rest := []) C hP hS (va_recv C.hK hP (q0 := q2) (ci := 5) rfl (by rw [g_at (oX_5 hq2).1, (oX_5 hq2).2])) (k_X5_firstOther (l := l) O (σ := s4) hq2 (show 40 ≤ 40 ∧ 40 < 42 by decide) hc) mw_X5_firstOther mi_X5_firstOther mv_X5_firstOther wk_4_43 ⟨Nat.le_of_ble_eq_true rfl, Nat.le_of_ble_eq_true rfl⟩ ⟨rfl, rfl⟩ ⟨Nat.zero_le _, Nat.zero_le _⟩ rfl hl.1 rfl (Nat.le_of_ble_eq_true rfl) dX9_which_37) hS (fun H locs hP hS => ?_)
        refine lv_iconst (v := (-1 : Int32)) hx hb dX9_which_40 (by decide) ?_
        refine lv_icmp_ne (tgt := 51) hx hb dX9_which_41 (by decide) (fun hc => ?_) (fun hc => ?_)
        · have hf := jif_t hc hf
          exact hL51 (f_X9_which_L18 n) ih v1 v2 v4 s4 H locs ls hf hP hS (lv_sub hl [0, 1, 2, 3] rfl)
        · have hf := jif_n hc hf
          refine lv_lload_n hx hb dX9_which_44 rfl (lv_at hl 2 rfl) ?_
          refine lv_lconst (v := (1 : Int64)) hx hb dX9_which_45 (by decide) ?_
          refine lv_iload hx hb dX9_which_46 (lv_at hl 3 rfl) ?_
          refine r_lshl C dX9_which_48 ?_
          refine lv_lor hx hb dX9_which_49 ?_
          refine jl_topl hf (fun y7 hf => ?_)
          refine lv_lstore_n (lv' := [(2, .long y7), (0, .ref (a 0)), (1, .int v1), (4, .int v4)]) hx hb dX9_which_50 rfl hl (by decide) rfl (fun ls hl => ?_)
          exact hL51 (f_X9_which_L18 n) ih v1 y7 v4 s4 H locs ls hf hP hS (lv_sub hl [1, 2, 0, 3] rfl)
  refine lv_aload_n hx hb dX9_which_0 rfl (lv_at hl 0 rfl) ?_
  refine lv_iload_n hx hb dX9_which_1 rfl (lv_at hl 1 rfl) ?_
  refine lv_iconst (v := (0 : Int32)) hx hb dX9_which_2 (by decide) ?_
  obtain ⟨y1, hc, hf⟩ := jb_e hf
  refine r_ci (r_runV (As := [.int x1, .int (0 : Int32)]) (rest := []) C hP hS (va_recv C.hK hP (q0 := 0) (ci := 9) rfl (by rw [g_at oX_9.1, oX_9.2])) (k_X9_refusalOfTold (l := l) O (σ := σ) hc) mw_X9_refusalOfTold mi_X9_refusalOfTold mv_X9_refusalOfTold wk_4_36 ⟨Nat.le_of_ble_eq_true rfl, Nat.le_of_ble_eq_true rfl⟩ ⟨rfl, rfl⟩ ⟨Nat.zero_le _, Nat.zero_le _⟩ rfl hl.1 rfl (Nat.le_of_ble_eq_true rfl) dX9_which_3) hS (fun H locs hP hS => ?_)
  refine lv_if_eq (tgt := 13) hx hb dX9_which_6 (by decide) (fun hc => ?_) (fun hc => ?_)
  · have hf := jif_t hc hf
    refine lv_lconst (v := (0 : Int64)) hx hb dX9_which_13 (by decide) ?_
    refine lv_lstore_n (lv' := [(2, .long (0 : Int64)), (0, .ref (a 0)), (1, .int x1)]) hx hb dX9_which_14 rfl hl (by decide) rfl (fun ls hl => ?_)
    refine lv_iconst (v := (0 : Int32)) hx hb dX9_which_15 (by decide) ?_
    refine lv_istore (lv' := [(4, .int (0 : Int32)), (2, .long (0 : Int64)), (0, .ref (a 0)), (1, .int x1)]) hx hb dX9_which_16 hl (by decide) rfl (fun ls hl => ?_)
    exact hL18 FU x1 (0 : Int64) (0 : Int32) σ H locs ls hf hP hS (lv_sub hl [2, 3, 1, 0] rfl)
  · have hf := jif_f hc hf
    refine lv_ldc2 hx hb C.hown (C.ts _ wk_2_222) dX9_which_9 ?_
    exact ret_l C hP hS (Prod.mk.inj (Option.some.inj hf)).1 (Prod.mk.inj (Option.some.inj hf)).2 dX9_which_12
set_option maxHeartbeats 4000000 in
set_option maxRecDepth 100000 in
theorem k_X9_laws {l : Launch} {a : Nat → Nat} {cy : Nat → ClassId} {D : va_G} {ad : Nat → Nat} {A : Nat → Prop} (O : WO NX a (EHX ad A) A) {x1 : Int32} {x2 : Int32} {r : Int32} {σ : ST} {σ' : ST} (hf : f_X9_laws x1 x2 σ = some (r, σ')) : Met l yX9_laws (Cond.code yX9_laws cX9_laws 6 (some .int) :: WS) (rmk 6 161) (PC [.ref (a 0), .int x1, .int x2] NX eX a cy D (EHX ad A) σ) (QI NX eX a cy D A r σ') 0 0 A := by
  refine met_go (own := "GuardsLookLeft") O (by decide +kernel) rfl (Nat.le_of_ble_eq_true rfl) ?_
  intro p e s m args below meth c ls C hP hS hl
  have hx := C.hx
  have hb := C.hb
  have hl : lv_has ls 6 [(0, .ref (a 0)), (1, .int x1), (2, .int x2)] := hl
  obtain ⟨H, hH⟩ : ∃ H, H = s.heap := ⟨_, rfl⟩
  rw [← hH] at hP
  have hS : va_S A s.heap H [] := by rw [hH]; exact va_S.rf
  suffices g : W p l e (rmk 6 161) s m args below meth c H [] 0 0 (MQ below (QI NX eX a cy D A r σ') args s 0 0 A) (F0 m 0 ls []) by rw [hH] at g; exact g
  clear hH
  obtain ⟨locs, hlocs⟩ : ∃ z : List Loc, z = [] := ⟨_, rfl⟩
  rw [← hlocs] at hS ⊢
  have hL70 : ∀ (k19 : Int32 → Int32 → Int32 → Int32 → ST → Option (Int32 × ST)) (hk19 : (∀ (v1 : Int32) (v2 : Int32) (v4 : Int32) (v5 : Int32) (s0 : ST) (H : Heap) (locs : List Loc) (ls : Array Slot), k19 v1 v2 v4 v5 s0 = some (r, σ') → va_P D vwCl (wG NX eX a cy s0) H → va_S A s.heap H locs → lv_has ls 6 [(0, .ref (a 0)), (1, .int v1), (2, .int v2), (4, .int v4), (5, .int v5)] → W p l e (rmk 6 161) s m args below meth c H locs 0 0 (MQ below (QI NX eX a cy D A r σ') args s 0 0 A) (F0 m 19 ls []))), (∀ (v1 : Int32) (v2 : Int32) (v4 : Int32) (v5 : Int32) (s0 : ST) (H : Heap) (locs : List Loc) (ls : Array Slot), f_X9_laws_L70 k19 v1 v2 v4 v5 s0 = some (r, σ') → va_P D vwCl (wG NX eX a cy s0) H → va_S A s.heap H locs → lv_has ls 6 [(0, .ref (a 0)), (1, .int v1), (2, .int v2), (4, .int v4), (5, .int v5)] → W p l e (rmk 6 161) s m args below meth c H locs 0 0 (MQ below (QI NX eX a cy D A r σ') args s 0 0 A) (F0 m 70 ls [])) := by
    intro k19 hk19 v1 v2 v4 v5 s0 H locs ls hf hP hS hl
    obtain ⟨y1, ey1, hf⟩ := jlet_e hf
    refine lv_iinc (v := y1) (lv' := [(5, .int y1), (0, .ref (a 0)), (1, .int v1), (2, .int v2), (4, .int v4)]) hx hb dX9_laws_70 hl (k := 4) rfl ey1 (by decide) rfl (fun ls hl => ?_)
    refine lv_goto (tgt := 19) hx hb dX9_laws_73 (by decide) ?_
    exact hk19 v1 v2 v4 y1 s0 H locs ls hf hP hS (lv_sub hl [1, 2, 3, 4, 0] rfl)
  have hL19 : ∀ (n : Nat), (∀ (v1 : Int32) (v2 : Int32) (v4 : Int32) (v5 : Int32) (s0 : ST) (H : Heap) (locs : List Loc) (ls : Array Slot), f_X9_laws_L19 n v1 v2 v4 v5 s0 = some (r, σ') → va_P D vwCl (wG NX eX a cy s0) H → va_S A s.heap H locs → lv_has ls 6 [(0, .ref (a 0)), (1, .int v1), (2, .int v2), (4, .int v4), (5, .int v5)] → W p l e (rmk 6 161) s m args below meth c H locs 0 0 (MQ below (QI NX eX a cy D A r σ') args s 0 0 A) (F0 m 19 ls [])) := by
    intro n
    induction n with
    | zero => intro v1 v2 v4 v5 s0 H locs ls hf hP hS hl; exact no_o hf
    | succ n ih =>
      intro v1 v2 v4 v5 s0 H locs ls hf hP hS hl
      have hf := (ef_X9_laws_L19 _ _ _ _ _).symm.trans hf
      refine lv_iload hx hb dX9_laws_19 (lv_at hl 4 rfl) ?_
      refine lv_aload_n hx hb dX9_laws_21 rfl (lv_at hl 0 rfl) ?_
      refine gf_X9_3 C hP wk_2_182 dX9_laws_22 ?_
      refine gf_X6_2 C hP wk_1_148 dX9_laws_25 ?_
      refine lv_icmp_ge (tgt := 76) hx hb dX9_laws_28 (by decide) (fun hc => ?_) (fun hc => ?_)
      · have hf := jif_t hc hf
        refine lv_iload hx hb dX9_laws_76 (lv_at hl 3 rfl) ?_
        exact ret_i C hP hS (Prod.mk.inj (Option.some.inj hf)).1 (Prod.mk.inj (Option.some.inj hf)).2 dX9_laws_78
      · have hf := jif_f hc hf
        refine lv_aload_n hx hb dX9_laws_31 rfl (lv_at hl 0 rfl) ?_
        refine gf_X9_4 C hP wk_2_183 dX9_laws_32 ?_
        refine lv_iload hx hb dX9_laws_35 (lv_at hl 4 rfl) ?_
        obtain ⟨s2, hc, hf⟩ := jb_e hf
        refine r_cv (r_runV (As := [.int v5]) (rest := []) C hP hS (va_recv C.hK hP (q0 := 5) (ci := 8) rfl (by rw [g_at oX_8.1, oX_8.2])) (k_X8_supposeLaw (l := l) O hc) mw_X8_supposeLaw mi_X8_supposeLaw mv_X8_supposeLaw wk_4_56 ⟨Nat.le_of_ble_eq_true rfl, Nat.le_of_ble_eq_true rfl⟩ ⟨rfl, rfl⟩ ⟨Nat.zero_le _, Nat.zero_le _⟩ rfl hl.1 rfl (Nat.le_of_ble_eq_true rfl) dX9_laws_37) hS (fun H locs hP hS => ?_)
        refine lv_aload_n hx hb dX9_laws_40 rfl (lv_at hl 0 rfl) ?_
        refine gf_X9_8 C hP wk_2_187 dX9_laws_41 ?_
        refine lv_iload_n hx hb dX9_laws_44 rfl (lv_at hl 1 rfl) ?_
        obtain ⟨hi3, hf⟩ := jix_e hf
        refine r_qald C hP aX_13 rfl rfl hi3 dX9_laws_45 ?_
        refine jl_ref hf (show 9 ≤ 9 + (Int32.toNatClampNeg v1) ∧ 9 + (Int32.toNatClampNeg v1) < 13 by have := vp_lt hi3; omega) (fun q4 hq4 hf => ?_)
        refine lv_aload_n hx hb dX9_laws_46 rfl (lv_at hl 0 rfl) ?_
        refine gf_X9_4 C hP wk_2_183 dX9_laws_47 ?_
        refine gf_X8_5 C hP wk_1_183 dX9_laws_50 ?_
        refine lv_iload_n hx hb dX9_laws_53 rfl (lv_at hl 2 rfl) ?_
        obtain ⟨y5, hc, hf⟩ := jb_e hf
        refine r_ci (r_runV (As := [.ref (a 41), .int v2]) (rest := []) C hP hS (va_recv C.hK hP (q0 := q4) (ci := 5) rfl (by rw [g_at (oX_5 hq4).1, (oX_5 hq4).2])) (k_X5_firstOther (l := l) O (σ := s2) hq4 (show 40 ≤ 41 ∧ 41 < 42 by decide) hc) mw_X5_firstOther mi_X5_firstOther mv_X5_firstOther wk_4_43 ⟨Nat.le_of_ble_eq_true rfl, Nat.le_of_ble_eq_true rfl⟩ ⟨rfl, rfl⟩ ⟨Nat.zero_le _, Nat.zero_le _⟩ rfl hl.1 rfl (Nat.le_of_ble_eq_true rfl) dX9_laws_54) hS (fun H locs hP hS => ?_)
        refine lv_iconst (v := (-1 : Int32)) hx hb dX9_laws_57 (by decide) ?_
        refine lv_icmp_ne (tgt := 70) hx hb dX9_laws_58 (by decide) (fun hc => ?_) (fun hc => ?_)
        · have hf := jif_t hc hf
          exact hL70 (f_X9_laws_L19 n) ih v1 v2 v4 v5 s2 H locs ls hf hP hS (lv_sub hl [0, 1, 2, 3, 4] rfl)
        · have hf := jif_n hc hf
          refine lv_iload hx hb dX9_laws_61 (lv_at hl 3 rfl) ?_
          refine lv_iconst (v := (1 : Int32)) hx hb dX9_laws_63 (by decide) ?_
          refine lv_iload hx hb dX9_laws_64 (lv_at hl 4 rfl) ?_
          refine r_ishl C dX9_laws_66 ?_
          refine lv_ior hx hb dX9_laws_67 ?_
          refine jl_topi hf (fun y7 hf => ?_)
          refine lv_istore (lv' := [(4, .int y7), (0, .ref (a 0)), (1, .int v1), (2, .int v2), (5, .int v5)]) hx hb dX9_laws_68 hl (by decide) rfl (fun ls hl => ?_)
          exact hL70 (f_X9_laws_L19 n) ih v1 v2 y7 v5 s2 H locs ls hf hP hS (lv_sub hl [1, 2, 3, 0, 4] rfl)
  refine lv_aload_n hx hb dX9_laws_0 rfl (lv_at hl 0 rfl) ?_
  refine lv_iload_n hx hb dX9_laws_1 rfl (lv_at hl 1 rfl) ?_
  refine lv_iload_n hx hb dX9_laws_2 rfl (lv_at hl 2 rfl) ?_
  obtain ⟨y1, hc, hf⟩ := jb_e hf
  refine r_ci (r_runV (As := [.int x1, .int x2]) (rest := []) C hP hS (va_recv C.hK hP (q0 := 0) (ci := 9) rfl (by rw [g_at oX_9.1, oX_9.2])) (k_X9_refusalOfTold (l := l) O (σ := σ) hc) mw_X9_refusalOfTold mi_X9_refusalOfTold mv_X9_refusalOfTold wk_4_36 ⟨Nat.le_of_ble_eq_true rfl, Nat.le_of_ble_eq_true rfl⟩ ⟨rfl, rfl⟩ ⟨Nat.zero_le _, Nat.zero_le _⟩ rfl hl.1 rfl (Nat.le_of_ble_eq_true rfl) dX9_laws_3) hS (fun H locs hP hS => ?_)
  refine lv_istore_n (lv' := [(3, .int y1), (0, .ref (a 0)), (1, .int x1), (2, .int x2)]) hx hb dX9_laws_6 rfl hl (by decide) rfl (fun ls hl => ?_)
  refine lv_iload_n hx hb dX9_laws_7 rfl (lv_at hl 0 rfl) ?_
  refine lv_if_eq (tgt := 13) hx hb dX9_laws_8 (by decide) (fun hc => ?_) (fun hc => ?_)
  · have hf := jif_t hc hf
    refine lv_iconst (v := (0 : Int32)) hx hb dX9_laws_13 (by decide) ?_
    refine lv_istore (lv' := [(4, .int (0 : Int32)), (3, .int y1), (0, .ref (a 0)), (1, .int x1), (2, .int x2)]) hx hb dX9_laws_14 hl (by decide) rfl (fun ls hl => ?_)
    refine lv_iconst (v := (0 : Int32)) hx hb dX9_laws_16 (by decide) ?_
    refine lv_istore (lv' := [(5, .int (0 : Int32)), (4, .int (0 : Int32)), (3, .int y1), (0, .ref (a 0)), (1, .int x1), (2, .int x2)]) hx hb dX9_laws_17 hl (by decide) rfl (fun ls hl => ?_)
    exact hL19 FU x1 x2 (0 : Int32) (0 : Int32) σ H locs ls hf hP hS (lv_sub hl [3, 4, 5, 1, 0] rfl)
  · have hf := jif_f hc hf
    refine lv_iload_n hx hb dX9_laws_11 rfl (lv_at hl 0 rfl) ?_
    exact ret_i C hP hS (Prod.mk.inj (Option.some.inj hf)).1 (Prod.mk.inj (Option.some.inj hf)).2 dX9_laws_12
set_option maxHeartbeats 4000000 in
set_option maxRecDepth 100000 in
theorem k_X9_gone {l : Launch} {a : Nat → Nat} {cy : Nat → ClassId} {D : va_G} {ad : Nat → Nat} {A : Nat → Prop} (O : WO NX a (EHX ad A) A) {x1 : Int32} {x2 : Int32} {r : Int32} {σ : ST} {σ' : ST} (hf : f_X9_gone x1 x2 σ = some (r, σ')) : Met l yX9_gone (Cond.code yX9_gone cX9_gone 5 (some .int) :: WS) (rmk 5 138) (PC [.ref (a 0), .int x1, .int x2] NX eX a cy D (EHX ad A) σ) (QI NX eX a cy D A r σ') 0 0 A := by
  refine met_go (own := "GuardsLookLeft") O (by decide +kernel) rfl (Nat.le_of_ble_eq_true rfl) ?_
  intro p e s m args below meth c ls C hP hS hl
  have hx := C.hx
  have hb := C.hb
  have hl : lv_has ls 5 [(0, .ref (a 0)), (1, .int x1), (2, .int x2)] := hl
  obtain ⟨H, hH⟩ : ∃ H, H = s.heap := ⟨_, rfl⟩
  rw [← hH] at hP
  have hS : va_S A s.heap H [] := by rw [hH]; exact va_S.rf
  suffices g : W p l e (rmk 5 138) s m args below meth c H [] 0 0 (MQ below (QI NX eX a cy D A r σ') args s 0 0 A) (F0 m 0 ls []) by rw [hH] at g; exact g
  clear hH
  obtain ⟨locs, hlocs⟩ : ∃ z : List Loc, z = [] := ⟨_, rfl⟩
  rw [← hlocs] at hS ⊢
  have hL74 : ∀ (k23 : Int32 → Int32 → Int32 → Int32 → ST → Option (Int32 × ST)) (hk23 : (∀ (v1 : Int32) (v2 : Int32) (v3 : Int32) (v4 : Int32) (s0 : ST) (H : Heap) (locs : List Loc) (ls : Array Slot), k23 v1 v2 v3 v4 s0 = some (r, σ') → va_P D vwCl (wG NX eX a cy s0) H → va_S A s.heap H locs → lv_has ls 5 [(0, .ref (a 0)), (1, .int v1), (2, .int v2), (3, .int v3), (4, .int v4)] → W p l e (rmk 5 138) s m args below meth c H locs 0 0 (MQ below (QI NX eX a cy D A r σ') args s 0 0 A) (F0 m 23 ls []))), (∀ (v1 : Int32) (v2 : Int32) (v3 : Int32) (v4 : Int32) (s0 : ST) (H : Heap) (locs : List Loc) (ls : Array Slot), f_X9_gone_L74 k23 v1 v2 v3 v4 s0 = some (r, σ') → va_P D vwCl (wG NX eX a cy s0) H → va_S A s.heap H locs → lv_has ls 5 [(0, .ref (a 0)), (1, .int v1), (2, .int v2), (3, .int v3), (4, .int v4)] → W p l e (rmk 5 138) s m args below meth c H locs 0 0 (MQ below (QI NX eX a cy D A r σ') args s 0 0 A) (F0 m 74 ls [])) := by
    intro k23 hk23 v1 v2 v3 v4 s0 H locs ls hf hP hS hl
    obtain ⟨y1, ey1, hf⟩ := jlet_e hf
    refine lv_iinc (v := y1) (lv' := [(4, .int y1), (0, .ref (a 0)), (1, .int v1), (2, .int v2), (3, .int v3)]) hx hb dX9_gone_74 hl (k := 4) rfl ey1 (by decide) rfl (fun ls hl => ?_)
    refine lv_goto (tgt := 23) hx hb dX9_gone_77 (by decide) ?_
    exact hk23 v1 v2 v3 y1 s0 H locs ls hf hP hS (lv_sub hl [1, 2, 3, 4, 0] rfl)
  have hL23 : ∀ (n : Nat), (∀ (v1 : Int32) (v2 : Int32) (v3 : Int32) (v4 : Int32) (s0 : ST) (H : Heap) (locs : List Loc) (ls : Array Slot), f_X9_gone_L23 n v1 v2 v3 v4 s0 = some (r, σ') → va_P D vwCl (wG NX eX a cy s0) H → va_S A s.heap H locs → lv_has ls 5 [(0, .ref (a 0)), (1, .int v1), (2, .int v2), (3, .int v3), (4, .int v4)] → W p l e (rmk 5 138) s m args below meth c H locs 0 0 (MQ below (QI NX eX a cy D A r σ') args s 0 0 A) (F0 m 23 ls [])) := by
    intro n
    induction n with
    | zero => intro v1 v2 v3 v4 s0 H locs ls hf hP hS hl; exact no_o hf
    | succ n ih =>
      intro v1 v2 v3 v4 s0 H locs ls hf hP hS hl
      have hf := (ef_X9_gone_L23 _ _ _ _ _).symm.trans hf
      refine lv_iload hx hb dX9_gone_23 (lv_at hl 4 rfl) ?_
      refine lv_iconst (v := (1 : Int32)) hx hb dX9_gone_25 (by decide) ?_
      refine lv_aload_n hx hb dX9_gone_26 rfl (lv_at hl 0 rfl) ?_
      refine gf_X9_1 C hP wk_2_180 dX9_gone_27 ?_
      refine gf_X1_6 C hP wk_1_68 dX9_gone_30 ?_
      refine r_ishl C dX9_gone_33 ?_
      refine lv_icmp_ge (tgt := 80) hx hb dX9_gone_34 (by decide) (fun hc => ?_) (fun hc => ?_)
      · have hf := jif_t hc hf
        refine lv_iload_n hx hb dX9_gone_80 rfl (lv_at hl 3 rfl) ?_
        exact ret_i C hP hS (Prod.mk.inj (Option.some.inj hf)).1 (Prod.mk.inj (Option.some.inj hf)).2 dX9_gone_81
      · have hf := jif_f hc hf
        refine lv_aload_n hx hb dX9_gone_37 rfl (lv_at hl 0 rfl) ?_
        refine gf_X9_4 C hP wk_2_183 dX9_gone_38 ?_
        refine lv_iload hx hb dX9_gone_41 (lv_at hl 4 rfl) ?_
        obtain ⟨s2, hc, hf⟩ := jb_e hf
        refine r_cv (r_runV (As := [.int v4]) (rest := []) C hP hS (va_recv C.hK hP (q0 := 5) (ci := 8) rfl (by rw [g_at oX_8.1, oX_8.2])) (k_X8_supposeBribed (l := l) O hc) mw_X8_supposeBribed mi_X8_supposeBribed mv_X8_supposeBribed wk_4_23 ⟨Nat.le_of_ble_eq_true rfl, Nat.le_of_ble_eq_true rfl⟩ ⟨rfl, rfl⟩ ⟨Nat.zero_le _, Nat.zero_le _⟩ rfl hl.1 rfl (Nat.le_of_ble_eq_true rfl) dX9_gone_43) hS (fun H locs hP hS => ?_)
        refine lv_aload_n hx hb dX9_gone_46 rfl (lv_at hl 0 rfl) ?_
        refine gf_X9_8 C hP wk_2_187 dX9_gone_47 ?_
        refine lv_iload_n hx hb dX9_gone_50 rfl (lv_at hl 1 rfl) ?_
        obtain ⟨hi3, hf⟩ := jix_e hf
        refine r_qald C hP aX_13 rfl rfl hi3 dX9_gone_51 ?_
        refine jl_ref hf (show 9 ≤ 9 + (Int32.toNatClampNeg v1) ∧ 9 + (Int32.toNatClampNeg v1) < 13 by have := vp_lt hi3; omega) (fun q4 hq4 hf => ?_)
        refine lv_aload_n hx hb dX9_gone_52 rfl (lv_at hl 0 rfl) ?_
        refine gf_X9_4 C hP wk_2_183 dX9_gone_53 ?_
        refine gf_X8_5 C hP wk_1_183 dX9_gone_56 ?_
        refine lv_iload_n hx hb dX9_gone_59 rfl (lv_at hl 2 rfl) ?_
        obtain ⟨y5, hc, hf⟩ := jb_e hf
        refine r_ci (r_runV (As := [.ref (a 41), .int v2]) (rest := []) C hP hS (va_recv C.hK hP (q0 := q4) (ci := 5) rfl (by rw [g_at (oX_5 hq4).1, (oX_5 hq4).2])) (k_X5_firstOther (l := l) O (σ := s2) hq4 (show 40 ≤ 41 ∧ 41 < 42 by decide) hc) mw_X5_firstOther mi_X5_firstOther mv_X5_firstOther wk_4_43 ⟨Nat.le_of_ble_eq_true rfl, Nat.le_of_ble_eq_true rfl⟩ ⟨rfl, rfl⟩ ⟨Nat.zero_le _, Nat.zero_le _⟩ rfl hl.1 rfl (Nat.le_of_ble_eq_true rfl) dX9_gone_60) hS (fun H locs hP hS => ?_)
        refine lv_iconst (v := (-1 : Int32)) hx hb dX9_gone_63 (by decide) ?_
        refine lv_icmp_ne (tgt := 74) hx hb dX9_gone_64 (by decide) (fun hc => ?_) (fun hc => ?_)
        · have hf := jif_t hc hf
          exact hL74 (f_X9_gone_L23 n) ih v1 v2 v3 v4 s2 H locs ls hf hP hS (lv_sub hl [0, 1, 2, 3, 4] rfl)
        · have hf := jif_n hc hf
          refine lv_iload_n hx hb dX9_gone_67 rfl (lv_at hl 3 rfl) ?_
          refine lv_iconst (v := (1 : Int32)) hx hb dX9_gone_68 (by decide) ?_
          refine lv_iload hx hb dX9_gone_69 (lv_at hl 4 rfl) ?_
          refine r_ishl C dX9_gone_71 ?_
          refine lv_ior hx hb dX9_gone_72 ?_
          refine jl_topi hf (fun y7 hf => ?_)
          refine lv_istore_n (lv' := [(3, .int y7), (0, .ref (a 0)), (1, .int v1), (2, .int v2), (4, .int v4)]) hx hb dX9_gone_73 rfl hl (by decide) rfl (fun ls hl => ?_)
          exact hL74 (f_X9_gone_L23 n) ih v1 v2 y7 v4 s2 H locs ls hf hP hS (lv_sub hl [1, 2, 3, 0, 4] rfl)
  refine lv_aload_n hx hb dX9_gone_0 rfl (lv_at hl 0 rfl) ?_
  refine lv_iload_n hx hb dX9_gone_1 rfl (lv_at hl 1 rfl) ?_
  refine lv_iload_n hx hb dX9_gone_2 rfl (lv_at hl 2 rfl) ?_
  obtain ⟨y1, hc, hf⟩ := jb_e hf
  refine r_ci (r_runV (As := [.int x1, .int x2]) (rest := []) C hP hS (va_recv C.hK hP (q0 := 0) (ci := 9) rfl (by rw [g_at oX_9.1, oX_9.2])) (k_X9_refusalOfTold (l := l) O (σ := σ) hc) mw_X9_refusalOfTold mi_X9_refusalOfTold mv_X9_refusalOfTold wk_4_36 ⟨Nat.le_of_ble_eq_true rfl, Nat.le_of_ble_eq_true rfl⟩ ⟨rfl, rfl⟩ ⟨Nat.zero_le _, Nat.zero_le _⟩ rfl hl.1 rfl (Nat.le_of_ble_eq_true rfl) dX9_gone_3) hS (fun H locs hP hS => ?_)
  refine lv_if_eq (tgt := 11) hx hb dX9_gone_6 (by decide) (fun hc => ?_) (fun hc => ?_)
  · have hf := jif_t hc hf
    refine lv_aload_n hx hb dX9_gone_11 rfl (lv_at hl 0 rfl) ?_
    refine gf_X9_4 C hP wk_2_183 dX9_gone_12 ?_
    obtain ⟨s4, hc, hf⟩ := jb_e hf
    refine r_cv (r_runV (As := []) (rest := []) C hP hS (va_recv C.hK hP (q0 := 5) (ci := 8) rfl (by rw [g_at oX_8.1, oX_8.2])) (k_X8_refresh (l := l) O hc) mw_X8_refresh mi_X8_refresh mv_X8_refresh wk_3_130 ⟨Nat.le_of_ble_eq_true rfl, Nat.le_of_ble_eq_true rfl⟩ ⟨rfl, rfl⟩ ⟨Nat.zero_le _, Nat.zero_le _⟩ rfl hl.1 rfl (Nat.le_of_ble_eq_true rfl) dX9_gone_15) hS (fun H locs hP hS => ?_)
    refine lv_iconst (v := (0 : Int32)) hx hb dX9_gone_18 (by decide) ?_
    refine lv_istore_n (lv' := [(3, .int (0 : Int32)), (0, .ref (a 0)), (1, .int x1), (2, .int x2)]) hx hb dX9_gone_19 rfl hl (by decide) rfl (fun ls hl => ?_)
    refine lv_iconst (v := (0 : Int32)) hx hb dX9_gone_20 (by decide) ?_
    refine lv_istore (lv' := [(4, .int (0 : Int32)), (3, .int (0 : Int32)), (0, .ref (a 0)), (1, .int x1), (2, .int x2)]) hx hb dX9_gone_21 hl (by decide) rfl (fun ls hl => ?_)
    exact hL23 FU x1 x2 (0 : Int32) (0 : Int32) s4 H locs ls hf hP hS (lv_sub hl [2, 3, 4, 1, 0] rfl)
  · have hf := jif_f hc hf
    refine lv_iconst (v := (0 : Int32)) hx hb dX9_gone_9 (by decide) ?_
    exact ret_i C hP hS (Prod.mk.inj (Option.some.inj hf)).1 (Prod.mk.inj (Option.some.inj hf)).2 dX9_gone_10
set_option maxHeartbeats 4000000 in
set_option maxRecDepth 100000 in
theorem k_X9_film {l : Launch} {a : Nat → Nat} {cy : Nat → ClassId} {D : va_G} {ad : Nat → Nat} {A : Nat → Prop} (O : WO NX a (EHX ad A) A) {x1 : Int32} {x2 : Int32} {r : Int32} {σ : ST} {σ' : ST} (hf : f_X9_film x1 x2 σ = some (r, σ')) : Met l yX9_film (Cond.code yX9_film cX9_film 5 (some .int) :: WS) (rmk 6 158) (PC [.ref (a 0), .int x1, .int x2] NX eX a cy D (EHX ad A) σ) (QI NX eX a cy D A r σ') 0 0 A := by
  refine met_go (own := "GuardsLookLeft") O (by decide +kernel) rfl (Nat.le_of_ble_eq_true rfl) ?_
  intro p e s m args below meth c ls C hP hS hl
  have hx := C.hx
  have hb := C.hb
  have hl : lv_has ls 5 [(0, .ref (a 0)), (1, .int x1), (2, .int x2)] := hl
  obtain ⟨H, hH⟩ : ∃ H, H = s.heap := ⟨_, rfl⟩
  rw [← hH] at hP
  have hS : va_S A s.heap H [] := by rw [hH]; exact va_S.rf
  suffices g : W p l e (rmk 6 158) s m args below meth c H [] 0 0 (MQ below (QI NX eX a cy D A r σ') args s 0 0 A) (F0 m 0 ls []) by rw [hH] at g; exact g
  clear hH
  obtain ⟨locs, hlocs⟩ : ∃ z : List Loc, z = [] := ⟨_, rfl⟩
  rw [← hlocs] at hS ⊢
  have hL74 : ∀ (k40 : Int32 → Int32 → Int32 → ST → Option (Int32 × ST)) (hk40 : (∀ (v1 : Int32) (v2 : Int32) (v4 : Int32) (s0 : ST) (H : Heap) (locs : List Loc) (ls : Array Slot), k40 v1 v2 v4 s0 = some (r, σ') → va_P D vwCl (wG NX eX a cy s0) H → va_S A s.heap H locs → lv_has ls 5 [(0, .ref (a 0)), (1, .int v1), (2, .int v2), (3, .ref (a 40)), (4, .int v4)] → W p l e (rmk 6 158) s m args below meth c H locs 0 0 (MQ below (QI NX eX a cy D A r σ') args s 0 0 A) (F0 m 40 ls []))), (∀ (v1 : Int32) (v2 : Int32) (v4 : Int32) (o07 : Nat) (ho07 : 54 ≤ o07 ∧ o07 < 58) (t1 : Int32) (t2 : Int32) (s0 : ST) (H : Heap) (locs : List Loc) (ls : Array Slot), f_X9_film_L74 k40 v1 v2 v4 o07 t1 t2 s0 = some (r, σ') → va_P D vwCl (wG NX eX a cy s0) H → va_S A s.heap H locs → lv_has ls 5 [(0, .ref (a 0)), (1, .int v1), (2, .int v2), (3, .ref (a 40)), (4, .int v4)] → W p l e (rmk 6 158) s m args below meth c H locs 0 0 (MQ below (QI NX eX a cy D A r σ') args s 0 0 A) (F0 m 74 ls [.int t2, .int t1, .ref (a o07)])) := by
    intro k40 hk40 v1 v2 v4 o07 ho07 t1 t2 s0 H locs ls hf hP hS hl
    obtain ⟨hi1, hf⟩ := jix_e hf
    refine r_iast C hP hS (fX_54 ho07) hi1 dX9_film_74 hf (fun H locs s2 hf hP hS => ?_)
    obtain ⟨y3, ey3, hf⟩ := jlet_e hf
    refine lv_iinc (v := y3) (lv' := [(4, .int y3), (0, .ref (a 0)), (1, .int v1), (2, .int v2), (3, .ref (a 40))]) hx hb dX9_film_75 hl (k := 4) rfl ey3 (by decide) rfl (fun ls hl => ?_)
    refine lv_goto (tgt := 40) hx hb dX9_film_78 (by decide) ?_
    exact hk40 v1 v2 y3 s2 H locs ls hf hP hS (lv_sub hl [1, 2, 3, 4, 0] rfl)
  have hL40 : ∀ (n : Nat), (∀ (v1 : Int32) (v2 : Int32) (v4 : Int32) (s0 : ST) (H : Heap) (locs : List Loc) (ls : Array Slot), f_X9_film_L40 n v1 v2 v4 s0 = some (r, σ') → va_P D vwCl (wG NX eX a cy s0) H → va_S A s.heap H locs → lv_has ls 5 [(0, .ref (a 0)), (1, .int v1), (2, .int v2), (3, .ref (a 40)), (4, .int v4)] → W p l e (rmk 6 158) s m args below meth c H locs 0 0 (MQ below (QI NX eX a cy D A r σ') args s 0 0 A) (F0 m 40 ls [])) := by
    intro n
    induction n with
    | zero => intro v1 v2 v4 s0 H locs ls hf hP hS hl; exact no_o hf
    | succ n ih =>
      intro v1 v2 v4 s0 H locs ls hf hP hS hl
      have hf := (ef_X9_film_L40 _ _ _ _).symm.trans hf
      refine lv_iload hx hb dX9_film_40 (lv_at hl 4 rfl) ?_
      refine lv_bipush (v := (24 : Int32)) hx hb dX9_film_42 (by decide) ?_
      refine lv_icmp_ge (tgt := 81) hx hb dX9_film_44 (by decide) (fun hc => ?_) (fun hc => ?_)
      · have hf := jif_t hc hf
        refine lv_bipush (v := (24 : Int32)) hx hb dX9_film_81 (by decide) ?_
        exact ret_i C hP hS (Prod.mk.inj (Option.some.inj hf)).1 (Prod.mk.inj (Option.some.inj hf)).2 dX9_film_83
      · have hf := jif_f hc hf
        refine lv_aload_n hx hb dX9_film_47 rfl (lv_at hl 0 rfl) ?_
        refine gf_X9_8 C hP wk_2_187 dX9_film_48 ?_
        refine lv_iload_n hx hb dX9_film_51 rfl (lv_at hl 1 rfl) ?_
        obtain ⟨hi1, hf⟩ := jix_e hf
        refine r_qald C hP aX_13 rfl rfl hi1 dX9_film_52 ?_
        refine jl_ref hf (show 9 ≤ 9 + (Int32.toNatClampNeg v1) ∧ 9 + (Int32.toNatClampNeg v1) < 13 by have := vp_lt hi1; omega) (fun q2 hq2 hf => ?_)
        refine gf_X5_2 hq2 C hP wk_2_30 dX9_film_53 ?_
        refine lv_iload hx hb dX9_film_56 (lv_at hl 4 rfl) ?_
        refine lv_aload_n hx hb dX9_film_58 rfl (lv_at hl 3 rfl) ?_
        refine lv_iload hx hb dX9_film_59 (lv_at hl 4 rfl) ?_
        obtain ⟨hi3, hf⟩ := jix_e hf
        refine r_lald C hP aX_40 hi3 dX9_film_61 ?_
        refine lv_iload_n hx hb dX9_film_62 rfl (lv_at hl 2 rfl) ?_
        refine r_cz (r_runS (As := [.long (gB s0 40 (Int32.toNatClampNeg v4)), .int v2]) (rest := [.int v4, .ref (a (q2 + 45))]) C hP hS (k_X9_isIn (l := l) O (σ := s0) rfl) mw_X9_isIn ms_X9_isIn wk_2_234 ⟨Nat.le_of_ble_eq_true rfl, Nat.le_of_ble_eq_true rfl⟩ ⟨rfl, rfl⟩ ⟨Nat.zero_le _, Nat.zero_le _⟩ rfl hl.1 rfl (Nat.le_of_ble_eq_true rfl) dX9_film_63) hS (fun H locs hzy4 hP hS => ?_)
        refine jl_topz hf hzy4 (fun y4 hzy4 hf => ?_)
        refine lv_if_eq (tgt := 73) hx hb dX9_film_66 (by decide) (fun hc => ?_) (fun hc => ?_)
        · have hf := jif_t hc hf
          refine lv_iconst (v := (0 : Int32)) hx hb dX9_film_73 (by decide) ?_
          exact hL74 (f_X9_film_L40 n) ih v1 v2 v4 (q2 + 45) (by omega) v4 (0 : Int32) s0 H locs ls hf hP hS (lv_sub hl [0, 1, 2, 3, 4] rfl)
        · have hf := jif_f hc hf
          refine lv_iconst (v := (1 : Int32)) hx hb dX9_film_69 (by decide) ?_
          refine lv_goto (tgt := 74) hx hb dX9_film_70 (by decide) ?_
          exact hL74 (f_X9_film_L40 n) ih v1 v2 v4 (q2 + 45) (by omega) v4 (1 : Int32) s0 H locs ls hf hP hS (lv_sub hl [0, 1, 2, 3, 4] rfl)
  refine lv_iload_n hx hb dX9_film_0 rfl (lv_at hl 1 rfl) ?_
  refine r_cz (r_runS (As := [.int x1]) (rest := []) C hP hS (k_X9_isSheet (l := l) O (σ := σ) rfl) mw_X9_isSheet ms_X9_isSheet wk_4_40 ⟨Nat.le_of_ble_eq_true rfl, Nat.le_of_ble_eq_true rfl⟩ ⟨rfl, rfl⟩ ⟨Nat.zero_le _, Nat.zero_le _⟩ rfl hl.1 rfl (Nat.le_of_ble_eq_true rfl) dX9_film_1) hS (fun H locs hzy1 hP hS => ?_)
  refine jl_topz hf hzy1 (fun y1 hzy1 hf => ?_)
  refine lv_if_ne (tgt := 10) hx hb dX9_film_4 (by decide) (fun hc => ?_) (fun hc => ?_)
  · have hf := jif_t hc hf
    refine lv_iload_n hx hb dX9_film_10 rfl (lv_at hl 2 rfl) ?_
    refine r_cz (r_runS (As := [.int x2]) (rest := []) C hP hS (k_X9_isCell (l := l) O (σ := σ) rfl) mw_X9_isCell ms_X9_isCell wk_2_231 ⟨Nat.le_of_ble_eq_true rfl, Nat.le_of_ble_eq_true rfl⟩ ⟨rfl, rfl⟩ ⟨Nat.zero_le _, Nat.zero_le _⟩ rfl hl.1 rfl (Nat.le_of_ble_eq_true rfl) dX9_film_11) hS (fun H locs hzy3 hP hS => ?_)
    refine jl_topz hf hzy3 (fun y3 hzy3 hf => ?_)
    refine lv_if_ne (tgt := 20) hx hb dX9_film_14 (by decide) (fun hc => ?_) (fun hc => ?_)
    · have hf := jif_t hc hf
      refine lv_aload_n hx hb dX9_film_20 rfl (lv_at hl 0 rfl) ?_
      obtain ⟨s6, hc, hf⟩ := jb_e hf
      refine r_cr (r_runV (As := []) (rest := []) C hP hS (va_recv C.hK hP (q0 := 0) (ci := 9) rfl (by rw [g_at oX_9.1, oX_9.2])) (k_X9_seenNow (l := l) O hc) mw_X9_seenNow mi_X9_seenNow mv_X9_seenNow wk_3_126 ⟨Nat.le_of_ble_eq_true rfl, Nat.le_of_ble_eq_true rfl⟩ ⟨rfl, rfl⟩ ⟨Nat.zero_le _, Nat.zero_le _⟩ rfl hl.1 rfl (Nat.le_of_ble_eq_true rfl) dX9_film_21) hS (fun H locs hP hS => ?_)
      refine lv_astore_n (lv' := [(3, .ref (a 40)), (0, .ref (a 0)), (1, .int x1), (2, .int x2)]) hx hb dX9_film_24 rfl hl (by decide) rfl (fun ls hl => ?_)
      refine lv_aload_n hx hb dX9_film_25 rfl (lv_at hl 1 rfl) ?_
      refine gf_X9_8 C hP wk_2_187 dX9_film_26 ?_
      refine lv_iload_n hx hb dX9_film_29 rfl (lv_at hl 2 rfl) ?_
      obtain ⟨hi7, hf⟩ := jix_e hf
      refine r_qald C hP aX_13 rfl rfl hi7 dX9_film_30 ?_
      refine jl_ref hf (show 9 ≤ 9 + (Int32.toNatClampNeg x1) ∧ 9 + (Int32.toNatClampNeg x1) < 13 by have := vp_lt hi7; omega) (fun q8 hq8 hf => ?_)
      refine lv_iconst (v := (2 : Int32)) hx hb dX9_film_31 (by decide) ?_
      refine lv_bipush (v := (24 : Int32)) hx hb dX9_film_32 (by decide) ?_
      obtain ⟨s10, hc, hf⟩ := jb_e hf
      refine r_cv (r_runV (As := [.int (2 : Int32), .int (24 : Int32)]) (rest := []) C hP hS (va_recv C.hK hP (q0 := q8) (ci := 5) rfl (by rw [g_at (oX_5 hq8).1, (oX_5 hq8).2])) (k_X5_become (l := l) O hq8 hc) mw_X5_become mi_X5_become mv_X5_become wk_4_68 ⟨Nat.le_of_ble_eq_true rfl, Nat.le_of_ble_eq_true rfl⟩ ⟨rfl, rfl⟩ ⟨Nat.zero_le _, Nat.zero_le _⟩ rfl hl.1 rfl (Nat.le_of_ble_eq_true rfl) dX9_film_34) hS (fun H locs hP hS => ?_)
      refine lv_iconst (v := (0 : Int32)) hx hb dX9_film_37 (by decide) ?_
      refine lv_istore (lv' := [(4, .int (0 : Int32)), (3, .ref (a 40)), (0, .ref (a 0)), (1, .int x1), (2, .int x2)]) hx hb dX9_film_38 hl (by decide) rfl (fun ls hl => ?_)
      exact hL40 FU x1 x2 (0 : Int32) s10 H locs ls hf hP hS (lv_sub hl [2, 3, 4, 1, 0] rfl)
    · have hf := jif_n hc hf
      refine lv_bipush (v := (-5 : Int32)) hx hb dX9_film_17 (by decide) ?_
      exact ret_i C hP hS (Prod.mk.inj (Option.some.inj hf)).1 (Prod.mk.inj (Option.some.inj hf)).2 dX9_film_19
  · have hf := jif_n hc hf
    refine lv_bipush (v := (-2 : Int32)) hx hb dX9_film_7 (by decide) ?_
    exact ret_i C hP hS (Prod.mk.inj (Option.some.inj hf)).1 (Prod.mk.inj (Option.some.inj hf)).2 dX9_film_9
set_option maxHeartbeats 4000000 in
set_option maxRecDepth 100000 in
theorem k_X9_drawn {l : Launch} {a : Nat → Nat} {cy : Nat → ClassId} {D : va_G} {ad : Nat → Nat} {A : Nat → Prop} (O : WO NX a (EHX ad A) A) {x1 : Int32} {r : Int32} {σ : ST} {σ' : ST} (hf : f_X9_drawn x1 σ = some (r, σ')) : Met l yX9_drawn (Cond.code yX9_drawn cX9_drawn 2 (some .int) :: WS) (rmk 6 163) (PC [.ref (a 0), .int x1] NX eX a cy D (EHX ad A) σ) (QI NX eX a cy D A r σ') 0 0 A := by
  refine met_go (own := "GuardsLookLeft") O (by decide +kernel) rfl (Nat.le_of_ble_eq_true rfl) ?_
  intro p e s m args below meth c ls C hP hS hl
  have hx := C.hx
  have hb := C.hb
  have hl : lv_has ls 2 [(0, .ref (a 0)), (1, .int x1)] := hl
  obtain ⟨H, hH⟩ : ∃ H, H = s.heap := ⟨_, rfl⟩
  rw [← hH] at hP
  have hS : va_S A s.heap H [] := by rw [hH]; exact va_S.rf
  suffices g : W p l e (rmk 6 163) s m args below meth c H [] 0 0 (MQ below (QI NX eX a cy D A r σ') args s 0 0 A) (F0 m 0 ls []) by rw [hH] at g; exact g
  clear hH
  obtain ⟨locs, hlocs⟩ : ∃ z : List Loc, z = [] := ⟨_, rfl⟩
  rw [← hlocs] at hS ⊢
  refine lv_iload_n hx hb dX9_drawn_0 rfl (lv_at hl 1 rfl) ?_
  refine lv_ldcw hx hb C.hown (C.ts _ wk_4_79) dX9_drawn_1 ?_
  refine r_cz (r_runS (As := [.int x1, .int (99999 : Int32)]) (rest := []) C hP hS (k_X9_isWithin (l := l) O (σ := σ) rfl) mw_X9_isWithin ms_X9_isWithin wk_2_215 ⟨Nat.le_of_ble_eq_true rfl, Nat.le_of_ble_eq_true rfl⟩ ⟨rfl, rfl⟩ ⟨Nat.zero_le _, Nat.zero_le _⟩ rfl hl.1 rfl (Nat.le_of_ble_eq_true rfl) dX9_drawn_4) hS (fun H locs hzy1 hP hS => ?_)
  refine jl_topz hf hzy1 (fun y1 hzy1 hf => ?_)
  refine lv_if_ne (tgt := 13) hx hb dX9_drawn_7 (by decide) (fun hc => ?_) (fun hc => ?_)
  · have hf := jif_t hc hf
    refine lv_aload_n hx hb dX9_drawn_13 rfl (lv_at hl 0 rfl) ?_
    refine gf_X9_4 C hP wk_2_183 dX9_drawn_14 ?_
    refine lv_iload_n hx hb dX9_drawn_17 rfl (lv_at hl 1 rfl) ?_
    obtain ⟨s4, hc, hf⟩ := jb_e hf
    refine r_cv (r_runV (As := [.int x1]) (rest := []) C hP hS (va_recv C.hK hP (q0 := 5) (ci := 8) rfl (by rw [g_at oX_8.1, oX_8.2])) (k_X8_supposeLots (l := l) O hc) mw_X8_supposeLots mi_X8_supposeLots mv_X8_supposeLots wk_4_80 ⟨Nat.le_of_ble_eq_true rfl, Nat.le_of_ble_eq_true rfl⟩ ⟨rfl, rfl⟩ ⟨Nat.zero_le _, Nat.zero_le _⟩ rfl hl.1 rfl (Nat.le_of_ble_eq_true rfl) dX9_drawn_18) hS (fun H locs hP hS => ?_)
    refine lv_aload_n hx hb dX9_drawn_21 rfl (lv_at hl 0 rfl) ?_
    refine gf_X9_5 C hP wk_2_184 dX9_drawn_22 ?_
    refine lv_aload_n hx hb dX9_drawn_25 rfl (lv_at hl 0 rfl) ?_
    refine gf_X9_4 C hP wk_2_183 dX9_drawn_26 ?_
    refine gf_X8_5 C hP wk_1_183 dX9_drawn_29 ?_
    refine lv_aload_n hx hb dX9_drawn_32 rfl (lv_at hl 0 rfl) ?_
    refine gf_X9_0 C hP wk_2_179 dX9_drawn_33 ?_
    refine r_cl (r_runV (As := []) (rest := [.ref (a 41), .ref (a 6)]) C hP hS (va_recv C.hK hP (q0 := 1) (ci := 3) rfl (by rw [g_at oX_3.1, oX_3.2])) (k_X3_floor (l := l) O (σ := s4) rfl) mw_X3_floor mi_X3_floor mv_X3_floor wk_3_168 ⟨Nat.le_of_ble_eq_true rfl, Nat.le_of_ble_eq_true rfl⟩ ⟨rfl, rfl⟩ ⟨Nat.zero_le _, Nat.zero_le _⟩ rfl hl.1 rfl (Nat.le_of_ble_eq_true rfl) dX9_drawn_36) hS (fun H locs hP hS => ?_)
    refine jl_topl hf (fun y5 hf => ?_)
    obtain ⟨y7, s8, hc, hf⟩ := jbp_e hf
    refine r_ci (r_runV (As := [.ref (a 41), .long y5]) (rest := []) C hP hS (va_recv C.hK hP (q0 := 6) (ci := 0) rfl (by rw [g_at oX_0.1, oX_0.2])) (k_X0_greatest (l := l) O (show 40 ≤ 41 ∧ 41 < 42 by decide) hc) mw_X0_greatest mi_X0_greatest mv_X0_greatest wk_3_155 ⟨Nat.le_of_ble_eq_true rfl, Nat.le_of_ble_eq_true rfl⟩ ⟨rfl, rfl⟩ ⟨Nat.zero_le _, Nat.zero_le _⟩ rfl hl.1 rfl (Nat.le_of_ble_eq_true rfl) dX9_drawn_39) hS (fun H locs hP hS => ?_)
    exact ret_i C hP hS (Prod.mk.inj (Option.some.inj hf)).1 (Prod.mk.inj (Option.some.inj hf)).2 dX9_drawn_42
  · have hf := jif_n hc hf
    refine lv_bipush (v := (-2 : Int32)) hx hb dX9_drawn_10 (by decide) ?_
    exact ret_i C hP hS (Prod.mk.inj (Option.some.inj hf)).1 (Prod.mk.inj (Option.some.inj hf)).2 dX9_drawn_12
set_option maxHeartbeats 4000000 in
set_option maxRecDepth 100000 in
theorem k_X9_mean {l : Launch} {a : Nat → Nat} {cy : Nat → ClassId} {D : va_G} {ad : Nat → Nat} {A : Nat → Prop} (O : WO NX a (EHX ad A) A) {x1 : Int32} {x2 : Int32} {x3 : Int32} {r : Int64} {σ : ST} {σ' : ST} (hf : f_X9_mean x1 x2 x3 σ = some (r, σ')) : Met l yX9_mean (Cond.code yX9_mean cX9_mean 7 (some .long) :: WS) (rmk 6 163) (PC [.ref (a 0), .int x1, .int x2, .int x3] NX eX a cy D (EHX ad A) σ) (QL NX eX a cy D A r σ') 0 0 A := by
  refine met_go (own := "GuardsLookLeft") O (by decide +kernel) rfl (Nat.le_of_ble_eq_true rfl) ?_
  intro p e s m args below meth c ls C hP hS hl
  have hx := C.hx
  have hb := C.hb
  have hl : lv_has ls 7 [(0, .ref (a 0)), (1, .int x1), (2, .int x2), (3, .int x3)] := hl
  obtain ⟨H, hH⟩ : ∃ H, H = s.heap := ⟨_, rfl⟩
  rw [← hH] at hP
  have hS : va_S A s.heap H [] := by rw [hH]; exact va_S.rf
  suffices g : W p l e (rmk 6 163) s m args below meth c H [] 0 0 (MQ below (QL NX eX a cy D A r σ') args s 0 0 A) (F0 m 0 ls []) by rw [hH] at g; exact g
  clear hH
  obtain ⟨locs, hlocs⟩ : ∃ z : List Loc, z = [] := ⟨_, rfl⟩
  rw [← hlocs] at hS ⊢
  have hL29 : (∀ (s0 : ST) (H : Heap) (locs : List Loc) (ls : Array Slot), f_X9_mean_L29 s0 = some (r, σ') → va_P D vwCl (wG NX eX a cy s0) H → va_S A s.heap H locs → lv_has ls 7 [] → W p l e (rmk 6 163) s m args below meth c H locs 0 0 (MQ below (QL NX eX a cy D A r σ') args s 0 0 A) (F0 m 29 ls [])) := by
    intro s0 H locs ls hf hP hS hl
    refine lv_ldc2 hx hb C.hown (C.ts _ wk_2_222) dX9_mean_29 ?_
    exact ret_l C hP hS (Prod.mk.inj (Option.some.inj hf)).1 (Prod.mk.inj (Option.some.inj hf)).2 dX9_mean_32
  have hL135 : (∀ (v5 : Int32) (t0 : Int32) (s0 : ST) (H : Heap) (locs : List Loc) (ls : Array Slot), f_X9_mean_L135 v5 t0 s0 = some (r, σ') → va_P D vwCl (wG NX eX a cy s0) H → va_S A s.heap H locs → lv_has ls 7 [(5, .int v5)] → W p l e (rmk 6 163) s m args below meth c H locs 0 0 (MQ below (QL NX eX a cy D A r σ') args s 0 0 A) (F0 m 135 ls [.int t0])) := by
    intro v5 t0 s0 H locs ls hf hP hS hl
    refine lv_iload hx hb dX9_mean_135 (lv_at hl 0 rfl) ?_
    obtain ⟨hne, hf⟩ := jnz_e hf
    refine lv_idiv hx hb dX9_mean_137 hne ?_
    refine lv_i2l hx hb dX9_mean_138 rfl ?_
    exact ret_l C hP hS (Prod.mk.inj (Option.some.inj hf)).1 (Prod.mk.inj (Option.some.inj hf)).2 dX9_mean_139
  have hL119 : ∀ (k94 : Int32 → Int32 → Int32 → Int32 → Int32 → ST → Option (Int64 × ST)) (hk94 : (∀ (v2 : Int32) (v3 : Int32) (v4 : Int32) (v5 : Int32) (v6 : Int32) (s0 : ST) (H : Heap) (locs : List Loc) (ls : Array Slot), k94 v2 v3 v4 v5 v6 s0 = some (r, σ') → va_P D vwCl (wG NX eX a cy s0) H → va_S A s.heap H locs → lv_has ls 7 [(2, .int v2), (3, .int v3), (4, .int v4), (5, .int v5), (6, .int v6)] → W p l e (rmk 6 163) s m args below meth c H locs 0 0 (MQ below (QL NX eX a cy D A r σ') args s 0 0 A) (F0 m 94 ls []))), (∀ (v2 : Int32) (v3 : Int32) (v4 : Int32) (v5 : Int32) (v6 : Int32) (s0 : ST) (H : Heap) (locs : List Loc) (ls : Array Slot), f_X9_mean_L119 k94 v2 v3 v4 v5 v6 s0 = some (r, σ') → va_P D vwCl (wG NX eX a cy s0) H → va_S A s.heap H locs → lv_has ls 7 [(2, .int v2), (3, .int v3), (4, .int v4), (5, .int v5), (6, .int v6)] → W p l e (rmk 6 163) s m args below meth c H locs 0 0 (MQ below (QL NX eX a cy D A r σ') args s 0 0 A) (F0 m 119 ls [])) := by
    intro k94 hk94 v2 v3 v4 v5 v6 s0 H locs ls hf hP hS hl
    obtain ⟨y1, ey1, hf⟩ := jlet_e hf
    refine lv_iinc (v := y1) (lv' := [(6, .int y1), (2, .int v2), (3, .int v3), (4, .int v4), (5, .int v5)]) hx hb dX9_mean_119 hl (k := 4) rfl ey1 (by decide) rfl (fun ls hl => ?_)
    refine lv_goto (tgt := 94) hx hb dX9_mean_122 (by decide) ?_
    exact hk94 v2 v3 v4 v5 y1 s0 H locs ls hf hP hS (lv_sub hl [1, 2, 3, 4, 0] rfl)
  have hL94 : ∀ (n : Nat), (∀ (v2 : Int32) (v3 : Int32) (v4 : Int32) (v5 : Int32) (v6 : Int32) (s0 : ST) (H : Heap) (locs : List Loc) (ls : Array Slot), f_X9_mean_L94 n v2 v3 v4 v5 v6 s0 = some (r, σ') → va_P D vwCl (wG NX eX a cy s0) H → va_S A s.heap H locs → lv_has ls 7 [(2, .int v2), (3, .int v3), (4, .int v4), (5, .int v5), (6, .int v6)] → W p l e (rmk 6 163) s m args below meth c H locs 0 0 (MQ below (QL NX eX a cy D A r σ') args s 0 0 A) (F0 m 94 ls [])) := by
    intro n
    induction n with
    | zero => intro v2 v3 v4 v5 v6 s0 H locs ls hf hP hS hl; exact no_o hf
    | succ n ih =>
      intro v2 v3 v4 v5 v6 s0 H locs ls hf hP hS hl
      have hf := (ef_X9_mean_L94 _ _ _ _ _ _).symm.trans hf
      refine lv_iload hx hb dX9_mean_94 (lv_at hl 4 rfl) ?_
      refine lv_iload_n hx hb dX9_mean_96 rfl (lv_at hl 0 rfl) ?_
      refine lv_icmp_gt (tgt := 125) hx hb dX9_mean_97 (by decide) (fun hc => ?_) (fun hc => ?_)
      · have hf := jif_t hc hf
        refine lv_iload_n hx hb dX9_mean_125 rfl (lv_at hl 1 rfl) ?_
        refine lv_if_ne (tgt := 134) hx hb dX9_mean_126 (by decide) (fun hc => ?_) (fun hc => ?_)
        · have hf := jif_t hc hf
          refine lv_iload_n hx hb dX9_mean_134 rfl (lv_at hl 0 rfl) ?_
          exact hL135 v5 v2 s0 H locs ls hf hP hS (lv_sub hl [3] rfl)
        · have hf := jif_n hc hf
          refine lv_iload hx hb dX9_mean_129 (lv_at hl 2 rfl) ?_
          refine lv_goto (tgt := 135) hx hb dX9_mean_131 (by decide) ?_
          exact hL135 v5 v4 s0 H locs ls hf hP hS (lv_sub hl [3] rfl)
      · have hf := jif_f hc hf
        refine lv_iload hx hb dX9_mean_100 (lv_at hl 2 rfl) ?_
        refine lv_iload hx hb dX9_mean_102 (lv_at hl 4 rfl) ?_
        obtain ⟨hne, hf⟩ := jnz_e hf
        refine r_irem C dX9_mean_104 hne ?_
        refine lv_if_ne (tgt := 119) hx hb dX9_mean_105 (by decide) (fun hc => ?_) (fun hc => ?_)
        · have hf := jif_t hc hf
          exact hL119 (f_X9_mean_L94 n) ih v2 v3 v4 v5 v6 s0 H locs ls hf hP hS (lv_sub hl [0, 1, 2, 3, 4] rfl)
        · have hf := jif_n hc hf
          refine lv_iload_n hx hb dX9_mean_108 rfl (lv_at hl 0 rfl) ?_
          refine lv_iload hx hb dX9_mean_109 (lv_at hl 4 rfl) ?_
          obtain ⟨hne, hf⟩ := jnz_e hf
          refine r_irem C dX9_mean_111 hne ?_
          refine lv_if_ne (tgt := 119) hx hb dX9_mean_112 (by decide) (fun hc => ?_) (fun hc => ?_)
          · have hf := jif_t hc hf
            exact hL119 (f_X9_mean_L94 n) ih v2 v3 v4 v5 v6 s0 H locs ls hf hP hS (lv_sub hl [0, 1, 2, 3, 4] rfl)
          · have hf := jif_n hc hf
            refine lv_iload hx hb dX9_mean_115 (lv_at hl 4 rfl) ?_
            refine lv_istore (lv' := [(5, .int v6), (2, .int v2), (3, .int v3), (4, .int v4), (6, .int v6)]) hx hb dX9_mean_117 hl (by decide) rfl (fun ls hl => ?_)
            exact hL119 (f_X9_mean_L94 n) ih v2 v3 v4 v6 v6 s0 H locs ls hf hP hS (lv_sub hl [1, 2, 3, 0, 4] rfl)
  have hL39 : ∀ (n : Nat), (∀ (v1 : Int32) (v2 : Int32) (v3 : Int32) (v4 : Int32) (v5 : Int32) (s0 : ST) (H : Heap) (locs : List Loc) (ls : Array Slot), f_X9_mean_L39 n v1 v2 v3 v4 v5 s0 = some (r, σ') → va_P D vwCl (wG NX eX a cy s0) H → va_S A s.heap H locs → lv_has ls 7 [(0, .ref (a 0)), (1, .int v1), (2, .int v2), (3, .int v3), (4, .int v4), (5, .int v5)] → W p l e (rmk 6 163) s m args below meth c H locs 0 0 (MQ below (QL NX eX a cy D A r σ') args s 0 0 A) (F0 m 39 ls [])) := by
    intro n
    induction n with
    | zero => intro v1 v2 v3 v4 v5 s0 H locs ls hf hP hS hl; exact no_o hf
    | succ n ih =>
      intro v1 v2 v3 v4 v5 s0 H locs ls hf hP hS hl
      have hf := (ef_X9_mean_L39 _ _ _ _ _ _).symm.trans hf
      refine lv_iload hx hb dX9_mean_39 (lv_at hl 5 rfl) ?_
      refine lv_iload_n hx hb dX9_mean_41 rfl (lv_at hl 2 rfl) ?_
      refine lv_icmp_ge (tgt := 88) hx hb dX9_mean_42 (by decide) (fun hc => ?_) (fun hc => ?_)
      · have hf := jif_t hc hf
        refine lv_iconst (v := (1 : Int32)) hx hb dX9_mean_88 (by decide) ?_
        refine lv_istore (lv' := [(5, .int (1 : Int32)), (0, .ref (a 0)), (1, .int v1), (2, .int v2), (3, .int v3), (4, .int v4)]) hx hb dX9_mean_89 hl (by decide) rfl (fun ls hl => ?_)
        refine lv_iconst (v := (2 : Int32)) hx hb dX9_mean_91 (by decide) ?_
        refine lv_istore (lv' := [(6, .int (2 : Int32)), (5, .int (1 : Int32)), (0, .ref (a 0)), (1, .int v1), (2, .int v2), (3, .int v3), (4, .int v4)]) hx hb dX9_mean_92 hl (by decide) rfl (fun ls hl => ?_)
        exact hL94 FU v2 v3 v4 (1 : Int32) (2 : Int32) s0 H locs ls hf hP hS (lv_sub hl [4, 5, 6, 1, 0] rfl)
      · have hf := jif_f hc hf
        refine lv_aload_n hx hb dX9_mean_45 rfl (lv_at hl 0 rfl) ?_
        refine gf_X9_4 C hP wk_2_183 dX9_mean_46 ?_
        refine lv_iload_n hx hb dX9_mean_49 rfl (lv_at hl 1 rfl) ?_
        refine lv_iload hx hb dX9_mean_50 (lv_at hl 5 rfl) ?_
        refine lv_iadd hx hb dX9_mean_52 ?_
        obtain ⟨s2, hc, hf⟩ := jb_e hf
        refine r_cv (r_runV (As := [.int (v1 + v5)]) (rest := []) C hP hS (va_recv C.hK hP (q0 := 5) (ci := 8) rfl (by rw [g_at oX_8.1, oX_8.2])) (k_X8_supposeLots (l := l) O hc) mw_X8_supposeLots mi_X8_supposeLots mv_X8_supposeLots wk_4_80 ⟨Nat.le_of_ble_eq_true rfl, Nat.le_of_ble_eq_true rfl⟩ ⟨rfl, rfl⟩ ⟨Nat.zero_le _, Nat.zero_le _⟩ rfl hl.1 rfl (Nat.le_of_ble_eq_true rfl) dX9_mean_53) hS (fun H locs hP hS => ?_)
        refine lv_iload hx hb dX9_mean_56 (lv_at hl 4 rfl) ?_
        refine lv_aload_n hx hb dX9_mean_58 rfl (lv_at hl 0 rfl) ?_
        refine gf_X9_5 C hP wk_2_184 dX9_mean_59 ?_
        refine lv_aload_n hx hb dX9_mean_62 rfl (lv_at hl 0 rfl) ?_
        refine gf_X9_4 C hP wk_2_183 dX9_mean_63 ?_
        refine gf_X8_5 C hP wk_1_183 dX9_mean_66 ?_
        refine lv_aload_n hx hb dX9_mean_69 rfl (lv_at hl 0 rfl) ?_
        refine gf_X9_0 C hP wk_2_179 dX9_mean_70 ?_
        refine r_cl (r_runV (As := []) (rest := [.ref (a 41), .ref (a 6), .int v4]) C hP hS (va_recv C.hK hP (q0 := 1) (ci := 3) rfl (by rw [g_at oX_3.1, oX_3.2])) (k_X3_floor (l := l) O (σ := s2) rfl) mw_X3_floor mi_X3_floor mv_X3_floor wk_3_168 ⟨Nat.le_of_ble_eq_true rfl, Nat.le_of_ble_eq_true rfl⟩ ⟨rfl, rfl⟩ ⟨Nat.zero_le _, Nat.zero_le _⟩ rfl hl.1 rfl (Nat.le_of_ble_eq_true rfl) dX9_mean_73) hS (fun H locs hP hS => ?_)
        refine jl_topl hf (fun y3 hf => ?_)
        obtain ⟨y5, s6, hc, hf⟩ := jbp_e hf
        refine r_ci (r_runV (As := [.ref (a 41), .long y3]) (rest := [.int v4]) C hP hS (va_recv C.hK hP (q0 := 6) (ci := 0) rfl (by rw [g_at oX_0.1, oX_0.2])) (k_X0_greatest (l := l) O (show 40 ≤ 41 ∧ 41 < 42 by decide) hc) mw_X0_greatest mi_X0_greatest mv_X0_greatest wk_3_155 ⟨Nat.le_of_ble_eq_true rfl, Nat.le_of_ble_eq_true rfl⟩ ⟨rfl, rfl⟩ ⟨Nat.zero_le _, Nat.zero_le _⟩ rfl hl.1 rfl (Nat.le_of_ble_eq_true rfl) dX9_mean_76) hS (fun H locs hP hS => ?_)
        refine lv_iadd hx hb dX9_mean_79 ?_
        refine jl_topi hf (fun y7 hf => ?_)
        refine lv_istore (lv' := [(4, .int y7), (0, .ref (a 0)), (1, .int v1), (2, .int v2), (3, .int v3), (5, .int v5)]) hx hb dX9_mean_80 hl (by decide) rfl (fun ls hl => ?_)
        obtain ⟨y8, ey8, hf⟩ := jlet_e hf
        refine lv_iinc (v := y8) (lv' := [(5, .int y8), (4, .int y7), (0, .ref (a 0)), (1, .int v1), (2, .int v2), (3, .int v3)]) hx hb dX9_mean_82 hl (k := 5) rfl ey8 (by decide) rfl (fun ls hl => ?_)
        refine lv_goto (tgt := 39) hx hb dX9_mean_85 (by decide) ?_
        exact ih v1 v2 v3 y7 y8 s6 H locs ls hf hP hS (lv_sub hl [2, 3, 4, 5, 1, 0] rfl)
  refine lv_iload_n hx hb dX9_mean_0 rfl (lv_at hl 1 rfl) ?_
  refine lv_ldcw hx hb C.hown (C.ts _ wk_4_79) dX9_mean_1 ?_
  refine r_cz (r_runS (As := [.int x1, .int (99999 : Int32)]) (rest := []) C hP hS (k_X9_isWithin (l := l) O (σ := σ) rfl) mw_X9_isWithin ms_X9_isWithin wk_2_215 ⟨Nat.le_of_ble_eq_true rfl, Nat.le_of_ble_eq_true rfl⟩ ⟨rfl, rfl⟩ ⟨Nat.zero_le _, Nat.zero_le _⟩ rfl hl.1 rfl (Nat.le_of_ble_eq_true rfl) dX9_mean_4) hS (fun H locs hzy1 hP hS => ?_)
  refine jl_topz hf hzy1 (fun y1 hzy1 hf => ?_)
  refine lv_if_eq (tgt := 29) hx hb dX9_mean_7 (by decide) (fun hc => ?_) (fun hc => ?_)
  · have hf := jif_t hc hf
    exact hL29 σ H locs ls hf hP hS (lv_sub hl [] rfl)
  · have hf := jif_f hc hf
    refine lv_iload_n hx hb dX9_mean_10 rfl (lv_at hl 2 rfl) ?_
    refine lv_iconst (v := (1 : Int32)) hx hb dX9_mean_11 (by decide) ?_
    refine lv_icmp_lt (tgt := 29) hx hb dX9_mean_12 (by decide) (fun hc => ?_) (fun hc => ?_)
    · have hf := jif_t hc hf
      exact hL29 σ H locs ls hf hP hS (lv_sub hl [] rfl)
    · have hf := jif_f hc hf
      refine lv_iload_n hx hb dX9_mean_15 rfl (lv_at hl 2 rfl) ?_
      refine lv_bipush (v := (12 : Int32)) hx hb dX9_mean_16 (by decide) ?_
      refine lv_icmp_gt (tgt := 29) hx hb dX9_mean_18 (by decide) (fun hc => ?_) (fun hc => ?_)
      · have hf := jif_t hc hf
        exact hL29 σ H locs ls hf hP hS (lv_sub hl [] rfl)
      · have hf := jif_f hc hf
        refine lv_iload_n hx hb dX9_mean_21 rfl (lv_at hl 3 rfl) ?_
        refine lv_iconst (v := (1 : Int32)) hx hb dX9_mean_22 (by decide) ?_
        refine r_cz (r_runS (As := [.int x3, .int (1 : Int32)]) (rest := []) C hP hS (k_X9_isWithin (l := l) O (σ := σ) rfl) mw_X9_isWithin ms_X9_isWithin wk_2_215 ⟨Nat.le_of_ble_eq_true rfl, Nat.le_of_ble_eq_true rfl⟩ ⟨rfl, rfl⟩ ⟨Nat.zero_le _, Nat.zero_le _⟩ rfl hl.1 rfl (Nat.le_of_ble_eq_true rfl) dX9_mean_23) hS (fun H locs hzy3 hP hS => ?_)
        refine jl_topz hf hzy3 (fun y3 hzy3 hf => ?_)
        refine lv_if_ne (tgt := 33) hx hb dX9_mean_26 (by decide) (fun hc => ?_) (fun hc => ?_)
        · have hf := jif_t hc hf
          refine lv_iconst (v := (0 : Int32)) hx hb dX9_mean_33 (by decide) ?_
          refine lv_istore (lv' := [(4, .int (0 : Int32)), (0, .ref (a 0)), (1, .int x1), (2, .int x2), (3, .int x3)]) hx hb dX9_mean_34 hl (by decide) rfl (fun ls hl => ?_)
          refine lv_iconst (v := (0 : Int32)) hx hb dX9_mean_36 (by decide) ?_
          refine lv_istore (lv' := [(5, .int (0 : Int32)), (4, .int (0 : Int32)), (0, .ref (a 0)), (1, .int x1), (2, .int x2), (3, .int x3)]) hx hb dX9_mean_37 hl (by decide) rfl (fun ls hl => ?_)
          exact hL39 FU x1 x2 x3 (0 : Int32) (0 : Int32) σ H locs ls hf hP hS (lv_sub hl [2, 3, 4, 5, 1, 0] rfl)
        · have hf := jif_n hc hf
          exact hL29 σ H locs ls hf hP hS (lv_sub hl [] rfl)
set_option maxHeartbeats 4000000 in
set_option maxRecDepth 100000 in
theorem k_X9_image {l : Launch} {a : Nat → Nat} {cy : Nat → ClassId} {D : va_G} {ad : Nat → Nat} {A : Nat → Prop} (O : WO NX a (EHX ad A) A) {r : Int32} {σ : ST} {σ' : ST} (hf : f_X9_image σ = (r, σ')) : Met l yX9_image (Cond.code yX9_image cX9_image 1 (some .int) :: WS) (rmk 2 87) (PC [.ref (a 0)] NX eX a cy D (EHX ad A) σ) (QI NX eX a cy D A r σ') 0 0 A := by
  refine met_go (own := "GuardsLookLeft") O (by decide +kernel) rfl (Nat.le_of_ble_eq_true rfl) ?_
  intro p e s m args below meth c ls C hP hS hl
  have hx := C.hx
  have hb := C.hb
  have hl : lv_has ls 1 [(0, .ref (a 0))] := hl
  obtain ⟨H, hH⟩ : ∃ H, H = s.heap := ⟨_, rfl⟩
  rw [← hH] at hP
  have hS : va_S A s.heap H [] := by rw [hH]; exact va_S.rf
  suffices g : W p l e (rmk 2 87) s m args below meth c H [] 0 0 (MQ below (QI NX eX a cy D A r σ') args s 0 0 A) (F0 m 0 ls []) by rw [hH] at g; exact g
  clear hH
  obtain ⟨locs, hlocs⟩ : ∃ z : List Loc, z = [] := ⟨_, rfl⟩
  rw [← hlocs] at hS ⊢
  refine lv_aload_n hx hb dX9_image_0 rfl (lv_at hl 0 rfl) ?_
  refine gf_X9_7 C hP wk_2_186 dX9_image_1 ?_
  refine lv_aload_n hx hb dX9_image_4 rfl (lv_at hl 0 rfl) ?_
  refine gf_X9_0 C hP wk_2_179 dX9_image_5 ?_
  refine lv_aload_n hx hb dX9_image_8 rfl (lv_at hl 0 rfl) ?_
  refine gf_X9_1 C hP wk_2_180 dX9_image_9 ?_
  refine lv_aload_n hx hb dX9_image_12 rfl (lv_at hl 0 rfl) ?_
  refine gf_X9_3 C hP wk_2_182 dX9_image_13 ?_
  refine gf_X6_3 C hP wk_1_151 dX9_image_16 ?_
  obtain ⟨s2, hc, hf⟩ := jlet_e hf
  refine r_cv (r_runV (As := [.ref (a 1), .ref (a 2), .int (gA σ 4 3)]) (rest := []) C hP hS (va_recv C.hK hP (q0 := 8) (ci := 2) rfl (by rw [g_at oX_2.1, oX_2.2])) (k_X2_take (l := l) O hc) mw_X2_take mi_X2_take mv_X2_take wk_4_95 ⟨Nat.le_of_ble_eq_true rfl, Nat.le_of_ble_eq_true rfl⟩ ⟨rfl, rfl⟩ ⟨Nat.zero_le _, Nat.zero_le _⟩ rfl hl.1 rfl (Nat.le_of_ble_eq_true rfl) dX9_image_19) hS (fun H locs hP hS => ?_)
  refine lv_aload_n hx hb dX9_image_22 rfl (lv_at hl 0 rfl) ?_
  refine gf_X9_1 C hP wk_2_180 dX9_image_23 ?_
  refine gf_X1_6 C hP wk_1_68 dX9_image_26 ?_
  exact ret_i C hP hS (Prod.mk.inj hf).1 (Prod.mk.inj hf).2 dX9_image_29
set_option maxHeartbeats 4000000 in
set_option maxRecDepth 100000 in
theorem k_X9_back {l : Launch} {a : Nat → Nat} {cy : Nat → ClassId} {D : va_G} {ad : Nat → Nat} {A : Nat → Prop} (O : WO NX a (EHX ad A) A) {r : Int32} {σ : ST} {σ' : ST} (hf : f_X9_back σ = (r, σ')) : Met l yX9_back (Cond.code yX9_back cX9_back 1 (some .int) :: WS) (rmk 2 86) (PC [.ref (a 0)] NX eX a cy D (EHX ad A) σ) (QI NX eX a cy D A r σ') 0 0 A := by
  refine met_go (own := "GuardsLookLeft") O (by decide +kernel) rfl (Nat.le_of_ble_eq_true rfl) ?_
  intro p e s m args below meth c ls C hP hS hl
  have hx := C.hx
  have hb := C.hb
  have hl : lv_has ls 1 [(0, .ref (a 0))] := hl
  obtain ⟨H, hH⟩ : ∃ H, H = s.heap := ⟨_, rfl⟩
  rw [← hH] at hP
  have hS : va_S A s.heap H [] := by rw [hH]; exact va_S.rf
  suffices g : W p l e (rmk 2 86) s m args below meth c H [] 0 0 (MQ below (QI NX eX a cy D A r σ') args s 0 0 A) (F0 m 0 ls []) by rw [hH] at g; exact g
  clear hH
  obtain ⟨locs, hlocs⟩ : ∃ z : List Loc, z = [] := ⟨_, rfl⟩
  rw [← hlocs] at hS ⊢
  refine lv_aload_n hx hb dX9_back_0 rfl (lv_at hl 0 rfl) ?_
  refine gf_X9_7 C hP wk_2_186 dX9_back_1 ?_
  refine gf_X2_0 C hP wk_1_238 dX9_back_4 ?_
  refine lv_if_ne (tgt := 13) hx hb dX9_back_7 (by decide) (fun hc => ?_) (fun hc => ?_)
  · have hf := jif_t hc hf
    refine lv_aload_n hx hb dX9_back_13 rfl (lv_at hl 0 rfl) ?_
    refine gf_X9_7 C hP wk_2_186 dX9_back_14 ?_
    refine lv_aload_n hx hb dX9_back_17 rfl (lv_at hl 0 rfl) ?_
    refine gf_X9_0 C hP wk_2_179 dX9_back_18 ?_
    refine lv_aload_n hx hb dX9_back_21 rfl (lv_at hl 0 rfl) ?_
    refine gf_X9_1 C hP wk_2_180 dX9_back_22 ?_
    obtain ⟨s2, hc, hf⟩ := jlet_e hf
    refine r_cv (r_runV (As := [.ref (a 1), .ref (a 2)]) (rest := []) C hP hS (va_recv C.hK hP (q0 := 8) (ci := 2) rfl (by rw [g_at oX_2.1, oX_2.2])) (k_X2_giveBack (l := l) O hc) mw_X2_giveBack mi_X2_giveBack mv_X2_giveBack wk_4_104 ⟨Nat.le_of_ble_eq_true rfl, Nat.le_of_ble_eq_true rfl⟩ ⟨rfl, rfl⟩ ⟨Nat.zero_le _, Nat.zero_le _⟩ rfl hl.1 rfl (Nat.le_of_ble_eq_true rfl) dX9_back_25) hS (fun H locs hP hS => ?_)
    refine lv_aload_n hx hb dX9_back_28 rfl (lv_at hl 0 rfl) ?_
    refine gf_X9_3 C hP wk_2_182 dX9_back_29 ?_
    refine lv_aload_n hx hb dX9_back_32 rfl (lv_at hl 0 rfl) ?_
    refine gf_X9_7 C hP wk_2_186 dX9_back_33 ?_
    refine gf_X2_1 C hP wk_2_0 dX9_back_36 ?_
    refine pf_X6_3 C hP hS wk_1_151 dX9_back_39 hf (fun H locs s3 hf hP hS => ?_)
    refine lv_aload_n hx hb dX9_back_42 rfl (lv_at hl 0 rfl) ?_
    refine gf_X9_4 C hP wk_2_183 dX9_back_43 ?_
    refine lv_iconst (v := (1 : Int32)) hx hb dX9_back_46 (by decide) ?_
    refine pf_X8_3 C hP hS wk_1_179 (bz_n bz_1) dX9_back_47 hf (fun H locs s4 hf hP hS => ?_)
    refine lv_aload_n hx hb dX9_back_50 rfl (lv_at hl 0 rfl) ?_
    refine gf_X9_1 C hP wk_2_180 dX9_back_51 ?_
    refine gf_X1_6 C hP wk_1_68 dX9_back_54 ?_
    exact ret_i C hP hS (Prod.mk.inj hf).1 (Prod.mk.inj hf).2 dX9_back_57
  · have hf := jif_n hc hf
    refine lv_bipush (v := (-3 : Int32)) hx hb dX9_back_10 (by decide) ?_
    exact ret_i C hP hS (Prod.mk.inj hf).1 (Prod.mk.inj hf).2 dX9_back_12
set_option maxHeartbeats 4000000 in
set_option maxRecDepth 100000 in
theorem k_X9_sheet {l : Launch} {a : Nat → Nat} {cy : Nat → ClassId} {D : va_G} {ad : Nat → Nat} {A : Nat → Prop} (O : WO NX a (EHX ad A) A) {x1 : Int32} {x2 : Int32} {x3 : Int32} {r : Int32} {σ : ST} {σ' : ST} (hf : f_X9_sheet x1 x2 x3 σ = some (r, σ')) : Met l yX9_sheet (Cond.code yX9_sheet cX9_sheet 4 (some .int) :: WS) (rmk 2 45) (PC [.ref (a 0), .int x1, .int x2, .int x3] NX eX a cy D (EHX ad A) σ) (QI NX eX a cy D A r σ') 0 0 A := by
  refine met_go (own := "GuardsLookLeft") O (by decide +kernel) rfl (Nat.le_of_ble_eq_true rfl) ?_
  intro p e s m args below meth c ls C hP hS hl
  have hx := C.hx
  have hb := C.hb
  have hl : lv_has ls 4 [(0, .ref (a 0)), (1, .int x1), (2, .int x2), (3, .int x3)] := hl
  obtain ⟨H, hH⟩ : ∃ H, H = s.heap := ⟨_, rfl⟩
  rw [← hH] at hP
  have hS : va_S A s.heap H [] := by rw [hH]; exact va_S.rf
  suffices g : W p l e (rmk 2 45) s m args below meth c H [] 0 0 (MQ below (QI NX eX a cy D A r σ') args s 0 0 A) (F0 m 0 ls []) by rw [hH] at g; exact g
  clear hH
  obtain ⟨locs, hlocs⟩ : ∃ z : List Loc, z = [] := ⟨_, rfl⟩
  rw [← hlocs] at hS ⊢
  have hL63 : (∀ (o07 : Nat) (ho07 : 9 ≤ o07 ∧ o07 < 13) (t1 : Int32) (t2 : Int32) (s0 : ST) (H : Heap) (locs : List Loc) (ls : Array Slot), f_X9_sheet_L63 o07 t1 t2 s0 = some (r, σ') → va_P D vwCl (wG NX eX a cy s0) H → va_S A s.heap H locs → lv_has ls 4 [] → W p l e (rmk 2 45) s m args below meth c H locs 0 0 (MQ below (QI NX eX a cy D A r σ') args s 0 0 A) (F0 m 63 ls [.int t2, .int t1, .ref (a o07)])) := by
    intro o07 ho07 t1 t2 s0 H locs ls hf hP hS hl
    obtain ⟨s2, hc, hf⟩ := jb_e hf
    refine r_cv (r_runV (As := [.int t1, .int t2]) (rest := []) C hP hS (va_recv C.hK hP (q0 := o07) (ci := 5) rfl (by rw [g_at (oX_5 ho07).1, (oX_5 ho07).2])) (k_X5_become (l := l) O ho07 hc) mw_X5_become mi_X5_become mv_X5_become wk_4_68 ⟨Nat.le_of_ble_eq_true rfl, Nat.le_of_ble_eq_true rfl⟩ ⟨rfl, rfl⟩ ⟨Nat.zero_le _, Nat.zero_le _⟩ rfl hl.1 rfl (Nat.le_of_ble_eq_true rfl) dX9_sheet_63) hS (fun H locs hP hS => ?_)
    refine lv_iconst (v := (1 : Int32)) hx hb dX9_sheet_66 (by decide) ?_
    exact ret_i C hP hS (Prod.mk.inj (Option.some.inj hf)).1 (Prod.mk.inj (Option.some.inj hf)).2 dX9_sheet_67
  have hL46 : (∀ (v1 : Int32) (v2 : Int32) (v3 : Int32) (s0 : ST) (H : Heap) (locs : List Loc) (ls : Array Slot), f_X9_sheet_L46 v1 v2 v3 s0 = some (r, σ') → va_P D vwCl (wG NX eX a cy s0) H → va_S A s.heap H locs → lv_has ls 4 [(0, .ref (a 0)), (1, .int v1), (2, .int v2), (3, .int v3)] → W p l e (rmk 2 45) s m args below meth c H locs 0 0 (MQ below (QI NX eX a cy D A r σ') args s 0 0 A) (F0 m 46 ls [])) := by
    intro v1 v2 v3 s0 H locs ls hf hP hS hl
    refine lv_aload_n hx hb dX9_sheet_46 rfl (lv_at hl 0 rfl) ?_
    refine gf_X9_8 C hP wk_2_187 dX9_sheet_47 ?_
    refine lv_iload_n hx hb dX9_sheet_50 rfl (lv_at hl 1 rfl) ?_
    obtain ⟨hi1, hf⟩ := jix_e hf
    refine r_qald C hP aX_13 rfl rfl hi1 dX9_sheet_51 ?_
    refine jl_ref hf (show 9 ≤ 9 + (Int32.toNatClampNeg v1) ∧ 9 + (Int32.toNatClampNeg v1) < 13 by have := vp_lt hi1; omega) (fun q2 hq2 hf => ?_)
    refine lv_iload_n hx hb dX9_sheet_52 rfl (lv_at hl 2 rfl) ?_
    refine lv_iload_n hx hb dX9_sheet_53 rfl (lv_at hl 2 rfl) ?_
    refine lv_iconst (v := (-1 : Int32)) hx hb dX9_sheet_54 (by decide) ?_
    refine lv_icmp_ne (tgt := 62) hx hb dX9_sheet_55 (by decide) (fun hc => ?_) (fun hc => ?_)
    · have hf := jif_t hc hf
      refine lv_iload_n hx hb dX9_sheet_62 rfl (lv_at hl 3 rfl) ?_
      exact hL63 q2 hq2 v2 v3 s0 H locs ls hf hP hS (lv_sub hl [] rfl)
    · have hf := jif_n hc hf
      refine lv_iconst (v := (0 : Int32)) hx hb dX9_sheet_58 (by decide) ?_
      refine lv_goto (tgt := 63) hx hb dX9_sheet_59 (by decide) ?_
      exact hL63 q2 hq2 v2 (0 : Int32) s0 H locs ls hf hP hS (lv_sub hl [] rfl)
  have hL34 : (∀ (v1 : Int32) (v2 : Int32) (v3 : Int32) (s0 : ST) (H : Heap) (locs : List Loc) (ls : Array Slot), f_X9_sheet_L34 v1 v2 v3 s0 = some (r, σ') → va_P D vwCl (wG NX eX a cy s0) H → va_S A s.heap H locs → lv_has ls 4 [(0, .ref (a 0)), (1, .int v1), (2, .int v2), (3, .int v3)] → W p l e (rmk 2 45) s m args below meth c H locs 0 0 (MQ below (QI NX eX a cy D A r σ') args s 0 0 A) (F0 m 34 ls [])) := by
    intro v1 v2 v3 s0 H locs ls hf hP hS hl
    refine lv_iload_n hx hb dX9_sheet_34 rfl (lv_at hl 2 rfl) ?_
    refine lv_iconst (v := (-1 : Int32)) hx hb dX9_sheet_35 (by decide) ?_
    refine lv_icmp_eq (tgt := 46) hx hb dX9_sheet_36 (by decide) (fun hc => ?_) (fun hc => ?_)
    · have hf := jif_t hc hf
      exact hL46 v1 v2 v3 s0 H locs ls hf hP hS (lv_sub hl [0, 1, 2, 3] rfl)
    · have hf := jif_f hc hf
      refine lv_iload_n hx hb dX9_sheet_39 rfl (lv_at hl 3 rfl) ?_
      refine lv_if_ge (tgt := 46) hx hb dX9_sheet_40 (by decide) (fun hc => ?_) (fun hc => ?_)
      · have hf := jif_t hc hf
        exact hL46 v1 v2 v3 s0 H locs ls hf hP hS (lv_sub hl [0, 1, 2, 3] rfl)
      · have hf := jif_f hc hf
        refine lv_bipush (v := (-14 : Int32)) hx hb dX9_sheet_43 (by decide) ?_
        exact ret_i C hP hS (Prod.mk.inj (Option.some.inj hf)).1 (Prod.mk.inj (Option.some.inj hf)).2 dX9_sheet_45
  refine lv_iload_n hx hb dX9_sheet_0 rfl (lv_at hl 1 rfl) ?_
  refine r_cz (r_runS (As := [.int x1]) (rest := []) C hP hS (k_X9_isSheet (l := l) O (σ := σ) rfl) mw_X9_isSheet ms_X9_isSheet wk_4_40 ⟨Nat.le_of_ble_eq_true rfl, Nat.le_of_ble_eq_true rfl⟩ ⟨rfl, rfl⟩ ⟨Nat.zero_le _, Nat.zero_le _⟩ rfl hl.1 rfl (Nat.le_of_ble_eq_true rfl) dX9_sheet_1) hS (fun H locs hzy1 hP hS => ?_)
  refine jl_topz hf hzy1 (fun y1 hzy1 hf => ?_)
  refine lv_if_eq (tgt := 17) hx hb dX9_sheet_4 (by decide) (fun hc => ?_) (fun hc => ?_)
  · have hf := jif_t hc hf
    refine lv_bipush (v := (-2 : Int32)) hx hb dX9_sheet_17 (by decide) ?_
    exact ret_i C hP hS (Prod.mk.inj (Option.some.inj hf)).1 (Prod.mk.inj (Option.some.inj hf)).2 dX9_sheet_19
  · have hf := jif_f hc hf
    refine lv_iload_n hx hb dX9_sheet_7 rfl (lv_at hl 2 rfl) ?_
    refine lv_iconst (v := (-1 : Int32)) hx hb dX9_sheet_8 (by decide) ?_
    refine lv_icmp_lt (tgt := 17) hx hb dX9_sheet_9 (by decide) (fun hc => ?_) (fun hc => ?_)
    · have hf := jif_t hc hf
      refine lv_bipush (v := (-2 : Int32)) hx hb dX9_sheet_17 (by decide) ?_
      exact ret_i C hP hS (Prod.mk.inj (Option.some.inj hf)).1 (Prod.mk.inj (Option.some.inj hf)).2 dX9_sheet_19
    · have hf := jif_f hc hf
      refine lv_iload_n hx hb dX9_sheet_12 rfl (lv_at hl 2 rfl) ?_
      refine lv_iconst (v := (2 : Int32)) hx hb dX9_sheet_13 (by decide) ?_
      refine lv_icmp_le (tgt := 20) hx hb dX9_sheet_14 (by decide) (fun hc => ?_) (fun hc => ?_)
      · have hf := jif_t hc hf
        refine lv_iload_n hx hb dX9_sheet_20 rfl (lv_at hl 2 rfl) ?_
        refine lv_iconst (v := (-1 : Int32)) hx hb dX9_sheet_21 (by decide) ?_
        refine lv_icmp_eq (tgt := 34) hx hb dX9_sheet_22 (by decide) (fun hc => ?_) (fun hc => ?_)
        · have hf := jif_t hc hf
          exact hL34 x1 x2 x3 σ H locs ls hf hP hS (lv_sub hl [0, 1, 2, 3] rfl)
        · have hf := jif_f hc hf
          refine lv_iload_n hx hb dX9_sheet_25 rfl (lv_at hl 3 rfl) ?_
          refine lv_bipush (v := (40 : Int32)) hx hb dX9_sheet_26 (by decide) ?_
          refine lv_icmp_le (tgt := 34) hx hb dX9_sheet_28 (by decide) (fun hc => ?_) (fun hc => ?_)
          · have hf := jif_t hc hf
            exact hL34 x1 x2 x3 σ H locs ls hf hP hS (lv_sub hl [0, 1, 2, 3] rfl)
          · have hf := jif_f hc hf
            refine lv_bipush (v := (-2 : Int32)) hx hb dX9_sheet_31 (by decide) ?_
            exact ret_i C hP hS (Prod.mk.inj (Option.some.inj hf)).1 (Prod.mk.inj (Option.some.inj hf)).2 dX9_sheet_33
      · have hf := jif_f hc hf
        refine lv_bipush (v := (-2 : Int32)) hx hb dX9_sheet_17 (by decide) ?_
        exact ret_i C hP hS (Prod.mk.inj (Option.some.inj hf)).1 (Prod.mk.inj (Option.some.inj hf)).2 dX9_sheet_19
set_option maxHeartbeats 4000000 in
set_option maxRecDepth 100000 in
theorem k_X9_cell {l : Launch} {a : Nat → Nat} {cy : Nat → ClassId} {D : va_G} {ad : Nat → Nat} {A : Nat → Prop} (O : WO NX a (EHX ad A) A) {x1 : Int32} {x2 : Int32} {x3 : Int32} {r : Int32} {σ : ST} {σ' : ST} (hf : f_X9_cell x1 x2 x3 σ = some (r, σ')) : Met l yX9_cell (Cond.code yX9_cell cX9_cell 5 (some .int) :: WS) (rmk 2 41) (PC [.ref (a 0), .int x1, .int x2, .int x3] NX eX a cy D (EHX ad A) σ) (QI NX eX a cy D A r σ') 0 0 A := by
  refine met_go (own := "GuardsLookLeft") O (by decide +kernel) rfl (Nat.le_of_ble_eq_true rfl) ?_
  intro p e s m args below meth c ls C hP hS hl
  have hx := C.hx
  have hb := C.hb
  have hl : lv_has ls 5 [(0, .ref (a 0)), (1, .int x1), (2, .int x2), (3, .int x3)] := hl
  obtain ⟨H, hH⟩ : ∃ H, H = s.heap := ⟨_, rfl⟩
  rw [← hH] at hP
  have hS : va_S A s.heap H [] := by rw [hH]; exact va_S.rf
  suffices g : W p l e (rmk 2 41) s m args below meth c H [] 0 0 (MQ below (QI NX eX a cy D A r σ') args s 0 0 A) (F0 m 0 ls []) by rw [hH] at g; exact g
  clear hH
  obtain ⟨locs, hlocs⟩ : ∃ z : List Loc, z = [] := ⟨_, rfl⟩
  rw [← hlocs] at hS ⊢
  have hL81 : (∀ (o07 : Nat) (ho07 : 54 ≤ o07 ∧ o07 < 58) (t1 : Int32) (t2 : Int32) (s0 : ST) (H : Heap) (locs : List Loc) (ls : Array Slot), f_X9_cell_L81 o07 t1 t2 s0 = some (r, σ') → va_P D vwCl (wG NX eX a cy s0) H → va_S A s.heap H locs → lv_has ls 5 [] → W p l e (rmk 2 41) s m args below meth c H locs 0 0 (MQ below (QI NX eX a cy D A r σ') args s 0 0 A) (F0 m 81 ls [.int t2, .int t1, .ref (a o07)])) := by
    intro o07 ho07 t1 t2 s0 H locs ls hf hP hS hl
    obtain ⟨hi1, hf⟩ := jix_e hf
    refine r_iast C hP hS (fX_54 ho07) hi1 dX9_cell_81 hf (fun H locs s2 hf hP hS => ?_)
    refine lv_iconst (v := (1 : Int32)) hx hb dX9_cell_82 (by decide) ?_
    exact ret_i C hP hS (Prod.mk.inj (Option.some.inj hf)).1 (Prod.mk.inj (Option.some.inj hf)).2 dX9_cell_83
  refine lv_iload_n hx hb dX9_cell_0 rfl (lv_at hl 1 rfl) ?_
  refine r_cz (r_runS (As := [.int x1]) (rest := []) C hP hS (k_X9_isSheet (l := l) O (σ := σ) rfl) mw_X9_isSheet ms_X9_isSheet wk_4_40 ⟨Nat.le_of_ble_eq_true rfl, Nat.le_of_ble_eq_true rfl⟩ ⟨rfl, rfl⟩ ⟨Nat.zero_le _, Nat.zero_le _⟩ rfl hl.1 rfl (Nat.le_of_ble_eq_true rfl) dX9_cell_1) hS (fun H locs hzy1 hP hS => ?_)
  refine jl_topz hf hzy1 (fun y1 hzy1 hf => ?_)
  refine lv_if_ne (tgt := 10) hx hb dX9_cell_4 (by decide) (fun hc => ?_) (fun hc => ?_)
  · have hf := jif_t hc hf
    refine lv_aload_n hx hb dX9_cell_10 rfl (lv_at hl 0 rfl) ?_
    refine gf_X9_8 C hP wk_2_187 dX9_cell_11 ?_
    refine lv_iload_n hx hb dX9_cell_14 rfl (lv_at hl 1 rfl) ?_
    obtain ⟨hi3, hf⟩ := jix_e hf
    refine r_qald C hP aX_13 rfl rfl hi3 dX9_cell_15 ?_
    refine jl_ref hf (show 9 ≤ 9 + (Int32.toNatClampNeg x1) ∧ 9 + (Int32.toNatClampNeg x1) < 13 by have := vp_lt hi3; omega) (fun q4 hq4 hf => ?_)
    refine lv_astore (lv' := [(4, .ref (a q4)), (0, .ref (a 0)), (1, .int x1), (2, .int x2), (3, .int x3)]) hx hb dX9_cell_16 hl (by decide) rfl (fun ls hl => ?_)
    refine lv_aload hx hb dX9_cell_18 (lv_at hl 0 rfl) ?_
    refine gf_X5_0 hq4 C hP wk_2_26 dX9_cell_20 ?_
    refine lv_iconst (v := (-1 : Int32)) hx hb dX9_cell_23 (by decide) ?_
    refine lv_icmp_ne (tgt := 30) hx hb dX9_cell_24 (by decide) (fun hc => ?_) (fun hc => ?_)
    · have hf := jif_t hc hf
      refine lv_iload_n hx hb dX9_cell_30 rfl (lv_at hl 3 rfl) ?_
      refine lv_aload hx hb dX9_cell_31 (lv_at hl 0 rfl) ?_
      refine gf_X5_1 hq4 C hP wk_2_28 dX9_cell_33 ?_
      refine lv_iconst (v := (1 : Int32)) hx hb dX9_cell_36 (by decide) ?_
      refine lv_isub hx hb dX9_cell_37 ?_
      refine r_cz (r_runS (As := [.int x2, .int ((gA σ q4 1) - (1 : Int32))]) (rest := []) C hP hS (k_X9_isWithin (l := l) O (σ := σ) rfl) mw_X9_isWithin ms_X9_isWithin wk_2_215 ⟨Nat.le_of_ble_eq_true rfl, Nat.le_of_ble_eq_true rfl⟩ ⟨rfl, rfl⟩ ⟨Nat.zero_le _, Nat.zero_le _⟩ rfl hl.1 rfl (Nat.le_of_ble_eq_true rfl) dX9_cell_38) hS (fun H locs hzy5 hP hS => ?_)
      refine jl_topz hf hzy5 (fun y5 hzy5 hf => ?_)
      refine lv_if_ne (tgt := 47) hx hb dX9_cell_41 (by decide) (fun hc => ?_) (fun hc => ?_)
      · have hf := jif_t hc hf
        refine lv_aload hx hb dX9_cell_47 (lv_at hl 0 rfl) ?_
        refine gf_X5_2 hq4 C hP wk_2_30 dX9_cell_49 ?_
        refine lv_iload_n hx hb dX9_cell_52 rfl (lv_at hl 3 rfl) ?_
        refine lv_aload hx hb dX9_cell_53 (lv_at hl 0 rfl) ?_
        refine gf_X5_0 hq4 C hP wk_2_26 dX9_cell_55 ?_
        refine lv_if_ne (tgt := 66) hx hb dX9_cell_58 (by decide) (fun hc => ?_) (fun hc => ?_)
        · have hf := jif_t hc hf
          refine lv_aload hx hb dX9_cell_66 (lv_at hl 0 rfl) ?_
          refine gf_X5_0 hq4 C hP wk_2_26 dX9_cell_68 ?_
          refine lv_iconst (v := (1 : Int32)) hx hb dX9_cell_71 (by decide) ?_
          refine lv_icmp_ne (tgt := 80) hx hb dX9_cell_72 (by decide) (fun hc => ?_) (fun hc => ?_)
          · have hf := jif_t hc hf
            refine lv_iload_n hx hb dX9_cell_80 rfl (lv_at hl 4 rfl) ?_
            exact hL81 (q4 + 45) (by omega) x2 x3 σ H locs ls hf hP hS (lv_sub hl [] rfl)
          · have hf := jif_n hc hf
            refine lv_iload_n hx hb dX9_cell_75 rfl (lv_at hl 4 rfl) ?_
            refine lv_i2s hx hb dX9_cell_76 rfl ?_
            refine lv_goto (tgt := 81) hx hb dX9_cell_77 (by decide) ?_
            exact hL81 (q4 + 45) (by omega) x2 (ji2s x3) σ H locs ls hf hP hS (lv_sub hl [] rfl)
        · have hf := jif_n hc hf
          refine lv_iload_n hx hb dX9_cell_61 rfl (lv_at hl 4 rfl) ?_
          refine lv_i2b hx hb dX9_cell_62 rfl ?_
          refine lv_goto (tgt := 81) hx hb dX9_cell_63 (by decide) ?_
          exact hL81 (q4 + 45) (by omega) x2 (ji2b x3) σ H locs ls hf hP hS (lv_sub hl [] rfl)
      · have hf := jif_n hc hf
        refine lv_bipush (v := (-12 : Int32)) hx hb dX9_cell_44 (by decide) ?_
        exact ret_i C hP hS (Prod.mk.inj (Option.some.inj hf)).1 (Prod.mk.inj (Option.some.inj hf)).2 dX9_cell_46
    · have hf := jif_n hc hf
      refine lv_bipush (v := (-11 : Int32)) hx hb dX9_cell_27 (by decide) ?_
      exact ret_i C hP hS (Prod.mk.inj (Option.some.inj hf)).1 (Prod.mk.inj (Option.some.inj hf)).2 dX9_cell_29
  · have hf := jif_n hc hf
    refine lv_bipush (v := (-2 : Int32)) hx hb dX9_cell_7 (by decide) ?_
    exact ret_i C hP hS (Prod.mk.inj (Option.some.inj hf)).1 (Prod.mk.inj (Option.some.inj hf)).2 dX9_cell_9
set_option maxHeartbeats 4000000 in
set_option maxRecDepth 100000 in
theorem k_X9_copy {l : Launch} {a : Nat → Nat} {cy : Nat → ClassId} {D : va_G} {ad : Nat → Nat} {A : Nat → Prop} (O : WO NX a (EHX ad A) A) {x1 : Int32} {x2 : Int32} {x3 : Int32} {x4 : Int32} {x5 : Int32} {r : Int32} {σ : ST} {σ' : ST} (hf : f_X9_copy x1 x2 x3 x4 x5 σ = some (r, σ')) : Met l yX9_copy (Cond.code yX9_copy cX9_copy 8 (some .int) :: WS) (rmk 2 64) (PC [.ref (a 0), .int x1, .int x2, .int x3, .int x4, .int x5] NX eX a cy D (EHX ad A) σ) (QI NX eX a cy D A r σ') 0 0 A := by
  refine met_go (own := "GuardsLookLeft") O (by decide +kernel) rfl (Nat.le_of_ble_eq_true rfl) ?_
  intro p e s m args below meth c ls C hP hS hl
  have hx := C.hx
  have hb := C.hb
  have hl : lv_has ls 8 [(0, .ref (a 0)), (1, .int x1), (2, .int x2), (3, .int x3), (4, .int x4), (5, .int x5)] := hl
  obtain ⟨H, hH⟩ : ∃ H, H = s.heap := ⟨_, rfl⟩
  rw [← hH] at hP
  have hS : va_S A s.heap H [] := by rw [hH]; exact va_S.rf
  suffices g : W p l e (rmk 2 64) s m args below meth c H [] 0 0 (MQ below (QI NX eX a cy D A r σ') args s 0 0 A) (F0 m 0 ls []) by rw [hH] at g; exact g
  clear hH
  obtain ⟨locs, hlocs⟩ : ∃ z : List Loc, z = [] := ⟨_, rfl⟩
  rw [← hlocs] at hS ⊢
  refine lv_iload_n hx hb dX9_copy_0 rfl (lv_at hl 1 rfl) ?_
  refine r_cz (r_runS (As := [.int x1]) (rest := []) C hP hS (k_X9_isSheet (l := l) O (σ := σ) rfl) mw_X9_isSheet ms_X9_isSheet wk_4_40 ⟨Nat.le_of_ble_eq_true rfl, Nat.le_of_ble_eq_true rfl⟩ ⟨rfl, rfl⟩ ⟨Nat.zero_le _, Nat.zero_le _⟩ rfl hl.1 rfl (Nat.le_of_ble_eq_true rfl) dX9_copy_1) hS (fun H locs hzy1 hP hS => ?_)
  refine jl_topz hf hzy1 (fun y1 hzy1 hf => ?_)
  refine lv_if_eq (tgt := 14) hx hb dX9_copy_4 (by decide) (fun hc => ?_) (fun hc => ?_)
  · have hf := jif_t hc hf
    refine lv_bipush (v := (-2 : Int32)) hx hb dX9_copy_14 (by decide) ?_
    exact ret_i C hP hS (Prod.mk.inj (Option.some.inj hf)).1 (Prod.mk.inj (Option.some.inj hf)).2 dX9_copy_16
  · have hf := jif_f hc hf
    refine lv_iload_n hx hb dX9_copy_7 rfl (lv_at hl 3 rfl) ?_
    refine r_cz (r_runS (As := [.int x3]) (rest := []) C hP hS (k_X9_isSheet (l := l) O (σ := σ) rfl) mw_X9_isSheet ms_X9_isSheet wk_4_40 ⟨Nat.le_of_ble_eq_true rfl, Nat.le_of_ble_eq_true rfl⟩ ⟨rfl, rfl⟩ ⟨Nat.zero_le _, Nat.zero_le _⟩ rfl hl.1 rfl (Nat.le_of_ble_eq_true rfl) dX9_copy_8) hS (fun H locs hzy3 hP hS => ?_)
    refine jl_topz hf hzy3 (fun y3 hzy3 hf => ?_)
    refine lv_if_ne (tgt := 17) hx hb dX9_copy_11 (by decide) (fun hc => ?_) (fun hc => ?_)
    · have hf := jif_t hc hf
      refine lv_aload_n hx hb dX9_copy_17 rfl (lv_at hl 0 rfl) ?_
      refine gf_X9_8 C hP wk_2_187 dX9_copy_18 ?_
      refine lv_iload_n hx hb dX9_copy_21 rfl (lv_at hl 1 rfl) ?_
      obtain ⟨hi5, hf⟩ := jix_e hf
      refine r_qald C hP aX_13 rfl rfl hi5 dX9_copy_22 ?_
      refine jl_ref hf (show 9 ≤ 9 + (Int32.toNatClampNeg x1) ∧ 9 + (Int32.toNatClampNeg x1) < 13 by have := vp_lt hi5; omega) (fun q6 hq6 hf => ?_)
      refine lv_astore (lv' := [(6, .ref (a q6)), (0, .ref (a 0)), (1, .int x1), (2, .int x2), (3, .int x3), (4, .int x4), (5, .int x5)]) hx hb dX9_copy_23 hl (by decide) rfl (fun ls hl => ?_)
      refine lv_aload_n hx hb dX9_copy_25 rfl (lv_at hl 1 rfl) ?_
      refine gf_X9_8 C hP wk_2_187 dX9_copy_26 ?_
      refine lv_iload_n hx hb dX9_copy_29 rfl (lv_at hl 4 rfl) ?_
      obtain ⟨hi7, hf⟩ := jix_e hf
      refine r_qald C hP aX_13 rfl rfl hi7 dX9_copy_30 ?_
      refine jl_ref hf (show 9 ≤ 9 + (Int32.toNatClampNeg x3) ∧ 9 + (Int32.toNatClampNeg x3) < 13 by have := vp_lt hi7; omega) (fun q8 hq8 hf => ?_)
      refine lv_astore (lv' := [(7, .ref (a q8)), (6, .ref (a q6)), (0, .ref (a 0)), (1, .int x1), (2, .int x2), (3, .int x3), (4, .int x4), (5, .int x5)]) hx hb dX9_copy_31 hl (by decide) rfl (fun ls hl => ?_)
      refine lv_aload hx hb dX9_copy_33 (lv_at hl 1 rfl) ?_
      refine gf_X5_0 hq6 C hP wk_2_26 dX9_copy_35 ?_
      refine lv_iconst (v := (-1 : Int32)) hx hb dX9_copy_38 (by decide) ?_
      refine lv_icmp_eq (tgt := 51) hx hb dX9_copy_39 (by decide) (fun hc => ?_) (fun hc => ?_)
      · have hf := jif_t hc hf
        refine lv_bipush (v := (-11 : Int32)) hx hb dX9_copy_51 (by decide) ?_
        exact ret_i C hP hS (Prod.mk.inj (Option.some.inj hf)).1 (Prod.mk.inj (Option.some.inj hf)).2 dX9_copy_53
      · have hf := jif_f hc hf
        refine lv_aload hx hb dX9_copy_42 (lv_at hl 0 rfl) ?_
        refine gf_X5_0 hq8 C hP wk_2_26 dX9_copy_44 ?_
        refine lv_iconst (v := (-1 : Int32)) hx hb dX9_copy_47 (by decide) ?_
        refine lv_icmp_ne (tgt := 54) hx hb dX9_copy_48 (by decide) (fun hc => ?_) (fun hc => ?_)
        · have hf := jif_t hc hf
          refine lv_aload hx hb dX9_copy_54 (lv_at hl 1 rfl) ?_
          refine gf_X5_0 hq6 C hP wk_2_26 dX9_copy_56 ?_
          refine lv_aload hx hb dX9_copy_59 (lv_at hl 0 rfl) ?_
          refine gf_X5_0 hq8 C hP wk_2_26 dX9_copy_61 ?_
          refine lv_icmp_eq (tgt := 70) hx hb dX9_copy_64 (by decide) (fun hc => ?_) (fun hc => ?_)
          · have hf := jif_t hc hf
            refine lv_aload hx hb dX9_copy_70 (lv_at hl 1 rfl) ?_
            refine lv_iload_n hx hb dX9_copy_72 rfl (lv_at hl 4 rfl) ?_
            refine lv_iload hx hb dX9_copy_73 (lv_at hl 7 rfl) ?_
            refine r_cz (r_runV (As := [.int x2, .int x5]) (rest := []) C hP hS (va_recv C.hK hP (q0 := q6) (ci := 5) rfl (by rw [g_at (oX_5 hq6).1, (oX_5 hq6).2])) (k_X5_hasRoom (l := l) O (σ := σ) hq6 rfl) mw_X5_hasRoom mi_X5_hasRoom mv_X5_hasRoom wk_4_120 ⟨Nat.le_of_ble_eq_true rfl, Nat.le_of_ble_eq_true rfl⟩ ⟨rfl, rfl⟩ ⟨Nat.zero_le _, Nat.zero_le _⟩ rfl hl.1 rfl (Nat.le_of_ble_eq_true rfl) dX9_copy_75) hS (fun H locs hzy9 hP hS => ?_)
            refine jl_topz hf hzy9 (fun y9 hzy9 hf => ?_)
            refine lv_if_eq (tgt := 93) hx hb dX9_copy_78 (by decide) (fun hc => ?_) (fun hc => ?_)
            · have hf := jif_t hc hf
              refine lv_bipush (v := (-12 : Int32)) hx hb dX9_copy_93 (by decide) ?_
              exact ret_i C hP hS (Prod.mk.inj (Option.some.inj hf)).1 (Prod.mk.inj (Option.some.inj hf)).2 dX9_copy_95
            · have hf := jif_f hc hf
              refine lv_aload hx hb dX9_copy_81 (lv_at hl 0 rfl) ?_
              refine lv_iload hx hb dX9_copy_83 (lv_at hl 6 rfl) ?_
              refine lv_iload hx hb dX9_copy_85 (lv_at hl 7 rfl) ?_
              refine r_cz (r_runV (As := [.int x4, .int x5]) (rest := []) C hP hS (va_recv C.hK hP (q0 := q8) (ci := 5) rfl (by rw [g_at (oX_5 hq8).1, (oX_5 hq8).2])) (k_X5_hasRoom (l := l) O (σ := σ) hq8 rfl) mw_X5_hasRoom mi_X5_hasRoom mv_X5_hasRoom wk_4_120 ⟨Nat.le_of_ble_eq_true rfl, Nat.le_of_ble_eq_true rfl⟩ ⟨rfl, rfl⟩ ⟨Nat.zero_le _, Nat.zero_le _⟩ rfl hl.1 rfl (Nat.le_of_ble_eq_true rfl) dX9_copy_87) hS (fun H locs hzy11 hP hS => ?_)
              refine jl_topz hf hzy11 (fun y11 hzy11 hf => ?_)
              refine lv_if_ne (tgt := 96) hx hb dX9_copy_90 (by decide) (fun hc => ?_) (fun hc => ?_)
              · have hf := jif_t hc hf
                refine lv_aload hx hb dX9_copy_96 (lv_at hl 1 rfl) ?_
                refine gf_X5_2 hq6 C hP wk_2_30 dX9_copy_98 ?_
                refine lv_iload_n hx hb dX9_copy_101 rfl (lv_at hl 4 rfl) ?_
                refine lv_aload hx hb dX9_copy_102 (lv_at hl 0 rfl) ?_
                refine gf_X5_2 hq8 C hP wk_2_30 dX9_copy_104 ?_
                refine lv_iload hx hb dX9_copy_107 (lv_at hl 6 rfl) ?_
                refine lv_iload hx hb dX9_copy_109 (lv_at hl 7 rfl) ?_
                obtain ⟨hg, hf⟩ := jcp_e hf
                refine r_copyI C hP hS hl.1 (fX_54 (show 54 ≤ (q6 + 45) ∧ (q6 + 45) < 58 by omega)) (fX_54 (show 54 ≤ (q8 + 45) ∧ (q8 + 45) < 58 by omega)) hg (Nat.le_of_ble_eq_true rfl) (Nat.le_of_ble_eq_true rfl) wk_4_124 dX9_copy_111 hf (fun H locs s13 hf hP hS => ?_)
                refine lv_iload hx hb dX9_copy_114 (lv_at hl 7 rfl) ?_
                exact ret_i C hP hS (Prod.mk.inj (Option.some.inj hf)).1 (Prod.mk.inj (Option.some.inj hf)).2 dX9_copy_116
              · have hf := jif_n hc hf
                refine lv_bipush (v := (-12 : Int32)) hx hb dX9_copy_93 (by decide) ?_
                exact ret_i C hP hS (Prod.mk.inj (Option.some.inj hf)).1 (Prod.mk.inj (Option.some.inj hf)).2 dX9_copy_95
          · have hf := jif_f hc hf
            refine lv_bipush (v := (-13 : Int32)) hx hb dX9_copy_67 (by decide) ?_
            exact ret_i C hP hS (Prod.mk.inj (Option.some.inj hf)).1 (Prod.mk.inj (Option.some.inj hf)).2 dX9_copy_69
        · have hf := jif_n hc hf
          refine lv_bipush (v := (-11 : Int32)) hx hb dX9_copy_51 (by decide) ?_
          exact ret_i C hP hS (Prod.mk.inj (Option.some.inj hf)).1 (Prod.mk.inj (Option.some.inj hf)).2 dX9_copy_53
    · have hf := jif_n hc hf
      refine lv_bipush (v := (-2 : Int32)) hx hb dX9_copy_14 (by decide) ?_
      exact ret_i C hP hS (Prod.mk.inj (Option.some.inj hf)).1 (Prod.mk.inj (Option.some.inj hf)).2 dX9_copy_16
set_option maxHeartbeats 4000000 in
set_option maxRecDepth 100000 in
theorem k_X9_guardsBy {l : Launch} {a : Nat → Nat} {cy : Nat → ClassId} {D : va_G} {ad : Nat → Nat} {A : Nat → Prop} (O : WO NX a (EHX ad A) A) {x1 : Int32} {x2 : Int32} {x3 : Int32} {x4 : Int32} {r : Int32} {σ : ST} {σ' : ST} (hf : f_X9_guardsBy x1 x2 x3 x4 σ = some (r, σ')) : Met l yX9_guardsBy (Cond.code yX9_guardsBy cX9_guardsBy 10 (some .int) :: WS) (rmk 3 65) (PC [.ref (a 0), .int x1, .int x2, .int x3, .int x4] NX eX a cy D (EHX ad A) σ) (QI NX eX a cy D A r σ') 0 0 A := by
  refine met_go (own := "GuardsLookLeft") O (by decide +kernel) rfl (Nat.le_of_ble_eq_true rfl) ?_
  intro p e s m args below meth c ls C hP hS hl
  have hx := C.hx
  have hb := C.hb
  have hl : lv_has ls 10 [(0, .ref (a 0)), (1, .int x1), (2, .int x2), (3, .int x3), (4, .int x4)] := hl
  obtain ⟨H, hH⟩ : ∃ H, H = s.heap := ⟨_, rfl⟩
  rw [← hH] at hP
  have hS : va_S A s.heap H [] := by rw [hH]; exact va_S.rf
  suffices g : W p l e (rmk 3 65) s m args below meth c H [] 0 0 (MQ below (QI NX eX a cy D A r σ') args s 0 0 A) (F0 m 0 ls []) by rw [hH] at g; exact g
  clear hH
  obtain ⟨locs, hlocs⟩ : ∃ z : List Loc, z = [] := ⟨_, rfl⟩
  rw [← hlocs] at hS ⊢
  have hL132 : ∀ (k68 : Int32 → Nat → Int32 → Int32 → Int32 → ST → Option (Int32 × ST)) (hk68 : (∀ (v4 : Int32) (o5 : Nat) (ho5 : 9 ≤ o5 ∧ o5 < 13) (v6 : Int32) (v7 : Int32) (v8 : Int32) (s0 : ST) (H : Heap) (locs : List Loc) (ls : Array Slot), k68 v4 o5 v6 v7 v8 s0 = some (r, σ') → va_P D vwCl (wG NX eX a cy s0) H → va_S A s.heap H locs → lv_has ls 10 [(0, .ref (a 0)), (4, .int v4), (5, .ref (a o5)), (6, .int v6), (7, .int v7), (8, .int v8)] → W p l e (rmk 3 65) s m args below meth c H locs 0 0 (MQ below (QI NX eX a cy D A r σ') args s 0 0 A) (F0 m 68 ls []))), (∀ (v4 : Int32) (o5 : Nat) (ho5 : 9 ≤ o5 ∧ o5 < 13) (v6 : Int32) (v7 : Int32) (v8 : Int32) (s0 : ST) (H : Heap) (locs : List Loc) (ls : Array Slot), f_X9_guardsBy_L132 k68 v4 o5 v6 v7 v8 s0 = some (r, σ') → va_P D vwCl (wG NX eX a cy s0) H → va_S A s.heap H locs → lv_has ls 10 [(0, .ref (a 0)), (4, .int v4), (5, .ref (a o5)), (6, .int v6), (7, .int v7), (8, .int v8)] → W p l e (rmk 3 65) s m args below meth c H locs 0 0 (MQ below (QI NX eX a cy D A r σ') args s 0 0 A) (F0 m 132 ls [])) := by
    intro k68 hk68 v4 o5 ho5 v6 v7 v8 s0 H locs ls hf hP hS hl
    obtain ⟨y1, ey1, hf⟩ := jlet_e hf
    refine lv_iinc (v := y1) (lv' := [(7, .int y1), (0, .ref (a 0)), (4, .int v4), (5, .ref (a o5)), (6, .int v6), (8, .int v8)]) hx hb dX9_guardsBy_132 hl (k := 4) rfl ey1 (by decide) rfl (fun ls hl => ?_)
    obtain ⟨y2, ey2, hf⟩ := jlet_e hf
    refine lv_iinc (v := y2) (lv' := [(8, .int y2), (7, .int y1), (0, .ref (a 0)), (4, .int v4), (5, .ref (a o5)), (6, .int v6)]) hx hb dX9_guardsBy_135 hl (k := 5) rfl ey2 (by decide) rfl (fun ls hl => ?_)
    refine lv_goto (tgt := 68) hx hb dX9_guardsBy_138 (by decide) ?_
    exact hk68 v4 o5 ho5 v6 y1 y2 s0 H locs ls hf hP hS (lv_sub hl [2, 3, 4, 5, 1, 0] rfl)
  have hL68 : ∀ (n : Nat), (∀ (v4 : Int32) (o5 : Nat) (ho5 : 9 ≤ o5 ∧ o5 < 13) (v6 : Int32) (v7 : Int32) (v8 : Int32) (s0 : ST) (H : Heap) (locs : List Loc) (ls : Array Slot), f_X9_guardsBy_L68 n v4 o5 v6 v7 v8 s0 = some (r, σ') → va_P D vwCl (wG NX eX a cy s0) H → va_S A s.heap H locs → lv_has ls 10 [(0, .ref (a 0)), (4, .int v4), (5, .ref (a o5)), (6, .int v6), (7, .int v7), (8, .int v8)] → W p l e (rmk 3 65) s m args below meth c H locs 0 0 (MQ below (QI NX eX a cy D A r σ') args s 0 0 A) (F0 m 68 ls [])) := by
    intro n
    induction n with
    | zero => intro v4 o5 ho5 v6 v7 v8 s0 H locs ls hf hP hS hl; exact no_o hf
    | succ n ih =>
      intro v4 o5 ho5 v6 v7 v8 s0 H locs ls hf hP hS hl
      have hf := (ef_X9_guardsBy_L68 _ _ _ _ _ _).symm.trans hf
      refine lv_iload hx hb dX9_guardsBy_68 (lv_at hl 5 rfl) ?_
      refine lv_iload hx hb dX9_guardsBy_70 (lv_at hl 1 rfl) ?_
      refine lv_icmp_ge (tgt := 141) hx hb dX9_guardsBy_72 (by decide) (fun hc => ?_) (fun hc => ?_)
      · have hf := jif_t hc hf
        refine lv_iload hx hb dX9_guardsBy_141 (lv_at hl 3 rfl) ?_
        exact ret_i C hP hS (Prod.mk.inj (Option.some.inj hf)).1 (Prod.mk.inj (Option.some.inj hf)).2 dX9_guardsBy_143
      · have hf := jif_f hc hf
        refine lv_aload hx hb dX9_guardsBy_75 (lv_at hl 2 rfl) ?_
        refine lv_iload hx hb dX9_guardsBy_77 (lv_at hl 4 rfl) ?_
        refine lv_iconst (v := (4 : Int32)) hx hb dX9_guardsBy_79 (by decide) ?_
        refine r_cz (r_runV (As := [.int v7, .int (4 : Int32)]) (rest := []) C hP hS (va_recv C.hK hP (q0 := o5) (ci := 5) rfl (by rw [g_at (oX_5 ho5).1, (oX_5 ho5).2])) (k_X5_hasRoom (l := l) O (σ := s0) ho5 rfl) mw_X5_hasRoom mi_X5_hasRoom mv_X5_hasRoom wk_4_120 ⟨Nat.le_of_ble_eq_true rfl, Nat.le_of_ble_eq_true rfl⟩ ⟨rfl, rfl⟩ ⟨Nat.zero_le _, Nat.zero_le _⟩ rfl hl.1 rfl (Nat.le_of_ble_eq_true rfl) dX9_guardsBy_80) hS (fun H locs hzy1 hP hS => ?_)
        refine jl_topz hf hzy1 (fun y1 hzy1 hf => ?_)
        refine lv_if_ne (tgt := 89) hx hb dX9_guardsBy_83 (by decide) (fun hc => ?_) (fun hc => ?_)
        · have hf := jif_t hc hf
          refine lv_aload hx hb dX9_guardsBy_89 (lv_at hl 2 rfl) ?_
          refine gf_X5_2 ho5 C hP wk_2_30 dX9_guardsBy_91 ?_
          refine jl_ref hf (show 54 ≤ (o5 + 45) ∧ (o5 + 45) < 58 by omega) (fun q3 hq3 hf => ?_)
          refine lv_astore (lv' := [(9, .ref (a q3)), (0, .ref (a 0)), (4, .int v4), (5, .ref (a o5)), (6, .int v6), (7, .int v7), (8, .int v8)]) hx hb dX9_guardsBy_94 hl (by decide) rfl (fun ls hl => ?_)
          refine lv_aload_n hx hb dX9_guardsBy_96 rfl (lv_at hl 1 rfl) ?_
          refine lv_aload hx hb dX9_guardsBy_97 (lv_at hl 0 rfl) ?_
          refine lv_iload hx hb dX9_guardsBy_99 (lv_at hl 5 rfl) ?_
          obtain ⟨hi4, hf⟩ := jix_e hf
          refine r_iald C hP (fX_54 hq3) hi4 dX9_guardsBy_101 ?_
          refine lv_aload hx hb dX9_guardsBy_102 (lv_at hl 0 rfl) ?_
          refine lv_iload hx hb dX9_guardsBy_104 (lv_at hl 5 rfl) ?_
          refine lv_iconst (v := (1 : Int32)) hx hb dX9_guardsBy_106 (by decide) ?_
          refine lv_iadd hx hb dX9_guardsBy_107 ?_
          obtain ⟨hi5, hf⟩ := jix_e hf
          refine r_iald C hP (fX_54 hq3) hi5 dX9_guardsBy_108 ?_
          refine lv_aload hx hb dX9_guardsBy_109 (lv_at hl 0 rfl) ?_
          refine lv_iload hx hb dX9_guardsBy_111 (lv_at hl 5 rfl) ?_
          refine lv_iconst (v := (2 : Int32)) hx hb dX9_guardsBy_113 (by decide) ?_
          refine lv_iadd hx hb dX9_guardsBy_114 ?_
          obtain ⟨hi6, hf⟩ := jix_e hf
          refine r_iald C hP (fX_54 hq3) hi6 dX9_guardsBy_115 ?_
          refine lv_aload hx hb dX9_guardsBy_116 (lv_at hl 0 rfl) ?_
          refine lv_iload hx hb dX9_guardsBy_118 (lv_at hl 5 rfl) ?_
          refine lv_iconst (v := (3 : Int32)) hx hb dX9_guardsBy_120 (by decide) ?_
          refine lv_iadd hx hb dX9_guardsBy_121 ?_
          obtain ⟨hi7, hf⟩ := jix_e hf
          refine r_iald C hP (fX_54 hq3) hi7 dX9_guardsBy_122 ?_
          obtain ⟨y8, s9, hc, hf⟩ := jbp_e hf
          refine r_ci (r_runV (As := [.int (gA s0 q3 (Int32.toNatClampNeg v7)), .int (gA s0 q3 (Int32.toNatClampNeg (v7 + (1 : Int32)))), .int (gA s0 q3 (Int32.toNatClampNeg (v7 + (2 : Int32)))), .int (gA s0 q3 (Int32.toNatClampNeg (v7 + (3 : Int32))))]) (rest := []) C hP hS (va_recv C.hK hP (q0 := 0) (ci := 9) rfl (by rw [g_at oX_9.1, oX_9.2])) (k_X9_guard (l := l) O hc) mw_X9_guard mi_X9_guard mv_X9_guard wk_4_129 ⟨Nat.le_of_ble_eq_true rfl, Nat.le_of_ble_eq_true rfl⟩ ⟨rfl, rfl⟩ ⟨Nat.zero_le _, Nat.zero_le _⟩ rfl hl.1 rfl (Nat.le_of_ble_eq_true rfl) dX9_guardsBy_123) hS (fun H locs hP hS => ?_)
          refine lv_if_lt (tgt := 132) hx hb dX9_guardsBy_126 (by decide) (fun hc => ?_) (fun hc => ?_)
          · have hf := jif_t hc hf
            exact hL132 (f_X9_guardsBy_L68 n) ih v4 o5 ho5 v6 v7 v8 s9 H locs ls hf hP hS (lv_sub hl [1, 2, 3, 4, 5, 6] rfl)
          · have hf := jif_f hc hf
            obtain ⟨y10, ey10, hf⟩ := jlet_e hf
            refine lv_iinc (v := y10) (lv' := [(6, .int y10), (9, .ref (a q3)), (0, .ref (a 0)), (4, .int v4), (5, .ref (a o5)), (7, .int v7), (8, .int v8)]) hx hb dX9_guardsBy_129 hl (k := 4) rfl ey10 (by decide) rfl (fun ls hl => ?_)
            exact hL132 (f_X9_guardsBy_L68 n) ih v4 o5 ho5 y10 v7 v8 s9 H locs ls hf hP hS (lv_sub hl [2, 3, 4, 0, 5, 6] rfl)
        · have hf := jif_n hc hf
          refine lv_bipush (v := (-12 : Int32)) hx hb dX9_guardsBy_86 (by decide) ?_
          exact ret_i C hP hS (Prod.mk.inj (Option.some.inj hf)).1 (Prod.mk.inj (Option.some.inj hf)).2 dX9_guardsBy_88
  refine lv_iload_n hx hb dX9_guardsBy_0 rfl (lv_at hl 1 rfl) ?_
  refine r_cz (r_runS (As := [.int x1]) (rest := []) C hP hS (k_X9_isSheet (l := l) O (σ := σ) rfl) mw_X9_isSheet ms_X9_isSheet wk_4_40 ⟨Nat.le_of_ble_eq_true rfl, Nat.le_of_ble_eq_true rfl⟩ ⟨rfl, rfl⟩ ⟨Nat.zero_le _, Nat.zero_le _⟩ rfl hl.1 rfl (Nat.le_of_ble_eq_true rfl) dX9_guardsBy_1) hS (fun H locs hzy1 hP hS => ?_)
  refine jl_topz hf hzy1 (fun y1 hzy1 hf => ?_)
  refine lv_if_eq (tgt := 24) hx hb dX9_guardsBy_4 (by decide) (fun hc => ?_) (fun hc => ?_)
  · have hf := jif_t hc hf
    refine lv_bipush (v := (-2 : Int32)) hx hb dX9_guardsBy_24 (by decide) ?_
    exact ret_i C hP hS (Prod.mk.inj (Option.some.inj hf)).1 (Prod.mk.inj (Option.some.inj hf)).2 dX9_guardsBy_26
  · have hf := jif_f hc hf
    refine lv_iload_n hx hb dX9_guardsBy_7 rfl (lv_at hl 2 rfl) ?_
    refine lv_iconst (v := (2 : Int32)) hx hb dX9_guardsBy_8 (by decide) ?_
    refine r_cz (r_runS (As := [.int x2, .int (2 : Int32)]) (rest := []) C hP hS (k_X9_isWithin (l := l) O (σ := σ) rfl) mw_X9_isWithin ms_X9_isWithin wk_2_215 ⟨Nat.le_of_ble_eq_true rfl, Nat.le_of_ble_eq_true rfl⟩ ⟨rfl, rfl⟩ ⟨Nat.zero_le _, Nat.zero_le _⟩ rfl hl.1 rfl (Nat.le_of_ble_eq_true rfl) dX9_guardsBy_9) hS (fun H locs hzy3 hP hS => ?_)
    refine jl_topz hf hzy3 (fun y3 hzy3 hf => ?_)
    refine lv_if_eq (tgt := 24) hx hb dX9_guardsBy_12 (by decide) (fun hc => ?_) (fun hc => ?_)
    · have hf := jif_t hc hf
      refine lv_bipush (v := (-2 : Int32)) hx hb dX9_guardsBy_24 (by decide) ?_
      exact ret_i C hP hS (Prod.mk.inj (Option.some.inj hf)).1 (Prod.mk.inj (Option.some.inj hf)).2 dX9_guardsBy_26
    · have hf := jif_f hc hf
      refine lv_iload hx hb dX9_guardsBy_15 (lv_at hl 4 rfl) ?_
      refine lv_iconst (v := (5 : Int32)) hx hb dX9_guardsBy_17 (by decide) ?_
      refine r_cz (r_runS (As := [.int x4, .int (5 : Int32)]) (rest := []) C hP hS (k_X9_isWithin (l := l) O (σ := σ) rfl) mw_X9_isWithin ms_X9_isWithin wk_2_215 ⟨Nat.le_of_ble_eq_true rfl, Nat.le_of_ble_eq_true rfl⟩ ⟨rfl, rfl⟩ ⟨Nat.zero_le _, Nat.zero_le _⟩ rfl hl.1 rfl (Nat.le_of_ble_eq_true rfl) dX9_guardsBy_18) hS (fun H locs hzy5 hP hS => ?_)
      refine jl_topz hf hzy5 (fun y5 hzy5 hf => ?_)
      refine lv_if_ne (tgt := 27) hx hb dX9_guardsBy_21 (by decide) (fun hc => ?_) (fun hc => ?_)
      · have hf := jif_t hc hf
        refine lv_aload_n hx hb dX9_guardsBy_27 rfl (lv_at hl 0 rfl) ?_
        refine gf_X9_8 C hP wk_2_187 dX9_guardsBy_28 ?_
        refine lv_iload_n hx hb dX9_guardsBy_31 rfl (lv_at hl 1 rfl) ?_
        obtain ⟨hi7, hf⟩ := jix_e hf
        refine r_qald C hP aX_13 rfl rfl hi7 dX9_guardsBy_32 ?_
        refine jl_ref hf (show 9 ≤ 9 + (Int32.toNatClampNeg x1) ∧ 9 + (Int32.toNatClampNeg x1) < 13 by have := vp_lt hi7; omega) (fun q8 hq8 hf => ?_)
        refine lv_astore (lv' := [(5, .ref (a q8)), (0, .ref (a 0)), (1, .int x1), (2, .int x2), (3, .int x3), (4, .int x4)]) hx hb dX9_guardsBy_33 hl (by decide) rfl (fun ls hl => ?_)
        refine lv_aload hx hb dX9_guardsBy_35 (lv_at hl 0 rfl) ?_
        refine gf_X5_0 hq8 C hP wk_2_26 dX9_guardsBy_37 ?_
        refine lv_iconst (v := (-1 : Int32)) hx hb dX9_guardsBy_40 (by decide) ?_
        refine lv_icmp_ne (tgt := 47) hx hb dX9_guardsBy_41 (by decide) (fun hc => ?_) (fun hc => ?_)
        · have hf := jif_t hc hf
          refine lv_aload hx hb dX9_guardsBy_47 (lv_at hl 0 rfl) ?_
          refine gf_X5_0 hq8 C hP wk_2_26 dX9_guardsBy_49 ?_
          refine lv_iload_n hx hb dX9_guardsBy_52 rfl (lv_at hl 3 rfl) ?_
          refine lv_icmp_eq (tgt := 59) hx hb dX9_guardsBy_53 (by decide) (fun hc => ?_) (fun hc => ?_)
          · have hf := jif_t hc hf
            refine lv_iconst (v := (0 : Int32)) hx hb dX9_guardsBy_59 (by decide) ?_
            refine lv_istore (lv' := [(6, .int (0 : Int32)), (5, .ref (a q8)), (0, .ref (a 0)), (1, .int x1), (2, .int x2), (3, .int x3), (4, .int x4)]) hx hb dX9_guardsBy_60 hl (by decide) rfl (fun ls hl => ?_)
            refine lv_iload_n hx hb dX9_guardsBy_62 rfl (lv_at hl 5 rfl) ?_
            refine lv_istore (lv' := [(7, .int x3), (6, .int (0 : Int32)), (5, .ref (a q8)), (0, .ref (a 0)), (1, .int x1), (2, .int x2), (3, .int x3), (4, .int x4)]) hx hb dX9_guardsBy_63 hl (by decide) rfl (fun ls hl => ?_)
            refine lv_iconst (v := (0 : Int32)) hx hb dX9_guardsBy_65 (by decide) ?_
            refine lv_istore (lv' := [(8, .int (0 : Int32)), (7, .int x3), (6, .int (0 : Int32)), (5, .ref (a q8)), (0, .ref (a 0)), (1, .int x1), (2, .int x2), (3, .int x3), (4, .int x4)]) hx hb dX9_guardsBy_66 hl (by decide) rfl (fun ls hl => ?_)
            exact hL68 FU x4 q8 hq8 (0 : Int32) x3 (0 : Int32) σ H locs ls hf hP hS (lv_sub hl [4, 8, 3, 2, 1, 0] rfl)
          · have hf := jif_f hc hf
            refine lv_bipush (v := (-13 : Int32)) hx hb dX9_guardsBy_56 (by decide) ?_
            exact ret_i C hP hS (Prod.mk.inj (Option.some.inj hf)).1 (Prod.mk.inj (Option.some.inj hf)).2 dX9_guardsBy_58
        · have hf := jif_n hc hf
          refine lv_bipush (v := (-11 : Int32)) hx hb dX9_guardsBy_44 (by decide) ?_
          exact ret_i C hP hS (Prod.mk.inj (Option.some.inj hf)).1 (Prod.mk.inj (Option.some.inj hf)).2 dX9_guardsBy_46
      · have hf := jif_n hc hf
        refine lv_bipush (v := (-2 : Int32)) hx hb dX9_guardsBy_24 (by decide) ?_
        exact ret_i C hP hS (Prod.mk.inj (Option.some.inj hf)).1 (Prod.mk.inj (Option.some.inj hf)).2 dX9_guardsBy_26
set_option maxHeartbeats 4000000 in
set_option maxRecDepth 100000 in
theorem k_X9_taken {l : Launch} {a : Nat → Nat} {cy : Nat → ClassId} {D : va_G} {ad : Nat → Nat} {A : Nat → Prop} (O : WO NX a (EHX ad A) A) {x1 : Int32} {x2 : Int32} {r : Int32} {σ : ST} (hf : f_X9_taken x1 x2 σ = some r) : Met l yX9_taken (Cond.code yX9_taken cX9_taken 4 (some .int) :: WS) (rmk 2 45) (PC [.ref (a 0), .int x1, .int x2] NX eX a cy D (EHX ad A) σ) (QI NX eX a cy D A r σ) 0 0 A := by
  refine met_go (own := "GuardsLookLeft") O (by decide +kernel) rfl (Nat.le_of_ble_eq_true rfl) ?_
  intro p e s m args below meth c ls C hP hS hl
  have hx := C.hx
  have hb := C.hb
  have hl : lv_has ls 4 [(0, .ref (a 0)), (1, .int x1), (2, .int x2)] := hl
  obtain ⟨H, hH⟩ : ∃ H, H = s.heap := ⟨_, rfl⟩
  rw [← hH] at hP
  have hS : va_S A s.heap H [] := by rw [hH]; exact va_S.rf
  suffices g : W p l e (rmk 2 45) s m args below meth c H [] 0 0 (MQ below (QI NX eX a cy D A r σ) args s 0 0 A) (F0 m 0 ls []) by rw [hH] at g; exact g
  clear hH
  obtain ⟨locs, hlocs⟩ : ∃ z : List Loc, z = [] := ⟨_, rfl⟩
  rw [← hlocs] at hS ⊢
  have hL70 : (∀ (v1 : Int32) (v2 : Int32) (v3 : Int32) (H : Heap) (locs : List Loc) (ls : Array Slot), f_X9_taken_L70 v1 v2 v3 σ = some r → va_P D vwCl (wG NX eX a cy σ) H → va_S A s.heap H locs → lv_has ls 4 [(0, .ref (a 0)), (1, .int v1), (2, .int v2), (3, .int v3)] → W p l e (rmk 2 45) s m args below meth c H locs 0 0 (MQ below (QI NX eX a cy D A r σ) args s 0 0 A) (F0 m 70 ls [])) := by
    intro v1 v2 v3 H locs ls hf hP hS hl
    refine lv_iload_n hx hb dX9_taken_70 rfl (lv_at hl 1 rfl) ?_
    refine lv_bipush (v := (36 : Int32)) hx hb dX9_taken_71 (by decide) ?_
    refine lv_icmp_ge (tgt := 88) hx hb dX9_taken_73 (by decide) (fun hc => ?_) (fun hc => ?_)
    · have hf := jif_t hc hf
      refine lv_iload_n hx hb dX9_taken_88 rfl (lv_at hl 2 rfl) ?_
      refine lv_iconst (v := (5 : Int32)) hx hb dX9_taken_89 (by decide) ?_
      refine lv_icmp_gt (tgt := 115) hx hb dX9_taken_90 (by decide) (fun hc => ?_) (fun hc => ?_)
      · have hf := jif_t hc hf
        refine lv_bipush (v := (-13 : Int32)) hx hb dX9_taken_115 (by decide) ?_
        exact ret_i C hP hS (Option.some.inj hf) rfl dX9_taken_117
      · have hf := jif_f hc hf
        refine lv_aload_n hx hb dX9_taken_93 rfl (lv_at hl 0 rfl) ?_
        refine gf_X9_1 C hP wk_2_180 dX9_taken_94 ?_
        refine lv_iload_n hx hb dX9_taken_97 rfl (lv_at hl 1 rfl) ?_
        refine lv_bipush (v := (36 : Int32)) hx hb dX9_taken_98 (by decide) ?_
        refine lv_isub hx hb dX9_taken_100 ?_
        refine lv_iload_n hx hb dX9_taken_101 rfl (lv_at hl 2 rfl) ?_
        obtain ⟨y1, hc, hf⟩ := jb_e hf
        refine r_cz (r_runV (As := [.int (v1 - (36 : Int32)), .int v2]) (rest := []) C hP hS (va_recv C.hK hP (q0 := 2) (ci := 1) rfl (by rw [g_at oX_1.1, oX_1.2])) (k_X1_isOf (l := l) O (σ := σ) hc) mw_X1_isOf mi_X1_isOf mv_X1_isOf wk_4_138 ⟨Nat.le_of_ble_eq_true rfl, Nat.le_of_ble_eq_true rfl⟩ ⟨rfl, rfl⟩ ⟨Nat.zero_le _, Nat.zero_le _⟩ rfl hl.1 rfl (Nat.le_of_ble_eq_true rfl) dX9_taken_102) hS (fun H locs hzy1 hP hS => ?_)
        refine lv_if_eq (tgt := 115) hx hb dX9_taken_105 (by decide) (fun hc => ?_) (fun hc => ?_)
        · have hf := jif_t hc hf
          refine lv_bipush (v := (-13 : Int32)) hx hb dX9_taken_115 (by decide) ?_
          exact ret_i C hP hS (Option.some.inj hf) rfl dX9_taken_117
        · have hf := jif_f hc hf
          refine lv_iload_n hx hb dX9_taken_108 rfl (lv_at hl 1 rfl) ?_
          refine lv_bipush (v := (36 : Int32)) hx hb dX9_taken_109 (by decide) ?_
          refine lv_isub hx hb dX9_taken_111 ?_
          refine lv_goto (tgt := 117) hx hb dX9_taken_112 (by decide) ?_
          exact ret_i C hP hS (Option.some.inj hf) rfl dX9_taken_117
    · have hf := jif_f hc hf
      refine lv_iload_n hx hb dX9_taken_76 rfl (lv_at hl 2 rfl) ?_
      refine lv_iconst (v := (5 : Int32)) hx hb dX9_taken_77 (by decide) ?_
      refine lv_icmp_le (tgt := 85) hx hb dX9_taken_78 (by decide) (fun hc => ?_) (fun hc => ?_)
      · have hf := jif_t hc hf
        refine lv_bipush (v := (-13 : Int32)) hx hb dX9_taken_85 (by decide) ?_
        exact ret_i C hP hS (Option.some.inj hf) rfl dX9_taken_87
      · have hf := jif_f hc hf
        refine lv_iload_n hx hb dX9_taken_81 rfl (lv_at hl 3 rfl) ?_
        refine lv_goto (tgt := 87) hx hb dX9_taken_82 (by decide) ?_
        exact ret_i C hP hS (Option.some.inj hf) rfl dX9_taken_87
  have hL42 : (∀ (v1 : Int32) (v2 : Int32) (t0 : Int32) (H : Heap) (locs : List Loc) (ls : Array Slot), f_X9_taken_L42 v1 v2 t0 σ = some r → va_P D vwCl (wG NX eX a cy σ) H → va_S A s.heap H locs → lv_has ls 4 [(0, .ref (a 0)), (1, .int v1), (2, .int v2)] → W p l e (rmk 2 45) s m args below meth c H locs 0 0 (MQ below (QI NX eX a cy D A r σ) args s 0 0 A) (F0 m 42 ls [.int t0])) := by
    intro v1 v2 t0 H locs ls hf hP hS hl
    refine lv_istore_n (lv' := [(3, .int t0), (0, .ref (a 0)), (1, .int v1), (2, .int v2)]) hx hb dX9_taken_42 rfl hl (by decide) rfl (fun ls hl => ?_)
    refine lv_iload_n hx hb dX9_taken_43 rfl (lv_at hl 2 rfl) ?_
    refine lv_bipush (v := (36 : Int32)) hx hb dX9_taken_44 (by decide) ?_
    refine lv_icmp_ge (tgt := 56) hx hb dX9_taken_46 (by decide) (fun hc => ?_) (fun hc => ?_)
    · have hf := jif_t hc hf
      refine lv_aload_n hx hb dX9_taken_56 rfl (lv_at hl 1 rfl) ?_
      refine lv_iload_n hx hb dX9_taken_57 rfl (lv_at hl 2 rfl) ?_
      refine lv_bipush (v := (36 : Int32)) hx hb dX9_taken_58 (by decide) ?_
      refine lv_isub hx hb dX9_taken_60 ?_
      refine r_cz (r_runV (As := [.int (v1 - (36 : Int32))]) (rest := []) C hP hS (va_recv C.hK hP (q0 := 0) (ci := 9) rfl (by rw [g_at oX_9.1, oX_9.2])) (k_X9_isGuard (l := l) O (σ := σ) rfl) mw_X9_isGuard mi_X9_isGuard mv_X9_isGuard wk_3_67 ⟨Nat.le_of_ble_eq_true rfl, Nat.le_of_ble_eq_true rfl⟩ ⟨rfl, rfl⟩ ⟨Nat.zero_le _, Nat.zero_le _⟩ rfl hl.1 rfl (Nat.le_of_ble_eq_true rfl) dX9_taken_61) hS (fun H locs hzy1 hP hS => ?_)
      refine jl_topz hf hzy1 (fun y1 hzy1 hf => ?_)
      refine lv_if_ne (tgt := 70) hx hb dX9_taken_64 (by decide) (fun hc => ?_) (fun hc => ?_)
      · have hf := jif_t hc hf
        exact hL70 v1 v2 t0 H locs ls hf hP hS (lv_sub hl [1, 2, 3, 0] rfl)
      · have hf := jif_n hc hf
        refine lv_bipush (v := (-11 : Int32)) hx hb dX9_taken_67 (by decide) ?_
        exact ret_i C hP hS (Option.some.inj hf) rfl dX9_taken_69
    · have hf := jif_f hc hf
      refine lv_iload_n hx hb dX9_taken_49 rfl (lv_at hl 0 rfl) ?_
      refine lv_if_ne (tgt := 70) hx hb dX9_taken_50 (by decide) (fun hc => ?_) (fun hc => ?_)
      · have hf := jif_t hc hf
        exact hL70 v1 v2 t0 H locs ls hf hP hS (lv_sub hl [1, 2, 3, 0] rfl)
      · have hf := jif_n hc hf
        refine lv_goto (tgt := 67) hx hb dX9_taken_53 (by decide) ?_
        refine lv_bipush (v := (-11 : Int32)) hx hb dX9_taken_67 (by decide) ?_
        exact ret_i C hP hS (Option.some.inj hf) rfl dX9_taken_69
  refine lv_iload_n hx hb dX9_taken_0 rfl (lv_at hl 2 rfl) ?_
  refine lv_bipush (v := (6 : Int32)) hx hb dX9_taken_1 (by decide) ?_
  refine r_cz (r_runS (As := [.int x2, .int (6 : Int32)]) (rest := []) C hP hS (k_X9_isWithin (l := l) O (σ := σ) rfl) mw_X9_isWithin ms_X9_isWithin wk_2_215 ⟨Nat.le_of_ble_eq_true rfl, Nat.le_of_ble_eq_true rfl⟩ ⟨rfl, rfl⟩ ⟨Nat.zero_le _, Nat.zero_le _⟩ rfl hl.1 rfl (Nat.le_of_ble_eq_true rfl) dX9_taken_3) hS (fun H locs hzy1 hP hS => ?_)
  refine jl_topz hf hzy1 (fun y1 hzy1 hf => ?_)
  refine lv_if_ne (tgt := 12) hx hb dX9_taken_6 (by decide) (fun hc => ?_) (fun hc => ?_)
  · have hf := jif_t hc hf
    refine lv_iload_n hx hb dX9_taken_12 rfl (lv_at hl 1 rfl) ?_
    refine lv_bipush (v := (40 : Int32)) hx hb dX9_taken_13 (by decide) ?_
    refine r_cz (r_runS (As := [.int x1, .int (40 : Int32)]) (rest := []) C hP hS (k_X9_isWithin (l := l) O (σ := σ) rfl) mw_X9_isWithin ms_X9_isWithin wk_2_215 ⟨Nat.le_of_ble_eq_true rfl, Nat.le_of_ble_eq_true rfl⟩ ⟨rfl, rfl⟩ ⟨Nat.zero_le _, Nat.zero_le _⟩ rfl hl.1 rfl (Nat.le_of_ble_eq_true rfl) dX9_taken_15) hS (fun H locs hzy3 hP hS => ?_)
    refine jl_topz hf hzy3 (fun y3 hzy3 hf => ?_)
    refine lv_if_ne (tgt := 24) hx hb dX9_taken_18 (by decide) (fun hc => ?_) (fun hc => ?_)
    · have hf := jif_t hc hf
      refine lv_iload_n hx hb dX9_taken_24 rfl (lv_at hl 1 rfl) ?_
      refine lv_bipush (v := (36 : Int32)) hx hb dX9_taken_25 (by decide) ?_
      refine lv_icmp_ge (tgt := 41) hx hb dX9_taken_27 (by decide) (fun hc => ?_) (fun hc => ?_)
      · have hf := jif_t hc hf
        refine lv_iconst (v := (0 : Int32)) hx hb dX9_taken_41 (by decide) ?_
        exact hL42 x1 x2 (0 : Int32) H locs ls hf hP hS (lv_sub hl [0, 1, 2] rfl)
      · have hf := jif_f hc hf
        refine lv_aload_n hx hb dX9_taken_30 rfl (lv_at hl 0 rfl) ?_
        refine gf_X9_0 C hP wk_2_179 dX9_taken_31 ?_
        refine lv_iload_n hx hb dX9_taken_34 rfl (lv_at hl 1 rfl) ?_
        obtain ⟨y5, hc, hf⟩ := jb_e hf
        refine r_ci (r_runV (As := [.int x1]) (rest := []) C hP hS (va_recv C.hK hP (q0 := 1) (ci := 3) rfl (by rw [g_at oX_3.1, oX_3.2])) (k_X3_lying (l := l) O (σ := σ) hc) mw_X3_lying mi_X3_lying mv_X3_lying wk_4_134 ⟨Nat.le_of_ble_eq_true rfl, Nat.le_of_ble_eq_true rfl⟩ ⟨rfl, rfl⟩ ⟨Nat.zero_le _, Nat.zero_le _⟩ rfl hl.1 rfl (Nat.le_of_ble_eq_true rfl) dX9_taken_35) hS (fun H locs hP hS => ?_)
        refine lv_goto (tgt := 42) hx hb dX9_taken_38 (by decide) ?_
        exact hL42 x1 x2 y5 H locs ls hf hP hS (lv_sub hl [0, 1, 2] rfl)
    · have hf := jif_n hc hf
      refine lv_bipush (v := (-12 : Int32)) hx hb dX9_taken_21 (by decide) ?_
      exact ret_i C hP hS (Option.some.inj hf) rfl dX9_taken_23
  · have hf := jif_n hc hf
    refine lv_bipush (v := (-2 : Int32)) hx hb dX9_taken_9 (by decide) ?_
    exact ret_i C hP hS (Option.some.inj hf) rfl dX9_taken_11
