set_option maxHeartbeats 4000000 in
set_option maxRecDepth 100000 in
theorem k_X4_add {l : Launch} {a : Nat → Nat} {cy : Nat → ClassId} {D : va_G} {ad : Nat → Nat} {A : Nat → Prop} (O : WO NX a (EHX ad A) A) {x1 : Int32} {σ : ST} {σ' : ST} (hf : f_X4_add x1 σ = some σ') : Met l yX4_add (Cond.code yX4_add cX4_add 2 none :: WS) (rmk 0 0) (PC [.ref (a 3), .int x1] NX eX a cy D (EHX ad A) σ) (QV NX eX a cy D A σ') 0 0 A := by
  refine met_go (own := "GuardsLookLeft$Reader") O (by decide +kernel) rfl (Nat.le_of_ble_eq_true rfl) ?_
  intro p e s m args below meth c ls C hP hS hl
  have hx := C.hx
  have hb := C.hb
  have hl : lv_has ls 2 [(0, .ref (a 3)), (1, .int x1)] := hl
  obtain ⟨H, hH⟩ : ∃ H, H = s.heap := ⟨_, rfl⟩
  rw [← hH] at hP
  have hS : va_S A s.heap H [] := by rw [hH]; exact va_S.rf
  suffices g : W p l e (rmk 0 0) s m args below meth c H [] 0 0 (MQ below (QV NX eX a cy D A σ') args s 0 0 A) (F0 m 0 ls []) by rw [hH] at g; exact g
  clear hH
  obtain ⟨locs, hlocs⟩ : ∃ z : List Loc, z = [] := ⟨_, rfl⟩
  rw [← hlocs] at hS ⊢
  refine lv_aload_n hx hb dX4_add_0 rfl (lv_at hl 0 rfl) ?_
  refine gf_X4_1 C hP wk_1_108 dX4_add_1 ?_
  refine lv_sipush (v := (160 : Int32)) hx hb dX4_add_4 (by decide) ?_
  refine lv_icmp_ge (tgt := 27) hx hb dX4_add_7 (by decide) (fun hc => ?_) (fun hc => ?_)
  · have hf := jif_t hc hf
    exact ret_v C hP hS (Option.some.inj hf) dX4_add_27
  · have hf := jif_f hc hf
    refine lv_aload_n hx hb dX4_add_10 rfl (lv_at hl 0 rfl) ?_
    refine gf_X4_0 C hP wk_1_106 dX4_add_11 ?_
    refine lv_aload_n hx hb dX4_add_14 rfl (lv_at hl 0 rfl) ?_
    refine lv_dup hx hb dX4_add_15 rfl ?_
    refine gf_X4_1 C hP wk_1_108 dX4_add_16 ?_
    refine lv_dup_x1 hx hb dX4_add_19 rfl rfl ?_
    refine lv_iconst (v := (1 : Int32)) hx hb dX4_add_20 (by decide) ?_
    refine lv_iadd hx hb dX4_add_21 ?_
    refine pf_X4_1 C hP hS wk_1_108 dX4_add_22 hf (fun H locs s1 hf hP hS => ?_)
    refine lv_iload_n hx hb dX4_add_25 rfl (lv_at hl 1 rfl) ?_
    obtain ⟨hi2, hf⟩ := jix_e hf
    refine r_iast C hP hS aX_21 hi2 dX4_add_26 hf (fun H locs s3 hf hP hS => ?_)
    exact ret_v C hP hS (Option.some.inj hf) dX4_add_27
set_option maxHeartbeats 4000000 in
set_option maxRecDepth 100000 in
theorem k_X4_isLetter {l : Launch} {a : Nat → Nat} {cy : Nat → ClassId} {D : va_G} {ad : Nat → Nat} {A : Nat → Prop} (O : WO NX a (EHX ad A) A) {x1 : Int32} {r : Int32} {σ : ST} (hf : f_X4_isLetter x1 = r) : Met l yX4_isLetter (Cond.code yX4_isLetter cX4_isLetter 1 (some .boolean) :: WS) (rmk 0 0) (PC [.int x1] NX eX a cy D (EHX ad A) σ) (QZ NX eX a cy D A r σ) 0 0 A := by
  refine met_go (own := "GuardsLookLeft$Reader") O (by decide +kernel) rfl (Nat.le_of_ble_eq_true rfl) ?_
  intro p e s m args below meth c ls C hP hS hl
  have hx := C.hx
  have hb := C.hb
  have hl : lv_has ls 1 [(0, .int x1)] := hl
  obtain ⟨H, hH⟩ : ∃ H, H = s.heap := ⟨_, rfl⟩
  rw [← hH] at hP
  have hS : va_S A s.heap H [] := by rw [hH]; exact va_S.rf
  suffices g : W p l e (rmk 0 0) s m args below meth c H [] 0 0 (MQ below (QZ NX eX a cy D A r σ) args s 0 0 A) (F0 m 0 ls []) by rw [hH] at g; exact g
  clear hH
  obtain ⟨locs, hlocs⟩ : ∃ z : List Loc, z = [] := ⟨_, rfl⟩
  rw [← hlocs] at hS ⊢
  refine lv_iload_n hx hb dX4_isLetter_0 rfl (lv_at hl 0 rfl) ?_
  refine lv_bipush (v := (97 : Int32)) hx hb dX4_isLetter_1 (by decide) ?_
  refine lv_icmp_lt (tgt := 16) hx hb dX4_isLetter_3 (by decide) (fun hc => ?_) (fun hc => ?_)
  · have hf := jif_t hc hf
    refine lv_iconst (v := (0 : Int32)) hx hb dX4_isLetter_16 (by decide) ?_
    exact ret_z C hP hS bz_0 hf rfl dX4_isLetter_17
  · have hf := jif_f hc hf
    refine lv_iload_n hx hb dX4_isLetter_6 rfl (lv_at hl 0 rfl) ?_
    refine lv_bipush (v := (122 : Int32)) hx hb dX4_isLetter_7 (by decide) ?_
    refine lv_icmp_gt (tgt := 16) hx hb dX4_isLetter_9 (by decide) (fun hc => ?_) (fun hc => ?_)
    · have hf := jif_t hc hf
      refine lv_iconst (v := (0 : Int32)) hx hb dX4_isLetter_16 (by decide) ?_
      exact ret_z C hP hS bz_0 hf rfl dX4_isLetter_17
    · have hf := jif_f hc hf
      refine lv_iconst (v := (1 : Int32)) hx hb dX4_isLetter_12 (by decide) ?_
      refine lv_goto (tgt := 17) hx hb dX4_isLetter_13 (by decide) ?_
      exact ret_z C hP hS bz_1 hf rfl dX4_isLetter_17
set_option maxHeartbeats 4000000 in
set_option maxRecDepth 100000 in
theorem k_X4_isWord {l : Launch} {a : Nat → Nat} {cy : Nat → ClassId} {D : va_G} {ad : Nat → Nat} {A : Nat → Prop} (O : WO NX a (EHX ad A) A) {o1 : Nat} {r : Int32} {σ : ST} (ho1 : o1 < 13) (hf : f_X4_isWord o1 σ = some r) : Met l yX4_isWord (Cond.code yX4_isWord cX4_isWord 3 (some .boolean) :: WS) (rmk 7 221) (PC [.ref (a 3), .ref (ad o1)] NX eX a cy D (EHX ad A) σ) (QZ NX eX a cy D A r σ) 0 0 A := by
  refine met_go (own := "GuardsLookLeft$Reader") O (by decide +kernel) rfl (Nat.le_of_ble_eq_true rfl) ?_
  intro p e s m args below meth c ls C hP hS hl
  have hx := C.hx
  have hb := C.hb
  have hl : lv_has ls 3 [(0, .ref (a 3)), (1, .ref (ad o1))] := hl
  obtain ⟨H, hH⟩ : ∃ H, H = s.heap := ⟨_, rfl⟩
  rw [← hH] at hP
  have hS : va_S A s.heap H [] := by rw [hH]; exact va_S.rf
  suffices g : W p l e (rmk 7 221) s m args below meth c H [] 0 0 (MQ below (QZ NX eX a cy D A r σ) args s 0 0 A) (F0 m 0 ls []) by rw [hH] at g; exact g
  clear hH
  obtain ⟨locs, hlocs⟩ : ∃ z : List Loc, z = [] := ⟨_, rfl⟩
  rw [← hlocs] at hS ⊢
  have hL20 : ∀ (n : Nat), (∀ (o1 : Nat) (ho1 : o1 < 13) (v2 : Int32) (H : Heap) (locs : List Loc) (ls : Array Slot), f_X4_isWord_L20 n o1 v2 σ = some r → va_P D vwCl (wG NX eX a cy σ) H → va_S A s.heap H locs → lv_has ls 3 [(0, .ref (a 3)), (1, .ref (ad o1)), (2, .int v2)] → W p l e (rmk 7 221) s m args below meth c H locs 0 0 (MQ below (QZ NX eX a cy D A r σ) args s 0 0 A) (F0 m 20 ls [])) := by
    intro n
    induction n with
    | zero => intro o1 ho1 v2 H locs ls hf hP hS hl; exact no_o hf
    | succ n ih =>
      intro o1 ho1 v2 H locs ls hf hP hS hl
      have hf := (ef_X4_isWord_L20 _ _ _).symm.trans hf
      refine lv_iload_n hx hb dX4_isWord_20 rfl (lv_at hl 2 rfl) ?_
      refine lv_aload_n hx hb dX4_isWord_21 rfl (lv_at hl 1 rfl) ?_
      refine r_ci (r_runV (As := []) (rest := [.int v2]) C hP hS (vk_recv C.hV.2.1 (i := o1) ho1 hS) (kJ_length (l := l) O (σ := σ) ho1) mw_J0_length_8abf5 mi_J0_length_8abf5 mv_J0_length_8abf5 wk_2_115 ⟨Nat.le_of_ble_eq_true rfl, Nat.le_of_ble_eq_true rfl⟩ ⟨rfl, rfl⟩ ⟨Nat.zero_le _, Nat.zero_le _⟩ rfl hl.1 rfl (Nat.le_of_ble_eq_true rfl) dX4_isWord_22) hS (fun H locs hP hS => ?_)
      refine jl_topi hf (fun y1 hf => ?_)
      refine lv_icmp_ge (tgt := 55) hx hb dX4_isWord_25 (by decide) (fun hc => ?_) (fun hc => ?_)
      · have hf := jif_t hc hf
        refine lv_iconst (v := (1 : Int32)) hx hb dX4_isWord_55 (by decide) ?_
        exact ret_z C hP hS bz_1 (Option.some.inj hf) rfl dX4_isWord_56
      · have hf := jif_f hc hf
        refine lv_aload_n hx hb dX4_isWord_28 rfl (lv_at hl 0 rfl) ?_
        refine gf_X4_0 C hP wk_1_106 dX4_isWord_29 ?_
        refine lv_aload_n hx hb dX4_isWord_32 rfl (lv_at hl 0 rfl) ?_
        refine gf_X4_5 C hP wk_1_114 dX4_isWord_33 ?_
        refine lv_iload_n hx hb dX4_isWord_36 rfl (lv_at hl 2 rfl) ?_
        refine lv_iadd hx hb dX4_isWord_37 ?_
        obtain ⟨hi3, hf⟩ := jix_e hf
        refine r_iald C hP aX_21 hi3 dX4_isWord_38 ?_
        refine lv_aload_n hx hb dX4_isWord_39 rfl (lv_at hl 1 rfl) ?_
        refine lv_iload_n hx hb dX4_isWord_40 rfl (lv_at hl 2 rfl) ?_
        obtain ⟨y4, hc, hf⟩ := jb_e hf
        refine r_ci (r_runV (As := [.int v2]) (rest := [.int (gA σ 21 (Int32.toNatClampNeg ((gA σ 3 5) + v2)))]) C hP hS (vk_recv C.hV.2.1 (i := o1) ho1 hS) (kJ_charAt (l := l) O (σ := σ) ho1 hc) mw_J0_charAt_5068e mi_J0_charAt_5068e mv_J0_charAt_5068e wk_2_116 ⟨Nat.le_of_ble_eq_true rfl, Nat.le_of_ble_eq_true rfl⟩ ⟨rfl, rfl⟩ ⟨Nat.zero_le _, Nat.zero_le _⟩ rfl hl.1 rfl (Nat.le_of_ble_eq_true rfl) dX4_isWord_41) hS (fun H locs hP hS => ?_)
        refine lv_icmp_eq (tgt := 49) hx hb dX4_isWord_44 (by decide) (fun hc => ?_) (fun hc => ?_)
        · have hf := jif_t hc hf
          obtain ⟨y6, ey6, hf⟩ := jlet_e hf
          refine lv_iinc (v := y6) (lv' := [(2, .int y6), (0, .ref (a 3)), (1, .ref (ad o1))]) hx hb dX4_isWord_49 hl (k := 2) rfl ey6 (by decide) rfl (fun ls hl => ?_)
          refine lv_goto (tgt := 20) hx hb dX4_isWord_52 (by decide) ?_
          exact ih o1 ho1 y6 H locs ls hf hP hS (lv_sub hl [1, 2, 0] rfl)
        · have hf := jif_f hc hf
          refine lv_iconst (v := (0 : Int32)) hx hb dX4_isWord_47 (by decide) ?_
          exact ret_z C hP hS bz_0 (Option.some.inj hf) rfl dX4_isWord_48
  refine lv_aload_n hx hb dX4_isWord_0 rfl (lv_at hl 1 rfl) ?_
  refine r_ci (r_runV (As := []) (rest := []) C hP hS (vk_recv C.hV.2.1 (i := o1) ho1 hS) (kJ_length (l := l) O (σ := σ) ho1) mw_J0_length_8abf5 mi_J0_length_8abf5 mv_J0_length_8abf5 wk_2_115 ⟨Nat.le_of_ble_eq_true rfl, Nat.le_of_ble_eq_true rfl⟩ ⟨rfl, rfl⟩ ⟨Nat.zero_le _, Nat.zero_le _⟩ rfl hl.1 rfl (Nat.le_of_ble_eq_true rfl) dX4_isWord_1) hS (fun H locs hP hS => ?_)
  refine jl_topi hf (fun y1 hf => ?_)
  refine lv_aload_n hx hb dX4_isWord_4 rfl (lv_at hl 0 rfl) ?_
  refine gf_X4_6 C hP wk_1_115 dX4_isWord_5 ?_
  refine lv_aload_n hx hb dX4_isWord_8 rfl (lv_at hl 0 rfl) ?_
  refine gf_X4_5 C hP wk_1_114 dX4_isWord_9 ?_
  refine lv_isub hx hb dX4_isWord_12 ?_
  refine lv_icmp_eq (tgt := 18) hx hb dX4_isWord_13 (by decide) (fun hc => ?_) (fun hc => ?_)
  · have hf := jif_t hc hf
    refine lv_iconst (v := (0 : Int32)) hx hb dX4_isWord_18 (by decide) ?_
    refine lv_istore_n (lv' := [(2, .int (0 : Int32)), (0, .ref (a 3)), (1, .ref (ad o1))]) hx hb dX4_isWord_19 rfl hl (by decide) rfl (fun ls hl => ?_)
    exact hL20 FU o1 ho1 (0 : Int32) H locs ls hf hP hS (lv_sub hl [1, 2, 0] rfl)
  · have hf := jif_f hc hf
    refine lv_iconst (v := (0 : Int32)) hx hb dX4_isWord_16 (by decide) ?_
    exact ret_z C hP hS bz_0 (Option.some.inj hf) rfl dX4_isWord_17
set_option maxHeartbeats 4000000 in
set_option maxRecDepth 100000 in
theorem k_X4_nameAtHand {l : Launch} {a : Nat → Nat} {cy : Nat → ClassId} {D : va_G} {ad : Nat → Nat} {A : Nat → Prop} (O : WO NX a (EHX ad A) A) {r : Int32} {σ : ST} (hf : f_X4_nameAtHand σ = some r) : Met l yX4_nameAtHand (Cond.code yX4_nameAtHand cX4_nameAtHand 1 (some .int) :: WS) (rmk 8 243) (PC [.ref (a 3)] NX eX a cy D (EHX ad A) σ) (QI NX eX a cy D A r σ) 0 0 A := by
  refine met_go (own := "GuardsLookLeft$Reader") O (by decide +kernel) rfl (Nat.le_of_ble_eq_true rfl) ?_
  intro p e s m args below meth c ls C hP hS hl
  have hx := C.hx
  have hb := C.hb
  have hl : lv_has ls 1 [(0, .ref (a 3))] := hl
  obtain ⟨H, hH⟩ : ∃ H, H = s.heap := ⟨_, rfl⟩
  rw [← hH] at hP
  have hS : va_S A s.heap H [] := by rw [hH]; exact va_S.rf
  suffices g : W p l e (rmk 8 243) s m args below meth c H [] 0 0 (MQ below (QI NX eX a cy D A r σ) args s 0 0 A) (F0 m 0 ls []) by rw [hH] at g; exact g
  clear hH
  obtain ⟨locs, hlocs⟩ : ∃ z : List Loc, z = [] := ⟨_, rfl⟩
  rw [← hlocs] at hS ⊢
  refine lv_aload_n hx hb dX4_nameAtHand_0 rfl (lv_at hl 0 rfl) ?_
  refine va_ldcS hx hb C.hown (C.hV.2.2.1 1 (by decide)) dX4_nameAtHand_1 ?_
  obtain ⟨y1, hc, hf⟩ := jb_e hf
  refine r_cz (r_runV (As := [.ref (ad 1)]) (rest := []) C hP hS (va_recv C.hK hP (q0 := 3) (ci := 4) rfl (by rw [g_at oX_4.1, oX_4.2])) (k_X4_isWord (l := l) O (σ := σ) (by decide) hc) mw_X4_isWord mi_X4_isWord mv_X4_isWord wk_2_111 ⟨Nat.le_of_ble_eq_true rfl, Nat.le_of_ble_eq_true rfl⟩ ⟨rfl, rfl⟩ ⟨Nat.zero_le _, Nat.zero_le _⟩ rfl hl.1 rfl (Nat.le_of_ble_eq_true rfl) dX4_nameAtHand_3) hS (fun H locs hzy1 hP hS => ?_)
  refine lv_if_eq (tgt := 13) hx hb dX4_nameAtHand_6 (by decide) (fun hc => ?_) (fun hc => ?_)
  · have hf := jif_t hc hf
    refine lv_aload_n hx hb dX4_nameAtHand_13 rfl (lv_at hl 0 rfl) ?_
    refine va_ldcS hx hb C.hown (C.hV.2.2.1 2 (by decide)) dX4_nameAtHand_14 ?_
    obtain ⟨y3, hc, hf⟩ := jb_e hf
    refine r_cz (r_runV (As := [.ref (ad 2)]) (rest := []) C hP hS (va_recv C.hK hP (q0 := 3) (ci := 4) rfl (by rw [g_at oX_4.1, oX_4.2])) (k_X4_isWord (l := l) O (σ := σ) (by decide) hc) mw_X4_isWord mi_X4_isWord mv_X4_isWord wk_2_111 ⟨Nat.le_of_ble_eq_true rfl, Nat.le_of_ble_eq_true rfl⟩ ⟨rfl, rfl⟩ ⟨Nat.zero_le _, Nat.zero_le _⟩ rfl hl.1 rfl (Nat.le_of_ble_eq_true rfl) dX4_nameAtHand_16) hS (fun H locs hzy3 hP hS => ?_)
    refine lv_if_eq (tgt := 26) hx hb dX4_nameAtHand_19 (by decide) (fun hc => ?_) (fun hc => ?_)
    · have hf := jif_t hc hf
      refine lv_aload_n hx hb dX4_nameAtHand_26 rfl (lv_at hl 0 rfl) ?_
      refine va_ldcS hx hb C.hown (C.hV.2.2.1 3 (by decide)) dX4_nameAtHand_27 ?_
      obtain ⟨y5, hc, hf⟩ := jb_e hf
      refine r_cz (r_runV (As := [.ref (ad 3)]) (rest := []) C hP hS (va_recv C.hK hP (q0 := 3) (ci := 4) rfl (by rw [g_at oX_4.1, oX_4.2])) (k_X4_isWord (l := l) O (σ := σ) (by decide) hc) mw_X4_isWord mi_X4_isWord mv_X4_isWord wk_2_111 ⟨Nat.le_of_ble_eq_true rfl, Nat.le_of_ble_eq_true rfl⟩ ⟨rfl, rfl⟩ ⟨Nat.zero_le _, Nat.zero_le _⟩ rfl hl.1 rfl (Nat.le_of_ble_eq_true rfl) dX4_nameAtHand_29) hS (fun H locs hzy5 hP hS => ?_)
      refine lv_if_eq (tgt := 39) hx hb dX4_nameAtHand_32 (by decide) (fun hc => ?_) (fun hc => ?_)
      · have hf := jif_t hc hf
        refine lv_aload_n hx hb dX4_nameAtHand_39 rfl (lv_at hl 0 rfl) ?_
        refine va_ldcS hx hb C.hown (C.hV.2.2.1 4 (by decide)) dX4_nameAtHand_40 ?_
        obtain ⟨y7, hc, hf⟩ := jb_e hf
        refine r_cz (r_runV (As := [.ref (ad 4)]) (rest := []) C hP hS (va_recv C.hK hP (q0 := 3) (ci := 4) rfl (by rw [g_at oX_4.1, oX_4.2])) (k_X4_isWord (l := l) O (σ := σ) (by decide) hc) mw_X4_isWord mi_X4_isWord mv_X4_isWord wk_2_111 ⟨Nat.le_of_ble_eq_true rfl, Nat.le_of_ble_eq_true rfl⟩ ⟨rfl, rfl⟩ ⟨Nat.zero_le _, Nat.zero_le _⟩ rfl hl.1 rfl (Nat.le_of_ble_eq_true rfl) dX4_nameAtHand_42) hS (fun H locs hzy7 hP hS => ?_)
        refine lv_if_eq (tgt := 52) hx hb dX4_nameAtHand_45 (by decide) (fun hc => ?_) (fun hc => ?_)
        · have hf := jif_t hc hf
          refine lv_aload_n hx hb dX4_nameAtHand_52 rfl (lv_at hl 0 rfl) ?_
          refine va_ldcS hx hb C.hown (C.hV.2.2.1 5 (by decide)) dX4_nameAtHand_53 ?_
          obtain ⟨y9, hc, hf⟩ := jb_e hf
          refine r_cz (r_runV (As := [.ref (ad 5)]) (rest := []) C hP hS (va_recv C.hK hP (q0 := 3) (ci := 4) rfl (by rw [g_at oX_4.1, oX_4.2])) (k_X4_isWord (l := l) O (σ := σ) (by decide) hc) mw_X4_isWord mi_X4_isWord mv_X4_isWord wk_2_111 ⟨Nat.le_of_ble_eq_true rfl, Nat.le_of_ble_eq_true rfl⟩ ⟨rfl, rfl⟩ ⟨Nat.zero_le _, Nat.zero_le _⟩ rfl hl.1 rfl (Nat.le_of_ble_eq_true rfl) dX4_nameAtHand_55) hS (fun H locs hzy9 hP hS => ?_)
          refine lv_if_eq (tgt := 65) hx hb dX4_nameAtHand_58 (by decide) (fun hc => ?_) (fun hc => ?_)
          · have hf := jif_t hc hf
            refine lv_aload_n hx hb dX4_nameAtHand_65 rfl (lv_at hl 0 rfl) ?_
            refine va_ldcS hx hb C.hown (C.hV.2.2.1 6 (by decide)) dX4_nameAtHand_66 ?_
            obtain ⟨y11, hc, hf⟩ := jb_e hf
            refine r_cz (r_runV (As := [.ref (ad 6)]) (rest := []) C hP hS (va_recv C.hK hP (q0 := 3) (ci := 4) rfl (by rw [g_at oX_4.1, oX_4.2])) (k_X4_isWord (l := l) O (σ := σ) (by decide) hc) mw_X4_isWord mi_X4_isWord mv_X4_isWord wk_2_111 ⟨Nat.le_of_ble_eq_true rfl, Nat.le_of_ble_eq_true rfl⟩ ⟨rfl, rfl⟩ ⟨Nat.zero_le _, Nat.zero_le _⟩ rfl hl.1 rfl (Nat.le_of_ble_eq_true rfl) dX4_nameAtHand_68) hS (fun H locs hzy11 hP hS => ?_)
            refine lv_if_eq (tgt := 78) hx hb dX4_nameAtHand_71 (by decide) (fun hc => ?_) (fun hc => ?_)
            · have hf := jif_t hc hf
              refine lv_iconst (v := (-1 : Int32)) hx hb dX4_nameAtHand_78 (by decide) ?_
              exact ret_i C hP hS (Option.some.inj hf) rfl dX4_nameAtHand_79
            · have hf := jif_f hc hf
              refine lv_iconst (v := (5 : Int32)) hx hb dX4_nameAtHand_74 (by decide) ?_
              refine lv_goto (tgt := 79) hx hb dX4_nameAtHand_75 (by decide) ?_
              exact ret_i C hP hS (Option.some.inj hf) rfl dX4_nameAtHand_79
          · have hf := jif_f hc hf
            refine lv_iconst (v := (4 : Int32)) hx hb dX4_nameAtHand_61 (by decide) ?_
            refine lv_goto (tgt := 79) hx hb dX4_nameAtHand_62 (by decide) ?_
            exact ret_i C hP hS (Option.some.inj hf) rfl dX4_nameAtHand_79
        · have hf := jif_f hc hf
          refine lv_iconst (v := (3 : Int32)) hx hb dX4_nameAtHand_48 (by decide) ?_
          refine lv_goto (tgt := 79) hx hb dX4_nameAtHand_49 (by decide) ?_
          exact ret_i C hP hS (Option.some.inj hf) rfl dX4_nameAtHand_79
      · have hf := jif_f hc hf
        refine lv_iconst (v := (2 : Int32)) hx hb dX4_nameAtHand_35 (by decide) ?_
        refine lv_goto (tgt := 79) hx hb dX4_nameAtHand_36 (by decide) ?_
        exact ret_i C hP hS (Option.some.inj hf) rfl dX4_nameAtHand_79
    · have hf := jif_f hc hf
      refine lv_iconst (v := (1 : Int32)) hx hb dX4_nameAtHand_22 (by decide) ?_
      refine lv_goto (tgt := 79) hx hb dX4_nameAtHand_23 (by decide) ?_
      exact ret_i C hP hS (Option.some.inj hf) rfl dX4_nameAtHand_79
  · have hf := jif_f hc hf
    refine lv_iconst (v := (0 : Int32)) hx hb dX4_nameAtHand_9 (by decide) ?_
    refine lv_goto (tgt := 79) hx hb dX4_nameAtHand_10 (by decide) ?_
    exact ret_i C hP hS (Option.some.inj hf) rfl dX4_nameAtHand_79
set_option maxHeartbeats 4000000 in
set_option maxRecDepth 100000 in
theorem k_X4_keyAtHand {l : Launch} {a : Nat → Nat} {cy : Nat → ClassId} {D : va_G} {ad : Nat → Nat} {A : Nat → Prop} (O : WO NX a (EHX ad A) A) {r : Int32} {σ : ST} (hf : f_X4_keyAtHand σ = some r) : Met l yX4_keyAtHand (Cond.code yX4_keyAtHand cX4_keyAtHand 1 (some .int) :: WS) (rmk 8 243) (PC [.ref (a 3)] NX eX a cy D (EHX ad A) σ) (QI NX eX a cy D A r σ) 0 0 A := by
  refine met_go (own := "GuardsLookLeft$Reader") O (by decide +kernel) rfl (Nat.le_of_ble_eq_true rfl) ?_
  intro p e s m args below meth c ls C hP hS hl
  have hx := C.hx
  have hb := C.hb
  have hl : lv_has ls 1 [(0, .ref (a 3))] := hl
  obtain ⟨H, hH⟩ : ∃ H, H = s.heap := ⟨_, rfl⟩
  rw [← hH] at hP
  have hS : va_S A s.heap H [] := by rw [hH]; exact va_S.rf
  suffices g : W p l e (rmk 8 243) s m args below meth c H [] 0 0 (MQ below (QI NX eX a cy D A r σ) args s 0 0 A) (F0 m 0 ls []) by rw [hH] at g; exact g
  clear hH
  obtain ⟨locs, hlocs⟩ : ∃ z : List Loc, z = [] := ⟨_, rfl⟩
  rw [← hlocs] at hS ⊢
  refine lv_aload_n hx hb dX4_keyAtHand_0 rfl (lv_at hl 0 rfl) ?_
  refine va_ldcS hx hb C.hown (C.hV.2.2.1 7 (by decide)) dX4_keyAtHand_1 ?_
  obtain ⟨y1, hc, hf⟩ := jb_e hf
  refine r_cz (r_runV (As := [.ref (ad 7)]) (rest := []) C hP hS (va_recv C.hK hP (q0 := 3) (ci := 4) rfl (by rw [g_at oX_4.1, oX_4.2])) (k_X4_isWord (l := l) O (σ := σ) (by decide) hc) mw_X4_isWord mi_X4_isWord mv_X4_isWord wk_2_111 ⟨Nat.le_of_ble_eq_true rfl, Nat.le_of_ble_eq_true rfl⟩ ⟨rfl, rfl⟩ ⟨Nat.zero_le _, Nat.zero_le _⟩ rfl hl.1 rfl (Nat.le_of_ble_eq_true rfl) dX4_keyAtHand_3) hS (fun H locs hzy1 hP hS => ?_)
  refine lv_if_eq (tgt := 13) hx hb dX4_keyAtHand_6 (by decide) (fun hc => ?_) (fun hc => ?_)
  · have hf := jif_t hc hf
    refine lv_aload_n hx hb dX4_keyAtHand_13 rfl (lv_at hl 0 rfl) ?_
    refine va_ldcS hx hb C.hown (C.hV.2.2.1 8 (by decide)) dX4_keyAtHand_14 ?_
    obtain ⟨y3, hc, hf⟩ := jb_e hf
    refine r_cz (r_runV (As := [.ref (ad 8)]) (rest := []) C hP hS (va_recv C.hK hP (q0 := 3) (ci := 4) rfl (by rw [g_at oX_4.1, oX_4.2])) (k_X4_isWord (l := l) O (σ := σ) (by decide) hc) mw_X4_isWord mi_X4_isWord mv_X4_isWord wk_2_111 ⟨Nat.le_of_ble_eq_true rfl, Nat.le_of_ble_eq_true rfl⟩ ⟨rfl, rfl⟩ ⟨Nat.zero_le _, Nat.zero_le _⟩ rfl hl.1 rfl (Nat.le_of_ble_eq_true rfl) dX4_keyAtHand_16) hS (fun H locs hzy3 hP hS => ?_)
    refine lv_if_eq (tgt := 26) hx hb dX4_keyAtHand_19 (by decide) (fun hc => ?_) (fun hc => ?_)
    · have hf := jif_t hc hf
      refine lv_aload_n hx hb dX4_keyAtHand_26 rfl (lv_at hl 0 rfl) ?_
      refine va_ldcS hx hb C.hown (C.hV.2.2.1 9 (by decide)) dX4_keyAtHand_27 ?_
      obtain ⟨y5, hc, hf⟩ := jb_e hf
      refine r_cz (r_runV (As := [.ref (ad 9)]) (rest := []) C hP hS (va_recv C.hK hP (q0 := 3) (ci := 4) rfl (by rw [g_at oX_4.1, oX_4.2])) (k_X4_isWord (l := l) O (σ := σ) (by decide) hc) mw_X4_isWord mi_X4_isWord mv_X4_isWord wk_2_111 ⟨Nat.le_of_ble_eq_true rfl, Nat.le_of_ble_eq_true rfl⟩ ⟨rfl, rfl⟩ ⟨Nat.zero_le _, Nat.zero_le _⟩ rfl hl.1 rfl (Nat.le_of_ble_eq_true rfl) dX4_keyAtHand_29) hS (fun H locs hzy5 hP hS => ?_)
      refine lv_if_eq (tgt := 40) hx hb dX4_keyAtHand_32 (by decide) (fun hc => ?_) (fun hc => ?_)
      · have hf := jif_t hc hf
        refine lv_aload_n hx hb dX4_keyAtHand_40 rfl (lv_at hl 0 rfl) ?_
        refine va_ldcS hx hb C.hown (C.hV.2.2.1 10 (by decide)) dX4_keyAtHand_41 ?_
        obtain ⟨y7, hc, hf⟩ := jb_e hf
        refine r_cz (r_runV (As := [.ref (ad 10)]) (rest := []) C hP hS (va_recv C.hK hP (q0 := 3) (ci := 4) rfl (by rw [g_at oX_4.1, oX_4.2])) (k_X4_isWord (l := l) O (σ := σ) (by decide) hc) mw_X4_isWord mi_X4_isWord mv_X4_isWord wk_2_111 ⟨Nat.le_of_ble_eq_true rfl, Nat.le_of_ble_eq_true rfl⟩ ⟨rfl, rfl⟩ ⟨Nat.zero_le _, Nat.zero_le _⟩ rfl hl.1 rfl (Nat.le_of_ble_eq_true rfl) dX4_keyAtHand_43) hS (fun H locs hzy7 hP hS => ?_)
        refine lv_if_eq (tgt := 54) hx hb dX4_keyAtHand_46 (by decide) (fun hc => ?_) (fun hc => ?_)
        · have hf := jif_t hc hf
          refine lv_aload_n hx hb dX4_keyAtHand_54 rfl (lv_at hl 0 rfl) ?_
          refine va_ldcS hx hb C.hown (C.hV.2.2.1 11 (by decide)) dX4_keyAtHand_55 ?_
          obtain ⟨y9, hc, hf⟩ := jb_e hf
          refine r_cz (r_runV (As := [.ref (ad 11)]) (rest := []) C hP hS (va_recv C.hK hP (q0 := 3) (ci := 4) rfl (by rw [g_at oX_4.1, oX_4.2])) (k_X4_isWord (l := l) O (σ := σ) (by decide) hc) mw_X4_isWord mi_X4_isWord mv_X4_isWord wk_2_111 ⟨Nat.le_of_ble_eq_true rfl, Nat.le_of_ble_eq_true rfl⟩ ⟨rfl, rfl⟩ ⟨Nat.zero_le _, Nat.zero_le _⟩ rfl hl.1 rfl (Nat.le_of_ble_eq_true rfl) dX4_keyAtHand_57) hS (fun H locs hzy9 hP hS => ?_)
          refine lv_if_eq (tgt := 68) hx hb dX4_keyAtHand_60 (by decide) (fun hc => ?_) (fun hc => ?_)
          · have hf := jif_t hc hf
            refine lv_aload_n hx hb dX4_keyAtHand_68 rfl (lv_at hl 0 rfl) ?_
            refine va_ldcS hx hb C.hown (C.hV.2.2.1 12 (by decide)) dX4_keyAtHand_69 ?_
            obtain ⟨y11, hc, hf⟩ := jb_e hf
            refine r_cz (r_runV (As := [.ref (ad 12)]) (rest := []) C hP hS (va_recv C.hK hP (q0 := 3) (ci := 4) rfl (by rw [g_at oX_4.1, oX_4.2])) (k_X4_isWord (l := l) O (σ := σ) (by decide) hc) mw_X4_isWord mi_X4_isWord mv_X4_isWord wk_2_111 ⟨Nat.le_of_ble_eq_true rfl, Nat.le_of_ble_eq_true rfl⟩ ⟨rfl, rfl⟩ ⟨Nat.zero_le _, Nat.zero_le _⟩ rfl hl.1 rfl (Nat.le_of_ble_eq_true rfl) dX4_keyAtHand_71) hS (fun H locs hzy11 hP hS => ?_)
            refine lv_if_eq (tgt := 82) hx hb dX4_keyAtHand_74 (by decide) (fun hc => ?_) (fun hc => ?_)
            · have hf := jif_t hc hf
              refine lv_iconst (v := (1 : Int32)) hx hb dX4_keyAtHand_82 (by decide) ?_
              exact ret_i C hP hS (Option.some.inj hf) rfl dX4_keyAtHand_83
            · have hf := jif_f hc hf
              refine lv_bipush (v := (9 : Int32)) hx hb dX4_keyAtHand_77 (by decide) ?_
              refine lv_goto (tgt := 83) hx hb dX4_keyAtHand_79 (by decide) ?_
              exact ret_i C hP hS (Option.some.inj hf) rfl dX4_keyAtHand_83
          · have hf := jif_f hc hf
            refine lv_bipush (v := (8 : Int32)) hx hb dX4_keyAtHand_63 (by decide) ?_
            refine lv_goto (tgt := 83) hx hb dX4_keyAtHand_65 (by decide) ?_
            exact ret_i C hP hS (Option.some.inj hf) rfl dX4_keyAtHand_83
        · have hf := jif_f hc hf
          refine lv_bipush (v := (7 : Int32)) hx hb dX4_keyAtHand_49 (by decide) ?_
          refine lv_goto (tgt := 83) hx hb dX4_keyAtHand_51 (by decide) ?_
          exact ret_i C hP hS (Option.some.inj hf) rfl dX4_keyAtHand_83
      · have hf := jif_f hc hf
        refine lv_bipush (v := (6 : Int32)) hx hb dX4_keyAtHand_35 (by decide) ?_
        refine lv_goto (tgt := 83) hx hb dX4_keyAtHand_37 (by decide) ?_
        exact ret_i C hP hS (Option.some.inj hf) rfl dX4_keyAtHand_83
    · have hf := jif_f hc hf
      refine lv_iconst (v := (5 : Int32)) hx hb dX4_keyAtHand_22 (by decide) ?_
      refine lv_goto (tgt := 83) hx hb dX4_keyAtHand_23 (by decide) ?_
      exact ret_i C hP hS (Option.some.inj hf) rfl dX4_keyAtHand_83
  · have hf := jif_f hc hf
    refine lv_iconst (v := (4 : Int32)) hx hb dX4_keyAtHand_9 (by decide) ?_
    refine lv_goto (tgt := 83) hx hb dX4_keyAtHand_10 (by decide) ?_
    exact ret_i C hP hS (Option.some.inj hf) rfl dX4_keyAtHand_83
set_option maxHeartbeats 4000000 in
set_option maxRecDepth 100000 in
theorem k_X4_takeWord {l : Launch} {a : Nat → Nat} {cy : Nat → ClassId} {D : va_G} {ad : Nat → Nat} {A : Nat → Prop} (O : WO NX a (EHX ad A) A) {σ : ST} {σ' : ST} (hf : f_X4_takeWord σ = some σ') : Met l yX4_takeWord (Cond.code yX4_takeWord cX4_takeWord 2 none :: WS) (rmk 9 263) (PC [.ref (a 3)] NX eX a cy D (EHX ad A) σ) (QV NX eX a cy D A σ') 0 0 A := by
  refine met_go (own := "GuardsLookLeft$Reader") O (by decide +kernel) rfl (Nat.le_of_ble_eq_true rfl) ?_
  intro p e s m args below meth c ls C hP hS hl
  have hx := C.hx
  have hb := C.hb
  have hl : lv_has ls 2 [(0, .ref (a 3))] := hl
  obtain ⟨H, hH⟩ : ∃ H, H = s.heap := ⟨_, rfl⟩
  rw [← hH] at hP
  have hS : va_S A s.heap H [] := by rw [hH]; exact va_S.rf
  suffices g : W p l e (rmk 9 263) s m args below meth c H [] 0 0 (MQ below (QV NX eX a cy D A σ') args s 0 0 A) (F0 m 0 ls []) by rw [hH] at g; exact g
  clear hH
  obtain ⟨locs, hlocs⟩ : ∃ z : List Loc, z = [] := ⟨_, rfl⟩
  rw [← hlocs] at hS ⊢
  have hL58 : (∀ (v1 : Int32) (t1 : Int32) (s0 : ST) (H : Heap) (locs : List Loc) (ls : Array Slot), f_X4_takeWord_L58 v1 t1 s0 = some σ' → va_P D vwCl (wG NX eX a cy s0) H → va_S A s.heap H locs → lv_has ls 2 [(0, .ref (a 3)), (1, .int v1)] → W p l e (rmk 9 263) s m args below meth c H locs 0 0 (MQ below (QV NX eX a cy D A σ') args s 0 0 A) (F0 m 58 ls [.int t1, .ref (a 3)])) := by
    intro v1 t1 s0 H locs ls hf hP hS hl
    refine pf_X4_7 C hP hS wk_1_116 dX4_takeWord_58 hf (fun H locs s1 hf hP hS => ?_)
    refine lv_aload_n hx hb dX4_takeWord_61 rfl (lv_at hl 0 rfl) ?_
    refine lv_iconst (v := (-1 : Int32)) hx hb dX4_takeWord_62 (by decide) ?_
    refine lv_iload_n hx hb dX4_takeWord_63 rfl (lv_at hl 1 rfl) ?_
    refine lv_isub hx hb dX4_takeWord_64 ?_
    refine pf_X4_8 C hP hS wk_1_117 dX4_takeWord_65 hf (fun H locs s2 hf hP hS => ?_)
    exact ret_v C hP hS (Option.some.inj hf) dX4_takeWord_68
  have hL39 : (∀ (s0 : ST) (H : Heap) (locs : List Loc) (ls : Array Slot), f_X4_takeWord_L39 s0 = some σ' → va_P D vwCl (wG NX eX a cy s0) H → va_S A s.heap H locs → lv_has ls 2 [(0, .ref (a 3))] → W p l e (rmk 9 263) s m args below meth c H locs 0 0 (MQ below (QV NX eX a cy D A σ') args s 0 0 A) (F0 m 39 ls [])) := by
    intro s0 H locs ls hf hP hS hl
    refine lv_aload_n hx hb dX4_takeWord_39 rfl (lv_at hl 0 rfl) ?_
    obtain ⟨y1, hc, hf⟩ := jb_e hf
    refine r_ci (r_runV (As := []) (rest := []) C hP hS (va_recv C.hK hP (q0 := 3) (ci := 4) rfl (by rw [g_at oX_4.1, oX_4.2])) (k_X4_nameAtHand (l := l) O (σ := s0) hc) mw_X4_nameAtHand mi_X4_nameAtHand mv_X4_nameAtHand wk_2_106 ⟨Nat.le_of_ble_eq_true rfl, Nat.le_of_ble_eq_true rfl⟩ ⟨rfl, rfl⟩ ⟨Nat.zero_le _, Nat.zero_le _⟩ rfl hl.1 rfl (Nat.le_of_ble_eq_true rfl) dX4_takeWord_40) hS (fun H locs hP hS => ?_)
    refine lv_istore_n (lv' := [(1, .int y1), (0, .ref (a 3))]) hx hb dX4_takeWord_43 rfl hl (by decide) rfl (fun ls hl => ?_)
    refine lv_aload_n hx hb dX4_takeWord_44 rfl (lv_at hl 1 rfl) ?_
    refine lv_iload_n hx hb dX4_takeWord_45 rfl (lv_at hl 0 rfl) ?_
    refine lv_iconst (v := (-1 : Int32)) hx hb dX4_takeWord_46 (by decide) ?_
    refine lv_icmp_ne (tgt := 57) hx hb dX4_takeWord_47 (by decide) (fun hc => ?_) (fun hc => ?_)
    · have hf := jif_t hc hf
      refine lv_iconst (v := (3 : Int32)) hx hb dX4_takeWord_57 (by decide) ?_
      exact hL58 y1 (3 : Int32) s0 H locs ls hf hP hS (lv_sub hl [1, 0] rfl)
    · have hf := jif_n hc hf
      refine lv_aload_n hx hb dX4_takeWord_50 rfl (lv_at hl 1 rfl) ?_
      obtain ⟨y3, hc, hf⟩ := jb_e hf
      refine r_ci (r_runV (As := []) (rest := [.ref (a 3)]) C hP hS (va_recv C.hK hP (q0 := 3) (ci := 4) rfl (by rw [g_at oX_4.1, oX_4.2])) (k_X4_keyAtHand (l := l) O (σ := s0) hc) mw_X4_keyAtHand mi_X4_keyAtHand mv_X4_keyAtHand wk_2_122 ⟨Nat.le_of_ble_eq_true rfl, Nat.le_of_ble_eq_true rfl⟩ ⟨rfl, rfl⟩ ⟨Nat.zero_le _, Nat.zero_le _⟩ rfl hl.1 rfl (Nat.le_of_ble_eq_true rfl) dX4_takeWord_51) hS (fun H locs hP hS => ?_)
      refine lv_goto (tgt := 58) hx hb dX4_takeWord_54 (by decide) ?_
      exact hL58 y1 y3 s0 H locs ls hf hP hS (lv_sub hl [1, 0] rfl)
  have hL0 : ∀ (n : Nat), (∀ (s0 : ST) (H : Heap) (locs : List Loc) (ls : Array Slot), f_X4_takeWord_L0 n s0 = some σ' → va_P D vwCl (wG NX eX a cy s0) H → va_S A s.heap H locs → lv_has ls 2 [(0, .ref (a 3))] → W p l e (rmk 9 263) s m args below meth c H locs 0 0 (MQ below (QV NX eX a cy D A σ') args s 0 0 A) (F0 m 0 ls [])) := by
    intro n
    induction n with
    | zero => intro s0 H locs ls hf hP hS hl; exact no_o hf
    | succ n ih =>
      intro s0 H locs ls hf hP hS hl
      have hf := (ef_X4_takeWord_L0 _).symm.trans hf
      refine lv_aload_n hx hb dX4_takeWord_0 rfl (lv_at hl 0 rfl) ?_
      refine gf_X4_6 C hP wk_1_115 dX4_takeWord_1 ?_
      refine lv_aload_n hx hb dX4_takeWord_4 rfl (lv_at hl 0 rfl) ?_
      refine gf_X4_1 C hP wk_1_108 dX4_takeWord_5 ?_
      refine lv_icmp_ge (tgt := 39) hx hb dX4_takeWord_8 (by decide) (fun hc => ?_) (fun hc => ?_)
      · have hf := jif_t hc hf
        exact hL39 s0 H locs ls hf hP hS (lv_sub hl [0] rfl)
      · have hf := jif_f hc hf
        refine lv_aload_n hx hb dX4_takeWord_11 rfl (lv_at hl 0 rfl) ?_
        refine gf_X4_0 C hP wk_1_106 dX4_takeWord_12 ?_
        refine lv_aload_n hx hb dX4_takeWord_15 rfl (lv_at hl 0 rfl) ?_
        refine gf_X4_6 C hP wk_1_115 dX4_takeWord_16 ?_
        obtain ⟨hi1, hf⟩ := jix_e hf
        refine r_iald C hP aX_21 hi1 dX4_takeWord_19 ?_
        refine r_cz (r_runS (As := [.int (gA s0 21 (Int32.toNatClampNeg (gA s0 3 6)))]) (rest := []) C hP hS (k_X4_isLetter (l := l) O (σ := s0) rfl) mw_X4_isLetter ms_X4_isLetter wk_2_99 ⟨Nat.le_of_ble_eq_true rfl, Nat.le_of_ble_eq_true rfl⟩ ⟨rfl, rfl⟩ ⟨Nat.zero_le _, Nat.zero_le _⟩ rfl hl.1 rfl (Nat.le_of_ble_eq_true rfl) dX4_takeWord_20) hS (fun H locs hzy2 hP hS => ?_)
        refine jl_topz hf hzy2 (fun y2 hzy2 hf => ?_)
        refine lv_if_eq (tgt := 39) hx hb dX4_takeWord_23 (by decide) (fun hc => ?_) (fun hc => ?_)
        · have hf := jif_t hc hf
          exact hL39 s0 H locs ls hf hP hS (lv_sub hl [0] rfl)
        · have hf := jif_f hc hf
          refine lv_aload_n hx hb dX4_takeWord_26 rfl (lv_at hl 0 rfl) ?_
          refine lv_dup hx hb dX4_takeWord_27 rfl ?_
          refine gf_X4_6 C hP wk_1_115 dX4_takeWord_28 ?_
          refine lv_iconst (v := (1 : Int32)) hx hb dX4_takeWord_31 (by decide) ?_
          refine lv_iadd hx hb dX4_takeWord_32 ?_
          refine pf_X4_6 C hP hS wk_1_115 dX4_takeWord_33 hf (fun H locs s4 hf hP hS => ?_)
          refine lv_goto (tgt := 0) hx hb dX4_takeWord_36 (by decide) ?_
          exact ih s4 H locs ls hf hP hS (lv_sub hl [0] rfl)
  exact hL0 FU σ H locs ls hf hP hS (lv_sub hl [0] rfl)
set_option maxHeartbeats 4000000 in
set_option maxRecDepth 100000 in
theorem k_X4_isDigit {l : Launch} {a : Nat → Nat} {cy : Nat → ClassId} {D : va_G} {ad : Nat → Nat} {A : Nat → Prop} (O : WO NX a (EHX ad A) A) {x1 : Int32} {r : Int32} {σ : ST} (hf : f_X4_isDigit x1 = r) : Met l yX4_isDigit (Cond.code yX4_isDigit cX4_isDigit 1 (some .boolean) :: WS) (rmk 0 0) (PC [.int x1] NX eX a cy D (EHX ad A) σ) (QZ NX eX a cy D A r σ) 0 0 A := by
  refine met_go (own := "GuardsLookLeft$Reader") O (by decide +kernel) rfl (Nat.le_of_ble_eq_true rfl) ?_
  intro p e s m args below meth c ls C hP hS hl
  have hx := C.hx
  have hb := C.hb
  have hl : lv_has ls 1 [(0, .int x1)] := hl
  obtain ⟨H, hH⟩ : ∃ H, H = s.heap := ⟨_, rfl⟩
  rw [← hH] at hP
  have hS : va_S A s.heap H [] := by rw [hH]; exact va_S.rf
  suffices g : W p l e (rmk 0 0) s m args below meth c H [] 0 0 (MQ below (QZ NX eX a cy D A r σ) args s 0 0 A) (F0 m 0 ls []) by rw [hH] at g; exact g
  clear hH
  obtain ⟨locs, hlocs⟩ : ∃ z : List Loc, z = [] := ⟨_, rfl⟩
  rw [← hlocs] at hS ⊢
  refine lv_iload_n hx hb dX4_isDigit_0 rfl (lv_at hl 0 rfl) ?_
  refine lv_bipush (v := (48 : Int32)) hx hb dX4_isDigit_1 (by decide) ?_
  refine lv_icmp_lt (tgt := 16) hx hb dX4_isDigit_3 (by decide) (fun hc => ?_) (fun hc => ?_)
  · have hf := jif_t hc hf
    refine lv_iconst (v := (0 : Int32)) hx hb dX4_isDigit_16 (by decide) ?_
    exact ret_z C hP hS bz_0 hf rfl dX4_isDigit_17
  · have hf := jif_f hc hf
    refine lv_iload_n hx hb dX4_isDigit_6 rfl (lv_at hl 0 rfl) ?_
    refine lv_bipush (v := (57 : Int32)) hx hb dX4_isDigit_7 (by decide) ?_
    refine lv_icmp_gt (tgt := 16) hx hb dX4_isDigit_9 (by decide) (fun hc => ?_) (fun hc => ?_)
    · have hf := jif_t hc hf
      refine lv_iconst (v := (0 : Int32)) hx hb dX4_isDigit_16 (by decide) ?_
      exact ret_z C hP hS bz_0 hf rfl dX4_isDigit_17
    · have hf := jif_f hc hf
      refine lv_iconst (v := (1 : Int32)) hx hb dX4_isDigit_12 (by decide) ?_
      refine lv_goto (tgt := 17) hx hb dX4_isDigit_13 (by decide) ?_
      exact ret_z C hP hS bz_1 hf rfl dX4_isDigit_17
set_option maxHeartbeats 4000000 in
set_option maxRecDepth 100000 in
theorem k_X4_takeDigits {l : Launch} {a : Nat → Nat} {cy : Nat → ClassId} {D : va_G} {ad : Nat → Nat} {A : Nat → Prop} (O : WO NX a (EHX ad A) A) {σ : ST} {σ' : ST} (hf : f_X4_takeDigits σ = some σ') : Met l yX4_takeDigits (Cond.code yX4_takeDigits cX4_takeDigits 1 none :: WS) (rmk 1 20) (PC [.ref (a 3)] NX eX a cy D (EHX ad A) σ) (QV NX eX a cy D A σ') 0 0 A := by
  refine met_go (own := "GuardsLookLeft$Reader") O (by decide +kernel) rfl (Nat.le_of_ble_eq_true rfl) ?_
  intro p e s m args below meth c ls C hP hS hl
  have hx := C.hx
  have hb := C.hb
  have hl : lv_has ls 1 [(0, .ref (a 3))] := hl
  obtain ⟨H, hH⟩ : ∃ H, H = s.heap := ⟨_, rfl⟩
  rw [← hH] at hP
  have hS : va_S A s.heap H [] := by rw [hH]; exact va_S.rf
  suffices g : W p l e (rmk 1 20) s m args below meth c H [] 0 0 (MQ below (QV NX eX a cy D A σ') args s 0 0 A) (F0 m 0 ls []) by rw [hH] at g; exact g
  clear hH
  obtain ⟨locs, hlocs⟩ : ∃ z : List Loc, z = [] := ⟨_, rfl⟩
  rw [← hlocs] at hS ⊢
  have hL100 : (∀ (t1 : Int32) (s0 : ST) (H : Heap) (locs : List Loc) (ls : Array Slot), f_X4_takeDigits_L100 t1 s0 = some σ' → va_P D vwCl (wG NX eX a cy s0) H → va_S A s.heap H locs → lv_has ls 1 [] → W p l e (rmk 1 20) s m args below meth c H locs 0 0 (MQ below (QV NX eX a cy D A σ') args s 0 0 A) (F0 m 100 ls [.int t1, .ref (a 3)])) := by
    intro t1 s0 H locs ls hf hP hS hl
    refine pf_X4_7 C hP hS wk_1_116 dX4_takeDigits_100 hf (fun H locs s1 hf hP hS => ?_)
    exact ret_v C hP hS (Option.some.inj hf) dX4_takeDigits_103
  have hL81 : (∀ (s0 : ST) (H : Heap) (locs : List Loc) (ls : Array Slot), f_X4_takeDigits_L81 s0 = some σ' → va_P D vwCl (wG NX eX a cy s0) H → va_S A s.heap H locs → lv_has ls 1 [(0, .ref (a 3))] → W p l e (rmk 1 20) s m args below meth c H locs 0 0 (MQ below (QV NX eX a cy D A σ') args s 0 0 A) (F0 m 81 ls [])) := by
    intro s0 H locs ls hf hP hS hl
    refine lv_aload_n hx hb dX4_takeDigits_81 rfl (lv_at hl 0 rfl) ?_
    refine lv_aload_n hx hb dX4_takeDigits_82 rfl (lv_at hl 0 rfl) ?_
    refine gf_X4_6 C hP wk_1_115 dX4_takeDigits_83 ?_
    refine lv_aload_n hx hb dX4_takeDigits_86 rfl (lv_at hl 0 rfl) ?_
    refine gf_X4_5 C hP wk_1_114 dX4_takeDigits_87 ?_
    refine lv_isub hx hb dX4_takeDigits_90 ?_
    refine lv_iconst (v := (4 : Int32)) hx hb dX4_takeDigits_91 (by decide) ?_
    refine lv_icmp_le (tgt := 99) hx hb dX4_takeDigits_92 (by decide) (fun hc => ?_) (fun hc => ?_)
    · have hf := jif_t hc hf
      refine lv_iconst (v := (2 : Int32)) hx hb dX4_takeDigits_99 (by decide) ?_
      exact hL100 (2 : Int32) s0 H locs ls hf hP hS (lv_sub hl [] rfl)
    · have hf := jif_f hc hf
      refine lv_iconst (v := (1 : Int32)) hx hb dX4_takeDigits_95 (by decide) ?_
      refine lv_goto (tgt := 100) hx hb dX4_takeDigits_96 (by decide) ?_
      exact hL100 (1 : Int32) s0 H locs ls hf hP hS (lv_sub hl [] rfl)
  have hL68 : ∀ (k5 : ST → Option ST) (hk5 : (∀ (s0 : ST) (H : Heap) (locs : List Loc) (ls : Array Slot), k5 s0 = some σ' → va_P D vwCl (wG NX eX a cy s0) H → va_S A s.heap H locs → lv_has ls 1 [(0, .ref (a 3))] → W p l e (rmk 1 20) s m args below meth c H locs 0 0 (MQ below (QV NX eX a cy D A σ') args s 0 0 A) (F0 m 5 ls []))), (∀ (s0 : ST) (H : Heap) (locs : List Loc) (ls : Array Slot), f_X4_takeDigits_L68 k5 s0 = some σ' → va_P D vwCl (wG NX eX a cy s0) H → va_S A s.heap H locs → lv_has ls 1 [(0, .ref (a 3))] → W p l e (rmk 1 20) s m args below meth c H locs 0 0 (MQ below (QV NX eX a cy D A σ') args s 0 0 A) (F0 m 68 ls [])) := by
    intro k5 hk5 s0 H locs ls hf hP hS hl
    refine lv_aload_n hx hb dX4_takeDigits_68 rfl (lv_at hl 0 rfl) ?_
    refine lv_dup hx hb dX4_takeDigits_69 rfl ?_
    refine gf_X4_6 C hP wk_1_115 dX4_takeDigits_70 ?_
    refine lv_iconst (v := (1 : Int32)) hx hb dX4_takeDigits_73 (by decide) ?_
    refine lv_iadd hx hb dX4_takeDigits_74 ?_
    refine pf_X4_6 C hP hS wk_1_115 dX4_takeDigits_75 hf (fun H locs s1 hf hP hS => ?_)
    refine lv_goto (tgt := 5) hx hb dX4_takeDigits_78 (by decide) ?_
    exact hk5 s1 H locs ls hf hP hS (lv_sub hl [0] rfl)
  have hL5 : ∀ (n : Nat), (∀ (s0 : ST) (H : Heap) (locs : List Loc) (ls : Array Slot), f_X4_takeDigits_L5 n s0 = some σ' → va_P D vwCl (wG NX eX a cy s0) H → va_S A s.heap H locs → lv_has ls 1 [(0, .ref (a 3))] → W p l e (rmk 1 20) s m args below meth c H locs 0 0 (MQ below (QV NX eX a cy D A σ') args s 0 0 A) (F0 m 5 ls [])) := by
    intro n
    induction n with
    | zero => intro s0 H locs ls hf hP hS hl; exact no_o hf
    | succ n ih =>
      intro s0 H locs ls hf hP hS hl
      have hf := (ef_X4_takeDigits_L5 _).symm.trans hf
      refine lv_aload_n hx hb dX4_takeDigits_5 rfl (lv_at hl 0 rfl) ?_
      refine gf_X4_6 C hP wk_1_115 dX4_takeDigits_6 ?_
      refine lv_aload_n hx hb dX4_takeDigits_9 rfl (lv_at hl 0 rfl) ?_
      refine gf_X4_1 C hP wk_1_108 dX4_takeDigits_10 ?_
      refine lv_icmp_ge (tgt := 81) hx hb dX4_takeDigits_13 (by decide) (fun hc => ?_) (fun hc => ?_)
      · have hf := jif_t hc hf
        exact hL81 s0 H locs ls hf hP hS (lv_sub hl [0] rfl)
      · have hf := jif_f hc hf
        refine lv_aload_n hx hb dX4_takeDigits_16 rfl (lv_at hl 0 rfl) ?_
        refine gf_X4_0 C hP wk_1_106 dX4_takeDigits_17 ?_
        refine lv_aload_n hx hb dX4_takeDigits_20 rfl (lv_at hl 0 rfl) ?_
        refine gf_X4_6 C hP wk_1_115 dX4_takeDigits_21 ?_
        obtain ⟨hi1, hf⟩ := jix_e hf
        refine r_iald C hP aX_21 hi1 dX4_takeDigits_24 ?_
        refine r_cz (r_runS (As := [.int (gA s0 21 (Int32.toNatClampNeg (gA s0 3 6)))]) (rest := []) C hP hS (k_X4_isDigit (l := l) O (σ := s0) rfl) mw_X4_isDigit ms_X4_isDigit wk_2_132 ⟨Nat.le_of_ble_eq_true rfl, Nat.le_of_ble_eq_true rfl⟩ ⟨rfl, rfl⟩ ⟨Nat.zero_le _, Nat.zero_le _⟩ rfl hl.1 rfl (Nat.le_of_ble_eq_true rfl) dX4_takeDigits_25) hS (fun H locs hzy2 hP hS => ?_)
        refine jl_topz hf hzy2 (fun y2 hzy2 hf => ?_)
        refine lv_if_eq (tgt := 81) hx hb dX4_takeDigits_28 (by decide) (fun hc => ?_) (fun hc => ?_)
        · have hf := jif_t hc hf
          exact hL81 s0 H locs ls hf hP hS (lv_sub hl [0] rfl)
        · have hf := jif_f hc hf
          refine lv_aload_n hx hb dX4_takeDigits_31 rfl (lv_at hl 0 rfl) ?_
          refine gf_X4_6 C hP wk_1_115 dX4_takeDigits_32 ?_
          refine lv_aload_n hx hb dX4_takeDigits_35 rfl (lv_at hl 0 rfl) ?_
          refine gf_X4_5 C hP wk_1_114 dX4_takeDigits_36 ?_
          refine lv_isub hx hb dX4_takeDigits_39 ?_
          refine lv_iconst (v := (4 : Int32)) hx hb dX4_takeDigits_40 (by decide) ?_
          refine lv_icmp_ge (tgt := 68) hx hb dX4_takeDigits_41 (by decide) (fun hc => ?_) (fun hc => ?_)
          · have hf := jif_t hc hf
            exact hL68 (f_X4_takeDigits_L5 n) ih s0 H locs ls hf hP hS (lv_sub hl [0] rfl)
          · have hf := jif_f hc hf
            refine lv_aload_n hx hb dX4_takeDigits_44 rfl (lv_at hl 0 rfl) ?_
            refine lv_aload_n hx hb dX4_takeDigits_45 rfl (lv_at hl 0 rfl) ?_
            refine gf_X4_8 C hP wk_1_117 dX4_takeDigits_46 ?_
            refine lv_bipush (v := (10 : Int32)) hx hb dX4_takeDigits_49 (by decide) ?_
            refine lv_imul hx hb dX4_takeDigits_51 ?_
            refine lv_aload_n hx hb dX4_takeDigits_52 rfl (lv_at hl 0 rfl) ?_
            refine gf_X4_0 C hP wk_1_106 dX4_takeDigits_53 ?_
            refine lv_aload_n hx hb dX4_takeDigits_56 rfl (lv_at hl 0 rfl) ?_
            refine gf_X4_6 C hP wk_1_115 dX4_takeDigits_57 ?_
            obtain ⟨hi4, hf⟩ := jix_e hf
            refine r_iald C hP aX_21 hi4 dX4_takeDigits_60 ?_
            refine lv_iadd hx hb dX4_takeDigits_61 ?_
            refine lv_bipush (v := (48 : Int32)) hx hb dX4_takeDigits_62 (by decide) ?_
            refine lv_isub hx hb dX4_takeDigits_64 ?_
            refine pf_X4_8 C hP hS wk_1_117 dX4_takeDigits_65 hf (fun H locs s5 hf hP hS => ?_)
            exact hL68 (f_X4_takeDigits_L5 n) ih s5 H locs ls hf hP hS (lv_sub hl [0] rfl)
  refine lv_aload_n hx hb dX4_takeDigits_0 rfl (lv_at hl 0 rfl) ?_
  refine lv_iconst (v := (0 : Int32)) hx hb dX4_takeDigits_1 (by decide) ?_
  refine pf_X4_8 C hP hS wk_1_117 dX4_takeDigits_2 hf (fun H locs s1 hf hP hS => ?_)
  exact hL5 FU s1 H locs ls hf hP hS (lv_sub hl [0] rfl)
set_option maxHeartbeats 4000000 in
set_option maxRecDepth 100000 in
theorem k_X4_isSign {l : Launch} {a : Nat → Nat} {cy : Nat → ClassId} {D : va_G} {ad : Nat → Nat} {A : Nat → Prop} (O : WO NX a (EHX ad A) A) {x1 : Int32} {r : Int32} {σ : ST} (hf : f_X4_isSign x1 = r) : Met l yX4_isSign (Cond.code yX4_isSign cX4_isSign 1 (some .boolean) :: WS) (rmk 0 0) (PC [.int x1] NX eX a cy D (EHX ad A) σ) (QZ NX eX a cy D A r σ) 0 0 A := by
  refine met_go (own := "GuardsLookLeft$Reader") O (by decide +kernel) rfl (Nat.le_of_ble_eq_true rfl) ?_
  intro p e s m args below meth c ls C hP hS hl
  have hx := C.hx
  have hb := C.hb
  have hl : lv_has ls 1 [(0, .int x1)] := hl
  obtain ⟨H, hH⟩ : ∃ H, H = s.heap := ⟨_, rfl⟩
  rw [← hH] at hP
  have hS : va_S A s.heap H [] := by rw [hH]; exact va_S.rf
  suffices g : W p l e (rmk 0 0) s m args below meth c H [] 0 0 (MQ below (QZ NX eX a cy D A r σ) args s 0 0 A) (F0 m 0 ls []) by rw [hH] at g; exact g
  clear hH
  obtain ⟨locs, hlocs⟩ : ∃ z : List Loc, z = [] := ⟨_, rfl⟩
  rw [← hlocs] at hS ⊢
  have hL12 : (∀ (v0 : Int32) (H : Heap) (locs : List Loc) (ls : Array Slot), f_X4_isSign_L12 v0 = r → va_P D vwCl (wG NX eX a cy σ) H → va_S A s.heap H locs → lv_has ls 1 [(0, .int v0)] → W p l e (rmk 0 0) s m args below meth c H locs 0 0 (MQ below (QZ NX eX a cy D A r σ) args s 0 0 A) (F0 m 12 ls [])) := by
    intro v0 H locs ls hf hP hS hl
    refine lv_iload_n hx hb dX4_isSign_12 rfl (lv_at hl 0 rfl) ?_
    refine lv_bipush (v := (45 : Int32)) hx hb dX4_isSign_13 (by decide) ?_
    refine lv_icmp_eq (tgt := 30) hx hb dX4_isSign_15 (by decide) (fun hc => ?_) (fun hc => ?_)
    · have hf := jif_t hc hf
      refine lv_iconst (v := (1 : Int32)) hx hb dX4_isSign_30 (by decide) ?_
      refine lv_goto (tgt := 35) hx hb dX4_isSign_31 (by decide) ?_
      exact ret_z C hP hS bz_1 hf rfl dX4_isSign_35
    · have hf := jif_f hc hf
      refine lv_iload_n hx hb dX4_isSign_18 rfl (lv_at hl 0 rfl) ?_
      refine lv_bipush (v := (59 : Int32)) hx hb dX4_isSign_19 (by decide) ?_
      refine lv_icmp_lt (tgt := 34) hx hb dX4_isSign_21 (by decide) (fun hc => ?_) (fun hc => ?_)
      · have hf := jif_t hc hf
        refine lv_iconst (v := (0 : Int32)) hx hb dX4_isSign_34 (by decide) ?_
        exact ret_z C hP hS bz_0 hf rfl dX4_isSign_35
      · have hf := jif_f hc hf
        refine lv_iload_n hx hb dX4_isSign_24 rfl (lv_at hl 0 rfl) ?_
        refine lv_bipush (v := (61 : Int32)) hx hb dX4_isSign_25 (by decide) ?_
        refine lv_icmp_gt (tgt := 34) hx hb dX4_isSign_27 (by decide) (fun hc => ?_) (fun hc => ?_)
        · have hf := jif_t hc hf
          refine lv_iconst (v := (0 : Int32)) hx hb dX4_isSign_34 (by decide) ?_
          exact ret_z C hP hS bz_0 hf rfl dX4_isSign_35
        · have hf := jif_f hc hf
          refine lv_iconst (v := (1 : Int32)) hx hb dX4_isSign_30 (by decide) ?_
          refine lv_goto (tgt := 35) hx hb dX4_isSign_31 (by decide) ?_
          exact ret_z C hP hS bz_1 hf rfl dX4_isSign_35
  refine lv_iload_n hx hb dX4_isSign_0 rfl (lv_at hl 0 rfl) ?_
  refine lv_bipush (v := (40 : Int32)) hx hb dX4_isSign_1 (by decide) ?_
  refine lv_icmp_lt (tgt := 12) hx hb dX4_isSign_3 (by decide) (fun hc => ?_) (fun hc => ?_)
  · have hf := jif_t hc hf
    exact hL12 x1 H locs ls hf hP hS (lv_sub hl [0] rfl)
  · have hf := jif_f hc hf
    refine lv_iload_n hx hb dX4_isSign_6 rfl (lv_at hl 0 rfl) ?_
    refine lv_bipush (v := (43 : Int32)) hx hb dX4_isSign_7 (by decide) ?_
    refine lv_icmp_le (tgt := 30) hx hb dX4_isSign_9 (by decide) (fun hc => ?_) (fun hc => ?_)
    · have hf := jif_t hc hf
      refine lv_iconst (v := (1 : Int32)) hx hb dX4_isSign_30 (by decide) ?_
      refine lv_goto (tgt := 35) hx hb dX4_isSign_31 (by decide) ?_
      exact ret_z C hP hS bz_1 hf rfl dX4_isSign_35
    · have hf := jif_f hc hf
      exact hL12 x1 H locs ls hf hP hS (lv_sub hl [0] rfl)
set_option maxHeartbeats 4000000 in
set_option maxRecDepth 100000 in
theorem k_X4_next {l : Launch} {a : Nat → Nat} {cy : Nat → ClassId} {D : va_G} {ad : Nat → Nat} {A : Nat → Prop} (O : WO NX a (EHX ad A) A) {σ : ST} {σ' : ST} (hf : f_X4_next σ = some σ') : Met l yX4_next (Cond.code yX4_next cX4_next 1 none :: WS) (rmk 10 284) (PC [.ref (a 3)] NX eX a cy D (EHX ad A) σ) (QV NX eX a cy D A σ') 0 0 A := by
  refine met_go (own := "GuardsLookLeft$Reader") O (by decide +kernel) rfl (Nat.le_of_ble_eq_true rfl) ?_
  intro p e s m args below meth c ls C hP hS hl
  have hx := C.hx
  have hb := C.hb
  have hl : lv_has ls 1 [(0, .ref (a 3))] := hl
  obtain ⟨H, hH⟩ : ∃ H, H = s.heap := ⟨_, rfl⟩
  rw [← hH] at hP
  have hS : va_S A s.heap H [] := by rw [hH]; exact va_S.rf
  suffices g : W p l e (rmk 10 284) s m args below meth c H [] 0 0 (MQ below (QV NX eX a cy D A σ') args s 0 0 A) (F0 m 0 ls []) by rw [hH] at g; exact g
  clear hH
  obtain ⟨locs, hlocs⟩ : ∃ z : List Loc, z = [] := ⟨_, rfl⟩
  rw [← hlocs] at hS ⊢
  have hL170 : (∀ (t1 : Int32) (s0 : ST) (H : Heap) (locs : List Loc) (ls : Array Slot), f_X4_next_L170 t1 s0 = some σ' → va_P D vwCl (wG NX eX a cy s0) H → va_S A s.heap H locs → lv_has ls 1 [] → W p l e (rmk 10 284) s m args below meth c H locs 0 0 (MQ below (QV NX eX a cy D A σ') args s 0 0 A) (F0 m 170 ls [.int t1, .ref (a 3)])) := by
    intro t1 s0 H locs ls hf hP hS hl
    refine pf_X4_7 C hP hS wk_1_116 dX4_next_170 hf (fun H locs s1 hf hP hS => ?_)
    exact ret_v C hP hS (Option.some.inj hf) dX4_next_173
  have hL60 : (∀ (s0 : ST) (H : Heap) (locs : List Loc) (ls : Array Slot), f_X4_next_L60 s0 = some σ' → va_P D vwCl (wG NX eX a cy s0) H → va_S A s.heap H locs → lv_has ls 1 [(0, .ref (a 3))] → W p l e (rmk 10 284) s m args below meth c H locs 0 0 (MQ below (QV NX eX a cy D A σ') args s 0 0 A) (F0 m 60 ls [])) := by
    intro s0 H locs ls hf hP hS hl
    refine lv_aload_n hx hb dX4_next_60 rfl (lv_at hl 0 rfl) ?_
    refine lv_aload_n hx hb dX4_next_61 rfl (lv_at hl 0 rfl) ?_
    refine gf_X4_5 C hP wk_1_114 dX4_next_62 ?_
    refine pf_X4_6 C hP hS wk_1_115 dX4_next_65 hf (fun H locs s1 hf hP hS => ?_)
    refine lv_aload_n hx hb dX4_next_68 rfl (lv_at hl 0 rfl) ?_
    refine gf_X4_5 C hP wk_1_114 dX4_next_69 ?_
    refine lv_aload_n hx hb dX4_next_72 rfl (lv_at hl 0 rfl) ?_
    refine gf_X4_1 C hP wk_1_108 dX4_next_73 ?_
    refine lv_icmp_lt (tgt := 87) hx hb dX4_next_76 (by decide) (fun hc => ?_) (fun hc => ?_)
    · have hf := jif_t hc hf
      refine lv_aload_n hx hb dX4_next_87 rfl (lv_at hl 0 rfl) ?_
      refine gf_X4_0 C hP wk_1_106 dX4_next_88 ?_
      refine lv_aload_n hx hb dX4_next_91 rfl (lv_at hl 0 rfl) ?_
      refine gf_X4_5 C hP wk_1_114 dX4_next_92 ?_
      obtain ⟨hi2, hf⟩ := jix_e hf
      refine r_iald C hP aX_21 hi2 dX4_next_95 ?_
      refine r_cz (r_runS (As := [.int (gA s1 21 (Int32.toNatClampNeg (gA s1 3 5)))]) (rest := []) C hP hS (k_X4_isLetter (l := l) O (σ := s1) rfl) mw_X4_isLetter ms_X4_isLetter wk_2_99 ⟨Nat.le_of_ble_eq_true rfl, Nat.le_of_ble_eq_true rfl⟩ ⟨rfl, rfl⟩ ⟨Nat.zero_le _, Nat.zero_le _⟩ rfl hl.1 rfl (Nat.le_of_ble_eq_true rfl) dX4_next_96) hS (fun H locs hzy3 hP hS => ?_)
      refine jl_topz hf hzy3 (fun y3 hzy3 hf => ?_)
      refine lv_if_eq (tgt := 109) hx hb dX4_next_99 (by decide) (fun hc => ?_) (fun hc => ?_)
      · have hf := jif_t hc hf
        refine lv_aload_n hx hb dX4_next_109 rfl (lv_at hl 0 rfl) ?_
        refine gf_X4_0 C hP wk_1_106 dX4_next_110 ?_
        refine lv_aload_n hx hb dX4_next_113 rfl (lv_at hl 0 rfl) ?_
        refine gf_X4_5 C hP wk_1_114 dX4_next_114 ?_
        obtain ⟨hi5, hf⟩ := jix_e hf
        refine r_iald C hP aX_21 hi5 dX4_next_117 ?_
        refine r_cz (r_runS (As := [.int (gA s1 21 (Int32.toNatClampNeg (gA s1 3 5)))]) (rest := []) C hP hS (k_X4_isDigit (l := l) O (σ := s1) rfl) mw_X4_isDigit ms_X4_isDigit wk_2_132 ⟨Nat.le_of_ble_eq_true rfl, Nat.le_of_ble_eq_true rfl⟩ ⟨rfl, rfl⟩ ⟨Nat.zero_le _, Nat.zero_le _⟩ rfl hl.1 rfl (Nat.le_of_ble_eq_true rfl) dX4_next_118) hS (fun H locs hzy6 hP hS => ?_)
        refine jl_topz hf hzy6 (fun y6 hzy6 hf => ?_)
        refine lv_if_eq (tgt := 131) hx hb dX4_next_121 (by decide) (fun hc => ?_) (fun hc => ?_)
        · have hf := jif_t hc hf
          refine lv_aload_n hx hb dX4_next_131 rfl (lv_at hl 0 rfl) ?_
          refine lv_dup hx hb dX4_next_132 rfl ?_
          refine gf_X4_6 C hP wk_1_115 dX4_next_133 ?_
          refine lv_iconst (v := (1 : Int32)) hx hb dX4_next_136 (by decide) ?_
          refine lv_iadd hx hb dX4_next_137 ?_
          refine pf_X4_6 C hP hS wk_1_115 dX4_next_138 hf (fun H locs s8 hf hP hS => ?_)
          refine lv_aload_n hx hb dX4_next_141 rfl (lv_at hl 0 rfl) ?_
          refine lv_aload_n hx hb dX4_next_142 rfl (lv_at hl 0 rfl) ?_
          refine gf_X4_0 C hP wk_1_106 dX4_next_143 ?_
          refine lv_aload_n hx hb dX4_next_146 rfl (lv_at hl 0 rfl) ?_
          refine gf_X4_5 C hP wk_1_114 dX4_next_147 ?_
          obtain ⟨hi9, hf⟩ := jix_e hf
          refine r_iald C hP aX_21 hi9 dX4_next_150 ?_
          refine r_cz (r_runS (As := [.int (gA s8 21 (Int32.toNatClampNeg (gA s8 3 5)))]) (rest := [.ref (a 3)]) C hP hS (k_X4_isSign (l := l) O (σ := s8) rfl) mw_X4_isSign ms_X4_isSign wk_2_139 ⟨Nat.le_of_ble_eq_true rfl, Nat.le_of_ble_eq_true rfl⟩ ⟨rfl, rfl⟩ ⟨Nat.zero_le _, Nat.zero_le _⟩ rfl hl.1 rfl (Nat.le_of_ble_eq_true rfl) dX4_next_151) hS (fun H locs hzy10 hP hS => ?_)
          refine jl_topz hf hzy10 (fun y10 hzy10 hf => ?_)
          refine lv_if_eq (tgt := 169) hx hb dX4_next_154 (by decide) (fun hc => ?_) (fun hc => ?_)
          · have hf := jif_t hc hf
            refine lv_iconst (v := (1 : Int32)) hx hb dX4_next_169 (by decide) ?_
            exact hL170 (1 : Int32) s8 H locs ls hf hP hS (lv_sub hl [] rfl)
          · have hf := jif_f hc hf
            refine lv_aload_n hx hb dX4_next_157 rfl (lv_at hl 0 rfl) ?_
            refine gf_X4_0 C hP wk_1_106 dX4_next_158 ?_
            refine lv_aload_n hx hb dX4_next_161 rfl (lv_at hl 0 rfl) ?_
            refine gf_X4_5 C hP wk_1_114 dX4_next_162 ?_
            obtain ⟨hi12, hf⟩ := jix_e hf
            refine r_iald C hP aX_21 hi12 dX4_next_165 ?_
            refine lv_goto (tgt := 170) hx hb dX4_next_166 (by decide) ?_
            exact hL170 (gA s8 21 (Int32.toNatClampNeg (gA s8 3 5))) s8 H locs ls hf hP hS (lv_sub hl [] rfl)
        · have hf := jif_f hc hf
          refine lv_aload_n hx hb dX4_next_124 rfl (lv_at hl 0 rfl) ?_
          obtain ⟨s14, hc, hf⟩ := jb_e hf
          refine r_cv (r_runV (As := []) (rest := []) C hP hS (va_recv C.hK hP (q0 := 3) (ci := 4) rfl (by rw [g_at oX_4.1, oX_4.2])) (k_X4_takeDigits (l := l) O hc) mw_X4_takeDigits mi_X4_takeDigits mv_X4_takeDigits wk_2_135 ⟨Nat.le_of_ble_eq_true rfl, Nat.le_of_ble_eq_true rfl⟩ ⟨rfl, rfl⟩ ⟨Nat.zero_le _, Nat.zero_le _⟩ rfl hl.1 rfl (Nat.le_of_ble_eq_true rfl) dX4_next_125) hS (fun H locs hP hS => ?_)
          refine lv_goto (tgt := 173) hx hb dX4_next_128 (by decide) ?_
          exact ret_v C hP hS (Option.some.inj hf) dX4_next_173
      · have hf := jif_f hc hf
        refine lv_aload_n hx hb dX4_next_102 rfl (lv_at hl 0 rfl) ?_
        obtain ⟨s16, hc, hf⟩ := jb_e hf
        refine r_cv (r_runV (As := []) (rest := []) C hP hS (va_recv C.hK hP (q0 := 3) (ci := 4) rfl (by rw [g_at oX_4.1, oX_4.2])) (k_X4_takeWord (l := l) O hc) mw_X4_takeWord mi_X4_takeWord mv_X4_takeWord wk_2_102 ⟨Nat.le_of_ble_eq_true rfl, Nat.le_of_ble_eq_true rfl⟩ ⟨rfl, rfl⟩ ⟨Nat.zero_le _, Nat.zero_le _⟩ rfl hl.1 rfl (Nat.le_of_ble_eq_true rfl) dX4_next_103) hS (fun H locs hP hS => ?_)
        refine lv_goto (tgt := 173) hx hb dX4_next_106 (by decide) ?_
        exact ret_v C hP hS (Option.some.inj hf) dX4_next_173
    · have hf := jif_f hc hf
      refine lv_aload_n hx hb dX4_next_79 rfl (lv_at hl 0 rfl) ?_
      refine lv_iconst (v := (0 : Int32)) hx hb dX4_next_80 (by decide) ?_
      refine pf_X4_7 C hP hS wk_1_116 dX4_next_81 hf (fun H locs s17 hf hP hS => ?_)
      refine lv_goto (tgt := 173) hx hb dX4_next_84 (by decide) ?_
      exact ret_v C hP hS (Option.some.inj hf) dX4_next_173
  have hL47 : ∀ (k8 : ST → Option ST) (hk8 : (∀ (s0 : ST) (H : Heap) (locs : List Loc) (ls : Array Slot), k8 s0 = some σ' → va_P D vwCl (wG NX eX a cy s0) H → va_S A s.heap H locs → lv_has ls 1 [(0, .ref (a 3))] → W p l e (rmk 10 284) s m args below meth c H locs 0 0 (MQ below (QV NX eX a cy D A σ') args s 0 0 A) (F0 m 8 ls []))), (∀ (s0 : ST) (H : Heap) (locs : List Loc) (ls : Array Slot), f_X4_next_L47 k8 s0 = some σ' → va_P D vwCl (wG NX eX a cy s0) H → va_S A s.heap H locs → lv_has ls 1 [(0, .ref (a 3))] → W p l e (rmk 10 284) s m args below meth c H locs 0 0 (MQ below (QV NX eX a cy D A σ') args s 0 0 A) (F0 m 47 ls [])) := by
    intro k8 hk8 s0 H locs ls hf hP hS hl
    refine lv_aload_n hx hb dX4_next_47 rfl (lv_at hl 0 rfl) ?_
    refine lv_dup hx hb dX4_next_48 rfl ?_
    refine gf_X4_5 C hP wk_1_114 dX4_next_49 ?_
    refine lv_iconst (v := (1 : Int32)) hx hb dX4_next_52 (by decide) ?_
    refine lv_iadd hx hb dX4_next_53 ?_
    refine pf_X4_5 C hP hS wk_1_114 dX4_next_54 hf (fun H locs s1 hf hP hS => ?_)
    refine lv_goto (tgt := 8) hx hb dX4_next_57 (by decide) ?_
    exact hk8 s1 H locs ls hf hP hS (lv_sub hl [0] rfl)
  have hL8 : ∀ (n : Nat), (∀ (s0 : ST) (H : Heap) (locs : List Loc) (ls : Array Slot), f_X4_next_L8 n s0 = some σ' → va_P D vwCl (wG NX eX a cy s0) H → va_S A s.heap H locs → lv_has ls 1 [(0, .ref (a 3))] → W p l e (rmk 10 284) s m args below meth c H locs 0 0 (MQ below (QV NX eX a cy D A σ') args s 0 0 A) (F0 m 8 ls [])) := by
    intro n
    induction n with
    | zero => intro s0 H locs ls hf hP hS hl; exact no_o hf
    | succ n ih =>
      intro s0 H locs ls hf hP hS hl
      have hf := (ef_X4_next_L8 _).symm.trans hf
      refine lv_aload_n hx hb dX4_next_8 rfl (lv_at hl 0 rfl) ?_
      refine gf_X4_5 C hP wk_1_114 dX4_next_9 ?_
      refine lv_aload_n hx hb dX4_next_12 rfl (lv_at hl 0 rfl) ?_
      refine gf_X4_1 C hP wk_1_108 dX4_next_13 ?_
      refine lv_icmp_ge (tgt := 60) hx hb dX4_next_16 (by decide) (fun hc => ?_) (fun hc => ?_)
      · have hf := jif_t hc hf
        exact hL60 s0 H locs ls hf hP hS (lv_sub hl [0] rfl)
      · have hf := jif_f hc hf
        refine lv_aload_n hx hb dX4_next_19 rfl (lv_at hl 0 rfl) ?_
        refine gf_X4_0 C hP wk_1_106 dX4_next_20 ?_
        refine lv_aload_n hx hb dX4_next_23 rfl (lv_at hl 0 rfl) ?_
        refine gf_X4_5 C hP wk_1_114 dX4_next_24 ?_
        obtain ⟨hi1, hf⟩ := jix_e hf
        refine r_iald C hP aX_21 hi1 dX4_next_27 ?_
        refine lv_bipush (v := (32 : Int32)) hx hb dX4_next_28 (by decide) ?_
        refine lv_icmp_eq (tgt := 47) hx hb dX4_next_30 (by decide) (fun hc => ?_) (fun hc => ?_)
        · have hf := jif_t hc hf
          exact hL47 (f_X4_next_L8 n) ih s0 H locs ls hf hP hS (lv_sub hl [0] rfl)
        · have hf := jif_f hc hf
          refine lv_aload_n hx hb dX4_next_33 rfl (lv_at hl 0 rfl) ?_
          refine gf_X4_0 C hP wk_1_106 dX4_next_34 ?_
          refine lv_aload_n hx hb dX4_next_37 rfl (lv_at hl 0 rfl) ?_
          refine gf_X4_5 C hP wk_1_114 dX4_next_38 ?_
          obtain ⟨hi2, hf⟩ := jix_e hf
          refine r_iald C hP aX_21 hi2 dX4_next_41 ?_
          refine lv_bipush (v := (10 : Int32)) hx hb dX4_next_42 (by decide) ?_
          refine lv_icmp_ne (tgt := 60) hx hb dX4_next_44 (by decide) (fun hc => ?_) (fun hc => ?_)
          · have hf := jif_t hc hf
            exact hL60 s0 H locs ls hf hP hS (lv_sub hl [0] rfl)
          · have hf := jif_n hc hf
            exact hL47 (f_X4_next_L8 n) ih s0 H locs ls hf hP hS (lv_sub hl [0] rfl)
  refine lv_aload_n hx hb dX4_next_0 rfl (lv_at hl 0 rfl) ?_
  refine lv_aload_n hx hb dX4_next_1 rfl (lv_at hl 0 rfl) ?_
  refine gf_X4_6 C hP wk_1_115 dX4_next_2 ?_
  refine pf_X4_5 C hP hS wk_1_114 dX4_next_5 hf (fun H locs s1 hf hP hS => ?_)
  exact hL8 FU s1 H locs ls hf hP hS (lv_sub hl [0] rfl)
set_option maxHeartbeats 4000000 in
set_option maxRecDepth 100000 in
theorem k_X4_write {l : Launch} {a : Nat → Nat} {cy : Nat → ClassId} {D : va_G} {ad : Nat → Nat} {A : Nat → Prop} (O : WO NX a (EHX ad A) A) {x1 : Int32} {σ : ST} {σ' : ST} (hf : f_X4_write x1 σ = some σ') : Met l yX4_write (Cond.code yX4_write cX4_write 2 none :: WS) (rmk 0 0) (PC [.ref (a 3), .int x1] NX eX a cy D (EHX ad A) σ) (QV NX eX a cy D A σ') 0 0 A := by
  refine met_go (own := "GuardsLookLeft$Reader") O (by decide +kernel) rfl (Nat.le_of_ble_eq_true rfl) ?_
  intro p e s m args below meth c ls C hP hS hl
  have hx := C.hx
  have hb := C.hb
  have hl : lv_has ls 2 [(0, .ref (a 3)), (1, .int x1)] := hl
  obtain ⟨H, hH⟩ : ∃ H, H = s.heap := ⟨_, rfl⟩
  rw [← hH] at hP
  have hS : va_S A s.heap H [] := by rw [hH]; exact va_S.rf
  suffices g : W p l e (rmk 0 0) s m args below meth c H [] 0 0 (MQ below (QV NX eX a cy D A σ') args s 0 0 A) (F0 m 0 ls []) by rw [hH] at g; exact g
  clear hH
  obtain ⟨locs, hlocs⟩ : ∃ z : List Loc, z = [] := ⟨_, rfl⟩
  rw [← hlocs] at hS ⊢
  refine lv_aload_n hx hb dX4_write_0 rfl (lv_at hl 0 rfl) ?_
  refine gf_X4_4 C hP wk_1_113 dX4_write_1 ?_
  refine lv_sipush (v := (160 : Int32)) hx hb dX4_write_4 (by decide) ?_
  refine lv_icmp_ge (tgt := 27) hx hb dX4_write_7 (by decide) (fun hc => ?_) (fun hc => ?_)
  · have hf := jif_t hc hf
    exact ret_v C hP hS (Option.some.inj hf) dX4_write_27
  · have hf := jif_f hc hf
    refine lv_aload_n hx hb dX4_write_10 rfl (lv_at hl 0 rfl) ?_
    refine gf_X4_2 C hP wk_1_109 dX4_write_11 ?_
    refine lv_aload_n hx hb dX4_write_14 rfl (lv_at hl 0 rfl) ?_
    refine lv_dup hx hb dX4_write_15 rfl ?_
    refine gf_X4_4 C hP wk_1_113 dX4_write_16 ?_
    refine lv_dup_x1 hx hb dX4_write_19 rfl rfl ?_
    refine lv_iconst (v := (1 : Int32)) hx hb dX4_write_20 (by decide) ?_
    refine lv_iadd hx hb dX4_write_21 ?_
    refine pf_X4_4 C hP hS wk_1_113 dX4_write_22 hf (fun H locs s1 hf hP hS => ?_)
    refine lv_iload_n hx hb dX4_write_25 rfl (lv_at hl 1 rfl) ?_
    obtain ⟨hi2, hf⟩ := jix_e hf
    refine r_iast C hP hS aX_22 hi2 dX4_write_26 hf (fun H locs s3 hf hP hS => ?_)
    exact ret_v C hP hS (Option.some.inj hf) dX4_write_27
def HRD (l : Launch) (a : Nat → Nat) (cy : Nat → ClassId) (D : va_G) (ad : Nat → Nat) (A : Nat → Prop) (rc : Nat → Int32 → ST → Option (Int32 × ST)) (F L : Nat) : Prop :=
  (∀ (x : Int32) (σ : ST) (r : Int32) (σ' : ST), rc 0 x σ = some (r, σ') → Met l yX4_readEither (Cond.code yX4_readEither cX4_readEither 3 (some .boolean) :: WS) (rmk (F + 10) (L + 400)) (PC [.ref (a 3), .int x] NX eX a cy D (EHX ad A) σ) (QZ NX eX a cy D A r σ') 0 0 A) ∧
  (∀ (x : Int32) (σ : ST) (r : Int32) (σ' : ST), rc 1 x σ = some (r, σ') → Met l yX4_readBoth (Cond.code yX4_readBoth cX4_readBoth 3 (some .boolean) :: WS) (rmk (F + 10) (L + 400)) (PC [.ref (a 3), .int x] NX eX a cy D (EHX ad A) σ) (QZ NX eX a cy D A r σ') 0 0 A) ∧
  (∀ (x : Int32) (σ : ST) (r : Int32) (σ' : ST), rc 2 x σ = some (r, σ') → Met l yX4_readNot (Cond.code yX4_readNot cX4_readNot 3 (some .boolean) :: WS) (rmk (F + 10) (L + 400)) (PC [.ref (a 3), .int x] NX eX a cy D (EHX ad A) σ) (QZ NX eX a cy D A r σ') 0 0 A) ∧
  (∀ (x : Int32) (σ : ST) (r : Int32) (σ' : ST), rc 3 x σ = some (r, σ') → Met l yX4_readSum (Cond.code yX4_readSum cX4_readSum 4 (some .boolean) :: WS) (rmk (F + 10) (L + 400)) (PC [.ref (a 3), .int x] NX eX a cy D (EHX ad A) σ) (QZ NX eX a cy D A r σ') 0 0 A) ∧
  (∀ (x : Int32) (σ : ST) (r : Int32) (σ' : ST), rc 4 x σ = some (r, σ') → Met l yX4_readTerm (Cond.code yX4_readTerm cX4_readTerm 3 (some .boolean) :: WS) (rmk (F + 10) (L + 400)) (PC [.ref (a 3), .int x] NX eX a cy D (EHX ad A) σ) (QZ NX eX a cy D A r σ') 0 0 A) ∧
  (∀ (x : Int32) (σ : ST) (r : Int32) (σ' : ST), rc 5 x σ = some (r, σ') → Met l yX4_readOne (Cond.code yX4_readOne cX4_readOne 2 (some .boolean) :: WS) (rmk (F + 10) (L + 400)) (PC [.ref (a 3), .int x] NX eX a cy D (EHX ad A) σ) (QZ NX eX a cy D A r σ') 0 0 A)
set_option maxHeartbeats 4000000 in
set_option maxRecDepth 100000 in
theorem k_X4_readEither {l : Launch} {a : Nat → Nat} {cy : Nat → ClassId} {D : va_G} {ad : Nat → Nat} {A : Nat → Prop} (O : WO NX a (EHX ad A) A) (rc : Nat → Int32 → ST → Option (Int32 × ST)) (F L : Nat) (HR : HRD l a cy D ad A rc F L) {x1 : Int32} {r : Int32} {σ : ST} {σ' : ST} (hf : f_X4_readEither rc x1 σ = some (r, σ')) : Met l yX4_readEither (Cond.code yX4_readEither cX4_readEither 3 (some .boolean) :: WS) (rmk (F + 11) (L + 464)) (PC [.ref (a 3), .int x1] NX eX a cy D (EHX ad A) σ) (QZ NX eX a cy D A r σ') 0 0 A := by
  refine met_go (own := "GuardsLookLeft$Reader") O (by decide +kernel) rfl (Nat.le_of_ble_eq_true rfl) ?_
  intro p e s m args below meth c ls C hP hS hl
  have hx := C.hx
  have hb := C.hb
  have hl : lv_has ls 3 [(0, .ref (a 3)), (1, .int x1)] := hl
  obtain ⟨H, hH⟩ : ∃ H, H = s.heap := ⟨_, rfl⟩
  rw [← hH] at hP
  have hS : va_S A s.heap H [] := by rw [hH]; exact va_S.rf
  suffices g : W p l e (rmk (F + 11) (L + 464)) s m args below meth c H [] 0 0 (MQ below (QZ NX eX a cy D A r σ') args s 0 0 A) (F0 m 0 ls []) by rw [hH] at g; exact g
  clear hH
  obtain ⟨locs, hlocs⟩ : ∃ z : List Loc, z = [] := ⟨_, rfl⟩
  rw [← hlocs] at hS ⊢
  have hL12 : ∀ (n : Nat), (∀ (v1 : Int32) (v2 : Int32) (s0 : ST) (H : Heap) (locs : List Loc) (ls : Array Slot), f_X4_readEither_L12 rc n v1 v2 s0 = some (r, σ') → va_P D vwCl (wG NX eX a cy s0) H → va_S A s.heap H locs → lv_has ls 3 [(0, .ref (a 3)), (1, .int v1), (2, .int v2)] → W p l e (rmk (F + 11) (L + 464)) s m args below meth c H locs 0 0 (MQ below (QZ NX eX a cy D A r σ') args s 0 0 A) (F0 m 12 ls [])) := by
    intro n
    induction n with
    | zero => intro v1 v2 s0 H locs ls hf hP hS hl; exact no_o hf
    | succ n ih =>
      intro v1 v2 s0 H locs ls hf hP hS hl
      have hf := (ef_X4_readEither_L12 rc _ _ _).symm.trans hf
      refine lv_iload_n hx hb dX4_readEither_12 rfl (lv_at hl 2 rfl) ?_
      refine lv_sipush (v := (160 : Int32)) hx hb dX4_readEither_13 (by decide) ?_
      refine lv_icmp_ge (tgt := 54) hx hb dX4_readEither_16 (by decide) (fun hc => ?_) (fun hc => ?_)
      · have hf := jif_t hc hf
        refine lv_iconst (v := (1 : Int32)) hx hb dX4_readEither_54 (by decide) ?_
        exact ret_z C hP hS bz_1 (Prod.mk.inj (Option.some.inj hf)).1 (Prod.mk.inj (Option.some.inj hf)).2 dX4_readEither_55
      · have hf := jif_f hc hf
        refine lv_aload_n hx hb dX4_readEither_19 rfl (lv_at hl 0 rfl) ?_
        refine gf_X4_7 C hP wk_1_116 dX4_readEither_20 ?_
        refine lv_bipush (v := (7 : Int32)) hx hb dX4_readEither_23 (by decide) ?_
        refine lv_icmp_ne (tgt := 54) hx hb dX4_readEither_25 (by decide) (fun hc => ?_) (fun hc => ?_)
        · have hf := jif_t hc hf
          refine lv_iconst (v := (1 : Int32)) hx hb dX4_readEither_54 (by decide) ?_
          exact ret_z C hP hS bz_1 (Prod.mk.inj (Option.some.inj hf)).1 (Prod.mk.inj (Option.some.inj hf)).2 dX4_readEither_55
        · have hf := jif_n hc hf
          refine lv_aload_n hx hb dX4_readEither_28 rfl (lv_at hl 0 rfl) ?_
          obtain ⟨s2, hc, hf⟩ := jb_e hf
          refine r_cv (r_runV (As := []) (rest := []) C hP hS (va_recv C.hK hP (q0 := 3) (ci := 4) rfl (by rw [g_at oX_4.1, oX_4.2])) (k_X4_next (l := l) O hc) mw_X4_next mi_X4_next mv_X4_next wk_2_95 ⟨by show 10 + 1 ≤ F + 11; omega, by show 8 + (1 + 11) + 284 ≤ L + 464; omega⟩ ⟨rfl, rfl⟩ ⟨Nat.zero_le _, Nat.zero_le _⟩ rfl hl.1 rfl (Nat.le_of_ble_eq_true rfl) dX4_readEither_29) hS (fun H locs hP hS => ?_)
          refine lv_aload_n hx hb dX4_readEither_32 rfl (lv_at hl 0 rfl) ?_
          refine lv_iload_n hx hb dX4_readEither_33 rfl (lv_at hl 1 rfl) ?_
          obtain ⟨y3, s4, hc, hf⟩ := jbp_e hf
          refine r_cz (r_runV (As := [.int v1]) (rest := []) C hP hS (va_recv C.hK hP (q0 := 3) (ci := 4) rfl (by rw [g_at oX_4.1, oX_4.2])) (HR.2.1 _ _ _ _ hc) mw_X4_readBoth mi_X4_readBoth mv_X4_readBoth wk_2_148 ⟨by show F + 10 + 1 ≤ F + 11; omega, by show 8 + (3 + 11) + (L + 400) ≤ L + 464; omega⟩ ⟨rfl, rfl⟩ ⟨Nat.zero_le _, Nat.zero_le _⟩ rfl hl.1 rfl (Nat.le_of_ble_eq_true rfl) dX4_readEither_34) hS (fun H locs hzy3 hP hS => ?_)
          refine lv_if_ne (tgt := 42) hx hb dX4_readEither_37 (by decide) (fun hc => ?_) (fun hc => ?_)
          · have hf := jif_t hc hf
            refine lv_aload_n hx hb dX4_readEither_42 rfl (lv_at hl 0 rfl) ?_
            refine lv_bipush (v := (-9 : Int32)) hx hb dX4_readEither_43 (by decide) ?_
            obtain ⟨s6, hc, hf⟩ := jb_e hf
            refine r_cv (r_runV (As := [.int (-9 : Int32)]) (rest := []) C hP hS (va_recv C.hK hP (q0 := 3) (ci := 4) rfl (by rw [g_at oX_4.1, oX_4.2])) (k_X4_write (l := l) O hc) mw_X4_write mi_X4_write mv_X4_write wk_2_156 ⟨by show 0 + 1 ≤ F + 11; omega, by show 8 + (2 + 11) + 0 ≤ L + 464; omega⟩ ⟨rfl, rfl⟩ ⟨Nat.zero_le _, Nat.zero_le _⟩ rfl hl.1 rfl (Nat.le_of_ble_eq_true rfl) dX4_readEither_45) hS (fun H locs hP hS => ?_)
            obtain ⟨y7, ey7, hf⟩ := jlet_e hf
            refine lv_iinc (v := y7) (lv' := [(2, .int y7), (0, .ref (a 3)), (1, .int v1)]) hx hb dX4_readEither_48 hl (k := 2) rfl ey7 (by decide) rfl (fun ls hl => ?_)
            refine lv_goto (tgt := 12) hx hb dX4_readEither_51 (by decide) ?_
            exact ih v1 y7 s6 H locs ls hf hP hS (lv_sub hl [1, 2, 0] rfl)
          · have hf := jif_n hc hf
            refine lv_iconst (v := (0 : Int32)) hx hb dX4_readEither_40 (by decide) ?_
            exact ret_z C hP hS bz_0 (Prod.mk.inj (Option.some.inj hf)).1 (Prod.mk.inj (Option.some.inj hf)).2 dX4_readEither_41
  refine lv_aload_n hx hb dX4_readEither_0 rfl (lv_at hl 0 rfl) ?_
  refine lv_iload_n hx hb dX4_readEither_1 rfl (lv_at hl 1 rfl) ?_
  obtain ⟨y1, s2, hc, hf⟩ := jbp_e hf
  refine r_cz (r_runV (As := [.int x1]) (rest := []) C hP hS (va_recv C.hK hP (q0 := 3) (ci := 4) rfl (by rw [g_at oX_4.1, oX_4.2])) (HR.2.1 _ _ _ _ hc) mw_X4_readBoth mi_X4_readBoth mv_X4_readBoth wk_2_148 ⟨by show F + 10 + 1 ≤ F + 11; omega, by show 8 + (3 + 11) + (L + 400) ≤ L + 464; omega⟩ ⟨rfl, rfl⟩ ⟨Nat.zero_le _, Nat.zero_le _⟩ rfl hl.1 rfl (Nat.le_of_ble_eq_true rfl) dX4_readEither_2) hS (fun H locs hzy1 hP hS => ?_)
  refine lv_if_ne (tgt := 10) hx hb dX4_readEither_5 (by decide) (fun hc => ?_) (fun hc => ?_)
  · have hf := jif_t hc hf
    refine lv_iconst (v := (0 : Int32)) hx hb dX4_readEither_10 (by decide) ?_
    refine lv_istore_n (lv' := [(2, .int (0 : Int32)), (0, .ref (a 3)), (1, .int x1)]) hx hb dX4_readEither_11 rfl hl (by decide) rfl (fun ls hl => ?_)
    exact hL12 FU x1 (0 : Int32) s2 H locs ls hf hP hS (lv_sub hl [1, 2, 0] rfl)
  · have hf := jif_n hc hf
    refine lv_iconst (v := (0 : Int32)) hx hb dX4_readEither_8 (by decide) ?_
    exact ret_z C hP hS bz_0 (Prod.mk.inj (Option.some.inj hf)).1 (Prod.mk.inj (Option.some.inj hf)).2 dX4_readEither_9
set_option maxHeartbeats 4000000 in
set_option maxRecDepth 100000 in
theorem k_X4_readBoth {l : Launch} {a : Nat → Nat} {cy : Nat → ClassId} {D : va_G} {ad : Nat → Nat} {A : Nat → Prop} (O : WO NX a (EHX ad A) A) (rc : Nat → Int32 → ST → Option (Int32 × ST)) (F L : Nat) (HR : HRD l a cy D ad A rc F L) {x1 : Int32} {r : Int32} {σ : ST} {σ' : ST} (hf : f_X4_readBoth rc x1 σ = some (r, σ')) : Met l yX4_readBoth (Cond.code yX4_readBoth cX4_readBoth 3 (some .boolean) :: WS) (rmk (F + 11) (L + 464)) (PC [.ref (a 3), .int x1] NX eX a cy D (EHX ad A) σ) (QZ NX eX a cy D A r σ') 0 0 A := by
  refine met_go (own := "GuardsLookLeft$Reader") O (by decide +kernel) rfl (Nat.le_of_ble_eq_true rfl) ?_
  intro p e s m args below meth c ls C hP hS hl
  have hx := C.hx
  have hb := C.hb
  have hl : lv_has ls 3 [(0, .ref (a 3)), (1, .int x1)] := hl
  obtain ⟨H, hH⟩ : ∃ H, H = s.heap := ⟨_, rfl⟩
  rw [← hH] at hP
  have hS : va_S A s.heap H [] := by rw [hH]; exact va_S.rf
  suffices g : W p l e (rmk (F + 11) (L + 464)) s m args below meth c H [] 0 0 (MQ below (QZ NX eX a cy D A r σ') args s 0 0 A) (F0 m 0 ls []) by rw [hH] at g; exact g
  clear hH
  obtain ⟨locs, hlocs⟩ : ∃ z : List Loc, z = [] := ⟨_, rfl⟩
  rw [← hlocs] at hS ⊢
  have hL12 : ∀ (n : Nat), (∀ (v1 : Int32) (v2 : Int32) (s0 : ST) (H : Heap) (locs : List Loc) (ls : Array Slot), f_X4_readBoth_L12 rc n v1 v2 s0 = some (r, σ') → va_P D vwCl (wG NX eX a cy s0) H → va_S A s.heap H locs → lv_has ls 3 [(0, .ref (a 3)), (1, .int v1), (2, .int v2)] → W p l e (rmk (F + 11) (L + 464)) s m args below meth c H locs 0 0 (MQ below (QZ NX eX a cy D A r σ') args s 0 0 A) (F0 m 12 ls [])) := by
    intro n
    induction n with
    | zero => intro v1 v2 s0 H locs ls hf hP hS hl; exact no_o hf
    | succ n ih =>
      intro v1 v2 s0 H locs ls hf hP hS hl
      have hf := (ef_X4_readBoth_L12 rc _ _ _).symm.trans hf
      refine lv_iload_n hx hb dX4_readBoth_12 rfl (lv_at hl 2 rfl) ?_
      refine lv_sipush (v := (160 : Int32)) hx hb dX4_readBoth_13 (by decide) ?_
      refine lv_icmp_ge (tgt := 54) hx hb dX4_readBoth_16 (by decide) (fun hc => ?_) (fun hc => ?_)
      · have hf := jif_t hc hf
        refine lv_iconst (v := (1 : Int32)) hx hb dX4_readBoth_54 (by decide) ?_
        exact ret_z C hP hS bz_1 (Prod.mk.inj (Option.some.inj hf)).1 (Prod.mk.inj (Option.some.inj hf)).2 dX4_readBoth_55
      · have hf := jif_f hc hf
        refine lv_aload_n hx hb dX4_readBoth_19 rfl (lv_at hl 0 rfl) ?_
        refine gf_X4_7 C hP wk_1_116 dX4_readBoth_20 ?_
        refine lv_bipush (v := (8 : Int32)) hx hb dX4_readBoth_23 (by decide) ?_
        refine lv_icmp_ne (tgt := 54) hx hb dX4_readBoth_25 (by decide) (fun hc => ?_) (fun hc => ?_)
        · have hf := jif_t hc hf
          refine lv_iconst (v := (1 : Int32)) hx hb dX4_readBoth_54 (by decide) ?_
          exact ret_z C hP hS bz_1 (Prod.mk.inj (Option.some.inj hf)).1 (Prod.mk.inj (Option.some.inj hf)).2 dX4_readBoth_55
        · have hf := jif_n hc hf
          refine lv_aload_n hx hb dX4_readBoth_28 rfl (lv_at hl 0 rfl) ?_
          obtain ⟨s2, hc, hf⟩ := jb_e hf
          refine r_cv (r_runV (As := []) (rest := []) C hP hS (va_recv C.hK hP (q0 := 3) (ci := 4) rfl (by rw [g_at oX_4.1, oX_4.2])) (k_X4_next (l := l) O hc) mw_X4_next mi_X4_next mv_X4_next wk_2_95 ⟨by show 10 + 1 ≤ F + 11; omega, by show 8 + (1 + 11) + 284 ≤ L + 464; omega⟩ ⟨rfl, rfl⟩ ⟨Nat.zero_le _, Nat.zero_le _⟩ rfl hl.1 rfl (Nat.le_of_ble_eq_true rfl) dX4_readBoth_29) hS (fun H locs hP hS => ?_)
          refine lv_aload_n hx hb dX4_readBoth_32 rfl (lv_at hl 0 rfl) ?_
          refine lv_iload_n hx hb dX4_readBoth_33 rfl (lv_at hl 1 rfl) ?_
          obtain ⟨y3, s4, hc, hf⟩ := jbp_e hf
          refine r_cz (r_runV (As := [.int v1]) (rest := []) C hP hS (va_recv C.hK hP (q0 := 3) (ci := 4) rfl (by rw [g_at oX_4.1, oX_4.2])) (HR.2.2.1 _ _ _ _ hc) mw_X4_readNot mi_X4_readNot mv_X4_readNot wk_2_152 ⟨by show F + 10 + 1 ≤ F + 11; omega, by show 8 + (3 + 11) + (L + 400) ≤ L + 464; omega⟩ ⟨rfl, rfl⟩ ⟨Nat.zero_le _, Nat.zero_le _⟩ rfl hl.1 rfl (Nat.le_of_ble_eq_true rfl) dX4_readBoth_34) hS (fun H locs hzy3 hP hS => ?_)
          refine lv_if_ne (tgt := 42) hx hb dX4_readBoth_37 (by decide) (fun hc => ?_) (fun hc => ?_)
          · have hf := jif_t hc hf
            refine lv_aload_n hx hb dX4_readBoth_42 rfl (lv_at hl 0 rfl) ?_
            refine lv_bipush (v := (-10 : Int32)) hx hb dX4_readBoth_43 (by decide) ?_
            obtain ⟨s6, hc, hf⟩ := jb_e hf
            refine r_cv (r_runV (As := [.int (-10 : Int32)]) (rest := []) C hP hS (va_recv C.hK hP (q0 := 3) (ci := 4) rfl (by rw [g_at oX_4.1, oX_4.2])) (k_X4_write (l := l) O hc) mw_X4_write mi_X4_write mv_X4_write wk_2_156 ⟨by show 0 + 1 ≤ F + 11; omega, by show 8 + (2 + 11) + 0 ≤ L + 464; omega⟩ ⟨rfl, rfl⟩ ⟨Nat.zero_le _, Nat.zero_le _⟩ rfl hl.1 rfl (Nat.le_of_ble_eq_true rfl) dX4_readBoth_45) hS (fun H locs hP hS => ?_)
            obtain ⟨y7, ey7, hf⟩ := jlet_e hf
            refine lv_iinc (v := y7) (lv' := [(2, .int y7), (0, .ref (a 3)), (1, .int v1)]) hx hb dX4_readBoth_48 hl (k := 2) rfl ey7 (by decide) rfl (fun ls hl => ?_)
            refine lv_goto (tgt := 12) hx hb dX4_readBoth_51 (by decide) ?_
            exact ih v1 y7 s6 H locs ls hf hP hS (lv_sub hl [1, 2, 0] rfl)
          · have hf := jif_n hc hf
            refine lv_iconst (v := (0 : Int32)) hx hb dX4_readBoth_40 (by decide) ?_
            exact ret_z C hP hS bz_0 (Prod.mk.inj (Option.some.inj hf)).1 (Prod.mk.inj (Option.some.inj hf)).2 dX4_readBoth_41
  refine lv_aload_n hx hb dX4_readBoth_0 rfl (lv_at hl 0 rfl) ?_
  refine lv_iload_n hx hb dX4_readBoth_1 rfl (lv_at hl 1 rfl) ?_
  obtain ⟨y1, s2, hc, hf⟩ := jbp_e hf
  refine r_cz (r_runV (As := [.int x1]) (rest := []) C hP hS (va_recv C.hK hP (q0 := 3) (ci := 4) rfl (by rw [g_at oX_4.1, oX_4.2])) (HR.2.2.1 _ _ _ _ hc) mw_X4_readNot mi_X4_readNot mv_X4_readNot wk_2_152 ⟨by show F + 10 + 1 ≤ F + 11; omega, by show 8 + (3 + 11) + (L + 400) ≤ L + 464; omega⟩ ⟨rfl, rfl⟩ ⟨Nat.zero_le _, Nat.zero_le _⟩ rfl hl.1 rfl (Nat.le_of_ble_eq_true rfl) dX4_readBoth_2) hS (fun H locs hzy1 hP hS => ?_)
  refine lv_if_ne (tgt := 10) hx hb dX4_readBoth_5 (by decide) (fun hc => ?_) (fun hc => ?_)
  · have hf := jif_t hc hf
    refine lv_iconst (v := (0 : Int32)) hx hb dX4_readBoth_10 (by decide) ?_
    refine lv_istore_n (lv' := [(2, .int (0 : Int32)), (0, .ref (a 3)), (1, .int x1)]) hx hb dX4_readBoth_11 rfl hl (by decide) rfl (fun ls hl => ?_)
    exact hL12 FU x1 (0 : Int32) s2 H locs ls hf hP hS (lv_sub hl [1, 2, 0] rfl)
  · have hf := jif_n hc hf
    refine lv_iconst (v := (0 : Int32)) hx hb dX4_readBoth_8 (by decide) ?_
    exact ret_z C hP hS bz_0 (Prod.mk.inj (Option.some.inj hf)).1 (Prod.mk.inj (Option.some.inj hf)).2 dX4_readBoth_9
set_option maxHeartbeats 4000000 in
set_option maxRecDepth 100000 in
theorem k_X4_readNot {l : Launch} {a : Nat → Nat} {cy : Nat → ClassId} {D : va_G} {ad : Nat → Nat} {A : Nat → Prop} (O : WO NX a (EHX ad A) A) (rc : Nat → Int32 → ST → Option (Int32 × ST)) (F L : Nat) (HR : HRD l a cy D ad A rc F L) {x1 : Int32} {r : Int32} {σ : ST} {σ' : ST} (hf : f_X4_readNot rc x1 σ = some (r, σ')) : Met l yX4_readNot (Cond.code yX4_readNot cX4_readNot 3 (some .boolean) :: WS) (rmk (F + 11) (L + 464)) (PC [.ref (a 3), .int x1] NX eX a cy D (EHX ad A) σ) (QZ NX eX a cy D A r σ') 0 0 A := by
  refine met_go (own := "GuardsLookLeft$Reader") O (by decide +kernel) rfl (Nat.le_of_ble_eq_true rfl) ?_
  intro p e s m args below meth c ls C hP hS hl
  have hx := C.hx
  have hb := C.hb
  have hl : lv_has ls 3 [(0, .ref (a 3)), (1, .int x1)] := hl
  obtain ⟨H, hH⟩ : ∃ H, H = s.heap := ⟨_, rfl⟩
  rw [← hH] at hP
  have hS : va_S A s.heap H [] := by rw [hH]; exact va_S.rf
  suffices g : W p l e (rmk (F + 11) (L + 464)) s m args below meth c H [] 0 0 (MQ below (QZ NX eX a cy D A r σ') args s 0 0 A) (F0 m 0 ls []) by rw [hH] at g; exact g
  clear hH
  obtain ⟨locs, hlocs⟩ : ∃ z : List Loc, z = [] := ⟨_, rfl⟩
  rw [← hlocs] at hS ⊢
  have hL86 : (∀ (v1 : Int32) (t0 : Int32) (s0 : ST) (H : Heap) (locs : List Loc) (ls : Array Slot), f_X4_readNot_L86 rc v1 t0 s0 = some (r, σ') → va_P D vwCl (wG NX eX a cy s0) H → va_S A s.heap H locs → lv_has ls 3 [(0, .ref (a 3)), (1, .int v1)] → W p l e (rmk (F + 11) (L + 464)) s m args below meth c H locs 0 0 (MQ below (QZ NX eX a cy D A r σ') args s 0 0 A) (F0 m 86 ls [.int t0])) := by
    intro v1 t0 s0 H locs ls hf hP hS hl
    refine lv_istore_n (lv' := [(2, .int t0), (0, .ref (a 3)), (1, .int v1)]) hx hb dX4_readNot_86 rfl hl (by decide) rfl (fun ls hl => ?_)
    refine lv_aload_n hx hb dX4_readNot_87 rfl (lv_at hl 1 rfl) ?_
    obtain ⟨s2, hc, hf⟩ := jb_e hf
    refine r_cv (r_runV (As := []) (rest := []) C hP hS (va_recv C.hK hP (q0 := 3) (ci := 4) rfl (by rw [g_at oX_4.1, oX_4.2])) (k_X4_next (l := l) O hc) mw_X4_next mi_X4_next mv_X4_next wk_2_95 ⟨by show 10 + 1 ≤ F + 11; omega, by show 8 + (1 + 11) + 284 ≤ L + 464; omega⟩ ⟨rfl, rfl⟩ ⟨Nat.zero_le _, Nat.zero_le _⟩ rfl hl.1 rfl (Nat.le_of_ble_eq_true rfl) dX4_readNot_88) hS (fun H locs hP hS => ?_)
    refine lv_aload_n hx hb dX4_readNot_91 rfl (lv_at hl 1 rfl) ?_
    refine lv_iload_n hx hb dX4_readNot_92 rfl (lv_at hl 2 rfl) ?_
    obtain ⟨y3, s4, hc, hf⟩ := jbp_e hf
    refine r_cz (r_runV (As := [.int v1]) (rest := []) C hP hS (va_recv C.hK hP (q0 := 3) (ci := 4) rfl (by rw [g_at oX_4.1, oX_4.2])) (HR.2.2.2.1 _ _ _ _ hc) mw_X4_readSum mi_X4_readSum mv_X4_readSum wk_2_160 ⟨by show F + 10 + 1 ≤ F + 11; omega, by show 8 + (4 + 11) + (L + 400) ≤ L + 464; omega⟩ ⟨rfl, rfl⟩ ⟨Nat.zero_le _, Nat.zero_le _⟩ rfl hl.1 rfl (Nat.le_of_ble_eq_true rfl) dX4_readNot_93) hS (fun H locs hzy3 hP hS => ?_)
    refine lv_if_ne (tgt := 101) hx hb dX4_readNot_96 (by decide) (fun hc => ?_) (fun hc => ?_)
    · have hf := jif_t hc hf
      refine lv_aload_n hx hb dX4_readNot_101 rfl (lv_at hl 1 rfl) ?_
      refine lv_iload_n hx hb dX4_readNot_102 rfl (lv_at hl 0 rfl) ?_
      obtain ⟨s6, hc, hf⟩ := jb_e hf
      refine r_cv (r_runV (As := [.int t0]) (rest := []) C hP hS (va_recv C.hK hP (q0 := 3) (ci := 4) rfl (by rw [g_at oX_4.1, oX_4.2])) (k_X4_write (l := l) O hc) mw_X4_write mi_X4_write mv_X4_write wk_2_156 ⟨by show 0 + 1 ≤ F + 11; omega, by show 8 + (2 + 11) + 0 ≤ L + 464; omega⟩ ⟨rfl, rfl⟩ ⟨Nat.zero_le _, Nat.zero_le _⟩ rfl hl.1 rfl (Nat.le_of_ble_eq_true rfl) dX4_readNot_103) hS (fun H locs hP hS => ?_)
      refine lv_iconst (v := (1 : Int32)) hx hb dX4_readNot_106 (by decide) ?_
      exact ret_z C hP hS bz_1 (Prod.mk.inj (Option.some.inj hf)).1 (Prod.mk.inj (Option.some.inj hf)).2 dX4_readNot_107
    · have hf := jif_n hc hf
      refine lv_iconst (v := (0 : Int32)) hx hb dX4_readNot_99 (by decide) ?_
      exact ret_z C hP hS bz_0 (Prod.mk.inj (Option.some.inj hf)).1 (Prod.mk.inj (Option.some.inj hf)).2 dX4_readNot_100
  have hL70 : (∀ (v1 : Int32) (s0 : ST) (H : Heap) (locs : List Loc) (ls : Array Slot), f_X4_readNot_L70 rc v1 s0 = some (r, σ') → va_P D vwCl (wG NX eX a cy s0) H → va_S A s.heap H locs → lv_has ls 3 [(0, .ref (a 3)), (1, .int v1)] → W p l e (rmk (F + 11) (L + 464)) s m args below meth c H locs 0 0 (MQ below (QZ NX eX a cy D A r σ') args s 0 0 A) (F0 m 70 ls [])) := by
    intro v1 s0 H locs ls hf hP hS hl
    refine lv_aload_n hx hb dX4_readNot_70 rfl (lv_at hl 0 rfl) ?_
    refine gf_X4_7 C hP wk_1_116 dX4_readNot_71 ?_
    refine lv_bipush (v := (60 : Int32)) hx hb dX4_readNot_74 (by decide) ?_
    refine lv_icmp_ne (tgt := 84) hx hb dX4_readNot_76 (by decide) (fun hc => ?_) (fun hc => ?_)
    · have hf := jif_t hc hf
      refine lv_bipush (v := (-12 : Int32)) hx hb dX4_readNot_84 (by decide) ?_
      exact hL86 v1 (-12 : Int32) s0 H locs ls hf hP hS (lv_sub hl [0, 1] rfl)
    · have hf := jif_n hc hf
      refine lv_bipush (v := (-11 : Int32)) hx hb dX4_readNot_79 (by decide) ?_
      refine lv_goto (tgt := 86) hx hb dX4_readNot_81 (by decide) ?_
      exact hL86 v1 (-11 : Int32) s0 H locs ls hf hP hS (lv_sub hl [0, 1] rfl)
  refine lv_aload_n hx hb dX4_readNot_0 rfl (lv_at hl 0 rfl) ?_
  refine gf_X4_7 C hP wk_1_116 dX4_readNot_1 ?_
  refine lv_bipush (v := (9 : Int32)) hx hb dX4_readNot_4 (by decide) ?_
  refine lv_icmp_ne (tgt := 40) hx hb dX4_readNot_6 (by decide) (fun hc => ?_) (fun hc => ?_)
  · have hf := jif_t hc hf
    refine lv_aload_n hx hb dX4_readNot_40 rfl (lv_at hl 0 rfl) ?_
    refine lv_iload_n hx hb dX4_readNot_41 rfl (lv_at hl 1 rfl) ?_
    obtain ⟨y1, s2, hc, hf⟩ := jbp_e hf
    refine r_cz (r_runV (As := [.int x1]) (rest := []) C hP hS (va_recv C.hK hP (q0 := 3) (ci := 4) rfl (by rw [g_at oX_4.1, oX_4.2])) (HR.2.2.2.1 _ _ _ _ hc) mw_X4_readSum mi_X4_readSum mv_X4_readSum wk_2_160 ⟨by show F + 10 + 1 ≤ F + 11; omega, by show 8 + (4 + 11) + (L + 400) ≤ L + 464; omega⟩ ⟨rfl, rfl⟩ ⟨Nat.zero_le _, Nat.zero_le _⟩ rfl hl.1 rfl (Nat.le_of_ble_eq_true rfl) dX4_readNot_42) hS (fun H locs hzy1 hP hS => ?_)
    refine lv_if_ne (tgt := 50) hx hb dX4_readNot_45 (by decide) (fun hc => ?_) (fun hc => ?_)
    · have hf := jif_t hc hf
      refine lv_aload_n hx hb dX4_readNot_50 rfl (lv_at hl 0 rfl) ?_
      refine gf_X4_7 C hP wk_1_116 dX4_readNot_51 ?_
      refine lv_bipush (v := (60 : Int32)) hx hb dX4_readNot_54 (by decide) ?_
      refine lv_icmp_eq (tgt := 70) hx hb dX4_readNot_56 (by decide) (fun hc => ?_) (fun hc => ?_)
      · have hf := jif_t hc hf
        exact hL70 x1 s2 H locs ls hf hP hS (lv_sub hl [0, 1] rfl)
      · have hf := jif_f hc hf
        refine lv_aload_n hx hb dX4_readNot_59 rfl (lv_at hl 0 rfl) ?_
        refine gf_X4_7 C hP wk_1_116 dX4_readNot_60 ?_
        refine lv_bipush (v := (61 : Int32)) hx hb dX4_readNot_63 (by decide) ?_
        refine lv_icmp_eq (tgt := 70) hx hb dX4_readNot_65 (by decide) (fun hc => ?_) (fun hc => ?_)
        · have hf := jif_t hc hf
          exact hL70 x1 s2 H locs ls hf hP hS (lv_sub hl [0, 1] rfl)
        · have hf := jif_f hc hf
          refine lv_iconst (v := (1 : Int32)) hx hb dX4_readNot_68 (by decide) ?_
          exact ret_z C hP hS bz_1 (Prod.mk.inj (Option.some.inj hf)).1 (Prod.mk.inj (Option.some.inj hf)).2 dX4_readNot_69
    · have hf := jif_n hc hf
      refine lv_iconst (v := (0 : Int32)) hx hb dX4_readNot_48 (by decide) ?_
      exact ret_z C hP hS bz_0 (Prod.mk.inj (Option.some.inj hf)).1 (Prod.mk.inj (Option.some.inj hf)).2 dX4_readNot_49
  · have hf := jif_n hc hf
    refine lv_iload_n hx hb dX4_readNot_9 rfl (lv_at hl 1 rfl) ?_
    refine lv_iconst (v := (5 : Int32)) hx hb dX4_readNot_10 (by decide) ?_
    refine lv_icmp_lt (tgt := 16) hx hb dX4_readNot_11 (by decide) (fun hc => ?_) (fun hc => ?_)
    · have hf := jif_t hc hf
      refine lv_aload_n hx hb dX4_readNot_16 rfl (lv_at hl 0 rfl) ?_
      obtain ⟨s4, hc, hf⟩ := jb_e hf
      refine r_cv (r_runV (As := []) (rest := []) C hP hS (va_recv C.hK hP (q0 := 3) (ci := 4) rfl (by rw [g_at oX_4.1, oX_4.2])) (k_X4_next (l := l) O hc) mw_X4_next mi_X4_next mv_X4_next wk_2_95 ⟨by show 10 + 1 ≤ F + 11; omega, by show 8 + (1 + 11) + 284 ≤ L + 464; omega⟩ ⟨rfl, rfl⟩ ⟨Nat.zero_le _, Nat.zero_le _⟩ rfl hl.1 rfl (Nat.le_of_ble_eq_true rfl) dX4_readNot_17) hS (fun H locs hP hS => ?_)
      refine lv_aload_n hx hb dX4_readNot_20 rfl (lv_at hl 0 rfl) ?_
      refine lv_iload_n hx hb dX4_readNot_21 rfl (lv_at hl 1 rfl) ?_
      refine lv_iconst (v := (1 : Int32)) hx hb dX4_readNot_22 (by decide) ?_
      refine lv_iadd hx hb dX4_readNot_23 ?_
      obtain ⟨y5, s6, hc, hf⟩ := jbp_e hf
      refine r_cz (r_runV (As := [.int (x1 + (1 : Int32))]) (rest := []) C hP hS (va_recv C.hK hP (q0 := 3) (ci := 4) rfl (by rw [g_at oX_4.1, oX_4.2])) (HR.2.2.1 _ _ _ _ hc) mw_X4_readNot mi_X4_readNot mv_X4_readNot wk_2_152 ⟨by show F + 10 + 1 ≤ F + 11; omega, by show 8 + (3 + 11) + (L + 400) ≤ L + 464; omega⟩ ⟨rfl, rfl⟩ ⟨Nat.zero_le _, Nat.zero_le _⟩ rfl hl.1 rfl (Nat.le_of_ble_eq_true rfl) dX4_readNot_24) hS (fun H locs hzy5 hP hS => ?_)
      refine lv_if_ne (tgt := 32) hx hb dX4_readNot_27 (by decide) (fun hc => ?_) (fun hc => ?_)
      · have hf := jif_t hc hf
        refine lv_aload_n hx hb dX4_readNot_32 rfl (lv_at hl 0 rfl) ?_
        refine lv_bipush (v := (-7 : Int32)) hx hb dX4_readNot_33 (by decide) ?_
        obtain ⟨s8, hc, hf⟩ := jb_e hf
        refine r_cv (r_runV (As := [.int (-7 : Int32)]) (rest := []) C hP hS (va_recv C.hK hP (q0 := 3) (ci := 4) rfl (by rw [g_at oX_4.1, oX_4.2])) (k_X4_write (l := l) O hc) mw_X4_write mi_X4_write mv_X4_write wk_2_156 ⟨by show 0 + 1 ≤ F + 11; omega, by show 8 + (2 + 11) + 0 ≤ L + 464; omega⟩ ⟨rfl, rfl⟩ ⟨Nat.zero_le _, Nat.zero_le _⟩ rfl hl.1 rfl (Nat.le_of_ble_eq_true rfl) dX4_readNot_35) hS (fun H locs hP hS => ?_)
        refine lv_iconst (v := (1 : Int32)) hx hb dX4_readNot_38 (by decide) ?_
        exact ret_z C hP hS bz_1 (Prod.mk.inj (Option.some.inj hf)).1 (Prod.mk.inj (Option.some.inj hf)).2 dX4_readNot_39
      · have hf := jif_n hc hf
        refine lv_iconst (v := (0 : Int32)) hx hb dX4_readNot_30 (by decide) ?_
        exact ret_z C hP hS bz_0 (Prod.mk.inj (Option.some.inj hf)).1 (Prod.mk.inj (Option.some.inj hf)).2 dX4_readNot_31
    · have hf := jif_f hc hf
      refine lv_iconst (v := (0 : Int32)) hx hb dX4_readNot_14 (by decide) ?_
      exact ret_z C hP hS bz_0 (Prod.mk.inj (Option.some.inj hf)).1 (Prod.mk.inj (Option.some.inj hf)).2 dX4_readNot_15
set_option maxHeartbeats 4000000 in
set_option maxRecDepth 100000 in
theorem k_X4_readSum {l : Launch} {a : Nat → Nat} {cy : Nat → ClassId} {D : va_G} {ad : Nat → Nat} {A : Nat → Prop} (O : WO NX a (EHX ad A) A) (rc : Nat → Int32 → ST → Option (Int32 × ST)) (F L : Nat) (HR : HRD l a cy D ad A rc F L) {x1 : Int32} {r : Int32} {σ : ST} {σ' : ST} (hf : f_X4_readSum rc x1 σ = some (r, σ')) : Met l yX4_readSum (Cond.code yX4_readSum cX4_readSum 4 (some .boolean) :: WS) (rmk (F + 11) (L + 464)) (PC [.ref (a 3), .int x1] NX eX a cy D (EHX ad A) σ) (QZ NX eX a cy D A r σ') 0 0 A := by
  refine met_go (own := "GuardsLookLeft$Reader") O (by decide +kernel) rfl (Nat.le_of_ble_eq_true rfl) ?_
  intro p e s m args below meth c ls C hP hS hl
  have hx := C.hx
  have hb := C.hb
  have hl : lv_has ls 4 [(0, .ref (a 3)), (1, .int x1)] := hl
  obtain ⟨H, hH⟩ : ∃ H, H = s.heap := ⟨_, rfl⟩
  rw [← hH] at hP
  have hS : va_S A s.heap H [] := by rw [hH]; exact va_S.rf
  suffices g : W p l e (rmk (F + 11) (L + 464)) s m args below meth c H [] 0 0 (MQ below (QZ NX eX a cy D A r σ') args s 0 0 A) (F0 m 0 ls []) by rw [hH] at g; exact g
  clear hH
  obtain ⟨locs, hlocs⟩ : ∃ z : List Loc, z = [] := ⟨_, rfl⟩
  rw [← hlocs] at hS ⊢
  have hL53 : ∀ (k12 : Int32 → Int32 → ST → Option (Int32 × ST)) (hk12 : (∀ (v1 : Int32) (v2 : Int32) (s0 : ST) (H : Heap) (locs : List Loc) (ls : Array Slot), k12 v1 v2 s0 = some (r, σ') → va_P D vwCl (wG NX eX a cy s0) H → va_S A s.heap H locs → lv_has ls 4 [(0, .ref (a 3)), (1, .int v1), (2, .int v2)] → W p l e (rmk (F + 11) (L + 464)) s m args below meth c H locs 0 0 (MQ below (QZ NX eX a cy D A r σ') args s 0 0 A) (F0 m 12 ls []))), (∀ (v1 : Int32) (v2 : Int32) (t0 : Int32) (s0 : ST) (H : Heap) (locs : List Loc) (ls : Array Slot), f_X4_readSum_L53 rc k12 v1 v2 t0 s0 = some (r, σ') → va_P D vwCl (wG NX eX a cy s0) H → va_S A s.heap H locs → lv_has ls 4 [(0, .ref (a 3)), (1, .int v1), (2, .int v2)] → W p l e (rmk (F + 11) (L + 464)) s m args below meth c H locs 0 0 (MQ below (QZ NX eX a cy D A r σ') args s 0 0 A) (F0 m 53 ls [.int t0])) := by
    intro k12 hk12 v1 v2 t0 s0 H locs ls hf hP hS hl
    refine lv_istore_n (lv' := [(3, .int t0), (0, .ref (a 3)), (1, .int v1), (2, .int v2)]) hx hb dX4_readSum_53 rfl hl (by decide) rfl (fun ls hl => ?_)
    refine lv_aload_n hx hb dX4_readSum_54 rfl (lv_at hl 1 rfl) ?_
    obtain ⟨s2, hc, hf⟩ := jb_e hf
    refine r_cv (r_runV (As := []) (rest := []) C hP hS (va_recv C.hK hP (q0 := 3) (ci := 4) rfl (by rw [g_at oX_4.1, oX_4.2])) (k_X4_next (l := l) O hc) mw_X4_next mi_X4_next mv_X4_next wk_2_95 ⟨by show 10 + 1 ≤ F + 11; omega, by show 8 + (1 + 11) + 284 ≤ L + 464; omega⟩ ⟨rfl, rfl⟩ ⟨Nat.zero_le _, Nat.zero_le _⟩ rfl hl.1 rfl (Nat.le_of_ble_eq_true rfl) dX4_readSum_55) hS (fun H locs hP hS => ?_)
    refine lv_aload_n hx hb dX4_readSum_58 rfl (lv_at hl 1 rfl) ?_
    refine lv_iload_n hx hb dX4_readSum_59 rfl (lv_at hl 2 rfl) ?_
    obtain ⟨y3, s4, hc, hf⟩ := jbp_e hf
    refine r_cz (r_runV (As := [.int v1]) (rest := []) C hP hS (va_recv C.hK hP (q0 := 3) (ci := 4) rfl (by rw [g_at oX_4.1, oX_4.2])) (HR.2.2.2.2.1 _ _ _ _ hc) mw_X4_readTerm mi_X4_readTerm mv_X4_readTerm wk_2_164 ⟨by show F + 10 + 1 ≤ F + 11; omega, by show 8 + (3 + 11) + (L + 400) ≤ L + 464; omega⟩ ⟨rfl, rfl⟩ ⟨Nat.zero_le _, Nat.zero_le _⟩ rfl hl.1 rfl (Nat.le_of_ble_eq_true rfl) dX4_readSum_60) hS (fun H locs hzy3 hP hS => ?_)
    refine lv_if_ne (tgt := 68) hx hb dX4_readSum_63 (by decide) (fun hc => ?_) (fun hc => ?_)
    · have hf := jif_t hc hf
      refine lv_aload_n hx hb dX4_readSum_68 rfl (lv_at hl 1 rfl) ?_
      refine lv_iload_n hx hb dX4_readSum_69 rfl (lv_at hl 0 rfl) ?_
      obtain ⟨s6, hc, hf⟩ := jb_e hf
      refine r_cv (r_runV (As := [.int t0]) (rest := []) C hP hS (va_recv C.hK hP (q0 := 3) (ci := 4) rfl (by rw [g_at oX_4.1, oX_4.2])) (k_X4_write (l := l) O hc) mw_X4_write mi_X4_write mv_X4_write wk_2_156 ⟨by show 0 + 1 ≤ F + 11; omega, by show 8 + (2 + 11) + 0 ≤ L + 464; omega⟩ ⟨rfl, rfl⟩ ⟨Nat.zero_le _, Nat.zero_le _⟩ rfl hl.1 rfl (Nat.le_of_ble_eq_true rfl) dX4_readSum_70) hS (fun H locs hP hS => ?_)
      obtain ⟨y7, ey7, hf⟩ := jlet_e hf
      refine lv_iinc (v := y7) (lv' := [(2, .int y7), (3, .int t0), (0, .ref (a 3)), (1, .int v1)]) hx hb dX4_readSum_73 hl (k := 3) rfl ey7 (by decide) rfl (fun ls hl => ?_)
      refine lv_goto (tgt := 12) hx hb dX4_readSum_76 (by decide) ?_
      exact hk12 v1 y7 s6 H locs ls hf hP hS (lv_sub hl [2, 3, 0] rfl)
    · have hf := jif_n hc hf
      refine lv_iconst (v := (0 : Int32)) hx hb dX4_readSum_66 (by decide) ?_
      exact ret_z C hP hS bz_0 (Prod.mk.inj (Option.some.inj hf)).1 (Prod.mk.inj (Option.some.inj hf)).2 dX4_readSum_67
  have hL37 : ∀ (k12 : Int32 → Int32 → ST → Option (Int32 × ST)) (hk12 : (∀ (v1 : Int32) (v2 : Int32) (s0 : ST) (H : Heap) (locs : List Loc) (ls : Array Slot), k12 v1 v2 s0 = some (r, σ') → va_P D vwCl (wG NX eX a cy s0) H → va_S A s.heap H locs → lv_has ls 4 [(0, .ref (a 3)), (1, .int v1), (2, .int v2)] → W p l e (rmk (F + 11) (L + 464)) s m args below meth c H locs 0 0 (MQ below (QZ NX eX a cy D A r σ') args s 0 0 A) (F0 m 12 ls []))), (∀ (v1 : Int32) (v2 : Int32) (s0 : ST) (H : Heap) (locs : List Loc) (ls : Array Slot), f_X4_readSum_L37 rc k12 v1 v2 s0 = some (r, σ') → va_P D vwCl (wG NX eX a cy s0) H → va_S A s.heap H locs → lv_has ls 4 [(0, .ref (a 3)), (1, .int v1), (2, .int v2)] → W p l e (rmk (F + 11) (L + 464)) s m args below meth c H locs 0 0 (MQ below (QZ NX eX a cy D A r σ') args s 0 0 A) (F0 m 37 ls [])) := by
    intro k12 hk12 v1 v2 s0 H locs ls hf hP hS hl
    refine lv_aload_n hx hb dX4_readSum_37 rfl (lv_at hl 0 rfl) ?_
    refine gf_X4_7 C hP wk_1_116 dX4_readSum_38 ?_
    refine lv_bipush (v := (43 : Int32)) hx hb dX4_readSum_41 (by decide) ?_
    refine lv_icmp_ne (tgt := 51) hx hb dX4_readSum_43 (by decide) (fun hc => ?_) (fun hc => ?_)
    · have hf := jif_t hc hf
      refine lv_bipush (v := (-14 : Int32)) hx hb dX4_readSum_51 (by decide) ?_
      exact hL53 k12 hk12 v1 v2 (-14 : Int32) s0 H locs ls hf hP hS (lv_sub hl [0, 1, 2] rfl)
    · have hf := jif_n hc hf
      refine lv_bipush (v := (-13 : Int32)) hx hb dX4_readSum_46 (by decide) ?_
      refine lv_goto (tgt := 53) hx hb dX4_readSum_48 (by decide) ?_
      exact hL53 k12 hk12 v1 v2 (-13 : Int32) s0 H locs ls hf hP hS (lv_sub hl [0, 1, 2] rfl)
  have hL12 : ∀ (n : Nat), (∀ (v1 : Int32) (v2 : Int32) (s0 : ST) (H : Heap) (locs : List Loc) (ls : Array Slot), f_X4_readSum_L12 rc n v1 v2 s0 = some (r, σ') → va_P D vwCl (wG NX eX a cy s0) H → va_S A s.heap H locs → lv_has ls 4 [(0, .ref (a 3)), (1, .int v1), (2, .int v2)] → W p l e (rmk (F + 11) (L + 464)) s m args below meth c H locs 0 0 (MQ below (QZ NX eX a cy D A r σ') args s 0 0 A) (F0 m 12 ls [])) := by
    intro n
    induction n with
    | zero => intro v1 v2 s0 H locs ls hf hP hS hl; exact no_o hf
    | succ n ih =>
      intro v1 v2 s0 H locs ls hf hP hS hl
      have hf := (ef_X4_readSum_L12 rc _ _ _).symm.trans hf
      refine lv_iload_n hx hb dX4_readSum_12 rfl (lv_at hl 2 rfl) ?_
      refine lv_sipush (v := (160 : Int32)) hx hb dX4_readSum_13 (by decide) ?_
      refine lv_icmp_ge (tgt := 79) hx hb dX4_readSum_16 (by decide) (fun hc => ?_) (fun hc => ?_)
      · have hf := jif_t hc hf
        refine lv_iconst (v := (1 : Int32)) hx hb dX4_readSum_79 (by decide) ?_
        exact ret_z C hP hS bz_1 (Prod.mk.inj (Option.some.inj hf)).1 (Prod.mk.inj (Option.some.inj hf)).2 dX4_readSum_80
      · have hf := jif_f hc hf
        refine lv_aload_n hx hb dX4_readSum_19 rfl (lv_at hl 0 rfl) ?_
        refine gf_X4_7 C hP wk_1_116 dX4_readSum_20 ?_
        refine lv_bipush (v := (43 : Int32)) hx hb dX4_readSum_23 (by decide) ?_
        refine lv_icmp_eq (tgt := 37) hx hb dX4_readSum_25 (by decide) (fun hc => ?_) (fun hc => ?_)
        · have hf := jif_t hc hf
          exact hL37 (f_X4_readSum_L12 rc n) ih v1 v2 s0 H locs ls hf hP hS (lv_sub hl [0, 1, 2] rfl)
        · have hf := jif_f hc hf
          refine lv_aload_n hx hb dX4_readSum_28 rfl (lv_at hl 0 rfl) ?_
          refine gf_X4_7 C hP wk_1_116 dX4_readSum_29 ?_
          refine lv_bipush (v := (45 : Int32)) hx hb dX4_readSum_32 (by decide) ?_
          refine lv_icmp_ne (tgt := 79) hx hb dX4_readSum_34 (by decide) (fun hc => ?_) (fun hc => ?_)
          · have hf := jif_t hc hf
            refine lv_iconst (v := (1 : Int32)) hx hb dX4_readSum_79 (by decide) ?_
            exact ret_z C hP hS bz_1 (Prod.mk.inj (Option.some.inj hf)).1 (Prod.mk.inj (Option.some.inj hf)).2 dX4_readSum_80
          · have hf := jif_n hc hf
            exact hL37 (f_X4_readSum_L12 rc n) ih v1 v2 s0 H locs ls hf hP hS (lv_sub hl [0, 1, 2] rfl)
  refine lv_aload_n hx hb dX4_readSum_0 rfl (lv_at hl 0 rfl) ?_
  refine lv_iload_n hx hb dX4_readSum_1 rfl (lv_at hl 1 rfl) ?_
  obtain ⟨y1, s2, hc, hf⟩ := jbp_e hf
  refine r_cz (r_runV (As := [.int x1]) (rest := []) C hP hS (va_recv C.hK hP (q0 := 3) (ci := 4) rfl (by rw [g_at oX_4.1, oX_4.2])) (HR.2.2.2.2.1 _ _ _ _ hc) mw_X4_readTerm mi_X4_readTerm mv_X4_readTerm wk_2_164 ⟨by show F + 10 + 1 ≤ F + 11; omega, by show 8 + (3 + 11) + (L + 400) ≤ L + 464; omega⟩ ⟨rfl, rfl⟩ ⟨Nat.zero_le _, Nat.zero_le _⟩ rfl hl.1 rfl (Nat.le_of_ble_eq_true rfl) dX4_readSum_2) hS (fun H locs hzy1 hP hS => ?_)
  refine lv_if_ne (tgt := 10) hx hb dX4_readSum_5 (by decide) (fun hc => ?_) (fun hc => ?_)
  · have hf := jif_t hc hf
    refine lv_iconst (v := (0 : Int32)) hx hb dX4_readSum_10 (by decide) ?_
    refine lv_istore_n (lv' := [(2, .int (0 : Int32)), (0, .ref (a 3)), (1, .int x1)]) hx hb dX4_readSum_11 rfl hl (by decide) rfl (fun ls hl => ?_)
    exact hL12 FU x1 (0 : Int32) s2 H locs ls hf hP hS (lv_sub hl [1, 2, 0] rfl)
  · have hf := jif_n hc hf
    refine lv_iconst (v := (0 : Int32)) hx hb dX4_readSum_8 (by decide) ?_
    exact ret_z C hP hS bz_0 (Prod.mk.inj (Option.some.inj hf)).1 (Prod.mk.inj (Option.some.inj hf)).2 dX4_readSum_9
set_option maxHeartbeats 4000000 in
set_option maxRecDepth 100000 in
theorem k_X4_readTerm {l : Launch} {a : Nat → Nat} {cy : Nat → ClassId} {D : va_G} {ad : Nat → Nat} {A : Nat → Prop} (O : WO NX a (EHX ad A) A) (rc : Nat → Int32 → ST → Option (Int32 × ST)) (F L : Nat) (HR : HRD l a cy D ad A rc F L) {x1 : Int32} {r : Int32} {σ : ST} {σ' : ST} (hf : f_X4_readTerm rc x1 σ = some (r, σ')) : Met l yX4_readTerm (Cond.code yX4_readTerm cX4_readTerm 3 (some .boolean) :: WS) (rmk (F + 11) (L + 464)) (PC [.ref (a 3), .int x1] NX eX a cy D (EHX ad A) σ) (QZ NX eX a cy D A r σ') 0 0 A := by
  refine met_go (own := "GuardsLookLeft$Reader") O (by decide +kernel) rfl (Nat.le_of_ble_eq_true rfl) ?_
  intro p e s m args below meth c ls C hP hS hl
  have hx := C.hx
  have hb := C.hb
  have hl : lv_has ls 3 [(0, .ref (a 3)), (1, .int x1)] := hl
  obtain ⟨H, hH⟩ : ∃ H, H = s.heap := ⟨_, rfl⟩
  rw [← hH] at hP
  have hS : va_S A s.heap H [] := by rw [hH]; exact va_S.rf
  suffices g : W p l e (rmk (F + 11) (L + 464)) s m args below meth c H [] 0 0 (MQ below (QZ NX eX a cy D A r σ') args s 0 0 A) (F0 m 0 ls []) by rw [hH] at g; exact g
  clear hH
  obtain ⟨locs, hlocs⟩ : ∃ z : List Loc, z = [] := ⟨_, rfl⟩
  rw [← hlocs] at hS ⊢
  have hL12 : ∀ (n : Nat), (∀ (v1 : Int32) (v2 : Int32) (s0 : ST) (H : Heap) (locs : List Loc) (ls : Array Slot), f_X4_readTerm_L12 rc n v1 v2 s0 = some (r, σ') → va_P D vwCl (wG NX eX a cy s0) H → va_S A s.heap H locs → lv_has ls 3 [(0, .ref (a 3)), (1, .int v1), (2, .int v2)] → W p l e (rmk (F + 11) (L + 464)) s m args below meth c H locs 0 0 (MQ below (QZ NX eX a cy D A r σ') args s 0 0 A) (F0 m 12 ls [])) := by
    intro n
    induction n with
    | zero => intro v1 v2 s0 H locs ls hf hP hS hl; exact no_o hf
    | succ n ih =>
      intro v1 v2 s0 H locs ls hf hP hS hl
      have hf := (ef_X4_readTerm_L12 rc _ _ _).symm.trans hf
      refine lv_iload_n hx hb dX4_readTerm_12 rfl (lv_at hl 2 rfl) ?_
      refine lv_sipush (v := (160 : Int32)) hx hb dX4_readTerm_13 (by decide) ?_
      refine lv_icmp_ge (tgt := 54) hx hb dX4_readTerm_16 (by decide) (fun hc => ?_) (fun hc => ?_)
      · have hf := jif_t hc hf
        refine lv_iconst (v := (1 : Int32)) hx hb dX4_readTerm_54 (by decide) ?_
        exact ret_z C hP hS bz_1 (Prod.mk.inj (Option.some.inj hf)).1 (Prod.mk.inj (Option.some.inj hf)).2 dX4_readTerm_55
      · have hf := jif_f hc hf
        refine lv_aload_n hx hb dX4_readTerm_19 rfl (lv_at hl 0 rfl) ?_
        refine gf_X4_7 C hP wk_1_116 dX4_readTerm_20 ?_
        refine lv_bipush (v := (42 : Int32)) hx hb dX4_readTerm_23 (by decide) ?_
        refine lv_icmp_ne (tgt := 54) hx hb dX4_readTerm_25 (by decide) (fun hc => ?_) (fun hc => ?_)
        · have hf := jif_t hc hf
          refine lv_iconst (v := (1 : Int32)) hx hb dX4_readTerm_54 (by decide) ?_
          exact ret_z C hP hS bz_1 (Prod.mk.inj (Option.some.inj hf)).1 (Prod.mk.inj (Option.some.inj hf)).2 dX4_readTerm_55
        · have hf := jif_n hc hf
          refine lv_aload_n hx hb dX4_readTerm_28 rfl (lv_at hl 0 rfl) ?_
          obtain ⟨s2, hc, hf⟩ := jb_e hf
          refine r_cv (r_runV (As := []) (rest := []) C hP hS (va_recv C.hK hP (q0 := 3) (ci := 4) rfl (by rw [g_at oX_4.1, oX_4.2])) (k_X4_next (l := l) O hc) mw_X4_next mi_X4_next mv_X4_next wk_2_95 ⟨by show 10 + 1 ≤ F + 11; omega, by show 8 + (1 + 11) + 284 ≤ L + 464; omega⟩ ⟨rfl, rfl⟩ ⟨Nat.zero_le _, Nat.zero_le _⟩ rfl hl.1 rfl (Nat.le_of_ble_eq_true rfl) dX4_readTerm_29) hS (fun H locs hP hS => ?_)
          refine lv_aload_n hx hb dX4_readTerm_32 rfl (lv_at hl 0 rfl) ?_
          refine lv_iload_n hx hb dX4_readTerm_33 rfl (lv_at hl 1 rfl) ?_
          obtain ⟨y3, s4, hc, hf⟩ := jbp_e hf
          refine r_cz (r_runV (As := [.int v1]) (rest := []) C hP hS (va_recv C.hK hP (q0 := 3) (ci := 4) rfl (by rw [g_at oX_4.1, oX_4.2])) (HR.2.2.2.2.2 _ _ _ _ hc) mw_X4_readOne mi_X4_readOne mv_X4_readOne wk_2_168 ⟨by show F + 10 + 1 ≤ F + 11; omega, by show 8 + (2 + 11) + (L + 400) ≤ L + 464; omega⟩ ⟨rfl, rfl⟩ ⟨Nat.zero_le _, Nat.zero_le _⟩ rfl hl.1 rfl (Nat.le_of_ble_eq_true rfl) dX4_readTerm_34) hS (fun H locs hzy3 hP hS => ?_)
          refine lv_if_ne (tgt := 42) hx hb dX4_readTerm_37 (by decide) (fun hc => ?_) (fun hc => ?_)
          · have hf := jif_t hc hf
            refine lv_aload_n hx hb dX4_readTerm_42 rfl (lv_at hl 0 rfl) ?_
            refine lv_bipush (v := (-15 : Int32)) hx hb dX4_readTerm_43 (by decide) ?_
            obtain ⟨s6, hc, hf⟩ := jb_e hf
            refine r_cv (r_runV (As := [.int (-15 : Int32)]) (rest := []) C hP hS (va_recv C.hK hP (q0 := 3) (ci := 4) rfl (by rw [g_at oX_4.1, oX_4.2])) (k_X4_write (l := l) O hc) mw_X4_write mi_X4_write mv_X4_write wk_2_156 ⟨by show 0 + 1 ≤ F + 11; omega, by show 8 + (2 + 11) + 0 ≤ L + 464; omega⟩ ⟨rfl, rfl⟩ ⟨Nat.zero_le _, Nat.zero_le _⟩ rfl hl.1 rfl (Nat.le_of_ble_eq_true rfl) dX4_readTerm_45) hS (fun H locs hP hS => ?_)
            obtain ⟨y7, ey7, hf⟩ := jlet_e hf
            refine lv_iinc (v := y7) (lv' := [(2, .int y7), (0, .ref (a 3)), (1, .int v1)]) hx hb dX4_readTerm_48 hl (k := 2) rfl ey7 (by decide) rfl (fun ls hl => ?_)
            refine lv_goto (tgt := 12) hx hb dX4_readTerm_51 (by decide) ?_
            exact ih v1 y7 s6 H locs ls hf hP hS (lv_sub hl [1, 2, 0] rfl)
          · have hf := jif_n hc hf
            refine lv_iconst (v := (0 : Int32)) hx hb dX4_readTerm_40 (by decide) ?_
            exact ret_z C hP hS bz_0 (Prod.mk.inj (Option.some.inj hf)).1 (Prod.mk.inj (Option.some.inj hf)).2 dX4_readTerm_41
  refine lv_aload_n hx hb dX4_readTerm_0 rfl (lv_at hl 0 rfl) ?_
  refine lv_iload_n hx hb dX4_readTerm_1 rfl (lv_at hl 1 rfl) ?_
  obtain ⟨y1, s2, hc, hf⟩ := jbp_e hf
  refine r_cz (r_runV (As := [.int x1]) (rest := []) C hP hS (va_recv C.hK hP (q0 := 3) (ci := 4) rfl (by rw [g_at oX_4.1, oX_4.2])) (HR.2.2.2.2.2 _ _ _ _ hc) mw_X4_readOne mi_X4_readOne mv_X4_readOne wk_2_168 ⟨by show F + 10 + 1 ≤ F + 11; omega, by show 8 + (2 + 11) + (L + 400) ≤ L + 464; omega⟩ ⟨rfl, rfl⟩ ⟨Nat.zero_le _, Nat.zero_le _⟩ rfl hl.1 rfl (Nat.le_of_ble_eq_true rfl) dX4_readTerm_2) hS (fun H locs hzy1 hP hS => ?_)
  refine lv_if_ne (tgt := 10) hx hb dX4_readTerm_5 (by decide) (fun hc => ?_) (fun hc => ?_)
  · have hf := jif_t hc hf
    refine lv_iconst (v := (0 : Int32)) hx hb dX4_readTerm_10 (by decide) ?_
    refine lv_istore_n (lv' := [(2, .int (0 : Int32)), (0, .ref (a 3)), (1, .int x1)]) hx hb dX4_readTerm_11 rfl hl (by decide) rfl (fun ls hl => ?_)
    exact hL12 FU x1 (0 : Int32) s2 H locs ls hf hP hS (lv_sub hl [1, 2, 0] rfl)
  · have hf := jif_n hc hf
    refine lv_iconst (v := (0 : Int32)) hx hb dX4_readTerm_8 (by decide) ?_
    exact ret_z C hP hS bz_0 (Prod.mk.inj (Option.some.inj hf)).1 (Prod.mk.inj (Option.some.inj hf)).2 dX4_readTerm_9
set_option maxHeartbeats 4000000 in
set_option maxRecDepth 100000 in
theorem k_X4_readOne {l : Launch} {a : Nat → Nat} {cy : Nat → ClassId} {D : va_G} {ad : Nat → Nat} {A : Nat → Prop} (O : WO NX a (EHX ad A) A) (rc : Nat → Int32 → ST → Option (Int32 × ST)) (F L : Nat) (HR : HRD l a cy D ad A rc F L) {x1 : Int32} {r : Int32} {σ : ST} {σ' : ST} (hf : f_X4_readOne rc x1 σ = some (r, σ')) : Met l yX4_readOne (Cond.code yX4_readOne cX4_readOne 2 (some .boolean) :: WS) (rmk (F + 11) (L + 464)) (PC [.ref (a 3), .int x1] NX eX a cy D (EHX ad A) σ) (QZ NX eX a cy D A r σ') 0 0 A := by
  refine met_go (own := "GuardsLookLeft$Reader") O (by decide +kernel) rfl (Nat.le_of_ble_eq_true rfl) ?_
  intro p e s m args below meth c ls C hP hS hl
  have hx := C.hx
  have hb := C.hb
  have hl : lv_has ls 2 [(0, .ref (a 3)), (1, .int x1)] := hl
  obtain ⟨H, hH⟩ : ∃ H, H = s.heap := ⟨_, rfl⟩
  rw [← hH] at hP
  have hS : va_S A s.heap H [] := by rw [hH]; exact va_S.rf
  suffices g : W p l e (rmk (F + 11) (L + 464)) s m args below meth c H [] 0 0 (MQ below (QZ NX eX a cy D A r σ') args s 0 0 A) (F0 m 0 ls []) by rw [hH] at g; exact g
  clear hH
  obtain ⟨locs, hlocs⟩ : ∃ z : List Loc, z = [] := ⟨_, rfl⟩
  rw [← hlocs] at hS ⊢
  have hL16 : (∀ (s0 : ST) (H : Heap) (locs : List Loc) (ls : Array Slot), f_X4_readOne_L16 rc s0 = some (r, σ') → va_P D vwCl (wG NX eX a cy s0) H → va_S A s.heap H locs → lv_has ls 2 [(0, .ref (a 3))] → W p l e (rmk (F + 11) (L + 464)) s m args below meth c H locs 0 0 (MQ below (QZ NX eX a cy D A r σ') args s 0 0 A) (F0 m 16 ls [])) := by
    intro s0 H locs ls hf hP hS hl
    refine lv_aload_n hx hb dX4_readOne_16 rfl (lv_at hl 0 rfl) ?_
    refine lv_aload_n hx hb dX4_readOne_17 rfl (lv_at hl 0 rfl) ?_
    refine gf_X4_8 C hP wk_1_117 dX4_readOne_18 ?_
    obtain ⟨s2, hc, hf⟩ := jb_e hf
    refine r_cv (r_runV (As := [.int (gA s0 3 8)]) (rest := []) C hP hS (va_recv C.hK hP (q0 := 3) (ci := 4) rfl (by rw [g_at oX_4.1, oX_4.2])) (k_X4_write (l := l) O hc) mw_X4_write mi_X4_write mv_X4_write wk_2_156 ⟨by show 0 + 1 ≤ F + 11; omega, by show 8 + (2 + 11) + 0 ≤ L + 464; omega⟩ ⟨rfl, rfl⟩ ⟨Nat.zero_le _, Nat.zero_le _⟩ rfl hl.1 rfl (Nat.le_of_ble_eq_true rfl) dX4_readOne_21) hS (fun H locs hP hS => ?_)
    refine lv_aload_n hx hb dX4_readOne_24 rfl (lv_at hl 0 rfl) ?_
    obtain ⟨s4, hc, hf⟩ := jb_e hf
    refine r_cv (r_runV (As := []) (rest := []) C hP hS (va_recv C.hK hP (q0 := 3) (ci := 4) rfl (by rw [g_at oX_4.1, oX_4.2])) (k_X4_next (l := l) O hc) mw_X4_next mi_X4_next mv_X4_next wk_2_95 ⟨by show 10 + 1 ≤ F + 11; omega, by show 8 + (1 + 11) + 284 ≤ L + 464; omega⟩ ⟨rfl, rfl⟩ ⟨Nat.zero_le _, Nat.zero_le _⟩ rfl hl.1 rfl (Nat.le_of_ble_eq_true rfl) dX4_readOne_25) hS (fun H locs hP hS => ?_)
    refine lv_iconst (v := (1 : Int32)) hx hb dX4_readOne_28 (by decide) ?_
    exact ret_z C hP hS bz_1 (Prod.mk.inj (Option.some.inj hf)).1 (Prod.mk.inj (Option.some.inj hf)).2 dX4_readOne_29
  have hL48 : (∀ (v1 : Int32) (s0 : ST) (H : Heap) (locs : List Loc) (ls : Array Slot), f_X4_readOne_L48 rc v1 s0 = some (r, σ') → va_P D vwCl (wG NX eX a cy s0) H → va_S A s.heap H locs → lv_has ls 2 [(0, .ref (a 3)), (1, .int v1)] → W p l e (rmk (F + 11) (L + 464)) s m args below meth c H locs 0 0 (MQ below (QZ NX eX a cy D A r σ') args s 0 0 A) (F0 m 48 ls [])) := by
    intro v1 s0 H locs ls hf hP hS hl
    refine lv_iload_n hx hb dX4_readOne_48 rfl (lv_at hl 1 rfl) ?_
    refine lv_iconst (v := (5 : Int32)) hx hb dX4_readOne_49 (by decide) ?_
    refine lv_icmp_lt (tgt := 55) hx hb dX4_readOne_50 (by decide) (fun hc => ?_) (fun hc => ?_)
    · have hf := jif_t hc hf
      refine lv_aload_n hx hb dX4_readOne_55 rfl (lv_at hl 0 rfl) ?_
      refine gf_X4_7 C hP wk_1_116 dX4_readOne_56 ?_
      refine lv_bipush (v := (45 : Int32)) hx hb dX4_readOne_59 (by decide) ?_
      refine lv_icmp_ne (tgt := 88) hx hb dX4_readOne_61 (by decide) (fun hc => ?_) (fun hc => ?_)
      · have hf := jif_t hc hf
        refine lv_aload_n hx hb dX4_readOne_88 rfl (lv_at hl 0 rfl) ?_
        obtain ⟨s2, hc, hf⟩ := jb_e hf
        refine r_cv (r_runV (As := []) (rest := []) C hP hS (va_recv C.hK hP (q0 := 3) (ci := 4) rfl (by rw [g_at oX_4.1, oX_4.2])) (k_X4_next (l := l) O hc) mw_X4_next mi_X4_next mv_X4_next wk_2_95 ⟨by show 10 + 1 ≤ F + 11; omega, by show 8 + (1 + 11) + 284 ≤ L + 464; omega⟩ ⟨rfl, rfl⟩ ⟨Nat.zero_le _, Nat.zero_le _⟩ rfl hl.1 rfl (Nat.le_of_ble_eq_true rfl) dX4_readOne_89) hS (fun H locs hP hS => ?_)
        refine lv_aload_n hx hb dX4_readOne_92 rfl (lv_at hl 0 rfl) ?_
        refine lv_iload_n hx hb dX4_readOne_93 rfl (lv_at hl 1 rfl) ?_
        refine lv_iconst (v := (1 : Int32)) hx hb dX4_readOne_94 (by decide) ?_
        refine lv_iadd hx hb dX4_readOne_95 ?_
        obtain ⟨y3, s4, hc, hf⟩ := jbp_e hf
        refine r_cz (r_runV (As := [.int (v1 + (1 : Int32))]) (rest := []) C hP hS (va_recv C.hK hP (q0 := 3) (ci := 4) rfl (by rw [g_at oX_4.1, oX_4.2])) (HR.1 _ _ _ _ hc) mw_X4_readEither mi_X4_readEither mv_X4_readEither wk_2_144 ⟨by show F + 10 + 1 ≤ F + 11; omega, by show 8 + (3 + 11) + (L + 400) ≤ L + 464; omega⟩ ⟨rfl, rfl⟩ ⟨Nat.zero_le _, Nat.zero_le _⟩ rfl hl.1 rfl (Nat.le_of_ble_eq_true rfl) dX4_readOne_96) hS (fun H locs hzy3 hP hS => ?_)
        refine lv_if_eq (tgt := 111) hx hb dX4_readOne_99 (by decide) (fun hc => ?_) (fun hc => ?_)
        · have hf := jif_t hc hf
          refine lv_iconst (v := (0 : Int32)) hx hb dX4_readOne_111 (by decide) ?_
          exact ret_z C hP hS bz_0 (Prod.mk.inj (Option.some.inj hf)).1 (Prod.mk.inj (Option.some.inj hf)).2 dX4_readOne_112
        · have hf := jif_f hc hf
          refine lv_aload_n hx hb dX4_readOne_102 rfl (lv_at hl 0 rfl) ?_
          refine gf_X4_7 C hP wk_1_116 dX4_readOne_103 ?_
          refine lv_bipush (v := (41 : Int32)) hx hb dX4_readOne_106 (by decide) ?_
          refine lv_icmp_eq (tgt := 113) hx hb dX4_readOne_108 (by decide) (fun hc => ?_) (fun hc => ?_)
          · have hf := jif_t hc hf
            refine lv_aload_n hx hb dX4_readOne_113 rfl (lv_at hl 0 rfl) ?_
            obtain ⟨s6, hc, hf⟩ := jb_e hf
            refine r_cv (r_runV (As := []) (rest := []) C hP hS (va_recv C.hK hP (q0 := 3) (ci := 4) rfl (by rw [g_at oX_4.1, oX_4.2])) (k_X4_next (l := l) O hc) mw_X4_next mi_X4_next mv_X4_next wk_2_95 ⟨by show 10 + 1 ≤ F + 11; omega, by show 8 + (1 + 11) + 284 ≤ L + 464; omega⟩ ⟨rfl, rfl⟩ ⟨Nat.zero_le _, Nat.zero_le _⟩ rfl hl.1 rfl (Nat.le_of_ble_eq_true rfl) dX4_readOne_114) hS (fun H locs hP hS => ?_)
            refine lv_iconst (v := (1 : Int32)) hx hb dX4_readOne_117 (by decide) ?_
            exact ret_z C hP hS bz_1 (Prod.mk.inj (Option.some.inj hf)).1 (Prod.mk.inj (Option.some.inj hf)).2 dX4_readOne_118
          · have hf := jif_f hc hf
            refine lv_iconst (v := (0 : Int32)) hx hb dX4_readOne_111 (by decide) ?_
            exact ret_z C hP hS bz_0 (Prod.mk.inj (Option.some.inj hf)).1 (Prod.mk.inj (Option.some.inj hf)).2 dX4_readOne_112
      · have hf := jif_n hc hf
        refine lv_aload_n hx hb dX4_readOne_64 rfl (lv_at hl 0 rfl) ?_
        obtain ⟨s8, hc, hf⟩ := jb_e hf
        refine r_cv (r_runV (As := []) (rest := []) C hP hS (va_recv C.hK hP (q0 := 3) (ci := 4) rfl (by rw [g_at oX_4.1, oX_4.2])) (k_X4_next (l := l) O hc) mw_X4_next mi_X4_next mv_X4_next wk_2_95 ⟨by show 10 + 1 ≤ F + 11; omega, by show 8 + (1 + 11) + 284 ≤ L + 464; omega⟩ ⟨rfl, rfl⟩ ⟨Nat.zero_le _, Nat.zero_le _⟩ rfl hl.1 rfl (Nat.le_of_ble_eq_true rfl) dX4_readOne_65) hS (fun H locs hP hS => ?_)
        refine lv_aload_n hx hb dX4_readOne_68 rfl (lv_at hl 0 rfl) ?_
        refine lv_iload_n hx hb dX4_readOne_69 rfl (lv_at hl 1 rfl) ?_
        refine lv_iconst (v := (1 : Int32)) hx hb dX4_readOne_70 (by decide) ?_
        refine lv_iadd hx hb dX4_readOne_71 ?_
        obtain ⟨y9, s10, hc, hf⟩ := jbp_e hf
        refine r_cz (r_runV (As := [.int (v1 + (1 : Int32))]) (rest := []) C hP hS (va_recv C.hK hP (q0 := 3) (ci := 4) rfl (by rw [g_at oX_4.1, oX_4.2])) (HR.2.2.2.2.2 _ _ _ _ hc) mw_X4_readOne mi_X4_readOne mv_X4_readOne wk_2_168 ⟨by show F + 10 + 1 ≤ F + 11; omega, by show 8 + (2 + 11) + (L + 400) ≤ L + 464; omega⟩ ⟨rfl, rfl⟩ ⟨Nat.zero_le _, Nat.zero_le _⟩ rfl hl.1 rfl (Nat.le_of_ble_eq_true rfl) dX4_readOne_72) hS (fun H locs hzy9 hP hS => ?_)
        refine lv_if_ne (tgt := 80) hx hb dX4_readOne_75 (by decide) (fun hc => ?_) (fun hc => ?_)
        · have hf := jif_t hc hf
          refine lv_aload_n hx hb dX4_readOne_80 rfl (lv_at hl 0 rfl) ?_
          refine lv_bipush (v := (-8 : Int32)) hx hb dX4_readOne_81 (by decide) ?_
          obtain ⟨s12, hc, hf⟩ := jb_e hf
          refine r_cv (r_runV (As := [.int (-8 : Int32)]) (rest := []) C hP hS (va_recv C.hK hP (q0 := 3) (ci := 4) rfl (by rw [g_at oX_4.1, oX_4.2])) (k_X4_write (l := l) O hc) mw_X4_write mi_X4_write mv_X4_write wk_2_156 ⟨by show 0 + 1 ≤ F + 11; omega, by show 8 + (2 + 11) + 0 ≤ L + 464; omega⟩ ⟨rfl, rfl⟩ ⟨Nat.zero_le _, Nat.zero_le _⟩ rfl hl.1 rfl (Nat.le_of_ble_eq_true rfl) dX4_readOne_83) hS (fun H locs hP hS => ?_)
          refine lv_iconst (v := (1 : Int32)) hx hb dX4_readOne_86 (by decide) ?_
          exact ret_z C hP hS bz_1 (Prod.mk.inj (Option.some.inj hf)).1 (Prod.mk.inj (Option.some.inj hf)).2 dX4_readOne_87
        · have hf := jif_n hc hf
          refine lv_iconst (v := (0 : Int32)) hx hb dX4_readOne_78 (by decide) ?_
          exact ret_z C hP hS bz_0 (Prod.mk.inj (Option.some.inj hf)).1 (Prod.mk.inj (Option.some.inj hf)).2 dX4_readOne_79
    · have hf := jif_f hc hf
      refine lv_iconst (v := (0 : Int32)) hx hb dX4_readOne_53 (by decide) ?_
      exact ret_z C hP hS bz_0 (Prod.mk.inj (Option.some.inj hf)).1 (Prod.mk.inj (Option.some.inj hf)).2 dX4_readOne_54
  refine lv_aload_n hx hb dX4_readOne_0 rfl (lv_at hl 0 rfl) ?_
  refine gf_X4_7 C hP wk_1_116 dX4_readOne_1 ?_
  refine lv_iconst (v := (2 : Int32)) hx hb dX4_readOne_4 (by decide) ?_
  refine lv_icmp_eq (tgt := 16) hx hb dX4_readOne_5 (by decide) (fun hc => ?_) (fun hc => ?_)
  · have hf := jif_t hc hf
    exact hL16 σ H locs ls hf hP hS (lv_sub hl [0] rfl)
  · have hf := jif_f hc hf
    refine lv_aload_n hx hb dX4_readOne_8 rfl (lv_at hl 0 rfl) ?_
    refine gf_X4_7 C hP wk_1_116 dX4_readOne_9 ?_
    refine lv_iconst (v := (3 : Int32)) hx hb dX4_readOne_12 (by decide) ?_
    refine lv_icmp_ne (tgt := 30) hx hb dX4_readOne_13 (by decide) (fun hc => ?_) (fun hc => ?_)
    · have hf := jif_t hc hf
      refine lv_aload_n hx hb dX4_readOne_30 rfl (lv_at hl 0 rfl) ?_
      refine gf_X4_7 C hP wk_1_116 dX4_readOne_31 ?_
      refine lv_bipush (v := (45 : Int32)) hx hb dX4_readOne_34 (by decide) ?_
      refine lv_icmp_eq (tgt := 48) hx hb dX4_readOne_36 (by decide) (fun hc => ?_) (fun hc => ?_)
      · have hf := jif_t hc hf
        exact hL48 x1 σ H locs ls hf hP hS (lv_sub hl [0, 1] rfl)
      · have hf := jif_f hc hf
        refine lv_aload_n hx hb dX4_readOne_39 rfl (lv_at hl 0 rfl) ?_
        refine gf_X4_7 C hP wk_1_116 dX4_readOne_40 ?_
        refine lv_bipush (v := (40 : Int32)) hx hb dX4_readOne_43 (by decide) ?_
        refine lv_icmp_ne (tgt := 53) hx hb dX4_readOne_45 (by decide) (fun hc => ?_) (fun hc => ?_)
        · have hf := jif_t hc hf
          refine lv_iconst (v := (0 : Int32)) hx hb dX4_readOne_53 (by decide) ?_
          exact ret_z C hP hS bz_0 (Prod.mk.inj (Option.some.inj hf)).1 (Prod.mk.inj (Option.some.inj hf)).2 dX4_readOne_54
        · have hf := jif_n hc hf
          exact hL48 x1 σ H locs ls hf hP hS (lv_sub hl [0, 1] rfl)
    · have hf := jif_n hc hf
      exact hL16 σ H locs ls hf hP hS (lv_sub hl [0] rfl)
theorem k_RD {l : Launch} {a : Nat → Nat} {cy : Nat → ClassId} {D : va_G} {ad : Nat → Nat} {A : Nat → Prop} (O : WO NX a (EHX ad A) A) : ∀ n : Nat, HRD l a cy D ad A (f_RD n) n (64 * n) := by
  intro n
  induction n with
  | zero => exact ⟨fun x σ r σ' h => no_o h, fun x σ r σ' h => no_o h, fun x σ r σ' h => no_o h, fun x σ r σ' h => no_o h, fun x σ r σ' h => no_o h, fun x σ r σ' h => no_o h⟩
  | succ n ih => exact ⟨fun x σ r σ' h => rd_room (k_X4_readEither O (f_RD n) n (64 * n) ih h), fun x σ r σ' h => rd_room (k_X4_readBoth O (f_RD n) n (64 * n) ih h), fun x σ r σ' h => rd_room (k_X4_readNot O (f_RD n) n (64 * n) ih h), fun x σ r σ' h => rd_room (k_X4_readSum O (f_RD n) n (64 * n) ih h), fun x σ r σ' h => rd_room (k_X4_readTerm O (f_RD n) n (64 * n) ih h), fun x σ r σ' h => rd_room (k_X4_readOne O (f_RD n) n (64 * n) ih h)⟩
set_option maxHeartbeats 4000000 in
set_option maxRecDepth 100000 in
theorem k_X4_read {l : Launch} {a : Nat → Nat} {cy : Nat → ClassId} {D : va_G} {ad : Nat → Nat} {A : Nat → Prop} (O : WO NX a (EHX ad A) A) {r : Int32} {σ : ST} {σ' : ST} (hf : f_X4_read σ = some (r, σ')) : Met l yX4_read (Cond.code yX4_read cX4_read 2 (some .int) :: WS) (rmk 75 4518) (PC [.ref (a 3)] NX eX a cy D (EHX ad A) σ) (QI NX eX a cy D A r σ') 0 0 A := by
  refine met_go (own := "GuardsLookLeft$Reader") O (by decide +kernel) rfl (Nat.le_of_ble_eq_true rfl) ?_
  intro p e s m args below meth c ls C hP hS hl
  have hx := C.hx
  have hb := C.hb
  have hl : lv_has ls 2 [(0, .ref (a 3))] := hl
  obtain ⟨H, hH⟩ : ∃ H, H = s.heap := ⟨_, rfl⟩
  rw [← hH] at hP
  have hS : va_S A s.heap H [] := by rw [hH]; exact va_S.rf
  suffices g : W p l e (rmk 75 4518) s m args below meth c H [] 0 0 (MQ below (QI NX eX a cy D A r σ') args s 0 0 A) (F0 m 0 ls []) by rw [hH] at g; exact g
  clear hH
  obtain ⟨locs, hlocs⟩ : ∃ z : List Loc, z = [] := ⟨_, rfl⟩
  rw [← hlocs] at hS ⊢
  have hL59 : (∀ (s0 : ST) (H : Heap) (locs : List Loc) (ls : Array Slot), f_X4_read_L59 s0 = some (r, σ') → va_P D vwCl (wG NX eX a cy s0) H → va_S A s.heap H locs → lv_has ls 2 [(0, .ref (a 3))] → W p l e (rmk 75 4518) s m args below meth c H locs 0 0 (MQ below (QI NX eX a cy D A r σ') args s 0 0 A) (F0 m 59 ls [])) := by
    intro s0 H locs ls hf hP hS hl
    refine lv_aload_n hx hb dX4_read_59 rfl (lv_at hl 0 rfl) ?_
    refine gf_X4_5 C hP wk_1_114 dX4_read_60 ?_
    exact ret_i C hP hS (Prod.mk.inj (Option.some.inj hf)).1 (Prod.mk.inj (Option.some.inj hf)).2 dX4_read_63
  have hL16 : ∀ (n : Nat), (∀ (v1 : Int32) (s0 : ST) (H : Heap) (locs : List Loc) (ls : Array Slot), f_X4_read_L16 n v1 s0 = some (r, σ') → va_P D vwCl (wG NX eX a cy s0) H → va_S A s.heap H locs → lv_has ls 2 [(0, .ref (a 3)), (1, .int v1)] → W p l e (rmk 75 4518) s m args below meth c H locs 0 0 (MQ below (QI NX eX a cy D A r σ') args s 0 0 A) (F0 m 16 ls [])) := by
    intro n
    induction n with
    | zero => intro v1 s0 H locs ls hf hP hS hl; exact no_o hf
    | succ n ih =>
      intro v1 s0 H locs ls hf hP hS hl
      have hf := (ef_X4_read_L16 _ _).symm.trans hf
      refine lv_iload_n hx hb dX4_read_16 rfl (lv_at hl 1 rfl) ?_
      refine lv_iconst (v := (3 : Int32)) hx hb dX4_read_17 (by decide) ?_
      refine lv_icmp_ge (tgt := 84) hx hb dX4_read_18 (by decide) (fun hc => ?_) (fun hc => ?_)
      · have hf := jif_t hc hf
        refine lv_aload_n hx hb dX4_read_84 rfl (lv_at hl 0 rfl) ?_
        refine gf_X4_7 C hP wk_1_116 dX4_read_85 ?_
        refine lv_if_ne (tgt := 95) hx hb dX4_read_88 (by decide) (fun hc => ?_) (fun hc => ?_)
        · have hf := jif_t hc hf
          refine lv_aload_n hx hb dX4_read_95 rfl (lv_at hl 0 rfl) ?_
          refine gf_X4_5 C hP wk_1_114 dX4_read_96 ?_
          exact ret_i C hP hS (Prod.mk.inj (Option.some.inj hf)).1 (Prod.mk.inj (Option.some.inj hf)).2 dX4_read_99
        · have hf := jif_n hc hf
          refine lv_iconst (v := (-1 : Int32)) hx hb dX4_read_91 (by decide) ?_
          refine lv_goto (tgt := 99) hx hb dX4_read_92 (by decide) ?_
          exact ret_i C hP hS (Prod.mk.inj (Option.some.inj hf)).1 (Prod.mk.inj (Option.some.inj hf)).2 dX4_read_99
      · have hf := jif_f hc hf
        refine lv_aload_n hx hb dX4_read_21 rfl (lv_at hl 0 rfl) ?_
        refine gf_X4_7 C hP wk_1_116 dX4_read_22 ?_
        refine va_gets hx hb C.hV.2.2.2.2.2.1.1 hS C.hown (C.ts _ wk_2_142) (fun _ h => h) dX4_read_25 ?_
        refine lv_iload_n hx hb dX4_read_28 rfl (lv_at hl 1 rfl) ?_
        obtain ⟨hi1, hf⟩ := jix_e hf
        refine va_ti hx hb C.hV.2.2.2.2.2.1.2 hS hi1 (v := .int (tab2.getD (Int32.toNatClampNeg v1) 0)) rfl dX4_read_29 ?_
        refine lv_icmp_eq (tgt := 38) hx hb dX4_read_30 (by decide) (fun hc => ?_) (fun hc => ?_)
        · have hf := jif_t hc hf
          refine lv_aload_n hx hb dX4_read_38 rfl (lv_at hl 0 rfl) ?_
          obtain ⟨s3, hc, hf⟩ := jb_e hf
          refine r_cv (r_runV (As := []) (rest := []) C hP hS (va_recv C.hK hP (q0 := 3) (ci := 4) rfl (by rw [g_at oX_4.1, oX_4.2])) (k_X4_next (l := l) O hc) mw_X4_next mi_X4_next mv_X4_next wk_2_95 ⟨Nat.le_of_ble_eq_true rfl, Nat.le_of_ble_eq_true rfl⟩ ⟨rfl, rfl⟩ ⟨Nat.zero_le _, Nat.zero_le _⟩ rfl hl.1 rfl (Nat.le_of_ble_eq_true rfl) dX4_read_39) hS (fun H locs hP hS => ?_)
          refine lv_aload_n hx hb dX4_read_42 rfl (lv_at hl 0 rfl) ?_
          refine lv_iconst (v := (0 : Int32)) hx hb dX4_read_43 (by decide) ?_
          obtain ⟨y4, s5, hc, hf⟩ := jbp_e hf
          refine r_cz (r_runV (As := [.int (0 : Int32)]) (rest := []) C hP hS (va_recv C.hK hP (q0 := 3) (ci := 4) rfl (by rw [g_at oX_4.1, oX_4.2])) ((k_RD (l := l) O RDF).1 _ _ _ _ hc) mw_X4_readEither mi_X4_readEither mv_X4_readEither wk_2_144 ⟨Nat.le_of_ble_eq_true rfl, Nat.le_of_ble_eq_true rfl⟩ ⟨rfl, rfl⟩ ⟨Nat.zero_le _, Nat.zero_le _⟩ rfl hl.1 rfl (Nat.le_of_ble_eq_true rfl) dX4_read_44) hS (fun H locs hzy4 hP hS => ?_)
          refine lv_if_eq (tgt := 59) hx hb dX4_read_47 (by decide) (fun hc => ?_) (fun hc => ?_)
          · have hf := jif_t hc hf
            exact hL59 s5 H locs ls hf hP hS (lv_sub hl [0] rfl)
          · have hf := jif_f hc hf
            refine lv_aload_n hx hb dX4_read_50 rfl (lv_at hl 0 rfl) ?_
            refine gf_X4_7 C hP wk_1_116 dX4_read_51 ?_
            refine lv_bipush (v := (59 : Int32)) hx hb dX4_read_54 (by decide) ?_
            refine lv_icmp_eq (tgt := 64) hx hb dX4_read_56 (by decide) (fun hc => ?_) (fun hc => ?_)
            · have hf := jif_t hc hf
              refine lv_aload_n hx hb dX4_read_64 rfl (lv_at hl 0 rfl) ?_
              obtain ⟨s7, hc, hf⟩ := jb_e hf
              refine r_cv (r_runV (As := []) (rest := []) C hP hS (va_recv C.hK hP (q0 := 3) (ci := 4) rfl (by rw [g_at oX_4.1, oX_4.2])) (k_X4_next (l := l) O hc) mw_X4_next mi_X4_next mv_X4_next wk_2_95 ⟨Nat.le_of_ble_eq_true rfl, Nat.le_of_ble_eq_true rfl⟩ ⟨rfl, rfl⟩ ⟨Nat.zero_le _, Nat.zero_le _⟩ rfl hl.1 rfl (Nat.le_of_ble_eq_true rfl) dX4_read_65) hS (fun H locs hP hS => ?_)
              refine lv_aload_n hx hb dX4_read_68 rfl (lv_at hl 0 rfl) ?_
              refine gf_X4_3 C hP wk_1_111 dX4_read_69 ?_
              refine lv_iload_n hx hb dX4_read_72 rfl (lv_at hl 1 rfl) ?_
              refine lv_aload_n hx hb dX4_read_73 rfl (lv_at hl 0 rfl) ?_
              refine gf_X4_4 C hP wk_1_113 dX4_read_74 ?_
              obtain ⟨hi8, hf⟩ := jix_e hf
              refine r_iast C hP hS aX_23 hi8 dX4_read_77 hf (fun H locs s9 hf hP hS => ?_)
              obtain ⟨y10, ey10, hf⟩ := jlet_e hf
              refine lv_iinc (v := y10) (lv' := [(1, .int y10), (0, .ref (a 3))]) hx hb dX4_read_78 hl (k := 1) rfl ey10 (by decide) rfl (fun ls hl => ?_)
              refine lv_goto (tgt := 16) hx hb dX4_read_81 (by decide) ?_
              exact ih y10 s9 H locs ls hf hP hS (lv_sub hl [1, 0] rfl)
            · have hf := jif_f hc hf
              exact hL59 s5 H locs ls hf hP hS (lv_sub hl [0] rfl)
        · have hf := jif_f hc hf
          refine lv_aload_n hx hb dX4_read_33 rfl (lv_at hl 0 rfl) ?_
          refine gf_X4_5 C hP wk_1_114 dX4_read_34 ?_
          exact ret_i C hP hS (Prod.mk.inj (Option.some.inj hf)).1 (Prod.mk.inj (Option.some.inj hf)).2 dX4_read_37
  refine lv_aload_n hx hb dX4_read_0 rfl (lv_at hl 0 rfl) ?_
  refine lv_iconst (v := (0 : Int32)) hx hb dX4_read_1 (by decide) ?_
  refine pf_X4_4 C hP hS wk_1_113 dX4_read_2 hf (fun H locs s1 hf hP hS => ?_)
  refine lv_aload_n hx hb dX4_read_5 rfl (lv_at hl 0 rfl) ?_
  refine lv_iconst (v := (0 : Int32)) hx hb dX4_read_6 (by decide) ?_
  refine pf_X4_6 C hP hS wk_1_115 dX4_read_7 hf (fun H locs s2 hf hP hS => ?_)
  refine lv_aload_n hx hb dX4_read_10 rfl (lv_at hl 0 rfl) ?_
  obtain ⟨s4, hc, hf⟩ := jb_e hf
  refine r_cv (r_runV (As := []) (rest := []) C hP hS (va_recv C.hK hP (q0 := 3) (ci := 4) rfl (by rw [g_at oX_4.1, oX_4.2])) (k_X4_next (l := l) O hc) mw_X4_next mi_X4_next mv_X4_next wk_2_95 ⟨Nat.le_of_ble_eq_true rfl, Nat.le_of_ble_eq_true rfl⟩ ⟨rfl, rfl⟩ ⟨Nat.zero_le _, Nat.zero_le _⟩ rfl hl.1 rfl (Nat.le_of_ble_eq_true rfl) dX4_read_11) hS (fun H locs hP hS => ?_)
  refine lv_iconst (v := (0 : Int32)) hx hb dX4_read_14 (by decide) ?_
  refine lv_istore_n (lv' := [(1, .int (0 : Int32)), (0, .ref (a 3))]) hx hb dX4_read_15 rfl hl (by decide) rfl (fun ls hl => ?_)
  exact hL16 FU (0 : Int32) s4 H locs ls hf hP hS (lv_sub hl [1, 0] rfl)
