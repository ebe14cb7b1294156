set_option maxHeartbeats 4000000 in
set_option maxRecDepth 100000 in
theorem k_X0_greatest {l : Launch} {a : Nat → Nat} {cy : Nat → ClassId} {D : va_G} {ad : Nat → Nat} {A : Nat → Prop} (O : WO NX a (EHX ad A) A) {o1 : Nat} {x2 : Int64} {r : Int32} {σ : ST} {σ' : ST} (ho1 : 40 ≤ o1 ∧ o1 < 42) (hf : f_X0_greatest o1 x2 σ = some (r, σ')) : Met l yX0_greatest (Cond.code yX0_greatest cX0_greatest 8 (some .int) :: WS) (rmk 0 0) (PC [.ref (a 6), .ref (a o1), .long x2] NX eX a cy D (EHX ad A) σ) (QI NX eX a cy D A r σ') 0 0 A := by
  refine met_go (own := "GuardsLookLeft$Gaps") O (by decide +kernel) rfl (Nat.le_of_ble_eq_true rfl) ?_
  intro p e s m args below meth c ls C hP hS hl
  have hx := C.hx
  have hb := C.hb
  have hl : lv_has ls 8 [(0, .ref (a 6)), (1, .ref (a o1)), (2, .long x2)] := hl
  obtain ⟨H, hH⟩ : ∃ H, H = s.heap := ⟨_, rfl⟩
  rw [← hH] at hP
  have hS : va_S A s.heap H [] := by rw [hH]; exact va_S.rf
  suffices g : W p l e (rmk 0 0) s m args below meth c H [] 0 0 (MQ below (QI NX eX a cy D A r σ') args s 0 0 A) (F0 m 0 ls []) by rw [hH] at g; exact g
  clear hH
  obtain ⟨locs, hlocs⟩ : ∃ z : List Loc, z = [] := ⟨_, rfl⟩
  rw [← hlocs] at hS ⊢
  have hL54 : ∀ (k41 : Nat → Int32 → ST → Option (Int32 × ST)) (hk41 : (∀ (o1 : Nat) (ho1 : 40 ≤ o1 ∧ o1 < 42) (v4 : Int32) (s0 : ST) (H : Heap) (locs : List Loc) (ls : Array Slot), k41 o1 v4 s0 = some (r, σ') → va_P D vwCl (wG NX eX a cy s0) H → va_S A s.heap H locs → lv_has ls 8 [(0, .ref (a 6)), (1, .ref (a o1)), (4, .int v4)] → W p l e (rmk 0 0) s m args below meth c H locs 0 0 (MQ below (QI NX eX a cy D A r σ') args s 0 0 A) (F0 m 41 ls []))) (n : Nat), (∀ (o1 : Nat) (ho1 : 40 ≤ o1 ∧ o1 < 42) (v4 : Int32) (v5 : Int64) (v7 : Int32) (s0 : ST) (H : Heap) (locs : List Loc) (ls : Array Slot), f_X0_greatest_L54 k41 n o1 v4 v5 v7 s0 = some (r, σ') → va_P D vwCl (wG NX eX a cy s0) H → va_S A s.heap H locs → lv_has ls 8 [(0, .ref (a 6)), (1, .ref (a o1)), (4, .int v4), (5, .long v5), (7, .int v7)] → W p l e (rmk 0 0) s m args below meth c H locs 0 0 (MQ below (QI NX eX a cy D A r σ') args s 0 0 A) (F0 m 54 ls [])) := by
    intro k41 hk41 n
    induction n with
    | zero => intro o1 ho1 v4 v5 v7 s0 H locs ls hf hP hS hl; exact no_o hf
    | succ n ih =>
      intro o1 ho1 v4 v5 v7 s0 H locs ls hf hP hS hl
      have hf := (ef_X0_greatest_L54 k41 _ _ _ _ _).symm.trans hf
      refine lv_iload hx hb dX0_greatest_54 (lv_at hl 4 rfl) ?_
      refine lv_bipush (v := (24 : Int32)) hx hb dX0_greatest_56 (by decide) ?_
      refine lv_icmp_ge (tgt := 105) hx hb dX0_greatest_58 (by decide) (fun hc => ?_) (fun hc => ?_)
      · have hf := jif_t hc hf
        refine lv_lload hx hb dX0_greatest_105 (lv_at hl 3 rfl) ?_
        refine lv_lconst (v := (0 : Int64)) hx hb dX0_greatest_107 (by decide) ?_
        refine lc_ne C (tgt := 115) dX0_greatest_108 dX0_greatest_109 (by decide) (fun hc => ?_) (fun hc => ?_)
        · have hf := jif_t hc hf
          refine lv_aload_n hx hb dX0_greatest_115 rfl (lv_at hl 0 rfl) ?_
          refine lv_lload hx hb dX0_greatest_116 (lv_at hl 3 rfl) ?_
          refine pf_X0_0 C hP hS wk_1_212 dX0_greatest_118 hf (fun H locs s1 hf hP hS => ?_)
          obtain ⟨y2, ey2, hf⟩ := jlet_e hf
          refine lv_iinc (v := y2) (lv' := [(4, .int y2), (0, .ref (a 6)), (1, .ref (a o1)), (5, .long v5), (7, .int v7)]) hx hb dX0_greatest_121 hl (k := 2) rfl ey2 (by decide) rfl (fun ls hl => ?_)
          refine lv_goto (tgt := 41) hx hb dX0_greatest_124 (by decide) ?_
          exact hk41 o1 ho1 y2 s1 H locs ls hf hP hS (lv_sub hl [1, 2, 0] rfl)
        · have hf := jif_n hc hf
          refine lv_iload hx hb dX0_greatest_112 (lv_at hl 2 rfl) ?_
          exact ret_i C hP hS (Prod.mk.inj (Option.some.inj hf)).1 (Prod.mk.inj (Option.some.inj hf)).2 dX0_greatest_114
      · have hf := jif_f hc hf
        refine lv_lload hx hb dX0_greatest_61 (lv_at hl 3 rfl) ?_
        refine lv_aload_n hx hb dX0_greatest_63 rfl (lv_at hl 0 rfl) ?_
        refine gf_X0_1 C hP wk_1_214 dX0_greatest_64 ?_
        refine lv_iload hx hb dX0_greatest_67 (lv_at hl 4 rfl) ?_
        obtain ⟨hi3, hf⟩ := jix_e hf
        refine r_lald C hP aX_49 hi3 dX0_greatest_69 ?_
        refine lv_lor hx hb dX0_greatest_70 ?_
        refine jl_topl hf (fun y4 hf => ?_)
        refine lv_lstore (lv' := [(5, .long y4), (0, .ref (a 6)), (1, .ref (a o1)), (4, .int v4), (7, .int v7)]) hx hb dX0_greatest_71 hl (by decide) rfl (fun ls hl => ?_)
        refine lv_aload_n hx hb dX0_greatest_73 rfl (lv_at hl 1 rfl) ?_
        refine gf_X0_1 C hP wk_1_214 dX0_greatest_74 ?_
        refine lv_iload hx hb dX0_greatest_77 (lv_at hl 4 rfl) ?_
        refine lv_dup2_11 hx hb dX0_greatest_79 rfl rfl ?_
        obtain ⟨hi5, hf⟩ := jix_e hf
        refine r_lald C hP aX_49 hi5 dX0_greatest_80 ?_
        refine lv_aload_n hx hb dX0_greatest_81 rfl (lv_at hl 2 rfl) ?_
        refine lv_iload hx hb dX0_greatest_82 (lv_at hl 4 rfl) ?_
        refine lv_iload hx hb dX0_greatest_84 (lv_at hl 3 rfl) ?_
        refine lv_iadd hx hb dX0_greatest_86 ?_
        refine lv_iconst (v := (1 : Int32)) hx hb dX0_greatest_87 (by decide) ?_
        refine lv_iadd hx hb dX0_greatest_88 ?_
        refine lv_bipush (v := (24 : Int32)) hx hb dX0_greatest_89 (by decide) ?_
        refine r_irem C dX0_greatest_91 (by decide) ?_
        obtain ⟨hi6, hf⟩ := jix_e hf
        refine r_lald C hP (fX_40 ho1) hi6 dX0_greatest_92 ?_
        refine lv_ldc2 hx hb C.hown (C.ts _ wk_3_159) dX0_greatest_93 ?_
        refine lv_lxor hx hb dX0_greatest_96 ?_
        refine lv_land hx hb dX0_greatest_97 ?_
        obtain ⟨hi7, hf⟩ := jix_e hf
        refine r_last C hP hS aX_49 hi7 dX0_greatest_98 hf (fun H locs s8 hf hP hS => ?_)
        obtain ⟨y9, ey9, hf⟩ := jlet_e hf
        refine lv_iinc (v := y9) (lv' := [(7, .int y9), (5, .long y4), (0, .ref (a 6)), (1, .ref (a o1)), (4, .int v4)]) hx hb dX0_greatest_99 hl (k := 4) rfl ey9 (by decide) rfl (fun ls hl => ?_)
        refine lv_goto (tgt := 54) hx hb dX0_greatest_102 (by decide) ?_
        exact ih o1 ho1 v4 y4 y9 s8 H locs ls hf hP hS (lv_sub hl [2, 3, 4, 1, 0] rfl)
  have hL41 : ∀ (n : Nat), (∀ (o1 : Nat) (ho1 : 40 ≤ o1 ∧ o1 < 42) (v4 : Int32) (s0 : ST) (H : Heap) (locs : List Loc) (ls : Array Slot), f_X0_greatest_L41 n o1 v4 s0 = some (r, σ') → va_P D vwCl (wG NX eX a cy s0) H → va_S A s.heap H locs → lv_has ls 8 [(0, .ref (a 6)), (1, .ref (a o1)), (4, .int v4)] → W p l e (rmk 0 0) s m args below meth c H locs 0 0 (MQ below (QI NX eX a cy D A r σ') args s 0 0 A) (F0 m 41 ls [])) := by
    intro n
    induction n with
    | zero => intro o1 ho1 v4 s0 H locs ls hf hP hS hl; exact no_o hf
    | succ n ih =>
      intro o1 ho1 v4 s0 H locs ls hf hP hS hl
      have hf := (ef_X0_greatest_L41 _ _ _).symm.trans hf
      refine lv_iload hx hb dX0_greatest_41 (lv_at hl 2 rfl) ?_
      refine lv_bipush (v := (24 : Int32)) hx hb dX0_greatest_43 (by decide) ?_
      refine lv_icmp_ge (tgt := 127) hx hb dX0_greatest_45 (by decide) (fun hc => ?_) (fun hc => ?_)
      · have hf := jif_t hc hf
        refine lv_bipush (v := (24 : Int32)) hx hb dX0_greatest_127 (by decide) ?_
        exact ret_i C hP hS (Prod.mk.inj (Option.some.inj hf)).1 (Prod.mk.inj (Option.some.inj hf)).2 dX0_greatest_129
      · have hf := jif_f hc hf
        refine lv_lconst (v := (0 : Int64)) hx hb dX0_greatest_48 (by decide) ?_
        refine lv_lstore (lv' := [(5, .long (0 : Int64)), (0, .ref (a 6)), (1, .ref (a o1)), (4, .int v4)]) hx hb dX0_greatest_49 hl (by decide) rfl (fun ls hl => ?_)
        refine lv_iconst (v := (0 : Int32)) hx hb dX0_greatest_51 (by decide) ?_
        refine lv_istore (lv' := [(7, .int (0 : Int32)), (5, .long (0 : Int64)), (0, .ref (a 6)), (1, .ref (a o1)), (4, .int v4)]) hx hb dX0_greatest_52 hl (by decide) rfl (fun ls hl => ?_)
        exact hL54 (f_X0_greatest_L41 n) ih FU o1 ho1 v4 (0 : Int64) (0 : Int32) s0 H locs ls hf hP hS (lv_sub hl [2, 3, 4, 1, 0] rfl)
  have hL8 : ∀ (n : Nat), (∀ (o1 : Nat) (ho1 : 40 ≤ o1 ∧ o1 < 42) (v2 : Int64) (v4 : Int32) (s0 : ST) (H : Heap) (locs : List Loc) (ls : Array Slot), f_X0_greatest_L8 n o1 v2 v4 s0 = some (r, σ') → va_P D vwCl (wG NX eX a cy s0) H → va_S A s.heap H locs → lv_has ls 8 [(0, .ref (a 6)), (1, .ref (a o1)), (2, .long v2), (4, .int v4)] → W p l e (rmk 0 0) s m args below meth c H locs 0 0 (MQ below (QI NX eX a cy D A r σ') args s 0 0 A) (F0 m 8 ls [])) := by
    intro n
    induction n with
    | zero => intro o1 ho1 v2 v4 s0 H locs ls hf hP hS hl; exact no_o hf
    | succ n ih =>
      intro o1 ho1 v2 v4 s0 H locs ls hf hP hS hl
      have hf := (ef_X0_greatest_L8 _ _ _ _).symm.trans hf
      refine lv_iload hx hb dX0_greatest_8 (lv_at hl 3 rfl) ?_
      refine lv_bipush (v := (24 : Int32)) hx hb dX0_greatest_10 (by decide) ?_
      refine lv_icmp_ge (tgt := 38) hx hb dX0_greatest_12 (by decide) (fun hc => ?_) (fun hc => ?_)
      · have hf := jif_t hc hf
        refine lv_iconst (v := (0 : Int32)) hx hb dX0_greatest_38 (by decide) ?_
        refine lv_istore (lv' := [(4, .int (0 : Int32)), (0, .ref (a 6)), (1, .ref (a o1)), (2, .long v2)]) hx hb dX0_greatest_39 hl (by decide) rfl (fun ls hl => ?_)
        exact hL41 FU o1 ho1 (0 : Int32) s0 H locs ls hf hP hS (lv_sub hl [1, 2, 0] rfl)
      · have hf := jif_f hc hf
        refine lv_aload_n hx hb dX0_greatest_15 rfl (lv_at hl 0 rfl) ?_
        refine gf_X0_1 C hP wk_1_214 dX0_greatest_16 ?_
        refine lv_iload hx hb dX0_greatest_19 (lv_at hl 3 rfl) ?_
        refine lv_lload_n hx hb dX0_greatest_21 rfl (lv_at hl 2 rfl) ?_
        refine lv_aload_n hx hb dX0_greatest_22 rfl (lv_at hl 1 rfl) ?_
        refine lv_iload hx hb dX0_greatest_23 (lv_at hl 3 rfl) ?_
        obtain ⟨hi1, hf⟩ := jix_e hf
        refine r_lald C hP (fX_40 ho1) hi1 dX0_greatest_25 ?_
        refine lv_ldc2 hx hb C.hown (C.ts _ wk_3_159) dX0_greatest_26 ?_
        refine lv_lxor hx hb dX0_greatest_29 ?_
        refine lv_land hx hb dX0_greatest_30 ?_
        obtain ⟨hi2, hf⟩ := jix_e hf
        refine r_last C hP hS aX_49 hi2 dX0_greatest_31 hf (fun H locs s3 hf hP hS => ?_)
        obtain ⟨y4, ey4, hf⟩ := jlet_e hf
        refine lv_iinc (v := y4) (lv' := [(4, .int y4), (0, .ref (a 6)), (1, .ref (a o1)), (2, .long v2)]) hx hb dX0_greatest_32 hl (k := 3) rfl ey4 (by decide) rfl (fun ls hl => ?_)
        refine lv_goto (tgt := 8) hx hb dX0_greatest_35 (by decide) ?_
        exact ih o1 ho1 v2 y4 s3 H locs ls hf hP hS (lv_sub hl [1, 2, 3, 0] rfl)
  refine lv_aload_n hx hb dX0_greatest_0 rfl (lv_at hl 0 rfl) ?_
  refine lv_lload_n hx hb dX0_greatest_1 rfl (lv_at hl 2 rfl) ?_
  refine pf_X0_0 C hP hS wk_1_212 dX0_greatest_2 hf (fun H locs s1 hf hP hS => ?_)
  refine lv_iconst (v := (0 : Int32)) hx hb dX0_greatest_5 (by decide) ?_
  refine lv_istore (lv' := [(4, .int (0 : Int32)), (0, .ref (a 6)), (1, .ref (a o1)), (2, .long x2)]) hx hb dX0_greatest_6 hl (by decide) rfl (fun ls hl => ?_)
  exact hL8 FU o1 ho1 x2 (0 : Int32) s1 H locs ls hf hP hS (lv_sub hl [1, 2, 3, 0] rfl)
set_option maxHeartbeats 4000000 in
set_option maxRecDepth 100000 in
theorem k_X1_add {l : Launch} {a : Nat → Nat} {cy : Nat → ClassId} {D : va_G} {ad : Nat → Nat} {A : Nat → Prop} (O : WO NX a (EHX ad A) A) {x1 : Int32} {x2 : Int32} {x3 : Int32} {x4 : Int32} {x5 : Int32} {r : Int32} {σ : ST} {σ' : ST} (hf : f_X1_add x1 x2 x3 x4 x5 σ = some (r, σ')) : Met l yX1_add (Cond.code yX1_add cX1_add 6 (some .int) :: WS) (rmk 0 0) (PC [.ref (a 2), .int x1, .int x2, .int x3, .int x4, .int x5] NX eX a cy D (EHX ad A) σ) (QI NX eX a cy D A r σ') 0 0 A := by
  refine met_go (own := "GuardsLookLeft$Guards") O (by decide +kernel) rfl (Nat.le_of_ble_eq_true rfl) ?_
  intro p e s m args below meth c ls C hP hS hl
  have hx := C.hx
  have hb := C.hb
  have hl : lv_has ls 6 [(0, .ref (a 2)), (1, .int x1), (2, .int x2), (3, .int x3), (4, .int x4), (5, .int x5)] := hl
  obtain ⟨H, hH⟩ : ∃ H, H = s.heap := ⟨_, rfl⟩
  rw [← hH] at hP
  have hS : va_S A s.heap H [] := by rw [hH]; exact va_S.rf
  suffices g : W p l e (rmk 0 0) s m args below meth c H [] 0 0 (MQ below (QI NX eX a cy D A r σ') args s 0 0 A) (F0 m 0 ls []) by rw [hH] at g; exact g
  clear hH
  obtain ⟨locs, hlocs⟩ : ∃ z : List Loc, z = [] := ⟨_, rfl⟩
  rw [← hlocs] at hS ⊢
  refine lv_aload_n hx hb dX1_add_0 rfl (lv_at hl 0 rfl) ?_
  refine gf_X1_6 C hP wk_1_65 dX1_add_1 ?_
  refine lv_iconst (v := (5 : Int32)) hx hb dX1_add_4 (by decide) ?_
  refine lv_icmp_lt (tgt := 11) hx hb dX1_add_5 (by decide) (fun hc => ?_) (fun hc => ?_)
  · have hf := jif_t hc hf
    refine lv_aload_n hx hb dX1_add_11 rfl (lv_at hl 0 rfl) ?_
    refine gf_X1_0 C hP wk_1_49 dX1_add_12 ?_
    refine lv_aload_n hx hb dX1_add_15 rfl (lv_at hl 0 rfl) ?_
    refine gf_X1_6 C hP wk_1_65 dX1_add_16 ?_
    refine lv_iload_n hx hb dX1_add_19 rfl (lv_at hl 1 rfl) ?_
    obtain ⟨hi1, hf⟩ := jix_e hf
    refine r_iast C hP hS aX_15 hi1 dX1_add_20 hf (fun H locs s2 hf hP hS => ?_)
    refine lv_aload_n hx hb dX1_add_21 rfl (lv_at hl 0 rfl) ?_
    refine gf_X1_1 C hP wk_1_51 dX1_add_22 ?_
    refine lv_aload_n hx hb dX1_add_25 rfl (lv_at hl 0 rfl) ?_
    refine gf_X1_6 C hP wk_1_65 dX1_add_26 ?_
    refine lv_iload_n hx hb dX1_add_29 rfl (lv_at hl 2 rfl) ?_
    obtain ⟨hi3, hf⟩ := jix_e hf
    refine r_iast C hP hS aX_16 hi3 dX1_add_30 hf (fun H locs s4 hf hP hS => ?_)
    refine lv_aload_n hx hb dX1_add_31 rfl (lv_at hl 0 rfl) ?_
    refine gf_X1_2 C hP wk_1_53 dX1_add_32 ?_
    refine lv_aload_n hx hb dX1_add_35 rfl (lv_at hl 0 rfl) ?_
    refine gf_X1_6 C hP wk_1_65 dX1_add_36 ?_
    refine lv_iload_n hx hb dX1_add_39 rfl (lv_at hl 3 rfl) ?_
    obtain ⟨hi5, hf⟩ := jix_e hf
    refine r_iast C hP hS aX_17 hi5 dX1_add_40 hf (fun H locs s6 hf hP hS => ?_)
    refine lv_aload_n hx hb dX1_add_41 rfl (lv_at hl 0 rfl) ?_
    refine gf_X1_3 C hP wk_1_55 dX1_add_42 ?_
    refine lv_aload_n hx hb dX1_add_45 rfl (lv_at hl 0 rfl) ?_
    refine gf_X1_6 C hP wk_1_65 dX1_add_46 ?_
    refine lv_iload hx hb dX1_add_49 (lv_at hl 5 rfl) ?_
    obtain ⟨hi7, hf⟩ := jix_e hf
    refine r_iast C hP hS aX_18 hi7 dX1_add_51 hf (fun H locs s8 hf hP hS => ?_)
    refine lv_aload_n hx hb dX1_add_52 rfl (lv_at hl 0 rfl) ?_
    refine gf_X1_4 C hP wk_1_58 dX1_add_53 ?_
    refine lv_aload_n hx hb dX1_add_56 rfl (lv_at hl 0 rfl) ?_
    refine gf_X1_6 C hP wk_1_65 dX1_add_57 ?_
    refine lv_iload hx hb dX1_add_60 (lv_at hl 4 rfl) ?_
    obtain ⟨hi9, hf⟩ := jix_e hf
    refine r_iast C hP hS aX_19 hi9 dX1_add_62 hf (fun H locs s10 hf hP hS => ?_)
    refine lv_aload_n hx hb dX1_add_63 rfl (lv_at hl 0 rfl) ?_
    refine gf_X1_5 C hP wk_1_61 dX1_add_64 ?_
    refine lv_aload_n hx hb dX1_add_67 rfl (lv_at hl 0 rfl) ?_
    refine gf_X1_6 C hP wk_1_65 dX1_add_68 ?_
    refine lv_iconst (v := (0 : Int32)) hx hb dX1_add_71 (by decide) ?_
    obtain ⟨hi11, hf⟩ := jix_e hf
    refine r_iast C hP hS aX_20 hi11 dX1_add_72 hf (fun H locs s12 hf hP hS => ?_)
    refine lv_aload_n hx hb dX1_add_73 rfl (lv_at hl 0 rfl) ?_
    refine lv_dup hx hb dX1_add_74 rfl ?_
    refine gf_X1_6 C hP wk_1_65 dX1_add_75 ?_
    refine lv_dup_x1 hx hb dX1_add_78 rfl rfl ?_
    refine lv_iconst (v := (1 : Int32)) hx hb dX1_add_79 (by decide) ?_
    refine lv_iadd hx hb dX1_add_80 ?_
    refine pf_X1_6 C hP hS wk_1_65 dX1_add_81 hf (fun H locs s13 hf hP hS => ?_)
    exact ret_i C hP hS (Prod.mk.inj (Option.some.inj hf)).1 (Prod.mk.inj (Option.some.inj hf)).2 dX1_add_84
  · have hf := jif_f hc hf
    refine lv_bipush (v := (-4 : Int32)) hx hb dX1_add_8 (by decide) ?_
    exact ret_i C hP hS (Prod.mk.inj (Option.some.inj hf)).1 (Prod.mk.inj (Option.some.inj hf)).2 dX1_add_10
set_option maxHeartbeats 4000000 in
set_option maxRecDepth 100000 in
theorem k_X1_isOf {l : Launch} {a : Nat → Nat} {cy : Nat → ClassId} {D : va_G} {ad : Nat → Nat} {A : Nat → Prop} (O : WO NX a (EHX ad A) A) {x1 : Int32} {x2 : Int32} {r : Int32} {σ : ST} (hf : f_X1_isOf x1 x2 σ = some r) : Met l yX1_isOf (Cond.code yX1_isOf cX1_isOf 3 (some .boolean) :: WS) (rmk 0 0) (PC [.ref (a 2), .int x1, .int x2] NX eX a cy D (EHX ad A) σ) (QZ NX eX a cy D A r σ) 0 0 A := by
  refine met_go (own := "GuardsLookLeft$Guards") O (by decide +kernel) rfl (Nat.le_of_ble_eq_true rfl) ?_
  intro p e s m args below meth c ls C hP hS hl
  have hx := C.hx
  have hb := C.hb
  have hl : lv_has ls 3 [(0, .ref (a 2)), (1, .int x1), (2, .int x2)] := hl
  obtain ⟨H, hH⟩ : ∃ H, H = s.heap := ⟨_, rfl⟩
  rw [← hH] at hP
  have hS : va_S A s.heap H [] := by rw [hH]; exact va_S.rf
  suffices g : W p l e (rmk 0 0) s m args below meth c H [] 0 0 (MQ below (QZ NX eX a cy D A r σ) args s 0 0 A) (F0 m 0 ls []) by rw [hH] at g; exact g
  clear hH
  obtain ⟨locs, hlocs⟩ : ∃ z : List Loc, z = [] := ⟨_, rfl⟩
  rw [← hlocs] at hS ⊢
  refine lv_iload_n hx hb dX1_isOf_0 rfl (lv_at hl 2 rfl) ?_
  refine lv_if_eq (tgt := 28) hx hb dX1_isOf_1 (by decide) (fun hc => ?_) (fun hc => ?_)
  · have hf := jif_t hc hf
    refine lv_iconst (v := (1 : Int32)) hx hb dX1_isOf_28 (by decide) ?_
    refine lv_goto (tgt := 33) hx hb dX1_isOf_29 (by decide) ?_
    exact ret_z C hP hS bz_1 (Option.some.inj hf) rfl dX1_isOf_33
  · have hf := jif_f hc hf
    refine lv_iload_n hx hb dX1_isOf_4 rfl (lv_at hl 2 rfl) ?_
    refine lv_aload_n hx hb dX1_isOf_5 rfl (lv_at hl 0 rfl) ?_
    refine gf_X1_0 C hP wk_1_49 dX1_isOf_6 ?_
    refine lv_iload_n hx hb dX1_isOf_9 rfl (lv_at hl 1 rfl) ?_
    obtain ⟨hi1, hf⟩ := jix_e hf
    refine r_iald C hP aX_15 hi1 dX1_isOf_10 ?_
    refine lv_icmp_eq (tgt := 28) hx hb dX1_isOf_11 (by decide) (fun hc => ?_) (fun hc => ?_)
    · have hf := jif_t hc hf
      refine lv_iconst (v := (1 : Int32)) hx hb dX1_isOf_28 (by decide) ?_
      refine lv_goto (tgt := 33) hx hb dX1_isOf_29 (by decide) ?_
      exact ret_z C hP hS bz_1 (Option.some.inj hf) rfl dX1_isOf_33
    · have hf := jif_f hc hf
      refine lv_iload_n hx hb dX1_isOf_14 rfl (lv_at hl 2 rfl) ?_
      refine va_gets hx hb C.hV.2.2.2.1.1 hS C.hown (C.ts _ wk_4_142) (fun _ h => h) dX1_isOf_15 ?_
      refine lv_aload_n hx hb dX1_isOf_18 rfl (lv_at hl 0 rfl) ?_
      refine gf_X1_0 C hP wk_1_49 dX1_isOf_19 ?_
      refine lv_iload_n hx hb dX1_isOf_22 rfl (lv_at hl 1 rfl) ?_
      obtain ⟨hi2, hf⟩ := jix_e hf
      refine r_iald C hP aX_15 hi2 dX1_isOf_23 ?_
      obtain ⟨hi3, hf⟩ := jix_e hf
      refine va_ti hx hb C.hV.2.2.2.1.2 hS hi3 (v := .int (tab0.getD (Int32.toNatClampNeg (gA σ 15 (Int32.toNatClampNeg x1))) 0)) rfl dX1_isOf_24 ?_
      refine lv_icmp_ne (tgt := 32) hx hb dX1_isOf_25 (by decide) (fun hc => ?_) (fun hc => ?_)
      · have hf := jif_t hc hf
        refine lv_iconst (v := (0 : Int32)) hx hb dX1_isOf_32 (by decide) ?_
        exact ret_z C hP hS bz_0 (Option.some.inj hf) rfl dX1_isOf_33
      · have hf := jif_n hc hf
        refine lv_iconst (v := (1 : Int32)) hx hb dX1_isOf_28 (by decide) ?_
        refine lv_goto (tgt := 33) hx hb dX1_isOf_29 (by decide) ?_
        exact ret_z C hP hS bz_1 (Option.some.inj hf) rfl dX1_isOf_33
set_option maxHeartbeats 4000000 in
set_option maxRecDepth 100000 in
theorem k_X9_beside {l : Launch} {a : Nat → Nat} {cy : Nat → ClassId} {D : va_G} {ad : Nat → Nat} {A : Nat → Prop} (O : WO NX a (EHX ad A) A) {x1 : Int32} {x2 : Int32} {r : Int32} {σ : ST} (hf : f_X9_beside x1 x2 = r) : Met l yX9_beside (Cond.code yX9_beside cX9_beside 2 (some .int) :: WS) (rmk 0 0) (PC [.int x1, .int x2] NX eX a cy D (EHX ad A) σ) (QI NX eX a cy D A r σ) 0 0 A := by
  refine met_go (own := "GuardsLookLeft") O (by decide +kernel) rfl (Nat.le_of_ble_eq_true rfl) ?_
  intro p e s m args below meth c ls C hP hS hl
  have hx := C.hx
  have hb := C.hb
  have hl : lv_has ls 2 [(0, .int x1), (1, .int x2)] := hl
  obtain ⟨H, hH⟩ : ∃ H, H = s.heap := ⟨_, rfl⟩
  rw [← hH] at hP
  have hS : va_S A s.heap H [] := by rw [hH]; exact va_S.rf
  suffices g : W p l e (rmk 0 0) s m args below meth c H [] 0 0 (MQ below (QI NX eX a cy D A r σ) args s 0 0 A) (F0 m 0 ls []) by rw [hH] at g; exact g
  clear hH
  obtain ⟨locs, hlocs⟩ : ∃ z : List Loc, z = [] := ⟨_, rfl⟩
  rw [← hlocs] at hS ⊢
  refine lv_iload_n hx hb dX9_beside_0 rfl (lv_at hl 1 rfl) ?_
  by_cases hk100 : x2 = (0 : Int32)
  · have hf := jif_t hk100 hf
    refine sw_in (k := (0 : Int32)) (tgt := 28) C hk100 dX9_beside_1 (by decide) (by decide) rfl (by decide) ?_
    refine lv_iload_n hx hb dX9_beside_28 rfl (lv_at hl 0 rfl) ?_
    refine lv_bipush (v := (6 : Int32)) hx hb dX9_beside_29 (by decide) ?_
    refine lv_idiv hx hb dX9_beside_31 (by decide) ?_
    refine lv_iconst (v := (5 : Int32)) hx hb dX9_beside_32 (by decide) ?_
    refine lv_icmp_ge (tgt := 43) hx hb dX9_beside_33 (by decide) (fun hc => ?_) (fun hc => ?_)
    · have hf := jif_t hc hf
      refine lv_iconst (v := (-1 : Int32)) hx hb dX9_beside_43 (by decide) ?_
      exact ret_i C hP hS hf rfl dX9_beside_44
    · have hf := jif_f hc hf
      refine lv_iload_n hx hb dX9_beside_36 rfl (lv_at hl 0 rfl) ?_
      refine lv_bipush (v := (6 : Int32)) hx hb dX9_beside_37 (by decide) ?_
      refine lv_iadd hx hb dX9_beside_39 ?_
      refine lv_goto (tgt := 44) hx hb dX9_beside_40 (by decide) ?_
      exact ret_i C hP hS hf rfl dX9_beside_44
  · have hf := jif_f hk100 hf
    by_cases hk101 : x2 = (1 : Int32)
    · have hf := jif_t hk101 hf
      refine sw_in (k := (1 : Int32)) (tgt := 45) C hk101 dX9_beside_1 (by decide) (by decide) rfl (by decide) ?_
      refine lv_iload_n hx hb dX9_beside_45 rfl (lv_at hl 0 rfl) ?_
      refine lv_bipush (v := (6 : Int32)) hx hb dX9_beside_46 (by decide) ?_
      refine r_irem C dX9_beside_48 (by decide) ?_
      refine lv_iconst (v := (5 : Int32)) hx hb dX9_beside_49 (by decide) ?_
      refine lv_icmp_ge (tgt := 59) hx hb dX9_beside_50 (by decide) (fun hc => ?_) (fun hc => ?_)
      · have hf := jif_t hc hf
        refine lv_iconst (v := (-1 : Int32)) hx hb dX9_beside_59 (by decide) ?_
        exact ret_i C hP hS hf rfl dX9_beside_60
      · have hf := jif_f hc hf
        refine lv_iload_n hx hb dX9_beside_53 rfl (lv_at hl 0 rfl) ?_
        refine lv_iconst (v := (1 : Int32)) hx hb dX9_beside_54 (by decide) ?_
        refine lv_iadd hx hb dX9_beside_55 ?_
        refine lv_goto (tgt := 60) hx hb dX9_beside_56 (by decide) ?_
        exact ret_i C hP hS hf rfl dX9_beside_60
    · have hf := jif_f hk101 hf
      by_cases hk102 : x2 = (2 : Int32)
      · have hf := jif_t hk102 hf
        refine sw_in (k := (2 : Int32)) (tgt := 61) C hk102 dX9_beside_1 (by decide) (by decide) rfl (by decide) ?_
        refine lv_iload_n hx hb dX9_beside_61 rfl (lv_at hl 0 rfl) ?_
        refine lv_bipush (v := (6 : Int32)) hx hb dX9_beside_62 (by decide) ?_
        refine lv_idiv hx hb dX9_beside_64 (by decide) ?_
        refine lv_if_le (tgt := 75) hx hb dX9_beside_65 (by decide) (fun hc => ?_) (fun hc => ?_)
        · have hf := jif_t hc hf
          refine lv_iconst (v := (-1 : Int32)) hx hb dX9_beside_75 (by decide) ?_
          exact ret_i C hP hS hf rfl dX9_beside_76
        · have hf := jif_f hc hf
          refine lv_iload_n hx hb dX9_beside_68 rfl (lv_at hl 0 rfl) ?_
          refine lv_bipush (v := (6 : Int32)) hx hb dX9_beside_69 (by decide) ?_
          refine lv_isub hx hb dX9_beside_71 ?_
          refine lv_goto (tgt := 76) hx hb dX9_beside_72 (by decide) ?_
          exact ret_i C hP hS hf rfl dX9_beside_76
      · have hf := jif_f hk102 hf
        refine lv_tableOut (tgt := 77) hx hb dX9_beside_1 (by have q100 := lv_neT hk100 (a := 0) (by decide); have q101 := lv_neT hk101 (a := 1) (by decide); have q102 := lv_neT hk102 (a := 2) (by decide); omega) (by decide) ?_
        refine lv_iload_n hx hb dX9_beside_77 rfl (lv_at hl 0 rfl) ?_
        refine lv_bipush (v := (6 : Int32)) hx hb dX9_beside_78 (by decide) ?_
        refine r_irem C dX9_beside_80 (by decide) ?_
        refine lv_if_le (tgt := 90) hx hb dX9_beside_81 (by decide) (fun hc => ?_) (fun hc => ?_)
        · have hf := jif_t hc hf
          refine lv_iconst (v := (-1 : Int32)) hx hb dX9_beside_90 (by decide) ?_
          exact ret_i C hP hS hf rfl dX9_beside_91
        · have hf := jif_f hc hf
          refine lv_iload_n hx hb dX9_beside_84 rfl (lv_at hl 0 rfl) ?_
          refine lv_iconst (v := (1 : Int32)) hx hb dX9_beside_85 (by decide) ?_
          refine lv_isub hx hb dX9_beside_86 ?_
          refine lv_goto (tgt := 91) hx hb dX9_beside_87 (by decide) ?_
          exact ret_i C hP hS hf rfl dX9_beside_91
set_option maxHeartbeats 4000000 in
set_option maxRecDepth 100000 in
theorem k_X9_isIn {l : Launch} {a : Nat → Nat} {cy : Nat → ClassId} {D : va_G} {ad : Nat → Nat} {A : Nat → Prop} (O : WO NX a (EHX ad A) A) {x1 : Int64} {x2 : Int32} {r : Int32} {σ : ST} (hf : f_X9_isIn x1 x2 = r) : Met l yX9_isIn (Cond.code yX9_isIn cX9_isIn 3 (some .boolean) :: WS) (rmk 0 0) (PC [.long x1, .int x2] NX eX a cy D (EHX ad A) σ) (QZ NX eX a cy D A r σ) 0 0 A := by
  refine met_go (own := "GuardsLookLeft") O (by decide +kernel) rfl (Nat.le_of_ble_eq_true rfl) ?_
  intro p e s m args below meth c ls C hP hS hl
  have hx := C.hx
  have hb := C.hb
  have hl : lv_has ls 3 [(0, .long x1), (2, .int x2)] := hl
  obtain ⟨H, hH⟩ : ∃ H, H = s.heap := ⟨_, rfl⟩
  rw [← hH] at hP
  have hS : va_S A s.heap H [] := by rw [hH]; exact va_S.rf
  suffices g : W p l e (rmk 0 0) s m args below meth c H [] 0 0 (MQ below (QZ NX eX a cy D A r σ) args s 0 0 A) (F0 m 0 ls []) by rw [hH] at g; exact g
  clear hH
  obtain ⟨locs, hlocs⟩ : ∃ z : List Loc, z = [] := ⟨_, rfl⟩
  rw [← hlocs] at hS ⊢
  refine lv_lload_n hx hb dX9_isIn_0 rfl (lv_at hl 0 rfl) ?_
  refine lv_iload_n hx hb dX9_isIn_1 rfl (lv_at hl 1 rfl) ?_
  refine r_lushr C dX9_isIn_2 ?_
  refine lv_lconst (v := (1 : Int64)) hx hb dX9_isIn_3 (by decide) ?_
  refine lv_land hx hb dX9_isIn_4 ?_
  refine lv_lconst (v := (0 : Int64)) hx hb dX9_isIn_5 (by decide) ?_
  refine lc_eq C (tgt := 14) dX9_isIn_6 dX9_isIn_7 (by decide) (fun hc => ?_) (fun hc => ?_)
  · have hf := jif_t hc hf
    refine lv_iconst (v := (0 : Int32)) hx hb dX9_isIn_14 (by decide) ?_
    exact ret_z C hP hS bz_0 hf rfl dX9_isIn_15
  · have hf := jif_f hc hf
    refine lv_iconst (v := (1 : Int32)) hx hb dX9_isIn_10 (by decide) ?_
    refine lv_goto (tgt := 15) hx hb dX9_isIn_11 (by decide) ?_
    exact ret_z C hP hS bz_1 hf rfl dX9_isIn_15
set_option maxHeartbeats 4000000 in
set_option maxRecDepth 100000 in
theorem k_X1_beat {l : Launch} {a : Nat → Nat} {cy : Nat → ClassId} {D : va_G} {ad : Nat → Nat} {A : Nat → Prop} (O : WO NX a (EHX ad A) A) {x1 : Int32} {x2 : Int64} {r : Int32} {σ : ST} (hf : f_X1_beat x1 x2 σ = some r) : Met l yX1_beat (Cond.code yX1_beat cX1_beat 6 (some .int) :: WS) (rmk 1 22) (PC [.ref (a 2), .int x1, .long x2] NX eX a cy D (EHX ad A) σ) (QI NX eX a cy D A r σ) 0 0 A := by
  refine met_go (own := "GuardsLookLeft$Guards") O (by decide +kernel) rfl (Nat.le_of_ble_eq_true rfl) ?_
  intro p e s m args below meth c ls C hP hS hl
  have hx := C.hx
  have hb := C.hb
  have hl : lv_has ls 6 [(0, .ref (a 2)), (1, .int x1), (2, .long x2)] := hl
  obtain ⟨H, hH⟩ : ∃ H, H = s.heap := ⟨_, rfl⟩
  rw [← hH] at hP
  have hS : va_S A s.heap H [] := by rw [hH]; exact va_S.rf
  suffices g : W p l e (rmk 1 22) s m args below meth c H [] 0 0 (MQ below (QI NX eX a cy D A r σ) args s 0 0 A) (F0 m 0 ls []) by rw [hH] at g; exact g
  clear hH
  obtain ⟨locs, hlocs⟩ : ∃ z : List Loc, z = [] := ⟨_, rfl⟩
  rw [← hlocs] at hS ⊢
  have hL11 : ∀ (n : Nat), (∀ (v1 : Int32) (v2 : Int64) (v4 : Int32) (v5 : Int32) (H : Heap) (locs : List Loc) (ls : Array Slot), f_X1_beat_L11 n v1 v2 v4 v5 σ = some r → va_P D vwCl (wG NX eX a cy σ) H → va_S A s.heap H locs → lv_has ls 6 [(0, .ref (a 2)), (1, .int v1), (2, .long v2), (4, .int v4), (5, .int v5)] → W p l e (rmk 1 22) s m args below meth c H locs 0 0 (MQ below (QI NX eX a cy D A r σ) args s 0 0 A) (F0 m 11 ls [])) := by
    intro n
    induction n with
    | zero => intro v1 v2 v4 v5 H locs ls hf hP hS hl; exact no_o hf
    | succ n ih =>
      intro v1 v2 v4 v5 H locs ls hf hP hS hl
      have hf := (ef_X1_beat_L11 _ _ _ _ _).symm.trans hf
      refine lv_iload hx hb dX1_beat_11 (lv_at hl 4 rfl) ?_
      refine lv_aload_n hx hb dX1_beat_13 rfl (lv_at hl 0 rfl) ?_
      refine gf_X1_4 C hP wk_1_58 dX1_beat_14 ?_
      refine lv_iload_n hx hb dX1_beat_17 rfl (lv_at hl 1 rfl) ?_
      obtain ⟨hi1, hf⟩ := jix_e hf
      refine r_iald C hP aX_19 hi1 dX1_beat_18 ?_
      refine lv_icmp_ge (tgt := 59) hx hb dX1_beat_19 (by decide) (fun hc => ?_) (fun hc => ?_)
      · have hf := jif_t hc hf
        refine lv_aload_n hx hb dX1_beat_59 rfl (lv_at hl 0 rfl) ?_
        refine gf_X1_4 C hP wk_1_58 dX1_beat_60 ?_
        refine lv_iload_n hx hb dX1_beat_63 rfl (lv_at hl 1 rfl) ?_
        obtain ⟨hi2, hf⟩ := jix_e hf
        refine r_iald C hP aX_19 hi2 dX1_beat_64 ?_
        exact ret_i C hP hS (Option.some.inj hf) rfl dX1_beat_65
      · have hf := jif_f hc hf
        refine lv_iload hx hb dX1_beat_22 (lv_at hl 3 rfl) ?_
        refine lv_aload_n hx hb dX1_beat_24 rfl (lv_at hl 0 rfl) ?_
        refine gf_X1_2 C hP wk_1_53 dX1_beat_25 ?_
        refine lv_iload_n hx hb dX1_beat_28 rfl (lv_at hl 1 rfl) ?_
        obtain ⟨hi3, hf⟩ := jix_e hf
        refine r_iald C hP aX_17 hi3 dX1_beat_29 ?_
        refine r_ci (r_runSN (As := [.int v4, .int (gA σ 17 (Int32.toNatClampNeg v1))]) (rest := []) C hP hS (k_X9_beside (l := l) O (σ := σ) rfl) mw_X9_beside ms_X9_beside (C.hV.1 _ nw_8) ⟨Nat.le_of_ble_eq_true rfl, Nat.le_of_ble_eq_true rfl⟩ ⟨rfl, rfl⟩ ⟨Nat.zero_le _, Nat.zero_le _⟩ rfl hl.1 rfl (Nat.le_of_ble_eq_true rfl) dX1_beat_30) hS (fun H locs hP hS => ?_)
        refine jl_topi hf (fun y4 hf => ?_)
        refine lv_istore (lv' := [(4, .int y4), (0, .ref (a 2)), (1, .int v1), (2, .long v2), (5, .int v5)]) hx hb dX1_beat_33 hl (by decide) rfl (fun ls hl => ?_)
        refine lv_iload hx hb dX1_beat_35 (lv_at hl 0 rfl) ?_
        refine lv_iconst (v := (-1 : Int32)) hx hb dX1_beat_37 (by decide) ?_
        refine lv_icmp_eq (tgt := 50) hx hb dX1_beat_38 (by decide) (fun hc => ?_) (fun hc => ?_)
        · have hf := jif_t hc hf
          refine lv_iload hx hb dX1_beat_50 (lv_at hl 4 rfl) ?_
          exact ret_i C hP hS (Option.some.inj hf) rfl dX1_beat_52
        · have hf := jif_f hc hf
          refine lv_lload_n hx hb dX1_beat_41 rfl (lv_at hl 3 rfl) ?_
          refine lv_iload hx hb dX1_beat_42 (lv_at hl 0 rfl) ?_
          refine r_cz (r_runSN (As := [.long v2, .int y4]) (rest := []) C hP hS (k_X9_isIn (l := l) O (σ := σ) rfl) mw_X9_isIn ms_X9_isIn (C.hV.1 _ nw_9) ⟨Nat.le_of_ble_eq_true rfl, Nat.le_of_ble_eq_true rfl⟩ ⟨rfl, rfl⟩ ⟨Nat.zero_le _, Nat.zero_le _⟩ rfl hl.1 rfl (Nat.le_of_ble_eq_true rfl) dX1_beat_44) hS (fun H locs hzy6 hP hS => ?_)
          refine jl_topz hf hzy6 (fun y6 hzy6 hf => ?_)
          refine lv_if_eq (tgt := 53) hx hb dX1_beat_47 (by decide) (fun hc => ?_) (fun hc => ?_)
          · have hf := jif_t hc hf
            obtain ⟨y8, ey8, hf⟩ := jlet_e hf
            refine lv_iinc (v := y8) (lv' := [(5, .int y8), (4, .int y4), (0, .ref (a 2)), (1, .int v1), (2, .long v2)]) hx hb dX1_beat_53 hl (k := 4) rfl ey8 (by decide) rfl (fun ls hl => ?_)
            refine lv_goto (tgt := 11) hx hb dX1_beat_56 (by decide) ?_
            exact ih v1 v2 y4 y8 H locs ls hf hP hS (lv_sub hl [2, 3, 4, 1, 0] rfl)
          · have hf := jif_f hc hf
            refine lv_iload hx hb dX1_beat_50 (lv_at hl 4 rfl) ?_
            exact ret_i C hP hS (Option.some.inj hf) rfl dX1_beat_52
  refine lv_aload_n hx hb dX1_beat_0 rfl (lv_at hl 0 rfl) ?_
  refine gf_X1_1 C hP wk_1_51 dX1_beat_1 ?_
  refine lv_iload_n hx hb dX1_beat_4 rfl (lv_at hl 1 rfl) ?_
  obtain ⟨hi1, hf⟩ := jix_e hf
  refine r_iald C hP aX_16 hi1 dX1_beat_5 ?_
  refine jl_topi hf (fun y2 hf => ?_)
  refine lv_istore (lv' := [(4, .int y2), (0, .ref (a 2)), (1, .int x1), (2, .long x2)]) hx hb dX1_beat_6 hl (by decide) rfl (fun ls hl => ?_)
  refine lv_iconst (v := (0 : Int32)) hx hb dX1_beat_8 (by decide) ?_
  refine lv_istore (lv' := [(5, .int (0 : Int32)), (4, .int y2), (0, .ref (a 2)), (1, .int x1), (2, .long x2)]) hx hb dX1_beat_9 hl (by decide) rfl (fun ls hl => ?_)
  exact hL11 FU x1 x2 y2 (0 : Int32) H locs ls hf hP hS (lv_sub hl [2, 3, 4, 1, 0] rfl)
set_option maxHeartbeats 4000000 in
set_option maxRecDepth 100000 in
theorem k_X1_steps {l : Launch} {a : Nat → Nat} {cy : Nat → ClassId} {D : va_G} {ad : Nat → Nat} {A : Nat → Prop} (O : WO NX a (EHX ad A) A) {x1 : Int32} {x2 : Int32} {r : Int32} {σ : ST} (hf : f_X1_steps x1 x2 = r) : Met l yX1_steps (Cond.code yX1_steps cX1_steps 2 (some .int) :: WS) (rmk 0 0) (PC [.int x1, .int x2] NX eX a cy D (EHX ad A) σ) (QI NX eX a cy D A r σ) 0 0 A := by
  refine met_go (own := "GuardsLookLeft$Guards") O (by decide +kernel) rfl (Nat.le_of_ble_eq_true rfl) ?_
  intro p e s m args below meth c ls C hP hS hl
  have hx := C.hx
  have hb := C.hb
  have hl : lv_has ls 2 [(0, .int x1), (1, .int x2)] := hl
  obtain ⟨H, hH⟩ : ∃ H, H = s.heap := ⟨_, rfl⟩
  rw [← hH] at hP
  have hS : va_S A s.heap H [] := by rw [hH]; exact va_S.rf
  suffices g : W p l e (rmk 0 0) s m args below meth c H [] 0 0 (MQ below (QI NX eX a cy D A r σ) args s 0 0 A) (F0 m 0 ls []) by rw [hH] at g; exact g
  clear hH
  obtain ⟨locs, hlocs⟩ : ∃ z : List Loc, z = [] := ⟨_, rfl⟩
  rw [← hlocs] at hS ⊢
  refine lv_iload_n hx hb dX1_steps_0 rfl (lv_at hl 0 rfl) ?_
  by_cases hk101 : x1 = (1 : Int32)
  · have hf := jif_t hk101 hf
    refine sw_in (k := (1 : Int32)) (tgt := 36) C hk101 dX1_steps_1 (by decide) (by decide) rfl (by decide) ?_
    refine lv_iconst (v := (0 : Int32)) hx hb dX1_steps_36 (by decide) ?_
    exact ret_i C hP hS hf rfl dX1_steps_37
  · have hf := jif_f hk101 hf
    by_cases hk102 : x1 = (2 : Int32)
    · have hf := jif_t hk102 hf
      refine sw_in (k := (2 : Int32)) (tgt := 38) C hk102 dX1_steps_1 (by decide) (by decide) rfl (by decide) ?_
      refine lv_iload_n hx hb dX1_steps_38 rfl (lv_at hl 1 rfl) ?_
      refine lv_iconst (v := (2 : Int32)) hx hb dX1_steps_39 (by decide) ?_
      refine lv_idiv hx hb dX1_steps_40 (by decide) ?_
      exact ret_i C hP hS hf rfl dX1_steps_41
    · have hf := jif_f hk102 hf
      by_cases hk103 : x1 = (3 : Int32)
      · have hf := jif_t hk103 hf
        refine sw_in (k := (3 : Int32)) (tgt := 36) C hk103 dX1_steps_1 (by decide) (by decide) rfl (by decide) ?_
        refine lv_iconst (v := (0 : Int32)) hx hb dX1_steps_36 (by decide) ?_
        exact ret_i C hP hS hf rfl dX1_steps_37
      · have hf := jif_f hk103 hf
        by_cases hk104 : x1 = (4 : Int32)
        · have hf := jif_t hk104 hf
          refine sw_in (k := (4 : Int32)) (tgt := 38) C hk104 dX1_steps_1 (by decide) (by decide) rfl (by decide) ?_
          refine lv_iload_n hx hb dX1_steps_38 rfl (lv_at hl 1 rfl) ?_
          refine lv_iconst (v := (2 : Int32)) hx hb dX1_steps_39 (by decide) ?_
          refine lv_idiv hx hb dX1_steps_40 (by decide) ?_
          exact ret_i C hP hS hf rfl dX1_steps_41
        · have hf := jif_f hk104 hf
          by_cases hk105 : x1 = (5 : Int32)
          · have hf := jif_t hk105 hf
            refine sw_in (k := (5 : Int32)) (tgt := 42) C hk105 dX1_steps_1 (by decide) (by decide) rfl (by decide) ?_
            refine lv_iload_n hx hb dX1_steps_42 rfl (lv_at hl 1 rfl) ?_
            refine lv_iconst (v := (2 : Int32)) hx hb dX1_steps_43 (by decide) ?_
            refine lv_imul hx hb dX1_steps_44 ?_
            exact ret_i C hP hS hf rfl dX1_steps_45
          · have hf := jif_f hk105 hf
            refine lv_tableOut (tgt := 46) hx hb dX1_steps_1 (by have q101 := lv_neT hk101 (a := 1) (by decide); have q102 := lv_neT hk102 (a := 2) (by decide); have q103 := lv_neT hk103 (a := 3) (by decide); have q104 := lv_neT hk104 (a := 4) (by decide); have q105 := lv_neT hk105 (a := 5) (by decide); omega) (by decide) ?_
            refine lv_iload_n hx hb dX1_steps_46 rfl (lv_at hl 1 rfl) ?_
            exact ret_i C hP hS hf rfl dX1_steps_47
set_option maxHeartbeats 4000000 in
set_option maxRecDepth 100000 in
theorem k_X1_isLooking {l : Launch} {a : Nat → Nat} {cy : Nat → ClassId} {D : va_G} {ad : Nat → Nat} {A : Nat → Prop} (O : WO NX a (EHX ad A) A) {x1 : Int32} {x2 : Int32} {r : Int32} {σ : ST} (hf : f_X1_isLooking x1 x2 σ = some r) : Met l yX1_isLooking (Cond.code yX1_isLooking cX1_isLooking 3 (some .boolean) :: WS) (rmk 0 0) (PC [.ref (a 2), .int x1, .int x2] NX eX a cy D (EHX ad A) σ) (QZ NX eX a cy D A r σ) 0 0 A := by
  refine met_go (own := "GuardsLookLeft$Guards") O (by decide +kernel) rfl (Nat.le_of_ble_eq_true rfl) ?_
  intro p e s m args below meth c ls C hP hS hl
  have hx := C.hx
  have hb := C.hb
  have hl : lv_has ls 3 [(0, .ref (a 2)), (1, .int x1), (2, .int x2)] := hl
  obtain ⟨H, hH⟩ : ∃ H, H = s.heap := ⟨_, rfl⟩
  rw [← hH] at hP
  have hS : va_S A s.heap H [] := by rw [hH]; exact va_S.rf
  suffices g : W p l e (rmk 0 0) s m args below meth c H [] 0 0 (MQ below (QZ NX eX a cy D A r σ) args s 0 0 A) (F0 m 0 ls []) by rw [hH] at g; exact g
  clear hH
  obtain ⟨locs, hlocs⟩ : ∃ z : List Loc, z = [] := ⟨_, rfl⟩
  rw [← hlocs] at hS ⊢
  refine lv_aload_n hx hb dX1_isLooking_0 rfl (lv_at hl 0 rfl) ?_
  refine gf_X1_0 C hP wk_1_49 dX1_isLooking_1 ?_
  refine lv_iload_n hx hb dX1_isLooking_4 rfl (lv_at hl 1 rfl) ?_
  obtain ⟨hi1, hf⟩ := jix_e hf
  refine r_iald C hP aX_15 hi1 dX1_isLooking_5 ?_
  refine jl_topi hf (fun y2 hf => ?_)
  by_cases hk104 : y2 = (4 : Int32)
  · have hf := jif_t hk104 hf
    refine sw_lk (k := (4 : Int32)) (off := 26) (tgt := 32) C hk104 dX1_isLooking_6 (by decide) (by decide) (by decide) ?_
    refine lv_iload_n hx hb dX1_isLooking_32 rfl (lv_at hl 2 rfl) ?_
    refine lv_aload_n hx hb dX1_isLooking_33 rfl (lv_at hl 0 rfl) ?_
    refine gf_X1_3 C hP wk_1_55 dX1_isLooking_34 ?_
    refine lv_iload_n hx hb dX1_isLooking_37 rfl (lv_at hl 1 rfl) ?_
    obtain ⟨hi3, hf⟩ := jix_e hf
    refine r_iald C hP aX_18 hi3 dX1_isLooking_38 ?_
    refine lv_iconst (v := (2 : Int32)) hx hb dX1_isLooking_39 (by decide) ?_
    refine lv_iadd hx hb dX1_isLooking_40 ?_
    obtain ⟨hne, hf⟩ := jnz_e hf
    refine r_irem C dX1_isLooking_41 hne ?_
    refine lv_if_eq (tgt := 49) hx hb dX1_isLooking_42 (by decide) (fun hc => ?_) (fun hc => ?_)
    · have hf := jif_t hc hf
      refine lv_iconst (v := (0 : Int32)) hx hb dX1_isLooking_49 (by decide) ?_
      exact ret_z C hP hS bz_0 (Option.some.inj hf) rfl dX1_isLooking_50
    · have hf := jif_f hc hf
      refine lv_iconst (v := (1 : Int32)) hx hb dX1_isLooking_45 (by decide) ?_
      refine lv_goto (tgt := 50) hx hb dX1_isLooking_46 (by decide) ?_
      exact ret_z C hP hS bz_1 (Option.some.inj hf) rfl dX1_isLooking_50
  · have hf := jif_f hk104 hf
    by_cases hk105 : y2 = (5 : Int32)
    · have hf := jif_t hk105 hf
      refine sw_lk (k := (5 : Int32)) (off := 45) (tgt := 51) C hk105 dX1_isLooking_6 (by decide) (by decide) (by decide) ?_
      refine lv_iload_n hx hb dX1_isLooking_51 rfl (lv_at hl 2 rfl) ?_
      refine lv_aload_n hx hb dX1_isLooking_52 rfl (lv_at hl 0 rfl) ?_
      refine gf_X1_3 C hP wk_1_55 dX1_isLooking_53 ?_
      refine lv_iload_n hx hb dX1_isLooking_56 rfl (lv_at hl 1 rfl) ?_
      obtain ⟨hi4, hf⟩ := jix_e hf
      refine r_iald C hP aX_18 hi4 dX1_isLooking_57 ?_
      refine lv_icmp_lt (tgt := 65) hx hb dX1_isLooking_58 (by decide) (fun hc => ?_) (fun hc => ?_)
      · have hf := jif_t hc hf
        refine lv_iconst (v := (0 : Int32)) hx hb dX1_isLooking_65 (by decide) ?_
        exact ret_z C hP hS bz_0 (Option.some.inj hf) rfl dX1_isLooking_66
      · have hf := jif_f hc hf
        refine lv_iconst (v := (1 : Int32)) hx hb dX1_isLooking_61 (by decide) ?_
        refine lv_goto (tgt := 66) hx hb dX1_isLooking_62 (by decide) ?_
        exact ret_z C hP hS bz_1 (Option.some.inj hf) rfl dX1_isLooking_66
    · have hf := jif_f hk105 hf
      refine lv_lookup (off := 61) (tgt := 67) hx hb dX1_isLooking_6 (by decide) ((lv_osw hk104 (by decide)).trans ((lv_osw hk105 (by decide)).trans rfl)) (by decide) ?_
      refine lv_iconst (v := (1 : Int32)) hx hb dX1_isLooking_67 (by decide) ?_
      exact ret_z C hP hS bz_1 (Option.some.inj hf) rfl dX1_isLooking_68
set_option maxHeartbeats 4000000 in
set_option maxRecDepth 100000 in
theorem k_X1_walk {l : Launch} {a : Nat → Nat} {cy : Nat → ClassId} {D : va_G} {ad : Nat → Nat} {A : Nat → Prop} (O : WO NX a (EHX ad A) A) {x1 : Int32} {x2 : Int32} {x3 : Int64} {σ : ST} {σ' : ST} (hf : f_X1_walk x1 x2 x3 σ = some σ') : Met l yX1_walk (Cond.code yX1_walk cX1_walk 9 none :: WS) (rmk 2 47) (PC [.ref (a 2), .int x1, .int x2, .long x3] NX eX a cy D (EHX ad A) σ) (QV NX eX a cy D A σ') 0 0 A := by
  refine met_go (own := "GuardsLookLeft$Guards") O (by decide +kernel) rfl (Nat.le_of_ble_eq_true rfl) ?_
  intro p e s m args below meth c ls C hP hS hl
  have hx := C.hx
  have hb := C.hb
  have hl : lv_has ls 9 [(0, .ref (a 2)), (1, .int x1), (2, .int x2), (3, .long x3)] := hl
  obtain ⟨H, hH⟩ : ∃ H, H = s.heap := ⟨_, rfl⟩
  rw [← hH] at hP
  have hS : va_S A s.heap H [] := by rw [hH]; exact va_S.rf
  suffices g : W p l e (rmk 2 47) s m args below meth c H [] 0 0 (MQ below (QV NX eX a cy D A σ') args s 0 0 A) (F0 m 0 ls []) by rw [hH] at g; exact g
  clear hH
  obtain ⟨locs, hlocs⟩ : ∃ z : List Loc, z = [] := ⟨_, rfl⟩
  rw [← hlocs] at hS ⊢
  have hL162 : (∀ (v1 : Int32) (v5 : Int32) (s0 : ST) (H : Heap) (locs : List Loc) (ls : Array Slot), f_X1_walk_L162 v1 v5 s0 = some σ' → va_P D vwCl (wG NX eX a cy s0) H → va_S A s.heap H locs → lv_has ls 9 [(0, .ref (a 2)), (1, .int v1), (5, .int v5)] → W p l e (rmk 2 47) s m args below meth c H locs 0 0 (MQ below (QV NX eX a cy D A σ') args s 0 0 A) (F0 m 162 ls [])) := by
    intro v1 v5 s0 H locs ls hf hP hS hl
    refine lv_aload_n hx hb dX1_walk_162 rfl (lv_at hl 0 rfl) ?_
    refine lv_aload_n hx hb dX1_walk_163 rfl (lv_at hl 0 rfl) ?_
    refine lv_iload_n hx hb dX1_walk_164 rfl (lv_at hl 1 rfl) ?_
    refine lv_iload hx hb dX1_walk_165 (lv_at hl 2 rfl) ?_
    obtain ⟨y1, hc, hf⟩ := jb_e hf
    refine r_cz (r_runV (As := [.int v1, .int v5]) (rest := [.ref (a 2)]) C hP hS (va_recv C.hK hP (q0 := 2) (ci := 1) rfl (by rw [g_at oX_1.1, oX_1.2])) (k_X1_isLooking (l := l) O (σ := s0) hc) mw_X1_isLooking mi_X1_isLooking mv_X1_isLooking wk_3_96 ⟨Nat.le_of_ble_eq_true rfl, Nat.le_of_ble_eq_true rfl⟩ ⟨rfl, rfl⟩ ⟨Nat.zero_le _, Nat.zero_le _⟩ rfl hl.1 rfl (Nat.le_of_ble_eq_true rfl) dX1_walk_167) hS (fun H locs hzy1 hP hS => ?_)
    refine pf_X1_9 C hP hS wk_1_76 (bz_n hzy1) dX1_walk_170 hf (fun H locs s3 hf hP hS => ?_)
    exact ret_v C hP hS (Option.some.inj hf) dX1_walk_173
  have hL125 : (∀ (v1 : Int32) (v5 : Int32) (t1 : Int32) (s0 : ST) (H : Heap) (locs : List Loc) (ls : Array Slot), f_X1_walk_L125 v1 v5 t1 s0 = some σ' → va_P D vwCl (wG NX eX a cy s0) H → va_S A s.heap H locs → lv_has ls 9 [(0, .ref (a 2)), (1, .int v1), (5, .int v5)] → W p l e (rmk 2 47) s m args below meth c H locs 0 0 (MQ below (QV NX eX a cy D A σ') args s 0 0 A) (F0 m 125 ls [.int t1, .ref (a 2)])) := by
    intro v1 v5 t1 s0 H locs ls hf hP hS hl
    refine pf_X1_8 C hP hS wk_1_73 dX1_walk_125 hf (fun H locs s1 hf hP hS => ?_)
    refine lv_aload_n hx hb dX1_walk_128 rfl (lv_at hl 0 rfl) ?_
    refine gf_X1_0 C hP wk_1_49 dX1_walk_129 ?_
    refine lv_iload_n hx hb dX1_walk_132 rfl (lv_at hl 1 rfl) ?_
    obtain ⟨hi2, hf⟩ := jix_e hf
    refine r_iald C hP aX_15 hi2 dX1_walk_133 ?_
    refine lv_iconst (v := (3 : Int32)) hx hb dX1_walk_134 (by decide) ?_
    refine lv_icmp_ne (tgt := 162) hx hb dX1_walk_135 (by decide) (fun hc => ?_) (fun hc => ?_)
    · have hf := jif_t hc hf
      exact hL162 v1 v5 s1 H locs ls hf hP hS (lv_sub hl [0, 1, 2] rfl)
    · have hf := jif_n hc hf
      refine lv_aload_n hx hb dX1_walk_138 rfl (lv_at hl 0 rfl) ?_
      refine lv_aload_n hx hb dX1_walk_139 rfl (lv_at hl 0 rfl) ?_
      refine gf_X1_8 C hP wk_1_73 dX1_walk_140 ?_
      refine lv_iconst (v := (3 : Int32)) hx hb dX1_walk_143 (by decide) ?_
      refine lv_iload hx hb dX1_walk_144 (lv_at hl 2 rfl) ?_
      refine lv_aload_n hx hb dX1_walk_146 rfl (lv_at hl 0 rfl) ?_
      refine gf_X1_3 C hP wk_1_55 dX1_walk_147 ?_
      refine lv_iload_n hx hb dX1_walk_150 rfl (lv_at hl 1 rfl) ?_
      obtain ⟨hi3, hf⟩ := jix_e hf
      refine r_iald C hP aX_18 hi3 dX1_walk_151 ?_
      refine lv_iconst (v := (1 : Int32)) hx hb dX1_walk_152 (by decide) ?_
      refine lv_iadd hx hb dX1_walk_153 ?_
      obtain ⟨hne, hf⟩ := jnz_e hf
      refine lv_idiv hx hb dX1_walk_154 hne ?_
      refine lv_imul hx hb dX1_walk_155 ?_
      refine lv_iadd hx hb dX1_walk_156 ?_
      refine lv_iconst (v := (4 : Int32)) hx hb dX1_walk_157 (by decide) ?_
      refine r_irem C dX1_walk_158 (by decide) ?_
      refine pf_X1_8 C hP hS wk_1_73 dX1_walk_159 hf (fun H locs s4 hf hP hS => ?_)
      exact hL162 v1 v5 s4 H locs ls hf hP hS (lv_sub hl [0, 1, 2] rfl)
  have hL119 : (∀ (v1 : Int32) (v5 : Int32) (s0 : ST) (H : Heap) (locs : List Loc) (ls : Array Slot), f_X1_walk_L119 v1 v5 s0 = some σ' → va_P D vwCl (wG NX eX a cy s0) H → va_S A s.heap H locs → lv_has ls 9 [(0, .ref (a 2)), (1, .int v1), (5, .int v5)] → W p l e (rmk 2 47) s m args below meth c H locs 0 0 (MQ below (QV NX eX a cy D A σ') args s 0 0 A) (F0 m 119 ls [.ref (a 2)])) := by
    intro v1 v5 s0 H locs ls hf hP hS hl
    refine lv_aload_n hx hb dX1_walk_119 rfl (lv_at hl 0 rfl) ?_
    refine gf_X1_2 C hP wk_1_53 dX1_walk_120 ?_
    refine lv_iload_n hx hb dX1_walk_123 rfl (lv_at hl 1 rfl) ?_
    obtain ⟨hi1, hf⟩ := jix_e hf
    refine r_iald C hP aX_17 hi1 dX1_walk_124 ?_
    exact hL125 v1 v5 (gA s0 17 (Int32.toNatClampNeg v1)) s0 H locs ls hf hP hS (lv_sub hl [0, 1, 2] rfl)
  have hL67 : (∀ (v1 : Int32) (v5 : Int32) (v6 : Int32) (v7 : Int32) (t0 : Int32) (s0 : ST) (H : Heap) (locs : List Loc) (ls : Array Slot), f_X1_walk_L67 v1 v5 v6 v7 t0 s0 = some σ' → va_P D vwCl (wG NX eX a cy s0) H → va_S A s.heap H locs → lv_has ls 9 [(0, .ref (a 2)), (1, .int v1), (5, .int v5), (6, .int v6), (7, .int v7)] → W p l e (rmk 2 47) s m args below meth c H locs 0 0 (MQ below (QV NX eX a cy D A σ') args s 0 0 A) (F0 m 67 ls [.int t0])) := by
    intro v1 v5 v6 v7 t0 s0 H locs ls hf hP hS hl
    refine lv_istore (lv' := [(8, .int t0), (0, .ref (a 2)), (1, .int v1), (5, .int v5), (6, .int v6), (7, .int v7)]) hx hb dX1_walk_67 hl (by decide) rfl (fun ls hl => ?_)
    refine lv_aload_n hx hb dX1_walk_69 rfl (lv_at hl 1 rfl) ?_
    refine lv_aload_n hx hb dX1_walk_70 rfl (lv_at hl 1 rfl) ?_
    refine gf_X1_1 C hP wk_1_51 dX1_walk_71 ?_
    refine lv_iload_n hx hb dX1_walk_74 rfl (lv_at hl 2 rfl) ?_
    obtain ⟨hi1, hf⟩ := jix_e hf
    refine r_iald C hP aX_16 hi1 dX1_walk_75 ?_
    refine lv_iload hx hb dX1_walk_76 (lv_at hl 0 rfl) ?_
    refine va_gets hx hb C.hV.2.2.2.2.1.1 hS C.hown (C.ts _ wk_3_94) (fun _ h => h) dX1_walk_78 ?_
    refine lv_aload_n hx hb dX1_walk_81 rfl (lv_at hl 1 rfl) ?_
    refine gf_X1_2 C hP wk_1_53 dX1_walk_82 ?_
    refine lv_iload_n hx hb dX1_walk_85 rfl (lv_at hl 2 rfl) ?_
    obtain ⟨hi2, hf⟩ := jix_e hf
    refine r_iald C hP aX_17 hi2 dX1_walk_86 ?_
    obtain ⟨hi3, hf⟩ := jix_e hf
    refine va_ti hx hb C.hV.2.2.2.2.1.2 hS hi3 (v := .int (tab1.getD (Int32.toNatClampNeg (gA s0 17 (Int32.toNatClampNeg v1))) 0)) rfl dX1_walk_87 ?_
    refine lv_imul hx hb dX1_walk_88 ?_
    refine lv_iadd hx hb dX1_walk_89 ?_
    refine pf_X1_7 C hP hS wk_1_70 dX1_walk_90 hf (fun H locs s4 hf hP hS => ?_)
    refine lv_aload_n hx hb dX1_walk_93 rfl (lv_at hl 1 rfl) ?_
    refine lv_iload hx hb dX1_walk_94 (lv_at hl 4 rfl) ?_
    refine lv_if_le (tgt := 119) hx hb dX1_walk_96 (by decide) (fun hc => ?_) (fun hc => ?_)
    · have hf := jif_t hc hf
      exact hL119 v1 v5 s4 H locs ls hf hP hS (lv_sub hl [1, 2, 3] rfl)
    · have hf := jif_f hc hf
      refine lv_iload hx hb dX1_walk_99 (lv_at hl 5 rfl) ?_
      refine lv_iload hx hb dX1_walk_101 (lv_at hl 4 rfl) ?_
      refine lv_icmp_lt (tgt := 119) hx hb dX1_walk_103 (by decide) (fun hc => ?_) (fun hc => ?_)
      · have hf := jif_t hc hf
        exact hL119 v1 v5 s4 H locs ls hf hP hS (lv_sub hl [1, 2, 3] rfl)
      · have hf := jif_f hc hf
        refine lv_aload_n hx hb dX1_walk_106 rfl (lv_at hl 1 rfl) ?_
        refine gf_X1_2 C hP wk_1_53 dX1_walk_107 ?_
        refine lv_iload_n hx hb dX1_walk_110 rfl (lv_at hl 2 rfl) ?_
        obtain ⟨hi5, hf⟩ := jix_e hf
        refine r_iald C hP aX_17 hi5 dX1_walk_111 ?_
        refine lv_iconst (v := (2 : Int32)) hx hb dX1_walk_112 (by decide) ?_
        refine lv_iadd hx hb dX1_walk_113 ?_
        refine lv_iconst (v := (4 : Int32)) hx hb dX1_walk_114 (by decide) ?_
        refine r_irem C dX1_walk_115 (by decide) ?_
        refine lv_goto (tgt := 125) hx hb dX1_walk_116 (by decide) ?_
        exact hL125 v1 v5 (jrem ((gA s4 17 (Int32.toNatClampNeg v1)) + (2 : Int32)) (4 : Int32)) s4 H locs ls hf hP hS (lv_sub hl [1, 2, 3] rfl)
  have hL46 : (∀ (v1 : Int32) (v5 : Int32) (v6 : Int32) (t0 : Int32) (s0 : ST) (H : Heap) (locs : List Loc) (ls : Array Slot), f_X1_walk_L46 v1 v5 v6 t0 s0 = some σ' → va_P D vwCl (wG NX eX a cy s0) H → va_S A s.heap H locs → lv_has ls 9 [(0, .ref (a 2)), (1, .int v1), (5, .int v5), (6, .int v6)] → W p l e (rmk 2 47) s m args below meth c H locs 0 0 (MQ below (QV NX eX a cy D A σ') args s 0 0 A) (F0 m 46 ls [.int t0])) := by
    intro v1 v5 v6 t0 s0 H locs ls hf hP hS hl
    refine lv_istore (lv' := [(7, .int t0), (0, .ref (a 2)), (1, .int v1), (5, .int v5), (6, .int v6)]) hx hb dX1_walk_46 hl (by decide) rfl (fun ls hl => ?_)
    refine lv_iload hx hb dX1_walk_48 (lv_at hl 0 rfl) ?_
    refine lv_iload hx hb dX1_walk_50 (lv_at hl 4 rfl) ?_
    refine lv_icmp_gt (tgt := 60) hx hb dX1_walk_52 (by decide) (fun hc => ?_) (fun hc => ?_)
    · have hf := jif_t hc hf
      refine lv_iconst (v := (2 : Int32)) hx hb dX1_walk_60 (by decide) ?_
      refine lv_iload hx hb dX1_walk_61 (lv_at hl 4 rfl) ?_
      refine lv_imul hx hb dX1_walk_63 ?_
      refine lv_iload hx hb dX1_walk_64 (lv_at hl 0 rfl) ?_
      refine lv_isub hx hb dX1_walk_66 ?_
      exact hL67 v1 v5 v6 t0 (((2 : Int32) * v6) - t0) s0 H locs ls hf hP hS (lv_sub hl [1, 2, 3, 4, 0] rfl)
    · have hf := jif_f hc hf
      refine lv_iload hx hb dX1_walk_55 (lv_at hl 0 rfl) ?_
      refine lv_goto (tgt := 67) hx hb dX1_walk_57 (by decide) ?_
      exact hL67 v1 v5 v6 t0 t0 s0 H locs ls hf hP hS (lv_sub hl [1, 2, 3, 4, 0] rfl)
  refine lv_iload_n hx hb dX1_walk_0 rfl (lv_at hl 2 rfl) ?_
  refine lv_aload_n hx hb dX1_walk_1 rfl (lv_at hl 0 rfl) ?_
  refine gf_X1_5 C hP wk_1_61 dX1_walk_2 ?_
  refine lv_iload_n hx hb dX1_walk_5 rfl (lv_at hl 1 rfl) ?_
  obtain ⟨hi1, hf⟩ := jix_e hf
  refine r_iald C hP aX_20 hi1 dX1_walk_6 ?_
  refine lv_iadd hx hb dX1_walk_7 ?_
  refine lv_bipush (v := (24 : Int32)) hx hb dX1_walk_8 (by decide) ?_
  refine r_irem C dX1_walk_10 (by decide) ?_
  refine jl_topi hf (fun y2 hf => ?_)
  refine lv_istore (lv' := [(5, .int y2), (0, .ref (a 2)), (1, .int x1), (2, .int x2), (3, .long x3)]) hx hb dX1_walk_11 hl (by decide) rfl (fun ls hl => ?_)
  refine lv_aload_n hx hb dX1_walk_13 rfl (lv_at hl 1 rfl) ?_
  refine lv_iload_n hx hb dX1_walk_14 rfl (lv_at hl 2 rfl) ?_
  refine lv_lload_n hx hb dX1_walk_15 rfl (lv_at hl 4 rfl) ?_
  obtain ⟨y3, hc, hf⟩ := jb_e hf
  refine r_ci (r_runV (As := [.int x1, .long x3]) (rest := []) C hP hS (va_recv C.hK hP (q0 := 2) (ci := 1) rfl (by rw [g_at oX_1.1, oX_1.2])) (k_X1_beat (l := l) O (σ := σ) hc) mw_X1_beat mi_X1_beat mv_X1_beat wk_3_83 ⟨Nat.le_of_ble_eq_true rfl, Nat.le_of_ble_eq_true rfl⟩ ⟨rfl, rfl⟩ ⟨Nat.zero_le _, Nat.zero_le _⟩ rfl hl.1 rfl (Nat.le_of_ble_eq_true rfl) dX1_walk_16) hS (fun H locs hP hS => ?_)
  refine lv_istore (lv' := [(6, .int y3), (5, .int y2), (0, .ref (a 2)), (1, .int x1), (2, .int x2), (3, .long x3)]) hx hb dX1_walk_19 hl (by decide) rfl (fun ls hl => ?_)
  refine lv_iload hx hb dX1_walk_21 (lv_at hl 0 rfl) ?_
  refine lv_if_le (tgt := 45) hx hb dX1_walk_23 (by decide) (fun hc => ?_) (fun hc => ?_)
  · have hf := jif_t hc hf
    refine lv_iconst (v := (0 : Int32)) hx hb dX1_walk_45 (by decide) ?_
    exact hL46 x1 y2 y3 (0 : Int32) σ H locs ls hf hP hS (lv_sub hl [2, 3, 1, 0] rfl)
  · have hf := jif_f hc hf
    refine lv_aload_n hx hb dX1_walk_26 rfl (lv_at hl 2 rfl) ?_
    refine gf_X1_0 C hP wk_1_49 dX1_walk_27 ?_
    refine lv_iload_n hx hb dX1_walk_30 rfl (lv_at hl 3 rfl) ?_
    obtain ⟨hi5, hf⟩ := jix_e hf
    refine r_iald C hP aX_15 hi5 dX1_walk_31 ?_
    refine lv_iload hx hb dX1_walk_32 (lv_at hl 1 rfl) ?_
    refine r_ci (r_runS (As := [.int (gA σ 15 (Int32.toNatClampNeg x1)), .int y2]) (rest := []) C hP hS (k_X1_steps (l := l) O (σ := σ) rfl) mw_X1_steps ms_X1_steps wk_3_91 ⟨Nat.le_of_ble_eq_true rfl, Nat.le_of_ble_eq_true rfl⟩ ⟨rfl, rfl⟩ ⟨Nat.zero_le _, Nat.zero_le _⟩ rfl hl.1 rfl (Nat.le_of_ble_eq_true rfl) dX1_walk_34) hS (fun H locs hP hS => ?_)
    refine jl_topi hf (fun y6 hf => ?_)
    refine lv_iconst (v := (2 : Int32)) hx hb dX1_walk_37 (by decide) ?_
    refine lv_iload hx hb dX1_walk_38 (lv_at hl 0 rfl) ?_
    refine lv_imul hx hb dX1_walk_40 ?_
    obtain ⟨hne, hf⟩ := jnz_e hf
    refine r_irem C dX1_walk_41 hne ?_
    refine lv_goto (tgt := 46) hx hb dX1_walk_42 (by decide) ?_
    exact hL46 x1 y2 y3 (jrem y6 ((2 : Int32) * y3)) σ H locs ls hf hP hS (lv_sub hl [2, 3, 1, 0] rfl)
set_option maxHeartbeats 4000000 in
set_option maxRecDepth 100000 in
theorem k_X2_take {l : Launch} {a : Nat → Nat} {cy : Nat → ClassId} {D : va_G} {ad : Nat → Nat} {A : Nat → Prop} (O : WO NX a (EHX ad A) A) {x3 : Int32} {σ : ST} {σ' : ST} (hf : f_X2_take x3 σ = σ') : Met l yX2_take (Cond.code yX2_take cX2_take 4 none :: WS) (rmk 1 64) (PC [.ref (a 8), .ref (a 1), .ref (a 2), .int x3] NX eX a cy D (EHX ad A) σ) (QV NX eX a cy D A σ') 0 0 A := by
  refine met_go (own := "GuardsLookLeft$Image") O (by decide +kernel) rfl (Nat.le_of_ble_eq_true rfl) ?_
  intro p e s m args below meth c ls C hP hS hl
  have hx := C.hx
  have hb := C.hb
  have hl : lv_has ls 4 [(0, .ref (a 8)), (1, .ref (a 1)), (2, .ref (a 2)), (3, .int x3)] := hl
  obtain ⟨H, hH⟩ : ∃ H, H = s.heap := ⟨_, rfl⟩
  rw [← hH] at hP
  have hS : va_S A s.heap H [] := by rw [hH]; exact va_S.rf
  suffices g : W p l e (rmk 1 64) s m args below meth c H [] 0 0 (MQ below (QV NX eX a cy D A σ') args s 0 0 A) (F0 m 0 ls []) by rw [hH] at g; exact g
  clear hH
  obtain ⟨locs, hlocs⟩ : ∃ z : List Loc, z = [] := ⟨_, rfl⟩
  rw [← hlocs] at hS ⊢
  refine lv_aload_n hx hb dX2_take_0 rfl (lv_at hl 0 rfl) ?_
  refine lv_iconst (v := (1 : Int32)) hx hb dX2_take_1 (by decide) ?_
  refine pf_X2_0 C hP hS wk_1_237 (bz_n bz_1) dX2_take_2 hf (fun H locs s1 hf hP hS => ?_)
  refine lv_aload_n hx hb dX2_take_5 rfl (lv_at hl 0 rfl) ?_
  refine lv_iload_n hx hb dX2_take_6 rfl (lv_at hl 3 rfl) ?_
  refine pf_X2_1 C hP hS wk_1_239 dX2_take_7 hf (fun H locs s2 hf hP hS => ?_)
  refine lv_aload_n hx hb dX2_take_10 rfl (lv_at hl 0 rfl) ?_
  refine lv_aload_n hx hb dX2_take_11 rfl (lv_at hl 2 rfl) ?_
  refine gf_X1_6 C hP wk_1_66 dX2_take_12 ?_
  refine pf_X2_2 C hP hS wk_2_1 dX2_take_15 hf (fun H locs s3 hf hP hS => ?_)
  refine lv_aload_n hx hb dX2_take_18 rfl (lv_at hl 1 rfl) ?_
  refine gf_X3_0 C hP wk_1_37 dX2_take_19 ?_
  refine lv_iconst (v := (0 : Int32)) hx hb dX2_take_22 (by decide) ?_
  refine lv_aload_n hx hb dX2_take_23 rfl (lv_at hl 0 rfl) ?_
  refine gf_X2_3 C hP wk_2_2 dX2_take_24 ?_
  refine lv_iconst (v := (0 : Int32)) hx hb dX2_take_27 (by decide) ?_
  refine lv_iconst (v := (3 : Int32)) hx hb dX2_take_28 (by decide) ?_
  refine r_copyJ C hP hS hl.1 aX_14 aX_51 ⟨⟨by decide, by decide, by decide⟩, by decide, by decide⟩ (Nat.le_of_ble_eq_true rfl) (Nat.le_of_ble_eq_true rfl) wk_4_99 dX2_take_29 hf (fun H locs s4 hf hP hS => ?_)
  refine lv_aload_n hx hb dX2_take_32 rfl (lv_at hl 2 rfl) ?_
  refine gf_X1_5 C hP wk_1_62 dX2_take_33 ?_
  refine lv_iconst (v := (0 : Int32)) hx hb dX2_take_36 (by decide) ?_
  refine lv_aload_n hx hb dX2_take_37 rfl (lv_at hl 0 rfl) ?_
  refine gf_X2_4 C hP wk_2_3 dX2_take_38 ?_
  refine lv_iconst (v := (0 : Int32)) hx hb dX2_take_41 (by decide) ?_
  refine lv_iconst (v := (5 : Int32)) hx hb dX2_take_42 (by decide) ?_
  refine r_copyI C hP hS hl.1 aX_20 aX_52 ⟨⟨by decide, by decide, by decide⟩, by decide, by decide⟩ (Nat.le_of_ble_eq_true rfl) (Nat.le_of_ble_eq_true rfl) wk_4_99 dX2_take_43 hf (fun H locs s5 hf hP hS => ?_)
  refine lv_aload_n hx hb dX2_take_46 rfl (lv_at hl 2 rfl) ?_
  refine gf_X1_4 C hP wk_1_59 dX2_take_47 ?_
  refine lv_iconst (v := (0 : Int32)) hx hb dX2_take_50 (by decide) ?_
  refine lv_aload_n hx hb dX2_take_51 rfl (lv_at hl 0 rfl) ?_
  refine gf_X2_5 C hP wk_2_4 dX2_take_52 ?_
  refine lv_iconst (v := (0 : Int32)) hx hb dX2_take_55 (by decide) ?_
  refine lv_iconst (v := (5 : Int32)) hx hb dX2_take_56 (by decide) ?_
  refine r_copyI C hP hS hl.1 aX_19 aX_53 ⟨⟨by decide, by decide, by decide⟩, by decide, by decide⟩ (Nat.le_of_ble_eq_true rfl) (Nat.le_of_ble_eq_true rfl) wk_4_99 dX2_take_57 hf (fun H locs s6 hf hP hS => ?_)
  exact ret_v C hP hS hf dX2_take_60
set_option maxHeartbeats 4000000 in
set_option maxRecDepth 100000 in
theorem k_X2_giveBack {l : Launch} {a : Nat → Nat} {cy : Nat → ClassId} {D : va_G} {ad : Nat → Nat} {A : Nat → Prop} (O : WO NX a (EHX ad A) A) {σ : ST} {σ' : ST} (hf : f_X2_giveBack σ = σ') : Met l yX2_giveBack (Cond.code yX2_giveBack cX2_giveBack 3 none :: WS) (rmk 1 64) (PC [.ref (a 8), .ref (a 1), .ref (a 2)] NX eX a cy D (EHX ad A) σ) (QV NX eX a cy D A σ') 0 0 A := by
  refine met_go (own := "GuardsLookLeft$Image") O (by decide +kernel) rfl (Nat.le_of_ble_eq_true rfl) ?_
  intro p e s m args below meth c ls C hP hS hl
  have hx := C.hx
  have hb := C.hb
  have hl : lv_has ls 3 [(0, .ref (a 8)), (1, .ref (a 1)), (2, .ref (a 2))] := hl
  obtain ⟨H, hH⟩ : ∃ H, H = s.heap := ⟨_, rfl⟩
  rw [← hH] at hP
  have hS : va_S A s.heap H [] := by rw [hH]; exact va_S.rf
  suffices g : W p l e (rmk 1 64) s m args below meth c H [] 0 0 (MQ below (QV NX eX a cy D A σ') args s 0 0 A) (F0 m 0 ls []) by rw [hH] at g; exact g
  clear hH
  obtain ⟨locs, hlocs⟩ : ∃ z : List Loc, z = [] := ⟨_, rfl⟩
  rw [← hlocs] at hS ⊢
  refine lv_aload_n hx hb dX2_giveBack_0 rfl (lv_at hl 2 rfl) ?_
  refine lv_aload_n hx hb dX2_giveBack_1 rfl (lv_at hl 0 rfl) ?_
  refine gf_X2_2 C hP wk_2_1 dX2_giveBack_2 ?_
  refine pf_X1_6 C hP hS wk_1_66 dX2_giveBack_5 hf (fun H locs s1 hf hP hS => ?_)
  refine lv_aload_n hx hb dX2_giveBack_8 rfl (lv_at hl 0 rfl) ?_
  refine gf_X2_3 C hP wk_2_2 dX2_giveBack_9 ?_
  refine lv_iconst (v := (0 : Int32)) hx hb dX2_giveBack_12 (by decide) ?_
  refine lv_aload_n hx hb dX2_giveBack_13 rfl (lv_at hl 1 rfl) ?_
  refine gf_X3_0 C hP wk_1_37 dX2_giveBack_14 ?_
  refine lv_iconst (v := (0 : Int32)) hx hb dX2_giveBack_17 (by decide) ?_
  refine lv_iconst (v := (3 : Int32)) hx hb dX2_giveBack_18 (by decide) ?_
  refine r_copyJ C hP hS hl.1 aX_51 aX_14 ⟨⟨by decide, by decide, by decide⟩, by decide, by decide⟩ (Nat.le_of_ble_eq_true rfl) (Nat.le_of_ble_eq_true rfl) wk_4_99 dX2_giveBack_19 hf (fun H locs s2 hf hP hS => ?_)
  refine lv_aload_n hx hb dX2_giveBack_22 rfl (lv_at hl 0 rfl) ?_
  refine gf_X2_4 C hP wk_2_3 dX2_giveBack_23 ?_
  refine lv_iconst (v := (0 : Int32)) hx hb dX2_giveBack_26 (by decide) ?_
  refine lv_aload_n hx hb dX2_giveBack_27 rfl (lv_at hl 2 rfl) ?_
  refine gf_X1_5 C hP wk_1_62 dX2_giveBack_28 ?_
  refine lv_iconst (v := (0 : Int32)) hx hb dX2_giveBack_31 (by decide) ?_
  refine lv_iconst (v := (5 : Int32)) hx hb dX2_giveBack_32 (by decide) ?_
  refine r_copyI C hP hS hl.1 aX_52 aX_20 ⟨⟨by decide, by decide, by decide⟩, by decide, by decide⟩ (Nat.le_of_ble_eq_true rfl) (Nat.le_of_ble_eq_true rfl) wk_4_99 dX2_giveBack_33 hf (fun H locs s3 hf hP hS => ?_)
  refine lv_aload_n hx hb dX2_giveBack_36 rfl (lv_at hl 0 rfl) ?_
  refine gf_X2_5 C hP wk_2_4 dX2_giveBack_37 ?_
  refine lv_iconst (v := (0 : Int32)) hx hb dX2_giveBack_40 (by decide) ?_
  refine lv_aload_n hx hb dX2_giveBack_41 rfl (lv_at hl 2 rfl) ?_
  refine gf_X1_4 C hP wk_1_59 dX2_giveBack_42 ?_
  refine lv_iconst (v := (0 : Int32)) hx hb dX2_giveBack_45 (by decide) ?_
  refine lv_iconst (v := (5 : Int32)) hx hb dX2_giveBack_46 (by decide) ?_
  refine r_copyI C hP hS hl.1 aX_53 aX_19 ⟨⟨by decide, by decide, by decide⟩, by decide, by decide⟩ (Nat.le_of_ble_eq_true rfl) (Nat.le_of_ble_eq_true rfl) wk_4_99 dX2_giveBack_47 hf (fun H locs s4 hf hP hS => ?_)
  exact ret_v C hP hS hf dX2_giveBack_50
set_option maxHeartbeats 4000000 in
set_option maxRecDepth 100000 in
theorem k_X3_floor {l : Launch} {a : Nat → Nat} {cy : Nat → ClassId} {D : va_G} {ad : Nat → Nat} {A : Nat → Prop} (O : WO NX a (EHX ad A) A) {r : Int64} {σ : ST} (hf : f_X3_floor σ = r) : Met l yX3_floor (Cond.code yX3_floor cX3_floor 1 (some .long) :: WS) (rmk 0 0) (PC [.ref (a 1)] NX eX a cy D (EHX ad A) σ) (QL NX eX a cy D A r σ) 0 0 A := by
  refine met_go (own := "GuardsLookLeft$Palace") O (by decide +kernel) rfl (Nat.le_of_ble_eq_true rfl) ?_
  intro p e s m args below meth c ls C hP hS hl
  have hx := C.hx
  have hb := C.hb
  have hl : lv_has ls 1 [(0, .ref (a 1))] := hl
  obtain ⟨H, hH⟩ : ∃ H, H = s.heap := ⟨_, rfl⟩
  rw [← hH] at hP
  have hS : va_S A s.heap H [] := by rw [hH]; exact va_S.rf
  suffices g : W p l e (rmk 0 0) s m args below meth c H [] 0 0 (MQ below (QL NX eX a cy D A r σ) args s 0 0 A) (F0 m 0 ls []) by rw [hH] at g; exact g
  clear hH
  obtain ⟨locs, hlocs⟩ : ∃ z : List Loc, z = [] := ⟨_, rfl⟩
  rw [← hlocs] at hS ⊢
  refine lv_ldc2 hx hb C.hown (C.ts _ wk_3_172) dX3_floor_0 ?_
  refine lv_aload_n hx hb dX3_floor_3 rfl (lv_at hl 0 rfl) ?_
  refine gf_X3_0 C hP wk_1_35 dX3_floor_4 ?_
  refine lv_iconst (v := (0 : Int32)) hx hb dX3_floor_7 (by decide) ?_
  refine r_lald C hP aX_14 (vp_lit (by decide)) dX3_floor_8 ?_
  refine lv_ldc2 hx hb C.hown (C.ts _ wk_3_173) dX3_floor_9 ?_
  refine lv_lxor hx hb dX3_floor_12 ?_
  refine lv_land hx hb dX3_floor_13 ?_
  exact ret_l C hP hS hf rfl dX3_floor_14
set_option maxHeartbeats 4000000 in
set_option maxRecDepth 100000 in
theorem k_X3_lit {l : Launch} {a : Nat → Nat} {cy : Nat → ClassId} {D : va_G} {ad : Nat → Nat} {A : Nat → Prop} (O : WO NX a (EHX ad A) A) {x1 : Int32} {r : Int32} {σ : ST} (hf : f_X3_lit x1 σ = r) : Met l yX3_lit (Cond.code yX3_lit cX3_lit 2 (some .int) :: WS) (rmk 1 22) (PC [.ref (a 1), .int x1] NX eX a cy D (EHX ad A) σ) (QI NX eX a cy D A r σ) 0 0 A := by
  refine met_go (own := "GuardsLookLeft$Palace") O (by decide +kernel) rfl (Nat.le_of_ble_eq_true rfl) ?_
  intro p e s m args below meth c ls C hP hS hl
  have hx := C.hx
  have hb := C.hb
  have hl : lv_has ls 2 [(0, .ref (a 1)), (1, .int x1)] := hl
  obtain ⟨H, hH⟩ : ∃ H, H = s.heap := ⟨_, rfl⟩
  rw [← hH] at hP
  have hS : va_S A s.heap H [] := by rw [hH]; exact va_S.rf
  suffices g : W p l e (rmk 1 22) s m args below meth c H [] 0 0 (MQ below (QI NX eX a cy D A r σ) args s 0 0 A) (F0 m 0 ls []) by rw [hH] at g; exact g
  clear hH
  obtain ⟨locs, hlocs⟩ : ∃ z : List Loc, z = [] := ⟨_, rfl⟩
  rw [← hlocs] at hS ⊢
  refine lv_aload_n hx hb dX3_lit_0 rfl (lv_at hl 0 rfl) ?_
  refine gf_X3_0 C hP wk_1_35 dX3_lit_1 ?_
  refine lv_iconst (v := (1 : Int32)) hx hb dX3_lit_4 (by decide) ?_
  refine r_lald C hP aX_14 (vp_lit (by decide)) dX3_lit_5 ?_
  refine lv_iload_n hx hb dX3_lit_6 rfl (lv_at hl 1 rfl) ?_
  refine r_cz (r_runSN (As := [.long (gB σ 14 (Int32.toNatClampNeg (1 : Int32))), .int x1]) (rest := []) C hP hS (k_X9_isIn (l := l) O (σ := σ) rfl) mw_X9_isIn ms_X9_isIn (C.hV.1 _ nw_10) ⟨Nat.le_of_ble_eq_true rfl, Nat.le_of_ble_eq_true rfl⟩ ⟨rfl, rfl⟩ ⟨Nat.zero_le _, Nat.zero_le _⟩ rfl hl.1 rfl (Nat.le_of_ble_eq_true rfl) dX3_lit_7) hS (fun H locs hzy1 hP hS => ?_)
  refine jl_topz hf hzy1 (fun y1 hzy1 hf => ?_)
  refine lv_if_eq (tgt := 17) hx hb dX3_lit_10 (by decide) (fun hc => ?_) (fun hc => ?_)
  · have hf := jif_t hc hf
    refine lv_iconst (v := (0 : Int32)) hx hb dX3_lit_17 (by decide) ?_
    exact ret_i C hP hS hf rfl dX3_lit_18
  · have hf := jif_f hc hf
    refine lv_iconst (v := (1 : Int32)) hx hb dX3_lit_13 (by decide) ?_
    refine lv_goto (tgt := 18) hx hb dX3_lit_14 (by decide) ?_
    exact ret_i C hP hS hf rfl dX3_lit_18
set_option maxHeartbeats 4000000 in
set_option maxRecDepth 100000 in
theorem k_X3_lying {l : Launch} {a : Nat → Nat} {cy : Nat → ClassId} {D : va_G} {ad : Nat → Nat} {A : Nat → Prop} (O : WO NX a (EHX ad A) A) {x1 : Int32} {r : Int32} {σ : ST} (hf : f_X3_lying x1 σ = some r) : Met l yX3_lying (Cond.code yX3_lying cX3_lying 4 (some .int) :: WS) (rmk 1 22) (PC [.ref (a 1), .int x1] NX eX a cy D (EHX ad A) σ) (QI NX eX a cy D A r σ) 0 0 A := by
  refine met_go (own := "GuardsLookLeft$Palace") O (by decide +kernel) rfl (Nat.le_of_ble_eq_true rfl) ?_
  intro p e s m args below meth c ls C hP hS hl
  have hx := C.hx
  have hb := C.hb
  have hl : lv_has ls 4 [(0, .ref (a 1)), (1, .int x1)] := hl
  obtain ⟨H, hH⟩ : ∃ H, H = s.heap := ⟨_, rfl⟩
  rw [← hH] at hP
  have hS : va_S A s.heap H [] := by rw [hH]; exact va_S.rf
  suffices g : W p l e (rmk 1 22) s m args below meth c H [] 0 0 (MQ below (QI NX eX a cy D A r σ) args s 0 0 A) (F0 m 0 ls []) by rw [hH] at g; exact g
  clear hH
  obtain ⟨locs, hlocs⟩ : ∃ z : List Loc, z = [] := ⟨_, rfl⟩
  rw [← hlocs] at hS ⊢
  have hL28 : ∀ (k4 : Int32 → Int32 → Int32 → ST → Option Int32) (hk4 : (∀ (v1 : Int32) (v2 : Int32) (v3 : Int32) (H : Heap) (locs : List Loc) (ls : Array Slot), k4 v1 v2 v3 σ = some r → va_P D vwCl (wG NX eX a cy σ) H → va_S A s.heap H locs → lv_has ls 4 [(0, .ref (a 1)), (1, .int v1), (2, .int v2), (3, .int v3)] → W p l e (rmk 1 22) s m args below meth c H locs 0 0 (MQ below (QI NX eX a cy D A r σ) args s 0 0 A) (F0 m 4 ls []))), (∀ (v1 : Int32) (v2 : Int32) (v3 : Int32) (H : Heap) (locs : List Loc) (ls : Array Slot), f_X3_lying_L28 k4 v1 v2 v3 σ = some r → va_P D vwCl (wG NX eX a cy σ) H → va_S A s.heap H locs → lv_has ls 4 [(0, .ref (a 1)), (1, .int v1), (2, .int v2), (3, .int v3)] → W p l e (rmk 1 22) s m args below meth c H locs 0 0 (MQ below (QI NX eX a cy D A r σ) args s 0 0 A) (F0 m 28 ls [])) := by
    intro k4 hk4 v1 v2 v3 H locs ls hf hP hS hl
    obtain ⟨y1, ey1, hf⟩ := jlet_e hf
    refine lv_iinc (v := y1) (lv' := [(3, .int y1), (0, .ref (a 1)), (1, .int v1), (2, .int v2)]) hx hb dX3_lying_28 hl (k := 3) rfl ey1 (by decide) rfl (fun ls hl => ?_)
    refine lv_goto (tgt := 4) hx hb dX3_lying_31 (by decide) ?_
    exact hk4 v1 v2 y1 H locs ls hf hP hS (lv_sub hl [1, 2, 3, 0] rfl)
  have hL4 : ∀ (n : Nat), (∀ (v1 : Int32) (v2 : Int32) (v3 : Int32) (H : Heap) (locs : List Loc) (ls : Array Slot), f_X3_lying_L4 n v1 v2 v3 σ = some r → va_P D vwCl (wG NX eX a cy σ) H → va_S A s.heap H locs → lv_has ls 4 [(0, .ref (a 1)), (1, .int v1), (2, .int v2), (3, .int v3)] → W p l e (rmk 1 22) s m args below meth c H locs 0 0 (MQ below (QI NX eX a cy D A r σ) args s 0 0 A) (F0 m 4 ls [])) := by
    intro n
    induction n with
    | zero => intro v1 v2 v3 H locs ls hf hP hS hl; exact no_o hf
    | succ n ih =>
      intro v1 v2 v3 H locs ls hf hP hS hl
      have hf := (ef_X3_lying_L4 _ _ _ _).symm.trans hf
      refine lv_iload_n hx hb dX3_lying_4 rfl (lv_at hl 3 rfl) ?_
      refine lv_iconst (v := (3 : Int32)) hx hb dX3_lying_5 (by decide) ?_
      refine lv_icmp_ge (tgt := 34) hx hb dX3_lying_6 (by decide) (fun hc => ?_) (fun hc => ?_)
      · have hf := jif_t hc hf
        refine lv_iload_n hx hb dX3_lying_34 rfl (lv_at hl 2 rfl) ?_
        exact ret_i C hP hS (Option.some.inj hf) rfl dX3_lying_35
      · have hf := jif_f hc hf
        refine lv_aload_n hx hb dX3_lying_9 rfl (lv_at hl 0 rfl) ?_
        refine gf_X3_0 C hP wk_1_35 dX3_lying_10 ?_
        refine lv_iload_n hx hb dX3_lying_13 rfl (lv_at hl 3 rfl) ?_
        obtain ⟨hi1, hf⟩ := jix_e hf
        refine r_lald C hP aX_14 hi1 dX3_lying_14 ?_
        refine lv_iload_n hx hb dX3_lying_15 rfl (lv_at hl 1 rfl) ?_
        refine r_cz (r_runSN (As := [.long (gB σ 14 (Int32.toNatClampNeg v3)), .int v1]) (rest := []) C hP hS (k_X9_isIn (l := l) O (σ := σ) rfl) mw_X9_isIn ms_X9_isIn (C.hV.1 _ nw_10) ⟨Nat.le_of_ble_eq_true rfl, Nat.le_of_ble_eq_true rfl⟩ ⟨rfl, rfl⟩ ⟨Nat.zero_le _, Nat.zero_le _⟩ rfl hl.1 rfl (Nat.le_of_ble_eq_true rfl) dX3_lying_16) hS (fun H locs hzy2 hP hS => ?_)
        refine jl_topz hf hzy2 (fun y2 hzy2 hf => ?_)
        refine lv_if_eq (tgt := 28) hx hb dX3_lying_19 (by decide) (fun hc => ?_) (fun hc => ?_)
        · have hf := jif_t hc hf
          exact hL28 (f_X3_lying_L4 n) ih v1 v2 v3 H locs ls hf hP hS (lv_sub hl [0, 1, 2, 3] rfl)
        · have hf := jif_f hc hf
          refine lv_iload_n hx hb dX3_lying_22 rfl (lv_at hl 2 rfl) ?_
          refine lv_iconst (v := (1 : Int32)) hx hb dX3_lying_23 (by decide) ?_
          refine lv_iload_n hx hb dX3_lying_24 rfl (lv_at hl 3 rfl) ?_
          refine r_ishl C dX3_lying_25 ?_
          refine lv_iadd hx hb dX3_lying_26 ?_
          refine jl_topi hf (fun y4 hf => ?_)
          refine lv_istore_n (lv' := [(2, .int y4), (0, .ref (a 1)), (1, .int v1), (3, .int v3)]) hx hb dX3_lying_27 rfl hl (by decide) rfl (fun ls hl => ?_)
          exact hL28 (f_X3_lying_L4 n) ih v1 y4 v3 H locs ls hf hP hS (lv_sub hl [1, 2, 0, 3] rfl)
  refine lv_iconst (v := (0 : Int32)) hx hb dX3_lying_0 (by decide) ?_
  refine lv_istore_n (lv' := [(2, .int (0 : Int32)), (0, .ref (a 1)), (1, .int x1)]) hx hb dX3_lying_1 rfl hl (by decide) rfl (fun ls hl => ?_)
  refine lv_iconst (v := (0 : Int32)) hx hb dX3_lying_2 (by decide) ?_
  refine lv_istore_n (lv' := [(3, .int (0 : Int32)), (2, .int (0 : Int32)), (0, .ref (a 1)), (1, .int x1)]) hx hb dX3_lying_3 rfl hl (by decide) rfl (fun ls hl => ?_)
  exact hL4 FU x1 (0 : Int32) (0 : Int32) H locs ls hf hP hS (lv_sub hl [2, 3, 1, 0] rfl)
set_option maxHeartbeats 4000000 in
set_option maxRecDepth 100000 in
theorem k_J7_fill_53178 {l : Launch} {a : Nat → Nat} {cy : Nat → ClassId} {D : va_G} {ad : Nat → Nat} {A : Nat → Prop} (O : WO NX a (EHX ad A) A) {o1 : Nat} {x2 : Int32} {σ : ST} {σ' : ST} (ho1 : 54 ≤ o1 ∧ o1 < 58) (hf : f_J7_fill_53178 o1 x2 σ = some σ') : Met l yJ7_fill_53178 (Cond.code yJ7_fill_53178 cJ7_fill_53178 4 none :: WS) (rmk 0 0) (PC [.ref (a o1), .int x2] NX eX a cy D (EHX ad A) σ) (QV NX eX a cy D A σ') 0 0 A := by
  refine met_go (own := "java/util/Arrays") O (by decide +kernel) rfl (Nat.le_of_ble_eq_true rfl) ?_
  intro p e s m args below meth c ls C hP hS hl
  have hx := C.hx
  have hb := C.hb
  have hl : lv_has ls 4 [(0, .ref (a o1)), (1, .int x2)] := hl
  obtain ⟨H, hH⟩ : ∃ H, H = s.heap := ⟨_, rfl⟩
  rw [← hH] at hP
  have hS : va_S A s.heap H [] := by rw [hH]; exact va_S.rf
  suffices g : W p l e (rmk 0 0) s m args below meth c H [] 0 0 (MQ below (QV NX eX a cy D A σ') args s 0 0 A) (F0 m 0 ls []) by rw [hH] at g; exact g
  clear hH
  obtain ⟨locs, hlocs⟩ : ∃ z : List Loc, z = [] := ⟨_, rfl⟩
  rw [← hlocs] at hS ⊢
  have hL5 : ∀ (n : Nat), (∀ (o0 : Nat) (ho0 : 54 ≤ o0 ∧ o0 < 58) (v1 : Int32) (v2 : Int32) (v3 : Int32) (s0 : ST) (H : Heap) (locs : List Loc) (ls : Array Slot), f_J7_fill_53178_L5 n o0 v1 v2 v3 s0 = some σ' → va_P D vwCl (wG NX eX a cy s0) H → va_S A s.heap H locs → lv_has ls 4 [(0, .ref (a o0)), (1, .int v1), (2, .int v2), (3, .int v3)] → W p l e (rmk 0 0) s m args below meth c H locs 0 0 (MQ below (QV NX eX a cy D A σ') args s 0 0 A) (F0 m 5 ls [])) := by
    intro n
    induction n with
    | zero => intro o0 ho0 v1 v2 v3 s0 H locs ls hf hP hS hl; exact no_o hf
    | succ n ih =>
      intro o0 ho0 v1 v2 v3 s0 H locs ls hf hP hS hl
      have hf := (ef_J7_fill_53178_L5 _ _ _ _ _).symm.trans hf
      refine lv_iload_n hx hb dJ7_fill_53178_5 rfl (lv_at hl 2 rfl) ?_
      refine lv_iload_n hx hb dJ7_fill_53178_6 rfl (lv_at hl 3 rfl) ?_
      refine lv_icmp_ge (tgt := 20) hx hb dJ7_fill_53178_7 (by decide) (fun hc => ?_) (fun hc => ?_)
      · have hf := jif_t hc hf
        exact ret_v C hP hS (Option.some.inj hf) dJ7_fill_53178_20
      · have hf := jif_f hc hf
        refine lv_aload_n hx hb dJ7_fill_53178_10 rfl (lv_at hl 0 rfl) ?_
        refine lv_iload_n hx hb dJ7_fill_53178_11 rfl (lv_at hl 2 rfl) ?_
        refine lv_iload_n hx hb dJ7_fill_53178_12 rfl (lv_at hl 1 rfl) ?_
        obtain ⟨hi1, hf⟩ := jix_e hf
        refine r_iast C hP hS (fX_54 ho0) hi1 dJ7_fill_53178_13 hf (fun H locs s2 hf hP hS => ?_)
        obtain ⟨y3, ey3, hf⟩ := jlet_e hf
        refine lv_iinc (v := y3) (lv' := [(2, .int y3), (0, .ref (a o0)), (1, .int v1), (3, .int v3)]) hx hb dJ7_fill_53178_14 hl (k := 2) rfl ey3 (by decide) rfl (fun ls hl => ?_)
        refine lv_goto (tgt := 5) hx hb dJ7_fill_53178_17 (by decide) ?_
        exact ih o0 ho0 v1 y3 v3 s2 H locs ls hf hP hS (lv_sub hl [1, 2, 0, 3] rfl)
  refine lv_iconst (v := (0 : Int32)) hx hb dJ7_fill_53178_0 (by decide) ?_
  refine lv_istore_n (lv' := [(2, .int (0 : Int32)), (0, .ref (a o1)), (1, .int x2)]) hx hb dJ7_fill_53178_1 rfl hl (by decide) rfl (fun ls hl => ?_)
  refine lv_aload_n hx hb dJ7_fill_53178_2 rfl (lv_at hl 1 rfl) ?_
  refine r_alenI C hP (fX_54 ho1) (v := (40 : Int32)) (by decide) dJ7_fill_53178_3 ?_
  refine lv_istore_n (lv' := [(3, .int (40 : Int32)), (2, .int (0 : Int32)), (0, .ref (a o1)), (1, .int x2)]) hx hb dJ7_fill_53178_4 rfl hl (by decide) rfl (fun ls hl => ?_)
  exact hL5 FU o1 ho1 x2 (0 : Int32) (40 : Int32) σ H locs ls hf hP hS (lv_sub hl [2, 3, 1, 0] rfl)
set_option maxHeartbeats 4000000 in
set_option maxRecDepth 100000 in
theorem k_X5_become {l : Launch} {a : Nat → Nat} {cy : Nat → ClassId} {D : va_G} {ad : Nat → Nat} {A : Nat → Prop} (O : WO NX a (EHX ad A) A) {o0 : Nat} {x1 : Int32} {x2 : Int32} {σ : ST} {σ' : ST} (ho0 : 9 ≤ o0 ∧ o0 < 13) (hf : f_X5_become o0 x1 x2 σ = some σ') : Met l yX5_become (Cond.code yX5_become cX5_become 3 none :: WS) (rmk 1 23) (PC [.ref (a o0), .int x1, .int x2] NX eX a cy D (EHX ad A) σ) (QV NX eX a cy D A σ') 0 0 A := by
  refine met_go (own := "GuardsLookLeft$Sheet") O (by decide +kernel) rfl (Nat.le_of_ble_eq_true rfl) ?_
  intro p e s m args below meth c ls C hP hS hl
  have hx := C.hx
  have hb := C.hb
  have hl : lv_has ls 3 [(0, .ref (a o0)), (1, .int x1), (2, .int x2)] := hl
  obtain ⟨H, hH⟩ : ∃ H, H = s.heap := ⟨_, rfl⟩
  rw [← hH] at hP
  have hS : va_S A s.heap H [] := by rw [hH]; exact va_S.rf
  suffices g : W p l e (rmk 1 23) s m args below meth c H [] 0 0 (MQ below (QV NX eX a cy D A σ') args s 0 0 A) (F0 m 0 ls []) by rw [hH] at g; exact g
  clear hH
  obtain ⟨locs, hlocs⟩ : ∃ z : List Loc, z = [] := ⟨_, rfl⟩
  rw [← hlocs] at hS ⊢
  refine lv_aload_n hx hb dX5_become_0 rfl (lv_at hl 0 rfl) ?_
  refine lv_iload_n hx hb dX5_become_1 rfl (lv_at hl 1 rfl) ?_
  refine pf_X5_0 ho0 C hP hS wk_2_25 dX5_become_2 hf (fun H locs s1 hf hP hS => ?_)
  refine lv_aload_n hx hb dX5_become_5 rfl (lv_at hl 0 rfl) ?_
  refine lv_iload_n hx hb dX5_become_6 rfl (lv_at hl 2 rfl) ?_
  refine pf_X5_1 ho0 C hP hS wk_2_27 dX5_become_7 hf (fun H locs s2 hf hP hS => ?_)
  refine lv_aload_n hx hb dX5_become_10 rfl (lv_at hl 0 rfl) ?_
  refine gf_X5_2 ho0 C hP wk_2_29 dX5_become_11 ?_
  refine lv_iconst (v := (0 : Int32)) hx hb dX5_become_14 (by decide) ?_
  obtain ⟨s4, hc, hf⟩ := jb_e hf
  refine r_cv (r_runS (As := [.ref (a (o0 + 45)), .int (0 : Int32)]) (rest := []) C hP hS (k_J7_fill_53178 (l := l) O (show 54 ≤ (o0 + 45) ∧ (o0 + 45) < 58 by omega) hc) mw_J7_fill_53178 ms_J7_fill_53178 wk_4_72 ⟨Nat.le_of_ble_eq_true rfl, Nat.le_of_ble_eq_true rfl⟩ ⟨rfl, rfl⟩ ⟨Nat.zero_le _, Nat.zero_le _⟩ rfl hl.1 rfl (Nat.le_of_ble_eq_true rfl) dX5_become_15) hS (fun H locs hP hS => ?_)
  exact ret_v C hP hS (Option.some.inj hf) dX5_become_18
set_option maxHeartbeats 4000000 in
set_option maxRecDepth 100000 in
theorem k_X5_hasRoom {l : Launch} {a : Nat → Nat} {cy : Nat → ClassId} {D : va_G} {ad : Nat → Nat} {A : Nat → Prop} (O : WO NX a (EHX ad A) A) {o0 : Nat} {x1 : Int32} {x2 : Int32} {r : Int32} {σ : ST} (ho0 : 9 ≤ o0 ∧ o0 < 13) (hf : f_X5_hasRoom o0 x1 x2 σ = r) : Met l yX5_hasRoom (Cond.code yX5_hasRoom cX5_hasRoom 3 (some .boolean) :: WS) (rmk 0 0) (PC [.ref (a o0), .int x1, .int x2] NX eX a cy D (EHX ad A) σ) (QZ NX eX a cy D A r σ) 0 0 A := by
  refine met_go (own := "GuardsLookLeft$Sheet") O (by decide +kernel) rfl (Nat.le_of_ble_eq_true rfl) ?_
  intro p e s m args below meth c ls C hP hS hl
  have hx := C.hx
  have hb := C.hb
  have hl : lv_has ls 3 [(0, .ref (a o0)), (1, .int x1), (2, .int x2)] := hl
  obtain ⟨H, hH⟩ : ∃ H, H = s.heap := ⟨_, rfl⟩
  rw [← hH] at hP
  have hS : va_S A s.heap H [] := by rw [hH]; exact va_S.rf
  suffices g : W p l e (rmk 0 0) s m args below meth c H [] 0 0 (MQ below (QZ NX eX a cy D A r σ) args s 0 0 A) (F0 m 0 ls []) by rw [hH] at g; exact g
  clear hH
  obtain ⟨locs, hlocs⟩ : ∃ z : List Loc, z = [] := ⟨_, rfl⟩
  rw [← hlocs] at hS ⊢
  refine lv_iload_n hx hb dX5_hasRoom_0 rfl (lv_at hl 2 rfl) ?_
  refine lv_if_lt (tgt := 30) hx hb dX5_hasRoom_1 (by decide) (fun hc => ?_) (fun hc => ?_)
  · have hf := jif_t hc hf
    refine lv_iconst (v := (0 : Int32)) hx hb dX5_hasRoom_30 (by decide) ?_
    exact ret_z C hP hS bz_0 hf rfl dX5_hasRoom_31
  · have hf := jif_f hc hf
    refine lv_iload_n hx hb dX5_hasRoom_4 rfl (lv_at hl 2 rfl) ?_
    refine lv_aload_n hx hb dX5_hasRoom_5 rfl (lv_at hl 0 rfl) ?_
    refine gf_X5_1 ho0 C hP wk_2_27 dX5_hasRoom_6 ?_
    refine lv_icmp_gt (tgt := 30) hx hb dX5_hasRoom_9 (by decide) (fun hc => ?_) (fun hc => ?_)
    · have hf := jif_t hc hf
      refine lv_iconst (v := (0 : Int32)) hx hb dX5_hasRoom_30 (by decide) ?_
      exact ret_z C hP hS bz_0 hf rfl dX5_hasRoom_31
    · have hf := jif_f hc hf
      refine lv_iload_n hx hb dX5_hasRoom_12 rfl (lv_at hl 1 rfl) ?_
      refine lv_if_lt (tgt := 30) hx hb dX5_hasRoom_13 (by decide) (fun hc => ?_) (fun hc => ?_)
      · have hf := jif_t hc hf
        refine lv_iconst (v := (0 : Int32)) hx hb dX5_hasRoom_30 (by decide) ?_
        exact ret_z C hP hS bz_0 hf rfl dX5_hasRoom_31
      · have hf := jif_f hc hf
        refine lv_iload_n hx hb dX5_hasRoom_16 rfl (lv_at hl 1 rfl) ?_
        refine lv_aload_n hx hb dX5_hasRoom_17 rfl (lv_at hl 0 rfl) ?_
        refine gf_X5_1 ho0 C hP wk_2_27 dX5_hasRoom_18 ?_
        refine lv_iload_n hx hb dX5_hasRoom_21 rfl (lv_at hl 2 rfl) ?_
        refine lv_isub hx hb dX5_hasRoom_22 ?_
        refine lv_icmp_gt (tgt := 30) hx hb dX5_hasRoom_23 (by decide) (fun hc => ?_) (fun hc => ?_)
        · have hf := jif_t hc hf
          refine lv_iconst (v := (0 : Int32)) hx hb dX5_hasRoom_30 (by decide) ?_
          exact ret_z C hP hS bz_0 hf rfl dX5_hasRoom_31
        · have hf := jif_f hc hf
          refine lv_iconst (v := (1 : Int32)) hx hb dX5_hasRoom_26 (by decide) ?_
          refine lv_goto (tgt := 31) hx hb dX5_hasRoom_27 (by decide) ?_
          exact ret_z C hP hS bz_1 hf rfl dX5_hasRoom_31
set_option maxHeartbeats 4000000 in
set_option maxRecDepth 100000 in
theorem k_X5_firstOther {l : Launch} {a : Nat → Nat} {cy : Nat → ClassId} {D : va_G} {ad : Nat → Nat} {A : Nat → Prop} (O : WO NX a (EHX ad A) A) {o0 : Nat} {o1 : Nat} {x2 : Int32} {r : Int32} {σ : ST} (ho0 : 9 ≤ o0 ∧ o0 < 13) (ho1 : 40 ≤ o1 ∧ o1 < 42) (hf : f_X5_firstOther o0 o1 x2 σ = some r) : Met l yX5_firstOther (Cond.code yX5_firstOther cX5_firstOther 4 (some .int) :: WS) (rmk 1 22) (PC [.ref (a o0), .ref (a o1), .int x2] NX eX a cy D (EHX ad A) σ) (QI NX eX a cy D A r σ) 0 0 A := by
  refine met_go (own := "GuardsLookLeft$Sheet") O (by decide +kernel) rfl (Nat.le_of_ble_eq_true rfl) ?_
  intro p e s m args below meth c ls C hP hS hl
  have hx := C.hx
  have hb := C.hb
  have hl : lv_has ls 4 [(0, .ref (a o0)), (1, .ref (a o1)), (2, .int x2)] := hl
  obtain ⟨H, hH⟩ : ∃ H, H = s.heap := ⟨_, rfl⟩
  rw [← hH] at hP
  have hS : va_S A s.heap H [] := by rw [hH]; exact va_S.rf
  suffices g : W p l e (rmk 1 22) s m args below meth c H [] 0 0 (MQ below (QI NX eX a cy D A r σ) args s 0 0 A) (F0 m 0 ls []) by rw [hH] at g; exact g
  clear hH
  obtain ⟨locs, hlocs⟩ : ∃ z : List Loc, z = [] := ⟨_, rfl⟩
  rw [← hlocs] at hS ⊢
  have hL29 : ∀ (k2 : Nat → Nat → Int32 → Int32 → ST → Option Int32) (hk2 : (∀ (o0 : Nat) (ho0 : 9 ≤ o0 ∧ o0 < 13) (o1 : Nat) (ho1 : 40 ≤ o1 ∧ o1 < 42) (v2 : Int32) (v3 : Int32) (H : Heap) (locs : List Loc) (ls : Array Slot), k2 o0 o1 v2 v3 σ = some r → va_P D vwCl (wG NX eX a cy σ) H → va_S A s.heap H locs → lv_has ls 4 [(0, .ref (a o0)), (1, .ref (a o1)), (2, .int v2), (3, .int v3)] → W p l e (rmk 1 22) s m args below meth c H locs 0 0 (MQ below (QI NX eX a cy D A r σ) args s 0 0 A) (F0 m 2 ls []))), (∀ (o0 : Nat) (ho0 : 9 ≤ o0 ∧ o0 < 13) (o1 : Nat) (ho1 : 40 ≤ o1 ∧ o1 < 42) (v2 : Int32) (v3 : Int32) (t0 : Int32) (t1 : Int32) (H : Heap) (locs : List Loc) (ls : Array Slot), f_X5_firstOther_L29 k2 o0 o1 v2 v3 t0 t1 σ = some r → va_P D vwCl (wG NX eX a cy σ) H → va_S A s.heap H locs → lv_has ls 4 [(0, .ref (a o0)), (1, .ref (a o1)), (2, .int v2), (3, .int v3)] → W p l e (rmk 1 22) s m args below meth c H locs 0 0 (MQ below (QI NX eX a cy D A r σ) args s 0 0 A) (F0 m 29 ls [.int t1, .int t0])) := by
    intro k2 hk2 o0 ho0 o1 ho1 v2 v3 t0 t1 H locs ls hf hP hS hl
    refine lv_icmp_eq (tgt := 34) hx hb dX5_firstOther_29 (by decide) (fun hc => ?_) (fun hc => ?_)
    · have hf := jif_t hc hf
      obtain ⟨y1, ey1, hf⟩ := jlet_e hf
      refine lv_iinc (v := y1) (lv' := [(3, .int y1), (0, .ref (a o0)), (1, .ref (a o1)), (2, .int v2)]) hx hb dX5_firstOther_34 hl (k := 3) rfl ey1 (by decide) rfl (fun ls hl => ?_)
      refine lv_goto (tgt := 2) hx hb dX5_firstOther_37 (by decide) ?_
      exact hk2 o0 ho0 o1 ho1 v2 y1 H locs ls hf hP hS (lv_sub hl [1, 2, 3, 0] rfl)
    · have hf := jif_f hc hf
      refine lv_iload_n hx hb dX5_firstOther_32 rfl (lv_at hl 3 rfl) ?_
      exact ret_i C hP hS (Option.some.inj hf) rfl dX5_firstOther_33
  have hL2 : ∀ (n : Nat), (∀ (o0 : Nat) (ho0 : 9 ≤ o0 ∧ o0 < 13) (o1 : Nat) (ho1 : 40 ≤ o1 ∧ o1 < 42) (v2 : Int32) (v3 : Int32) (H : Heap) (locs : List Loc) (ls : Array Slot), f_X5_firstOther_L2 n o0 o1 v2 v3 σ = some r → va_P D vwCl (wG NX eX a cy σ) H → va_S A s.heap H locs → lv_has ls 4 [(0, .ref (a o0)), (1, .ref (a o1)), (2, .int v2), (3, .int v3)] → W p l e (rmk 1 22) s m args below meth c H locs 0 0 (MQ below (QI NX eX a cy D A r σ) args s 0 0 A) (F0 m 2 ls [])) := by
    intro n
    induction n with
    | zero => intro o0 ho0 o1 ho1 v2 v3 H locs ls hf hP hS hl; exact no_o hf
    | succ n ih =>
      intro o0 ho0 o1 ho1 v2 v3 H locs ls hf hP hS hl
      have hf := (ef_X5_firstOther_L2 _ _ _ _ _).symm.trans hf
      refine lv_iload_n hx hb dX5_firstOther_2 rfl (lv_at hl 3 rfl) ?_
      refine lv_bipush (v := (24 : Int32)) hx hb dX5_firstOther_3 (by decide) ?_
      refine lv_icmp_ge (tgt := 40) hx hb dX5_firstOther_5 (by decide) (fun hc => ?_) (fun hc => ?_)
      · have hf := jif_t hc hf
        refine lv_iconst (v := (-1 : Int32)) hx hb dX5_firstOther_40 (by decide) ?_
        exact ret_i C hP hS (Option.some.inj hf) rfl dX5_firstOther_41
      · have hf := jif_f hc hf
        refine lv_aload_n hx hb dX5_firstOther_8 rfl (lv_at hl 0 rfl) ?_
        refine gf_X5_2 ho0 C hP wk_2_29 dX5_firstOther_9 ?_
        refine lv_iload_n hx hb dX5_firstOther_12 rfl (lv_at hl 3 rfl) ?_
        obtain ⟨hi1, hf⟩ := jix_e hf
        refine r_iald C hP (fX_54 (show 54 ≤ (o0 + 45) ∧ (o0 + 45) < 58 by omega)) hi1 dX5_firstOther_13 ?_
        refine lv_aload_n hx hb dX5_firstOther_14 rfl (lv_at hl 1 rfl) ?_
        refine lv_iload_n hx hb dX5_firstOther_15 rfl (lv_at hl 3 rfl) ?_
        obtain ⟨hi2, hf⟩ := jix_e hf
        refine r_lald C hP (fX_40 ho1) hi2 dX5_firstOther_16 ?_
        refine lv_iload_n hx hb dX5_firstOther_17 rfl (lv_at hl 2 rfl) ?_
        refine r_cz (r_runSN (As := [.long (gB σ o1 (Int32.toNatClampNeg v3)), .int v2]) (rest := [.int (gA σ (o0 + 45) (Int32.toNatClampNeg v3))]) C hP hS (k_X9_isIn (l := l) O (σ := σ) rfl) mw_X9_isIn ms_X9_isIn (C.hV.1 _ nw_16) ⟨Nat.le_of_ble_eq_true rfl, Nat.le_of_ble_eq_true rfl⟩ ⟨rfl, rfl⟩ ⟨Nat.zero_le _, Nat.zero_le _⟩ rfl hl.1 rfl (Nat.le_of_ble_eq_true rfl) dX5_firstOther_18) hS (fun H locs hzy3 hP hS => ?_)
        refine jl_topz hf hzy3 (fun y3 hzy3 hf => ?_)
        refine lv_if_eq (tgt := 28) hx hb dX5_firstOther_21 (by decide) (fun hc => ?_) (fun hc => ?_)
        · have hf := jif_t hc hf
          refine lv_iconst (v := (0 : Int32)) hx hb dX5_firstOther_28 (by decide) ?_
          exact hL29 (f_X5_firstOther_L2 n) ih o0 ho0 o1 ho1 v2 v3 (gA σ (o0 + 45) (Int32.toNatClampNeg v3)) (0 : Int32) H locs ls hf hP hS (lv_sub hl [0, 1, 2, 3] rfl)
        · have hf := jif_f hc hf
          refine lv_iconst (v := (1 : Int32)) hx hb dX5_firstOther_24 (by decide) ?_
          refine lv_goto (tgt := 29) hx hb dX5_firstOther_25 (by decide) ?_
          exact hL29 (f_X5_firstOther_L2 n) ih o0 ho0 o1 ho1 v2 v3 (gA σ (o0 + 45) (Int32.toNatClampNeg v3)) (1 : Int32) H locs ls hf hP hS (lv_sub hl [0, 1, 2, 3] rfl)
  refine lv_iconst (v := (0 : Int32)) hx hb dX5_firstOther_0 (by decide) ?_
  refine lv_istore_n (lv' := [(3, .int (0 : Int32)), (0, .ref (a o0)), (1, .ref (a o1)), (2, .int x2)]) hx hb dX5_firstOther_1 rfl hl (by decide) rfl (fun ls hl => ?_)
  exact hL2 FU o0 ho0 o1 ho1 x2 (0 : Int32) H locs ls hf hP hS (lv_sub hl [1, 2, 3, 0] rfl)
set_option maxHeartbeats 4000000 in
set_option maxRecDepth 100000 in
theorem k_X6_add {l : Launch} {a : Nat → Nat} {cy : Nat → ClassId} {D : va_G} {ad : Nat → Nat} {A : Nat → Prop} (O : WO NX a (EHX ad A) A) {r : Int32} {σ : ST} {σ' : ST} (hf : f_X6_add σ = some (r, σ')) : Met l yX6_add (Cond.code yX6_add cX6_add 3 (some .int) :: WS) (rmk 1 64) (PC [.ref (a 4), .ref (a 22), .ref (a 23)] NX eX a cy D (EHX ad A) σ) (QI NX eX a cy D A r σ') 0 0 A := by
  refine met_go (own := "GuardsLookLeft$Texts") O (by decide +kernel) rfl (Nat.le_of_ble_eq_true rfl) ?_
  intro p e s m args below meth c ls C hP hS hl
  have hx := C.hx
  have hb := C.hb
  have hl : lv_has ls 3 [(0, .ref (a 4)), (1, .ref (a 22)), (2, .ref (a 23))] := hl
  obtain ⟨H, hH⟩ : ∃ H, H = s.heap := ⟨_, rfl⟩
  rw [← hH] at hP
  have hS : va_S A s.heap H [] := by rw [hH]; exact va_S.rf
  suffices g : W p l e (rmk 1 64) s m args below meth c H [] 0 0 (MQ below (QI NX eX a cy D A r σ') args s 0 0 A) (F0 m 0 ls []) by rw [hH] at g; exact g
  clear hH
  obtain ⟨locs, hlocs⟩ : ∃ z : List Loc, z = [] := ⟨_, rfl⟩
  rw [← hlocs] at hS ⊢
  refine lv_aload_n hx hb dX6_add_0 rfl (lv_at hl 0 rfl) ?_
  refine gf_X6_2 C hP wk_1_147 dX6_add_1 ?_
  refine lv_bipush (v := (6 : Int32)) hx hb dX6_add_4 (by decide) ?_
  refine lv_icmp_lt (tgt := 12) hx hb dX6_add_6 (by decide) (fun hc => ?_) (fun hc => ?_)
  · have hf := jif_t hc hf
    refine lv_aload_n hx hb dX6_add_12 rfl (lv_at hl 1 rfl) ?_
    refine lv_iconst (v := (0 : Int32)) hx hb dX6_add_13 (by decide) ?_
    refine lv_aload_n hx hb dX6_add_14 rfl (lv_at hl 0 rfl) ?_
    refine gf_X6_0 C hP wk_1_145 dX6_add_15 ?_
    refine lv_aload_n hx hb dX6_add_18 rfl (lv_at hl 0 rfl) ?_
    refine gf_X6_2 C hP wk_1_147 dX6_add_19 ?_
    obtain ⟨hi1, hf⟩ := jix_e hf
    refine r_qald C hP aX_24 rfl rfl hi1 dX6_add_22 ?_
    refine jl_ref hf (show 25 ≤ 25 + (Int32.toNatClampNeg (gA σ 4 2)) ∧ 25 + (Int32.toNatClampNeg (gA σ 4 2)) < 31 by have := vp_lt hi1; omega) (fun q2 hq2 hf => ?_)
    refine lv_iconst (v := (0 : Int32)) hx hb dX6_add_23 (by decide) ?_
    refine lv_sipush (v := (160 : Int32)) hx hb dX6_add_24 (by decide) ?_
    refine r_copyI C hP hS hl.1 aX_22 (fX_25 hq2) ⟨⟨by decide, by decide, by decide⟩, by decide, by decide⟩ (Nat.le_of_ble_eq_true rfl) (Nat.le_of_ble_eq_true rfl) wk_2_176 dX6_add_27 hf (fun H locs s3 hf hP hS => ?_)
    refine lv_aload_n hx hb dX6_add_30 rfl (lv_at hl 2 rfl) ?_
    refine lv_iconst (v := (0 : Int32)) hx hb dX6_add_31 (by decide) ?_
    refine lv_aload_n hx hb dX6_add_32 rfl (lv_at hl 0 rfl) ?_
    refine gf_X6_1 C hP wk_1_146 dX6_add_33 ?_
    refine lv_aload_n hx hb dX6_add_36 rfl (lv_at hl 0 rfl) ?_
    refine gf_X6_2 C hP wk_1_147 dX6_add_37 ?_
    obtain ⟨hi4, hf⟩ := jix_e hf
    refine r_qald C hP aX_31 rfl rfl hi4 dX6_add_40 ?_
    refine jl_ref hf (show 32 ≤ 32 + (Int32.toNatClampNeg (gA s3 4 2)) ∧ 32 + (Int32.toNatClampNeg (gA s3 4 2)) < 38 by have := vp_lt hi4; omega) (fun q5 hq5 hf => ?_)
    refine lv_iconst (v := (0 : Int32)) hx hb dX6_add_41 (by decide) ?_
    refine lv_iconst (v := (3 : Int32)) hx hb dX6_add_42 (by decide) ?_
    refine r_copyI C hP hS hl.1 aX_23 (fX_32 hq5) ⟨⟨by decide, by decide, by decide⟩, by decide, by decide⟩ (Nat.le_of_ble_eq_true rfl) (Nat.le_of_ble_eq_true rfl) wk_2_176 dX6_add_43 hf (fun H locs s6 hf hP hS => ?_)
    refine lv_aload_n hx hb dX6_add_46 rfl (lv_at hl 0 rfl) ?_
    refine lv_dup hx hb dX6_add_47 rfl ?_
    refine gf_X6_2 C hP wk_1_147 dX6_add_48 ?_
    refine lv_dup_x1 hx hb dX6_add_51 rfl rfl ?_
    refine lv_iconst (v := (1 : Int32)) hx hb dX6_add_52 (by decide) ?_
    refine lv_iadd hx hb dX6_add_53 ?_
    refine pf_X6_2 C hP hS wk_1_147 dX6_add_54 hf (fun H locs s7 hf hP hS => ?_)
    exact ret_i C hP hS (Prod.mk.inj (Option.some.inj hf)).1 (Prod.mk.inj (Option.some.inj hf)).2 dX6_add_57
  · have hf := jif_f hc hf
    refine lv_bipush (v := (-4 : Int32)) hx hb dX6_add_9 (by decide) ?_
    exact ret_i C hP hS (Prod.mk.inj (Option.some.inj hf)).1 (Prod.mk.inj (Option.some.inj hf)).2 dX6_add_11
set_option maxHeartbeats 4000000 in
set_option maxRecDepth 100000 in
theorem k_X6_nameGuard {l : Launch} {a : Nat → Nat} {cy : Nat → ClassId} {D : va_G} {ad : Nat → Nat} {A : Nat → Prop} (O : WO NX a (EHX ad A) A) {x1 : Int32} {x2 : Int32} {x3 : Int32} {σ : ST} {σ' : ST} (hf : f_X6_nameGuard x1 x2 x3 σ = σ') : Met l yX6_nameGuard (Cond.code yX6_nameGuard cX6_nameGuard 4 none :: WS) (rmk 0 0) (PC [.ref (a 4), .int x1, .int x2, .int x3] NX eX a cy D (EHX ad A) σ) (QV NX eX a cy D A σ') 0 0 A := by
  refine met_go (own := "GuardsLookLeft$Texts") O (by decide +kernel) rfl (Nat.le_of_ble_eq_true rfl) ?_
  intro p e s m args below meth c ls C hP hS hl
  have hx := C.hx
  have hb := C.hb
  have hl : lv_has ls 4 [(0, .ref (a 4)), (1, .int x1), (2, .int x2), (3, .int x3)] := hl
  obtain ⟨H, hH⟩ : ∃ H, H = s.heap := ⟨_, rfl⟩
  rw [← hH] at hP
  have hS : va_S A s.heap H [] := by rw [hH]; exact va_S.rf
  suffices g : W p l e (rmk 0 0) s m args below meth c H [] 0 0 (MQ below (QV NX eX a cy D A σ') args s 0 0 A) (F0 m 0 ls []) by rw [hH] at g; exact g
  clear hH
  obtain ⟨locs, hlocs⟩ : ∃ z : List Loc, z = [] := ⟨_, rfl⟩
  rw [← hlocs] at hS ⊢
  refine lv_aload_n hx hb dX6_nameGuard_0 rfl (lv_at hl 0 rfl) ?_
  refine gf_X6_4 C hP wk_1_152 dX6_nameGuard_1 ?_
  refine lv_iconst (v := (2 : Int32)) hx hb dX6_nameGuard_4 (by decide) ?_
  refine lv_iload_n hx hb dX6_nameGuard_5 rfl (lv_at hl 1 rfl) ?_
  refine r_iast C hP hS aX_38 (vp_lit (by decide)) dX6_nameGuard_6 hf (fun H locs s1 hf hP hS => ?_)
  refine lv_aload_n hx hb dX6_nameGuard_7 rfl (lv_at hl 0 rfl) ?_
  refine gf_X6_4 C hP wk_1_152 dX6_nameGuard_8 ?_
  refine lv_iconst (v := (3 : Int32)) hx hb dX6_nameGuard_11 (by decide) ?_
  refine lv_iload_n hx hb dX6_nameGuard_12 rfl (lv_at hl 2 rfl) ?_
  refine r_iast C hP hS aX_38 (vp_lit (by decide)) dX6_nameGuard_13 hf (fun H locs s2 hf hP hS => ?_)
  refine lv_aload_n hx hb dX6_nameGuard_14 rfl (lv_at hl 0 rfl) ?_
  refine gf_X6_4 C hP wk_1_152 dX6_nameGuard_15 ?_
  refine lv_iconst (v := (4 : Int32)) hx hb dX6_nameGuard_18 (by decide) ?_
  refine lv_iload_n hx hb dX6_nameGuard_19 rfl (lv_at hl 3 rfl) ?_
  refine r_iast C hP hS aX_38 (vp_lit (by decide)) dX6_nameGuard_20 hf (fun H locs s3 hf hP hS => ?_)
  exact ret_v C hP hS hf dX6_nameGuard_21
set_option maxHeartbeats 4000000 in
set_option maxRecDepth 100000 in
theorem k_X6_nameCell {l : Launch} {a : Nat → Nat} {cy : Nat → ClassId} {D : va_G} {ad : Nat → Nat} {A : Nat → Prop} (O : WO NX a (EHX ad A) A) {x1 : Int32} {x2 : Int32} {x3 : Int32} {σ : ST} {σ' : ST} (hf : f_X6_nameCell x1 x2 x3 σ = σ') : Met l yX6_nameCell (Cond.code yX6_nameCell cX6_nameCell 4 none :: WS) (rmk 0 0) (PC [.ref (a 4), .int x1, .int x2, .int x3] NX eX a cy D (EHX ad A) σ) (QV NX eX a cy D A σ') 0 0 A := by
  refine met_go (own := "GuardsLookLeft$Texts") O (by decide +kernel) rfl (Nat.le_of_ble_eq_true rfl) ?_
  intro p e s m args below meth c ls C hP hS hl
  have hx := C.hx
  have hb := C.hb
  have hl : lv_has ls 4 [(0, .ref (a 4)), (1, .int x1), (2, .int x2), (3, .int x3)] := hl
  obtain ⟨H, hH⟩ : ∃ H, H = s.heap := ⟨_, rfl⟩
  rw [← hH] at hP
  have hS : va_S A s.heap H [] := by rw [hH]; exact va_S.rf
  suffices g : W p l e (rmk 0 0) s m args below meth c H [] 0 0 (MQ below (QV NX eX a cy D A σ') args s 0 0 A) (F0 m 0 ls []) by rw [hH] at g; exact g
  clear hH
  obtain ⟨locs, hlocs⟩ : ∃ z : List Loc, z = [] := ⟨_, rfl⟩
  rw [← hlocs] at hS ⊢
  refine lv_aload_n hx hb dX6_nameCell_0 rfl (lv_at hl 0 rfl) ?_
  refine gf_X6_4 C hP wk_1_152 dX6_nameCell_1 ?_
  refine lv_iconst (v := (0 : Int32)) hx hb dX6_nameCell_4 (by decide) ?_
  refine lv_iload_n hx hb dX6_nameCell_5 rfl (lv_at hl 1 rfl) ?_
  refine r_iast C hP hS aX_38 (vp_lit (by decide)) dX6_nameCell_6 hf (fun H locs s1 hf hP hS => ?_)
  refine lv_aload_n hx hb dX6_nameCell_7 rfl (lv_at hl 0 rfl) ?_
  refine gf_X6_4 C hP wk_1_152 dX6_nameCell_8 ?_
  refine lv_iconst (v := (1 : Int32)) hx hb dX6_nameCell_11 (by decide) ?_
  refine lv_iload_n hx hb dX6_nameCell_12 rfl (lv_at hl 2 rfl) ?_
  refine r_iast C hP hS aX_38 (vp_lit (by decide)) dX6_nameCell_13 hf (fun H locs s2 hf hP hS => ?_)
  refine lv_aload_n hx hb dX6_nameCell_14 rfl (lv_at hl 0 rfl) ?_
  refine gf_X6_4 C hP wk_1_152 dX6_nameCell_15 ?_
  refine lv_iconst (v := (5 : Int32)) hx hb dX6_nameCell_18 (by decide) ?_
  refine lv_iload_n hx hb dX6_nameCell_19 rfl (lv_at hl 3 rfl) ?_
  refine r_iast C hP hS aX_38 (vp_lit (by decide)) dX6_nameCell_20 hf (fun H locs s3 hf hP hS => ?_)
  exact ret_v C hP hS hf dX6_nameCell_21
set_option maxHeartbeats 4000000 in
set_option maxRecDepth 100000 in
theorem k_X6_joined {l : Launch} {a : Nat → Nat} {cy : Nat → ClassId} {D : va_G} {ad : Nat → Nat} {A : Nat → Prop} (O : WO NX a (EHX ad A) A) {x1 : Int32} {x2 : Int32} {x3 : Int32} {r : Int32} {σ : ST} (hf : f_X6_joined x1 x2 x3 = r) : Met l yX6_joined (Cond.code yX6_joined cX6_joined 3 (some .int) :: WS) (rmk 0 0) (PC [.int x1, .int x2, .int x3] NX eX a cy D (EHX ad A) σ) (QI NX eX a cy D A r σ) 0 0 A := by
  refine met_go (own := "GuardsLookLeft$Texts") O (by decide +kernel) rfl (Nat.le_of_ble_eq_true rfl) ?_
  intro p e s m args below meth c ls C hP hS hl
  have hx := C.hx
  have hb := C.hb
  have hl : lv_has ls 3 [(0, .int x1), (1, .int x2), (2, .int x3)] := hl
  obtain ⟨H, hH⟩ : ∃ H, H = s.heap := ⟨_, rfl⟩
  rw [← hH] at hP
  have hS : va_S A s.heap H [] := by rw [hH]; exact va_S.rf
  suffices g : W p l e (rmk 0 0) s m args below meth c H [] 0 0 (MQ below (QI NX eX a cy D A r σ) args s 0 0 A) (F0 m 0 ls []) by rw [hH] at g; exact g
  clear hH
  obtain ⟨locs, hlocs⟩ : ∃ z : List Loc, z = [] := ⟨_, rfl⟩
  rw [← hlocs] at hS ⊢
  refine lv_iload_n hx hb dX6_joined_0 rfl (lv_at hl 0 rfl) ?_
  by_cases hk86 : x1 = (-14 : Int32)
  · have hf := jif_t hk86 hf
    refine sw_in (k := (-14 : Int32)) (tgt := 92) C hk86 dX6_joined_1 (by decide) (by decide) rfl (by decide) ?_
    refine lv_iload_n hx hb dX6_joined_92 rfl (lv_at hl 1 rfl) ?_
    refine lv_iload_n hx hb dX6_joined_93 rfl (lv_at hl 2 rfl) ?_
    refine lv_isub hx hb dX6_joined_94 ?_
    exact ret_i C hP hS hf rfl dX6_joined_95
  · have hf := jif_f hk86 hf
    by_cases hk87 : x1 = (-13 : Int32)
    · have hf := jif_t hk87 hf
      refine sw_in (k := (-13 : Int32)) (tgt := 88) C hk87 dX6_joined_1 (by decide) (by decide) rfl (by decide) ?_
      refine lv_iload_n hx hb dX6_joined_88 rfl (lv_at hl 1 rfl) ?_
      refine lv_iload_n hx hb dX6_joined_89 rfl (lv_at hl 2 rfl) ?_
      refine lv_iadd hx hb dX6_joined_90 ?_
      exact ret_i C hP hS hf rfl dX6_joined_91
    · have hf := jif_f hk87 hf
      by_cases hk88 : x1 = (-12 : Int32)
      · have hf := jif_t hk88 hf
        refine sw_in (k := (-12 : Int32)) (tgt := 77) C hk88 dX6_joined_1 (by decide) (by decide) rfl (by decide) ?_
        refine lv_iload_n hx hb dX6_joined_77 rfl (lv_at hl 1 rfl) ?_
        refine lv_iload_n hx hb dX6_joined_78 rfl (lv_at hl 2 rfl) ?_
        refine lv_icmp_ne (tgt := 86) hx hb dX6_joined_79 (by decide) (fun hc => ?_) (fun hc => ?_)
        · have hf := jif_t hc hf
          refine lv_iconst (v := (0 : Int32)) hx hb dX6_joined_86 (by decide) ?_
          exact ret_i C hP hS hf rfl dX6_joined_87
        · have hf := jif_n hc hf
          refine lv_iconst (v := (1 : Int32)) hx hb dX6_joined_82 (by decide) ?_
          refine lv_goto (tgt := 87) hx hb dX6_joined_83 (by decide) ?_
          exact ret_i C hP hS hf rfl dX6_joined_87
      · have hf := jif_f hk88 hf
        by_cases hk89 : x1 = (-11 : Int32)
        · have hf := jif_t hk89 hf
          refine sw_in (k := (-11 : Int32)) (tgt := 66) C hk89 dX6_joined_1 (by decide) (by decide) rfl (by decide) ?_
          refine lv_iload_n hx hb dX6_joined_66 rfl (lv_at hl 1 rfl) ?_
          refine lv_iload_n hx hb dX6_joined_67 rfl (lv_at hl 2 rfl) ?_
          refine lv_icmp_ge (tgt := 75) hx hb dX6_joined_68 (by decide) (fun hc => ?_) (fun hc => ?_)
          · have hf := jif_t hc hf
            refine lv_iconst (v := (0 : Int32)) hx hb dX6_joined_75 (by decide) ?_
            exact ret_i C hP hS hf rfl dX6_joined_76
          · have hf := jif_f hc hf
            refine lv_iconst (v := (1 : Int32)) hx hb dX6_joined_71 (by decide) ?_
            refine lv_goto (tgt := 76) hx hb dX6_joined_72 (by decide) ?_
            exact ret_i C hP hS hf rfl dX6_joined_76
        · have hf := jif_f hk89 hf
          by_cases hk90 : x1 = (-10 : Int32)
          · have hf := jif_t hk90 hf
            refine sw_in (k := (-10 : Int32)) (tgt := 52) C hk90 dX6_joined_1 (by decide) (by decide) rfl (by decide) ?_
            refine lv_iload_n hx hb dX6_joined_52 rfl (lv_at hl 1 rfl) ?_
            refine lv_if_eq (tgt := 64) hx hb dX6_joined_53 (by decide) (fun hc => ?_) (fun hc => ?_)
            · have hf := jif_t hc hf
              refine lv_iconst (v := (0 : Int32)) hx hb dX6_joined_64 (by decide) ?_
              exact ret_i C hP hS hf rfl dX6_joined_65
            · have hf := jif_f hc hf
              refine lv_iload_n hx hb dX6_joined_56 rfl (lv_at hl 2 rfl) ?_
              refine lv_if_eq (tgt := 64) hx hb dX6_joined_57 (by decide) (fun hc => ?_) (fun hc => ?_)
              · have hf := jif_t hc hf
                refine lv_iconst (v := (0 : Int32)) hx hb dX6_joined_64 (by decide) ?_
                exact ret_i C hP hS hf rfl dX6_joined_65
              · have hf := jif_f hc hf
                refine lv_iconst (v := (1 : Int32)) hx hb dX6_joined_60 (by decide) ?_
                refine lv_goto (tgt := 65) hx hb dX6_joined_61 (by decide) ?_
                exact ret_i C hP hS hf rfl dX6_joined_65
          · have hf := jif_f hk90 hf
            by_cases hk91 : x1 = (-9 : Int32)
            · have hf := jif_t hk91 hf
              refine sw_in (k := (-9 : Int32)) (tgt := 40) C hk91 dX6_joined_1 (by decide) (by decide) rfl (by decide) ?_
              refine lv_iload_n hx hb dX6_joined_40 rfl (lv_at hl 1 rfl) ?_
              refine lv_iload_n hx hb dX6_joined_41 rfl (lv_at hl 2 rfl) ?_
              refine lv_ior hx hb dX6_joined_42 ?_
              refine lv_if_eq (tgt := 50) hx hb dX6_joined_43 (by decide) (fun hc => ?_) (fun hc => ?_)
              · have hf := jif_t hc hf
                refine lv_iconst (v := (0 : Int32)) hx hb dX6_joined_50 (by decide) ?_
                exact ret_i C hP hS hf rfl dX6_joined_51
              · have hf := jif_f hc hf
                refine lv_iconst (v := (1 : Int32)) hx hb dX6_joined_46 (by decide) ?_
                refine lv_goto (tgt := 51) hx hb dX6_joined_47 (by decide) ?_
                exact ret_i C hP hS hf rfl dX6_joined_51
            · have hf := jif_f hk91 hf
              refine lv_tableOut (tgt := 96) hx hb dX6_joined_1 (by have q86 := lv_neT hk86 (a := -14) (by decide); have q87 := lv_neT hk87 (a := -13) (by decide); have q88 := lv_neT hk88 (a := -12) (by decide); have q89 := lv_neT hk89 (a := -11) (by decide); have q90 := lv_neT hk90 (a := -10) (by decide); have q91 := lv_neT hk91 (a := -9) (by decide); omega) (by decide) ?_
              refine lv_iload_n hx hb dX6_joined_96 rfl (lv_at hl 1 rfl) ?_
              refine lv_iload_n hx hb dX6_joined_97 rfl (lv_at hl 2 rfl) ?_
              refine lv_imul hx hb dX6_joined_98 ?_
              exact ret_i C hP hS hf rfl dX6_joined_99
set_option maxHeartbeats 4000000 in
set_option maxRecDepth 100000 in
theorem k_X6_value {l : Launch} {a : Nat → Nat} {cy : Nat → ClassId} {D : va_G} {ad : Nat → Nat} {A : Nat → Prop} (O : WO NX a (EHX ad A) A) {x1 : Int32} {r : Int32} {σ : ST} {σ' : ST} (hf : f_X6_value x1 σ = some (r, σ')) : Met l yX6_value (Cond.code yX6_value cX6_value 7 (some .int) :: WS) (rmk 1 22) (PC [.ref (a 4), .int x1] NX eX a cy D (EHX ad A) σ) (QI NX eX a cy D A r σ') 0 0 A := by
  refine met_go (own := "GuardsLookLeft$Texts") O (by decide +kernel) rfl (Nat.le_of_ble_eq_true rfl) ?_
  intro p e s m args below meth c ls C hP hS hl
  have hx := C.hx
  have hb := C.hb
  have hl : lv_has ls 7 [(0, .ref (a 4)), (1, .int x1)] := hl
  obtain ⟨H, hH⟩ : ∃ H, H = s.heap := ⟨_, rfl⟩
  rw [← hH] at hP
  have hS : va_S A s.heap H [] := by rw [hH]; exact va_S.rf
  suffices g : W p l e (rmk 1 22) s m args below meth c H [] 0 0 (MQ below (QI NX eX a cy D A r σ') args s 0 0 A) (F0 m 0 ls []) by rw [hH] at g; exact g
  clear hH
  obtain ⟨locs, hlocs⟩ : ∃ z : List Loc, z = [] := ⟨_, rfl⟩
  rw [← hlocs] at hS ⊢
  have hL215 : ∀ (k48 : Nat → Int32 → Int32 → Int32 → ST → Option (Int32 × ST)) (hk48 : (∀ (o2 : Nat) (ho2 : 25 ≤ o2 ∧ o2 < 31) (v3 : Int32) (v4 : Int32) (v5 : Int32) (s0 : ST) (H : Heap) (locs : List Loc) (ls : Array Slot), k48 o2 v3 v4 v5 s0 = some (r, σ') → va_P D vwCl (wG NX eX a cy s0) H → va_S A s.heap H locs → lv_has ls 7 [(0, .ref (a 4)), (2, .ref (a o2)), (3, .int v3), (4, .int v4), (5, .int v5)] → W p l e (rmk 1 22) s m args below meth c H locs 0 0 (MQ below (QI NX eX a cy D A r σ') args s 0 0 A) (F0 m 48 ls []))), (∀ (o2 : Nat) (ho2 : 25 ≤ o2 ∧ o2 < 31) (v3 : Int32) (v4 : Int32) (v5 : Int32) (s0 : ST) (H : Heap) (locs : List Loc) (ls : Array Slot), f_X6_value_L215 k48 o2 v3 v4 v5 s0 = some (r, σ') → va_P D vwCl (wG NX eX a cy s0) H → va_S A s.heap H locs → lv_has ls 7 [(0, .ref (a 4)), (2, .ref (a o2)), (3, .int v3), (4, .int v4), (5, .int v5)] → W p l e (rmk 1 22) s m args below meth c H locs 0 0 (MQ below (QI NX eX a cy D A r σ') args s 0 0 A) (F0 m 215 ls [])) := by
    intro k48 hk48 o2 ho2 v3 v4 v5 s0 H locs ls hf hP hS hl
    obtain ⟨y1, ey1, hf⟩ := jlet_e hf
    refine lv_iinc (v := y1) (lv' := [(5, .int y1), (0, .ref (a 4)), (2, .ref (a o2)), (3, .int v3), (4, .int v4)]) hx hb dX6_value_215 hl (k := 4) rfl ey1 (by decide) rfl (fun ls hl => ?_)
    refine lv_goto (tgt := 48) hx hb dX6_value_218 (by decide) ?_
    exact hk48 o2 ho2 v3 v4 y1 s0 H locs ls hf hP hS (lv_sub hl [1, 2, 3, 4, 0] rfl)
  have hL176 : ∀ (k48 : Nat → Int32 → Int32 → Int32 → ST → Option (Int32 × ST)) (hk48 : (∀ (o2 : Nat) (ho2 : 25 ≤ o2 ∧ o2 < 31) (v3 : Int32) (v4 : Int32) (v5 : Int32) (s0 : ST) (H : Heap) (locs : List Loc) (ls : Array Slot), k48 o2 v3 v4 v5 s0 = some (r, σ') → va_P D vwCl (wG NX eX a cy s0) H → va_S A s.heap H locs → lv_has ls 7 [(0, .ref (a 4)), (2, .ref (a o2)), (3, .int v3), (4, .int v4), (5, .int v5)] → W p l e (rmk 1 22) s m args below meth c H locs 0 0 (MQ below (QI NX eX a cy D A r σ') args s 0 0 A) (F0 m 48 ls []))), (∀ (o2 : Nat) (ho2 : 25 ≤ o2 ∧ o2 < 31) (v3 : Int32) (v4 : Int32) (v5 : Int32) (v6 : Int32) (s0 : ST) (H : Heap) (locs : List Loc) (ls : Array Slot), f_X6_value_L176 k48 o2 v3 v4 v5 v6 s0 = some (r, σ') → va_P D vwCl (wG NX eX a cy s0) H → va_S A s.heap H locs → lv_has ls 7 [(0, .ref (a 4)), (2, .ref (a o2)), (3, .int v3), (4, .int v4), (5, .int v5), (6, .int v6)] → W p l e (rmk 1 22) s m args below meth c H locs 0 0 (MQ below (QI NX eX a cy D A r σ') args s 0 0 A) (F0 m 176 ls [])) := by
    intro k48 hk48 o2 ho2 v3 v4 v5 v6 s0 H locs ls hf hP hS hl
    refine lv_iload hx hb dX6_value_176 (lv_at hl 3 rfl) ?_
    refine lv_iconst (v := (2 : Int32)) hx hb dX6_value_178 (by decide) ?_
    refine lv_icmp_lt (tgt := 215) hx hb dX6_value_179 (by decide) (fun hc => ?_) (fun hc => ?_)
    · have hf := jif_t hc hf
      exact hL215 k48 hk48 o2 ho2 v3 v4 v5 s0 H locs ls hf hP hS (lv_sub hl [0, 1, 2, 3, 4] rfl)
    · have hf := jif_f hc hf
      obtain ⟨y1, ey1, hf⟩ := jlet_e hf
      refine lv_iinc (v := y1) (lv' := [(4, .int y1), (0, .ref (a 4)), (2, .ref (a o2)), (3, .int v3), (5, .int v5), (6, .int v6)]) hx hb dX6_value_182 hl (k := 3) rfl ey1 (by decide) rfl (fun ls hl => ?_)
      refine lv_aload_n hx hb dX6_value_185 rfl (lv_at hl 1 rfl) ?_
      refine gf_X6_5 C hP wk_1_153 dX6_value_186 ?_
      refine lv_iload hx hb dX6_value_189 (lv_at hl 0 rfl) ?_
      refine lv_iconst (v := (1 : Int32)) hx hb dX6_value_191 (by decide) ?_
      refine lv_isub hx hb dX6_value_192 ?_
      refine lv_iload hx hb dX6_value_193 (lv_at hl 5 rfl) ?_
      refine lv_aload_n hx hb dX6_value_195 rfl (lv_at hl 1 rfl) ?_
      refine gf_X6_5 C hP wk_1_153 dX6_value_196 ?_
      refine lv_iload hx hb dX6_value_199 (lv_at hl 0 rfl) ?_
      refine lv_iconst (v := (1 : Int32)) hx hb dX6_value_201 (by decide) ?_
      refine lv_isub hx hb dX6_value_202 ?_
      obtain ⟨hi2, hf⟩ := jix_e hf
      refine r_iald C hP aX_39 hi2 dX6_value_203 ?_
      refine lv_aload_n hx hb dX6_value_204 rfl (lv_at hl 1 rfl) ?_
      refine gf_X6_5 C hP wk_1_153 dX6_value_205 ?_
      refine lv_iload hx hb dX6_value_208 (lv_at hl 0 rfl) ?_
      obtain ⟨hi3, hf⟩ := jix_e hf
      refine r_iald C hP aX_39 hi3 dX6_value_210 ?_
      refine r_ci (r_runS (As := [.int v6, .int (gA s0 39 (Int32.toNatClampNeg (y1 - (1 : Int32)))), .int (gA s0 39 (Int32.toNatClampNeg y1))]) (rest := [.int (y1 - (1 : Int32)), .ref (a 39)]) C hP hS (k_X6_joined (l := l) O (σ := s0) rfl) mw_X6_joined ms_X6_joined wk_3_46 ⟨Nat.le_of_ble_eq_true rfl, Nat.le_of_ble_eq_true rfl⟩ ⟨rfl, rfl⟩ ⟨Nat.zero_le _, Nat.zero_le _⟩ rfl hl.1 rfl (Nat.le_of_ble_eq_true rfl) dX6_value_211) hS (fun H locs hP hS => ?_)
      refine jl_topi hf (fun y4 hf => ?_)
      obtain ⟨hi6, hf⟩ := jix_e hf
      refine r_iast C hP hS aX_39 hi6 dX6_value_214 hf (fun H locs s7 hf hP hS => ?_)
      exact hL215 k48 hk48 o2 ho2 v3 y1 v5 s7 H locs ls hf hP hS (lv_sub hl [1, 2, 3, 0, 4] rfl)
  have hL172 : ∀ (k48 : Nat → Int32 → Int32 → Int32 → ST → Option (Int32 × ST)) (hk48 : (∀ (o2 : Nat) (ho2 : 25 ≤ o2 ∧ o2 < 31) (v3 : Int32) (v4 : Int32) (v5 : Int32) (s0 : ST) (H : Heap) (locs : List Loc) (ls : Array Slot), k48 o2 v3 v4 v5 s0 = some (r, σ') → va_P D vwCl (wG NX eX a cy s0) H → va_S A s.heap H locs → lv_has ls 7 [(0, .ref (a 4)), (2, .ref (a o2)), (3, .int v3), (4, .int v4), (5, .int v5)] → W p l e (rmk 1 22) s m args below meth c H locs 0 0 (MQ below (QI NX eX a cy D A r σ') args s 0 0 A) (F0 m 48 ls []))), (∀ (o2 : Nat) (ho2 : 25 ≤ o2 ∧ o2 < 31) (v3 : Int32) (v4 : Int32) (v5 : Int32) (t1 : Int32) (t2 : Int32) (s0 : ST) (H : Heap) (locs : List Loc) (ls : Array Slot), f_X6_value_L172 k48 o2 v3 v4 v5 t1 t2 s0 = some (r, σ') → va_P D vwCl (wG NX eX a cy s0) H → va_S A s.heap H locs → lv_has ls 7 [(0, .ref (a 4)), (2, .ref (a o2)), (3, .int v3), (4, .int v4), (5, .int v5)] → W p l e (rmk 1 22) s m args below meth c H locs 0 0 (MQ below (QI NX eX a cy D A r σ') args s 0 0 A) (F0 m 172 ls [.int t2, .int t1, .ref (a 39)])) := by
    intro k48 hk48 o2 ho2 v3 v4 v5 t1 t2 s0 H locs ls hf hP hS hl
    obtain ⟨hi1, hf⟩ := jix_e hf
    refine r_iast C hP hS aX_39 hi1 dX6_value_172 hf (fun H locs s2 hf hP hS => ?_)
    refine lv_goto (tgt := 215) hx hb dX6_value_173 (by decide) ?_
    exact hL215 k48 hk48 o2 ho2 v3 v4 v5 s2 H locs ls hf hP hS (lv_sub hl [0, 1, 2, 3, 4] rfl)
  have hL107 : ∀ (k48 : Nat → Int32 → Int32 → Int32 → ST → Option (Int32 × ST)) (hk48 : (∀ (o2 : Nat) (ho2 : 25 ≤ o2 ∧ o2 < 31) (v3 : Int32) (v4 : Int32) (v5 : Int32) (s0 : ST) (H : Heap) (locs : List Loc) (ls : Array Slot), k48 o2 v3 v4 v5 s0 = some (r, σ') → va_P D vwCl (wG NX eX a cy s0) H → va_S A s.heap H locs → lv_has ls 7 [(0, .ref (a 4)), (2, .ref (a o2)), (3, .int v3), (4, .int v4), (5, .int v5)] → W p l e (rmk 1 22) s m args below meth c H locs 0 0 (MQ below (QI NX eX a cy D A r σ') args s 0 0 A) (F0 m 48 ls []))), (∀ (o2 : Nat) (ho2 : 25 ≤ o2 ∧ o2 < 31) (v3 : Int32) (v4 : Int32) (v5 : Int32) (v6 : Int32) (s0 : ST) (H : Heap) (locs : List Loc) (ls : Array Slot), f_X6_value_L107 k48 o2 v3 v4 v5 v6 s0 = some (r, σ') → va_P D vwCl (wG NX eX a cy s0) H → va_S A s.heap H locs → lv_has ls 7 [(0, .ref (a 4)), (2, .ref (a o2)), (3, .int v3), (4, .int v4), (5, .int v5), (6, .int v6)] → W p l e (rmk 1 22) s m args below meth c H locs 0 0 (MQ below (QI NX eX a cy D A r σ') args s 0 0 A) (F0 m 107 ls [])) := by
    intro k48 hk48 o2 ho2 v3 v4 v5 v6 s0 H locs ls hf hP hS hl
    refine lv_iload hx hb dX6_value_107 (lv_at hl 5 rfl) ?_
    refine lv_bipush (v := (-8 : Int32)) hx hb dX6_value_109 (by decide) ?_
    refine lv_icmp_lt (tgt := 176) hx hb dX6_value_111 (by decide) (fun hc => ?_) (fun hc => ?_)
    · have hf := jif_t hc hf
      exact hL176 k48 hk48 o2 ho2 v3 v4 v5 v6 s0 H locs ls hf hP hS (lv_sub hl [0, 1, 2, 3, 4, 5] rfl)
    · have hf := jif_f hc hf
      refine lv_iload hx hb dX6_value_114 (lv_at hl 5 rfl) ?_
      refine lv_bipush (v := (-7 : Int32)) hx hb dX6_value_116 (by decide) ?_
      refine lv_icmp_gt (tgt := 176) hx hb dX6_value_118 (by decide) (fun hc => ?_) (fun hc => ?_)
      · have hf := jif_t hc hf
        exact hL176 k48 hk48 o2 ho2 v3 v4 v5 v6 s0 H locs ls hf hP hS (lv_sub hl [0, 1, 2, 3, 4, 5] rfl)
      · have hf := jif_f hc hf
        refine lv_iload hx hb dX6_value_121 (lv_at hl 3 rfl) ?_
        refine lv_iconst (v := (1 : Int32)) hx hb dX6_value_123 (by decide) ?_
        refine lv_icmp_lt (tgt := 176) hx hb dX6_value_124 (by decide) (fun hc => ?_) (fun hc => ?_)
        · have hf := jif_t hc hf
          exact hL176 k48 hk48 o2 ho2 v3 v4 v5 v6 s0 H locs ls hf hP hS (lv_sub hl [0, 1, 2, 3, 4, 5] rfl)
        · have hf := jif_f hc hf
          refine lv_aload_n hx hb dX6_value_127 rfl (lv_at hl 0 rfl) ?_
          refine gf_X6_5 C hP wk_1_153 dX6_value_128 ?_
          refine lv_iload hx hb dX6_value_131 (lv_at hl 3 rfl) ?_
          refine lv_iconst (v := (1 : Int32)) hx hb dX6_value_133 (by decide) ?_
          refine lv_isub hx hb dX6_value_134 ?_
          refine lv_iload hx hb dX6_value_135 (lv_at hl 5 rfl) ?_
          refine lv_bipush (v := (-8 : Int32)) hx hb dX6_value_137 (by decide) ?_
          refine lv_icmp_ne (tgt := 155) hx hb dX6_value_139 (by decide) (fun hc => ?_) (fun hc => ?_)
          · have hf := jif_t hc hf
            refine lv_aload_n hx hb dX6_value_155 rfl (lv_at hl 0 rfl) ?_
            refine gf_X6_5 C hP wk_1_153 dX6_value_156 ?_
            refine lv_iload hx hb dX6_value_159 (lv_at hl 3 rfl) ?_
            refine lv_iconst (v := (1 : Int32)) hx hb dX6_value_161 (by decide) ?_
            refine lv_isub hx hb dX6_value_162 ?_
            obtain ⟨hi1, hf⟩ := jix_e hf
            refine r_iald C hP aX_39 hi1 dX6_value_163 ?_
            refine lv_if_ne (tgt := 171) hx hb dX6_value_164 (by decide) (fun hc => ?_) (fun hc => ?_)
            · have hf := jif_t hc hf
              refine lv_iconst (v := (0 : Int32)) hx hb dX6_value_171 (by decide) ?_
              exact hL172 k48 hk48 o2 ho2 v3 v4 v5 (v4 - (1 : Int32)) (0 : Int32) s0 H locs ls hf hP hS (lv_sub hl [0, 1, 2, 3, 4] rfl)
            · have hf := jif_n hc hf
              refine lv_iconst (v := (1 : Int32)) hx hb dX6_value_167 (by decide) ?_
              refine lv_goto (tgt := 172) hx hb dX6_value_168 (by decide) ?_
              exact hL172 k48 hk48 o2 ho2 v3 v4 v5 (v4 - (1 : Int32)) (1 : Int32) s0 H locs ls hf hP hS (lv_sub hl [0, 1, 2, 3, 4] rfl)
          · have hf := jif_n hc hf
            refine lv_aload_n hx hb dX6_value_142 rfl (lv_at hl 0 rfl) ?_
            refine gf_X6_5 C hP wk_1_153 dX6_value_143 ?_
            refine lv_iload hx hb dX6_value_146 (lv_at hl 3 rfl) ?_
            refine lv_iconst (v := (1 : Int32)) hx hb dX6_value_148 (by decide) ?_
            refine lv_isub hx hb dX6_value_149 ?_
            obtain ⟨hi2, hf⟩ := jix_e hf
            refine r_iald C hP aX_39 hi2 dX6_value_150 ?_
            refine lv_ineg hx hb dX6_value_151 ?_
            refine lv_goto (tgt := 172) hx hb dX6_value_152 (by decide) ?_
            exact hL172 k48 hk48 o2 ho2 v3 v4 v5 (v4 - (1 : Int32)) (-(gA s0 39 (Int32.toNatClampNeg (v4 - (1 : Int32))))) s0 H locs ls hf hP hS (lv_sub hl [0, 1, 2, 3, 4] rfl)
  have hL100 : ∀ (k48 : Nat → Int32 → Int32 → Int32 → ST → Option (Int32 × ST)) (hk48 : (∀ (o2 : Nat) (ho2 : 25 ≤ o2 ∧ o2 < 31) (v3 : Int32) (v4 : Int32) (v5 : Int32) (s0 : ST) (H : Heap) (locs : List Loc) (ls : Array Slot), k48 o2 v3 v4 v5 s0 = some (r, σ') → va_P D vwCl (wG NX eX a cy s0) H → va_S A s.heap H locs → lv_has ls 7 [(0, .ref (a 4)), (2, .ref (a o2)), (3, .int v3), (4, .int v4), (5, .int v5)] → W p l e (rmk 1 22) s m args below meth c H locs 0 0 (MQ below (QI NX eX a cy D A r σ') args s 0 0 A) (F0 m 48 ls []))), (∀ (o2 : Nat) (ho2 : 25 ≤ o2 ∧ o2 < 31) (v3 : Int32) (v4 : Int32) (v5 : Int32) (t1 : Int32) (t2 : Int32) (s0 : ST) (H : Heap) (locs : List Loc) (ls : Array Slot), f_X6_value_L100 k48 o2 v3 v4 v5 t1 t2 s0 = some (r, σ') → va_P D vwCl (wG NX eX a cy s0) H → va_S A s.heap H locs → lv_has ls 7 [(0, .ref (a 4)), (2, .ref (a o2)), (3, .int v3), (4, .int v4), (5, .int v5)] → W p l e (rmk 1 22) s m args below meth c H locs 0 0 (MQ below (QI NX eX a cy D A r σ') args s 0 0 A) (F0 m 100 ls [.int t2, .int t1, .ref (a 39)])) := by
    intro k48 hk48 o2 ho2 v3 v4 v5 t1 t2 s0 H locs ls hf hP hS hl
    obtain ⟨hi1, hf⟩ := jix_e hf
    refine r_iast C hP hS aX_39 hi1 dX6_value_100 hf (fun H locs s2 hf hP hS => ?_)
    obtain ⟨y3, ey3, hf⟩ := jlet_e hf
    refine lv_iinc (v := y3) (lv' := [(4, .int y3), (0, .ref (a 4)), (2, .ref (a o2)), (3, .int v3), (5, .int v5)]) hx hb dX6_value_101 hl (k := 3) rfl ey3 (by decide) rfl (fun ls hl => ?_)
    refine lv_goto (tgt := 215) hx hb dX6_value_104 (by decide) ?_
    exact hL215 k48 hk48 o2 ho2 v3 y3 v5 s2 H locs ls hf hP hS (lv_sub hl [1, 2, 3, 0, 4] rfl)
  have hL48 : ∀ (n : Nat), (∀ (o2 : Nat) (ho2 : 25 ≤ o2 ∧ o2 < 31) (v3 : Int32) (v4 : Int32) (v5 : Int32) (s0 : ST) (H : Heap) (locs : List Loc) (ls : Array Slot), f_X6_value_L48 n o2 v3 v4 v5 s0 = some (r, σ') → va_P D vwCl (wG NX eX a cy s0) H → va_S A s.heap H locs → lv_has ls 7 [(0, .ref (a 4)), (2, .ref (a o2)), (3, .int v3), (4, .int v4), (5, .int v5)] → W p l e (rmk 1 22) s m args below meth c H locs 0 0 (MQ below (QI NX eX a cy D A r σ') args s 0 0 A) (F0 m 48 ls [])) := by
    intro n
    induction n with
    | zero => intro o2 ho2 v3 v4 v5 s0 H locs ls hf hP hS hl; exact no_o hf
    | succ n ih =>
      intro o2 ho2 v3 v4 v5 s0 H locs ls hf hP hS hl
      have hf := (ef_X6_value_L48 _ _ _ _ _).symm.trans hf
      refine lv_iload hx hb dX6_value_48 (lv_at hl 4 rfl) ?_
      refine lv_iload_n hx hb dX6_value_50 rfl (lv_at hl 2 rfl) ?_
      refine lv_icmp_ge (tgt := 221) hx hb dX6_value_51 (by decide) (fun hc => ?_) (fun hc => ?_)
      · have hf := jif_t hc hf
        refine lv_iload hx hb dX6_value_221 (lv_at hl 3 rfl) ?_
        refine lv_if_le (tgt := 238) hx hb dX6_value_223 (by decide) (fun hc => ?_) (fun hc => ?_)
        · have hf := jif_t hc hf
          refine lv_iconst (v := (0 : Int32)) hx hb dX6_value_238 (by decide) ?_
          exact ret_i C hP hS (Prod.mk.inj (Option.some.inj hf)).1 (Prod.mk.inj (Option.some.inj hf)).2 dX6_value_239
        · have hf := jif_f hc hf
          refine lv_aload_n hx hb dX6_value_226 rfl (lv_at hl 0 rfl) ?_
          refine gf_X6_5 C hP wk_1_153 dX6_value_227 ?_
          refine lv_iload hx hb dX6_value_230 (lv_at hl 3 rfl) ?_
          refine lv_iconst (v := (1 : Int32)) hx hb dX6_value_232 (by decide) ?_
          refine lv_isub hx hb dX6_value_233 ?_
          obtain ⟨hi1, hf⟩ := jix_e hf
          refine r_iald C hP aX_39 hi1 dX6_value_234 ?_
          refine lv_goto (tgt := 239) hx hb dX6_value_235 (by decide) ?_
          exact ret_i C hP hS (Prod.mk.inj (Option.some.inj hf)).1 (Prod.mk.inj (Option.some.inj hf)).2 dX6_value_239
      · have hf := jif_f hc hf
        refine lv_aload_n hx hb dX6_value_54 rfl (lv_at hl 1 rfl) ?_
        refine lv_iload hx hb dX6_value_55 (lv_at hl 4 rfl) ?_
        obtain ⟨hi2, hf⟩ := jix_e hf
        refine r_iald C hP (fX_25 ho2) hi2 dX6_value_57 ?_
        refine jl_topi hf (fun y3 hf => ?_)
        refine lv_istore (lv' := [(6, .int y3), (0, .ref (a 4)), (2, .ref (a o2)), (3, .int v3), (4, .int v4), (5, .int v5)]) hx hb dX6_value_58 hl (by decide) rfl (fun ls hl => ?_)
        refine lv_iload hx hb dX6_value_60 (lv_at hl 0 rfl) ?_
        refine lv_bipush (v := (-6 : Int32)) hx hb dX6_value_62 (by decide) ?_
        refine lv_icmp_lt (tgt := 107) hx hb dX6_value_64 (by decide) (fun hc => ?_) (fun hc => ?_)
        · have hf := jif_t hc hf
          exact hL107 (f_X6_value_L48 n) ih o2 ho2 v3 v4 v5 y3 s0 H locs ls hf hP hS (lv_sub hl [1, 2, 3, 4, 5, 0] rfl)
        · have hf := jif_f hc hf
          refine lv_iload hx hb dX6_value_67 (lv_at hl 4 rfl) ?_
          refine lv_sipush (v := (160 : Int32)) hx hb dX6_value_69 (by decide) ?_
          refine lv_icmp_ge (tgt := 107) hx hb dX6_value_72 (by decide) (fun hc => ?_) (fun hc => ?_)
          · have hf := jif_t hc hf
            exact hL107 (f_X6_value_L48 n) ih o2 ho2 v3 v4 v5 y3 s0 H locs ls hf hP hS (lv_sub hl [1, 2, 3, 4, 5, 0] rfl)
          · have hf := jif_f hc hf
            refine lv_aload_n hx hb dX6_value_75 rfl (lv_at hl 1 rfl) ?_
            refine gf_X6_5 C hP wk_1_153 dX6_value_76 ?_
            refine lv_iload hx hb dX6_value_79 (lv_at hl 4 rfl) ?_
            refine lv_iload hx hb dX6_value_81 (lv_at hl 0 rfl) ?_
            refine lv_if_lt (tgt := 91) hx hb dX6_value_83 (by decide) (fun hc => ?_) (fun hc => ?_)
            · have hf := jif_t hc hf
              refine lv_aload_n hx hb dX6_value_91 rfl (lv_at hl 1 rfl) ?_
              refine gf_X6_4 C hP wk_1_152 dX6_value_92 ?_
              refine lv_iconst (v := (-1 : Int32)) hx hb dX6_value_95 (by decide) ?_
              refine lv_iload hx hb dX6_value_96 (lv_at hl 0 rfl) ?_
              refine lv_isub hx hb dX6_value_98 ?_
              obtain ⟨hi4, hf⟩ := jix_e hf
              refine r_iald C hP aX_38 hi4 dX6_value_99 ?_
              exact hL100 (f_X6_value_L48 n) ih o2 ho2 v3 v4 v5 v4 (gA s0 38 (Int32.toNatClampNeg ((-1 : Int32) - y3))) s0 H locs ls hf hP hS (lv_sub hl [1, 2, 3, 4, 5] rfl)
            · have hf := jif_f hc hf
              refine lv_iload hx hb dX6_value_86 (lv_at hl 0 rfl) ?_
              refine lv_goto (tgt := 100) hx hb dX6_value_88 (by decide) ?_
              exact hL100 (f_X6_value_L48 n) ih o2 ho2 v3 v4 v5 v4 y3 s0 H locs ls hf hP hS (lv_sub hl [1, 2, 3, 4, 5] rfl)
  have hL46 : (∀ (o2 : Nat) (ho2 : 25 ≤ o2 ∧ o2 < 31) (v3 : Int32) (v4 : Int32) (t0 : Int32) (s0 : ST) (H : Heap) (locs : List Loc) (ls : Array Slot), f_X6_value_L46 o2 v3 v4 t0 s0 = some (r, σ') → va_P D vwCl (wG NX eX a cy s0) H → va_S A s.heap H locs → lv_has ls 7 [(0, .ref (a 4)), (2, .ref (a o2)), (3, .int v3), (4, .int v4)] → W p l e (rmk 1 22) s m args below meth c H locs 0 0 (MQ below (QI NX eX a cy D A r σ') args s 0 0 A) (F0 m 46 ls [.int t0])) := by
    intro o2 ho2 v3 v4 t0 s0 H locs ls hf hP hS hl
    refine lv_istore (lv' := [(5, .int t0), (0, .ref (a 4)), (2, .ref (a o2)), (3, .int v3), (4, .int v4)]) hx hb dX6_value_46 hl (by decide) rfl (fun ls hl => ?_)
    exact hL48 FU o2 ho2 v3 v4 t0 s0 H locs ls hf hP hS (lv_sub hl [1, 2, 3, 4, 0] rfl)
  refine lv_aload_n hx hb dX6_value_0 rfl (lv_at hl 0 rfl) ?_
  refine gf_X6_0 C hP wk_1_145 dX6_value_1 ?_
  refine lv_aload_n hx hb dX6_value_4 rfl (lv_at hl 0 rfl) ?_
  refine gf_X6_3 C hP wk_1_149 dX6_value_5 ?_
  obtain ⟨hi1, hf⟩ := jix_e hf
  refine r_qald C hP aX_24 rfl rfl hi1 dX6_value_8 ?_
  refine jl_ref hf (show 25 ≤ 25 + (Int32.toNatClampNeg (gA σ 4 3)) ∧ 25 + (Int32.toNatClampNeg (gA σ 4 3)) < 31 by have := vp_lt hi1; omega) (fun q2 hq2 hf => ?_)
  refine lv_astore_n (lv' := [(2, .ref (a q2)), (0, .ref (a 4)), (1, .int x1)]) hx hb dX6_value_9 rfl hl (by decide) rfl (fun ls hl => ?_)
  refine lv_aload_n hx hb dX6_value_10 rfl (lv_at hl 1 rfl) ?_
  refine gf_X6_1 C hP wk_1_146 dX6_value_11 ?_
  refine lv_aload_n hx hb dX6_value_14 rfl (lv_at hl 1 rfl) ?_
  refine gf_X6_3 C hP wk_1_149 dX6_value_15 ?_
  obtain ⟨hi3, hf⟩ := jix_e hf
  refine r_qald C hP aX_31 rfl rfl hi3 dX6_value_18 ?_
  refine jl_ref hf (show 32 ≤ 32 + (Int32.toNatClampNeg (gA σ 4 3)) ∧ 32 + (Int32.toNatClampNeg (gA σ 4 3)) < 38 by have := vp_lt hi3; omega) (fun q4 hq4 hf => ?_)
  refine lv_iload_n hx hb dX6_value_19 rfl (lv_at hl 2 rfl) ?_
  obtain ⟨hi5, hf⟩ := jix_e hf
  refine r_iald C hP (fX_32 hq4) hi5 dX6_value_20 ?_
  refine jl_topi hf (fun y6 hf => ?_)
  refine lv_istore_n (lv' := [(3, .int y6), (2, .ref (a q2)), (0, .ref (a 4)), (1, .int x1)]) hx hb dX6_value_21 rfl hl (by decide) rfl (fun ls hl => ?_)
  refine lv_iconst (v := (0 : Int32)) hx hb dX6_value_22 (by decide) ?_
  refine lv_istore (lv' := [(4, .int (0 : Int32)), (3, .int y6), (2, .ref (a q2)), (0, .ref (a 4)), (1, .int x1)]) hx hb dX6_value_23 hl (by decide) rfl (fun ls hl => ?_)
  refine lv_iload_n hx hb dX6_value_25 rfl (lv_at hl 4 rfl) ?_
  refine lv_if_ne (tgt := 33) hx hb dX6_value_26 (by decide) (fun hc => ?_) (fun hc => ?_)
  · have hf := jif_t hc hf
    refine lv_aload_n hx hb dX6_value_33 rfl (lv_at hl 3 rfl) ?_
    refine gf_X6_1 C hP wk_1_146 dX6_value_34 ?_
    refine lv_aload_n hx hb dX6_value_37 rfl (lv_at hl 3 rfl) ?_
    refine gf_X6_3 C hP wk_1_149 dX6_value_38 ?_
    obtain ⟨hi7, hf⟩ := jix_e hf
    refine r_qald C hP aX_31 rfl rfl hi7 dX6_value_41 ?_
    refine jl_ref hf (show 32 ≤ 32 + (Int32.toNatClampNeg (gA σ 4 3)) ∧ 32 + (Int32.toNatClampNeg (gA σ 4 3)) < 38 by have := vp_lt hi7; omega) (fun q8 hq8 hf => ?_)
    refine lv_iload_n hx hb dX6_value_42 rfl (lv_at hl 4 rfl) ?_
    refine lv_iconst (v := (1 : Int32)) hx hb dX6_value_43 (by decide) ?_
    refine lv_isub hx hb dX6_value_44 ?_
    obtain ⟨hi9, hf⟩ := jix_e hf
    refine r_iald C hP (fX_32 hq8) hi9 dX6_value_45 ?_
    exact hL46 q2 hq2 y6 (0 : Int32) (gA σ q8 (Int32.toNatClampNeg (x1 - (1 : Int32)))) σ H locs ls hf hP hS (lv_sub hl [3, 2, 1, 0] rfl)
  · have hf := jif_n hc hf
    refine lv_iconst (v := (0 : Int32)) hx hb dX6_value_29 (by decide) ?_
    refine lv_goto (tgt := 46) hx hb dX6_value_30 (by decide) ?_
    exact hL46 q2 hq2 y6 (0 : Int32) (0 : Int32) σ H locs ls hf hP hS (lv_sub hl [3, 2, 1, 0] rfl)
set_option maxHeartbeats 4000000 in
set_option maxRecDepth 100000 in
theorem k_X6_says {l : Launch} {a : Nat → Nat} {cy : Nat → ClassId} {D : va_G} {ad : Nat → Nat} {A : Nat → Prop} (O : WO NX a (EHX ad A) A) {x1 : Int32} {r : Int32} {σ : ST} {σ' : ST} (hf : f_X6_says x1 σ = some (r, σ')) : Met l yX6_says (Cond.code yX6_says cX6_says 3 (some .int) :: WS) (rmk 2 64) (PC [.ref (a 4), .int x1] NX eX a cy D (EHX ad A) σ) (QI NX eX a cy D A r σ') 0 0 A := by
  refine met_go (own := "GuardsLookLeft$Texts") O (by decide +kernel) rfl (Nat.le_of_ble_eq_true rfl) ?_
  intro p e s m args below meth c ls C hP hS hl
  have hx := C.hx
  have hb := C.hb
  have hl : lv_has ls 3 [(0, .ref (a 4)), (1, .int x1)] := hl
  obtain ⟨H, hH⟩ : ∃ H, H = s.heap := ⟨_, rfl⟩
  rw [← hH] at hP
  have hS : va_S A s.heap H [] := by rw [hH]; exact va_S.rf
  suffices g : W p l e (rmk 2 64) s m args below meth c H [] 0 0 (MQ below (QI NX eX a cy D A r σ') args s 0 0 A) (F0 m 0 ls []) by rw [hH] at g; exact g
  clear hH
  obtain ⟨locs, hlocs⟩ : ∃ z : List Loc, z = [] := ⟨_, rfl⟩
  rw [← hlocs] at hS ⊢
  have hL34 : (∀ (t0 : Int32) (t1 : Int32) (t2 : Int32) (s0 : ST) (H : Heap) (locs : List Loc) (ls : Array Slot), f_X6_says_L34 t0 t1 t2 s0 = some (r, σ') → va_P D vwCl (wG NX eX a cy s0) H → va_S A s.heap H locs → lv_has ls 3 [] → W p l e (rmk 2 64) s m args below meth c H locs 0 0 (MQ below (QI NX eX a cy D A r σ') args s 0 0 A) (F0 m 34 ls [.int t2, .int t1, .int t0])) := by
    intro t0 t1 t2 s0 H locs ls hf hP hS hl
    refine r_mmin C hl.1 wk_3_49 (Nat.le_of_ble_eq_true rfl) (Nat.le_of_ble_eq_true rfl) ⟨Nat.zero_le _, Nat.zero_le _⟩ dX6_says_34 ?_
    refine r_mmax C hl.1 wk_3_52 (Nat.le_of_ble_eq_true rfl) (Nat.le_of_ble_eq_true rfl) ⟨Nat.zero_le _, Nat.zero_le _⟩ dX6_says_37 ?_
    exact ret_i C hP hS (Prod.mk.inj (Option.some.inj hf)).1 (Prod.mk.inj (Option.some.inj hf)).2 dX6_says_40
  refine lv_aload_n hx hb dX6_says_0 rfl (lv_at hl 0 rfl) ?_
  refine lv_iload_n hx hb dX6_says_1 rfl (lv_at hl 1 rfl) ?_
  obtain ⟨y1, s2, hc, hf⟩ := jbp_e hf
  refine r_ci (r_runV (As := [.int x1]) (rest := []) C hP hS (va_recv C.hK hP (q0 := 4) (ci := 6) rfl (by rw [g_at oX_6.1, oX_6.2])) (k_X6_value (l := l) O hc) mw_X6_value mi_X6_value mv_X6_value wk_3_42 ⟨Nat.le_of_ble_eq_true rfl, Nat.le_of_ble_eq_true rfl⟩ ⟨rfl, rfl⟩ ⟨Nat.zero_le _, Nat.zero_le _⟩ rfl hl.1 rfl (Nat.le_of_ble_eq_true rfl) dX6_says_2) hS (fun H locs hP hS => ?_)
  refine lv_istore_n (lv' := [(2, .int y1), (0, .ref (a 4)), (1, .int x1)]) hx hb dX6_says_5 rfl hl (by decide) rfl (fun ls hl => ?_)
  refine lv_iload_n hx hb dX6_says_6 rfl (lv_at hl 2 rfl) ?_
  refine lv_iconst (v := (1 : Int32)) hx hb dX6_says_7 (by decide) ?_
  refine lv_icmp_ne (tgt := 21) hx hb dX6_says_8 (by decide) (fun hc => ?_) (fun hc => ?_)
  · have hf := jif_t hc hf
    refine lv_iconst (v := (0 : Int32)) hx hb dX6_says_21 (by decide) ?_
    refine lv_iload_n hx hb dX6_says_22 rfl (lv_at hl 0 rfl) ?_
    refine lv_iload_n hx hb dX6_says_23 rfl (lv_at hl 2 rfl) ?_
    refine lv_if_ne (tgt := 32) hx hb dX6_says_24 (by decide) (fun hc => ?_) (fun hc => ?_)
    · have hf := jif_t hc hf
      refine lv_bipush (v := (99 : Int32)) hx hb dX6_says_32 (by decide) ?_
      exact hL34 (0 : Int32) y1 (99 : Int32) s2 H locs ls hf hP hS (lv_sub hl [] rfl)
    · have hf := jif_n hc hf
      refine lv_bipush (v := (9 : Int32)) hx hb dX6_says_27 (by decide) ?_
      refine lv_goto (tgt := 34) hx hb dX6_says_29 (by decide) ?_
      exact hL34 (0 : Int32) y1 (9 : Int32) s2 H locs ls hf hP hS (lv_sub hl [] rfl)
  · have hf := jif_n hc hf
    refine lv_iload_n hx hb dX6_says_11 rfl (lv_at hl 0 rfl) ?_
    refine lv_if_eq (tgt := 19) hx hb dX6_says_12 (by decide) (fun hc => ?_) (fun hc => ?_)
    · have hf := jif_t hc hf
      refine lv_iconst (v := (0 : Int32)) hx hb dX6_says_19 (by decide) ?_
      exact ret_i C hP hS (Prod.mk.inj (Option.some.inj hf)).1 (Prod.mk.inj (Option.some.inj hf)).2 dX6_says_20
    · have hf := jif_f hc hf
      refine lv_iconst (v := (1 : Int32)) hx hb dX6_says_15 (by decide) ?_
      refine lv_goto (tgt := 20) hx hb dX6_says_16 (by decide) ?_
      exact ret_i C hP hS (Prod.mk.inj (Option.some.inj hf)).1 (Prod.mk.inj (Option.some.inj hf)).2 dX6_says_20
set_option maxHeartbeats 4000000 in
set_option maxRecDepth 100000 in
theorem k_X7_withBeside {l : Launch} {a : Nat → Nat} {cy : Nat → ClassId} {D : va_G} {ad : Nat → Nat} {A : Nat → Prop} (O : WO NX a (EHX ad A) A) {x1 : Int64} {r : Int64} {σ : ST} (hf : f_X7_withBeside x1 = r) : Met l yX7_withBeside (Cond.code yX7_withBeside cX7_withBeside 8 (some .long) :: WS) (rmk 0 0) (PC [.long x1] NX eX a cy D (EHX ad A) σ) (QL NX eX a cy D A r σ) 0 0 A := by
  refine met_go (own := "GuardsLookLeft$Thief") O (by decide +kernel) rfl (Nat.le_of_ble_eq_true rfl) ?_
  intro p e s m args below meth c ls C hP hS hl
  have hx := C.hx
  have hb := C.hb
  have hl : lv_has ls 8 [(0, .long x1)] := hl
  obtain ⟨H, hH⟩ : ∃ H, H = s.heap := ⟨_, rfl⟩
  rw [← hH] at hP
  have hS : va_S A s.heap H [] := by rw [hH]; exact va_S.rf
  suffices g : W p l e (rmk 0 0) s m args below meth c H [] 0 0 (MQ below (QL NX eX a cy D A r σ) args s 0 0 A) (F0 m 0 ls []) by rw [hH] at g; exact g
  clear hH
  obtain ⟨locs, hlocs⟩ : ∃ z : List Loc, z = [] := ⟨_, rfl⟩
  rw [← hlocs] at hS ⊢
  refine lv_lload_n hx hb dX7_withBeside_0 rfl (lv_at hl 0 rfl) ?_
  refine lv_bipush (v := (6 : Int32)) hx hb dX7_withBeside_1 (by decide) ?_
  refine r_lshl C dX7_withBeside_3 ?_
  refine lv_lload_n hx hb dX7_withBeside_4 rfl (lv_at hl 0 rfl) ?_
  refine lv_bipush (v := (6 : Int32)) hx hb dX7_withBeside_5 (by decide) ?_
  refine r_lushr C dX7_withBeside_7 ?_
  refine lv_lor hx hb dX7_withBeside_8 ?_
  refine jl_topl hf (fun y1 hf => ?_)
  refine lv_lstore_n (lv' := [(2, .long y1), (0, .long x1)]) hx hb dX7_withBeside_9 rfl hl (by decide) rfl (fun ls hl => ?_)
  refine lv_lload_n hx hb dX7_withBeside_10 rfl (lv_at hl 1 rfl) ?_
  refine lv_iconst (v := (1 : Int32)) hx hb dX7_withBeside_11 (by decide) ?_
  refine r_lshl C dX7_withBeside_12 ?_
  refine lv_ldc2 hx hb C.hown (C.ts _ wk_3_193) dX7_withBeside_13 ?_
  refine lv_land hx hb dX7_withBeside_16 ?_
  refine jl_topl hf (fun y2 hf => ?_)
  refine lv_lstore (lv' := [(4, .long y2), (2, .long y1), (0, .long x1)]) hx hb dX7_withBeside_17 hl (by decide) rfl (fun ls hl => ?_)
  refine lv_lload_n hx hb dX7_withBeside_19 rfl (lv_at hl 2 rfl) ?_
  refine lv_ldc2 hx hb C.hown (C.ts _ wk_3_193) dX7_withBeside_20 ?_
  refine lv_land hx hb dX7_withBeside_23 ?_
  refine lv_iconst (v := (1 : Int32)) hx hb dX7_withBeside_24 (by decide) ?_
  refine r_lushr C dX7_withBeside_25 ?_
  refine jl_topl hf (fun y3 hf => ?_)
  refine lv_lstore (lv' := [(6, .long y3), (4, .long y2), (2, .long y1), (0, .long x1)]) hx hb dX7_withBeside_26 hl (by decide) rfl (fun ls hl => ?_)
  refine lv_lload_n hx hb dX7_withBeside_28 rfl (lv_at hl 3 rfl) ?_
  refine lv_lload_n hx hb dX7_withBeside_29 rfl (lv_at hl 2 rfl) ?_
  refine lv_lor hx hb dX7_withBeside_30 ?_
  refine lv_lload hx hb dX7_withBeside_31 (lv_at hl 1 rfl) ?_
  refine lv_lor hx hb dX7_withBeside_33 ?_
  refine lv_lload hx hb dX7_withBeside_34 (lv_at hl 0 rfl) ?_
  refine lv_lor hx hb dX7_withBeside_36 ?_
  refine lv_ldc2 hx hb C.hown (C.ts _ wk_3_194) dX7_withBeside_37 ?_
  refine lv_land hx hb dX7_withBeside_40 ?_
  exact ret_l C hP hS hf rfl dX7_withBeside_41
set_option maxHeartbeats 4000000 in
set_option maxRecDepth 100000 in
theorem k_J7_rangeCheck_23922 {l : Launch} {a : Nat → Nat} {cy : Nat → ClassId} {D : va_G} {ad : Nat → Nat} {A : Nat → Prop} (O : WO NX a (EHX ad A) A) {x1 : Int32} {x2 : Int32} {x3 : Int32} {σ : ST} (hf : f_J7_rangeCheck_23922 x1 x2 x3 = some ()) : Met l yJ7_rangeCheck_23922 (Cond.code yJ7_rangeCheck_23922 cJ7_rangeCheck_23922 3 none :: WS) (rmk 0 0) (PC [.int x1, .int x2, .int x3] NX eX a cy D (EHX ad A) σ) (QV NX eX a cy D A σ) 0 0 A := by
  refine met_go (own := "java/util/Arrays") O (by decide +kernel) rfl (Nat.le_of_ble_eq_true rfl) ?_
  intro p e s m args below meth c ls C hP hS hl
  have hx := C.hx
  have hb := C.hb
  have hl : lv_has ls 3 [(0, .int x1), (1, .int x2), (2, .int x3)] := hl
  obtain ⟨H, hH⟩ : ∃ H, H = s.heap := ⟨_, rfl⟩
  rw [← hH] at hP
  have hS : va_S A s.heap H [] := by rw [hH]; exact va_S.rf
  suffices g : W p l e (rmk 0 0) s m args below meth c H [] 0 0 (MQ below (QV NX eX a cy D A σ) args s 0 0 A) (F0 m 0 ls []) by rw [hH] at g; exact g
  clear hH
  obtain ⟨locs, hlocs⟩ : ∃ z : List Loc, z = [] := ⟨_, rfl⟩
  rw [← hlocs] at hS ⊢
  refine lv_iload_n hx hb dJ7_rangeCheck_23922_0 rfl (lv_at hl 1 rfl) ?_
  refine lv_iload_n hx hb dJ7_rangeCheck_23922_1 rfl (lv_at hl 2 rfl) ?_
  refine lv_icmp_le (tgt := 46) hx hb dJ7_rangeCheck_23922_2 (by decide) (fun hc => ?_) (fun hc => ?_)
  · have hf := jif_t hc hf
    refine lv_iload_n hx hb dJ7_rangeCheck_23922_46 rfl (lv_at hl 1 rfl) ?_
    refine lv_if_ge (tgt := 59) hx hb dJ7_rangeCheck_23922_47 (by decide) (fun hc => ?_) (fun hc => ?_)
    · have hf := jif_t hc hf
      refine lv_iload_n hx hb dJ7_rangeCheck_23922_59 rfl (lv_at hl 2 rfl) ?_
      refine lv_iload_n hx hb dJ7_rangeCheck_23922_60 rfl (lv_at hl 0 rfl) ?_
      refine lv_icmp_le (tgt := 73) hx hb dJ7_rangeCheck_23922_61 (by decide) (fun hc => ?_) (fun hc => ?_)
      · have hf := jif_t hc hf
        exact ret_v C hP hS rfl dJ7_rangeCheck_23922_73
      · have hf := jif_f hc hf
        exact no_o hf
    · have hf := jif_f hc hf
      exact no_o hf
  · have hf := jif_f hc hf
    exact no_o hf
set_option maxHeartbeats 4000000 in
set_option maxRecDepth 100000 in
theorem k_J7_fill_bad5a {l : Launch} {a : Nat → Nat} {cy : Nat → ClassId} {D : va_G} {ad : Nat → Nat} {A : Nat → Prop} (O : WO NX a (EHX ad A) A) {x2 : Int32} {x3 : Int32} {x4 : Int64} {σ : ST} {σ' : ST} (hf : f_J7_fill_bad5a x2 x3 x4 σ = some σ') : Met l yJ7_fill_bad5a (Cond.code yJ7_fill_bad5a cJ7_fill_bad5a 6 none :: WS) (rmk 1 22) (PC [.ref (a 50), .int x2, .int x3, .long x4] NX eX a cy D (EHX ad A) σ) (QV NX eX a cy D A σ') 0 0 A := by
  refine met_go (own := "java/util/Arrays") O (by decide +kernel) rfl (Nat.le_of_ble_eq_true rfl) ?_
  intro p e s m args below meth c ls C hP hS hl
  have hx := C.hx
  have hb := C.hb
  have hl : lv_has ls 6 [(0, .ref (a 50)), (1, .int x2), (2, .int x3), (3, .long x4)] := hl
  obtain ⟨H, hH⟩ : ∃ H, H = s.heap := ⟨_, rfl⟩
  rw [← hH] at hP
  have hS : va_S A s.heap H [] := by rw [hH]; exact va_S.rf
  suffices g : W p l e (rmk 1 22) s m args below meth c H [] 0 0 (MQ below (QV NX eX a cy D A σ') args s 0 0 A) (F0 m 0 ls []) by rw [hH] at g; exact g
  clear hH
  obtain ⟨locs, hlocs⟩ : ∃ z : List Loc, z = [] := ⟨_, rfl⟩
  rw [← hlocs] at hS ⊢
  have hL10 : ∀ (n : Nat), (∀ (v2 : Int32) (v3 : Int64) (v5 : Int32) (s0 : ST) (H : Heap) (locs : List Loc) (ls : Array Slot), f_J7_fill_bad5a_L10 n v2 v3 v5 s0 = some σ' → va_P D vwCl (wG NX eX a cy s0) H → va_S A s.heap H locs → lv_has ls 6 [(0, .ref (a 50)), (2, .int v2), (3, .long v3), (5, .int v5)] → W p l e (rmk 1 22) s m args below meth c H locs 0 0 (MQ below (QV NX eX a cy D A σ') args s 0 0 A) (F0 m 10 ls [])) := by
    intro n
    induction n with
    | zero => intro v2 v3 v5 s0 H locs ls hf hP hS hl; exact no_o hf
    | succ n ih =>
      intro v2 v3 v5 s0 H locs ls hf hP hS hl
      have hf := (ef_J7_fill_bad5a_L10 _ _ _ _).symm.trans hf
      refine lv_iload hx hb dJ7_fill_bad5a_10 (lv_at hl 3 rfl) ?_
      refine lv_iload_n hx hb dJ7_fill_bad5a_12 rfl (lv_at hl 1 rfl) ?_
      refine lv_icmp_ge (tgt := 27) hx hb dJ7_fill_bad5a_13 (by decide) (fun hc => ?_) (fun hc => ?_)
      · have hf := jif_t hc hf
        exact ret_v C hP hS (Option.some.inj hf) dJ7_fill_bad5a_27
      · have hf := jif_f hc hf
        refine lv_aload_n hx hb dJ7_fill_bad5a_16 rfl (lv_at hl 0 rfl) ?_
        refine lv_iload hx hb dJ7_fill_bad5a_17 (lv_at hl 3 rfl) ?_
        refine lv_lload_n hx hb dJ7_fill_bad5a_19 rfl (lv_at hl 2 rfl) ?_
        obtain ⟨hi1, hf⟩ := jix_e hf
        refine r_last C hP hS aX_50 hi1 dJ7_fill_bad5a_20 hf (fun H locs s2 hf hP hS => ?_)
        obtain ⟨y3, ey3, hf⟩ := jlet_e hf
        refine lv_iinc (v := y3) (lv' := [(5, .int y3), (0, .ref (a 50)), (2, .int v2), (3, .long v3)]) hx hb dJ7_fill_bad5a_21 hl (k := 3) rfl ey3 (by decide) rfl (fun ls hl => ?_)
        refine lv_goto (tgt := 10) hx hb dJ7_fill_bad5a_24 (by decide) ?_
        exact ih v2 v3 y3 s2 H locs ls hf hP hS (lv_sub hl [1, 2, 3, 0] rfl)
  refine lv_aload_n hx hb dJ7_fill_bad5a_0 rfl (lv_at hl 0 rfl) ?_
  refine r_alenJ C hP aX_50 (v := (25 : Int32)) (by decide) dJ7_fill_bad5a_1 ?_
  refine lv_iload_n hx hb dJ7_fill_bad5a_2 rfl (lv_at hl 1 rfl) ?_
  refine lv_iload_n hx hb dJ7_fill_bad5a_3 rfl (lv_at hl 2 rfl) ?_
  obtain ⟨y1, hc, hf⟩ := jb_e hf
  refine r_cv (r_runS (As := [.int (25 : Int32), .int x2, .int x3]) (rest := []) C hP hS (k_J7_rangeCheck_23922 (l := l) O (σ := σ) hc) mw_J7_rangeCheck_23922 ms_J7_rangeCheck_23922 wk_3_199 ⟨Nat.le_of_ble_eq_true rfl, Nat.le_of_ble_eq_true rfl⟩ ⟨rfl, rfl⟩ ⟨Nat.zero_le _, Nat.zero_le _⟩ rfl hl.1 rfl (Nat.le_of_ble_eq_true rfl) dJ7_fill_bad5a_4) hS (fun H locs hP hS => ?_)
  refine lv_iload_n hx hb dJ7_fill_bad5a_7 rfl (lv_at hl 1 rfl) ?_
  refine lv_istore (lv' := [(5, .int x2), (0, .ref (a 50)), (1, .int x2), (2, .int x3), (3, .long x4)]) hx hb dJ7_fill_bad5a_8 hl (by decide) rfl (fun ls hl => ?_)
  exact hL10 FU x3 x4 x2 σ H locs ls hf hP hS (lv_sub hl [1, 3, 4, 0] rfl)
set_option maxHeartbeats 4000000 in
set_option maxRecDepth 100000 in
theorem k_X7_roam {l : Launch} {a : Nat → Nat} {cy : Nat → ClassId} {D : va_G} {ad : Nat → Nat} {A : Nat → Prop} (O : WO NX a (EHX ad A) A) {o1 : Nat} {x2 : Int64} {x3 : Int32} {x4 : Int32} {x5 : Int64} {r : Int32} {σ : ST} {σ' : ST} (ho1 : 40 ≤ o1 ∧ o1 < 42) (hf : f_X7_roam o1 x2 x3 x4 x5 σ = some (r, σ')) : Met l yX7_roam (Cond.code yX7_roam cX7_roam 11 (some .int) :: WS) (rmk 2 47) (PC [.ref (a 7), .ref (a o1), .long x2, .int x3, .int x4, .long x5] NX eX a cy D (EHX ad A) σ) (QI NX eX a cy D A r σ') 0 0 A := by
  refine met_go (own := "GuardsLookLeft$Thief") O (by decide +kernel) rfl (Nat.le_of_ble_eq_true rfl) ?_
  intro p e s m args below meth c ls C hP hS hl
  have hx := C.hx
  have hb := C.hb
  have hl : lv_has ls 11 [(0, .ref (a 7)), (1, .ref (a o1)), (2, .long x2), (4, .int x3), (5, .int x4), (6, .long x5)] := hl
  obtain ⟨H, hH⟩ : ∃ H, H = s.heap := ⟨_, rfl⟩
  rw [← hH] at hP
  have hS : va_S A s.heap H [] := by rw [hH]; exact va_S.rf
  suffices g : W p l e (rmk 2 47) s m args below meth c H [] 0 0 (MQ below (QI NX eX a cy D A r σ') args s 0 0 A) (F0 m 0 ls []) by rw [hH] at g; exact g
  clear hH
  obtain ⟨locs, hlocs⟩ : ∃ z : List Loc, z = [] := ⟨_, rfl⟩
  rw [← hlocs] at hS ⊢
  have hL28 : ∀ (k9 : Nat → Int64 → Int32 → Int64 → Int64 → Int32 → ST → Option (Int32 × ST)) (hk9 : (∀ (o1 : Nat) (ho1 : 40 ≤ o1 ∧ o1 < 42) (v2 : Int64) (v5 : Int32) (v6 : Int64) (v8 : Int64) (v10 : Int32) (s0 : ST) (H : Heap) (locs : List Loc) (ls : Array Slot), k9 o1 v2 v5 v6 v8 v10 s0 = some (r, σ') → va_P D vwCl (wG NX eX a cy s0) H → va_S A s.heap H locs → lv_has ls 11 [(0, .ref (a 7)), (1, .ref (a o1)), (2, .long v2), (5, .int v5), (6, .long v6), (8, .long v8), (10, .int v10)] → W p l e (rmk 2 47) s m args below meth c H locs 0 0 (MQ below (QI NX eX a cy D A r σ') args s 0 0 A) (F0 m 9 ls []))), (∀ (o1 : Nat) (ho1 : 40 ≤ o1 ∧ o1 < 42) (v2 : Int64) (v5 : Int32) (v6 : Int64) (v8 : Int64) (v10 : Int32) (s0 : ST) (H : Heap) (locs : List Loc) (ls : Array Slot), f_X7_roam_L28 k9 o1 v2 v5 v6 v8 v10 s0 = some (r, σ') → va_P D vwCl (wG NX eX a cy s0) H → va_S A s.heap H locs → lv_has ls 11 [(0, .ref (a 7)), (1, .ref (a o1)), (2, .long v2), (5, .int v5), (6, .long v6), (8, .long v8), (10, .int v10)] → W p l e (rmk 2 47) s m args below meth c H locs 0 0 (MQ below (QI NX eX a cy D A r σ') args s 0 0 A) (F0 m 28 ls [])) := by
    intro k9 hk9 o1 ho1 v2 v5 v6 v8 v10 s0 H locs ls hf hP hS hl
    refine lv_lload hx hb dX7_roam_28 (lv_at hl 5 rfl) ?_
    refine lv_lload_n hx hb dX7_roam_30 rfl (lv_at hl 2 rfl) ?_
    refine lv_aload_n hx hb dX7_roam_31 rfl (lv_at hl 1 rfl) ?_
    refine lv_iload hx hb dX7_roam_32 (lv_at hl 3 rfl) ?_
    refine lv_iload hx hb dX7_roam_34 (lv_at hl 6 rfl) ?_
    refine lv_iadd hx hb dX7_roam_36 ?_
    refine lv_bipush (v := (24 : Int32)) hx hb dX7_roam_37 (by decide) ?_
    refine r_irem C dX7_roam_39 (by decide) ?_
    obtain ⟨hi1, hf⟩ := jix_e hf
    refine r_lald C hP (fX_40 ho1) hi1 dX7_roam_40 ?_
    refine lv_ldc2 hx hb C.hown (C.ts _ wk_3_195) dX7_roam_41 ?_
    refine lv_lxor hx hb dX7_roam_44 ?_
    refine lv_land hx hb dX7_roam_45 ?_
    refine lv_land hx hb dX7_roam_46 ?_
    refine jl_topl hf (fun y2 hf => ?_)
    refine lv_lstore (lv' := [(8, .long y2), (0, .ref (a 7)), (1, .ref (a o1)), (2, .long v2), (5, .int v5), (6, .long v6), (10, .int v10)]) hx hb dX7_roam_47 hl (by decide) rfl (fun ls hl => ?_)
    refine lv_aload_n hx hb dX7_roam_49 rfl (lv_at hl 1 rfl) ?_
    refine gf_X7_0 C hP wk_1_226 dX7_roam_50 ?_
    refine lv_iload hx hb dX7_roam_53 (lv_at hl 6 rfl) ?_
    refine lv_lload hx hb dX7_roam_55 (lv_at hl 0 rfl) ?_
    obtain ⟨hi3, hf⟩ := jix_e hf
    refine r_last C hP hS aX_50 hi3 dX7_roam_57 hf (fun H locs s4 hf hP hS => ?_)
    refine lv_lload hx hb dX7_roam_58 (lv_at hl 0 rfl) ?_
    refine lv_lload hx hb dX7_roam_60 (lv_at hl 5 rfl) ?_
    refine lv_land hx hb dX7_roam_62 ?_
    refine lv_lconst (v := (0 : Int64)) hx hb dX7_roam_63 (by decide) ?_
    refine lc_eq C (tgt := 71) dX7_roam_64 dX7_roam_65 (by decide) (fun hc => ?_) (fun hc => ?_)
    · have hf := jif_t hc hf
      refine lv_lload hx hb dX7_roam_71 (lv_at hl 0 rfl) ?_
      refine lv_lconst (v := (0 : Int64)) hx hb dX7_roam_73 (by decide) ?_
      refine lc_ne C (tgt := 92) dX7_roam_74 dX7_roam_75 (by decide) (fun hc => ?_) (fun hc => ?_)
      · have hf := jif_t hc hf
        obtain ⟨y5, ey5, hf⟩ := jlet_e hf
        refine lv_iinc (v := y5) (lv' := [(10, .int y5), (8, .long y2), (0, .ref (a 7)), (1, .ref (a o1)), (2, .long v2), (5, .int v5), (6, .long v6)]) hx hb dX7_roam_92 hl (k := 6) rfl ey5 (by decide) rfl (fun ls hl => ?_)
        refine lv_goto (tgt := 9) hx hb dX7_roam_95 (by decide) ?_
        exact hk9 o1 ho1 v2 v5 v6 y2 y5 s4 H locs ls hf hP hS (lv_sub hl [2, 3, 4, 5, 6, 1, 0] rfl)
      · have hf := jif_n hc hf
        refine lv_aload_n hx hb dX7_roam_78 rfl (lv_at hl 1 rfl) ?_
        refine gf_X7_0 C hP wk_1_226 dX7_roam_79 ?_
        refine lv_iload hx hb dX7_roam_82 (lv_at hl 6 rfl) ?_
        refine lv_bipush (v := (25 : Int32)) hx hb dX7_roam_84 (by decide) ?_
        refine lv_lconst (v := (0 : Int64)) hx hb dX7_roam_86 (by decide) ?_
        obtain ⟨s7, hc, hf⟩ := jb_e hf
        refine r_cv (r_runS (As := [.ref (a 50), .int v10, .int (25 : Int32), .long (0 : Int64)]) (rest := []) C hP hS (k_J7_fill_bad5a (l := l) O hc) mw_J7_fill_bad5a ms_J7_fill_bad5a wk_3_196 ⟨Nat.le_of_ble_eq_true rfl, Nat.le_of_ble_eq_true rfl⟩ ⟨rfl, rfl⟩ ⟨Nat.zero_le _, Nat.zero_le _⟩ rfl hl.1 rfl (Nat.le_of_ble_eq_true rfl) dX7_roam_87) hS (fun H locs hP hS => ?_)
        refine lv_iconst (v := (-1 : Int32)) hx hb dX7_roam_90 (by decide) ?_
        exact ret_i C hP hS (Prod.mk.inj (Option.some.inj hf)).1 (Prod.mk.inj (Option.some.inj hf)).2 dX7_roam_91
    · have hf := jif_f hc hf
      refine lv_iload hx hb dX7_roam_68 (lv_at hl 6 rfl) ?_
      exact ret_i C hP hS (Prod.mk.inj (Option.some.inj hf)).1 (Prod.mk.inj (Option.some.inj hf)).2 dX7_roam_70
  have hL9 : ∀ (n : Nat), (∀ (o1 : Nat) (ho1 : 40 ≤ o1 ∧ o1 < 42) (v2 : Int64) (v5 : Int32) (v6 : Int64) (v8 : Int64) (v10 : Int32) (s0 : ST) (H : Heap) (locs : List Loc) (ls : Array Slot), f_X7_roam_L9 n o1 v2 v5 v6 v8 v10 s0 = some (r, σ') → va_P D vwCl (wG NX eX a cy s0) H → va_S A s.heap H locs → lv_has ls 11 [(0, .ref (a 7)), (1, .ref (a o1)), (2, .long v2), (5, .int v5), (6, .long v6), (8, .long v8), (10, .int v10)] → W p l e (rmk 2 47) s m args below meth c H locs 0 0 (MQ below (QI NX eX a cy D A r σ') args s 0 0 A) (F0 m 9 ls [])) := by
    intro n
    induction n with
    | zero => intro o1 ho1 v2 v5 v6 v8 v10 s0 H locs ls hf hP hS hl; exact no_o hf
    | succ n ih =>
      intro o1 ho1 v2 v5 v6 v8 v10 s0 H locs ls hf hP hS hl
      have hf := (ef_X7_roam_L9 _ _ _ _ _ _ _).symm.trans hf
      refine lv_iload hx hb dX7_roam_9 (lv_at hl 6 rfl) ?_
      refine lv_bipush (v := (24 : Int32)) hx hb dX7_roam_11 (by decide) ?_
      refine lv_icmp_gt (tgt := 98) hx hb dX7_roam_13 (by decide) (fun hc => ?_) (fun hc => ?_)
      · have hf := jif_t hc hf
        refine lv_iconst (v := (-1 : Int32)) hx hb dX7_roam_98 (by decide) ?_
        exact ret_i C hP hS (Prod.mk.inj (Option.some.inj hf)).1 (Prod.mk.inj (Option.some.inj hf)).2 dX7_roam_99
      · have hf := jif_f hc hf
        refine lv_iload hx hb dX7_roam_16 (lv_at hl 6 rfl) ?_
        refine lv_if_le (tgt := 28) hx hb dX7_roam_18 (by decide) (fun hc => ?_) (fun hc => ?_)
        · have hf := jif_t hc hf
          exact hL28 (f_X7_roam_L9 n) ih o1 ho1 v2 v5 v6 v8 v10 s0 H locs ls hf hP hS (lv_sub hl [0, 1, 2, 3, 4, 5, 6] rfl)
        · have hf := jif_f hc hf
          refine lv_lload hx hb dX7_roam_21 (lv_at hl 5 rfl) ?_
          refine r_cl (r_runS (As := [.long v8]) (rest := []) C hP hS (k_X7_withBeside (l := l) O (σ := s0) rfl) mw_X7_withBeside ms_X7_withBeside wk_3_190 ⟨Nat.le_of_ble_eq_true rfl, Nat.le_of_ble_eq_true rfl⟩ ⟨rfl, rfl⟩ ⟨Nat.zero_le _, Nat.zero_le _⟩ rfl hl.1 rfl (Nat.le_of_ble_eq_true rfl) dX7_roam_23) hS (fun H locs hP hS => ?_)
          refine jl_topl hf (fun y1 hf => ?_)
          refine lv_lstore (lv' := [(8, .long y1), (0, .ref (a 7)), (1, .ref (a o1)), (2, .long v2), (5, .int v5), (6, .long v6), (10, .int v10)]) hx hb dX7_roam_26 hl (by decide) rfl (fun ls hl => ?_)
          exact hL28 (f_X7_roam_L9 n) ih o1 ho1 v2 v5 v6 y1 v10 s0 H locs ls hf hP hS (lv_sub hl [1, 2, 3, 4, 5, 0, 6] rfl)
  refine lv_lconst (v := (1 : Int64)) hx hb dX7_roam_0 (by decide) ?_
  refine lv_iload hx hb dX7_roam_1 (lv_at hl 3 rfl) ?_
  refine r_lshl C dX7_roam_3 ?_
  refine jl_topl hf (fun y1 hf => ?_)
  refine lv_lstore (lv' := [(8, .long y1), (0, .ref (a 7)), (1, .ref (a o1)), (2, .long x2), (4, .int x3), (5, .int x4), (6, .long x5)]) hx hb dX7_roam_4 hl (by decide) rfl (fun ls hl => ?_)
  refine lv_iconst (v := (0 : Int32)) hx hb dX7_roam_6 (by decide) ?_
  refine lv_istore (lv' := [(10, .int (0 : Int32)), (8, .long y1), (0, .ref (a 7)), (1, .ref (a o1)), (2, .long x2), (4, .int x3), (5, .int x4), (6, .long x5)]) hx hb dX7_roam_7 hl (by decide) rfl (fun ls hl => ?_)
  exact hL9 FU o1 ho1 x2 x4 x5 y1 (0 : Int32) σ H locs ls hf hP hS (lv_sub hl [2, 3, 4, 6, 7, 1, 0] rfl)
set_option maxHeartbeats 4000000 in
set_option maxRecDepth 100000 in
theorem k_X7_soonest {l : Launch} {a : Nat → Nat} {cy : Nat → ClassId} {D : va_G} {ad : Nat → Nat} {A : Nat → Prop} (O : WO NX a (EHX ad A) A) {o1 : Nat} {x2 : Int64} {x3 : Int32} {x4 : Int32} {x5 : Int32} {r : Int32} {σ : ST} {σ' : ST} (ho1 : 40 ≤ o1 ∧ o1 < 42) (hf : f_X7_soonest o1 x2 x3 x4 x5 σ = some (r, σ')) : Met l yX7_soonest (Cond.code yX7_soonest cX7_soonest 7 (some .int) :: WS) (rmk 3 77) (PC [.ref (a 7), .ref (a o1), .long x2, .int x3, .int x4, .int x5] NX eX a cy D (EHX ad A) σ) (QI NX eX a cy D A r σ') 0 0 A := by
  refine met_go (own := "GuardsLookLeft$Thief") O (by decide +kernel) rfl (Nat.le_of_ble_eq_true rfl) ?_
  intro p e s m args below meth c ls C hP hS hl
  have hx := C.hx
  have hb := C.hb
  have hl : lv_has ls 7 [(0, .ref (a 7)), (1, .ref (a o1)), (2, .long x2), (4, .int x3), (5, .int x4), (6, .int x5)] := hl
  obtain ⟨H, hH⟩ : ∃ H, H = s.heap := ⟨_, rfl⟩
  rw [← hH] at hP
  have hS : va_S A s.heap H [] := by rw [hH]; exact va_S.rf
  suffices g : W p l e (rmk 3 77) s m args below meth c H [] 0 0 (MQ below (QI NX eX a cy D A r σ') args s 0 0 A) (F0 m 0 ls []) by rw [hH] at g; exact g
  clear hH
  obtain ⟨locs, hlocs⟩ : ∃ z : List Loc, z = [] := ⟨_, rfl⟩
  rw [← hlocs] at hS ⊢
  refine lv_aload_n hx hb dX7_soonest_0 rfl (lv_at hl 0 rfl) ?_
  refine lv_aload_n hx hb dX7_soonest_1 rfl (lv_at hl 1 rfl) ?_
  refine lv_lload_n hx hb dX7_soonest_2 rfl (lv_at hl 2 rfl) ?_
  refine lv_iload hx hb dX7_soonest_3 (lv_at hl 3 rfl) ?_
  refine lv_iload hx hb dX7_soonest_5 (lv_at hl 5 rfl) ?_
  refine lv_lconst (v := (1 : Int64)) hx hb dX7_soonest_7 (by decide) ?_
  refine lv_iload hx hb dX7_soonest_8 (lv_at hl 4 rfl) ?_
  refine r_lshl C dX7_soonest_10 ?_
  obtain ⟨y1, s2, hc, hf⟩ := jbp_e hf
  refine r_ci (r_runV (As := [.ref (a o1), .long x2, .int x3, .int x5, .long (jlshl (1 : Int64) x4)]) (rest := []) C hP hS (va_recv C.hK hP (q0 := 7) (ci := 7) rfl (by rw [g_at oX_7.1, oX_7.2])) (k_X7_roam (l := l) O ho1 hc) mw_X7_roam mi_X7_roam mv_X7_roam wk_3_186 ⟨Nat.le_of_ble_eq_true rfl, Nat.le_of_ble_eq_true rfl⟩ ⟨rfl, rfl⟩ ⟨Nat.zero_le _, Nat.zero_le _⟩ rfl hl.1 rfl (Nat.le_of_ble_eq_true rfl) dX7_soonest_11) hS (fun H locs hP hS => ?_)
  exact ret_i C hP hS (Prod.mk.inj (Option.some.inj hf)).1 (Prod.mk.inj (Option.some.inj hf)).2 dX7_soonest_14
set_option maxHeartbeats 4000000 in
set_option maxRecDepth 100000 in
theorem k_X7_starts {l : Launch} {a : Nat → Nat} {cy : Nat → ClassId} {D : va_G} {ad : Nat → Nat} {A : Nat → Prop} (O : WO NX a (EHX ad A) A) {o1 : Nat} {x2 : Int64} {x3 : Int32} {x4 : Int32} {r : Int32} {σ : ST} {σ' : ST} (ho1 : 40 ≤ o1 ∧ o1 < 42) (hf : f_X7_starts o1 x2 x3 x4 σ = some (r, σ')) : Met l yX7_starts (Cond.code yX7_starts cX7_starts 8 (some .int) :: WS) (rmk 4 103) (PC [.ref (a 7), .ref (a o1), .long x2, .int x3, .int x4] NX eX a cy D (EHX ad A) σ) (QI NX eX a cy D A r σ') 0 0 A := by
  refine met_go (own := "GuardsLookLeft$Thief") O (by decide +kernel) rfl (Nat.le_of_ble_eq_true rfl) ?_
  intro p e s m args below meth c ls C hP hS hl
  have hx := C.hx
  have hb := C.hb
  have hl : lv_has ls 8 [(0, .ref (a 7)), (1, .ref (a o1)), (2, .long x2), (4, .int x3), (5, .int x4)] := hl
  obtain ⟨H, hH⟩ : ∃ H, H = s.heap := ⟨_, rfl⟩
  rw [← hH] at hP
  have hS : va_S A s.heap H [] := by rw [hH]; exact va_S.rf
  suffices g : W p l e (rmk 4 103) s m args below meth c H [] 0 0 (MQ below (QI NX eX a cy D A r σ') args s 0 0 A) (F0 m 0 ls []) by rw [hH] at g; exact g
  clear hH
  obtain ⟨locs, hlocs⟩ : ∃ z : List Loc, z = [] := ⟨_, rfl⟩
  rw [← hlocs] at hS ⊢
  have hL38 : ∀ (k6 : Nat → Int64 → Int32 → Int32 → Int32 → Int32 → ST → Option (Int32 × ST)) (hk6 : (∀ (o1 : Nat) (ho1 : 40 ≤ o1 ∧ o1 < 42) (v2 : Int64) (v4 : Int32) (v5 : Int32) (v6 : Int32) (v7 : Int32) (s0 : ST) (H : Heap) (locs : List Loc) (ls : Array Slot), k6 o1 v2 v4 v5 v6 v7 s0 = some (r, σ') → va_P D vwCl (wG NX eX a cy s0) H → va_S A s.heap H locs → lv_has ls 8 [(0, .ref (a 7)), (1, .ref (a o1)), (2, .long v2), (4, .int v4), (5, .int v5), (6, .int v6), (7, .int v7)] → W p l e (rmk 4 103) s m args below meth c H locs 0 0 (MQ below (QI NX eX a cy D A r σ') args s 0 0 A) (F0 m 6 ls []))), (∀ (o1 : Nat) (ho1 : 40 ≤ o1 ∧ o1 < 42) (v2 : Int64) (v4 : Int32) (v5 : Int32) (v6 : Int32) (v7 : Int32) (s0 : ST) (H : Heap) (locs : List Loc) (ls : Array Slot), f_X7_starts_L38 k6 o1 v2 v4 v5 v6 v7 s0 = some (r, σ') → va_P D vwCl (wG NX eX a cy s0) H → va_S A s.heap H locs → lv_has ls 8 [(0, .ref (a 7)), (1, .ref (a o1)), (2, .long v2), (4, .int v4), (5, .int v5), (6, .int v6), (7, .int v7)] → W p l e (rmk 4 103) s m args below meth c H locs 0 0 (MQ below (QI NX eX a cy D A r σ') args s 0 0 A) (F0 m 38 ls [])) := by
    intro k6 hk6 o1 ho1 v2 v4 v5 v6 v7 s0 H locs ls hf hP hS hl
    obtain ⟨y1, ey1, hf⟩ := jlet_e hf
    refine lv_iinc (v := y1) (lv' := [(7, .int y1), (0, .ref (a 7)), (1, .ref (a o1)), (2, .long v2), (4, .int v4), (5, .int v5), (6, .int v6)]) hx hb dX7_starts_38 hl (k := 6) rfl ey1 (by decide) rfl (fun ls hl => ?_)
    refine lv_goto (tgt := 6) hx hb dX7_starts_41 (by decide) ?_
    exact hk6 o1 ho1 v2 v4 v5 v6 y1 s0 H locs ls hf hP hS (lv_sub hl [1, 2, 3, 4, 5, 6, 0] rfl)
  have hL6 : ∀ (n : Nat), (∀ (o1 : Nat) (ho1 : 40 ≤ o1 ∧ o1 < 42) (v2 : Int64) (v4 : Int32) (v5 : Int32) (v6 : Int32) (v7 : Int32) (s0 : ST) (H : Heap) (locs : List Loc) (ls : Array Slot), f_X7_starts_L6 n o1 v2 v4 v5 v6 v7 s0 = some (r, σ') → va_P D vwCl (wG NX eX a cy s0) H → va_S A s.heap H locs → lv_has ls 8 [(0, .ref (a 7)), (1, .ref (a o1)), (2, .long v2), (4, .int v4), (5, .int v5), (6, .int v6), (7, .int v7)] → W p l e (rmk 4 103) s m args below meth c H locs 0 0 (MQ below (QI NX eX a cy D A r σ') args s 0 0 A) (F0 m 6 ls [])) := by
    intro n
    induction n with
    | zero => intro o1 ho1 v2 v4 v5 v6 v7 s0 H locs ls hf hP hS hl; exact no_o hf
    | succ n ih =>
      intro o1 ho1 v2 v4 v5 v6 v7 s0 H locs ls hf hP hS hl
      have hf := (ef_X7_starts_L6 _ _ _ _ _ _ _).symm.trans hf
      refine lv_iload hx hb dX7_starts_6 (lv_at hl 6 rfl) ?_
      refine lv_bipush (v := (24 : Int32)) hx hb dX7_starts_8 (by decide) ?_
      refine lv_icmp_ge (tgt := 44) hx hb dX7_starts_10 (by decide) (fun hc => ?_) (fun hc => ?_)
      · have hf := jif_t hc hf
        refine lv_iload hx hb dX7_starts_44 (lv_at hl 5 rfl) ?_
        exact ret_i C hP hS (Prod.mk.inj (Option.some.inj hf)).1 (Prod.mk.inj (Option.some.inj hf)).2 dX7_starts_46
      · have hf := jif_f hc hf
        refine lv_aload_n hx hb dX7_starts_13 rfl (lv_at hl 0 rfl) ?_
        refine lv_aload_n hx hb dX7_starts_14 rfl (lv_at hl 1 rfl) ?_
        refine lv_lload_n hx hb dX7_starts_15 rfl (lv_at hl 2 rfl) ?_
        refine lv_iload hx hb dX7_starts_16 (lv_at hl 3 rfl) ?_
        refine lv_iload hx hb dX7_starts_18 (lv_at hl 4 rfl) ?_
        refine lv_iload hx hb dX7_starts_20 (lv_at hl 6 rfl) ?_
        obtain ⟨y1, s2, hc, hf⟩ := jbp_e hf
        refine r_ci (r_runV (As := [.ref (a o1), .long v2, .int v4, .int v5, .int v7]) (rest := []) C hP hS (va_recv C.hK hP (q0 := 7) (ci := 7) rfl (by rw [g_at oX_7.1, oX_7.2])) (k_X7_soonest (l := l) O ho1 hc) mw_X7_soonest mi_X7_soonest mv_X7_soonest wk_3_228 ⟨Nat.le_of_ble_eq_true rfl, Nat.le_of_ble_eq_true rfl⟩ ⟨rfl, rfl⟩ ⟨Nat.zero_le _, Nat.zero_le _⟩ rfl hl.1 rfl (Nat.le_of_ble_eq_true rfl) dX7_starts_22) hS (fun H locs hP hS => ?_)
        refine lv_iconst (v := (-1 : Int32)) hx hb dX7_starts_25 (by decide) ?_
        refine lv_icmp_eq (tgt := 38) hx hb dX7_starts_26 (by decide) (fun hc => ?_) (fun hc => ?_)
        · have hf := jif_t hc hf
          exact hL38 (f_X7_starts_L6 n) ih o1 ho1 v2 v4 v5 v6 v7 s2 H locs ls hf hP hS (lv_sub hl [0, 1, 2, 3, 4, 5, 6] rfl)
        · have hf := jif_f hc hf
          refine lv_iload hx hb dX7_starts_29 (lv_at hl 5 rfl) ?_
          refine lv_iconst (v := (1 : Int32)) hx hb dX7_starts_31 (by decide) ?_
          refine lv_iload hx hb dX7_starts_32 (lv_at hl 6 rfl) ?_
          refine r_ishl C dX7_starts_34 ?_
          refine lv_ior hx hb dX7_starts_35 ?_
          refine jl_topi hf (fun y3 hf => ?_)
          refine lv_istore (lv' := [(6, .int y3), (0, .ref (a 7)), (1, .ref (a o1)), (2, .long v2), (4, .int v4), (5, .int v5), (7, .int v7)]) hx hb dX7_starts_36 hl (by decide) rfl (fun ls hl => ?_)
          exact hL38 (f_X7_starts_L6 n) ih o1 ho1 v2 v4 v5 y3 v7 s2 H locs ls hf hP hS (lv_sub hl [1, 2, 3, 4, 5, 0, 6] rfl)
  refine lv_iconst (v := (0 : Int32)) hx hb dX7_starts_0 (by decide) ?_
  refine lv_istore (lv' := [(6, .int (0 : Int32)), (0, .ref (a 7)), (1, .ref (a o1)), (2, .long x2), (4, .int x3), (5, .int x4)]) hx hb dX7_starts_1 hl (by decide) rfl (fun ls hl => ?_)
  refine lv_iconst (v := (0 : Int32)) hx hb dX7_starts_3 (by decide) ?_
  refine lv_istore (lv' := [(7, .int (0 : Int32)), (6, .int (0 : Int32)), (0, .ref (a 7)), (1, .ref (a o1)), (2, .long x2), (4, .int x3), (5, .int x4)]) hx hb dX7_starts_4 hl (by decide) rfl (fun ls hl => ?_)
  exact hL6 FU o1 ho1 x2 x3 x4 (0 : Int32) (0 : Int32) σ H locs ls hf hP hS (lv_sub hl [2, 3, 4, 5, 6, 1, 0] rfl)
set_option maxHeartbeats 4000000 in
set_option maxRecDepth 100000 in
theorem k_X7_cameFrom {l : Launch} {a : Nat → Nat} {cy : Nat → ClassId} {D : va_G} {ad : Nat → Nat} {A : Nat → Prop} (O : WO NX a (EHX ad A) A) {x1 : Int32} {x2 : Int64} {r : Int32} {σ : ST} (hf : f_X7_cameFrom x1 x2 = some r) : Met l yX7_cameFrom (Cond.code yX7_cameFrom cX7_cameFrom 5 (some .int) :: WS) (rmk 1 22) (PC [.int x1, .long x2] NX eX a cy D (EHX ad A) σ) (QI NX eX a cy D A r σ) 0 0 A := by
  refine met_go (own := "GuardsLookLeft$Thief") O (by decide +kernel) rfl (Nat.le_of_ble_eq_true rfl) ?_
  intro p e s m args below meth c ls C hP hS hl
  have hx := C.hx
  have hb := C.hb
  have hl : lv_has ls 5 [(0, .int x1), (1, .long x2)] := hl
  obtain ⟨H, hH⟩ : ∃ H, H = s.heap := ⟨_, rfl⟩
  rw [← hH] at hP
  have hS : va_S A s.heap H [] := by rw [hH]; exact va_S.rf
  suffices g : W p l e (rmk 1 22) s m args below meth c H [] 0 0 (MQ below (QI NX eX a cy D A r σ) args s 0 0 A) (F0 m 0 ls []) by rw [hH] at g; exact g
  clear hH
  obtain ⟨locs, hlocs⟩ : ∃ z : List Loc, z = [] := ⟨_, rfl⟩
  rw [← hlocs] at hS ⊢
  have hL42 : ∀ (k12 : Int32 → Int64 → Int32 → Option Int32) (hk12 : (∀ (v0 : Int32) (v1 : Int64) (v3 : Int32) (H : Heap) (locs : List Loc) (ls : Array Slot), k12 v0 v1 v3 = some r → va_P D vwCl (wG NX eX a cy σ) H → va_S A s.heap H locs → lv_has ls 5 [(0, .int v0), (1, .long v1), (3, .int v3)] → W p l e (rmk 1 22) s m args below meth c H locs 0 0 (MQ below (QI NX eX a cy D A r σ) args s 0 0 A) (F0 m 12 ls []))), (∀ (v0 : Int32) (v1 : Int64) (v3 : Int32) (H : Heap) (locs : List Loc) (ls : Array Slot), f_X7_cameFrom_L42 k12 v0 v1 v3 = some r → va_P D vwCl (wG NX eX a cy σ) H → va_S A s.heap H locs → lv_has ls 5 [(0, .int v0), (1, .long v1), (3, .int v3)] → W p l e (rmk 1 22) s m args below meth c H locs 0 0 (MQ below (QI NX eX a cy D A r σ) args s 0 0 A) (F0 m 42 ls [])) := by
    intro k12 hk12 v0 v1 v3 H locs ls hf hP hS hl
    obtain ⟨y1, ey1, hf⟩ := jlet_e hf
    refine lv_iinc (v := y1) (lv' := [(3, .int y1), (0, .int v0), (1, .long v1)]) hx hb dX7_cameFrom_42 hl (k := 2) rfl ey1 (by decide) rfl (fun ls hl => ?_)
    refine lv_goto (tgt := 12) hx hb dX7_cameFrom_45 (by decide) ?_
    exact hk12 v0 v1 y1 H locs ls hf hP hS (lv_sub hl [1, 2, 0] rfl)
  have hL12 : ∀ (n : Nat), (∀ (v0 : Int32) (v1 : Int64) (v3 : Int32) (H : Heap) (locs : List Loc) (ls : Array Slot), f_X7_cameFrom_L12 n v0 v1 v3 = some r → va_P D vwCl (wG NX eX a cy σ) H → va_S A s.heap H locs → lv_has ls 5 [(0, .int v0), (1, .long v1), (3, .int v3)] → W p l e (rmk 1 22) s m args below meth c H locs 0 0 (MQ below (QI NX eX a cy D A r σ) args s 0 0 A) (F0 m 12 ls [])) := by
    intro n
    induction n with
    | zero => intro v0 v1 v3 H locs ls hf hP hS hl; exact no_o hf
    | succ n ih =>
      intro v0 v1 v3 H locs ls hf hP hS hl
      have hf := (ef_X7_cameFrom_L12 _ _ _).symm.trans hf
      refine lv_iload_n hx hb dX7_cameFrom_12 rfl (lv_at hl 2 rfl) ?_
      refine lv_iconst (v := (4 : Int32)) hx hb dX7_cameFrom_13 (by decide) ?_
      refine lv_icmp_ge (tgt := 48) hx hb dX7_cameFrom_14 (by decide) (fun hc => ?_) (fun hc => ?_)
      · have hf := jif_t hc hf
        refine lv_iload_n hx hb dX7_cameFrom_48 rfl (lv_at hl 0 rfl) ?_
        exact ret_i C hP hS (Option.some.inj hf) rfl dX7_cameFrom_49
      · have hf := jif_f hc hf
        refine lv_iload_n hx hb dX7_cameFrom_17 rfl (lv_at hl 0 rfl) ?_
        refine lv_iload_n hx hb dX7_cameFrom_18 rfl (lv_at hl 2 rfl) ?_
        refine r_ci (r_runSN (As := [.int v0, .int v3]) (rest := []) C hP hS (k_X9_beside (l := l) O (σ := σ) rfl) mw_X9_beside ms_X9_beside (C.hV.1 _ nw_15) ⟨Nat.le_of_ble_eq_true rfl, Nat.le_of_ble_eq_true rfl⟩ ⟨rfl, rfl⟩ ⟨Nat.zero_le _, Nat.zero_le _⟩ rfl hl.1 rfl (Nat.le_of_ble_eq_true rfl) dX7_cameFrom_19) hS (fun H locs hP hS => ?_)
        refine jl_topi hf (fun y1 hf => ?_)
        refine lv_istore (lv' := [(4, .int y1), (0, .int v0), (1, .long v1), (3, .int v3)]) hx hb dX7_cameFrom_22 hl (by decide) rfl (fun ls hl => ?_)
        refine lv_iload hx hb dX7_cameFrom_24 (lv_at hl 0 rfl) ?_
        refine lv_iconst (v := (-1 : Int32)) hx hb dX7_cameFrom_26 (by decide) ?_
        refine lv_icmp_eq (tgt := 42) hx hb dX7_cameFrom_27 (by decide) (fun hc => ?_) (fun hc => ?_)
        · have hf := jif_t hc hf
          exact hL42 (f_X7_cameFrom_L12 n) ih v0 v1 v3 H locs ls hf hP hS (lv_sub hl [1, 2, 3] rfl)
        · have hf := jif_f hc hf
          refine lv_lload_n hx hb dX7_cameFrom_30 rfl (lv_at hl 2 rfl) ?_
          refine lv_iload hx hb dX7_cameFrom_31 (lv_at hl 0 rfl) ?_
          refine r_cz (r_runSN (As := [.long v1, .int y1]) (rest := []) C hP hS (k_X9_isIn (l := l) O (σ := σ) rfl) mw_X9_isIn ms_X9_isIn (C.hV.1 _ nw_14) ⟨Nat.le_of_ble_eq_true rfl, Nat.le_of_ble_eq_true rfl⟩ ⟨rfl, rfl⟩ ⟨Nat.zero_le _, Nat.zero_le _⟩ rfl hl.1 rfl (Nat.le_of_ble_eq_true rfl) dX7_cameFrom_33) hS (fun H locs hzy3 hP hS => ?_)
          refine jl_topz hf hzy3 (fun y3 hzy3 hf => ?_)
          refine lv_if_eq (tgt := 42) hx hb dX7_cameFrom_36 (by decide) (fun hc => ?_) (fun hc => ?_)
          · have hf := jif_t hc hf
            exact hL42 (f_X7_cameFrom_L12 n) ih v0 v1 v3 H locs ls hf hP hS (lv_sub hl [1, 2, 3] rfl)
          · have hf := jif_f hc hf
            refine lv_iload hx hb dX7_cameFrom_39 (lv_at hl 0 rfl) ?_
            exact ret_i C hP hS (Option.some.inj hf) rfl dX7_cameFrom_41
  refine lv_lload_n hx hb dX7_cameFrom_0 rfl (lv_at hl 1 rfl) ?_
  refine lv_iload_n hx hb dX7_cameFrom_1 rfl (lv_at hl 0 rfl) ?_
  refine r_cz (r_runSN (As := [.long x2, .int x1]) (rest := []) C hP hS (k_X9_isIn (l := l) O (σ := σ) rfl) mw_X9_isIn ms_X9_isIn (C.hV.1 _ nw_14) ⟨Nat.le_of_ble_eq_true rfl, Nat.le_of_ble_eq_true rfl⟩ ⟨rfl, rfl⟩ ⟨Nat.zero_le _, Nat.zero_le _⟩ rfl hl.1 rfl (Nat.le_of_ble_eq_true rfl) dX7_cameFrom_2) hS (fun H locs hzy1 hP hS => ?_)
  refine jl_topz hf hzy1 (fun y1 hzy1 hf => ?_)
  refine lv_if_eq (tgt := 10) hx hb dX7_cameFrom_5 (by decide) (fun hc => ?_) (fun hc => ?_)
  · have hf := jif_t hc hf
    refine lv_iconst (v := (0 : Int32)) hx hb dX7_cameFrom_10 (by decide) ?_
    refine lv_istore_n (lv' := [(3, .int (0 : Int32)), (0, .int x1), (1, .long x2)]) hx hb dX7_cameFrom_11 rfl hl (by decide) rfl (fun ls hl => ?_)
    exact hL12 FU x1 x2 (0 : Int32) H locs ls hf hP hS (lv_sub hl [1, 2, 0] rfl)
  · have hf := jif_f hc hf
    refine lv_iload_n hx hb dX7_cameFrom_8 rfl (lv_at hl 0 rfl) ?_
    exact ret_i C hP hS (Option.some.inj hf) rfl dX7_cameFrom_9
set_option maxHeartbeats 4000000 in
set_option maxRecDepth 100000 in
theorem k_X7_before {l : Launch} {a : Nat → Nat} {cy : Nat → ClassId} {D : va_G} {ad : Nat → Nat} {A : Nat → Prop} (O : WO NX a (EHX ad A) A) {x1 : Int32} {x2 : Int32} {x3 : Int32} {r : Int32} {σ : ST} (hf : f_X7_before x1 x2 x3 σ = some r) : Met l yX7_before (Cond.code yX7_before cX7_before 6 (some .int) :: WS) (rmk 2 46) (PC [.ref (a 7), .int x1, .int x2, .int x3] NX eX a cy D (EHX ad A) σ) (QI NX eX a cy D A r σ) 0 0 A := by
  refine met_go (own := "GuardsLookLeft$Thief") O (by decide +kernel) rfl (Nat.le_of_ble_eq_true rfl) ?_
  intro p e s m args below meth c ls C hP hS hl
  have hx := C.hx
  have hb := C.hb
  have hl : lv_has ls 6 [(0, .ref (a 7)), (1, .int x1), (2, .int x2), (3, .int x3)] := hl
  obtain ⟨H, hH⟩ : ∃ H, H = s.heap := ⟨_, rfl⟩
  rw [← hH] at hP
  have hS : va_S A s.heap H [] := by rw [hH]; exact va_S.rf
  suffices g : W p l e (rmk 2 46) s m args below meth c H [] 0 0 (MQ below (QI NX eX a cy D A r σ) args s 0 0 A) (F0 m 0 ls []) by rw [hH] at g; exact g
  clear hH
  obtain ⟨locs, hlocs⟩ : ∃ z : List Loc, z = [] := ⟨_, rfl⟩
  rw [← hlocs] at hS ⊢
  have hL6 : ∀ (n : Nat), (∀ (v3 : Int32) (v4 : Int32) (v5 : Int32) (H : Heap) (locs : List Loc) (ls : Array Slot), f_X7_before_L6 n v3 v4 v5 σ = some r → va_P D vwCl (wG NX eX a cy σ) H → va_S A s.heap H locs → lv_has ls 6 [(0, .ref (a 7)), (3, .int v3), (4, .int v4), (5, .int v5)] → W p l e (rmk 2 46) s m args below meth c H locs 0 0 (MQ below (QI NX eX a cy D A r σ) args s 0 0 A) (F0 m 6 ls [])) := by
    intro n
    induction n with
    | zero => intro v3 v4 v5 H locs ls hf hP hS hl; exact no_o hf
    | succ n ih =>
      intro v3 v4 v5 H locs ls hf hP hS hl
      have hf := (ef_X7_before_L6 _ _ _ _).symm.trans hf
      refine lv_iload hx hb dX7_before_6 (lv_at hl 3 rfl) ?_
      refine lv_iload_n hx hb dX7_before_8 rfl (lv_at hl 1 rfl) ?_
      refine lv_icmp_le (tgt := 34) hx hb dX7_before_9 (by decide) (fun hc => ?_) (fun hc => ?_)
      · have hf := jif_t hc hf
        refine lv_iload hx hb dX7_before_34 (lv_at hl 2 rfl) ?_
        exact ret_i C hP hS (Option.some.inj hf) rfl dX7_before_36
      · have hf := jif_f hc hf
        refine lv_iload hx hb dX7_before_12 (lv_at hl 2 rfl) ?_
        refine lv_aload_n hx hb dX7_before_14 rfl (lv_at hl 0 rfl) ?_
        refine gf_X7_0 C hP wk_1_226 dX7_before_15 ?_
        refine lv_iload hx hb dX7_before_18 (lv_at hl 3 rfl) ?_
        refine lv_iconst (v := (1 : Int32)) hx hb dX7_before_20 (by decide) ?_
        refine lv_isub hx hb dX7_before_21 ?_
        obtain ⟨hi1, hf⟩ := jix_e hf
        refine r_lald C hP aX_50 hi1 dX7_before_22 ?_
        obtain ⟨y2, hc, hf⟩ := jb_e hf
        refine r_ci (r_runS (As := [.int v4, .long (gB σ 50 (Int32.toNatClampNeg (v5 - (1 : Int32))))]) (rest := []) C hP hS (k_X7_cameFrom (l := l) O (σ := σ) hc) mw_X7_cameFrom ms_X7_cameFrom wk_3_210 ⟨Nat.le_of_ble_eq_true rfl, Nat.le_of_ble_eq_true rfl⟩ ⟨rfl, rfl⟩ ⟨Nat.zero_le _, Nat.zero_le _⟩ rfl hl.1 rfl (Nat.le_of_ble_eq_true rfl) dX7_before_23) hS (fun H locs hP hS => ?_)
        refine lv_istore (lv' := [(4, .int y2), (0, .ref (a 7)), (3, .int v3), (5, .int v5)]) hx hb dX7_before_26 hl (by decide) rfl (fun ls hl => ?_)
        obtain ⟨y4, ey4, hf⟩ := jlet_e hf
        refine lv_iinc (v := y4) (lv' := [(5, .int y4), (4, .int y2), (0, .ref (a 7)), (3, .int v3)]) hx hb dX7_before_28 hl (k := 3) rfl ey4 (by decide) rfl (fun ls hl => ?_)
        refine lv_goto (tgt := 6) hx hb dX7_before_31 (by decide) ?_
        exact ih v3 y2 y4 H locs ls hf hP hS (lv_sub hl [2, 3, 1, 0] rfl)
  refine lv_iload_n hx hb dX7_before_0 rfl (lv_at hl 1 rfl) ?_
  refine lv_istore (lv' := [(4, .int x1), (0, .ref (a 7)), (1, .int x1), (2, .int x2), (3, .int x3)]) hx hb dX7_before_1 hl (by decide) rfl (fun ls hl => ?_)
  refine lv_iload_n hx hb dX7_before_3 rfl (lv_at hl 3 rfl) ?_
  refine lv_istore (lv' := [(5, .int x2), (4, .int x1), (0, .ref (a 7)), (1, .int x1), (2, .int x2), (3, .int x3)]) hx hb dX7_before_4 hl (by decide) rfl (fun ls hl => ?_)
  exact hL6 FU x3 x1 x2 H locs ls hf hP hS (lv_sub hl [2, 5, 1, 0] rfl)
set_option maxHeartbeats 4000000 in
set_option maxRecDepth 100000 in
theorem k_X9_leftOf {l : Launch} {a : Nat → Nat} {cy : Nat → ClassId} {D : va_G} {ad : Nat → Nat} {A : Nat → Prop} (O : WO NX a (EHX ad A) A) {x1 : Int32} {r : Int32} {σ : ST} (hf : f_X9_leftOf x1 = r) : Met l yX9_leftOf (Cond.code yX9_leftOf cX9_leftOf 1 (some .int) :: WS) (rmk 0 0) (PC [.int x1] NX eX a cy D (EHX ad A) σ) (QI NX eX a cy D A r σ) 0 0 A := by
  refine met_go (own := "GuardsLookLeft") O (by decide +kernel) rfl (Nat.le_of_ble_eq_true rfl) ?_
  intro p e s m args below meth c ls C hP hS hl
  have hx := C.hx
  have hb := C.hb
  have hl : lv_has ls 1 [(0, .int x1)] := hl
  obtain ⟨H, hH⟩ : ∃ H, H = s.heap := ⟨_, rfl⟩
  rw [← hH] at hP
  have hS : va_S A s.heap H [] := by rw [hH]; exact va_S.rf
  suffices g : W p l e (rmk 0 0) s m args below meth c H [] 0 0 (MQ below (QI NX eX a cy D A r σ) args s 0 0 A) (F0 m 0 ls []) by rw [hH] at g; exact g
  clear hH
  obtain ⟨locs, hlocs⟩ : ∃ z : List Loc, z = [] := ⟨_, rfl⟩
  rw [← hlocs] at hS ⊢
  refine lv_iload_n hx hb dX9_leftOf_0 rfl (lv_at hl 0 rfl) ?_
  refine lv_iconst (v := (3 : Int32)) hx hb dX9_leftOf_1 (by decide) ?_
  refine lv_iadd hx hb dX9_leftOf_2 ?_
  refine lv_iconst (v := (4 : Int32)) hx hb dX9_leftOf_3 (by decide) ?_
  refine r_irem C dX9_leftOf_4 (by decide) ?_
  exact ret_i C hP hS hf rfl dX9_leftOf_5
set_option maxHeartbeats 4000000 in
set_option maxRecDepth 100000 in
theorem k_J7_fill_d0a16 {l : Launch} {a : Nat → Nat} {cy : Nat → ClassId} {D : va_G} {ad : Nat → Nat} {A : Nat → Prop} (O : WO NX a (EHX ad A) A) {x2 : Int64} {σ : ST} {σ' : ST} (hf : f_J7_fill_d0a16 x2 σ = some σ') : Met l yJ7_fill_d0a16 (Cond.code yJ7_fill_d0a16 cJ7_fill_d0a16 5 none :: WS) (rmk 0 0) (PC [.ref (a 41), .long x2] NX eX a cy D (EHX ad A) σ) (QV NX eX a cy D A σ') 0 0 A := by
  refine met_go (own := "java/util/Arrays") O (by decide +kernel) rfl (Nat.le_of_ble_eq_true rfl) ?_
  intro p e s m args below meth c ls C hP hS hl
  have hx := C.hx
  have hb := C.hb
  have hl : lv_has ls 5 [(0, .ref (a 41)), (1, .long x2)] := hl
  obtain ⟨H, hH⟩ : ∃ H, H = s.heap := ⟨_, rfl⟩
  rw [← hH] at hP
  have hS : va_S A s.heap H [] := by rw [hH]; exact va_S.rf
  suffices g : W p l e (rmk 0 0) s m args below meth c H [] 0 0 (MQ below (QV NX eX a cy D A σ') args s 0 0 A) (F0 m 0 ls []) by rw [hH] at g; exact g
  clear hH
  obtain ⟨locs, hlocs⟩ : ∃ z : List Loc, z = [] := ⟨_, rfl⟩
  rw [← hlocs] at hS ⊢
  have hL6 : ∀ (n : Nat), (∀ (v1 : Int64) (v3 : Int32) (v4 : Int32) (s0 : ST) (H : Heap) (locs : List Loc) (ls : Array Slot), f_J7_fill_d0a16_L6 n v1 v3 v4 s0 = some σ' → va_P D vwCl (wG NX eX a cy s0) H → va_S A s.heap H locs → lv_has ls 5 [(0, .ref (a 41)), (1, .long v1), (3, .int v3), (4, .int v4)] → W p l e (rmk 0 0) s m args below meth c H locs 0 0 (MQ below (QV NX eX a cy D A σ') args s 0 0 A) (F0 m 6 ls [])) := by
    intro n
    induction n with
    | zero => intro v1 v3 v4 s0 H locs ls hf hP hS hl; exact no_o hf
    | succ n ih =>
      intro v1 v3 v4 s0 H locs ls hf hP hS hl
      have hf := (ef_J7_fill_d0a16_L6 _ _ _ _).symm.trans hf
      refine lv_iload_n hx hb dJ7_fill_d0a16_6 rfl (lv_at hl 2 rfl) ?_
      refine lv_iload hx hb dJ7_fill_d0a16_7 (lv_at hl 3 rfl) ?_
      refine lv_icmp_ge (tgt := 22) hx hb dJ7_fill_d0a16_9 (by decide) (fun hc => ?_) (fun hc => ?_)
      · have hf := jif_t hc hf
        exact ret_v C hP hS (Option.some.inj hf) dJ7_fill_d0a16_22
      · have hf := jif_f hc hf
        refine lv_aload_n hx hb dJ7_fill_d0a16_12 rfl (lv_at hl 0 rfl) ?_
        refine lv_iload_n hx hb dJ7_fill_d0a16_13 rfl (lv_at hl 2 rfl) ?_
        refine lv_lload_n hx hb dJ7_fill_d0a16_14 rfl (lv_at hl 1 rfl) ?_
        obtain ⟨hi1, hf⟩ := jix_e hf
        refine r_last C hP hS aX_41 hi1 dJ7_fill_d0a16_15 hf (fun H locs s2 hf hP hS => ?_)
        obtain ⟨y3, ey3, hf⟩ := jlet_e hf
        refine lv_iinc (v := y3) (lv' := [(3, .int y3), (0, .ref (a 41)), (1, .long v1), (4, .int v4)]) hx hb dJ7_fill_d0a16_16 hl (k := 2) rfl ey3 (by decide) rfl (fun ls hl => ?_)
        refine lv_goto (tgt := 6) hx hb dJ7_fill_d0a16_19 (by decide) ?_
        exact ih v1 y3 v4 s2 H locs ls hf hP hS (lv_sub hl [1, 2, 0, 3] rfl)
  refine lv_iconst (v := (0 : Int32)) hx hb dJ7_fill_d0a16_0 (by decide) ?_
  refine lv_istore_n (lv' := [(3, .int (0 : Int32)), (0, .ref (a 41)), (1, .long x2)]) hx hb dJ7_fill_d0a16_1 rfl hl (by decide) rfl (fun ls hl => ?_)
  refine lv_aload_n hx hb dJ7_fill_d0a16_2 rfl (lv_at hl 1 rfl) ?_
  refine r_alenJ C hP aX_41 (v := (24 : Int32)) (by decide) dJ7_fill_d0a16_3 ?_
  refine lv_istore (lv' := [(4, .int (24 : Int32)), (3, .int (0 : Int32)), (0, .ref (a 41)), (1, .long x2)]) hx hb dJ7_fill_d0a16_4 hl (by decide) rfl (fun ls hl => ?_)
  exact hL6 FU x2 (0 : Int32) (24 : Int32) σ H locs ls hf hP hS (lv_sub hl [2, 3, 1, 0] rfl)
set_option maxHeartbeats 4000000 in
set_option maxRecDepth 100000 in
theorem k_X9_isWithin {l : Launch} {a : Nat → Nat} {cy : Nat → ClassId} {D : va_G} {ad : Nat → Nat} {A : Nat → Prop} (O : WO NX a (EHX ad A) A) {x1 : Int32} {x2 : Int32} {r : Int32} {σ : ST} (hf : f_X9_isWithin x1 x2 = r) : Met l yX9_isWithin (Cond.code yX9_isWithin cX9_isWithin 2 (some .boolean) :: WS) (rmk 0 0) (PC [.int x1, .int x2] NX eX a cy D (EHX ad A) σ) (QZ NX eX a cy D A r σ) 0 0 A := by
  refine met_go (own := "GuardsLookLeft") O (by decide +kernel) rfl (Nat.le_of_ble_eq_true rfl) ?_
  intro p e s m args below meth c ls C hP hS hl
  have hx := C.hx
  have hb := C.hb
  have hl : lv_has ls 2 [(0, .int x1), (1, .int x2)] := hl
  obtain ⟨H, hH⟩ : ∃ H, H = s.heap := ⟨_, rfl⟩
  rw [← hH] at hP
  have hS : va_S A s.heap H [] := by rw [hH]; exact va_S.rf
  suffices g : W p l e (rmk 0 0) s m args below meth c H [] 0 0 (MQ below (QZ NX eX a cy D A r σ) args s 0 0 A) (F0 m 0 ls []) by rw [hH] at g; exact g
  clear hH
  obtain ⟨locs, hlocs⟩ : ∃ z : List Loc, z = [] := ⟨_, rfl⟩
  rw [← hlocs] at hS ⊢
  refine lv_iload_n hx hb dX9_isWithin_0 rfl (lv_at hl 0 rfl) ?_
  refine lv_if_lt (tgt := 13) hx hb dX9_isWithin_1 (by decide) (fun hc => ?_) (fun hc => ?_)
  · have hf := jif_t hc hf
    refine lv_iconst (v := (0 : Int32)) hx hb dX9_isWithin_13 (by decide) ?_
    exact ret_z C hP hS bz_0 hf rfl dX9_isWithin_14
  · have hf := jif_f hc hf
    refine lv_iload_n hx hb dX9_isWithin_4 rfl (lv_at hl 0 rfl) ?_
    refine lv_iload_n hx hb dX9_isWithin_5 rfl (lv_at hl 1 rfl) ?_
    refine lv_icmp_gt (tgt := 13) hx hb dX9_isWithin_6 (by decide) (fun hc => ?_) (fun hc => ?_)
    · have hf := jif_t hc hf
      refine lv_iconst (v := (0 : Int32)) hx hb dX9_isWithin_13 (by decide) ?_
      exact ret_z C hP hS bz_0 hf rfl dX9_isWithin_14
    · have hf := jif_f hc hf
      refine lv_iconst (v := (1 : Int32)) hx hb dX9_isWithin_9 (by decide) ?_
      refine lv_goto (tgt := 14) hx hb dX9_isWithin_10 (by decide) ?_
      exact ret_z C hP hS bz_1 hf rfl dX9_isWithin_14
set_option maxHeartbeats 4000000 in
set_option maxRecDepth 100000 in
theorem k_J13_bitCount_95d88 {l : Launch} {a : Nat → Nat} {cy : Nat → ClassId} {D : va_G} {ad : Nat → Nat} {A : Nat → Prop} (O : WO NX a (EHX ad A) A) {x1 : Int64} {r : Int32} {σ : ST} (hf : f_J13_bitCount_95d88 x1 = r) : Met l yJ13_bitCount_95d88 (Cond.code yJ13_bitCount_95d88 cJ13_bitCount_95d88 2 (some .int) :: WS) (rmk 0 0) (PC [.long x1] NX eX a cy D (EHX ad A) σ) (QI NX eX a cy D A r σ) 0 0 A := by
  refine met_go (own := "java/lang/Long") O (by decide +kernel) rfl (Nat.le_of_ble_eq_true rfl) ?_
  intro p e s m args below meth c ls C hP hS hl
  have hx := C.hx
  have hb := C.hb
  have hl : lv_has ls 2 [(0, .long x1)] := hl
  obtain ⟨H, hH⟩ : ∃ H, H = s.heap := ⟨_, rfl⟩
  rw [← hH] at hP
  have hS : va_S A s.heap H [] := by rw [hH]; exact va_S.rf
  suffices g : W p l e (rmk 0 0) s m args below meth c H [] 0 0 (MQ below (QI NX eX a cy D A r σ) args s 0 0 A) (F0 m 0 ls []) by rw [hH] at g; exact g
  clear hH
  obtain ⟨locs, hlocs⟩ : ∃ z : List Loc, z = [] := ⟨_, rfl⟩
  rw [← hlocs] at hS ⊢
  refine lv_lload_n hx hb dJ13_bitCount_95d88_0 rfl (lv_at hl 0 rfl) ?_
  refine lv_lload_n hx hb dJ13_bitCount_95d88_1 rfl (lv_at hl 0 rfl) ?_
  refine lv_iconst (v := (1 : Int32)) hx hb dJ13_bitCount_95d88_2 (by decide) ?_
  refine r_lushr C dJ13_bitCount_95d88_3 ?_
  refine lv_ldc2 hx hb C.hown (C.ts _ wk_3_5) dJ13_bitCount_95d88_4 ?_
  refine lv_land hx hb dJ13_bitCount_95d88_7 ?_
  refine lv_lsub hx hb dJ13_bitCount_95d88_8 ?_
  refine jl_topl hf (fun y1 hf => ?_)
  refine lv_lstore_n (lv' := [(0, .long y1)]) hx hb dJ13_bitCount_95d88_9 rfl hl (by decide) rfl (fun ls hl => ?_)
  refine lv_lload_n hx hb dJ13_bitCount_95d88_10 rfl (lv_at hl 0 rfl) ?_
  refine lv_ldc2 hx hb C.hown (C.ts _ wk_3_6) dJ13_bitCount_95d88_11 ?_
  refine lv_land hx hb dJ13_bitCount_95d88_14 ?_
  refine lv_lload_n hx hb dJ13_bitCount_95d88_15 rfl (lv_at hl 0 rfl) ?_
  refine lv_iconst (v := (2 : Int32)) hx hb dJ13_bitCount_95d88_16 (by decide) ?_
  refine r_lushr C dJ13_bitCount_95d88_17 ?_
  refine lv_ldc2 hx hb C.hown (C.ts _ wk_3_6) dJ13_bitCount_95d88_18 ?_
  refine lv_land hx hb dJ13_bitCount_95d88_21 ?_
  refine lv_ladd hx hb dJ13_bitCount_95d88_22 ?_
  refine jl_topl hf (fun y2 hf => ?_)
  refine lv_lstore_n (lv' := [(0, .long y2)]) hx hb dJ13_bitCount_95d88_23 rfl hl (by decide) rfl (fun ls hl => ?_)
  refine lv_lload_n hx hb dJ13_bitCount_95d88_24 rfl (lv_at hl 0 rfl) ?_
  refine lv_lload_n hx hb dJ13_bitCount_95d88_25 rfl (lv_at hl 0 rfl) ?_
  refine lv_iconst (v := (4 : Int32)) hx hb dJ13_bitCount_95d88_26 (by decide) ?_
  refine r_lushr C dJ13_bitCount_95d88_27 ?_
  refine lv_ladd hx hb dJ13_bitCount_95d88_28 ?_
  refine lv_ldc2 hx hb C.hown (C.ts _ wk_3_7) dJ13_bitCount_95d88_29 ?_
  refine lv_land hx hb dJ13_bitCount_95d88_32 ?_
  refine jl_topl hf (fun y3 hf => ?_)
  refine lv_lstore_n (lv' := [(0, .long y3)]) hx hb dJ13_bitCount_95d88_33 rfl hl (by decide) rfl (fun ls hl => ?_)
  refine lv_lload_n hx hb dJ13_bitCount_95d88_34 rfl (lv_at hl 0 rfl) ?_
  refine lv_lload_n hx hb dJ13_bitCount_95d88_35 rfl (lv_at hl 0 rfl) ?_
  refine lv_bipush (v := (8 : Int32)) hx hb dJ13_bitCount_95d88_36 (by decide) ?_
  refine r_lushr C dJ13_bitCount_95d88_38 ?_
  refine lv_ladd hx hb dJ13_bitCount_95d88_39 ?_
  refine jl_topl hf (fun y4 hf => ?_)
  refine lv_lstore_n (lv' := [(0, .long y4)]) hx hb dJ13_bitCount_95d88_40 rfl hl (by decide) rfl (fun ls hl => ?_)
  refine lv_lload_n hx hb dJ13_bitCount_95d88_41 rfl (lv_at hl 0 rfl) ?_
  refine lv_lload_n hx hb dJ13_bitCount_95d88_42 rfl (lv_at hl 0 rfl) ?_
  refine lv_bipush (v := (16 : Int32)) hx hb dJ13_bitCount_95d88_43 (by decide) ?_
  refine r_lushr C dJ13_bitCount_95d88_45 ?_
  refine lv_ladd hx hb dJ13_bitCount_95d88_46 ?_
  refine jl_topl hf (fun y5 hf => ?_)
  refine lv_lstore_n (lv' := [(0, .long y5)]) hx hb dJ13_bitCount_95d88_47 rfl hl (by decide) rfl (fun ls hl => ?_)
  refine lv_lload_n hx hb dJ13_bitCount_95d88_48 rfl (lv_at hl 0 rfl) ?_
  refine lv_lload_n hx hb dJ13_bitCount_95d88_49 rfl (lv_at hl 0 rfl) ?_
  refine lv_bipush (v := (32 : Int32)) hx hb dJ13_bitCount_95d88_50 (by decide) ?_
  refine r_lushr C dJ13_bitCount_95d88_52 ?_
  refine lv_ladd hx hb dJ13_bitCount_95d88_53 ?_
  refine jl_topl hf (fun y6 hf => ?_)
  refine lv_lstore_n (lv' := [(0, .long y6)]) hx hb dJ13_bitCount_95d88_54 rfl hl (by decide) rfl (fun ls hl => ?_)
  refine lv_lload_n hx hb dJ13_bitCount_95d88_55 rfl (lv_at hl 0 rfl) ?_
  refine lv_l2i hx hb dJ13_bitCount_95d88_56 rfl ?_
  refine lv_bipush (v := (127 : Int32)) hx hb dJ13_bitCount_95d88_57 (by decide) ?_
  refine lv_iand hx hb dJ13_bitCount_95d88_59 ?_
  exact ret_i C hP hS hf rfl dJ13_bitCount_95d88_60
set_option maxHeartbeats 4000000 in
set_option maxRecDepth 100000 in
theorem k_J6_bitCount_0f7a4 {l : Launch} {a : Nat → Nat} {cy : Nat → ClassId} {D : va_G} {ad : Nat → Nat} {A : Nat → Prop} (O : WO NX a (EHX ad A) A) {x1 : Int32} {r : Int32} {σ : ST} (hf : f_J6_bitCount_0f7a4 x1 = r) : Met l yJ6_bitCount_0f7a4 (Cond.code yJ6_bitCount_0f7a4 cJ6_bitCount_0f7a4 1 (some .int) :: WS) (rmk 0 0) (PC [.int x1] NX eX a cy D (EHX ad A) σ) (QI NX eX a cy D A r σ) 0 0 A := by
  refine met_go (own := "java/lang/Integer") O (by decide +kernel) rfl (Nat.le_of_ble_eq_true rfl) ?_
  intro p e s m args below meth c ls C hP hS hl
  have hx := C.hx
  have hb := C.hb
  have hl : lv_has ls 1 [(0, .int x1)] := hl
  obtain ⟨H, hH⟩ : ∃ H, H = s.heap := ⟨_, rfl⟩
  rw [← hH] at hP
  have hS : va_S A s.heap H [] := by rw [hH]; exact va_S.rf
  suffices g : W p l e (rmk 0 0) s m args below meth c H [] 0 0 (MQ below (QI NX eX a cy D A r σ) args s 0 0 A) (F0 m 0 ls []) by rw [hH] at g; exact g
  clear hH
  obtain ⟨locs, hlocs⟩ : ∃ z : List Loc, z = [] := ⟨_, rfl⟩
  rw [← hlocs] at hS ⊢
  refine lv_iload_n hx hb dJ6_bitCount_0f7a4_0 rfl (lv_at hl 0 rfl) ?_
  refine lv_iload_n hx hb dJ6_bitCount_0f7a4_1 rfl (lv_at hl 0 rfl) ?_
  refine lv_iconst (v := (1 : Int32)) hx hb dJ6_bitCount_0f7a4_2 (by decide) ?_
  refine r_iushr C dJ6_bitCount_0f7a4_3 ?_
  refine lv_ldcw hx hb C.hown (C.ts _ wk_3_236) dJ6_bitCount_0f7a4_4 ?_
  refine lv_iand hx hb dJ6_bitCount_0f7a4_7 ?_
  refine lv_isub hx hb dJ6_bitCount_0f7a4_8 ?_
  refine jl_topi hf (fun y1 hf => ?_)
  refine lv_istore_n (lv' := [(0, .int y1)]) hx hb dJ6_bitCount_0f7a4_9 rfl hl (by decide) rfl (fun ls hl => ?_)
  refine lv_iload_n hx hb dJ6_bitCount_0f7a4_10 rfl (lv_at hl 0 rfl) ?_
  refine lv_ldcw hx hb C.hown (C.ts _ wk_3_237) dJ6_bitCount_0f7a4_11 ?_
  refine lv_iand hx hb dJ6_bitCount_0f7a4_14 ?_
  refine lv_iload_n hx hb dJ6_bitCount_0f7a4_15 rfl (lv_at hl 0 rfl) ?_
  refine lv_iconst (v := (2 : Int32)) hx hb dJ6_bitCount_0f7a4_16 (by decide) ?_
  refine r_iushr C dJ6_bitCount_0f7a4_17 ?_
  refine lv_ldcw hx hb C.hown (C.ts _ wk_3_237) dJ6_bitCount_0f7a4_18 ?_
  refine lv_iand hx hb dJ6_bitCount_0f7a4_21 ?_
  refine lv_iadd hx hb dJ6_bitCount_0f7a4_22 ?_
  refine jl_topi hf (fun y2 hf => ?_)
  refine lv_istore_n (lv' := [(0, .int y2)]) hx hb dJ6_bitCount_0f7a4_23 rfl hl (by decide) rfl (fun ls hl => ?_)
  refine lv_iload_n hx hb dJ6_bitCount_0f7a4_24 rfl (lv_at hl 0 rfl) ?_
  refine lv_iload_n hx hb dJ6_bitCount_0f7a4_25 rfl (lv_at hl 0 rfl) ?_
  refine lv_iconst (v := (4 : Int32)) hx hb dJ6_bitCount_0f7a4_26 (by decide) ?_
  refine r_iushr C dJ6_bitCount_0f7a4_27 ?_
  refine lv_iadd hx hb dJ6_bitCount_0f7a4_28 ?_
  refine lv_ldcw hx hb C.hown (C.ts _ wk_3_238) dJ6_bitCount_0f7a4_29 ?_
  refine lv_iand hx hb dJ6_bitCount_0f7a4_32 ?_
  refine jl_topi hf (fun y3 hf => ?_)
  refine lv_istore_n (lv' := [(0, .int y3)]) hx hb dJ6_bitCount_0f7a4_33 rfl hl (by decide) rfl (fun ls hl => ?_)
  refine lv_iload_n hx hb dJ6_bitCount_0f7a4_34 rfl (lv_at hl 0 rfl) ?_
  refine lv_iload_n hx hb dJ6_bitCount_0f7a4_35 rfl (lv_at hl 0 rfl) ?_
  refine lv_bipush (v := (8 : Int32)) hx hb dJ6_bitCount_0f7a4_36 (by decide) ?_
  refine r_iushr C dJ6_bitCount_0f7a4_38 ?_
  refine lv_iadd hx hb dJ6_bitCount_0f7a4_39 ?_
  refine jl_topi hf (fun y4 hf => ?_)
  refine lv_istore_n (lv' := [(0, .int y4)]) hx hb dJ6_bitCount_0f7a4_40 rfl hl (by decide) rfl (fun ls hl => ?_)
  refine lv_iload_n hx hb dJ6_bitCount_0f7a4_41 rfl (lv_at hl 0 rfl) ?_
  refine lv_iload_n hx hb dJ6_bitCount_0f7a4_42 rfl (lv_at hl 0 rfl) ?_
  refine lv_bipush (v := (16 : Int32)) hx hb dJ6_bitCount_0f7a4_43 (by decide) ?_
  refine r_iushr C dJ6_bitCount_0f7a4_45 ?_
  refine lv_iadd hx hb dJ6_bitCount_0f7a4_46 ?_
  refine jl_topi hf (fun y5 hf => ?_)
  refine lv_istore_n (lv' := [(0, .int y5)]) hx hb dJ6_bitCount_0f7a4_47 rfl hl (by decide) rfl (fun ls hl => ?_)
  refine lv_iload_n hx hb dJ6_bitCount_0f7a4_48 rfl (lv_at hl 0 rfl) ?_
  refine lv_bipush (v := (63 : Int32)) hx hb dJ6_bitCount_0f7a4_49 (by decide) ?_
  refine lv_iand hx hb dJ6_bitCount_0f7a4_51 ?_
  exact ret_i C hP hS hf rfl dJ6_bitCount_0f7a4_52
