set_option maxHeartbeats 4000000 in
set_option maxRecDepth 100000 in
theorem k_X8_sight {l : Launch} {a : Nat → Nat} {cy : Nat → ClassId} {D : va_G} {ad : Nat → Nat} {A : Nat → Prop} (O : WO NX a (EHX ad A) A) {x1 : Int32} {x2 : Int32} {r : Int64} {σ : ST} {σ' : ST} (hf : f_X8_sight x1 x2 σ = some (r, σ')) : Met l yX8_sight (Cond.code yX8_sight cX8_sight 9 (some .long) :: WS) (rmk 3 86) (PC [.ref (a 5), .int x1, .int x2] NX eX a cy D (EHX ad A) σ) (QL NX eX a cy D A r σ') 0 0 A := by
  refine met_go (own := "GuardsLookLeft$Watch") O (by decide +kernel) rfl (Nat.le_of_ble_eq_true rfl) ?_
  intro p e s m args below meth c ls C hP hS hl
  have hx := C.hx
  have hb := C.hb
  have hl : lv_has ls 9 [(0, .ref (a 5)), (1, .int x1), (2, .int x2)] := hl
  obtain ⟨H, hH⟩ : ∃ H, H = s.heap := ⟨_, rfl⟩
  rw [← hH] at hP
  have hS : va_S A s.heap H [] := by rw [hH]; exact va_S.rf
  suffices g : W p l e (rmk 3 86) s m args below meth c H [] 0 0 (MQ below (QL NX eX a cy D A r σ') args s 0 0 A) (F0 m 0 ls []) by rw [hH] at g; exact g
  clear hH
  obtain ⟨locs, hlocs⟩ : ∃ z : List Loc, z = [] := ⟨_, rfl⟩
  rw [← hlocs] at hS ⊢
  have hL218 : ∀ (k108 : Int32 → Int32 → Int32 → Int64 → Int32 → ST → Option (Int64 × ST)) (hk108 : (∀ (v3 : Int32) (v4 : Int32) (v5 : Int32) (v6 : Int64) (v8 : Int32) (s0 : ST) (H : Heap) (locs : List Loc) (ls : Array Slot), k108 v3 v4 v5 v6 v8 s0 = some (r, σ') → va_P D vwCl (wG NX eX a cy s0) H → va_S A s.heap H locs → lv_has ls 9 [(0, .ref (a 5)), (3, .int v3), (4, .int v4), (5, .int v5), (6, .long v6), (8, .int v8)] → W p l e (rmk 3 86) s m args below meth c H locs 0 0 (MQ below (QL NX eX a cy D A r σ') args s 0 0 A) (F0 m 108 ls []))), (∀ (v3 : Int32) (v4 : Int32) (v5 : Int32) (v6 : Int64) (v8 : Int32) (s0 : ST) (H : Heap) (locs : List Loc) (ls : Array Slot), f_X8_sight_L218 k108 v3 v4 v5 v6 v8 s0 = some (r, σ') → va_P D vwCl (wG NX eX a cy s0) H → va_S A s.heap H locs → lv_has ls 9 [(0, .ref (a 5)), (3, .int v3), (4, .int v4), (5, .int v5), (6, .long v6), (8, .int v8)] → W p l e (rmk 3 86) s m args below meth c H locs 0 0 (MQ below (QL NX eX a cy D A r σ') args s 0 0 A) (F0 m 218 ls [])) := by
    intro k108 hk108 v3 v4 v5 v6 v8 s0 H locs ls hf hP hS hl
    obtain ⟨y1, ey1, hf⟩ := jlet_e hf
    refine lv_iinc (v := y1) (lv' := [(8, .int y1), (0, .ref (a 5)), (3, .int v3), (4, .int v4), (5, .int v5), (6, .long v6)]) hx hb dX8_sight_218 hl (k := 5) rfl ey1 (by decide) rfl (fun ls hl => ?_)
    refine lv_goto (tgt := 108) hx hb dX8_sight_221 (by decide) ?_
    exact hk108 v3 v4 v5 v6 y1 s0 H locs ls hf hP hS (lv_sub hl [1, 2, 3, 4, 5, 0] rfl)
  have hL195 : ∀ (k108 : Int32 → Int32 → Int32 → Int64 → Int32 → ST → Option (Int64 × ST)) (hk108 : (∀ (v3 : Int32) (v4 : Int32) (v5 : Int32) (v6 : Int64) (v8 : Int32) (s0 : ST) (H : Heap) (locs : List Loc) (ls : Array Slot), k108 v3 v4 v5 v6 v8 s0 = some (r, σ') → va_P D vwCl (wG NX eX a cy s0) H → va_S A s.heap H locs → lv_has ls 9 [(0, .ref (a 5)), (3, .int v3), (4, .int v4), (5, .int v5), (6, .long v6), (8, .int v8)] → W p l e (rmk 3 86) s m args below meth c H locs 0 0 (MQ below (QL NX eX a cy D A r σ') args s 0 0 A) (F0 m 108 ls []))), (∀ (v3 : Int32) (v4 : Int32) (v5 : Int32) (v6 : Int64) (v8 : Int32) (s0 : ST) (H : Heap) (locs : List Loc) (ls : Array Slot), f_X8_sight_L195 k108 v3 v4 v5 v6 v8 s0 = some (r, σ') → va_P D vwCl (wG NX eX a cy s0) H → va_S A s.heap H locs → lv_has ls 9 [(0, .ref (a 5)), (3, .int v3), (4, .int v4), (5, .int v5), (6, .long v6), (8, .int v8)] → W p l e (rmk 3 86) s m args below meth c H locs 0 0 (MQ below (QL NX eX a cy D A r σ') args s 0 0 A) (F0 m 195 ls [])) := by
    intro k108 hk108 v3 v4 v5 v6 v8 s0 H locs ls hf hP hS hl
    refine lv_aload_n hx hb dX8_sight_195 rfl (lv_at hl 0 rfl) ?_
    refine gf_X8_0 C hP wk_1_175 dX8_sight_196 ?_
    refine gf_X3_0 C hP wk_1_36 dX8_sight_199 ?_
    refine lv_iconst (v := (2 : Int32)) hx hb dX8_sight_202 (by decide) ?_
    refine r_lald C hP aX_14 (vp_lit (by decide)) dX8_sight_203 ?_
    refine lv_iload_n hx hb dX8_sight_204 rfl (lv_at hl 1 rfl) ?_
    refine r_cz (r_runSN (As := [.long (gB s0 14 (Int32.toNatClampNeg (2 : Int32))), .int v3]) (rest := []) C hP hS (k_X9_isIn (l := l) O (σ := s0) rfl) mw_X9_isIn ms_X9_isIn (C.hV.1 _ nw_13) ⟨Nat.le_of_ble_eq_true rfl, Nat.le_of_ble_eq_true rfl⟩ ⟨rfl, rfl⟩ ⟨Nat.zero_le _, Nat.zero_le _⟩ rfl hl.1 rfl (Nat.le_of_ble_eq_true rfl) dX8_sight_205) hS (fun H locs hzy1 hP hS => ?_)
    refine jl_topz hf hzy1 (fun y1 hzy1 hf => ?_)
    refine lv_if_eq (tgt := 218) hx hb dX8_sight_208 (by decide) (fun hc => ?_) (fun hc => ?_)
    · have hf := jif_t hc hf
      exact hL218 k108 hk108 v3 v4 v5 v6 v8 s0 H locs ls hf hP hS (lv_sub hl [0, 1, 2, 3, 4, 5] rfl)
    · have hf := jif_f hc hf
      refine lv_iload hx hb dX8_sight_211 (lv_at hl 3 rfl) ?_
      refine r_ci (r_runSN (As := [.int v5]) (rest := []) C hP hS (k_X9_leftOf (l := l) O (σ := s0) rfl) mw_X9_leftOf ms_X9_leftOf (C.hV.1 _ nw_11) ⟨Nat.le_of_ble_eq_true rfl, Nat.le_of_ble_eq_true rfl⟩ ⟨rfl, rfl⟩ ⟨Nat.zero_le _, Nat.zero_le _⟩ rfl hl.1 rfl (Nat.le_of_ble_eq_true rfl) dX8_sight_213) hS (fun H locs hP hS => ?_)
      refine jl_topi hf (fun y3 hf => ?_)
      refine lv_istore (lv' := [(5, .int y3), (0, .ref (a 5)), (3, .int v3), (4, .int v4), (6, .long v6), (8, .int v8)]) hx hb dX8_sight_216 hl (by decide) rfl (fun ls hl => ?_)
      exact hL218 k108 hk108 v3 v4 y3 v6 v8 s0 H locs ls hf hP hS (lv_sub hl [1, 2, 3, 0, 4, 5] rfl)
  have hL108 : ∀ (n : Nat), (∀ (v3 : Int32) (v4 : Int32) (v5 : Int32) (v6 : Int64) (v8 : Int32) (s0 : ST) (H : Heap) (locs : List Loc) (ls : Array Slot), f_X8_sight_L108 n v3 v4 v5 v6 v8 s0 = some (r, σ') → va_P D vwCl (wG NX eX a cy s0) H → va_S A s.heap H locs → lv_has ls 9 [(0, .ref (a 5)), (3, .int v3), (4, .int v4), (5, .int v5), (6, .long v6), (8, .int v8)] → W p l e (rmk 3 86) s m args below meth c H locs 0 0 (MQ below (QL NX eX a cy D A r σ') args s 0 0 A) (F0 m 108 ls [])) := by
    intro n
    induction n with
    | zero => intro v3 v4 v5 v6 v8 s0 H locs ls hf hP hS hl; exact no_o hf
    | succ n ih =>
      intro v3 v4 v5 v6 v8 s0 H locs ls hf hP hS hl
      have hf := (ef_X8_sight_L108 _ _ _ _ _ _).symm.trans hf
      refine lv_iload hx hb dX8_sight_108 (lv_at hl 5 rfl) ?_
      refine lv_iload hx hb dX8_sight_110 (lv_at hl 2 rfl) ?_
      refine lv_icmp_gt (tgt := 224) hx hb dX8_sight_112 (by decide) (fun hc => ?_) (fun hc => ?_)
      · have hf := jif_t hc hf
        refine lv_lload hx hb dX8_sight_224 (lv_at hl 4 rfl) ?_
        exact ret_l C hP hS (Prod.mk.inj (Option.some.inj hf)).1 (Prod.mk.inj (Option.some.inj hf)).2 dX8_sight_226
      · have hf := jif_f hc hf
        refine lv_iload_n hx hb dX8_sight_115 rfl (lv_at hl 1 rfl) ?_
        refine lv_iload hx hb dX8_sight_116 (lv_at hl 3 rfl) ?_
        refine r_ci (r_runSN (As := [.int v3, .int v5]) (rest := []) C hP hS (k_X9_beside (l := l) O (σ := s0) rfl) mw_X9_beside ms_X9_beside (C.hV.1 _ nw_12) ⟨Nat.le_of_ble_eq_true rfl, Nat.le_of_ble_eq_true rfl⟩ ⟨rfl, rfl⟩ ⟨Nat.zero_le _, Nat.zero_le _⟩ rfl hl.1 rfl (Nat.le_of_ble_eq_true rfl) dX8_sight_118) hS (fun H locs hP hS => ?_)
        refine jl_topi hf (fun y1 hf => ?_)
        refine lv_istore_n (lv' := [(3, .int y1), (0, .ref (a 5)), (4, .int v4), (5, .int v5), (6, .long v6), (8, .int v8)]) hx hb dX8_sight_121 rfl hl (by decide) rfl (fun ls hl => ?_)
        refine lv_iload_n hx hb dX8_sight_122 rfl (lv_at hl 0 rfl) ?_
        refine lv_iconst (v := (-1 : Int32)) hx hb dX8_sight_123 (by decide) ?_
        refine lv_icmp_eq (tgt := 143) hx hb dX8_sight_124 (by decide) (fun hc => ?_) (fun hc => ?_)
        · have hf := jif_t hc hf
          refine lv_lload hx hb dX8_sight_143 (lv_at hl 4 rfl) ?_
          exact ret_l C hP hS (Prod.mk.inj (Option.some.inj hf)).1 (Prod.mk.inj (Option.some.inj hf)).2 dX8_sight_145
        · have hf := jif_f hc hf
          refine lv_aload_n hx hb dX8_sight_127 rfl (lv_at hl 1 rfl) ?_
          refine gf_X8_0 C hP wk_1_175 dX8_sight_128 ?_
          refine gf_X3_0 C hP wk_1_36 dX8_sight_131 ?_
          refine lv_iconst (v := (0 : Int32)) hx hb dX8_sight_134 (by decide) ?_
          refine r_lald C hP aX_14 (vp_lit (by decide)) dX8_sight_135 ?_
          refine lv_iload_n hx hb dX8_sight_136 rfl (lv_at hl 0 rfl) ?_
          refine r_cz (r_runSN (As := [.long (gB s0 14 (Int32.toNatClampNeg (0 : Int32))), .int y1]) (rest := []) C hP hS (k_X9_isIn (l := l) O (σ := s0) rfl) mw_X9_isIn ms_X9_isIn (C.hV.1 _ nw_13) ⟨Nat.le_of_ble_eq_true rfl, Nat.le_of_ble_eq_true rfl⟩ ⟨rfl, rfl⟩ ⟨Nat.zero_le _, Nat.zero_le _⟩ rfl hl.1 rfl (Nat.le_of_ble_eq_true rfl) dX8_sight_137) hS (fun H locs hzy3 hP hS => ?_)
          refine jl_topz hf hzy3 (fun y3 hzy3 hf => ?_)
          refine lv_if_eq (tgt := 146) hx hb dX8_sight_140 (by decide) (fun hc => ?_) (fun hc => ?_)
          · have hf := jif_t hc hf
            refine lv_aload_n hx hb dX8_sight_146 rfl (lv_at hl 1 rfl) ?_
            refine lv_dup hx hb dX8_sight_147 rfl ?_
            refine gf_X8_8 C hP wk_1_186 dX8_sight_148 ?_
            refine lv_lconst (v := (1 : Int64)) hx hb dX8_sight_151 (by decide) ?_
            refine lv_iload_n hx hb dX8_sight_152 rfl (lv_at hl 0 rfl) ?_
            refine r_lshl C dX8_sight_153 ?_
            refine lv_lor hx hb dX8_sight_154 ?_
            refine pf_X8_8 C hP hS wk_1_186 dX8_sight_155 hf (fun H locs s5 hf hP hS => ?_)
            refine lv_aload_n hx hb dX8_sight_158 rfl (lv_at hl 1 rfl) ?_
            refine gf_X8_2 C hP wk_1_177 dX8_sight_159 ?_
            refine lv_iload hx hb dX8_sight_162 (lv_at hl 5 rfl) ?_
            refine lv_aload_n hx hb dX8_sight_164 rfl (lv_at hl 1 rfl) ?_
            refine gf_X8_0 C hP wk_1_175 dX8_sight_165 ?_
            refine lv_iload_n hx hb dX8_sight_168 rfl (lv_at hl 0 rfl) ?_
            refine r_ci (r_runV (As := [.int y1]) (rest := [.int v8, .ref (a 4)]) C hP hS (va_recv C.hK hP (q0 := 1) (ci := 3) rfl (by rw [g_at oX_3.1, oX_3.2])) (k_X3_lit (l := l) O (σ := s5) rfl) mw_X3_lit mi_X3_lit mv_X3_lit wk_3_110 ⟨Nat.le_of_ble_eq_true rfl, Nat.le_of_ble_eq_true rfl⟩ ⟨rfl, rfl⟩ ⟨Nat.zero_le _, Nat.zero_le _⟩ rfl hl.1 rfl (Nat.le_of_ble_eq_true rfl) dX8_sight_169) hS (fun H locs hP hS => ?_)
            refine jl_topi hf (fun y6 hf => ?_)
            refine lv_iload_n hx hb dX8_sight_172 rfl (lv_at hl 0 rfl) ?_
            obtain ⟨s9, hc, hf⟩ := jlet_e hf
            refine r_cv (r_runV (As := [.int v8, .int y6, .int y1]) (rest := []) C hP hS (va_recv C.hK hP (q0 := 4) (ci := 6) rfl (by rw [g_at oX_6.1, oX_6.2])) (k_X6_nameCell (l := l) O hc) mw_X6_nameCell mi_X6_nameCell mv_X6_nameCell wk_3_115 ⟨Nat.le_of_ble_eq_true rfl, Nat.le_of_ble_eq_true rfl⟩ ⟨rfl, rfl⟩ ⟨Nat.zero_le _, Nat.zero_le _⟩ rfl hl.1 rfl (Nat.le_of_ble_eq_true rfl) dX8_sight_173) hS (fun H locs hP hS => ?_)
            refine lv_aload_n hx hb dX8_sight_176 rfl (lv_at hl 1 rfl) ?_
            refine gf_X8_2 C hP wk_1_177 dX8_sight_177 ?_
            refine lv_iconst (v := (1 : Int32)) hx hb dX8_sight_180 (by decide) ?_
            obtain ⟨y10, s11, hc, hf⟩ := jbp_e hf
            refine r_ci (r_runV (As := [.int (1 : Int32)]) (rest := []) C hP hS (va_recv C.hK hP (q0 := 4) (ci := 6) rfl (by rw [g_at oX_6.1, oX_6.2])) (k_X6_says (l := l) O hc) mw_X6_says mi_X6_says mv_X6_says wk_3_116 ⟨Nat.le_of_ble_eq_true rfl, Nat.le_of_ble_eq_true rfl⟩ ⟨rfl, rfl⟩ ⟨Nat.zero_le _, Nat.zero_le _⟩ rfl hl.1 rfl (Nat.le_of_ble_eq_true rfl) dX8_sight_181) hS (fun H locs hP hS => ?_)
            refine lv_if_eq (tgt := 195) hx hb dX8_sight_184 (by decide) (fun hc => ?_) (fun hc => ?_)
            · have hf := jif_t hc hf
              exact hL195 (f_X8_sight_L108 n) ih y1 v4 v5 v6 v8 s11 H locs ls hf hP hS (lv_sub hl [1, 0, 2, 3, 4, 5] rfl)
            · have hf := jif_f hc hf
              refine lv_lload hx hb dX8_sight_187 (lv_at hl 4 rfl) ?_
              refine lv_lconst (v := (1 : Int64)) hx hb dX8_sight_189 (by decide) ?_
              refine lv_iload_n hx hb dX8_sight_190 rfl (lv_at hl 0 rfl) ?_
              refine r_lshl C dX8_sight_191 ?_
              refine lv_lor hx hb dX8_sight_192 ?_
              refine jl_topl hf (fun y12 hf => ?_)
              refine lv_lstore (lv' := [(6, .long y12), (3, .int y1), (0, .ref (a 5)), (4, .int v4), (5, .int v5), (8, .int v8)]) hx hb dX8_sight_193 hl (by decide) rfl (fun ls hl => ?_)
              exact hL195 (f_X8_sight_L108 n) ih y1 v4 v5 y12 v8 s11 H locs ls hf hP hS (lv_sub hl [2, 1, 3, 4, 0, 5] rfl)
          · have hf := jif_f hc hf
            refine lv_lload hx hb dX8_sight_143 (lv_at hl 4 rfl) ?_
            exact ret_l C hP hS (Prod.mk.inj (Option.some.inj hf)).1 (Prod.mk.inj (Option.some.inj hf)).2 dX8_sight_145
  refine lv_aload_n hx hb dX8_sight_0 rfl (lv_at hl 0 rfl) ?_
  refine gf_X8_1 C hP wk_1_176 dX8_sight_1 ?_
  refine lv_iload_n hx hb dX8_sight_4 rfl (lv_at hl 1 rfl) ?_
  refine lv_iload_n hx hb dX8_sight_5 rfl (lv_at hl 2 rfl) ?_
  refine lv_aload_n hx hb dX8_sight_6 rfl (lv_at hl 0 rfl) ?_
  refine gf_X8_0 C hP wk_1_175 dX8_sight_7 ?_
  refine gf_X3_0 C hP wk_1_36 dX8_sight_10 ?_
  refine lv_iconst (v := (0 : Int32)) hx hb dX8_sight_13 (by decide) ?_
  refine r_lald C hP aX_14 (vp_lit (by decide)) dX8_sight_14 ?_
  obtain ⟨s2, hc, hf⟩ := jb_e hf
  refine r_cv (r_runV (As := [.int x1, .int x2, .long (gB σ 14 (Int32.toNatClampNeg (0 : Int32)))]) (rest := []) C hP hS (va_recv C.hK hP (q0 := 2) (ci := 1) rfl (by rw [g_at oX_1.1, oX_1.2])) (k_X1_walk (l := l) O hc) mw_X1_walk mi_X1_walk mv_X1_walk wk_3_108 ⟨Nat.le_of_ble_eq_true rfl, Nat.le_of_ble_eq_true rfl⟩ ⟨rfl, rfl⟩ ⟨Nat.zero_le _, Nat.zero_le _⟩ rfl hl.1 rfl (Nat.le_of_ble_eq_true rfl) dX8_sight_15) hS (fun H locs hP hS => ?_)
  refine lv_aload_n hx hb dX8_sight_18 rfl (lv_at hl 0 rfl) ?_
  refine gf_X8_1 C hP wk_1_176 dX8_sight_19 ?_
  refine gf_X1_7 C hP wk_1_69 dX8_sight_22 ?_
  refine jl_topi hf (fun y3 hf => ?_)
  refine lv_istore_n (lv' := [(3, .int y3), (0, .ref (a 5)), (1, .int x1), (2, .int x2)]) hx hb dX8_sight_25 rfl hl (by decide) rfl (fun ls hl => ?_)
  refine lv_aload_n hx hb dX8_sight_26 rfl (lv_at hl 1 rfl) ?_
  refine lv_lconst (v := (1 : Int64)) hx hb dX8_sight_27 (by decide) ?_
  refine lv_iload_n hx hb dX8_sight_28 rfl (lv_at hl 0 rfl) ?_
  refine r_lshl C dX8_sight_29 ?_
  refine pf_X8_8 C hP hS wk_1_186 dX8_sight_30 hf (fun H locs s4 hf hP hS => ?_)
  refine lv_aload_n hx hb dX8_sight_33 rfl (lv_at hl 1 rfl) ?_
  refine gf_X8_1 C hP wk_1_176 dX8_sight_34 ?_
  refine gf_X1_9 C hP wk_1_75 dX8_sight_37 ?_
  refine lv_if_ne (tgt := 45) hx hb dX8_sight_40 (by decide) (fun hc => ?_) (fun hc => ?_)
  · have hf := jif_t hc hf
    refine lv_aload_n hx hb dX8_sight_45 rfl (lv_at hl 1 rfl) ?_
    refine gf_X8_2 C hP wk_1_177 dX8_sight_46 ?_
    refine lv_aload_n hx hb dX8_sight_49 rfl (lv_at hl 1 rfl) ?_
    refine gf_X8_1 C hP wk_1_176 dX8_sight_50 ?_
    refine gf_X1_3 C hP wk_1_56 dX8_sight_53 ?_
    refine lv_iload_n hx hb dX8_sight_56 rfl (lv_at hl 2 rfl) ?_
    obtain ⟨hi5, hf⟩ := jix_e hf
    refine r_iald C hP aX_18 hi5 dX8_sight_57 ?_
    refine lv_iload_n hx hb dX8_sight_58 rfl (lv_at hl 3 rfl) ?_
    refine lv_iload_n hx hb dX8_sight_59 rfl (lv_at hl 2 rfl) ?_
    obtain ⟨s7, hc, hf⟩ := jlet_e hf
    refine r_cv (r_runV (As := [.int (gA s4 18 (Int32.toNatClampNeg x1)), .int x2, .int x1]) (rest := []) C hP hS (va_recv C.hK hP (q0 := 4) (ci := 6) rfl (by rw [g_at oX_6.1, oX_6.2])) (k_X6_nameGuard (l := l) O hc) mw_X6_nameGuard mi_X6_nameGuard mv_X6_nameGuard wk_3_109 ⟨Nat.le_of_ble_eq_true rfl, Nat.le_of_ble_eq_true rfl⟩ ⟨rfl, rfl⟩ ⟨Nat.zero_le _, Nat.zero_le _⟩ rfl hl.1 rfl (Nat.le_of_ble_eq_true rfl) dX8_sight_60) hS (fun H locs hP hS => ?_)
    refine lv_aload_n hx hb dX8_sight_63 rfl (lv_at hl 1 rfl) ?_
    refine gf_X8_2 C hP wk_1_177 dX8_sight_64 ?_
    refine lv_iconst (v := (0 : Int32)) hx hb dX8_sight_67 (by decide) ?_
    refine lv_aload_n hx hb dX8_sight_68 rfl (lv_at hl 1 rfl) ?_
    refine gf_X8_0 C hP wk_1_175 dX8_sight_69 ?_
    refine lv_iload_n hx hb dX8_sight_72 rfl (lv_at hl 0 rfl) ?_
    refine r_ci (r_runV (As := [.int y3]) (rest := [.int (0 : Int32), .ref (a 4)]) C hP hS (va_recv C.hK hP (q0 := 1) (ci := 3) rfl (by rw [g_at oX_3.1, oX_3.2])) (k_X3_lit (l := l) O (σ := s7) rfl) mw_X3_lit mi_X3_lit mv_X3_lit wk_3_110 ⟨Nat.le_of_ble_eq_true rfl, Nat.le_of_ble_eq_true rfl⟩ ⟨rfl, rfl⟩ ⟨Nat.zero_le _, Nat.zero_le _⟩ rfl hl.1 rfl (Nat.le_of_ble_eq_true rfl) dX8_sight_73) hS (fun H locs hP hS => ?_)
    refine jl_topi hf (fun y8 hf => ?_)
    refine lv_iload_n hx hb dX8_sight_76 rfl (lv_at hl 0 rfl) ?_
    obtain ⟨s11, hc, hf⟩ := jlet_e hf
    refine r_cv (r_runV (As := [.int (0 : Int32), .int y8, .int y3]) (rest := []) C hP hS (va_recv C.hK hP (q0 := 4) (ci := 6) rfl (by rw [g_at oX_6.1, oX_6.2])) (k_X6_nameCell (l := l) O hc) mw_X6_nameCell mi_X6_nameCell mv_X6_nameCell wk_3_115 ⟨Nat.le_of_ble_eq_true rfl, Nat.le_of_ble_eq_true rfl⟩ ⟨rfl, rfl⟩ ⟨Nat.zero_le _, Nat.zero_le _⟩ rfl hl.1 rfl (Nat.le_of_ble_eq_true rfl) dX8_sight_77) hS (fun H locs hP hS => ?_)
    refine lv_aload_n hx hb dX8_sight_80 rfl (lv_at hl 1 rfl) ?_
    refine gf_X8_2 C hP wk_1_177 dX8_sight_81 ?_
    refine lv_iconst (v := (0 : Int32)) hx hb dX8_sight_84 (by decide) ?_
    obtain ⟨y12, s13, hc, hf⟩ := jbp_e hf
    refine r_ci (r_runV (As := [.int (0 : Int32)]) (rest := []) C hP hS (va_recv C.hK hP (q0 := 4) (ci := 6) rfl (by rw [g_at oX_6.1, oX_6.2])) (k_X6_says (l := l) O hc) mw_X6_says mi_X6_says mv_X6_says wk_3_116 ⟨Nat.le_of_ble_eq_true rfl, Nat.le_of_ble_eq_true rfl⟩ ⟨rfl, rfl⟩ ⟨Nat.zero_le _, Nat.zero_le _⟩ rfl hl.1 rfl (Nat.le_of_ble_eq_true rfl) dX8_sight_85) hS (fun H locs hP hS => ?_)
    refine lv_istore (lv' := [(4, .int y12), (3, .int y3), (0, .ref (a 5)), (1, .int x1), (2, .int x2)]) hx hb dX8_sight_88 hl (by decide) rfl (fun ls hl => ?_)
    refine lv_aload_n hx hb dX8_sight_90 rfl (lv_at hl 2 rfl) ?_
    refine gf_X8_1 C hP wk_1_176 dX8_sight_91 ?_
    refine gf_X1_8 C hP wk_1_72 dX8_sight_94 ?_
    refine r_ci (r_runSN (As := [.int (gA s13 2 8)]) (rest := []) C hP hS (k_X9_leftOf (l := l) O (σ := s13) rfl) mw_X9_leftOf ms_X9_leftOf (C.hV.1 _ nw_11) ⟨Nat.le_of_ble_eq_true rfl, Nat.le_of_ble_eq_true rfl⟩ ⟨rfl, rfl⟩ ⟨Nat.zero_le _, Nat.zero_le _⟩ rfl hl.1 rfl (Nat.le_of_ble_eq_true rfl) dX8_sight_97) hS (fun H locs hP hS => ?_)
    refine jl_topi hf (fun y14 hf => ?_)
    refine lv_istore (lv' := [(5, .int y14), (4, .int y12), (3, .int y3), (0, .ref (a 5)), (1, .int x1), (2, .int x2)]) hx hb dX8_sight_100 hl (by decide) rfl (fun ls hl => ?_)
    refine lv_lconst (v := (0 : Int64)) hx hb dX8_sight_102 (by decide) ?_
    refine lv_lstore (lv' := [(6, .long (0 : Int64)), (5, .int y14), (4, .int y12), (3, .int y3), (0, .ref (a 5)), (1, .int x1), (2, .int x2)]) hx hb dX8_sight_103 hl (by decide) rfl (fun ls hl => ?_)
    refine lv_iconst (v := (1 : Int32)) hx hb dX8_sight_105 (by decide) ?_
    refine lv_istore (lv' := [(8, .int (1 : Int32)), (6, .long (0 : Int64)), (5, .int y14), (4, .int y12), (3, .int y3), (0, .ref (a 5)), (1, .int x1), (2, .int x2)]) hx hb dX8_sight_106 hl (by decide) rfl (fun ls hl => ?_)
    exact hL108 FU y3 y12 y14 (0 : Int64) (1 : Int32) s13 H locs ls hf hP hS (lv_sub hl [5, 4, 3, 2, 1, 0] rfl)
  · have hf := jif_n hc hf
    refine lv_lconst (v := (0 : Int64)) hx hb dX8_sight_43 (by decide) ?_
    exact ret_l C hP hS (Prod.mk.inj (Option.some.inj hf)).1 (Prod.mk.inj (Option.some.inj hf)).2 dX8_sight_44
set_option maxHeartbeats 4000000 in
set_option maxRecDepth 100000 in
theorem k_X8_addKnown {l : Launch} {a : Nat → Nat} {cy : Nat → ClassId} {D : va_G} {ad : Nat → Nat} {A : Nat → Prop} (O : WO NX a (EHX ad A) A) {x1 : Int32} {σ : ST} {σ' : ST} (hf : f_X8_addKnown x1 σ = some σ') : Met l yX8_addKnown (Cond.code yX8_addKnown cX8_addKnown 3 none :: WS) (rmk 0 0) (PC [.ref (a 5), .int x1] NX eX a cy D (EHX ad A) σ) (QV NX eX a cy D A σ') 0 0 A := by
  refine met_go (own := "GuardsLookLeft$Watch") O (by decide +kernel) rfl (Nat.le_of_ble_eq_true rfl) ?_
  intro p e s m args below meth c ls C hP hS hl
  have hx := C.hx
  have hb := C.hb
  have hl : lv_has ls 3 [(0, .ref (a 5)), (1, .int x1)] := hl
  obtain ⟨H, hH⟩ : ∃ H, H = s.heap := ⟨_, rfl⟩
  rw [← hH] at hP
  have hS : va_S A s.heap H [] := by rw [hH]; exact va_S.rf
  suffices g : W p l e (rmk 0 0) s m args below meth c H [] 0 0 (MQ below (QV NX eX a cy D A σ') args s 0 0 A) (F0 m 0 ls []) by rw [hH] at g; exact g
  clear hH
  obtain ⟨locs, hlocs⟩ : ∃ z : List Loc, z = [] := ⟨_, rfl⟩
  rw [← hlocs] at hS ⊢
  have hL2 : ∀ (n : Nat), (∀ (v1 : Int32) (v2 : Int32) (s0 : ST) (H : Heap) (locs : List Loc) (ls : Array Slot), f_X8_addKnown_L2 n v1 v2 s0 = some σ' → va_P D vwCl (wG NX eX a cy s0) H → va_S A s.heap H locs → lv_has ls 3 [(0, .ref (a 5)), (1, .int v1), (2, .int v2)] → W p l e (rmk 0 0) s m args below meth c H locs 0 0 (MQ below (QV NX eX a cy D A σ') args s 0 0 A) (F0 m 2 ls [])) := by
    intro n
    induction n with
    | zero => intro v1 v2 s0 H locs ls hf hP hS hl; exact no_o hf
    | succ n ih =>
      intro v1 v2 s0 H locs ls hf hP hS hl
      have hf := (ef_X8_addKnown_L2 _ _ _).symm.trans hf
      refine lv_iload_n hx hb dX8_addKnown_2 rfl (lv_at hl 2 rfl) ?_
      refine lv_bipush (v := (24 : Int32)) hx hb dX8_addKnown_3 (by decide) ?_
      refine lv_icmp_ge (tgt := 31) hx hb dX8_addKnown_5 (by decide) (fun hc => ?_) (fun hc => ?_)
      · have hf := jif_t hc hf
        exact ret_v C hP hS (Option.some.inj hf) dX8_addKnown_31
      · have hf := jif_f hc hf
        refine lv_aload_n hx hb dX8_addKnown_8 rfl (lv_at hl 0 rfl) ?_
        refine gf_X8_5 C hP wk_1_182 dX8_addKnown_9 ?_
        refine lv_iload_n hx hb dX8_addKnown_12 rfl (lv_at hl 2 rfl) ?_
        refine lv_dup2_11 hx hb dX8_addKnown_13 rfl rfl ?_
        obtain ⟨hi1, hf⟩ := jix_e hf
        refine r_lald C hP aX_41 hi1 dX8_addKnown_14 ?_
        refine lv_aload_n hx hb dX8_addKnown_15 rfl (lv_at hl 0 rfl) ?_
        refine gf_X8_6 C hP wk_1_184 dX8_addKnown_16 ?_
        refine lv_iload_n hx hb dX8_addKnown_19 rfl (lv_at hl 1 rfl) ?_
        obtain ⟨hi2, hf⟩ := jix_e hf
        refine r_qald C hP aX_42 rfl rfl hi2 dX8_addKnown_20 ?_
        refine jl_ref hf (show 43 ≤ 43 + (Int32.toNatClampNeg v1) ∧ 43 + (Int32.toNatClampNeg v1) < 48 by have := vp_lt hi2; omega) (fun q3 hq3 hf => ?_)
        refine lv_iload_n hx hb dX8_addKnown_21 rfl (lv_at hl 2 rfl) ?_
        obtain ⟨hi4, hf⟩ := jix_e hf
        refine r_lald C hP (fX_43 hq3) hi4 dX8_addKnown_22 ?_
        refine lv_lor hx hb dX8_addKnown_23 ?_
        obtain ⟨hi5, hf⟩ := jix_e hf
        refine r_last C hP hS aX_41 hi5 dX8_addKnown_24 hf (fun H locs s6 hf hP hS => ?_)
        obtain ⟨y7, ey7, hf⟩ := jlet_e hf
        refine lv_iinc (v := y7) (lv' := [(2, .int y7), (0, .ref (a 5)), (1, .int v1)]) hx hb dX8_addKnown_25 hl (k := 2) rfl ey7 (by decide) rfl (fun ls hl => ?_)
        refine lv_goto (tgt := 2) hx hb dX8_addKnown_28 (by decide) ?_
        exact ih v1 y7 s6 H locs ls hf hP hS (lv_sub hl [1, 2, 0] rfl)
  refine lv_iconst (v := (0 : Int32)) hx hb dX8_addKnown_0 (by decide) ?_
  refine lv_istore_n (lv' := [(2, .int (0 : Int32)), (0, .ref (a 5)), (1, .int x1)]) hx hb dX8_addKnown_1 rfl hl (by decide) rfl (fun ls hl => ?_)
  exact hL2 FU x1 (0 : Int32) σ H locs ls hf hP hS (lv_sub hl [1, 2, 0] rfl)
set_option maxHeartbeats 4000000 in
set_option maxRecDepth 100000 in
theorem k_X8_supposeBribed {l : Launch} {a : Nat → Nat} {cy : Nat → ClassId} {D : va_G} {ad : Nat → Nat} {A : Nat → Prop} (O : WO NX a (EHX ad A) A) {x1 : Int32} {σ : ST} {σ' : ST} (hf : f_X8_supposeBribed x1 σ = some σ') : Met l yX8_supposeBribed (Cond.code yX8_supposeBribed cX8_supposeBribed 3 none :: WS) (rmk 1 24) (PC [.ref (a 5), .int x1] NX eX a cy D (EHX ad A) σ) (QV NX eX a cy D A σ') 0 0 A := by
  refine met_go (own := "GuardsLookLeft$Watch") O (by decide +kernel) rfl (Nat.le_of_ble_eq_true rfl) ?_
  intro p e s m args below meth c ls C hP hS hl
  have hx := C.hx
  have hb := C.hb
  have hl : lv_has ls 3 [(0, .ref (a 5)), (1, .int x1)] := hl
  obtain ⟨H, hH⟩ : ∃ H, H = s.heap := ⟨_, rfl⟩
  rw [← hH] at hP
  have hS : va_S A s.heap H [] := by rw [hH]; exact va_S.rf
  suffices g : W p l e (rmk 1 24) s m args below meth c H [] 0 0 (MQ below (QV NX eX a cy D A σ') args s 0 0 A) (F0 m 0 ls []) by rw [hH] at g; exact g
  clear hH
  obtain ⟨locs, hlocs⟩ : ∃ z : List Loc, z = [] := ⟨_, rfl⟩
  rw [← hlocs] at hS ⊢
  have hL35 : ∀ (k10 : Int32 → Int32 → ST → Option ST) (hk10 : (∀ (v1 : Int32) (v2 : Int32) (s0 : ST) (H : Heap) (locs : List Loc) (ls : Array Slot), k10 v1 v2 s0 = some σ' → va_P D vwCl (wG NX eX a cy s0) H → va_S A s.heap H locs → lv_has ls 3 [(0, .ref (a 5)), (1, .int v1), (2, .int v2)] → W p l e (rmk 1 24) s m args below meth c H locs 0 0 (MQ below (QV NX eX a cy D A σ') args s 0 0 A) (F0 m 10 ls []))), (∀ (v1 : Int32) (v2 : Int32) (s0 : ST) (H : Heap) (locs : List Loc) (ls : Array Slot), f_X8_supposeBribed_L35 k10 v1 v2 s0 = some σ' → va_P D vwCl (wG NX eX a cy s0) H → va_S A s.heap H locs → lv_has ls 3 [(0, .ref (a 5)), (1, .int v1), (2, .int v2)] → W p l e (rmk 1 24) s m args below meth c H locs 0 0 (MQ below (QV NX eX a cy D A σ') args s 0 0 A) (F0 m 35 ls [])) := by
    intro k10 hk10 v1 v2 s0 H locs ls hf hP hS hl
    obtain ⟨y1, ey1, hf⟩ := jlet_e hf
    refine lv_iinc (v := y1) (lv' := [(2, .int y1), (0, .ref (a 5)), (1, .int v1)]) hx hb dX8_supposeBribed_35 hl (k := 2) rfl ey1 (by decide) rfl (fun ls hl => ?_)
    refine lv_goto (tgt := 10) hx hb dX8_supposeBribed_38 (by decide) ?_
    exact hk10 v1 y1 s0 H locs ls hf hP hS (lv_sub hl [1, 2, 0] rfl)
  have hL10 : ∀ (n : Nat), (∀ (v1 : Int32) (v2 : Int32) (s0 : ST) (H : Heap) (locs : List Loc) (ls : Array Slot), f_X8_supposeBribed_L10 n v1 v2 s0 = some σ' → va_P D vwCl (wG NX eX a cy s0) H → va_S A s.heap H locs → lv_has ls 3 [(0, .ref (a 5)), (1, .int v1), (2, .int v2)] → W p l e (rmk 1 24) s m args below meth c H locs 0 0 (MQ below (QV NX eX a cy D A σ') args s 0 0 A) (F0 m 10 ls [])) := by
    intro n
    induction n with
    | zero => intro v1 v2 s0 H locs ls hf hP hS hl; exact no_o hf
    | succ n ih =>
      intro v1 v2 s0 H locs ls hf hP hS hl
      have hf := (ef_X8_supposeBribed_L10 _ _ _).symm.trans hf
      refine lv_iload_n hx hb dX8_supposeBribed_10 rfl (lv_at hl 2 rfl) ?_
      refine lv_aload_n hx hb dX8_supposeBribed_11 rfl (lv_at hl 0 rfl) ?_
      refine gf_X8_1 C hP wk_1_176 dX8_supposeBribed_12 ?_
      refine gf_X1_6 C hP wk_1_67 dX8_supposeBribed_15 ?_
      refine lv_icmp_ge (tgt := 41) hx hb dX8_supposeBribed_18 (by decide) (fun hc => ?_) (fun hc => ?_)
      · have hf := jif_t hc hf
        exact ret_v C hP hS (Option.some.inj hf) dX8_supposeBribed_41
      · have hf := jif_f hc hf
        refine lv_iload_n hx hb dX8_supposeBribed_21 rfl (lv_at hl 1 rfl) ?_
        refine lv_i2l hx hb dX8_supposeBribed_22 rfl ?_
        refine lv_iload_n hx hb dX8_supposeBribed_23 rfl (lv_at hl 2 rfl) ?_
        refine r_cz (r_runSN (As := [.long (Int32.toInt64 v1), .int v2]) (rest := []) C hP hS (k_X9_isIn (l := l) O (σ := s0) rfl) mw_X9_isIn ms_X9_isIn (C.hV.1 _ nw_13) ⟨Nat.le_of_ble_eq_true rfl, Nat.le_of_ble_eq_true rfl⟩ ⟨rfl, rfl⟩ ⟨Nat.zero_le _, Nat.zero_le _⟩ rfl hl.1 rfl (Nat.le_of_ble_eq_true rfl) dX8_supposeBribed_24) hS (fun H locs hzy1 hP hS => ?_)
        refine jl_topz hf hzy1 (fun y1 hzy1 hf => ?_)
        refine lv_if_ne (tgt := 35) hx hb dX8_supposeBribed_27 (by decide) (fun hc => ?_) (fun hc => ?_)
        · have hf := jif_t hc hf
          exact hL35 (f_X8_supposeBribed_L10 n) ih v1 v2 s0 H locs ls hf hP hS (lv_sub hl [0, 1, 2] rfl)
        · have hf := jif_n hc hf
          refine lv_aload_n hx hb dX8_supposeBribed_30 rfl (lv_at hl 0 rfl) ?_
          refine lv_iload_n hx hb dX8_supposeBribed_31 rfl (lv_at hl 2 rfl) ?_
          obtain ⟨s4, hc, hf⟩ := jb_e hf
          refine r_cv (r_runV (As := [.int v2]) (rest := []) C hP hS (va_recv C.hK hP (q0 := 5) (ci := 8) rfl (by rw [g_at oX_8.1, oX_8.2])) (k_X8_addKnown (l := l) O hc) mw_X8_addKnown mi_X8_addKnown mv_X8_addKnown wk_3_142 ⟨Nat.le_of_ble_eq_true rfl, Nat.le_of_ble_eq_true rfl⟩ ⟨rfl, rfl⟩ ⟨Nat.zero_le _, Nat.zero_le _⟩ rfl hl.1 rfl (Nat.le_of_ble_eq_true rfl) dX8_supposeBribed_32) hS (fun H locs hP hS => ?_)
          exact hL35 (f_X8_supposeBribed_L10 n) ih v1 v2 s4 H locs ls hf hP hS (lv_sub hl [0, 1, 2] rfl)
  refine lv_aload_n hx hb dX8_supposeBribed_0 rfl (lv_at hl 0 rfl) ?_
  refine gf_X8_5 C hP wk_1_182 dX8_supposeBribed_1 ?_
  refine lv_lconst (v := (0 : Int64)) hx hb dX8_supposeBribed_4 (by decide) ?_
  obtain ⟨s2, hc, hf⟩ := jb_e hf
  refine r_cv (r_runS (As := [.ref (a 41), .long (0 : Int64)]) (rest := []) C hP hS (k_J7_fill_d0a16 (l := l) O hc) mw_J7_fill_d0a16 ms_J7_fill_d0a16 wk_3_139 ⟨Nat.le_of_ble_eq_true rfl, Nat.le_of_ble_eq_true rfl⟩ ⟨rfl, rfl⟩ ⟨Nat.zero_le _, Nat.zero_le _⟩ rfl hl.1 rfl (Nat.le_of_ble_eq_true rfl) dX8_supposeBribed_5) hS (fun H locs hP hS => ?_)
  refine lv_iconst (v := (0 : Int32)) hx hb dX8_supposeBribed_8 (by decide) ?_
  refine lv_istore_n (lv' := [(2, .int (0 : Int32)), (0, .ref (a 5)), (1, .int x1)]) hx hb dX8_supposeBribed_9 rfl hl (by decide) rfl (fun ls hl => ?_)
  exact hL10 FU x1 (0 : Int32) s2 H locs ls hf hP hS (lv_sub hl [1, 2, 0] rfl)
set_option maxHeartbeats 4000000 in
set_option maxRecDepth 100000 in
theorem k_X8_refresh {l : Launch} {a : Nat → Nat} {cy : Nat → ClassId} {D : va_G} {ad : Nat → Nat} {A : Nat → Prop} (O : WO NX a (EHX ad A) A) {σ : ST} {σ' : ST} (hf : f_X8_refresh σ = some σ') : Met l yX8_refresh (Cond.code yX8_refresh cX8_refresh 5 none :: WS) (rmk 4 114) (PC [.ref (a 5)] NX eX a cy D (EHX ad A) σ) (QV NX eX a cy D A σ') 0 0 A := by
  refine met_go (own := "GuardsLookLeft$Watch") O (by decide +kernel) rfl (Nat.le_of_ble_eq_true rfl) ?_
  intro p e s m args below meth c ls C hP hS hl
  have hx := C.hx
  have hb := C.hb
  have hl : lv_has ls 5 [(0, .ref (a 5))] := hl
  obtain ⟨H, hH⟩ : ∃ H, H = s.heap := ⟨_, rfl⟩
  rw [← hH] at hP
  have hS : va_S A s.heap H [] := by rw [hH]; exact va_S.rf
  suffices g : W p l e (rmk 4 114) s m args below meth c H [] 0 0 (MQ below (QV NX eX a cy D A σ') args s 0 0 A) (F0 m 0 ls []) by rw [hH] at g; exact g
  clear hH
  obtain ⟨locs, hlocs⟩ : ∃ z : List Loc, z = [] := ⟨_, rfl⟩
  rw [← hlocs] at hS ⊢
  have hL30 : ∀ (k10 : Int32 → ST → Option ST) (hk10 : (∀ (v1 : Int32) (s0 : ST) (H : Heap) (locs : List Loc) (ls : Array Slot), k10 v1 s0 = some σ' → va_P D vwCl (wG NX eX a cy s0) H → va_S A s.heap H locs → lv_has ls 5 [(0, .ref (a 5)), (1, .int v1)] → W p l e (rmk 4 114) s m args below meth c H locs 0 0 (MQ below (QV NX eX a cy D A σ') args s 0 0 A) (F0 m 10 ls []))) (n : Nat), (∀ (v1 : Int32) (v2 : Int32) (s0 : ST) (H : Heap) (locs : List Loc) (ls : Array Slot), f_X8_refresh_L30 k10 n v1 v2 s0 = some σ' → va_P D vwCl (wG NX eX a cy s0) H → va_S A s.heap H locs → lv_has ls 5 [(0, .ref (a 5)), (1, .int v1), (2, .int v2)] → W p l e (rmk 4 114) s m args below meth c H locs 0 0 (MQ below (QV NX eX a cy D A σ') args s 0 0 A) (F0 m 30 ls [])) := by
    intro k10 hk10 n
    induction n with
    | zero => intro v1 v2 s0 H locs ls hf hP hS hl; exact no_o hf
    | succ n ih =>
      intro v1 v2 s0 H locs ls hf hP hS hl
      have hf := (ef_X8_refresh_L30 k10 _ _ _).symm.trans hf
      refine lv_iload_n hx hb dX8_refresh_30 rfl (lv_at hl 2 rfl) ?_
      refine lv_bipush (v := (24 : Int32)) hx hb dX8_refresh_31 (by decide) ?_
      refine lv_icmp_ge (tgt := 81) hx hb dX8_refresh_33 (by decide) (fun hc => ?_) (fun hc => ?_)
      · have hf := jif_t hc hf
        obtain ⟨y1, ey1, hf⟩ := jlet_e hf
        refine lv_iinc (v := y1) (lv' := [(1, .int y1), (0, .ref (a 5)), (2, .int v2)]) hx hb dX8_refresh_81 hl (k := 1) rfl ey1 (by decide) rfl (fun ls hl => ?_)
        refine lv_goto (tgt := 10) hx hb dX8_refresh_84 (by decide) ?_
        exact hk10 y1 s0 H locs ls hf hP hS (lv_sub hl [1, 0] rfl)
      · have hf := jif_f hc hf
        refine lv_aload_n hx hb dX8_refresh_36 rfl (lv_at hl 0 rfl) ?_
        refine lv_iload_n hx hb dX8_refresh_37 rfl (lv_at hl 1 rfl) ?_
        refine lv_iload_n hx hb dX8_refresh_38 rfl (lv_at hl 2 rfl) ?_
        obtain ⟨y2, s3, hc, hf⟩ := jbp_e hf
        refine r_cl (r_runV (As := [.int v1, .int v2]) (rest := []) C hP hS (va_recv C.hK hP (q0 := 5) (ci := 8) rfl (by rw [g_at oX_8.1, oX_8.2])) (k_X8_sight (l := l) O hc) mw_X8_sight mi_X8_sight mv_X8_sight wk_3_134 ⟨Nat.le_of_ble_eq_true rfl, Nat.le_of_ble_eq_true rfl⟩ ⟨rfl, rfl⟩ ⟨Nat.zero_le _, Nat.zero_le _⟩ rfl hl.1 rfl (Nat.le_of_ble_eq_true rfl) dX8_refresh_39) hS (fun H locs hP hS => ?_)
        refine lv_lstore_n (lv' := [(3, .long y2), (0, .ref (a 5)), (1, .int v1), (2, .int v2)]) hx hb dX8_refresh_42 rfl hl (by decide) rfl (fun ls hl => ?_)
        refine lv_aload_n hx hb dX8_refresh_43 rfl (lv_at hl 1 rfl) ?_
        refine gf_X8_6 C hP wk_1_184 dX8_refresh_44 ?_
        refine lv_iload_n hx hb dX8_refresh_47 rfl (lv_at hl 2 rfl) ?_
        obtain ⟨hi4, hf⟩ := jix_e hf
        refine r_qald C hP aX_42 rfl rfl hi4 dX8_refresh_48 ?_
        refine jl_ref hf (show 43 ≤ 43 + (Int32.toNatClampNeg v1) ∧ 43 + (Int32.toNatClampNeg v1) < 48 by have := vp_lt hi4; omega) (fun q5 hq5 hf => ?_)
        refine lv_iload_n hx hb dX8_refresh_49 rfl (lv_at hl 3 rfl) ?_
        refine lv_lload_n hx hb dX8_refresh_50 rfl (lv_at hl 0 rfl) ?_
        refine lv_lconst (v := (1 : Int64)) hx hb dX8_refresh_51 (by decide) ?_
        refine lv_aload_n hx hb dX8_refresh_52 rfl (lv_at hl 1 rfl) ?_
        refine gf_X8_1 C hP wk_1_176 dX8_refresh_53 ?_
        refine gf_X1_7 C hP wk_1_69 dX8_refresh_56 ?_
        refine r_lshl C dX8_refresh_59 ?_
        refine lv_lor hx hb dX8_refresh_60 ?_
        obtain ⟨hi6, hf⟩ := jix_e hf
        refine r_last C hP hS (fX_43 hq5) hi6 dX8_refresh_61 hf (fun H locs s7 hf hP hS => ?_)
        refine lv_aload_n hx hb dX8_refresh_62 rfl (lv_at hl 1 rfl) ?_
        refine gf_X8_7 C hP wk_1_185 dX8_refresh_63 ?_
        refine lv_iload_n hx hb dX8_refresh_66 rfl (lv_at hl 2 rfl) ?_
        refine lv_dup2_11 hx hb dX8_refresh_67 rfl rfl ?_
        obtain ⟨hi8, hf⟩ := jix_e hf
        refine r_lald C hP aX_48 hi8 dX8_refresh_68 ?_
        refine lv_aload_n hx hb dX8_refresh_69 rfl (lv_at hl 1 rfl) ?_
        refine gf_X8_8 C hP wk_1_186 dX8_refresh_70 ?_
        refine lv_lor hx hb dX8_refresh_73 ?_
        obtain ⟨hi9, hf⟩ := jix_e hf
        refine r_last C hP hS aX_48 hi9 dX8_refresh_74 hf (fun H locs s10 hf hP hS => ?_)
        obtain ⟨y11, ey11, hf⟩ := jlet_e hf
        refine lv_iinc (v := y11) (lv' := [(2, .int y11), (3, .long y2), (0, .ref (a 5)), (1, .int v1)]) hx hb dX8_refresh_75 hl (k := 3) rfl ey11 (by decide) rfl (fun ls hl => ?_)
        refine lv_goto (tgt := 30) hx hb dX8_refresh_78 (by decide) ?_
        exact ih v1 y11 s10 H locs ls hf hP hS (lv_sub hl [2, 3, 0] rfl)
  have hL10 : ∀ (n : Nat), (∀ (v1 : Int32) (s0 : ST) (H : Heap) (locs : List Loc) (ls : Array Slot), f_X8_refresh_L10 n v1 s0 = some σ' → va_P D vwCl (wG NX eX a cy s0) H → va_S A s.heap H locs → lv_has ls 5 [(0, .ref (a 5)), (1, .int v1)] → W p l e (rmk 4 114) s m args below meth c H locs 0 0 (MQ below (QV NX eX a cy D A σ') args s 0 0 A) (F0 m 10 ls [])) := by
    intro n
    induction n with
    | zero => intro v1 s0 H locs ls hf hP hS hl; exact no_o hf
    | succ n ih =>
      intro v1 s0 H locs ls hf hP hS hl
      have hf := (ef_X8_refresh_L10 _ _).symm.trans hf
      refine lv_iload_n hx hb dX8_refresh_10 rfl (lv_at hl 1 rfl) ?_
      refine lv_aload_n hx hb dX8_refresh_11 rfl (lv_at hl 0 rfl) ?_
      refine gf_X8_1 C hP wk_1_176 dX8_refresh_12 ?_
      refine gf_X1_6 C hP wk_1_67 dX8_refresh_15 ?_
      refine lv_icmp_ge (tgt := 87) hx hb dX8_refresh_18 (by decide) (fun hc => ?_) (fun hc => ?_)
      · have hf := jif_t hc hf
        refine lv_aload_n hx hb dX8_refresh_87 rfl (lv_at hl 0 rfl) ?_
        refine lv_iconst (v := (0 : Int32)) hx hb dX8_refresh_88 (by decide) ?_
        obtain ⟨s2, hc, hf⟩ := jb_e hf
        refine r_cv (r_runV (As := [.int (0 : Int32)]) (rest := []) C hP hS (va_recv C.hK hP (q0 := 5) (ci := 8) rfl (by rw [g_at oX_8.1, oX_8.2])) (k_X8_supposeBribed (l := l) O hc) mw_X8_supposeBribed mi_X8_supposeBribed mv_X8_supposeBribed wk_3_135 ⟨Nat.le_of_ble_eq_true rfl, Nat.le_of_ble_eq_true rfl⟩ ⟨rfl, rfl⟩ ⟨Nat.zero_le _, Nat.zero_le _⟩ rfl hl.1 rfl (Nat.le_of_ble_eq_true rfl) dX8_refresh_89) hS (fun H locs hP hS => ?_)
        refine lv_aload_n hx hb dX8_refresh_92 rfl (lv_at hl 0 rfl) ?_
        refine gf_X8_5 C hP wk_1_182 dX8_refresh_93 ?_
        refine lv_iconst (v := (0 : Int32)) hx hb dX8_refresh_96 (by decide) ?_
        refine lv_aload_n hx hb dX8_refresh_97 rfl (lv_at hl 0 rfl) ?_
        refine gf_X8_4 C hP wk_1_180 dX8_refresh_98 ?_
        refine lv_iconst (v := (0 : Int32)) hx hb dX8_refresh_101 (by decide) ?_
        refine lv_bipush (v := (24 : Int32)) hx hb dX8_refresh_102 (by decide) ?_
        refine r_copyJ C hP hS hl.1 aX_41 aX_40 ⟨⟨by decide, by decide, by decide⟩, by decide, by decide⟩ (Nat.le_of_ble_eq_true rfl) (Nat.le_of_ble_eq_true rfl) wk_3_146 dX8_refresh_104 hf (fun H locs s3 hf hP hS => ?_)
        refine lv_aload_n hx hb dX8_refresh_107 rfl (lv_at hl 0 rfl) ?_
        refine lv_iconst (v := (0 : Int32)) hx hb dX8_refresh_108 (by decide) ?_
        refine pf_X8_3 C hP hS wk_1_178 (bz_n bz_0) dX8_refresh_109 hf (fun H locs s4 hf hP hS => ?_)
        exact ret_v C hP hS (Option.some.inj hf) dX8_refresh_112
      · have hf := jif_f hc hf
        refine lv_aload_n hx hb dX8_refresh_21 rfl (lv_at hl 0 rfl) ?_
        refine gf_X8_7 C hP wk_1_185 dX8_refresh_22 ?_
        refine lv_iload_n hx hb dX8_refresh_25 rfl (lv_at hl 1 rfl) ?_
        refine lv_lconst (v := (0 : Int64)) hx hb dX8_refresh_26 (by decide) ?_
        obtain ⟨hi5, hf⟩ := jix_e hf
        refine r_last C hP hS aX_48 hi5 dX8_refresh_27 hf (fun H locs s6 hf hP hS => ?_)
        refine lv_iconst (v := (0 : Int32)) hx hb dX8_refresh_28 (by decide) ?_
        refine lv_istore_n (lv' := [(2, .int (0 : Int32)), (0, .ref (a 5)), (1, .int v1)]) hx hb dX8_refresh_29 rfl hl (by decide) rfl (fun ls hl => ?_)
        exact hL30 (f_X8_refresh_L10 n) ih FU v1 (0 : Int32) s6 H locs ls hf hP hS (lv_sub hl [1, 2, 0] rfl)
  refine lv_aload_n hx hb dX8_refresh_0 rfl (lv_at hl 0 rfl) ?_
  refine gf_X8_3 C hP wk_1_178 dX8_refresh_1 ?_
  refine lv_if_ne (tgt := 8) hx hb dX8_refresh_4 (by decide) (fun hc => ?_) (fun hc => ?_)
  · have hf := jif_t hc hf
    refine lv_iconst (v := (0 : Int32)) hx hb dX8_refresh_8 (by decide) ?_
    refine lv_istore_n (lv' := [(1, .int (0 : Int32)), (0, .ref (a 5))]) hx hb dX8_refresh_9 rfl hl (by decide) rfl (fun ls hl => ?_)
    exact hL10 FU (0 : Int32) σ H locs ls hf hP hS (lv_sub hl [1, 0] rfl)
  · have hf := jif_n hc hf
    exact ret_v C hP hS (Option.some.inj hf) dX8_refresh_7
set_option maxHeartbeats 4000000 in
set_option maxRecDepth 100000 in
theorem k_X8_addFound {l : Launch} {a : Nat → Nat} {cy : Nat → ClassId} {D : va_G} {ad : Nat → Nat} {A : Nat → Prop} (O : WO NX a (EHX ad A) A) {x1 : Int32} {σ : ST} {σ' : ST} (hf : f_X8_addFound x1 σ = some σ') : Met l yX8_addFound (Cond.code yX8_addFound cX8_addFound 5 none :: WS) (rmk 4 114) (PC [.ref (a 5), .int x1] NX eX a cy D (EHX ad A) σ) (QV NX eX a cy D A σ') 0 0 A := by
  refine met_go (own := "GuardsLookLeft$Watch") O (by decide +kernel) rfl (Nat.le_of_ble_eq_true rfl) ?_
  intro p e s m args below meth c ls C hP hS hl
  have hx := C.hx
  have hb := C.hb
  have hl : lv_has ls 5 [(0, .ref (a 5)), (1, .int x1)] := hl
  obtain ⟨H, hH⟩ : ∃ H, H = s.heap := ⟨_, rfl⟩
  rw [← hH] at hP
  have hS : va_S A s.heap H [] := by rw [hH]; exact va_S.rf
  suffices g : W p l e (rmk 4 114) s m args below meth c H [] 0 0 (MQ below (QV NX eX a cy D A σ') args s 0 0 A) (F0 m 0 ls []) by rw [hH] at g; exact g
  clear hH
  obtain ⟨locs, hlocs⟩ : ∃ z : List Loc, z = [] := ⟨_, rfl⟩
  rw [← hlocs] at hS ⊢
  have hL2 : ∀ (n : Nat), (∀ (v1 : Int32) (v2 : Int32) (s0 : ST) (H : Heap) (locs : List Loc) (ls : Array Slot), f_X8_addFound_L2 n v1 v2 s0 = some σ' → va_P D vwCl (wG NX eX a cy s0) H → va_S A s.heap H locs → lv_has ls 5 [(0, .ref (a 5)), (1, .int v1), (2, .int v2)] → W p l e (rmk 4 114) s m args below meth c H locs 0 0 (MQ below (QV NX eX a cy D A σ') args s 0 0 A) (F0 m 2 ls [])) := by
    intro n
    induction n with
    | zero => intro v1 v2 s0 H locs ls hf hP hS hl; exact no_o hf
    | succ n ih =>
      intro v1 v2 s0 H locs ls hf hP hS hl
      have hf := (ef_X8_addFound_L2 _ _ _).symm.trans hf
      refine lv_iload_n hx hb dX8_addFound_2 rfl (lv_at hl 2 rfl) ?_
      refine lv_bipush (v := (24 : Int32)) hx hb dX8_addFound_3 (by decide) ?_
      refine lv_icmp_ge (tgt := 41) hx hb dX8_addFound_5 (by decide) (fun hc => ?_) (fun hc => ?_)
      · have hf := jif_t hc hf
        exact ret_v C hP hS (Option.some.inj hf) dX8_addFound_41
      · have hf := jif_f hc hf
        refine lv_aload_n hx hb dX8_addFound_8 rfl (lv_at hl 0 rfl) ?_
        refine lv_iload_n hx hb dX8_addFound_9 rfl (lv_at hl 1 rfl) ?_
        refine lv_iload_n hx hb dX8_addFound_10 rfl (lv_at hl 2 rfl) ?_
        obtain ⟨y1, s2, hc, hf⟩ := jbp_e hf
        refine r_cl (r_runV (As := [.int v1, .int v2]) (rest := []) C hP hS (va_recv C.hK hP (q0 := 5) (ci := 8) rfl (by rw [g_at oX_8.1, oX_8.2])) (k_X8_sight (l := l) O hc) mw_X8_sight mi_X8_sight mv_X8_sight wk_3_134 ⟨Nat.le_of_ble_eq_true rfl, Nat.le_of_ble_eq_true rfl⟩ ⟨rfl, rfl⟩ ⟨Nat.zero_le _, Nat.zero_le _⟩ rfl hl.1 rfl (Nat.le_of_ble_eq_true rfl) dX8_addFound_11) hS (fun H locs hP hS => ?_)
        refine lv_lstore_n (lv' := [(3, .long y1), (0, .ref (a 5)), (1, .int v1), (2, .int v2)]) hx hb dX8_addFound_14 rfl hl (by decide) rfl (fun ls hl => ?_)
        refine lv_aload_n hx hb dX8_addFound_15 rfl (lv_at hl 1 rfl) ?_
        refine gf_X8_5 C hP wk_1_182 dX8_addFound_16 ?_
        refine lv_iload_n hx hb dX8_addFound_19 rfl (lv_at hl 3 rfl) ?_
        refine lv_dup2_11 hx hb dX8_addFound_20 rfl rfl ?_
        obtain ⟨hi3, hf⟩ := jix_e hf
        refine r_lald C hP aX_41 hi3 dX8_addFound_21 ?_
        refine lv_lload_n hx hb dX8_addFound_22 rfl (lv_at hl 0 rfl) ?_
        refine lv_lconst (v := (1 : Int64)) hx hb dX8_addFound_23 (by decide) ?_
        refine lv_aload_n hx hb dX8_addFound_24 rfl (lv_at hl 1 rfl) ?_
        refine gf_X8_1 C hP wk_1_176 dX8_addFound_25 ?_
        refine gf_X1_7 C hP wk_1_69 dX8_addFound_28 ?_
        refine r_lshl C dX8_addFound_31 ?_
        refine lv_lor hx hb dX8_addFound_32 ?_
        refine lv_lor hx hb dX8_addFound_33 ?_
        obtain ⟨hi4, hf⟩ := jix_e hf
        refine r_last C hP hS aX_41 hi4 dX8_addFound_34 hf (fun H locs s5 hf hP hS => ?_)
        obtain ⟨y6, ey6, hf⟩ := jlet_e hf
        refine lv_iinc (v := y6) (lv' := [(2, .int y6), (3, .long y1), (0, .ref (a 5)), (1, .int v1)]) hx hb dX8_addFound_35 hl (k := 3) rfl ey6 (by decide) rfl (fun ls hl => ?_)
        refine lv_goto (tgt := 2) hx hb dX8_addFound_38 (by decide) ?_
        exact ih v1 y6 s5 H locs ls hf hP hS (lv_sub hl [2, 3, 0] rfl)
  refine lv_iconst (v := (0 : Int32)) hx hb dX8_addFound_0 (by decide) ?_
  refine lv_istore_n (lv' := [(2, .int (0 : Int32)), (0, .ref (a 5)), (1, .int x1)]) hx hb dX8_addFound_1 rfl hl (by decide) rfl (fun ls hl => ?_)
  exact hL2 FU x1 (0 : Int32) σ H locs ls hf hP hS (lv_sub hl [1, 2, 0] rfl)
set_option maxHeartbeats 4000000 in
set_option maxRecDepth 100000 in
theorem k_X8_supposeLaid {l : Launch} {a : Nat → Nat} {cy : Nat → ClassId} {D : va_G} {ad : Nat → Nat} {A : Nat → Prop} (O : WO NX a (EHX ad A) A) {x1 : Int32} {x2 : Int32} {r : Int32} {σ : ST} {σ' : ST} (hf : f_X8_supposeLaid x1 x2 σ = some (r, σ')) : Met l yX8_supposeLaid (Cond.code yX8_supposeLaid cX8_supposeLaid 8 (some .boolean) :: WS) (rmk 5 138) (PC [.ref (a 5), .int x1, .int x2] NX eX a cy D (EHX ad A) σ) (QZ NX eX a cy D A r σ') 0 0 A := by
  refine met_go (own := "GuardsLookLeft$Watch") O (by decide +kernel) rfl (Nat.le_of_ble_eq_true rfl) ?_
  intro p e s m args below meth c ls C hP hS hl
  have hx := C.hx
  have hb := C.hb
  have hl : lv_has ls 8 [(0, .ref (a 5)), (1, .int x1), (2, .int x2)] := hl
  obtain ⟨H, hH⟩ : ∃ H, H = s.heap := ⟨_, rfl⟩
  rw [← hH] at hP
  have hS : va_S A s.heap H [] := by rw [hH]; exact va_S.rf
  suffices g : W p l e (rmk 5 138) s m args below meth c H [] 0 0 (MQ below (QZ NX eX a cy D A r σ') args s 0 0 A) (F0 m 0 ls []) by rw [hH] at g; exact g
  clear hH
  obtain ⟨locs, hlocs⟩ : ∃ z : List Loc, z = [] := ⟨_, rfl⟩
  rw [← hlocs] at hS ⊢
  have hL98 : ∀ (n : Nat), (∀ (v5 : Int64) (v7 : Int32) (s0 : ST) (H : Heap) (locs : List Loc) (ls : Array Slot), f_X8_supposeLaid_L98 n v5 v7 s0 = some (r, σ') → va_P D vwCl (wG NX eX a cy s0) H → va_S A s.heap H locs → lv_has ls 8 [(0, .ref (a 5)), (5, .long v5), (7, .int v7)] → W p l e (rmk 5 138) s m args below meth c H locs 0 0 (MQ below (QZ NX eX a cy D A r σ') args s 0 0 A) (F0 m 98 ls [])) := by
    intro n
    induction n with
    | zero => intro v5 v7 s0 H locs ls hf hP hS hl; exact no_o hf
    | succ n ih =>
      intro v5 v7 s0 H locs ls hf hP hS hl
      have hf := (ef_X8_supposeLaid_L98 _ _ _).symm.trans hf
      refine lv_iload hx hb dX8_supposeLaid_98 (lv_at hl 2 rfl) ?_
      refine lv_bipush (v := (24 : Int32)) hx hb dX8_supposeLaid_100 (by decide) ?_
      refine lv_icmp_ge (tgt := 131) hx hb dX8_supposeLaid_102 (by decide) (fun hc => ?_) (fun hc => ?_)
      · have hf := jif_t hc hf
        refine lv_lload hx hb dX8_supposeLaid_131 (lv_at hl 1 rfl) ?_
        refine lv_lconst (v := (0 : Int64)) hx hb dX8_supposeLaid_133 (by decide) ?_
        refine lc_eq C (tgt := 142) dX8_supposeLaid_134 dX8_supposeLaid_135 (by decide) (fun hc => ?_) (fun hc => ?_)
        · have hf := jif_t hc hf
          refine lv_iconst (v := (0 : Int32)) hx hb dX8_supposeLaid_142 (by decide) ?_
          exact ret_z C hP hS bz_0 (Prod.mk.inj (Option.some.inj hf)).1 (Prod.mk.inj (Option.some.inj hf)).2 dX8_supposeLaid_143
        · have hf := jif_f hc hf
          refine lv_iconst (v := (1 : Int32)) hx hb dX8_supposeLaid_138 (by decide) ?_
          refine lv_goto (tgt := 143) hx hb dX8_supposeLaid_139 (by decide) ?_
          exact ret_z C hP hS bz_1 (Prod.mk.inj (Option.some.inj hf)).1 (Prod.mk.inj (Option.some.inj hf)).2 dX8_supposeLaid_143
      · have hf := jif_f hc hf
        refine lv_lload hx hb dX8_supposeLaid_105 (lv_at hl 1 rfl) ?_
        refine lv_aload_n hx hb dX8_supposeLaid_107 rfl (lv_at hl 0 rfl) ?_
        refine gf_X8_5 C hP wk_1_182 dX8_supposeLaid_108 ?_
        refine lv_iload hx hb dX8_supposeLaid_111 (lv_at hl 2 rfl) ?_
        obtain ⟨hi1, hf⟩ := jix_e hf
        refine r_lald C hP aX_41 hi1 dX8_supposeLaid_113 ?_
        refine lv_aload_n hx hb dX8_supposeLaid_114 rfl (lv_at hl 0 rfl) ?_
        refine gf_X8_4 C hP wk_1_180 dX8_supposeLaid_115 ?_
        refine lv_iload hx hb dX8_supposeLaid_118 (lv_at hl 2 rfl) ?_
        obtain ⟨hi2, hf⟩ := jix_e hf
        refine r_lald C hP aX_40 hi2 dX8_supposeLaid_120 ?_
        refine lv_lxor hx hb dX8_supposeLaid_121 ?_
        refine lv_lor hx hb dX8_supposeLaid_122 ?_
        refine jl_topl hf (fun y3 hf => ?_)
        refine lv_lstore (lv' := [(5, .long y3), (0, .ref (a 5)), (7, .int v7)]) hx hb dX8_supposeLaid_123 hl (by decide) rfl (fun ls hl => ?_)
        obtain ⟨y4, ey4, hf⟩ := jlet_e hf
        refine lv_iinc (v := y4) (lv' := [(7, .int y4), (5, .long y3), (0, .ref (a 5))]) hx hb dX8_supposeLaid_125 hl (k := 2) rfl ey4 (by decide) rfl (fun ls hl => ?_)
        refine lv_goto (tgt := 98) hx hb dX8_supposeLaid_128 (by decide) ?_
        exact ih y3 y4 s0 H locs ls hf hP hS (lv_sub hl [2, 1, 0] rfl)
  have hL76 : ∀ (k35 : Int32 → Int32 → Int64 → Int32 → ST → Option (Int32 × ST)) (hk35 : (∀ (v1 : Int32) (v2 : Int32) (v3 : Int64) (v5 : Int32) (s0 : ST) (H : Heap) (locs : List Loc) (ls : Array Slot), k35 v1 v2 v3 v5 s0 = some (r, σ') → va_P D vwCl (wG NX eX a cy s0) H → va_S A s.heap H locs → lv_has ls 8 [(0, .ref (a 5)), (1, .int v1), (2, .int v2), (3, .long v3), (5, .int v5)] → W p l e (rmk 5 138) s m args below meth c H locs 0 0 (MQ below (QZ NX eX a cy D A r σ') args s 0 0 A) (F0 m 35 ls []))), (∀ (v1 : Int32) (v2 : Int32) (v3 : Int64) (v5 : Int32) (s0 : ST) (H : Heap) (locs : List Loc) (ls : Array Slot), f_X8_supposeLaid_L76 k35 v1 v2 v3 v5 s0 = some (r, σ') → va_P D vwCl (wG NX eX a cy s0) H → va_S A s.heap H locs → lv_has ls 8 [(0, .ref (a 5)), (1, .int v1), (2, .int v2), (3, .long v3), (5, .int v5)] → W p l e (rmk 5 138) s m args below meth c H locs 0 0 (MQ below (QZ NX eX a cy D A r σ') args s 0 0 A) (F0 m 76 ls [])) := by
    intro k35 hk35 v1 v2 v3 v5 s0 H locs ls hf hP hS hl
    obtain ⟨y1, ey1, hf⟩ := jlet_e hf
    refine lv_iinc (v := y1) (lv' := [(5, .int y1), (0, .ref (a 5)), (1, .int v1), (2, .int v2), (3, .long v3)]) hx hb dX8_supposeLaid_76 hl (k := 4) rfl ey1 (by decide) rfl (fun ls hl => ?_)
    refine lv_goto (tgt := 35) hx hb dX8_supposeLaid_79 (by decide) ?_
    exact hk35 v1 v2 v3 y1 s0 H locs ls hf hP hS (lv_sub hl [1, 2, 3, 4, 0] rfl)
  have hL35 : ∀ (n : Nat), (∀ (v1 : Int32) (v2 : Int32) (v3 : Int64) (v5 : Int32) (s0 : ST) (H : Heap) (locs : List Loc) (ls : Array Slot), f_X8_supposeLaid_L35 n v1 v2 v3 v5 s0 = some (r, σ') → va_P D vwCl (wG NX eX a cy s0) H → va_S A s.heap H locs → lv_has ls 8 [(0, .ref (a 5)), (1, .int v1), (2, .int v2), (3, .long v3), (5, .int v5)] → W p l e (rmk 5 138) s m args below meth c H locs 0 0 (MQ below (QZ NX eX a cy D A r σ') args s 0 0 A) (F0 m 35 ls [])) := by
    intro n
    induction n with
    | zero => intro v1 v2 v3 v5 s0 H locs ls hf hP hS hl; exact no_o hf
    | succ n ih =>
      intro v1 v2 v3 v5 s0 H locs ls hf hP hS hl
      have hf := (ef_X8_supposeLaid_L35 _ _ _ _ _).symm.trans hf
      refine lv_iload hx hb dX8_supposeLaid_35 (lv_at hl 4 rfl) ?_
      refine lv_aload_n hx hb dX8_supposeLaid_37 rfl (lv_at hl 0 rfl) ?_
      refine gf_X8_1 C hP wk_1_176 dX8_supposeLaid_38 ?_
      refine gf_X1_6 C hP wk_1_67 dX8_supposeLaid_41 ?_
      refine lv_icmp_ge (tgt := 82) hx hb dX8_supposeLaid_44 (by decide) (fun hc => ?_) (fun hc => ?_)
      · have hf := jif_t hc hf
        refine lv_aload_n hx hb dX8_supposeLaid_82 rfl (lv_at hl 0 rfl) ?_
        refine gf_X8_0 C hP wk_1_175 dX8_supposeLaid_83 ?_
        refine gf_X3_0 C hP wk_1_36 dX8_supposeLaid_86 ?_
        refine lv_iload_n hx hb dX8_supposeLaid_89 rfl (lv_at hl 1 rfl) ?_
        refine lv_lload_n hx hb dX8_supposeLaid_90 rfl (lv_at hl 3 rfl) ?_
        obtain ⟨hi1, hf⟩ := jix_e hf
        refine r_last C hP hS aX_14 hi1 dX8_supposeLaid_91 hf (fun H locs s2 hf hP hS => ?_)
        refine lv_lconst (v := (0 : Int64)) hx hb dX8_supposeLaid_92 (by decide) ?_
        refine lv_lstore (lv' := [(5, .long (0 : Int64)), (0, .ref (a 5)), (1, .int v1), (2, .int v2), (3, .long v3)]) hx hb dX8_supposeLaid_93 hl (by decide) rfl (fun ls hl => ?_)
        refine lv_iconst (v := (0 : Int32)) hx hb dX8_supposeLaid_95 (by decide) ?_
        refine lv_istore (lv' := [(7, .int (0 : Int32)), (5, .long (0 : Int64)), (0, .ref (a 5)), (1, .int v1), (2, .int v2), (3, .long v3)]) hx hb dX8_supposeLaid_96 hl (by decide) rfl (fun ls hl => ?_)
        exact hL98 FU (0 : Int64) (0 : Int32) s2 H locs ls hf hP hS (lv_sub hl [2, 1, 0] rfl)
      · have hf := jif_f hc hf
        refine lv_aload_n hx hb dX8_supposeLaid_47 rfl (lv_at hl 0 rfl) ?_
        refine gf_X8_7 C hP wk_1_185 dX8_supposeLaid_48 ?_
        refine lv_iload hx hb dX8_supposeLaid_51 (lv_at hl 4 rfl) ?_
        obtain ⟨hi3, hf⟩ := jix_e hf
        refine r_lald C hP aX_48 hi3 dX8_supposeLaid_53 ?_
        refine lv_iload_n hx hb dX8_supposeLaid_54 rfl (lv_at hl 2 rfl) ?_
        refine r_cz (r_runSN (As := [.long (gB s0 48 (Int32.toNatClampNeg v5)), .int v2]) (rest := []) C hP hS (k_X9_isIn (l := l) O (σ := s0) rfl) mw_X9_isIn ms_X9_isIn (C.hV.1 _ nw_13) ⟨Nat.le_of_ble_eq_true rfl, Nat.le_of_ble_eq_true rfl⟩ ⟨rfl, rfl⟩ ⟨Nat.zero_le _, Nat.zero_le _⟩ rfl hl.1 rfl (Nat.le_of_ble_eq_true rfl) dX8_supposeLaid_55) hS (fun H locs hzy4 hP hS => ?_)
        refine jl_topz hf hzy4 (fun y4 hzy4 hf => ?_)
        refine lv_if_eq (tgt := 70) hx hb dX8_supposeLaid_58 (by decide) (fun hc => ?_) (fun hc => ?_)
        · have hf := jif_t hc hf
          refine lv_aload_n hx hb dX8_supposeLaid_70 rfl (lv_at hl 0 rfl) ?_
          refine lv_iload hx hb dX8_supposeLaid_71 (lv_at hl 4 rfl) ?_
          obtain ⟨s7, hc, hf⟩ := jb_e hf
          refine r_cv (r_runV (As := [.int v5]) (rest := []) C hP hS (va_recv C.hK hP (q0 := 5) (ci := 8) rfl (by rw [g_at oX_8.1, oX_8.2])) (k_X8_addKnown (l := l) O hc) mw_X8_addKnown mi_X8_addKnown mv_X8_addKnown wk_3_142 ⟨Nat.le_of_ble_eq_true rfl, Nat.le_of_ble_eq_true rfl⟩ ⟨rfl, rfl⟩ ⟨Nat.zero_le _, Nat.zero_le _⟩ rfl hl.1 rfl (Nat.le_of_ble_eq_true rfl) dX8_supposeLaid_73) hS (fun H locs hP hS => ?_)
          exact hL76 (f_X8_supposeLaid_L35 n) ih v1 v2 v3 v5 s7 H locs ls hf hP hS (lv_sub hl [0, 1, 2, 3, 4] rfl)
        · have hf := jif_f hc hf
          refine lv_aload_n hx hb dX8_supposeLaid_61 rfl (lv_at hl 0 rfl) ?_
          refine lv_iload hx hb dX8_supposeLaid_62 (lv_at hl 4 rfl) ?_
          obtain ⟨s9, hc, hf⟩ := jb_e hf
          refine r_cv (r_runV (As := [.int v5]) (rest := []) C hP hS (va_recv C.hK hP (q0 := 5) (ci := 8) rfl (by rw [g_at oX_8.1, oX_8.2])) (k_X8_addFound (l := l) O hc) mw_X8_addFound mi_X8_addFound mv_X8_addFound wk_4_3 ⟨Nat.le_of_ble_eq_true rfl, Nat.le_of_ble_eq_true rfl⟩ ⟨rfl, rfl⟩ ⟨Nat.zero_le _, Nat.zero_le _⟩ rfl hl.1 rfl (Nat.le_of_ble_eq_true rfl) dX8_supposeLaid_64) hS (fun H locs hP hS => ?_)
          refine lv_goto (tgt := 76) hx hb dX8_supposeLaid_67 (by decide) ?_
          exact hL76 (f_X8_supposeLaid_L35 n) ih v1 v2 v3 v5 s9 H locs ls hf hP hS (lv_sub hl [0, 1, 2, 3, 4] rfl)
  refine lv_aload_n hx hb dX8_supposeLaid_0 rfl (lv_at hl 0 rfl) ?_
  refine gf_X8_0 C hP wk_1_175 dX8_supposeLaid_1 ?_
  refine gf_X3_0 C hP wk_1_36 dX8_supposeLaid_4 ?_
  refine lv_iload_n hx hb dX8_supposeLaid_7 rfl (lv_at hl 1 rfl) ?_
  obtain ⟨hi1, hf⟩ := jix_e hf
  refine r_lald C hP aX_14 hi1 dX8_supposeLaid_8 ?_
  refine jl_topl hf (fun y2 hf => ?_)
  refine lv_lstore_n (lv' := [(3, .long y2), (0, .ref (a 5)), (1, .int x1), (2, .int x2)]) hx hb dX8_supposeLaid_9 rfl hl (by decide) rfl (fun ls hl => ?_)
  refine lv_aload_n hx hb dX8_supposeLaid_10 rfl (lv_at hl 1 rfl) ?_
  refine gf_X8_0 C hP wk_1_175 dX8_supposeLaid_11 ?_
  refine gf_X3_0 C hP wk_1_36 dX8_supposeLaid_14 ?_
  refine lv_iload_n hx hb dX8_supposeLaid_17 rfl (lv_at hl 2 rfl) ?_
  refine lv_lload_n hx hb dX8_supposeLaid_18 rfl (lv_at hl 0 rfl) ?_
  refine lv_lconst (v := (1 : Int64)) hx hb dX8_supposeLaid_19 (by decide) ?_
  refine lv_iload_n hx hb dX8_supposeLaid_20 rfl (lv_at hl 3 rfl) ?_
  refine r_lshl C dX8_supposeLaid_21 ?_
  refine lv_lor hx hb dX8_supposeLaid_22 ?_
  obtain ⟨hi3, hf⟩ := jix_e hf
  refine r_last C hP hS aX_14 hi3 dX8_supposeLaid_23 hf (fun H locs s4 hf hP hS => ?_)
  refine lv_aload_n hx hb dX8_supposeLaid_24 rfl (lv_at hl 1 rfl) ?_
  refine gf_X8_5 C hP wk_1_182 dX8_supposeLaid_25 ?_
  refine lv_lconst (v := (0 : Int64)) hx hb dX8_supposeLaid_28 (by decide) ?_
  obtain ⟨s6, hc, hf⟩ := jb_e hf
  refine r_cv (r_runS (As := [.ref (a 41), .long (0 : Int64)]) (rest := []) C hP hS (k_J7_fill_d0a16 (l := l) O hc) mw_J7_fill_d0a16 ms_J7_fill_d0a16 wk_3_139 ⟨Nat.le_of_ble_eq_true rfl, Nat.le_of_ble_eq_true rfl⟩ ⟨rfl, rfl⟩ ⟨Nat.zero_le _, Nat.zero_le _⟩ rfl hl.1 rfl (Nat.le_of_ble_eq_true rfl) dX8_supposeLaid_29) hS (fun H locs hP hS => ?_)
  refine lv_iconst (v := (0 : Int32)) hx hb dX8_supposeLaid_32 (by decide) ?_
  refine lv_istore (lv' := [(5, .int (0 : Int32)), (3, .long y2), (0, .ref (a 5)), (1, .int x1), (2, .int x2)]) hx hb dX8_supposeLaid_33 hl (by decide) rfl (fun ls hl => ?_)
  exact hL35 FU x1 x2 y2 (0 : Int32) s6 H locs ls hf hP hS (lv_sub hl [2, 3, 4, 1, 0] rfl)
set_option maxHeartbeats 4000000 in
set_option maxRecDepth 100000 in
theorem k_X8_supposeAhead {l : Launch} {a : Nat → Nat} {cy : Nat → ClassId} {D : va_G} {ad : Nat → Nat} {A : Nat → Prop} (O : WO NX a (EHX ad A) A) {x1 : Int32} {x2 : Int32} {σ : ST} {σ' : ST} (hf : f_X8_supposeAhead x1 x2 σ = some σ') : Met l yX8_supposeAhead (Cond.code yX8_supposeAhead cX8_supposeAhead 4 none :: WS) (rmk 5 138) (PC [.ref (a 5), .int x1, .int x2] NX eX a cy D (EHX ad A) σ) (QV NX eX a cy D A σ') 0 0 A := by
  refine met_go (own := "GuardsLookLeft$Watch") O (by decide +kernel) rfl (Nat.le_of_ble_eq_true rfl) ?_
  intro p e s m args below meth c ls C hP hS hl
  have hx := C.hx
  have hb := C.hb
  have hl : lv_has ls 4 [(0, .ref (a 5)), (1, .int x1), (2, .int x2)] := hl
  obtain ⟨H, hH⟩ : ∃ H, H = s.heap := ⟨_, rfl⟩
  rw [← hH] at hP
  have hS : va_S A s.heap H [] := by rw [hH]; exact va_S.rf
  suffices g : W p l e (rmk 5 138) s m args below meth c H [] 0 0 (MQ below (QV NX eX a cy D A σ') args s 0 0 A) (F0 m 0 ls []) by rw [hH] at g; exact g
  clear hH
  obtain ⟨locs, hlocs⟩ : ∃ z : List Loc, z = [] := ⟨_, rfl⟩
  rw [← hlocs] at hS ⊢
  refine lv_aload_n hx hb dX8_supposeAhead_0 rfl (lv_at hl 0 rfl) ?_
  refine gf_X8_1 C hP wk_1_176 dX8_supposeAhead_1 ?_
  refine gf_X1_5 C hP wk_1_63 dX8_supposeAhead_4 ?_
  refine lv_iload_n hx hb dX8_supposeAhead_7 rfl (lv_at hl 1 rfl) ?_
  obtain ⟨hi1, hf⟩ := jix_e hf
  refine r_iald C hP aX_20 hi1 dX8_supposeAhead_8 ?_
  refine jl_topi hf (fun y2 hf => ?_)
  refine lv_istore_n (lv' := [(3, .int y2), (0, .ref (a 5)), (1, .int x1), (2, .int x2)]) hx hb dX8_supposeAhead_9 rfl hl (by decide) rfl (fun ls hl => ?_)
  refine lv_aload_n hx hb dX8_supposeAhead_10 rfl (lv_at hl 1 rfl) ?_
  refine gf_X8_1 C hP wk_1_176 dX8_supposeAhead_11 ?_
  refine gf_X1_5 C hP wk_1_63 dX8_supposeAhead_14 ?_
  refine lv_iload_n hx hb dX8_supposeAhead_17 rfl (lv_at hl 2 rfl) ?_
  refine lv_iload_n hx hb dX8_supposeAhead_18 rfl (lv_at hl 3 rfl) ?_
  obtain ⟨hi3, hf⟩ := jix_e hf
  refine r_iast C hP hS aX_20 hi3 dX8_supposeAhead_19 hf (fun H locs s4 hf hP hS => ?_)
  refine lv_aload_n hx hb dX8_supposeAhead_20 rfl (lv_at hl 1 rfl) ?_
  refine lv_iconst (v := (1 : Int32)) hx hb dX8_supposeAhead_21 (by decide) ?_
  refine lv_iload_n hx hb dX8_supposeAhead_22 rfl (lv_at hl 2 rfl) ?_
  refine r_ishl C dX8_supposeAhead_23 ?_
  obtain ⟨s6, hc, hf⟩ := jb_e hf
  refine r_cv (r_runV (As := [.int (jshl (1 : Int32) x1)]) (rest := []) C hP hS (va_recv C.hK hP (q0 := 5) (ci := 8) rfl (by rw [g_at oX_8.1, oX_8.2])) (k_X8_supposeBribed (l := l) O hc) mw_X8_supposeBribed mi_X8_supposeBribed mv_X8_supposeBribed wk_3_135 ⟨Nat.le_of_ble_eq_true rfl, Nat.le_of_ble_eq_true rfl⟩ ⟨rfl, rfl⟩ ⟨Nat.zero_le _, Nat.zero_le _⟩ rfl hl.1 rfl (Nat.le_of_ble_eq_true rfl) dX8_supposeAhead_24) hS (fun H locs hP hS => ?_)
  refine lv_aload_n hx hb dX8_supposeAhead_27 rfl (lv_at hl 1 rfl) ?_
  refine lv_iload_n hx hb dX8_supposeAhead_28 rfl (lv_at hl 2 rfl) ?_
  obtain ⟨s8, hc, hf⟩ := jb_e hf
  refine r_cv (r_runV (As := [.int x1]) (rest := []) C hP hS (va_recv C.hK hP (q0 := 5) (ci := 8) rfl (by rw [g_at oX_8.1, oX_8.2])) (k_X8_addFound (l := l) O hc) mw_X8_addFound mi_X8_addFound mv_X8_addFound wk_4_3 ⟨Nat.le_of_ble_eq_true rfl, Nat.le_of_ble_eq_true rfl⟩ ⟨rfl, rfl⟩ ⟨Nat.zero_le _, Nat.zero_le _⟩ rfl hl.1 rfl (Nat.le_of_ble_eq_true rfl) dX8_supposeAhead_29) hS (fun H locs hP hS => ?_)
  refine lv_aload_n hx hb dX8_supposeAhead_32 rfl (lv_at hl 1 rfl) ?_
  refine gf_X8_1 C hP wk_1_176 dX8_supposeAhead_33 ?_
  refine gf_X1_5 C hP wk_1_63 dX8_supposeAhead_36 ?_
  refine lv_iload_n hx hb dX8_supposeAhead_39 rfl (lv_at hl 2 rfl) ?_
  refine lv_iload_n hx hb dX8_supposeAhead_40 rfl (lv_at hl 0 rfl) ?_
  obtain ⟨hi9, hf⟩ := jix_e hf
  refine r_iast C hP hS aX_20 hi9 dX8_supposeAhead_41 hf (fun H locs s10 hf hP hS => ?_)
  exact ret_v C hP hS (Option.some.inj hf) dX8_supposeAhead_42
set_option maxHeartbeats 4000000 in
set_option maxRecDepth 100000 in
theorem k_X8_supposeLaw {l : Launch} {a : Nat → Nat} {cy : Nat → ClassId} {D : va_G} {ad : Nat → Nat} {A : Nat → Prop} (O : WO NX a (EHX ad A) A) {x1 : Int32} {σ : ST} {σ' : ST} (hf : f_X8_supposeLaw x1 σ = some σ') : Met l yX8_supposeLaw (Cond.code yX8_supposeLaw cX8_supposeLaw 4 none :: WS) (rmk 5 138) (PC [.ref (a 5), .int x1] NX eX a cy D (EHX ad A) σ) (QV NX eX a cy D A σ') 0 0 A := by
  refine met_go (own := "GuardsLookLeft$Watch") O (by decide +kernel) rfl (Nat.le_of_ble_eq_true rfl) ?_
  intro p e s m args below meth c ls C hP hS hl
  have hx := C.hx
  have hb := C.hb
  have hl : lv_has ls 4 [(0, .ref (a 5)), (1, .int x1)] := hl
  obtain ⟨H, hH⟩ : ∃ H, H = s.heap := ⟨_, rfl⟩
  rw [← hH] at hP
  have hS : va_S A s.heap H [] := by rw [hH]; exact va_S.rf
  suffices g : W p l e (rmk 5 138) s m args below meth c H [] 0 0 (MQ below (QV NX eX a cy D A σ') args s 0 0 A) (F0 m 0 ls []) by rw [hH] at g; exact g
  clear hH
  obtain ⟨locs, hlocs⟩ : ∃ z : List Loc, z = [] := ⟨_, rfl⟩
  rw [← hlocs] at hS ⊢
  have hL26 : ∀ (n : Nat), (∀ (v2 : Int32) (v3 : Int32) (s0 : ST) (H : Heap) (locs : List Loc) (ls : Array Slot), f_X8_supposeLaw_L26 n v2 v3 s0 = some σ' → va_P D vwCl (wG NX eX a cy s0) H → va_S A s.heap H locs → lv_has ls 4 [(0, .ref (a 5)), (2, .int v2), (3, .int v3)] → W p l e (rmk 5 138) s m args below meth c H locs 0 0 (MQ below (QV NX eX a cy D A σ') args s 0 0 A) (F0 m 26 ls [])) := by
    intro n
    induction n with
    | zero => intro v2 v3 s0 H locs ls hf hP hS hl; exact no_o hf
    | succ n ih =>
      intro v2 v3 s0 H locs ls hf hP hS hl
      have hf := (ef_X8_supposeLaw_L26 _ _ _).symm.trans hf
      refine lv_iload_n hx hb dX8_supposeLaw_26 rfl (lv_at hl 2 rfl) ?_
      refine lv_aload_n hx hb dX8_supposeLaw_27 rfl (lv_at hl 0 rfl) ?_
      refine gf_X8_1 C hP wk_1_176 dX8_supposeLaw_28 ?_
      refine gf_X1_6 C hP wk_1_67 dX8_supposeLaw_31 ?_
      refine lv_icmp_ge (tgt := 48) hx hb dX8_supposeLaw_34 (by decide) (fun hc => ?_) (fun hc => ?_)
      · have hf := jif_t hc hf
        refine lv_aload_n hx hb dX8_supposeLaw_48 rfl (lv_at hl 0 rfl) ?_
        refine gf_X8_2 C hP wk_1_177 dX8_supposeLaw_49 ?_
        refine lv_iload_n hx hb dX8_supposeLaw_52 rfl (lv_at hl 1 rfl) ?_
        refine pf_X6_3 C hP hS wk_1_150 dX8_supposeLaw_53 hf (fun H locs s1 hf hP hS => ?_)
        exact ret_v C hP hS (Option.some.inj hf) dX8_supposeLaw_56
      · have hf := jif_f hc hf
        refine lv_aload_n hx hb dX8_supposeLaw_37 rfl (lv_at hl 0 rfl) ?_
        refine lv_iload_n hx hb dX8_supposeLaw_38 rfl (lv_at hl 2 rfl) ?_
        obtain ⟨s3, hc, hf⟩ := jb_e hf
        refine r_cv (r_runV (As := [.int v3]) (rest := []) C hP hS (va_recv C.hK hP (q0 := 5) (ci := 8) rfl (by rw [g_at oX_8.1, oX_8.2])) (k_X8_addFound (l := l) O hc) mw_X8_addFound mi_X8_addFound mv_X8_addFound wk_4_3 ⟨Nat.le_of_ble_eq_true rfl, Nat.le_of_ble_eq_true rfl⟩ ⟨rfl, rfl⟩ ⟨Nat.zero_le _, Nat.zero_le _⟩ rfl hl.1 rfl (Nat.le_of_ble_eq_true rfl) dX8_supposeLaw_39) hS (fun H locs hP hS => ?_)
        obtain ⟨y4, ey4, hf⟩ := jlet_e hf
        refine lv_iinc (v := y4) (lv' := [(3, .int y4), (0, .ref (a 5)), (2, .int v2)]) hx hb dX8_supposeLaw_42 hl (k := 2) rfl ey4 (by decide) rfl (fun ls hl => ?_)
        refine lv_goto (tgt := 26) hx hb dX8_supposeLaw_45 (by decide) ?_
        exact ih v2 y4 s3 H locs ls hf hP hS (lv_sub hl [1, 2, 0] rfl)
  refine lv_aload_n hx hb dX8_supposeLaw_0 rfl (lv_at hl 0 rfl) ?_
  refine gf_X8_2 C hP wk_1_177 dX8_supposeLaw_1 ?_
  refine gf_X6_3 C hP wk_1_150 dX8_supposeLaw_4 ?_
  refine jl_topi hf (fun y1 hf => ?_)
  refine lv_istore_n (lv' := [(2, .int y1), (0, .ref (a 5)), (1, .int x1)]) hx hb dX8_supposeLaw_7 rfl hl (by decide) rfl (fun ls hl => ?_)
  refine lv_aload_n hx hb dX8_supposeLaw_8 rfl (lv_at hl 1 rfl) ?_
  refine gf_X8_2 C hP wk_1_177 dX8_supposeLaw_9 ?_
  refine lv_iload_n hx hb dX8_supposeLaw_12 rfl (lv_at hl 2 rfl) ?_
  refine pf_X6_3 C hP hS wk_1_150 dX8_supposeLaw_13 hf (fun H locs s2 hf hP hS => ?_)
  refine lv_aload_n hx hb dX8_supposeLaw_16 rfl (lv_at hl 1 rfl) ?_
  refine gf_X8_5 C hP wk_1_182 dX8_supposeLaw_17 ?_
  refine lv_lconst (v := (0 : Int64)) hx hb dX8_supposeLaw_20 (by decide) ?_
  obtain ⟨s4, hc, hf⟩ := jb_e hf
  refine r_cv (r_runS (As := [.ref (a 41), .long (0 : Int64)]) (rest := []) C hP hS (k_J7_fill_d0a16 (l := l) O hc) mw_J7_fill_d0a16 ms_J7_fill_d0a16 wk_3_139 ⟨Nat.le_of_ble_eq_true rfl, Nat.le_of_ble_eq_true rfl⟩ ⟨rfl, rfl⟩ ⟨Nat.zero_le _, Nat.zero_le _⟩ rfl hl.1 rfl (Nat.le_of_ble_eq_true rfl) dX8_supposeLaw_21) hS (fun H locs hP hS => ?_)
  refine lv_iconst (v := (0 : Int32)) hx hb dX8_supposeLaw_24 (by decide) ?_
  refine lv_istore_n (lv' := [(3, .int (0 : Int32)), (2, .int y1), (0, .ref (a 5)), (1, .int x1)]) hx hb dX8_supposeLaw_25 rfl hl (by decide) rfl (fun ls hl => ?_)
  exact hL26 FU y1 (0 : Int32) s4 H locs ls hf hP hS (lv_sub hl [2, 1, 0] rfl)
set_option maxHeartbeats 4000000 in
set_option maxRecDepth 100000 in
theorem k_X8_supposeLots {l : Launch} {a : Nat → Nat} {cy : Nat → ClassId} {D : va_G} {ad : Nat → Nat} {A : Nat → Prop} (O : WO NX a (EHX ad A) A) {x1 : Int32} {σ : ST} {σ' : ST} (hf : f_X8_supposeLots x1 σ = some σ') : Met l yX8_supposeLots (Cond.code yX8_supposeLots cX8_supposeLots 6 none :: WS) (rmk 5 138) (PC [.ref (a 5), .int x1] NX eX a cy D (EHX ad A) σ) (QV NX eX a cy D A σ') 0 0 A := by
  refine met_go (own := "GuardsLookLeft$Watch") O (by decide +kernel) rfl (Nat.le_of_ble_eq_true rfl) ?_
  intro p e s m args below meth c ls C hP hS hl
  have hx := C.hx
  have hb := C.hb
  have hl : lv_has ls 6 [(0, .ref (a 5)), (1, .int x1)] := hl
  obtain ⟨H, hH⟩ : ∃ H, H = s.heap := ⟨_, rfl⟩
  rw [← hH] at hP
  have hS : va_S A s.heap H [] := by rw [hH]; exact va_S.rf
  suffices g : W p l e (rmk 5 138) s m args below meth c H [] 0 0 (MQ below (QV NX eX a cy D A σ') args s 0 0 A) (F0 m 0 ls []) by rw [hH] at g; exact g
  clear hH
  obtain ⟨locs, hlocs⟩ : ∃ z : List Loc, z = [] := ⟨_, rfl⟩
  rw [← hlocs] at hS ⊢
  have hL16 : ∀ (n : Nat), (∀ (v2 : Int64) (v4 : Int32) (s0 : ST) (H : Heap) (locs : List Loc) (ls : Array Slot), f_X8_supposeLots_L16 n v2 v4 s0 = some σ' → va_P D vwCl (wG NX eX a cy s0) H → va_S A s.heap H locs → lv_has ls 6 [(0, .ref (a 5)), (2, .long v2), (4, .int v4)] → W p l e (rmk 5 138) s m args below meth c H locs 0 0 (MQ below (QV NX eX a cy D A σ') args s 0 0 A) (F0 m 16 ls [])) := by
    intro n
    induction n with
    | zero => intro v2 v4 s0 H locs ls hf hP hS hl; exact no_o hf
    | succ n ih =>
      intro v2 v4 s0 H locs ls hf hP hS hl
      have hf := (ef_X8_supposeLots_L16 _ _ _).symm.trans hf
      refine lv_iload hx hb dX8_supposeLots_16 (lv_at hl 2 rfl) ?_
      refine lv_aload_n hx hb dX8_supposeLots_18 rfl (lv_at hl 0 rfl) ?_
      refine gf_X8_1 C hP wk_1_176 dX8_supposeLots_19 ?_
      refine gf_X1_6 C hP wk_1_67 dX8_supposeLots_22 ?_
      refine lv_icmp_ge (tgt := 90) hx hb dX8_supposeLots_25 (by decide) (fun hc => ?_) (fun hc => ?_)
      · have hf := jif_t hc hf
        exact ret_v C hP hS (Option.some.inj hf) dX8_supposeLots_90
      · have hf := jif_f hc hf
        refine lv_lload_n hx hb dX8_supposeLots_28 rfl (lv_at hl 1 rfl) ?_
        refine lv_ldc2 hx hb C.hown (C.ts _ wk_4_84) dX8_supposeLots_29 ?_
        refine lv_lmul hx hb dX8_supposeLots_32 ?_
        refine lv_ldc2 hx hb C.hown (C.ts _ wk_4_85) dX8_supposeLots_33 ?_
        refine r_lrem C dX8_supposeLots_36 (by decide) ?_
        refine jl_topl hf (fun y1 hf => ?_)
        refine lv_lstore_n (lv' := [(2, .long y1), (0, .ref (a 5)), (4, .int v4)]) hx hb dX8_supposeLots_37 rfl hl (by decide) rfl (fun ls hl => ?_)
        refine lv_aload_n hx hb dX8_supposeLots_38 rfl (lv_at hl 1 rfl) ?_
        refine gf_X8_1 C hP wk_1_176 dX8_supposeLots_39 ?_
        refine gf_X1_5 C hP wk_1_63 dX8_supposeLots_42 ?_
        refine lv_iload hx hb dX8_supposeLots_45 (lv_at hl 2 rfl) ?_
        obtain ⟨hi2, hf⟩ := jix_e hf
        refine r_iald C hP aX_20 hi2 dX8_supposeLots_47 ?_
        refine jl_topi hf (fun y3 hf => ?_)
        refine lv_istore (lv' := [(5, .int y3), (2, .long y1), (0, .ref (a 5)), (4, .int v4)]) hx hb dX8_supposeLots_48 hl (by decide) rfl (fun ls hl => ?_)
        refine lv_aload_n hx hb dX8_supposeLots_50 rfl (lv_at hl 2 rfl) ?_
        refine gf_X8_1 C hP wk_1_176 dX8_supposeLots_51 ?_
        refine gf_X1_5 C hP wk_1_63 dX8_supposeLots_54 ?_
        refine lv_iload hx hb dX8_supposeLots_57 (lv_at hl 3 rfl) ?_
        refine lv_lload_n hx hb dX8_supposeLots_59 rfl (lv_at hl 1 rfl) ?_
        refine lv_ldc2 hx hb C.hown (C.ts _ wk_4_86) dX8_supposeLots_60 ?_
        refine r_lrem C dX8_supposeLots_63 (by decide) ?_
        refine lv_l2i hx hb dX8_supposeLots_64 rfl ?_
        obtain ⟨hi4, hf⟩ := jix_e hf
        refine r_iast C hP hS aX_20 hi4 dX8_supposeLots_65 hf (fun H locs s5 hf hP hS => ?_)
        refine lv_aload_n hx hb dX8_supposeLots_66 rfl (lv_at hl 2 rfl) ?_
        refine lv_iload hx hb dX8_supposeLots_67 (lv_at hl 3 rfl) ?_
        obtain ⟨s7, hc, hf⟩ := jb_e hf
        refine r_cv (r_runV (As := [.int v4]) (rest := []) C hP hS (va_recv C.hK hP (q0 := 5) (ci := 8) rfl (by rw [g_at oX_8.1, oX_8.2])) (k_X8_addFound (l := l) O hc) mw_X8_addFound mi_X8_addFound mv_X8_addFound wk_4_3 ⟨Nat.le_of_ble_eq_true rfl, Nat.le_of_ble_eq_true rfl⟩ ⟨rfl, rfl⟩ ⟨Nat.zero_le _, Nat.zero_le _⟩ rfl hl.1 rfl (Nat.le_of_ble_eq_true rfl) dX8_supposeLots_69) hS (fun H locs hP hS => ?_)
        refine lv_aload_n hx hb dX8_supposeLots_72 rfl (lv_at hl 2 rfl) ?_
        refine gf_X8_1 C hP wk_1_176 dX8_supposeLots_73 ?_
        refine gf_X1_5 C hP wk_1_63 dX8_supposeLots_76 ?_
        refine lv_iload hx hb dX8_supposeLots_79 (lv_at hl 3 rfl) ?_
        refine lv_iload hx hb dX8_supposeLots_81 (lv_at hl 0 rfl) ?_
        obtain ⟨hi8, hf⟩ := jix_e hf
        refine r_iast C hP hS aX_20 hi8 dX8_supposeLots_83 hf (fun H locs s9 hf hP hS => ?_)
        obtain ⟨y10, ey10, hf⟩ := jlet_e hf
        refine lv_iinc (v := y10) (lv' := [(4, .int y10), (5, .int y3), (2, .long y1), (0, .ref (a 5))]) hx hb dX8_supposeLots_84 hl (k := 3) rfl ey10 (by decide) rfl (fun ls hl => ?_)
        refine lv_goto (tgt := 16) hx hb dX8_supposeLots_87 (by decide) ?_
        exact ih y1 y10 s9 H locs ls hf hP hS (lv_sub hl [3, 2, 0] rfl)
  refine lv_aload_n hx hb dX8_supposeLots_0 rfl (lv_at hl 0 rfl) ?_
  refine gf_X8_5 C hP wk_1_182 dX8_supposeLots_1 ?_
  refine lv_lconst (v := (0 : Int64)) hx hb dX8_supposeLots_4 (by decide) ?_
  obtain ⟨s2, hc, hf⟩ := jb_e hf
  refine r_cv (r_runS (As := [.ref (a 41), .long (0 : Int64)]) (rest := []) C hP hS (k_J7_fill_d0a16 (l := l) O hc) mw_J7_fill_d0a16 ms_J7_fill_d0a16 wk_3_139 ⟨Nat.le_of_ble_eq_true rfl, Nat.le_of_ble_eq_true rfl⟩ ⟨rfl, rfl⟩ ⟨Nat.zero_le _, Nat.zero_le _⟩ rfl hl.1 rfl (Nat.le_of_ble_eq_true rfl) dX8_supposeLots_5) hS (fun H locs hP hS => ?_)
  refine lv_iload_n hx hb dX8_supposeLots_8 rfl (lv_at hl 1 rfl) ?_
  refine lv_i2l hx hb dX8_supposeLots_9 rfl ?_
  refine lv_lconst (v := (1 : Int64)) hx hb dX8_supposeLots_10 (by decide) ?_
  refine lv_ladd hx hb dX8_supposeLots_11 ?_
  refine jl_topl hf (fun y3 hf => ?_)
  refine lv_lstore_n (lv' := [(2, .long y3), (0, .ref (a 5)), (1, .int x1)]) hx hb dX8_supposeLots_12 rfl hl (by decide) rfl (fun ls hl => ?_)
  refine lv_iconst (v := (0 : Int32)) hx hb dX8_supposeLots_13 (by decide) ?_
  refine lv_istore (lv' := [(4, .int (0 : Int32)), (2, .long y3), (0, .ref (a 5)), (1, .int x1)]) hx hb dX8_supposeLots_14 hl (by decide) rfl (fun ls hl => ?_)
  exact hL16 FU y3 (0 : Int32) s2 H locs ls hf hP hS (lv_sub hl [2, 1, 0] rfl)
