/-! THE CLAIM OUT OF ONE WALK OF THE LAW'S BODY. Your part is whole_start (and what it stands on); all else here is the same for every law, but numbers. -/
def R_law : String := "GuardsLookLeftLaw"
def lw_P (b : Addr) (xs : List Int32) (args : Array Value) (s : State) : Prop := args = #[.ref b] ∧ s.IntsAt b xs ∧ xs.length ≤ 3584 ∧ (Jvm.Cond.and given_1 narrow_1).before args s = true
def lw_Q (_ : Array Value) (s : State) (o : Outcome) (t : State) : Prop := o = .returned (some (.int 1)) ∧ Framed s o t [] 600000 7302249
def lw_Z (below : List Frame) (a : Array Value) (s : State) : State → Prop := fun t => ∃ o, t.status = .running ∧ Ended t below o ∧ lw_Q a s o t
/-- the law's own end, with 1 on the stack, nothing written that was there before, its room as the claim has it -/
theorem lw_ret {p : Program} {l : Launch} {e : Env} {s : State} {m : MethodId} {below : List Frame} {meth : Method} {c : Code} {b : Nat} (hx : p.tables.exec = Jvm.exec) (hb : c.code = code) (hr : meth.sig.returnType = ret) (hlocks : meth.locks = false) {pc : Nat} {H : Heap} {ls : Array Slot} (hdg : decode code pc = .ok (.ireturn, 1)) : W p l e room_1 s m #[Value.ref b] below meth c H [] 600000 7302249 (lw_Z below #[Value.ref b] s) (F0 m pc ls [.int 1]) := by
  intro T hT X
  obtain ⟨fs, hret, hrun, hended, hW, hframe⟩ := X.leave (v := some (.int 1)) (hlocks := hlocks) (fun h => by rw [hr] at h; cases h)
  have hmeth' : T.vm.method? m = some meth := X.method'
  refine ⟨T.setFrames fs, ?_, .returned (some (.int 1)), hrun, hended, rfl, ⟨_, rfl⟩, hW, hframe⟩
  jvm_step X.here [X.here.top, hx, hb, hdg, hmeth', hr, ret, narrow_b1]
  (try refine ⟨rfl, ?_⟩); (try refine ⟨rfl, ?_⟩)
  first | (intro acts; rw [hret _ acts rfl rfl rfl]) | rw [hret _ _ rfl rfl rfl]
  exact Steps.refl _
/-- what holds at the law's entry: the machine, the code, the tables' words (any of lw_tbl by 'hts w (by decide +kernel)'), the script of L ints xs at the cell b, what the Statement gives of the start (any of its parts by flat_of_before) -/
def lw_At (p : Program) (s : State) (m : MethodId) (meth : Method) (c : Code) (b L : Nat) (xs : Nat → Int32) : Prop :=
  p.tables.exec = Jvm.exec ∧ c.code = code ∧ meth.sig.returnType = ret ∧ c.maxLocals = 4 ∧ s.vm.findClass R_law = some m.cls ∧ (∀ w ∈ lw_tbl, w.before #[Value.ref b] s = true) ∧ va_X b L xs s s.heap ∧ b < s.heap.size ∧ meth.locks = false ∧ (Jvm.Cond.and given_1 narrow_1).before #[Value.ref b] s = true
/-! ===== what the two must answer alike: one row a call of the law ===== -/
def OP_lay (Rl : ST → ST → Prop) : Prop := ∀ (σx σm : ST) (x1 : Int32) (x2 : Int64), Rl σx σm → ∃ (r : Int64) (σx' : ST) (σm' : ST), f_X9_lay x1 x2 σx = some (r, σx') ∧ f_X10_lay x1 x2 σm = some (r, σm') ∧ Rl σx' σm'
def OP_laid (Rl : ST → ST → Prop) : Prop := ∀ (σx σm : ST) (x1 : Int32), Rl σx σm → ∃ (r : Int64), f_X9_laid x1 σx = some r ∧ f_X10_laid x1 σm = some r ∧ Rl σx σm
def OP_put (Rl : ST → ST → Prop) : Prop := ∀ (σx σm : ST) (x1 : Int32) (x2 : Int32) (x3 : Int32), Rl σx σm → ∃ (r : Int32) (σx' : ST) (σm' : ST), f_X9_put x1 x2 x3 σx = some (r, σx') ∧ f_X10_put x1 x2 x3 σm = some (r, σm') ∧ Rl σx' σm'
def OP_count (Rl : ST → ST → Prop) : Prop := ∀ (σx σm : ST) (x1 : Int32), Rl σx σm → ∃ (r : Int32), f_X9_count x1 σx = r ∧ f_X10_count x1 σm = some r ∧ Rl σx σm
def OP_feed (Rl : ST → ST → Prop) : Prop := ∀ (σx σm : ST) (x1 : Int32) (x2 : Int32) (x3 : Int32) (x4 : Int32) (x5 : Int32) (x6 : Int32), Rl σx σm → ∃ (r : Int32) (σx' : ST) (σm' : ST), f_X9_feed x1 x2 x3 x4 x5 x6 σx = some (r, σx') ∧ f_X10_feed x1 x2 x3 x4 x5 x6 σm = some (r, σm') ∧ Rl σx' σm'
def OP_text (Rl : ST → ST → Prop) : Prop := ∀ (σx σm : ST) , Rl σx σm → ∃ (r : Int32) (σx' : ST) (σm' : ST), f_X9_text σx = some (r, σx') ∧ f_X10_text σm = some (r, σm') ∧ Rl σx' σm'
def OP_force (Rl : ST → ST → Prop) : Prop := ∀ (σx σm : ST) (x1 : Int32), Rl σx σm → ∃ (r : Int32) (σx' : ST) (σm' : ST), f_X9_force x1 σx = (r, σx') ∧ f_X10_force x1 σm = (r, σm') ∧ Rl σx' σm'
def OP_asks (Rl : ST → ST → Prop) : Prop := ∀ (σx σm : ST) (x1 : Int32) (x2 : Int32) (x3 : Int32) (x4 : Int32) (x5 : Int32), Rl σx σm → ∃ (r : Int32) (σx' : ST) (σm' : ST), f_X9_asks x1 x2 x3 x4 x5 σx = some (r, σx') ∧ f_X10_asks x1 x2 x3 x4 x5 σm = some (r, σm') ∧ Rl σx' σm'
def OP_guard (Rl : ST → ST → Prop) : Prop := ∀ (σx σm : ST) (x1 : Int32) (x2 : Int32) (x3 : Int32) (x4 : Int32), Rl σx σm → ∃ (r : Int32) (σx' : ST) (σm' : ST), f_X9_guard x1 x2 x3 x4 σx = some (r, σx') ∧ f_X10_guard x1 x2 x3 x4 σm = some (r, σm') ∧ Rl σx' σm'
def OP_set (Rl : ST → ST → Prop) : Prop := ∀ (σx σm : ST) (x1 : Int32) (x2 : Int32) (x3 : Int32), Rl σx σm → ∃ (r : Int32) (σx' : ST) (σm' : ST), f_X9_set x1 x2 x3 σx = some (r, σx') ∧ f_X10_set x1 x2 x3 σm = some (r, σm') ∧ Rl σx' σm'
def OP_guardTold (Rl : ST → ST → Prop) : Prop := ∀ (σx σm : ST) (x1 : Int32) (x2 : Int32), Rl σx σm → ∃ (r : Int32), f_X9_guardTold x1 x2 σx = some r ∧ f_X10_guardTold x1 x2 σm = some r ∧ Rl σx σm
def OP_at (Rl : ST → ST → Prop) : Prop := ∀ (σx σm : ST) (x1 : Int32) (x2 : Int32) (x3 : Int32), Rl σx σm → ∃ (r : Int32) (σx' : ST), f_X9_at x1 x2 x3 σx = some (r, σx') ∧ f_X10_at x1 x2 x3 σm = some r ∧ Rl σx' σm
def OP_sees (Rl : ST → ST → Prop) : Prop := ∀ (σx σm : ST) (x1 : Int32) (x2 : Int32), Rl σx σm → ∃ (r : Int64) (σx' : ST) (σm' : ST), f_X9_sees x1 x2 σx = some (r, σx') ∧ f_X10_sees x1 x2 σm = some (r, σm') ∧ Rl σx' σm'
def OP_watched (Rl : ST → ST → Prop) : Prop := ∀ (σx σm : ST) (x1 : Int32), Rl σx σm → ∃ (r : Int64) (σx' : ST) (σm' : ST), f_X9_watched x1 σx = some (r, σx') ∧ f_X10_watched x1 σm = some (r, σm') ∧ Rl σx' σm'
def OP_alone (Rl : ST → ST → Prop) : Prop := ∀ (σx σm : ST) (x1 : Int32), Rl σx σm → ∃ (r : Int32) (σx' : ST) (σm' : ST), f_X9_alone x1 σx = some (r, σx') ∧ f_X10_alone x1 σm = some (r, σm') ∧ Rl σx' σm'
def OP_unseen (Rl : ST → ST → Prop) : Prop := ∀ (σx σm : ST) (x1 : Int32), Rl σx σm → ∃ (r : Int32) (σx' : ST) (σm' : ST), f_X9_unseen x1 σx = some (r, σx') ∧ f_X10_unseen x1 σm = some (r, σm') ∧ Rl σx' σm'
def OP_worst (Rl : ST → ST → Prop) : Prop := ∀ (σx σm : ST) (x1 : Int32), Rl σx σm → ∃ (r : Int32) (σx' : ST) (σm' : ST), f_X9_worst x1 σx = some (r, σx') ∧ f_X10_worst x1 σm = some (r, σm') ∧ Rl σx' σm'
def OP_soon (Rl : ST → ST → Prop) : Prop := ∀ (σx σm : ST) (x1 : Int32) (x2 : Int32) (x3 : Int32), Rl σx σm → ∃ (r : Int32) (σx' : ST) (σm' : ST), f_X9_soon x1 x2 x3 σx = some (r, σx') ∧ f_X10_soon x1 x2 x3 σm = some (r, σm') ∧ Rl σx' σm'
def OP_path (Rl : ST → ST → Prop) : Prop := ∀ (σx σm : ST) (x1 : Int32) (x2 : Int32) (x3 : Int32) (x4 : Int32), Rl σx σm → ∃ (r : Int32) (σx' : ST) (σm' : ST), f_X9_path x1 x2 x3 x4 σx = some (r, σx') ∧ f_X10_path x1 x2 x3 x4 σm = some (r, σm') ∧ Rl σx' σm'
def OP_hides (Rl : ST → ST → Prop) : Prop := ∀ (σx σm : ST) (x1 : Int32) (x2 : Int32) (x3 : Int32), Rl σx σm → ∃ (r : Int64) (σx' : ST) (σm' : ST), f_X9_hides x1 x2 x3 σx = some (r, σx') ∧ f_X10_hides x1 x2 x3 σm = some (r, σm') ∧ Rl σx' σm'
def OP_when (Rl : ST → ST → Prop) : Prop := ∀ (σx σm : ST) (x1 : Int32) (x2 : Int32), Rl σx σm → ∃ (r : Int32) (σx' : ST) (σm' : ST), f_X9_when x1 x2 σx = some (r, σx') ∧ f_X10_when x1 x2 σm = some (r, σm') ∧ Rl σx' σm'
def OP_more (Rl : ST → ST → Prop) : Prop := ∀ (σx σm : ST) (x1 : Int32) (x2 : Int32) (x3 : Int32), Rl σx σm → ∃ (r : Int32) (σx' : ST) (σm' : ST), f_X9_more x1 x2 x3 σx = some (r, σx') ∧ f_X10_more x1 x2 x3 σm = some (r, σm') ∧ Rl σx' σm'
def OP_shift (Rl : ST → ST → Prop) : Prop := ∀ (σx σm : ST) (x1 : Int32) (x2 : Int32), Rl σx σm → ∃ (r : Int32) (σx' : ST) (σm' : ST), f_X9_shift x1 x2 σx = some (r, σx') ∧ f_X10_shift x1 x2 σm = some (r, σm') ∧ Rl σx' σm'
def OP_holds (Rl : ST → ST → Prop) : Prop := ∀ (σx σm : ST) (x1 : Int64) (x2 : Int32), Rl σx σm → ∃ (r : Int32) (σx' : ST) (σm' : ST), f_X9_holds x1 x2 σx = some (r, σx') ∧ f_X10_holds_ x1 x2 σm = some (r, σm') ∧ Rl σx' σm'
def OP_bribes (Rl : ST → ST → Prop) : Prop := ∀ (σx σm : ST) (x1 : Int64) (x2 : Int32), Rl σx σm → ∃ (r : Int32) (σx' : ST) (σm' : ST), f_X9_bribes x1 x2 σx = some (r, σx') ∧ f_X10_bribes x1 x2 σm = some (r, σm') ∧ Rl σx' σm'
def OP_fewest (Rl : ST → ST → Prop) : Prop := ∀ (σx σm : ST) (x1 : Int64) (x2 : Int32) (x3 : Int32), Rl σx σm → ∃ (r : Int32) (σx' : ST) (σm' : ST), f_X9_fewest x1 x2 x3 σx = some (r, σx') ∧ f_X10_fewest x1 x2 x3 σm = some (r, σm') ∧ Rl σx' σm'
def OP_judge (Rl : ST → ST → Prop) : Prop := ∀ (σx σm : ST) (x1 : Int32) (x2 : Int32), Rl σx σm → ∃ (r : Int32) (σx' : ST) (σm' : ST), f_X9_judge x1 x2 σx = some (r, σx') ∧ f_X10_judge x1 x2 σm = some (r, σm') ∧ Rl σx' σm'
def OP_which (Rl : ST → ST → Prop) : Prop := ∀ (σx σm : ST) (x1 : Int32), Rl σx σm → ∃ (r : Int64) (σx' : ST) (σm' : ST), f_X9_which x1 σx = some (r, σx') ∧ f_X10_which x1 σm = some (r, σm') ∧ Rl σx' σm'
def OP_laws (Rl : ST → ST → Prop) : Prop := ∀ (σx σm : ST) (x1 : Int32) (x2 : Int32), Rl σx σm → ∃ (r : Int32) (σx' : ST) (σm' : ST), f_X9_laws x1 x2 σx = some (r, σx') ∧ f_X10_laws x1 x2 σm = some (r, σm') ∧ Rl σx' σm'
def OP_gone (Rl : ST → ST → Prop) : Prop := ∀ (σx σm : ST) (x1 : Int32) (x2 : Int32), Rl σx σm → ∃ (r : Int32) (σx' : ST) (σm' : ST), f_X9_gone x1 x2 σx = some (r, σx') ∧ f_X10_gone x1 x2 σm = some (r, σm') ∧ Rl σx' σm'
def OP_film (Rl : ST → ST → Prop) : Prop := ∀ (σx σm : ST) (x1 : Int32) (x2 : Int32), Rl σx σm → ∃ (r : Int32) (σx' : ST) (σm' : ST), f_X9_film x1 x2 σx = some (r, σx') ∧ f_X10_film x1 x2 σm = some (r, σm') ∧ Rl σx' σm'
def OP_drawn (Rl : ST → ST → Prop) : Prop := ∀ (σx σm : ST) (x1 : Int32), Rl σx σm → ∃ (r : Int32) (σx' : ST) (σm' : ST), f_X9_drawn x1 σx = some (r, σx') ∧ f_X10_drawn x1 σm = some (r, σm') ∧ Rl σx' σm'
def OP_mean (Rl : ST → ST → Prop) : Prop := ∀ (σx σm : ST) (x1 : Int32) (x2 : Int32) (x3 : Int32), Rl σx σm → ∃ (r : Int64) (σx' : ST) (σm' : ST), f_X9_mean x1 x2 x3 σx = some (r, σx') ∧ f_X10_mean x1 x2 x3 σm = some (r, σm') ∧ Rl σx' σm'
def OP_image (Rl : ST → ST → Prop) : Prop := ∀ (σx σm : ST) , Rl σx σm → ∃ (r : Int32) (σx' : ST) (σm' : ST), f_X9_image σx = (r, σx') ∧ f_X10_image σm = some (r, σm') ∧ Rl σx' σm'
def OP_back (Rl : ST → ST → Prop) : Prop := ∀ (σx σm : ST) , Rl σx σm → ∃ (r : Int32) (σx' : ST) (σm' : ST), f_X9_back σx = (r, σx') ∧ f_X10_back σm = some (r, σm') ∧ Rl σx' σm'
def OP_sheet (Rl : ST → ST → Prop) : Prop := ∀ (σx σm : ST) (x1 : Int32) (x2 : Int32) (x3 : Int32), Rl σx σm → ∃ (r : Int32) (σx' : ST) (σm' : ST), f_X9_sheet x1 x2 x3 σx = some (r, σx') ∧ f_X10_sheet x1 x2 x3 σm = some (r, σm') ∧ Rl σx' σm'
def OP_cell (Rl : ST → ST → Prop) : Prop := ∀ (σx σm : ST) (x1 : Int32) (x2 : Int32) (x3 : Int32), Rl σx σm → ∃ (r : Int32) (σx' : ST) (σm' : ST), f_X9_cell x1 x2 x3 σx = some (r, σx') ∧ f_X10_cell x1 x2 x3 σm = some (r, σm') ∧ Rl σx' σm'
def OP_copy (Rl : ST → ST → Prop) : Prop := ∀ (σx σm : ST) (x1 : Int32) (x2 : Int32) (x3 : Int32) (x4 : Int32) (x5 : Int32), Rl σx σm → ∃ (r : Int32) (σx' : ST) (σm' : ST), f_X9_copy x1 x2 x3 x4 x5 σx = some (r, σx') ∧ f_X10_copy x1 x2 x3 x4 x5 σm = some (r, σm') ∧ Rl σx' σm'
def OP_guardsBy (Rl : ST → ST → Prop) : Prop := ∀ (σx σm : ST) (x1 : Int32) (x2 : Int32) (x3 : Int32) (x4 : Int32), Rl σx σm → ∃ (r : Int32) (σx' : ST) (σm' : ST), f_X9_guardsBy x1 x2 x3 x4 σx = some (r, σx') ∧ f_X10_guardsBy x1 x2 x3 x4 σm = some (r, σm') ∧ Rl σx' σm'
def OP_taken (Rl : ST → ST → Prop) : Prop := ∀ (σx σm : ST) (x1 : Int32) (x2 : Int32), Rl σx σm → ∃ (r : Int32), f_X9_taken x1 x2 σx = some r ∧ f_X10_taken x1 x2 σm = some r ∧ Rl σx σm
def OPS (Rl : ST → ST → Prop) : Prop := OP_lay Rl ∧ OP_laid Rl ∧ OP_put Rl ∧ OP_count Rl ∧ OP_feed Rl ∧ OP_text Rl ∧ OP_force Rl ∧ OP_asks Rl ∧ OP_guard Rl ∧ OP_set Rl ∧ OP_guardTold Rl ∧ OP_at Rl ∧ OP_sees Rl ∧ OP_watched Rl ∧ OP_alone Rl ∧ OP_unseen Rl ∧ OP_worst Rl ∧ OP_soon Rl ∧ OP_path Rl ∧ OP_hides Rl ∧ OP_when Rl ∧ OP_more Rl ∧ OP_shift Rl ∧ OP_holds Rl ∧ OP_bribes Rl ∧ OP_fewest Rl ∧ OP_judge Rl ∧ OP_which Rl ∧ OP_laws Rl ∧ OP_gone Rl ∧ OP_film Rl ∧ OP_drawn Rl ∧ OP_mean Rl ∧ OP_image Rl ∧ OP_back Rl ∧ OP_sheet Rl ∧ OP_cell Rl ∧ OP_copy Rl ∧ OP_guardsBy Rl ∧ OP_taken Rl
/-! ===== the law's surroundings ===== -/
def AxP (N : Nat) (a : Nat → Nat) : Nat → Prop := fun q => ∃ k, k < N ∧ q = a k
theorem EHX_narrow {ad : Nat → Nat} {A B : Nat → Prop} {U : State} (h : EHX ad A U) (hAB : ∀ q, B q → A q) : EHX ad B U := by
  obtain ⟨h1, h2, h3, ⟨h4, h5⟩, ⟨h6, h7⟩, ⟨h8, h9⟩, h10, h11⟩ := h
  exact ⟨h1, h2.narrow hAB, h3, ⟨h4.narrow hAB, h5.narrow hAB⟩, ⟨h6.narrow hAB, h7.narrow hAB⟩, ⟨h8.narrow hAB, h9.narrow hAB⟩, h10.narrow hAB, h11.narrow hAB⟩
def LCx (p : Program) (s : State) (m : MethodId) (meth : Method) (c : Code) (b L : Nat) (xs : Nat → Int32) (a b2 ad : Nat → Nat) (cy : Nat → ClassId) (D : va_G) : Prop :=
  lw_At p s m meth c b L xs ∧ L ≤ 3584 ∧ va_K D vwCl (tysG cy) s ∧ EHX ad (fun q : Nat => s.heap.size ≤ q) s ∧ ((∀ i j : Nat, i < NX → j < NX → a i = a j → i = j) ∧ ∀ i : Nat, i < NX → s.heap.size ≤ a i) ∧ ((∀ i j : Nat, i < NM → j < NM → b2 i = b2 j → i = j) ∧ ∀ i : Nat, i < NM → s.heap.size ≤ b2 i) ∧ ∀ i j : Nat, i < NX → j < NM → a i ≠ b2 j
section LW
variable {p : Program} {l : Launch} {e : Env} {s : State} {m : MethodId} {below : List Frame} {meth : Method} {c : Code} {H : Heap} {locs : List Loc} {cells slots : Nat} {Q : State → Prop}
variable {b L : Nat} {xs : Nat → Int32} {a b2 ad : Nat → Nat} {cy : Nat → ClassId} {D : va_G} {pc i : Nat} {ls : Array Slot} {rest st0 : List Value} {σx σm : ST}
theorem LCx.hx (LC : LCx p s m meth c b L xs a b2 ad cy D) : p.tables.exec = Jvm.exec := LC.1.1
theorem LCx.hb (LC : LCx p s m meth c b L xs a b2 ad cy D) : c.code = code := LC.1.2.1
theorem LCx.ts (LC : LCx p s m meth c b L xs a b2 ad cy D) : ∀ w ∈ WS, w.before #[Value.ref b] s = true := fun w hw => LC.1.2.2.2.2.2.1 w (List.mem_filter.mp hw).1
theorem LCx.hown (LC : LCx p s m meth c b L xs a b2 ad cy D) : s.vm.findClass "GuardsLookLeftLaw" = some m.cls := LC.1.2.2.2.2.1
theorem LCx.hml (LC : LCx p s m meth c b L xs a b2 ad cy D) : c.maxLocals = 4 := LC.1.2.2.2.1
theorem LCx.hX (LC : LCx p s m meth c b L xs a b2 ad cy D) : va_X b L xs s s.heap := LC.1.2.2.2.2.2.2.1
theorem LCx.hbl (LC : LCx p s m meth c b L xs a b2 ad cy D) : b < s.heap.size := LC.1.2.2.2.2.2.2.2.1
theorem LCx.hbA (LC : LCx p s m meth c b L xs a b2 ad cy D) : ¬ (fun q : Nat => s.heap.size ≤ q) b := Nat.not_le.mpr LC.hbl
theorem LCx.hL (LC : LCx p s m meth c b L xs a b2 ad cy D) : L ≤ 3584 := LC.2.1
theorem LCx.hK (LC : LCx p s m meth c b L xs a b2 ad cy D) : va_K D vwCl (tysG cy) s := LC.2.2.1
theorem LCx.OX (LC : LCx p s m meth c b L xs a b2 ad cy D) : WO NX a (EHX ad (AxP NX a)) (AxP NX a) :=
  ⟨LC.2.2.2.2.1.1, fun i hi => ⟨i, hi, rfl⟩, fun s U H locs hv hs hU hW => EHX_use hv hs hU hW, fun U g mk x hv => EHX_call hv⟩
theorem LCx.OM (LC : LCx p s m meth c b L xs a b2 ad cy D) : WO NM b2 (fun _ => True) (AxP NM b2) :=
  ⟨LC.2.2.2.2.2.1.1, fun i hi => ⟨i, hi, rfl⟩, fun _ _ _ _ _ _ _ _ => trivial, fun _ _ _ _ _ => trivial⟩
theorem LCx.AX (LC : LCx p s m meth c b L xs a b2 ad cy D) : ∀ q, AxP NX a q → s.heap.size ≤ q := fun q ⟨k, hk, e⟩ => by rw [e]; exact LC.2.2.2.2.1.2 k hk
theorem LCx.AM (LC : LCx p s m meth c b L xs a b2 ad cy D) : ∀ q, AxP NM b2 q → s.heap.size ≤ q := fun q ⟨k, hk, e⟩ => by rw [e]; exact LC.2.2.2.2.2.1.2 k hk
theorem LCx.VX (LC : LCx p s m meth c b L xs a b2 ad cy D) (hS : va_S (fun q : Nat => s.heap.size ≤ q) s.heap H locs) {U : State} (hU : U.heap = H) (hW : s.WarmedH U.vm) : EHX ad (AxP NX a) U :=
  EHX_narrow (EHX_use LC.2.2.2.1 hS hU hW) LC.AX
theorem keep_M (LC : LCx p s m meth c b L xs a b2 ad cy D) {H1 : Heap} (hPm : va_P D vwCl (wG NM eM b2 cy σm) H) (hk : ∀ q : Nat, q < H.size → ¬ AxP NX a q → H1[q]? = H[q]?) : va_P D vwCl (wG NM eM b2 cy σm) H1 :=
  hPm.kept (fun k q hq => by
    obtain ⟨h1, h2⟩ := g_get hq
    refine hk q.1 (hPm k q hq).lt (fun ⟨j, hj, e⟩ => ?_)
    exact LC.2.2.2.2.2.2 j k hj h1 (by rw [← e, h2]))
theorem keep_X (LC : LCx p s m meth c b L xs a b2 ad cy D) {H1 : Heap} (hPx : va_P D vwCl (wG NX eX a cy σx) H) (hk : ∀ q : Nat, q < H.size → ¬ AxP NM b2 q → H1[q]? = H[q]?) : va_P D vwCl (wG NX eX a cy σx) H1 :=
  hPx.kept (fun k q hq => by
    obtain ⟨h1, h2⟩ := g_get hq
    refine hk q.1 (hPx k q hq).lt (fun ⟨j, hj, e⟩ => ?_)
    exact LC.2.2.2.2.2.2 k j h1 hj (by rw [← e, h2]))
theorem lw_ldc (LC : LCx p s m meth c b L xs a b2 ad cy D) {j : Nat} {v : Int32} {n : Int} (hl : lv_has ls 4 [(0, .ref b), (1, .ref (a 0)), (2, .ref (b2 0)), (3, .int (nI i))]) (hS : va_S (fun q : Nat => s.heap.size ≤ q) s.heap H locs) (hj : i + j < L) (hv : Int32.ofInt n = nI j) (d1 : decode code pc = .ok (.aload_n 0, 1)) (d2 : decode code (pc + 1) = .ok (.iload_n 3, 1)) (d3 : decode code (pc + 1 + 1) = .ok (.iconst n, 1)) (d4 : decode code (pc + 1 + 1 + 1) = .ok (.iadd, 1)) (d5 : decode code (pc + 1 + 1 + 1 + 1) = .ok (.iaload, 1))
    (kk : W p l e room_1 s m #[Value.ref b] below meth c H locs cells slots Q (F0 m (pc + 1 + 1 + 1 + 1 + 1) ls (.int (xs (i + j)) :: rest))) : W p l e room_1 s m #[Value.ref b] below meth c H locs cells slots Q (F0 m pc ls rest) := by
  have hL := LC.hL
  refine lv_aload_n LC.hx LC.hb d1 rfl (lv_at hl 0 rfl) ?_
  refine lv_iload_n LC.hx LC.hb d2 rfl (lv_at hl 3 rfl) ?_
  refine lv_iconst (v := nI j) LC.hx LC.hb d3 hv ?_
  refine lv_iadd LC.hx LC.hb d4 ?_
  rw [nI_add]
  refine va_sld LC.hx LC.hb LC.hX LC.hbl LC.hbA hS (vp_in_nI hj (by omega)) d5 ?_
  rw [nI_clamp (by omega)]
  exact kk
theorem lw_ldb (LC : LCx p s m meth c b L xs a b2 ad cy D) {j : Nat} {v : Int32} {n : Int} (hl : lv_has ls 4 [(0, .ref b), (1, .ref (a 0)), (2, .ref (b2 0)), (3, .int (nI i))]) (hS : va_S (fun q : Nat => s.heap.size ≤ q) s.heap H locs) (hj : i + j < L) (hv : (Int8.ofInt n).toInt32 = nI j) (d1 : decode code pc = .ok (.aload_n 0, 1)) (d2 : decode code (pc + 1) = .ok (.iload_n 3, 1)) (d3 : decode code (pc + 1 + 1) = .ok (.bipush n, 2)) (d4 : decode code (pc + 1 + 1 + 2) = .ok (.iadd, 1)) (d5 : decode code (pc + 1 + 1 + 2 + 1) = .ok (.iaload, 1))
    (kk : W p l e room_1 s m #[Value.ref b] below meth c H locs cells slots Q (F0 m (pc + 1 + 1 + 2 + 1 + 1) ls (.int (xs (i + j)) :: rest))) : W p l e room_1 s m #[Value.ref b] below meth c H locs cells slots Q (F0 m pc ls rest) := by
  have hL := LC.hL
  refine lv_aload_n LC.hx LC.hb d1 rfl (lv_at hl 0 rfl) ?_
  refine lv_iload_n LC.hx LC.hb d2 rfl (lv_at hl 3 rfl) ?_
  refine lv_bipush (v := nI j) LC.hx LC.hb d3 hv ?_
  refine lv_iadd LC.hx LC.hb d4 ?_
  rw [nI_add]
  refine va_sld LC.hx LC.hb LC.hX LC.hbl LC.hbA hS (vp_in_nI hj (by omega)) d5 ?_
  rw [nI_clamp (by omega)]
  exact kk
theorem lw_sw (LC : LCx p s m meth c b L xs a b2 ad cy D) {y k : Int32} {off : Int} {tgt : Nat} (hk : y = k) (h1 : ¬ k.toInt < 0) (h2 : ¬ 39 < k.toInt) (ho : (#[175, 239, 263, 306, 329, 404, 417, 440, 503, 556, 599, 632, 675, 709, 733, 756, 779, 802, 845, 898, 942, 975, 1018, 1051, 1114, 1177, 1250, 1283, 1307, 1340, 1373, 1406, 1429, 1473, 1486, 1499, 1542, 1585, 1648, 1701] : Array Int)[(k.toInt - 0).toNat]? = some off) (ht : ((33 : Nat) : Int) + off = (tgt : Int)) (kk : W p l e room_1 s m #[Value.ref b] below meth c H locs cells slots Q (F0 m tgt ls rest)) : W p l e room_1 s m #[Value.ref b] below meth c H locs cells slots Q (F0 m 33 ls (.int y :: rest)) := by
  subst hk
  exact lv_tableIn LC.hx LC.hb dL_law_33 h1 h2 ho ht kk
section LC
variable {y : MethodName} {bytes : ByteArray} {maxL n index : Nat} {rt : Option FieldType} {rm2 : Room} {As : List Value} {Qc : Array Value → State → Outcome → State → Prop} {lv : List (Nat × Value)}
theorem lw_run {N : Nat} {E : SH} {a0 : Nat → Nat} {V : State → Prop} {A : Nat → Prop} {σ : ST} {ci : Nat} {q : vw_C} {fs : List Value} (LC : LCx p s m meth c b L xs a b2 ad cy D) (hP : va_P D vwCl (wG N E a0 cy σ) H) (O : WO N a0 V A) (hV : ∀ U : State, U.heap = H → s.WarmedH U.vm → V U) (hc : vwCl[ci]? = some q) (he : (wG N E a0 cy σ)[0]? = some (a0 0, .inr (ci, fs))) (hl : lv_has ls 4 lv) (hM : Met l y (Cond.code y bytes maxL rt :: WS) rm2 (PC (.ref (a0 0) :: As) N E a0 cy D V σ) Qc 0 0 A) (hw0 : MW0 y bytes maxL rt n) (hin : Cond.instanceMethod y ∈ WS) (hse : Cond.selects q.1 y y ∈ WS) (hlk : Cond.methodLink "GuardsLookLeftLaw" index y ∈ WS) (hR : rm2.frames + 1 ≤ room_1.frames ∧ 8 + (maxL + 11) + rm2.locals ≤ room_1.locals) (hrm : rm2.cells = 0 ∧ rm2.slots = 0) (hcs : cells ≤ room_1.cells ∧ slots ≤ room_1.slots) (hn : As.length = n) (hst0 : st0 = As.reverse ++ .ref (a0 0) :: rest) (hw : (rest.map fun v => v.category).sum ≤ 8) (hdg : decode code pc = .ok (.invokevirtual index, 3)) : va_Run p l e room_1 s m #[Value.ref b] below meth c H locs cells slots 0 0 (F0 m pc ls st0) rest (Qc (Value.ref (a0 0) :: As).toArray) A :=
  va_runV (Ts := WS) (own := "GuardsLookLeftLaw") (cc := code) (nL := 4) ⟨LC.hx, LC.hb, LC.hml, LC.hown, LC.ts⟩ hM ⟨callB_of n LC.ts (good_code hw0.1) rfl hrm.1 hrm.2 (LC.ts _ hw0.2.1) (LC.ts _ hlk) hw0.2.2 hR, LC.ts _ hin, LC.ts _ hse⟩ ⟨PC_blind O, va_recv LC.hK hP hc he, fun U hU hW => ⟨rfl, by rw [hU]; exact hP, va_K.moved hW.alike LC.hK, hV U hU hW⟩⟩ rfl hn hl.1 hst0 (lv_room hw) hdg hcs
theorem lw_xi {r : Int32} {σx' : ST} (LC : LCx p s m meth c b L xs a b2 ad cy D) (hPx : va_P D vwCl (wG NX eX a cy σx) H) (hPm : va_P D vwCl (wG NM eM b2 cy σm) H) (hS : va_S (fun q : Nat => s.heap.size ≤ q) s.heap H locs) (hl : lv_has ls 4 lv) (hM : Met l y (Cond.code y bytes maxL rt :: WS) rm2 (PC (.ref (a 0) :: As) NX eX a cy D (EHX ad (AxP NX a)) σx) (QI NX eX a cy D (AxP NX a) r σx') 0 0 (AxP NX a)) (hw0 : MW0 y bytes maxL rt n) (hin : Cond.instanceMethod y ∈ WS) (hse : Cond.selects "GuardsLookLeft" y y ∈ WS) (hlk : Cond.methodLink "GuardsLookLeftLaw" index y ∈ WS) (hR : rm2.frames + 1 ≤ room_1.frames ∧ 8 + (maxL + 11) + rm2.locals ≤ room_1.locals) (hrm : rm2.cells = 0 ∧ rm2.slots = 0) (hn : As.length = n) (hst0 : st0 = As.reverse ++ .ref (a 0) :: rest) (hw : (rest.map fun v => v.category).sum ≤ 8) (hdg : decode code pc = .ok (.invokevirtual index, 3)) (kk : ∀ (H1 : Heap) (locs1 : List Loc), va_P D vwCl (wG NX eX a cy σx') H1 → va_P D vwCl (wG NM eM b2 cy σm) H1 → va_S (fun q : Nat => s.heap.size ≤ q) s.heap H1 locs1 → W p l e room_1 s m #[Value.ref b] below meth c H1 locs1 83 4313 Q (F0 m (pc + 3) ls (.int r :: rest))) : W p l e room_1 s m #[Value.ref b] below meth c H locs 83 4313 Q (F0 m pc ls st0) :=
  va_calli (lw_run (rest := rest) LC hPx LC.OX (fun U hU hW => LC.VX hS hU hW) (ci := 9) rfl (by rw [g_at oX_9.1, oX_9.2]) hl hM hw0 hin hse hlk hR hrm ⟨Nat.le_of_ble_eq_true rfl, Nat.le_of_ble_eq_true rfl⟩ hn hst0 hw hdg) hS (fun q _ h => LC.AX q h) LC.AX (fun r' u t H1 locs1 ht _ hw hB _ hk hS1 => by
    cases hw
    exact kk H1 locs1 (by rw [← ht]; exact hB) (keep_M LC hPm hk) hS1)
theorem lw_xl {r : Int64} {σx' : ST} (LC : LCx p s m meth c b L xs a b2 ad cy D) (hPx : va_P D vwCl (wG NX eX a cy σx) H) (hPm : va_P D vwCl (wG NM eM b2 cy σm) H) (hS : va_S (fun q : Nat => s.heap.size ≤ q) s.heap H locs) (hl : lv_has ls 4 lv) (hM : Met l y (Cond.code y bytes maxL rt :: WS) rm2 (PC (.ref (a 0) :: As) NX eX a cy D (EHX ad (AxP NX a)) σx) (QL NX eX a cy D (AxP NX a) r σx') 0 0 (AxP NX a)) (hw0 : MW0 y bytes maxL rt n) (hin : Cond.instanceMethod y ∈ WS) (hse : Cond.selects "GuardsLookLeft" y y ∈ WS) (hlk : Cond.methodLink "GuardsLookLeftLaw" index y ∈ WS) (hR : rm2.frames + 1 ≤ room_1.frames ∧ 8 + (maxL + 11) + rm2.locals ≤ room_1.locals) (hrm : rm2.cells = 0 ∧ rm2.slots = 0) (hn : As.length = n) (hst0 : st0 = As.reverse ++ .ref (a 0) :: rest) (hw : (rest.map fun v => v.category).sum ≤ 8) (hdg : decode code pc = .ok (.invokevirtual index, 3)) (kk : ∀ (H1 : Heap) (locs1 : List Loc), va_P D vwCl (wG NX eX a cy σx') H1 → va_P D vwCl (wG NM eM b2 cy σm) H1 → va_S (fun q : Nat => s.heap.size ≤ q) s.heap H1 locs1 → W p l e room_1 s m #[Value.ref b] below meth c H1 locs1 83 4313 Q (F0 m (pc + 3) ls (.long r :: rest))) : W p l e room_1 s m #[Value.ref b] below meth c H locs 83 4313 Q (F0 m pc ls st0) :=
  va_calll (lw_run (rest := rest) LC hPx LC.OX (fun U hU hW => LC.VX hS hU hW) (ci := 9) rfl (by rw [g_at oX_9.1, oX_9.2]) hl hM hw0 hin hse hlk hR hrm ⟨Nat.le_of_ble_eq_true rfl, Nat.le_of_ble_eq_true rfl⟩ hn hst0 hw hdg) hS (fun q _ h => LC.AX q h) LC.AX (fun r' u t H1 locs1 ht _ hw hB _ hk hS1 => by
    cases hw
    exact kk H1 locs1 (by rw [← ht]; exact hB) (keep_M LC hPm hk) hS1)
theorem lw_mi {r : Int32} {σm' : ST} (LC : LCx p s m meth c b L xs a b2 ad cy D) (hPx : va_P D vwCl (wG NX eX a cy σx) H) (hPm : va_P D vwCl (wG NM eM b2 cy σm) H) (hS : va_S (fun q : Nat => s.heap.size ≤ q) s.heap H locs) (hl : lv_has ls 4 lv) (hM : Met l y (Cond.code y bytes maxL rt :: WS) rm2 (PC (.ref (b2 0) :: As) NM eM b2 cy D (fun _ => True) σm) (QI NM eM b2 cy D (AxP NM b2) r σm') 0 0 (AxP NM b2)) (hw0 : MW0 y bytes maxL rt n) (hin : Cond.instanceMethod y ∈ WS) (hse : Cond.selects "GuardsLookLeftModel" y y ∈ WS) (hlk : Cond.methodLink "GuardsLookLeftLaw" index y ∈ WS) (hR : rm2.frames + 1 ≤ room_1.frames ∧ 8 + (maxL + 11) + rm2.locals ≤ room_1.locals) (hrm : rm2.cells = 0 ∧ rm2.slots = 0) (hn : As.length = n) (hst0 : st0 = As.reverse ++ .ref (b2 0) :: rest) (hw : (rest.map fun v => v.category).sum ≤ 8) (hdg : decode code pc = .ok (.invokevirtual index, 3)) (kk : ∀ (H1 : Heap) (locs1 : List Loc), va_P D vwCl (wG NX eX a cy σx) H1 → va_P D vwCl (wG NM eM b2 cy σm') H1 → va_S (fun q : Nat => s.heap.size ≤ q) s.heap H1 locs1 → W p l e room_1 s m #[Value.ref b] below meth c H1 locs1 83 4313 Q (F0 m (pc + 3) ls (.int r :: rest))) : W p l e room_1 s m #[Value.ref b] below meth c H locs 83 4313 Q (F0 m pc ls st0) :=
  va_calli (lw_run (rest := rest) LC hPm LC.OM (fun _ _ _ => trivial) (ci := 10) rfl (by rw [g_at oM_10.1, oM_10.2]) hl hM hw0 hin hse hlk hR hrm ⟨Nat.le_of_ble_eq_true rfl, Nat.le_of_ble_eq_true rfl⟩ hn hst0 hw hdg) hS (fun q _ h => LC.AM q h) LC.AM (fun r' u t H1 locs1 ht _ hw hB _ hk hS1 => by
    cases hw
    exact kk H1 locs1 (keep_X LC hPx hk) (by rw [← ht]; exact hB) hS1)
theorem lw_ml {r : Int64} {σm' : ST} (LC : LCx p s m meth c b L xs a b2 ad cy D) (hPx : va_P D vwCl (wG NX eX a cy σx) H) (hPm : va_P D vwCl (wG NM eM b2 cy σm) H) (hS : va_S (fun q : Nat => s.heap.size ≤ q) s.heap H locs) (hl : lv_has ls 4 lv) (hM : Met l y (Cond.code y bytes maxL rt :: WS) rm2 (PC (.ref (b2 0) :: As) NM eM b2 cy D (fun _ => True) σm) (QL NM eM b2 cy D (AxP NM b2) r σm') 0 0 (AxP NM b2)) (hw0 : MW0 y bytes maxL rt n) (hin : Cond.instanceMethod y ∈ WS) (hse : Cond.selects "GuardsLookLeftModel" y y ∈ WS) (hlk : Cond.methodLink "GuardsLookLeftLaw" index y ∈ WS) (hR : rm2.frames + 1 ≤ room_1.frames ∧ 8 + (maxL + 11) + rm2.locals ≤ room_1.locals) (hrm : rm2.cells = 0 ∧ rm2.slots = 0) (hn : As.length = n) (hst0 : st0 = As.reverse ++ .ref (b2 0) :: rest) (hw : (rest.map fun v => v.category).sum ≤ 8) (hdg : decode code pc = .ok (.invokevirtual index, 3)) (kk : ∀ (H1 : Heap) (locs1 : List Loc), va_P D vwCl (wG NX eX a cy σx) H1 → va_P D vwCl (wG NM eM b2 cy σm') H1 → va_S (fun q : Nat => s.heap.size ≤ q) s.heap H1 locs1 → W p l e room_1 s m #[Value.ref b] below meth c H1 locs1 83 4313 Q (F0 m (pc + 3) ls (.long r :: rest))) : W p l e room_1 s m #[Value.ref b] below meth c H locs 83 4313 Q (F0 m pc ls st0) :=
  va_calll (lw_run (rest := rest) LC hPm LC.OM (fun _ _ _ => trivial) (ci := 10) rfl (by rw [g_at oM_10.1, oM_10.2]) hl hM hw0 hin hse hlk hR hrm ⟨Nat.le_of_ble_eq_true rfl, Nat.le_of_ble_eq_true rfl⟩ hn hst0 hw hdg) hS (fun q _ h => LC.AM q h) LC.AM (fun r' u t H1 locs1 ht _ hw hB _ hk hS1 => by
    cases hw
    exact kk H1 locs1 (keep_X LC hPx hk) (by rw [← ht]; exact hB) hS1)
end LC
theorem lw_gt {i L : Nat} (hi : i ≤ L) (hL : L ≤ 3584) : (nI L - 7 < nI i) ↔ L < i + 7 := by
  have h7 : (7 : Int32) = nI 7 := rfl
  rw [Int32.lt_iff_toInt_lt, h7, pk_sub_toInt (by omega) (by omega), nI_toInt (by omega)]
  omega
set_option maxHeartbeats 8000000 in
set_option maxRecDepth 100000 in
/-- THE LAW'S LOOP: while the two agree -/
theorem law_loop (LC : LCx p s m meth c b L xs a b2 ad cy D) (Rl : ST → ST → Prop) (hops : OPS Rl) : ∀ (n i : Nat), i ≤ L → L + 1 ≤ i + n → ∀ (σx σm : ST), Rl σx σm → ∀ (H : Heap) (locs : List Loc), va_P D vwCl (wG NX eX a cy σx) H → va_P D vwCl (wG NM eM b2 cy σm) H → va_S (fun q : Nat => s.heap.size ≤ q) s.heap H locs → ∀ (ls : Array Slot), lv_has ls 4 [(0, .ref b), (1, .ref (a 0)), (2, .ref (b2 0)), (3, .int (nI i))] → W p l e room_1 s m #[Value.ref b] below meth c H locs 83 4313 (lw_Z below #[Value.ref b] s) (F0 m 18 ls []) := by
  have hx := LC.hx
  have hb := LC.hb
  have ts := LC.ts
  have hown := LC.hown
  have hL := LC.hL
  intro n
  induction n with
  | zero =>
    intro i h1 h2
    exact absurd h2 (by omega)
  | succ n ih =>
    intro i hi hin σx σm hR H locs hPx hPm hS ls hl
    refine lv_iload_n hx hb dL_law_18 rfl (lv_at hl 3 rfl) ?_
    refine lv_aload_n hx hb dL_law_19 rfl (lv_at hl 0 rfl) ?_
    refine va_slen hx hb LC.hX LC.hbl LC.hbA hS dL_law_20 ?_
    refine lv_bipush (v := (7 : Int32)) hx hb dL_law_21 (by decide) ?_
    refine lv_isub hx hb dL_law_23 ?_
    refine lv_icmp_gt (tgt := 1773) hx hb dL_law_24 (by decide) (fun hc => ?_) (fun hc => ?_)
    · refine lv_iconst (v := (1 : Int32)) hx hb dL_law_1773 (by decide) ?_
      refine va_forget (fun q hq => hS.2.2 q hq) ?_
      refine W.widen (k := 600000) (n := 7302249) (Nat.le_of_ble_eq_true rfl) (Nat.le_of_ble_eq_true rfl) ?_
      exact lw_ret hx hb LC.1.2.2.1 LC.1.2.2.2.2.2.2.2.2.1 dL_law_1774
    have hi7 : i + 7 ≤ L := by
      rcases Nat.lt_or_ge L (i + 7) with q | q
      · exact absurd ((lw_gt hi hL).mpr q) hc
      · exact q
    have go : ∀ (σx σm : ST), Rl σx σm → ∀ (H : Heap) (locs : List Loc), va_P D vwCl (wG NX eX a cy σx) H → va_P D vwCl (wG NM eM b2 cy σm) H → va_S (fun q : Nat => s.heap.size ≤ q) s.heap H locs → ∀ (ls : Array Slot), lv_has ls 4 [(0, .ref b), (1, .ref (a 0)), (2, .ref (b2 0)), (3, .int (nI i))] → W p l e room_1 s m #[Value.ref b] below meth c H locs 83 4313 (lw_Z below #[Value.ref b] s) (F0 m 1767 ls []) := by
      intro σx σm hR H locs hPx hPm hS ls hl
      refine lv_iinc (v := nI (i + 7)) (lv' := [(3, .int (nI (i + 7))), (0, .ref b), (1, .ref (a 0)), (2, .ref (b2 0))]) hx hb dL_law_1767 hl (k := 3) rfl (by rw [← nI_add]; rfl) (by decide) rfl (fun ls hl => ?_)
      refine lv_goto (tgt := 18) hx hb dL_law_1770 (by decide) ?_
      exact ih (i + 7) hi7 (by omega) σx σm hR H locs hPx hPm hS ls (lv_sub hl [1, 2, 3, 0] rfl)
    refine lv_aload_n hx hb dL_law_27 rfl (lv_at hl 0 rfl) ?_
    refine lv_iload_n hx hb dL_law_28 rfl (lv_at hl 3 rfl) ?_
    refine va_sld hx hb LC.hX LC.hbl LC.hbA hS (vp_in_nI (by omega) (by omega)) dL_law_29 ?_
    refine lv_bipush (v := (63 : Int32)) hx hb dL_law_30 (by decide) ?_
    refine lv_iand hx hb dL_law_32 ?_
    refine lv_topi (fun y hy => ?_)
    by_cases hk100 : y = (0 : Int32)
    · refine lw_sw LC hk100 (by decide) (by decide) rfl (tgt := 208) (by decide) ?_
      have hop : OP_lay Rl := hops.1
      obtain ⟨r, σx2, σm2, h1, h2, hR2⟩ := hop σx σm (xs (i + 1)) ((jlshl (Int32.toInt64 (xs (i + 2))) (32 : Int32)) ||| ((Int32.toInt64 (xs (i + 3))) &&& (4294967295 : Int64))) hR
      refine lv_aload_n hx hb dL_law_208 rfl (lv_at hl 1 rfl) ?_
      refine lw_ldc LC hl hS (j := 1) (v := (1 : Int32)) (by omega) (by decide) dL_law_209 dL_law_210 dL_law_211 dL_law_212 dL_law_213 ?_
      refine lw_ldc LC hl hS (j := 2) (v := (2 : Int32)) (by omega) (by decide) dL_law_214 dL_law_215 dL_law_216 dL_law_217 dL_law_218 ?_
      refine lv_i2l hx hb dL_law_219 rfl ?_
      refine lv_bipush (v := (32 : Int32)) hx hb dL_law_220 (by decide) ?_
      refine lv_lshl (v := (jlshl (Int32.toInt64 (xs (i + 2))) (32 : Int32))) hx hb dL_law_222 rfl ?_
      refine lw_ldc LC hl hS (j := 3) (v := (3 : Int32)) (by omega) (by decide) dL_law_223 dL_law_224 dL_law_225 dL_law_226 dL_law_227 ?_
      refine lv_i2l hx hb dL_law_228 rfl ?_
      refine lv_ldc2 hx hb hown (ts _ wk_6_161) dL_law_229 ?_
      refine lv_land hx hb dL_law_232 ?_
      refine lv_lor hx hb dL_law_233 ?_
      refine lw_xl (As := [.int (xs (i + 1)), .long ((jlshl (Int32.toInt64 (xs (i + 2))) (32 : Int32)) ||| ((Int32.toInt64 (xs (i + 3))) &&& (4294967295 : Int64)))]) (rest := []) LC hPx hPm hS hl (k_X9_lay (l := l) (LC.OX) (σ := σx) h1) mw_X9_lay mi_X9_lay mv_X9_lay wk_2_208 ⟨Nat.le_of_ble_eq_true rfl, Nat.le_of_ble_eq_true rfl⟩ ⟨rfl, rfl⟩ rfl rfl (Nat.le_of_ble_eq_true rfl) dL_law_234 (fun H locs hPx hPm hS => ?_)
      refine lv_aload_n hx hb dL_law_237 rfl (lv_at hl 2 rfl) ?_
      refine lw_ldc LC hl hS (j := 1) (v := (1 : Int32)) (by omega) (by decide) dL_law_238 dL_law_239 dL_law_240 dL_law_241 dL_law_242 ?_
      refine lw_ldc LC hl hS (j := 2) (v := (2 : Int32)) (by omega) (by decide) dL_law_243 dL_law_244 dL_law_245 dL_law_246 dL_law_247 ?_
      refine lv_i2l hx hb dL_law_248 rfl ?_
      refine lv_bipush (v := (32 : Int32)) hx hb dL_law_249 (by decide) ?_
      refine lv_lshl (v := (jlshl (Int32.toInt64 (xs (i + 2))) (32 : Int32))) hx hb dL_law_251 rfl ?_
      refine lw_ldc LC hl hS (j := 3) (v := (3 : Int32)) (by omega) (by decide) dL_law_252 dL_law_253 dL_law_254 dL_law_255 dL_law_256 ?_
      refine lv_i2l hx hb dL_law_257 rfl ?_
      refine lv_ldc2 hx hb hown (ts _ wk_6_161) dL_law_258 ?_
      refine lv_land hx hb dL_law_261 ?_
      refine lv_lor hx hb dL_law_262 ?_
      refine lw_ml (As := [.int (xs (i + 1)), .long ((jlshl (Int32.toInt64 (xs (i + 2))) (32 : Int32)) ||| ((Int32.toInt64 (xs (i + 3))) &&& (4294967295 : Int64)))]) (rest := [.long r]) LC hPx hPm hS hl (k_X10_lay (l := l) (LC.OM) (σ := σm) h2) mw_X10_lay mi_X10_lay mv_X10_lay wk_5_81 ⟨Nat.le_of_ble_eq_true rfl, Nat.le_of_ble_eq_true rfl⟩ ⟨rfl, rfl⟩ rfl rfl (Nat.le_of_ble_eq_true rfl) dL_law_263 (fun H locs hPx hPm hS => ?_)
      refine W.lcmp hx hb dL_law_266 (lv_if_eq (tgt := 1767) hx hb dL_law_267 (by decide) (fun _ => ?_) (fun h => absurd (lg_eq0.mpr rfl) h))
      exact go σx2 σm2 hR2 H locs hPx hPm hS ls hl
    by_cases hk101 : y = (1 : Int32)
    · refine lw_sw LC hk101 (by decide) (by decide) rfl (tgt := 272) (by decide) ?_
      have hop : OP_laid Rl := hops.2.1
      obtain ⟨r, h1, h2, hR2⟩ := hop σx σm (xs (i + 1)) hR
      refine lv_aload_n hx hb dL_law_272 rfl (lv_at hl 1 rfl) ?_
      refine lw_ldc LC hl hS (j := 1) (v := (1 : Int32)) (by omega) (by decide) dL_law_273 dL_law_274 dL_law_275 dL_law_276 dL_law_277 ?_
      refine lw_xl (As := [.int (xs (i + 1))]) (rest := []) LC hPx hPm hS hl (k_X9_laid (l := l) (LC.OX) (σ := σx) h1) mw_X9_laid mi_X9_laid mv_X9_laid wk_2_223 ⟨Nat.le_of_ble_eq_true rfl, Nat.le_of_ble_eq_true rfl⟩ ⟨rfl, rfl⟩ rfl rfl (Nat.le_of_ble_eq_true rfl) dL_law_278 (fun H locs hPx hPm hS => ?_)
      refine lv_aload_n hx hb dL_law_281 rfl (lv_at hl 2 rfl) ?_
      refine lw_ldc LC hl hS (j := 1) (v := (1 : Int32)) (by omega) (by decide) dL_law_282 dL_law_283 dL_law_284 dL_law_285 dL_law_286 ?_
      refine lw_ml (As := [.int (xs (i + 1))]) (rest := [.long r]) LC hPx hPm hS hl (k_X10_laid (l := l) (LC.OM) (σ := σm) h2) mw_X10_laid mi_X10_laid mv_X10_laid wk_5_90 ⟨Nat.le_of_ble_eq_true rfl, Nat.le_of_ble_eq_true rfl⟩ ⟨rfl, rfl⟩ rfl rfl (Nat.le_of_ble_eq_true rfl) dL_law_287 (fun H locs hPx hPm hS => ?_)
      refine W.lcmp hx hb dL_law_290 (lv_if_eq (tgt := 1767) hx hb dL_law_291 (by decide) (fun _ => ?_) (fun h => absurd (lg_eq0.mpr rfl) h))
      exact go σx σm hR2 H locs hPx hPm hS ls hl
    by_cases hk102 : y = (2 : Int32)
    · refine lw_sw LC hk102 (by decide) (by decide) rfl (tgt := 296) (by decide) ?_
      have hop : OP_put Rl := hops.2.2.1
      obtain ⟨r, σx2, σm2, h1, h2, hR2⟩ := hop σx σm (xs (i + 1)) (xs (i + 2)) (xs (i + 3)) hR
      refine lv_aload_n hx hb dL_law_296 rfl (lv_at hl 1 rfl) ?_
      refine lw_ldc LC hl hS (j := 1) (v := (1 : Int32)) (by omega) (by decide) dL_law_297 dL_law_298 dL_law_299 dL_law_300 dL_law_301 ?_
      refine lw_ldc LC hl hS (j := 2) (v := (2 : Int32)) (by omega) (by decide) dL_law_302 dL_law_303 dL_law_304 dL_law_305 dL_law_306 ?_
      refine lw_ldc LC hl hS (j := 3) (v := (3 : Int32)) (by omega) (by decide) dL_law_307 dL_law_308 dL_law_309 dL_law_310 dL_law_311 ?_
      refine lw_xi (As := [.int (xs (i + 1)), .int (xs (i + 2)), .int (xs (i + 3))]) (rest := []) LC hPx hPm hS hl (k_X9_put (l := l) (LC.OX) (σ := σx) h1) mw_X9_put mi_X9_put mv_X9_put wk_2_227 ⟨Nat.le_of_ble_eq_true rfl, Nat.le_of_ble_eq_true rfl⟩ ⟨rfl, rfl⟩ rfl rfl (Nat.le_of_ble_eq_true rfl) dL_law_312 (fun H locs hPx hPm hS => ?_)
      refine lv_aload_n hx hb dL_law_315 rfl (lv_at hl 2 rfl) ?_
      refine lw_ldc LC hl hS (j := 1) (v := (1 : Int32)) (by omega) (by decide) dL_law_316 dL_law_317 dL_law_318 dL_law_319 dL_law_320 ?_
      refine lw_ldc LC hl hS (j := 2) (v := (2 : Int32)) (by omega) (by decide) dL_law_321 dL_law_322 dL_law_323 dL_law_324 dL_law_325 ?_
      refine lw_ldc LC hl hS (j := 3) (v := (3 : Int32)) (by omega) (by decide) dL_law_326 dL_law_327 dL_law_328 dL_law_329 dL_law_330 ?_
      refine lw_mi (As := [.int (xs (i + 1)), .int (xs (i + 2)), .int (xs (i + 3))]) (rest := [.int r]) LC hPx hPm hS hl (k_X10_put (l := l) (LC.OM) (σ := σm) h2) mw_X10_put mi_X10_put mv_X10_put wk_5_94 ⟨Nat.le_of_ble_eq_true rfl, Nat.le_of_ble_eq_true rfl⟩ ⟨rfl, rfl⟩ rfl rfl (Nat.le_of_ble_eq_true rfl) dL_law_331 (fun H locs hPx hPm hS => ?_)
      refine lv_icmp_eq (tgt := 1767) hx hb dL_law_334 (by decide) (fun _ => ?_) (fun h => absurd rfl h)
      exact go σx2 σm2 hR2 H locs hPx hPm hS ls hl
    by_cases hk103 : y = (3 : Int32)
    · refine lw_sw LC hk103 (by decide) (by decide) rfl (tgt := 339) (by decide) ?_
      have hop : OP_count Rl := hops.2.2.2.1
      obtain ⟨r, h1, h2, hR2⟩ := hop σx σm (xs (i + 1)) hR
      refine lv_aload_n hx hb dL_law_339 rfl (lv_at hl 1 rfl) ?_
      refine lw_ldc LC hl hS (j := 1) (v := (1 : Int32)) (by omega) (by decide) dL_law_340 dL_law_341 dL_law_342 dL_law_343 dL_law_344 ?_
      refine lw_xi (As := [.int (xs (i + 1))]) (rest := []) LC hPx hPm hS hl (k_X9_count (l := l) (LC.OX) (σ := σx) h1) mw_X9_count mi_X9_count mv_X9_count wk_2_238 ⟨Nat.le_of_ble_eq_true rfl, Nat.le_of_ble_eq_true rfl⟩ ⟨rfl, rfl⟩ rfl rfl (Nat.le_of_ble_eq_true rfl) dL_law_345 (fun H locs hPx hPm hS => ?_)
      refine lv_aload_n hx hb dL_law_348 rfl (lv_at hl 2 rfl) ?_
      refine lw_ldc LC hl hS (j := 1) (v := (1 : Int32)) (by omega) (by decide) dL_law_349 dL_law_350 dL_law_351 dL_law_352 dL_law_353 ?_
      refine lw_mi (As := [.int (xs (i + 1))]) (rest := [.int r]) LC hPx hPm hS hl (k_X10_count (l := l) (LC.OM) (σ := σm) h2) mw_X10_count mi_X10_count mv_X10_count wk_5_105 ⟨Nat.le_of_ble_eq_true rfl, Nat.le_of_ble_eq_true rfl⟩ ⟨rfl, rfl⟩ rfl rfl (Nat.le_of_ble_eq_true rfl) dL_law_354 (fun H locs hPx hPm hS => ?_)
      refine lv_icmp_eq (tgt := 1767) hx hb dL_law_357 (by decide) (fun _ => ?_) (fun h => absurd rfl h)
      exact go σx σm hR2 H locs hPx hPm hS ls hl
    by_cases hk104 : y = (4 : Int32)
    · refine lw_sw LC hk104 (by decide) (by decide) rfl (tgt := 362) (by decide) ?_
      have hop : OP_feed Rl := hops.2.2.2.2.1
      obtain ⟨r, σx2, σm2, h1, h2, hR2⟩ := hop σx σm (xs (i + 1)) (xs (i + 2)) (xs (i + 3)) (xs (i + 4)) (xs (i + 5)) (xs (i + 6)) hR
      refine lv_aload_n hx hb dL_law_362 rfl (lv_at hl 1 rfl) ?_
      refine lw_ldc LC hl hS (j := 1) (v := (1 : Int32)) (by omega) (by decide) dL_law_363 dL_law_364 dL_law_365 dL_law_366 dL_law_367 ?_
      refine lw_ldc LC hl hS (j := 2) (v := (2 : Int32)) (by omega) (by decide) dL_law_368 dL_law_369 dL_law_370 dL_law_371 dL_law_372 ?_
      refine lw_ldc LC hl hS (j := 3) (v := (3 : Int32)) (by omega) (by decide) dL_law_373 dL_law_374 dL_law_375 dL_law_376 dL_law_377 ?_
      refine lw_ldc LC hl hS (j := 4) (v := (4 : Int32)) (by omega) (by decide) dL_law_378 dL_law_379 dL_law_380 dL_law_381 dL_law_382 ?_
      refine lw_ldc LC hl hS (j := 5) (v := (5 : Int32)) (by omega) (by decide) dL_law_383 dL_law_384 dL_law_385 dL_law_386 dL_law_387 ?_
      refine lw_ldb LC hl hS (j := 6) (v := (6 : Int32)) (by omega) (by decide) dL_law_388 dL_law_389 dL_law_390 dL_law_392 dL_law_393 ?_
      refine lw_xi (As := [.int (xs (i + 1)), .int (xs (i + 2)), .int (xs (i + 3)), .int (xs (i + 4)), .int (xs (i + 5)), .int (xs (i + 6))]) (rest := []) LC hPx hPm hS hl (k_X9_feed (l := l) (LC.OX) (σ := σx) h1) mw_X9_feed mi_X9_feed mv_X9_feed wk_3_8 ⟨Nat.le_of_ble_eq_true rfl, Nat.le_of_ble_eq_true rfl⟩ ⟨rfl, rfl⟩ rfl rfl (Nat.le_of_ble_eq_true rfl) dL_law_394 (fun H locs hPx hPm hS => ?_)
      refine lv_aload_n hx hb dL_law_397 rfl (lv_at hl 2 rfl) ?_
      refine lw_ldc LC hl hS (j := 1) (v := (1 : Int32)) (by omega) (by decide) dL_law_398 dL_law_399 dL_law_400 dL_law_401 dL_law_402 ?_
      refine lw_ldc LC hl hS (j := 2) (v := (2 : Int32)) (by omega) (by decide) dL_law_403 dL_law_404 dL_law_405 dL_law_406 dL_law_407 ?_
      refine lw_ldc LC hl hS (j := 3) (v := (3 : Int32)) (by omega) (by decide) dL_law_408 dL_law_409 dL_law_410 dL_law_411 dL_law_412 ?_
      refine lw_ldc LC hl hS (j := 4) (v := (4 : Int32)) (by omega) (by decide) dL_law_413 dL_law_414 dL_law_415 dL_law_416 dL_law_417 ?_
      refine lw_ldc LC hl hS (j := 5) (v := (5 : Int32)) (by omega) (by decide) dL_law_418 dL_law_419 dL_law_420 dL_law_421 dL_law_422 ?_
      refine lw_ldb LC hl hS (j := 6) (v := (6 : Int32)) (by omega) (by decide) dL_law_423 dL_law_424 dL_law_425 dL_law_427 dL_law_428 ?_
      refine lw_mi (As := [.int (xs (i + 1)), .int (xs (i + 2)), .int (xs (i + 3)), .int (xs (i + 4)), .int (xs (i + 5)), .int (xs (i + 6))]) (rest := [.int r]) LC hPx hPm hS hl (k_X10_feed (l := l) (LC.OM) (σ := σm) h2) mw_X10_feed mi_X10_feed mv_X10_feed wk_5_112 ⟨Nat.le_of_ble_eq_true rfl, Nat.le_of_ble_eq_true rfl⟩ ⟨rfl, rfl⟩ rfl rfl (Nat.le_of_ble_eq_true rfl) dL_law_429 (fun H locs hPx hPm hS => ?_)
      refine lv_icmp_eq (tgt := 1767) hx hb dL_law_432 (by decide) (fun _ => ?_) (fun h => absurd rfl h)
      exact go σx2 σm2 hR2 H locs hPx hPm hS ls hl
    by_cases hk105 : y = (5 : Int32)
    · refine lw_sw LC hk105 (by decide) (by decide) rfl (tgt := 437) (by decide) ?_
      have hop : OP_text Rl := hops.2.2.2.2.2.1
      obtain ⟨r, σx2, σm2, h1, h2, hR2⟩ := hop σx σm  hR
      refine lv_aload_n hx hb dL_law_437 rfl (lv_at hl 1 rfl) ?_
      refine lw_xi (As := []) (rest := []) LC hPx hPm hS hl (k_X9_text (l := l) (LC.OX) (σ := σx) h1) mw_X9_text mi_X9_text mv_X9_text wk_3_15 ⟨Nat.le_of_ble_eq_true rfl, Nat.le_of_ble_eq_true rfl⟩ ⟨rfl, rfl⟩ rfl rfl (Nat.le_of_ble_eq_true rfl) dL_law_438 (fun H locs hPx hPm hS => ?_)
      refine lv_aload_n hx hb dL_law_441 rfl (lv_at hl 2 rfl) ?_
      refine lw_mi (As := []) (rest := [.int r]) LC hPx hPm hS hl (k_X10_text (l := l) (LC.OM) (σ := σm) h2) mw_X10_text mi_X10_text mv_X10_text wk_5_119 ⟨Nat.le_of_ble_eq_true rfl, Nat.le_of_ble_eq_true rfl⟩ ⟨rfl, rfl⟩ rfl rfl (Nat.le_of_ble_eq_true rfl) dL_law_442 (fun H locs hPx hPm hS => ?_)
      refine lv_icmp_eq (tgt := 1767) hx hb dL_law_445 (by decide) (fun _ => ?_) (fun h => absurd rfl h)
      exact go σx2 σm2 hR2 H locs hPx hPm hS ls hl
    by_cases hk106 : y = (6 : Int32)
    · refine lw_sw LC hk106 (by decide) (by decide) rfl (tgt := 450) (by decide) ?_
      have hop : OP_force Rl := hops.2.2.2.2.2.2.1
      obtain ⟨r, σx2, σm2, h1, h2, hR2⟩ := hop σx σm (xs (i + 1)) hR
      refine lv_aload_n hx hb dL_law_450 rfl (lv_at hl 1 rfl) ?_
      refine lw_ldc LC hl hS (j := 1) (v := (1 : Int32)) (by omega) (by decide) dL_law_451 dL_law_452 dL_law_453 dL_law_454 dL_law_455 ?_
      refine lw_xi (As := [.int (xs (i + 1))]) (rest := []) LC hPx hPm hS hl (k_X9_force (l := l) (LC.OX) (σ := σx) h1) mw_X9_force mi_X9_force mv_X9_force wk_3_19 ⟨Nat.le_of_ble_eq_true rfl, Nat.le_of_ble_eq_true rfl⟩ ⟨rfl, rfl⟩ rfl rfl (Nat.le_of_ble_eq_true rfl) dL_law_456 (fun H locs hPx hPm hS => ?_)
      refine lv_aload_n hx hb dL_law_459 rfl (lv_at hl 2 rfl) ?_
      refine lw_ldc LC hl hS (j := 1) (v := (1 : Int32)) (by omega) (by decide) dL_law_460 dL_law_461 dL_law_462 dL_law_463 dL_law_464 ?_
      refine lw_mi (As := [.int (xs (i + 1))]) (rest := [.int r]) LC hPx hPm hS hl (k_X10_force (l := l) (LC.OM) (σ := σm) h2) mw_X10_force mi_X10_force mv_X10_force wk_5_120 ⟨Nat.le_of_ble_eq_true rfl, Nat.le_of_ble_eq_true rfl⟩ ⟨rfl, rfl⟩ rfl rfl (Nat.le_of_ble_eq_true rfl) dL_law_465 (fun H locs hPx hPm hS => ?_)
      refine lv_icmp_eq (tgt := 1767) hx hb dL_law_468 (by decide) (fun _ => ?_) (fun h => absurd rfl h)
      exact go σx2 σm2 hR2 H locs hPx hPm hS ls hl
    by_cases hk107 : y = (7 : Int32)
    · refine lw_sw LC hk107 (by decide) (by decide) rfl (tgt := 473) (by decide) ?_
      have hop : OP_asks Rl := hops.2.2.2.2.2.2.2.1
      obtain ⟨r, σx2, σm2, h1, h2, hR2⟩ := hop σx σm (xs (i + 1)) (xs (i + 2)) (xs (i + 3)) (xs (i + 4)) (xs (i + 5)) hR
      refine lv_aload_n hx hb dL_law_473 rfl (lv_at hl 1 rfl) ?_
      refine lw_ldc LC hl hS (j := 1) (v := (1 : Int32)) (by omega) (by decide) dL_law_474 dL_law_475 dL_law_476 dL_law_477 dL_law_478 ?_
      refine lw_ldc LC hl hS (j := 2) (v := (2 : Int32)) (by omega) (by decide) dL_law_479 dL_law_480 dL_law_481 dL_law_482 dL_law_483 ?_
      refine lw_ldc LC hl hS (j := 3) (v := (3 : Int32)) (by omega) (by decide) dL_law_484 dL_law_485 dL_law_486 dL_law_487 dL_law_488 ?_
      refine lw_ldc LC hl hS (j := 4) (v := (4 : Int32)) (by omega) (by decide) dL_law_489 dL_law_490 dL_law_491 dL_law_492 dL_law_493 ?_
      refine lw_ldc LC hl hS (j := 5) (v := (5 : Int32)) (by omega) (by decide) dL_law_494 dL_law_495 dL_law_496 dL_law_497 dL_law_498 ?_
      refine lw_xi (As := [.int (xs (i + 1)), .int (xs (i + 2)), .int (xs (i + 3)), .int (xs (i + 4)), .int (xs (i + 5))]) (rest := []) LC hPx hPm hS hl (k_X9_asks (l := l) (LC.OX) (σ := σx) h1) mw_X9_asks mi_X9_asks mv_X9_asks wk_3_23 ⟨Nat.le_of_ble_eq_true rfl, Nat.le_of_ble_eq_true rfl⟩ ⟨rfl, rfl⟩ rfl rfl (Nat.le_of_ble_eq_true rfl) dL_law_499 (fun H locs hPx hPm hS => ?_)
      refine lv_aload_n hx hb dL_law_502 rfl (lv_at hl 2 rfl) ?_
      refine lw_ldc LC hl hS (j := 1) (v := (1 : Int32)) (by omega) (by decide) dL_law_503 dL_law_504 dL_law_505 dL_law_506 dL_law_507 ?_
      refine lw_ldc LC hl hS (j := 2) (v := (2 : Int32)) (by omega) (by decide) dL_law_508 dL_law_509 dL_law_510 dL_law_511 dL_law_512 ?_
      refine lw_ldc LC hl hS (j := 3) (v := (3 : Int32)) (by omega) (by decide) dL_law_513 dL_law_514 dL_law_515 dL_law_516 dL_law_517 ?_
      refine lw_ldc LC hl hS (j := 4) (v := (4 : Int32)) (by omega) (by decide) dL_law_518 dL_law_519 dL_law_520 dL_law_521 dL_law_522 ?_
      refine lw_ldc LC hl hS (j := 5) (v := (5 : Int32)) (by omega) (by decide) dL_law_523 dL_law_524 dL_law_525 dL_law_526 dL_law_527 ?_
      refine lw_mi (As := [.int (xs (i + 1)), .int (xs (i + 2)), .int (xs (i + 3)), .int (xs (i + 4)), .int (xs (i + 5))]) (rest := [.int r]) LC hPx hPm hS hl (k_X10_asks (l := l) (LC.OM) (σ := σm) h2) mw_X10_asks mi_X10_asks mv_X10_asks wk_5_124 ⟨Nat.le_of_ble_eq_true rfl, Nat.le_of_ble_eq_true rfl⟩ ⟨rfl, rfl⟩ rfl rfl (Nat.le_of_ble_eq_true rfl) dL_law_528 (fun H locs hPx hPm hS => ?_)
      refine lv_icmp_eq (tgt := 1767) hx hb dL_law_531 (by decide) (fun _ => ?_) (fun h => absurd rfl h)
      exact go σx2 σm2 hR2 H locs hPx hPm hS ls hl
    by_cases hk108 : y = (8 : Int32)
    · refine lw_sw LC hk108 (by decide) (by decide) rfl (tgt := 536) (by decide) ?_
      have hop : OP_guard Rl := hops.2.2.2.2.2.2.2.2.1
      obtain ⟨r, σx2, σm2, h1, h2, hR2⟩ := hop σx σm (xs (i + 1)) (xs (i + 2)) (xs (i + 3)) (xs (i + 4)) hR
      refine lv_aload_n hx hb dL_law_536 rfl (lv_at hl 1 rfl) ?_
      refine lw_ldc LC hl hS (j := 1) (v := (1 : Int32)) (by omega) (by decide) dL_law_537 dL_law_538 dL_law_539 dL_law_540 dL_law_541 ?_
      refine lw_ldc LC hl hS (j := 2) (v := (2 : Int32)) (by omega) (by decide) dL_law_542 dL_law_543 dL_law_544 dL_law_545 dL_law_546 ?_
      refine lw_ldc LC hl hS (j := 3) (v := (3 : Int32)) (by omega) (by decide) dL_law_547 dL_law_548 dL_law_549 dL_law_550 dL_law_551 ?_
      refine lw_ldc LC hl hS (j := 4) (v := (4 : Int32)) (by omega) (by decide) dL_law_552 dL_law_553 dL_law_554 dL_law_555 dL_law_556 ?_
      refine lw_xi (As := [.int (xs (i + 1)), .int (xs (i + 2)), .int (xs (i + 3)), .int (xs (i + 4))]) (rest := []) LC hPx hPm hS hl (k_X9_guard (l := l) (LC.OX) (σ := σx) h1) mw_X9_guard mi_X9_guard mv_X9_guard wk_3_55 ⟨Nat.le_of_ble_eq_true rfl, Nat.le_of_ble_eq_true rfl⟩ ⟨rfl, rfl⟩ rfl rfl (Nat.le_of_ble_eq_true rfl) dL_law_557 (fun H locs hPx hPm hS => ?_)
      refine lv_aload_n hx hb dL_law_560 rfl (lv_at hl 2 rfl) ?_
      refine lw_ldc LC hl hS (j := 1) (v := (1 : Int32)) (by omega) (by decide) dL_law_561 dL_law_562 dL_law_563 dL_law_564 dL_law_565 ?_
      refine lw_ldc LC hl hS (j := 2) (v := (2 : Int32)) (by omega) (by decide) dL_law_566 dL_law_567 dL_law_568 dL_law_569 dL_law_570 ?_
      refine lw_ldc LC hl hS (j := 3) (v := (3 : Int32)) (by omega) (by decide) dL_law_571 dL_law_572 dL_law_573 dL_law_574 dL_law_575 ?_
      refine lw_ldc LC hl hS (j := 4) (v := (4 : Int32)) (by omega) (by decide) dL_law_576 dL_law_577 dL_law_578 dL_law_579 dL_law_580 ?_
      refine lw_mi (As := [.int (xs (i + 1)), .int (xs (i + 2)), .int (xs (i + 3)), .int (xs (i + 4))]) (rest := [.int r]) LC hPx hPm hS hl (k_X10_guard (l := l) (LC.OM) (σ := σm) h2) mw_X10_guard mi_X10_guard mv_X10_guard wk_5_145 ⟨Nat.le_of_ble_eq_true rfl, Nat.le_of_ble_eq_true rfl⟩ ⟨rfl, rfl⟩ rfl rfl (Nat.le_of_ble_eq_true rfl) dL_law_581 (fun H locs hPx hPm hS => ?_)
      refine lv_icmp_eq (tgt := 1767) hx hb dL_law_584 (by decide) (fun _ => ?_) (fun h => absurd rfl h)
      exact go σx2 σm2 hR2 H locs hPx hPm hS ls hl
    by_cases hk109 : y = (9 : Int32)
    · refine lw_sw LC hk109 (by decide) (by decide) rfl (tgt := 589) (by decide) ?_
      have hop : OP_set Rl := hops.2.2.2.2.2.2.2.2.2.1
      obtain ⟨r, σx2, σm2, h1, h2, hR2⟩ := hop σx σm (xs (i + 1)) (xs (i + 2)) (xs (i + 3)) hR
      refine lv_aload_n hx hb dL_law_589 rfl (lv_at hl 1 rfl) ?_
      refine lw_ldc LC hl hS (j := 1) (v := (1 : Int32)) (by omega) (by decide) dL_law_590 dL_law_591 dL_law_592 dL_law_593 dL_law_594 ?_
      refine lw_ldc LC hl hS (j := 2) (v := (2 : Int32)) (by omega) (by decide) dL_law_595 dL_law_596 dL_law_597 dL_law_598 dL_law_599 ?_
      refine lw_ldc LC hl hS (j := 3) (v := (3 : Int32)) (by omega) (by decide) dL_law_600 dL_law_601 dL_law_602 dL_law_603 dL_law_604 ?_
      refine lw_xi (As := [.int (xs (i + 1)), .int (xs (i + 2)), .int (xs (i + 3))]) (rest := []) LC hPx hPm hS hl (k_X9_set (l := l) (LC.OX) (σ := σx) h1) mw_X9_set mi_X9_set mv_X9_set wk_3_63 ⟨Nat.le_of_ble_eq_true rfl, Nat.le_of_ble_eq_true rfl⟩ ⟨rfl, rfl⟩ rfl rfl (Nat.le_of_ble_eq_true rfl) dL_law_605 (fun H locs hPx hPm hS => ?_)
      refine lv_aload_n hx hb dL_law_608 rfl (lv_at hl 2 rfl) ?_
      refine lw_ldc LC hl hS (j := 1) (v := (1 : Int32)) (by omega) (by decide) dL_law_609 dL_law_610 dL_law_611 dL_law_612 dL_law_613 ?_
      refine lw_ldc LC hl hS (j := 2) (v := (2 : Int32)) (by omega) (by decide) dL_law_614 dL_law_615 dL_law_616 dL_law_617 dL_law_618 ?_
      refine lw_ldc LC hl hS (j := 3) (v := (3 : Int32)) (by omega) (by decide) dL_law_619 dL_law_620 dL_law_621 dL_law_622 dL_law_623 ?_
      refine lw_mi (As := [.int (xs (i + 1)), .int (xs (i + 2)), .int (xs (i + 3))]) (rest := [.int r]) LC hPx hPm hS hl (k_X10_set (l := l) (LC.OM) (σ := σm) h2) mw_X10_set mi_X10_set mv_X10_set wk_5_149 ⟨Nat.le_of_ble_eq_true rfl, Nat.le_of_ble_eq_true rfl⟩ ⟨rfl, rfl⟩ rfl rfl (Nat.le_of_ble_eq_true rfl) dL_law_624 (fun H locs hPx hPm hS => ?_)
      refine lv_icmp_eq (tgt := 1767) hx hb dL_law_627 (by decide) (fun _ => ?_) (fun h => absurd rfl h)
      exact go σx2 σm2 hR2 H locs hPx hPm hS ls hl
    by_cases hk110 : y = (10 : Int32)
    · refine lw_sw LC hk110 (by decide) (by decide) rfl (tgt := 632) (by decide) ?_
      have hop : OP_guardTold Rl := hops.2.2.2.2.2.2.2.2.2.2.1
      obtain ⟨r, h1, h2, hR2⟩ := hop σx σm (xs (i + 1)) (xs (i + 2)) hR
      refine lv_aload_n hx hb dL_law_632 rfl (lv_at hl 1 rfl) ?_
      refine lw_ldc LC hl hS (j := 1) (v := (1 : Int32)) (by omega) (by decide) dL_law_633 dL_law_634 dL_law_635 dL_law_636 dL_law_637 ?_
      refine lw_ldc LC hl hS (j := 2) (v := (2 : Int32)) (by omega) (by decide) dL_law_638 dL_law_639 dL_law_640 dL_law_641 dL_law_642 ?_
      refine lw_xi (As := [.int (xs (i + 1)), .int (xs (i + 2))]) (rest := []) LC hPx hPm hS hl (k_X9_guardTold (l := l) (LC.OX) (σ := σx) h1) mw_X9_guardTold mi_X9_guardTold mv_X9_guardTold wk_3_71 ⟨Nat.le_of_ble_eq_true rfl, Nat.le_of_ble_eq_true rfl⟩ ⟨rfl, rfl⟩ rfl rfl (Nat.le_of_ble_eq_true rfl) dL_law_643 (fun H locs hPx hPm hS => ?_)
      refine lv_aload_n hx hb dL_law_646 rfl (lv_at hl 2 rfl) ?_
      refine lw_ldc LC hl hS (j := 1) (v := (1 : Int32)) (by omega) (by decide) dL_law_647 dL_law_648 dL_law_649 dL_law_650 dL_law_651 ?_
      refine lw_ldc LC hl hS (j := 2) (v := (2 : Int32)) (by omega) (by decide) dL_law_652 dL_law_653 dL_law_654 dL_law_655 dL_law_656 ?_
      refine lw_mi (As := [.int (xs (i + 1)), .int (xs (i + 2))]) (rest := [.int r]) LC hPx hPm hS hl (k_X10_guardTold (l := l) (LC.OM) (σ := σm) h2) mw_X10_guardTold mi_X10_guardTold mv_X10_guardTold wk_5_157 ⟨Nat.le_of_ble_eq_true rfl, Nat.le_of_ble_eq_true rfl⟩ ⟨rfl, rfl⟩ rfl rfl (Nat.le_of_ble_eq_true rfl) dL_law_657 (fun H locs hPx hPm hS => ?_)
      refine lv_icmp_eq (tgt := 1767) hx hb dL_law_660 (by decide) (fun _ => ?_) (fun h => absurd rfl h)
      exact go σx σm hR2 H locs hPx hPm hS ls hl
    by_cases hk111 : y = (11 : Int32)
    · refine lw_sw LC hk111 (by decide) (by decide) rfl (tgt := 665) (by decide) ?_
      have hop : OP_at Rl := hops.2.2.2.2.2.2.2.2.2.2.2.1
      obtain ⟨r, σx2, h1, h2, hR2⟩ := hop σx σm (xs (i + 1)) (xs (i + 2)) (xs (i + 3)) hR
      refine lv_aload_n hx hb dL_law_665 rfl (lv_at hl 1 rfl) ?_
      refine lw_ldc LC hl hS (j := 1) (v := (1 : Int32)) (by omega) (by decide) dL_law_666 dL_law_667 dL_law_668 dL_law_669 dL_law_670 ?_
      refine lw_ldc LC hl hS (j := 2) (v := (2 : Int32)) (by omega) (by decide) dL_law_671 dL_law_672 dL_law_673 dL_law_674 dL_law_675 ?_
      refine lw_ldc LC hl hS (j := 3) (v := (3 : Int32)) (by omega) (by decide) dL_law_676 dL_law_677 dL_law_678 dL_law_679 dL_law_680 ?_
      refine lw_xi (As := [.int (xs (i + 1)), .int (xs (i + 2)), .int (xs (i + 3))]) (rest := []) LC hPx hPm hS hl (k_X9_at (l := l) (LC.OX) (σ := σx) h1) mw_X9_at mi_X9_at mv_X9_at wk_3_75 ⟨Nat.le_of_ble_eq_true rfl, Nat.le_of_ble_eq_true rfl⟩ ⟨rfl, rfl⟩ rfl rfl (Nat.le_of_ble_eq_true rfl) dL_law_681 (fun H locs hPx hPm hS => ?_)
      refine lv_aload_n hx hb dL_law_684 rfl (lv_at hl 2 rfl) ?_
      refine lw_ldc LC hl hS (j := 1) (v := (1 : Int32)) (by omega) (by decide) dL_law_685 dL_law_686 dL_law_687 dL_law_688 dL_law_689 ?_
      refine lw_ldc LC hl hS (j := 2) (v := (2 : Int32)) (by omega) (by decide) dL_law_690 dL_law_691 dL_law_692 dL_law_693 dL_law_694 ?_
      refine lw_ldc LC hl hS (j := 3) (v := (3 : Int32)) (by omega) (by decide) dL_law_695 dL_law_696 dL_law_697 dL_law_698 dL_law_699 ?_
      refine lw_mi (As := [.int (xs (i + 1)), .int (xs (i + 2)), .int (xs (i + 3))]) (rest := [.int r]) LC hPx hPm hS hl (k_X10_at (l := l) (LC.OM) (σ := σm) h2) mw_X10_at mi_X10_at mv_X10_at wk_5_161 ⟨Nat.le_of_ble_eq_true rfl, Nat.le_of_ble_eq_true rfl⟩ ⟨rfl, rfl⟩ rfl rfl (Nat.le_of_ble_eq_true rfl) dL_law_700 (fun H locs hPx hPm hS => ?_)
      refine lv_icmp_eq (tgt := 1767) hx hb dL_law_703 (by decide) (fun _ => ?_) (fun h => absurd rfl h)
      exact go σx2 σm hR2 H locs hPx hPm hS ls hl
    by_cases hk112 : y = (12 : Int32)
    · refine lw_sw LC hk112 (by decide) (by decide) rfl (tgt := 708) (by decide) ?_
      have hop : OP_sees Rl := hops.2.2.2.2.2.2.2.2.2.2.2.2.1
      obtain ⟨r, σx2, σm2, h1, h2, hR2⟩ := hop σx σm (xs (i + 1)) (xs (i + 2)) hR
      refine lv_aload_n hx hb dL_law_708 rfl (lv_at hl 1 rfl) ?_
      refine lw_ldc LC hl hS (j := 1) (v := (1 : Int32)) (by omega) (by decide) dL_law_709 dL_law_710 dL_law_711 dL_law_712 dL_law_713 ?_
      refine lw_ldc LC hl hS (j := 2) (v := (2 : Int32)) (by omega) (by decide) dL_law_714 dL_law_715 dL_law_716 dL_law_717 dL_law_718 ?_
      refine lw_xl (As := [.int (xs (i + 1)), .int (xs (i + 2))]) (rest := []) LC hPx hPm hS hl (k_X9_sees (l := l) (LC.OX) (σ := σx) h1) mw_X9_sees mi_X9_sees mv_X9_sees wk_3_100 ⟨Nat.le_of_ble_eq_true rfl, Nat.le_of_ble_eq_true rfl⟩ ⟨rfl, rfl⟩ rfl rfl (Nat.le_of_ble_eq_true rfl) dL_law_719 (fun H locs hPx hPm hS => ?_)
      refine lv_aload_n hx hb dL_law_722 rfl (lv_at hl 2 rfl) ?_
      refine lw_ldc LC hl hS (j := 1) (v := (1 : Int32)) (by omega) (by decide) dL_law_723 dL_law_724 dL_law_725 dL_law_726 dL_law_727 ?_
      refine lw_ldc LC hl hS (j := 2) (v := (2 : Int32)) (by omega) (by decide) dL_law_728 dL_law_729 dL_law_730 dL_law_731 dL_law_732 ?_
      refine lw_ml (As := [.int (xs (i + 1)), .int (xs (i + 2))]) (rest := [.long r]) LC hPx hPm hS hl (k_X10_sees (l := l) (LC.OM) (σ := σm) h2) mw_X10_sees mi_X10_sees mv_X10_sees wk_5_197 ⟨Nat.le_of_ble_eq_true rfl, Nat.le_of_ble_eq_true rfl⟩ ⟨rfl, rfl⟩ rfl rfl (Nat.le_of_ble_eq_true rfl) dL_law_733 (fun H locs hPx hPm hS => ?_)
      refine W.lcmp hx hb dL_law_736 (lv_if_eq (tgt := 1767) hx hb dL_law_737 (by decide) (fun _ => ?_) (fun h => absurd (lg_eq0.mpr rfl) h))
      exact go σx2 σm2 hR2 H locs hPx hPm hS ls hl
    by_cases hk113 : y = (13 : Int32)
    · refine lw_sw LC hk113 (by decide) (by decide) rfl (tgt := 742) (by decide) ?_
      have hop : OP_watched Rl := hops.2.2.2.2.2.2.2.2.2.2.2.2.2.1
      obtain ⟨r, σx2, σm2, h1, h2, hR2⟩ := hop σx σm (xs (i + 1)) hR
      refine lv_aload_n hx hb dL_law_742 rfl (lv_at hl 1 rfl) ?_
      refine lw_ldc LC hl hS (j := 1) (v := (1 : Int32)) (by omega) (by decide) dL_law_743 dL_law_744 dL_law_745 dL_law_746 dL_law_747 ?_
      refine lw_xl (As := [.int (xs (i + 1))]) (rest := []) LC hPx hPm hS hl (k_X9_watched (l := l) (LC.OX) (σ := σx) h1) mw_X9_watched mi_X9_watched mv_X9_watched wk_3_122 ⟨Nat.le_of_ble_eq_true rfl, Nat.le_of_ble_eq_true rfl⟩ ⟨rfl, rfl⟩ rfl rfl (Nat.le_of_ble_eq_true rfl) dL_law_748 (fun H locs hPx hPm hS => ?_)
      refine lv_aload_n hx hb dL_law_751 rfl (lv_at hl 2 rfl) ?_
      refine lw_ldc LC hl hS (j := 1) (v := (1 : Int32)) (by omega) (by decide) dL_law_752 dL_law_753 dL_law_754 dL_law_755 dL_law_756 ?_
      refine lw_ml (As := [.int (xs (i + 1))]) (rest := [.long r]) LC hPx hPm hS hl (k_X10_watched (l := l) (LC.OM) (σ := σm) h2) mw_X10_watched mi_X10_watched mv_X10_watched wk_5_209 ⟨Nat.le_of_ble_eq_true rfl, Nat.le_of_ble_eq_true rfl⟩ ⟨rfl, rfl⟩ rfl rfl (Nat.le_of_ble_eq_true rfl) dL_law_757 (fun H locs hPx hPm hS => ?_)
      refine W.lcmp hx hb dL_law_760 (lv_if_eq (tgt := 1767) hx hb dL_law_761 (by decide) (fun _ => ?_) (fun h => absurd (lg_eq0.mpr rfl) h))
      exact go σx2 σm2 hR2 H locs hPx hPm hS ls hl
    by_cases hk114 : y = (14 : Int32)
    · refine lw_sw LC hk114 (by decide) (by decide) rfl (tgt := 766) (by decide) ?_
      have hop : OP_alone Rl := hops.2.2.2.2.2.2.2.2.2.2.2.2.2.2.1
      obtain ⟨r, σx2, σm2, h1, h2, hR2⟩ := hop σx σm (xs (i + 1)) hR
      refine lv_aload_n hx hb dL_law_766 rfl (lv_at hl 1 rfl) ?_
      refine lw_ldc LC hl hS (j := 1) (v := (1 : Int32)) (by omega) (by decide) dL_law_767 dL_law_768 dL_law_769 dL_law_770 dL_law_771 ?_
      refine lw_xi (As := [.int (xs (i + 1))]) (rest := []) LC hPx hPm hS hl (k_X9_alone (l := l) (LC.OX) (σ := σx) h1) mw_X9_alone mi_X9_alone mv_X9_alone wk_3_147 ⟨Nat.le_of_ble_eq_true rfl, Nat.le_of_ble_eq_true rfl⟩ ⟨rfl, rfl⟩ rfl rfl (Nat.le_of_ble_eq_true rfl) dL_law_772 (fun H locs hPx hPm hS => ?_)
      refine lv_aload_n hx hb dL_law_775 rfl (lv_at hl 2 rfl) ?_
      refine lw_ldc LC hl hS (j := 1) (v := (1 : Int32)) (by omega) (by decide) dL_law_776 dL_law_777 dL_law_778 dL_law_779 dL_law_780 ?_
      refine lw_mi (As := [.int (xs (i + 1))]) (rest := [.int r]) LC hPx hPm hS hl (k_X10_alone (l := l) (LC.OM) (σ := σm) h2) mw_X10_alone mi_X10_alone mv_X10_alone wk_5_229 ⟨Nat.le_of_ble_eq_true rfl, Nat.le_of_ble_eq_true rfl⟩ ⟨rfl, rfl⟩ rfl rfl (Nat.le_of_ble_eq_true rfl) dL_law_781 (fun H locs hPx hPm hS => ?_)
      refine lv_icmp_eq (tgt := 1767) hx hb dL_law_784 (by decide) (fun _ => ?_) (fun h => absurd rfl h)
      exact go σx2 σm2 hR2 H locs hPx hPm hS ls hl
    by_cases hk115 : y = (15 : Int32)
    · refine lw_sw LC hk115 (by decide) (by decide) rfl (tgt := 789) (by decide) ?_
      have hop : OP_unseen Rl := hops.2.2.2.2.2.2.2.2.2.2.2.2.2.2.2.1
      obtain ⟨r, σx2, σm2, h1, h2, hR2⟩ := hop σx σm (xs (i + 1)) hR
      refine lv_aload_n hx hb dL_law_789 rfl (lv_at hl 1 rfl) ?_
      refine lw_ldc LC hl hS (j := 1) (v := (1 : Int32)) (by omega) (by decide) dL_law_790 dL_law_791 dL_law_792 dL_law_793 dL_law_794 ?_
      refine lw_xi (As := [.int (xs (i + 1))]) (rest := []) LC hPx hPm hS hl (k_X9_unseen (l := l) (LC.OX) (σ := σx) h1) mw_X9_unseen mi_X9_unseen mv_X9_unseen wk_3_151 ⟨Nat.le_of_ble_eq_true rfl, Nat.le_of_ble_eq_true rfl⟩ ⟨rfl, rfl⟩ rfl rfl (Nat.le_of_ble_eq_true rfl) dL_law_795 (fun H locs hPx hPm hS => ?_)
      refine lv_aload_n hx hb dL_law_798 rfl (lv_at hl 2 rfl) ?_
      refine lw_ldc LC hl hS (j := 1) (v := (1 : Int32)) (by omega) (by decide) dL_law_799 dL_law_800 dL_law_801 dL_law_802 dL_law_803 ?_
      refine lw_mi (As := [.int (xs (i + 1))]) (rest := [.int r]) LC hPx hPm hS hl (k_X10_unseen (l := l) (LC.OM) (σ := σm) h2) mw_X10_unseen mi_X10_unseen mv_X10_unseen wk_5_237 ⟨Nat.le_of_ble_eq_true rfl, Nat.le_of_ble_eq_true rfl⟩ ⟨rfl, rfl⟩ rfl rfl (Nat.le_of_ble_eq_true rfl) dL_law_804 (fun H locs hPx hPm hS => ?_)
      refine lv_icmp_eq (tgt := 1767) hx hb dL_law_807 (by decide) (fun _ => ?_) (fun h => absurd rfl h)
      exact go σx2 σm2 hR2 H locs hPx hPm hS ls hl
    by_cases hk116 : y = (16 : Int32)
    · refine lw_sw LC hk116 (by decide) (by decide) rfl (tgt := 812) (by decide) ?_
      have hop : OP_worst Rl := hops.2.2.2.2.2.2.2.2.2.2.2.2.2.2.2.2.1
      obtain ⟨r, σx2, σm2, h1, h2, hR2⟩ := hop σx σm (xs (i + 1)) hR
      refine lv_aload_n hx hb dL_law_812 rfl (lv_at hl 1 rfl) ?_
      refine lw_ldc LC hl hS (j := 1) (v := (1 : Int32)) (by omega) (by decide) dL_law_813 dL_law_814 dL_law_815 dL_law_816 dL_law_817 ?_
      refine lw_xi (As := [.int (xs (i + 1))]) (rest := []) LC hPx hPm hS hl (k_X9_worst (l := l) (LC.OX) (σ := σx) h1) mw_X9_worst mi_X9_worst mv_X9_worst wk_3_160 ⟨Nat.le_of_ble_eq_true rfl, Nat.le_of_ble_eq_true rfl⟩ ⟨rfl, rfl⟩ rfl rfl (Nat.le_of_ble_eq_true rfl) dL_law_818 (fun H locs hPx hPm hS => ?_)
      refine lv_aload_n hx hb dL_law_821 rfl (lv_at hl 2 rfl) ?_
      refine lw_ldc LC hl hS (j := 1) (v := (1 : Int32)) (by omega) (by decide) dL_law_822 dL_law_823 dL_law_824 dL_law_825 dL_law_826 ?_
      refine lw_mi (As := [.int (xs (i + 1))]) (rest := [.int r]) LC hPx hPm hS hl (k_X10_worst (l := l) (LC.OM) (σ := σm) h2) mw_X10_worst mi_X10_worst mv_X10_worst wk_6_5 ⟨Nat.le_of_ble_eq_true rfl, Nat.le_of_ble_eq_true rfl⟩ ⟨rfl, rfl⟩ rfl rfl (Nat.le_of_ble_eq_true rfl) dL_law_827 (fun H locs hPx hPm hS => ?_)
      refine lv_icmp_eq (tgt := 1767) hx hb dL_law_830 (by decide) (fun _ => ?_) (fun h => absurd rfl h)
      exact go σx2 σm2 hR2 H locs hPx hPm hS ls hl
    by_cases hk117 : y = (17 : Int32)
    · refine lw_sw LC hk117 (by decide) (by decide) rfl (tgt := 835) (by decide) ?_
      have hop : OP_soon Rl := hops.2.2.2.2.2.2.2.2.2.2.2.2.2.2.2.2.2.1
      obtain ⟨r, σx2, σm2, h1, h2, hR2⟩ := hop σx σm (xs (i + 1)) (xs (i + 2)) (xs (i + 3)) hR
      refine lv_aload_n hx hb dL_law_835 rfl (lv_at hl 1 rfl) ?_
      refine lw_ldc LC hl hS (j := 1) (v := (1 : Int32)) (by omega) (by decide) dL_law_836 dL_law_837 dL_law_838 dL_law_839 dL_law_840 ?_
      refine lw_ldc LC hl hS (j := 2) (v := (2 : Int32)) (by omega) (by decide) dL_law_841 dL_law_842 dL_law_843 dL_law_844 dL_law_845 ?_
      refine lw_ldc LC hl hS (j := 3) (v := (3 : Int32)) (by omega) (by decide) dL_law_846 dL_law_847 dL_law_848 dL_law_849 dL_law_850 ?_
      refine lw_xi (As := [.int (xs (i + 1)), .int (xs (i + 2)), .int (xs (i + 3))]) (rest := []) LC hPx hPm hS hl (k_X9_soon (l := l) (LC.OX) (σ := σx) h1) mw_X9_soon mi_X9_soon mv_X9_soon wk_3_178 ⟨Nat.le_of_ble_eq_true rfl, Nat.le_of_ble_eq_true rfl⟩ ⟨rfl, rfl⟩ rfl rfl (Nat.le_of_ble_eq_true rfl) dL_law_851 (fun H locs hPx hPm hS => ?_)
      refine lv_aload_n hx hb dL_law_854 rfl (lv_at hl 2 rfl) ?_
      refine lw_ldc LC hl hS (j := 1) (v := (1 : Int32)) (by omega) (by decide) dL_law_855 dL_law_856 dL_law_857 dL_law_858 dL_law_859 ?_
      refine lw_ldc LC hl hS (j := 2) (v := (2 : Int32)) (by omega) (by decide) dL_law_860 dL_law_861 dL_law_862 dL_law_863 dL_law_864 ?_
      refine lw_ldc LC hl hS (j := 3) (v := (3 : Int32)) (by omega) (by decide) dL_law_865 dL_law_866 dL_law_867 dL_law_868 dL_law_869 ?_
      refine lw_mi (As := [.int (xs (i + 1)), .int (xs (i + 2)), .int (xs (i + 3))]) (rest := [.int r]) LC hPx hPm hS hl (k_X10_soon (l := l) (LC.OM) (σ := σm) h2) mw_X10_soon mi_X10_soon mv_X10_soon wk_6_17 ⟨Nat.le_of_ble_eq_true rfl, Nat.le_of_ble_eq_true rfl⟩ ⟨rfl, rfl⟩ rfl rfl (Nat.le_of_ble_eq_true rfl) dL_law_870 (fun H locs hPx hPm hS => ?_)
      refine lv_icmp_eq (tgt := 1767) hx hb dL_law_873 (by decide) (fun _ => ?_) (fun h => absurd rfl h)
      exact go σx2 σm2 hR2 H locs hPx hPm hS ls hl
    by_cases hk118 : y = (18 : Int32)
    · refine lw_sw LC hk118 (by decide) (by decide) rfl (tgt := 878) (by decide) ?_
      have hop : OP_path Rl := hops.2.2.2.2.2.2.2.2.2.2.2.2.2.2.2.2.2.2.1
      obtain ⟨r, σx2, σm2, h1, h2, hR2⟩ := hop σx σm (xs (i + 1)) (xs (i + 2)) (xs (i + 3)) (xs (i + 4)) hR
      refine lv_aload_n hx hb dL_law_878 rfl (lv_at hl 1 rfl) ?_
      refine lw_ldc LC hl hS (j := 1) (v := (1 : Int32)) (by omega) (by decide) dL_law_879 dL_law_880 dL_law_881 dL_law_882 dL_law_883 ?_
      refine lw_ldc LC hl hS (j := 2) (v := (2 : Int32)) (by omega) (by decide) dL_law_884 dL_law_885 dL_law_886 dL_law_887 dL_law_888 ?_
      refine lw_ldc LC hl hS (j := 3) (v := (3 : Int32)) (by omega) (by decide) dL_law_889 dL_law_890 dL_law_891 dL_law_892 dL_law_893 ?_
      refine lw_ldc LC hl hS (j := 4) (v := (4 : Int32)) (by omega) (by decide) dL_law_894 dL_law_895 dL_law_896 dL_law_897 dL_law_898 ?_
      refine lw_xi (As := [.int (xs (i + 1)), .int (xs (i + 2)), .int (xs (i + 3)), .int (xs (i + 4))]) (rest := []) LC hPx hPm hS hl (k_X9_path (l := l) (LC.OX) (σ := σx) h1) mw_X9_path mi_X9_path mv_X9_path wk_3_202 ⟨Nat.le_of_ble_eq_true rfl, Nat.le_of_ble_eq_true rfl⟩ ⟨rfl, rfl⟩ rfl rfl (Nat.le_of_ble_eq_true rfl) dL_law_899 (fun H locs hPx hPm hS => ?_)
      refine lv_aload_n hx hb dL_law_902 rfl (lv_at hl 2 rfl) ?_
      refine lw_ldc LC hl hS (j := 1) (v := (1 : Int32)) (by omega) (by decide) dL_law_903 dL_law_904 dL_law_905 dL_law_906 dL_law_907 ?_
      refine lw_ldc LC hl hS (j := 2) (v := (2 : Int32)) (by omega) (by decide) dL_law_908 dL_law_909 dL_law_910 dL_law_911 dL_law_912 ?_
      refine lw_ldc LC hl hS (j := 3) (v := (3 : Int32)) (by omega) (by decide) dL_law_913 dL_law_914 dL_law_915 dL_law_916 dL_law_917 ?_
      refine lw_ldc LC hl hS (j := 4) (v := (4 : Int32)) (by omega) (by decide) dL_law_918 dL_law_919 dL_law_920 dL_law_921 dL_law_922 ?_
      refine lw_mi (As := [.int (xs (i + 1)), .int (xs (i + 2)), .int (xs (i + 3)), .int (xs (i + 4))]) (rest := [.int r]) LC hPx hPm hS hl (k_X10_path (l := l) (LC.OM) (σ := σm) h2) mw_X10_path mi_X10_path mv_X10_path wk_6_35 ⟨Nat.le_of_ble_eq_true rfl, Nat.le_of_ble_eq_true rfl⟩ ⟨rfl, rfl⟩ rfl rfl (Nat.le_of_ble_eq_true rfl) dL_law_923 (fun H locs hPx hPm hS => ?_)
      refine lv_icmp_eq (tgt := 1767) hx hb dL_law_926 (by decide) (fun _ => ?_) (fun h => absurd rfl h)
      exact go σx2 σm2 hR2 H locs hPx hPm hS ls hl
    by_cases hk119 : y = (19 : Int32)
    · refine lw_sw LC hk119 (by decide) (by decide) rfl (tgt := 931) (by decide) ?_
      have hop : OP_hides Rl := hops.2.2.2.2.2.2.2.2.2.2.2.2.2.2.2.2.2.2.2.1
      obtain ⟨r, σx2, σm2, h1, h2, hR2⟩ := hop σx σm (xs (i + 1)) (xs (i + 2)) (xs (i + 3)) hR
      refine lv_aload_n hx hb dL_law_931 rfl (lv_at hl 1 rfl) ?_
      refine lw_ldc LC hl hS (j := 1) (v := (1 : Int32)) (by omega) (by decide) dL_law_932 dL_law_933 dL_law_934 dL_law_935 dL_law_936 ?_
      refine lw_ldc LC hl hS (j := 2) (v := (2 : Int32)) (by omega) (by decide) dL_law_937 dL_law_938 dL_law_939 dL_law_940 dL_law_941 ?_
      refine lw_ldc LC hl hS (j := 3) (v := (3 : Int32)) (by omega) (by decide) dL_law_942 dL_law_943 dL_law_944 dL_law_945 dL_law_946 ?_
      refine lw_xl (As := [.int (xs (i + 1)), .int (xs (i + 2)), .int (xs (i + 3))]) (rest := []) LC hPx hPm hS hl (k_X9_hides (l := l) (LC.OX) (σ := σx) h1) mw_X9_hides mi_X9_hides mv_X9_hides wk_3_215 ⟨Nat.le_of_ble_eq_true rfl, Nat.le_of_ble_eq_true rfl⟩ ⟨rfl, rfl⟩ rfl rfl (Nat.le_of_ble_eq_true rfl) dL_law_947 (fun H locs hPx hPm hS => ?_)
      refine lv_aload_n hx hb dL_law_950 rfl (lv_at hl 2 rfl) ?_
      refine lw_ldc LC hl hS (j := 1) (v := (1 : Int32)) (by omega) (by decide) dL_law_951 dL_law_952 dL_law_953 dL_law_954 dL_law_955 ?_
      refine lw_ldc LC hl hS (j := 2) (v := (2 : Int32)) (by omega) (by decide) dL_law_956 dL_law_957 dL_law_958 dL_law_959 dL_law_960 ?_
      refine lw_ldc LC hl hS (j := 3) (v := (3 : Int32)) (by omega) (by decide) dL_law_961 dL_law_962 dL_law_963 dL_law_964 dL_law_965 ?_
      refine lw_ml (As := [.int (xs (i + 1)), .int (xs (i + 2)), .int (xs (i + 3))]) (rest := [.long r]) LC hPx hPm hS hl (k_X10_hides (l := l) (LC.OM) (σ := σm) h2) mw_X10_hides mi_X10_hides mv_X10_hides wk_6_43 ⟨Nat.le_of_ble_eq_true rfl, Nat.le_of_ble_eq_true rfl⟩ ⟨rfl, rfl⟩ rfl rfl (Nat.le_of_ble_eq_true rfl) dL_law_966 (fun H locs hPx hPm hS => ?_)
      refine W.lcmp hx hb dL_law_969 (lv_if_eq (tgt := 1767) hx hb dL_law_970 (by decide) (fun _ => ?_) (fun h => absurd (lg_eq0.mpr rfl) h))
      exact go σx2 σm2 hR2 H locs hPx hPm hS ls hl
    by_cases hk120 : y = (20 : Int32)
    · refine lw_sw LC hk120 (by decide) (by decide) rfl (tgt := 975) (by decide) ?_
      have hop : OP_when Rl := hops.2.2.2.2.2.2.2.2.2.2.2.2.2.2.2.2.2.2.2.2.1
      obtain ⟨r, σx2, σm2, h1, h2, hR2⟩ := hop σx σm (xs (i + 1)) (xs (i + 2)) hR
      refine lv_aload_n hx hb dL_law_975 rfl (lv_at hl 1 rfl) ?_
      refine lw_ldc LC hl hS (j := 1) (v := (1 : Int32)) (by omega) (by decide) dL_law_976 dL_law_977 dL_law_978 dL_law_979 dL_law_980 ?_
      refine lw_ldc LC hl hS (j := 2) (v := (2 : Int32)) (by omega) (by decide) dL_law_981 dL_law_982 dL_law_983 dL_law_984 dL_law_985 ?_
      refine lw_xi (As := [.int (xs (i + 1)), .int (xs (i + 2))]) (rest := []) LC hPx hPm hS hl (k_X9_when (l := l) (LC.OX) (σ := σx) h1) mw_X9_when mi_X9_when mv_X9_when wk_3_220 ⟨Nat.le_of_ble_eq_true rfl, Nat.le_of_ble_eq_true rfl⟩ ⟨rfl, rfl⟩ rfl rfl (Nat.le_of_ble_eq_true rfl) dL_law_986 (fun H locs hPx hPm hS => ?_)
      refine lv_aload_n hx hb dL_law_989 rfl (lv_at hl 2 rfl) ?_
      refine lw_ldc LC hl hS (j := 1) (v := (1 : Int32)) (by omega) (by decide) dL_law_990 dL_law_991 dL_law_992 dL_law_993 dL_law_994 ?_
      refine lw_ldc LC hl hS (j := 2) (v := (2 : Int32)) (by omega) (by decide) dL_law_995 dL_law_996 dL_law_997 dL_law_998 dL_law_999 ?_
      refine lw_mi (As := [.int (xs (i + 1)), .int (xs (i + 2))]) (rest := [.int r]) LC hPx hPm hS hl (k_X10_when (l := l) (LC.OM) (σ := σm) h2) mw_X10_when mi_X10_when mv_X10_when wk_6_47 ⟨Nat.le_of_ble_eq_true rfl, Nat.le_of_ble_eq_true rfl⟩ ⟨rfl, rfl⟩ rfl rfl (Nat.le_of_ble_eq_true rfl) dL_law_1000 (fun H locs hPx hPm hS => ?_)
      refine lv_icmp_eq (tgt := 1767) hx hb dL_law_1003 (by decide) (fun _ => ?_) (fun h => absurd rfl h)
      exact go σx2 σm2 hR2 H locs hPx hPm hS ls hl
    by_cases hk121 : y = (21 : Int32)
    · refine lw_sw LC hk121 (by decide) (by decide) rfl (tgt := 1008) (by decide) ?_
      have hop : OP_more Rl := hops.2.2.2.2.2.2.2.2.2.2.2.2.2.2.2.2.2.2.2.2.2.1
      obtain ⟨r, σx2, σm2, h1, h2, hR2⟩ := hop σx σm (xs (i + 1)) (xs (i + 2)) (xs (i + 3)) hR
      refine lv_aload_n hx hb dL_law_1008 rfl (lv_at hl 1 rfl) ?_
      refine lw_ldc LC hl hS (j := 1) (v := (1 : Int32)) (by omega) (by decide) dL_law_1009 dL_law_1010 dL_law_1011 dL_law_1012 dL_law_1013 ?_
      refine lw_ldc LC hl hS (j := 2) (v := (2 : Int32)) (by omega) (by decide) dL_law_1014 dL_law_1015 dL_law_1016 dL_law_1017 dL_law_1018 ?_
      refine lw_ldc LC hl hS (j := 3) (v := (3 : Int32)) (by omega) (by decide) dL_law_1019 dL_law_1020 dL_law_1021 dL_law_1022 dL_law_1023 ?_
      refine lw_xi (As := [.int (xs (i + 1)), .int (xs (i + 2)), .int (xs (i + 3))]) (rest := []) LC hPx hPm hS hl (k_X9_more (l := l) (LC.OX) (σ := σx) h1) mw_X9_more mi_X9_more mv_X9_more wk_3_229 ⟨Nat.le_of_ble_eq_true rfl, Nat.le_of_ble_eq_true rfl⟩ ⟨rfl, rfl⟩ rfl rfl (Nat.le_of_ble_eq_true rfl) dL_law_1024 (fun H locs hPx hPm hS => ?_)
      refine lv_aload_n hx hb dL_law_1027 rfl (lv_at hl 2 rfl) ?_
      refine lw_ldc LC hl hS (j := 1) (v := (1 : Int32)) (by omega) (by decide) dL_law_1028 dL_law_1029 dL_law_1030 dL_law_1031 dL_law_1032 ?_
      refine lw_ldc LC hl hS (j := 2) (v := (2 : Int32)) (by omega) (by decide) dL_law_1033 dL_law_1034 dL_law_1035 dL_law_1036 dL_law_1037 ?_
      refine lw_ldc LC hl hS (j := 3) (v := (3 : Int32)) (by omega) (by decide) dL_law_1038 dL_law_1039 dL_law_1040 dL_law_1041 dL_law_1042 ?_
      refine lw_mi (As := [.int (xs (i + 1)), .int (xs (i + 2)), .int (xs (i + 3))]) (rest := [.int r]) LC hPx hPm hS hl (k_X10_more (l := l) (LC.OM) (σ := σm) h2) mw_X10_more mi_X10_more mv_X10_more wk_6_55 ⟨Nat.le_of_ble_eq_true rfl, Nat.le_of_ble_eq_true rfl⟩ ⟨rfl, rfl⟩ rfl rfl (Nat.le_of_ble_eq_true rfl) dL_law_1043 (fun H locs hPx hPm hS => ?_)
      refine lv_icmp_eq (tgt := 1767) hx hb dL_law_1046 (by decide) (fun _ => ?_) (fun h => absurd rfl h)
      exact go σx2 σm2 hR2 H locs hPx hPm hS ls hl
    by_cases hk122 : y = (22 : Int32)
    · refine lw_sw LC hk122 (by decide) (by decide) rfl (tgt := 1051) (by decide) ?_
      have hop : OP_shift Rl := hops.2.2.2.2.2.2.2.2.2.2.2.2.2.2.2.2.2.2.2.2.2.2.1
      obtain ⟨r, σx2, σm2, h1, h2, hR2⟩ := hop σx σm (xs (i + 1)) (xs (i + 2)) hR
      refine lv_aload_n hx hb dL_law_1051 rfl (lv_at hl 1 rfl) ?_
      refine lw_ldc LC hl hS (j := 1) (v := (1 : Int32)) (by omega) (by decide) dL_law_1052 dL_law_1053 dL_law_1054 dL_law_1055 dL_law_1056 ?_
      refine lw_ldc LC hl hS (j := 2) (v := (2 : Int32)) (by omega) (by decide) dL_law_1057 dL_law_1058 dL_law_1059 dL_law_1060 dL_law_1061 ?_
      refine lw_xi (As := [.int (xs (i + 1)), .int (xs (i + 2))]) (rest := []) LC hPx hPm hS hl (k_X9_shift (l := l) (LC.OX) (σ := σx) h1) mw_X9_shift mi_X9_shift mv_X9_shift wk_4_7 ⟨Nat.le_of_ble_eq_true rfl, Nat.le_of_ble_eq_true rfl⟩ ⟨rfl, rfl⟩ rfl rfl (Nat.le_of_ble_eq_true rfl) dL_law_1062 (fun H locs hPx hPm hS => ?_)
      refine lv_aload_n hx hb dL_law_1065 rfl (lv_at hl 2 rfl) ?_
      refine lw_ldc LC hl hS (j := 1) (v := (1 : Int32)) (by omega) (by decide) dL_law_1066 dL_law_1067 dL_law_1068 dL_law_1069 dL_law_1070 ?_
      refine lw_ldc LC hl hS (j := 2) (v := (2 : Int32)) (by omega) (by decide) dL_law_1071 dL_law_1072 dL_law_1073 dL_law_1074 dL_law_1075 ?_
      refine lw_mi (As := [.int (xs (i + 1)), .int (xs (i + 2))]) (rest := [.int r]) LC hPx hPm hS hl (k_X10_shift (l := l) (LC.OM) (σ := σm) h2) mw_X10_shift mi_X10_shift mv_X10_shift wk_6_59 ⟨Nat.le_of_ble_eq_true rfl, Nat.le_of_ble_eq_true rfl⟩ ⟨rfl, rfl⟩ rfl rfl (Nat.le_of_ble_eq_true rfl) dL_law_1076 (fun H locs hPx hPm hS => ?_)
      refine lv_icmp_eq (tgt := 1767) hx hb dL_law_1079 (by decide) (fun _ => ?_) (fun h => absurd rfl h)
      exact go σx2 σm2 hR2 H locs hPx hPm hS ls hl
    by_cases hk123 : y = (23 : Int32)
    · refine lw_sw LC hk123 (by decide) (by decide) rfl (tgt := 1084) (by decide) ?_
      have hop : OP_holds Rl := hops.2.2.2.2.2.2.2.2.2.2.2.2.2.2.2.2.2.2.2.2.2.2.2.1
      obtain ⟨r, σx2, σm2, h1, h2, hR2⟩ := hop σx σm ((jlshl (Int32.toInt64 (xs (i + 1))) (32 : Int32)) ||| ((Int32.toInt64 (xs (i + 2))) &&& (4294967295 : Int64))) (xs (i + 3)) hR
      refine lv_aload_n hx hb dL_law_1084 rfl (lv_at hl 1 rfl) ?_
      refine lw_ldc LC hl hS (j := 1) (v := (1 : Int32)) (by omega) (by decide) dL_law_1085 dL_law_1086 dL_law_1087 dL_law_1088 dL_law_1089 ?_
      refine lv_i2l hx hb dL_law_1090 rfl ?_
      refine lv_bipush (v := (32 : Int32)) hx hb dL_law_1091 (by decide) ?_
      refine lv_lshl (v := (jlshl (Int32.toInt64 (xs (i + 1))) (32 : Int32))) hx hb dL_law_1093 rfl ?_
      refine lw_ldc LC hl hS (j := 2) (v := (2 : Int32)) (by omega) (by decide) dL_law_1094 dL_law_1095 dL_law_1096 dL_law_1097 dL_law_1098 ?_
      refine lv_i2l hx hb dL_law_1099 rfl ?_
      refine lv_ldc2 hx hb hown (ts _ wk_6_161) dL_law_1100 ?_
      refine lv_land hx hb dL_law_1103 ?_
      refine lv_lor hx hb dL_law_1104 ?_
      refine lw_ldc LC hl hS (j := 3) (v := (3 : Int32)) (by omega) (by decide) dL_law_1105 dL_law_1106 dL_law_1107 dL_law_1108 dL_law_1109 ?_
      refine lw_xi (As := [.long ((jlshl (Int32.toInt64 (xs (i + 1))) (32 : Int32)) ||| ((Int32.toInt64 (xs (i + 2))) &&& (4294967295 : Int64))), .int (xs (i + 3))]) (rest := []) LC hPx hPm hS hl (k_X9_holds (l := l) (LC.OX) (σ := σx) h1) mw_X9_holds mi_X9_holds mv_X9_holds wk_4_15 ⟨Nat.le_of_ble_eq_true rfl, Nat.le_of_ble_eq_true rfl⟩ ⟨rfl, rfl⟩ rfl rfl (Nat.le_of_ble_eq_true rfl) dL_law_1110 (fun H locs hPx hPm hS => ?_)
      refine lv_aload_n hx hb dL_law_1113 rfl (lv_at hl 2 rfl) ?_
      refine lw_ldc LC hl hS (j := 1) (v := (1 : Int32)) (by omega) (by decide) dL_law_1114 dL_law_1115 dL_law_1116 dL_law_1117 dL_law_1118 ?_
      refine lv_i2l hx hb dL_law_1119 rfl ?_
      refine lv_bipush (v := (32 : Int32)) hx hb dL_law_1120 (by decide) ?_
      refine lv_lshl (v := (jlshl (Int32.toInt64 (xs (i + 1))) (32 : Int32))) hx hb dL_law_1122 rfl ?_
      refine lw_ldc LC hl hS (j := 2) (v := (2 : Int32)) (by omega) (by decide) dL_law_1123 dL_law_1124 dL_law_1125 dL_law_1126 dL_law_1127 ?_
      refine lv_i2l hx hb dL_law_1128 rfl ?_
      refine lv_ldc2 hx hb hown (ts _ wk_6_161) dL_law_1129 ?_
      refine lv_land hx hb dL_law_1132 ?_
      refine lv_lor hx hb dL_law_1133 ?_
      refine lw_ldc LC hl hS (j := 3) (v := (3 : Int32)) (by omega) (by decide) dL_law_1134 dL_law_1135 dL_law_1136 dL_law_1137 dL_law_1138 ?_
      refine lw_mi (As := [.long ((jlshl (Int32.toInt64 (xs (i + 1))) (32 : Int32)) ||| ((Int32.toInt64 (xs (i + 2))) &&& (4294967295 : Int64))), .int (xs (i + 3))]) (rest := [.int r]) LC hPx hPm hS hl (k_X10_holds_ (l := l) (LC.OM) (σ := σm) h2) mw_X10_holds_ mi_X10_holds_ mv_X10_holds_ wk_6_63 ⟨Nat.le_of_ble_eq_true rfl, Nat.le_of_ble_eq_true rfl⟩ ⟨rfl, rfl⟩ rfl rfl (Nat.le_of_ble_eq_true rfl) dL_law_1139 (fun H locs hPx hPm hS => ?_)
      refine lv_icmp_eq (tgt := 1767) hx hb dL_law_1142 (by decide) (fun _ => ?_) (fun h => absurd rfl h)
      exact go σx2 σm2 hR2 H locs hPx hPm hS ls hl
    by_cases hk124 : y = (24 : Int32)
    · refine lw_sw LC hk124 (by decide) (by decide) rfl (tgt := 1147) (by decide) ?_
      have hop : OP_bribes Rl := hops.2.2.2.2.2.2.2.2.2.2.2.2.2.2.2.2.2.2.2.2.2.2.2.2.1
      obtain ⟨r, σx2, σm2, h1, h2, hR2⟩ := hop σx σm ((jlshl (Int32.toInt64 (xs (i + 1))) (32 : Int32)) ||| ((Int32.toInt64 (xs (i + 2))) &&& (4294967295 : Int64))) (xs (i + 3)) hR
      refine lv_aload_n hx hb dL_law_1147 rfl (lv_at hl 1 rfl) ?_
      refine lw_ldc LC hl hS (j := 1) (v := (1 : Int32)) (by omega) (by decide) dL_law_1148 dL_law_1149 dL_law_1150 dL_law_1151 dL_law_1152 ?_
      refine lv_i2l hx hb dL_law_1153 rfl ?_
      refine lv_bipush (v := (32 : Int32)) hx hb dL_law_1154 (by decide) ?_
      refine lv_lshl (v := (jlshl (Int32.toInt64 (xs (i + 1))) (32 : Int32))) hx hb dL_law_1156 rfl ?_
      refine lw_ldc LC hl hS (j := 2) (v := (2 : Int32)) (by omega) (by decide) dL_law_1157 dL_law_1158 dL_law_1159 dL_law_1160 dL_law_1161 ?_
      refine lv_i2l hx hb dL_law_1162 rfl ?_
      refine lv_ldc2 hx hb hown (ts _ wk_6_161) dL_law_1163 ?_
      refine lv_land hx hb dL_law_1166 ?_
      refine lv_lor hx hb dL_law_1167 ?_
      refine lw_ldc LC hl hS (j := 3) (v := (3 : Int32)) (by omega) (by decide) dL_law_1168 dL_law_1169 dL_law_1170 dL_law_1171 dL_law_1172 ?_
      refine lw_xi (As := [.long ((jlshl (Int32.toInt64 (xs (i + 1))) (32 : Int32)) ||| ((Int32.toInt64 (xs (i + 2))) &&& (4294967295 : Int64))), .int (xs (i + 3))]) (rest := []) LC hPx hPm hS hl (k_X9_bribes (l := l) (LC.OX) (σ := σx) h1) mw_X9_bribes mi_X9_bribes mv_X9_bribes wk_4_24 ⟨Nat.le_of_ble_eq_true rfl, Nat.le_of_ble_eq_true rfl⟩ ⟨rfl, rfl⟩ rfl rfl (Nat.le_of_ble_eq_true rfl) dL_law_1173 (fun H locs hPx hPm hS => ?_)
      refine lv_aload_n hx hb dL_law_1176 rfl (lv_at hl 2 rfl) ?_
      refine lw_ldc LC hl hS (j := 1) (v := (1 : Int32)) (by omega) (by decide) dL_law_1177 dL_law_1178 dL_law_1179 dL_law_1180 dL_law_1181 ?_
      refine lv_i2l hx hb dL_law_1182 rfl ?_
      refine lv_bipush (v := (32 : Int32)) hx hb dL_law_1183 (by decide) ?_
      refine lv_lshl (v := (jlshl (Int32.toInt64 (xs (i + 1))) (32 : Int32))) hx hb dL_law_1185 rfl ?_
      refine lw_ldc LC hl hS (j := 2) (v := (2 : Int32)) (by omega) (by decide) dL_law_1186 dL_law_1187 dL_law_1188 dL_law_1189 dL_law_1190 ?_
      refine lv_i2l hx hb dL_law_1191 rfl ?_
      refine lv_ldc2 hx hb hown (ts _ wk_6_161) dL_law_1192 ?_
      refine lv_land hx hb dL_law_1195 ?_
      refine lv_lor hx hb dL_law_1196 ?_
      refine lw_ldc LC hl hS (j := 3) (v := (3 : Int32)) (by omega) (by decide) dL_law_1197 dL_law_1198 dL_law_1199 dL_law_1200 dL_law_1201 ?_
      refine lw_mi (As := [.long ((jlshl (Int32.toInt64 (xs (i + 1))) (32 : Int32)) ||| ((Int32.toInt64 (xs (i + 2))) &&& (4294967295 : Int64))), .int (xs (i + 3))]) (rest := [.int r]) LC hPx hPm hS hl (k_X10_bribes (l := l) (LC.OM) (σ := σm) h2) mw_X10_bribes mi_X10_bribes mv_X10_bribes wk_6_71 ⟨Nat.le_of_ble_eq_true rfl, Nat.le_of_ble_eq_true rfl⟩ ⟨rfl, rfl⟩ rfl rfl (Nat.le_of_ble_eq_true rfl) dL_law_1202 (fun H locs hPx hPm hS => ?_)
      refine lv_icmp_eq (tgt := 1767) hx hb dL_law_1205 (by decide) (fun _ => ?_) (fun h => absurd rfl h)
      exact go σx2 σm2 hR2 H locs hPx hPm hS ls hl
    by_cases hk125 : y = (25 : Int32)
    · refine lw_sw LC hk125 (by decide) (by decide) rfl (tgt := 1210) (by decide) ?_
      have hop : OP_fewest Rl := hops.2.2.2.2.2.2.2.2.2.2.2.2.2.2.2.2.2.2.2.2.2.2.2.2.2.1
      obtain ⟨r, σx2, σm2, h1, h2, hR2⟩ := hop σx σm ((jlshl (Int32.toInt64 (xs (i + 1))) (32 : Int32)) ||| ((Int32.toInt64 (xs (i + 2))) &&& (4294967295 : Int64))) (xs (i + 3)) (xs (i + 4)) hR
      refine lv_aload_n hx hb dL_law_1210 rfl (lv_at hl 1 rfl) ?_
      refine lw_ldc LC hl hS (j := 1) (v := (1 : Int32)) (by omega) (by decide) dL_law_1211 dL_law_1212 dL_law_1213 dL_law_1214 dL_law_1215 ?_
      refine lv_i2l hx hb dL_law_1216 rfl ?_
      refine lv_bipush (v := (32 : Int32)) hx hb dL_law_1217 (by decide) ?_
      refine lv_lshl (v := (jlshl (Int32.toInt64 (xs (i + 1))) (32 : Int32))) hx hb dL_law_1219 rfl ?_
      refine lw_ldc LC hl hS (j := 2) (v := (2 : Int32)) (by omega) (by decide) dL_law_1220 dL_law_1221 dL_law_1222 dL_law_1223 dL_law_1224 ?_
      refine lv_i2l hx hb dL_law_1225 rfl ?_
      refine lv_ldc2 hx hb hown (ts _ wk_6_161) dL_law_1226 ?_
      refine lv_land hx hb dL_law_1229 ?_
      refine lv_lor hx hb dL_law_1230 ?_
      refine lw_ldc LC hl hS (j := 3) (v := (3 : Int32)) (by omega) (by decide) dL_law_1231 dL_law_1232 dL_law_1233 dL_law_1234 dL_law_1235 ?_
      refine lw_ldc LC hl hS (j := 4) (v := (4 : Int32)) (by omega) (by decide) dL_law_1236 dL_law_1237 dL_law_1238 dL_law_1239 dL_law_1240 ?_
      refine lw_xi (As := [.long ((jlshl (Int32.toInt64 (xs (i + 1))) (32 : Int32)) ||| ((Int32.toInt64 (xs (i + 2))) &&& (4294967295 : Int64))), .int (xs (i + 3)), .int (xs (i + 4))]) (rest := []) LC hPx hPm hS hl (k_X9_fewest (l := l) (LC.OX) (σ := σx) h1) mw_X9_fewest mi_X9_fewest mv_X9_fewest wk_4_28 ⟨Nat.le_of_ble_eq_true rfl, Nat.le_of_ble_eq_true rfl⟩ ⟨rfl, rfl⟩ rfl rfl (Nat.le_of_ble_eq_true rfl) dL_law_1241 (fun H locs hPx hPm hS => ?_)
      refine lv_aload_n hx hb dL_law_1244 rfl (lv_at hl 2 rfl) ?_
      refine lw_ldc LC hl hS (j := 1) (v := (1 : Int32)) (by omega) (by decide) dL_law_1245 dL_law_1246 dL_law_1247 dL_law_1248 dL_law_1249 ?_
      refine lv_i2l hx hb dL_law_1250 rfl ?_
      refine lv_bipush (v := (32 : Int32)) hx hb dL_law_1251 (by decide) ?_
      refine lv_lshl (v := (jlshl (Int32.toInt64 (xs (i + 1))) (32 : Int32))) hx hb dL_law_1253 rfl ?_
      refine lw_ldc LC hl hS (j := 2) (v := (2 : Int32)) (by omega) (by decide) dL_law_1254 dL_law_1255 dL_law_1256 dL_law_1257 dL_law_1258 ?_
      refine lv_i2l hx hb dL_law_1259 rfl ?_
      refine lv_ldc2 hx hb hown (ts _ wk_6_161) dL_law_1260 ?_
      refine lv_land hx hb dL_law_1263 ?_
      refine lv_lor hx hb dL_law_1264 ?_
      refine lw_ldc LC hl hS (j := 3) (v := (3 : Int32)) (by omega) (by decide) dL_law_1265 dL_law_1266 dL_law_1267 dL_law_1268 dL_law_1269 ?_
      refine lw_ldc LC hl hS (j := 4) (v := (4 : Int32)) (by omega) (by decide) dL_law_1270 dL_law_1271 dL_law_1272 dL_law_1273 dL_law_1274 ?_
      refine lw_mi (As := [.long ((jlshl (Int32.toInt64 (xs (i + 1))) (32 : Int32)) ||| ((Int32.toInt64 (xs (i + 2))) &&& (4294967295 : Int64))), .int (xs (i + 3)), .int (xs (i + 4))]) (rest := [.int r]) LC hPx hPm hS hl (k_X10_fewest (l := l) (LC.OM) (σ := σm) h2) mw_X10_fewest mi_X10_fewest mv_X10_fewest wk_6_75 ⟨Nat.le_of_ble_eq_true rfl, Nat.le_of_ble_eq_true rfl⟩ ⟨rfl, rfl⟩ rfl rfl (Nat.le_of_ble_eq_true rfl) dL_law_1275 (fun H locs hPx hPm hS => ?_)
      refine lv_icmp_eq (tgt := 1767) hx hb dL_law_1278 (by decide) (fun _ => ?_) (fun h => absurd rfl h)
      exact go σx2 σm2 hR2 H locs hPx hPm hS ls hl
    by_cases hk126 : y = (26 : Int32)
    · refine lw_sw LC hk126 (by decide) (by decide) rfl (tgt := 1283) (by decide) ?_
      have hop : OP_judge Rl := hops.2.2.2.2.2.2.2.2.2.2.2.2.2.2.2.2.2.2.2.2.2.2.2.2.2.2.1
      obtain ⟨r, σx2, σm2, h1, h2, hR2⟩ := hop σx σm (xs (i + 1)) (xs (i + 2)) hR
      refine lv_aload_n hx hb dL_law_1283 rfl (lv_at hl 1 rfl) ?_
      refine lw_ldc LC hl hS (j := 1) (v := (1 : Int32)) (by omega) (by decide) dL_law_1284 dL_law_1285 dL_law_1286 dL_law_1287 dL_law_1288 ?_
      refine lw_ldc LC hl hS (j := 2) (v := (2 : Int32)) (by omega) (by decide) dL_law_1289 dL_law_1290 dL_law_1291 dL_law_1292 dL_law_1293 ?_
      refine lw_xi (As := [.int (xs (i + 1)), .int (xs (i + 2))]) (rest := []) LC hPx hPm hS hl (k_X9_judge (l := l) (LC.OX) (σ := σx) h1) mw_X9_judge mi_X9_judge mv_X9_judge wk_4_32 ⟨Nat.le_of_ble_eq_true rfl, Nat.le_of_ble_eq_true rfl⟩ ⟨rfl, rfl⟩ rfl rfl (Nat.le_of_ble_eq_true rfl) dL_law_1294 (fun H locs hPx hPm hS => ?_)
      refine lv_aload_n hx hb dL_law_1297 rfl (lv_at hl 2 rfl) ?_
      refine lw_ldc LC hl hS (j := 1) (v := (1 : Int32)) (by omega) (by decide) dL_law_1298 dL_law_1299 dL_law_1300 dL_law_1301 dL_law_1302 ?_
      refine lw_ldc LC hl hS (j := 2) (v := (2 : Int32)) (by omega) (by decide) dL_law_1303 dL_law_1304 dL_law_1305 dL_law_1306 dL_law_1307 ?_
      refine lw_mi (As := [.int (xs (i + 1)), .int (xs (i + 2))]) (rest := [.int r]) LC hPx hPm hS hl (k_X10_judge (l := l) (LC.OM) (σ := σm) h2) mw_X10_judge mi_X10_judge mv_X10_judge wk_6_79 ⟨Nat.le_of_ble_eq_true rfl, Nat.le_of_ble_eq_true rfl⟩ ⟨rfl, rfl⟩ rfl rfl (Nat.le_of_ble_eq_true rfl) dL_law_1308 (fun H locs hPx hPm hS => ?_)
      refine lv_icmp_eq (tgt := 1767) hx hb dL_law_1311 (by decide) (fun _ => ?_) (fun h => absurd rfl h)
      exact go σx2 σm2 hR2 H locs hPx hPm hS ls hl
    by_cases hk127 : y = (27 : Int32)
    · refine lw_sw LC hk127 (by decide) (by decide) rfl (tgt := 1316) (by decide) ?_
      have hop : OP_which Rl := hops.2.2.2.2.2.2.2.2.2.2.2.2.2.2.2.2.2.2.2.2.2.2.2.2.2.2.2.1
      obtain ⟨r, σx2, σm2, h1, h2, hR2⟩ := hop σx σm (xs (i + 1)) hR
      refine lv_aload_n hx hb dL_law_1316 rfl (lv_at hl 1 rfl) ?_
      refine lw_ldc LC hl hS (j := 1) (v := (1 : Int32)) (by omega) (by decide) dL_law_1317 dL_law_1318 dL_law_1319 dL_law_1320 dL_law_1321 ?_
      refine lw_xl (As := [.int (xs (i + 1))]) (rest := []) LC hPx hPm hS hl (k_X9_which (l := l) (LC.OX) (σ := σx) h1) mw_X9_which mi_X9_which mv_X9_which wk_4_48 ⟨Nat.le_of_ble_eq_true rfl, Nat.le_of_ble_eq_true rfl⟩ ⟨rfl, rfl⟩ rfl rfl (Nat.le_of_ble_eq_true rfl) dL_law_1322 (fun H locs hPx hPm hS => ?_)
      refine lv_aload_n hx hb dL_law_1325 rfl (lv_at hl 2 rfl) ?_
      refine lw_ldc LC hl hS (j := 1) (v := (1 : Int32)) (by omega) (by decide) dL_law_1326 dL_law_1327 dL_law_1328 dL_law_1329 dL_law_1330 ?_
      refine lw_ml (As := [.int (xs (i + 1))]) (rest := [.long r]) LC hPx hPm hS hl (k_X10_which (l := l) (LC.OM) (σ := σm) h2) mw_X10_which mi_X10_which mv_X10_which wk_6_91 ⟨Nat.le_of_ble_eq_true rfl, Nat.le_of_ble_eq_true rfl⟩ ⟨rfl, rfl⟩ rfl rfl (Nat.le_of_ble_eq_true rfl) dL_law_1331 (fun H locs hPx hPm hS => ?_)
      refine W.lcmp hx hb dL_law_1334 (lv_if_eq (tgt := 1767) hx hb dL_law_1335 (by decide) (fun _ => ?_) (fun h => absurd (lg_eq0.mpr rfl) h))
      exact go σx2 σm2 hR2 H locs hPx hPm hS ls hl
    by_cases hk128 : y = (28 : Int32)
    · refine lw_sw LC hk128 (by decide) (by decide) rfl (tgt := 1340) (by decide) ?_
      have hop : OP_laws Rl := hops.2.2.2.2.2.2.2.2.2.2.2.2.2.2.2.2.2.2.2.2.2.2.2.2.2.2.2.2.1
      obtain ⟨r, σx2, σm2, h1, h2, hR2⟩ := hop σx σm (xs (i + 1)) (xs (i + 2)) hR
      refine lv_aload_n hx hb dL_law_1340 rfl (lv_at hl 1 rfl) ?_
      refine lw_ldc LC hl hS (j := 1) (v := (1 : Int32)) (by omega) (by decide) dL_law_1341 dL_law_1342 dL_law_1343 dL_law_1344 dL_law_1345 ?_
      refine lw_ldc LC hl hS (j := 2) (v := (2 : Int32)) (by omega) (by decide) dL_law_1346 dL_law_1347 dL_law_1348 dL_law_1349 dL_law_1350 ?_
      refine lw_xi (As := [.int (xs (i + 1)), .int (xs (i + 2))]) (rest := []) LC hPx hPm hS hl (k_X9_laws (l := l) (LC.OX) (σ := σx) h1) mw_X9_laws mi_X9_laws mv_X9_laws wk_4_52 ⟨Nat.le_of_ble_eq_true rfl, Nat.le_of_ble_eq_true rfl⟩ ⟨rfl, rfl⟩ rfl rfl (Nat.le_of_ble_eq_true rfl) dL_law_1351 (fun H locs hPx hPm hS => ?_)
      refine lv_aload_n hx hb dL_law_1354 rfl (lv_at hl 2 rfl) ?_
      refine lw_ldc LC hl hS (j := 1) (v := (1 : Int32)) (by omega) (by decide) dL_law_1355 dL_law_1356 dL_law_1357 dL_law_1358 dL_law_1359 ?_
      refine lw_ldc LC hl hS (j := 2) (v := (2 : Int32)) (by omega) (by decide) dL_law_1360 dL_law_1361 dL_law_1362 dL_law_1363 dL_law_1364 ?_
      refine lw_mi (As := [.int (xs (i + 1)), .int (xs (i + 2))]) (rest := [.int r]) LC hPx hPm hS hl (k_X10_laws (l := l) (LC.OM) (σ := σm) h2) mw_X10_laws mi_X10_laws mv_X10_laws wk_6_95 ⟨Nat.le_of_ble_eq_true rfl, Nat.le_of_ble_eq_true rfl⟩ ⟨rfl, rfl⟩ rfl rfl (Nat.le_of_ble_eq_true rfl) dL_law_1365 (fun H locs hPx hPm hS => ?_)
      refine lv_icmp_eq (tgt := 1767) hx hb dL_law_1368 (by decide) (fun _ => ?_) (fun h => absurd rfl h)
      exact go σx2 σm2 hR2 H locs hPx hPm hS ls hl
    by_cases hk129 : y = (29 : Int32)
    · refine lw_sw LC hk129 (by decide) (by decide) rfl (tgt := 1373) (by decide) ?_
      have hop : OP_gone Rl := hops.2.2.2.2.2.2.2.2.2.2.2.2.2.2.2.2.2.2.2.2.2.2.2.2.2.2.2.2.2.1
      obtain ⟨r, σx2, σm2, h1, h2, hR2⟩ := hop σx σm (xs (i + 1)) (xs (i + 2)) hR
      refine lv_aload_n hx hb dL_law_1373 rfl (lv_at hl 1 rfl) ?_
      refine lw_ldc LC hl hS (j := 1) (v := (1 : Int32)) (by omega) (by decide) dL_law_1374 dL_law_1375 dL_law_1376 dL_law_1377 dL_law_1378 ?_
      refine lw_ldc LC hl hS (j := 2) (v := (2 : Int32)) (by omega) (by decide) dL_law_1379 dL_law_1380 dL_law_1381 dL_law_1382 dL_law_1383 ?_
      refine lw_xi (As := [.int (xs (i + 1)), .int (xs (i + 2))]) (rest := []) LC hPx hPm hS hl (k_X9_gone (l := l) (LC.OX) (σ := σx) h1) mw_X9_gone mi_X9_gone mv_X9_gone wk_4_60 ⟨Nat.le_of_ble_eq_true rfl, Nat.le_of_ble_eq_true rfl⟩ ⟨rfl, rfl⟩ rfl rfl (Nat.le_of_ble_eq_true rfl) dL_law_1384 (fun H locs hPx hPm hS => ?_)
      refine lv_aload_n hx hb dL_law_1387 rfl (lv_at hl 2 rfl) ?_
      refine lw_ldc LC hl hS (j := 1) (v := (1 : Int32)) (by omega) (by decide) dL_law_1388 dL_law_1389 dL_law_1390 dL_law_1391 dL_law_1392 ?_
      refine lw_ldc LC hl hS (j := 2) (v := (2 : Int32)) (by omega) (by decide) dL_law_1393 dL_law_1394 dL_law_1395 dL_law_1396 dL_law_1397 ?_
      refine lw_mi (As := [.int (xs (i + 1)), .int (xs (i + 2))]) (rest := [.int r]) LC hPx hPm hS hl (k_X10_gone (l := l) (LC.OM) (σ := σm) h2) mw_X10_gone mi_X10_gone mv_X10_gone wk_6_99 ⟨Nat.le_of_ble_eq_true rfl, Nat.le_of_ble_eq_true rfl⟩ ⟨rfl, rfl⟩ rfl rfl (Nat.le_of_ble_eq_true rfl) dL_law_1398 (fun H locs hPx hPm hS => ?_)
      refine lv_icmp_eq (tgt := 1767) hx hb dL_law_1401 (by decide) (fun _ => ?_) (fun h => absurd rfl h)
      exact go σx2 σm2 hR2 H locs hPx hPm hS ls hl
    by_cases hk130 : y = (30 : Int32)
    · refine lw_sw LC hk130 (by decide) (by decide) rfl (tgt := 1406) (by decide) ?_
      have hop : OP_film Rl := hops.2.2.2.2.2.2.2.2.2.2.2.2.2.2.2.2.2.2.2.2.2.2.2.2.2.2.2.2.2.2.1
      obtain ⟨r, σx2, σm2, h1, h2, hR2⟩ := hop σx σm (xs (i + 1)) (xs (i + 2)) hR
      refine lv_aload_n hx hb dL_law_1406 rfl (lv_at hl 1 rfl) ?_
      refine lw_ldc LC hl hS (j := 1) (v := (1 : Int32)) (by omega) (by decide) dL_law_1407 dL_law_1408 dL_law_1409 dL_law_1410 dL_law_1411 ?_
      refine lw_ldc LC hl hS (j := 2) (v := (2 : Int32)) (by omega) (by decide) dL_law_1412 dL_law_1413 dL_law_1414 dL_law_1415 dL_law_1416 ?_
      refine lw_xi (As := [.int (xs (i + 1)), .int (xs (i + 2))]) (rest := []) LC hPx hPm hS hl (k_X9_film (l := l) (LC.OX) (σ := σx) h1) mw_X9_film mi_X9_film mv_X9_film wk_4_64 ⟨Nat.le_of_ble_eq_true rfl, Nat.le_of_ble_eq_true rfl⟩ ⟨rfl, rfl⟩ rfl rfl (Nat.le_of_ble_eq_true rfl) dL_law_1417 (fun H locs hPx hPm hS => ?_)
      refine lv_aload_n hx hb dL_law_1420 rfl (lv_at hl 2 rfl) ?_
      refine lw_ldc LC hl hS (j := 1) (v := (1 : Int32)) (by omega) (by decide) dL_law_1421 dL_law_1422 dL_law_1423 dL_law_1424 dL_law_1425 ?_
      refine lw_ldc LC hl hS (j := 2) (v := (2 : Int32)) (by omega) (by decide) dL_law_1426 dL_law_1427 dL_law_1428 dL_law_1429 dL_law_1430 ?_
      refine lw_mi (As := [.int (xs (i + 1)), .int (xs (i + 2))]) (rest := [.int r]) LC hPx hPm hS hl (k_X10_film (l := l) (LC.OM) (σ := σm) h2) mw_X10_film mi_X10_film mv_X10_film wk_6_103 ⟨Nat.le_of_ble_eq_true rfl, Nat.le_of_ble_eq_true rfl⟩ ⟨rfl, rfl⟩ rfl rfl (Nat.le_of_ble_eq_true rfl) dL_law_1431 (fun H locs hPx hPm hS => ?_)
      refine lv_icmp_eq (tgt := 1767) hx hb dL_law_1434 (by decide) (fun _ => ?_) (fun h => absurd rfl h)
      exact go σx2 σm2 hR2 H locs hPx hPm hS ls hl
    by_cases hk131 : y = (31 : Int32)
    · refine lw_sw LC hk131 (by decide) (by decide) rfl (tgt := 1439) (by decide) ?_
      have hop : OP_drawn Rl := hops.2.2.2.2.2.2.2.2.2.2.2.2.2.2.2.2.2.2.2.2.2.2.2.2.2.2.2.2.2.2.2.1
      obtain ⟨r, σx2, σm2, h1, h2, hR2⟩ := hop σx σm (xs (i + 1)) hR
      refine lv_aload_n hx hb dL_law_1439 rfl (lv_at hl 1 rfl) ?_
      refine lw_ldc LC hl hS (j := 1) (v := (1 : Int32)) (by omega) (by decide) dL_law_1440 dL_law_1441 dL_law_1442 dL_law_1443 dL_law_1444 ?_
      refine lw_xi (As := [.int (xs (i + 1))]) (rest := []) LC hPx hPm hS hl (k_X9_drawn (l := l) (LC.OX) (σ := σx) h1) mw_X9_drawn mi_X9_drawn mv_X9_drawn wk_4_75 ⟨Nat.le_of_ble_eq_true rfl, Nat.le_of_ble_eq_true rfl⟩ ⟨rfl, rfl⟩ rfl rfl (Nat.le_of_ble_eq_true rfl) dL_law_1445 (fun H locs hPx hPm hS => ?_)
      refine lv_aload_n hx hb dL_law_1448 rfl (lv_at hl 2 rfl) ?_
      refine lw_ldc LC hl hS (j := 1) (v := (1 : Int32)) (by omega) (by decide) dL_law_1449 dL_law_1450 dL_law_1451 dL_law_1452 dL_law_1453 ?_
      refine lw_mi (As := [.int (xs (i + 1))]) (rest := [.int r]) LC hPx hPm hS hl (k_X10_drawn (l := l) (LC.OM) (σ := σm) h2) mw_X10_drawn mi_X10_drawn mv_X10_drawn wk_6_107 ⟨Nat.le_of_ble_eq_true rfl, Nat.le_of_ble_eq_true rfl⟩ ⟨rfl, rfl⟩ rfl rfl (Nat.le_of_ble_eq_true rfl) dL_law_1454 (fun H locs hPx hPm hS => ?_)
      refine lv_icmp_eq (tgt := 1767) hx hb dL_law_1457 (by decide) (fun _ => ?_) (fun h => absurd rfl h)
      exact go σx2 σm2 hR2 H locs hPx hPm hS ls hl
    by_cases hk132 : y = (32 : Int32)
    · refine lw_sw LC hk132 (by decide) (by decide) rfl (tgt := 1462) (by decide) ?_
      have hop : OP_mean Rl := hops.2.2.2.2.2.2.2.2.2.2.2.2.2.2.2.2.2.2.2.2.2.2.2.2.2.2.2.2.2.2.2.2.1
      obtain ⟨r, σx2, σm2, h1, h2, hR2⟩ := hop σx σm (xs (i + 1)) (xs (i + 2)) (xs (i + 3)) hR
      refine lv_aload_n hx hb dL_law_1462 rfl (lv_at hl 1 rfl) ?_
      refine lw_ldc LC hl hS (j := 1) (v := (1 : Int32)) (by omega) (by decide) dL_law_1463 dL_law_1464 dL_law_1465 dL_law_1466 dL_law_1467 ?_
      refine lw_ldc LC hl hS (j := 2) (v := (2 : Int32)) (by omega) (by decide) dL_law_1468 dL_law_1469 dL_law_1470 dL_law_1471 dL_law_1472 ?_
      refine lw_ldc LC hl hS (j := 3) (v := (3 : Int32)) (by omega) (by decide) dL_law_1473 dL_law_1474 dL_law_1475 dL_law_1476 dL_law_1477 ?_
      refine lw_xl (As := [.int (xs (i + 1)), .int (xs (i + 2)), .int (xs (i + 3))]) (rest := []) LC hPx hPm hS hl (k_X9_mean (l := l) (LC.OX) (σ := σx) h1) mw_X9_mean mi_X9_mean mv_X9_mean wk_4_87 ⟨Nat.le_of_ble_eq_true rfl, Nat.le_of_ble_eq_true rfl⟩ ⟨rfl, rfl⟩ rfl rfl (Nat.le_of_ble_eq_true rfl) dL_law_1478 (fun H locs hPx hPm hS => ?_)
      refine lv_aload_n hx hb dL_law_1481 rfl (lv_at hl 2 rfl) ?_
      refine lw_ldc LC hl hS (j := 1) (v := (1 : Int32)) (by omega) (by decide) dL_law_1482 dL_law_1483 dL_law_1484 dL_law_1485 dL_law_1486 ?_
      refine lw_ldc LC hl hS (j := 2) (v := (2 : Int32)) (by omega) (by decide) dL_law_1487 dL_law_1488 dL_law_1489 dL_law_1490 dL_law_1491 ?_
      refine lw_ldc LC hl hS (j := 3) (v := (3 : Int32)) (by omega) (by decide) dL_law_1492 dL_law_1493 dL_law_1494 dL_law_1495 dL_law_1496 ?_
      refine lw_ml (As := [.int (xs (i + 1)), .int (xs (i + 2)), .int (xs (i + 3))]) (rest := [.long r]) LC hPx hPm hS hl (k_X10_mean (l := l) (LC.OM) (σ := σm) h2) mw_X10_mean mi_X10_mean mv_X10_mean wk_6_122 ⟨Nat.le_of_ble_eq_true rfl, Nat.le_of_ble_eq_true rfl⟩ ⟨rfl, rfl⟩ rfl rfl (Nat.le_of_ble_eq_true rfl) dL_law_1497 (fun H locs hPx hPm hS => ?_)
      refine W.lcmp hx hb dL_law_1500 (lv_if_eq (tgt := 1767) hx hb dL_law_1501 (by decide) (fun _ => ?_) (fun h => absurd (lg_eq0.mpr rfl) h))
      exact go σx2 σm2 hR2 H locs hPx hPm hS ls hl
    by_cases hk133 : y = (33 : Int32)
    · refine lw_sw LC hk133 (by decide) (by decide) rfl (tgt := 1506) (by decide) ?_
      have hop : OP_image Rl := hops.2.2.2.2.2.2.2.2.2.2.2.2.2.2.2.2.2.2.2.2.2.2.2.2.2.2.2.2.2.2.2.2.2.1
      obtain ⟨r, σx2, σm2, h1, h2, hR2⟩ := hop σx σm  hR
      refine lv_aload_n hx hb dL_law_1506 rfl (lv_at hl 1 rfl) ?_
      refine lw_xi (As := []) (rest := []) LC hPx hPm hS hl (k_X9_image (l := l) (LC.OX) (σ := σx) h1) mw_X9_image mi_X9_image mv_X9_image wk_4_91 ⟨Nat.le_of_ble_eq_true rfl, Nat.le_of_ble_eq_true rfl⟩ ⟨rfl, rfl⟩ rfl rfl (Nat.le_of_ble_eq_true rfl) dL_law_1507 (fun H locs hPx hPm hS => ?_)
      refine lv_aload_n hx hb dL_law_1510 rfl (lv_at hl 2 rfl) ?_
      refine lw_mi (As := []) (rest := [.int r]) LC hPx hPm hS hl (k_X10_image (l := l) (LC.OM) (σ := σm) h2) mw_X10_image mi_X10_image mv_X10_image wk_6_129 ⟨Nat.le_of_ble_eq_true rfl, Nat.le_of_ble_eq_true rfl⟩ ⟨rfl, rfl⟩ rfl rfl (Nat.le_of_ble_eq_true rfl) dL_law_1511 (fun H locs hPx hPm hS => ?_)
      refine lv_icmp_eq (tgt := 1767) hx hb dL_law_1514 (by decide) (fun _ => ?_) (fun h => absurd rfl h)
      exact go σx2 σm2 hR2 H locs hPx hPm hS ls hl
    by_cases hk134 : y = (34 : Int32)
    · refine lw_sw LC hk134 (by decide) (by decide) rfl (tgt := 1519) (by decide) ?_
      have hop : OP_back Rl := hops.2.2.2.2.2.2.2.2.2.2.2.2.2.2.2.2.2.2.2.2.2.2.2.2.2.2.2.2.2.2.2.2.2.2.1
      obtain ⟨r, σx2, σm2, h1, h2, hR2⟩ := hop σx σm  hR
      refine lv_aload_n hx hb dL_law_1519 rfl (lv_at hl 1 rfl) ?_
      refine lw_xi (As := []) (rest := []) LC hPx hPm hS hl (k_X9_back (l := l) (LC.OX) (σ := σx) h1) mw_X9_back mi_X9_back mv_X9_back wk_4_100 ⟨Nat.le_of_ble_eq_true rfl, Nat.le_of_ble_eq_true rfl⟩ ⟨rfl, rfl⟩ rfl rfl (Nat.le_of_ble_eq_true rfl) dL_law_1520 (fun H locs hPx hPm hS => ?_)
      refine lv_aload_n hx hb dL_law_1523 rfl (lv_at hl 2 rfl) ?_
      refine lw_mi (As := []) (rest := [.int r]) LC hPx hPm hS hl (k_X10_back (l := l) (LC.OM) (σ := σm) h2) mw_X10_back mi_X10_back mv_X10_back wk_6_133 ⟨Nat.le_of_ble_eq_true rfl, Nat.le_of_ble_eq_true rfl⟩ ⟨rfl, rfl⟩ rfl rfl (Nat.le_of_ble_eq_true rfl) dL_law_1524 (fun H locs hPx hPm hS => ?_)
      refine lv_icmp_eq (tgt := 1767) hx hb dL_law_1527 (by decide) (fun _ => ?_) (fun h => absurd rfl h)
      exact go σx2 σm2 hR2 H locs hPx hPm hS ls hl
    by_cases hk135 : y = (35 : Int32)
    · refine lw_sw LC hk135 (by decide) (by decide) rfl (tgt := 1532) (by decide) ?_
      have hop : OP_sheet Rl := hops.2.2.2.2.2.2.2.2.2.2.2.2.2.2.2.2.2.2.2.2.2.2.2.2.2.2.2.2.2.2.2.2.2.2.2.1
      obtain ⟨r, σx2, σm2, h1, h2, hR2⟩ := hop σx σm (xs (i + 1)) (xs (i + 2)) (xs (i + 3)) hR
      refine lv_aload_n hx hb dL_law_1532 rfl (lv_at hl 1 rfl) ?_
      refine lw_ldc LC hl hS (j := 1) (v := (1 : Int32)) (by omega) (by decide) dL_law_1533 dL_law_1534 dL_law_1535 dL_law_1536 dL_law_1537 ?_
      refine lw_ldc LC hl hS (j := 2) (v := (2 : Int32)) (by omega) (by decide) dL_law_1538 dL_law_1539 dL_law_1540 dL_law_1541 dL_law_1542 ?_
      refine lw_ldc LC hl hS (j := 3) (v := (3 : Int32)) (by omega) (by decide) dL_law_1543 dL_law_1544 dL_law_1545 dL_law_1546 dL_law_1547 ?_
      refine lw_xi (As := [.int (xs (i + 1)), .int (xs (i + 2)), .int (xs (i + 3))]) (rest := []) LC hPx hPm hS hl (k_X9_sheet (l := l) (LC.OX) (σ := σx) h1) mw_X9_sheet mi_X9_sheet mv_X9_sheet wk_4_108 ⟨Nat.le_of_ble_eq_true rfl, Nat.le_of_ble_eq_true rfl⟩ ⟨rfl, rfl⟩ rfl rfl (Nat.le_of_ble_eq_true rfl) dL_law_1548 (fun H locs hPx hPm hS => ?_)
      refine lv_aload_n hx hb dL_law_1551 rfl (lv_at hl 2 rfl) ?_
      refine lw_ldc LC hl hS (j := 1) (v := (1 : Int32)) (by omega) (by decide) dL_law_1552 dL_law_1553 dL_law_1554 dL_law_1555 dL_law_1556 ?_
      refine lw_ldc LC hl hS (j := 2) (v := (2 : Int32)) (by omega) (by decide) dL_law_1557 dL_law_1558 dL_law_1559 dL_law_1560 dL_law_1561 ?_
      refine lw_ldc LC hl hS (j := 3) (v := (3 : Int32)) (by omega) (by decide) dL_law_1562 dL_law_1563 dL_law_1564 dL_law_1565 dL_law_1566 ?_
      refine lw_mi (As := [.int (xs (i + 1)), .int (xs (i + 2)), .int (xs (i + 3))]) (rest := [.int r]) LC hPx hPm hS hl (k_X10_sheet (l := l) (LC.OM) (σ := σm) h2) mw_X10_sheet mi_X10_sheet mv_X10_sheet wk_6_137 ⟨Nat.le_of_ble_eq_true rfl, Nat.le_of_ble_eq_true rfl⟩ ⟨rfl, rfl⟩ rfl rfl (Nat.le_of_ble_eq_true rfl) dL_law_1567 (fun H locs hPx hPm hS => ?_)
      refine lv_icmp_eq (tgt := 1767) hx hb dL_law_1570 (by decide) (fun _ => ?_) (fun h => absurd rfl h)
      exact go σx2 σm2 hR2 H locs hPx hPm hS ls hl
    by_cases hk136 : y = (36 : Int32)
    · refine lw_sw LC hk136 (by decide) (by decide) rfl (tgt := 1575) (by decide) ?_
      have hop : OP_cell Rl := hops.2.2.2.2.2.2.2.2.2.2.2.2.2.2.2.2.2.2.2.2.2.2.2.2.2.2.2.2.2.2.2.2.2.2.2.2.1
      obtain ⟨r, σx2, σm2, h1, h2, hR2⟩ := hop σx σm (xs (i + 1)) (xs (i + 2)) (xs (i + 3)) hR
      refine lv_aload_n hx hb dL_law_1575 rfl (lv_at hl 1 rfl) ?_
      refine lw_ldc LC hl hS (j := 1) (v := (1 : Int32)) (by omega) (by decide) dL_law_1576 dL_law_1577 dL_law_1578 dL_law_1579 dL_law_1580 ?_
      refine lw_ldc LC hl hS (j := 2) (v := (2 : Int32)) (by omega) (by decide) dL_law_1581 dL_law_1582 dL_law_1583 dL_law_1584 dL_law_1585 ?_
      refine lw_ldc LC hl hS (j := 3) (v := (3 : Int32)) (by omega) (by decide) dL_law_1586 dL_law_1587 dL_law_1588 dL_law_1589 dL_law_1590 ?_
      refine lw_xi (As := [.int (xs (i + 1)), .int (xs (i + 2)), .int (xs (i + 3))]) (rest := []) LC hPx hPm hS hl (k_X9_cell (l := l) (LC.OX) (σ := σx) h1) mw_X9_cell mi_X9_cell mv_X9_cell wk_4_112 ⟨Nat.le_of_ble_eq_true rfl, Nat.le_of_ble_eq_true rfl⟩ ⟨rfl, rfl⟩ rfl rfl (Nat.le_of_ble_eq_true rfl) dL_law_1591 (fun H locs hPx hPm hS => ?_)
      refine lv_aload_n hx hb dL_law_1594 rfl (lv_at hl 2 rfl) ?_
      refine lw_ldc LC hl hS (j := 1) (v := (1 : Int32)) (by omega) (by decide) dL_law_1595 dL_law_1596 dL_law_1597 dL_law_1598 dL_law_1599 ?_
      refine lw_ldc LC hl hS (j := 2) (v := (2 : Int32)) (by omega) (by decide) dL_law_1600 dL_law_1601 dL_law_1602 dL_law_1603 dL_law_1604 ?_
      refine lw_ldc LC hl hS (j := 3) (v := (3 : Int32)) (by omega) (by decide) dL_law_1605 dL_law_1606 dL_law_1607 dL_law_1608 dL_law_1609 ?_
      refine lw_mi (As := [.int (xs (i + 1)), .int (xs (i + 2)), .int (xs (i + 3))]) (rest := [.int r]) LC hPx hPm hS hl (k_X10_cell (l := l) (LC.OM) (σ := σm) h2) mw_X10_cell mi_X10_cell mv_X10_cell wk_6_141 ⟨Nat.le_of_ble_eq_true rfl, Nat.le_of_ble_eq_true rfl⟩ ⟨rfl, rfl⟩ rfl rfl (Nat.le_of_ble_eq_true rfl) dL_law_1610 (fun H locs hPx hPm hS => ?_)
      refine lv_icmp_eq (tgt := 1767) hx hb dL_law_1613 (by decide) (fun _ => ?_) (fun h => absurd rfl h)
      exact go σx2 σm2 hR2 H locs hPx hPm hS ls hl
    by_cases hk137 : y = (37 : Int32)
    · refine lw_sw LC hk137 (by decide) (by decide) rfl (tgt := 1618) (by decide) ?_
      have hop : OP_copy Rl := hops.2.2.2.2.2.2.2.2.2.2.2.2.2.2.2.2.2.2.2.2.2.2.2.2.2.2.2.2.2.2.2.2.2.2.2.2.2.1
      obtain ⟨r, σx2, σm2, h1, h2, hR2⟩ := hop σx σm (xs (i + 1)) (xs (i + 2)) (xs (i + 3)) (xs (i + 4)) (xs (i + 5)) hR
      refine lv_aload_n hx hb dL_law_1618 rfl (lv_at hl 1 rfl) ?_
      refine lw_ldc LC hl hS (j := 1) (v := (1 : Int32)) (by omega) (by decide) dL_law_1619 dL_law_1620 dL_law_1621 dL_law_1622 dL_law_1623 ?_
      refine lw_ldc LC hl hS (j := 2) (v := (2 : Int32)) (by omega) (by decide) dL_law_1624 dL_law_1625 dL_law_1626 dL_law_1627 dL_law_1628 ?_
      refine lw_ldc LC hl hS (j := 3) (v := (3 : Int32)) (by omega) (by decide) dL_law_1629 dL_law_1630 dL_law_1631 dL_law_1632 dL_law_1633 ?_
      refine lw_ldc LC hl hS (j := 4) (v := (4 : Int32)) (by omega) (by decide) dL_law_1634 dL_law_1635 dL_law_1636 dL_law_1637 dL_law_1638 ?_
      refine lw_ldc LC hl hS (j := 5) (v := (5 : Int32)) (by omega) (by decide) dL_law_1639 dL_law_1640 dL_law_1641 dL_law_1642 dL_law_1643 ?_
      refine lw_xi (As := [.int (xs (i + 1)), .int (xs (i + 2)), .int (xs (i + 3)), .int (xs (i + 4)), .int (xs (i + 5))]) (rest := []) LC hPx hPm hS hl (k_X9_copy (l := l) (LC.OX) (σ := σx) h1) mw_X9_copy mi_X9_copy mv_X9_copy wk_4_116 ⟨Nat.le_of_ble_eq_true rfl, Nat.le_of_ble_eq_true rfl⟩ ⟨rfl, rfl⟩ rfl rfl (Nat.le_of_ble_eq_true rfl) dL_law_1644 (fun H locs hPx hPm hS => ?_)
      refine lv_aload_n hx hb dL_law_1647 rfl (lv_at hl 2 rfl) ?_
      refine lw_ldc LC hl hS (j := 1) (v := (1 : Int32)) (by omega) (by decide) dL_law_1648 dL_law_1649 dL_law_1650 dL_law_1651 dL_law_1652 ?_
      refine lw_ldc LC hl hS (j := 2) (v := (2 : Int32)) (by omega) (by decide) dL_law_1653 dL_law_1654 dL_law_1655 dL_law_1656 dL_law_1657 ?_
      refine lw_ldc LC hl hS (j := 3) (v := (3 : Int32)) (by omega) (by decide) dL_law_1658 dL_law_1659 dL_law_1660 dL_law_1661 dL_law_1662 ?_
      refine lw_ldc LC hl hS (j := 4) (v := (4 : Int32)) (by omega) (by decide) dL_law_1663 dL_law_1664 dL_law_1665 dL_law_1666 dL_law_1667 ?_
      refine lw_ldc LC hl hS (j := 5) (v := (5 : Int32)) (by omega) (by decide) dL_law_1668 dL_law_1669 dL_law_1670 dL_law_1671 dL_law_1672 ?_
      refine lw_mi (As := [.int (xs (i + 1)), .int (xs (i + 2)), .int (xs (i + 3)), .int (xs (i + 4)), .int (xs (i + 5))]) (rest := [.int r]) LC hPx hPm hS hl (k_X10_copy (l := l) (LC.OM) (σ := σm) h2) mw_X10_copy mi_X10_copy mv_X10_copy wk_6_145 ⟨Nat.le_of_ble_eq_true rfl, Nat.le_of_ble_eq_true rfl⟩ ⟨rfl, rfl⟩ rfl rfl (Nat.le_of_ble_eq_true rfl) dL_law_1673 (fun H locs hPx hPm hS => ?_)
      refine lv_icmp_eq (tgt := 1767) hx hb dL_law_1676 (by decide) (fun _ => ?_) (fun h => absurd rfl h)
      exact go σx2 σm2 hR2 H locs hPx hPm hS ls hl
    by_cases hk138 : y = (38 : Int32)
    · refine lw_sw LC hk138 (by decide) (by decide) rfl (tgt := 1681) (by decide) ?_
      have hop : OP_guardsBy Rl := hops.2.2.2.2.2.2.2.2.2.2.2.2.2.2.2.2.2.2.2.2.2.2.2.2.2.2.2.2.2.2.2.2.2.2.2.2.2.2.1
      obtain ⟨r, σx2, σm2, h1, h2, hR2⟩ := hop σx σm (xs (i + 1)) (xs (i + 2)) (xs (i + 3)) (xs (i + 4)) hR
      refine lv_aload_n hx hb dL_law_1681 rfl (lv_at hl 1 rfl) ?_
      refine lw_ldc LC hl hS (j := 1) (v := (1 : Int32)) (by omega) (by decide) dL_law_1682 dL_law_1683 dL_law_1684 dL_law_1685 dL_law_1686 ?_
      refine lw_ldc LC hl hS (j := 2) (v := (2 : Int32)) (by omega) (by decide) dL_law_1687 dL_law_1688 dL_law_1689 dL_law_1690 dL_law_1691 ?_
      refine lw_ldc LC hl hS (j := 3) (v := (3 : Int32)) (by omega) (by decide) dL_law_1692 dL_law_1693 dL_law_1694 dL_law_1695 dL_law_1696 ?_
      refine lw_ldc LC hl hS (j := 4) (v := (4 : Int32)) (by omega) (by decide) dL_law_1697 dL_law_1698 dL_law_1699 dL_law_1700 dL_law_1701 ?_
      refine lw_xi (As := [.int (xs (i + 1)), .int (xs (i + 2)), .int (xs (i + 3)), .int (xs (i + 4))]) (rest := []) LC hPx hPm hS hl (k_X9_guardsBy (l := l) (LC.OX) (σ := σx) h1) mw_X9_guardsBy mi_X9_guardsBy mv_X9_guardsBy wk_4_125 ⟨Nat.le_of_ble_eq_true rfl, Nat.le_of_ble_eq_true rfl⟩ ⟨rfl, rfl⟩ rfl rfl (Nat.le_of_ble_eq_true rfl) dL_law_1702 (fun H locs hPx hPm hS => ?_)
      refine lv_aload_n hx hb dL_law_1705 rfl (lv_at hl 2 rfl) ?_
      refine lw_ldc LC hl hS (j := 1) (v := (1 : Int32)) (by omega) (by decide) dL_law_1706 dL_law_1707 dL_law_1708 dL_law_1709 dL_law_1710 ?_
      refine lw_ldc LC hl hS (j := 2) (v := (2 : Int32)) (by omega) (by decide) dL_law_1711 dL_law_1712 dL_law_1713 dL_law_1714 dL_law_1715 ?_
      refine lw_ldc LC hl hS (j := 3) (v := (3 : Int32)) (by omega) (by decide) dL_law_1716 dL_law_1717 dL_law_1718 dL_law_1719 dL_law_1720 ?_
      refine lw_ldc LC hl hS (j := 4) (v := (4 : Int32)) (by omega) (by decide) dL_law_1721 dL_law_1722 dL_law_1723 dL_law_1724 dL_law_1725 ?_
      refine lw_mi (As := [.int (xs (i + 1)), .int (xs (i + 2)), .int (xs (i + 3)), .int (xs (i + 4))]) (rest := [.int r]) LC hPx hPm hS hl (k_X10_guardsBy (l := l) (LC.OM) (σ := σm) h2) mw_X10_guardsBy mi_X10_guardsBy mv_X10_guardsBy wk_6_149 ⟨Nat.le_of_ble_eq_true rfl, Nat.le_of_ble_eq_true rfl⟩ ⟨rfl, rfl⟩ rfl rfl (Nat.le_of_ble_eq_true rfl) dL_law_1726 (fun H locs hPx hPm hS => ?_)
      refine lv_icmp_eq (tgt := 1767) hx hb dL_law_1729 (by decide) (fun _ => ?_) (fun h => absurd rfl h)
      exact go σx2 σm2 hR2 H locs hPx hPm hS ls hl
    by_cases hk139 : y = (39 : Int32)
    · refine lw_sw LC hk139 (by decide) (by decide) rfl (tgt := 1734) (by decide) ?_
      have hop : OP_taken Rl := hops.2.2.2.2.2.2.2.2.2.2.2.2.2.2.2.2.2.2.2.2.2.2.2.2.2.2.2.2.2.2.2.2.2.2.2.2.2.2.2
      obtain ⟨r, h1, h2, hR2⟩ := hop σx σm (xs (i + 1)) (xs (i + 2)) hR
      refine lv_aload_n hx hb dL_law_1734 rfl (lv_at hl 1 rfl) ?_
      refine lw_ldc LC hl hS (j := 1) (v := (1 : Int32)) (by omega) (by decide) dL_law_1735 dL_law_1736 dL_law_1737 dL_law_1738 dL_law_1739 ?_
      refine lw_ldc LC hl hS (j := 2) (v := (2 : Int32)) (by omega) (by decide) dL_law_1740 dL_law_1741 dL_law_1742 dL_law_1743 dL_law_1744 ?_
      refine lw_xi (As := [.int (xs (i + 1)), .int (xs (i + 2))]) (rest := []) LC hPx hPm hS hl (k_X9_taken (l := l) (LC.OX) (σ := σx) h1) mw_X9_taken mi_X9_taken mv_X9_taken wk_4_130 ⟨Nat.le_of_ble_eq_true rfl, Nat.le_of_ble_eq_true rfl⟩ ⟨rfl, rfl⟩ rfl rfl (Nat.le_of_ble_eq_true rfl) dL_law_1745 (fun H locs hPx hPm hS => ?_)
      refine lv_aload_n hx hb dL_law_1748 rfl (lv_at hl 2 rfl) ?_
      refine lw_ldc LC hl hS (j := 1) (v := (1 : Int32)) (by omega) (by decide) dL_law_1749 dL_law_1750 dL_law_1751 dL_law_1752 dL_law_1753 ?_
      refine lw_ldc LC hl hS (j := 2) (v := (2 : Int32)) (by omega) (by decide) dL_law_1754 dL_law_1755 dL_law_1756 dL_law_1757 dL_law_1758 ?_
      refine lw_mi (As := [.int (xs (i + 1)), .int (xs (i + 2))]) (rest := [.int r]) LC hPx hPm hS hl (k_X10_taken (l := l) (LC.OM) (σ := σm) h2) mw_X10_taken mi_X10_taken mv_X10_taken wk_6_154 ⟨Nat.le_of_ble_eq_true rfl, Nat.le_of_ble_eq_true rfl⟩ ⟨rfl, rfl⟩ rfl rfl (Nat.le_of_ble_eq_true rfl) dL_law_1759 (fun H locs hPx hPm hS => ?_)
      refine lv_icmp_eq (tgt := 1767) hx hb dL_law_1762 (by decide) (fun _ => ?_) (fun h => absurd rfl h)
      exact go σx σm hR2 H locs hPx hPm hS ls hl
    refine lv_tableOut (tgt := 1767) hx hb dL_law_33 (by have q100 := lv_neT hk100 (a := 0) (by decide); have q101 := lv_neT hk101 (a := 1) (by decide); have q102 := lv_neT hk102 (a := 2) (by decide); have q103 := lv_neT hk103 (a := 3) (by decide); have q104 := lv_neT hk104 (a := 4) (by decide); have q105 := lv_neT hk105 (a := 5) (by decide); have q106 := lv_neT hk106 (a := 6) (by decide); have q107 := lv_neT hk107 (a := 7) (by decide); have q108 := lv_neT hk108 (a := 8) (by decide); have q109 := lv_neT hk109 (a := 9) (by decide); have q110 := lv_neT hk110 (a := 10) (by decide); have q111 := lv_neT hk111 (a := 11) (by decide); have q112 := lv_neT hk112 (a := 12) (by decide); have q113 := lv_neT hk113 (a := 13) (by decide); have q114 := lv_neT hk114 (a := 14) (by decide); have q115 := lv_neT hk115 (a := 15) (by decide); have q116 := lv_neT hk116 (a := 16) (by decide); have q117 := lv_neT hk117 (a := 17) (by decide); have q118 := lv_neT hk118 (a := 18) (by decide); have q119 := lv_neT hk119 (a := 19) (by decide); have q120 := lv_neT hk120 (a := 20) (by decide); have q121 := lv_neT hk121 (a := 21) (by decide); have q122 := lv_neT hk122 (a := 22) (by decide); have q123 := lv_neT hk123 (a := 23) (by decide); have q124 := lv_neT hk124 (a := 24) (by decide); have q125 := lv_neT hk125 (a := 25) (by decide); have q126 := lv_neT hk126 (a := 26) (by decide); have q127 := lv_neT hk127 (a := 27) (by decide); have q128 := lv_neT hk128 (a := 28) (by decide); have q129 := lv_neT hk129 (a := 29) (by decide); have q130 := lv_neT hk130 (a := 30) (by decide); have q131 := lv_neT hk131 (a := 31) (by decide); have q132 := lv_neT hk132 (a := 32) (by decide); have q133 := lv_neT hk133 (a := 33) (by decide); have q134 := lv_neT hk134 (a := 34) (by decide); have q135 := lv_neT hk135 (a := 35) (by decide); have q136 := lv_neT hk136 (a := 36) (by decide); have q137 := lv_neT hk137 (a := 37) (by decide); have q138 := lv_neT hk138 (a := 38) (by decide); have q139 := lv_neT hk139 (a := 39) (by decide); omega) (by decide) ?_
    exact go σx σm hR H locs hPx hPm hS ls hl
end LW
