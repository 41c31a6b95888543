/-! THE CLAIM OUT OF ONE WALK OF THE LAW'S BODY. Your part is whole_start (and what it stands on); all else here is the same for every law, but numbers. -/
def R_law : String := "FloodTaxLaw"
def lw_P (b : Addr) (xs : List Int32) (args : Array Value) (s : State) : Prop := args = #[.ref b] ∧ s.IntsAt b xs ∧ xs.length ≤ 3072 ∧ (Jvm.Cond.and given_1 narrow_1).before args s = true
def lw_Q (_ : Array Value) (s : State) (o : Outcome) (t : State) : Prop := o = .returned (some (.int 1)) ∧ Framed s o t [] 58 4797
def lw_Z (below : List Frame) (a : Array Value) (s : State) : State → Prop := fun t => ∃ o, t.status = .running ∧ Ended t below o ∧ lw_Q a s o t
/-- the law's own end, with 1 on the stack, nothing written that was there before, its room as the claim has it -/
theorem lw_ret {p : Program} {l : Launch} {e : Env} {s : State} {m : MethodId} {below : List Frame} {meth : Method} {c : Code} {b : Nat} (hx : p.tables.exec = Jvm.exec) (hb : c.code = code) (hr : meth.sig.returnType = ret) (hlocks : meth.locks = false) {pc : Nat} {H : Heap} {ls : Array Slot} (hdg : decode code pc = .ok (.ireturn, 1)) : W p l e room_1 s m #[Value.ref b] below meth c H [] 58 4797 (lw_Z below #[Value.ref b] s) (F0 m pc ls [.int 1]) := by
  intro T hT X
  obtain ⟨fs, hret, hrun, hended, hW, hframe⟩ := X.leave (v := some (.int 1)) (hlocks := hlocks) (fun h => by rw [hr] at h; cases h)
  have hmeth' : T.vm.method? m = some meth := X.method'
  refine ⟨T.setFrames fs, ?_, .returned (some (.int 1)), hrun, hended, rfl, ⟨_, rfl⟩, hW, hframe⟩
  jvm_step X.here [X.here.top, hx, hb, hdg, hmeth', hr, ret, narrow_b1]
  (try refine ⟨rfl, ?_⟩); (try refine ⟨rfl, ?_⟩)
  first | (intro acts; rw [hret _ acts rfl rfl rfl]) | rw [hret _ _ rfl rfl rfl]
  exact Steps.refl _
/-- what holds at the law's entry: the machine, the code, the tables' words (any of lw_tbl by 'hts w (by decide +kernel)'), the script of L ints xs at the cell b, what the Statement gives of the start (any of its parts by flat_of_before) -/
def lw_At (p : Program) (s : State) (m : MethodId) (meth : Method) (c : Code) (b L : Nat) (xs : Nat → Int32) : Prop :=
  p.tables.exec = Jvm.exec ∧ c.code = code ∧ meth.sig.returnType = ret ∧ c.maxLocals = 4 ∧ s.vm.findClass R_law = some m.cls ∧ (∀ w ∈ lw_tbl, w.before #[Value.ref b] s = true) ∧ va_X b L xs s s.heap ∧ b < s.heap.size ∧ meth.locks = false ∧ (Jvm.Cond.and given_1 narrow_1).before #[Value.ref b] s = true
/-! what every walk needs, at the law's entry -/
abbrev tmS (i : Nat) : Term := .string RX6 (sIdx.getD i 0)
theorem fl_of {b : Nat} {s : State} (hgv : (Jvm.Cond.and given_1 narrow_1).before #[Value.ref b] s = true) (w : Cond) (h : w ∈ flatC (Jvm.Cond.and given_1 narrow_1)) : w.before #[Value.ref b] s = true := flat_of_before _ hgv w h
theorem fl_ex : ∀ i, i < 7 → Cond.exactly (tmS i) "java/lang/String" ∈ flatC (Jvm.Cond.and given_1 narrow_1) := by decide +kernel
theorem fl_co : ∀ i, i < 7 → Cond.eq (.field (tmS i) "java/lang/String" "coder" "B") (.int 0) ∈ flatC (Jvm.Cond.and given_1 narrow_1) := by decide +kernel
theorem fl_ar : ∀ i, i < 7 → Cond.arrayOf (.field (tmS i) "java/lang/String" "value" "[B") .byte ∈ flatC (Jvm.Cond.and given_1 narrow_1) := by decide +kernel
theorem fl_le : ∀ i, i < 7 → Cond.eq (.length (.field (tmS i) "java/lang/String" "value" "[B")) (.int (Int32.ofNat (sLen.getD i 0))) ∈ flatC (Jvm.Cond.and given_1 narrow_1) := by decide +kernel
theorem fl_el : ∀ i, i < 7 → ∀ j, j < sLen.getD i 0 → Cond.eq (.elem (.field (tmS i) "java/lang/String" "value" "[B") (.int (Int32.ofNat j))) (.int ((sByt.getD i []).getD j 0)) ∈ flatC (Jvm.Cond.and given_1 narrow_1) := by decide +kernel
theorem fl_ne : ∀ i, i < 7 → ∀ j, j < 7 → i ≠ j → Cond.not (Cond.eq (tmS i) (tmS j)) ∈ flatC (Jvm.Cond.and given_1 narrow_1) ∨ Cond.not (Cond.eq (tmS j) (tmS i)) ∈ flatC (Jvm.Cond.and given_1 narrow_1) := by decide +kernel
theorem fl_cs : Cond.eq (.static "java/lang/String" "COMPACT_STRINGS" "Z") (.int 1) ∈ flatC (Jvm.Cond.and given_1 narrow_1) := by decide +kernel
theorem fl_fm : Cond.isRef (.static "jdk/internal/util/Preconditions" "SIOOBE_FORMATTER" "Ljava/util/function/BiFunction;") ∈ flatC (Jvm.Cond.and given_1 narrow_1) := by decide +kernel
theorem tb_in {w : Cond} (h : w ∈ tables_1) : w ∈ lw_tbl := List.mem_append_right _ h
theorem tb_F : ∀ q ∈ nwF, nF q ∈ tables_1 := by decide +kernel
theorem tb_M : ∀ q ∈ nwM, nM q ∈ tables_1 := by decide +kernel
theorem tb_S : ∀ i, i < 7 → Cond.stringRef RX6 (sIdx.getD i 0) (sTxt.getD i "") ∈ tables_1 := by decide +kernel
theorem tb_ls : Cond.laysStatic "java/lang/String" "COMPACT_STRINGS" "Z" ∈ tables_1 := (List.mem_of_getElem? (i := 418) (by decide +kernel))
theorem tb_lf : Cond.laysStatic "jdk/internal/util/Preconditions" "SIOOBE_FORMATTER" "Ljava/util/function/BiFunction;" ∈ tables_1 := (List.mem_of_getElem? (i := 434) (by decide +kernel))
theorem tb_is : Cond.initialized "java/lang/String" ∈ tables_1 := (List.mem_of_getElem? (i := 11) (by decide +kernel))
theorem tb_if : Cond.initialized "jdk/internal/util/Preconditions" ∈ tables_1 := (List.mem_of_getElem? (i := 13) (by decide +kernel))
theorem tb_aI : Cond.arrayClass .int ∈ tables_1 := (List.mem_of_getElem? (i := 51) (by decide +kernel))
theorem tb_aZ : Cond.arrayClass .boolean ∈ tables_1 := (List.mem_of_getElem? (i := 86) (by decide +kernel))
theorem tb_nX0 : Cond.instantiable RX0 2 ∈ tables_1 := (List.mem_of_getElem? (i := 88) (by decide +kernel))
theorem tb_nX1 : Cond.instantiable RX1 5 ∈ tables_1 := (List.mem_of_getElem? (i := 184) (by decide +kernel))
theorem tb_nX2 : Cond.instantiable RX2 7 ∈ tables_1 := (List.mem_of_getElem? (i := 53) (by decide +kernel))
theorem tb_nX3 : Cond.instantiable RX3 5 ∈ tables_1 := (List.mem_of_getElem? (i := 126) (by decide +kernel))
theorem tb_nX4 : Cond.instantiable RX4 6 ∈ tables_1 := (List.mem_of_getElem? (i := 24) (by decide +kernel))
theorem tb_nX5 : Cond.instantiable RX5 7 ∈ tables_1 := (List.mem_of_getElem? (i := 153) (by decide +kernel))
theorem tb_nX6 : Cond.instantiable RX6 5 ∈ tables_1 := (List.mem_of_getElem? (i := 103) (by decide +kernel))
theorem tb_nX7 : Cond.instantiable RX7 10 ∈ tables_1 := (List.mem_of_getElem? (i := 16) (by decide +kernel))
theorem tb_nX8 : Cond.instantiable RX8 39 ∈ tables_1 := (List.mem_of_getElem? (i := 583) (by decide +kernel))
theorem at_K {b : Nat} {s : State} (hts : ∀ w ∈ lw_tbl, w.before #[Value.ref b] s = true) : ∃ (D : va_G) (cI cZ : ClassId), va_K D classes (TY cI cZ) s := by
  obtain ⟨c0, i0, h0⟩ := u_known (C := RX0) (T := TX0) (N := 2) (n := 2) hts inq_X0 (hts _ (tb_in tb_nX0))
  obtain ⟨c1, i1, h1⟩ := u_known (C := RX1) (T := TX1) (N := 5) (n := 5) hts inq_X1 (hts _ (tb_in tb_nX1))
  obtain ⟨c2, i2, h2⟩ := u_known (C := RX2) (T := TX2) (N := 7) (n := 7) hts inq_X2 (hts _ (tb_in tb_nX2))
  obtain ⟨c3, i3, h3⟩ := u_known (C := RX3) (T := TX3) (N := 5) (n := 5) hts inq_X3 (hts _ (tb_in tb_nX3))
  obtain ⟨c4, i4, h4⟩ := u_known (C := RX4) (T := TX4) (N := 6) (n := 6) hts inq_X4 (hts _ (tb_in tb_nX4))
  obtain ⟨c5, i5, h5⟩ := u_known (C := RX5) (T := TX5) (N := 7) (n := 7) hts inq_X5 (hts _ (tb_in tb_nX5))
  obtain ⟨c6, i6, h6⟩ := u_known (C := RX6) (T := TX6) (N := 5) (n := 5) hts inq_X6 (hts _ (tb_in tb_nX6))
  obtain ⟨c7, i7, h7⟩ := u_known (C := RX7) (T := TX7) (N := 10) (n := 10) hts inq_X7 (hts _ (tb_in tb_nX7))
  obtain ⟨c8, i8, h8⟩ := u_known (C := RX8) (T := TX8) (N := 39) (n := 39) hts inq_X8 (hts _ (tb_in tb_nX8))
  obtain ⟨cI, kI, pI, aI, bI, dI⟩ := Cond.arrayClass_spec (hts _ (tb_in tb_aI))
  obtain ⟨cZ, kZ, pZ, aZ, bZ, dZ⟩ := Cond.arrayClass_spec (hts _ (tb_in tb_aZ))
  refine ⟨(fun k => [c0, c1, c2, c3, c4, c5, c6, c7, c8].getD k c0, fun k => [i0, i1, i2, i3, i4, i5, i6, i7, i8].getD k i0), cI, cZ, ?_, ?_⟩
  · intro k q hq
    match k, hq with
    | 0, hq => cases hq; exact h0
    | 1, hq => cases hq; exact h1
    | 2, hq => cases hq; exact h2
    | 3, hq => cases hq; exact h3
    | 4, hq => cases hq; exact h4
    | 5, hq => cases hq; exact h5
    | 6, hq => cases hq; exact h6
    | 7, hq => cases hq; exact h7
    | 8, hq => cases hq; exact h8
    | k + 9, hq => simp [classes] at hq
  · intro k q hq
    match k, hq with
    | 0, hq => cases hq; exact ⟨fun n z => ⟨fun k h => (by cases h), kI, bI, pI, dI⟩, aI⟩
    | 1, hq => cases hq; exact ⟨fun n z => ⟨fun k h => (by cases h), kZ, bZ, pZ, dZ⟩, aZ⟩
    | k + 2, hq => simp [TY] at hq
theorem at_T {b : Nat} {s : State} {A : Nat → Prop} (hts : ∀ w ∈ lw_tbl, w.before #[Value.ref b] s = true) (hgv : (Jvm.Cond.and given_1 narrow_1).before #[Value.ref b] s = true) (hA : ∀ a : Nat, a < s.heap.size → ¬ A a) : ∃ ad : (Nat → Nat) × (Nat → Nat), ST ad A s s.heap := by
  obtain ⟨adK, adV, h1, h2⟩ := vk_Sof (N := 7) (tm := tmS) (len := sLen) (byt := sByt) (A := A) (by decide) (fun i hi => fl_of hgv _ (fl_ex i hi)) (fun i hi => fl_of hgv _ (fl_co i hi)) (fun i hi => fl_of hgv _ (fl_ar i hi)) (fun i hi => fl_of hgv _ (fl_le i hi)) (fun i hi j hj => fl_of hgv _ (fl_el i hi j hj)) (fun i j hi hj e => (fl_ne i hi j hj e).imp (fl_of hgv _) (fl_of hgv _)) hA
  exact ⟨(adK, adV), h1, va_Zof (hts _ (tb_in tb_ls)) (hts _ (tb_in tb_is)) (va_eqi (fl_of hgv _ fl_cs)) hA, fun i hi => vk_R.of (hts _ (tb_in (tb_S i hi))) (h2 i hi), va_Zqof (hts _ (tb_in tb_lf)) (hts _ (tb_in tb_if)) (fl_of hgv _ fl_fm) hA⟩
theorem at_CX {b : Nat} {s : State} (hts : ∀ w ∈ lw_tbl, w.before #[Value.ref b] s = true) (hgv : (Jvm.Cond.and given_1 narrow_1).before #[Value.ref b] s = true) : ∃ (D : va_G) (cI cZ : ClassId) (ad : (Nat → Nat) × (Nat → Nat)), CX D cI cZ ad (fun q => s.heap.size ≤ q) s := by
  obtain ⟨D, cI, cZ, hK⟩ := at_K hts
  obtain ⟨ad, hT⟩ := at_T (A := fun q => s.heap.size ≤ q) hts hgv (fun a h => Nat.not_le.mpr h)
  exact ⟨D, cI, cZ, ad, hK, ⟨fun q hq => va_Nw.of rfl (hts _ (tb_in (tb_F q hq))), fun q hq => va_Nw.of rfl (hts _ (tb_in (tb_M q hq)))⟩, hT, fun _ h => h⟩
