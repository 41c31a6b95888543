/-! the words that every method may use: all that keep, of the tables -/
def gw : List Cond := lw_tbl.filter goodWord
theorem gw_in {w : Cond} (h : w ∈ gw) : w ∈ lw_tbl := (List.mem_filter.mp h).1
theorem gw_good {w : Cond} (h : w ∈ gw) : goodWord w = true := (List.mem_filter.mp h).2
theorem gw_of {w : Cond} (h : w ∈ tables_1) (g : goodWord w = true) : w ∈ gw := List.mem_filter.mpr ⟨List.mem_append_right _ h, g⟩
theorem gw_ofs {w : Cond} (h : w ∈ k2_sels lw_privs) (g : goodWord w = true) : w ∈ gw := List.mem_filter.mpr ⟨List.mem_append_left _ h, g⟩
theorem gI {Ts : List Cond} (h : ∀ w ∈ gw, w ∈ Ts) {cy : Cond} (hc : cy ∈ gw) : GoodIn Ts (cy :: gw) := fun w hw => by
  rcases List.mem_cons.mp hw with rfl | hw
  · exact ⟨h _ hc, good_of_word (gw_good hc)⟩
  · exact ⟨h _ hw, good_of_word (gw_good hw)⟩
theorem gw_cons {cx : Cond} : ∀ w ∈ gw, w ∈ cx :: gw := fun _ h => List.mem_cons_of_mem _ h
theorem gIV {Ts : List Cond} (h : ∀ w ∈ gw, w ∈ Ts) {cy : Cond} {own C : String} {idx : Nat} {y : MethodName} (h1 : Cond.methodLink own idx y ∈ gw) (hq : Cond.instanceMethod y ∈ gw ∧ Cond.selects C y y ∈ gw ∧ Cond.initialized C ∈ gw ∧ cy ∈ gw) : GoodIn Ts (wsV own idx C y (cy :: gw)) := fun w hw => by
  unfold wsV at hw
  rcases List.mem_append.mp hw with hw | hw
  · have hg : w ∈ gw := by
      simp only [List.mem_cons, List.not_mem_nil, or_false] at hw
      rcases hw with rfl | rfl | rfl | rfl
      · exact h1
      · exact hq.1
      · exact hq.2.1
      · exact hq.2.2.1
    exact ⟨h _ hg, good_of_word (gw_good hg)⟩
  · exact gI h hq.2.2.2 w hw
theorem gIS {Ts : List Cond} (h : ∀ w ∈ gw, w ∈ Ts) {cy : Cond} {own : String} {idx : Nat} {y : MethodName} (h1 : Cond.methodLink own idx y ∈ gw) (hq : Cond.static y ∈ gw ∧ Cond.initialized own ∈ gw ∧ cy ∈ gw) : GoodIn Ts (wsS own idx y (cy :: gw)) := fun w hw => by
  unfold wsS at hw
  rcases List.mem_append.mp hw with hw | hw
  · have hg : w ∈ gw := by
      simp only [List.mem_cons, List.not_mem_nil, or_false] at hw
      rcases hw with rfl | rfl | rfl
      · exact h1
      · exact hq.1
      · exact hq.2.1
    exact ⟨h _ hg, good_of_word (gw_good hg)⟩
  · exact gI h hq.2.2 w hw
abbrev classes : List vw_C := [(RX0, TX0, 2), (RX1, TX1, 5), (RX2, TX2, 7), (RX3, TX3, 5), (RX4, TX4, 6), (RX5, TX5, 7), (RX6, TX6, 5), (RX7, TX7, 10), (RX8, TX8, 39)]
abbrev TY (cI cZ : ClassId) : List (ClassId × FieldType) := [(cI, .int), (cZ, .boolean)]
/-! private members of nest mates -/
def nwF : List (String × Nat × String × String × String × String) := [(RX7, 101, RX2, "strips", "I", "FloodTax"), (RX7, 110, RX2, "widths", "[I", "FloodTax"), (RX7, 113, RX2, "register", "[I", "FloodTax"), (RX7, 116, RX2, "levels", "[I", "FloodTax"), (RX7, 119, RX2, "owners", "[I", "FloodTax"), (RX7, 128, RX2, "lost", "[Z", "FloodTax"), (RX7, 142, RX0, "fromDays", "[I", "FloodTax"), (RX7, 145, RX0, "sheavesARope", "[I", "FloodTax"), (RX7, 158, RX6, "length", "I", "FloodTax"), (RX7, 168, RX1, "size", "I", "FloodTax"), (RX7, 174, RX3, "due", "I", "FloodTax"), (RX7, 177, RX3, "relieved", "I", "FloodTax"), (RX7, 180, RX3, "toOfficer", "I", "FloodTax"), (RX7, 183, RX3, "toKing", "I", "FloodTax"), (RX7, 186, RX3, "toOwner", "I", "FloodTax"), (RX7, 190, RX5, "size", "I", "FloodTax"), (RX7, 200, RX5, "own", "[I", "FloodTax"), (RX7, 227, RX5, "all", "[I", "FloodTax"), (RX7, 80, RX4, "told", "I", "FloodTax"), (RX7, 94, RX4, "seen", "[I", "FloodTax"), (RX7, 98, RX4, "seenPeak", "I", "FloodTax"), (RX6, 28, RX1, "size", "I", "FloodTax")]
def nwM : List (String × Nat × MethodName × String) := [(RX7, 9, yX4_init, "FloodTax"), (RX7, 18, yX2_init, "FloodTax"), (RX7, 25, yX0_init, "FloodTax"), (RX7, 32, yX6_init, "FloodTax"), (RX7, 39, yX3_init, "FloodTax"), (RX7, 46, yX5_init, "FloodTax"), (RX7, 53, yX1_init, "FloodTax"), (RX1, 36, yX7_share, "FloodTax")]
abbrev nF (q : String × Nat × String × String × String × String) : Cond := .fieldLinkNest q.1 q.2.1 q.2.2.1 q.2.2.2.1 q.2.2.2.2.1 q.2.2.2.2.2
abbrev nM (q : String × Nat × MethodName × String) : Cond := .methodLinkNest q.1 q.2.1 q.2.2.1 q.2.2.2
def EN (U : State) : Prop := (∀ q ∈ nwF, va_Nw (nF q) U) ∧ ∀ q ∈ nwM, va_Nw (nM q) U
theorem EN.same {u U : State} (h : u.vm = U.vm) (hE : EN u) : EN U := ⟨fun q hq => va_Nw.same rfl h (hE.1 q hq), fun q hq => va_Nw.same rfl h (hE.2 q hq)⟩
theorem EN.warm {s U : State} (hW : s.WarmedH U.vm) (hE : EN s) : EN U := ⟨fun q hq => va_Nw.warmF hW (hE.1 q hq), fun q hq => va_Nw.warmM hW (hE.2 q hq)⟩
theorem EN.f {s : State} {args : Array Value} (hE : EN s) (i : Nat) {q : String × Nat × String × String × String × String} (h : nwF[i]? = some q) : (nF q).before args s = true := va_Nw.use rfl (hE.1 q (List.mem_of_getElem? h))
theorem EN.m {s : State} (hE : EN s) (i : Nat) {q : String × Nat × MethodName × String} (h : nwM[i]? = some q) : va_Nw (nM q) s := hE.2 q (List.mem_of_getElem? h)
/-! the seven String constants of the tape -/
def sIdx : List Nat := [56, 71, 73, 75, 77, 79, 81]
def sTxt : List String := ["of", "tax", "relief", "free", "officer", "from", "below"]
def sLen : List Nat := [2, 3, 6, 4, 7, 4, 5]
def sByt : List (List Int32) := [[111, 102], [116, 97, 120], [114, 101, 108, 105, 101, 102], [102, 114, 101, 101], [111, 102, 102, 105, 99, 101, 114], [102, 114, 111, 109], [98, 101, 108, 111, 119]]
def ST (ad : (Nat → Nat) × (Nat → Nat)) (A : Nat → Prop) (U : State) (H : Heap) : Prop := vk_S 7 sLen sByt ad.1 ad.2 A U H ∧ va_Z "java/lang/String" "COMPACT_STRINGS" "Z" (.int 1) A U H ∧ (∀ i, i < 7 → vk_R RX6 (sIdx.getD i 0) (sTxt.getD i "") (ad.1 i) U) ∧ va_Zq "jdk/internal/util/Preconditions" "SIOOBE_FORMATTER" "Ljava/util/function/BiFunction;" A U H
theorem ST.same {ad : (Nat → Nat) × (Nat → Nat)} {A : Nat → Prop} {u U : State} {H : Heap} (hv : U.vm = u.vm) (h : ST ad A u H) : ST ad A U H :=
  ⟨h.1.moved (by rw [hv]; exact Vm.Alike.refl _), h.2.1.moved (by rw [hv]; exact Vm.Alike.refl _), fun i hi => (h.2.2.1 i hi).same hv, h.2.2.2.moved (by rw [hv]; exact Vm.Alike.refl _)⟩
theorem ST.go {ad : (Nat → Nat) × (Nat → Nat)} {A B : Nat → Prop} {s U : State} {H0 H : Heap} (h : ST ad A s H0) (hk : ∀ a : Nat, a < H0.size → ¬ A a → H[a]? = H0[a]?) (hAB : ∀ q, B q → A q) (hW : s.WarmedH U.vm) : ST ad B U H :=
  ⟨((h.1.kept hk).narrow hAB).moved hW.alike, ((h.2.1.kept hk).narrow hAB).moved hW.alike, fun i hi => (h.2.2.1 i hi).warm hW, ((h.2.2.2.kept hk).narrow hAB).moved hW.alike⟩
/-! a method's start, its end, what holds all the while -/
def PC (D : va_G) (cI cZ : ClassId) (ad : (Nat → Nat) × (Nat → Nat)) (sz : Nat) (ws : va_W) (U : State) : Prop := U.heap.size = sz ∧ va_P D classes ws U.heap ∧ va_K D classes (TY cI cZ) U ∧ va_D (fun _ => True) ws ∧ EN U ∧ ST ad (va_A ws sz) U U.heap
def PW {S : Type} (D : va_G) (A : Nat → Prop) (w : S → va_W) (u : S) (t : State) : Prop := va_P D classes (w u) t.heap ∧ va_D A (w u)
def CX (D : va_G) (cI cZ : ClassId) (ad : (Nat → Nat) × (Nat → Nat)) (A : Nat → Prop) (s : State) : Prop := va_K D classes (TY cI cZ) s ∧ EN s ∧ ST ad A s s.heap ∧ ∀ q, s.heap.size ≤ q → A q
theorem PC.blind {av : List Value} {D : va_G} {cI cZ : ClassId} {ad : (Nat → Nat) × (Nat → Nat)} {sz : Nat} {ws : va_W} : FrameBlind (va_Pc av (PC D cI cZ ad sz ws)) := fun a U g mk q => by
  obtain ⟨q0, q1, qP, qK, qD, qE, qT⟩ := q
  exact ⟨q0, q1, qP, va_K.moved (u := U) (U := U.calling g mk a) (Vm.Alike.refl U.vm) qK, qD, qE.same rfl, ST.same (u := U) (U := U.calling g mk a) rfl qT⟩
theorem PC.start {D : va_G} {cI cZ : ClassId} {ad : (Nat → Nat) × (Nat → Nat)} {sz : Nat} {ws : va_W} {s : State} (h : PC D cI cZ ad sz ws s) : CX D cI cZ ad (va_A ws sz) s ∧ va_P D classes ws s.heap ∧ va_D (va_A ws sz) ws := by
  obtain ⟨q1, qP, qK, qD, qE, qT⟩ := h
  subst q1
  exact ⟨⟨qK, qE, qT, fun q h => Or.inr h⟩, qP, qD.self⟩
theorem en_fr {m : MethodId} {args : Array Value} (vs : List Value) (n : Nat) (h : args = vs.toArray) (hn : (lg_sl vs).length ≤ n) : ∃ ls, entryFrame m args n = F0 m 0 ls [] ∧ lv_has ls n (lv_args 0 vs) := by
  subst h
  exact ⟨_, lg_entry_eq m vs n, lv_entry vs hn⟩
section CALLS
variable {p : Program} {l : Launch} {e : Env} {R : Room} {s : State} {m : MethodId} {args : Array Value} {below : List Frame} {meth : Method} {c : Code} {H : Heap} {locs : List Loc} {cells slots : Nat} {Q : State → Prop}
variable {pc : Nat} {ls : Array Slot} {rest st0 : List Value} {A : Nat → Prop} {D : va_G} {cI cZ : ClassId} {ad : (Nat → Nat) × (Nat → Nat)} {ws wc : va_W}
variable {y : MethodName} {bytes cc : ByteArray} {maxL nL n index : Nat} {ret : Option FieldType} {wy : List Cond} {rm : Room} {Ts : List Cond} {own C : String} {b : Addr} {As : List Value}
theorem PC.give {av : List Value} (X : CX D cI cZ ad A s) (hP : va_P D classes ws H) (hD : va_D A ws) (hS : va_S A s.heap H locs) (isC : List Nat) (hC : isC.map (fun i => ws[i]?) = wc.map some) (hnC : va_nd isC = true) : ∀ U : State, U.heap = H → s.WarmedH U.vm → va_Pc av (PC D cI cZ ad H.size wc) av.toArray U := by
  intro U hU hW
  have hPc : va_P D classes wc H := fun k q hq => by
    have h1 : (isC.map (fun i => ws[i]?))[k]? = some (some q) := by rw [hC, List.getElem?_map, hq]; rfl
    rw [List.getElem?_map] at h1
    cases hi : isC[k]? with
    | none => rw [hi] at h1; cases h1
    | some i => rw [hi] at h1; exact hP i q (Option.some.inj h1)
  have hF := va_free (wc := wc) hD hS X.2.2.2 isC hC
  refine ⟨rfl, by rw [hU], by rw [hU]; exact hPc, va_K.moved hW.alike X.1, (hD.sub isC hnC hC).weaken (fun _ _ _ _ => trivial), X.2.1.warm hW, ?_⟩
  rw [hU]
  exact X.2.2.1.go hS.2.1 hF hW
theorem va_sub' (hP : va_P D classes ws H) (isC : List Nat) (hC : isC.map (fun i => ws[i]?) = wc.map some) : va_P D classes wc H := fun k q hq => by
  have h1 : (isC.map (fun i => ws[i]?))[k]? = some (some q) := by rw [hC, List.getElem?_map, hq]; rfl
  rw [List.getElem?_map] at h1
  cases hi : isC[k]? with
  | none => rw [hi] at h1; cases h1
  | some i => rw [hi] at h1; exact hP i q (Option.some.inj h1)
/-- what a call leaves: the caller's cells in their order -/
theorem va_back {S : Type} {w1 ws2 : S → va_W} {u : S} {t : State} {H1 : Heap} (X : CX D cI cZ ad A s) (hP : va_P D classes ws H) (hD : va_D A ws) (hS : va_S A s.heap H locs) (isC isR perm : List Nat) (hC : isC.map (fun i => ws[i]?) = wc.map some) (hR : isR.map (fun i => ws[i]?) = (isR.filterMap (fun i => ws[i]?)).map some) (hn : va_nd isR = true) (hdis : isR.all (fun i => !isC.contains i) = true) (hpn : va_nd perm = true) (hpm : ∀ u, perm.map (fun i => (isR.filterMap (fun i => ws[i]?) ++ w1 u)[i]?) = (ws2 u).map some) (ht : t.heap = H1) (hB : PW D (va_A wc H.size) w1 u t) (hk : ∀ q : Nat, q < H.size → ¬ va_A wc H.size q → H1[q]? = H[q]?) : va_P D classes (ws2 u) H1 ∧ va_D A (ws2 u) := by
  have hF := va_free (wc := wc) hD hS X.2.2.2 isC hC
  have hdis' : ∀ i ∈ isR, i ∉ isC := fun i hi hc => by
    have := List.all_eq_true.mp hdis i hi
    simp [hc] at this
  obtain ⟨h1, h2⟩ := va_join (wr := isR.filterMap (fun i => ws[i]?)) (w1 := w1 u) hP hD isC isR hC hR hn hdis' hk hF (by rw [← ht]; exact hB.1) hB.2
  exact ⟨va_sub' h1 perm (hpm u), h2.sub perm hpn (hpm u)⟩
theorem cv_i {S : Type} {post : Int32 → S → Prop} {w1 ws2 : S → va_W} (hfx : CallFix p m c cc nL s args Ts own) (hM : Met l y wy rm (va_Pc (.ref b :: As) (PC D cI cZ ad H.size wc)) (va_Qi post (PW D (va_A wc H.size) w1) (va_A wc H.size)) 0 0 (va_A wc H.size)) (cw : CallW R s args own C index y bytes maxL ret wy rm 0 0 n)
    (X : CX D cI cZ ad A s) (hP : va_P D classes ws H) (hD : va_D A ws) (hS : va_S A s.heap H locs) (isC isR perm : List Nat) (hC : isC.map (fun i => ws[i]?) = wc.map some) (hnC : va_nd isC = true) (hR : isR.map (fun i => ws[i]?) = (isR.filterMap (fun i => ws[i]?)).map some) (hn : va_nd isR = true) (hdis : isR.all (fun i => !isC.contains i) = true) (hpn : va_nd perm = true) (hpm : ∀ u, perm.map (fun i => (isR.filterMap (fun i => ws[i]?) ++ w1 u)[i]?) = (ws2 u).map some)
    (q0 ci : Nat) {T : u_T} {N : Nat} {fs : List Value} (he : wc[q0]? = some (b, .inr (ci, fs))) (hcl : classes[ci]? = some (C, T, N))
    (hn2 : As.length = n) (hsz : lv_has ls nL []) (hst : st0 = As.reverse ++ .ref b :: rest) (hroom : (rest.map fun v => v.category).sum ≤ 8) (hdg : decode cc pc = .ok (.invokevirtual index, 3)) (hfit : cells ≤ R.cells ∧ slots ≤ R.slots)
    (kk : ∀ (r : Int32) (u : S) (H1 : Heap) (locs1 : List Loc), post r u → va_P D classes (ws2 u) H1 → va_D A (ws2 u) → va_S A s.heap H1 locs1 → W p l e R s m args below meth c H1 locs1 cells slots Q (F0 m (pc + 3) ls (.int r :: rest))) : W p l e R s m args below meth c H locs cells slots Q (F0 m pc ls st0) := by
  have hF := va_free (wc := wc) hD hS X.2.2.2 isC hC
  refine va_calli (va_runV (As := As) (rest := rest) hfx hM cw ⟨PC.blind, va_recv X.1 (va_sub' hP isC hC) hcl he, PC.give X hP hD hS isC hC hnC⟩ rfl hn2 hsz.1 hst (lv_room hroom) hdg hfit) hS (fun q _ h => hF q h) hF (fun r u t H1 locs1 ht hvm hw hB hz1 hk1 hS1 => ?_)
  obtain ⟨g1, g2⟩ := va_back X hP hD hS isC isR perm hC hR hn hdis hpn hpm ht hB hk1
  exact kk r u H1 locs1 hw g1 g2 hS1
theorem cv_v {S : Type} {post : S → Prop} {w1 ws2 : S → va_W} (hfx : CallFix p m c cc nL s args Ts own) (hM : Met l y wy rm (va_Pc (.ref b :: As) (PC D cI cZ ad H.size wc)) (va_Qv post (PW D (va_A wc H.size) w1) (va_A wc H.size)) 0 0 (va_A wc H.size)) (cw : CallW R s args own C index y bytes maxL ret wy rm 0 0 n)
    (X : CX D cI cZ ad A s) (hP : va_P D classes ws H) (hD : va_D A ws) (hS : va_S A s.heap H locs) (isC isR perm : List Nat) (hC : isC.map (fun i => ws[i]?) = wc.map some) (hnC : va_nd isC = true) (hR : isR.map (fun i => ws[i]?) = (isR.filterMap (fun i => ws[i]?)).map some) (hn : va_nd isR = true) (hdis : isR.all (fun i => !isC.contains i) = true) (hpn : va_nd perm = true) (hpm : ∀ u, perm.map (fun i => (isR.filterMap (fun i => ws[i]?) ++ w1 u)[i]?) = (ws2 u).map some)
    (q0 ci : Nat) {T : u_T} {N : Nat} {fs : List Value} (he : wc[q0]? = some (b, .inr (ci, fs))) (hcl : classes[ci]? = some (C, T, N))
    (hn2 : As.length = n) (hsz : lv_has ls nL []) (hst : st0 = As.reverse ++ .ref b :: rest) (hroom : (rest.map fun v => v.category).sum ≤ 8) (hdg : decode cc pc = .ok (.invokevirtual index, 3)) (hfit : cells ≤ R.cells ∧ slots ≤ R.slots)
    (kk : ∀ (u : S) (H1 : Heap) (locs1 : List Loc), post u → va_P D classes (ws2 u) H1 → va_D A (ws2 u) → va_S A s.heap H1 locs1 → W p l e R s m args below meth c H1 locs1 cells slots Q (F0 m (pc + 3) ls rest)) : W p l e R s m args below meth c H locs cells slots Q (F0 m pc ls st0) := by
  have hF := va_free (wc := wc) hD hS X.2.2.2 isC hC
  refine va_callv (va_runV (As := As) (rest := rest) hfx hM cw ⟨PC.blind, va_recv X.1 (va_sub' hP isC hC) hcl he, PC.give X hP hD hS isC hC hnC⟩ rfl hn2 hsz.1 hst (lv_room hroom) hdg hfit) hS (fun q _ h => hF q h) hF (fun u t H1 locs1 ht hvm hw hB hz1 hk1 hS1 => ?_)
  obtain ⟨g1, g2⟩ := va_back X hP hD hS isC isR perm hC hR hn hdis hpn hpm ht hB hk1
  exact kk u H1 locs1 hw g1 g2 hS1
theorem cv_l {S : Type} {post : Int64 → S → Prop} {w1 ws2 : S → va_W} (hfx : CallFix p m c cc nL s args Ts own) (hM : Met l y wy rm (va_Pc (.ref b :: As) (PC D cI cZ ad H.size wc)) (va_Ql post (PW D (va_A wc H.size) w1) (va_A wc H.size)) 0 0 (va_A wc H.size)) (cw : CallW R s args own C index y bytes maxL ret wy rm 0 0 n)
    (X : CX D cI cZ ad A s) (hP : va_P D classes ws H) (hD : va_D A ws) (hS : va_S A s.heap H locs) (isC isR perm : List Nat) (hC : isC.map (fun i => ws[i]?) = wc.map some) (hnC : va_nd isC = true) (hR : isR.map (fun i => ws[i]?) = (isR.filterMap (fun i => ws[i]?)).map some) (hn : va_nd isR = true) (hdis : isR.all (fun i => !isC.contains i) = true) (hpn : va_nd perm = true) (hpm : ∀ u, perm.map (fun i => (isR.filterMap (fun i => ws[i]?) ++ w1 u)[i]?) = (ws2 u).map some)
    (q0 ci : Nat) {T : u_T} {N : Nat} {fs : List Value} (he : wc[q0]? = some (b, .inr (ci, fs))) (hcl : classes[ci]? = some (C, T, N))
    (hn2 : As.length = n) (hsz : lv_has ls nL []) (hst : st0 = As.reverse ++ .ref b :: rest) (hroom : (rest.map fun v => v.category).sum ≤ 8) (hdg : decode cc pc = .ok (.invokevirtual index, 3)) (hfit : cells ≤ R.cells ∧ slots ≤ R.slots)
    (kk : ∀ (r : Int64) (u : S) (H1 : Heap) (locs1 : List Loc), post r u → va_P D classes (ws2 u) H1 → va_D A (ws2 u) → va_S A s.heap H1 locs1 → W p l e R s m args below meth c H1 locs1 cells slots Q (F0 m (pc + 3) ls (.long r :: rest))) : W p l e R s m args below meth c H locs cells slots Q (F0 m pc ls st0) := by
  have hF := va_free (wc := wc) hD hS X.2.2.2 isC hC
  refine va_calll (va_runV (As := As) (rest := rest) hfx hM cw ⟨PC.blind, va_recv X.1 (va_sub' hP isC hC) hcl he, PC.give X hP hD hS isC hC hnC⟩ rfl hn2 hsz.1 hst (lv_room hroom) hdg hfit) hS (fun q _ h => hF q h) hF (fun r u t H1 locs1 ht hvm hw hB hz1 hk1 hS1 => ?_)
  obtain ⟨g1, g2⟩ := va_back X hP hD hS isC isR perm hC hR hn hdis hpn hpm ht hB hk1
  exact kk r u H1 locs1 hw g1 g2 hS1
/-- a static method without a world of its own: the caller's cells stay as they are -/
theorem va_keep {t : State} {H1 : Heap} (hP : va_P D classes ws H) (ht : t.heap = H1) (hk : ∀ q : Nat, q < H.size → ¬ va_A [] H.size q → H1[q]? = H[q]?) : va_P D classes ws H1 := hP.kept (fun k q hq => hk q.1 (hP k q hq).lt (fun h => by
  rcases h with ⟨k, e, h⟩ | h
  · simp at h
  · exact absurd (hP k q hq).lt (Nat.not_lt.mpr h)))
theorem cs_i {post : Int32 → Prop} (hfx : CallFix p m c cc nL s args Ts own) (hM : Met l y wy rm (va_Pc As (PC D cI cZ ad H.size [])) (va_Qi (fun r (_ : Unit) => post r) (PW D (va_A [] H.size) (fun _ => [])) (va_A [] H.size)) 0 0 (va_A [] H.size)) (cw : CallB R s args own index y bytes maxL ret wy rm 0 0 n ∧ (Cond.static y).before args s = true)
    (X : CX D cI cZ ad A s) (hP : va_P D classes ws H) (hD : va_D A ws) (hS : va_S A s.heap H locs)
    (hn2 : As.length = n) (hsz : lv_has ls nL []) (hst : st0 = As.reverse ++ rest) (hroom : (rest.map fun v => v.category).sum ≤ 8) (hdg : decode cc pc = .ok (.invokestatic index, 3)) (hfit : cells ≤ R.cells ∧ slots ≤ R.slots)
    (kk : ∀ (r : Int32) (H1 : Heap) (locs1 : List Loc), post r → va_P D classes ws H1 → va_S A s.heap H1 locs1 → W p l e R s m args below meth c H1 locs1 cells slots Q (F0 m (pc + 3) ls (.int r :: rest))) : W p l e R s m args below meth c H locs cells slots Q (F0 m pc ls st0) := by
  have hF := va_free (wc := []) hD hS X.2.2.2 [] rfl
  refine va_calli (va_runS (As := As) (rest := rest) hfx hM cw ⟨PC.blind, PC.give X hP hD hS [] rfl rfl⟩ rfl hn2 hsz.1 hst (lv_room hroom) hdg hfit) hS (fun q _ h => hF q h) hF (fun r u t H1 locs1 ht hvm hw hB hz1 hk1 hS1 => ?_)
  exact kk r H1 locs1 hw (va_keep hP ht hk1) hS1
theorem cs_l {post : Int64 → Prop} (hfx : CallFix p m c cc nL s args Ts own) (hM : Met l y wy rm (va_Pc As (PC D cI cZ ad H.size [])) (va_Ql (fun r (_ : Unit) => post r) (PW D (va_A [] H.size) (fun _ => [])) (va_A [] H.size)) 0 0 (va_A [] H.size)) (cw : CallB R s args own index y bytes maxL ret wy rm 0 0 n ∧ (Cond.static y).before args s = true)
    (X : CX D cI cZ ad A s) (hP : va_P D classes ws H) (hD : va_D A ws) (hS : va_S A s.heap H locs)
    (hn2 : As.length = n) (hsz : lv_has ls nL []) (hst : st0 = As.reverse ++ rest) (hroom : (rest.map fun v => v.category).sum ≤ 8) (hdg : decode cc pc = .ok (.invokestatic index, 3)) (hfit : cells ≤ R.cells ∧ slots ≤ R.slots)
    (kk : ∀ (r : Int64) (H1 : Heap) (locs1 : List Loc), post r → va_P D classes ws H1 → va_S A s.heap H1 locs1 → W p l e R s m args below meth c H1 locs1 cells slots Q (F0 m (pc + 3) ls (.long r :: rest))) : W p l e R s m args below meth c H locs cells slots Q (F0 m pc ls st0) := by
  have hF := va_free (wc := []) hD hS X.2.2.2 [] rfl
  refine va_calll (va_runS (As := As) (rest := rest) hfx hM cw ⟨PC.blind, PC.give X hP hD hS [] rfl rfl⟩ rfl hn2 hsz.1 hst (lv_room hroom) hdg hfit) hS (fun q _ h => hF q h) hF (fun r u t H1 locs1 ht hvm hw hB hz1 hk1 hS1 => ?_)
  exact kk r H1 locs1 hw (va_keep hP ht hk1) hS1
theorem csn_l {host : String} {post : Int64 → Prop} (hfx : CallFix p m c cc nL s args Ts own) (hM : Met l y wy rm (va_Pc As (PC D cI cZ ad H.size [])) (va_Ql (fun r (_ : Unit) => post r) (PW D (va_A [] H.size) (fun _ => [])) (va_A [] H.size)) 0 0 (va_A [] H.size)) (cw : va_CN R s args own index y host bytes maxL ret wy rm 0 0 n ∧ (Cond.static y).before args s = true ∧ True)
    (X : CX D cI cZ ad A s) (hP : va_P D classes ws H) (hD : va_D A ws) (hS : va_S A s.heap H locs)
    (hn2 : As.length = n) (hsz : lv_has ls nL []) (hst : st0 = As.reverse ++ rest) (hroom : (rest.map fun v => v.category).sum ≤ 8) (hdg : decode cc pc = .ok (.invokestatic index, 3)) (hfit : cells ≤ R.cells ∧ slots ≤ R.slots)
    (kk : ∀ (r : Int64) (H1 : Heap) (locs1 : List Loc), post r → va_P D classes ws H1 → va_S A s.heap H1 locs1 → W p l e R s m args below meth c H1 locs1 cells slots Q (F0 m (pc + 3) ls (.long r :: rest))) : W p l e R s m args below meth c H locs cells slots Q (F0 m pc ls st0) := by
  have hF := va_free (wc := []) hD hS X.2.2.2 [] rfl
  refine va_calll (va_runSN (As := As) (rest := rest) hfx hM cw ⟨PC.blind, PC.give X hP hD hS [] rfl rfl⟩ rfl hn2 hsz.1 hst (lv_room hroom) hdg hfit) hS (fun q _ h => hF q h) hF (fun r u t H1 locs1 ht hvm hw hB hz1 hk1 hS1 => ?_)
  exact kk r H1 locs1 hw (va_keep hP ht hk1) hS1
/-! a method's end -/
theorem rt_i {S : Type} {post : Int32 → S → Prop} {w1 : S → va_W} {v : Int32} (u : S) (hx : p.tables.exec = Jvm.exec) (hb : c.code = cc) (hr : meth.sig.returnType = some .int) (hlocks : meth.locks = false) (hdg : decode cc pc = .ok (.ireturn, 1)) (hP : va_P D classes (w1 u) H) (hD : va_D A (w1 u)) (hS : va_S A s.heap H locs) (hw : post v u) : W p l e R s m args below meth c H locs cells slots (MQ below (va_Qi post (PW D A w1) A) args s cells slots A) (F0 m pc ls [.int v]) :=
  W.iret hx hb hr (fun t ht hW => ⟨⟨v, u, rfl, hw, by rw [ht]; exact hP, hD⟩, hS.F ht⟩) hS.2.2 hdg hlocks
theorem nz {v : Int32} (h : v = 0 ∨ v = 1) : narrow .boolean (.int v) = .int v := by
  rcases h with rfl | rfl <;> rfl
theorem rt_z {S : Type} {post : Int32 → S → Prop} {w1 : S → va_W} {v : Int32} (u : S) (hx : p.tables.exec = Jvm.exec) (hb : c.code = cc) (hr : meth.sig.returnType = some .boolean) (hlocks : meth.locks = false) (hdg : decode cc pc = .ok (.ireturn, 1)) (hv : v = 0 ∨ v = 1) (hP : va_P D classes (w1 u) H) (hD : va_D A (w1 u)) (hS : va_S A s.heap H locs) (hw : post v u) : W p l e R s m args below meth c H locs cells slots (MQ below (va_Qi post (PW D A w1) A) args s cells slots A) (F0 m pc ls [.int v]) :=
  W.zret hx hb hr (nz hv) (fun t ht hW => ⟨⟨v, u, rfl, hw, by rw [ht]; exact hP, hD⟩, hS.F ht⟩) hS.2.2 hdg hlocks
theorem rt_l {S : Type} {post : Int64 → S → Prop} {w1 : S → va_W} {v : Int64} (u : S) (hx : p.tables.exec = Jvm.exec) (hb : c.code = cc) (hr : meth.sig.returnType = some .long) (hlocks : meth.locks = false) (hdg : decode cc pc = .ok (.lreturn, 1)) (hP : va_P D classes (w1 u) H) (hD : va_D A (w1 u)) (hS : va_S A s.heap H locs) (hw : post v u) : W p l e R s m args below meth c H locs cells slots (MQ below (va_Ql post (PW D A w1) A) args s cells slots A) (F0 m pc ls [.long v]) :=
  W.lret hx hb hr (fun t ht hW => ⟨⟨v, u, rfl, hw, by rw [ht]; exact hP, hD⟩, hS.F ht⟩) hS.2.2 hdg hlocks
theorem rt_v {S : Type} {post : S → Prop} {w1 : S → va_W} (u : S) (hx : p.tables.exec = Jvm.exec) (hb : c.code = cc) (hr : meth.sig.returnType = none) (hlocks : meth.locks = false) (hdg : decode cc pc = .ok (.return_, 1)) (hP : va_P D classes (w1 u) H) (hD : va_D A (w1 u)) (hS : va_S A s.heap H locs) (hw : post u) : W p l e R s m args below meth c H locs cells slots (MQ below (va_Qv post (PW D A w1) A) args s cells slots A) (F0 m pc ls []) :=
  W.vret hx hb hr (fun t ht hW => ⟨⟨u, rfl, hw, by rw [ht]; exact hP, hD⟩, hS.F ht⟩) hS.2.2 hdg hlocks
end CALLS
theorem lc_lt (x y : Int64) : lg_cmp x y < 0 ↔ x < y := by
  have h := lg_cmp_ge x y
  rw [← Int32.not_le, h, Int64.not_le]
theorem lc_ge (x y : Int64) : 0 ≤ lg_cmp x y ↔ y ≤ x := lg_cmp_ge x y
theorem lc_eq (x y : Int64) : lg_cmp x y = 0 ↔ x = y := by
  unfold lg_cmp
  by_cases h1 : x > y
  · have : ¬ x = y := fun h => by subst h; exact absurd h1 (by simp)
    simp [h1, this]
  · by_cases h2 : x = y
    · simp [h2]
    · simp [h1, h2]
theorem lc_gt (x y : Int64) : 0 < lg_cmp x y ↔ y < x := by
  unfold lg_cmp
  by_cases h1 : x > y
  · simp [h1]
  · by_cases h2 : x = y
    · simp [h2]
    · simp [h1, h2]
theorem lc_le (x y : Int64) : lg_cmp x y ≤ 0 ↔ x ≤ y := by
  rw [← Int32.not_lt, lc_gt, Int64.not_lt]
theorem nar0 : vp_nar .boolean 0 = 0 := by decide
theorem nar1 : vp_nar .boolean 1 = 1 := by decide
