/-! the JDK's own methods that a String constant's length and characters come from -/
theorem gIT {Ts : List Cond} (h : ∀ w ∈ gw, w ∈ Ts) {cy : Cond} {own : String} {idx : Nat} {y : MethodName} (h1 : Cond.methodLink own idx y ∈ gw) (hq : Cond.static y ∈ gw ∧ Cond.initialized y.cls ∈ gw ∧ cy ∈ gw) : GoodIn Ts (va_wsS own idx y (cy :: gw)) := fun w hw => by
  unfold va_wsS at hw
  rcases List.mem_append.mp hw with hw | hw
  · have hg : w ∈ gw := by
      simp only [List.mem_cons, List.not_mem_nil, or_false] at hw
      rcases hw with rfl | rfl | rfl
      · exact h1
      · exact hq.1
      · exact hq.2.1
    exact ⟨h _ hg, good_of_word (gw_good hg)⟩
  · exact gI h hq.2.2 w hw
section STRC
variable {p : Program} {l : Launch} {e : Env} {R : Room} {s : State} {m : MethodId} {args : Array Value} {below : List Frame} {meth : Method} {c : Code} {H : Heap} {locs : List Loc} {cells slots : Nat} {Q : State → Prop}
variable {pc : Nat} {ls : Array Slot} {rest st0 : List Value} {A : Nat → Prop} {D : va_G} {cI cZ : ClassId} {ad : (Nat → Nat) × (Nat → Nat)} {ws : va_W}
variable {y : MethodName} {bytes cc : ByteArray} {maxL nL n index : Nat} {ret : Option FieldType} {wy : List Cond} {rm : Room} {Ts : List Cond} {own C : String} {b : Addr} {As : List Value}
theorem cr_i {post : Int32 → Prop} (hfx : CallFix p m c cc nL s args Ts own) (hM : Met l y wy rm (va_Pc (.ref b :: As) (PC D cI cZ ad H.size [])) (va_Qi (fun r (_ : Unit) => post r) (PW D (va_A [] H.size) (fun _ => [])) (va_A [] H.size)) 0 0 (va_A [] H.size)) (cw : CallW R s args own C index y bytes maxL ret wy rm 0 0 n)
    (X : CX D cI cZ ad A s) (hP : va_P D classes ws H) (hD : va_D A ws) (hS : va_S A s.heap H locs) (hrc : ∃ cell : Cell, H[b]? = some cell ∧ cell.vm.isStatics = false ∧ s.vm.findClass C = some cell.cls)
    (hn2 : As.length = n) (hsz : lv_has ls nL []) (hst : st0 = As.reverse ++ .ref b :: rest) (hroom : (rest.map fun v => v.category).sum ≤ 8) (hdg : decode cc pc = .ok (.invokevirtual index, 3)) (hfit : cells ≤ R.cells ∧ slots ≤ R.slots)
    (kk : ∀ (r : Int32) (H1 : Heap) (locs1 : List Loc), post r → va_P D classes ws H1 → va_S A s.heap H1 locs1 → W p l e R s m args below meth c H1 locs1 cells slots Q (F0 m (pc + 3) ls (.int r :: rest))) : W p l e R s m args below meth c H locs cells slots Q (F0 m pc ls st0) := by
  have hF := va_free (wc := []) hD hS X.2.2.2 [] rfl
  refine va_calli (va_runV (As := As) (rest := rest) hfx hM cw ⟨PC.blind, hrc, PC.give X hP hD hS [] rfl rfl⟩ rfl hn2 hsz.1 hst (lv_room hroom) hdg hfit) hS (fun q _ h => hF q h) hF (fun r u t H1 locs1 ht hvm hw hB hz1 hk1 hS1 => ?_)
  exact kk r H1 locs1 hw (va_keep hP ht hk1) hS1
theorem cs_v (hfx : CallFix p m c cc nL s args Ts own) (hM : Met l y wy rm (va_Pc As (PC D cI cZ ad H.size [])) (va_Qv (fun (_ : Unit) => True) (PW D (va_A [] H.size) (fun _ => [])) (va_A [] H.size)) 0 0 (va_A [] H.size)) (cw : CallB R s args own index y bytes maxL ret wy rm 0 0 n ∧ (Cond.static y).before args s = true)
    (X : CX D cI cZ ad A s) (hP : va_P D classes ws H) (hD : va_D A ws) (hS : va_S A s.heap H locs)
    (hn2 : As.length = n) (hsz : lv_has ls nL []) (hst : st0 = As.reverse ++ rest) (hroom : (rest.map fun v => v.category).sum ≤ 8) (hdg : decode cc pc = .ok (.invokestatic index, 3)) (hfit : cells ≤ R.cells ∧ slots ≤ R.slots)
    (kk : ∀ (H1 : Heap) (locs1 : List Loc), va_P D classes ws H1 → va_S A s.heap H1 locs1 → W p l e R s m args below meth c H1 locs1 cells slots Q (F0 m (pc + 3) ls rest)) : W p l e R s m args below meth c H locs cells slots Q (F0 m pc ls st0) := by
  have hF := va_free (wc := []) hD hS X.2.2.2 [] rfl
  refine va_callv (va_runS (As := As) (rest := rest) hfx hM cw ⟨PC.blind, PC.give X hP hD hS [] rfl rfl⟩ rfl hn2 hsz.1 hst (lv_room hroom) hdg hfit) hS (fun q _ h => hF q h) hF (fun u t H1 locs1 ht hvm hw hB hz1 hk1 hS1 => ?_)
  exact kk H1 locs1 (va_keep hP ht hk1) hS1
end STRC
abbrev QI (D : va_G) (A : Nat → Prop) (post : Int32 → Prop) : Array Value → State → Outcome → State → Prop := va_Qi (fun r (_ : Unit) => post r) (PW D A (fun _ => [])) A
theorem hd_coder : yJ0_coder_7d493.cls = "java/lang/String" ∧ yJ0_coder_7d493.cls ≠ "java/lang/invoke/MethodHandle" ∧ yJ0_coder_7d493.cls ≠ "java/lang/invoke/VarHandle" ∧ (parseMethodDescriptor yJ0_coder_7d493.desc).map (fun d => d.parameters.length) = some 0 := by decide +kernel
theorem hd_isl : yJ0_isLatin1_aae02.cls = "java/lang/String" ∧ yJ0_isLatin1_aae02.cls ≠ "java/lang/invoke/MethodHandle" ∧ yJ0_isLatin1_aae02.cls ≠ "java/lang/invoke/VarHandle" ∧ (parseMethodDescriptor yJ0_isLatin1_aae02.desc).map (fun d => d.parameters.length) = some 0 := by decide +kernel
theorem hd_len : yJ0_length_8abf5.cls = "java/lang/String" ∧ yJ0_length_8abf5.cls ≠ "java/lang/invoke/MethodHandle" ∧ yJ0_length_8abf5.cls ≠ "java/lang/invoke/VarHandle" ∧ (parseMethodDescriptor yJ0_length_8abf5.desc).map (fun d => d.parameters.length) = some 0 := by decide +kernel
theorem hd_cha : yJ0_charAt_5068e.cls = "java/lang/String" ∧ yJ0_charAt_5068e.cls ≠ "java/lang/invoke/MethodHandle" ∧ yJ0_charAt_5068e.cls ≠ "java/lang/invoke/VarHandle" ∧ (parseMethodDescriptor yJ0_charAt_5068e.desc).map (fun d => d.parameters.length) = some 1 := by decide +kernel
theorem hd_chk : yJ0_checkIndex_df160.cls ≠ "java/lang/invoke/MethodHandle" ∧ yJ0_checkIndex_df160.cls ≠ "java/lang/invoke/VarHandle" ∧ (parseMethodDescriptor yJ0_checkIndex_df160.desc).map (fun d => d.parameters.length) = some 2 := by decide +kernel
theorem hd_pck : yJ3_checkIndex_8e157.cls ≠ "java/lang/invoke/MethodHandle" ∧ yJ3_checkIndex_8e157.cls ≠ "java/lang/invoke/VarHandle" ∧ (parseMethodDescriptor yJ3_checkIndex_8e157.desc).map (fun d => d.parameters.length) = some 3 := by decide +kernel
theorem hd_lch : yJ1_charAt_3b067.cls ≠ "java/lang/invoke/MethodHandle" ∧ yJ1_charAt_3b067.cls ≠ "java/lang/invoke/VarHandle" ∧ (parseMethodDescriptor yJ1_charAt_3b067.desc).map (fun d => d.parameters.length) = some 2 := by decide +kernel
def rm_0 : Room := { frames := 0, cells := 0, slots := 0, locals := 0 }
def rm_len : Room := { frames := 1, cells := 0, slots := 0, locals := 20 }
def rm_chk : Room := { frames := 1, cells := 0, slots := 0, locals := 22 }
def rm_lch : Room := { frames := 2, cells := 0, slots := 0, locals := 43 }
def rm_cha : Room := { frames := 3, cells := 0, slots := 0, locals := 64 }
set_option maxHeartbeats 4000000 in
set_option maxRecDepth 100000 in
theorem c_coder (l : Launch) (D : va_G) (cI cZ : ClassId) (ad : (Nat → Nat) × (Nat → Nat)) (sz : Nat) (i : Nat) (hi : i < 7) : Met l yJ0_coder_7d493 (.code yJ0_coder_7d493 cJ0_coder_7d493 1 (some .byte) :: gw) rm_0 (va_Pc [.ref (ad.1 i)] (PC D cI cZ ad sz [])) (QI D (va_A [] sz) (fun r => r = 0)) 0 0 (va_A [] sz) := by
  refine Met.ofW (cc := cJ0_coder_7d493) (maxL := 1) (ret := some .byte) (by decide) rfl ?_
  intro p e s m args below meth c s₁ B hml hv
  have hst := PC.start hv.2
  obtain ⟨ls, hfr, hl⟩ := en_fr (m := m) [.ref (ad.1 i)] 1 hv.1 (Nat.le_of_ble_eq_true rfl)
  rw [hfr]
  generalize va_A [] sz = A at hst ⊢
  obtain ⟨X, hP, hD⟩ := hst
  have hl : lv_has ls 1 [(0, .ref (ad.1 i))] := hl
  have hx := B.exec
  have hb := B.bytes
  have hts := atoms_spec (ws := .code yJ0_coder_7d493 cJ0_coder_7d493 1 (some .byte) :: gw) B.pre
  have htg : ∀ w ∈ gw, w.before args s = true := fun w h => hts w (gw_cons w h)
  have hown : s.vm.findClass RJ0 = some m.cls := findClass_of_methodNamed B.named
  have hS : va_S A s.heap s.heap [] := va_S.rf
  refine va_gets hx hb X.2.2.1.2.1 hS hown (htg _ jw_compact) (fun _ h9 => h9) dJ0_coder_7d493_0 ?_
  refine lv_if_eq (tgt := 13) hx hb dJ0_coder_7d493_3 (by decide) (fun cb => absurd cb (by decide)) (fun cb => ?_)
  refine lv_aload_n hx hb dJ0_coder_7d493_6 rfl (lv_at hl 0 rfl) ?_
  refine vk_getf hx hb ((X.2.2.1.1.1 i hi).2.1) hS hown (htg _ jw_coder) (fun _ h9 => h9) dJ0_coder_7d493_7 ?_
  refine lv_goto (tgt := 14) hx hb dJ0_coder_7d493_10 (by decide) ?_
  exact W.zret hx hb B.returns rfl (fun t ht hW => ⟨⟨0, (), rfl, rfl, by rw [ht]; exact hP, hD⟩, hS.F ht⟩) hS.2.2 dJ0_coder_7d493_14 B.notSynchronized
set_option maxHeartbeats 4000000 in
set_option maxRecDepth 100000 in
theorem c_isl (l : Launch) (D : va_G) (cI cZ : ClassId) (ad : (Nat → Nat) × (Nat → Nat)) (sz : Nat) (i : Nat) (hi : i < 7) : Met l yJ0_isLatin1_aae02 (.code yJ0_isLatin1_aae02 cJ0_isLatin1_aae02 1 (some .boolean) :: gw) rm_0 (va_Pc [.ref (ad.1 i)] (PC D cI cZ ad sz [])) (QI D (va_A [] sz) (fun r => r = 1)) 0 0 (va_A [] sz) := by
  refine Met.ofW (cc := cJ0_isLatin1_aae02) (maxL := 1) (ret := some .boolean) (by decide) rfl ?_
  intro p e s m args below meth c s₁ B hml hv
  have hst := PC.start hv.2
  obtain ⟨ls, hfr, hl⟩ := en_fr (m := m) [.ref (ad.1 i)] 1 hv.1 (Nat.le_of_ble_eq_true rfl)
  rw [hfr]
  generalize va_A [] sz = A at hst ⊢
  obtain ⟨X, hP, hD⟩ := hst
  have hl : lv_has ls 1 [(0, .ref (ad.1 i))] := hl
  have hx := B.exec
  have hb := B.bytes
  have hts := atoms_spec (ws := .code yJ0_isLatin1_aae02 cJ0_isLatin1_aae02 1 (some .boolean) :: gw) B.pre
  have htg : ∀ w ∈ gw, w.before args s = true := fun w h => hts w (gw_cons w h)
  have hown : s.vm.findClass RJ0 = some m.cls := findClass_of_methodNamed B.named
  have hS : va_S A s.heap s.heap [] := va_S.rf
  refine va_gets hx hb X.2.2.1.2.1 hS hown (htg _ jw_compact) (fun _ h9 => h9) dJ0_isLatin1_aae02_0 ?_
  refine lv_if_eq (tgt := 17) hx hb dJ0_isLatin1_aae02_3 (by decide) (fun cb => absurd cb (by decide)) (fun cb => ?_)
  refine lv_aload_n hx hb dJ0_isLatin1_aae02_6 rfl (lv_at hl 0 rfl) ?_
  refine vk_getf hx hb ((X.2.2.1.1.1 i hi).2.1) hS hown (htg _ jw_coder) (fun _ h9 => h9) dJ0_isLatin1_aae02_7 ?_
  refine lv_if_ne (tgt := 17) hx hb dJ0_isLatin1_aae02_10 (by decide) (fun cb => absurd rfl cb) (fun cb => ?_)
  refine lv_iconst (v := 1) hx hb dJ0_isLatin1_aae02_13 (by decide) ?_
  refine lv_goto (tgt := 18) hx hb dJ0_isLatin1_aae02_14 (by decide) ?_
  exact W.zret hx hb B.returns rfl (fun t ht hW => ⟨⟨1, (), rfl, rfl, by rw [ht]; exact hP, hD⟩, hS.F ht⟩) hS.2.2 dJ0_isLatin1_aae02_18 B.notSynchronized
set_option maxHeartbeats 4000000 in
set_option maxRecDepth 100000 in
theorem c_len (l : Launch) (D : va_G) (cI cZ : ClassId) (ad : (Nat → Nat) × (Nat → Nat)) (sz : Nat) (i : Nat) (hi : i < 7) : Met l yJ0_length_8abf5 (.code yJ0_length_8abf5 cJ0_length_8abf5 1 (some .int) :: gw) rm_len (va_Pc [.ref (ad.1 i)] (PC D cI cZ ad sz [])) (QI D (va_A [] sz) (fun r => r = Int32.ofNat (sLen.getD i 0))) 0 0 (va_A [] sz) := by
  refine Met.ofW (cc := cJ0_length_8abf5) (maxL := 1) (ret := some .int) (by decide) rfl ?_
  intro p e s m args below meth c s₁ B hml hv
  have hst := PC.start hv.2
  obtain ⟨ls, hfr, hl⟩ := en_fr (m := m) [.ref (ad.1 i)] 1 hv.1 (Nat.le_of_ble_eq_true rfl)
  rw [hfr]
  generalize va_A [] sz = A at hst ⊢
  obtain ⟨X, hP, hD⟩ := hst
  have hl : lv_has ls 1 [(0, .ref (ad.1 i))] := hl
  have hx := B.exec
  have hb := B.bytes
  have hts := atoms_spec (ws := .code yJ0_length_8abf5 cJ0_length_8abf5 1 (some .int) :: gw) B.pre
  have htg : ∀ w ∈ gw, w.before args s = true := fun w h => hts w (gw_cons w h)
  have hown : s.vm.findClass RJ0 = some m.cls := findClass_of_methodNamed B.named
  have hS : va_S A s.heap s.heap [] := va_S.rf
  refine lv_aload_n hx hb dJ0_length_8abf5_0 rfl (lv_at hl 0 rfl) ?_
  refine vk_getf hx hb ((X.2.2.1.1.1 i hi).2.2.1) hS hown (htg _ jw_value) (fun _ h9 => h9) dJ0_length_8abf5_1 ?_
  refine va_tlen hx hb ((X.2.2.1.1.1 i hi).2.2.2) hS rfl dJ0_length_8abf5_4 ?_
  refine lv_aload_n hx hb dJ0_length_8abf5_5 rfl (lv_at hl 0 rfl) ?_
  refine cr_i (rest := [.int (Int32.ofNat (sLen.getD i 0))]) ⟨hx, hb, hml, hown, hts⟩ (c_coder l D cI cZ ad s.heap.size i hi) (cwV 0 hts (gIV gw_cons jw_l_coder jy_coder) rfl rfl rfl hd_coder ⟨Nat.le_of_ble_eq_true rfl, Nat.le_of_ble_eq_true rfl⟩) X hP hD hS (vk_recv X.2.2.1.1 hi hS) rfl (lv_sub hl [] rfl) rfl (Nat.le_of_ble_eq_true rfl) dJ0_length_8abf5_6 ⟨Nat.zero_le _, Nat.zero_le _⟩ (fun r H locs hr hP hS => ?_)
  subst hr
  refine lv_ishr hx hb dJ0_length_8abf5_9 ?_
  rw [sb_shr0]
  exact rt_i () hx hb B.returns B.notSynchronized dJ0_length_8abf5_10 hP hD hS rfl
set_option maxHeartbeats 4000000 in
set_option maxRecDepth 100000 in
theorem c_pck (l : Launch) (D : va_G) (cI cZ : ClassId) (ad : (Nat → Nat) × (Nat → Nat)) (sz : Nat) (k n : Int32) (v : Value) (hc : v.category = 1) (h0 : ¬ k < 0) (h1 : k < n) : Met l yJ3_checkIndex_8e157 (.code yJ3_checkIndex_8e157 cJ3_checkIndex_8e157 3 (some .int) :: gw) rm_0 (va_Pc [.int k, .int n, v] (PC D cI cZ ad sz [])) (QI D (va_A [] sz) (fun _ => True)) 0 0 (va_A [] sz) := by
  refine Met.ofW (cc := cJ3_checkIndex_8e157) (maxL := 3) (ret := some .int) (by decide) rfl ?_
  intro p e s m args below meth c s₁ B hml hv
  have hst := PC.start hv.2
  obtain ⟨ls, hfr, hl⟩ := en_fr (m := m) [.int k, .int n, v] 3 hv.1 (by cases v <;> first | exact Nat.le_of_ble_eq_true rfl | exact absurd hc (show ¬ (2 : Nat) = 1 by decide))
  rw [hfr]
  generalize va_A [] sz = A at hst ⊢
  obtain ⟨X, hP, hD⟩ := hst
  have hl : lv_has ls 3 [(0, .int k), (1, .int n)] := lv_sub hl [0, 1] rfl
  have hx := B.exec
  have hb := B.bytes
  have hS : va_S A s.heap s.heap [] := va_S.rf
  refine lv_iload_n hx hb dJ3_checkIndex_8e157_0 rfl (lv_at hl 0 rfl) ?_
  refine lv_if_lt (tgt := 9) hx hb dJ3_checkIndex_8e157_1 (by decide) (fun cb => absurd cb h0) (fun cb => ?_)
  refine lv_iload_n hx hb dJ3_checkIndex_8e157_4 rfl (lv_at hl 0 rfl) ?_
  refine lv_iload_n hx hb dJ3_checkIndex_8e157_5 rfl (lv_at hl 1 rfl) ?_
  refine lv_icmp_lt (tgt := 16) hx hb dJ3_checkIndex_8e157_6 (by decide) (fun cb => ?_) (fun cb => absurd h1 cb)
  refine lv_iload_n hx hb dJ3_checkIndex_8e157_16 rfl (lv_at hl 0 rfl) ?_
  exact rt_i () hx hb B.returns B.notSynchronized dJ3_checkIndex_8e157_17 hP hD hS trivial
set_option maxHeartbeats 4000000 in
set_option maxRecDepth 100000 in
theorem c_chk (l : Launch) (D : va_G) (cI cZ : ClassId) (ad : (Nat → Nat) × (Nat → Nat)) (sz : Nat) (k n : Int32) (h0 : ¬ k < 0) (h1 : k < n) : Met l yJ0_checkIndex_df160 (.code yJ0_checkIndex_df160 cJ0_checkIndex_df160 2 none :: gw) rm_chk (va_Pc [.int k, .int n] (PC D cI cZ ad sz [])) (va_Qv (fun (_ : Unit) => True) (PW D (va_A [] sz) (fun _ => [])) (va_A [] sz)) 0 0 (va_A [] sz) := by
  refine Met.ofW (cc := cJ0_checkIndex_df160) (maxL := 2) (ret := none) (by decide) rfl ?_
  intro p e s m args below meth c s₁ B hml hv
  have hst := PC.start hv.2
  obtain ⟨ls, hfr, hl⟩ := en_fr (m := m) [.int k, .int n] 2 hv.1 (Nat.le_of_ble_eq_true rfl)
  rw [hfr]
  generalize va_A [] sz = A at hst ⊢
  obtain ⟨X, hP, hD⟩ := hst
  have hl : lv_has ls 2 [(0, .int k), (1, .int n)] := hl
  have hx := B.exec
  have hb := B.bytes
  have hts := atoms_spec (ws := .code yJ0_checkIndex_df160 cJ0_checkIndex_df160 2 none :: gw) B.pre
  have htg : ∀ w ∈ gw, w.before args s = true := fun w h => hts w (gw_cons w h)
  have hown : s.vm.findClass RJ0 = some m.cls := findClass_of_methodNamed B.named
  have hS : va_S A s.heap s.heap [] := va_S.rf
  have go : ∀ v : Value, v.category = 1 → va_Z "jdk/internal/util/Preconditions" "SIOOBE_FORMATTER" "Ljava/util/function/BiFunction;" v A s s.heap → W p l e rm_chk s m args below meth c s.heap [] 0 0 (MQ below (va_Qv (fun (_ : Unit) => True) (PW D A (fun _ => [])) A) args s 0 0 A) (F0 m 0 ls []) := by
    intro v hc hZ
    refine lv_iload_n hx hb dJ0_checkIndex_df160_0 rfl (lv_at hl 0 rfl) ?_
    refine lv_iload_n hx hb dJ0_checkIndex_df160_1 rfl (lv_at hl 1 rfl) ?_
    refine va_gets hx hb hZ hS hown (htg _ jw_fmt) (fun _ h9 => h9) dJ0_checkIndex_df160_2 ?_
    refine cs_i (rest := []) ⟨hx, hb, hml, hown, hts⟩ (c_pck l D cI cZ ad s.heap.size k n v hc h0 h1) (va_cwS 3 hts (gIT gw_cons jw_l_pck jy_pck) rfl rfl rfl hd_pck ⟨Nat.le_of_ble_eq_true rfl, Nat.le_of_ble_eq_true rfl⟩) X hP hD hS rfl (lv_sub hl [] rfl) rfl (Nat.le_of_ble_eq_true rfl) dJ0_checkIndex_df160_5 ⟨Nat.zero_le _, Nat.zero_le _⟩ (fun r H locs hr hP hS => ?_)
    refine lv_pop hx hb dJ0_checkIndex_df160_8 rfl ?_
    exact rt_v () hx hb B.returns B.notSynchronized dJ0_checkIndex_df160_9 hP hD hS trivial
  rcases X.2.2.1.2.2.2 with hZ | ⟨t, hZ⟩
  · exact go .null rfl hZ
  · exact go (.ref t) rfl hZ
theorem vp_lt {k : Int32} {n : Nat} (h : vp_in k n) (hn : n < 2 ^ 31) : ¬ k < 0 ∧ k < Int32.ofNat n := by
  obtain ⟨j, hj, rfl⟩ := vp_in_of h hn
  exact ⟨nI_pos (Nat.lt_trans hj hn), nI_lt hj hn⟩
theorem sB_ok : ∀ i, i < 7 → ∀ j, j < sLen.getD i 0 → ((((sByt.getD i []).getD j 0) &&& 255).toUInt32 % 65536).toInt32 = (sByt.getD i []).getD j 0 ∧ narrow .char (.int ((sByt.getD i []).getD j 0)) = .int ((sByt.getD i []).getD j 0) := by decide
theorem sLen_lt : ∀ i, i < 7 → sLen.getD i 0 < 2 ^ 31 := by decide
set_option maxHeartbeats 4000000 in
set_option maxRecDepth 100000 in
theorem c_lch (l : Launch) (D : va_G) (cI cZ : ClassId) (ad : (Nat → Nat) × (Nat → Nat)) (sz : Nat) (i : Nat) (hi : i < 7) (k : Int32) (hk : vp_in k (sLen.getD i 0)) : Met l yJ1_charAt_3b067 (.code yJ1_charAt_3b067 cJ1_charAt_3b067 2 (some .char) :: gw) rm_lch (va_Pc [.ref (ad.2 i), .int k] (PC D cI cZ ad sz [])) (QI D (va_A [] sz) (fun r => r = (sByt.getD i []).getD k.toNatClampNeg 0)) 0 0 (va_A [] sz) := by
  refine Met.ofW (cc := cJ1_charAt_3b067) (maxL := 2) (ret := some .char) (by decide) rfl ?_
  intro p e s m args below meth c s₁ B hml hv
  have hst := PC.start hv.2
  obtain ⟨ls, hfr, hl⟩ := en_fr (m := m) [.ref (ad.2 i), .int k] 2 hv.1 (Nat.le_of_ble_eq_true rfl)
  rw [hfr]
  generalize va_A [] sz = A at hst ⊢
  obtain ⟨X, hP, hD⟩ := hst
  have hl : lv_has ls 2 [(0, .ref (ad.2 i)), (1, .int k)] := hl
  have hx := B.exec
  have hb := B.bytes
  have hts := atoms_spec (ws := .code yJ1_charAt_3b067 cJ1_charAt_3b067 2 (some .char) :: gw) B.pre
  have hown : s.vm.findClass RJ1 = some m.cls := findClass_of_methodNamed B.named
  have hS : va_S A s.heap s.heap [] := va_S.rf
  have hlt := vp_lt hk (sLen_lt i hi)
  have hT := (X.2.2.1.1.1 i hi).2.2.2
  refine lv_iload_n hx hb dJ1_charAt_3b067_0 rfl (lv_at hl 1 rfl) ?_
  refine lv_aload_n hx hb dJ1_charAt_3b067_1 rfl (lv_at hl 0 rfl) ?_
  refine va_tlen hx hb hT hS rfl dJ1_charAt_3b067_2 ?_
  refine cs_v (rest := []) ⟨hx, hb, hml, hown, hts⟩ (c_chk l D cI cZ ad s.heap.size k (Int32.ofNat (sLen.getD i 0)) hlt.1 hlt.2) (va_cwS 2 hts (gIT gw_cons jw_l_chk jy_chk) rfl rfl rfl hd_chk ⟨Nat.le_of_ble_eq_true rfl, Nat.le_of_ble_eq_true rfl⟩) X hP hD hS rfl (lv_sub hl [] rfl) rfl (Nat.le_of_ble_eq_true rfl) dJ1_charAt_3b067_3 ⟨Nat.zero_le _, Nat.zero_le _⟩ (fun H locs hP hS => ?_)
  refine lv_aload_n hx hb dJ1_charAt_3b067_6 rfl (lv_at hl 0 rfl) ?_
  refine lv_iload_n hx hb dJ1_charAt_3b067_7 rfl (lv_at hl 1 rfl) ?_
  refine va_tb hx hb hT hS hk rfl dJ1_charAt_3b067_8 ?_
  refine lv_sipush (v := 255) hx hb dJ1_charAt_3b067_9 (by decide) ?_
  refine lv_iand hx hb dJ1_charAt_3b067_12 ?_
  have hj : k.toNatClampNeg < sLen.getD i 0 := Nat.not_le.mp fun q => hk (Or.inr q)
  refine lv_i2c (v := (sByt.getD i []).getD k.toNatClampNeg 0) hx hb dJ1_charAt_3b067_13 (sB_ok i hi _ hj).1 ?_
  exact W.zret hx hb B.returns (sB_ok i hi _ hj).2 (fun t ht hW => ⟨⟨_, (), rfl, rfl, by rw [ht]; exact hP, hD⟩, hS.F ht⟩) hS.2.2 dJ1_charAt_3b067_14 B.notSynchronized
set_option maxHeartbeats 4000000 in
set_option maxRecDepth 100000 in
theorem c_cha (l : Launch) (D : va_G) (cI cZ : ClassId) (ad : (Nat → Nat) × (Nat → Nat)) (sz : Nat) (i : Nat) (hi : i < 7) (k : Int32) (hk : vp_in k (sLen.getD i 0)) : Met l yJ0_charAt_5068e (.code yJ0_charAt_5068e cJ0_charAt_5068e 2 (some .char) :: gw) rm_cha (va_Pc [.ref (ad.1 i), .int k] (PC D cI cZ ad sz [])) (QI D (va_A [] sz) (fun r => r = (sByt.getD i []).getD k.toNatClampNeg 0)) 0 0 (va_A [] sz) := by
  refine Met.ofW (cc := cJ0_charAt_5068e) (maxL := 2) (ret := some .char) (by decide) rfl ?_
  intro p e s m args below meth c s₁ B hml hv
  have hst := PC.start hv.2
  obtain ⟨ls, hfr, hl⟩ := en_fr (m := m) [.ref (ad.1 i), .int k] 2 hv.1 (Nat.le_of_ble_eq_true rfl)
  rw [hfr]
  generalize va_A [] sz = A at hst ⊢
  obtain ⟨X, hP, hD⟩ := hst
  have hl : lv_has ls 2 [(0, .ref (ad.1 i)), (1, .int k)] := hl
  have hx := B.exec
  have hb := B.bytes
  have hts := atoms_spec (ws := .code yJ0_charAt_5068e cJ0_charAt_5068e 2 (some .char) :: gw) B.pre
  have htg : ∀ w ∈ gw, w.before args s = true := fun w h => hts w (gw_cons w h)
  have hown : s.vm.findClass RJ0 = some m.cls := findClass_of_methodNamed B.named
  have hS : va_S A s.heap s.heap [] := va_S.rf
  refine lv_aload_n hx hb dJ0_charAt_5068e_0 rfl (lv_at hl 0 rfl) ?_
  refine cr_i (rest := []) ⟨hx, hb, hml, hown, hts⟩ (c_isl l D cI cZ ad s.heap.size i hi) (cwV 0 hts (gIV gw_cons jw_l_isl jy_isl) rfl rfl rfl hd_isl ⟨Nat.le_of_ble_eq_true rfl, Nat.le_of_ble_eq_true rfl⟩) X hP hD hS (vk_recv X.2.2.1.1 hi hS) rfl (lv_sub hl [] rfl) rfl (Nat.le_of_ble_eq_true rfl) dJ0_charAt_5068e_1 ⟨Nat.zero_le _, Nat.zero_le _⟩ (fun r H locs hr hP hS => ?_)
  subst hr
  refine lv_if_eq (tgt := 16) hx hb dJ0_charAt_5068e_4 (by decide) (fun cb => absurd cb (by decide)) (fun cb => ?_)
  refine lv_aload_n hx hb dJ0_charAt_5068e_7 rfl (lv_at hl 0 rfl) ?_
  refine vk_getf hx hb ((X.2.2.1.1.1 i hi).2.2.1) hS hown (htg _ jw_value) (fun _ h9 => h9) dJ0_charAt_5068e_8 ?_
  refine lv_iload_n hx hb dJ0_charAt_5068e_11 rfl (lv_at hl 1 rfl) ?_
  refine cs_i (rest := []) ⟨hx, hb, hml, hown, hts⟩ (c_lch l D cI cZ ad H.size i hi k hk) (va_cwS 2 hts (gIT gw_cons jw_l_lch jy_lch) rfl rfl rfl hd_lch ⟨Nat.le_of_ble_eq_true rfl, Nat.le_of_ble_eq_true rfl⟩) X hP hD hS rfl (lv_sub hl [] rfl) rfl (Nat.le_of_ble_eq_true rfl) dJ0_charAt_5068e_12 ⟨Nat.zero_le _, Nat.zero_le _⟩ (fun r H locs hr hP hS => ?_)
  subst hr
  have hj : k.toNatClampNeg < sLen.getD i 0 := Nat.not_le.mp fun q => hk (Or.inr q)
  exact W.zret hx hb B.returns (sB_ok i hi _ hj).2 (fun t ht hW => ⟨⟨_, (), rfl, rfl, by rw [ht]; exact hP, hD⟩, hS.F ht⟩) hS.2.2 dJ0_charAt_5068e_15 B.notSynchronized
section STRW
variable {p : Program} {l : Launch} {e : Env} {R : Room} {s : State} {m : MethodId} {args : Array Value} {below : List Frame} {meth : Method} {c : Code} {H : Heap} {locs : List Loc} {Q : State → Prop}
variable {pc : Nat} {ls : Array Slot} {rest : List Value} {A : Nat → Prop} {D : va_G} {cI cZ : ClassId} {ad : (Nat → Nat) × (Nat → Nat)} {ws : va_W} {cc : ByteArray} {nL index : Nat} {own : String} {cx : Cond}
theorem st_len (hx : p.tables.exec = Jvm.exec) (hb : c.code = cc) (hml : c.maxLocals = nL) (hown : s.vm.findClass own = some m.cls) (hts : ∀ w ∈ cx :: gw, w.before args s = true) (hlw : Cond.methodLink own index yJ0_length_8abf5 ∈ gw) (X : CX D cI cZ ad A s) (hP : va_P D classes ws H) (hD : va_D A ws) (hS : va_S A s.heap H locs) {i : Nat} (hi : i < 7) (hsz : lv_has ls nL []) (hroom : (rest.map fun v => v.category).sum ≤ 8) (hf : 2 ≤ R.frames) (hlo : 40 ≤ R.locals) (hdg : decode cc pc = .ok (.invokevirtual index, 3))
    (kk : ∀ (H1 : Heap) (locs1 : List Loc), va_P D classes ws H1 → va_S A s.heap H1 locs1 → W p l e R s m args below meth c H1 locs1 0 0 Q (F0 m (pc + 3) ls (.int (Int32.ofNat (sLen.getD i 0)) :: rest))) : W p l e R s m args below meth c H locs 0 0 Q (F0 m pc ls (.ref (ad.1 i) :: rest)) :=
  cr_i (rest := rest) ⟨hx, hb, hml, hown, hts⟩ (c_len l D cI cZ ad H.size i hi) (cwV 0 hts (gIV gw_cons hlw jy_len) rfl rfl rfl hd_len ⟨hf, hlo⟩) X hP hD hS (vk_recv X.2.2.1.1 hi hS) rfl hsz rfl hroom hdg ⟨Nat.zero_le _, Nat.zero_le _⟩ (fun r H locs hr hP hS => by subst hr; exact kk H locs hP hS)
theorem st_chr (hx : p.tables.exec = Jvm.exec) (hb : c.code = cc) (hml : c.maxLocals = nL) (hown : s.vm.findClass own = some m.cls) (hts : ∀ w ∈ cx :: gw, w.before args s = true) (hlw : Cond.methodLink own index yJ0_charAt_5068e ∈ gw) (X : CX D cI cZ ad A s) (hP : va_P D classes ws H) (hD : va_D A ws) (hS : va_S A s.heap H locs) {i : Nat} (hi : i < 7) {k : Int32} (hk : vp_in k (sLen.getD i 0)) (hsz : lv_has ls nL []) (hroom : (rest.map fun v => v.category).sum ≤ 8) (hf : 4 ≤ R.frames) (hlo : 85 ≤ R.locals) (hdg : decode cc pc = .ok (.invokevirtual index, 3))
    (kk : ∀ (H1 : Heap) (locs1 : List Loc), va_P D classes ws H1 → va_S A s.heap H1 locs1 → W p l e R s m args below meth c H1 locs1 0 0 Q (F0 m (pc + 3) ls (.int ((sByt.getD i []).getD k.toNatClampNeg 0) :: rest))) : W p l e R s m args below meth c H locs 0 0 Q (F0 m pc ls (.int k :: .ref (ad.1 i) :: rest)) :=
  cr_i (rest := rest) ⟨hx, hb, hml, hown, hts⟩ (c_cha l D cI cZ ad H.size i hi k hk) (cwV 1 hts (gIV gw_cons hlw jy_cha) rfl rfl rfl hd_cha ⟨hf, hlo⟩) X hP hD hS (vk_recv X.2.2.1.1 hi hS) rfl hsz rfl hroom hdg ⟨Nat.zero_le _, Nat.zero_le _⟩ (fun r H locs hr hP hS => by subst hr; exact kk H locs hP hS)
end STRW
