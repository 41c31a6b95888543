set_option maxHeartbeats 40000000 in
set_option maxRecDepth 100000 in
theorem k_X0_borneAfter {p : Program} {l : Launch} {e : Env} {s : State} {m : MethodId} {args : Array Value} {below : List Frame} {meth : Method} {c : Code} {D : va_G} {cI cZ : ClassId} {ad : (Nat → Nat) × (Nat → Nat)} {A : Nat → Prop} (hx : p.tables.exec = Jvm.exec) (hb : c.code = cX0_borneAfter) (hml : c.maxLocals = 5) (hown : s.vm.findClass RX0 = some m.cls) (hts : ∀ w ∈ (.code yX0_borneAfter cX0_borneAfter 5 (some .int)) :: gw, w.before args s = true) (X : CX D cI cZ ad A s) (h0 : Nat) (h_fromDays : Nat) (h_sheavesARope : Nat) (a_fromDays : (Nat → Int32)) (a_sheavesARope : (Nat → Int32)) (x1 : Int32)  (Q : Int32 → Prop) (Z : State → Prop) (hret : ∀ (r : Int32)   (H : Heap) (locs : List Loc) (pc : Nat) (ls : Array Slot), decode cX0_borneAfter pc = .ok (.ireturn, 1) → va_P D classes (w_X0_borneAfter cI cZ h0 h_fromDays h_sheavesARope a_fromDays a_sheavesARope) H → va_D A (w_X0_borneAfter cI cZ h0 h_fromDays h_sheavesARope a_fromDays a_sheavesARope) → va_S A s.heap H locs → Q r  → W p l e rm_X0_borneAfter s m args below meth c H locs 0 0 Z (F0 m pc ls [.int r])) (H : Heap) (locs : List Loc) (ls : Array Slot) (hP : va_P D classes (w_X0_borneAfter cI cZ h0 h_fromDays h_sheavesARope a_fromDays a_sheavesARope) H) (hD : va_D A (w_X0_borneAfter cI cZ h0 h_fromDays h_sheavesARope a_fromDays a_sheavesARope)) (hS : va_S A s.heap H locs) (hl : lv_has ls 5 [(0, .ref h0), (1, .int x1)]) (hw : wp_X0_borneAfter a_fromDays a_sheavesARope x1 Q) : W p l e rm_X0_borneAfter s m args below meth c H locs 0 0 Z (F0 m 0 ls []) := by
  have htg : ∀ w ∈ gw, w.before args s = true := fun w h => hts w (gw_cons w h)
  have bk_52 : ∀ (B_7 : Int32 → Int32 → Int32 → Prop) (hB_7 : ∀ (t2 : Int32) (t3 : Int32) (t4 : Int32) (H : Heap) (locs : List Loc) (ls : Array Slot), va_P D classes (w_X0_borneAfter cI cZ h0 h_fromDays h_sheavesARope a_fromDays a_sheavesARope) H → va_D A (w_X0_borneAfter cI cZ h0 h_fromDays h_sheavesARope a_fromDays a_sheavesARope) → va_S A s.heap H locs → lv_has ls 5 [(0, .ref h0), (1, .int x1), (2, .int t2), (3, .int t3), (4, .int t4)] → B_7 t2 t3 t4 → W p l e rm_X0_borneAfter s m args below meth c H locs 0 0 Z (F0 m 7 ls [])), ∀ (t2 : Int32) (t3 : Int32) (t4 : Int32) (H : Heap) (locs : List Loc) (ls : Array Slot), va_P D classes (w_X0_borneAfter cI cZ h0 h_fromDays h_sheavesARope a_fromDays a_sheavesARope) H → va_D A (w_X0_borneAfter cI cZ h0 h_fromDays h_sheavesARope a_fromDays a_sheavesARope) → va_S A s.heap H locs → lv_has ls 5 [(0, .ref h0), (1, .int x1), (2, .int t2), (3, .int t3), (4, .int t4)] → wp_X0_borneAfter_b52 a_fromDays a_sheavesARope x1 Q B_7 t2 t3 t4 → W p l e rm_X0_borneAfter s m args below meth c H locs 0 0 Z (F0 m 52 ls []) := by
    intro B_7 hB_7 t2 t3 t4 H locs ls hP hD hS hl hw
    delta wp_X0_borneAfter_b52 at hw
    refine lv_iinc (v := t4 + 1) (lv' := [(4, .int (t4 + 1)), (0, .ref h0), (1, .int x1), (2, .int t2), (3, .int t3)]) hx hb dX0_borneAfter_52 hl (k := 4) rfl rfl (by decide) rfl (fun ls hl => ?_)
    refine lv_goto (tgt := 7) hx hb dX0_borneAfter_55 (by decide) ?_
    exact hB_7 t2 t3 (t4 + 1) H locs ls hP hD hS (lv_sub hl [1, 2, 3, 4, 0] rfl) hw
  have bk_7 : ∀ (t2 : Int32) (t3 : Int32) (t4 : Int32) (H : Heap) (locs : List Loc) (ls : Array Slot), va_P D classes (w_X0_borneAfter cI cZ h0 h_fromDays h_sheavesARope a_fromDays a_sheavesARope) H → va_D A (w_X0_borneAfter cI cZ h0 h_fromDays h_sheavesARope a_fromDays a_sheavesARope) → va_S A s.heap H locs → lv_has ls 5 [(0, .ref h0), (1, .int x1), (2, .int t2), (3, .int t3), (4, .int t4)] → wp_X0_borneAfter_b7 a_fromDays a_sheavesARope x1 Q t2 t3 t4 → W p l e rm_X0_borneAfter s m args below meth c H locs 0 0 Z (F0 m 7 ls []) := by
    intro  t2 t3 t4 H locs ls hP hD hS hl hw
    delta wp_X0_borneAfter_b7 at hw
    obtain ⟨I, μ, hI0, hst⟩ := hw
    have key : ∀ (n : Nat) (t2 : Int32) (t3 : Int32) (t4 : Int32) (H : Heap) (locs : List Loc) (ls : Array Slot), va_P D classes (w_X0_borneAfter cI cZ h0 h_fromDays h_sheavesARope a_fromDays a_sheavesARope) H → va_D A (w_X0_borneAfter cI cZ h0 h_fromDays h_sheavesARope a_fromDays a_sheavesARope) → va_S A s.heap H locs → lv_has ls 5 [(0, .ref h0), (1, .int x1), (2, .int t2), (3, .int t3), (4, .int t4)] → I t2 t3 t4 → μ t2 t3 t4 < n → W p l e rm_X0_borneAfter s m args below meth c H locs 0 0 Z (F0 m 7 ls []) := by
      intro n
      induction n with
      | zero => intro t2 t3 t4 H locs ls hP hD hS hl hI hlt; exact absurd hlt (Nat.not_lt_zero _)
      | succ n ih =>
        intro t2 t3 t4 H locs ls hP hD hS hl hI hlt
        have hw := hst t2 t3 t4 hI
        refine lv_iload hx hb dX0_borneAfter_7 (lv_at hl 4 rfl) ?_
        refine lv_bipush (v := 8) hx hb dX0_borneAfter_9 (by decide) ?_
        refine lv_icmp_ge (tgt := 58) hx hb dX0_borneAfter_11 (by decide) (fun cb => ?_) (fun cb => ?_)
        · have hw := hw.1 cb
          refine lv_iload_n hx hb dX0_borneAfter_58 rfl (lv_at hl 3 rfl) ?_
          exact hret t3 H locs _ _ dX0_borneAfter_59 hP hD hS hw
        · have hw := hw.2 cb
          refine lv_aload_n hx hb dX0_borneAfter_14 rfl (lv_at hl 0 rfl) ?_
          refine va_get (D := D) (ci := 0) (v := .ref h_fromDays) (C := RX0) (T := TX0) (N := 2) hx hb htg in_X0 hown X.1 hP 0 rfl rfl 0 (by decide) (htg _ mw_0) (fun _ h9 => h9) rfl dX0_borneAfter_15 ?_
          refine lv_iload hx hb dX0_borneAfter_18 (lv_at hl 4 rfl) ?_
          obtain ⟨g, hw⟩ := hw
          refine va_iald hx hb X.1 hP 1 0 rfl rfl g dX0_borneAfter_20 ?_
          refine lv_iload_n hx hb dX0_borneAfter_21 rfl (lv_at hl 1 rfl) ?_
          refine lv_icmp_gt (tgt := 52) hx hb dX0_borneAfter_22 (by decide) (fun cb => ?_) (fun cb => ?_)
          · have hw := hw.1 cb
            exact bk_52 (fun (t2' : Int32) (t3' : Int32) (t4' : Int32) => I t2' t3' t4' ∧ μ t2' t3' t4' < μ t2 t3 t4) (fun t2' t3' t4' H locs ls hP hD hS hl hb' => ih t2' t3' t4' H locs ls hP hD hS hl hb'.1 (Nat.lt_of_lt_of_le hb'.2 (Nat.le_of_lt_succ hlt))) t2 t3 t4 H locs ls hP hD hS (lv_sub hl [0, 1, 2, 3, 4] rfl) hw
          · have hw := hw.2 cb
            refine lv_aload_n hx hb dX0_borneAfter_25 rfl (lv_at hl 0 rfl) ?_
            refine va_get (D := D) (ci := 0) (v := .ref h_fromDays) (C := RX0) (T := TX0) (N := 2) hx hb htg in_X0 hown X.1 hP 0 rfl rfl 0 (by decide) (htg _ mw_0) (fun _ h9 => h9) rfl dX0_borneAfter_26 ?_
            refine lv_iload hx hb dX0_borneAfter_29 (lv_at hl 4 rfl) ?_
            obtain ⟨g, hw⟩ := hw
            refine va_iald hx hb X.1 hP 1 0 rfl rfl g dX0_borneAfter_31 ?_
            refine lv_iload_n hx hb dX0_borneAfter_32 rfl (lv_at hl 2 rfl) ?_
            refine lv_icmp_lt (tgt := 52) hx hb dX0_borneAfter_33 (by decide) (fun cb => ?_) (fun cb => ?_)
            · have hw := hw.1 cb
              exact bk_52 (fun (t2' : Int32) (t3' : Int32) (t4' : Int32) => I t2' t3' t4' ∧ μ t2' t3' t4' < μ t2 t3 t4) (fun t2' t3' t4' H locs ls hP hD hS hl hb' => ih t2' t3' t4' H locs ls hP hD hS hl hb'.1 (Nat.lt_of_lt_of_le hb'.2 (Nat.le_of_lt_succ hlt))) t2 t3 t4 H locs ls hP hD hS (lv_sub hl [0, 1, 2, 3, 4] rfl) hw
            · have hw := hw.2 cb
              refine lv_aload_n hx hb dX0_borneAfter_36 rfl (lv_at hl 0 rfl) ?_
              refine va_get (D := D) (ci := 0) (v := .ref h_fromDays) (C := RX0) (T := TX0) (N := 2) hx hb htg in_X0 hown X.1 hP 0 rfl rfl 0 (by decide) (htg _ mw_0) (fun _ h9 => h9) rfl dX0_borneAfter_37 ?_
              refine lv_iload hx hb dX0_borneAfter_40 (lv_at hl 4 rfl) ?_
              obtain ⟨g, hw⟩ := hw
              refine va_iald hx hb X.1 hP 1 0 rfl rfl g dX0_borneAfter_42 ?_
              refine lv_istore_n (lv' := [(2, .int (a_fromDays t4.toNatClampNeg)), (0, .ref h0), (1, .int x1), (3, .int t3), (4, .int t4)]) hx hb dX0_borneAfter_43 rfl hl (by decide) rfl (fun ls hl => ?_)
              refine lv_aload_n hx hb dX0_borneAfter_44 rfl (lv_at hl 1 rfl) ?_
              refine va_get (D := D) (ci := 0) (v := .ref h_sheavesARope) (C := RX0) (T := TX0) (N := 2) hx hb htg in_X0 hown X.1 hP 0 rfl rfl 1 (by decide) (htg _ mw_1) (fun _ h9 => h9) rfl dX0_borneAfter_45 ?_
              refine lv_iload hx hb dX0_borneAfter_48 (lv_at hl 4 rfl) ?_
              obtain ⟨g, hw⟩ := hw
              refine va_iald hx hb X.1 hP 2 0 rfl rfl g dX0_borneAfter_50 ?_
              refine lv_istore_n (lv' := [(3, .int (a_sheavesARope t4.toNatClampNeg)), (2, .int (a_fromDays t4.toNatClampNeg)), (0, .ref h0), (1, .int x1), (4, .int t4)]) hx hb dX0_borneAfter_51 rfl hl (by decide) rfl (fun ls hl => ?_)
              exact bk_52 (fun (t2' : Int32) (t3' : Int32) (t4' : Int32) => I t2' t3' t4' ∧ μ t2' t3' t4' < μ t2 t3 t4) (fun t2' t3' t4' H locs ls hP hD hS hl hb' => ih t2' t3' t4' H locs ls hP hD hS hl hb'.1 (Nat.lt_of_lt_of_le hb'.2 (Nat.le_of_lt_succ hlt))) (a_fromDays t4.toNatClampNeg) (a_sheavesARope t4.toNatClampNeg) t4 H locs ls hP hD hS (lv_sub hl [2, 3, 1, 0, 4] rfl) hw
    exact key (μ t2 t3 t4 + 1) t2 t3 t4 H locs ls hP hD hS hl hI0 (Nat.lt_succ_self _)
  delta wp_X0_borneAfter at hw
  refine lv_iconst (v := -1) hx hb dX0_borneAfter_0 (by decide) ?_
  refine lv_istore_n (lv' := [(2, .int (-1 : Int32)), (0, .ref h0), (1, .int x1)]) hx hb dX0_borneAfter_1 rfl hl (by decide) rfl (fun ls hl => ?_)
  refine lv_iconst (v := 0) hx hb dX0_borneAfter_2 (by decide) ?_
  refine lv_istore_n (lv' := [(3, .int (0 : Int32)), (2, .int (-1 : Int32)), (0, .ref h0), (1, .int x1)]) hx hb dX0_borneAfter_3 rfl hl (by decide) rfl (fun ls hl => ?_)
  refine lv_iconst (v := 0) hx hb dX0_borneAfter_4 (by decide) ?_
  refine lv_istore (lv' := [(4, .int (0 : Int32)), (3, .int (0 : Int32)), (2, .int (-1 : Int32)), (0, .ref h0), (1, .int x1)]) hx hb dX0_borneAfter_5 hl (by decide) rfl (fun ls hl => ?_)
  exact bk_7 (-1 : Int32) (0 : Int32) (0 : Int32) H locs ls hP hD hS (lv_sub hl [3, 4, 2, 1, 0] rfl) hw
set_option maxHeartbeats 40000000 in
set_option maxRecDepth 100000 in
theorem c_X0_borneAfter (l : Launch) (D : va_G) (cI cZ : ClassId) (ad : (Nat → Nat) × (Nat → Nat)) (sz : Nat) (h0 : Nat) (h_fromDays : Nat) (h_sheavesARope : Nat) (a_fromDays : (Nat → Int32)) (a_sheavesARope : (Nat → Int32)) (x1 : Int32)  (Q : Int32 → Prop) (hw : wp_X0_borneAfter a_fromDays a_sheavesARope x1 Q) : Met l yX0_borneAfter ((.code yX0_borneAfter cX0_borneAfter 5 (some .int)) :: gw) rm_X0_borneAfter (va_Pc [.ref h0, .int x1] (PC D cI cZ ad sz (w_X0_borneAfter cI cZ h0 h_fromDays h_sheavesARope a_fromDays a_sheavesARope))) (va_Qi (fun r (_ : Unit) => Q r) (PW D (va_A (w_X0_borneAfter cI cZ h0 h_fromDays h_sheavesARope a_fromDays a_sheavesARope) sz) (fun (_ : Unit) => (w_X0_borneAfter cI cZ h0 h_fromDays h_sheavesARope a_fromDays a_sheavesARope))) (va_A (w_X0_borneAfter cI cZ h0 h_fromDays h_sheavesARope a_fromDays a_sheavesARope) sz)) 0 0 (va_A (w_X0_borneAfter cI cZ h0 h_fromDays h_sheavesARope a_fromDays a_sheavesARope) sz) := by
  refine Met.ofW (cc := cX0_borneAfter) (maxL := 5) (ret := (some .int)) (by decide) rfl ?_
  intro p e s m args below meth c s₁ B hml hv
  have hst := PC.start hv.2
  obtain ⟨ls, hfr, hl⟩ := en_fr (m := m) [.ref h0, .int x1] 5 hv.1 (Nat.le_of_ble_eq_true rfl)
  rw [hfr]
  generalize va_A (w_X0_borneAfter cI cZ h0 h_fromDays h_sheavesARope a_fromDays a_sheavesARope) sz = A at hst ⊢
  obtain ⟨X, hP, hD⟩ := hst
  exact k_X0_borneAfter B.exec B.bytes hml (findClass_of_methodNamed B.named) (atoms_spec (ws := (.code yX0_borneAfter cX0_borneAfter 5 (some .int)) :: gw) B.pre) X h0 h_fromDays h_sheavesARope a_fromDays a_sheavesARope x1 Q _ (fun r H locs pc ls hdg hP hD hS hw => rt_i () B.exec B.bytes B.returns B.notSynchronized hdg hP hD hS hw) s.heap [] ls hP hD va_S.rf hl hw
set_option maxHeartbeats 40000000 in
set_option maxRecDepth 100000 in
theorem k_X1_add {p : Program} {l : Launch} {e : Env} {s : State} {m : MethodId} {args : Array Value} {below : List Frame} {meth : Method} {c : Code} {D : va_G} {cI cZ : ClassId} {ad : (Nat → Nat) × (Nat → Nat)} {A : Nat → Prop} (hx : p.tables.exec = Jvm.exec) (hb : c.code = cX1_add) (hml : c.maxLocals = 5) (hown : s.vm.findClass RX1 = some m.cls) (hts : ∀ w ∈ (.code yX1_add cX1_add 5 none) :: gw, w.before args s = true) (X : CX D cI cZ ad A s) (h0 : Nat) (h_kinds : Nat) (h_parts : Nat) (h_wholes : Nat) (h_bounds : Nat) (f_size : Int32) (a_kinds : (Nat → Int32)) (a_parts : (Nat → Int32)) (a_wholes : (Nat → Int32)) (a_bounds : (Nat → Int32)) (x1 : Int32) (x2 : Int32) (x3 : Int32) (x4 : Int32)  (Q : Int32 → (Nat → Int32) → (Nat → Int32) → (Nat → Int32) → (Nat → Int32) → Prop) (Z : State → Prop) (hret : ∀ (f_size' : Int32) (a_kinds' : (Nat → Int32)) (a_parts' : (Nat → Int32)) (a_wholes' : (Nat → Int32)) (a_bounds' : (Nat → Int32))  (H : Heap) (locs : List Loc) (pc : Nat) (ls : Array Slot), decode cX1_add pc = .ok (.return_, 1) → va_P D classes (w_X1_add cI cZ h0 h_kinds h_parts h_wholes h_bounds f_size' a_kinds' a_parts' a_wholes' a_bounds') H → va_D A (w_X1_add cI cZ h0 h_kinds h_parts h_wholes h_bounds f_size' a_kinds' a_parts' a_wholes' a_bounds') → va_S A s.heap H locs → Q f_size' a_kinds' a_parts' a_wholes' a_bounds' → W p l e rm_X1_add s m args below meth c H locs 0 0 Z (F0 m pc ls [])) (H : Heap) (locs : List Loc) (ls : Array Slot) (hP : va_P D classes (w_X1_add cI cZ h0 h_kinds h_parts h_wholes h_bounds f_size a_kinds a_parts a_wholes a_bounds) H) (hD : va_D A (w_X1_add cI cZ h0 h_kinds h_parts h_wholes h_bounds f_size a_kinds a_parts a_wholes a_bounds)) (hS : va_S A s.heap H locs) (hl : lv_has ls 5 [(0, .ref h0), (1, .int x1), (2, .int x2), (3, .int x3), (4, .int x4)]) (hw : wp_X1_add f_size a_kinds a_parts a_wholes a_bounds x1 x2 x3 x4 Q) : W p l e rm_X1_add s m args below meth c H locs 0 0 Z (F0 m 0 ls []) := by
  have htg : ∀ w ∈ gw, w.before args s = true := fun w h => hts w (gw_cons w h)
  delta wp_X1_add at hw
  refine lv_aload_n hx hb dX1_add_0 rfl (lv_at hl 0 rfl) ?_
  refine va_get (D := D) (ci := 1) (v := .int f_size) (C := RX1) (T := TX1) (N := 5) hx hb htg in_X1 hown X.1 hP 0 rfl rfl 4 (by decide) (htg _ mw_2) (fun _ h9 => h9) rfl dX1_add_1 ?_
  refine lv_bipush (v := 20) hx hb dX1_add_4 (by decide) ?_
  refine lv_icmp_ge (tgt := 60) hx hb dX1_add_6 (by decide) (fun cb => ?_) (fun cb => ?_)
  · have hw := hw.1 cb
    exact hret f_size a_kinds a_parts a_wholes a_bounds H locs _ _ dX1_add_60 hP hD hS hw
  · have hw := hw.2 cb
    refine lv_aload_n hx hb dX1_add_9 rfl (lv_at hl 0 rfl) ?_
    refine va_get (D := D) (ci := 1) (v := .ref h_kinds) (C := RX1) (T := TX1) (N := 5) hx hb htg in_X1 hown X.1 hP 0 rfl rfl 0 (by decide) (htg _ mw_3) (fun _ h9 => h9) rfl dX1_add_10 ?_
    refine lv_aload_n hx hb dX1_add_13 rfl (lv_at hl 0 rfl) ?_
    refine va_get (D := D) (ci := 1) (v := .int f_size) (C := RX1) (T := TX1) (N := 5) hx hb htg in_X1 hown X.1 hP 0 rfl rfl 4 (by decide) (htg _ mw_2) (fun _ h9 => h9) rfl dX1_add_14 ?_
    refine lv_iload_n hx hb dX1_add_17 rfl (lv_at hl 1 rfl) ?_
    obtain ⟨g, hw⟩ := hw
    refine va_iast hx hb X.1 hP hD hS 1 0 rfl rfl g dX1_add_18 (fun H locs hP hD hS => ?_)
    have hP : va_P D classes (w_X1_add cI cZ h0 h_kinds h_parts h_wholes h_bounds f_size (upd a_kinds f_size.toNatClampNeg x1) a_parts a_wholes a_bounds) H := hP
    have hD : va_D A (w_X1_add cI cZ h0 h_kinds h_parts h_wholes h_bounds f_size (upd a_kinds f_size.toNatClampNeg x1) a_parts a_wholes a_bounds) := hD
    refine lv_aload_n hx hb dX1_add_19 rfl (lv_at hl 0 rfl) ?_
    refine va_get (D := D) (ci := 1) (v := .ref h_parts) (C := RX1) (T := TX1) (N := 5) hx hb htg in_X1 hown X.1 hP 0 rfl rfl 1 (by decide) (htg _ mw_4) (fun _ h9 => h9) rfl dX1_add_20 ?_
    refine lv_aload_n hx hb dX1_add_23 rfl (lv_at hl 0 rfl) ?_
    refine va_get (D := D) (ci := 1) (v := .int f_size) (C := RX1) (T := TX1) (N := 5) hx hb htg in_X1 hown X.1 hP 0 rfl rfl 4 (by decide) (htg _ mw_2) (fun _ h9 => h9) rfl dX1_add_24 ?_
    refine lv_iload_n hx hb dX1_add_27 rfl (lv_at hl 2 rfl) ?_
    obtain ⟨g, hw⟩ := hw
    refine va_iast hx hb X.1 hP hD hS 2 0 rfl rfl g dX1_add_28 (fun H locs hP hD hS => ?_)
    have hP : va_P D classes (w_X1_add cI cZ h0 h_kinds h_parts h_wholes h_bounds f_size (upd a_kinds f_size.toNatClampNeg x1) (upd a_parts f_size.toNatClampNeg x2) a_wholes a_bounds) H := hP
    have hD : va_D A (w_X1_add cI cZ h0 h_kinds h_parts h_wholes h_bounds f_size (upd a_kinds f_size.toNatClampNeg x1) (upd a_parts f_size.toNatClampNeg x2) a_wholes a_bounds) := hD
    refine lv_aload_n hx hb dX1_add_29 rfl (lv_at hl 0 rfl) ?_
    refine va_get (D := D) (ci := 1) (v := .ref h_wholes) (C := RX1) (T := TX1) (N := 5) hx hb htg in_X1 hown X.1 hP 0 rfl rfl 2 (by decide) (htg _ mw_5) (fun _ h9 => h9) rfl dX1_add_30 ?_
    refine lv_aload_n hx hb dX1_add_33 rfl (lv_at hl 0 rfl) ?_
    refine va_get (D := D) (ci := 1) (v := .int f_size) (C := RX1) (T := TX1) (N := 5) hx hb htg in_X1 hown X.1 hP 0 rfl rfl 4 (by decide) (htg _ mw_2) (fun _ h9 => h9) rfl dX1_add_34 ?_
    refine lv_iload_n hx hb dX1_add_37 rfl (lv_at hl 3 rfl) ?_
    obtain ⟨g, hw⟩ := hw
    refine va_iast hx hb X.1 hP hD hS 3 0 rfl rfl g dX1_add_38 (fun H locs hP hD hS => ?_)
    have hP : va_P D classes (w_X1_add cI cZ h0 h_kinds h_parts h_wholes h_bounds f_size (upd a_kinds f_size.toNatClampNeg x1) (upd a_parts f_size.toNatClampNeg x2) (upd a_wholes f_size.toNatClampNeg x3) a_bounds) H := hP
    have hD : va_D A (w_X1_add cI cZ h0 h_kinds h_parts h_wholes h_bounds f_size (upd a_kinds f_size.toNatClampNeg x1) (upd a_parts f_size.toNatClampNeg x2) (upd a_wholes f_size.toNatClampNeg x3) a_bounds) := hD
    refine lv_aload_n hx hb dX1_add_39 rfl (lv_at hl 0 rfl) ?_
    refine va_get (D := D) (ci := 1) (v := .ref h_bounds) (C := RX1) (T := TX1) (N := 5) hx hb htg in_X1 hown X.1 hP 0 rfl rfl 3 (by decide) (htg _ mw_6) (fun _ h9 => h9) rfl dX1_add_40 ?_
    refine lv_aload_n hx hb dX1_add_43 rfl (lv_at hl 0 rfl) ?_
    refine va_get (D := D) (ci := 1) (v := .int f_size) (C := RX1) (T := TX1) (N := 5) hx hb htg in_X1 hown X.1 hP 0 rfl rfl 4 (by decide) (htg _ mw_2) (fun _ h9 => h9) rfl dX1_add_44 ?_
    refine lv_iload hx hb dX1_add_47 (lv_at hl 4 rfl) ?_
    obtain ⟨g, hw⟩ := hw
    refine va_iast hx hb X.1 hP hD hS 4 0 rfl rfl g dX1_add_49 (fun H locs hP hD hS => ?_)
    have hP : va_P D classes (w_X1_add cI cZ h0 h_kinds h_parts h_wholes h_bounds f_size (upd a_kinds f_size.toNatClampNeg x1) (upd a_parts f_size.toNatClampNeg x2) (upd a_wholes f_size.toNatClampNeg x3) (upd a_bounds f_size.toNatClampNeg x4)) H := hP
    have hD : va_D A (w_X1_add cI cZ h0 h_kinds h_parts h_wholes h_bounds f_size (upd a_kinds f_size.toNatClampNeg x1) (upd a_parts f_size.toNatClampNeg x2) (upd a_wholes f_size.toNatClampNeg x3) (upd a_bounds f_size.toNatClampNeg x4)) := hD
    refine lv_aload_n hx hb dX1_add_50 rfl (lv_at hl 0 rfl) ?_
    refine lv_dup hx hb dX1_add_51 rfl ?_
    refine va_get (D := D) (ci := 1) (v := .int f_size) (C := RX1) (T := TX1) (N := 5) hx hb htg in_X1 hown X.1 hP 0 rfl rfl 4 (by decide) (htg _ mw_2) (fun _ h9 => h9) rfl dX1_add_52 ?_
    refine lv_iconst (v := 1) hx hb dX1_add_55 (by decide) ?_
    refine lv_iadd hx hb dX1_add_56 ?_
    refine va_put (D := D) (ci := 1) (v := .int (f_size + (1 : Int32))) (ty := .int) (C := RX1) (T := TX1) (N := 5) hx hb htg in_X1 tyX1 tyX1_ok nmX1 hown X.1 hP hD hS 0 rfl rfl 4 (by decide) (htg _ mw_2) (fun _ h9 => h9) rfl (by decide +kernel) rfl rfl (Nat.le_of_ble_eq_true rfl) dX1_add_57 (fun H locs hP hD hS => ?_)
    have hP : va_P D classes (w_X1_add cI cZ h0 h_kinds h_parts h_wholes h_bounds (f_size + (1 : Int32)) (upd a_kinds f_size.toNatClampNeg x1) (upd a_parts f_size.toNatClampNeg x2) (upd a_wholes f_size.toNatClampNeg x3) (upd a_bounds f_size.toNatClampNeg x4)) H := hP
    have hD : va_D A (w_X1_add cI cZ h0 h_kinds h_parts h_wholes h_bounds (f_size + (1 : Int32)) (upd a_kinds f_size.toNatClampNeg x1) (upd a_parts f_size.toNatClampNeg x2) (upd a_wholes f_size.toNatClampNeg x3) (upd a_bounds f_size.toNatClampNeg x4)) := hD
    exact hret (f_size + (1 : Int32)) (upd a_kinds f_size.toNatClampNeg x1) (upd a_parts f_size.toNatClampNeg x2) (upd a_wholes f_size.toNatClampNeg x3) (upd a_bounds f_size.toNatClampNeg x4) H locs _ _ dX1_add_60 hP hD hS hw
set_option maxHeartbeats 40000000 in
set_option maxRecDepth 100000 in
theorem c_X1_add (l : Launch) (D : va_G) (cI cZ : ClassId) (ad : (Nat → Nat) × (Nat → Nat)) (sz : Nat) (h0 : Nat) (h_kinds : Nat) (h_parts : Nat) (h_wholes : Nat) (h_bounds : Nat) (f_size : Int32) (a_kinds : (Nat → Int32)) (a_parts : (Nat → Int32)) (a_wholes : (Nat → Int32)) (a_bounds : (Nat → Int32)) (x1 : Int32) (x2 : Int32) (x3 : Int32) (x4 : Int32)  (Q : Int32 → (Nat → Int32) → (Nat → Int32) → (Nat → Int32) → (Nat → Int32) → Prop) (hw : wp_X1_add f_size a_kinds a_parts a_wholes a_bounds x1 x2 x3 x4 Q) : Met l yX1_add ((.code yX1_add cX1_add 5 none) :: gw) rm_X1_add (va_Pc [.ref h0, .int x1, .int x2, .int x3, .int x4] (PC D cI cZ ad sz (w_X1_add cI cZ h0 h_kinds h_parts h_wholes h_bounds f_size a_kinds a_parts a_wholes a_bounds))) (va_Qv (fun (u : Int32 × (Nat → Int32) × (Nat → Int32) × (Nat → Int32) × (Nat → Int32)) => Q u.1 u.2.1 u.2.2.1 u.2.2.2.1 u.2.2.2.2) (PW D (va_A (w_X1_add cI cZ h0 h_kinds h_parts h_wholes h_bounds f_size a_kinds a_parts a_wholes a_bounds) sz) (fun (u : Int32 × (Nat → Int32) × (Nat → Int32) × (Nat → Int32) × (Nat → Int32)) => (w_X1_add cI cZ h0 h_kinds h_parts h_wholes h_bounds u.1 u.2.1 u.2.2.1 u.2.2.2.1 u.2.2.2.2))) (va_A (w_X1_add cI cZ h0 h_kinds h_parts h_wholes h_bounds f_size a_kinds a_parts a_wholes a_bounds) sz)) 0 0 (va_A (w_X1_add cI cZ h0 h_kinds h_parts h_wholes h_bounds f_size a_kinds a_parts a_wholes a_bounds) sz) := by
  refine Met.ofW (cc := cX1_add) (maxL := 5) (ret := none) (by decide) rfl ?_
  intro p e s m args below meth c s₁ B hml hv
  have hst := PC.start hv.2
  obtain ⟨ls, hfr, hl⟩ := en_fr (m := m) [.ref h0, .int x1, .int x2, .int x3, .int x4] 5 hv.1 (Nat.le_of_ble_eq_true rfl)
  rw [hfr]
  generalize va_A (w_X1_add cI cZ h0 h_kinds h_parts h_wholes h_bounds f_size a_kinds a_parts a_wholes a_bounds) sz = A at hst ⊢
  obtain ⟨X, hP, hD⟩ := hst
  exact k_X1_add B.exec B.bytes hml (findClass_of_methodNamed B.named) (atoms_spec (ws := (.code yX1_add cX1_add 5 none) :: gw) B.pre) X h0 h_kinds h_parts h_wholes h_bounds f_size a_kinds a_parts a_wholes a_bounds x1 x2 x3 x4 Q _ (fun f_size' a_kinds' a_parts' a_wholes' a_bounds' H locs pc ls hdg hP hD hS hw => rt_v (f_size', a_kinds', a_parts', a_wholes', a_bounds') B.exec B.bytes B.returns B.notSynchronized hdg hP hD hS hw) s.heap [] ls hP hD va_S.rf hl hw
set_option maxHeartbeats 40000000 in
set_option maxRecDepth 100000 in
theorem k_X1_lastOf {p : Program} {l : Launch} {e : Env} {s : State} {m : MethodId} {args : Array Value} {below : List Frame} {meth : Method} {c : Code} {D : va_G} {cI cZ : ClassId} {ad : (Nat → Nat) × (Nat → Nat)} {A : Nat → Prop} (hx : p.tables.exec = Jvm.exec) (hb : c.code = cX1_lastOf) (hml : c.maxLocals = 4) (hown : s.vm.findClass RX1 = some m.cls) (hts : ∀ w ∈ (.code yX1_lastOf cX1_lastOf 4 (some .int)) :: gw, w.before args s = true) (X : CX D cI cZ ad A s) (h0 : Nat) (h_kinds : Nat) (h_parts : Nat) (h_wholes : Nat) (h_bounds : Nat) (f_size : Int32) (a_kinds : (Nat → Int32)) (x1 : Int32)  (Q : Int32 → Prop) (Z : State → Prop) (hret : ∀ (r : Int32)   (H : Heap) (locs : List Loc) (pc : Nat) (ls : Array Slot), decode cX1_lastOf pc = .ok (.ireturn, 1) → va_P D classes (w_X1_lastOf cI cZ h0 h_kinds h_parts h_wholes h_bounds f_size a_kinds) H → va_D A (w_X1_lastOf cI cZ h0 h_kinds h_parts h_wholes h_bounds f_size a_kinds) → va_S A s.heap H locs → Q r  → W p l e rm_X1_lastOf s m args below meth c H locs 0 0 Z (F0 m pc ls [.int r])) (H : Heap) (locs : List Loc) (ls : Array Slot) (hP : va_P D classes (w_X1_lastOf cI cZ h0 h_kinds h_parts h_wholes h_bounds f_size a_kinds) H) (hD : va_D A (w_X1_lastOf cI cZ h0 h_kinds h_parts h_wholes h_bounds f_size a_kinds)) (hS : va_S A s.heap H locs) (hl : lv_has ls 4 [(0, .ref h0), (1, .int x1)]) (hw : wp_X1_lastOf f_size a_kinds x1 Q) : W p l e rm_X1_lastOf s m args below meth c H locs 0 0 Z (F0 m 0 ls []) := by
  have htg : ∀ w ∈ gw, w.before args s = true := fun w h => hts w (gw_cons w h)
  have bk_24 : ∀ (B_4 : Int32 → Int32 → Prop) (hB_4 : ∀ (t2 : Int32) (t3 : Int32) (H : Heap) (locs : List Loc) (ls : Array Slot), va_P D classes (w_X1_lastOf cI cZ h0 h_kinds h_parts h_wholes h_bounds f_size a_kinds) H → va_D A (w_X1_lastOf cI cZ h0 h_kinds h_parts h_wholes h_bounds f_size a_kinds) → va_S A s.heap H locs → lv_has ls 4 [(0, .ref h0), (1, .int x1), (2, .int t2), (3, .int t3)] → B_4 t2 t3 → W p l e rm_X1_lastOf s m args below meth c H locs 0 0 Z (F0 m 4 ls [])), ∀ (t2 : Int32) (t3 : Int32) (H : Heap) (locs : List Loc) (ls : Array Slot), va_P D classes (w_X1_lastOf cI cZ h0 h_kinds h_parts h_wholes h_bounds f_size a_kinds) H → va_D A (w_X1_lastOf cI cZ h0 h_kinds h_parts h_wholes h_bounds f_size a_kinds) → va_S A s.heap H locs → lv_has ls 4 [(0, .ref h0), (1, .int x1), (2, .int t2), (3, .int t3)] → wp_X1_lastOf_b24 f_size a_kinds x1 Q B_4 t2 t3 → W p l e rm_X1_lastOf s m args below meth c H locs 0 0 Z (F0 m 24 ls []) := by
    intro B_4 hB_4 t2 t3 H locs ls hP hD hS hl hw
    delta wp_X1_lastOf_b24 at hw
    refine lv_iinc (v := t3 + 1) (lv' := [(3, .int (t3 + 1)), (0, .ref h0), (1, .int x1), (2, .int t2)]) hx hb dX1_lastOf_24 hl (k := 3) rfl rfl (by decide) rfl (fun ls hl => ?_)
    refine lv_goto (tgt := 4) hx hb dX1_lastOf_27 (by decide) ?_
    exact hB_4 t2 (t3 + 1) H locs ls hP hD hS (lv_sub hl [1, 2, 3, 0] rfl) hw
  have bk_4 : ∀ (t2 : Int32) (t3 : Int32) (H : Heap) (locs : List Loc) (ls : Array Slot), va_P D classes (w_X1_lastOf cI cZ h0 h_kinds h_parts h_wholes h_bounds f_size a_kinds) H → va_D A (w_X1_lastOf cI cZ h0 h_kinds h_parts h_wholes h_bounds f_size a_kinds) → va_S A s.heap H locs → lv_has ls 4 [(0, .ref h0), (1, .int x1), (2, .int t2), (3, .int t3)] → wp_X1_lastOf_b4 f_size a_kinds x1 Q t2 t3 → W p l e rm_X1_lastOf s m args below meth c H locs 0 0 Z (F0 m 4 ls []) := by
    intro  t2 t3 H locs ls hP hD hS hl hw
    delta wp_X1_lastOf_b4 at hw
    obtain ⟨I, μ, hI0, hst⟩ := hw
    have key : ∀ (n : Nat) (t2 : Int32) (t3 : Int32) (H : Heap) (locs : List Loc) (ls : Array Slot), va_P D classes (w_X1_lastOf cI cZ h0 h_kinds h_parts h_wholes h_bounds f_size a_kinds) H → va_D A (w_X1_lastOf cI cZ h0 h_kinds h_parts h_wholes h_bounds f_size a_kinds) → va_S A s.heap H locs → lv_has ls 4 [(0, .ref h0), (1, .int x1), (2, .int t2), (3, .int t3)] → I t2 t3 → μ t2 t3 < n → W p l e rm_X1_lastOf s m args below meth c H locs 0 0 Z (F0 m 4 ls []) := by
      intro n
      induction n with
      | zero => intro t2 t3 H locs ls hP hD hS hl hI hlt; exact absurd hlt (Nat.not_lt_zero _)
      | succ n ih =>
        intro t2 t3 H locs ls hP hD hS hl hI hlt
        have hw := hst t2 t3 hI
        refine lv_iload_n hx hb dX1_lastOf_4 rfl (lv_at hl 3 rfl) ?_
        refine lv_aload_n hx hb dX1_lastOf_5 rfl (lv_at hl 0 rfl) ?_
        refine va_get (D := D) (ci := 1) (v := .int f_size) (C := RX1) (T := TX1) (N := 5) hx hb htg in_X1 hown X.1 hP 0 rfl rfl 4 (by decide) (htg _ mw_2) (fun _ h9 => h9) rfl dX1_lastOf_6 ?_
        refine lv_icmp_ge (tgt := 30) hx hb dX1_lastOf_9 (by decide) (fun cb => ?_) (fun cb => ?_)
        · have hw := hw.1 cb
          refine lv_iload_n hx hb dX1_lastOf_30 rfl (lv_at hl 2 rfl) ?_
          exact hret t2 H locs _ _ dX1_lastOf_31 hP hD hS hw
        · have hw := hw.2 cb
          refine lv_aload_n hx hb dX1_lastOf_12 rfl (lv_at hl 0 rfl) ?_
          refine va_get (D := D) (ci := 1) (v := .ref h_kinds) (C := RX1) (T := TX1) (N := 5) hx hb htg in_X1 hown X.1 hP 0 rfl rfl 0 (by decide) (htg _ mw_3) (fun _ h9 => h9) rfl dX1_lastOf_13 ?_
          refine lv_iload_n hx hb dX1_lastOf_16 rfl (lv_at hl 3 rfl) ?_
          obtain ⟨g, hw⟩ := hw
          refine va_iald hx hb X.1 hP 1 0 rfl rfl g dX1_lastOf_17 ?_
          refine lv_iload_n hx hb dX1_lastOf_18 rfl (lv_at hl 1 rfl) ?_
          refine lv_icmp_ne (tgt := 24) hx hb dX1_lastOf_19 (by decide) (fun cb => ?_) (fun cb => ?_)
          · have hw := hw.1 cb
            exact bk_24 (fun (t2' : Int32) (t3' : Int32) => I t2' t3' ∧ μ t2' t3' < μ t2 t3) (fun t2' t3' H locs ls hP hD hS hl hb' => ih t2' t3' H locs ls hP hD hS hl hb'.1 (Nat.lt_of_lt_of_le hb'.2 (Nat.le_of_lt_succ hlt))) t2 t3 H locs ls hP hD hS (lv_sub hl [0, 1, 2, 3] rfl) hw
          · have hw := hw.2 cb
            refine lv_iload_n hx hb dX1_lastOf_22 rfl (lv_at hl 3 rfl) ?_
            refine lv_istore_n (lv' := [(2, .int t3), (0, .ref h0), (1, .int x1), (3, .int t3)]) hx hb dX1_lastOf_23 rfl hl (by decide) rfl (fun ls hl => ?_)
            exact bk_24 (fun (t2' : Int32) (t3' : Int32) => I t2' t3' ∧ μ t2' t3' < μ t2 t3) (fun t2' t3' H locs ls hP hD hS hl hb' => ih t2' t3' H locs ls hP hD hS hl hb'.1 (Nat.lt_of_lt_of_le hb'.2 (Nat.le_of_lt_succ hlt))) t3 t3 H locs ls hP hD hS (lv_sub hl [1, 2, 0, 3] rfl) hw
    exact key (μ t2 t3 + 1) t2 t3 H locs ls hP hD hS hl hI0 (Nat.lt_succ_self _)
  delta wp_X1_lastOf at hw
  refine lv_iconst (v := -1) hx hb dX1_lastOf_0 (by decide) ?_
  refine lv_istore_n (lv' := [(2, .int (-1 : Int32)), (0, .ref h0), (1, .int x1)]) hx hb dX1_lastOf_1 rfl hl (by decide) rfl (fun ls hl => ?_)
  refine lv_iconst (v := 0) hx hb dX1_lastOf_2 (by decide) ?_
  refine lv_istore_n (lv' := [(3, .int (0 : Int32)), (2, .int (-1 : Int32)), (0, .ref h0), (1, .int x1)]) hx hb dX1_lastOf_3 rfl hl (by decide) rfl (fun ls hl => ?_)
  exact bk_4 (-1 : Int32) (0 : Int32) H locs ls hP hD hS (lv_sub hl [2, 3, 1, 0] rfl) hw
set_option maxHeartbeats 40000000 in
set_option maxRecDepth 100000 in
theorem c_X1_lastOf (l : Launch) (D : va_G) (cI cZ : ClassId) (ad : (Nat → Nat) × (Nat → Nat)) (sz : Nat) (h0 : Nat) (h_kinds : Nat) (h_parts : Nat) (h_wholes : Nat) (h_bounds : Nat) (f_size : Int32) (a_kinds : (Nat → Int32)) (x1 : Int32)  (Q : Int32 → Prop) (hw : wp_X1_lastOf f_size a_kinds x1 Q) : Met l yX1_lastOf ((.code yX1_lastOf cX1_lastOf 4 (some .int)) :: gw) rm_X1_lastOf (va_Pc [.ref h0, .int x1] (PC D cI cZ ad sz (w_X1_lastOf cI cZ h0 h_kinds h_parts h_wholes h_bounds f_size a_kinds))) (va_Qi (fun r (_ : Unit) => Q r) (PW D (va_A (w_X1_lastOf cI cZ h0 h_kinds h_parts h_wholes h_bounds f_size a_kinds) sz) (fun (_ : Unit) => (w_X1_lastOf cI cZ h0 h_kinds h_parts h_wholes h_bounds f_size a_kinds))) (va_A (w_X1_lastOf cI cZ h0 h_kinds h_parts h_wholes h_bounds f_size a_kinds) sz)) 0 0 (va_A (w_X1_lastOf cI cZ h0 h_kinds h_parts h_wholes h_bounds f_size a_kinds) sz) := by
  refine Met.ofW (cc := cX1_lastOf) (maxL := 4) (ret := (some .int)) (by decide) rfl ?_
  intro p e s m args below meth c s₁ B hml hv
  have hst := PC.start hv.2
  obtain ⟨ls, hfr, hl⟩ := en_fr (m := m) [.ref h0, .int x1] 4 hv.1 (Nat.le_of_ble_eq_true rfl)
  rw [hfr]
  generalize va_A (w_X1_lastOf cI cZ h0 h_kinds h_parts h_wholes h_bounds f_size a_kinds) sz = A at hst ⊢
  obtain ⟨X, hP, hD⟩ := hst
  exact k_X1_lastOf B.exec B.bytes hml (findClass_of_methodNamed B.named) (atoms_spec (ws := (.code yX1_lastOf cX1_lastOf 4 (some .int)) :: gw) B.pre) X h0 h_kinds h_parts h_wholes h_bounds f_size a_kinds x1 Q _ (fun r H locs pc ls hdg hP hD hS hw => rt_i () B.exec B.bytes B.returns B.notSynchronized hdg hP hD hS hw) s.heap [] ls hP hD va_S.rf hl hw
set_option maxHeartbeats 40000000 in
set_option maxRecDepth 100000 in
theorem k_X1_frees {p : Program} {l : Launch} {e : Env} {s : State} {m : MethodId} {args : Array Value} {below : List Frame} {meth : Method} {c : Code} {D : va_G} {cI cZ : ClassId} {ad : (Nat → Nat) × (Nat → Nat)} {A : Nat → Prop} (hx : p.tables.exec = Jvm.exec) (hb : c.code = cX1_frees) (hml : c.maxLocals = 3) (hown : s.vm.findClass RX1 = some m.cls) (hts : ∀ w ∈ (.code yX1_frees cX1_frees 3 (some .boolean)) :: gw, w.before args s = true) (X : CX D cI cZ ad A s) (h0 : Nat) (h_kinds : Nat) (h_parts : Nat) (h_wholes : Nat) (h_bounds : Nat) (f_size : Int32) (a_kinds : (Nat → Int32)) (a_bounds : (Nat → Int32)) (x1 : Int32)  (Q : Int32 → Prop) (Z : State → Prop) (hret : ∀ (r : Int32)   (H : Heap) (locs : List Loc) (pc : Nat) (ls : Array Slot), decode cX1_frees pc = .ok (.ireturn, 1) → (r = 0 ∨ r = 1) → va_P D classes (w_X1_frees cI cZ h0 h_kinds h_parts h_wholes h_bounds f_size a_kinds a_bounds) H → va_D A (w_X1_frees cI cZ h0 h_kinds h_parts h_wholes h_bounds f_size a_kinds a_bounds) → va_S A s.heap H locs → Q r  → W p l e rm_X1_frees s m args below meth c H locs 0 0 Z (F0 m pc ls [.int r])) (H : Heap) (locs : List Loc) (ls : Array Slot) (hP : va_P D classes (w_X1_frees cI cZ h0 h_kinds h_parts h_wholes h_bounds f_size a_kinds a_bounds) H) (hD : va_D A (w_X1_frees cI cZ h0 h_kinds h_parts h_wholes h_bounds f_size a_kinds a_bounds)) (hS : va_S A s.heap H locs) (hl : lv_has ls 3 [(0, .ref h0), (1, .int x1)]) (hw : wp_X1_frees f_size a_kinds a_bounds x1 Q) : W p l e rm_X1_frees s m args below meth c H locs 0 0 Z (F0 m 0 ls []) := by
  have htg : ∀ w ∈ gw, w.before args s = true := fun w h => hts w (gw_cons w h)
  have bk_25 : ∀  (H : Heap) (locs : List Loc) (ls : Array Slot), va_P D classes (w_X1_frees cI cZ h0 h_kinds h_parts h_wholes h_bounds f_size a_kinds a_bounds) H → va_D A (w_X1_frees cI cZ h0 h_kinds h_parts h_wholes h_bounds f_size a_kinds a_bounds) → va_S A s.heap H locs → lv_has ls 3 [] → wp_X1_frees_b25 f_size a_kinds a_bounds x1 Q → W p l e rm_X1_frees s m args below meth c H locs 0 0 Z (F0 m 25 ls []) := by
    intro   H locs ls hP hD hS hl hw
    delta wp_X1_frees_b25 at hw
    refine lv_iconst (v := 0) hx hb dX1_frees_25 (by decide) ?_
    exact hret (0 : Int32) H locs _ _ dX1_frees_26 (by decide) hP hD hS hw
  delta wp_X1_frees at hw
  refine lv_aload_n hx hb dX1_frees_0 rfl (lv_at hl 0 rfl) ?_
  refine lv_iconst (v := 2) hx hb dX1_frees_1 (by decide) ?_
  refine cv_i (rest := []) (ws2 := fun (u : Unit) => (w_X1_frees cI cZ h0 h_kinds h_parts h_wholes h_bounds f_size a_kinds a_bounds)) ⟨hx, hb, hml, hown, hts⟩ (c_X1_lastOf l D cI cZ ad H.size h0 h_kinds h_parts h_wholes h_bounds f_size a_kinds (2 : Int32) _ hw) (cwV 1 hts (gIV gw_cons mw_7 gy_X1_lastOf) rfl rfl rfl hd_X1_lastOf ⟨Nat.le_of_ble_eq_true rfl, Nat.le_of_ble_eq_true rfl⟩) X hP hD hS [0, 1] [2] [1, 2, 0] rfl rfl rfl rfl rfl rfl (fun u => rfl) 0 1 rfl rfl rfl (lv_sub hl [] rfl) rfl (Nat.le_of_ble_eq_true rfl) dX1_frees_2 ⟨Nat.zero_le _, Nat.zero_le _⟩ (fun r_1 u H locs hw hP hD hS => ?_)
  have hP : va_P D classes (w_X1_frees cI cZ h0 h_kinds h_parts h_wholes h_bounds f_size a_kinds a_bounds) H := hP
  have hD : va_D A (w_X1_frees cI cZ h0 h_kinds h_parts h_wholes h_bounds f_size a_kinds a_bounds) := hD
  refine lv_istore_n (lv' := [(2, .int r_1), (0, .ref h0), (1, .int x1)]) hx hb dX1_frees_5 rfl hl (by decide) rfl (fun ls hl => ?_)
  refine lv_iload_n hx hb dX1_frees_6 rfl (lv_at hl 0 rfl) ?_
  refine lv_iconst (v := -1) hx hb dX1_frees_7 (by decide) ?_
  refine lv_icmp_eq (tgt := 25) hx hb dX1_frees_8 (by decide) (fun cb => ?_) (fun cb => ?_)
  · have hw := hw.1 cb
    exact bk_25  H locs ls hP hD hS (lv_sub hl [] rfl) hw
  · have hw := hw.2 cb
    refine lv_iload_n hx hb dX1_frees_11 rfl (lv_at hl 2 rfl) ?_
    refine lv_aload_n hx hb dX1_frees_12 rfl (lv_at hl 1 rfl) ?_
    refine va_get (D := D) (ci := 1) (v := .ref h_bounds) (C := RX1) (T := TX1) (N := 5) hx hb htg in_X1 hown X.1 hP 0 rfl rfl 3 (by decide) (htg _ mw_6) (fun _ h9 => h9) rfl dX1_frees_13 ?_
    refine lv_iload_n hx hb dX1_frees_16 rfl (lv_at hl 0 rfl) ?_
    obtain ⟨g, hw⟩ := hw
    refine va_iald hx hb X.1 hP 2 0 rfl rfl g dX1_frees_17 ?_
    refine lv_icmp_ge (tgt := 25) hx hb dX1_frees_18 (by decide) (fun cb => ?_) (fun cb => ?_)
    · have hw := hw.1 cb
      exact bk_25  H locs ls hP hD hS (lv_sub hl [] rfl) hw
    · have hw := hw.2 cb
      refine lv_iconst (v := 1) hx hb dX1_frees_21 (by decide) ?_
      refine lv_goto (tgt := 26) hx hb dX1_frees_22 (by decide) ?_
      exact hret (1 : Int32) H locs _ _ dX1_frees_26 (by decide) hP hD hS hw
set_option maxHeartbeats 40000000 in
set_option maxRecDepth 100000 in
theorem c_X1_frees (l : Launch) (D : va_G) (cI cZ : ClassId) (ad : (Nat → Nat) × (Nat → Nat)) (sz : Nat) (h0 : Nat) (h_kinds : Nat) (h_parts : Nat) (h_wholes : Nat) (h_bounds : Nat) (f_size : Int32) (a_kinds : (Nat → Int32)) (a_bounds : (Nat → Int32)) (x1 : Int32)  (Q : Int32 → Prop) (hw : wp_X1_frees f_size a_kinds a_bounds x1 Q) : Met l yX1_frees ((.code yX1_frees cX1_frees 3 (some .boolean)) :: gw) rm_X1_frees (va_Pc [.ref h0, .int x1] (PC D cI cZ ad sz (w_X1_frees cI cZ h0 h_kinds h_parts h_wholes h_bounds f_size a_kinds a_bounds))) (va_Qi (fun r (_ : Unit) => Q r) (PW D (va_A (w_X1_frees cI cZ h0 h_kinds h_parts h_wholes h_bounds f_size a_kinds a_bounds) sz) (fun (_ : Unit) => (w_X1_frees cI cZ h0 h_kinds h_parts h_wholes h_bounds f_size a_kinds a_bounds))) (va_A (w_X1_frees cI cZ h0 h_kinds h_parts h_wholes h_bounds f_size a_kinds a_bounds) sz)) 0 0 (va_A (w_X1_frees cI cZ h0 h_kinds h_parts h_wholes h_bounds f_size a_kinds a_bounds) sz) := by
  refine Met.ofW (cc := cX1_frees) (maxL := 3) (ret := (some .boolean)) (by decide) rfl ?_
  intro p e s m args below meth c s₁ B hml hv
  have hst := PC.start hv.2
  obtain ⟨ls, hfr, hl⟩ := en_fr (m := m) [.ref h0, .int x1] 3 hv.1 (Nat.le_of_ble_eq_true rfl)
  rw [hfr]
  generalize va_A (w_X1_frees cI cZ h0 h_kinds h_parts h_wholes h_bounds f_size a_kinds a_bounds) sz = A at hst ⊢
  obtain ⟨X, hP, hD⟩ := hst
  exact k_X1_frees B.exec B.bytes hml (findClass_of_methodNamed B.named) (atoms_spec (ws := (.code yX1_frees cX1_frees 3 (some .boolean)) :: gw) B.pre) X h0 h_kinds h_parts h_wholes h_bounds f_size a_kinds a_bounds x1 Q _ (fun r H locs pc ls hdg hz hP hD hS hw => rt_z () B.exec B.bytes B.returns B.notSynchronized hdg hz hP hD hS hw) s.heap [] ls hP hD va_S.rf hl hw
set_option maxHeartbeats 40000000 in
set_option maxRecDepth 100000 in
theorem k_X7_share {p : Program} {l : Launch} {e : Env} {s : State} {m : MethodId} {args : Array Value} {below : List Frame} {meth : Method} {c : Code} {D : va_G} {cI cZ : ClassId} {ad : (Nat → Nat) × (Nat → Nat)} {A : Nat → Prop} (hx : p.tables.exec = Jvm.exec) (hb : c.code = cX7_share) (hml : c.maxLocals = 6) (hown : s.vm.findClass RX7 = some m.cls) (hts : ∀ w ∈ (.code yX7_share cX7_share 6 (some .long)) :: gw, w.before args s = true) (X : CX D cI cZ ad A s)  (x0 : Int64) (x2 : Int64) (x4 : Int64)  (Q : Int64 → Prop) (Z : State → Prop) (hret : ∀ (r : Int64)   (H : Heap) (locs : List Loc) (pc : Nat) (ls : Array Slot), decode cX7_share pc = .ok (.lreturn, 1) → va_P D classes ([] : va_W) H → va_D A ([] : va_W) → va_S A s.heap H locs → Q r  → W p l e rm_X7_share s m args below meth c H locs 0 0 Z (F0 m pc ls [.long r])) (H : Heap) (locs : List Loc) (ls : Array Slot) (hP : va_P D classes ([] : va_W) H) (hD : va_D A ([] : va_W)) (hS : va_S A s.heap H locs) (hl : lv_has ls 6 [(0, .long x0), (2, .long x2), (4, .long x4)]) (hw : wp_X7_share x0 x2 x4 Q) : W p l e rm_X7_share s m args below meth c H locs 0 0 Z (F0 m 0 ls []) := by
  have htg : ∀ w ∈ gw, w.before args s = true := fun w h => hts w (gw_cons w h)
  delta wp_X7_share at hw
  refine lv_lload hx hb dX7_share_0 (lv_at hl 2 rfl) ?_
  refine lv_lconst (v := 0) hx hb dX7_share_2 (by decide) ?_
  refine W.lcmp hx hb dX7_share_3 ?_
  refine lv_if_le (tgt := 16) hx hb dX7_share_4 (by decide) (fun cb => ?_) (fun cb => ?_)
  · have hw := hw.1 ((lc_le _ _).mp cb)
    refine lv_lconst (v := 0) hx hb dX7_share_16 (by decide) ?_
    exact hret (0 : Int64) H locs _ _ dX7_share_17 hP hD hS hw
  · have hw := hw.2 (mt (lc_le _ _).mpr cb)
    refine lv_lload_n hx hb dX7_share_7 rfl (lv_at hl 0 rfl) ?_
    refine lv_lload_n hx hb dX7_share_8 rfl (lv_at hl 1 rfl) ?_
    refine lv_lmul hx hb dX7_share_9 ?_
    refine lv_lload hx hb dX7_share_10 (lv_at hl 2 rfl) ?_
    obtain ⟨g, hw⟩ := hw
    refine lv_ldiv hx hb dX7_share_12 g ?_
    refine lv_goto (tgt := 17) hx hb dX7_share_13 (by decide) ?_
    exact hret ((x0 * x2) / x4) H locs _ _ dX7_share_17 hP hD hS hw
set_option maxHeartbeats 40000000 in
set_option maxRecDepth 100000 in
theorem c_X7_share (l : Launch) (D : va_G) (cI cZ : ClassId) (ad : (Nat → Nat) × (Nat → Nat)) (sz : Nat)  (x0 : Int64) (x2 : Int64) (x4 : Int64)  (Q : Int64 → Prop) (hw : wp_X7_share x0 x2 x4 Q) : Met l yX7_share ((.code yX7_share cX7_share 6 (some .long)) :: gw) rm_X7_share (va_Pc [.long x0, .long x2, .long x4] (PC D cI cZ ad sz ([] : va_W))) (va_Ql (fun r (_ : Unit) => Q r) (PW D (va_A ([] : va_W) sz) (fun (_ : Unit) => ([] : va_W))) (va_A ([] : va_W) sz)) 0 0 (va_A ([] : va_W) sz) := by
  refine Met.ofW (cc := cX7_share) (maxL := 6) (ret := (some .long)) (by decide) rfl ?_
  intro p e s m args below meth c s₁ B hml hv
  have hst := PC.start hv.2
  obtain ⟨ls, hfr, hl⟩ := en_fr (m := m) [.long x0, .long x2, .long x4] 6 hv.1 (Nat.le_of_ble_eq_true rfl)
  rw [hfr]
  generalize va_A ([] : va_W) sz = A at hst ⊢
  obtain ⟨X, hP, hD⟩ := hst
  exact k_X7_share B.exec B.bytes hml (findClass_of_methodNamed B.named) (atoms_spec (ws := (.code yX7_share cX7_share 6 (some .long)) :: gw) B.pre) X x0 x2 x4 Q _ (fun r H locs pc ls hdg hP hD hS hw => rt_l () B.exec B.bytes B.returns B.notSynchronized hdg hP hD hS hw) s.heap [] ls hP hD va_S.rf hl hw
set_option maxHeartbeats 40000000 in
set_option maxRecDepth 100000 in
theorem k_X1_partOf {p : Program} {l : Launch} {e : Env} {s : State} {m : MethodId} {args : Array Value} {below : List Frame} {meth : Method} {c : Code} {D : va_G} {cI cZ : ClassId} {ad : (Nat → Nat) × (Nat → Nat)} {A : Nat → Prop} (hx : p.tables.exec = Jvm.exec) (hb : c.code = cX1_partOf) (hml : c.maxLocals = 3) (hown : s.vm.findClass RX1 = some m.cls) (hts : ∀ w ∈ (.code yX1_partOf cX1_partOf 3 (some .int)) :: gw, w.before args s = true) (X : CX D cI cZ ad A s) (h0 : Nat) (h_kinds : Nat) (h_parts : Nat) (h_wholes : Nat) (h_bounds : Nat) (f_size : Int32) (a_parts : (Nat → Int32)) (a_wholes : (Nat → Int32)) (x1 : Int32) (x2 : Int32)  (Q : Int32 → Prop) (Z : State → Prop) (hret : ∀ (r : Int32)   (H : Heap) (locs : List Loc) (pc : Nat) (ls : Array Slot), decode cX1_partOf pc = .ok (.ireturn, 1) → va_P D classes (w_X1_partOf cI cZ h0 h_kinds h_parts h_wholes h_bounds f_size a_parts a_wholes) H → va_D A (w_X1_partOf cI cZ h0 h_kinds h_parts h_wholes h_bounds f_size a_parts a_wholes) → va_S A s.heap H locs → Q r  → W p l e rm_X1_partOf s m args below meth c H locs 0 0 Z (F0 m pc ls [.int r])) (H : Heap) (locs : List Loc) (ls : Array Slot) (hP : va_P D classes (w_X1_partOf cI cZ h0 h_kinds h_parts h_wholes h_bounds f_size a_parts a_wholes) H) (hD : va_D A (w_X1_partOf cI cZ h0 h_kinds h_parts h_wholes h_bounds f_size a_parts a_wholes)) (hS : va_S A s.heap H locs) (hl : lv_has ls 3 [(0, .ref h0), (1, .int x1), (2, .int x2)]) (hw : wp_X1_partOf a_parts a_wholes x1 x2 Q) : W p l e rm_X1_partOf s m args below meth c H locs 0 0 Z (F0 m 0 ls []) := by
  have htg : ∀ w ∈ gw, w.before args s = true := fun w h => hts w (gw_cons w h)
  delta wp_X1_partOf at hw
  refine lv_iload_n hx hb dX1_partOf_0 rfl (lv_at hl 2 rfl) ?_
  refine lv_iconst (v := -1) hx hb dX1_partOf_1 (by decide) ?_
  refine lv_icmp_ne (tgt := 9) hx hb dX1_partOf_2 (by decide) (fun cb => ?_) (fun cb => ?_)
  · have hw := hw.1 cb
    refine lv_iload_n hx hb dX1_partOf_9 rfl (lv_at hl 1 rfl) ?_
    refine lv_i2l (v := x1.toInt64) hx hb dX1_partOf_10 rfl ?_
    refine lv_aload_n hx hb dX1_partOf_11 rfl (lv_at hl 0 rfl) ?_
    refine va_get (D := D) (ci := 1) (v := .ref h_parts) (C := RX1) (T := TX1) (N := 5) hx hb htg in_X1 hown X.1 hP 0 rfl rfl 1 (by decide) (htg _ mw_4) (fun _ h9 => h9) rfl dX1_partOf_12 ?_
    refine lv_iload_n hx hb dX1_partOf_15 rfl (lv_at hl 2 rfl) ?_
    obtain ⟨g, hw⟩ := hw
    refine va_iald hx hb X.1 hP 1 0 rfl rfl g dX1_partOf_16 ?_
    refine lv_i2l (v := (a_parts x2.toNatClampNeg).toInt64) hx hb dX1_partOf_17 rfl ?_
    refine lv_aload_n hx hb dX1_partOf_18 rfl (lv_at hl 0 rfl) ?_
    refine va_get (D := D) (ci := 1) (v := .ref h_wholes) (C := RX1) (T := TX1) (N := 5) hx hb htg in_X1 hown X.1 hP 0 rfl rfl 2 (by decide) (htg _ mw_5) (fun _ h9 => h9) rfl dX1_partOf_19 ?_
    refine lv_iload_n hx hb dX1_partOf_22 rfl (lv_at hl 2 rfl) ?_
    obtain ⟨g, hw⟩ := hw
    refine va_iald hx hb X.1 hP 2 0 rfl rfl g dX1_partOf_23 ?_
    refine lv_i2l (v := (a_wholes x2.toNatClampNeg).toInt64) hx hb dX1_partOf_24 rfl ?_
    refine csn_l (rest := []) ⟨hx, hb, hml, hown, hts⟩ (c_X7_share l D cI cZ ad H.size x1.toInt64 ((a_parts x2.toNatClampNeg).toInt64) ((a_wholes x2.toNatClampNeg).toInt64) _ hw) ⟨va_cnB 3 hts (gI gw_cons gy_X7_share.2.2) rfl rfl rfl (X.2.1.m 7 rfl) (htg _ gy_X7_share.2.1) hd_X7_share.2 ⟨Nat.le_of_ble_eq_true rfl, Nat.le_of_ble_eq_true rfl⟩, htg _ gy_X7_share.1, trivial⟩ X hP hD hS rfl (lv_sub hl [] rfl) rfl (Nat.le_of_ble_eq_true rfl) dX1_partOf_25 ⟨Nat.zero_le _, Nat.zero_le _⟩ (fun r_1 H locs hw hP hS => ?_)
    refine lv_l2i (v := r_1.toInt32) hx hb dX1_partOf_28 rfl ?_
    exact hret r_1.toInt32 H locs _ _ dX1_partOf_29 hP hD hS hw
  · have hw := hw.2 cb
    refine lv_iconst (v := 0) hx hb dX1_partOf_5 (by decide) ?_
    refine lv_goto (tgt := 29) hx hb dX1_partOf_6 (by decide) ?_
    exact hret (0 : Int32) H locs _ _ dX1_partOf_29 hP hD hS hw
set_option maxHeartbeats 40000000 in
set_option maxRecDepth 100000 in
theorem c_X1_partOf (l : Launch) (D : va_G) (cI cZ : ClassId) (ad : (Nat → Nat) × (Nat → Nat)) (sz : Nat) (h0 : Nat) (h_kinds : Nat) (h_parts : Nat) (h_wholes : Nat) (h_bounds : Nat) (f_size : Int32) (a_parts : (Nat → Int32)) (a_wholes : (Nat → Int32)) (x1 : Int32) (x2 : Int32)  (Q : Int32 → Prop) (hw : wp_X1_partOf a_parts a_wholes x1 x2 Q) : Met l yX1_partOf ((.code yX1_partOf cX1_partOf 3 (some .int)) :: gw) rm_X1_partOf (va_Pc [.ref h0, .int x1, .int x2] (PC D cI cZ ad sz (w_X1_partOf cI cZ h0 h_kinds h_parts h_wholes h_bounds f_size a_parts a_wholes))) (va_Qi (fun r (_ : Unit) => Q r) (PW D (va_A (w_X1_partOf cI cZ h0 h_kinds h_parts h_wholes h_bounds f_size a_parts a_wholes) sz) (fun (_ : Unit) => (w_X1_partOf cI cZ h0 h_kinds h_parts h_wholes h_bounds f_size a_parts a_wholes))) (va_A (w_X1_partOf cI cZ h0 h_kinds h_parts h_wholes h_bounds f_size a_parts a_wholes) sz)) 0 0 (va_A (w_X1_partOf cI cZ h0 h_kinds h_parts h_wholes h_bounds f_size a_parts a_wholes) sz) := by
  refine Met.ofW (cc := cX1_partOf) (maxL := 3) (ret := (some .int)) (by decide) rfl ?_
  intro p e s m args below meth c s₁ B hml hv
  have hst := PC.start hv.2
  obtain ⟨ls, hfr, hl⟩ := en_fr (m := m) [.ref h0, .int x1, .int x2] 3 hv.1 (Nat.le_of_ble_eq_true rfl)
  rw [hfr]
  generalize va_A (w_X1_partOf cI cZ h0 h_kinds h_parts h_wholes h_bounds f_size a_parts a_wholes) sz = A at hst ⊢
  obtain ⟨X, hP, hD⟩ := hst
  exact k_X1_partOf B.exec B.bytes hml (findClass_of_methodNamed B.named) (atoms_spec (ws := (.code yX1_partOf cX1_partOf 3 (some .int)) :: gw) B.pre) X h0 h_kinds h_parts h_wholes h_bounds f_size a_parts a_wholes x1 x2 Q _ (fun r H locs pc ls hdg hP hD hS hw => rt_i () B.exec B.bytes B.returns B.notSynchronized hdg hP hD hS hw) s.heap [] ls hP hD va_S.rf hl hw
set_option maxHeartbeats 40000000 in
set_option maxRecDepth 100000 in
theorem k_X1_taxOn {p : Program} {l : Launch} {e : Env} {s : State} {m : MethodId} {args : Array Value} {below : List Frame} {meth : Method} {c : Code} {D : va_G} {cI cZ : ClassId} {ad : (Nat → Nat) × (Nat → Nat)} {A : Nat → Prop} (hx : p.tables.exec = Jvm.exec) (hb : c.code = cX1_taxOn) (hml : c.maxLocals = 5) (hown : s.vm.findClass RX1 = some m.cls) (hts : ∀ w ∈ (.code yX1_taxOn cX1_taxOn 5 (some .int)) :: gw, w.before args s = true) (X : CX D cI cZ ad A s) (h0 : Nat) (h_kinds : Nat) (h_parts : Nat) (h_wholes : Nat) (h_bounds : Nat) (f_size : Int32) (a_kinds : (Nat → Int32)) (a_parts : (Nat → Int32)) (a_wholes : (Nat → Int32)) (a_bounds : (Nat → Int32)) (x1 : Int32) (x2 : Int32)  (Q : Int32 → Prop) (Z : State → Prop) (hret : ∀ (r : Int32)   (H : Heap) (locs : List Loc) (pc : Nat) (ls : Array Slot), decode cX1_taxOn pc = .ok (.ireturn, 1) → va_P D classes (w_X1_taxOn cI cZ h0 h_kinds h_parts h_wholes h_bounds f_size a_kinds a_parts a_wholes a_bounds) H → va_D A (w_X1_taxOn cI cZ h0 h_kinds h_parts h_wholes h_bounds f_size a_kinds a_parts a_wholes a_bounds) → va_S A s.heap H locs → Q r  → W p l e rm_X1_taxOn s m args below meth c H locs 0 0 Z (F0 m pc ls [.int r])) (H : Heap) (locs : List Loc) (ls : Array Slot) (hP : va_P D classes (w_X1_taxOn cI cZ h0 h_kinds h_parts h_wholes h_bounds f_size a_kinds a_parts a_wholes a_bounds) H) (hD : va_D A (w_X1_taxOn cI cZ h0 h_kinds h_parts h_wholes h_bounds f_size a_kinds a_parts a_wholes a_bounds)) (hS : va_S A s.heap H locs) (hl : lv_has ls 5 [(0, .ref h0), (1, .int x1), (2, .int x2)]) (hw : wp_X1_taxOn f_size a_kinds a_parts a_wholes a_bounds x1 x2 Q) : W p l e rm_X1_taxOn s m args below meth c H locs 0 0 Z (F0 m 0 ls []) := by
  have htg : ∀ w ∈ gw, w.before args s = true := fun w h => hts w (gw_cons w h)
  have bk_59 : ∀ (B_5 : Int32 → Int32 → Prop) (hB_5 : ∀ (t3 : Int32) (t4 : Int32) (H : Heap) (locs : List Loc) (ls : Array Slot), va_P D classes (w_X1_taxOn cI cZ h0 h_kinds h_parts h_wholes h_bounds f_size a_kinds a_parts a_wholes a_bounds) H → va_D A (w_X1_taxOn cI cZ h0 h_kinds h_parts h_wholes h_bounds f_size a_kinds a_parts a_wholes a_bounds) → va_S A s.heap H locs → lv_has ls 5 [(0, .ref h0), (1, .int x1), (2, .int x2), (3, .int t3), (4, .int t4)] → B_5 t3 t4 → W p l e rm_X1_taxOn s m args below meth c H locs 0 0 Z (F0 m 5 ls [])), ∀ (t3 : Int32) (t4 : Int32) (H : Heap) (locs : List Loc) (ls : Array Slot), va_P D classes (w_X1_taxOn cI cZ h0 h_kinds h_parts h_wholes h_bounds f_size a_kinds a_parts a_wholes a_bounds) H → va_D A (w_X1_taxOn cI cZ h0 h_kinds h_parts h_wholes h_bounds f_size a_kinds a_parts a_wholes a_bounds) → va_S A s.heap H locs → lv_has ls 5 [(0, .ref h0), (1, .int x1), (2, .int x2), (3, .int t3), (4, .int t4)] → wp_X1_taxOn_b59 f_size a_kinds a_parts a_wholes a_bounds x1 x2 Q B_5 t3 t4 → W p l e rm_X1_taxOn s m args below meth c H locs 0 0 Z (F0 m 59 ls []) := by
    intro B_5 hB_5 t3 t4 H locs ls hP hD hS hl hw
    delta wp_X1_taxOn_b59 at hw
    refine lv_iinc (v := t4 + 1) (lv' := [(4, .int (t4 + 1)), (0, .ref h0), (1, .int x1), (2, .int x2), (3, .int t3)]) hx hb dX1_taxOn_59 hl (k := 4) rfl rfl (by decide) rfl (fun ls hl => ?_)
    refine lv_goto (tgt := 5) hx hb dX1_taxOn_62 (by decide) ?_
    exact hB_5 t3 (t4 + 1) H locs ls hP hD hS (lv_sub hl [1, 2, 3, 4, 0] rfl) hw
  have bk_56 : ∀ (B_5 : Int32 → Int32 → Prop) (hB_5 : ∀ (t3 : Int32) (t4 : Int32) (H : Heap) (locs : List Loc) (ls : Array Slot), va_P D classes (w_X1_taxOn cI cZ h0 h_kinds h_parts h_wholes h_bounds f_size a_kinds a_parts a_wholes a_bounds) H → va_D A (w_X1_taxOn cI cZ h0 h_kinds h_parts h_wholes h_bounds f_size a_kinds a_parts a_wholes a_bounds) → va_S A s.heap H locs → lv_has ls 5 [(0, .ref h0), (1, .int x1), (2, .int x2), (3, .int t3), (4, .int t4)] → B_5 t3 t4 → W p l e rm_X1_taxOn s m args below meth c H locs 0 0 Z (F0 m 5 ls [])), ∀ (t4 : Int32) (H : Heap) (locs : List Loc) (ls : Array Slot), va_P D classes (w_X1_taxOn cI cZ h0 h_kinds h_parts h_wholes h_bounds f_size a_kinds a_parts a_wholes a_bounds) H → va_D A (w_X1_taxOn cI cZ h0 h_kinds h_parts h_wholes h_bounds f_size a_kinds a_parts a_wholes a_bounds) → va_S A s.heap H locs → lv_has ls 5 [(0, .ref h0), (1, .int x1), (2, .int x2), (4, .int t4)] → wp_X1_taxOn_b56 f_size a_kinds a_parts a_wholes a_bounds x1 x2 Q B_5 t4 → W p l e rm_X1_taxOn s m args below meth c H locs 0 0 Z (F0 m 56 ls []) := by
    intro B_5 hB_5 t4 H locs ls hP hD hS hl hw
    delta wp_X1_taxOn_b56 at hw
    refine lv_iload hx hb dX1_taxOn_56 (lv_at hl 3 rfl) ?_
    refine lv_istore_n (lv' := [(3, .int t4), (0, .ref h0), (1, .int x1), (2, .int x2), (4, .int t4)]) hx hb dX1_taxOn_58 rfl hl (by decide) rfl (fun ls hl => ?_)
    exact bk_59 B_5 hB_5 t4 t4 H locs ls hP hD hS (lv_sub hl [1, 2, 3, 0, 4] rfl) hw
  have bk_5 : ∀ (t3 : Int32) (t4 : Int32) (H : Heap) (locs : List Loc) (ls : Array Slot), va_P D classes (w_X1_taxOn cI cZ h0 h_kinds h_parts h_wholes h_bounds f_size a_kinds a_parts a_wholes a_bounds) H → va_D A (w_X1_taxOn cI cZ h0 h_kinds h_parts h_wholes h_bounds f_size a_kinds a_parts a_wholes a_bounds) → va_S A s.heap H locs → lv_has ls 5 [(0, .ref h0), (1, .int x1), (2, .int x2), (3, .int t3), (4, .int t4)] → wp_X1_taxOn_b5 f_size a_kinds a_parts a_wholes a_bounds x1 x2 Q t3 t4 → W p l e rm_X1_taxOn s m args below meth c H locs 0 0 Z (F0 m 5 ls []) := by
    intro  t3 t4 H locs ls hP hD hS hl hw
    delta wp_X1_taxOn_b5 at hw
    obtain ⟨I, μ, hI0, hst⟩ := hw
    have key : ∀ (n : Nat) (t3 : Int32) (t4 : Int32) (H : Heap) (locs : List Loc) (ls : Array Slot), va_P D classes (w_X1_taxOn cI cZ h0 h_kinds h_parts h_wholes h_bounds f_size a_kinds a_parts a_wholes a_bounds) H → va_D A (w_X1_taxOn cI cZ h0 h_kinds h_parts h_wholes h_bounds f_size a_kinds a_parts a_wholes a_bounds) → va_S A s.heap H locs → lv_has ls 5 [(0, .ref h0), (1, .int x1), (2, .int x2), (3, .int t3), (4, .int t4)] → I t3 t4 → μ t3 t4 < n → W p l e rm_X1_taxOn s m args below meth c H locs 0 0 Z (F0 m 5 ls []) := by
      intro n
      induction n with
      | zero => intro t3 t4 H locs ls hP hD hS hl hI hlt; exact absurd hlt (Nat.not_lt_zero _)
      | succ n ih =>
        intro t3 t4 H locs ls hP hD hS hl hI hlt
        have hw := hst t3 t4 hI
        refine lv_iload hx hb dX1_taxOn_5 (lv_at hl 4 rfl) ?_
        refine lv_aload_n hx hb dX1_taxOn_7 rfl (lv_at hl 0 rfl) ?_
        refine va_get (D := D) (ci := 1) (v := .int f_size) (C := RX1) (T := TX1) (N := 5) hx hb htg in_X1 hown X.1 hP 0 rfl rfl 4 (by decide) (htg _ mw_2) (fun _ h9 => h9) rfl dX1_taxOn_8 ?_
        refine lv_icmp_ge (tgt := 65) hx hb dX1_taxOn_11 (by decide) (fun cb => ?_) (fun cb => ?_)
        · have hw := hw.1 cb
          refine lv_aload_n hx hb dX1_taxOn_65 rfl (lv_at hl 0 rfl) ?_
          refine lv_iload_n hx hb dX1_taxOn_66 rfl (lv_at hl 1 rfl) ?_
          refine lv_iload_n hx hb dX1_taxOn_67 rfl (lv_at hl 3 rfl) ?_
          refine cv_i (rest := []) (ws2 := fun (u : Unit) => (w_X1_taxOn cI cZ h0 h_kinds h_parts h_wholes h_bounds f_size a_kinds a_parts a_wholes a_bounds)) ⟨hx, hb, hml, hown, hts⟩ (c_X1_partOf l D cI cZ ad H.size h0 h_kinds h_parts h_wholes h_bounds f_size a_parts a_wholes x1 t3 _ hw) (cwV 2 hts (gIV gw_cons mw_8 gy_X1_partOf) rfl rfl rfl hd_X1_partOf ⟨Nat.le_of_ble_eq_true rfl, Nat.le_of_ble_eq_true rfl⟩) X hP hD hS [0, 2, 3] [1, 4] [2, 0, 3, 4, 1] rfl rfl rfl rfl rfl rfl (fun u => rfl) 0 1 rfl rfl rfl (lv_sub hl [] rfl) rfl (Nat.le_of_ble_eq_true rfl) dX1_taxOn_68 ⟨Nat.zero_le _, Nat.zero_le _⟩ (fun r_1 u H locs hw hP hD hS => ?_)
          have hP : va_P D classes (w_X1_taxOn cI cZ h0 h_kinds h_parts h_wholes h_bounds f_size a_kinds a_parts a_wholes a_bounds) H := hP
          have hD : va_D A (w_X1_taxOn cI cZ h0 h_kinds h_parts h_wholes h_bounds f_size a_kinds a_parts a_wholes a_bounds) := hD
          exact hret r_1 H locs _ _ dX1_taxOn_71 hP hD hS hw
        · have hw := hw.2 cb
          refine lv_aload_n hx hb dX1_taxOn_14 rfl (lv_at hl 0 rfl) ?_
          refine va_get (D := D) (ci := 1) (v := .ref h_kinds) (C := RX1) (T := TX1) (N := 5) hx hb htg in_X1 hown X.1 hP 0 rfl rfl 0 (by decide) (htg _ mw_3) (fun _ h9 => h9) rfl dX1_taxOn_15 ?_
          refine lv_iload hx hb dX1_taxOn_18 (lv_at hl 4 rfl) ?_
          obtain ⟨g, hw⟩ := hw
          refine va_iald hx hb X.1 hP 1 0 rfl rfl g dX1_taxOn_20 ?_
          refine lv_if_ne (tgt := 59) hx hb dX1_taxOn_21 (by decide) (fun cb => ?_) (fun cb => ?_)
          · have hw := hw.1 cb
            exact bk_59 (fun (t3' : Int32) (t4' : Int32) => I t3' t4' ∧ μ t3' t4' < μ t3 t4) (fun t3' t4' H locs ls hP hD hS hl hb' => ih t3' t4' H locs ls hP hD hS hl hb'.1 (Nat.lt_of_lt_of_le hb'.2 (Nat.le_of_lt_succ hlt))) t3 t4 H locs ls hP hD hS (lv_sub hl [0, 1, 2, 3, 4] rfl) hw
          · have hw := hw.2 cb
            refine lv_aload_n hx hb dX1_taxOn_24 rfl (lv_at hl 0 rfl) ?_
            refine va_get (D := D) (ci := 1) (v := .ref h_bounds) (C := RX1) (T := TX1) (N := 5) hx hb htg in_X1 hown X.1 hP 0 rfl rfl 3 (by decide) (htg _ mw_6) (fun _ h9 => h9) rfl dX1_taxOn_25 ?_
            refine lv_iload hx hb dX1_taxOn_28 (lv_at hl 4 rfl) ?_
            obtain ⟨g, hw⟩ := hw
            refine va_iald hx hb X.1 hP 4 0 rfl rfl g dX1_taxOn_30 ?_
            refine lv_iload_n hx hb dX1_taxOn_31 rfl (lv_at hl 2 rfl) ?_
            refine lv_icmp_gt (tgt := 59) hx hb dX1_taxOn_32 (by decide) (fun cb => ?_) (fun cb => ?_)
            · have hw := hw.1 cb
              exact bk_59 (fun (t3' : Int32) (t4' : Int32) => I t3' t4' ∧ μ t3' t4' < μ t3 t4) (fun t3' t4' H locs ls hP hD hS hl hb' => ih t3' t4' H locs ls hP hD hS hl hb'.1 (Nat.lt_of_lt_of_le hb'.2 (Nat.le_of_lt_succ hlt))) t3 t4 H locs ls hP hD hS (lv_sub hl [0, 1, 2, 3, 4] rfl) hw
            · have hw := hw.2 cb
              refine lv_iload_n hx hb dX1_taxOn_35 rfl (lv_at hl 3 rfl) ?_
              refine lv_iconst (v := -1) hx hb dX1_taxOn_36 (by decide) ?_
              refine lv_icmp_eq (tgt := 56) hx hb dX1_taxOn_37 (by decide) (fun cb => ?_) (fun cb => ?_)
              · have hw := hw.1 cb
                exact bk_56 (fun (t3' : Int32) (t4' : Int32) => I t3' t4' ∧ μ t3' t4' < μ t3 t4) (fun t3' t4' H locs ls hP hD hS hl hb' => ih t3' t4' H locs ls hP hD hS hl hb'.1 (Nat.lt_of_lt_of_le hb'.2 (Nat.le_of_lt_succ hlt))) t4 H locs ls hP hD hS (lv_sub hl [0, 1, 2, 4] rfl) hw
              · have hw := hw.2 cb
                refine lv_aload_n hx hb dX1_taxOn_40 rfl (lv_at hl 0 rfl) ?_
                refine va_get (D := D) (ci := 1) (v := .ref h_bounds) (C := RX1) (T := TX1) (N := 5) hx hb htg in_X1 hown X.1 hP 0 rfl rfl 3 (by decide) (htg _ mw_6) (fun _ h9 => h9) rfl dX1_taxOn_41 ?_
                refine lv_iload hx hb dX1_taxOn_44 (lv_at hl 4 rfl) ?_
                obtain ⟨g, hw⟩ := hw
                refine va_iald hx hb X.1 hP 4 0 rfl rfl g dX1_taxOn_46 ?_
                refine lv_aload_n hx hb dX1_taxOn_47 rfl (lv_at hl 0 rfl) ?_
                refine va_get (D := D) (ci := 1) (v := .ref h_bounds) (C := RX1) (T := TX1) (N := 5) hx hb htg in_X1 hown X.1 hP 0 rfl rfl 3 (by decide) (htg _ mw_6) (fun _ h9 => h9) rfl dX1_taxOn_48 ?_
                refine lv_iload_n hx hb dX1_taxOn_51 rfl (lv_at hl 3 rfl) ?_
                obtain ⟨g, hw⟩ := hw
                refine va_iald hx hb X.1 hP 4 0 rfl rfl g dX1_taxOn_52 ?_
                refine lv_icmp_lt (tgt := 59) hx hb dX1_taxOn_53 (by decide) (fun cb => ?_) (fun cb => ?_)
                · have hw := hw.1 cb
                  exact bk_59 (fun (t3' : Int32) (t4' : Int32) => I t3' t4' ∧ μ t3' t4' < μ t3 t4) (fun t3' t4' H locs ls hP hD hS hl hb' => ih t3' t4' H locs ls hP hD hS hl hb'.1 (Nat.lt_of_lt_of_le hb'.2 (Nat.le_of_lt_succ hlt))) t3 t4 H locs ls hP hD hS (lv_sub hl [0, 1, 2, 3, 4] rfl) hw
                · have hw := hw.2 cb
                  exact bk_56 (fun (t3' : Int32) (t4' : Int32) => I t3' t4' ∧ μ t3' t4' < μ t3 t4) (fun t3' t4' H locs ls hP hD hS hl hb' => ih t3' t4' H locs ls hP hD hS hl hb'.1 (Nat.lt_of_lt_of_le hb'.2 (Nat.le_of_lt_succ hlt))) t4 H locs ls hP hD hS (lv_sub hl [0, 1, 2, 4] rfl) hw
    exact key (μ t3 t4 + 1) t3 t4 H locs ls hP hD hS hl hI0 (Nat.lt_succ_self _)
  delta wp_X1_taxOn at hw
  refine lv_iconst (v := -1) hx hb dX1_taxOn_0 (by decide) ?_
  refine lv_istore_n (lv' := [(3, .int (-1 : Int32)), (0, .ref h0), (1, .int x1), (2, .int x2)]) hx hb dX1_taxOn_1 rfl hl (by decide) rfl (fun ls hl => ?_)
  refine lv_iconst (v := 0) hx hb dX1_taxOn_2 (by decide) ?_
  refine lv_istore (lv' := [(4, .int (0 : Int32)), (3, .int (-1 : Int32)), (0, .ref h0), (1, .int x1), (2, .int x2)]) hx hb dX1_taxOn_3 hl (by decide) rfl (fun ls hl => ?_)
  exact bk_5 (-1 : Int32) (0 : Int32) H locs ls hP hD hS (lv_sub hl [2, 3, 4, 1, 0] rfl) hw
set_option maxHeartbeats 40000000 in
set_option maxRecDepth 100000 in
theorem c_X1_taxOn (l : Launch) (D : va_G) (cI cZ : ClassId) (ad : (Nat → Nat) × (Nat → Nat)) (sz : Nat) (h0 : Nat) (h_kinds : Nat) (h_parts : Nat) (h_wholes : Nat) (h_bounds : Nat) (f_size : Int32) (a_kinds : (Nat → Int32)) (a_parts : (Nat → Int32)) (a_wholes : (Nat → Int32)) (a_bounds : (Nat → Int32)) (x1 : Int32) (x2 : Int32)  (Q : Int32 → Prop) (hw : wp_X1_taxOn f_size a_kinds a_parts a_wholes a_bounds x1 x2 Q) : Met l yX1_taxOn ((.code yX1_taxOn cX1_taxOn 5 (some .int)) :: gw) rm_X1_taxOn (va_Pc [.ref h0, .int x1, .int x2] (PC D cI cZ ad sz (w_X1_taxOn cI cZ h0 h_kinds h_parts h_wholes h_bounds f_size a_kinds a_parts a_wholes a_bounds))) (va_Qi (fun r (_ : Unit) => Q r) (PW D (va_A (w_X1_taxOn cI cZ h0 h_kinds h_parts h_wholes h_bounds f_size a_kinds a_parts a_wholes a_bounds) sz) (fun (_ : Unit) => (w_X1_taxOn cI cZ h0 h_kinds h_parts h_wholes h_bounds f_size a_kinds a_parts a_wholes a_bounds))) (va_A (w_X1_taxOn cI cZ h0 h_kinds h_parts h_wholes h_bounds f_size a_kinds a_parts a_wholes a_bounds) sz)) 0 0 (va_A (w_X1_taxOn cI cZ h0 h_kinds h_parts h_wholes h_bounds f_size a_kinds a_parts a_wholes a_bounds) sz) := by
  refine Met.ofW (cc := cX1_taxOn) (maxL := 5) (ret := (some .int)) (by decide) rfl ?_
  intro p e s m args below meth c s₁ B hml hv
  have hst := PC.start hv.2
  obtain ⟨ls, hfr, hl⟩ := en_fr (m := m) [.ref h0, .int x1, .int x2] 5 hv.1 (Nat.le_of_ble_eq_true rfl)
  rw [hfr]
  generalize va_A (w_X1_taxOn cI cZ h0 h_kinds h_parts h_wholes h_bounds f_size a_kinds a_parts a_wholes a_bounds) sz = A at hst ⊢
  obtain ⟨X, hP, hD⟩ := hst
  exact k_X1_taxOn B.exec B.bytes hml (findClass_of_methodNamed B.named) (atoms_spec (ws := (.code yX1_taxOn cX1_taxOn 5 (some .int)) :: gw) B.pre) X h0 h_kinds h_parts h_wholes h_bounds f_size a_kinds a_parts a_wholes a_bounds x1 x2 Q _ (fun r H locs pc ls hdg hP hD hS hw => rt_i () B.exec B.bytes B.returns B.notSynchronized hdg hP hD hS hw) s.heap [] ls hP hD va_S.rf hl hw
set_option maxHeartbeats 40000000 in
set_option maxRecDepth 100000 in
theorem k_X1_reliefOn {p : Program} {l : Launch} {e : Env} {s : State} {m : MethodId} {args : Array Value} {below : List Frame} {meth : Method} {c : Code} {D : va_G} {cI cZ : ClassId} {ad : (Nat → Nat) × (Nat → Nat)} {A : Nat → Prop} (hx : p.tables.exec = Jvm.exec) (hb : c.code = cX1_reliefOn) (hml : c.maxLocals = 5) (hown : s.vm.findClass RX1 = some m.cls) (hts : ∀ w ∈ (.code yX1_reliefOn cX1_reliefOn 5 (some .int)) :: gw, w.before args s = true) (X : CX D cI cZ ad A s) (h0 : Nat) (h_kinds : Nat) (h_parts : Nat) (h_wholes : Nat) (h_bounds : Nat) (f_size : Int32) (a_kinds : (Nat → Int32)) (a_parts : (Nat → Int32)) (a_wholes : (Nat → Int32)) (a_bounds : (Nat → Int32)) (x1 : Int32) (x2 : Int32)  (Q : Int32 → Prop) (Z : State → Prop) (hret : ∀ (r : Int32)   (H : Heap) (locs : List Loc) (pc : Nat) (ls : Array Slot), decode cX1_reliefOn pc = .ok (.ireturn, 1) → va_P D classes (w_X1_reliefOn cI cZ h0 h_kinds h_parts h_wholes h_bounds f_size a_kinds a_parts a_wholes a_bounds) H → va_D A (w_X1_reliefOn cI cZ h0 h_kinds h_parts h_wholes h_bounds f_size a_kinds a_parts a_wholes a_bounds) → va_S A s.heap H locs → Q r  → W p l e rm_X1_reliefOn s m args below meth c H locs 0 0 Z (F0 m pc ls [.int r])) (H : Heap) (locs : List Loc) (ls : Array Slot) (hP : va_P D classes (w_X1_reliefOn cI cZ h0 h_kinds h_parts h_wholes h_bounds f_size a_kinds a_parts a_wholes a_bounds) H) (hD : va_D A (w_X1_reliefOn cI cZ h0 h_kinds h_parts h_wholes h_bounds f_size a_kinds a_parts a_wholes a_bounds)) (hS : va_S A s.heap H locs) (hl : lv_has ls 5 [(0, .ref h0), (1, .int x1), (2, .int x2)]) (hw : wp_X1_reliefOn f_size a_kinds a_parts a_wholes a_bounds x1 x2 Q) : W p l e rm_X1_reliefOn s m args below meth c H locs 0 0 Z (F0 m 0 ls []) := by
  have htg : ∀ w ∈ gw, w.before args s = true := fun w h => hts w (gw_cons w h)
  have bk_60 : ∀ (B_5 : Int32 → Int32 → Prop) (hB_5 : ∀ (t3 : Int32) (t4 : Int32) (H : Heap) (locs : List Loc) (ls : Array Slot), va_P D classes (w_X1_reliefOn cI cZ h0 h_kinds h_parts h_wholes h_bounds f_size a_kinds a_parts a_wholes a_bounds) H → va_D A (w_X1_reliefOn cI cZ h0 h_kinds h_parts h_wholes h_bounds f_size a_kinds a_parts a_wholes a_bounds) → va_S A s.heap H locs → lv_has ls 5 [(0, .ref h0), (1, .int x1), (2, .int x2), (3, .int t3), (4, .int t4)] → B_5 t3 t4 → W p l e rm_X1_reliefOn s m args below meth c H locs 0 0 Z (F0 m 5 ls [])), ∀ (t3 : Int32) (t4 : Int32) (H : Heap) (locs : List Loc) (ls : Array Slot), va_P D classes (w_X1_reliefOn cI cZ h0 h_kinds h_parts h_wholes h_bounds f_size a_kinds a_parts a_wholes a_bounds) H → va_D A (w_X1_reliefOn cI cZ h0 h_kinds h_parts h_wholes h_bounds f_size a_kinds a_parts a_wholes a_bounds) → va_S A s.heap H locs → lv_has ls 5 [(0, .ref h0), (1, .int x1), (2, .int x2), (3, .int t3), (4, .int t4)] → wp_X1_reliefOn_b60 f_size a_kinds a_parts a_wholes a_bounds x1 x2 Q B_5 t3 t4 → W p l e rm_X1_reliefOn s m args below meth c H locs 0 0 Z (F0 m 60 ls []) := by
    intro B_5 hB_5 t3 t4 H locs ls hP hD hS hl hw
    delta wp_X1_reliefOn_b60 at hw
    refine lv_iinc (v := t4 + 1) (lv' := [(4, .int (t4 + 1)), (0, .ref h0), (1, .int x1), (2, .int x2), (3, .int t3)]) hx hb dX1_reliefOn_60 hl (k := 4) rfl rfl (by decide) rfl (fun ls hl => ?_)
    refine lv_goto (tgt := 5) hx hb dX1_reliefOn_63 (by decide) ?_
    exact hB_5 t3 (t4 + 1) H locs ls hP hD hS (lv_sub hl [1, 2, 3, 4, 0] rfl) hw
  have bk_57 : ∀ (B_5 : Int32 → Int32 → Prop) (hB_5 : ∀ (t3 : Int32) (t4 : Int32) (H : Heap) (locs : List Loc) (ls : Array Slot), va_P D classes (w_X1_reliefOn cI cZ h0 h_kinds h_parts h_wholes h_bounds f_size a_kinds a_parts a_wholes a_bounds) H → va_D A (w_X1_reliefOn cI cZ h0 h_kinds h_parts h_wholes h_bounds f_size a_kinds a_parts a_wholes a_bounds) → va_S A s.heap H locs → lv_has ls 5 [(0, .ref h0), (1, .int x1), (2, .int x2), (3, .int t3), (4, .int t4)] → B_5 t3 t4 → W p l e rm_X1_reliefOn s m args below meth c H locs 0 0 Z (F0 m 5 ls [])), ∀ (t4 : Int32) (H : Heap) (locs : List Loc) (ls : Array Slot), va_P D classes (w_X1_reliefOn cI cZ h0 h_kinds h_parts h_wholes h_bounds f_size a_kinds a_parts a_wholes a_bounds) H → va_D A (w_X1_reliefOn cI cZ h0 h_kinds h_parts h_wholes h_bounds f_size a_kinds a_parts a_wholes a_bounds) → va_S A s.heap H locs → lv_has ls 5 [(0, .ref h0), (1, .int x1), (2, .int x2), (4, .int t4)] → wp_X1_reliefOn_b57 f_size a_kinds a_parts a_wholes a_bounds x1 x2 Q B_5 t4 → W p l e rm_X1_reliefOn s m args below meth c H locs 0 0 Z (F0 m 57 ls []) := by
    intro B_5 hB_5 t4 H locs ls hP hD hS hl hw
    delta wp_X1_reliefOn_b57 at hw
    refine lv_iload hx hb dX1_reliefOn_57 (lv_at hl 3 rfl) ?_
    refine lv_istore_n (lv' := [(3, .int t4), (0, .ref h0), (1, .int x1), (2, .int x2), (4, .int t4)]) hx hb dX1_reliefOn_59 rfl hl (by decide) rfl (fun ls hl => ?_)
    exact bk_60 B_5 hB_5 t4 t4 H locs ls hP hD hS (lv_sub hl [1, 2, 3, 0, 4] rfl) hw
  have bk_5 : ∀ (t3 : Int32) (t4 : Int32) (H : Heap) (locs : List Loc) (ls : Array Slot), va_P D classes (w_X1_reliefOn cI cZ h0 h_kinds h_parts h_wholes h_bounds f_size a_kinds a_parts a_wholes a_bounds) H → va_D A (w_X1_reliefOn cI cZ h0 h_kinds h_parts h_wholes h_bounds f_size a_kinds a_parts a_wholes a_bounds) → va_S A s.heap H locs → lv_has ls 5 [(0, .ref h0), (1, .int x1), (2, .int x2), (3, .int t3), (4, .int t4)] → wp_X1_reliefOn_b5 f_size a_kinds a_parts a_wholes a_bounds x1 x2 Q t3 t4 → W p l e rm_X1_reliefOn s m args below meth c H locs 0 0 Z (F0 m 5 ls []) := by
    intro  t3 t4 H locs ls hP hD hS hl hw
    delta wp_X1_reliefOn_b5 at hw
    obtain ⟨I, μ, hI0, hst⟩ := hw
    have key : ∀ (n : Nat) (t3 : Int32) (t4 : Int32) (H : Heap) (locs : List Loc) (ls : Array Slot), va_P D classes (w_X1_reliefOn cI cZ h0 h_kinds h_parts h_wholes h_bounds f_size a_kinds a_parts a_wholes a_bounds) H → va_D A (w_X1_reliefOn cI cZ h0 h_kinds h_parts h_wholes h_bounds f_size a_kinds a_parts a_wholes a_bounds) → va_S A s.heap H locs → lv_has ls 5 [(0, .ref h0), (1, .int x1), (2, .int x2), (3, .int t3), (4, .int t4)] → I t3 t4 → μ t3 t4 < n → W p l e rm_X1_reliefOn s m args below meth c H locs 0 0 Z (F0 m 5 ls []) := by
      intro n
      induction n with
      | zero => intro t3 t4 H locs ls hP hD hS hl hI hlt; exact absurd hlt (Nat.not_lt_zero _)
      | succ n ih =>
        intro t3 t4 H locs ls hP hD hS hl hI hlt
        have hw := hst t3 t4 hI
        refine lv_iload hx hb dX1_reliefOn_5 (lv_at hl 4 rfl) ?_
        refine lv_aload_n hx hb dX1_reliefOn_7 rfl (lv_at hl 0 rfl) ?_
        refine va_get (D := D) (ci := 1) (v := .int f_size) (C := RX1) (T := TX1) (N := 5) hx hb htg in_X1 hown X.1 hP 0 rfl rfl 4 (by decide) (htg _ mw_2) (fun _ h9 => h9) rfl dX1_reliefOn_8 ?_
        refine lv_icmp_ge (tgt := 66) hx hb dX1_reliefOn_11 (by decide) (fun cb => ?_) (fun cb => ?_)
        · have hw := hw.1 cb
          refine lv_aload_n hx hb dX1_reliefOn_66 rfl (lv_at hl 0 rfl) ?_
          refine lv_iload_n hx hb dX1_reliefOn_67 rfl (lv_at hl 1 rfl) ?_
          refine lv_iload_n hx hb dX1_reliefOn_68 rfl (lv_at hl 3 rfl) ?_
          refine cv_i (rest := []) (ws2 := fun (u : Unit) => (w_X1_reliefOn cI cZ h0 h_kinds h_parts h_wholes h_bounds f_size a_kinds a_parts a_wholes a_bounds)) ⟨hx, hb, hml, hown, hts⟩ (c_X1_partOf l D cI cZ ad H.size h0 h_kinds h_parts h_wholes h_bounds f_size a_parts a_wholes x1 t3 _ hw) (cwV 2 hts (gIV gw_cons mw_8 gy_X1_partOf) rfl rfl rfl hd_X1_partOf ⟨Nat.le_of_ble_eq_true rfl, Nat.le_of_ble_eq_true rfl⟩) X hP hD hS [0, 2, 3] [1, 4] [2, 0, 3, 4, 1] rfl rfl rfl rfl rfl rfl (fun u => rfl) 0 1 rfl rfl rfl (lv_sub hl [] rfl) rfl (Nat.le_of_ble_eq_true rfl) dX1_reliefOn_69 ⟨Nat.zero_le _, Nat.zero_le _⟩ (fun r_1 u H locs hw hP hD hS => ?_)
          have hP : va_P D classes (w_X1_reliefOn cI cZ h0 h_kinds h_parts h_wholes h_bounds f_size a_kinds a_parts a_wholes a_bounds) H := hP
          have hD : va_D A (w_X1_reliefOn cI cZ h0 h_kinds h_parts h_wholes h_bounds f_size a_kinds a_parts a_wholes a_bounds) := hD
          exact hret r_1 H locs _ _ dX1_reliefOn_72 hP hD hS hw
        · have hw := hw.2 cb
          refine lv_aload_n hx hb dX1_reliefOn_14 rfl (lv_at hl 0 rfl) ?_
          refine va_get (D := D) (ci := 1) (v := .ref h_kinds) (C := RX1) (T := TX1) (N := 5) hx hb htg in_X1 hown X.1 hP 0 rfl rfl 0 (by decide) (htg _ mw_3) (fun _ h9 => h9) rfl dX1_reliefOn_15 ?_
          refine lv_iload hx hb dX1_reliefOn_18 (lv_at hl 4 rfl) ?_
          obtain ⟨g, hw⟩ := hw
          refine va_iald hx hb X.1 hP 1 0 rfl rfl g dX1_reliefOn_20 ?_
          refine lv_iconst (v := 1) hx hb dX1_reliefOn_21 (by decide) ?_
          refine lv_icmp_ne (tgt := 60) hx hb dX1_reliefOn_22 (by decide) (fun cb => ?_) (fun cb => ?_)
          · have hw := hw.1 cb
            exact bk_60 (fun (t3' : Int32) (t4' : Int32) => I t3' t4' ∧ μ t3' t4' < μ t3 t4) (fun t3' t4' H locs ls hP hD hS hl hb' => ih t3' t4' H locs ls hP hD hS hl hb'.1 (Nat.lt_of_lt_of_le hb'.2 (Nat.le_of_lt_succ hlt))) t3 t4 H locs ls hP hD hS (lv_sub hl [0, 1, 2, 3, 4] rfl) hw
          · have hw := hw.2 cb
            refine lv_aload_n hx hb dX1_reliefOn_25 rfl (lv_at hl 0 rfl) ?_
            refine va_get (D := D) (ci := 1) (v := .ref h_bounds) (C := RX1) (T := TX1) (N := 5) hx hb htg in_X1 hown X.1 hP 0 rfl rfl 3 (by decide) (htg _ mw_6) (fun _ h9 => h9) rfl dX1_reliefOn_26 ?_
            refine lv_iload hx hb dX1_reliefOn_29 (lv_at hl 4 rfl) ?_
            obtain ⟨g, hw⟩ := hw
            refine va_iald hx hb X.1 hP 4 0 rfl rfl g dX1_reliefOn_31 ?_
            refine lv_iload_n hx hb dX1_reliefOn_32 rfl (lv_at hl 2 rfl) ?_
            refine lv_icmp_le (tgt := 60) hx hb dX1_reliefOn_33 (by decide) (fun cb => ?_) (fun cb => ?_)
            · have hw := hw.1 cb
              exact bk_60 (fun (t3' : Int32) (t4' : Int32) => I t3' t4' ∧ μ t3' t4' < μ t3 t4) (fun t3' t4' H locs ls hP hD hS hl hb' => ih t3' t4' H locs ls hP hD hS hl hb'.1 (Nat.lt_of_lt_of_le hb'.2 (Nat.le_of_lt_succ hlt))) t3 t4 H locs ls hP hD hS (lv_sub hl [0, 1, 2, 3, 4] rfl) hw
            · have hw := hw.2 cb
              refine lv_iload_n hx hb dX1_reliefOn_36 rfl (lv_at hl 3 rfl) ?_
              refine lv_iconst (v := -1) hx hb dX1_reliefOn_37 (by decide) ?_
              refine lv_icmp_eq (tgt := 57) hx hb dX1_reliefOn_38 (by decide) (fun cb => ?_) (fun cb => ?_)
              · have hw := hw.1 cb
                exact bk_57 (fun (t3' : Int32) (t4' : Int32) => I t3' t4' ∧ μ t3' t4' < μ t3 t4) (fun t3' t4' H locs ls hP hD hS hl hb' => ih t3' t4' H locs ls hP hD hS hl hb'.1 (Nat.lt_of_lt_of_le hb'.2 (Nat.le_of_lt_succ hlt))) t4 H locs ls hP hD hS (lv_sub hl [0, 1, 2, 4] rfl) hw
              · have hw := hw.2 cb
                refine lv_aload_n hx hb dX1_reliefOn_41 rfl (lv_at hl 0 rfl) ?_
                refine va_get (D := D) (ci := 1) (v := .ref h_bounds) (C := RX1) (T := TX1) (N := 5) hx hb htg in_X1 hown X.1 hP 0 rfl rfl 3 (by decide) (htg _ mw_6) (fun _ h9 => h9) rfl dX1_reliefOn_42 ?_
                refine lv_iload hx hb dX1_reliefOn_45 (lv_at hl 4 rfl) ?_
                obtain ⟨g, hw⟩ := hw
                refine va_iald hx hb X.1 hP 4 0 rfl rfl g dX1_reliefOn_47 ?_
                refine lv_aload_n hx hb dX1_reliefOn_48 rfl (lv_at hl 0 rfl) ?_
                refine va_get (D := D) (ci := 1) (v := .ref h_bounds) (C := RX1) (T := TX1) (N := 5) hx hb htg in_X1 hown X.1 hP 0 rfl rfl 3 (by decide) (htg _ mw_6) (fun _ h9 => h9) rfl dX1_reliefOn_49 ?_
                refine lv_iload_n hx hb dX1_reliefOn_52 rfl (lv_at hl 3 rfl) ?_
                obtain ⟨g, hw⟩ := hw
                refine va_iald hx hb X.1 hP 4 0 rfl rfl g dX1_reliefOn_53 ?_
                refine lv_icmp_gt (tgt := 60) hx hb dX1_reliefOn_54 (by decide) (fun cb => ?_) (fun cb => ?_)
                · have hw := hw.1 cb
                  exact bk_60 (fun (t3' : Int32) (t4' : Int32) => I t3' t4' ∧ μ t3' t4' < μ t3 t4) (fun t3' t4' H locs ls hP hD hS hl hb' => ih t3' t4' H locs ls hP hD hS hl hb'.1 (Nat.lt_of_lt_of_le hb'.2 (Nat.le_of_lt_succ hlt))) t3 t4 H locs ls hP hD hS (lv_sub hl [0, 1, 2, 3, 4] rfl) hw
                · have hw := hw.2 cb
                  exact bk_57 (fun (t3' : Int32) (t4' : Int32) => I t3' t4' ∧ μ t3' t4' < μ t3 t4) (fun t3' t4' H locs ls hP hD hS hl hb' => ih t3' t4' H locs ls hP hD hS hl hb'.1 (Nat.lt_of_lt_of_le hb'.2 (Nat.le_of_lt_succ hlt))) t4 H locs ls hP hD hS (lv_sub hl [0, 1, 2, 4] rfl) hw
    exact key (μ t3 t4 + 1) t3 t4 H locs ls hP hD hS hl hI0 (Nat.lt_succ_self _)
  delta wp_X1_reliefOn at hw
  refine lv_iconst (v := -1) hx hb dX1_reliefOn_0 (by decide) ?_
  refine lv_istore_n (lv' := [(3, .int (-1 : Int32)), (0, .ref h0), (1, .int x1), (2, .int x2)]) hx hb dX1_reliefOn_1 rfl hl (by decide) rfl (fun ls hl => ?_)
  refine lv_iconst (v := 0) hx hb dX1_reliefOn_2 (by decide) ?_
  refine lv_istore (lv' := [(4, .int (0 : Int32)), (3, .int (-1 : Int32)), (0, .ref h0), (1, .int x1), (2, .int x2)]) hx hb dX1_reliefOn_3 hl (by decide) rfl (fun ls hl => ?_)
  exact bk_5 (-1 : Int32) (0 : Int32) H locs ls hP hD hS (lv_sub hl [2, 3, 4, 1, 0] rfl) hw
set_option maxHeartbeats 40000000 in
set_option maxRecDepth 100000 in
theorem c_X1_reliefOn (l : Launch) (D : va_G) (cI cZ : ClassId) (ad : (Nat → Nat) × (Nat → Nat)) (sz : Nat) (h0 : Nat) (h_kinds : Nat) (h_parts : Nat) (h_wholes : Nat) (h_bounds : Nat) (f_size : Int32) (a_kinds : (Nat → Int32)) (a_parts : (Nat → Int32)) (a_wholes : (Nat → Int32)) (a_bounds : (Nat → Int32)) (x1 : Int32) (x2 : Int32)  (Q : Int32 → Prop) (hw : wp_X1_reliefOn f_size a_kinds a_parts a_wholes a_bounds x1 x2 Q) : Met l yX1_reliefOn ((.code yX1_reliefOn cX1_reliefOn 5 (some .int)) :: gw) rm_X1_reliefOn (va_Pc [.ref h0, .int x1, .int x2] (PC D cI cZ ad sz (w_X1_reliefOn cI cZ h0 h_kinds h_parts h_wholes h_bounds f_size a_kinds a_parts a_wholes a_bounds))) (va_Qi (fun r (_ : Unit) => Q r) (PW D (va_A (w_X1_reliefOn cI cZ h0 h_kinds h_parts h_wholes h_bounds f_size a_kinds a_parts a_wholes a_bounds) sz) (fun (_ : Unit) => (w_X1_reliefOn cI cZ h0 h_kinds h_parts h_wholes h_bounds f_size a_kinds a_parts a_wholes a_bounds))) (va_A (w_X1_reliefOn cI cZ h0 h_kinds h_parts h_wholes h_bounds f_size a_kinds a_parts a_wholes a_bounds) sz)) 0 0 (va_A (w_X1_reliefOn cI cZ h0 h_kinds h_parts h_wholes h_bounds f_size a_kinds a_parts a_wholes a_bounds) sz) := by
  refine Met.ofW (cc := cX1_reliefOn) (maxL := 5) (ret := (some .int)) (by decide) rfl ?_
  intro p e s m args below meth c s₁ B hml hv
  have hst := PC.start hv.2
  obtain ⟨ls, hfr, hl⟩ := en_fr (m := m) [.ref h0, .int x1, .int x2] 5 hv.1 (Nat.le_of_ble_eq_true rfl)
  rw [hfr]
  generalize va_A (w_X1_reliefOn cI cZ h0 h_kinds h_parts h_wholes h_bounds f_size a_kinds a_parts a_wholes a_bounds) sz = A at hst ⊢
  obtain ⟨X, hP, hD⟩ := hst
  exact k_X1_reliefOn B.exec B.bytes hml (findClass_of_methodNamed B.named) (atoms_spec (ws := (.code yX1_reliefOn cX1_reliefOn 5 (some .int)) :: gw) B.pre) X h0 h_kinds h_parts h_wholes h_bounds f_size a_kinds a_parts a_wholes a_bounds x1 x2 Q _ (fun r H locs pc ls hdg hP hD hS hw => rt_i () B.exec B.bytes B.returns B.notSynchronized hdg hP hD hS hw) s.heap [] ls hP hD va_S.rf hl hw
set_option maxHeartbeats 40000000 in
set_option maxRecDepth 100000 in
theorem k_X1_officerPart {p : Program} {l : Launch} {e : Env} {s : State} {m : MethodId} {args : Array Value} {below : List Frame} {meth : Method} {c : Code} {D : va_G} {cI cZ : ClassId} {ad : (Nat → Nat) × (Nat → Nat)} {A : Nat → Prop} (hx : p.tables.exec = Jvm.exec) (hb : c.code = cX1_officerPart) (hml : c.maxLocals = 2) (hown : s.vm.findClass RX1 = some m.cls) (hts : ∀ w ∈ (.code yX1_officerPart cX1_officerPart 2 (some .int)) :: gw, w.before args s = true) (X : CX D cI cZ ad A s) (h0 : Nat) (h_kinds : Nat) (h_parts : Nat) (h_wholes : Nat) (h_bounds : Nat) (f_size : Int32) (a_kinds : (Nat → Int32)) (a_parts : (Nat → Int32)) (a_wholes : (Nat → Int32)) (x1 : Int32)  (Q : Int32 → Prop) (Z : State → Prop) (hret : ∀ (r : Int32)   (H : Heap) (locs : List Loc) (pc : Nat) (ls : Array Slot), decode cX1_officerPart pc = .ok (.ireturn, 1) → va_P D classes (w_X1_officerPart cI cZ h0 h_kinds h_parts h_wholes h_bounds f_size a_kinds a_parts a_wholes) H → va_D A (w_X1_officerPart cI cZ h0 h_kinds h_parts h_wholes h_bounds f_size a_kinds a_parts a_wholes) → va_S A s.heap H locs → Q r  → W p l e rm_X1_officerPart s m args below meth c H locs 0 0 Z (F0 m pc ls [.int r])) (H : Heap) (locs : List Loc) (ls : Array Slot) (hP : va_P D classes (w_X1_officerPart cI cZ h0 h_kinds h_parts h_wholes h_bounds f_size a_kinds a_parts a_wholes) H) (hD : va_D A (w_X1_officerPart cI cZ h0 h_kinds h_parts h_wholes h_bounds f_size a_kinds a_parts a_wholes)) (hS : va_S A s.heap H locs) (hl : lv_has ls 2 [(0, .ref h0), (1, .int x1)]) (hw : wp_X1_officerPart f_size a_kinds a_parts a_wholes x1 Q) : W p l e rm_X1_officerPart s m args below meth c H locs 0 0 Z (F0 m 0 ls []) := by
  have htg : ∀ w ∈ gw, w.before args s = true := fun w h => hts w (gw_cons w h)
  delta wp_X1_officerPart at hw
  refine lv_aload_n hx hb dX1_officerPart_0 rfl (lv_at hl 0 rfl) ?_
  refine lv_iload_n hx hb dX1_officerPart_1 rfl (lv_at hl 1 rfl) ?_
  refine lv_aload_n hx hb dX1_officerPart_2 rfl (lv_at hl 0 rfl) ?_
  refine lv_iconst (v := 3) hx hb dX1_officerPart_3 (by decide) ?_
  refine cv_i (rest := [.int x1, .ref h0]) (ws2 := fun (u : Unit) => (w_X1_officerPart cI cZ h0 h_kinds h_parts h_wholes h_bounds f_size a_kinds a_parts a_wholes)) ⟨hx, hb, hml, hown, hts⟩ (c_X1_lastOf l D cI cZ ad H.size h0 h_kinds h_parts h_wholes h_bounds f_size a_kinds (3 : Int32) _ hw) (cwV 1 hts (gIV gw_cons mw_7 gy_X1_lastOf) rfl rfl rfl hd_X1_lastOf ⟨Nat.le_of_ble_eq_true rfl, Nat.le_of_ble_eq_true rfl⟩) X hP hD hS [0, 1] [2, 3] [2, 3, 0, 1] rfl rfl rfl rfl rfl rfl (fun u => rfl) 0 1 rfl rfl rfl (lv_sub hl [] rfl) rfl (Nat.le_of_ble_eq_true rfl) dX1_officerPart_4 ⟨Nat.zero_le _, Nat.zero_le _⟩ (fun r_1 u H locs hw hP hD hS => ?_)
  have hP : va_P D classes (w_X1_officerPart cI cZ h0 h_kinds h_parts h_wholes h_bounds f_size a_kinds a_parts a_wholes) H := hP
  have hD : va_D A (w_X1_officerPart cI cZ h0 h_kinds h_parts h_wholes h_bounds f_size a_kinds a_parts a_wholes) := hD
  refine cv_i (rest := []) (ws2 := fun (u : Unit) => (w_X1_officerPart cI cZ h0 h_kinds h_parts h_wholes h_bounds f_size a_kinds a_parts a_wholes)) ⟨hx, hb, hml, hown, hts⟩ (c_X1_partOf l D cI cZ ad H.size h0 h_kinds h_parts h_wholes h_bounds f_size a_parts a_wholes x1 r_1 _ hw) (cwV 2 hts (gIV gw_cons mw_8 gy_X1_partOf) rfl rfl rfl hd_X1_partOf ⟨Nat.le_of_ble_eq_true rfl, Nat.le_of_ble_eq_true rfl⟩) X hP hD hS [0, 2, 3] [1] [1, 0, 2, 3] rfl rfl rfl rfl rfl rfl (fun u => rfl) 0 1 rfl rfl rfl (lv_sub hl [] rfl) rfl (Nat.le_of_ble_eq_true rfl) dX1_officerPart_7 ⟨Nat.zero_le _, Nat.zero_le _⟩ (fun r_2 u H locs hw hP hD hS => ?_)
  have hP : va_P D classes (w_X1_officerPart cI cZ h0 h_kinds h_parts h_wholes h_bounds f_size a_kinds a_parts a_wholes) H := hP
  have hD : va_D A (w_X1_officerPart cI cZ h0 h_kinds h_parts h_wholes h_bounds f_size a_kinds a_parts a_wholes) := hD
  exact hret r_2 H locs _ _ dX1_officerPart_10 hP hD hS hw
set_option maxHeartbeats 40000000 in
set_option maxRecDepth 100000 in
theorem c_X1_officerPart (l : Launch) (D : va_G) (cI cZ : ClassId) (ad : (Nat → Nat) × (Nat → Nat)) (sz : Nat) (h0 : Nat) (h_kinds : Nat) (h_parts : Nat) (h_wholes : Nat) (h_bounds : Nat) (f_size : Int32) (a_kinds : (Nat → Int32)) (a_parts : (Nat → Int32)) (a_wholes : (Nat → Int32)) (x1 : Int32)  (Q : Int32 → Prop) (hw : wp_X1_officerPart f_size a_kinds a_parts a_wholes x1 Q) : Met l yX1_officerPart ((.code yX1_officerPart cX1_officerPart 2 (some .int)) :: gw) rm_X1_officerPart (va_Pc [.ref h0, .int x1] (PC D cI cZ ad sz (w_X1_officerPart cI cZ h0 h_kinds h_parts h_wholes h_bounds f_size a_kinds a_parts a_wholes))) (va_Qi (fun r (_ : Unit) => Q r) (PW D (va_A (w_X1_officerPart cI cZ h0 h_kinds h_parts h_wholes h_bounds f_size a_kinds a_parts a_wholes) sz) (fun (_ : Unit) => (w_X1_officerPart cI cZ h0 h_kinds h_parts h_wholes h_bounds f_size a_kinds a_parts a_wholes))) (va_A (w_X1_officerPart cI cZ h0 h_kinds h_parts h_wholes h_bounds f_size a_kinds a_parts a_wholes) sz)) 0 0 (va_A (w_X1_officerPart cI cZ h0 h_kinds h_parts h_wholes h_bounds f_size a_kinds a_parts a_wholes) sz) := by
  refine Met.ofW (cc := cX1_officerPart) (maxL := 2) (ret := (some .int)) (by decide) rfl ?_
  intro p e s m args below meth c s₁ B hml hv
  have hst := PC.start hv.2
  obtain ⟨ls, hfr, hl⟩ := en_fr (m := m) [.ref h0, .int x1] 2 hv.1 (Nat.le_of_ble_eq_true rfl)
  rw [hfr]
  generalize va_A (w_X1_officerPart cI cZ h0 h_kinds h_parts h_wholes h_bounds f_size a_kinds a_parts a_wholes) sz = A at hst ⊢
  obtain ⟨X, hP, hD⟩ := hst
  exact k_X1_officerPart B.exec B.bytes hml (findClass_of_methodNamed B.named) (atoms_spec (ws := (.code yX1_officerPart cX1_officerPart 2 (some .int)) :: gw) B.pre) X h0 h_kinds h_parts h_wholes h_bounds f_size a_kinds a_parts a_wholes x1 Q _ (fun r H locs pc ls hdg hP hD hS hw => rt_i () B.exec B.bytes B.returns B.notSynchronized hdg hP hD hS hw) s.heap [] ls hP hD va_S.rf hl hw
set_option maxHeartbeats 40000000 in
set_option maxRecDepth 100000 in
theorem k_X2_addStrip {p : Program} {l : Launch} {e : Env} {s : State} {m : MethodId} {args : Array Value} {below : List Frame} {meth : Method} {c : Code} {D : va_G} {cI cZ : ClassId} {ad : (Nat → Nat) × (Nat → Nat)} {A : Nat → Prop} (hx : p.tables.exec = Jvm.exec) (hb : c.code = cX2_addStrip) (hml : c.maxLocals = 4) (hown : s.vm.findClass RX2 = some m.cls) (hts : ∀ w ∈ (.code yX2_addStrip cX2_addStrip 4 none) :: gw, w.before args s = true) (X : CX D cI cZ ad A s) (h0 : Nat) (h_widths : Nat) (h_register : Nat) (h_levels : Nat) (h_owners : Nat) (h_lost : Nat) (h_rests : Nat) (f_strips : Int32) (a_widths : (Nat → Int32)) (a_register : (Nat → Int32)) (a_levels : (Nat → Int32)) (a_owners : (Nat → Int32)) (x1 : Int32) (x2 : Int32) (x3 : Int32)  (Q : Int32 → (Nat → Int32) → (Nat → Int32) → (Nat → Int32) → (Nat → Int32) → Prop) (Z : State → Prop) (hret : ∀ (f_strips' : Int32) (a_widths' : (Nat → Int32)) (a_register' : (Nat → Int32)) (a_levels' : (Nat → Int32)) (a_owners' : (Nat → Int32))  (H : Heap) (locs : List Loc) (pc : Nat) (ls : Array Slot), decode cX2_addStrip pc = .ok (.return_, 1) → va_P D classes (w_X2_addStrip cI cZ h0 h_widths h_register h_levels h_owners h_lost h_rests f_strips' a_widths' a_register' a_levels' a_owners') H → va_D A (w_X2_addStrip cI cZ h0 h_widths h_register h_levels h_owners h_lost h_rests f_strips' a_widths' a_register' a_levels' a_owners') → va_S A s.heap H locs → Q f_strips' a_widths' a_register' a_levels' a_owners' → W p l e rm_X2_addStrip s m args below meth c H locs 0 0 Z (F0 m pc ls [])) (H : Heap) (locs : List Loc) (ls : Array Slot) (hP : va_P D classes (w_X2_addStrip cI cZ h0 h_widths h_register h_levels h_owners h_lost h_rests f_strips a_widths a_register a_levels a_owners) H) (hD : va_D A (w_X2_addStrip cI cZ h0 h_widths h_register h_levels h_owners h_lost h_rests f_strips a_widths a_register a_levels a_owners)) (hS : va_S A s.heap H locs) (hl : lv_has ls 4 [(0, .ref h0), (1, .int x1), (2, .int x2), (3, .int x3)]) (hw : wp_X2_addStrip f_strips a_widths a_register a_levels a_owners x1 x2 x3 Q) : W p l e rm_X2_addStrip s m args below meth c H locs 0 0 Z (F0 m 0 ls []) := by
  have htg : ∀ w ∈ gw, w.before args s = true := fun w h => hts w (gw_cons w h)
  delta wp_X2_addStrip at hw
  refine lv_aload_n hx hb dX2_addStrip_0 rfl (lv_at hl 0 rfl) ?_
  refine va_get (D := D) (ci := 2) (v := .ref h_widths) (C := RX2) (T := TX2) (N := 7) hx hb htg in_X2 hown X.1 hP 0 rfl rfl 0 (by decide) (htg _ mw_9) (fun _ h9 => h9) rfl dX2_addStrip_1 ?_
  refine lv_aload_n hx hb dX2_addStrip_4 rfl (lv_at hl 0 rfl) ?_
  refine va_get (D := D) (ci := 2) (v := .int f_strips) (C := RX2) (T := TX2) (N := 7) hx hb htg in_X2 hown X.1 hP 0 rfl rfl 6 (by decide) (htg _ mw_10) (fun _ h9 => h9) rfl dX2_addStrip_5 ?_
  refine lv_iload_n hx hb dX2_addStrip_8 rfl (lv_at hl 1 rfl) ?_
  obtain ⟨g, hw⟩ := hw
  refine va_iast hx hb X.1 hP hD hS 1 0 rfl rfl g dX2_addStrip_9 (fun H locs hP hD hS => ?_)
  have hP : va_P D classes (w_X2_addStrip cI cZ h0 h_widths h_register h_levels h_owners h_lost h_rests f_strips (upd a_widths f_strips.toNatClampNeg x1) a_register a_levels a_owners) H := hP
  have hD : va_D A (w_X2_addStrip cI cZ h0 h_widths h_register h_levels h_owners h_lost h_rests f_strips (upd a_widths f_strips.toNatClampNeg x1) a_register a_levels a_owners) := hD
  refine lv_aload_n hx hb dX2_addStrip_10 rfl (lv_at hl 0 rfl) ?_
  refine va_get (D := D) (ci := 2) (v := .ref h_register) (C := RX2) (T := TX2) (N := 7) hx hb htg in_X2 hown X.1 hP 0 rfl rfl 1 (by decide) (htg _ mw_11) (fun _ h9 => h9) rfl dX2_addStrip_11 ?_
  refine lv_aload_n hx hb dX2_addStrip_14 rfl (lv_at hl 0 rfl) ?_
  refine va_get (D := D) (ci := 2) (v := .int f_strips) (C := RX2) (T := TX2) (N := 7) hx hb htg in_X2 hown X.1 hP 0 rfl rfl 6 (by decide) (htg _ mw_10) (fun _ h9 => h9) rfl dX2_addStrip_15 ?_
  refine lv_iload_n hx hb dX2_addStrip_18 rfl (lv_at hl 1 rfl) ?_
  obtain ⟨g, hw⟩ := hw
  refine va_iast hx hb X.1 hP hD hS 2 0 rfl rfl g dX2_addStrip_19 (fun H locs hP hD hS => ?_)
  have hP : va_P D classes (w_X2_addStrip cI cZ h0 h_widths h_register h_levels h_owners h_lost h_rests f_strips (upd a_widths f_strips.toNatClampNeg x1) (upd a_register f_strips.toNatClampNeg x1) a_levels a_owners) H := hP
  have hD : va_D A (w_X2_addStrip cI cZ h0 h_widths h_register h_levels h_owners h_lost h_rests f_strips (upd a_widths f_strips.toNatClampNeg x1) (upd a_register f_strips.toNatClampNeg x1) a_levels a_owners) := hD
  refine lv_aload_n hx hb dX2_addStrip_20 rfl (lv_at hl 0 rfl) ?_
  refine va_get (D := D) (ci := 2) (v := .ref h_levels) (C := RX2) (T := TX2) (N := 7) hx hb htg in_X2 hown X.1 hP 0 rfl rfl 2 (by decide) (htg _ mw_12) (fun _ h9 => h9) rfl dX2_addStrip_21 ?_
  refine lv_aload_n hx hb dX2_addStrip_24 rfl (lv_at hl 0 rfl) ?_
  refine va_get (D := D) (ci := 2) (v := .int f_strips) (C := RX2) (T := TX2) (N := 7) hx hb htg in_X2 hown X.1 hP 0 rfl rfl 6 (by decide) (htg _ mw_10) (fun _ h9 => h9) rfl dX2_addStrip_25 ?_
  refine lv_iload_n hx hb dX2_addStrip_28 rfl (lv_at hl 2 rfl) ?_
  obtain ⟨g, hw⟩ := hw
  refine va_iast hx hb X.1 hP hD hS 3 0 rfl rfl g dX2_addStrip_29 (fun H locs hP hD hS => ?_)
  have hP : va_P D classes (w_X2_addStrip cI cZ h0 h_widths h_register h_levels h_owners h_lost h_rests f_strips (upd a_widths f_strips.toNatClampNeg x1) (upd a_register f_strips.toNatClampNeg x1) (upd a_levels f_strips.toNatClampNeg x2) a_owners) H := hP
  have hD : va_D A (w_X2_addStrip cI cZ h0 h_widths h_register h_levels h_owners h_lost h_rests f_strips (upd a_widths f_strips.toNatClampNeg x1) (upd a_register f_strips.toNatClampNeg x1) (upd a_levels f_strips.toNatClampNeg x2) a_owners) := hD
  refine lv_aload_n hx hb dX2_addStrip_30 rfl (lv_at hl 0 rfl) ?_
  refine va_get (D := D) (ci := 2) (v := .ref h_owners) (C := RX2) (T := TX2) (N := 7) hx hb htg in_X2 hown X.1 hP 0 rfl rfl 3 (by decide) (htg _ mw_13) (fun _ h9 => h9) rfl dX2_addStrip_31 ?_
  refine lv_aload_n hx hb dX2_addStrip_34 rfl (lv_at hl 0 rfl) ?_
  refine va_get (D := D) (ci := 2) (v := .int f_strips) (C := RX2) (T := TX2) (N := 7) hx hb htg in_X2 hown X.1 hP 0 rfl rfl 6 (by decide) (htg _ mw_10) (fun _ h9 => h9) rfl dX2_addStrip_35 ?_
  refine lv_iload_n hx hb dX2_addStrip_38 rfl (lv_at hl 3 rfl) ?_
  obtain ⟨g, hw⟩ := hw
  refine va_iast hx hb X.1 hP hD hS 4 0 rfl rfl g dX2_addStrip_39 (fun H locs hP hD hS => ?_)
  have hP : va_P D classes (w_X2_addStrip cI cZ h0 h_widths h_register h_levels h_owners h_lost h_rests f_strips (upd a_widths f_strips.toNatClampNeg x1) (upd a_register f_strips.toNatClampNeg x1) (upd a_levels f_strips.toNatClampNeg x2) (upd a_owners f_strips.toNatClampNeg x3)) H := hP
  have hD : va_D A (w_X2_addStrip cI cZ h0 h_widths h_register h_levels h_owners h_lost h_rests f_strips (upd a_widths f_strips.toNatClampNeg x1) (upd a_register f_strips.toNatClampNeg x1) (upd a_levels f_strips.toNatClampNeg x2) (upd a_owners f_strips.toNatClampNeg x3)) := hD
  refine lv_aload_n hx hb dX2_addStrip_40 rfl (lv_at hl 0 rfl) ?_
  refine lv_dup hx hb dX2_addStrip_41 rfl ?_
  refine va_get (D := D) (ci := 2) (v := .int f_strips) (C := RX2) (T := TX2) (N := 7) hx hb htg in_X2 hown X.1 hP 0 rfl rfl 6 (by decide) (htg _ mw_10) (fun _ h9 => h9) rfl dX2_addStrip_42 ?_
  refine lv_iconst (v := 1) hx hb dX2_addStrip_45 (by decide) ?_
  refine lv_iadd hx hb dX2_addStrip_46 ?_
  refine va_put (D := D) (ci := 2) (v := .int (f_strips + (1 : Int32))) (ty := .int) (C := RX2) (T := TX2) (N := 7) hx hb htg in_X2 tyX2 tyX2_ok nmX2 hown X.1 hP hD hS 0 rfl rfl 6 (by decide) (htg _ mw_10) (fun _ h9 => h9) rfl (by decide +kernel) rfl rfl (Nat.le_of_ble_eq_true rfl) dX2_addStrip_47 (fun H locs hP hD hS => ?_)
  have hP : va_P D classes (w_X2_addStrip cI cZ h0 h_widths h_register h_levels h_owners h_lost h_rests (f_strips + (1 : Int32)) (upd a_widths f_strips.toNatClampNeg x1) (upd a_register f_strips.toNatClampNeg x1) (upd a_levels f_strips.toNatClampNeg x2) (upd a_owners f_strips.toNatClampNeg x3)) H := hP
  have hD : va_D A (w_X2_addStrip cI cZ h0 h_widths h_register h_levels h_owners h_lost h_rests (f_strips + (1 : Int32)) (upd a_widths f_strips.toNatClampNeg x1) (upd a_register f_strips.toNatClampNeg x1) (upd a_levels f_strips.toNatClampNeg x2) (upd a_owners f_strips.toNatClampNeg x3)) := hD
  exact hret (f_strips + (1 : Int32)) (upd a_widths f_strips.toNatClampNeg x1) (upd a_register f_strips.toNatClampNeg x1) (upd a_levels f_strips.toNatClampNeg x2) (upd a_owners f_strips.toNatClampNeg x3) H locs _ _ dX2_addStrip_50 hP hD hS hw
set_option maxHeartbeats 40000000 in
set_option maxRecDepth 100000 in
theorem c_X2_addStrip (l : Launch) (D : va_G) (cI cZ : ClassId) (ad : (Nat → Nat) × (Nat → Nat)) (sz : Nat) (h0 : Nat) (h_widths : Nat) (h_register : Nat) (h_levels : Nat) (h_owners : Nat) (h_lost : Nat) (h_rests : Nat) (f_strips : Int32) (a_widths : (Nat → Int32)) (a_register : (Nat → Int32)) (a_levels : (Nat → Int32)) (a_owners : (Nat → Int32)) (x1 : Int32) (x2 : Int32) (x3 : Int32)  (Q : Int32 → (Nat → Int32) → (Nat → Int32) → (Nat → Int32) → (Nat → Int32) → Prop) (hw : wp_X2_addStrip f_strips a_widths a_register a_levels a_owners x1 x2 x3 Q) : Met l yX2_addStrip ((.code yX2_addStrip cX2_addStrip 4 none) :: gw) rm_X2_addStrip (va_Pc [.ref h0, .int x1, .int x2, .int x3] (PC D cI cZ ad sz (w_X2_addStrip cI cZ h0 h_widths h_register h_levels h_owners h_lost h_rests f_strips a_widths a_register a_levels a_owners))) (va_Qv (fun (u : Int32 × (Nat → Int32) × (Nat → Int32) × (Nat → Int32) × (Nat → Int32)) => Q u.1 u.2.1 u.2.2.1 u.2.2.2.1 u.2.2.2.2) (PW D (va_A (w_X2_addStrip cI cZ h0 h_widths h_register h_levels h_owners h_lost h_rests f_strips a_widths a_register a_levels a_owners) sz) (fun (u : Int32 × (Nat → Int32) × (Nat → Int32) × (Nat → Int32) × (Nat → Int32)) => (w_X2_addStrip cI cZ h0 h_widths h_register h_levels h_owners h_lost h_rests u.1 u.2.1 u.2.2.1 u.2.2.2.1 u.2.2.2.2))) (va_A (w_X2_addStrip cI cZ h0 h_widths h_register h_levels h_owners h_lost h_rests f_strips a_widths a_register a_levels a_owners) sz)) 0 0 (va_A (w_X2_addStrip cI cZ h0 h_widths h_register h_levels h_owners h_lost h_rests f_strips a_widths a_register a_levels a_owners) sz) := by
  refine Met.ofW (cc := cX2_addStrip) (maxL := 4) (ret := none) (by decide) rfl ?_
  intro p e s m args below meth c s₁ B hml hv
  have hst := PC.start hv.2
  obtain ⟨ls, hfr, hl⟩ := en_fr (m := m) [.ref h0, .int x1, .int x2, .int x3] 4 hv.1 (Nat.le_of_ble_eq_true rfl)
  rw [hfr]
  generalize va_A (w_X2_addStrip cI cZ h0 h_widths h_register h_levels h_owners h_lost h_rests f_strips a_widths a_register a_levels a_owners) sz = A at hst ⊢
  obtain ⟨X, hP, hD⟩ := hst
  exact k_X2_addStrip B.exec B.bytes hml (findClass_of_methodNamed B.named) (atoms_spec (ws := (.code yX2_addStrip cX2_addStrip 4 none) :: gw) B.pre) X h0 h_widths h_register h_levels h_owners h_lost h_rests f_strips a_widths a_register a_levels a_owners x1 x2 x3 Q _ (fun f_strips' a_widths' a_register' a_levels' a_owners' H locs pc ls hdg hP hD hS hw => rt_v (f_strips', a_widths', a_register', a_levels', a_owners') B.exec B.bytes B.returns B.notSynchronized hdg hP hD hS hw) s.heap [] ls hP hD va_S.rf hl hw
set_option maxHeartbeats 40000000 in
set_option maxRecDepth 100000 in
theorem k_X2_hasStrip {p : Program} {l : Launch} {e : Env} {s : State} {m : MethodId} {args : Array Value} {below : List Frame} {meth : Method} {c : Code} {D : va_G} {cI cZ : ClassId} {ad : (Nat → Nat) × (Nat → Nat)} {A : Nat → Prop} (hx : p.tables.exec = Jvm.exec) (hb : c.code = cX2_hasStrip) (hml : c.maxLocals = 2) (hown : s.vm.findClass RX2 = some m.cls) (hts : ∀ w ∈ (.code yX2_hasStrip cX2_hasStrip 2 (some .boolean)) :: gw, w.before args s = true) (X : CX D cI cZ ad A s) (h0 : Nat) (h_widths : Nat) (h_register : Nat) (h_levels : Nat) (h_owners : Nat) (h_lost : Nat) (h_rests : Nat) (f_strips : Int32) (x1 : Int32)  (Q : Int32 → Prop) (Z : State → Prop) (hret : ∀ (r : Int32)   (H : Heap) (locs : List Loc) (pc : Nat) (ls : Array Slot), decode cX2_hasStrip pc = .ok (.ireturn, 1) → (r = 0 ∨ r = 1) → va_P D classes (w_X2_hasStrip cI cZ h0 h_widths h_register h_levels h_owners h_lost h_rests f_strips) H → va_D A (w_X2_hasStrip cI cZ h0 h_widths h_register h_levels h_owners h_lost h_rests f_strips) → va_S A s.heap H locs → Q r  → W p l e rm_X2_hasStrip s m args below meth c H locs 0 0 Z (F0 m pc ls [.int r])) (H : Heap) (locs : List Loc) (ls : Array Slot) (hP : va_P D classes (w_X2_hasStrip cI cZ h0 h_widths h_register h_levels h_owners h_lost h_rests f_strips) H) (hD : va_D A (w_X2_hasStrip cI cZ h0 h_widths h_register h_levels h_owners h_lost h_rests f_strips)) (hS : va_S A s.heap H locs) (hl : lv_has ls 2 [(0, .ref h0), (1, .int x1)]) (hw : wp_X2_hasStrip f_strips x1 Q) : W p l e rm_X2_hasStrip s m args below meth c H locs 0 0 Z (F0 m 0 ls []) := by
  have htg : ∀ w ∈ gw, w.before args s = true := fun w h => hts w (gw_cons w h)
  have bk_16 : ∀  (H : Heap) (locs : List Loc) (ls : Array Slot), va_P D classes (w_X2_hasStrip cI cZ h0 h_widths h_register h_levels h_owners h_lost h_rests f_strips) H → va_D A (w_X2_hasStrip cI cZ h0 h_widths h_register h_levels h_owners h_lost h_rests f_strips) → va_S A s.heap H locs → lv_has ls 2 [] → wp_X2_hasStrip_b16 f_strips x1 Q → W p l e rm_X2_hasStrip s m args below meth c H locs 0 0 Z (F0 m 16 ls []) := by
    intro   H locs ls hP hD hS hl hw
    delta wp_X2_hasStrip_b16 at hw
    refine lv_iconst (v := 0) hx hb dX2_hasStrip_16 (by decide) ?_
    exact hret (0 : Int32) H locs _ _ dX2_hasStrip_17 (by decide) hP hD hS hw
  delta wp_X2_hasStrip at hw
  refine lv_iload_n hx hb dX2_hasStrip_0 rfl (lv_at hl 1 rfl) ?_
  refine lv_if_lt (tgt := 16) hx hb dX2_hasStrip_1 (by decide) (fun cb => ?_) (fun cb => ?_)
  · have hw := hw.1 cb
    exact bk_16  H locs ls hP hD hS (lv_sub hl [] rfl) hw
  · have hw := hw.2 cb
    refine lv_iload_n hx hb dX2_hasStrip_4 rfl (lv_at hl 1 rfl) ?_
    refine lv_aload_n hx hb dX2_hasStrip_5 rfl (lv_at hl 0 rfl) ?_
    refine va_get (D := D) (ci := 2) (v := .int f_strips) (C := RX2) (T := TX2) (N := 7) hx hb htg in_X2 hown X.1 hP 0 rfl rfl 6 (by decide) (htg _ mw_10) (fun _ h9 => h9) rfl dX2_hasStrip_6 ?_
    refine lv_icmp_ge (tgt := 16) hx hb dX2_hasStrip_9 (by decide) (fun cb => ?_) (fun cb => ?_)
    · have hw := hw.1 cb
      exact bk_16  H locs ls hP hD hS (lv_sub hl [] rfl) hw
    · have hw := hw.2 cb
      refine lv_iconst (v := 1) hx hb dX2_hasStrip_12 (by decide) ?_
      refine lv_goto (tgt := 17) hx hb dX2_hasStrip_13 (by decide) ?_
      exact hret (1 : Int32) H locs _ _ dX2_hasStrip_17 (by decide) hP hD hS hw
set_option maxHeartbeats 40000000 in
set_option maxRecDepth 100000 in
theorem c_X2_hasStrip (l : Launch) (D : va_G) (cI cZ : ClassId) (ad : (Nat → Nat) × (Nat → Nat)) (sz : Nat) (h0 : Nat) (h_widths : Nat) (h_register : Nat) (h_levels : Nat) (h_owners : Nat) (h_lost : Nat) (h_rests : Nat) (f_strips : Int32) (x1 : Int32)  (Q : Int32 → Prop) (hw : wp_X2_hasStrip f_strips x1 Q) : Met l yX2_hasStrip ((.code yX2_hasStrip cX2_hasStrip 2 (some .boolean)) :: gw) rm_X2_hasStrip (va_Pc [.ref h0, .int x1] (PC D cI cZ ad sz (w_X2_hasStrip cI cZ h0 h_widths h_register h_levels h_owners h_lost h_rests f_strips))) (va_Qi (fun r (_ : Unit) => Q r) (PW D (va_A (w_X2_hasStrip cI cZ h0 h_widths h_register h_levels h_owners h_lost h_rests f_strips) sz) (fun (_ : Unit) => (w_X2_hasStrip cI cZ h0 h_widths h_register h_levels h_owners h_lost h_rests f_strips))) (va_A (w_X2_hasStrip cI cZ h0 h_widths h_register h_levels h_owners h_lost h_rests f_strips) sz)) 0 0 (va_A (w_X2_hasStrip cI cZ h0 h_widths h_register h_levels h_owners h_lost h_rests f_strips) sz) := by
  refine Met.ofW (cc := cX2_hasStrip) (maxL := 2) (ret := (some .boolean)) (by decide) rfl ?_
  intro p e s m args below meth c s₁ B hml hv
  have hst := PC.start hv.2
  obtain ⟨ls, hfr, hl⟩ := en_fr (m := m) [.ref h0, .int x1] 2 hv.1 (Nat.le_of_ble_eq_true rfl)
  rw [hfr]
  generalize va_A (w_X2_hasStrip cI cZ h0 h_widths h_register h_levels h_owners h_lost h_rests f_strips) sz = A at hst ⊢
  obtain ⟨X, hP, hD⟩ := hst
  exact k_X2_hasStrip B.exec B.bytes hml (findClass_of_methodNamed B.named) (atoms_spec (ws := (.code yX2_hasStrip cX2_hasStrip 2 (some .boolean)) :: gw) B.pre) X h0 h_widths h_register h_levels h_owners h_lost h_rests f_strips x1 Q _ (fun r H locs pc ls hdg hz hP hD hS hw => rt_z () B.exec B.bytes B.returns B.notSynchronized hdg hz hP hD hS hw) s.heap [] ls hP hD va_S.rf hl hw
set_option maxHeartbeats 40000000 in
set_option maxRecDepth 100000 in
theorem k_X2_hasMark {p : Program} {l : Launch} {e : Env} {s : State} {m : MethodId} {args : Array Value} {below : List Frame} {meth : Method} {c : Code} {D : va_G} {cI cZ : ClassId} {ad : (Nat → Nat) × (Nat → Nat)} {A : Nat → Prop} (hx : p.tables.exec = Jvm.exec) (hb : c.code = cX2_hasMark) (hml : c.maxLocals = 2) (hown : s.vm.findClass RX2 = some m.cls) (hts : ∀ w ∈ (.code yX2_hasMark cX2_hasMark 2 (some .boolean)) :: gw, w.before args s = true) (X : CX D cI cZ ad A s) (h0 : Nat) (h_widths : Nat) (h_register : Nat) (h_levels : Nat) (h_owners : Nat) (h_lost : Nat) (h_rests : Nat) (f_strips : Int32) (x1 : Int32)  (Q : Int32 → Prop) (Z : State → Prop) (hret : ∀ (r : Int32)   (H : Heap) (locs : List Loc) (pc : Nat) (ls : Array Slot), decode cX2_hasMark pc = .ok (.ireturn, 1) → (r = 0 ∨ r = 1) → va_P D classes (w_X2_hasMark cI cZ h0 h_widths h_register h_levels h_owners h_lost h_rests f_strips) H → va_D A (w_X2_hasMark cI cZ h0 h_widths h_register h_levels h_owners h_lost h_rests f_strips) → va_S A s.heap H locs → Q r  → W p l e rm_X2_hasMark s m args below meth c H locs 0 0 Z (F0 m pc ls [.int r])) (H : Heap) (locs : List Loc) (ls : Array Slot) (hP : va_P D classes (w_X2_hasMark cI cZ h0 h_widths h_register h_levels h_owners h_lost h_rests f_strips) H) (hD : va_D A (w_X2_hasMark cI cZ h0 h_widths h_register h_levels h_owners h_lost h_rests f_strips)) (hS : va_S A s.heap H locs) (hl : lv_has ls 2 [(0, .ref h0), (1, .int x1)]) (hw : wp_X2_hasMark f_strips x1 Q) : W p l e rm_X2_hasMark s m args below meth c H locs 0 0 Z (F0 m 0 ls []) := by
  have htg : ∀ w ∈ gw, w.before args s = true := fun w h => hts w (gw_cons w h)
  have bk_23 : ∀  (H : Heap) (locs : List Loc) (ls : Array Slot), va_P D classes (w_X2_hasMark cI cZ h0 h_widths h_register h_levels h_owners h_lost h_rests f_strips) H → va_D A (w_X2_hasMark cI cZ h0 h_widths h_register h_levels h_owners h_lost h_rests f_strips) → va_S A s.heap H locs → lv_has ls 2 [] → wp_X2_hasMark_b23 f_strips x1 Q → W p l e rm_X2_hasMark s m args below meth c H locs 0 0 Z (F0 m 23 ls []) := by
    intro   H locs ls hP hD hS hl hw
    delta wp_X2_hasMark_b23 at hw
    refine lv_iconst (v := 0) hx hb dX2_hasMark_23 (by decide) ?_
    exact hret (0 : Int32) H locs _ _ dX2_hasMark_24 (by decide) hP hD hS hw
  delta wp_X2_hasMark at hw
  refine lv_aload_n hx hb dX2_hasMark_0 rfl (lv_at hl 0 rfl) ?_
  refine va_get (D := D) (ci := 2) (v := .int f_strips) (C := RX2) (T := TX2) (N := 7) hx hb htg in_X2 hown X.1 hP 0 rfl rfl 6 (by decide) (htg _ mw_10) (fun _ h9 => h9) rfl dX2_hasMark_1 ?_
  refine lv_if_le (tgt := 23) hx hb dX2_hasMark_4 (by decide) (fun cb => ?_) (fun cb => ?_)
  · have hw := hw.1 cb
    exact bk_23  H locs ls hP hD hS (lv_sub hl [] rfl) hw
  · have hw := hw.2 cb
    refine lv_iload_n hx hb dX2_hasMark_7 rfl (lv_at hl 1 rfl) ?_
    refine lv_if_lt (tgt := 23) hx hb dX2_hasMark_8 (by decide) (fun cb => ?_) (fun cb => ?_)
    · have hw := hw.1 cb
      exact bk_23  H locs ls hP hD hS (lv_sub hl [] rfl) hw
    · have hw := hw.2 cb
      refine lv_iload_n hx hb dX2_hasMark_11 rfl (lv_at hl 1 rfl) ?_
      refine lv_aload_n hx hb dX2_hasMark_12 rfl (lv_at hl 0 rfl) ?_
      refine va_get (D := D) (ci := 2) (v := .int f_strips) (C := RX2) (T := TX2) (N := 7) hx hb htg in_X2 hown X.1 hP 0 rfl rfl 6 (by decide) (htg _ mw_10) (fun _ h9 => h9) rfl dX2_hasMark_13 ?_
      refine lv_icmp_gt (tgt := 23) hx hb dX2_hasMark_16 (by decide) (fun cb => ?_) (fun cb => ?_)
      · have hw := hw.1 cb
        exact bk_23  H locs ls hP hD hS (lv_sub hl [] rfl) hw
      · have hw := hw.2 cb
        refine lv_iconst (v := 1) hx hb dX2_hasMark_19 (by decide) ?_
        refine lv_goto (tgt := 24) hx hb dX2_hasMark_20 (by decide) ?_
        exact hret (1 : Int32) H locs _ _ dX2_hasMark_24 (by decide) hP hD hS hw
set_option maxHeartbeats 40000000 in
set_option maxRecDepth 100000 in
theorem c_X2_hasMark (l : Launch) (D : va_G) (cI cZ : ClassId) (ad : (Nat → Nat) × (Nat → Nat)) (sz : Nat) (h0 : Nat) (h_widths : Nat) (h_register : Nat) (h_levels : Nat) (h_owners : Nat) (h_lost : Nat) (h_rests : Nat) (f_strips : Int32) (x1 : Int32)  (Q : Int32 → Prop) (hw : wp_X2_hasMark f_strips x1 Q) : Met l yX2_hasMark ((.code yX2_hasMark cX2_hasMark 2 (some .boolean)) :: gw) rm_X2_hasMark (va_Pc [.ref h0, .int x1] (PC D cI cZ ad sz (w_X2_hasMark cI cZ h0 h_widths h_register h_levels h_owners h_lost h_rests f_strips))) (va_Qi (fun r (_ : Unit) => Q r) (PW D (va_A (w_X2_hasMark cI cZ h0 h_widths h_register h_levels h_owners h_lost h_rests f_strips) sz) (fun (_ : Unit) => (w_X2_hasMark cI cZ h0 h_widths h_register h_levels h_owners h_lost h_rests f_strips))) (va_A (w_X2_hasMark cI cZ h0 h_widths h_register h_levels h_owners h_lost h_rests f_strips) sz)) 0 0 (va_A (w_X2_hasMark cI cZ h0 h_widths h_register h_levels h_owners h_lost h_rests f_strips) sz) := by
  refine Met.ofW (cc := cX2_hasMark) (maxL := 2) (ret := (some .boolean)) (by decide) rfl ?_
  intro p e s m args below meth c s₁ B hml hv
  have hst := PC.start hv.2
  obtain ⟨ls, hfr, hl⟩ := en_fr (m := m) [.ref h0, .int x1] 2 hv.1 (Nat.le_of_ble_eq_true rfl)
  rw [hfr]
  generalize va_A (w_X2_hasMark cI cZ h0 h_widths h_register h_levels h_owners h_lost h_rests f_strips) sz = A at hst ⊢
  obtain ⟨X, hP, hD⟩ := hst
  exact k_X2_hasMark B.exec B.bytes hml (findClass_of_methodNamed B.named) (atoms_spec (ws := (.code yX2_hasMark cX2_hasMark 2 (some .boolean)) :: gw) B.pre) X h0 h_widths h_register h_levels h_owners h_lost h_rests f_strips x1 Q _ (fun r H locs pc ls hdg hz hP hD hS hw => rt_z () B.exec B.bytes B.returns B.notSynchronized hdg hz hP hD hS hw) s.heap [] ls hP hD va_S.rf hl hw
set_option maxHeartbeats 40000000 in
set_option maxRecDepth 100000 in
theorem k_X2_isRock {p : Program} {l : Launch} {e : Env} {s : State} {m : MethodId} {args : Array Value} {below : List Frame} {meth : Method} {c : Code} {D : va_G} {cI cZ : ClassId} {ad : (Nat → Nat) × (Nat → Nat)} {A : Nat → Prop} (hx : p.tables.exec = Jvm.exec) (hb : c.code = cX2_isRock) (hml : c.maxLocals = 2) (hown : s.vm.findClass RX2 = some m.cls) (hts : ∀ w ∈ (.code yX2_isRock cX2_isRock 2 (some .boolean)) :: gw, w.before args s = true) (X : CX D cI cZ ad A s) (h0 : Nat) (h_widths : Nat) (h_register : Nat) (h_levels : Nat) (h_owners : Nat) (h_lost : Nat) (h_rests : Nat) (f_strips : Int32) (x1 : Int32)  (Q : Int32 → Prop) (Z : State → Prop) (hret : ∀ (r : Int32)   (H : Heap) (locs : List Loc) (pc : Nat) (ls : Array Slot), decode cX2_isRock pc = .ok (.ireturn, 1) → (r = 0 ∨ r = 1) → va_P D classes (w_X2_isRock cI cZ h0 h_widths h_register h_levels h_owners h_lost h_rests f_strips) H → va_D A (w_X2_isRock cI cZ h0 h_widths h_register h_levels h_owners h_lost h_rests f_strips) → va_S A s.heap H locs → Q r  → W p l e rm_X2_isRock s m args below meth c H locs 0 0 Z (F0 m pc ls [.int r])) (H : Heap) (locs : List Loc) (ls : Array Slot) (hP : va_P D classes (w_X2_isRock cI cZ h0 h_widths h_register h_levels h_owners h_lost h_rests f_strips) H) (hD : va_D A (w_X2_isRock cI cZ h0 h_widths h_register h_levels h_owners h_lost h_rests f_strips)) (hS : va_S A s.heap H locs) (hl : lv_has ls 2 [(0, .ref h0), (1, .int x1)]) (hw : wp_X2_isRock f_strips x1 Q) : W p l e rm_X2_isRock s m args below meth c H locs 0 0 Z (F0 m 0 ls []) := by
  have htg : ∀ w ∈ gw, w.before args s = true := fun w h => hts w (gw_cons w h)
  have bk_12 : ∀  (H : Heap) (locs : List Loc) (ls : Array Slot), va_P D classes (w_X2_isRock cI cZ h0 h_widths h_register h_levels h_owners h_lost h_rests f_strips) H → va_D A (w_X2_isRock cI cZ h0 h_widths h_register h_levels h_owners h_lost h_rests f_strips) → va_S A s.heap H locs → lv_has ls 2 [] → wp_X2_isRock_b12 f_strips x1 Q → W p l e rm_X2_isRock s m args below meth c H locs 0 0 Z (F0 m 12 ls []) := by
    intro   H locs ls hP hD hS hl hw
    delta wp_X2_isRock_b12 at hw
    refine lv_iconst (v := 1) hx hb dX2_isRock_12 (by decide) ?_
    refine lv_goto (tgt := 17) hx hb dX2_isRock_13 (by decide) ?_
    exact hret (1 : Int32) H locs _ _ dX2_isRock_17 (by decide) hP hD hS hw
  delta wp_X2_isRock at hw
  refine lv_iload_n hx hb dX2_isRock_0 rfl (lv_at hl 1 rfl) ?_
  refine lv_if_eq (tgt := 12) hx hb dX2_isRock_1 (by decide) (fun cb => ?_) (fun cb => ?_)
  · have hw := hw.1 cb
    exact bk_12  H locs ls hP hD hS (lv_sub hl [] rfl) hw
  · have hw := hw.2 cb
    refine lv_iload_n hx hb dX2_isRock_4 rfl (lv_at hl 1 rfl) ?_
    refine lv_aload_n hx hb dX2_isRock_5 rfl (lv_at hl 0 rfl) ?_
    refine va_get (D := D) (ci := 2) (v := .int f_strips) (C := RX2) (T := TX2) (N := 7) hx hb htg in_X2 hown X.1 hP 0 rfl rfl 6 (by decide) (htg _ mw_10) (fun _ h9 => h9) rfl dX2_isRock_6 ?_
    refine lv_icmp_ne (tgt := 16) hx hb dX2_isRock_9 (by decide) (fun cb => ?_) (fun cb => ?_)
    · have hw := hw.1 cb
      refine lv_iconst (v := 0) hx hb dX2_isRock_16 (by decide) ?_
      exact hret (0 : Int32) H locs _ _ dX2_isRock_17 (by decide) hP hD hS hw
    · have hw := hw.2 cb
      exact bk_12  H locs ls hP hD hS (lv_sub hl [] rfl) hw
set_option maxHeartbeats 40000000 in
set_option maxRecDepth 100000 in
theorem c_X2_isRock (l : Launch) (D : va_G) (cI cZ : ClassId) (ad : (Nat → Nat) × (Nat → Nat)) (sz : Nat) (h0 : Nat) (h_widths : Nat) (h_register : Nat) (h_levels : Nat) (h_owners : Nat) (h_lost : Nat) (h_rests : Nat) (f_strips : Int32) (x1 : Int32)  (Q : Int32 → Prop) (hw : wp_X2_isRock f_strips x1 Q) : Met l yX2_isRock ((.code yX2_isRock cX2_isRock 2 (some .boolean)) :: gw) rm_X2_isRock (va_Pc [.ref h0, .int x1] (PC D cI cZ ad sz (w_X2_isRock cI cZ h0 h_widths h_register h_levels h_owners h_lost h_rests f_strips))) (va_Qi (fun r (_ : Unit) => Q r) (PW D (va_A (w_X2_isRock cI cZ h0 h_widths h_register h_levels h_owners h_lost h_rests f_strips) sz) (fun (_ : Unit) => (w_X2_isRock cI cZ h0 h_widths h_register h_levels h_owners h_lost h_rests f_strips))) (va_A (w_X2_isRock cI cZ h0 h_widths h_register h_levels h_owners h_lost h_rests f_strips) sz)) 0 0 (va_A (w_X2_isRock cI cZ h0 h_widths h_register h_levels h_owners h_lost h_rests f_strips) sz) := by
  refine Met.ofW (cc := cX2_isRock) (maxL := 2) (ret := (some .boolean)) (by decide) rfl ?_
  intro p e s m args below meth c s₁ B hml hv
  have hst := PC.start hv.2
  obtain ⟨ls, hfr, hl⟩ := en_fr (m := m) [.ref h0, .int x1] 2 hv.1 (Nat.le_of_ble_eq_true rfl)
  rw [hfr]
  generalize va_A (w_X2_isRock cI cZ h0 h_widths h_register h_levels h_owners h_lost h_rests f_strips) sz = A at hst ⊢
  obtain ⟨X, hP, hD⟩ := hst
  exact k_X2_isRock B.exec B.bytes hml (findClass_of_methodNamed B.named) (atoms_spec (ws := (.code yX2_isRock cX2_isRock 2 (some .boolean)) :: gw) B.pre) X h0 h_widths h_register h_levels h_owners h_lost h_rests f_strips x1 Q _ (fun r H locs pc ls hdg hz hP hD hS hw => rt_z () B.exec B.bytes B.returns B.notSynchronized hdg hz hP hD hS hw) s.heap [] ls hP hD va_S.rf hl hw
set_option maxHeartbeats 40000000 in
set_option maxRecDepth 100000 in
theorem k_X2_canDraw {p : Program} {l : Launch} {e : Env} {s : State} {m : MethodId} {args : Array Value} {below : List Frame} {meth : Method} {c : Code} {D : va_G} {cI cZ : ClassId} {ad : (Nat → Nat) × (Nat → Nat)} {A : Nat → Prop} (hx : p.tables.exec = Jvm.exec) (hb : c.code = cX2_canDraw) (hml : c.maxLocals = 4) (hown : s.vm.findClass RX2 = some m.cls) (hts : ∀ w ∈ (.code yX2_canDraw cX2_canDraw 4 (some .boolean)) :: gw, w.before args s = true) (X : CX D cI cZ ad A s) (h0 : Nat) (h_widths : Nat) (h_register : Nat) (h_levels : Nat) (h_owners : Nat) (h_lost : Nat) (h_rests : Nat) (f_strips : Int32) (a_lost : (Nat → Int32)) (x1 : Int32) (x2 : Int32)  (Q : Int32 → Prop) (Z : State → Prop) (hret : ∀ (r : Int32)   (H : Heap) (locs : List Loc) (pc : Nat) (ls : Array Slot), decode cX2_canDraw pc = .ok (.ireturn, 1) → (r = 0 ∨ r = 1) → va_P D classes (w_X2_canDraw cI cZ h0 h_widths h_register h_levels h_owners h_lost h_rests f_strips a_lost) H → va_D A (w_X2_canDraw cI cZ h0 h_widths h_register h_levels h_owners h_lost h_rests f_strips a_lost) → va_S A s.heap H locs → Q r  → W p l e rm_X2_canDraw s m args below meth c H locs 0 0 Z (F0 m pc ls [.int r])) (H : Heap) (locs : List Loc) (ls : Array Slot) (hP : va_P D classes (w_X2_canDraw cI cZ h0 h_widths h_register h_levels h_owners h_lost h_rests f_strips a_lost) H) (hD : va_D A (w_X2_canDraw cI cZ h0 h_widths h_register h_levels h_owners h_lost h_rests f_strips a_lost)) (hS : va_S A s.heap H locs) (hl : lv_has ls 4 [(0, .ref h0), (1, .int x1), (2, .int x2)]) (hw : wp_X2_canDraw a_lost x1 x2 Q) : W p l e rm_X2_canDraw s m args below meth c H locs 0 0 Z (F0 m 0 ls []) := by
  have htg : ∀ w ∈ gw, w.before args s = true := fun w h => hts w (gw_cons w h)
  have bk_24 : ∀ (t3 : Int32) (H : Heap) (locs : List Loc) (ls : Array Slot), va_P D classes (w_X2_canDraw cI cZ h0 h_widths h_register h_levels h_owners h_lost h_rests f_strips a_lost) H → va_D A (w_X2_canDraw cI cZ h0 h_widths h_register h_levels h_owners h_lost h_rests f_strips a_lost) → va_S A s.heap H locs → lv_has ls 4 [(0, .ref h0), (2, .int x2), (3, .int t3)] → wp_X2_canDraw_b24 a_lost x1 x2 Q t3 → W p l e rm_X2_canDraw s m args below meth c H locs 0 0 Z (F0 m 24 ls []) := by
    intro  t3 H locs ls hP hD hS hl hw
    delta wp_X2_canDraw_b24 at hw
    obtain ⟨I, μ, hI0, hst⟩ := hw
    have key : ∀ (n : Nat) (t3 : Int32) (H : Heap) (locs : List Loc) (ls : Array Slot), va_P D classes (w_X2_canDraw cI cZ h0 h_widths h_register h_levels h_owners h_lost h_rests f_strips a_lost) H → va_D A (w_X2_canDraw cI cZ h0 h_widths h_register h_levels h_owners h_lost h_rests f_strips a_lost) → va_S A s.heap H locs → lv_has ls 4 [(0, .ref h0), (2, .int x2), (3, .int t3)] → I t3 → μ t3 < n → W p l e rm_X2_canDraw s m args below meth c H locs 0 0 Z (F0 m 24 ls []) := by
      intro n
      induction n with
      | zero => intro t3 H locs ls hP hD hS hl hI hlt; exact absurd hlt (Nat.not_lt_zero _)
      | succ n ih =>
        intro t3 H locs ls hP hD hS hl hI hlt
        have hw := hst t3 hI
        refine lv_iload_n hx hb dX2_canDraw_24 rfl (lv_at hl 2 rfl) ?_
        refine lv_iload_n hx hb dX2_canDraw_25 rfl (lv_at hl 1 rfl) ?_
        refine lv_icmp_ge (tgt := 46) hx hb dX2_canDraw_26 (by decide) (fun cb => ?_) (fun cb => ?_)
        · have hw := hw.1 cb
          refine lv_iconst (v := 1) hx hb dX2_canDraw_46 (by decide) ?_
          exact hret (1 : Int32) H locs _ _ dX2_canDraw_47 (by decide) hP hD hS hw
        · have hw := hw.2 cb
          refine lv_aload_n hx hb dX2_canDraw_29 rfl (lv_at hl 0 rfl) ?_
          refine va_get (D := D) (ci := 2) (v := .ref h_lost) (C := RX2) (T := TX2) (N := 7) hx hb htg in_X2 hown X.1 hP 0 rfl rfl 4 (by decide) (htg _ mw_14) (fun _ h9 => h9) rfl dX2_canDraw_30 ?_
          refine lv_iload_n hx hb dX2_canDraw_33 rfl (lv_at hl 2 rfl) ?_
          obtain ⟨g, hw⟩ := hw
          refine va_zald hx hb X.1 hP 1 1 rfl rfl g dX2_canDraw_34 ?_
          refine lv_if_ne (tgt := 40) hx hb dX2_canDraw_35 (by decide) (fun cb => ?_) (fun cb => ?_)
          · have hw := hw.1 cb
            refine lv_iinc (v := t3 + 1) (lv' := [(3, .int (t3 + 1)), (0, .ref h0), (2, .int x2)]) hx hb dX2_canDraw_40 hl (k := 2) rfl rfl (by decide) rfl (fun ls hl => ?_)
            refine lv_goto (tgt := 24) hx hb dX2_canDraw_43 (by decide) ?_
            exact ih (t3 + 1) H locs ls hP hD hS (lv_sub hl [1, 2, 0] rfl) hw.1 (Nat.lt_of_lt_of_le hw.2 (Nat.le_of_lt_succ hlt))
          · have hw := hw.2 cb
            refine lv_iconst (v := 0) hx hb dX2_canDraw_38 (by decide) ?_
            exact hret (0 : Int32) H locs _ _ dX2_canDraw_39 (by decide) hP hD hS hw
    exact key (μ t3 + 1) t3 H locs ls hP hD hS hl hI0 (Nat.lt_succ_self _)
  have bk_18 : ∀  (H : Heap) (locs : List Loc) (ls : Array Slot), va_P D classes (w_X2_canDraw cI cZ h0 h_widths h_register h_levels h_owners h_lost h_rests f_strips a_lost) H → va_D A (w_X2_canDraw cI cZ h0 h_widths h_register h_levels h_owners h_lost h_rests f_strips a_lost) → va_S A s.heap H locs → lv_has ls 4 [] → wp_X2_canDraw_b18 a_lost x1 x2 Q → W p l e rm_X2_canDraw s m args below meth c H locs 0 0 Z (F0 m 18 ls []) := by
    intro   H locs ls hP hD hS hl hw
    delta wp_X2_canDraw_b18 at hw
    refine lv_iconst (v := 0) hx hb dX2_canDraw_18 (by decide) ?_
    exact hret (0 : Int32) H locs _ _ dX2_canDraw_19 (by decide) hP hD hS hw
  delta wp_X2_canDraw at hw
  refine lv_aload_n hx hb dX2_canDraw_0 rfl (lv_at hl 0 rfl) ?_
  refine va_get (D := D) (ci := 2) (v := .ref h_lost) (C := RX2) (T := TX2) (N := 7) hx hb htg in_X2 hown X.1 hP 0 rfl rfl 4 (by decide) (htg _ mw_14) (fun _ h9 => h9) rfl dX2_canDraw_1 ?_
  refine lv_iload_n hx hb dX2_canDraw_4 rfl (lv_at hl 1 rfl) ?_
  obtain ⟨g, hw⟩ := hw
  refine va_zald hx hb X.1 hP 1 1 rfl rfl g dX2_canDraw_5 ?_
  refine lv_if_ne (tgt := 18) hx hb dX2_canDraw_6 (by decide) (fun cb => ?_) (fun cb => ?_)
  · have hw := hw.1 cb
    exact bk_18  H locs ls hP hD hS (lv_sub hl [] rfl) hw
  · have hw := hw.2 cb
    refine lv_aload_n hx hb dX2_canDraw_9 rfl (lv_at hl 0 rfl) ?_
    refine va_get (D := D) (ci := 2) (v := .ref h_lost) (C := RX2) (T := TX2) (N := 7) hx hb htg in_X2 hown X.1 hP 0 rfl rfl 4 (by decide) (htg _ mw_14) (fun _ h9 => h9) rfl dX2_canDraw_10 ?_
    refine lv_iload_n hx hb dX2_canDraw_13 rfl (lv_at hl 2 rfl) ?_
    obtain ⟨g, hw⟩ := hw
    refine va_zald hx hb X.1 hP 1 1 rfl rfl g dX2_canDraw_14 ?_
    refine lv_if_eq (tgt := 20) hx hb dX2_canDraw_15 (by decide) (fun cb => ?_) (fun cb => ?_)
    · have hw := hw.1 cb
      refine lv_iload_n hx hb dX2_canDraw_20 rfl (lv_at hl 1 rfl) ?_
      refine lv_iconst (v := 1) hx hb dX2_canDraw_21 (by decide) ?_
      refine lv_iadd hx hb dX2_canDraw_22 ?_
      refine lv_istore_n (lv' := [(3, .int (x1 + (1 : Int32))), (0, .ref h0), (1, .int x1), (2, .int x2)]) hx hb dX2_canDraw_23 rfl hl (by decide) rfl (fun ls hl => ?_)
      exact bk_24 (x1 + (1 : Int32)) H locs ls hP hD hS (lv_sub hl [1, 3, 0] rfl) hw
    · have hw := hw.2 cb
      exact bk_18  H locs ls hP hD hS (lv_sub hl [] rfl) hw
set_option maxHeartbeats 40000000 in
set_option maxRecDepth 100000 in
theorem c_X2_canDraw (l : Launch) (D : va_G) (cI cZ : ClassId) (ad : (Nat → Nat) × (Nat → Nat)) (sz : Nat) (h0 : Nat) (h_widths : Nat) (h_register : Nat) (h_levels : Nat) (h_owners : Nat) (h_lost : Nat) (h_rests : Nat) (f_strips : Int32) (a_lost : (Nat → Int32)) (x1 : Int32) (x2 : Int32)  (Q : Int32 → Prop) (hw : wp_X2_canDraw a_lost x1 x2 Q) : Met l yX2_canDraw ((.code yX2_canDraw cX2_canDraw 4 (some .boolean)) :: gw) rm_X2_canDraw (va_Pc [.ref h0, .int x1, .int x2] (PC D cI cZ ad sz (w_X2_canDraw cI cZ h0 h_widths h_register h_levels h_owners h_lost h_rests f_strips a_lost))) (va_Qi (fun r (_ : Unit) => Q r) (PW D (va_A (w_X2_canDraw cI cZ h0 h_widths h_register h_levels h_owners h_lost h_rests f_strips a_lost) sz) (fun (_ : Unit) => (w_X2_canDraw cI cZ h0 h_widths h_register h_levels h_owners h_lost h_rests f_strips a_lost))) (va_A (w_X2_canDraw cI cZ h0 h_widths h_register h_levels h_owners h_lost h_rests f_strips a_lost) sz)) 0 0 (va_A (w_X2_canDraw cI cZ h0 h_widths h_register h_levels h_owners h_lost h_rests f_strips a_lost) sz) := by
  refine Met.ofW (cc := cX2_canDraw) (maxL := 4) (ret := (some .boolean)) (by decide) rfl ?_
  intro p e s m args below meth c s₁ B hml hv
  have hst := PC.start hv.2
  obtain ⟨ls, hfr, hl⟩ := en_fr (m := m) [.ref h0, .int x1, .int x2] 4 hv.1 (Nat.le_of_ble_eq_true rfl)
  rw [hfr]
  generalize va_A (w_X2_canDraw cI cZ h0 h_widths h_register h_levels h_owners h_lost h_rests f_strips a_lost) sz = A at hst ⊢
  obtain ⟨X, hP, hD⟩ := hst
  exact k_X2_canDraw B.exec B.bytes hml (findClass_of_methodNamed B.named) (atoms_spec (ws := (.code yX2_canDraw cX2_canDraw 4 (some .boolean)) :: gw) B.pre) X h0 h_widths h_register h_levels h_owners h_lost h_rests f_strips a_lost x1 x2 Q _ (fun r H locs pc ls hdg hz hP hD hS hw => rt_z () B.exec B.bytes B.returns B.notSynchronized hdg hz hP hD hS hw) s.heap [] ls hP hD va_S.rf hl hw
set_option maxHeartbeats 40000000 in
set_option maxRecDepth 100000 in
theorem k_X2_giveOneMore {p : Program} {l : Launch} {e : Env} {s : State} {m : MethodId} {args : Array Value} {below : List Frame} {meth : Method} {c : Code} {D : va_G} {cI cZ : ClassId} {ad : (Nat → Nat) × (Nat → Nat)} {A : Nat → Prop} (hx : p.tables.exec = Jvm.exec) (hb : c.code = cX2_giveOneMore) (hml : c.maxLocals = 5) (hown : s.vm.findClass RX2 = some m.cls) (hts : ∀ w ∈ (.code yX2_giveOneMore cX2_giveOneMore 5 none) :: gw, w.before args s = true) (X : CX D cI cZ ad A s) (h0 : Nat) (h_widths : Nat) (h_register : Nat) (h_levels : Nat) (h_owners : Nat) (h_lost : Nat) (h_rests : Nat) (f_strips : Int32) (a_widths : (Nat → Int32)) (a_rests : (Nat → Int32)) (x1 : Int32) (x2 : Int32)  (Q : (Nat → Int32) → (Nat → Int32) → Prop) (Z : State → Prop) (hret : ∀ (a_widths' : (Nat → Int32)) (a_rests' : (Nat → Int32))  (H : Heap) (locs : List Loc) (pc : Nat) (ls : Array Slot), decode cX2_giveOneMore pc = .ok (.return_, 1) → va_P D classes (w_X2_giveOneMore cI cZ h0 h_widths h_register h_levels h_owners h_lost h_rests f_strips a_widths' a_rests') H → va_D A (w_X2_giveOneMore cI cZ h0 h_widths h_register h_levels h_owners h_lost h_rests f_strips a_widths' a_rests') → va_S A s.heap H locs → Q a_widths' a_rests' → W p l e rm_X2_giveOneMore s m args below meth c H locs 0 0 Z (F0 m pc ls [])) (H : Heap) (locs : List Loc) (ls : Array Slot) (hP : va_P D classes (w_X2_giveOneMore cI cZ h0 h_widths h_register h_levels h_owners h_lost h_rests f_strips a_widths a_rests) H) (hD : va_D A (w_X2_giveOneMore cI cZ h0 h_widths h_register h_levels h_owners h_lost h_rests f_strips a_widths a_rests)) (hS : va_S A s.heap H locs) (hl : lv_has ls 5 [(0, .ref h0), (1, .int x1), (2, .int x2)]) (hw : wp_X2_giveOneMore a_widths a_rests x1 x2 Q) : W p l e rm_X2_giveOneMore s m args below meth c H locs 0 0 Z (F0 m 0 ls []) := by
  have htg : ∀ w ∈ gw, w.before args s = true := fun w h => hts w (gw_cons w h)
  have bk_32 : ∀ (B_7 : (Nat → Int32) → (Nat → Int32) → Int32 → Int32 → Prop) (hB_7 : ∀ (a_widths : (Nat → Int32)) (a_rests : (Nat → Int32)) (t3 : Int32) (t4 : Int32) (H : Heap) (locs : List Loc) (ls : Array Slot), va_P D classes (w_X2_giveOneMore cI cZ h0 h_widths h_register h_levels h_owners h_lost h_rests f_strips a_widths a_rests) H → va_D A (w_X2_giveOneMore cI cZ h0 h_widths h_register h_levels h_owners h_lost h_rests f_strips a_widths a_rests) → va_S A s.heap H locs → lv_has ls 5 [(0, .ref h0), (2, .int x2), (3, .int t3), (4, .int t4)] → B_7 a_widths a_rests t3 t4 → W p l e rm_X2_giveOneMore s m args below meth c H locs 0 0 Z (F0 m 7 ls [])), ∀ (a_widths : (Nat → Int32)) (a_rests : (Nat → Int32)) (t3 : Int32) (t4 : Int32) (H : Heap) (locs : List Loc) (ls : Array Slot), va_P D classes (w_X2_giveOneMore cI cZ h0 h_widths h_register h_levels h_owners h_lost h_rests f_strips a_widths a_rests) H → va_D A (w_X2_giveOneMore cI cZ h0 h_widths h_register h_levels h_owners h_lost h_rests f_strips a_widths a_rests) → va_S A s.heap H locs → lv_has ls 5 [(0, .ref h0), (2, .int x2), (3, .int t3), (4, .int t4)] → wp_X2_giveOneMore_b32 x1 x2 Q B_7 a_widths a_rests t3 t4 → W p l e rm_X2_giveOneMore s m args below meth c H locs 0 0 Z (F0 m 32 ls []) := by
    intro B_7 hB_7 a_widths a_rests t3 t4 H locs ls hP hD hS hl hw
    delta wp_X2_giveOneMore_b32 at hw
    refine lv_iinc (v := t4 + 1) (lv' := [(4, .int (t4 + 1)), (0, .ref h0), (2, .int x2), (3, .int t3)]) hx hb dX2_giveOneMore_32 hl (k := 3) rfl rfl (by decide) rfl (fun ls hl => ?_)
    refine lv_goto (tgt := 7) hx hb dX2_giveOneMore_35 (by decide) ?_
    exact hB_7 a_widths a_rests t3 (t4 + 1) H locs ls hP hD hS (lv_sub hl [1, 2, 3, 0] rfl) hw
  have bk_7 : ∀ (a_widths : (Nat → Int32)) (a_rests : (Nat → Int32)) (t3 : Int32) (t4 : Int32) (H : Heap) (locs : List Loc) (ls : Array Slot), va_P D classes (w_X2_giveOneMore cI cZ h0 h_widths h_register h_levels h_owners h_lost h_rests f_strips a_widths a_rests) H → va_D A (w_X2_giveOneMore cI cZ h0 h_widths h_register h_levels h_owners h_lost h_rests f_strips a_widths a_rests) → va_S A s.heap H locs → lv_has ls 5 [(0, .ref h0), (2, .int x2), (3, .int t3), (4, .int t4)] → wp_X2_giveOneMore_b7 x1 x2 Q a_widths a_rests t3 t4 → W p l e rm_X2_giveOneMore s m args below meth c H locs 0 0 Z (F0 m 7 ls []) := by
    intro  a_widths a_rests t3 t4 H locs ls hP hD hS hl hw
    delta wp_X2_giveOneMore_b7 at hw
    obtain ⟨I, μ, hI0, hst⟩ := hw
    have key : ∀ (n : Nat) (a_widths : (Nat → Int32)) (a_rests : (Nat → Int32)) (t3 : Int32) (t4 : Int32) (H : Heap) (locs : List Loc) (ls : Array Slot), va_P D classes (w_X2_giveOneMore cI cZ h0 h_widths h_register h_levels h_owners h_lost h_rests f_strips a_widths a_rests) H → va_D A (w_X2_giveOneMore cI cZ h0 h_widths h_register h_levels h_owners h_lost h_rests f_strips a_widths a_rests) → va_S A s.heap H locs → lv_has ls 5 [(0, .ref h0), (2, .int x2), (3, .int t3), (4, .int t4)] → I a_widths a_rests t3 t4 → μ a_widths a_rests t3 t4 < n → W p l e rm_X2_giveOneMore s m args below meth c H locs 0 0 Z (F0 m 7 ls []) := by
      intro n
      induction n with
      | zero => intro a_widths a_rests t3 t4 H locs ls hP hD hS hl hI hlt; exact absurd hlt (Nat.not_lt_zero _)
      | succ n ih =>
        intro a_widths a_rests t3 t4 H locs ls hP hD hS hl hI hlt
        have hw := hst a_widths a_rests t3 t4 hI
        refine lv_iload hx hb dX2_giveOneMore_7 (lv_at hl 3 rfl) ?_
        refine lv_iload_n hx hb dX2_giveOneMore_9 rfl (lv_at hl 1 rfl) ?_
        refine lv_icmp_ge (tgt := 38) hx hb dX2_giveOneMore_10 (by decide) (fun cb => ?_) (fun cb => ?_)
        · have hw := hw.1 cb
          refine lv_aload_n hx hb dX2_giveOneMore_38 rfl (lv_at hl 0 rfl) ?_
          refine va_get (D := D) (ci := 2) (v := .ref h_widths) (C := RX2) (T := TX2) (N := 7) hx hb htg in_X2 hown X.1 hP 0 rfl rfl 0 (by decide) (htg _ mw_9) (fun _ h9 => h9) rfl dX2_giveOneMore_39 ?_
          refine lv_iload_n hx hb dX2_giveOneMore_42 rfl (lv_at hl 2 rfl) ?_
          refine lv_dup2_11 hx hb dX2_giveOneMore_43 rfl rfl ?_
          obtain ⟨g, hw⟩ := hw
          refine va_iald hx hb X.1 hP 1 0 rfl rfl g dX2_giveOneMore_44 ?_
          refine lv_iconst (v := 1) hx hb dX2_giveOneMore_45 (by decide) ?_
          refine lv_iadd hx hb dX2_giveOneMore_46 ?_
          obtain ⟨g, hw⟩ := hw
          refine va_iast hx hb X.1 hP hD hS 1 0 rfl rfl g dX2_giveOneMore_47 (fun H locs hP hD hS => ?_)
          have hP : va_P D classes (w_X2_giveOneMore cI cZ h0 h_widths h_register h_levels h_owners h_lost h_rests f_strips (upd a_widths t3.toNatClampNeg ((a_widths t3.toNatClampNeg) + (1 : Int32))) a_rests) H := hP
          have hD : va_D A (w_X2_giveOneMore cI cZ h0 h_widths h_register h_levels h_owners h_lost h_rests f_strips (upd a_widths t3.toNatClampNeg ((a_widths t3.toNatClampNeg) + (1 : Int32))) a_rests) := hD
          refine lv_aload_n hx hb dX2_giveOneMore_48 rfl (lv_at hl 0 rfl) ?_
          refine va_get (D := D) (ci := 2) (v := .ref h_rests) (C := RX2) (T := TX2) (N := 7) hx hb htg in_X2 hown X.1 hP 0 rfl rfl 5 (by decide) (htg _ mw_15) (fun _ h9 => h9) rfl dX2_giveOneMore_49 ?_
          refine lv_iload_n hx hb dX2_giveOneMore_52 rfl (lv_at hl 2 rfl) ?_
          refine lv_iconst (v := -1) hx hb dX2_giveOneMore_53 (by decide) ?_
          obtain ⟨g, hw⟩ := hw
          refine va_iast hx hb X.1 hP hD hS 2 0 rfl rfl g dX2_giveOneMore_54 (fun H locs hP hD hS => ?_)
          have hP : va_P D classes (w_X2_giveOneMore cI cZ h0 h_widths h_register h_levels h_owners h_lost h_rests f_strips (upd a_widths t3.toNatClampNeg ((a_widths t3.toNatClampNeg) + (1 : Int32))) (upd a_rests t3.toNatClampNeg (-1 : Int32))) H := hP
          have hD : va_D A (w_X2_giveOneMore cI cZ h0 h_widths h_register h_levels h_owners h_lost h_rests f_strips (upd a_widths t3.toNatClampNeg ((a_widths t3.toNatClampNeg) + (1 : Int32))) (upd a_rests t3.toNatClampNeg (-1 : Int32))) := hD
          exact hret (upd a_widths t3.toNatClampNeg ((a_widths t3.toNatClampNeg) + (1 : Int32))) (upd a_rests t3.toNatClampNeg (-1 : Int32)) H locs _ _ dX2_giveOneMore_55 hP hD hS hw
        · have hw := hw.2 cb
          refine lv_aload_n hx hb dX2_giveOneMore_13 rfl (lv_at hl 0 rfl) ?_
          refine va_get (D := D) (ci := 2) (v := .ref h_rests) (C := RX2) (T := TX2) (N := 7) hx hb htg in_X2 hown X.1 hP 0 rfl rfl 5 (by decide) (htg _ mw_15) (fun _ h9 => h9) rfl dX2_giveOneMore_14 ?_
          refine lv_iload hx hb dX2_giveOneMore_17 (lv_at hl 3 rfl) ?_
          obtain ⟨g, hw⟩ := hw
          refine va_iald hx hb X.1 hP 2 0 rfl rfl g dX2_giveOneMore_19 ?_
          refine lv_aload_n hx hb dX2_giveOneMore_20 rfl (lv_at hl 0 rfl) ?_
          refine va_get (D := D) (ci := 2) (v := .ref h_rests) (C := RX2) (T := TX2) (N := 7) hx hb htg in_X2 hown X.1 hP 0 rfl rfl 5 (by decide) (htg _ mw_15) (fun _ h9 => h9) rfl dX2_giveOneMore_21 ?_
          refine lv_iload_n hx hb dX2_giveOneMore_24 rfl (lv_at hl 2 rfl) ?_
          obtain ⟨g, hw⟩ := hw
          refine va_iald hx hb X.1 hP 2 0 rfl rfl g dX2_giveOneMore_25 ?_
          refine lv_icmp_le (tgt := 32) hx hb dX2_giveOneMore_26 (by decide) (fun cb => ?_) (fun cb => ?_)
          · have hw := hw.1 cb
            exact bk_32 (fun (a_widths' : (Nat → Int32)) (a_rests' : (Nat → Int32)) (t3' : Int32) (t4' : Int32) => I a_widths' a_rests' t3' t4' ∧ μ a_widths' a_rests' t3' t4' < μ a_widths a_rests t3 t4) (fun a_widths' a_rests' t3' t4' H locs ls hP hD hS hl hb' => ih a_widths' a_rests' t3' t4' H locs ls hP hD hS hl hb'.1 (Nat.lt_of_lt_of_le hb'.2 (Nat.le_of_lt_succ hlt))) a_widths a_rests t3 t4 H locs ls hP hD hS (lv_sub hl [0, 1, 2, 3] rfl) hw
          · have hw := hw.2 cb
            refine lv_iload hx hb dX2_giveOneMore_29 (lv_at hl 3 rfl) ?_
            refine lv_istore_n (lv' := [(3, .int t4), (0, .ref h0), (2, .int x2), (4, .int t4)]) hx hb dX2_giveOneMore_31 rfl hl (by decide) rfl (fun ls hl => ?_)
            exact bk_32 (fun (a_widths' : (Nat → Int32)) (a_rests' : (Nat → Int32)) (t3' : Int32) (t4' : Int32) => I a_widths' a_rests' t3' t4' ∧ μ a_widths' a_rests' t3' t4' < μ a_widths a_rests t3 t4) (fun a_widths' a_rests' t3' t4' H locs ls hP hD hS hl hb' => ih a_widths' a_rests' t3' t4' H locs ls hP hD hS hl hb'.1 (Nat.lt_of_lt_of_le hb'.2 (Nat.le_of_lt_succ hlt))) a_widths a_rests t4 t4 H locs ls hP hD hS (lv_sub hl [1, 2, 0, 3] rfl) hw
    exact key (μ a_widths a_rests t3 t4 + 1) a_widths a_rests t3 t4 H locs ls hP hD hS hl hI0 (Nat.lt_succ_self _)
  delta wp_X2_giveOneMore at hw
  refine lv_iload_n hx hb dX2_giveOneMore_0 rfl (lv_at hl 1 rfl) ?_
  refine lv_istore_n (lv' := [(3, .int x1), (0, .ref h0), (1, .int x1), (2, .int x2)]) hx hb dX2_giveOneMore_1 rfl hl (by decide) rfl (fun ls hl => ?_)
  refine lv_iload_n hx hb dX2_giveOneMore_2 rfl (lv_at hl 2 rfl) ?_
  refine lv_iconst (v := 1) hx hb dX2_giveOneMore_3 (by decide) ?_
  refine lv_iadd hx hb dX2_giveOneMore_4 ?_
  refine lv_istore (lv' := [(4, .int (x1 + (1 : Int32))), (3, .int x1), (0, .ref h0), (1, .int x1), (2, .int x2)]) hx hb dX2_giveOneMore_5 hl (by decide) rfl (fun ls hl => ?_)
  exact bk_7 a_widths a_rests x1 (x1 + (1 : Int32)) H locs ls hP hD hS (lv_sub hl [2, 4, 1, 0] rfl) hw
set_option maxHeartbeats 40000000 in
set_option maxRecDepth 100000 in
theorem c_X2_giveOneMore (l : Launch) (D : va_G) (cI cZ : ClassId) (ad : (Nat → Nat) × (Nat → Nat)) (sz : Nat) (h0 : Nat) (h_widths : Nat) (h_register : Nat) (h_levels : Nat) (h_owners : Nat) (h_lost : Nat) (h_rests : Nat) (f_strips : Int32) (a_widths : (Nat → Int32)) (a_rests : (Nat → Int32)) (x1 : Int32) (x2 : Int32)  (Q : (Nat → Int32) → (Nat → Int32) → Prop) (hw : wp_X2_giveOneMore a_widths a_rests x1 x2 Q) : Met l yX2_giveOneMore ((.code yX2_giveOneMore cX2_giveOneMore 5 none) :: gw) rm_X2_giveOneMore (va_Pc [.ref h0, .int x1, .int x2] (PC D cI cZ ad sz (w_X2_giveOneMore cI cZ h0 h_widths h_register h_levels h_owners h_lost h_rests f_strips a_widths a_rests))) (va_Qv (fun (u : (Nat → Int32) × (Nat → Int32)) => Q u.1 u.2) (PW D (va_A (w_X2_giveOneMore cI cZ h0 h_widths h_register h_levels h_owners h_lost h_rests f_strips a_widths a_rests) sz) (fun (u : (Nat → Int32) × (Nat → Int32)) => (w_X2_giveOneMore cI cZ h0 h_widths h_register h_levels h_owners h_lost h_rests f_strips u.1 u.2))) (va_A (w_X2_giveOneMore cI cZ h0 h_widths h_register h_levels h_owners h_lost h_rests f_strips a_widths a_rests) sz)) 0 0 (va_A (w_X2_giveOneMore cI cZ h0 h_widths h_register h_levels h_owners h_lost h_rests f_strips a_widths a_rests) sz) := by
  refine Met.ofW (cc := cX2_giveOneMore) (maxL := 5) (ret := none) (by decide) rfl ?_
  intro p e s m args below meth c s₁ B hml hv
  have hst := PC.start hv.2
  obtain ⟨ls, hfr, hl⟩ := en_fr (m := m) [.ref h0, .int x1, .int x2] 5 hv.1 (Nat.le_of_ble_eq_true rfl)
  rw [hfr]
  generalize va_A (w_X2_giveOneMore cI cZ h0 h_widths h_register h_levels h_owners h_lost h_rests f_strips a_widths a_rests) sz = A at hst ⊢
  obtain ⟨X, hP, hD⟩ := hst
  exact k_X2_giveOneMore B.exec B.bytes hml (findClass_of_methodNamed B.named) (atoms_spec (ws := (.code yX2_giveOneMore cX2_giveOneMore 5 none) :: gw) B.pre) X h0 h_widths h_register h_levels h_owners h_lost h_rests f_strips a_widths a_rests x1 x2 Q _ (fun a_widths' a_rests' H locs pc ls hdg hP hD hS hw => rt_v (a_widths', a_rests') B.exec B.bytes B.returns B.notSynchronized hdg hP hD hS hw) s.heap [] ls hP hD va_S.rf hl hw
set_option maxHeartbeats 40000000 in
set_option maxRecDepth 100000 in
theorem k_X2_partRopes {p : Program} {l : Launch} {e : Env} {s : State} {m : MethodId} {args : Array Value} {below : List Frame} {meth : Method} {c : Code} {D : va_G} {cI cZ : ClassId} {ad : (Nat → Nat) × (Nat → Nat)} {A : Nat → Prop} (hx : p.tables.exec = Jvm.exec) (hb : c.code = cX2_partRopes) (hml : c.maxLocals = 8) (hown : s.vm.findClass RX2 = some m.cls) (hts : ∀ w ∈ (.code yX2_partRopes cX2_partRopes 8 none) :: gw, w.before args s = true) (X : CX D cI cZ ad A s) (h0 : Nat) (h_widths : Nat) (h_register : Nat) (h_levels : Nat) (h_owners : Nat) (h_lost : Nat) (h_rests : Nat) (f_strips : Int32) (a_widths : (Nat → Int32)) (a_register : (Nat → Int32)) (a_rests : (Nat → Int32)) (x1 : Int32) (x2 : Int32) (x3 : Int32)  (Q : (Nat → Int32) → (Nat → Int32) → Prop) (Z : State → Prop) (hret : ∀ (a_widths' : (Nat → Int32)) (a_rests' : (Nat → Int32))  (H : Heap) (locs : List Loc) (pc : Nat) (ls : Array Slot), decode cX2_partRopes pc = .ok (.return_, 1) → va_P D classes (w_X2_partRopes cI cZ h0 h_widths h_register h_levels h_owners h_lost h_rests f_strips a_widths' a_register a_rests') H → va_D A (w_X2_partRopes cI cZ h0 h_widths h_register h_levels h_owners h_lost h_rests f_strips a_widths' a_register a_rests') → va_S A s.heap H locs → Q a_widths' a_rests' → W p l e rm_X2_partRopes s m args below meth c H locs 0 0 Z (F0 m pc ls [])) (H : Heap) (locs : List Loc) (ls : Array Slot) (hP : va_P D classes (w_X2_partRopes cI cZ h0 h_widths h_register h_levels h_owners h_lost h_rests f_strips a_widths a_register a_rests) H) (hD : va_D A (w_X2_partRopes cI cZ h0 h_widths h_register h_levels h_owners h_lost h_rests f_strips a_widths a_register a_rests)) (hS : va_S A s.heap H locs) (hl : lv_has ls 8 [(0, .ref h0), (1, .int x1), (2, .int x2), (3, .int x3)]) (hw : wp_X2_partRopes a_widths a_register a_rests x1 x2 x3 Q) : W p l e rm_X2_partRopes s m args below meth c H locs 0 0 Z (F0 m 0 ls []) := by
  have htg : ∀ w ∈ gw, w.before args s = true := fun w h => hts w (gw_cons w h)
  have bk_104 : ∀ (a_widths : (Nat → Int32)) (a_rests : (Nat → Int32)) (t5 : Int32) (t6 : Int32) (H : Heap) (locs : List Loc) (ls : Array Slot), va_P D classes (w_X2_partRopes cI cZ h0 h_widths h_register h_levels h_owners h_lost h_rests f_strips a_widths a_register a_rests) H → va_D A (w_X2_partRopes cI cZ h0 h_widths h_register h_levels h_owners h_lost h_rests f_strips a_widths a_register a_rests) → va_S A s.heap H locs → lv_has ls 8 [(0, .ref h0), (1, .int x1), (2, .int x2), (5, .int t5), (6, .int t6)] → wp_X2_partRopes_b104 a_register x1 x2 x3 Q a_widths a_rests t5 t6 → W p l e rm_X2_partRopes s m args below meth c H locs 0 0 Z (F0 m 104 ls []) := by
    intro  a_widths a_rests t5 t6 H locs ls hP hD hS hl hw
    delta wp_X2_partRopes_b104 at hw
    obtain ⟨I, μ, hI0, hst⟩ := hw
    have key : ∀ (n : Nat) (a_widths : (Nat → Int32)) (a_rests : (Nat → Int32)) (t5 : Int32) (t6 : Int32) (H : Heap) (locs : List Loc) (ls : Array Slot), va_P D classes (w_X2_partRopes cI cZ h0 h_widths h_register h_levels h_owners h_lost h_rests f_strips a_widths a_register a_rests) H → va_D A (w_X2_partRopes cI cZ h0 h_widths h_register h_levels h_owners h_lost h_rests f_strips a_widths a_register a_rests) → va_S A s.heap H locs → lv_has ls 8 [(0, .ref h0), (1, .int x1), (2, .int x2), (5, .int t5), (6, .int t6)] → I a_widths a_rests t5 t6 → μ a_widths a_rests t5 t6 < n → W p l e rm_X2_partRopes s m args below meth c H locs 0 0 Z (F0 m 104 ls []) := by
      intro n
      induction n with
      | zero => intro a_widths a_rests t5 t6 H locs ls hP hD hS hl hI hlt; exact absurd hlt (Nat.not_lt_zero _)
      | succ n ih =>
        intro a_widths a_rests t5 t6 H locs ls hP hD hS hl hI hlt
        have hw := hst a_widths a_rests t5 t6 hI
        refine lv_iload hx hb dX2_partRopes_104 (lv_at hl 4 rfl) ?_
        refine lv_iload hx hb dX2_partRopes_106 (lv_at hl 3 rfl) ?_
        refine lv_icmp_ge (tgt := 123) hx hb dX2_partRopes_108 (by decide) (fun cb => ?_) (fun cb => ?_)
        · have hw := hw.1 cb
          exact hret a_widths a_rests H locs _ _ dX2_partRopes_123 hP hD hS hw
        · have hw := hw.2 cb
          refine lv_aload_n hx hb dX2_partRopes_111 rfl (lv_at hl 0 rfl) ?_
          refine lv_iload_n hx hb dX2_partRopes_112 rfl (lv_at hl 1 rfl) ?_
          refine lv_iload_n hx hb dX2_partRopes_113 rfl (lv_at hl 2 rfl) ?_
          refine cv_v (rest := []) (ws2 := fun (u : (Nat → Int32) × (Nat → Int32)) => (w_X2_partRopes cI cZ h0 h_widths h_register h_levels h_owners h_lost h_rests f_strips u.1 a_register u.2)) ⟨hx, hb, hml, hown, hts⟩ (c_X2_giveOneMore l D cI cZ ad H.size h0 h_widths h_register h_levels h_owners h_lost h_rests f_strips a_widths a_rests x1 x2 _ hw) (cwV 2 hts (gIV gw_cons mw_16 gy_X2_giveOneMore) rfl rfl rfl hd_X2_giveOneMore ⟨Nat.le_of_ble_eq_true rfl, Nat.le_of_ble_eq_true rfl⟩) X hP hD hS [0, 1, 3] [2] [1, 2, 0, 3] rfl rfl rfl rfl rfl rfl (fun u => rfl) 0 2 rfl rfl rfl (lv_sub hl [] rfl) rfl (Nat.le_of_ble_eq_true rfl) dX2_partRopes_114 ⟨Nat.zero_le _, Nat.zero_le _⟩ (fun u H locs hw hP hD hS => ?_)
          obtain ⟨a_widths_1, a_rests_2⟩ := u
          try dsimp only at hw
          have hP : va_P D classes (w_X2_partRopes cI cZ h0 h_widths h_register h_levels h_owners h_lost h_rests f_strips a_widths_1 a_register a_rests_2) H := hP
          have hD : va_D A (w_X2_partRopes cI cZ h0 h_widths h_register h_levels h_owners h_lost h_rests f_strips a_widths_1 a_register a_rests_2) := hD
          refine lv_iinc (v := t6 + 1) (lv' := [(6, .int (t6 + 1)), (0, .ref h0), (1, .int x1), (2, .int x2), (5, .int t5)]) hx hb dX2_partRopes_117 hl (k := 4) rfl rfl (by decide) rfl (fun ls hl => ?_)
          refine lv_goto (tgt := 104) hx hb dX2_partRopes_120 (by decide) ?_
          exact ih a_widths_1 a_rests_2 t5 (t6 + 1) H locs ls hP hD hS (lv_sub hl [1, 2, 3, 4, 0] rfl) hw.1 (Nat.lt_of_lt_of_le hw.2 (Nat.le_of_lt_succ hlt))
    exact key (μ a_widths a_rests t5 t6 + 1) a_widths a_rests t5 t6 H locs ls hP hD hS hl hI0 (Nat.lt_succ_self _)
  have bk_42 : ∀ (a_widths : (Nat → Int32)) (a_rests : (Nat → Int32)) (t4 : Int32) (t5 : Int32) (t6 : Int32) (H : Heap) (locs : List Loc) (ls : Array Slot), va_P D classes (w_X2_partRopes cI cZ h0 h_widths h_register h_levels h_owners h_lost h_rests f_strips a_widths a_register a_rests) H → va_D A (w_X2_partRopes cI cZ h0 h_widths h_register h_levels h_owners h_lost h_rests f_strips a_widths a_register a_rests) → va_S A s.heap H locs → lv_has ls 8 [(0, .ref h0), (1, .int x1), (2, .int x2), (3, .int x3), (4, .int t4), (5, .int t5), (6, .int t6)] → wp_X2_partRopes_b42 a_register x1 x2 x3 Q a_widths a_rests t4 t5 t6 → W p l e rm_X2_partRopes s m args below meth c H locs 0 0 Z (F0 m 42 ls []) := by
    intro  a_widths a_rests t4 t5 t6 H locs ls hP hD hS hl hw
    delta wp_X2_partRopes_b42 at hw
    obtain ⟨I, μ, hI0, hst⟩ := hw
    have key : ∀ (n : Nat) (a_widths : (Nat → Int32)) (a_rests : (Nat → Int32)) (t4 : Int32) (t5 : Int32) (t6 : Int32) (H : Heap) (locs : List Loc) (ls : Array Slot), va_P D classes (w_X2_partRopes cI cZ h0 h_widths h_register h_levels h_owners h_lost h_rests f_strips a_widths a_register a_rests) H → va_D A (w_X2_partRopes cI cZ h0 h_widths h_register h_levels h_owners h_lost h_rests f_strips a_widths a_register a_rests) → va_S A s.heap H locs → lv_has ls 8 [(0, .ref h0), (1, .int x1), (2, .int x2), (3, .int x3), (4, .int t4), (5, .int t5), (6, .int t6)] → I a_widths a_rests t4 t5 t6 → μ a_widths a_rests t4 t5 t6 < n → W p l e rm_X2_partRopes s m args below meth c H locs 0 0 Z (F0 m 42 ls []) := by
      intro n
      induction n with
      | zero => intro a_widths a_rests t4 t5 t6 H locs ls hP hD hS hl hI hlt; exact absurd hlt (Nat.not_lt_zero _)
      | succ n ih =>
        intro a_widths a_rests t4 t5 t6 H locs ls hP hD hS hl hI hlt
        have hw := hst a_widths a_rests t4 t5 t6 hI
        refine lv_iload hx hb dX2_partRopes_42 (lv_at hl 6 rfl) ?_
        refine lv_iload_n hx hb dX2_partRopes_44 rfl (lv_at hl 2 rfl) ?_
        refine lv_icmp_ge (tgt := 101) hx hb dX2_partRopes_45 (by decide) (fun cb => ?_) (fun cb => ?_)
        · have hw := hw.1 cb
          refine lv_iconst (v := 0) hx hb dX2_partRopes_101 (by decide) ?_
          refine lv_istore (lv' := [(6, .int (0 : Int32)), (0, .ref h0), (1, .int x1), (2, .int x2), (3, .int x3), (4, .int t4), (5, .int t5)]) hx hb dX2_partRopes_102 hl (by decide) rfl (fun ls hl => ?_)
          exact bk_104 a_widths a_rests t5 (0 : Int32) H locs ls hP hD hS (lv_sub hl [1, 2, 3, 6, 0] rfl) hw
        · have hw := hw.2 cb
          refine lv_iload_n hx hb dX2_partRopes_48 rfl (lv_at hl 3 rfl) ?_
          refine lv_aload_n hx hb dX2_partRopes_49 rfl (lv_at hl 0 rfl) ?_
          refine va_get (D := D) (ci := 2) (v := .ref h_register) (C := RX2) (T := TX2) (N := 7) hx hb htg in_X2 hown X.1 hP 0 rfl rfl 1 (by decide) (htg _ mw_11) (fun _ h9 => h9) rfl dX2_partRopes_50 ?_
          refine lv_iload hx hb dX2_partRopes_53 (lv_at hl 6 rfl) ?_
          obtain ⟨g, hw⟩ := hw
          refine va_iald hx hb X.1 hP 2 0 rfl rfl g dX2_partRopes_55 ?_
          refine lv_imul hx hb dX2_partRopes_56 ?_
          refine lv_istore (lv' := [(7, .int (x3 * (a_register t6.toNatClampNeg))), (0, .ref h0), (1, .int x1), (2, .int x2), (3, .int x3), (4, .int t4), (5, .int t5), (6, .int t6)]) hx hb dX2_partRopes_57 hl (by decide) rfl (fun ls hl => ?_)
          refine lv_aload_n hx hb dX2_partRopes_59 rfl (lv_at hl 1 rfl) ?_
          refine va_get (D := D) (ci := 2) (v := .ref h_widths) (C := RX2) (T := TX2) (N := 7) hx hb htg in_X2 hown X.1 hP 0 rfl rfl 0 (by decide) (htg _ mw_9) (fun _ h9 => h9) rfl dX2_partRopes_60 ?_
          refine lv_iload hx hb dX2_partRopes_63 (lv_at hl 7 rfl) ?_
          refine lv_iload hx hb dX2_partRopes_65 (lv_at hl 0 rfl) ?_
          refine lv_iload hx hb dX2_partRopes_67 (lv_at hl 5 rfl) ?_
          obtain ⟨g, hw⟩ := hw
          refine lv_idiv hx hb dX2_partRopes_69 g ?_
          obtain ⟨g, hw⟩ := hw
          refine va_iast hx hb X.1 hP hD hS 1 0 rfl rfl g dX2_partRopes_70 (fun H locs hP hD hS => ?_)
          have hP : va_P D classes (w_X2_partRopes cI cZ h0 h_widths h_register h_levels h_owners h_lost h_rests f_strips (upd a_widths t6.toNatClampNeg ((x3 * (a_register t6.toNatClampNeg)) / t4)) a_register a_rests) H := hP
          have hD : va_D A (w_X2_partRopes cI cZ h0 h_widths h_register h_levels h_owners h_lost h_rests f_strips (upd a_widths t6.toNatClampNeg ((x3 * (a_register t6.toNatClampNeg)) / t4)) a_register a_rests) := hD
          refine lv_aload_n hx hb dX2_partRopes_71 rfl (lv_at hl 1 rfl) ?_
          refine va_get (D := D) (ci := 2) (v := .ref h_rests) (C := RX2) (T := TX2) (N := 7) hx hb htg in_X2 hown X.1 hP 0 rfl rfl 5 (by decide) (htg _ mw_15) (fun _ h9 => h9) rfl dX2_partRopes_72 ?_
          refine lv_iload hx hb dX2_partRopes_75 (lv_at hl 7 rfl) ?_
          refine lv_iload hx hb dX2_partRopes_77 (lv_at hl 0 rfl) ?_
          refine lv_iload hx hb dX2_partRopes_79 (lv_at hl 5 rfl) ?_
          obtain ⟨g, hw⟩ := hw
          refine lv_irem hx hb dX2_partRopes_81 g ?_
          obtain ⟨g, hw⟩ := hw
          refine va_iast hx hb X.1 hP hD hS 3 0 rfl rfl g dX2_partRopes_82 (fun H locs hP hD hS => ?_)
          have hP : va_P D classes (w_X2_partRopes cI cZ h0 h_widths h_register h_levels h_owners h_lost h_rests f_strips (upd a_widths t6.toNatClampNeg ((x3 * (a_register t6.toNatClampNeg)) / t4)) a_register (upd a_rests t6.toNatClampNeg ((x3 * (a_register t6.toNatClampNeg)) - (x3 * (a_register t6.toNatClampNeg)) / t4 * t4))) H := hP
          have hD : va_D A (w_X2_partRopes cI cZ h0 h_widths h_register h_levels h_owners h_lost h_rests f_strips (upd a_widths t6.toNatClampNeg ((x3 * (a_register t6.toNatClampNeg)) / t4)) a_register (upd a_rests t6.toNatClampNeg ((x3 * (a_register t6.toNatClampNeg)) - (x3 * (a_register t6.toNatClampNeg)) / t4 * t4))) := hD
          refine lv_iload hx hb dX2_partRopes_83 (lv_at hl 6 rfl) ?_
          refine lv_aload_n hx hb dX2_partRopes_85 rfl (lv_at hl 1 rfl) ?_
          refine va_get (D := D) (ci := 2) (v := .ref h_widths) (C := RX2) (T := TX2) (N := 7) hx hb htg in_X2 hown X.1 hP 0 rfl rfl 0 (by decide) (htg _ mw_9) (fun _ h9 => h9) rfl dX2_partRopes_86 ?_
          refine lv_iload hx hb dX2_partRopes_89 (lv_at hl 7 rfl) ?_
          obtain ⟨g, hw⟩ := hw
          refine va_iald hx hb X.1 hP 1 0 rfl rfl g dX2_partRopes_91 ?_
          refine lv_isub hx hb dX2_partRopes_92 ?_
          refine lv_istore (lv' := [(5, .int (t5 - ((upd a_widths t6.toNatClampNeg ((x3 * (a_register t6.toNatClampNeg)) / t4)) t6.toNatClampNeg))), (7, .int (x3 * (a_register t6.toNatClampNeg))), (0, .ref h0), (1, .int x1), (2, .int x2), (3, .int x3), (4, .int t4), (6, .int t6)]) hx hb dX2_partRopes_93 hl (by decide) rfl (fun ls hl => ?_)
          refine lv_iinc (v := t6 + 1) (lv' := [(6, .int (t6 + 1)), (5, .int (t5 - ((upd a_widths t6.toNatClampNeg ((x3 * (a_register t6.toNatClampNeg)) / t4)) t6.toNatClampNeg))), (7, .int (x3 * (a_register t6.toNatClampNeg))), (0, .ref h0), (1, .int x1), (2, .int x2), (3, .int x3), (4, .int t4)]) hx hb dX2_partRopes_95 hl (k := 7) rfl rfl (by decide) rfl (fun ls hl => ?_)
          refine lv_goto (tgt := 42) hx hb dX2_partRopes_98 (by decide) ?_
          exact ih (upd a_widths t6.toNatClampNeg ((x3 * (a_register t6.toNatClampNeg)) / t4)) (upd a_rests t6.toNatClampNeg ((x3 * (a_register t6.toNatClampNeg)) - (x3 * (a_register t6.toNatClampNeg)) / t4 * t4)) t4 (t5 - ((upd a_widths t6.toNatClampNeg ((x3 * (a_register t6.toNatClampNeg)) / t4)) t6.toNatClampNeg)) (t6 + 1) H locs ls hP hD hS (lv_sub hl [3, 4, 5, 6, 7, 1, 0] rfl) hw.1 (Nat.lt_of_lt_of_le hw.2 (Nat.le_of_lt_succ hlt))
    exact key (μ a_widths a_rests t4 t5 t6 + 1) a_widths a_rests t4 t5 t6 H locs ls hP hD hS hl hI0 (Nat.lt_succ_self _)
  have bk_6 : ∀ (a_widths : (Nat → Int32)) (a_rests : (Nat → Int32)) (t4 : Int32) (t5 : Int32) (H : Heap) (locs : List Loc) (ls : Array Slot), va_P D classes (w_X2_partRopes cI cZ h0 h_widths h_register h_levels h_owners h_lost h_rests f_strips a_widths a_register a_rests) H → va_D A (w_X2_partRopes cI cZ h0 h_widths h_register h_levels h_owners h_lost h_rests f_strips a_widths a_register a_rests) → va_S A s.heap H locs → lv_has ls 8 [(0, .ref h0), (1, .int x1), (2, .int x2), (3, .int x3), (4, .int t4), (5, .int t5)] → wp_X2_partRopes_b6 a_register x1 x2 x3 Q a_widths a_rests t4 t5 → W p l e rm_X2_partRopes s m args below meth c H locs 0 0 Z (F0 m 6 ls []) := by
    intro  a_widths a_rests t4 t5 H locs ls hP hD hS hl hw
    delta wp_X2_partRopes_b6 at hw
    obtain ⟨I, μ, hI0, hst⟩ := hw
    have key : ∀ (n : Nat) (a_widths : (Nat → Int32)) (a_rests : (Nat → Int32)) (t4 : Int32) (t5 : Int32) (H : Heap) (locs : List Loc) (ls : Array Slot), va_P D classes (w_X2_partRopes cI cZ h0 h_widths h_register h_levels h_owners h_lost h_rests f_strips a_widths a_register a_rests) H → va_D A (w_X2_partRopes cI cZ h0 h_widths h_register h_levels h_owners h_lost h_rests f_strips a_widths a_register a_rests) → va_S A s.heap H locs → lv_has ls 8 [(0, .ref h0), (1, .int x1), (2, .int x2), (3, .int x3), (4, .int t4), (5, .int t5)] → I a_widths a_rests t4 t5 → μ a_widths a_rests t4 t5 < n → W p l e rm_X2_partRopes s m args below meth c H locs 0 0 Z (F0 m 6 ls []) := by
      intro n
      induction n with
      | zero => intro a_widths a_rests t4 t5 H locs ls hP hD hS hl hI hlt; exact absurd hlt (Nat.not_lt_zero _)
      | succ n ih =>
        intro a_widths a_rests t4 t5 H locs ls hP hD hS hl hI hlt
        have hw := hst a_widths a_rests t4 t5 hI
        refine lv_iload hx hb dX2_partRopes_6 (lv_at hl 5 rfl) ?_
        refine lv_iload_n hx hb dX2_partRopes_8 rfl (lv_at hl 2 rfl) ?_
        refine lv_icmp_ge (tgt := 30) hx hb dX2_partRopes_9 (by decide) (fun cb => ?_) (fun cb => ?_)
        · have hw := hw.1 cb
          refine lv_iload hx hb dX2_partRopes_30 (lv_at hl 4 rfl) ?_
          refine lv_if_gt (tgt := 36) hx hb dX2_partRopes_32 (by decide) (fun cb => ?_) (fun cb => ?_)
          · have hw := hw.1 cb
            refine lv_iload_n hx hb dX2_partRopes_36 rfl (lv_at hl 3 rfl) ?_
            refine lv_istore (lv' := [(5, .int x3), (0, .ref h0), (1, .int x1), (2, .int x2), (3, .int x3), (4, .int t4)]) hx hb dX2_partRopes_37 hl (by decide) rfl (fun ls hl => ?_)
            refine lv_iload_n hx hb dX2_partRopes_39 rfl (lv_at hl 2 rfl) ?_
            refine lv_istore (lv' := [(6, .int x1), (5, .int x3), (0, .ref h0), (1, .int x1), (2, .int x2), (3, .int x3), (4, .int t4)]) hx hb dX2_partRopes_40 hl (by decide) rfl (fun ls hl => ?_)
            exact bk_42 a_widths a_rests t4 x3 x1 H locs ls hP hD hS (lv_sub hl [2, 3, 4, 5, 6, 1, 0] rfl) hw
          · have hw := hw.2 cb
            exact hret a_widths a_rests H locs _ _ dX2_partRopes_35 hP hD hS hw
        · have hw := hw.2 cb
          refine lv_iload hx hb dX2_partRopes_12 (lv_at hl 4 rfl) ?_
          refine lv_aload_n hx hb dX2_partRopes_14 rfl (lv_at hl 0 rfl) ?_
          refine va_get (D := D) (ci := 2) (v := .ref h_register) (C := RX2) (T := TX2) (N := 7) hx hb htg in_X2 hown X.1 hP 0 rfl rfl 1 (by decide) (htg _ mw_11) (fun _ h9 => h9) rfl dX2_partRopes_15 ?_
          refine lv_iload hx hb dX2_partRopes_18 (lv_at hl 5 rfl) ?_
          obtain ⟨g, hw⟩ := hw
          refine va_iald hx hb X.1 hP 2 0 rfl rfl g dX2_partRopes_20 ?_
          refine lv_iadd hx hb dX2_partRopes_21 ?_
          refine lv_istore (lv' := [(4, .int (t4 + (a_register t5.toNatClampNeg))), (0, .ref h0), (1, .int x1), (2, .int x2), (3, .int x3), (5, .int t5)]) hx hb dX2_partRopes_22 hl (by decide) rfl (fun ls hl => ?_)
          refine lv_iinc (v := t5 + 1) (lv' := [(5, .int (t5 + 1)), (4, .int (t4 + (a_register t5.toNatClampNeg))), (0, .ref h0), (1, .int x1), (2, .int x2), (3, .int x3)]) hx hb dX2_partRopes_24 hl (k := 5) rfl rfl (by decide) rfl (fun ls hl => ?_)
          refine lv_goto (tgt := 6) hx hb dX2_partRopes_27 (by decide) ?_
          exact ih a_widths a_rests (t4 + (a_register t5.toNatClampNeg)) (t5 + 1) H locs ls hP hD hS (lv_sub hl [2, 3, 4, 5, 1, 0] rfl) hw.1 (Nat.lt_of_lt_of_le hw.2 (Nat.le_of_lt_succ hlt))
    exact key (μ a_widths a_rests t4 t5 + 1) a_widths a_rests t4 t5 H locs ls hP hD hS hl hI0 (Nat.lt_succ_self _)
  delta wp_X2_partRopes at hw
  refine lv_iconst (v := 0) hx hb dX2_partRopes_0 (by decide) ?_
  refine lv_istore (lv' := [(4, .int (0 : Int32)), (0, .ref h0), (1, .int x1), (2, .int x2), (3, .int x3)]) hx hb dX2_partRopes_1 hl (by decide) rfl (fun ls hl => ?_)
  refine lv_iload_n hx hb dX2_partRopes_3 rfl (lv_at hl 2 rfl) ?_
  refine lv_istore (lv' := [(5, .int x1), (4, .int (0 : Int32)), (0, .ref h0), (1, .int x1), (2, .int x2), (3, .int x3)]) hx hb dX2_partRopes_4 hl (by decide) rfl (fun ls hl => ?_)
  exact bk_6 a_widths a_rests (0 : Int32) x1 H locs ls hP hD hS (lv_sub hl [2, 3, 4, 5, 1, 0] rfl) hw
set_option maxHeartbeats 40000000 in
set_option maxRecDepth 100000 in
theorem c_X2_partRopes (l : Launch) (D : va_G) (cI cZ : ClassId) (ad : (Nat → Nat) × (Nat → Nat)) (sz : Nat) (h0 : Nat) (h_widths : Nat) (h_register : Nat) (h_levels : Nat) (h_owners : Nat) (h_lost : Nat) (h_rests : Nat) (f_strips : Int32) (a_widths : (Nat → Int32)) (a_register : (Nat → Int32)) (a_rests : (Nat → Int32)) (x1 : Int32) (x2 : Int32) (x3 : Int32)  (Q : (Nat → Int32) → (Nat → Int32) → Prop) (hw : wp_X2_partRopes a_widths a_register a_rests x1 x2 x3 Q) : Met l yX2_partRopes ((.code yX2_partRopes cX2_partRopes 8 none) :: gw) rm_X2_partRopes (va_Pc [.ref h0, .int x1, .int x2, .int x3] (PC D cI cZ ad sz (w_X2_partRopes cI cZ h0 h_widths h_register h_levels h_owners h_lost h_rests f_strips a_widths a_register a_rests))) (va_Qv (fun (u : (Nat → Int32) × (Nat → Int32)) => Q u.1 u.2) (PW D (va_A (w_X2_partRopes cI cZ h0 h_widths h_register h_levels h_owners h_lost h_rests f_strips a_widths a_register a_rests) sz) (fun (u : (Nat → Int32) × (Nat → Int32)) => (w_X2_partRopes cI cZ h0 h_widths h_register h_levels h_owners h_lost h_rests f_strips u.1 a_register u.2))) (va_A (w_X2_partRopes cI cZ h0 h_widths h_register h_levels h_owners h_lost h_rests f_strips a_widths a_register a_rests) sz)) 0 0 (va_A (w_X2_partRopes cI cZ h0 h_widths h_register h_levels h_owners h_lost h_rests f_strips a_widths a_register a_rests) sz) := by
  refine Met.ofW (cc := cX2_partRopes) (maxL := 8) (ret := none) (by decide) rfl ?_
  intro p e s m args below meth c s₁ B hml hv
  have hst := PC.start hv.2
  obtain ⟨ls, hfr, hl⟩ := en_fr (m := m) [.ref h0, .int x1, .int x2, .int x3] 8 hv.1 (Nat.le_of_ble_eq_true rfl)
  rw [hfr]
  generalize va_A (w_X2_partRopes cI cZ h0 h_widths h_register h_levels h_owners h_lost h_rests f_strips a_widths a_register a_rests) sz = A at hst ⊢
  obtain ⟨X, hP, hD⟩ := hst
  exact k_X2_partRopes B.exec B.bytes hml (findClass_of_methodNamed B.named) (atoms_spec (ws := (.code yX2_partRopes cX2_partRopes 8 none) :: gw) B.pre) X h0 h_widths h_register h_levels h_owners h_lost h_rests f_strips a_widths a_register a_rests x1 x2 x3 Q _ (fun a_widths' a_rests' H locs pc ls hdg hP hD hS hw => rt_v (a_widths', a_rests') B.exec B.bytes B.returns B.notSynchronized hdg hP hD hS hw) s.heap [] ls hP hD va_S.rf hl hw
set_option maxHeartbeats 40000000 in
set_option maxRecDepth 100000 in
theorem k_X2_setMarksBetween {p : Program} {l : Launch} {e : Env} {s : State} {m : MethodId} {args : Array Value} {below : List Frame} {meth : Method} {c : Code} {D : va_G} {cI cZ : ClassId} {ad : (Nat → Nat) × (Nat → Nat)} {A : Nat → Prop} (hx : p.tables.exec = Jvm.exec) (hb : c.code = cX2_setMarksBetween) (hml : c.maxLocals = 4) (hown : s.vm.findClass RX2 = some m.cls) (hts : ∀ w ∈ (.code yX2_setMarksBetween cX2_setMarksBetween 4 (some .int)) :: gw, w.before args s = true) (X : CX D cI cZ ad A s) (h0 : Nat) (h_widths : Nat) (h_register : Nat) (h_levels : Nat) (h_owners : Nat) (h_lost : Nat) (h_rests : Nat) (f_strips : Int32) (a_lost : (Nat → Int32)) (x1 : Int32) (x2 : Int32)  (Q : Int32 → (Nat → Int32) → Prop) (Z : State → Prop) (hret : ∀ (r : Int32) (a_lost' : (Nat → Int32))  (H : Heap) (locs : List Loc) (pc : Nat) (ls : Array Slot), decode cX2_setMarksBetween pc = .ok (.ireturn, 1) → va_P D classes (w_X2_setMarksBetween cI cZ h0 h_widths h_register h_levels h_owners h_lost h_rests f_strips a_lost') H → va_D A (w_X2_setMarksBetween cI cZ h0 h_widths h_register h_levels h_owners h_lost h_rests f_strips a_lost') → va_S A s.heap H locs → Q r a_lost' → W p l e rm_X2_setMarksBetween s m args below meth c H locs 0 0 Z (F0 m pc ls [.int r])) (H : Heap) (locs : List Loc) (ls : Array Slot) (hP : va_P D classes (w_X2_setMarksBetween cI cZ h0 h_widths h_register h_levels h_owners h_lost h_rests f_strips a_lost) H) (hD : va_D A (w_X2_setMarksBetween cI cZ h0 h_widths h_register h_levels h_owners h_lost h_rests f_strips a_lost)) (hS : va_S A s.heap H locs) (hl : lv_has ls 4 [(0, .ref h0), (1, .int x1), (2, .int x2)]) (hw : wp_X2_setMarksBetween a_lost x1 x2 Q) : W p l e rm_X2_setMarksBetween s m args below meth c H locs 0 0 Z (F0 m 0 ls []) := by
  have htg : ∀ w ∈ gw, w.before args s = true := fun w h => hts w (gw_cons w h)
  have bk_4 : ∀ (a_lost : (Nat → Int32)) (t3 : Int32) (H : Heap) (locs : List Loc) (ls : Array Slot), va_P D classes (w_X2_setMarksBetween cI cZ h0 h_widths h_register h_levels h_owners h_lost h_rests f_strips a_lost) H → va_D A (w_X2_setMarksBetween cI cZ h0 h_widths h_register h_levels h_owners h_lost h_rests f_strips a_lost) → va_S A s.heap H locs → lv_has ls 4 [(0, .ref h0), (1, .int x1), (2, .int x2), (3, .int t3)] → wp_X2_setMarksBetween_b4 x1 x2 Q a_lost t3 → W p l e rm_X2_setMarksBetween s m args below meth c H locs 0 0 Z (F0 m 4 ls []) := by
    intro  a_lost t3 H locs ls hP hD hS hl hw
    delta wp_X2_setMarksBetween_b4 at hw
    obtain ⟨I, μ, hI0, hst⟩ := hw
    have key : ∀ (n : Nat) (a_lost : (Nat → Int32)) (t3 : Int32) (H : Heap) (locs : List Loc) (ls : Array Slot), va_P D classes (w_X2_setMarksBetween cI cZ h0 h_widths h_register h_levels h_owners h_lost h_rests f_strips a_lost) H → va_D A (w_X2_setMarksBetween cI cZ h0 h_widths h_register h_levels h_owners h_lost h_rests f_strips a_lost) → va_S A s.heap H locs → lv_has ls 4 [(0, .ref h0), (1, .int x1), (2, .int x2), (3, .int t3)] → I a_lost t3 → μ a_lost t3 < n → W p l e rm_X2_setMarksBetween s m args below meth c H locs 0 0 Z (F0 m 4 ls []) := by
      intro n
      induction n with
      | zero => intro a_lost t3 H locs ls hP hD hS hl hI hlt; exact absurd hlt (Nat.not_lt_zero _)
      | succ n ih =>
        intro a_lost t3 H locs ls hP hD hS hl hI hlt
        have hw := hst a_lost t3 hI
        refine lv_iload_n hx hb dX2_setMarksBetween_4 rfl (lv_at hl 3 rfl) ?_
        refine lv_iload_n hx hb dX2_setMarksBetween_5 rfl (lv_at hl 2 rfl) ?_
        refine lv_icmp_ge (tgt := 22) hx hb dX2_setMarksBetween_6 (by decide) (fun cb => ?_) (fun cb => ?_)
        · have hw := hw.1 cb
          refine lv_iload_n hx hb dX2_setMarksBetween_22 rfl (lv_at hl 2 rfl) ?_
          refine lv_iload_n hx hb dX2_setMarksBetween_23 rfl (lv_at hl 1 rfl) ?_
          refine lv_isub hx hb dX2_setMarksBetween_24 ?_
          refine lv_iconst (v := 1) hx hb dX2_setMarksBetween_25 (by decide) ?_
          refine lv_isub hx hb dX2_setMarksBetween_26 ?_
          exact hret ((x2 - x1) - (1 : Int32)) a_lost H locs _ _ dX2_setMarksBetween_27 hP hD hS hw
        · have hw := hw.2 cb
          refine lv_aload_n hx hb dX2_setMarksBetween_9 rfl (lv_at hl 0 rfl) ?_
          refine va_get (D := D) (ci := 2) (v := .ref h_lost) (C := RX2) (T := TX2) (N := 7) hx hb htg in_X2 hown X.1 hP 0 rfl rfl 4 (by decide) (htg _ mw_14) (fun _ h9 => h9) rfl dX2_setMarksBetween_10 ?_
          refine lv_iload_n hx hb dX2_setMarksBetween_13 rfl (lv_at hl 3 rfl) ?_
          refine lv_iconst (v := 0) hx hb dX2_setMarksBetween_14 (by decide) ?_
          obtain ⟨g, hw⟩ := hw
          refine va_zast hx hb X.1 hP hD hS 1 1 rfl rfl g dX2_setMarksBetween_15 (fun H locs hP hD hS => ?_)
          rw [nar0] at hP hD
          have hP : va_P D classes (w_X2_setMarksBetween cI cZ h0 h_widths h_register h_levels h_owners h_lost h_rests f_strips (upd a_lost t3.toNatClampNeg (0 : Int32))) H := hP
          have hD : va_D A (w_X2_setMarksBetween cI cZ h0 h_widths h_register h_levels h_owners h_lost h_rests f_strips (upd a_lost t3.toNatClampNeg (0 : Int32))) := hD
          refine lv_iinc (v := t3 + 1) (lv' := [(3, .int (t3 + 1)), (0, .ref h0), (1, .int x1), (2, .int x2)]) hx hb dX2_setMarksBetween_16 hl (k := 3) rfl rfl (by decide) rfl (fun ls hl => ?_)
          refine lv_goto (tgt := 4) hx hb dX2_setMarksBetween_19 (by decide) ?_
          exact ih (upd a_lost t3.toNatClampNeg (0 : Int32)) (t3 + 1) H locs ls hP hD hS (lv_sub hl [1, 2, 3, 0] rfl) hw.1 (Nat.lt_of_lt_of_le hw.2 (Nat.le_of_lt_succ hlt))
    exact key (μ a_lost t3 + 1) a_lost t3 H locs ls hP hD hS hl hI0 (Nat.lt_succ_self _)
  delta wp_X2_setMarksBetween at hw
  refine lv_iload_n hx hb dX2_setMarksBetween_0 rfl (lv_at hl 1 rfl) ?_
  refine lv_iconst (v := 1) hx hb dX2_setMarksBetween_1 (by decide) ?_
  refine lv_iadd hx hb dX2_setMarksBetween_2 ?_
  refine lv_istore_n (lv' := [(3, .int (x1 + (1 : Int32))), (0, .ref h0), (1, .int x1), (2, .int x2)]) hx hb dX2_setMarksBetween_3 rfl hl (by decide) rfl (fun ls hl => ?_)
  exact bk_4 a_lost (x1 + (1 : Int32)) H locs ls hP hD hS (lv_sub hl [1, 2, 3, 0] rfl) hw
set_option maxHeartbeats 40000000 in
set_option maxRecDepth 100000 in
theorem c_X2_setMarksBetween (l : Launch) (D : va_G) (cI cZ : ClassId) (ad : (Nat → Nat) × (Nat → Nat)) (sz : Nat) (h0 : Nat) (h_widths : Nat) (h_register : Nat) (h_levels : Nat) (h_owners : Nat) (h_lost : Nat) (h_rests : Nat) (f_strips : Int32) (a_lost : (Nat → Int32)) (x1 : Int32) (x2 : Int32)  (Q : Int32 → (Nat → Int32) → Prop) (hw : wp_X2_setMarksBetween a_lost x1 x2 Q) : Met l yX2_setMarksBetween ((.code yX2_setMarksBetween cX2_setMarksBetween 4 (some .int)) :: gw) rm_X2_setMarksBetween (va_Pc [.ref h0, .int x1, .int x2] (PC D cI cZ ad sz (w_X2_setMarksBetween cI cZ h0 h_widths h_register h_levels h_owners h_lost h_rests f_strips a_lost))) (va_Qi (fun r (u : (Nat → Int32)) => Q r u) (PW D (va_A (w_X2_setMarksBetween cI cZ h0 h_widths h_register h_levels h_owners h_lost h_rests f_strips a_lost) sz) (fun (u : (Nat → Int32)) => (w_X2_setMarksBetween cI cZ h0 h_widths h_register h_levels h_owners h_lost h_rests f_strips u))) (va_A (w_X2_setMarksBetween cI cZ h0 h_widths h_register h_levels h_owners h_lost h_rests f_strips a_lost) sz)) 0 0 (va_A (w_X2_setMarksBetween cI cZ h0 h_widths h_register h_levels h_owners h_lost h_rests f_strips a_lost) sz) := by
  refine Met.ofW (cc := cX2_setMarksBetween) (maxL := 4) (ret := (some .int)) (by decide) rfl ?_
  intro p e s m args below meth c s₁ B hml hv
  have hst := PC.start hv.2
  obtain ⟨ls, hfr, hl⟩ := en_fr (m := m) [.ref h0, .int x1, .int x2] 4 hv.1 (Nat.le_of_ble_eq_true rfl)
  rw [hfr]
  generalize va_A (w_X2_setMarksBetween cI cZ h0 h_widths h_register h_levels h_owners h_lost h_rests f_strips a_lost) sz = A at hst ⊢
  obtain ⟨X, hP, hD⟩ := hst
  exact k_X2_setMarksBetween B.exec B.bytes hml (findClass_of_methodNamed B.named) (atoms_spec (ws := (.code yX2_setMarksBetween cX2_setMarksBetween 4 (some .int)) :: gw) B.pre) X h0 h_widths h_register h_levels h_owners h_lost h_rests f_strips a_lost x1 x2 Q _ (fun r a_lost' H locs pc ls hdg hP hD hS hw => rt_i (a_lost') B.exec B.bytes B.returns B.notSynchronized hdg hP hD hS hw) s.heap [] ls hP hD va_S.rf hl hw
set_option maxHeartbeats 40000000 in
set_option maxRecDepth 100000 in
theorem k_X2_lostMarks {p : Program} {l : Launch} {e : Env} {s : State} {m : MethodId} {args : Array Value} {below : List Frame} {meth : Method} {c : Code} {D : va_G} {cI cZ : ClassId} {ad : (Nat → Nat) × (Nat → Nat)} {A : Nat → Prop} (hx : p.tables.exec = Jvm.exec) (hb : c.code = cX2_lostMarks) (hml : c.maxLocals = 3) (hown : s.vm.findClass RX2 = some m.cls) (hts : ∀ w ∈ (.code yX2_lostMarks cX2_lostMarks 3 (some .int)) :: gw, w.before args s = true) (X : CX D cI cZ ad A s) (h0 : Nat) (h_widths : Nat) (h_register : Nat) (h_levels : Nat) (h_owners : Nat) (h_lost : Nat) (h_rests : Nat) (f_strips : Int32) (a_lost : (Nat → Int32))  (Q : Int32 → Prop) (Z : State → Prop) (hret : ∀ (r : Int32)   (H : Heap) (locs : List Loc) (pc : Nat) (ls : Array Slot), decode cX2_lostMarks pc = .ok (.ireturn, 1) → va_P D classes (w_X2_lostMarks cI cZ h0 h_widths h_register h_levels h_owners h_lost h_rests f_strips a_lost) H → va_D A (w_X2_lostMarks cI cZ h0 h_widths h_register h_levels h_owners h_lost h_rests f_strips a_lost) → va_S A s.heap H locs → Q r  → W p l e rm_X2_lostMarks s m args below meth c H locs 0 0 Z (F0 m pc ls [.int r])) (H : Heap) (locs : List Loc) (ls : Array Slot) (hP : va_P D classes (w_X2_lostMarks cI cZ h0 h_widths h_register h_levels h_owners h_lost h_rests f_strips a_lost) H) (hD : va_D A (w_X2_lostMarks cI cZ h0 h_widths h_register h_levels h_owners h_lost h_rests f_strips a_lost)) (hS : va_S A s.heap H locs) (hl : lv_has ls 3 [(0, .ref h0)]) (hw : wp_X2_lostMarks f_strips a_lost Q) : W p l e rm_X2_lostMarks s m args below meth c H locs 0 0 Z (F0 m 0 ls []) := by
  have htg : ∀ w ∈ gw, w.before args s = true := fun w h => hts w (gw_cons w h)
  have bk_24 : ∀ (B_4 : Int32 → Int32 → Prop) (hB_4 : ∀ (t1 : Int32) (t2 : Int32) (H : Heap) (locs : List Loc) (ls : Array Slot), va_P D classes (w_X2_lostMarks cI cZ h0 h_widths h_register h_levels h_owners h_lost h_rests f_strips a_lost) H → va_D A (w_X2_lostMarks cI cZ h0 h_widths h_register h_levels h_owners h_lost h_rests f_strips a_lost) → va_S A s.heap H locs → lv_has ls 3 [(0, .ref h0), (1, .int t1), (2, .int t2)] → B_4 t1 t2 → W p l e rm_X2_lostMarks s m args below meth c H locs 0 0 Z (F0 m 4 ls [])), ∀ (t1 : Int32) (t2 : Int32) (H : Heap) (locs : List Loc) (ls : Array Slot), va_P D classes (w_X2_lostMarks cI cZ h0 h_widths h_register h_levels h_owners h_lost h_rests f_strips a_lost) H → va_D A (w_X2_lostMarks cI cZ h0 h_widths h_register h_levels h_owners h_lost h_rests f_strips a_lost) → va_S A s.heap H locs → lv_has ls 3 [(0, .ref h0), (1, .int t1), (2, .int t2)] → wp_X2_lostMarks_b24 f_strips a_lost Q B_4 t1 t2 → W p l e rm_X2_lostMarks s m args below meth c H locs 0 0 Z (F0 m 24 ls []) := by
    intro B_4 hB_4 t1 t2 H locs ls hP hD hS hl hw
    delta wp_X2_lostMarks_b24 at hw
    refine lv_iinc (v := t2 + 1) (lv' := [(2, .int (t2 + 1)), (0, .ref h0), (1, .int t1)]) hx hb dX2_lostMarks_24 hl (k := 2) rfl rfl (by decide) rfl (fun ls hl => ?_)
    refine lv_goto (tgt := 4) hx hb dX2_lostMarks_27 (by decide) ?_
    exact hB_4 t1 (t2 + 1) H locs ls hP hD hS (lv_sub hl [1, 2, 0] rfl) hw
  have bk_4 : ∀ (t1 : Int32) (t2 : Int32) (H : Heap) (locs : List Loc) (ls : Array Slot), va_P D classes (w_X2_lostMarks cI cZ h0 h_widths h_register h_levels h_owners h_lost h_rests f_strips a_lost) H → va_D A (w_X2_lostMarks cI cZ h0 h_widths h_register h_levels h_owners h_lost h_rests f_strips a_lost) → va_S A s.heap H locs → lv_has ls 3 [(0, .ref h0), (1, .int t1), (2, .int t2)] → wp_X2_lostMarks_b4 f_strips a_lost Q t1 t2 → W p l e rm_X2_lostMarks s m args below meth c H locs 0 0 Z (F0 m 4 ls []) := by
    intro  t1 t2 H locs ls hP hD hS hl hw
    delta wp_X2_lostMarks_b4 at hw
    obtain ⟨I, μ, hI0, hst⟩ := hw
    have key : ∀ (n : Nat) (t1 : Int32) (t2 : Int32) (H : Heap) (locs : List Loc) (ls : Array Slot), va_P D classes (w_X2_lostMarks cI cZ h0 h_widths h_register h_levels h_owners h_lost h_rests f_strips a_lost) H → va_D A (w_X2_lostMarks cI cZ h0 h_widths h_register h_levels h_owners h_lost h_rests f_strips a_lost) → va_S A s.heap H locs → lv_has ls 3 [(0, .ref h0), (1, .int t1), (2, .int t2)] → I t1 t2 → μ t1 t2 < n → W p l e rm_X2_lostMarks s m args below meth c H locs 0 0 Z (F0 m 4 ls []) := by
      intro n
      induction n with
      | zero => intro t1 t2 H locs ls hP hD hS hl hI hlt; exact absurd hlt (Nat.not_lt_zero _)
      | succ n ih =>
        intro t1 t2 H locs ls hP hD hS hl hI hlt
        have hw := hst t1 t2 hI
        refine lv_iload_n hx hb dX2_lostMarks_4 rfl (lv_at hl 2 rfl) ?_
        refine lv_aload_n hx hb dX2_lostMarks_5 rfl (lv_at hl 0 rfl) ?_
        refine va_get (D := D) (ci := 2) (v := .int f_strips) (C := RX2) (T := TX2) (N := 7) hx hb htg in_X2 hown X.1 hP 0 rfl rfl 6 (by decide) (htg _ mw_10) (fun _ h9 => h9) rfl dX2_lostMarks_6 ?_
        refine lv_icmp_gt (tgt := 30) hx hb dX2_lostMarks_9 (by decide) (fun cb => ?_) (fun cb => ?_)
        · have hw := hw.1 cb
          refine lv_iload_n hx hb dX2_lostMarks_30 rfl (lv_at hl 1 rfl) ?_
          exact hret t1 H locs _ _ dX2_lostMarks_31 hP hD hS hw
        · have hw := hw.2 cb
          refine lv_aload_n hx hb dX2_lostMarks_12 rfl (lv_at hl 0 rfl) ?_
          refine va_get (D := D) (ci := 2) (v := .ref h_lost) (C := RX2) (T := TX2) (N := 7) hx hb htg in_X2 hown X.1 hP 0 rfl rfl 4 (by decide) (htg _ mw_14) (fun _ h9 => h9) rfl dX2_lostMarks_13 ?_
          refine lv_iload_n hx hb dX2_lostMarks_16 rfl (lv_at hl 2 rfl) ?_
          obtain ⟨g, hw⟩ := hw
          refine va_zald hx hb X.1 hP 1 1 rfl rfl g dX2_lostMarks_17 ?_
          refine lv_if_eq (tgt := 24) hx hb dX2_lostMarks_18 (by decide) (fun cb => ?_) (fun cb => ?_)
          · have hw := hw.1 cb
            exact bk_24 (fun (t1' : Int32) (t2' : Int32) => I t1' t2' ∧ μ t1' t2' < μ t1 t2) (fun t1' t2' H locs ls hP hD hS hl hb' => ih t1' t2' H locs ls hP hD hS hl hb'.1 (Nat.lt_of_lt_of_le hb'.2 (Nat.le_of_lt_succ hlt))) t1 t2 H locs ls hP hD hS (lv_sub hl [0, 1, 2] rfl) hw
          · have hw := hw.2 cb
            refine lv_iinc (v := t1 + 1) (lv' := [(1, .int (t1 + 1)), (0, .ref h0), (2, .int t2)]) hx hb dX2_lostMarks_21 hl (k := 1) rfl rfl (by decide) rfl (fun ls hl => ?_)
            exact bk_24 (fun (t1' : Int32) (t2' : Int32) => I t1' t2' ∧ μ t1' t2' < μ t1 t2) (fun t1' t2' H locs ls hP hD hS hl hb' => ih t1' t2' H locs ls hP hD hS hl hb'.1 (Nat.lt_of_lt_of_le hb'.2 (Nat.le_of_lt_succ hlt))) (t1 + 1) t2 H locs ls hP hD hS (lv_sub hl [1, 0, 2] rfl) hw
    exact key (μ t1 t2 + 1) t1 t2 H locs ls hP hD hS hl hI0 (Nat.lt_succ_self _)
  delta wp_X2_lostMarks at hw
  refine lv_iconst (v := 0) hx hb dX2_lostMarks_0 (by decide) ?_
  refine lv_istore_n (lv' := [(1, .int (0 : Int32)), (0, .ref h0)]) hx hb dX2_lostMarks_1 rfl hl (by decide) rfl (fun ls hl => ?_)
  refine lv_iconst (v := 0) hx hb dX2_lostMarks_2 (by decide) ?_
  refine lv_istore_n (lv' := [(2, .int (0 : Int32)), (1, .int (0 : Int32)), (0, .ref h0)]) hx hb dX2_lostMarks_3 rfl hl (by decide) rfl (fun ls hl => ?_)
  exact bk_4 (0 : Int32) (0 : Int32) H locs ls hP hD hS (lv_sub hl [2, 1, 0] rfl) hw
set_option maxHeartbeats 40000000 in
set_option maxRecDepth 100000 in
theorem c_X2_lostMarks (l : Launch) (D : va_G) (cI cZ : ClassId) (ad : (Nat → Nat) × (Nat → Nat)) (sz : Nat) (h0 : Nat) (h_widths : Nat) (h_register : Nat) (h_levels : Nat) (h_owners : Nat) (h_lost : Nat) (h_rests : Nat) (f_strips : Int32) (a_lost : (Nat → Int32))  (Q : Int32 → Prop) (hw : wp_X2_lostMarks f_strips a_lost Q) : Met l yX2_lostMarks ((.code yX2_lostMarks cX2_lostMarks 3 (some .int)) :: gw) rm_X2_lostMarks (va_Pc [.ref h0] (PC D cI cZ ad sz (w_X2_lostMarks cI cZ h0 h_widths h_register h_levels h_owners h_lost h_rests f_strips a_lost))) (va_Qi (fun r (_ : Unit) => Q r) (PW D (va_A (w_X2_lostMarks cI cZ h0 h_widths h_register h_levels h_owners h_lost h_rests f_strips a_lost) sz) (fun (_ : Unit) => (w_X2_lostMarks cI cZ h0 h_widths h_register h_levels h_owners h_lost h_rests f_strips a_lost))) (va_A (w_X2_lostMarks cI cZ h0 h_widths h_register h_levels h_owners h_lost h_rests f_strips a_lost) sz)) 0 0 (va_A (w_X2_lostMarks cI cZ h0 h_widths h_register h_levels h_owners h_lost h_rests f_strips a_lost) sz) := by
  refine Met.ofW (cc := cX2_lostMarks) (maxL := 3) (ret := (some .int)) (by decide) rfl ?_
  intro p e s m args below meth c s₁ B hml hv
  have hst := PC.start hv.2
  obtain ⟨ls, hfr, hl⟩ := en_fr (m := m) [.ref h0] 3 hv.1 (Nat.le_of_ble_eq_true rfl)
  rw [hfr]
  generalize va_A (w_X2_lostMarks cI cZ h0 h_widths h_register h_levels h_owners h_lost h_rests f_strips a_lost) sz = A at hst ⊢
  obtain ⟨X, hP, hD⟩ := hst
  exact k_X2_lostMarks B.exec B.bytes hml (findClass_of_methodNamed B.named) (atoms_spec (ws := (.code yX2_lostMarks cX2_lostMarks 3 (some .int)) :: gw) B.pre) X h0 h_widths h_register h_levels h_owners h_lost h_rests f_strips a_lost Q _ (fun r H locs pc ls hdg hP hD hS hw => rt_i () B.exec B.bytes B.returns B.notSynchronized hdg hP hD hS hw) s.heap [] ls hP hD va_S.rf hl hw
set_option maxHeartbeats 40000000 in
set_option maxRecDepth 100000 in
theorem k_X2_allWidths {p : Program} {l : Launch} {e : Env} {s : State} {m : MethodId} {args : Array Value} {below : List Frame} {meth : Method} {c : Code} {D : va_G} {cI cZ : ClassId} {ad : (Nat → Nat) × (Nat → Nat)} {A : Nat → Prop} (hx : p.tables.exec = Jvm.exec) (hb : c.code = cX2_allWidths) (hml : c.maxLocals = 3) (hown : s.vm.findClass RX2 = some m.cls) (hts : ∀ w ∈ (.code yX2_allWidths cX2_allWidths 3 (some .int)) :: gw, w.before args s = true) (X : CX D cI cZ ad A s) (h0 : Nat) (h_widths : Nat) (h_register : Nat) (h_levels : Nat) (h_owners : Nat) (h_lost : Nat) (h_rests : Nat) (f_strips : Int32) (a_widths : (Nat → Int32))  (Q : Int32 → Prop) (Z : State → Prop) (hret : ∀ (r : Int32)   (H : Heap) (locs : List Loc) (pc : Nat) (ls : Array Slot), decode cX2_allWidths pc = .ok (.ireturn, 1) → va_P D classes (w_X2_allWidths cI cZ h0 h_widths h_register h_levels h_owners h_lost h_rests f_strips a_widths) H → va_D A (w_X2_allWidths cI cZ h0 h_widths h_register h_levels h_owners h_lost h_rests f_strips a_widths) → va_S A s.heap H locs → Q r  → W p l e rm_X2_allWidths s m args below meth c H locs 0 0 Z (F0 m pc ls [.int r])) (H : Heap) (locs : List Loc) (ls : Array Slot) (hP : va_P D classes (w_X2_allWidths cI cZ h0 h_widths h_register h_levels h_owners h_lost h_rests f_strips a_widths) H) (hD : va_D A (w_X2_allWidths cI cZ h0 h_widths h_register h_levels h_owners h_lost h_rests f_strips a_widths)) (hS : va_S A s.heap H locs) (hl : lv_has ls 3 [(0, .ref h0)]) (hw : wp_X2_allWidths f_strips a_widths Q) : W p l e rm_X2_allWidths s m args below meth c H locs 0 0 Z (F0 m 0 ls []) := by
  have htg : ∀ w ∈ gw, w.before args s = true := fun w h => hts w (gw_cons w h)
  have bk_4 : ∀ (t1 : Int32) (t2 : Int32) (H : Heap) (locs : List Loc) (ls : Array Slot), va_P D classes (w_X2_allWidths cI cZ h0 h_widths h_register h_levels h_owners h_lost h_rests f_strips a_widths) H → va_D A (w_X2_allWidths cI cZ h0 h_widths h_register h_levels h_owners h_lost h_rests f_strips a_widths) → va_S A s.heap H locs → lv_has ls 3 [(0, .ref h0), (1, .int t1), (2, .int t2)] → wp_X2_allWidths_b4 f_strips a_widths Q t1 t2 → W p l e rm_X2_allWidths s m args below meth c H locs 0 0 Z (F0 m 4 ls []) := by
    intro  t1 t2 H locs ls hP hD hS hl hw
    delta wp_X2_allWidths_b4 at hw
    obtain ⟨I, μ, hI0, hst⟩ := hw
    have key : ∀ (n : Nat) (t1 : Int32) (t2 : Int32) (H : Heap) (locs : List Loc) (ls : Array Slot), va_P D classes (w_X2_allWidths cI cZ h0 h_widths h_register h_levels h_owners h_lost h_rests f_strips a_widths) H → va_D A (w_X2_allWidths cI cZ h0 h_widths h_register h_levels h_owners h_lost h_rests f_strips a_widths) → va_S A s.heap H locs → lv_has ls 3 [(0, .ref h0), (1, .int t1), (2, .int t2)] → I t1 t2 → μ t1 t2 < n → W p l e rm_X2_allWidths s m args below meth c H locs 0 0 Z (F0 m 4 ls []) := by
      intro n
      induction n with
      | zero => intro t1 t2 H locs ls hP hD hS hl hI hlt; exact absurd hlt (Nat.not_lt_zero _)
      | succ n ih =>
        intro t1 t2 H locs ls hP hD hS hl hI hlt
        have hw := hst t1 t2 hI
        refine lv_iload_n hx hb dX2_allWidths_4 rfl (lv_at hl 2 rfl) ?_
        refine lv_aload_n hx hb dX2_allWidths_5 rfl (lv_at hl 0 rfl) ?_
        refine va_get (D := D) (ci := 2) (v := .int f_strips) (C := RX2) (T := TX2) (N := 7) hx hb htg in_X2 hown X.1 hP 0 rfl rfl 6 (by decide) (htg _ mw_10) (fun _ h9 => h9) rfl dX2_allWidths_6 ?_
        refine lv_icmp_ge (tgt := 27) hx hb dX2_allWidths_9 (by decide) (fun cb => ?_) (fun cb => ?_)
        · have hw := hw.1 cb
          refine lv_iload_n hx hb dX2_allWidths_27 rfl (lv_at hl 1 rfl) ?_
          exact hret t1 H locs _ _ dX2_allWidths_28 hP hD hS hw
        · have hw := hw.2 cb
          refine lv_iload_n hx hb dX2_allWidths_12 rfl (lv_at hl 1 rfl) ?_
          refine lv_aload_n hx hb dX2_allWidths_13 rfl (lv_at hl 0 rfl) ?_
          refine va_get (D := D) (ci := 2) (v := .ref h_widths) (C := RX2) (T := TX2) (N := 7) hx hb htg in_X2 hown X.1 hP 0 rfl rfl 0 (by decide) (htg _ mw_9) (fun _ h9 => h9) rfl dX2_allWidths_14 ?_
          refine lv_iload_n hx hb dX2_allWidths_17 rfl (lv_at hl 2 rfl) ?_
          obtain ⟨g, hw⟩ := hw
          refine va_iald hx hb X.1 hP 1 0 rfl rfl g dX2_allWidths_18 ?_
          refine lv_iadd hx hb dX2_allWidths_19 ?_
          refine lv_istore_n (lv' := [(1, .int (t1 + (a_widths t2.toNatClampNeg))), (0, .ref h0), (2, .int t2)]) hx hb dX2_allWidths_20 rfl hl (by decide) rfl (fun ls hl => ?_)
          refine lv_iinc (v := t2 + 1) (lv' := [(2, .int (t2 + 1)), (1, .int (t1 + (a_widths t2.toNatClampNeg))), (0, .ref h0)]) hx hb dX2_allWidths_21 hl (k := 2) rfl rfl (by decide) rfl (fun ls hl => ?_)
          refine lv_goto (tgt := 4) hx hb dX2_allWidths_24 (by decide) ?_
          exact ih (t1 + (a_widths t2.toNatClampNeg)) (t2 + 1) H locs ls hP hD hS (lv_sub hl [2, 1, 0] rfl) hw.1 (Nat.lt_of_lt_of_le hw.2 (Nat.le_of_lt_succ hlt))
    exact key (μ t1 t2 + 1) t1 t2 H locs ls hP hD hS hl hI0 (Nat.lt_succ_self _)
  delta wp_X2_allWidths at hw
  refine lv_iconst (v := 0) hx hb dX2_allWidths_0 (by decide) ?_
  refine lv_istore_n (lv' := [(1, .int (0 : Int32)), (0, .ref h0)]) hx hb dX2_allWidths_1 rfl hl (by decide) rfl (fun ls hl => ?_)
  refine lv_iconst (v := 0) hx hb dX2_allWidths_2 (by decide) ?_
  refine lv_istore_n (lv' := [(2, .int (0 : Int32)), (1, .int (0 : Int32)), (0, .ref h0)]) hx hb dX2_allWidths_3 rfl hl (by decide) rfl (fun ls hl => ?_)
  exact bk_4 (0 : Int32) (0 : Int32) H locs ls hP hD hS (lv_sub hl [2, 1, 0] rfl) hw
set_option maxHeartbeats 40000000 in
set_option maxRecDepth 100000 in
theorem c_X2_allWidths (l : Launch) (D : va_G) (cI cZ : ClassId) (ad : (Nat → Nat) × (Nat → Nat)) (sz : Nat) (h0 : Nat) (h_widths : Nat) (h_register : Nat) (h_levels : Nat) (h_owners : Nat) (h_lost : Nat) (h_rests : Nat) (f_strips : Int32) (a_widths : (Nat → Int32))  (Q : Int32 → Prop) (hw : wp_X2_allWidths f_strips a_widths Q) : Met l yX2_allWidths ((.code yX2_allWidths cX2_allWidths 3 (some .int)) :: gw) rm_X2_allWidths (va_Pc [.ref h0] (PC D cI cZ ad sz (w_X2_allWidths cI cZ h0 h_widths h_register h_levels h_owners h_lost h_rests f_strips a_widths))) (va_Qi (fun r (_ : Unit) => Q r) (PW D (va_A (w_X2_allWidths cI cZ h0 h_widths h_register h_levels h_owners h_lost h_rests f_strips a_widths) sz) (fun (_ : Unit) => (w_X2_allWidths cI cZ h0 h_widths h_register h_levels h_owners h_lost h_rests f_strips a_widths))) (va_A (w_X2_allWidths cI cZ h0 h_widths h_register h_levels h_owners h_lost h_rests f_strips a_widths) sz)) 0 0 (va_A (w_X2_allWidths cI cZ h0 h_widths h_register h_levels h_owners h_lost h_rests f_strips a_widths) sz) := by
  refine Met.ofW (cc := cX2_allWidths) (maxL := 3) (ret := (some .int)) (by decide) rfl ?_
  intro p e s m args below meth c s₁ B hml hv
  have hst := PC.start hv.2
  obtain ⟨ls, hfr, hl⟩ := en_fr (m := m) [.ref h0] 3 hv.1 (Nat.le_of_ble_eq_true rfl)
  rw [hfr]
  generalize va_A (w_X2_allWidths cI cZ h0 h_widths h_register h_levels h_owners h_lost h_rests f_strips a_widths) sz = A at hst ⊢
  obtain ⟨X, hP, hD⟩ := hst
  exact k_X2_allWidths B.exec B.bytes hml (findClass_of_methodNamed B.named) (atoms_spec (ws := (.code yX2_allWidths cX2_allWidths 3 (some .int)) :: gw) B.pre) X h0 h_widths h_register h_levels h_owners h_lost h_rests f_strips a_widths Q _ (fun r H locs pc ls hdg hP hD hS hw => rt_i () B.exec B.bytes B.returns B.notSynchronized hdg hP hD hS hw) s.heap [] ls hP hD va_S.rf hl hw
set_option maxHeartbeats 40000000 in
set_option maxRecDepth 100000 in
theorem k_X3_assess {p : Program} {l : Launch} {e : Env} {s : State} {m : MethodId} {args : Array Value} {below : List Frame} {meth : Method} {c : Code} {D : va_G} {cI cZ : ClassId} {ad : (Nat → Nat) × (Nat → Nat)} {A : Nat → Prop} (hx : p.tables.exec = Jvm.exec) (hb : c.code = cX3_assess) (hml : c.maxLocals = 6) (hown : s.vm.findClass RX3 = some m.cls) (hts : ∀ w ∈ (.code yX3_assess cX3_assess 6 none) :: gw, w.before args s = true) (X : CX D cI cZ ad A s) (h0 : Nat) (h_p1 : Nat) (h_p1_kinds : Nat) (h_p1_parts : Nat) (h_p1_wholes : Nat) (h_p1_bounds : Nat) (f_due : Int32) (f_relieved : Int32) (f_toOfficer : Int32) (f_toKing : Int32) (f_toOwner : Int32) (f_p1_size : Int32) (a_p1_kinds : (Nat → Int32)) (a_p1_parts : (Nat → Int32)) (a_p1_wholes : (Nat → Int32)) (a_p1_bounds : (Nat → Int32)) (x2 : Int32) (x3 : Int32) (x4 : Int32)  (Q : Int32 → Int32 → Int32 → Int32 → Int32 → Prop) (Z : State → Prop) (hret : ∀ (f_due' : Int32) (f_relieved' : Int32) (f_toOfficer' : Int32) (f_toKing' : Int32) (f_toOwner' : Int32)  (H : Heap) (locs : List Loc) (pc : Nat) (ls : Array Slot), decode cX3_assess pc = .ok (.return_, 1) → va_P D classes (w_X3_assess cI cZ h0 h_p1 h_p1_kinds h_p1_parts h_p1_wholes h_p1_bounds f_due' f_relieved' f_toOfficer' f_toKing' f_toOwner' f_p1_size a_p1_kinds a_p1_parts a_p1_wholes a_p1_bounds) H → va_D A (w_X3_assess cI cZ h0 h_p1 h_p1_kinds h_p1_parts h_p1_wholes h_p1_bounds f_due' f_relieved' f_toOfficer' f_toKing' f_toOwner' f_p1_size a_p1_kinds a_p1_parts a_p1_wholes a_p1_bounds) → va_S A s.heap H locs → Q f_due' f_relieved' f_toOfficer' f_toKing' f_toOwner' → W p l e rm_X3_assess s m args below meth c H locs 0 0 Z (F0 m pc ls [])) (H : Heap) (locs : List Loc) (ls : Array Slot) (hP : va_P D classes (w_X3_assess cI cZ h0 h_p1 h_p1_kinds h_p1_parts h_p1_wholes h_p1_bounds f_due f_relieved f_toOfficer f_toKing f_toOwner f_p1_size a_p1_kinds a_p1_parts a_p1_wholes a_p1_bounds) H) (hD : va_D A (w_X3_assess cI cZ h0 h_p1 h_p1_kinds h_p1_parts h_p1_wholes h_p1_bounds f_due f_relieved f_toOfficer f_toKing f_toOwner f_p1_size a_p1_kinds a_p1_parts a_p1_wholes a_p1_bounds)) (hS : va_S A s.heap H locs) (hl : lv_has ls 6 [(0, .ref h0), (1, .ref h_p1), (2, .int x2), (3, .int x3), (4, .int x4)]) (hw : wp_X3_assess f_due f_relieved f_toOfficer f_toKing f_toOwner f_p1_size a_p1_kinds a_p1_parts a_p1_wholes a_p1_bounds x2 x3 x4 Q) : W p l e rm_X3_assess s m args below meth c H locs 0 0 Z (F0 m 0 ls []) := by
  have htg : ∀ w ∈ gw, w.before args s = true := fun w h => hts w (gw_cons w h)
  have bk_19 : ∀ (f_due : Int32) (f_relieved : Int32) (f_toOfficer : Int32) (f_toKing : Int32) (f_toOwner : Int32) (s0 : Int32) (H : Heap) (locs : List Loc) (ls : Array Slot), va_P D classes (w_X3_assess cI cZ h0 h_p1 h_p1_kinds h_p1_parts h_p1_wholes h_p1_bounds f_due f_relieved f_toOfficer f_toKing f_toOwner f_p1_size a_p1_kinds a_p1_parts a_p1_wholes a_p1_bounds) H → va_D A (w_X3_assess cI cZ h0 h_p1 h_p1_kinds h_p1_parts h_p1_wholes h_p1_bounds f_due f_relieved f_toOfficer f_toKing f_toOwner f_p1_size a_p1_kinds a_p1_parts a_p1_wholes a_p1_bounds) → va_S A s.heap H locs → lv_has ls 6 [(0, .ref h0), (1, .ref h_p1), (2, .int x2), (3, .int x3)] → wp_X3_assess_b19 f_p1_size a_p1_kinds a_p1_parts a_p1_wholes a_p1_bounds x2 x3 x4 Q f_due f_relieved f_toOfficer f_toKing f_toOwner s0 → W p l e rm_X3_assess s m args below meth c H locs 0 0 Z (F0 m 19 ls [.int s0]) := by
    intro  f_due f_relieved f_toOfficer f_toKing f_toOwner s0 H locs ls hP hD hS hl hw
    delta wp_X3_assess_b19 at hw
    refine lv_istore (lv' := [(5, .int s0), (0, .ref h0), (1, .ref h_p1), (2, .int x2), (3, .int x3)]) hx hb dX3_assess_19 hl (by decide) rfl (fun ls hl => ?_)
    refine lv_aload_n hx hb dX3_assess_21 rfl (lv_at hl 1 rfl) ?_
    refine lv_aload_n hx hb dX3_assess_22 rfl (lv_at hl 2 rfl) ?_
    refine lv_iload hx hb dX3_assess_23 (lv_at hl 0 rfl) ?_
    refine lv_iload_n hx hb dX3_assess_25 rfl (lv_at hl 4 rfl) ?_
    refine cv_i (rest := [.ref h0]) (ws2 := fun (u : Unit) => (w_X3_assess cI cZ h0 h_p1 h_p1_kinds h_p1_parts h_p1_wholes h_p1_bounds f_due f_relieved f_toOfficer f_toKing f_toOwner f_p1_size a_p1_kinds a_p1_parts a_p1_wholes a_p1_bounds)) ⟨hx, hb, hml, hown, hts⟩ (c_X1_reliefOn l D cI cZ ad H.size h_p1 h_p1_kinds h_p1_parts h_p1_wholes h_p1_bounds f_p1_size a_p1_kinds a_p1_parts a_p1_wholes a_p1_bounds s0 x3 _ hw) (cwV 2 hts (gIV gw_cons mw_17 gy_X1_reliefOn) rfl rfl rfl hd_X1_reliefOn ⟨Nat.le_of_ble_eq_true rfl, Nat.le_of_ble_eq_true rfl⟩) X hP hD hS [1, 2, 3, 4, 5] [0] [0, 1, 2, 3, 4, 5] rfl rfl rfl rfl rfl rfl (fun u => rfl) 0 1 rfl rfl rfl (lv_sub hl [] rfl) rfl (Nat.le_of_ble_eq_true rfl) dX3_assess_26 ⟨Nat.zero_le _, Nat.zero_le _⟩ (fun r_1 u H locs hw hP hD hS => ?_)
    have hP : va_P D classes (w_X3_assess cI cZ h0 h_p1 h_p1_kinds h_p1_parts h_p1_wholes h_p1_bounds f_due f_relieved f_toOfficer f_toKing f_toOwner f_p1_size a_p1_kinds a_p1_parts a_p1_wholes a_p1_bounds) H := hP
    have hD : va_D A (w_X3_assess cI cZ h0 h_p1 h_p1_kinds h_p1_parts h_p1_wholes h_p1_bounds f_due f_relieved f_toOfficer f_toKing f_toOwner f_p1_size a_p1_kinds a_p1_parts a_p1_wholes a_p1_bounds) := hD
    refine va_put (D := D) (ci := 3) (v := .int r_1) (ty := .int) (C := RX3) (T := TX3) (N := 5) hx hb htg in_X3 tyX3 tyX3_ok nmX3 hown X.1 hP hD hS 0 rfl rfl 1 (by decide) (htg _ mw_18) (fun _ h9 => h9) rfl (by decide +kernel) rfl rfl (Nat.le_of_ble_eq_true rfl) dX3_assess_29 (fun H locs hP hD hS => ?_)
    have hP : va_P D classes (w_X3_assess cI cZ h0 h_p1 h_p1_kinds h_p1_parts h_p1_wholes h_p1_bounds f_due r_1 f_toOfficer f_toKing f_toOwner f_p1_size a_p1_kinds a_p1_parts a_p1_wholes a_p1_bounds) H := hP
    have hD : va_D A (w_X3_assess cI cZ h0 h_p1 h_p1_kinds h_p1_parts h_p1_wholes h_p1_bounds f_due r_1 f_toOfficer f_toKing f_toOwner f_p1_size a_p1_kinds a_p1_parts a_p1_wholes a_p1_bounds) := hD
    refine lv_aload_n hx hb dX3_assess_32 rfl (lv_at hl 1 rfl) ?_
    refine lv_iload hx hb dX3_assess_33 (lv_at hl 0 rfl) ?_
    refine lv_aload_n hx hb dX3_assess_35 rfl (lv_at hl 1 rfl) ?_
    refine va_get (D := D) (ci := 3) (v := .int r_1) (C := RX3) (T := TX3) (N := 5) hx hb htg in_X3 hown X.1 hP 0 rfl rfl 1 (by decide) (htg _ mw_18) (fun _ h9 => h9) rfl dX3_assess_36 ?_
    refine lv_isub hx hb dX3_assess_39 ?_
    refine va_put (D := D) (ci := 3) (v := .int (s0 - r_1)) (ty := .int) (C := RX3) (T := TX3) (N := 5) hx hb htg in_X3 tyX3 tyX3_ok nmX3 hown X.1 hP hD hS 0 rfl rfl 0 (by decide) (htg _ mw_19) (fun _ h9 => h9) rfl (by decide +kernel) rfl rfl (Nat.le_of_ble_eq_true rfl) dX3_assess_40 (fun H locs hP hD hS => ?_)
    have hP : va_P D classes (w_X3_assess cI cZ h0 h_p1 h_p1_kinds h_p1_parts h_p1_wholes h_p1_bounds (s0 - r_1) r_1 f_toOfficer f_toKing f_toOwner f_p1_size a_p1_kinds a_p1_parts a_p1_wholes a_p1_bounds) H := hP
    have hD : va_D A (w_X3_assess cI cZ h0 h_p1 h_p1_kinds h_p1_parts h_p1_wholes h_p1_bounds (s0 - r_1) r_1 f_toOfficer f_toKing f_toOwner f_p1_size a_p1_kinds a_p1_parts a_p1_wholes a_p1_bounds) := hD
    refine lv_aload_n hx hb dX3_assess_43 rfl (lv_at hl 1 rfl) ?_
    refine lv_aload_n hx hb dX3_assess_44 rfl (lv_at hl 2 rfl) ?_
    refine lv_aload_n hx hb dX3_assess_45 rfl (lv_at hl 1 rfl) ?_
    refine va_get (D := D) (ci := 3) (v := .int (s0 - r_1)) (C := RX3) (T := TX3) (N := 5) hx hb htg in_X3 hown X.1 hP 0 rfl rfl 0 (by decide) (htg _ mw_19) (fun _ h9 => h9) rfl dX3_assess_46 ?_
    refine cv_i (rest := [.ref h0]) (ws2 := fun (u : Unit) => (w_X3_assess cI cZ h0 h_p1 h_p1_kinds h_p1_parts h_p1_wholes h_p1_bounds (s0 - r_1) r_1 f_toOfficer f_toKing f_toOwner f_p1_size a_p1_kinds a_p1_parts a_p1_wholes a_p1_bounds)) ⟨hx, hb, hml, hown, hts⟩ (c_X1_officerPart l D cI cZ ad H.size h_p1 h_p1_kinds h_p1_parts h_p1_wholes h_p1_bounds f_p1_size a_p1_kinds a_p1_parts a_p1_wholes (s0 - r_1) _ hw) (cwV 1 hts (gIV gw_cons mw_20 gy_X1_officerPart) rfl rfl rfl hd_X1_officerPart ⟨Nat.le_of_ble_eq_true rfl, Nat.le_of_ble_eq_true rfl⟩) X hP hD hS [1, 2, 3, 4] [0, 5] [0, 2, 3, 4, 5, 1] rfl rfl rfl rfl rfl rfl (fun u => rfl) 0 1 rfl rfl rfl (lv_sub hl [] rfl) rfl (Nat.le_of_ble_eq_true rfl) dX3_assess_49 ⟨Nat.zero_le _, Nat.zero_le _⟩ (fun r_2 u H locs hw hP hD hS => ?_)
    have hP : va_P D classes (w_X3_assess cI cZ h0 h_p1 h_p1_kinds h_p1_parts h_p1_wholes h_p1_bounds (s0 - r_1) r_1 f_toOfficer f_toKing f_toOwner f_p1_size a_p1_kinds a_p1_parts a_p1_wholes a_p1_bounds) H := hP
    have hD : va_D A (w_X3_assess cI cZ h0 h_p1 h_p1_kinds h_p1_parts h_p1_wholes h_p1_bounds (s0 - r_1) r_1 f_toOfficer f_toKing f_toOwner f_p1_size a_p1_kinds a_p1_parts a_p1_wholes a_p1_bounds) := hD
    refine va_put (D := D) (ci := 3) (v := .int r_2) (ty := .int) (C := RX3) (T := TX3) (N := 5) hx hb htg in_X3 tyX3 tyX3_ok nmX3 hown X.1 hP hD hS 0 rfl rfl 2 (by decide) (htg _ mw_21) (fun _ h9 => h9) rfl (by decide +kernel) rfl rfl (Nat.le_of_ble_eq_true rfl) dX3_assess_52 (fun H locs hP hD hS => ?_)
    have hP : va_P D classes (w_X3_assess cI cZ h0 h_p1 h_p1_kinds h_p1_parts h_p1_wholes h_p1_bounds (s0 - r_1) r_1 r_2 f_toKing f_toOwner f_p1_size a_p1_kinds a_p1_parts a_p1_wholes a_p1_bounds) H := hP
    have hD : va_D A (w_X3_assess cI cZ h0 h_p1 h_p1_kinds h_p1_parts h_p1_wholes h_p1_bounds (s0 - r_1) r_1 r_2 f_toKing f_toOwner f_p1_size a_p1_kinds a_p1_parts a_p1_wholes a_p1_bounds) := hD
    refine lv_aload_n hx hb dX3_assess_55 rfl (lv_at hl 1 rfl) ?_
    refine lv_aload_n hx hb dX3_assess_56 rfl (lv_at hl 1 rfl) ?_
    refine va_get (D := D) (ci := 3) (v := .int (s0 - r_1)) (C := RX3) (T := TX3) (N := 5) hx hb htg in_X3 hown X.1 hP 0 rfl rfl 0 (by decide) (htg _ mw_19) (fun _ h9 => h9) rfl dX3_assess_57 ?_
    refine lv_aload_n hx hb dX3_assess_60 rfl (lv_at hl 1 rfl) ?_
    refine va_get (D := D) (ci := 3) (v := .int r_2) (C := RX3) (T := TX3) (N := 5) hx hb htg in_X3 hown X.1 hP 0 rfl rfl 2 (by decide) (htg _ mw_21) (fun _ h9 => h9) rfl dX3_assess_61 ?_
    refine lv_isub hx hb dX3_assess_64 ?_
    refine va_put (D := D) (ci := 3) (v := .int ((s0 - r_1) - r_2)) (ty := .int) (C := RX3) (T := TX3) (N := 5) hx hb htg in_X3 tyX3 tyX3_ok nmX3 hown X.1 hP hD hS 0 rfl rfl 3 (by decide) (htg _ mw_22) (fun _ h9 => h9) rfl (by decide +kernel) rfl rfl (Nat.le_of_ble_eq_true rfl) dX3_assess_65 (fun H locs hP hD hS => ?_)
    have hP : va_P D classes (w_X3_assess cI cZ h0 h_p1 h_p1_kinds h_p1_parts h_p1_wholes h_p1_bounds (s0 - r_1) r_1 r_2 ((s0 - r_1) - r_2) f_toOwner f_p1_size a_p1_kinds a_p1_parts a_p1_wholes a_p1_bounds) H := hP
    have hD : va_D A (w_X3_assess cI cZ h0 h_p1 h_p1_kinds h_p1_parts h_p1_wholes h_p1_bounds (s0 - r_1) r_1 r_2 ((s0 - r_1) - r_2) f_toOwner f_p1_size a_p1_kinds a_p1_parts a_p1_wholes a_p1_bounds) := hD
    refine lv_aload_n hx hb dX3_assess_68 rfl (lv_at hl 1 rfl) ?_
    refine lv_iload_n hx hb dX3_assess_69 rfl (lv_at hl 3 rfl) ?_
    refine lv_aload_n hx hb dX3_assess_70 rfl (lv_at hl 1 rfl) ?_
    refine va_get (D := D) (ci := 3) (v := .int (s0 - r_1)) (C := RX3) (T := TX3) (N := 5) hx hb htg in_X3 hown X.1 hP 0 rfl rfl 0 (by decide) (htg _ mw_19) (fun _ h9 => h9) rfl dX3_assess_71 ?_
    refine lv_isub hx hb dX3_assess_74 ?_
    refine va_put (D := D) (ci := 3) (v := .int (x2 - (s0 - r_1))) (ty := .int) (C := RX3) (T := TX3) (N := 5) hx hb htg in_X3 tyX3 tyX3_ok nmX3 hown X.1 hP hD hS 0 rfl rfl 4 (by decide) (htg _ mw_23) (fun _ h9 => h9) rfl (by decide +kernel) rfl rfl (Nat.le_of_ble_eq_true rfl) dX3_assess_75 (fun H locs hP hD hS => ?_)
    have hP : va_P D classes (w_X3_assess cI cZ h0 h_p1 h_p1_kinds h_p1_parts h_p1_wholes h_p1_bounds (s0 - r_1) r_1 r_2 ((s0 - r_1) - r_2) (x2 - (s0 - r_1)) f_p1_size a_p1_kinds a_p1_parts a_p1_wholes a_p1_bounds) H := hP
    have hD : va_D A (w_X3_assess cI cZ h0 h_p1 h_p1_kinds h_p1_parts h_p1_wholes h_p1_bounds (s0 - r_1) r_1 r_2 ((s0 - r_1) - r_2) (x2 - (s0 - r_1)) f_p1_size a_p1_kinds a_p1_parts a_p1_wholes a_p1_bounds) := hD
    exact hret (s0 - r_1) r_1 r_2 ((s0 - r_1) - r_2) (x2 - (s0 - r_1)) H locs _ _ dX3_assess_78 hP hD hS hw
  delta wp_X3_assess at hw
  refine lv_aload_n hx hb dX3_assess_0 rfl (lv_at hl 1 rfl) ?_
  refine lv_iload_n hx hb dX3_assess_1 rfl (lv_at hl 2 rfl) ?_
  refine cv_i (rest := []) (ws2 := fun (u : Unit) => (w_X3_assess cI cZ h0 h_p1 h_p1_kinds h_p1_parts h_p1_wholes h_p1_bounds f_due f_relieved f_toOfficer f_toKing f_toOwner f_p1_size a_p1_kinds a_p1_parts a_p1_wholes a_p1_bounds)) ⟨hx, hb, hml, hown, hts⟩ (c_X1_frees l D cI cZ ad H.size h_p1 h_p1_kinds h_p1_parts h_p1_wholes h_p1_bounds f_p1_size a_p1_kinds a_p1_bounds x2 _ hw) (cwV 1 hts (gIV gw_cons mw_24 gy_X1_frees) rfl rfl rfl hd_X1_frees ⟨Nat.le_of_ble_eq_true rfl, Nat.le_of_ble_eq_true rfl⟩) X hP hD hS [1, 2, 5] [0, 3, 4] [0, 3, 4, 1, 2, 5] rfl rfl rfl rfl rfl rfl (fun u => rfl) 0 1 rfl rfl rfl (lv_sub hl [] rfl) rfl (Nat.le_of_ble_eq_true rfl) dX3_assess_2 ⟨Nat.zero_le _, Nat.zero_le _⟩ (fun r_3 u H locs hw hP hD hS => ?_)
  have hP : va_P D classes (w_X3_assess cI cZ h0 h_p1 h_p1_kinds h_p1_parts h_p1_wholes h_p1_bounds f_due f_relieved f_toOfficer f_toKing f_toOwner f_p1_size a_p1_kinds a_p1_parts a_p1_wholes a_p1_bounds) H := hP
  have hD : va_D A (w_X3_assess cI cZ h0 h_p1 h_p1_kinds h_p1_parts h_p1_wholes h_p1_bounds f_due f_relieved f_toOfficer f_toKing f_toOwner f_p1_size a_p1_kinds a_p1_parts a_p1_wholes a_p1_bounds) := hD
  refine lv_if_eq (tgt := 12) hx hb dX3_assess_5 (by decide) (fun cb => ?_) (fun cb => ?_)
  · have hw := hw.1 cb
    refine lv_aload_n hx hb dX3_assess_12 rfl (lv_at hl 1 rfl) ?_
    refine lv_iload_n hx hb dX3_assess_13 rfl (lv_at hl 2 rfl) ?_
    refine lv_iload hx hb dX3_assess_14 (lv_at hl 4 rfl) ?_
    refine cv_i (rest := []) (ws2 := fun (u : Unit) => (w_X3_assess cI cZ h0 h_p1 h_p1_kinds h_p1_parts h_p1_wholes h_p1_bounds f_due f_relieved f_toOfficer f_toKing f_toOwner f_p1_size a_p1_kinds a_p1_parts a_p1_wholes a_p1_bounds)) ⟨hx, hb, hml, hown, hts⟩ (c_X1_taxOn l D cI cZ ad H.size h_p1 h_p1_kinds h_p1_parts h_p1_wholes h_p1_bounds f_p1_size a_p1_kinds a_p1_parts a_p1_wholes a_p1_bounds x2 x4 _ hw) (cwV 2 hts (gIV gw_cons mw_25 gy_X1_taxOn) rfl rfl rfl hd_X1_taxOn ⟨Nat.le_of_ble_eq_true rfl, Nat.le_of_ble_eq_true rfl⟩) X hP hD hS [1, 2, 3, 4, 5] [0] [0, 1, 2, 3, 4, 5] rfl rfl rfl rfl rfl rfl (fun u => rfl) 0 1 rfl rfl rfl (lv_sub hl [] rfl) rfl (Nat.le_of_ble_eq_true rfl) dX3_assess_16 ⟨Nat.zero_le _, Nat.zero_le _⟩ (fun r_4 u H locs hw hP hD hS => ?_)
    have hP : va_P D classes (w_X3_assess cI cZ h0 h_p1 h_p1_kinds h_p1_parts h_p1_wholes h_p1_bounds f_due f_relieved f_toOfficer f_toKing f_toOwner f_p1_size a_p1_kinds a_p1_parts a_p1_wholes a_p1_bounds) H := hP
    have hD : va_D A (w_X3_assess cI cZ h0 h_p1 h_p1_kinds h_p1_parts h_p1_wholes h_p1_bounds f_due f_relieved f_toOfficer f_toKing f_toOwner f_p1_size a_p1_kinds a_p1_parts a_p1_wholes a_p1_bounds) := hD
    exact bk_19 f_due f_relieved f_toOfficer f_toKing f_toOwner r_4 H locs ls hP hD hS (lv_sub hl [0, 1, 2, 3] rfl) hw
  · have hw := hw.2 cb
    refine lv_iconst (v := 0) hx hb dX3_assess_8 (by decide) ?_
    refine lv_goto (tgt := 19) hx hb dX3_assess_9 (by decide) ?_
    exact bk_19 f_due f_relieved f_toOfficer f_toKing f_toOwner (0 : Int32) H locs ls hP hD hS (lv_sub hl [0, 1, 2, 3] rfl) hw
set_option maxHeartbeats 40000000 in
set_option maxRecDepth 100000 in
theorem c_X3_assess (l : Launch) (D : va_G) (cI cZ : ClassId) (ad : (Nat → Nat) × (Nat → Nat)) (sz : Nat) (h0 : Nat) (h_p1 : Nat) (h_p1_kinds : Nat) (h_p1_parts : Nat) (h_p1_wholes : Nat) (h_p1_bounds : Nat) (f_due : Int32) (f_relieved : Int32) (f_toOfficer : Int32) (f_toKing : Int32) (f_toOwner : Int32) (f_p1_size : Int32) (a_p1_kinds : (Nat → Int32)) (a_p1_parts : (Nat → Int32)) (a_p1_wholes : (Nat → Int32)) (a_p1_bounds : (Nat → Int32)) (x2 : Int32) (x3 : Int32) (x4 : Int32)  (Q : Int32 → Int32 → Int32 → Int32 → Int32 → Prop) (hw : wp_X3_assess f_due f_relieved f_toOfficer f_toKing f_toOwner f_p1_size a_p1_kinds a_p1_parts a_p1_wholes a_p1_bounds x2 x3 x4 Q) : Met l yX3_assess ((.code yX3_assess cX3_assess 6 none) :: gw) rm_X3_assess (va_Pc [.ref h0, .ref h_p1, .int x2, .int x3, .int x4] (PC D cI cZ ad sz (w_X3_assess cI cZ h0 h_p1 h_p1_kinds h_p1_parts h_p1_wholes h_p1_bounds f_due f_relieved f_toOfficer f_toKing f_toOwner f_p1_size a_p1_kinds a_p1_parts a_p1_wholes a_p1_bounds))) (va_Qv (fun (u : Int32 × Int32 × Int32 × Int32 × Int32) => Q u.1 u.2.1 u.2.2.1 u.2.2.2.1 u.2.2.2.2) (PW D (va_A (w_X3_assess cI cZ h0 h_p1 h_p1_kinds h_p1_parts h_p1_wholes h_p1_bounds f_due f_relieved f_toOfficer f_toKing f_toOwner f_p1_size a_p1_kinds a_p1_parts a_p1_wholes a_p1_bounds) sz) (fun (u : Int32 × Int32 × Int32 × Int32 × Int32) => (w_X3_assess cI cZ h0 h_p1 h_p1_kinds h_p1_parts h_p1_wholes h_p1_bounds u.1 u.2.1 u.2.2.1 u.2.2.2.1 u.2.2.2.2 f_p1_size a_p1_kinds a_p1_parts a_p1_wholes a_p1_bounds))) (va_A (w_X3_assess cI cZ h0 h_p1 h_p1_kinds h_p1_parts h_p1_wholes h_p1_bounds f_due f_relieved f_toOfficer f_toKing f_toOwner f_p1_size a_p1_kinds a_p1_parts a_p1_wholes a_p1_bounds) sz)) 0 0 (va_A (w_X3_assess cI cZ h0 h_p1 h_p1_kinds h_p1_parts h_p1_wholes h_p1_bounds f_due f_relieved f_toOfficer f_toKing f_toOwner f_p1_size a_p1_kinds a_p1_parts a_p1_wholes a_p1_bounds) sz) := by
  refine Met.ofW (cc := cX3_assess) (maxL := 6) (ret := none) (by decide) rfl ?_
  intro p e s m args below meth c s₁ B hml hv
  have hst := PC.start hv.2
  obtain ⟨ls, hfr, hl⟩ := en_fr (m := m) [.ref h0, .ref h_p1, .int x2, .int x3, .int x4] 6 hv.1 (Nat.le_of_ble_eq_true rfl)
  rw [hfr]
  generalize va_A (w_X3_assess cI cZ h0 h_p1 h_p1_kinds h_p1_parts h_p1_wholes h_p1_bounds f_due f_relieved f_toOfficer f_toKing f_toOwner f_p1_size a_p1_kinds a_p1_parts a_p1_wholes a_p1_bounds) sz = A at hst ⊢
  obtain ⟨X, hP, hD⟩ := hst
  exact k_X3_assess B.exec B.bytes hml (findClass_of_methodNamed B.named) (atoms_spec (ws := (.code yX3_assess cX3_assess 6 none) :: gw) B.pre) X h0 h_p1 h_p1_kinds h_p1_parts h_p1_wholes h_p1_bounds f_due f_relieved f_toOfficer f_toKing f_toOwner f_p1_size a_p1_kinds a_p1_parts a_p1_wholes a_p1_bounds x2 x3 x4 Q _ (fun f_due' f_relieved' f_toOfficer' f_toKing' f_toOwner' H locs pc ls hdg hP hD hS hw => rt_v (f_due', f_relieved', f_toOfficer', f_toKing', f_toOwner') B.exec B.bytes B.returns B.notSynchronized hdg hP hD hS hw) s.heap [] ls hP hD va_S.rf hl hw
set_option maxHeartbeats 40000000 in
set_option maxRecDepth 100000 in
theorem k_X4_tell {p : Program} {l : Launch} {e : Env} {s : State} {m : MethodId} {args : Array Value} {below : List Frame} {meth : Method} {c : Code} {D : va_G} {cI cZ : ClassId} {ad : (Nat → Nat) × (Nat → Nat)} {A : Nat → Prop} (hx : p.tables.exec = Jvm.exec) (hb : c.code = cX4_tell) (hml : c.maxLocals = 4) (hown : s.vm.findClass RX4 = some m.cls) (hts : ∀ w ∈ (.code yX4_tell cX4_tell 4 none) :: gw, w.before args s = true) (X : CX D cI cZ ad A s) (h0 : Nat) (h_days : Nat) (h_heights : Nat) (h_knownFrom : Nat) (h_seen : Nat) (f_told : Int32) (f_seenPeak : Int32) (a_days : (Nat → Int32)) (a_heights : (Nat → Int32)) (a_knownFrom : (Nat → Int32)) (x1 : Int32) (x2 : Int32) (x3 : Int32)  (Q : Int32 → (Nat → Int32) → (Nat → Int32) → (Nat → Int32) → Prop) (Z : State → Prop) (hret : ∀ (f_told' : Int32) (a_days' : (Nat → Int32)) (a_heights' : (Nat → Int32)) (a_knownFrom' : (Nat → Int32))  (H : Heap) (locs : List Loc) (pc : Nat) (ls : Array Slot), decode cX4_tell pc = .ok (.return_, 1) → va_P D classes (w_X4_tell cI cZ h0 h_days h_heights h_knownFrom h_seen f_told' f_seenPeak a_days' a_heights' a_knownFrom') H → va_D A (w_X4_tell cI cZ h0 h_days h_heights h_knownFrom h_seen f_told' f_seenPeak a_days' a_heights' a_knownFrom') → va_S A s.heap H locs → Q f_told' a_days' a_heights' a_knownFrom' → W p l e rm_X4_tell s m args below meth c H locs 0 0 Z (F0 m pc ls [])) (H : Heap) (locs : List Loc) (ls : Array Slot) (hP : va_P D classes (w_X4_tell cI cZ h0 h_days h_heights h_knownFrom h_seen f_told f_seenPeak a_days a_heights a_knownFrom) H) (hD : va_D A (w_X4_tell cI cZ h0 h_days h_heights h_knownFrom h_seen f_told f_seenPeak a_days a_heights a_knownFrom)) (hS : va_S A s.heap H locs) (hl : lv_has ls 4 [(0, .ref h0), (1, .int x1), (2, .int x2), (3, .int x3)]) (hw : wp_X4_tell f_told a_days a_heights a_knownFrom x1 x2 x3 Q) : W p l e rm_X4_tell s m args below meth c H locs 0 0 Z (F0 m 0 ls []) := by
  have htg : ∀ w ∈ gw, w.before args s = true := fun w h => hts w (gw_cons w h)
  delta wp_X4_tell at hw
  refine lv_aload_n hx hb dX4_tell_0 rfl (lv_at hl 0 rfl) ?_
  refine va_get (D := D) (ci := 4) (v := .ref h_days) (C := RX4) (T := TX4) (N := 6) hx hb htg in_X4 hown X.1 hP 0 rfl rfl 0 (by decide) (htg _ mw_26) (fun _ h9 => h9) rfl dX4_tell_1 ?_
  refine lv_aload_n hx hb dX4_tell_4 rfl (lv_at hl 0 rfl) ?_
  refine va_get (D := D) (ci := 4) (v := .int f_told) (C := RX4) (T := TX4) (N := 6) hx hb htg in_X4 hown X.1 hP 0 rfl rfl 3 (by decide) (htg _ mw_27) (fun _ h9 => h9) rfl dX4_tell_5 ?_
  refine lv_iload_n hx hb dX4_tell_8 rfl (lv_at hl 1 rfl) ?_
  obtain ⟨g, hw⟩ := hw
  refine va_iast hx hb X.1 hP hD hS 1 0 rfl rfl g dX4_tell_9 (fun H locs hP hD hS => ?_)
  have hP : va_P D classes (w_X4_tell cI cZ h0 h_days h_heights h_knownFrom h_seen f_told f_seenPeak (upd a_days f_told.toNatClampNeg x1) a_heights a_knownFrom) H := hP
  have hD : va_D A (w_X4_tell cI cZ h0 h_days h_heights h_knownFrom h_seen f_told f_seenPeak (upd a_days f_told.toNatClampNeg x1) a_heights a_knownFrom) := hD
  refine lv_aload_n hx hb dX4_tell_10 rfl (lv_at hl 0 rfl) ?_
  refine va_get (D := D) (ci := 4) (v := .ref h_heights) (C := RX4) (T := TX4) (N := 6) hx hb htg in_X4 hown X.1 hP 0 rfl rfl 1 (by decide) (htg _ mw_28) (fun _ h9 => h9) rfl dX4_tell_11 ?_
  refine lv_aload_n hx hb dX4_tell_14 rfl (lv_at hl 0 rfl) ?_
  refine va_get (D := D) (ci := 4) (v := .int f_told) (C := RX4) (T := TX4) (N := 6) hx hb htg in_X4 hown X.1 hP 0 rfl rfl 3 (by decide) (htg _ mw_27) (fun _ h9 => h9) rfl dX4_tell_15 ?_
  refine lv_iload_n hx hb dX4_tell_18 rfl (lv_at hl 2 rfl) ?_
  obtain ⟨g, hw⟩ := hw
  refine va_iast hx hb X.1 hP hD hS 2 0 rfl rfl g dX4_tell_19 (fun H locs hP hD hS => ?_)
  have hP : va_P D classes (w_X4_tell cI cZ h0 h_days h_heights h_knownFrom h_seen f_told f_seenPeak (upd a_days f_told.toNatClampNeg x1) (upd a_heights f_told.toNatClampNeg x2) a_knownFrom) H := hP
  have hD : va_D A (w_X4_tell cI cZ h0 h_days h_heights h_knownFrom h_seen f_told f_seenPeak (upd a_days f_told.toNatClampNeg x1) (upd a_heights f_told.toNatClampNeg x2) a_knownFrom) := hD
  refine lv_aload_n hx hb dX4_tell_20 rfl (lv_at hl 0 rfl) ?_
  refine va_get (D := D) (ci := 4) (v := .ref h_knownFrom) (C := RX4) (T := TX4) (N := 6) hx hb htg in_X4 hown X.1 hP 0 rfl rfl 2 (by decide) (htg _ mw_29) (fun _ h9 => h9) rfl dX4_tell_21 ?_
  refine lv_aload_n hx hb dX4_tell_24 rfl (lv_at hl 0 rfl) ?_
  refine va_get (D := D) (ci := 4) (v := .int f_told) (C := RX4) (T := TX4) (N := 6) hx hb htg in_X4 hown X.1 hP 0 rfl rfl 3 (by decide) (htg _ mw_27) (fun _ h9 => h9) rfl dX4_tell_25 ?_
  refine lv_iload_n hx hb dX4_tell_28 rfl (lv_at hl 3 rfl) ?_
  obtain ⟨g, hw⟩ := hw
  refine va_iast hx hb X.1 hP hD hS 3 0 rfl rfl g dX4_tell_29 (fun H locs hP hD hS => ?_)
  have hP : va_P D classes (w_X4_tell cI cZ h0 h_days h_heights h_knownFrom h_seen f_told f_seenPeak (upd a_days f_told.toNatClampNeg x1) (upd a_heights f_told.toNatClampNeg x2) (upd a_knownFrom f_told.toNatClampNeg x3)) H := hP
  have hD : va_D A (w_X4_tell cI cZ h0 h_days h_heights h_knownFrom h_seen f_told f_seenPeak (upd a_days f_told.toNatClampNeg x1) (upd a_heights f_told.toNatClampNeg x2) (upd a_knownFrom f_told.toNatClampNeg x3)) := hD
  refine lv_aload_n hx hb dX4_tell_30 rfl (lv_at hl 0 rfl) ?_
  refine lv_dup hx hb dX4_tell_31 rfl ?_
  refine va_get (D := D) (ci := 4) (v := .int f_told) (C := RX4) (T := TX4) (N := 6) hx hb htg in_X4 hown X.1 hP 0 rfl rfl 3 (by decide) (htg _ mw_27) (fun _ h9 => h9) rfl dX4_tell_32 ?_
  refine lv_iconst (v := 1) hx hb dX4_tell_35 (by decide) ?_
  refine lv_iadd hx hb dX4_tell_36 ?_
  refine va_put (D := D) (ci := 4) (v := .int (f_told + (1 : Int32))) (ty := .int) (C := RX4) (T := TX4) (N := 6) hx hb htg in_X4 tyX4 tyX4_ok nmX4 hown X.1 hP hD hS 0 rfl rfl 3 (by decide) (htg _ mw_27) (fun _ h9 => h9) rfl (by decide +kernel) rfl rfl (Nat.le_of_ble_eq_true rfl) dX4_tell_37 (fun H locs hP hD hS => ?_)
  have hP : va_P D classes (w_X4_tell cI cZ h0 h_days h_heights h_knownFrom h_seen (f_told + (1 : Int32)) f_seenPeak (upd a_days f_told.toNatClampNeg x1) (upd a_heights f_told.toNatClampNeg x2) (upd a_knownFrom f_told.toNatClampNeg x3)) H := hP
  have hD : va_D A (w_X4_tell cI cZ h0 h_days h_heights h_knownFrom h_seen (f_told + (1 : Int32)) f_seenPeak (upd a_days f_told.toNatClampNeg x1) (upd a_heights f_told.toNatClampNeg x2) (upd a_knownFrom f_told.toNatClampNeg x3)) := hD
  exact hret (f_told + (1 : Int32)) (upd a_days f_told.toNatClampNeg x1) (upd a_heights f_told.toNatClampNeg x2) (upd a_knownFrom f_told.toNatClampNeg x3) H locs _ _ dX4_tell_40 hP hD hS hw
set_option maxHeartbeats 40000000 in
set_option maxRecDepth 100000 in
theorem c_X4_tell (l : Launch) (D : va_G) (cI cZ : ClassId) (ad : (Nat → Nat) × (Nat → Nat)) (sz : Nat) (h0 : Nat) (h_days : Nat) (h_heights : Nat) (h_knownFrom : Nat) (h_seen : Nat) (f_told : Int32) (f_seenPeak : Int32) (a_days : (Nat → Int32)) (a_heights : (Nat → Int32)) (a_knownFrom : (Nat → Int32)) (x1 : Int32) (x2 : Int32) (x3 : Int32)  (Q : Int32 → (Nat → Int32) → (Nat → Int32) → (Nat → Int32) → Prop) (hw : wp_X4_tell f_told a_days a_heights a_knownFrom x1 x2 x3 Q) : Met l yX4_tell ((.code yX4_tell cX4_tell 4 none) :: gw) rm_X4_tell (va_Pc [.ref h0, .int x1, .int x2, .int x3] (PC D cI cZ ad sz (w_X4_tell cI cZ h0 h_days h_heights h_knownFrom h_seen f_told f_seenPeak a_days a_heights a_knownFrom))) (va_Qv (fun (u : Int32 × (Nat → Int32) × (Nat → Int32) × (Nat → Int32)) => Q u.1 u.2.1 u.2.2.1 u.2.2.2) (PW D (va_A (w_X4_tell cI cZ h0 h_days h_heights h_knownFrom h_seen f_told f_seenPeak a_days a_heights a_knownFrom) sz) (fun (u : Int32 × (Nat → Int32) × (Nat → Int32) × (Nat → Int32)) => (w_X4_tell cI cZ h0 h_days h_heights h_knownFrom h_seen u.1 f_seenPeak u.2.1 u.2.2.1 u.2.2.2))) (va_A (w_X4_tell cI cZ h0 h_days h_heights h_knownFrom h_seen f_told f_seenPeak a_days a_heights a_knownFrom) sz)) 0 0 (va_A (w_X4_tell cI cZ h0 h_days h_heights h_knownFrom h_seen f_told f_seenPeak a_days a_heights a_knownFrom) sz) := by
  refine Met.ofW (cc := cX4_tell) (maxL := 4) (ret := none) (by decide) rfl ?_
  intro p e s m args below meth c s₁ B hml hv
  have hst := PC.start hv.2
  obtain ⟨ls, hfr, hl⟩ := en_fr (m := m) [.ref h0, .int x1, .int x2, .int x3] 4 hv.1 (Nat.le_of_ble_eq_true rfl)
  rw [hfr]
  generalize va_A (w_X4_tell cI cZ h0 h_days h_heights h_knownFrom h_seen f_told f_seenPeak a_days a_heights a_knownFrom) sz = A at hst ⊢
  obtain ⟨X, hP, hD⟩ := hst
  exact k_X4_tell B.exec B.bytes hml (findClass_of_methodNamed B.named) (atoms_spec (ws := (.code yX4_tell cX4_tell 4 none) :: gw) B.pre) X h0 h_days h_heights h_knownFrom h_seen f_told f_seenPeak a_days a_heights a_knownFrom x1 x2 x3 Q _ (fun f_told' a_days' a_heights' a_knownFrom' H locs pc ls hdg hP hD hS hw => rt_v (f_told', a_days', a_heights', a_knownFrom') B.exec B.bytes B.returns B.notSynchronized hdg hP hD hS hw) s.heap [] ls hP hD va_S.rf hl hw
set_option maxHeartbeats 40000000 in
set_option maxRecDepth 100000 in
theorem k_X4_carryOn {p : Program} {l : Launch} {e : Env} {s : State} {m : MethodId} {args : Array Value} {below : List Frame} {meth : Method} {c : Code} {D : va_G} {cI cZ : ClassId} {ad : (Nat → Nat) × (Nat → Nat)} {A : Nat → Prop} (hx : p.tables.exec = Jvm.exec) (hb : c.code = cX4_carryOn) (hml : c.maxLocals = 3) (hown : s.vm.findClass RX4 = some m.cls) (hts : ∀ w ∈ (.code yX4_carryOn cX4_carryOn 3 none) :: gw, w.before args s = true) (X : CX D cI cZ ad A s) (h0 : Nat) (h_days : Nat) (h_heights : Nat) (h_knownFrom : Nat) (h_seen : Nat) (f_told : Int32) (f_seenPeak : Int32) (a_seen : (Nat → Int32))  (Q : Int32 → (Nat → Int32) → Prop) (Z : State → Prop) (hret : ∀ (f_seenPeak' : Int32) (a_seen' : (Nat → Int32))  (H : Heap) (locs : List Loc) (pc : Nat) (ls : Array Slot), decode cX4_carryOn pc = .ok (.return_, 1) → va_P D classes (w_X4_carryOn cI cZ h0 h_days h_heights h_knownFrom h_seen f_told f_seenPeak' a_seen') H → va_D A (w_X4_carryOn cI cZ h0 h_days h_heights h_knownFrom h_seen f_told f_seenPeak' a_seen') → va_S A s.heap H locs → Q f_seenPeak' a_seen' → W p l e rm_X4_carryOn s m args below meth c H locs 0 0 Z (F0 m pc ls [])) (H : Heap) (locs : List Loc) (ls : Array Slot) (hP : va_P D classes (w_X4_carryOn cI cZ h0 h_days h_heights h_knownFrom h_seen f_told f_seenPeak a_seen) H) (hD : va_D A (w_X4_carryOn cI cZ h0 h_days h_heights h_knownFrom h_seen f_told f_seenPeak a_seen)) (hS : va_S A s.heap H locs) (hl : lv_has ls 3 [(0, .ref h0)]) (hw : wp_X4_carryOn f_seenPeak a_seen Q) : W p l e rm_X4_carryOn s m args below meth c H locs 0 0 Z (F0 m 0 ls []) := by
  have htg : ∀ w ∈ gw, w.before args s = true := fun w h => hts w (gw_cons w h)
  have bk_32 : ∀ (B_9 : Int32 → (Nat → Int32) → Int32 → Int32 → Prop) (hB_9 : ∀ (f_seenPeak : Int32) (a_seen : (Nat → Int32)) (t1 : Int32) (t2 : Int32) (H : Heap) (locs : List Loc) (ls : Array Slot), va_P D classes (w_X4_carryOn cI cZ h0 h_days h_heights h_knownFrom h_seen f_told f_seenPeak a_seen) H → va_D A (w_X4_carryOn cI cZ h0 h_days h_heights h_knownFrom h_seen f_told f_seenPeak a_seen) → va_S A s.heap H locs → lv_has ls 3 [(0, .ref h0), (1, .int t1), (2, .int t2)] → B_9 f_seenPeak a_seen t1 t2 → W p l e rm_X4_carryOn s m args below meth c H locs 0 0 Z (F0 m 9 ls [])), ∀ (f_seenPeak : Int32) (a_seen : (Nat → Int32)) (t2 : Int32) (H : Heap) (locs : List Loc) (ls : Array Slot), va_P D classes (w_X4_carryOn cI cZ h0 h_days h_heights h_knownFrom h_seen f_told f_seenPeak a_seen) H → va_D A (w_X4_carryOn cI cZ h0 h_days h_heights h_knownFrom h_seen f_told f_seenPeak a_seen) → va_S A s.heap H locs → lv_has ls 3 [(0, .ref h0), (2, .int t2)] → wp_X4_carryOn_b32 Q B_9 f_seenPeak a_seen t2 → W p l e rm_X4_carryOn s m args below meth c H locs 0 0 Z (F0 m 32 ls []) := by
    intro B_9 hB_9 f_seenPeak a_seen t2 H locs ls hP hD hS hl hw
    delta wp_X4_carryOn_b32 at hw
    refine lv_aload_n hx hb dX4_carryOn_32 rfl (lv_at hl 0 rfl) ?_
    refine va_get (D := D) (ci := 4) (v := .ref h_seen) (C := RX4) (T := TX4) (N := 6) hx hb htg in_X4 hown X.1 hP 0 rfl rfl 4 (by decide) (htg _ mw_30) (fun _ h9 => h9) rfl dX4_carryOn_33 ?_
    refine lv_iload_n hx hb dX4_carryOn_36 rfl (lv_at hl 1 rfl) ?_
    obtain ⟨g, hw⟩ := hw
    refine va_iald hx hb X.1 hP 1 0 rfl rfl g dX4_carryOn_37 ?_
    refine lv_istore_n (lv' := [(1, .int (a_seen t2.toNatClampNeg)), (0, .ref h0), (2, .int t2)]) hx hb dX4_carryOn_38 rfl hl (by decide) rfl (fun ls hl => ?_)
    refine lv_aload_n hx hb dX4_carryOn_39 rfl (lv_at hl 1 rfl) ?_
    refine lv_aload_n hx hb dX4_carryOn_40 rfl (lv_at hl 1 rfl) ?_
    refine va_get (D := D) (ci := 4) (v := .int f_seenPeak) (C := RX4) (T := TX4) (N := 6) hx hb htg in_X4 hown X.1 hP 0 rfl rfl 5 (by decide) (htg _ mw_31) (fun _ h9 => h9) rfl dX4_carryOn_41 ?_
    refine lv_iload_n hx hb dX4_carryOn_44 rfl (lv_at hl 0 rfl) ?_
    refine va_mmax hx hb (hml.trans hl.1.symm) hown (htg _ mw_32) (htg _ mw_33) (htg _ mw_34) (htg _ mw_35) (Nat.le_of_ble_eq_true rfl) (Nat.le_of_ble_eq_true rfl) (Nat.zero_le _) (Nat.zero_le _) dX4_carryOn_45 ?_
    refine va_put (D := D) (ci := 4) (v := .int (if f_seenPeak < (a_seen t2.toNatClampNeg) then (a_seen t2.toNatClampNeg) else f_seenPeak)) (ty := .int) (C := RX4) (T := TX4) (N := 6) hx hb htg in_X4 tyX4 tyX4_ok nmX4 hown X.1 hP hD hS 0 rfl rfl 5 (by decide) (htg _ mw_31) (fun _ h9 => h9) rfl (by decide +kernel) rfl rfl (Nat.le_of_ble_eq_true rfl) dX4_carryOn_48 (fun H locs hP hD hS => ?_)
    have hP : va_P D classes (w_X4_carryOn cI cZ h0 h_days h_heights h_knownFrom h_seen f_told (if f_seenPeak < (a_seen t2.toNatClampNeg) then (a_seen t2.toNatClampNeg) else f_seenPeak) a_seen) H := hP
    have hD : va_D A (w_X4_carryOn cI cZ h0 h_days h_heights h_knownFrom h_seen f_told (if f_seenPeak < (a_seen t2.toNatClampNeg) then (a_seen t2.toNatClampNeg) else f_seenPeak) a_seen) := hD
    refine lv_iinc (v := t2 + 1) (lv' := [(2, .int (t2 + 1)), (1, .int (a_seen t2.toNatClampNeg)), (0, .ref h0)]) hx hb dX4_carryOn_51 hl (k := 2) rfl rfl (by decide) rfl (fun ls hl => ?_)
    refine lv_goto (tgt := 9) hx hb dX4_carryOn_54 (by decide) ?_
    exact hB_9 (if f_seenPeak < (a_seen t2.toNatClampNeg) then (a_seen t2.toNatClampNeg) else f_seenPeak) a_seen (a_seen t2.toNatClampNeg) (t2 + 1) H locs ls hP hD hS (lv_sub hl [2, 1, 0] rfl) hw
  have bk_9 : ∀ (f_seenPeak : Int32) (a_seen : (Nat → Int32)) (t1 : Int32) (t2 : Int32) (H : Heap) (locs : List Loc) (ls : Array Slot), va_P D classes (w_X4_carryOn cI cZ h0 h_days h_heights h_knownFrom h_seen f_told f_seenPeak a_seen) H → va_D A (w_X4_carryOn cI cZ h0 h_days h_heights h_knownFrom h_seen f_told f_seenPeak a_seen) → va_S A s.heap H locs → lv_has ls 3 [(0, .ref h0), (1, .int t1), (2, .int t2)] → wp_X4_carryOn_b9 Q f_seenPeak a_seen t1 t2 → W p l e rm_X4_carryOn s m args below meth c H locs 0 0 Z (F0 m 9 ls []) := by
    intro  f_seenPeak a_seen t1 t2 H locs ls hP hD hS hl hw
    delta wp_X4_carryOn_b9 at hw
    obtain ⟨I, μ, hI0, hst⟩ := hw
    have key : ∀ (n : Nat) (f_seenPeak : Int32) (a_seen : (Nat → Int32)) (t1 : Int32) (t2 : Int32) (H : Heap) (locs : List Loc) (ls : Array Slot), va_P D classes (w_X4_carryOn cI cZ h0 h_days h_heights h_knownFrom h_seen f_told f_seenPeak a_seen) H → va_D A (w_X4_carryOn cI cZ h0 h_days h_heights h_knownFrom h_seen f_told f_seenPeak a_seen) → va_S A s.heap H locs → lv_has ls 3 [(0, .ref h0), (1, .int t1), (2, .int t2)] → I f_seenPeak a_seen t1 t2 → μ f_seenPeak a_seen t1 t2 < n → W p l e rm_X4_carryOn s m args below meth c H locs 0 0 Z (F0 m 9 ls []) := by
      intro n
      induction n with
      | zero => intro f_seenPeak a_seen t1 t2 H locs ls hP hD hS hl hI hlt; exact absurd hlt (Nat.not_lt_zero _)
      | succ n ih =>
        intro f_seenPeak a_seen t1 t2 H locs ls hP hD hS hl hI hlt
        have hw := hst f_seenPeak a_seen t1 t2 hI
        refine lv_iload_n hx hb dX4_carryOn_9 rfl (lv_at hl 2 rfl) ?_
        refine lv_bipush (v := 120) hx hb dX4_carryOn_10 (by decide) ?_
        refine lv_icmp_ge (tgt := 57) hx hb dX4_carryOn_12 (by decide) (fun cb => ?_) (fun cb => ?_)
        · have hw := hw.1 cb
          exact hret f_seenPeak a_seen H locs _ _ dX4_carryOn_57 hP hD hS hw
        · have hw := hw.2 cb
          refine lv_aload_n hx hb dX4_carryOn_15 rfl (lv_at hl 0 rfl) ?_
          refine va_get (D := D) (ci := 4) (v := .ref h_seen) (C := RX4) (T := TX4) (N := 6) hx hb htg in_X4 hown X.1 hP 0 rfl rfl 4 (by decide) (htg _ mw_30) (fun _ h9 => h9) rfl dX4_carryOn_16 ?_
          refine lv_iload_n hx hb dX4_carryOn_19 rfl (lv_at hl 2 rfl) ?_
          obtain ⟨g, hw⟩ := hw
          refine va_iald hx hb X.1 hP 1 0 rfl rfl g dX4_carryOn_20 ?_
          refine lv_iconst (v := -1) hx hb dX4_carryOn_21 (by decide) ?_
          refine lv_icmp_ne (tgt := 32) hx hb dX4_carryOn_22 (by decide) (fun cb => ?_) (fun cb => ?_)
          · have hw := hw.1 cb
            exact bk_32 (fun (f_seenPeak' : Int32) (a_seen' : (Nat → Int32)) (t1' : Int32) (t2' : Int32) => I f_seenPeak' a_seen' t1' t2' ∧ μ f_seenPeak' a_seen' t1' t2' < μ f_seenPeak a_seen t1 t2) (fun f_seenPeak' a_seen' t1' t2' H locs ls hP hD hS hl hb' => ih f_seenPeak' a_seen' t1' t2' H locs ls hP hD hS hl hb'.1 (Nat.lt_of_lt_of_le hb'.2 (Nat.le_of_lt_succ hlt))) f_seenPeak a_seen t2 H locs ls hP hD hS (lv_sub hl [0, 2] rfl) hw
          · have hw := hw.2 cb
            refine lv_aload_n hx hb dX4_carryOn_25 rfl (lv_at hl 0 rfl) ?_
            refine va_get (D := D) (ci := 4) (v := .ref h_seen) (C := RX4) (T := TX4) (N := 6) hx hb htg in_X4 hown X.1 hP 0 rfl rfl 4 (by decide) (htg _ mw_30) (fun _ h9 => h9) rfl dX4_carryOn_26 ?_
            refine lv_iload_n hx hb dX4_carryOn_29 rfl (lv_at hl 2 rfl) ?_
            refine lv_iload_n hx hb dX4_carryOn_30 rfl (lv_at hl 1 rfl) ?_
            obtain ⟨g, hw⟩ := hw
            refine va_iast hx hb X.1 hP hD hS 1 0 rfl rfl g dX4_carryOn_31 (fun H locs hP hD hS => ?_)
            have hP : va_P D classes (w_X4_carryOn cI cZ h0 h_days h_heights h_knownFrom h_seen f_told f_seenPeak (upd a_seen t2.toNatClampNeg t1)) H := hP
            have hD : va_D A (w_X4_carryOn cI cZ h0 h_days h_heights h_knownFrom h_seen f_told f_seenPeak (upd a_seen t2.toNatClampNeg t1)) := hD
            exact bk_32 (fun (f_seenPeak' : Int32) (a_seen' : (Nat → Int32)) (t1' : Int32) (t2' : Int32) => I f_seenPeak' a_seen' t1' t2' ∧ μ f_seenPeak' a_seen' t1' t2' < μ f_seenPeak a_seen t1 t2) (fun f_seenPeak' a_seen' t1' t2' H locs ls hP hD hS hl hb' => ih f_seenPeak' a_seen' t1' t2' H locs ls hP hD hS hl hb'.1 (Nat.lt_of_lt_of_le hb'.2 (Nat.le_of_lt_succ hlt))) f_seenPeak (upd a_seen t2.toNatClampNeg t1) t2 H locs ls hP hD hS (lv_sub hl [0, 2] rfl) hw
    exact key (μ f_seenPeak a_seen t1 t2 + 1) f_seenPeak a_seen t1 t2 H locs ls hP hD hS hl hI0 (Nat.lt_succ_self _)
  delta wp_X4_carryOn at hw
  refine lv_iconst (v := 0) hx hb dX4_carryOn_0 (by decide) ?_
  refine lv_istore_n (lv' := [(1, .int (0 : Int32)), (0, .ref h0)]) hx hb dX4_carryOn_1 rfl hl (by decide) rfl (fun ls hl => ?_)
  refine lv_aload_n hx hb dX4_carryOn_2 rfl (lv_at hl 1 rfl) ?_
  refine lv_iconst (v := 0) hx hb dX4_carryOn_3 (by decide) ?_
  refine va_put (D := D) (ci := 4) (v := .int (0 : Int32)) (ty := .int) (C := RX4) (T := TX4) (N := 6) hx hb htg in_X4 tyX4 tyX4_ok nmX4 hown X.1 hP hD hS 0 rfl rfl 5 (by decide) (htg _ mw_31) (fun _ h9 => h9) rfl (by decide +kernel) rfl rfl (Nat.le_of_ble_eq_true rfl) dX4_carryOn_4 (fun H locs hP hD hS => ?_)
  have hP : va_P D classes (w_X4_carryOn cI cZ h0 h_days h_heights h_knownFrom h_seen f_told (0 : Int32) a_seen) H := hP
  have hD : va_D A (w_X4_carryOn cI cZ h0 h_days h_heights h_knownFrom h_seen f_told (0 : Int32) a_seen) := hD
  refine lv_iconst (v := 0) hx hb dX4_carryOn_7 (by decide) ?_
  refine lv_istore_n (lv' := [(2, .int (0 : Int32)), (1, .int (0 : Int32)), (0, .ref h0)]) hx hb dX4_carryOn_8 rfl hl (by decide) rfl (fun ls hl => ?_)
  exact bk_9 (0 : Int32) a_seen (0 : Int32) (0 : Int32) H locs ls hP hD hS (lv_sub hl [2, 1, 0] rfl) hw
set_option maxHeartbeats 40000000 in
set_option maxRecDepth 100000 in
theorem c_X4_carryOn (l : Launch) (D : va_G) (cI cZ : ClassId) (ad : (Nat → Nat) × (Nat → Nat)) (sz : Nat) (h0 : Nat) (h_days : Nat) (h_heights : Nat) (h_knownFrom : Nat) (h_seen : Nat) (f_told : Int32) (f_seenPeak : Int32) (a_seen : (Nat → Int32))  (Q : Int32 → (Nat → Int32) → Prop) (hw : wp_X4_carryOn f_seenPeak a_seen Q) : Met l yX4_carryOn ((.code yX4_carryOn cX4_carryOn 3 none) :: gw) rm_X4_carryOn (va_Pc [.ref h0] (PC D cI cZ ad sz (w_X4_carryOn cI cZ h0 h_days h_heights h_knownFrom h_seen f_told f_seenPeak a_seen))) (va_Qv (fun (u : Int32 × (Nat → Int32)) => Q u.1 u.2) (PW D (va_A (w_X4_carryOn cI cZ h0 h_days h_heights h_knownFrom h_seen f_told f_seenPeak a_seen) sz) (fun (u : Int32 × (Nat → Int32)) => (w_X4_carryOn cI cZ h0 h_days h_heights h_knownFrom h_seen f_told u.1 u.2))) (va_A (w_X4_carryOn cI cZ h0 h_days h_heights h_knownFrom h_seen f_told f_seenPeak a_seen) sz)) 0 0 (va_A (w_X4_carryOn cI cZ h0 h_days h_heights h_knownFrom h_seen f_told f_seenPeak a_seen) sz) := by
  refine Met.ofW (cc := cX4_carryOn) (maxL := 3) (ret := none) (by decide) rfl ?_
  intro p e s m args below meth c s₁ B hml hv
  have hst := PC.start hv.2
  obtain ⟨ls, hfr, hl⟩ := en_fr (m := m) [.ref h0] 3 hv.1 (Nat.le_of_ble_eq_true rfl)
  rw [hfr]
  generalize va_A (w_X4_carryOn cI cZ h0 h_days h_heights h_knownFrom h_seen f_told f_seenPeak a_seen) sz = A at hst ⊢
  obtain ⟨X, hP, hD⟩ := hst
  exact k_X4_carryOn B.exec B.bytes hml (findClass_of_methodNamed B.named) (atoms_spec (ws := (.code yX4_carryOn cX4_carryOn 3 none) :: gw) B.pre) X h0 h_days h_heights h_knownFrom h_seen f_told f_seenPeak a_seen Q _ (fun f_seenPeak' a_seen' H locs pc ls hdg hP hD hS hw => rt_v (f_seenPeak', a_seen') B.exec B.bytes B.returns B.notSynchronized hdg hP hD hS hw) s.heap [] ls hP hD va_S.rf hl hw
set_option maxHeartbeats 40000000 in
set_option maxRecDepth 100000 in
theorem k_X4_lookUpTo {p : Program} {l : Launch} {e : Env} {s : State} {m : MethodId} {args : Array Value} {below : List Frame} {meth : Method} {c : Code} {D : va_G} {cI cZ : ClassId} {ad : (Nat → Nat) × (Nat → Nat)} {A : Nat → Prop} (hx : p.tables.exec = Jvm.exec) (hb : c.code = cX4_lookUpTo) (hml : c.maxLocals = 4) (hown : s.vm.findClass RX4 = some m.cls) (hts : ∀ w ∈ (.code yX4_lookUpTo cX4_lookUpTo 4 none) :: gw, w.before args s = true) (X : CX D cI cZ ad A s) (h0 : Nat) (h_days : Nat) (h_heights : Nat) (h_knownFrom : Nat) (h_seen : Nat) (f_told : Int32) (f_seenPeak : Int32) (a_days : (Nat → Int32)) (a_heights : (Nat → Int32)) (a_knownFrom : (Nat → Int32)) (a_seen : (Nat → Int32)) (x1 : Int32) (x2 : Int32)  (Q : Int32 → (Nat → Int32) → Prop) (Z : State → Prop) (hret : ∀ (f_seenPeak' : Int32) (a_seen' : (Nat → Int32))  (H : Heap) (locs : List Loc) (pc : Nat) (ls : Array Slot), decode cX4_lookUpTo pc = .ok (.return_, 1) → va_P D classes (w_X4_lookUpTo cI cZ h0 h_days h_heights h_knownFrom h_seen f_told f_seenPeak' a_days a_heights a_knownFrom a_seen') H → va_D A (w_X4_lookUpTo cI cZ h0 h_days h_heights h_knownFrom h_seen f_told f_seenPeak' a_days a_heights a_knownFrom a_seen') → va_S A s.heap H locs → Q f_seenPeak' a_seen' → W p l e rm_X4_lookUpTo s m args below meth c H locs 0 0 Z (F0 m pc ls [])) (H : Heap) (locs : List Loc) (ls : Array Slot) (hP : va_P D classes (w_X4_lookUpTo cI cZ h0 h_days h_heights h_knownFrom h_seen f_told f_seenPeak a_days a_heights a_knownFrom a_seen) H) (hD : va_D A (w_X4_lookUpTo cI cZ h0 h_days h_heights h_knownFrom h_seen f_told f_seenPeak a_days a_heights a_knownFrom a_seen)) (hS : va_S A s.heap H locs) (hl : lv_has ls 4 [(0, .ref h0), (1, .int x1), (2, .int x2)]) (hw : wp_X4_lookUpTo f_told f_seenPeak a_days a_heights a_knownFrom a_seen x1 x2 Q) : W p l e rm_X4_lookUpTo s m args below meth c H locs 0 0 Z (F0 m 0 ls []) := by
  have htg : ∀ w ∈ gw, w.before args s = true := fun w h => hts w (gw_cons w h)
  have bk_68 : ∀ (B_23 : Int32 → (Nat → Int32) → Int32 → Prop) (hB_23 : ∀ (f_seenPeak : Int32) (a_seen : (Nat → Int32)) (t3 : Int32) (H : Heap) (locs : List Loc) (ls : Array Slot), va_P D classes (w_X4_lookUpTo cI cZ h0 h_days h_heights h_knownFrom h_seen f_told f_seenPeak a_days a_heights a_knownFrom a_seen) H → va_D A (w_X4_lookUpTo cI cZ h0 h_days h_heights h_knownFrom h_seen f_told f_seenPeak a_days a_heights a_knownFrom a_seen) → va_S A s.heap H locs → lv_has ls 4 [(0, .ref h0), (1, .int x1), (2, .int x2), (3, .int t3)] → B_23 f_seenPeak a_seen t3 → W p l e rm_X4_lookUpTo s m args below meth c H locs 0 0 Z (F0 m 23 ls [])), ∀ (f_seenPeak : Int32) (a_seen : (Nat → Int32)) (t3 : Int32) (H : Heap) (locs : List Loc) (ls : Array Slot), va_P D classes (w_X4_lookUpTo cI cZ h0 h_days h_heights h_knownFrom h_seen f_told f_seenPeak a_days a_heights a_knownFrom a_seen) H → va_D A (w_X4_lookUpTo cI cZ h0 h_days h_heights h_knownFrom h_seen f_told f_seenPeak a_days a_heights a_knownFrom a_seen) → va_S A s.heap H locs → lv_has ls 4 [(0, .ref h0), (1, .int x1), (2, .int x2), (3, .int t3)] → wp_X4_lookUpTo_b68 f_told a_days a_heights a_knownFrom x1 x2 Q B_23 f_seenPeak a_seen t3 → W p l e rm_X4_lookUpTo s m args below meth c H locs 0 0 Z (F0 m 68 ls []) := by
    intro B_23 hB_23 f_seenPeak a_seen t3 H locs ls hP hD hS hl hw
    delta wp_X4_lookUpTo_b68 at hw
    refine lv_iinc (v := t3 + 1) (lv' := [(3, .int (t3 + 1)), (0, .ref h0), (1, .int x1), (2, .int x2)]) hx hb dX4_lookUpTo_68 hl (k := 3) rfl rfl (by decide) rfl (fun ls hl => ?_)
    refine lv_goto (tgt := 23) hx hb dX4_lookUpTo_71 (by decide) ?_
    exact hB_23 f_seenPeak a_seen (t3 + 1) H locs ls hP hD hS (lv_sub hl [1, 2, 3, 0] rfl) hw
  have bk_23 : ∀ (f_seenPeak : Int32) (a_seen : (Nat → Int32)) (t3 : Int32) (H : Heap) (locs : List Loc) (ls : Array Slot), va_P D classes (w_X4_lookUpTo cI cZ h0 h_days h_heights h_knownFrom h_seen f_told f_seenPeak a_days a_heights a_knownFrom a_seen) H → va_D A (w_X4_lookUpTo cI cZ h0 h_days h_heights h_knownFrom h_seen f_told f_seenPeak a_days a_heights a_knownFrom a_seen) → va_S A s.heap H locs → lv_has ls 4 [(0, .ref h0), (1, .int x1), (2, .int x2), (3, .int t3)] → wp_X4_lookUpTo_b23 f_told a_days a_heights a_knownFrom x1 x2 Q f_seenPeak a_seen t3 → W p l e rm_X4_lookUpTo s m args below meth c H locs 0 0 Z (F0 m 23 ls []) := by
    intro  f_seenPeak a_seen t3 H locs ls hP hD hS hl hw
    delta wp_X4_lookUpTo_b23 at hw
    obtain ⟨I, μ, hI0, hst⟩ := hw
    have key : ∀ (n : Nat) (f_seenPeak : Int32) (a_seen : (Nat → Int32)) (t3 : Int32) (H : Heap) (locs : List Loc) (ls : Array Slot), va_P D classes (w_X4_lookUpTo cI cZ h0 h_days h_heights h_knownFrom h_seen f_told f_seenPeak a_days a_heights a_knownFrom a_seen) H → va_D A (w_X4_lookUpTo cI cZ h0 h_days h_heights h_knownFrom h_seen f_told f_seenPeak a_days a_heights a_knownFrom a_seen) → va_S A s.heap H locs → lv_has ls 4 [(0, .ref h0), (1, .int x1), (2, .int x2), (3, .int t3)] → I f_seenPeak a_seen t3 → μ f_seenPeak a_seen t3 < n → W p l e rm_X4_lookUpTo s m args below meth c H locs 0 0 Z (F0 m 23 ls []) := by
      intro n
      induction n with
      | zero => intro f_seenPeak a_seen t3 H locs ls hP hD hS hl hI hlt; exact absurd hlt (Nat.not_lt_zero _)
      | succ n ih =>
        intro f_seenPeak a_seen t3 H locs ls hP hD hS hl hI hlt
        have hw := hst f_seenPeak a_seen t3 hI
        refine lv_iload_n hx hb dX4_lookUpTo_23 rfl (lv_at hl 3 rfl) ?_
        refine lv_aload_n hx hb dX4_lookUpTo_24 rfl (lv_at hl 0 rfl) ?_
        refine va_get (D := D) (ci := 4) (v := .int f_told) (C := RX4) (T := TX4) (N := 6) hx hb htg in_X4 hown X.1 hP 0 rfl rfl 3 (by decide) (htg _ mw_27) (fun _ h9 => h9) rfl dX4_lookUpTo_25 ?_
        refine lv_icmp_ge (tgt := 74) hx hb dX4_lookUpTo_28 (by decide) (fun cb => ?_) (fun cb => ?_)
        · have hw := hw.1 cb
          refine lv_aload_n hx hb dX4_lookUpTo_74 rfl (lv_at hl 0 rfl) ?_
          refine cv_v (rest := []) (ws2 := fun (u : Int32 × (Nat → Int32)) => (w_X4_lookUpTo cI cZ h0 h_days h_heights h_knownFrom h_seen f_told u.1 a_days a_heights a_knownFrom u.2)) ⟨hx, hb, hml, hown, hts⟩ (c_X4_carryOn l D cI cZ ad H.size h0 h_days h_heights h_knownFrom h_seen f_told f_seenPeak a_seen _ hw) (cwV 0 hts (gIV gw_cons mw_36 gy_X4_carryOn) rfl rfl rfl hd_X4_carryOn ⟨Nat.le_of_ble_eq_true rfl, Nat.le_of_ble_eq_true rfl⟩) X hP hD hS [0, 4] [1, 2, 3] [3, 0, 1, 2, 4] rfl rfl rfl rfl rfl rfl (fun u => rfl) 0 4 rfl rfl rfl (lv_sub hl [] rfl) rfl (Nat.le_of_ble_eq_true rfl) dX4_lookUpTo_75 ⟨Nat.zero_le _, Nat.zero_le _⟩ (fun u H locs hw hP hD hS => ?_)
          obtain ⟨f_seenPeak_1, a_seen_2⟩ := u
          try dsimp only at hw
          have hP : va_P D classes (w_X4_lookUpTo cI cZ h0 h_days h_heights h_knownFrom h_seen f_told f_seenPeak_1 a_days a_heights a_knownFrom a_seen_2) H := hP
          have hD : va_D A (w_X4_lookUpTo cI cZ h0 h_days h_heights h_knownFrom h_seen f_told f_seenPeak_1 a_days a_heights a_knownFrom a_seen_2) := hD
          exact hret f_seenPeak_1 a_seen_2 H locs _ _ dX4_lookUpTo_78 hP hD hS hw
        · have hw := hw.2 cb
          refine lv_aload_n hx hb dX4_lookUpTo_31 rfl (lv_at hl 0 rfl) ?_
          refine va_get (D := D) (ci := 4) (v := .ref h_knownFrom) (C := RX4) (T := TX4) (N := 6) hx hb htg in_X4 hown X.1 hP 0 rfl rfl 2 (by decide) (htg _ mw_29) (fun _ h9 => h9) rfl dX4_lookUpTo_32 ?_
          refine lv_iload_n hx hb dX4_lookUpTo_35 rfl (lv_at hl 3 rfl) ?_
          obtain ⟨g, hw⟩ := hw
          refine va_iald hx hb X.1 hP 3 0 rfl rfl g dX4_lookUpTo_36 ?_
          refine lv_iload_n hx hb dX4_lookUpTo_37 rfl (lv_at hl 2 rfl) ?_
          refine lv_icmp_gt (tgt := 68) hx hb dX4_lookUpTo_38 (by decide) (fun cb => ?_) (fun cb => ?_)
          · have hw := hw.1 cb
            exact bk_68 (fun (f_seenPeak' : Int32) (a_seen' : (Nat → Int32)) (t3' : Int32) => I f_seenPeak' a_seen' t3' ∧ μ f_seenPeak' a_seen' t3' < μ f_seenPeak a_seen t3) (fun f_seenPeak' a_seen' t3' H locs ls hP hD hS hl hb' => ih f_seenPeak' a_seen' t3' H locs ls hP hD hS hl hb'.1 (Nat.lt_of_lt_of_le hb'.2 (Nat.le_of_lt_succ hlt))) f_seenPeak a_seen t3 H locs ls hP hD hS (lv_sub hl [0, 1, 2, 3] rfl) hw
          · have hw := hw.2 cb
            refine lv_aload_n hx hb dX4_lookUpTo_41 rfl (lv_at hl 0 rfl) ?_
            refine va_get (D := D) (ci := 4) (v := .ref h_days) (C := RX4) (T := TX4) (N := 6) hx hb htg in_X4 hown X.1 hP 0 rfl rfl 0 (by decide) (htg _ mw_26) (fun _ h9 => h9) rfl dX4_lookUpTo_42 ?_
            refine lv_iload_n hx hb dX4_lookUpTo_45 rfl (lv_at hl 3 rfl) ?_
            obtain ⟨g, hw⟩ := hw
            refine va_iald hx hb X.1 hP 1 0 rfl rfl g dX4_lookUpTo_46 ?_
            refine lv_iload_n hx hb dX4_lookUpTo_47 rfl (lv_at hl 1 rfl) ?_
            refine lv_icmp_gt (tgt := 68) hx hb dX4_lookUpTo_48 (by decide) (fun cb => ?_) (fun cb => ?_)
            · have hw := hw.1 cb
              exact bk_68 (fun (f_seenPeak' : Int32) (a_seen' : (Nat → Int32)) (t3' : Int32) => I f_seenPeak' a_seen' t3' ∧ μ f_seenPeak' a_seen' t3' < μ f_seenPeak a_seen t3) (fun f_seenPeak' a_seen' t3' H locs ls hP hD hS hl hb' => ih f_seenPeak' a_seen' t3' H locs ls hP hD hS hl hb'.1 (Nat.lt_of_lt_of_le hb'.2 (Nat.le_of_lt_succ hlt))) f_seenPeak a_seen t3 H locs ls hP hD hS (lv_sub hl [0, 1, 2, 3] rfl) hw
            · have hw := hw.2 cb
              refine lv_aload_n hx hb dX4_lookUpTo_51 rfl (lv_at hl 0 rfl) ?_
              refine va_get (D := D) (ci := 4) (v := .ref h_seen) (C := RX4) (T := TX4) (N := 6) hx hb htg in_X4 hown X.1 hP 0 rfl rfl 4 (by decide) (htg _ mw_30) (fun _ h9 => h9) rfl dX4_lookUpTo_52 ?_
              refine lv_aload_n hx hb dX4_lookUpTo_55 rfl (lv_at hl 0 rfl) ?_
              refine va_get (D := D) (ci := 4) (v := .ref h_days) (C := RX4) (T := TX4) (N := 6) hx hb htg in_X4 hown X.1 hP 0 rfl rfl 0 (by decide) (htg _ mw_26) (fun _ h9 => h9) rfl dX4_lookUpTo_56 ?_
              refine lv_iload_n hx hb dX4_lookUpTo_59 rfl (lv_at hl 3 rfl) ?_
              obtain ⟨g, hw⟩ := hw
              refine va_iald hx hb X.1 hP 1 0 rfl rfl g dX4_lookUpTo_60 ?_
              refine lv_aload_n hx hb dX4_lookUpTo_61 rfl (lv_at hl 0 rfl) ?_
              refine va_get (D := D) (ci := 4) (v := .ref h_heights) (C := RX4) (T := TX4) (N := 6) hx hb htg in_X4 hown X.1 hP 0 rfl rfl 1 (by decide) (htg _ mw_28) (fun _ h9 => h9) rfl dX4_lookUpTo_62 ?_
              refine lv_iload_n hx hb dX4_lookUpTo_65 rfl (lv_at hl 3 rfl) ?_
              obtain ⟨g, hw⟩ := hw
              refine va_iald hx hb X.1 hP 2 0 rfl rfl g dX4_lookUpTo_66 ?_
              obtain ⟨g, hw⟩ := hw
              refine va_iast hx hb X.1 hP hD hS 4 0 rfl rfl g dX4_lookUpTo_67 (fun H locs hP hD hS => ?_)
              have hP : va_P D classes (w_X4_lookUpTo cI cZ h0 h_days h_heights h_knownFrom h_seen f_told f_seenPeak a_days a_heights a_knownFrom (upd a_seen (a_days t3.toNatClampNeg).toNatClampNeg (a_heights t3.toNatClampNeg))) H := hP
              have hD : va_D A (w_X4_lookUpTo cI cZ h0 h_days h_heights h_knownFrom h_seen f_told f_seenPeak a_days a_heights a_knownFrom (upd a_seen (a_days t3.toNatClampNeg).toNatClampNeg (a_heights t3.toNatClampNeg))) := hD
              exact bk_68 (fun (f_seenPeak' : Int32) (a_seen' : (Nat → Int32)) (t3' : Int32) => I f_seenPeak' a_seen' t3' ∧ μ f_seenPeak' a_seen' t3' < μ f_seenPeak a_seen t3) (fun f_seenPeak' a_seen' t3' H locs ls hP hD hS hl hb' => ih f_seenPeak' a_seen' t3' H locs ls hP hD hS hl hb'.1 (Nat.lt_of_lt_of_le hb'.2 (Nat.le_of_lt_succ hlt))) f_seenPeak (upd a_seen (a_days t3.toNatClampNeg).toNatClampNeg (a_heights t3.toNatClampNeg)) t3 H locs ls hP hD hS (lv_sub hl [0, 1, 2, 3] rfl) hw
    exact key (μ f_seenPeak a_seen t3 + 1) f_seenPeak a_seen t3 H locs ls hP hD hS hl hI0 (Nat.lt_succ_self _)
  have bk_2 : ∀ (f_seenPeak : Int32) (a_seen : (Nat → Int32)) (t3 : Int32) (H : Heap) (locs : List Loc) (ls : Array Slot), va_P D classes (w_X4_lookUpTo cI cZ h0 h_days h_heights h_knownFrom h_seen f_told f_seenPeak a_days a_heights a_knownFrom a_seen) H → va_D A (w_X4_lookUpTo cI cZ h0 h_days h_heights h_knownFrom h_seen f_told f_seenPeak a_days a_heights a_knownFrom a_seen) → va_S A s.heap H locs → lv_has ls 4 [(0, .ref h0), (1, .int x1), (2, .int x2), (3, .int t3)] → wp_X4_lookUpTo_b2 f_told a_days a_heights a_knownFrom x1 x2 Q f_seenPeak a_seen t3 → W p l e rm_X4_lookUpTo s m args below meth c H locs 0 0 Z (F0 m 2 ls []) := by
    intro  f_seenPeak a_seen t3 H locs ls hP hD hS hl hw
    delta wp_X4_lookUpTo_b2 at hw
    obtain ⟨I, μ, hI0, hst⟩ := hw
    have key : ∀ (n : Nat) (f_seenPeak : Int32) (a_seen : (Nat → Int32)) (t3 : Int32) (H : Heap) (locs : List Loc) (ls : Array Slot), va_P D classes (w_X4_lookUpTo cI cZ h0 h_days h_heights h_knownFrom h_seen f_told f_seenPeak a_days a_heights a_knownFrom a_seen) H → va_D A (w_X4_lookUpTo cI cZ h0 h_days h_heights h_knownFrom h_seen f_told f_seenPeak a_days a_heights a_knownFrom a_seen) → va_S A s.heap H locs → lv_has ls 4 [(0, .ref h0), (1, .int x1), (2, .int x2), (3, .int t3)] → I f_seenPeak a_seen t3 → μ f_seenPeak a_seen t3 < n → W p l e rm_X4_lookUpTo s m args below meth c H locs 0 0 Z (F0 m 2 ls []) := by
      intro n
      induction n with
      | zero => intro f_seenPeak a_seen t3 H locs ls hP hD hS hl hI hlt; exact absurd hlt (Nat.not_lt_zero _)
      | succ n ih =>
        intro f_seenPeak a_seen t3 H locs ls hP hD hS hl hI hlt
        have hw := hst f_seenPeak a_seen t3 hI
        refine lv_iload_n hx hb dX4_lookUpTo_2 rfl (lv_at hl 3 rfl) ?_
        refine lv_bipush (v := 120) hx hb dX4_lookUpTo_3 (by decide) ?_
        refine lv_icmp_ge (tgt := 21) hx hb dX4_lookUpTo_5 (by decide) (fun cb => ?_) (fun cb => ?_)
        · have hw := hw.1 cb
          refine lv_iconst (v := 0) hx hb dX4_lookUpTo_21 (by decide) ?_
          refine lv_istore_n (lv' := [(3, .int (0 : Int32)), (0, .ref h0), (1, .int x1), (2, .int x2)]) hx hb dX4_lookUpTo_22 rfl hl (by decide) rfl (fun ls hl => ?_)
          exact bk_23 f_seenPeak a_seen (0 : Int32) H locs ls hP hD hS (lv_sub hl [1, 2, 3, 0] rfl) hw
        · have hw := hw.2 cb
          refine lv_aload_n hx hb dX4_lookUpTo_8 rfl (lv_at hl 0 rfl) ?_
          refine va_get (D := D) (ci := 4) (v := .ref h_seen) (C := RX4) (T := TX4) (N := 6) hx hb htg in_X4 hown X.1 hP 0 rfl rfl 4 (by decide) (htg _ mw_30) (fun _ h9 => h9) rfl dX4_lookUpTo_9 ?_
          refine lv_iload_n hx hb dX4_lookUpTo_12 rfl (lv_at hl 3 rfl) ?_
          refine lv_iconst (v := -1) hx hb dX4_lookUpTo_13 (by decide) ?_
          obtain ⟨g, hw⟩ := hw
          refine va_iast hx hb X.1 hP hD hS 4 0 rfl rfl g dX4_lookUpTo_14 (fun H locs hP hD hS => ?_)
          have hP : va_P D classes (w_X4_lookUpTo cI cZ h0 h_days h_heights h_knownFrom h_seen f_told f_seenPeak a_days a_heights a_knownFrom (upd a_seen t3.toNatClampNeg (-1 : Int32))) H := hP
          have hD : va_D A (w_X4_lookUpTo cI cZ h0 h_days h_heights h_knownFrom h_seen f_told f_seenPeak a_days a_heights a_knownFrom (upd a_seen t3.toNatClampNeg (-1 : Int32))) := hD
          refine lv_iinc (v := t3 + 1) (lv' := [(3, .int (t3 + 1)), (0, .ref h0), (1, .int x1), (2, .int x2)]) hx hb dX4_lookUpTo_15 hl (k := 3) rfl rfl (by decide) rfl (fun ls hl => ?_)
          refine lv_goto (tgt := 2) hx hb dX4_lookUpTo_18 (by decide) ?_
          exact ih f_seenPeak (upd a_seen t3.toNatClampNeg (-1 : Int32)) (t3 + 1) H locs ls hP hD hS (lv_sub hl [1, 2, 3, 0] rfl) hw.1 (Nat.lt_of_lt_of_le hw.2 (Nat.le_of_lt_succ hlt))
    exact key (μ f_seenPeak a_seen t3 + 1) f_seenPeak a_seen t3 H locs ls hP hD hS hl hI0 (Nat.lt_succ_self _)
  delta wp_X4_lookUpTo at hw
  refine lv_iconst (v := 0) hx hb dX4_lookUpTo_0 (by decide) ?_
  refine lv_istore_n (lv' := [(3, .int (0 : Int32)), (0, .ref h0), (1, .int x1), (2, .int x2)]) hx hb dX4_lookUpTo_1 rfl hl (by decide) rfl (fun ls hl => ?_)
  exact bk_2 f_seenPeak a_seen (0 : Int32) H locs ls hP hD hS (lv_sub hl [1, 2, 3, 0] rfl) hw
set_option maxHeartbeats 40000000 in
set_option maxRecDepth 100000 in
theorem c_X4_lookUpTo (l : Launch) (D : va_G) (cI cZ : ClassId) (ad : (Nat → Nat) × (Nat → Nat)) (sz : Nat) (h0 : Nat) (h_days : Nat) (h_heights : Nat) (h_knownFrom : Nat) (h_seen : Nat) (f_told : Int32) (f_seenPeak : Int32) (a_days : (Nat → Int32)) (a_heights : (Nat → Int32)) (a_knownFrom : (Nat → Int32)) (a_seen : (Nat → Int32)) (x1 : Int32) (x2 : Int32)  (Q : Int32 → (Nat → Int32) → Prop) (hw : wp_X4_lookUpTo f_told f_seenPeak a_days a_heights a_knownFrom a_seen x1 x2 Q) : Met l yX4_lookUpTo ((.code yX4_lookUpTo cX4_lookUpTo 4 none) :: gw) rm_X4_lookUpTo (va_Pc [.ref h0, .int x1, .int x2] (PC D cI cZ ad sz (w_X4_lookUpTo cI cZ h0 h_days h_heights h_knownFrom h_seen f_told f_seenPeak a_days a_heights a_knownFrom a_seen))) (va_Qv (fun (u : Int32 × (Nat → Int32)) => Q u.1 u.2) (PW D (va_A (w_X4_lookUpTo cI cZ h0 h_days h_heights h_knownFrom h_seen f_told f_seenPeak a_days a_heights a_knownFrom a_seen) sz) (fun (u : Int32 × (Nat → Int32)) => (w_X4_lookUpTo cI cZ h0 h_days h_heights h_knownFrom h_seen f_told u.1 a_days a_heights a_knownFrom u.2))) (va_A (w_X4_lookUpTo cI cZ h0 h_days h_heights h_knownFrom h_seen f_told f_seenPeak a_days a_heights a_knownFrom a_seen) sz)) 0 0 (va_A (w_X4_lookUpTo cI cZ h0 h_days h_heights h_knownFrom h_seen f_told f_seenPeak a_days a_heights a_knownFrom a_seen) sz) := by
  refine Met.ofW (cc := cX4_lookUpTo) (maxL := 4) (ret := none) (by decide) rfl ?_
  intro p e s m args below meth c s₁ B hml hv
  have hst := PC.start hv.2
  obtain ⟨ls, hfr, hl⟩ := en_fr (m := m) [.ref h0, .int x1, .int x2] 4 hv.1 (Nat.le_of_ble_eq_true rfl)
  rw [hfr]
  generalize va_A (w_X4_lookUpTo cI cZ h0 h_days h_heights h_knownFrom h_seen f_told f_seenPeak a_days a_heights a_knownFrom a_seen) sz = A at hst ⊢
  obtain ⟨X, hP, hD⟩ := hst
  exact k_X4_lookUpTo B.exec B.bytes hml (findClass_of_methodNamed B.named) (atoms_spec (ws := (.code yX4_lookUpTo cX4_lookUpTo 4 none) :: gw) B.pre) X h0 h_days h_heights h_knownFrom h_seen f_told f_seenPeak a_days a_heights a_knownFrom a_seen x1 x2 Q _ (fun f_seenPeak' a_seen' H locs pc ls hdg hP hD hS hw => rt_v (f_seenPeak', a_seen') B.exec B.bytes B.returns B.notSynchronized hdg hP hD hS hw) s.heap [] ls hP hD va_S.rf hl hw
set_option maxHeartbeats 40000000 in
set_option maxRecDepth 100000 in
theorem k_X4_look {p : Program} {l : Launch} {e : Env} {s : State} {m : MethodId} {args : Array Value} {below : List Frame} {meth : Method} {c : Code} {D : va_G} {cI cZ : ClassId} {ad : (Nat → Nat) × (Nat → Nat)} {A : Nat → Prop} (hx : p.tables.exec = Jvm.exec) (hb : c.code = cX4_look) (hml : c.maxLocals = 2) (hown : s.vm.findClass RX4 = some m.cls) (hts : ∀ w ∈ (.code yX4_look cX4_look 2 none) :: gw, w.before args s = true) (X : CX D cI cZ ad A s) (h0 : Nat) (h_days : Nat) (h_heights : Nat) (h_knownFrom : Nat) (h_seen : Nat) (f_told : Int32) (f_seenPeak : Int32) (a_days : (Nat → Int32)) (a_heights : (Nat → Int32)) (a_knownFrom : (Nat → Int32)) (a_seen : (Nat → Int32)) (x1 : Int32)  (Q : Int32 → (Nat → Int32) → Prop) (Z : State → Prop) (hret : ∀ (f_seenPeak' : Int32) (a_seen' : (Nat → Int32))  (H : Heap) (locs : List Loc) (pc : Nat) (ls : Array Slot), decode cX4_look pc = .ok (.return_, 1) → va_P D classes (w_X4_look cI cZ h0 h_days h_heights h_knownFrom h_seen f_told f_seenPeak' a_days a_heights a_knownFrom a_seen') H → va_D A (w_X4_look cI cZ h0 h_days h_heights h_knownFrom h_seen f_told f_seenPeak' a_days a_heights a_knownFrom a_seen') → va_S A s.heap H locs → Q f_seenPeak' a_seen' → W p l e rm_X4_look s m args below meth c H locs 0 0 Z (F0 m pc ls [])) (H : Heap) (locs : List Loc) (ls : Array Slot) (hP : va_P D classes (w_X4_look cI cZ h0 h_days h_heights h_knownFrom h_seen f_told f_seenPeak a_days a_heights a_knownFrom a_seen) H) (hD : va_D A (w_X4_look cI cZ h0 h_days h_heights h_knownFrom h_seen f_told f_seenPeak a_days a_heights a_knownFrom a_seen)) (hS : va_S A s.heap H locs) (hl : lv_has ls 2 [(0, .ref h0), (1, .int x1)]) (hw : wp_X4_look f_told f_seenPeak a_days a_heights a_knownFrom a_seen x1 Q) : W p l e rm_X4_look s m args below meth c H locs 0 0 Z (F0 m 0 ls []) := by
  have htg : ∀ w ∈ gw, w.before args s = true := fun w h => hts w (gw_cons w h)
  delta wp_X4_look at hw
  refine lv_aload_n hx hb dX4_look_0 rfl (lv_at hl 0 rfl) ?_
  refine lv_bipush (v := 119) hx hb dX4_look_1 (by decide) ?_
  refine lv_iload_n hx hb dX4_look_3 rfl (lv_at hl 1 rfl) ?_
  refine cv_v (rest := []) (ws2 := fun (u : Int32 × (Nat → Int32)) => (w_X4_look cI cZ h0 h_days h_heights h_knownFrom h_seen f_told u.1 a_days a_heights a_knownFrom u.2)) ⟨hx, hb, hml, hown, hts⟩ (c_X4_lookUpTo l D cI cZ ad H.size h0 h_days h_heights h_knownFrom h_seen f_told f_seenPeak a_days a_heights a_knownFrom a_seen (119 : Int32) x1 _ hw) (cwV 2 hts (gIV gw_cons mw_37 gy_X4_lookUpTo) rfl rfl rfl hd_X4_lookUpTo ⟨Nat.le_of_ble_eq_true rfl, Nat.le_of_ble_eq_true rfl⟩) X hP hD hS [0, 1, 2, 3, 4] [] [0, 1, 2, 3, 4] rfl rfl rfl rfl rfl rfl (fun u => rfl) 0 4 rfl rfl rfl (lv_sub hl [] rfl) rfl (Nat.le_of_ble_eq_true rfl) dX4_look_4 ⟨Nat.zero_le _, Nat.zero_le _⟩ (fun u H locs hw hP hD hS => ?_)
  obtain ⟨f_seenPeak_1, a_seen_2⟩ := u
  try dsimp only at hw
  have hP : va_P D classes (w_X4_look cI cZ h0 h_days h_heights h_knownFrom h_seen f_told f_seenPeak_1 a_days a_heights a_knownFrom a_seen_2) H := hP
  have hD : va_D A (w_X4_look cI cZ h0 h_days h_heights h_knownFrom h_seen f_told f_seenPeak_1 a_days a_heights a_knownFrom a_seen_2) := hD
  exact hret f_seenPeak_1 a_seen_2 H locs _ _ dX4_look_7 hP hD hS hw
set_option maxHeartbeats 40000000 in
set_option maxRecDepth 100000 in
theorem c_X4_look (l : Launch) (D : va_G) (cI cZ : ClassId) (ad : (Nat → Nat) × (Nat → Nat)) (sz : Nat) (h0 : Nat) (h_days : Nat) (h_heights : Nat) (h_knownFrom : Nat) (h_seen : Nat) (f_told : Int32) (f_seenPeak : Int32) (a_days : (Nat → Int32)) (a_heights : (Nat → Int32)) (a_knownFrom : (Nat → Int32)) (a_seen : (Nat → Int32)) (x1 : Int32)  (Q : Int32 → (Nat → Int32) → Prop) (hw : wp_X4_look f_told f_seenPeak a_days a_heights a_knownFrom a_seen x1 Q) : Met l yX4_look ((.code yX4_look cX4_look 2 none) :: gw) rm_X4_look (va_Pc [.ref h0, .int x1] (PC D cI cZ ad sz (w_X4_look cI cZ h0 h_days h_heights h_knownFrom h_seen f_told f_seenPeak a_days a_heights a_knownFrom a_seen))) (va_Qv (fun (u : Int32 × (Nat → Int32)) => Q u.1 u.2) (PW D (va_A (w_X4_look cI cZ h0 h_days h_heights h_knownFrom h_seen f_told f_seenPeak a_days a_heights a_knownFrom a_seen) sz) (fun (u : Int32 × (Nat → Int32)) => (w_X4_look cI cZ h0 h_days h_heights h_knownFrom h_seen f_told u.1 a_days a_heights a_knownFrom u.2))) (va_A (w_X4_look cI cZ h0 h_days h_heights h_knownFrom h_seen f_told f_seenPeak a_days a_heights a_knownFrom a_seen) sz)) 0 0 (va_A (w_X4_look cI cZ h0 h_days h_heights h_knownFrom h_seen f_told f_seenPeak a_days a_heights a_knownFrom a_seen) sz) := by
  refine Met.ofW (cc := cX4_look) (maxL := 2) (ret := none) (by decide) rfl ?_
  intro p e s m args below meth c s₁ B hml hv
  have hst := PC.start hv.2
  obtain ⟨ls, hfr, hl⟩ := en_fr (m := m) [.ref h0, .int x1] 2 hv.1 (Nat.le_of_ble_eq_true rfl)
  rw [hfr]
  generalize va_A (w_X4_look cI cZ h0 h_days h_heights h_knownFrom h_seen f_told f_seenPeak a_days a_heights a_knownFrom a_seen) sz = A at hst ⊢
  obtain ⟨X, hP, hD⟩ := hst
  exact k_X4_look B.exec B.bytes hml (findClass_of_methodNamed B.named) (atoms_spec (ws := (.code yX4_look cX4_look 2 none) :: gw) B.pre) X h0 h_days h_heights h_knownFrom h_seen f_told f_seenPeak a_days a_heights a_knownFrom a_seen x1 Q _ (fun f_seenPeak' a_seen' H locs pc ls hdg hP hD hS hw => rt_v (f_seenPeak', a_seen') B.exec B.bytes B.returns B.notSynchronized hdg hP hD hS hw) s.heap [] ls hP hD va_S.rf hl hw
set_option maxHeartbeats 40000000 in
set_option maxRecDepth 100000 in
theorem k_X4_wetDays {p : Program} {l : Launch} {e : Env} {s : State} {m : MethodId} {args : Array Value} {below : List Frame} {meth : Method} {c : Code} {D : va_G} {cI cZ : ClassId} {ad : (Nat → Nat) × (Nat → Nat)} {A : Nat → Prop} (hx : p.tables.exec = Jvm.exec) (hb : c.code = cX4_wetDays) (hml : c.maxLocals = 4) (hown : s.vm.findClass RX4 = some m.cls) (hts : ∀ w ∈ (.code yX4_wetDays cX4_wetDays 4 (some .int)) :: gw, w.before args s = true) (X : CX D cI cZ ad A s) (h0 : Nat) (h_days : Nat) (h_heights : Nat) (h_knownFrom : Nat) (h_seen : Nat) (f_told : Int32) (f_seenPeak : Int32) (a_seen : (Nat → Int32)) (x1 : Int32)  (Q : Int32 → Prop) (Z : State → Prop) (hret : ∀ (r : Int32)   (H : Heap) (locs : List Loc) (pc : Nat) (ls : Array Slot), decode cX4_wetDays pc = .ok (.ireturn, 1) → va_P D classes (w_X4_wetDays cI cZ h0 h_days h_heights h_knownFrom h_seen f_told f_seenPeak a_seen) H → va_D A (w_X4_wetDays cI cZ h0 h_days h_heights h_knownFrom h_seen f_told f_seenPeak a_seen) → va_S A s.heap H locs → Q r  → W p l e rm_X4_wetDays s m args below meth c H locs 0 0 Z (F0 m pc ls [.int r])) (H : Heap) (locs : List Loc) (ls : Array Slot) (hP : va_P D classes (w_X4_wetDays cI cZ h0 h_days h_heights h_knownFrom h_seen f_told f_seenPeak a_seen) H) (hD : va_D A (w_X4_wetDays cI cZ h0 h_days h_heights h_knownFrom h_seen f_told f_seenPeak a_seen)) (hS : va_S A s.heap H locs) (hl : lv_has ls 4 [(0, .ref h0), (1, .int x1)]) (hw : wp_X4_wetDays a_seen x1 Q) : W p l e rm_X4_wetDays s m args below meth c H locs 0 0 Z (F0 m 0 ls []) := by
  have htg : ∀ w ∈ gw, w.before args s = true := fun w h => hts w (gw_cons w h)
  have bk_23 : ∀ (B_4 : Int32 → Int32 → Prop) (hB_4 : ∀ (t2 : Int32) (t3 : Int32) (H : Heap) (locs : List Loc) (ls : Array Slot), va_P D classes (w_X4_wetDays cI cZ h0 h_days h_heights h_knownFrom h_seen f_told f_seenPeak a_seen) H → va_D A (w_X4_wetDays cI cZ h0 h_days h_heights h_knownFrom h_seen f_told f_seenPeak a_seen) → va_S A s.heap H locs → lv_has ls 4 [(0, .ref h0), (1, .int x1), (2, .int t2), (3, .int t3)] → B_4 t2 t3 → W p l e rm_X4_wetDays s m args below meth c H locs 0 0 Z (F0 m 4 ls [])), ∀ (t2 : Int32) (t3 : Int32) (H : Heap) (locs : List Loc) (ls : Array Slot), va_P D classes (w_X4_wetDays cI cZ h0 h_days h_heights h_knownFrom h_seen f_told f_seenPeak a_seen) H → va_D A (w_X4_wetDays cI cZ h0 h_days h_heights h_knownFrom h_seen f_told f_seenPeak a_seen) → va_S A s.heap H locs → lv_has ls 4 [(0, .ref h0), (1, .int x1), (2, .int t2), (3, .int t3)] → wp_X4_wetDays_b23 a_seen x1 Q B_4 t2 t3 → W p l e rm_X4_wetDays s m args below meth c H locs 0 0 Z (F0 m 23 ls []) := by
    intro B_4 hB_4 t2 t3 H locs ls hP hD hS hl hw
    delta wp_X4_wetDays_b23 at hw
    refine lv_iinc (v := t3 + 1) (lv' := [(3, .int (t3 + 1)), (0, .ref h0), (1, .int x1), (2, .int t2)]) hx hb dX4_wetDays_23 hl (k := 3) rfl rfl (by decide) rfl (fun ls hl => ?_)
    refine lv_goto (tgt := 4) hx hb dX4_wetDays_26 (by decide) ?_
    exact hB_4 t2 (t3 + 1) H locs ls hP hD hS (lv_sub hl [1, 2, 3, 0] rfl) hw
  have bk_4 : ∀ (t2 : Int32) (t3 : Int32) (H : Heap) (locs : List Loc) (ls : Array Slot), va_P D classes (w_X4_wetDays cI cZ h0 h_days h_heights h_knownFrom h_seen f_told f_seenPeak a_seen) H → va_D A (w_X4_wetDays cI cZ h0 h_days h_heights h_knownFrom h_seen f_told f_seenPeak a_seen) → va_S A s.heap H locs → lv_has ls 4 [(0, .ref h0), (1, .int x1), (2, .int t2), (3, .int t3)] → wp_X4_wetDays_b4 a_seen x1 Q t2 t3 → W p l e rm_X4_wetDays s m args below meth c H locs 0 0 Z (F0 m 4 ls []) := by
    intro  t2 t3 H locs ls hP hD hS hl hw
    delta wp_X4_wetDays_b4 at hw
    obtain ⟨I, μ, hI0, hst⟩ := hw
    have key : ∀ (n : Nat) (t2 : Int32) (t3 : Int32) (H : Heap) (locs : List Loc) (ls : Array Slot), va_P D classes (w_X4_wetDays cI cZ h0 h_days h_heights h_knownFrom h_seen f_told f_seenPeak a_seen) H → va_D A (w_X4_wetDays cI cZ h0 h_days h_heights h_knownFrom h_seen f_told f_seenPeak a_seen) → va_S A s.heap H locs → lv_has ls 4 [(0, .ref h0), (1, .int x1), (2, .int t2), (3, .int t3)] → I t2 t3 → μ t2 t3 < n → W p l e rm_X4_wetDays s m args below meth c H locs 0 0 Z (F0 m 4 ls []) := by
      intro n
      induction n with
      | zero => intro t2 t3 H locs ls hP hD hS hl hI hlt; exact absurd hlt (Nat.not_lt_zero _)
      | succ n ih =>
        intro t2 t3 H locs ls hP hD hS hl hI hlt
        have hw := hst t2 t3 hI
        refine lv_iload_n hx hb dX4_wetDays_4 rfl (lv_at hl 3 rfl) ?_
        refine lv_bipush (v := 120) hx hb dX4_wetDays_5 (by decide) ?_
        refine lv_icmp_ge (tgt := 29) hx hb dX4_wetDays_7 (by decide) (fun cb => ?_) (fun cb => ?_)
        · have hw := hw.1 cb
          refine lv_iload_n hx hb dX4_wetDays_29 rfl (lv_at hl 2 rfl) ?_
          exact hret t2 H locs _ _ dX4_wetDays_30 hP hD hS hw
        · have hw := hw.2 cb
          refine lv_aload_n hx hb dX4_wetDays_10 rfl (lv_at hl 0 rfl) ?_
          refine va_get (D := D) (ci := 4) (v := .ref h_seen) (C := RX4) (T := TX4) (N := 6) hx hb htg in_X4 hown X.1 hP 0 rfl rfl 4 (by decide) (htg _ mw_30) (fun _ h9 => h9) rfl dX4_wetDays_11 ?_
          refine lv_iload_n hx hb dX4_wetDays_14 rfl (lv_at hl 3 rfl) ?_
          obtain ⟨g, hw⟩ := hw
          refine va_iald hx hb X.1 hP 1 0 rfl rfl g dX4_wetDays_15 ?_
          refine lv_iload_n hx hb dX4_wetDays_16 rfl (lv_at hl 1 rfl) ?_
          refine lv_icmp_lt (tgt := 23) hx hb dX4_wetDays_17 (by decide) (fun cb => ?_) (fun cb => ?_)
          · have hw := hw.1 cb
            exact bk_23 (fun (t2' : Int32) (t3' : Int32) => I t2' t3' ∧ μ t2' t3' < μ t2 t3) (fun t2' t3' H locs ls hP hD hS hl hb' => ih t2' t3' H locs ls hP hD hS hl hb'.1 (Nat.lt_of_lt_of_le hb'.2 (Nat.le_of_lt_succ hlt))) t2 t3 H locs ls hP hD hS (lv_sub hl [0, 1, 2, 3] rfl) hw
          · have hw := hw.2 cb
            refine lv_iinc (v := t2 + 1) (lv' := [(2, .int (t2 + 1)), (0, .ref h0), (1, .int x1), (3, .int t3)]) hx hb dX4_wetDays_20 hl (k := 2) rfl rfl (by decide) rfl (fun ls hl => ?_)
            exact bk_23 (fun (t2' : Int32) (t3' : Int32) => I t2' t3' ∧ μ t2' t3' < μ t2 t3) (fun t2' t3' H locs ls hP hD hS hl hb' => ih t2' t3' H locs ls hP hD hS hl hb'.1 (Nat.lt_of_lt_of_le hb'.2 (Nat.le_of_lt_succ hlt))) (t2 + 1) t3 H locs ls hP hD hS (lv_sub hl [1, 2, 0, 3] rfl) hw
    exact key (μ t2 t3 + 1) t2 t3 H locs ls hP hD hS hl hI0 (Nat.lt_succ_self _)
  delta wp_X4_wetDays at hw
  refine lv_iconst (v := 0) hx hb dX4_wetDays_0 (by decide) ?_
  refine lv_istore_n (lv' := [(2, .int (0 : Int32)), (0, .ref h0), (1, .int x1)]) hx hb dX4_wetDays_1 rfl hl (by decide) rfl (fun ls hl => ?_)
  refine lv_iconst (v := 0) hx hb dX4_wetDays_2 (by decide) ?_
  refine lv_istore_n (lv' := [(3, .int (0 : Int32)), (2, .int (0 : Int32)), (0, .ref h0), (1, .int x1)]) hx hb dX4_wetDays_3 rfl hl (by decide) rfl (fun ls hl => ?_)
  exact bk_4 (0 : Int32) (0 : Int32) H locs ls hP hD hS (lv_sub hl [2, 3, 1, 0] rfl) hw
set_option maxHeartbeats 40000000 in
set_option maxRecDepth 100000 in
theorem c_X4_wetDays (l : Launch) (D : va_G) (cI cZ : ClassId) (ad : (Nat → Nat) × (Nat → Nat)) (sz : Nat) (h0 : Nat) (h_days : Nat) (h_heights : Nat) (h_knownFrom : Nat) (h_seen : Nat) (f_told : Int32) (f_seenPeak : Int32) (a_seen : (Nat → Int32)) (x1 : Int32)  (Q : Int32 → Prop) (hw : wp_X4_wetDays a_seen x1 Q) : Met l yX4_wetDays ((.code yX4_wetDays cX4_wetDays 4 (some .int)) :: gw) rm_X4_wetDays (va_Pc [.ref h0, .int x1] (PC D cI cZ ad sz (w_X4_wetDays cI cZ h0 h_days h_heights h_knownFrom h_seen f_told f_seenPeak a_seen))) (va_Qi (fun r (_ : Unit) => Q r) (PW D (va_A (w_X4_wetDays cI cZ h0 h_days h_heights h_knownFrom h_seen f_told f_seenPeak a_seen) sz) (fun (_ : Unit) => (w_X4_wetDays cI cZ h0 h_days h_heights h_knownFrom h_seen f_told f_seenPeak a_seen))) (va_A (w_X4_wetDays cI cZ h0 h_days h_heights h_knownFrom h_seen f_told f_seenPeak a_seen) sz)) 0 0 (va_A (w_X4_wetDays cI cZ h0 h_days h_heights h_knownFrom h_seen f_told f_seenPeak a_seen) sz) := by
  refine Met.ofW (cc := cX4_wetDays) (maxL := 4) (ret := (some .int)) (by decide) rfl ?_
  intro p e s m args below meth c s₁ B hml hv
  have hst := PC.start hv.2
  obtain ⟨ls, hfr, hl⟩ := en_fr (m := m) [.ref h0, .int x1] 4 hv.1 (Nat.le_of_ble_eq_true rfl)
  rw [hfr]
  generalize va_A (w_X4_wetDays cI cZ h0 h_days h_heights h_knownFrom h_seen f_told f_seenPeak a_seen) sz = A at hst ⊢
  obtain ⟨X, hP, hD⟩ := hst
  exact k_X4_wetDays B.exec B.bytes hml (findClass_of_methodNamed B.named) (atoms_spec (ws := (.code yX4_wetDays cX4_wetDays 4 (some .int)) :: gw) B.pre) X h0 h_days h_heights h_knownFrom h_seen f_told f_seenPeak a_seen x1 Q _ (fun r H locs pc ls hdg hP hD hS hw => rt_i () B.exec B.bytes B.returns B.notSynchronized hdg hP hD hS hw) s.heap [] ls hP hD va_S.rf hl hw
set_option maxHeartbeats 40000000 in
set_option maxRecDepth 100000 in
theorem k_X5_add {p : Program} {l : Launch} {e : Env} {s : State} {m : MethodId} {args : Array Value} {below : List Frame} {meth : Method} {c : Code} {D : va_G} {cI cZ : ClassId} {ad : (Nat → Nat) × (Nat → Nat)} {A : Nat → Prop} (hx : p.tables.exec = Jvm.exec) (hb : c.code = cX5_add) (hml : c.maxLocals = 5) (hown : s.vm.findClass RX5 = some m.cls) (hts : ∀ w ∈ (.code yX5_add cX5_add 5 none) :: gw, w.before args s = true) (X : CX D cI cZ ad A s) (h0 : Nat) (h_officers : Nat) (h_strips : Nat) (h_amounts : Nat) (h_knownFrom : Nat) (h_own : Nat) (h_all : Nat) (f_size : Int32) (a_officers : (Nat → Int32)) (a_strips : (Nat → Int32)) (a_amounts : (Nat → Int32)) (a_knownFrom : (Nat → Int32)) (x1 : Int32) (x2 : Int32) (x3 : Int32) (x4 : Int32)  (Q : Int32 → (Nat → Int32) → (Nat → Int32) → (Nat → Int32) → (Nat → Int32) → Prop) (Z : State → Prop) (hret : ∀ (f_size' : Int32) (a_officers' : (Nat → Int32)) (a_strips' : (Nat → Int32)) (a_amounts' : (Nat → Int32)) (a_knownFrom' : (Nat → Int32))  (H : Heap) (locs : List Loc) (pc : Nat) (ls : Array Slot), decode cX5_add pc = .ok (.return_, 1) → va_P D classes (w_X5_add cI cZ h0 h_officers h_strips h_amounts h_knownFrom h_own h_all f_size' a_officers' a_strips' a_amounts' a_knownFrom') H → va_D A (w_X5_add cI cZ h0 h_officers h_strips h_amounts h_knownFrom h_own h_all f_size' a_officers' a_strips' a_amounts' a_knownFrom') → va_S A s.heap H locs → Q f_size' a_officers' a_strips' a_amounts' a_knownFrom' → W p l e rm_X5_add s m args below meth c H locs 0 0 Z (F0 m pc ls [])) (H : Heap) (locs : List Loc) (ls : Array Slot) (hP : va_P D classes (w_X5_add cI cZ h0 h_officers h_strips h_amounts h_knownFrom h_own h_all f_size a_officers a_strips a_amounts a_knownFrom) H) (hD : va_D A (w_X5_add cI cZ h0 h_officers h_strips h_amounts h_knownFrom h_own h_all f_size a_officers a_strips a_amounts a_knownFrom)) (hS : va_S A s.heap H locs) (hl : lv_has ls 5 [(0, .ref h0), (1, .int x1), (2, .int x2), (3, .int x3), (4, .int x4)]) (hw : wp_X5_add f_size a_officers a_strips a_amounts a_knownFrom x1 x2 x3 x4 Q) : W p l e rm_X5_add s m args below meth c H locs 0 0 Z (F0 m 0 ls []) := by
  have htg : ∀ w ∈ gw, w.before args s = true := fun w h => hts w (gw_cons w h)
  delta wp_X5_add at hw
  refine lv_aload_n hx hb dX5_add_0 rfl (lv_at hl 0 rfl) ?_
  refine va_get (D := D) (ci := 5) (v := .ref h_officers) (C := RX5) (T := TX5) (N := 7) hx hb htg in_X5 hown X.1 hP 0 rfl rfl 0 (by decide) (htg _ mw_38) (fun _ h9 => h9) rfl dX5_add_1 ?_
  refine lv_aload_n hx hb dX5_add_4 rfl (lv_at hl 0 rfl) ?_
  refine va_get (D := D) (ci := 5) (v := .int f_size) (C := RX5) (T := TX5) (N := 7) hx hb htg in_X5 hown X.1 hP 0 rfl rfl 6 (by decide) (htg _ mw_39) (fun _ h9 => h9) rfl dX5_add_5 ?_
  refine lv_iload_n hx hb dX5_add_8 rfl (lv_at hl 1 rfl) ?_
  obtain ⟨g, hw⟩ := hw
  refine va_iast hx hb X.1 hP hD hS 1 0 rfl rfl g dX5_add_9 (fun H locs hP hD hS => ?_)
  have hP : va_P D classes (w_X5_add cI cZ h0 h_officers h_strips h_amounts h_knownFrom h_own h_all f_size (upd a_officers f_size.toNatClampNeg x1) a_strips a_amounts a_knownFrom) H := hP
  have hD : va_D A (w_X5_add cI cZ h0 h_officers h_strips h_amounts h_knownFrom h_own h_all f_size (upd a_officers f_size.toNatClampNeg x1) a_strips a_amounts a_knownFrom) := hD
  refine lv_aload_n hx hb dX5_add_10 rfl (lv_at hl 0 rfl) ?_
  refine va_get (D := D) (ci := 5) (v := .ref h_strips) (C := RX5) (T := TX5) (N := 7) hx hb htg in_X5 hown X.1 hP 0 rfl rfl 1 (by decide) (htg _ mw_40) (fun _ h9 => h9) rfl dX5_add_11 ?_
  refine lv_aload_n hx hb dX5_add_14 rfl (lv_at hl 0 rfl) ?_
  refine va_get (D := D) (ci := 5) (v := .int f_size) (C := RX5) (T := TX5) (N := 7) hx hb htg in_X5 hown X.1 hP 0 rfl rfl 6 (by decide) (htg _ mw_39) (fun _ h9 => h9) rfl dX5_add_15 ?_
  refine lv_iload_n hx hb dX5_add_18 rfl (lv_at hl 2 rfl) ?_
  obtain ⟨g, hw⟩ := hw
  refine va_iast hx hb X.1 hP hD hS 2 0 rfl rfl g dX5_add_19 (fun H locs hP hD hS => ?_)
  have hP : va_P D classes (w_X5_add cI cZ h0 h_officers h_strips h_amounts h_knownFrom h_own h_all f_size (upd a_officers f_size.toNatClampNeg x1) (upd a_strips f_size.toNatClampNeg x2) a_amounts a_knownFrom) H := hP
  have hD : va_D A (w_X5_add cI cZ h0 h_officers h_strips h_amounts h_knownFrom h_own h_all f_size (upd a_officers f_size.toNatClampNeg x1) (upd a_strips f_size.toNatClampNeg x2) a_amounts a_knownFrom) := hD
  refine lv_aload_n hx hb dX5_add_20 rfl (lv_at hl 0 rfl) ?_
  refine va_get (D := D) (ci := 5) (v := .ref h_amounts) (C := RX5) (T := TX5) (N := 7) hx hb htg in_X5 hown X.1 hP 0 rfl rfl 2 (by decide) (htg _ mw_41) (fun _ h9 => h9) rfl dX5_add_21 ?_
  refine lv_aload_n hx hb dX5_add_24 rfl (lv_at hl 0 rfl) ?_
  refine va_get (D := D) (ci := 5) (v := .int f_size) (C := RX5) (T := TX5) (N := 7) hx hb htg in_X5 hown X.1 hP 0 rfl rfl 6 (by decide) (htg _ mw_39) (fun _ h9 => h9) rfl dX5_add_25 ?_
  refine lv_iload_n hx hb dX5_add_28 rfl (lv_at hl 3 rfl) ?_
  obtain ⟨g, hw⟩ := hw
  refine va_iast hx hb X.1 hP hD hS 3 0 rfl rfl g dX5_add_29 (fun H locs hP hD hS => ?_)
  have hP : va_P D classes (w_X5_add cI cZ h0 h_officers h_strips h_amounts h_knownFrom h_own h_all f_size (upd a_officers f_size.toNatClampNeg x1) (upd a_strips f_size.toNatClampNeg x2) (upd a_amounts f_size.toNatClampNeg x3) a_knownFrom) H := hP
  have hD : va_D A (w_X5_add cI cZ h0 h_officers h_strips h_amounts h_knownFrom h_own h_all f_size (upd a_officers f_size.toNatClampNeg x1) (upd a_strips f_size.toNatClampNeg x2) (upd a_amounts f_size.toNatClampNeg x3) a_knownFrom) := hD
  refine lv_aload_n hx hb dX5_add_30 rfl (lv_at hl 0 rfl) ?_
  refine va_get (D := D) (ci := 5) (v := .ref h_knownFrom) (C := RX5) (T := TX5) (N := 7) hx hb htg in_X5 hown X.1 hP 0 rfl rfl 3 (by decide) (htg _ mw_42) (fun _ h9 => h9) rfl dX5_add_31 ?_
  refine lv_aload_n hx hb dX5_add_34 rfl (lv_at hl 0 rfl) ?_
  refine va_get (D := D) (ci := 5) (v := .int f_size) (C := RX5) (T := TX5) (N := 7) hx hb htg in_X5 hown X.1 hP 0 rfl rfl 6 (by decide) (htg _ mw_39) (fun _ h9 => h9) rfl dX5_add_35 ?_
  refine lv_iload hx hb dX5_add_38 (lv_at hl 4 rfl) ?_
  obtain ⟨g, hw⟩ := hw
  refine va_iast hx hb X.1 hP hD hS 4 0 rfl rfl g dX5_add_40 (fun H locs hP hD hS => ?_)
  have hP : va_P D classes (w_X5_add cI cZ h0 h_officers h_strips h_amounts h_knownFrom h_own h_all f_size (upd a_officers f_size.toNatClampNeg x1) (upd a_strips f_size.toNatClampNeg x2) (upd a_amounts f_size.toNatClampNeg x3) (upd a_knownFrom f_size.toNatClampNeg x4)) H := hP
  have hD : va_D A (w_X5_add cI cZ h0 h_officers h_strips h_amounts h_knownFrom h_own h_all f_size (upd a_officers f_size.toNatClampNeg x1) (upd a_strips f_size.toNatClampNeg x2) (upd a_amounts f_size.toNatClampNeg x3) (upd a_knownFrom f_size.toNatClampNeg x4)) := hD
  refine lv_aload_n hx hb dX5_add_41 rfl (lv_at hl 0 rfl) ?_
  refine lv_dup hx hb dX5_add_42 rfl ?_
  refine va_get (D := D) (ci := 5) (v := .int f_size) (C := RX5) (T := TX5) (N := 7) hx hb htg in_X5 hown X.1 hP 0 rfl rfl 6 (by decide) (htg _ mw_39) (fun _ h9 => h9) rfl dX5_add_43 ?_
  refine lv_iconst (v := 1) hx hb dX5_add_46 (by decide) ?_
  refine lv_iadd hx hb dX5_add_47 ?_
  refine va_put (D := D) (ci := 5) (v := .int (f_size + (1 : Int32))) (ty := .int) (C := RX5) (T := TX5) (N := 7) hx hb htg in_X5 tyX5 tyX5_ok nmX5 hown X.1 hP hD hS 0 rfl rfl 6 (by decide) (htg _ mw_39) (fun _ h9 => h9) rfl (by decide +kernel) rfl rfl (Nat.le_of_ble_eq_true rfl) dX5_add_48 (fun H locs hP hD hS => ?_)
  have hP : va_P D classes (w_X5_add cI cZ h0 h_officers h_strips h_amounts h_knownFrom h_own h_all (f_size + (1 : Int32)) (upd a_officers f_size.toNatClampNeg x1) (upd a_strips f_size.toNatClampNeg x2) (upd a_amounts f_size.toNatClampNeg x3) (upd a_knownFrom f_size.toNatClampNeg x4)) H := hP
  have hD : va_D A (w_X5_add cI cZ h0 h_officers h_strips h_amounts h_knownFrom h_own h_all (f_size + (1 : Int32)) (upd a_officers f_size.toNatClampNeg x1) (upd a_strips f_size.toNatClampNeg x2) (upd a_amounts f_size.toNatClampNeg x3) (upd a_knownFrom f_size.toNatClampNeg x4)) := hD
  exact hret (f_size + (1 : Int32)) (upd a_officers f_size.toNatClampNeg x1) (upd a_strips f_size.toNatClampNeg x2) (upd a_amounts f_size.toNatClampNeg x3) (upd a_knownFrom f_size.toNatClampNeg x4) H locs _ _ dX5_add_51 hP hD hS hw
set_option maxHeartbeats 40000000 in
set_option maxRecDepth 100000 in
theorem c_X5_add (l : Launch) (D : va_G) (cI cZ : ClassId) (ad : (Nat → Nat) × (Nat → Nat)) (sz : Nat) (h0 : Nat) (h_officers : Nat) (h_strips : Nat) (h_amounts : Nat) (h_knownFrom : Nat) (h_own : Nat) (h_all : Nat) (f_size : Int32) (a_officers : (Nat → Int32)) (a_strips : (Nat → Int32)) (a_amounts : (Nat → Int32)) (a_knownFrom : (Nat → Int32)) (x1 : Int32) (x2 : Int32) (x3 : Int32) (x4 : Int32)  (Q : Int32 → (Nat → Int32) → (Nat → Int32) → (Nat → Int32) → (Nat → Int32) → Prop) (hw : wp_X5_add f_size a_officers a_strips a_amounts a_knownFrom x1 x2 x3 x4 Q) : Met l yX5_add ((.code yX5_add cX5_add 5 none) :: gw) rm_X5_add (va_Pc [.ref h0, .int x1, .int x2, .int x3, .int x4] (PC D cI cZ ad sz (w_X5_add cI cZ h0 h_officers h_strips h_amounts h_knownFrom h_own h_all f_size a_officers a_strips a_amounts a_knownFrom))) (va_Qv (fun (u : Int32 × (Nat → Int32) × (Nat → Int32) × (Nat → Int32) × (Nat → Int32)) => Q u.1 u.2.1 u.2.2.1 u.2.2.2.1 u.2.2.2.2) (PW D (va_A (w_X5_add cI cZ h0 h_officers h_strips h_amounts h_knownFrom h_own h_all f_size a_officers a_strips a_amounts a_knownFrom) sz) (fun (u : Int32 × (Nat → Int32) × (Nat → Int32) × (Nat → Int32) × (Nat → Int32)) => (w_X5_add cI cZ h0 h_officers h_strips h_amounts h_knownFrom h_own h_all u.1 u.2.1 u.2.2.1 u.2.2.2.1 u.2.2.2.2))) (va_A (w_X5_add cI cZ h0 h_officers h_strips h_amounts h_knownFrom h_own h_all f_size a_officers a_strips a_amounts a_knownFrom) sz)) 0 0 (va_A (w_X5_add cI cZ h0 h_officers h_strips h_amounts h_knownFrom h_own h_all f_size a_officers a_strips a_amounts a_knownFrom) sz) := by
  refine Met.ofW (cc := cX5_add) (maxL := 5) (ret := none) (by decide) rfl ?_
  intro p e s m args below meth c s₁ B hml hv
  have hst := PC.start hv.2
  obtain ⟨ls, hfr, hl⟩ := en_fr (m := m) [.ref h0, .int x1, .int x2, .int x3, .int x4] 5 hv.1 (Nat.le_of_ble_eq_true rfl)
  rw [hfr]
  generalize va_A (w_X5_add cI cZ h0 h_officers h_strips h_amounts h_knownFrom h_own h_all f_size a_officers a_strips a_amounts a_knownFrom) sz = A at hst ⊢
  obtain ⟨X, hP, hD⟩ := hst
  exact k_X5_add B.exec B.bytes hml (findClass_of_methodNamed B.named) (atoms_spec (ws := (.code yX5_add cX5_add 5 none) :: gw) B.pre) X h0 h_officers h_strips h_amounts h_knownFrom h_own h_all f_size a_officers a_strips a_amounts a_knownFrom x1 x2 x3 x4 Q _ (fun f_size' a_officers' a_strips' a_amounts' a_knownFrom' H locs pc ls hdg hP hD hS hw => rt_v (f_size', a_officers', a_strips', a_amounts', a_knownFrom') B.exec B.bytes B.returns B.notSynchronized hdg hP hD hS hw) s.heap [] ls hP hD va_S.rf hl hw
set_option maxHeartbeats 40000000 in
set_option maxRecDepth 100000 in
theorem k_X5_sumUp {p : Program} {l : Launch} {e : Env} {s : State} {m : MethodId} {args : Array Value} {below : List Frame} {meth : Method} {c : Code} {D : va_G} {cI cZ : ClassId} {ad : (Nat → Nat) × (Nat → Nat)} {A : Nat → Prop} (hx : p.tables.exec = Jvm.exec) (hb : c.code = cX5_sumUp) (hml : c.maxLocals = 4) (hown : s.vm.findClass RX5 = some m.cls) (hts : ∀ w ∈ (.code yX5_sumUp cX5_sumUp 4 none) :: gw, w.before args s = true) (X : CX D cI cZ ad A s) (h0 : Nat) (h_officers : Nat) (h_strips : Nat) (h_amounts : Nat) (h_knownFrom : Nat) (h_own : Nat) (h_all : Nat) (f_size : Int32) (a_officers : (Nat → Int32)) (a_strips : (Nat → Int32)) (a_amounts : (Nat → Int32)) (a_knownFrom : (Nat → Int32)) (a_own : (Nat → Int32)) (a_all : (Nat → Int32)) (x1 : Int32) (x2 : Int32)  (Q : (Nat → Int32) → (Nat → Int32) → Prop) (Z : State → Prop) (hret : ∀ (a_own' : (Nat → Int32)) (a_all' : (Nat → Int32))  (H : Heap) (locs : List Loc) (pc : Nat) (ls : Array Slot), decode cX5_sumUp pc = .ok (.return_, 1) → va_P D classes (w_X5_sumUp cI cZ h0 h_officers h_strips h_amounts h_knownFrom h_own h_all f_size a_officers a_strips a_amounts a_knownFrom a_own' a_all') H → va_D A (w_X5_sumUp cI cZ h0 h_officers h_strips h_amounts h_knownFrom h_own h_all f_size a_officers a_strips a_amounts a_knownFrom a_own' a_all') → va_S A s.heap H locs → Q a_own' a_all' → W p l e rm_X5_sumUp s m args below meth c H locs 0 0 Z (F0 m pc ls [])) (H : Heap) (locs : List Loc) (ls : Array Slot) (hP : va_P D classes (w_X5_sumUp cI cZ h0 h_officers h_strips h_amounts h_knownFrom h_own h_all f_size a_officers a_strips a_amounts a_knownFrom a_own a_all) H) (hD : va_D A (w_X5_sumUp cI cZ h0 h_officers h_strips h_amounts h_knownFrom h_own h_all f_size a_officers a_strips a_amounts a_knownFrom a_own a_all)) (hS : va_S A s.heap H locs) (hl : lv_has ls 4 [(0, .ref h0), (1, .int x1), (2, .int x2)]) (hw : wp_X5_sumUp f_size a_officers a_strips a_amounts a_knownFrom a_own a_all x1 x2 Q) : W p l e rm_X5_sumUp s m args below meth c H locs 0 0 Z (F0 m 0 ls []) := by
  have htg : ∀ w ∈ gw, w.before args s = true := fun w h => hts w (gw_cons w h)
  have bk_98 : ∀ (B_30 : (Nat → Int32) → (Nat → Int32) → Int32 → Prop) (hB_30 : ∀ (a_own : (Nat → Int32)) (a_all : (Nat → Int32)) (t3 : Int32) (H : Heap) (locs : List Loc) (ls : Array Slot), va_P D classes (w_X5_sumUp cI cZ h0 h_officers h_strips h_amounts h_knownFrom h_own h_all f_size a_officers a_strips a_amounts a_knownFrom a_own a_all) H → va_D A (w_X5_sumUp cI cZ h0 h_officers h_strips h_amounts h_knownFrom h_own h_all f_size a_officers a_strips a_amounts a_knownFrom a_own a_all) → va_S A s.heap H locs → lv_has ls 4 [(0, .ref h0), (1, .int x1), (2, .int x2), (3, .int t3)] → B_30 a_own a_all t3 → W p l e rm_X5_sumUp s m args below meth c H locs 0 0 Z (F0 m 30 ls [])), ∀ (a_own : (Nat → Int32)) (a_all : (Nat → Int32)) (t3 : Int32) (H : Heap) (locs : List Loc) (ls : Array Slot), va_P D classes (w_X5_sumUp cI cZ h0 h_officers h_strips h_amounts h_knownFrom h_own h_all f_size a_officers a_strips a_amounts a_knownFrom a_own a_all) H → va_D A (w_X5_sumUp cI cZ h0 h_officers h_strips h_amounts h_knownFrom h_own h_all f_size a_officers a_strips a_amounts a_knownFrom a_own a_all) → va_S A s.heap H locs → lv_has ls 4 [(0, .ref h0), (1, .int x1), (2, .int x2), (3, .int t3)] → wp_X5_sumUp_b98 f_size a_officers a_strips a_amounts a_knownFrom x1 x2 Q B_30 a_own a_all t3 → W p l e rm_X5_sumUp s m args below meth c H locs 0 0 Z (F0 m 98 ls []) := by
    intro B_30 hB_30 a_own a_all t3 H locs ls hP hD hS hl hw
    delta wp_X5_sumUp_b98 at hw
    refine lv_iinc (v := t3 + 1) (lv' := [(3, .int (t3 + 1)), (0, .ref h0), (1, .int x1), (2, .int x2)]) hx hb dX5_sumUp_98 hl (k := 3) rfl rfl (by decide) rfl (fun ls hl => ?_)
    refine lv_goto (tgt := 30) hx hb dX5_sumUp_101 (by decide) ?_
    exact hB_30 a_own a_all (t3 + 1) H locs ls hP hD hS (lv_sub hl [1, 2, 3, 0] rfl) hw
  have bk_30 : ∀ (a_own : (Nat → Int32)) (a_all : (Nat → Int32)) (t3 : Int32) (H : Heap) (locs : List Loc) (ls : Array Slot), va_P D classes (w_X5_sumUp cI cZ h0 h_officers h_strips h_amounts h_knownFrom h_own h_all f_size a_officers a_strips a_amounts a_knownFrom a_own a_all) H → va_D A (w_X5_sumUp cI cZ h0 h_officers h_strips h_amounts h_knownFrom h_own h_all f_size a_officers a_strips a_amounts a_knownFrom a_own a_all) → va_S A s.heap H locs → lv_has ls 4 [(0, .ref h0), (1, .int x1), (2, .int x2), (3, .int t3)] → wp_X5_sumUp_b30 f_size a_officers a_strips a_amounts a_knownFrom x1 x2 Q a_own a_all t3 → W p l e rm_X5_sumUp s m args below meth c H locs 0 0 Z (F0 m 30 ls []) := by
    intro  a_own a_all t3 H locs ls hP hD hS hl hw
    delta wp_X5_sumUp_b30 at hw
    obtain ⟨I, μ, hI0, hst⟩ := hw
    have key : ∀ (n : Nat) (a_own : (Nat → Int32)) (a_all : (Nat → Int32)) (t3 : Int32) (H : Heap) (locs : List Loc) (ls : Array Slot), va_P D classes (w_X5_sumUp cI cZ h0 h_officers h_strips h_amounts h_knownFrom h_own h_all f_size a_officers a_strips a_amounts a_knownFrom a_own a_all) H → va_D A (w_X5_sumUp cI cZ h0 h_officers h_strips h_amounts h_knownFrom h_own h_all f_size a_officers a_strips a_amounts a_knownFrom a_own a_all) → va_S A s.heap H locs → lv_has ls 4 [(0, .ref h0), (1, .int x1), (2, .int x2), (3, .int t3)] → I a_own a_all t3 → μ a_own a_all t3 < n → W p l e rm_X5_sumUp s m args below meth c H locs 0 0 Z (F0 m 30 ls []) := by
      intro n
      induction n with
      | zero => intro a_own a_all t3 H locs ls hP hD hS hl hI hlt; exact absurd hlt (Nat.not_lt_zero _)
      | succ n ih =>
        intro a_own a_all t3 H locs ls hP hD hS hl hI hlt
        have hw := hst a_own a_all t3 hI
        refine lv_iload_n hx hb dX5_sumUp_30 rfl (lv_at hl 3 rfl) ?_
        refine lv_aload_n hx hb dX5_sumUp_31 rfl (lv_at hl 0 rfl) ?_
        refine va_get (D := D) (ci := 5) (v := .int f_size) (C := RX5) (T := TX5) (N := 7) hx hb htg in_X5 hown X.1 hP 0 rfl rfl 6 (by decide) (htg _ mw_39) (fun _ h9 => h9) rfl dX5_sumUp_32 ?_
        refine lv_icmp_ge (tgt := 104) hx hb dX5_sumUp_35 (by decide) (fun cb => ?_) (fun cb => ?_)
        · have hw := hw.1 cb
          exact hret a_own a_all H locs _ _ dX5_sumUp_104 hP hD hS hw
        · have hw := hw.2 cb
          refine lv_aload_n hx hb dX5_sumUp_38 rfl (lv_at hl 0 rfl) ?_
          refine va_get (D := D) (ci := 5) (v := .ref h_knownFrom) (C := RX5) (T := TX5) (N := 7) hx hb htg in_X5 hown X.1 hP 0 rfl rfl 3 (by decide) (htg _ mw_42) (fun _ h9 => h9) rfl dX5_sumUp_39 ?_
          refine lv_iload_n hx hb dX5_sumUp_42 rfl (lv_at hl 3 rfl) ?_
          obtain ⟨g, hw⟩ := hw
          refine va_iald hx hb X.1 hP 4 0 rfl rfl g dX5_sumUp_43 ?_
          refine lv_iload_n hx hb dX5_sumUp_44 rfl (lv_at hl 2 rfl) ?_
          refine lv_icmp_gt (tgt := 98) hx hb dX5_sumUp_45 (by decide) (fun cb => ?_) (fun cb => ?_)
          · have hw := hw.1 cb
            exact bk_98 (fun (a_own' : (Nat → Int32)) (a_all' : (Nat → Int32)) (t3' : Int32) => I a_own' a_all' t3' ∧ μ a_own' a_all' t3' < μ a_own a_all t3) (fun a_own' a_all' t3' H locs ls hP hD hS hl hb' => ih a_own' a_all' t3' H locs ls hP hD hS hl hb'.1 (Nat.lt_of_lt_of_le hb'.2 (Nat.le_of_lt_succ hlt))) a_own a_all t3 H locs ls hP hD hS (lv_sub hl [0, 1, 2, 3] rfl) hw
          · have hw := hw.2 cb
            refine lv_aload_n hx hb dX5_sumUp_48 rfl (lv_at hl 0 rfl) ?_
            refine va_get (D := D) (ci := 5) (v := .ref h_all) (C := RX5) (T := TX5) (N := 7) hx hb htg in_X5 hown X.1 hP 0 rfl rfl 5 (by decide) (htg _ mw_43) (fun _ h9 => h9) rfl dX5_sumUp_49 ?_
            refine lv_aload_n hx hb dX5_sumUp_52 rfl (lv_at hl 0 rfl) ?_
            refine va_get (D := D) (ci := 5) (v := .ref h_strips) (C := RX5) (T := TX5) (N := 7) hx hb htg in_X5 hown X.1 hP 0 rfl rfl 1 (by decide) (htg _ mw_40) (fun _ h9 => h9) rfl dX5_sumUp_53 ?_
            refine lv_iload_n hx hb dX5_sumUp_56 rfl (lv_at hl 3 rfl) ?_
            obtain ⟨g, hw⟩ := hw
            refine va_iald hx hb X.1 hP 2 0 rfl rfl g dX5_sumUp_57 ?_
            refine lv_dup2_11 hx hb dX5_sumUp_58 rfl rfl ?_
            obtain ⟨g, hw⟩ := hw
            refine va_iald hx hb X.1 hP 6 0 rfl rfl g dX5_sumUp_59 ?_
            refine lv_aload_n hx hb dX5_sumUp_60 rfl (lv_at hl 0 rfl) ?_
            refine va_get (D := D) (ci := 5) (v := .ref h_amounts) (C := RX5) (T := TX5) (N := 7) hx hb htg in_X5 hown X.1 hP 0 rfl rfl 2 (by decide) (htg _ mw_41) (fun _ h9 => h9) rfl dX5_sumUp_61 ?_
            refine lv_iload_n hx hb dX5_sumUp_64 rfl (lv_at hl 3 rfl) ?_
            obtain ⟨g, hw⟩ := hw
            refine va_iald hx hb X.1 hP 3 0 rfl rfl g dX5_sumUp_65 ?_
            refine lv_iadd hx hb dX5_sumUp_66 ?_
            obtain ⟨g, hw⟩ := hw
            refine va_iast hx hb X.1 hP hD hS 6 0 rfl rfl g dX5_sumUp_67 (fun H locs hP hD hS => ?_)
            have hP : va_P D classes (w_X5_sumUp cI cZ h0 h_officers h_strips h_amounts h_knownFrom h_own h_all f_size a_officers a_strips a_amounts a_knownFrom a_own (upd a_all (a_strips t3.toNatClampNeg).toNatClampNeg ((a_all (a_strips t3.toNatClampNeg).toNatClampNeg) + (a_amounts t3.toNatClampNeg)))) H := hP
            have hD : va_D A (w_X5_sumUp cI cZ h0 h_officers h_strips h_amounts h_knownFrom h_own h_all f_size a_officers a_strips a_amounts a_knownFrom a_own (upd a_all (a_strips t3.toNatClampNeg).toNatClampNeg ((a_all (a_strips t3.toNatClampNeg).toNatClampNeg) + (a_amounts t3.toNatClampNeg)))) := hD
            refine lv_aload_n hx hb dX5_sumUp_68 rfl (lv_at hl 0 rfl) ?_
            refine va_get (D := D) (ci := 5) (v := .ref h_officers) (C := RX5) (T := TX5) (N := 7) hx hb htg in_X5 hown X.1 hP 0 rfl rfl 0 (by decide) (htg _ mw_38) (fun _ h9 => h9) rfl dX5_sumUp_69 ?_
            refine lv_iload_n hx hb dX5_sumUp_72 rfl (lv_at hl 3 rfl) ?_
            obtain ⟨g, hw⟩ := hw
            refine va_iald hx hb X.1 hP 1 0 rfl rfl g dX5_sumUp_73 ?_
            refine lv_iload_n hx hb dX5_sumUp_74 rfl (lv_at hl 1 rfl) ?_
            refine lv_icmp_ne (tgt := 98) hx hb dX5_sumUp_75 (by decide) (fun cb => ?_) (fun cb => ?_)
            · have hw := hw.1 cb
              exact bk_98 (fun (a_own' : (Nat → Int32)) (a_all' : (Nat → Int32)) (t3' : Int32) => I a_own' a_all' t3' ∧ μ a_own' a_all' t3' < μ a_own a_all t3) (fun a_own' a_all' t3' H locs ls hP hD hS hl hb' => ih a_own' a_all' t3' H locs ls hP hD hS hl hb'.1 (Nat.lt_of_lt_of_le hb'.2 (Nat.le_of_lt_succ hlt))) a_own (upd a_all (a_strips t3.toNatClampNeg).toNatClampNeg ((a_all (a_strips t3.toNatClampNeg).toNatClampNeg) + (a_amounts t3.toNatClampNeg))) t3 H locs ls hP hD hS (lv_sub hl [0, 1, 2, 3] rfl) hw
            · have hw := hw.2 cb
              refine lv_aload_n hx hb dX5_sumUp_78 rfl (lv_at hl 0 rfl) ?_
              refine va_get (D := D) (ci := 5) (v := .ref h_own) (C := RX5) (T := TX5) (N := 7) hx hb htg in_X5 hown X.1 hP 0 rfl rfl 4 (by decide) (htg _ mw_44) (fun _ h9 => h9) rfl dX5_sumUp_79 ?_
              refine lv_aload_n hx hb dX5_sumUp_82 rfl (lv_at hl 0 rfl) ?_
              refine va_get (D := D) (ci := 5) (v := .ref h_strips) (C := RX5) (T := TX5) (N := 7) hx hb htg in_X5 hown X.1 hP 0 rfl rfl 1 (by decide) (htg _ mw_40) (fun _ h9 => h9) rfl dX5_sumUp_83 ?_
              refine lv_iload_n hx hb dX5_sumUp_86 rfl (lv_at hl 3 rfl) ?_
              obtain ⟨g, hw⟩ := hw
              refine va_iald hx hb X.1 hP 2 0 rfl rfl g dX5_sumUp_87 ?_
              refine lv_dup2_11 hx hb dX5_sumUp_88 rfl rfl ?_
              obtain ⟨g, hw⟩ := hw
              refine va_iald hx hb X.1 hP 5 0 rfl rfl g dX5_sumUp_89 ?_
              refine lv_aload_n hx hb dX5_sumUp_90 rfl (lv_at hl 0 rfl) ?_
              refine va_get (D := D) (ci := 5) (v := .ref h_amounts) (C := RX5) (T := TX5) (N := 7) hx hb htg in_X5 hown X.1 hP 0 rfl rfl 2 (by decide) (htg _ mw_41) (fun _ h9 => h9) rfl dX5_sumUp_91 ?_
              refine lv_iload_n hx hb dX5_sumUp_94 rfl (lv_at hl 3 rfl) ?_
              obtain ⟨g, hw⟩ := hw
              refine va_iald hx hb X.1 hP 3 0 rfl rfl g dX5_sumUp_95 ?_
              refine lv_iadd hx hb dX5_sumUp_96 ?_
              obtain ⟨g, hw⟩ := hw
              refine va_iast hx hb X.1 hP hD hS 5 0 rfl rfl g dX5_sumUp_97 (fun H locs hP hD hS => ?_)
              have hP : va_P D classes (w_X5_sumUp cI cZ h0 h_officers h_strips h_amounts h_knownFrom h_own h_all f_size a_officers a_strips a_amounts a_knownFrom (upd a_own (a_strips t3.toNatClampNeg).toNatClampNeg ((a_own (a_strips t3.toNatClampNeg).toNatClampNeg) + (a_amounts t3.toNatClampNeg))) (upd a_all (a_strips t3.toNatClampNeg).toNatClampNeg ((a_all (a_strips t3.toNatClampNeg).toNatClampNeg) + (a_amounts t3.toNatClampNeg)))) H := hP
              have hD : va_D A (w_X5_sumUp cI cZ h0 h_officers h_strips h_amounts h_knownFrom h_own h_all f_size a_officers a_strips a_amounts a_knownFrom (upd a_own (a_strips t3.toNatClampNeg).toNatClampNeg ((a_own (a_strips t3.toNatClampNeg).toNatClampNeg) + (a_amounts t3.toNatClampNeg))) (upd a_all (a_strips t3.toNatClampNeg).toNatClampNeg ((a_all (a_strips t3.toNatClampNeg).toNatClampNeg) + (a_amounts t3.toNatClampNeg)))) := hD
              exact bk_98 (fun (a_own' : (Nat → Int32)) (a_all' : (Nat → Int32)) (t3' : Int32) => I a_own' a_all' t3' ∧ μ a_own' a_all' t3' < μ a_own a_all t3) (fun a_own' a_all' t3' H locs ls hP hD hS hl hb' => ih a_own' a_all' t3' H locs ls hP hD hS hl hb'.1 (Nat.lt_of_lt_of_le hb'.2 (Nat.le_of_lt_succ hlt))) (upd a_own (a_strips t3.toNatClampNeg).toNatClampNeg ((a_own (a_strips t3.toNatClampNeg).toNatClampNeg) + (a_amounts t3.toNatClampNeg))) (upd a_all (a_strips t3.toNatClampNeg).toNatClampNeg ((a_all (a_strips t3.toNatClampNeg).toNatClampNeg) + (a_amounts t3.toNatClampNeg))) t3 H locs ls hP hD hS (lv_sub hl [0, 1, 2, 3] rfl) hw
    exact key (μ a_own a_all t3 + 1) a_own a_all t3 H locs ls hP hD hS hl hI0 (Nat.lt_succ_self _)
  have bk_2 : ∀ (a_own : (Nat → Int32)) (a_all : (Nat → Int32)) (t3 : Int32) (H : Heap) (locs : List Loc) (ls : Array Slot), va_P D classes (w_X5_sumUp cI cZ h0 h_officers h_strips h_amounts h_knownFrom h_own h_all f_size a_officers a_strips a_amounts a_knownFrom a_own a_all) H → va_D A (w_X5_sumUp cI cZ h0 h_officers h_strips h_amounts h_knownFrom h_own h_all f_size a_officers a_strips a_amounts a_knownFrom a_own a_all) → va_S A s.heap H locs → lv_has ls 4 [(0, .ref h0), (1, .int x1), (2, .int x2), (3, .int t3)] → wp_X5_sumUp_b2 f_size a_officers a_strips a_amounts a_knownFrom x1 x2 Q a_own a_all t3 → W p l e rm_X5_sumUp s m args below meth c H locs 0 0 Z (F0 m 2 ls []) := by
    intro  a_own a_all t3 H locs ls hP hD hS hl hw
    delta wp_X5_sumUp_b2 at hw
    obtain ⟨I, μ, hI0, hst⟩ := hw
    have key : ∀ (n : Nat) (a_own : (Nat → Int32)) (a_all : (Nat → Int32)) (t3 : Int32) (H : Heap) (locs : List Loc) (ls : Array Slot), va_P D classes (w_X5_sumUp cI cZ h0 h_officers h_strips h_amounts h_knownFrom h_own h_all f_size a_officers a_strips a_amounts a_knownFrom a_own a_all) H → va_D A (w_X5_sumUp cI cZ h0 h_officers h_strips h_amounts h_knownFrom h_own h_all f_size a_officers a_strips a_amounts a_knownFrom a_own a_all) → va_S A s.heap H locs → lv_has ls 4 [(0, .ref h0), (1, .int x1), (2, .int x2), (3, .int t3)] → I a_own a_all t3 → μ a_own a_all t3 < n → W p l e rm_X5_sumUp s m args below meth c H locs 0 0 Z (F0 m 2 ls []) := by
      intro n
      induction n with
      | zero => intro a_own a_all t3 H locs ls hP hD hS hl hI hlt; exact absurd hlt (Nat.not_lt_zero _)
      | succ n ih =>
        intro a_own a_all t3 H locs ls hP hD hS hl hI hlt
        have hw := hst a_own a_all t3 hI
        refine lv_iload_n hx hb dX5_sumUp_2 rfl (lv_at hl 3 rfl) ?_
        refine lv_bipush (v := 24) hx hb dX5_sumUp_3 (by decide) ?_
        refine lv_icmp_ge (tgt := 28) hx hb dX5_sumUp_5 (by decide) (fun cb => ?_) (fun cb => ?_)
        · have hw := hw.1 cb
          refine lv_iconst (v := 0) hx hb dX5_sumUp_28 (by decide) ?_
          refine lv_istore_n (lv' := [(3, .int (0 : Int32)), (0, .ref h0), (1, .int x1), (2, .int x2)]) hx hb dX5_sumUp_29 rfl hl (by decide) rfl (fun ls hl => ?_)
          exact bk_30 a_own a_all (0 : Int32) H locs ls hP hD hS (lv_sub hl [1, 2, 3, 0] rfl) hw
        · have hw := hw.2 cb
          refine lv_aload_n hx hb dX5_sumUp_8 rfl (lv_at hl 0 rfl) ?_
          refine va_get (D := D) (ci := 5) (v := .ref h_own) (C := RX5) (T := TX5) (N := 7) hx hb htg in_X5 hown X.1 hP 0 rfl rfl 4 (by decide) (htg _ mw_44) (fun _ h9 => h9) rfl dX5_sumUp_9 ?_
          refine lv_iload_n hx hb dX5_sumUp_12 rfl (lv_at hl 3 rfl) ?_
          refine lv_iconst (v := 0) hx hb dX5_sumUp_13 (by decide) ?_
          obtain ⟨g, hw⟩ := hw
          refine va_iast hx hb X.1 hP hD hS 5 0 rfl rfl g dX5_sumUp_14 (fun H locs hP hD hS => ?_)
          have hP : va_P D classes (w_X5_sumUp cI cZ h0 h_officers h_strips h_amounts h_knownFrom h_own h_all f_size a_officers a_strips a_amounts a_knownFrom (upd a_own t3.toNatClampNeg (0 : Int32)) a_all) H := hP
          have hD : va_D A (w_X5_sumUp cI cZ h0 h_officers h_strips h_amounts h_knownFrom h_own h_all f_size a_officers a_strips a_amounts a_knownFrom (upd a_own t3.toNatClampNeg (0 : Int32)) a_all) := hD
          refine lv_aload_n hx hb dX5_sumUp_15 rfl (lv_at hl 0 rfl) ?_
          refine va_get (D := D) (ci := 5) (v := .ref h_all) (C := RX5) (T := TX5) (N := 7) hx hb htg in_X5 hown X.1 hP 0 rfl rfl 5 (by decide) (htg _ mw_43) (fun _ h9 => h9) rfl dX5_sumUp_16 ?_
          refine lv_iload_n hx hb dX5_sumUp_19 rfl (lv_at hl 3 rfl) ?_
          refine lv_iconst (v := 0) hx hb dX5_sumUp_20 (by decide) ?_
          obtain ⟨g, hw⟩ := hw
          refine va_iast hx hb X.1 hP hD hS 6 0 rfl rfl g dX5_sumUp_21 (fun H locs hP hD hS => ?_)
          have hP : va_P D classes (w_X5_sumUp cI cZ h0 h_officers h_strips h_amounts h_knownFrom h_own h_all f_size a_officers a_strips a_amounts a_knownFrom (upd a_own t3.toNatClampNeg (0 : Int32)) (upd a_all t3.toNatClampNeg (0 : Int32))) H := hP
          have hD : va_D A (w_X5_sumUp cI cZ h0 h_officers h_strips h_amounts h_knownFrom h_own h_all f_size a_officers a_strips a_amounts a_knownFrom (upd a_own t3.toNatClampNeg (0 : Int32)) (upd a_all t3.toNatClampNeg (0 : Int32))) := hD
          refine lv_iinc (v := t3 + 1) (lv' := [(3, .int (t3 + 1)), (0, .ref h0), (1, .int x1), (2, .int x2)]) hx hb dX5_sumUp_22 hl (k := 3) rfl rfl (by decide) rfl (fun ls hl => ?_)
          refine lv_goto (tgt := 2) hx hb dX5_sumUp_25 (by decide) ?_
          exact ih (upd a_own t3.toNatClampNeg (0 : Int32)) (upd a_all t3.toNatClampNeg (0 : Int32)) (t3 + 1) H locs ls hP hD hS (lv_sub hl [1, 2, 3, 0] rfl) hw.1 (Nat.lt_of_lt_of_le hw.2 (Nat.le_of_lt_succ hlt))
    exact key (μ a_own a_all t3 + 1) a_own a_all t3 H locs ls hP hD hS hl hI0 (Nat.lt_succ_self _)
  delta wp_X5_sumUp at hw
  refine lv_iconst (v := 0) hx hb dX5_sumUp_0 (by decide) ?_
  refine lv_istore_n (lv' := [(3, .int (0 : Int32)), (0, .ref h0), (1, .int x1), (2, .int x2)]) hx hb dX5_sumUp_1 rfl hl (by decide) rfl (fun ls hl => ?_)
  exact bk_2 a_own a_all (0 : Int32) H locs ls hP hD hS (lv_sub hl [1, 2, 3, 0] rfl) hw
set_option maxHeartbeats 40000000 in
set_option maxRecDepth 100000 in
theorem c_X5_sumUp (l : Launch) (D : va_G) (cI cZ : ClassId) (ad : (Nat → Nat) × (Nat → Nat)) (sz : Nat) (h0 : Nat) (h_officers : Nat) (h_strips : Nat) (h_amounts : Nat) (h_knownFrom : Nat) (h_own : Nat) (h_all : Nat) (f_size : Int32) (a_officers : (Nat → Int32)) (a_strips : (Nat → Int32)) (a_amounts : (Nat → Int32)) (a_knownFrom : (Nat → Int32)) (a_own : (Nat → Int32)) (a_all : (Nat → Int32)) (x1 : Int32) (x2 : Int32)  (Q : (Nat → Int32) → (Nat → Int32) → Prop) (hw : wp_X5_sumUp f_size a_officers a_strips a_amounts a_knownFrom a_own a_all x1 x2 Q) : Met l yX5_sumUp ((.code yX5_sumUp cX5_sumUp 4 none) :: gw) rm_X5_sumUp (va_Pc [.ref h0, .int x1, .int x2] (PC D cI cZ ad sz (w_X5_sumUp cI cZ h0 h_officers h_strips h_amounts h_knownFrom h_own h_all f_size a_officers a_strips a_amounts a_knownFrom a_own a_all))) (va_Qv (fun (u : (Nat → Int32) × (Nat → Int32)) => Q u.1 u.2) (PW D (va_A (w_X5_sumUp cI cZ h0 h_officers h_strips h_amounts h_knownFrom h_own h_all f_size a_officers a_strips a_amounts a_knownFrom a_own a_all) sz) (fun (u : (Nat → Int32) × (Nat → Int32)) => (w_X5_sumUp cI cZ h0 h_officers h_strips h_amounts h_knownFrom h_own h_all f_size a_officers a_strips a_amounts a_knownFrom u.1 u.2))) (va_A (w_X5_sumUp cI cZ h0 h_officers h_strips h_amounts h_knownFrom h_own h_all f_size a_officers a_strips a_amounts a_knownFrom a_own a_all) sz)) 0 0 (va_A (w_X5_sumUp cI cZ h0 h_officers h_strips h_amounts h_knownFrom h_own h_all f_size a_officers a_strips a_amounts a_knownFrom a_own a_all) sz) := by
  refine Met.ofW (cc := cX5_sumUp) (maxL := 4) (ret := none) (by decide) rfl ?_
  intro p e s m args below meth c s₁ B hml hv
  have hst := PC.start hv.2
  obtain ⟨ls, hfr, hl⟩ := en_fr (m := m) [.ref h0, .int x1, .int x2] 4 hv.1 (Nat.le_of_ble_eq_true rfl)
  rw [hfr]
  generalize va_A (w_X5_sumUp cI cZ h0 h_officers h_strips h_amounts h_knownFrom h_own h_all f_size a_officers a_strips a_amounts a_knownFrom a_own a_all) sz = A at hst ⊢
  obtain ⟨X, hP, hD⟩ := hst
  exact k_X5_sumUp B.exec B.bytes hml (findClass_of_methodNamed B.named) (atoms_spec (ws := (.code yX5_sumUp cX5_sumUp 4 none) :: gw) B.pre) X h0 h_officers h_strips h_amounts h_knownFrom h_own h_all f_size a_officers a_strips a_amounts a_knownFrom a_own a_all x1 x2 Q _ (fun a_own' a_all' H locs pc ls hdg hP hD hS hw => rt_v (a_own', a_all') B.exec B.bytes B.returns B.notSynchronized hdg hP hD hS hw) s.heap [] ls hP hD va_S.rf hl hw
