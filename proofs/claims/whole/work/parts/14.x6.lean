set_option maxHeartbeats 40000000 in
set_option maxRecDepth 100000 in
theorem k_X6_append {p : Program} {l : Launch} {e : Env} {s : State} {m : MethodId} {args : Array Value} {below : List Frame} {meth : Method} {c : Code} {D : va_G} {cI cZ : ClassId} {ad : (Nat → Nat) × (Nat → Nat)} {A : Nat → Prop} (hx : p.tables.exec = Jvm.exec) (hb : c.code = cX6_append) (hml : c.maxLocals = 3) (hown : s.vm.findClass RX6 = some m.cls) (hts : ∀ w ∈ (.code yX6_append cX6_append 3 none) :: gw, w.before args s = true) (X : CX D cI cZ ad A s) (h0 : Nat) (h_bytes : Nat) (f_length : Int32) (f_kind : Int32) (f_start : Int32) (f_after : Int32) (a_bytes : (Nat → Int32)) (x1 : Int32)  (Q : Int32 → (Nat → Int32) → Prop) (Z : State → Prop) (hret : ∀ (f_length' : Int32) (a_bytes' : (Nat → Int32))  (H : Heap) (locs : List Loc) (pc : Nat) (ls : Array Slot), decode cX6_append pc = .ok (.return_, 1) → va_P D classes (w_X6_append cI cZ h0 h_bytes f_length' f_kind f_start f_after a_bytes') H → va_D A (w_X6_append cI cZ h0 h_bytes f_length' f_kind f_start f_after a_bytes') → va_S A s.heap H locs → Q f_length' a_bytes' → W p l e rm_X6_append s m args below meth c H locs 0 0 Z (F0 m pc ls [])) (H : Heap) (locs : List Loc) (ls : Array Slot) (hP : va_P D classes (w_X6_append cI cZ h0 h_bytes f_length f_kind f_start f_after a_bytes) H) (hD : va_D A (w_X6_append cI cZ h0 h_bytes f_length f_kind f_start f_after a_bytes)) (hS : va_S A s.heap H locs) (hl : lv_has ls 3 [(0, .ref h0), (1, .int x1)]) (hw : wp_X6_append f_length a_bytes x1 Q) : W p l e rm_X6_append s m args below meth c H locs 0 0 Z (F0 m 0 ls []) := by
  have htg : ∀ w ∈ gw, w.before args s = true := fun w h => hts w (gw_cons w h)
  have bk_43 : ∀ (B_3 : Int32 → (Nat → Int32) → Int32 → Prop) (hB_3 : ∀ (f_length : Int32) (a_bytes : (Nat → Int32)) (t2 : Int32) (H : Heap) (locs : List Loc) (ls : Array Slot), va_P D classes (w_X6_append cI cZ h0 h_bytes f_length f_kind f_start f_after a_bytes) H → va_D A (w_X6_append cI cZ h0 h_bytes f_length f_kind f_start f_after a_bytes) → va_S A s.heap H locs → lv_has ls 3 [(0, .ref h0), (1, .int x1), (2, .int t2)] → B_3 f_length a_bytes t2 → W p l e rm_X6_append s m args below meth c H locs 0 0 Z (F0 m 3 ls [])), ∀ (f_length : Int32) (a_bytes : (Nat → Int32)) (t2 : Int32) (H : Heap) (locs : List Loc) (ls : Array Slot), va_P D classes (w_X6_append cI cZ h0 h_bytes f_length f_kind f_start f_after a_bytes) H → va_D A (w_X6_append cI cZ h0 h_bytes f_length f_kind f_start f_after a_bytes) → va_S A s.heap H locs → lv_has ls 3 [(0, .ref h0), (1, .int x1), (2, .int t2)] → wp_X6_append_b43 x1 Q B_3 f_length a_bytes t2 → W p l e rm_X6_append s m args below meth c H locs 0 0 Z (F0 m 43 ls []) := by
    intro B_3 hB_3 f_length a_bytes t2 H locs ls hP hD hS hl hw
    delta wp_X6_append_b43 at hw
    refine lv_iinc (v := t2 + (-8)) (lv' := [(2, .int (t2 + (-8))), (0, .ref h0), (1, .int x1)]) hx hb dX6_append_43 hl (k := 2) rfl rfl (by decide) rfl (fun ls hl => ?_)
    refine lv_goto (tgt := 3) hx hb dX6_append_46 (by decide) ?_
    exact hB_3 f_length a_bytes (t2 + (-8)) H locs ls hP hD hS (lv_sub hl [1, 2, 0] rfl) hw
  have bk_3 : ∀ (f_length : Int32) (a_bytes : (Nat → Int32)) (t2 : Int32) (H : Heap) (locs : List Loc) (ls : Array Slot), va_P D classes (w_X6_append cI cZ h0 h_bytes f_length f_kind f_start f_after a_bytes) H → va_D A (w_X6_append cI cZ h0 h_bytes f_length f_kind f_start f_after a_bytes) → va_S A s.heap H locs → lv_has ls 3 [(0, .ref h0), (1, .int x1), (2, .int t2)] → wp_X6_append_b3 x1 Q f_length a_bytes t2 → W p l e rm_X6_append s m args below meth c H locs 0 0 Z (F0 m 3 ls []) := by
    intro  f_length a_bytes t2 H locs ls hP hD hS hl hw
    delta wp_X6_append_b3 at hw
    obtain ⟨I, μ, hI0, hst⟩ := hw
    have key : ∀ (n : Nat) (f_length : Int32) (a_bytes : (Nat → Int32)) (t2 : Int32) (H : Heap) (locs : List Loc) (ls : Array Slot), va_P D classes (w_X6_append cI cZ h0 h_bytes f_length f_kind f_start f_after a_bytes) H → va_D A (w_X6_append cI cZ h0 h_bytes f_length f_kind f_start f_after a_bytes) → va_S A s.heap H locs → lv_has ls 3 [(0, .ref h0), (1, .int x1), (2, .int t2)] → I f_length a_bytes t2 → μ f_length a_bytes t2 < n → W p l e rm_X6_append s m args below meth c H locs 0 0 Z (F0 m 3 ls []) := by
      intro n
      induction n with
      | zero => intro f_length a_bytes t2 H locs ls hP hD hS hl hI hlt; exact absurd hlt (Nat.not_lt_zero _)
      | succ n ih =>
        intro f_length a_bytes t2 H locs ls hP hD hS hl hI hlt
        have hw := hst f_length a_bytes t2 hI
        refine lv_iload_n hx hb dX6_append_3 rfl (lv_at hl 2 rfl) ?_
        refine lv_if_lt (tgt := 49) hx hb dX6_append_4 (by decide) (fun cb => ?_) (fun cb => ?_)
        · have hw := hw.1 cb
          exact hret f_length a_bytes H locs _ _ dX6_append_49 hP hD hS hw
        · have hw := hw.2 cb
          refine lv_aload_n hx hb dX6_append_7 rfl (lv_at hl 0 rfl) ?_
          refine va_get (D := D) (ci := 6) (v := .int f_length) (C := RX6) (T := TX6) (N := 5) hx hb htg in_X6 hown X.1 hP 0 rfl rfl 1 (by decide) (htg _ mw_45) (fun _ h9 => h9) rfl dX6_append_8 ?_
          refine lv_sipush (v := 200) hx hb dX6_append_11 (by decide) ?_
          refine lv_icmp_ge (tgt := 43) hx hb dX6_append_14 (by decide) (fun cb => ?_) (fun cb => ?_)
          · have hw := hw.1 cb
            exact bk_43 (fun (f_length' : Int32) (a_bytes' : (Nat → Int32)) (t2' : Int32) => I f_length' a_bytes' t2' ∧ μ f_length' a_bytes' t2' < μ f_length a_bytes t2) (fun f_length' a_bytes' t2' H locs ls hP hD hS hl hb' => ih f_length' a_bytes' t2' H locs ls hP hD hS hl hb'.1 (Nat.lt_of_lt_of_le hb'.2 (Nat.le_of_lt_succ hlt))) f_length a_bytes t2 H locs ls hP hD hS (lv_sub hl [0, 1, 2] rfl) hw
          · have hw := hw.2 cb
            refine lv_aload_n hx hb dX6_append_17 rfl (lv_at hl 0 rfl) ?_
            refine va_get (D := D) (ci := 6) (v := .ref h_bytes) (C := RX6) (T := TX6) (N := 5) hx hb htg in_X6 hown X.1 hP 0 rfl rfl 0 (by decide) (htg _ mw_46) (fun _ h9 => h9) rfl dX6_append_18 ?_
            refine lv_aload_n hx hb dX6_append_21 rfl (lv_at hl 0 rfl) ?_
            refine va_get (D := D) (ci := 6) (v := .int f_length) (C := RX6) (T := TX6) (N := 5) hx hb htg in_X6 hown X.1 hP 0 rfl rfl 1 (by decide) (htg _ mw_45) (fun _ h9 => h9) rfl dX6_append_22 ?_
            refine lv_iload_n hx hb dX6_append_25 rfl (lv_at hl 1 rfl) ?_
            refine lv_iload_n hx hb dX6_append_26 rfl (lv_at hl 2 rfl) ?_
            refine lv_iushr (v := (x1.toUInt32 >>> (t2.toUInt32 &&& Int32.toUInt32 31)).toInt32) hx hb dX6_append_27 rfl ?_
            refine lv_sipush (v := 255) hx hb dX6_append_28 (by decide) ?_
            refine lv_iand hx hb dX6_append_31 ?_
            obtain ⟨g, hw⟩ := hw
            refine va_iast hx hb X.1 hP hD hS 1 0 rfl rfl g dX6_append_32 (fun H locs hP hD hS => ?_)
            have hP : va_P D classes (w_X6_append cI cZ h0 h_bytes f_length f_kind f_start f_after (upd a_bytes f_length.toNatClampNeg (((x1.toUInt32 >>> (t2.toUInt32 &&& Int32.toUInt32 31)).toInt32) &&& (255 : Int32)))) H := hP
            have hD : va_D A (w_X6_append cI cZ h0 h_bytes f_length f_kind f_start f_after (upd a_bytes f_length.toNatClampNeg (((x1.toUInt32 >>> (t2.toUInt32 &&& Int32.toUInt32 31)).toInt32) &&& (255 : Int32)))) := hD
            refine lv_aload_n hx hb dX6_append_33 rfl (lv_at hl 0 rfl) ?_
            refine lv_dup hx hb dX6_append_34 rfl ?_
            refine va_get (D := D) (ci := 6) (v := .int f_length) (C := RX6) (T := TX6) (N := 5) hx hb htg in_X6 hown X.1 hP 0 rfl rfl 1 (by decide) (htg _ mw_45) (fun _ h9 => h9) rfl dX6_append_35 ?_
            refine lv_iconst (v := 1) hx hb dX6_append_38 (by decide) ?_
            refine lv_iadd hx hb dX6_append_39 ?_
            refine va_put (D := D) (ci := 6) (v := .int (f_length + (1 : Int32))) (ty := .int) (C := RX6) (T := TX6) (N := 5) hx hb htg in_X6 tyX6 tyX6_ok nmX6 hown X.1 hP hD hS 0 rfl rfl 1 (by decide) (htg _ mw_45) (fun _ h9 => h9) rfl (by decide +kernel) rfl rfl (Nat.le_of_ble_eq_true rfl) dX6_append_40 (fun H locs hP hD hS => ?_)
            have hP : va_P D classes (w_X6_append cI cZ h0 h_bytes (f_length + (1 : Int32)) f_kind f_start f_after (upd a_bytes f_length.toNatClampNeg (((x1.toUInt32 >>> (t2.toUInt32 &&& Int32.toUInt32 31)).toInt32) &&& (255 : Int32)))) H := hP
            have hD : va_D A (w_X6_append cI cZ h0 h_bytes (f_length + (1 : Int32)) f_kind f_start f_after (upd a_bytes f_length.toNatClampNeg (((x1.toUInt32 >>> (t2.toUInt32 &&& Int32.toUInt32 31)).toInt32) &&& (255 : Int32)))) := hD
            exact bk_43 (fun (f_length' : Int32) (a_bytes' : (Nat → Int32)) (t2' : Int32) => I f_length' a_bytes' t2' ∧ μ f_length' a_bytes' t2' < μ f_length a_bytes t2) (fun f_length' a_bytes' t2' H locs ls hP hD hS hl hb' => ih f_length' a_bytes' t2' H locs ls hP hD hS hl hb'.1 (Nat.lt_of_lt_of_le hb'.2 (Nat.le_of_lt_succ hlt))) (f_length + (1 : Int32)) (upd a_bytes f_length.toNatClampNeg (((x1.toUInt32 >>> (t2.toUInt32 &&& Int32.toUInt32 31)).toInt32) &&& (255 : Int32))) t2 H locs ls hP hD hS (lv_sub hl [0, 1, 2] rfl) hw
    exact key (μ f_length a_bytes t2 + 1) f_length a_bytes t2 H locs ls hP hD hS hl hI0 (Nat.lt_succ_self _)
  delta wp_X6_append at hw
  refine lv_bipush (v := 24) hx hb dX6_append_0 (by decide) ?_
  refine lv_istore_n (lv' := [(2, .int (24 : Int32)), (0, .ref h0), (1, .int x1)]) hx hb dX6_append_2 rfl hl (by decide) rfl (fun ls hl => ?_)
  exact bk_3 f_length a_bytes (24 : Int32) H locs ls hP hD hS (lv_sub hl [1, 2, 0] rfl) hw
set_option maxHeartbeats 40000000 in
set_option maxRecDepth 100000 in
theorem c_X6_append (l : Launch) (D : va_G) (cI cZ : ClassId) (ad : (Nat → Nat) × (Nat → Nat)) (sz : Nat) (h0 : Nat) (h_bytes : Nat) (f_length : Int32) (f_kind : Int32) (f_start : Int32) (f_after : Int32) (a_bytes : (Nat → Int32)) (x1 : Int32)  (Q : Int32 → (Nat → Int32) → Prop) (hw : wp_X6_append f_length a_bytes x1 Q) : Met l yX6_append ((.code yX6_append cX6_append 3 none) :: gw) rm_X6_append (va_Pc [.ref h0, .int x1] (PC D cI cZ ad sz (w_X6_append cI cZ h0 h_bytes f_length f_kind f_start f_after a_bytes))) (va_Qv (fun (u : Int32 × (Nat → Int32)) => Q u.1 u.2) (PW D (va_A (w_X6_append cI cZ h0 h_bytes f_length f_kind f_start f_after a_bytes) sz) (fun (u : Int32 × (Nat → Int32)) => (w_X6_append cI cZ h0 h_bytes u.1 f_kind f_start f_after u.2))) (va_A (w_X6_append cI cZ h0 h_bytes f_length f_kind f_start f_after a_bytes) sz)) 0 0 (va_A (w_X6_append cI cZ h0 h_bytes f_length f_kind f_start f_after a_bytes) sz) := by
  refine Met.ofW (cc := cX6_append) (maxL := 3) (ret := none) (by decide) rfl ?_
  intro p e s m args below meth c s₁ B hml hv
  have hst := PC.start hv.2
  obtain ⟨ls, hfr, hl⟩ := en_fr (m := m) [.ref h0, .int x1] 3 hv.1 (Nat.le_of_ble_eq_true rfl)
  rw [hfr]
  generalize va_A (w_X6_append cI cZ h0 h_bytes f_length f_kind f_start f_after a_bytes) sz = A at hst ⊢
  obtain ⟨X, hP, hD⟩ := hst
  exact k_X6_append B.exec B.bytes hml (findClass_of_methodNamed B.named) (atoms_spec (ws := (.code yX6_append cX6_append 3 none) :: gw) B.pre) X h0 h_bytes f_length f_kind f_start f_after a_bytes x1 Q _ (fun f_length' a_bytes' H locs pc ls hdg hP hD hS hw => rt_v (f_length', a_bytes') B.exec B.bytes B.returns B.notSynchronized hdg hP hD hS hw) s.heap [] ls hP hD va_S.rf hl hw
set_option maxHeartbeats 40000000 in
set_option maxRecDepth 100000 in
theorem k_X6_kindAt {p : Program} {l : Launch} {e : Env} {s : State} {m : MethodId} {args : Array Value} {below : List Frame} {meth : Method} {c : Code} {D : va_G} {cI cZ : ClassId} {ad : (Nat → Nat) × (Nat → Nat)} {A : Nat → Prop} (hx : p.tables.exec = Jvm.exec) (hb : c.code = cX6_kindAt) (hml : c.maxLocals = 3) (hown : s.vm.findClass RX6 = some m.cls) (hts : ∀ w ∈ (.code yX6_kindAt cX6_kindAt 3 (some .int)) :: gw, w.before args s = true) (X : CX D cI cZ ad A s) (h0 : Nat) (h_bytes : Nat) (f_length : Int32) (f_kind : Int32) (f_start : Int32) (f_after : Int32) (a_bytes : (Nat → Int32)) (x1 : Int32)  (Q : Int32 → Prop) (Z : State → Prop) (hret : ∀ (r : Int32)   (H : Heap) (locs : List Loc) (pc : Nat) (ls : Array Slot), decode cX6_kindAt pc = .ok (.ireturn, 1) → va_P D classes (w_X6_kindAt cI cZ h0 h_bytes f_length f_kind f_start f_after a_bytes) H → va_D A (w_X6_kindAt cI cZ h0 h_bytes f_length f_kind f_start f_after a_bytes) → va_S A s.heap H locs → Q r  → W p l e rm_X6_kindAt s m args below meth c H locs 0 0 Z (F0 m pc ls [.int r])) (H : Heap) (locs : List Loc) (ls : Array Slot) (hP : va_P D classes (w_X6_kindAt cI cZ h0 h_bytes f_length f_kind f_start f_after a_bytes) H) (hD : va_D A (w_X6_kindAt cI cZ h0 h_bytes f_length f_kind f_start f_after a_bytes)) (hS : va_S A s.heap H locs) (hl : lv_has ls 3 [(0, .ref h0), (1, .int x1)]) (hw : wp_X6_kindAt f_length a_bytes x1 Q) : W p l e rm_X6_kindAt s m args below meth c H locs 0 0 Z (F0 m 0 ls []) := by
  have htg : ∀ w ∈ gw, w.before args s = true := fun w h => hts w (gw_cons w h)
  have bk_47 : ∀  (H : Heap) (locs : List Loc) (ls : Array Slot), va_P D classes (w_X6_kindAt cI cZ h0 h_bytes f_length f_kind f_start f_after a_bytes) H → va_D A (w_X6_kindAt cI cZ h0 h_bytes f_length f_kind f_start f_after a_bytes) → va_S A s.heap H locs → lv_has ls 3 [] → wp_X6_kindAt_b47 f_length a_bytes x1 Q → W p l e rm_X6_kindAt s m args below meth c H locs 0 0 Z (F0 m 47 ls []) := by
    intro   H locs ls hP hD hS hl hw
    delta wp_X6_kindAt_b47 at hw
    refine lv_iconst (v := 3) hx hb dX6_kindAt_47 (by decide) ?_
    exact hret (3 : Int32) H locs _ _ dX6_kindAt_48 hP hD hS hw
  have bk_31 : ∀ (t2 : Int32) (H : Heap) (locs : List Loc) (ls : Array Slot), va_P D classes (w_X6_kindAt cI cZ h0 h_bytes f_length f_kind f_start f_after a_bytes) H → va_D A (w_X6_kindAt cI cZ h0 h_bytes f_length f_kind f_start f_after a_bytes) → va_S A s.heap H locs → lv_has ls 3 [(2, .int t2)] → wp_X6_kindAt_b31 f_length a_bytes x1 Q t2 → W p l e rm_X6_kindAt s m args below meth c H locs 0 0 Z (F0 m 31 ls []) := by
    intro  t2 H locs ls hP hD hS hl hw
    delta wp_X6_kindAt_b31 at hw
    refine lv_iload_n hx hb dX6_kindAt_31 rfl (lv_at hl 0 rfl) ?_
    refine lv_bipush (v := 48) hx hb dX6_kindAt_32 (by decide) ?_
    refine lv_icmp_lt (tgt := 47) hx hb dX6_kindAt_34 (by decide) (fun cb => ?_) (fun cb => ?_)
    · have hw := hw.1 cb
      exact bk_47  H locs ls hP hD hS (lv_sub hl [] rfl) hw
    · have hw := hw.2 cb
      refine lv_iload_n hx hb dX6_kindAt_37 rfl (lv_at hl 0 rfl) ?_
      refine lv_bipush (v := 57) hx hb dX6_kindAt_38 (by decide) ?_
      refine lv_icmp_gt (tgt := 47) hx hb dX6_kindAt_40 (by decide) (fun cb => ?_) (fun cb => ?_)
      · have hw := hw.1 cb
        exact bk_47  H locs ls hP hD hS (lv_sub hl [] rfl) hw
      · have hw := hw.2 cb
        refine lv_iconst (v := 2) hx hb dX6_kindAt_43 (by decide) ?_
        refine lv_goto (tgt := 48) hx hb dX6_kindAt_44 (by decide) ?_
        exact hret (2 : Int32) H locs _ _ dX6_kindAt_48 hP hD hS hw
  delta wp_X6_kindAt at hw
  refine lv_iload_n hx hb dX6_kindAt_0 rfl (lv_at hl 1 rfl) ?_
  refine lv_aload_n hx hb dX6_kindAt_1 rfl (lv_at hl 0 rfl) ?_
  refine va_get (D := D) (ci := 6) (v := .int f_length) (C := RX6) (T := TX6) (N := 5) hx hb htg in_X6 hown X.1 hP 0 rfl rfl 1 (by decide) (htg _ mw_45) (fun _ h9 => h9) rfl dX6_kindAt_2 ?_
  refine lv_icmp_lt (tgt := 10) hx hb dX6_kindAt_5 (by decide) (fun cb => ?_) (fun cb => ?_)
  · have hw := hw.1 cb
    refine lv_aload_n hx hb dX6_kindAt_10 rfl (lv_at hl 0 rfl) ?_
    refine va_get (D := D) (ci := 6) (v := .ref h_bytes) (C := RX6) (T := TX6) (N := 5) hx hb htg in_X6 hown X.1 hP 0 rfl rfl 0 (by decide) (htg _ mw_46) (fun _ h9 => h9) rfl dX6_kindAt_11 ?_
    refine lv_iload_n hx hb dX6_kindAt_14 rfl (lv_at hl 1 rfl) ?_
    obtain ⟨g, hw⟩ := hw
    refine va_iald hx hb X.1 hP 1 0 rfl rfl g dX6_kindAt_15 ?_
    refine lv_istore_n (lv' := [(2, .int (a_bytes x1.toNatClampNeg)), (0, .ref h0), (1, .int x1)]) hx hb dX6_kindAt_16 rfl hl (by decide) rfl (fun ls hl => ?_)
    refine lv_iload_n hx hb dX6_kindAt_17 rfl (lv_at hl 0 rfl) ?_
    refine lv_bipush (v := 97) hx hb dX6_kindAt_18 (by decide) ?_
    refine lv_icmp_lt (tgt := 31) hx hb dX6_kindAt_20 (by decide) (fun cb => ?_) (fun cb => ?_)
    · have hw := hw.1 cb
      exact bk_31 (a_bytes x1.toNatClampNeg) H locs ls hP hD hS (lv_sub hl [0] rfl) hw
    · have hw := hw.2 cb
      refine lv_iload_n hx hb dX6_kindAt_23 rfl (lv_at hl 0 rfl) ?_
      refine lv_bipush (v := 122) hx hb dX6_kindAt_24 (by decide) ?_
      refine lv_icmp_gt (tgt := 31) hx hb dX6_kindAt_26 (by decide) (fun cb => ?_) (fun cb => ?_)
      · have hw := hw.1 cb
        exact bk_31 (a_bytes x1.toNatClampNeg) H locs ls hP hD hS (lv_sub hl [0] rfl) hw
      · have hw := hw.2 cb
        refine lv_iconst (v := 1) hx hb dX6_kindAt_29 (by decide) ?_
        exact hret (1 : Int32) H locs _ _ dX6_kindAt_30 hP hD hS hw
  · have hw := hw.2 cb
    refine lv_iconst (v := 0) hx hb dX6_kindAt_8 (by decide) ?_
    exact hret (0 : Int32) H locs _ _ dX6_kindAt_9 hP hD hS hw
set_option maxHeartbeats 40000000 in
set_option maxRecDepth 100000 in
theorem c_X6_kindAt (l : Launch) (D : va_G) (cI cZ : ClassId) (ad : (Nat → Nat) × (Nat → Nat)) (sz : Nat) (h0 : Nat) (h_bytes : Nat) (f_length : Int32) (f_kind : Int32) (f_start : Int32) (f_after : Int32) (a_bytes : (Nat → Int32)) (x1 : Int32)  (Q : Int32 → Prop) (hw : wp_X6_kindAt f_length a_bytes x1 Q) : Met l yX6_kindAt ((.code yX6_kindAt cX6_kindAt 3 (some .int)) :: gw) rm_X6_kindAt (va_Pc [.ref h0, .int x1] (PC D cI cZ ad sz (w_X6_kindAt cI cZ h0 h_bytes f_length f_kind f_start f_after a_bytes))) (va_Qi (fun r (_ : Unit) => Q r) (PW D (va_A (w_X6_kindAt cI cZ h0 h_bytes f_length f_kind f_start f_after a_bytes) sz) (fun (_ : Unit) => (w_X6_kindAt cI cZ h0 h_bytes f_length f_kind f_start f_after a_bytes))) (va_A (w_X6_kindAt cI cZ h0 h_bytes f_length f_kind f_start f_after a_bytes) sz)) 0 0 (va_A (w_X6_kindAt cI cZ h0 h_bytes f_length f_kind f_start f_after a_bytes) sz) := by
  refine Met.ofW (cc := cX6_kindAt) (maxL := 3) (ret := (some .int)) (by decide) rfl ?_
  intro p e s m args below meth c s₁ B hml hv
  have hst := PC.start hv.2
  obtain ⟨ls, hfr, hl⟩ := en_fr (m := m) [.ref h0, .int x1] 3 hv.1 (Nat.le_of_ble_eq_true rfl)
  rw [hfr]
  generalize va_A (w_X6_kindAt cI cZ h0 h_bytes f_length f_kind f_start f_after a_bytes) sz = A at hst ⊢
  obtain ⟨X, hP, hD⟩ := hst
  exact k_X6_kindAt B.exec B.bytes hml (findClass_of_methodNamed B.named) (atoms_spec (ws := (.code yX6_kindAt cX6_kindAt 3 (some .int)) :: gw) B.pre) X h0 h_bytes f_length f_kind f_start f_after a_bytes x1 Q _ (fun r H locs pc ls hdg hP hD hS hw => rt_i () B.exec B.bytes B.returns B.notSynchronized hdg hP hD hS hw) s.heap [] ls hP hD va_S.rf hl hw
set_option maxHeartbeats 40000000 in
set_option maxRecDepth 100000 in
theorem k_X6_nextToken {p : Program} {l : Launch} {e : Env} {s : State} {m : MethodId} {args : Array Value} {below : List Frame} {meth : Method} {c : Code} {D : va_G} {cI cZ : ClassId} {ad : (Nat → Nat) × (Nat → Nat)} {A : Nat → Prop} (hx : p.tables.exec = Jvm.exec) (hb : c.code = cX6_nextToken) (hml : c.maxLocals = 2) (hown : s.vm.findClass RX6 = some m.cls) (hts : ∀ w ∈ (.code yX6_nextToken cX6_nextToken 2 none) :: gw, w.before args s = true) (X : CX D cI cZ ad A s) (h0 : Nat) (h_bytes : Nat) (f_length : Int32) (f_kind : Int32) (f_start : Int32) (f_after : Int32) (a_bytes : (Nat → Int32))  (Q : Int32 → Int32 → Int32 → Prop) (Z : State → Prop) (hret : ∀ (f_kind' : Int32) (f_start' : Int32) (f_after' : Int32)  (H : Heap) (locs : List Loc) (pc : Nat) (ls : Array Slot), decode cX6_nextToken pc = .ok (.return_, 1) → va_P D classes (w_X6_nextToken cI cZ h0 h_bytes f_length f_kind' f_start' f_after' a_bytes) H → va_D A (w_X6_nextToken cI cZ h0 h_bytes f_length f_kind' f_start' f_after' a_bytes) → va_S A s.heap H locs → Q f_kind' f_start' f_after' → W p l e rm_X6_nextToken s m args below meth c H locs 0 0 Z (F0 m pc ls [])) (H : Heap) (locs : List Loc) (ls : Array Slot) (hP : va_P D classes (w_X6_nextToken cI cZ h0 h_bytes f_length f_kind f_start f_after a_bytes) H) (hD : va_D A (w_X6_nextToken cI cZ h0 h_bytes f_length f_kind f_start f_after a_bytes)) (hS : va_S A s.heap H locs) (hl : lv_has ls 2 [(0, .ref h0)]) (hw : wp_X6_nextToken f_length f_kind f_start f_after a_bytes Q) : W p l e rm_X6_nextToken s m args below meth c H locs 0 0 Z (F0 m 0 ls []) := by
  have htg : ∀ w ∈ gw, w.before args s = true := fun w h => hts w (gw_cons w h)
  have bk_88 : ∀ (f_kind : Int32) (f_start : Int32) (f_after : Int32) (t1 : Int32) (H : Heap) (locs : List Loc) (ls : Array Slot), va_P D classes (w_X6_nextToken cI cZ h0 h_bytes f_length f_kind f_start f_after a_bytes) H → va_D A (w_X6_nextToken cI cZ h0 h_bytes f_length f_kind f_start f_after a_bytes) → va_S A s.heap H locs → lv_has ls 2 [(0, .ref h0), (1, .int t1)] → wp_X6_nextToken_b88 f_length a_bytes Q f_kind f_start f_after t1 → W p l e rm_X6_nextToken s m args below meth c H locs 0 0 Z (F0 m 88 ls []) := by
    intro  f_kind f_start f_after t1 H locs ls hP hD hS hl hw
    delta wp_X6_nextToken_b88 at hw
    obtain ⟨I, μ, hI0, hst⟩ := hw
    have key : ∀ (n : Nat) (f_kind : Int32) (f_start : Int32) (f_after : Int32) (t1 : Int32) (H : Heap) (locs : List Loc) (ls : Array Slot), va_P D classes (w_X6_nextToken cI cZ h0 h_bytes f_length f_kind f_start f_after a_bytes) H → va_D A (w_X6_nextToken cI cZ h0 h_bytes f_length f_kind f_start f_after a_bytes) → va_S A s.heap H locs → lv_has ls 2 [(0, .ref h0), (1, .int t1)] → I f_kind f_start f_after t1 → μ f_kind f_start f_after t1 < n → W p l e rm_X6_nextToken s m args below meth c H locs 0 0 Z (F0 m 88 ls []) := by
      intro n
      induction n with
      | zero => intro f_kind f_start f_after t1 H locs ls hP hD hS hl hI hlt; exact absurd hlt (Nat.not_lt_zero _)
      | succ n ih =>
        intro f_kind f_start f_after t1 H locs ls hP hD hS hl hI hlt
        have hw := hst f_kind f_start f_after t1 hI
        refine lv_aload_n hx hb dX6_nextToken_88 rfl (lv_at hl 0 rfl) ?_
        refine va_get (D := D) (ci := 6) (v := .int f_after) (C := RX6) (T := TX6) (N := 5) hx hb htg in_X6 hown X.1 hP 0 rfl rfl 4 (by decide) (htg _ mw_47) (fun _ h9 => h9) rfl dX6_nextToken_89 ?_
        refine lv_iload_n hx hb dX6_nextToken_92 rfl (lv_at hl 1 rfl) ?_
        refine lv_icmp_ge (tgt := 124) hx hb dX6_nextToken_93 (by decide) (fun cb => ?_) (fun cb => ?_)
        · have hw := hw.1 cb
          exact hret f_kind f_start f_after H locs _ _ dX6_nextToken_124 hP hD hS hw
        · have hw := hw.2 cb
          refine lv_aload_n hx hb dX6_nextToken_96 rfl (lv_at hl 0 rfl) ?_
          refine lv_aload_n hx hb dX6_nextToken_97 rfl (lv_at hl 0 rfl) ?_
          refine va_get (D := D) (ci := 6) (v := .int f_after) (C := RX6) (T := TX6) (N := 5) hx hb htg in_X6 hown X.1 hP 0 rfl rfl 4 (by decide) (htg _ mw_47) (fun _ h9 => h9) rfl dX6_nextToken_98 ?_
          refine cv_i (rest := []) (ws2 := fun (u : Unit) => (w_X6_nextToken cI cZ h0 h_bytes f_length f_kind f_start f_after a_bytes)) ⟨hx, hb, hml, hown, hts⟩ (c_X6_kindAt l D cI cZ ad H.size h0 h_bytes f_length f_kind f_start f_after a_bytes f_after _ hw) (cwV 1 hts (gIV gw_cons mw_48 gy_X6_kindAt) rfl rfl rfl hd_X6_kindAt ⟨Nat.le_of_ble_eq_true rfl, Nat.le_of_ble_eq_true rfl⟩) X hP hD hS [0, 1] [] [0, 1] rfl rfl rfl rfl rfl rfl (fun u => rfl) 0 6 rfl rfl rfl (lv_sub hl [] rfl) rfl (Nat.le_of_ble_eq_true rfl) dX6_nextToken_101 ⟨Nat.zero_le _, Nat.zero_le _⟩ (fun r_1 u H locs hw hP hD hS => ?_)
          have hP : va_P D classes (w_X6_nextToken cI cZ h0 h_bytes f_length f_kind f_start f_after a_bytes) H := hP
          have hD : va_D A (w_X6_nextToken cI cZ h0 h_bytes f_length f_kind f_start f_after a_bytes) := hD
          refine lv_aload_n hx hb dX6_nextToken_104 rfl (lv_at hl 0 rfl) ?_
          refine va_get (D := D) (ci := 6) (v := .int f_kind) (C := RX6) (T := TX6) (N := 5) hx hb htg in_X6 hown X.1 hP 0 rfl rfl 2 (by decide) (htg _ mw_49) (fun _ h9 => h9) rfl dX6_nextToken_105 ?_
          refine lv_icmp_ne (tgt := 124) hx hb dX6_nextToken_108 (by decide) (fun cb => ?_) (fun cb => ?_)
          · have hw := hw.1 cb
            exact hret f_kind f_start f_after H locs _ _ dX6_nextToken_124 hP hD hS hw
          · have hw := hw.2 cb
            refine lv_aload_n hx hb dX6_nextToken_111 rfl (lv_at hl 0 rfl) ?_
            refine lv_dup hx hb dX6_nextToken_112 rfl ?_
            refine va_get (D := D) (ci := 6) (v := .int f_after) (C := RX6) (T := TX6) (N := 5) hx hb htg in_X6 hown X.1 hP 0 rfl rfl 4 (by decide) (htg _ mw_47) (fun _ h9 => h9) rfl dX6_nextToken_113 ?_
            refine lv_iconst (v := 1) hx hb dX6_nextToken_116 (by decide) ?_
            refine lv_iadd hx hb dX6_nextToken_117 ?_
            refine va_put (D := D) (ci := 6) (v := .int (f_after + (1 : Int32))) (ty := .int) (C := RX6) (T := TX6) (N := 5) hx hb htg in_X6 tyX6 tyX6_ok nmX6 hown X.1 hP hD hS 0 rfl rfl 4 (by decide) (htg _ mw_47) (fun _ h9 => h9) rfl (by decide +kernel) rfl rfl (Nat.le_of_ble_eq_true rfl) dX6_nextToken_118 (fun H locs hP hD hS => ?_)
            have hP : va_P D classes (w_X6_nextToken cI cZ h0 h_bytes f_length f_kind f_start (f_after + (1 : Int32)) a_bytes) H := hP
            have hD : va_D A (w_X6_nextToken cI cZ h0 h_bytes f_length f_kind f_start (f_after + (1 : Int32)) a_bytes) := hD
            refine lv_goto (tgt := 88) hx hb dX6_nextToken_121 (by decide) ?_
            exact ih f_kind f_start (f_after + (1 : Int32)) t1 H locs ls hP hD hS (lv_sub hl [0, 1] rfl) hw.1 (Nat.lt_of_lt_of_le hw.2 (Nat.le_of_lt_succ hlt))
    exact key (μ f_kind f_start f_after t1 + 1) f_kind f_start f_after t1 H locs ls hP hD hS hl hI0 (Nat.lt_succ_self _)
  have bk_79 : ∀ (f_kind : Int32) (f_start : Int32) (f_after : Int32) (s0 : Int32) (H : Heap) (locs : List Loc) (ls : Array Slot), va_P D classes (w_X6_nextToken cI cZ h0 h_bytes f_length f_kind f_start f_after a_bytes) H → va_D A (w_X6_nextToken cI cZ h0 h_bytes f_length f_kind f_start f_after a_bytes) → va_S A s.heap H locs → lv_has ls 2 [(0, .ref h0)] → wp_X6_nextToken_b79 f_length a_bytes Q f_kind f_start f_after s0 → W p l e rm_X6_nextToken s m args below meth c H locs 0 0 Z (F0 m 79 ls [.int s0]) := by
    intro  f_kind f_start f_after s0 H locs ls hP hD hS hl hw
    delta wp_X6_nextToken_b79 at hw
    refine lv_istore_n (lv' := [(1, .int s0), (0, .ref h0)]) hx hb dX6_nextToken_79 rfl hl (by decide) rfl (fun ls hl => ?_)
    refine lv_aload_n hx hb dX6_nextToken_80 rfl (lv_at hl 1 rfl) ?_
    refine lv_aload_n hx hb dX6_nextToken_81 rfl (lv_at hl 1 rfl) ?_
    refine va_get (D := D) (ci := 6) (v := .int f_start) (C := RX6) (T := TX6) (N := 5) hx hb htg in_X6 hown X.1 hP 0 rfl rfl 3 (by decide) (htg _ mw_50) (fun _ h9 => h9) rfl dX6_nextToken_82 ?_
    refine va_put (D := D) (ci := 6) (v := .int f_start) (ty := .int) (C := RX6) (T := TX6) (N := 5) hx hb htg in_X6 tyX6 tyX6_ok nmX6 hown X.1 hP hD hS 0 rfl rfl 4 (by decide) (htg _ mw_47) (fun _ h9 => h9) rfl (by decide +kernel) rfl rfl (Nat.le_of_ble_eq_true rfl) dX6_nextToken_85 (fun H locs hP hD hS => ?_)
    have hP : va_P D classes (w_X6_nextToken cI cZ h0 h_bytes f_length f_kind f_start f_start a_bytes) H := hP
    have hD : va_D A (w_X6_nextToken cI cZ h0 h_bytes f_length f_kind f_start f_start a_bytes) := hD
    exact bk_88 f_kind f_start f_start s0 H locs ls hP hD hS (lv_sub hl [1, 0] rfl) hw
  have bk_46 : ∀ (f_kind : Int32) (f_start : Int32) (f_after : Int32) (H : Heap) (locs : List Loc) (ls : Array Slot), va_P D classes (w_X6_nextToken cI cZ h0 h_bytes f_length f_kind f_start f_after a_bytes) H → va_D A (w_X6_nextToken cI cZ h0 h_bytes f_length f_kind f_start f_after a_bytes) → va_S A s.heap H locs → lv_has ls 2 [(0, .ref h0)] → wp_X6_nextToken_b46 f_length a_bytes Q f_kind f_start f_after → W p l e rm_X6_nextToken s m args below meth c H locs 0 0 Z (F0 m 46 ls []) := by
    intro  f_kind f_start f_after H locs ls hP hD hS hl hw
    delta wp_X6_nextToken_b46 at hw
    refine lv_aload_n hx hb dX6_nextToken_46 rfl (lv_at hl 0 rfl) ?_
    refine lv_aload_n hx hb dX6_nextToken_47 rfl (lv_at hl 0 rfl) ?_
    refine lv_aload_n hx hb dX6_nextToken_48 rfl (lv_at hl 0 rfl) ?_
    refine va_get (D := D) (ci := 6) (v := .int f_start) (C := RX6) (T := TX6) (N := 5) hx hb htg in_X6 hown X.1 hP 0 rfl rfl 3 (by decide) (htg _ mw_50) (fun _ h9 => h9) rfl dX6_nextToken_49 ?_
    refine cv_i (rest := [.ref h0]) (ws2 := fun (u : Unit) => (w_X6_nextToken cI cZ h0 h_bytes f_length f_kind f_start f_after a_bytes)) ⟨hx, hb, hml, hown, hts⟩ (c_X6_kindAt l D cI cZ ad H.size h0 h_bytes f_length f_kind f_start f_after a_bytes f_start _ hw) (cwV 1 hts (gIV gw_cons mw_48 gy_X6_kindAt) rfl rfl rfl hd_X6_kindAt ⟨Nat.le_of_ble_eq_true rfl, Nat.le_of_ble_eq_true rfl⟩) X hP hD hS [0, 1] [] [0, 1] rfl rfl rfl rfl rfl rfl (fun u => rfl) 0 6 rfl rfl rfl (lv_sub hl [] rfl) rfl (Nat.le_of_ble_eq_true rfl) dX6_nextToken_52 ⟨Nat.zero_le _, Nat.zero_le _⟩ (fun r_2 u H locs hw hP hD hS => ?_)
    have hP : va_P D classes (w_X6_nextToken cI cZ h0 h_bytes f_length f_kind f_start f_after a_bytes) H := hP
    have hD : va_D A (w_X6_nextToken cI cZ h0 h_bytes f_length f_kind f_start f_after a_bytes) := hD
    refine va_put (D := D) (ci := 6) (v := .int r_2) (ty := .int) (C := RX6) (T := TX6) (N := 5) hx hb htg in_X6 tyX6 tyX6_ok nmX6 hown X.1 hP hD hS 0 rfl rfl 2 (by decide) (htg _ mw_49) (fun _ h9 => h9) rfl (by decide +kernel) rfl rfl (Nat.le_of_ble_eq_true rfl) dX6_nextToken_55 (fun H locs hP hD hS => ?_)
    have hP : va_P D classes (w_X6_nextToken cI cZ h0 h_bytes f_length r_2 f_start f_after a_bytes) H := hP
    have hD : va_D A (w_X6_nextToken cI cZ h0 h_bytes f_length r_2 f_start f_after a_bytes) := hD
    refine lv_aload_n hx hb dX6_nextToken_58 rfl (lv_at hl 0 rfl) ?_
    refine va_get (D := D) (ci := 6) (v := .int r_2) (C := RX6) (T := TX6) (N := 5) hx hb htg in_X6 hown X.1 hP 0 rfl rfl 2 (by decide) (htg _ mw_49) (fun _ h9 => h9) rfl dX6_nextToken_59 ?_
    refine lv_iconst (v := 3) hx hb dX6_nextToken_62 (by decide) ?_
    refine lv_icmp_ne (tgt := 75) hx hb dX6_nextToken_63 (by decide) (fun cb => ?_) (fun cb => ?_)
    · have hw := hw.1 cb
      refine lv_aload_n hx hb dX6_nextToken_75 rfl (lv_at hl 0 rfl) ?_
      refine va_get (D := D) (ci := 6) (v := .int f_length) (C := RX6) (T := TX6) (N := 5) hx hb htg in_X6 hown X.1 hP 0 rfl rfl 1 (by decide) (htg _ mw_45) (fun _ h9 => h9) rfl dX6_nextToken_76 ?_
      exact bk_79 r_2 f_start f_after f_length H locs ls hP hD hS (lv_sub hl [0] rfl) hw
    · have hw := hw.2 cb
      refine lv_aload_n hx hb dX6_nextToken_66 rfl (lv_at hl 0 rfl) ?_
      refine va_get (D := D) (ci := 6) (v := .int f_start) (C := RX6) (T := TX6) (N := 5) hx hb htg in_X6 hown X.1 hP 0 rfl rfl 3 (by decide) (htg _ mw_50) (fun _ h9 => h9) rfl dX6_nextToken_67 ?_
      refine lv_iconst (v := 1) hx hb dX6_nextToken_70 (by decide) ?_
      refine lv_iadd hx hb dX6_nextToken_71 ?_
      refine lv_goto (tgt := 79) hx hb dX6_nextToken_72 (by decide) ?_
      exact bk_79 r_2 f_start f_after (f_start + (1 : Int32)) H locs ls hP hD hS (lv_sub hl [0] rfl) hw
  have bk_8 : ∀ (f_kind : Int32) (f_start : Int32) (f_after : Int32) (H : Heap) (locs : List Loc) (ls : Array Slot), va_P D classes (w_X6_nextToken cI cZ h0 h_bytes f_length f_kind f_start f_after a_bytes) H → va_D A (w_X6_nextToken cI cZ h0 h_bytes f_length f_kind f_start f_after a_bytes) → va_S A s.heap H locs → lv_has ls 2 [(0, .ref h0)] → wp_X6_nextToken_b8 f_length a_bytes Q f_kind f_start f_after → W p l e rm_X6_nextToken s m args below meth c H locs 0 0 Z (F0 m 8 ls []) := by
    intro  f_kind f_start f_after H locs ls hP hD hS hl hw
    delta wp_X6_nextToken_b8 at hw
    obtain ⟨I, μ, hI0, hst⟩ := hw
    have key : ∀ (n : Nat) (f_kind : Int32) (f_start : Int32) (f_after : Int32) (H : Heap) (locs : List Loc) (ls : Array Slot), va_P D classes (w_X6_nextToken cI cZ h0 h_bytes f_length f_kind f_start f_after a_bytes) H → va_D A (w_X6_nextToken cI cZ h0 h_bytes f_length f_kind f_start f_after a_bytes) → va_S A s.heap H locs → lv_has ls 2 [(0, .ref h0)] → I f_kind f_start f_after → μ f_kind f_start f_after < n → W p l e rm_X6_nextToken s m args below meth c H locs 0 0 Z (F0 m 8 ls []) := by
      intro n
      induction n with
      | zero => intro f_kind f_start f_after H locs ls hP hD hS hl hI hlt; exact absurd hlt (Nat.not_lt_zero _)
      | succ n ih =>
        intro f_kind f_start f_after H locs ls hP hD hS hl hI hlt
        have hw := hst f_kind f_start f_after hI
        refine lv_aload_n hx hb dX6_nextToken_8 rfl (lv_at hl 0 rfl) ?_
        refine va_get (D := D) (ci := 6) (v := .int f_start) (C := RX6) (T := TX6) (N := 5) hx hb htg in_X6 hown X.1 hP 0 rfl rfl 3 (by decide) (htg _ mw_50) (fun _ h9 => h9) rfl dX6_nextToken_9 ?_
        refine lv_aload_n hx hb dX6_nextToken_12 rfl (lv_at hl 0 rfl) ?_
        refine va_get (D := D) (ci := 6) (v := .int f_length) (C := RX6) (T := TX6) (N := 5) hx hb htg in_X6 hown X.1 hP 0 rfl rfl 1 (by decide) (htg _ mw_45) (fun _ h9 => h9) rfl dX6_nextToken_13 ?_
        refine lv_icmp_ge (tgt := 46) hx hb dX6_nextToken_16 (by decide) (fun cb => ?_) (fun cb => ?_)
        · have hw := hw.1 cb
          exact bk_46 f_kind f_start f_after H locs ls hP hD hS (lv_sub hl [0] rfl) hw
        · have hw := hw.2 cb
          refine lv_aload_n hx hb dX6_nextToken_19 rfl (lv_at hl 0 rfl) ?_
          refine va_get (D := D) (ci := 6) (v := .ref h_bytes) (C := RX6) (T := TX6) (N := 5) hx hb htg in_X6 hown X.1 hP 0 rfl rfl 0 (by decide) (htg _ mw_46) (fun _ h9 => h9) rfl dX6_nextToken_20 ?_
          refine lv_aload_n hx hb dX6_nextToken_23 rfl (lv_at hl 0 rfl) ?_
          refine va_get (D := D) (ci := 6) (v := .int f_start) (C := RX6) (T := TX6) (N := 5) hx hb htg in_X6 hown X.1 hP 0 rfl rfl 3 (by decide) (htg _ mw_50) (fun _ h9 => h9) rfl dX6_nextToken_24 ?_
          obtain ⟨g, hw⟩ := hw
          refine va_iald hx hb X.1 hP 1 0 rfl rfl g dX6_nextToken_27 ?_
          refine lv_bipush (v := 32) hx hb dX6_nextToken_28 (by decide) ?_
          refine lv_icmp_ne (tgt := 46) hx hb dX6_nextToken_30 (by decide) (fun cb => ?_) (fun cb => ?_)
          · have hw := hw.1 cb
            exact bk_46 f_kind f_start f_after H locs ls hP hD hS (lv_sub hl [0] rfl) hw
          · have hw := hw.2 cb
            refine lv_aload_n hx hb dX6_nextToken_33 rfl (lv_at hl 0 rfl) ?_
            refine lv_dup hx hb dX6_nextToken_34 rfl ?_
            refine va_get (D := D) (ci := 6) (v := .int f_start) (C := RX6) (T := TX6) (N := 5) hx hb htg in_X6 hown X.1 hP 0 rfl rfl 3 (by decide) (htg _ mw_50) (fun _ h9 => h9) rfl dX6_nextToken_35 ?_
            refine lv_iconst (v := 1) hx hb dX6_nextToken_38 (by decide) ?_
            refine lv_iadd hx hb dX6_nextToken_39 ?_
            refine va_put (D := D) (ci := 6) (v := .int (f_start + (1 : Int32))) (ty := .int) (C := RX6) (T := TX6) (N := 5) hx hb htg in_X6 tyX6 tyX6_ok nmX6 hown X.1 hP hD hS 0 rfl rfl 3 (by decide) (htg _ mw_50) (fun _ h9 => h9) rfl (by decide +kernel) rfl rfl (Nat.le_of_ble_eq_true rfl) dX6_nextToken_40 (fun H locs hP hD hS => ?_)
            have hP : va_P D classes (w_X6_nextToken cI cZ h0 h_bytes f_length f_kind (f_start + (1 : Int32)) f_after a_bytes) H := hP
            have hD : va_D A (w_X6_nextToken cI cZ h0 h_bytes f_length f_kind (f_start + (1 : Int32)) f_after a_bytes) := hD
            refine lv_goto (tgt := 8) hx hb dX6_nextToken_43 (by decide) ?_
            exact ih f_kind (f_start + (1 : Int32)) f_after H locs ls hP hD hS (lv_sub hl [0] rfl) hw.1 (Nat.lt_of_lt_of_le hw.2 (Nat.le_of_lt_succ hlt))
    exact key (μ f_kind f_start f_after + 1) f_kind f_start f_after H locs ls hP hD hS hl hI0 (Nat.lt_succ_self _)
  delta wp_X6_nextToken at hw
  refine lv_aload_n hx hb dX6_nextToken_0 rfl (lv_at hl 0 rfl) ?_
  refine lv_aload_n hx hb dX6_nextToken_1 rfl (lv_at hl 0 rfl) ?_
  refine va_get (D := D) (ci := 6) (v := .int f_after) (C := RX6) (T := TX6) (N := 5) hx hb htg in_X6 hown X.1 hP 0 rfl rfl 4 (by decide) (htg _ mw_47) (fun _ h9 => h9) rfl dX6_nextToken_2 ?_
  refine va_put (D := D) (ci := 6) (v := .int f_after) (ty := .int) (C := RX6) (T := TX6) (N := 5) hx hb htg in_X6 tyX6 tyX6_ok nmX6 hown X.1 hP hD hS 0 rfl rfl 3 (by decide) (htg _ mw_50) (fun _ h9 => h9) rfl (by decide +kernel) rfl rfl (Nat.le_of_ble_eq_true rfl) dX6_nextToken_5 (fun H locs hP hD hS => ?_)
  have hP : va_P D classes (w_X6_nextToken cI cZ h0 h_bytes f_length f_kind f_after f_after a_bytes) H := hP
  have hD : va_D A (w_X6_nextToken cI cZ h0 h_bytes f_length f_kind f_after f_after a_bytes) := hD
  exact bk_8 f_kind f_after f_after H locs ls hP hD hS (lv_sub hl [0] rfl) hw
set_option maxHeartbeats 40000000 in
set_option maxRecDepth 100000 in
theorem c_X6_nextToken (l : Launch) (D : va_G) (cI cZ : ClassId) (ad : (Nat → Nat) × (Nat → Nat)) (sz : Nat) (h0 : Nat) (h_bytes : Nat) (f_length : Int32) (f_kind : Int32) (f_start : Int32) (f_after : Int32) (a_bytes : (Nat → Int32))  (Q : Int32 → Int32 → Int32 → Prop) (hw : wp_X6_nextToken f_length f_kind f_start f_after a_bytes Q) : Met l yX6_nextToken ((.code yX6_nextToken cX6_nextToken 2 none) :: gw) rm_X6_nextToken (va_Pc [.ref h0] (PC D cI cZ ad sz (w_X6_nextToken cI cZ h0 h_bytes f_length f_kind f_start f_after a_bytes))) (va_Qv (fun (u : Int32 × Int32 × Int32) => Q u.1 u.2.1 u.2.2) (PW D (va_A (w_X6_nextToken cI cZ h0 h_bytes f_length f_kind f_start f_after a_bytes) sz) (fun (u : Int32 × Int32 × Int32) => (w_X6_nextToken cI cZ h0 h_bytes f_length u.1 u.2.1 u.2.2 a_bytes))) (va_A (w_X6_nextToken cI cZ h0 h_bytes f_length f_kind f_start f_after a_bytes) sz)) 0 0 (va_A (w_X6_nextToken cI cZ h0 h_bytes f_length f_kind f_start f_after a_bytes) sz) := by
  refine Met.ofW (cc := cX6_nextToken) (maxL := 2) (ret := none) (by decide) rfl ?_
  intro p e s m args below meth c s₁ B hml hv
  have hst := PC.start hv.2
  obtain ⟨ls, hfr, hl⟩ := en_fr (m := m) [.ref h0] 2 hv.1 (Nat.le_of_ble_eq_true rfl)
  rw [hfr]
  generalize va_A (w_X6_nextToken cI cZ h0 h_bytes f_length f_kind f_start f_after a_bytes) sz = A at hst ⊢
  obtain ⟨X, hP, hD⟩ := hst
  exact k_X6_nextToken B.exec B.bytes hml (findClass_of_methodNamed B.named) (atoms_spec (ws := (.code yX6_nextToken cX6_nextToken 2 none) :: gw) B.pre) X h0 h_bytes f_length f_kind f_start f_after a_bytes Q _ (fun f_kind' f_start' f_after' H locs pc ls hdg hP hD hS hw => rt_v (f_kind', f_start', f_after') B.exec B.bytes B.returns B.notSynchronized hdg hP hD hS hw) s.heap [] ls hP hD va_S.rf hl hw
set_option maxHeartbeats 40000000 in
set_option maxRecDepth 100000 in
theorem k_X6_takeWord {p : Program} {l : Launch} {e : Env} {s : State} {m : MethodId} {args : Array Value} {below : List Frame} {meth : Method} {c : Code} {D : va_G} {cI cZ : ClassId} {ad : (Nat → Nat) × (Nat → Nat)} {A : Nat → Prop} (hx : p.tables.exec = Jvm.exec) (hb : c.code = cX6_takeWord) (hml : c.maxLocals = 3) (hown : s.vm.findClass RX6 = some m.cls) (hts : ∀ w ∈ (.code yX6_takeWord cX6_takeWord 3 (some .boolean)) :: gw, w.before args s = true) (X : CX D cI cZ ad A s) (h0 : Nat) (h_bytes : Nat) (f_length : Int32) (f_kind : Int32) (f_start : Int32) (f_after : Int32) (a_bytes : (Nat → Int32)) (wi1 : Nat) (hwi1 : wi1 < 7) (Q : Int32 → Int32 → Int32 → Int32 → Prop) (Z : State → Prop) (hret : ∀ (r : Int32) (f_kind' : Int32) (f_start' : Int32) (f_after' : Int32)  (H : Heap) (locs : List Loc) (pc : Nat) (ls : Array Slot), decode cX6_takeWord pc = .ok (.ireturn, 1) → (r = 0 ∨ r = 1) → va_P D classes (w_X6_takeWord cI cZ h0 h_bytes f_length f_kind' f_start' f_after' a_bytes) H → va_D A (w_X6_takeWord cI cZ h0 h_bytes f_length f_kind' f_start' f_after' a_bytes) → va_S A s.heap H locs → Q r f_kind' f_start' f_after' → W p l e rm_X6_takeWord s m args below meth c H locs 0 0 Z (F0 m pc ls [.int r])) (H : Heap) (locs : List Loc) (ls : Array Slot) (hP : va_P D classes (w_X6_takeWord cI cZ h0 h_bytes f_length f_kind f_start f_after a_bytes) H) (hD : va_D A (w_X6_takeWord cI cZ h0 h_bytes f_length f_kind f_start f_after a_bytes)) (hS : va_S A s.heap H locs) (hl : lv_has ls 3 [(0, .ref h0), (1, .ref (ad.1 wi1))]) (hw : wp_X6_takeWord f_length f_kind f_start f_after a_bytes wi1 Q) : W p l e rm_X6_takeWord s m args below meth c H locs 0 0 Z (F0 m 0 ls []) := by
  have htg : ∀ w ∈ gw, w.before args s = true := fun w h => hts w (gw_cons w h)
  have bk_28 : ∀ (f_kind : Int32) (f_start : Int32) (f_after : Int32) (t2 : Int32) (H : Heap) (locs : List Loc) (ls : Array Slot), va_P D classes (w_X6_takeWord cI cZ h0 h_bytes f_length f_kind f_start f_after a_bytes) H → va_D A (w_X6_takeWord cI cZ h0 h_bytes f_length f_kind f_start f_after a_bytes) → va_S A s.heap H locs → lv_has ls 3 [(0, .ref h0), (1, .ref (ad.1 wi1)), (2, .int t2)] → wp_X6_takeWord_b28 f_length a_bytes wi1 Q f_kind f_start f_after t2 → W p l e rm_X6_takeWord s m args below meth c H locs 0 0 Z (F0 m 28 ls []) := by
    intro  f_kind f_start f_after t2 H locs ls hP hD hS hl hw
    delta wp_X6_takeWord_b28 at hw
    obtain ⟨I, μ, hI0, hst⟩ := hw
    have key : ∀ (n : Nat) (f_kind : Int32) (f_start : Int32) (f_after : Int32) (t2 : Int32) (H : Heap) (locs : List Loc) (ls : Array Slot), va_P D classes (w_X6_takeWord cI cZ h0 h_bytes f_length f_kind f_start f_after a_bytes) H → va_D A (w_X6_takeWord cI cZ h0 h_bytes f_length f_kind f_start f_after a_bytes) → va_S A s.heap H locs → lv_has ls 3 [(0, .ref h0), (1, .ref (ad.1 wi1)), (2, .int t2)] → I f_kind f_start f_after t2 → μ f_kind f_start f_after t2 < n → W p l e rm_X6_takeWord s m args below meth c H locs 0 0 Z (F0 m 28 ls []) := by
      intro n
      induction n with
      | zero => intro f_kind f_start f_after t2 H locs ls hP hD hS hl hI hlt; exact absurd hlt (Nat.not_lt_zero _)
      | succ n ih =>
        intro f_kind f_start f_after t2 H locs ls hP hD hS hl hI hlt
        have hw := hst f_kind f_start f_after t2 hI
        refine lv_iload_n hx hb dX6_takeWord_28 rfl (lv_at hl 2 rfl) ?_
        refine lv_aload_n hx hb dX6_takeWord_29 rfl (lv_at hl 1 rfl) ?_
        refine st_len hx hb hml hown hts mw_51 X hP hD hS (i := wi1) hwi1 (lv_sub hl [] rfl) (Nat.le_of_ble_eq_true rfl) (Nat.le_of_ble_eq_true rfl) (Nat.le_of_ble_eq_true rfl) dX6_takeWord_30 (fun H locs hP hS => ?_)
        refine lv_icmp_ge (tgt := 63) hx hb dX6_takeWord_33 (by decide) (fun cb => ?_) (fun cb => ?_)
        · have hw := hw.1 cb
          refine lv_aload_n hx hb dX6_takeWord_63 rfl (lv_at hl 0 rfl) ?_
          refine cv_v (rest := []) (ws2 := fun (u : Int32 × Int32 × Int32) => (w_X6_takeWord cI cZ h0 h_bytes f_length u.1 u.2.1 u.2.2 a_bytes)) ⟨hx, hb, hml, hown, hts⟩ (c_X6_nextToken l D cI cZ ad H.size h0 h_bytes f_length f_kind f_start f_after a_bytes _ hw) (cwV 0 hts (gIV gw_cons mw_52 gy_X6_nextToken) rfl rfl rfl hd_X6_nextToken ⟨Nat.le_of_ble_eq_true rfl, Nat.le_of_ble_eq_true rfl⟩) X hP hD hS [0, 1] [] [0, 1] rfl rfl rfl rfl rfl rfl (fun u => rfl) 0 6 rfl rfl rfl (lv_sub hl [] rfl) rfl (Nat.le_of_ble_eq_true rfl) dX6_takeWord_64 ⟨Nat.zero_le _, Nat.zero_le _⟩ (fun u H locs hw hP hD hS => ?_)
          obtain ⟨f_kind_1, f_start_2, f_after_3⟩ := u
          try dsimp only at hw
          have hP : va_P D classes (w_X6_takeWord cI cZ h0 h_bytes f_length f_kind_1 f_start_2 f_after_3 a_bytes) H := hP
          have hD : va_D A (w_X6_takeWord cI cZ h0 h_bytes f_length f_kind_1 f_start_2 f_after_3 a_bytes) := hD
          refine lv_iconst (v := 1) hx hb dX6_takeWord_67 (by decide) ?_
          exact hret (1 : Int32) f_kind_1 f_start_2 f_after_3 H locs _ _ dX6_takeWord_68 (by decide) hP hD hS hw
        · have hw := hw.2 cb
          refine lv_aload_n hx hb dX6_takeWord_36 rfl (lv_at hl 0 rfl) ?_
          refine va_get (D := D) (ci := 6) (v := .ref h_bytes) (C := RX6) (T := TX6) (N := 5) hx hb htg in_X6 hown X.1 hP 0 rfl rfl 0 (by decide) (htg _ mw_46) (fun _ h9 => h9) rfl dX6_takeWord_37 ?_
          refine lv_aload_n hx hb dX6_takeWord_40 rfl (lv_at hl 0 rfl) ?_
          refine va_get (D := D) (ci := 6) (v := .int f_start) (C := RX6) (T := TX6) (N := 5) hx hb htg in_X6 hown X.1 hP 0 rfl rfl 3 (by decide) (htg _ mw_50) (fun _ h9 => h9) rfl dX6_takeWord_41 ?_
          refine lv_iload_n hx hb dX6_takeWord_44 rfl (lv_at hl 2 rfl) ?_
          refine lv_iadd hx hb dX6_takeWord_45 ?_
          obtain ⟨g, hw⟩ := hw
          refine va_iald hx hb X.1 hP 1 0 rfl rfl g dX6_takeWord_46 ?_
          refine lv_aload_n hx hb dX6_takeWord_47 rfl (lv_at hl 1 rfl) ?_
          refine lv_iload_n hx hb dX6_takeWord_48 rfl (lv_at hl 2 rfl) ?_
          obtain ⟨g, hw⟩ := hw
          refine st_chr hx hb hml hown hts mw_53 X hP hD hS (i := wi1) hwi1 g (lv_sub hl [] rfl) (Nat.le_of_ble_eq_true rfl) (Nat.le_of_ble_eq_true rfl) (Nat.le_of_ble_eq_true rfl) dX6_takeWord_49 (fun H locs hP hS => ?_)
          refine lv_icmp_eq (tgt := 57) hx hb dX6_takeWord_52 (by decide) (fun cb => ?_) (fun cb => ?_)
          · have hw := hw.1 cb
            refine lv_iinc (v := t2 + 1) (lv' := [(2, .int (t2 + 1)), (0, .ref h0), (1, .ref (ad.1 wi1))]) hx hb dX6_takeWord_57 hl (k := 2) rfl rfl (by decide) rfl (fun ls hl => ?_)
            refine lv_goto (tgt := 28) hx hb dX6_takeWord_60 (by decide) ?_
            exact ih f_kind f_start f_after (t2 + 1) H locs ls hP hD hS (lv_sub hl [1, 2, 0] rfl) hw.1 (Nat.lt_of_lt_of_le hw.2 (Nat.le_of_lt_succ hlt))
          · have hw := hw.2 cb
            refine lv_iconst (v := 0) hx hb dX6_takeWord_55 (by decide) ?_
            exact hret (0 : Int32) f_kind f_start f_after H locs _ _ dX6_takeWord_56 (by decide) hP hD hS hw
    exact key (μ f_kind f_start f_after t2 + 1) f_kind f_start f_after t2 H locs ls hP hD hS hl hI0 (Nat.lt_succ_self _)
  have bk_24 : ∀ (f_kind : Int32) (f_start : Int32) (f_after : Int32) (H : Heap) (locs : List Loc) (ls : Array Slot), va_P D classes (w_X6_takeWord cI cZ h0 h_bytes f_length f_kind f_start f_after a_bytes) H → va_D A (w_X6_takeWord cI cZ h0 h_bytes f_length f_kind f_start f_after a_bytes) → va_S A s.heap H locs → lv_has ls 3 [] → wp_X6_takeWord_b24 f_length a_bytes wi1 Q f_kind f_start f_after → W p l e rm_X6_takeWord s m args below meth c H locs 0 0 Z (F0 m 24 ls []) := by
    intro  f_kind f_start f_after H locs ls hP hD hS hl hw
    delta wp_X6_takeWord_b24 at hw
    refine lv_iconst (v := 0) hx hb dX6_takeWord_24 (by decide) ?_
    exact hret (0 : Int32) f_kind f_start f_after H locs _ _ dX6_takeWord_25 (by decide) hP hD hS hw
  delta wp_X6_takeWord at hw
  refine lv_aload_n hx hb dX6_takeWord_0 rfl (lv_at hl 0 rfl) ?_
  refine va_get (D := D) (ci := 6) (v := .int f_kind) (C := RX6) (T := TX6) (N := 5) hx hb htg in_X6 hown X.1 hP 0 rfl rfl 2 (by decide) (htg _ mw_49) (fun _ h9 => h9) rfl dX6_takeWord_1 ?_
  refine lv_iconst (v := 1) hx hb dX6_takeWord_4 (by decide) ?_
  refine lv_icmp_ne (tgt := 24) hx hb dX6_takeWord_5 (by decide) (fun cb => ?_) (fun cb => ?_)
  · have hw := hw.1 cb
    exact bk_24 f_kind f_start f_after H locs ls hP hD hS (lv_sub hl [] rfl) hw
  · have hw := hw.2 cb
    refine lv_aload_n hx hb dX6_takeWord_8 rfl (lv_at hl 0 rfl) ?_
    refine va_get (D := D) (ci := 6) (v := .int f_after) (C := RX6) (T := TX6) (N := 5) hx hb htg in_X6 hown X.1 hP 0 rfl rfl 4 (by decide) (htg _ mw_47) (fun _ h9 => h9) rfl dX6_takeWord_9 ?_
    refine lv_aload_n hx hb dX6_takeWord_12 rfl (lv_at hl 0 rfl) ?_
    refine va_get (D := D) (ci := 6) (v := .int f_start) (C := RX6) (T := TX6) (N := 5) hx hb htg in_X6 hown X.1 hP 0 rfl rfl 3 (by decide) (htg _ mw_50) (fun _ h9 => h9) rfl dX6_takeWord_13 ?_
    refine lv_isub hx hb dX6_takeWord_16 ?_
    refine lv_aload_n hx hb dX6_takeWord_17 rfl (lv_at hl 1 rfl) ?_
    refine st_len hx hb hml hown hts mw_51 X hP hD hS (i := wi1) hwi1 (lv_sub hl [] rfl) (Nat.le_of_ble_eq_true rfl) (Nat.le_of_ble_eq_true rfl) (Nat.le_of_ble_eq_true rfl) dX6_takeWord_18 (fun H locs hP hS => ?_)
    refine lv_icmp_eq (tgt := 26) hx hb dX6_takeWord_21 (by decide) (fun cb => ?_) (fun cb => ?_)
    · have hw := hw.1 cb
      refine lv_iconst (v := 0) hx hb dX6_takeWord_26 (by decide) ?_
      refine lv_istore_n (lv' := [(2, .int (0 : Int32)), (0, .ref h0), (1, .ref (ad.1 wi1))]) hx hb dX6_takeWord_27 rfl hl (by decide) rfl (fun ls hl => ?_)
      exact bk_28 f_kind f_start f_after (0 : Int32) H locs ls hP hD hS (lv_sub hl [1, 2, 0] rfl) hw
    · have hw := hw.2 cb
      exact bk_24 f_kind f_start f_after H locs ls hP hD hS (lv_sub hl [] rfl) hw
set_option maxHeartbeats 40000000 in
set_option maxRecDepth 100000 in
theorem c_X6_takeWord (l : Launch) (D : va_G) (cI cZ : ClassId) (ad : (Nat → Nat) × (Nat → Nat)) (sz : Nat) (h0 : Nat) (h_bytes : Nat) (f_length : Int32) (f_kind : Int32) (f_start : Int32) (f_after : Int32) (a_bytes : (Nat → Int32)) (wi1 : Nat) (hwi1 : wi1 < 7) (Q : Int32 → Int32 → Int32 → Int32 → Prop) (hw : wp_X6_takeWord f_length f_kind f_start f_after a_bytes wi1 Q) : Met l yX6_takeWord ((.code yX6_takeWord cX6_takeWord 3 (some .boolean)) :: gw) rm_X6_takeWord (va_Pc [.ref h0, .ref (ad.1 wi1)] (PC D cI cZ ad sz (w_X6_takeWord cI cZ h0 h_bytes f_length f_kind f_start f_after a_bytes))) (va_Qi (fun r (u : Int32 × Int32 × Int32) => Q r u.1 u.2.1 u.2.2) (PW D (va_A (w_X6_takeWord cI cZ h0 h_bytes f_length f_kind f_start f_after a_bytes) sz) (fun (u : Int32 × Int32 × Int32) => (w_X6_takeWord cI cZ h0 h_bytes f_length u.1 u.2.1 u.2.2 a_bytes))) (va_A (w_X6_takeWord cI cZ h0 h_bytes f_length f_kind f_start f_after a_bytes) sz)) 0 0 (va_A (w_X6_takeWord cI cZ h0 h_bytes f_length f_kind f_start f_after a_bytes) sz) := by
  refine Met.ofW (cc := cX6_takeWord) (maxL := 3) (ret := (some .boolean)) (by decide) rfl ?_
  intro p e s m args below meth c s₁ B hml hv
  have hst := PC.start hv.2
  obtain ⟨ls, hfr, hl⟩ := en_fr (m := m) [.ref h0, .ref (ad.1 wi1)] 3 hv.1 (Nat.le_of_ble_eq_true rfl)
  rw [hfr]
  generalize va_A (w_X6_takeWord cI cZ h0 h_bytes f_length f_kind f_start f_after a_bytes) sz = A at hst ⊢
  obtain ⟨X, hP, hD⟩ := hst
  exact k_X6_takeWord B.exec B.bytes hml (findClass_of_methodNamed B.named) (atoms_spec (ws := (.code yX6_takeWord cX6_takeWord 3 (some .boolean)) :: gw) B.pre) X h0 h_bytes f_length f_kind f_start f_after a_bytes wi1 hwi1 Q _ (fun r f_kind' f_start' f_after' H locs pc ls hdg hz hP hD hS hw => rt_z (f_kind', f_start', f_after') B.exec B.bytes B.returns B.notSynchronized hdg hz hP hD hS hw) s.heap [] ls hP hD va_S.rf hl hw
set_option maxHeartbeats 40000000 in
set_option maxRecDepth 100000 in
theorem k_X6_takeDecreeKind {p : Program} {l : Launch} {e : Env} {s : State} {m : MethodId} {args : Array Value} {below : List Frame} {meth : Method} {c : Code} {D : va_G} {cI cZ : ClassId} {ad : (Nat → Nat) × (Nat → Nat)} {A : Nat → Prop} (hx : p.tables.exec = Jvm.exec) (hb : c.code = cX6_takeDecreeKind) (hml : c.maxLocals = 1) (hown : s.vm.findClass RX6 = some m.cls) (hts : ∀ w ∈ (.code yX6_takeDecreeKind cX6_takeDecreeKind 1 (some .int)) :: gw, w.before args s = true) (X : CX D cI cZ ad A s) (h0 : Nat) (h_bytes : Nat) (f_length : Int32) (f_kind : Int32) (f_start : Int32) (f_after : Int32) (a_bytes : (Nat → Int32))  (Q : Int32 → Int32 → Int32 → Int32 → Prop) (Z : State → Prop) (hret : ∀ (r : Int32) (f_kind' : Int32) (f_start' : Int32) (f_after' : Int32)  (H : Heap) (locs : List Loc) (pc : Nat) (ls : Array Slot), decode cX6_takeDecreeKind pc = .ok (.ireturn, 1) → va_P D classes (w_X6_takeDecreeKind cI cZ h0 h_bytes f_length f_kind' f_start' f_after' a_bytes) H → va_D A (w_X6_takeDecreeKind cI cZ h0 h_bytes f_length f_kind' f_start' f_after' a_bytes) → va_S A s.heap H locs → Q r f_kind' f_start' f_after' → W p l e rm_X6_takeDecreeKind s m args below meth c H locs 0 0 Z (F0 m pc ls [.int r])) (H : Heap) (locs : List Loc) (ls : Array Slot) (hP : va_P D classes (w_X6_takeDecreeKind cI cZ h0 h_bytes f_length f_kind f_start f_after a_bytes) H) (hD : va_D A (w_X6_takeDecreeKind cI cZ h0 h_bytes f_length f_kind f_start f_after a_bytes)) (hS : va_S A s.heap H locs) (hl : lv_has ls 1 [(0, .ref h0)]) (hw : wp_X6_takeDecreeKind f_length f_kind f_start f_after a_bytes Q) : W p l e rm_X6_takeDecreeKind s m args below meth c H locs 0 0 Z (F0 m 0 ls []) := by
  have htg : ∀ w ∈ gw, w.before args s = true := fun w h => hts w (gw_cons w h)
  delta wp_X6_takeDecreeKind at hw
  refine lv_aload_n hx hb dX6_takeDecreeKind_0 rfl (lv_at hl 0 rfl) ?_
  refine va_ldcS hx hb hown (X.2.2.1.2.2.1 1 (by decide)) dX6_takeDecreeKind_1 ?_
  refine cv_i (rest := []) (ws2 := fun (u : Int32 × Int32 × Int32) => (w_X6_takeDecreeKind cI cZ h0 h_bytes f_length u.1 u.2.1 u.2.2 a_bytes)) ⟨hx, hb, hml, hown, hts⟩ (c_X6_takeWord l D cI cZ ad H.size h0 h_bytes f_length f_kind f_start f_after a_bytes 1 (by decide) _ hw) (cwV 1 hts (gIV gw_cons mw_54 gy_X6_takeWord) rfl rfl rfl hd_X6_takeWord ⟨Nat.le_of_ble_eq_true rfl, Nat.le_of_ble_eq_true rfl⟩) X hP hD hS [0, 1] [] [0, 1] rfl rfl rfl rfl rfl rfl (fun u => rfl) 0 6 rfl rfl rfl (lv_sub hl [] rfl) rfl (Nat.le_of_ble_eq_true rfl) dX6_takeDecreeKind_3 ⟨Nat.zero_le _, Nat.zero_le _⟩ (fun r_4 u H locs hw hP hD hS => ?_)
  obtain ⟨f_kind_1, f_start_2, f_after_3⟩ := u
  try dsimp only at hw
  have hP : va_P D classes (w_X6_takeDecreeKind cI cZ h0 h_bytes f_length f_kind_1 f_start_2 f_after_3 a_bytes) H := hP
  have hD : va_D A (w_X6_takeDecreeKind cI cZ h0 h_bytes f_length f_kind_1 f_start_2 f_after_3 a_bytes) := hD
  refine lv_if_eq (tgt := 11) hx hb dX6_takeDecreeKind_6 (by decide) (fun cb => ?_) (fun cb => ?_)
  · have hw := hw.1 cb
    refine lv_aload_n hx hb dX6_takeDecreeKind_11 rfl (lv_at hl 0 rfl) ?_
    refine va_ldcS hx hb hown (X.2.2.1.2.2.1 2 (by decide)) dX6_takeDecreeKind_12 ?_
    refine cv_i (rest := []) (ws2 := fun (u : Int32 × Int32 × Int32) => (w_X6_takeDecreeKind cI cZ h0 h_bytes f_length u.1 u.2.1 u.2.2 a_bytes)) ⟨hx, hb, hml, hown, hts⟩ (c_X6_takeWord l D cI cZ ad H.size h0 h_bytes f_length f_kind_1 f_start_2 f_after_3 a_bytes 2 (by decide) _ hw) (cwV 1 hts (gIV gw_cons mw_54 gy_X6_takeWord) rfl rfl rfl hd_X6_takeWord ⟨Nat.le_of_ble_eq_true rfl, Nat.le_of_ble_eq_true rfl⟩) X hP hD hS [0, 1] [] [0, 1] rfl rfl rfl rfl rfl rfl (fun u => rfl) 0 6 rfl rfl rfl (lv_sub hl [] rfl) rfl (Nat.le_of_ble_eq_true rfl) dX6_takeDecreeKind_14 ⟨Nat.zero_le _, Nat.zero_le _⟩ (fun r_8 u H locs hw hP hD hS => ?_)
    obtain ⟨f_kind_5, f_start_6, f_after_7⟩ := u
    try dsimp only at hw
    have hP : va_P D classes (w_X6_takeDecreeKind cI cZ h0 h_bytes f_length f_kind_5 f_start_6 f_after_7 a_bytes) H := hP
    have hD : va_D A (w_X6_takeDecreeKind cI cZ h0 h_bytes f_length f_kind_5 f_start_6 f_after_7 a_bytes) := hD
    refine lv_if_eq (tgt := 22) hx hb dX6_takeDecreeKind_17 (by decide) (fun cb => ?_) (fun cb => ?_)
    · have hw := hw.1 cb
      refine lv_aload_n hx hb dX6_takeDecreeKind_22 rfl (lv_at hl 0 rfl) ?_
      refine va_ldcS hx hb hown (X.2.2.1.2.2.1 3 (by decide)) dX6_takeDecreeKind_23 ?_
      refine cv_i (rest := []) (ws2 := fun (u : Int32 × Int32 × Int32) => (w_X6_takeDecreeKind cI cZ h0 h_bytes f_length u.1 u.2.1 u.2.2 a_bytes)) ⟨hx, hb, hml, hown, hts⟩ (c_X6_takeWord l D cI cZ ad H.size h0 h_bytes f_length f_kind_5 f_start_6 f_after_7 a_bytes 3 (by decide) _ hw) (cwV 1 hts (gIV gw_cons mw_54 gy_X6_takeWord) rfl rfl rfl hd_X6_takeWord ⟨Nat.le_of_ble_eq_true rfl, Nat.le_of_ble_eq_true rfl⟩) X hP hD hS [0, 1] [] [0, 1] rfl rfl rfl rfl rfl rfl (fun u => rfl) 0 6 rfl rfl rfl (lv_sub hl [] rfl) rfl (Nat.le_of_ble_eq_true rfl) dX6_takeDecreeKind_25 ⟨Nat.zero_le _, Nat.zero_le _⟩ (fun r_12 u H locs hw hP hD hS => ?_)
      obtain ⟨f_kind_9, f_start_10, f_after_11⟩ := u
      try dsimp only at hw
      have hP : va_P D classes (w_X6_takeDecreeKind cI cZ h0 h_bytes f_length f_kind_9 f_start_10 f_after_11 a_bytes) H := hP
      have hD : va_D A (w_X6_takeDecreeKind cI cZ h0 h_bytes f_length f_kind_9 f_start_10 f_after_11 a_bytes) := hD
      refine lv_if_eq (tgt := 33) hx hb dX6_takeDecreeKind_28 (by decide) (fun cb => ?_) (fun cb => ?_)
      · have hw := hw.1 cb
        refine lv_aload_n hx hb dX6_takeDecreeKind_33 rfl (lv_at hl 0 rfl) ?_
        refine va_ldcS hx hb hown (X.2.2.1.2.2.1 4 (by decide)) dX6_takeDecreeKind_34 ?_
        refine cv_i (rest := []) (ws2 := fun (u : Int32 × Int32 × Int32) => (w_X6_takeDecreeKind cI cZ h0 h_bytes f_length u.1 u.2.1 u.2.2 a_bytes)) ⟨hx, hb, hml, hown, hts⟩ (c_X6_takeWord l D cI cZ ad H.size h0 h_bytes f_length f_kind_9 f_start_10 f_after_11 a_bytes 4 (by decide) _ hw) (cwV 1 hts (gIV gw_cons mw_54 gy_X6_takeWord) rfl rfl rfl hd_X6_takeWord ⟨Nat.le_of_ble_eq_true rfl, Nat.le_of_ble_eq_true rfl⟩) X hP hD hS [0, 1] [] [0, 1] rfl rfl rfl rfl rfl rfl (fun u => rfl) 0 6 rfl rfl rfl (lv_sub hl [] rfl) rfl (Nat.le_of_ble_eq_true rfl) dX6_takeDecreeKind_36 ⟨Nat.zero_le _, Nat.zero_le _⟩ (fun r_16 u H locs hw hP hD hS => ?_)
        obtain ⟨f_kind_13, f_start_14, f_after_15⟩ := u
        try dsimp only at hw
        have hP : va_P D classes (w_X6_takeDecreeKind cI cZ h0 h_bytes f_length f_kind_13 f_start_14 f_after_15 a_bytes) H := hP
        have hD : va_D A (w_X6_takeDecreeKind cI cZ h0 h_bytes f_length f_kind_13 f_start_14 f_after_15 a_bytes) := hD
        refine lv_if_eq (tgt := 46) hx hb dX6_takeDecreeKind_39 (by decide) (fun cb => ?_) (fun cb => ?_)
        · have hw := hw.1 cb
          refine lv_iconst (v := -1) hx hb dX6_takeDecreeKind_46 (by decide) ?_
          exact hret (-1 : Int32) f_kind_13 f_start_14 f_after_15 H locs _ _ dX6_takeDecreeKind_47 hP hD hS hw
        · have hw := hw.2 cb
          refine lv_iconst (v := 3) hx hb dX6_takeDecreeKind_42 (by decide) ?_
          refine lv_goto (tgt := 47) hx hb dX6_takeDecreeKind_43 (by decide) ?_
          exact hret (3 : Int32) f_kind_13 f_start_14 f_after_15 H locs _ _ dX6_takeDecreeKind_47 hP hD hS hw
      · have hw := hw.2 cb
        refine lv_iconst (v := 2) hx hb dX6_takeDecreeKind_31 (by decide) ?_
        exact hret (2 : Int32) f_kind_9 f_start_10 f_after_11 H locs _ _ dX6_takeDecreeKind_32 hP hD hS hw
    · have hw := hw.2 cb
      refine lv_iconst (v := 1) hx hb dX6_takeDecreeKind_20 (by decide) ?_
      exact hret (1 : Int32) f_kind_5 f_start_6 f_after_7 H locs _ _ dX6_takeDecreeKind_21 hP hD hS hw
  · have hw := hw.2 cb
    refine lv_iconst (v := 0) hx hb dX6_takeDecreeKind_9 (by decide) ?_
    exact hret (0 : Int32) f_kind_1 f_start_2 f_after_3 H locs _ _ dX6_takeDecreeKind_10 hP hD hS hw
set_option maxHeartbeats 40000000 in
set_option maxRecDepth 100000 in
theorem c_X6_takeDecreeKind (l : Launch) (D : va_G) (cI cZ : ClassId) (ad : (Nat → Nat) × (Nat → Nat)) (sz : Nat) (h0 : Nat) (h_bytes : Nat) (f_length : Int32) (f_kind : Int32) (f_start : Int32) (f_after : Int32) (a_bytes : (Nat → Int32))  (Q : Int32 → Int32 → Int32 → Int32 → Prop) (hw : wp_X6_takeDecreeKind f_length f_kind f_start f_after a_bytes Q) : Met l yX6_takeDecreeKind ((.code yX6_takeDecreeKind cX6_takeDecreeKind 1 (some .int)) :: gw) rm_X6_takeDecreeKind (va_Pc [.ref h0] (PC D cI cZ ad sz (w_X6_takeDecreeKind cI cZ h0 h_bytes f_length f_kind f_start f_after a_bytes))) (va_Qi (fun r (u : Int32 × Int32 × Int32) => Q r u.1 u.2.1 u.2.2) (PW D (va_A (w_X6_takeDecreeKind cI cZ h0 h_bytes f_length f_kind f_start f_after a_bytes) sz) (fun (u : Int32 × Int32 × Int32) => (w_X6_takeDecreeKind cI cZ h0 h_bytes f_length u.1 u.2.1 u.2.2 a_bytes))) (va_A (w_X6_takeDecreeKind cI cZ h0 h_bytes f_length f_kind f_start f_after a_bytes) sz)) 0 0 (va_A (w_X6_takeDecreeKind cI cZ h0 h_bytes f_length f_kind f_start f_after a_bytes) sz) := by
  refine Met.ofW (cc := cX6_takeDecreeKind) (maxL := 1) (ret := (some .int)) (by decide) rfl ?_
  intro p e s m args below meth c s₁ B hml hv
  have hst := PC.start hv.2
  obtain ⟨ls, hfr, hl⟩ := en_fr (m := m) [.ref h0] 1 hv.1 (Nat.le_of_ble_eq_true rfl)
  rw [hfr]
  generalize va_A (w_X6_takeDecreeKind cI cZ h0 h_bytes f_length f_kind f_start f_after a_bytes) sz = A at hst ⊢
  obtain ⟨X, hP, hD⟩ := hst
  exact k_X6_takeDecreeKind B.exec B.bytes hml (findClass_of_methodNamed B.named) (atoms_spec (ws := (.code yX6_takeDecreeKind cX6_takeDecreeKind 1 (some .int)) :: gw) B.pre) X h0 h_bytes f_length f_kind f_start f_after a_bytes Q _ (fun r f_kind' f_start' f_after' H locs pc ls hdg hP hD hS hw => rt_i (f_kind', f_start', f_after') B.exec B.bytes B.returns B.notSynchronized hdg hP hD hS hw) s.heap [] ls hP hD va_S.rf hl hw
set_option maxHeartbeats 40000000 in
set_option maxRecDepth 100000 in
theorem k_X6_numberAhead {p : Program} {l : Launch} {e : Env} {s : State} {m : MethodId} {args : Array Value} {below : List Frame} {meth : Method} {c : Code} {D : va_G} {cI cZ : ClassId} {ad : (Nat → Nat) × (Nat → Nat)} {A : Nat → Prop} (hx : p.tables.exec = Jvm.exec) (hb : c.code = cX6_numberAhead) (hml : c.maxLocals = 3) (hown : s.vm.findClass RX6 = some m.cls) (hts : ∀ w ∈ (.code yX6_numberAhead cX6_numberAhead 3 (some .int)) :: gw, w.before args s = true) (X : CX D cI cZ ad A s) (h0 : Nat) (h_bytes : Nat) (f_length : Int32) (f_kind : Int32) (f_start : Int32) (f_after : Int32) (a_bytes : (Nat → Int32))  (Q : Int32 → Prop) (Z : State → Prop) (hret : ∀ (r : Int32)   (H : Heap) (locs : List Loc) (pc : Nat) (ls : Array Slot), decode cX6_numberAhead pc = .ok (.ireturn, 1) → va_P D classes (w_X6_numberAhead cI cZ h0 h_bytes f_length f_kind f_start f_after a_bytes) H → va_D A (w_X6_numberAhead cI cZ h0 h_bytes f_length f_kind f_start f_after a_bytes) → va_S A s.heap H locs → Q r  → W p l e rm_X6_numberAhead s m args below meth c H locs 0 0 Z (F0 m pc ls [.int r])) (H : Heap) (locs : List Loc) (ls : Array Slot) (hP : va_P D classes (w_X6_numberAhead cI cZ h0 h_bytes f_length f_kind f_start f_after a_bytes) H) (hD : va_D A (w_X6_numberAhead cI cZ h0 h_bytes f_length f_kind f_start f_after a_bytes)) (hS : va_S A s.heap H locs) (hl : lv_has ls 3 [(0, .ref h0)]) (hw : wp_X6_numberAhead f_start f_after a_bytes Q) : W p l e rm_X6_numberAhead s m args below meth c H locs 0 0 Z (F0 m 0 ls []) := by
  have htg : ∀ w ∈ gw, w.before args s = true := fun w h => hts w (gw_cons w h)
  have bk_7 : ∀ (t1 : Int32) (t2 : Int32) (H : Heap) (locs : List Loc) (ls : Array Slot), va_P D classes (w_X6_numberAhead cI cZ h0 h_bytes f_length f_kind f_start f_after a_bytes) H → va_D A (w_X6_numberAhead cI cZ h0 h_bytes f_length f_kind f_start f_after a_bytes) → va_S A s.heap H locs → lv_has ls 3 [(0, .ref h0), (1, .int t1), (2, .int t2)] → wp_X6_numberAhead_b7 f_start f_after a_bytes Q t1 t2 → W p l e rm_X6_numberAhead s m args below meth c H locs 0 0 Z (F0 m 7 ls []) := by
    intro  t1 t2 H locs ls hP hD hS hl hw
    delta wp_X6_numberAhead_b7 at hw
    obtain ⟨I, μ, hI0, hst⟩ := hw
    have key : ∀ (n : Nat) (t1 : Int32) (t2 : Int32) (H : Heap) (locs : List Loc) (ls : Array Slot), va_P D classes (w_X6_numberAhead cI cZ h0 h_bytes f_length f_kind f_start f_after a_bytes) H → va_D A (w_X6_numberAhead cI cZ h0 h_bytes f_length f_kind f_start f_after a_bytes) → va_S A s.heap H locs → lv_has ls 3 [(0, .ref h0), (1, .int t1), (2, .int t2)] → I t1 t2 → μ t1 t2 < n → W p l e rm_X6_numberAhead s m args below meth c H locs 0 0 Z (F0 m 7 ls []) := by
      intro n
      induction n with
      | zero => intro t1 t2 H locs ls hP hD hS hl hI hlt; exact absurd hlt (Nat.not_lt_zero _)
      | succ n ih =>
        intro t1 t2 H locs ls hP hD hS hl hI hlt
        have hw := hst t1 t2 hI
        refine lv_iload_n hx hb dX6_numberAhead_7 rfl (lv_at hl 2 rfl) ?_
        refine lv_aload_n hx hb dX6_numberAhead_8 rfl (lv_at hl 0 rfl) ?_
        refine va_get (D := D) (ci := 6) (v := .int f_after) (C := RX6) (T := TX6) (N := 5) hx hb htg in_X6 hown X.1 hP 0 rfl rfl 4 (by decide) (htg _ mw_47) (fun _ h9 => h9) rfl dX6_numberAhead_9 ?_
        refine lv_icmp_ge (tgt := 42) hx hb dX6_numberAhead_12 (by decide) (fun cb => ?_) (fun cb => ?_)
        · have hw := hw.1 cb
          refine lv_iload_n hx hb dX6_numberAhead_42 rfl (lv_at hl 1 rfl) ?_
          exact hret t1 H locs _ _ dX6_numberAhead_43 hP hD hS hw
        · have hw := hw.2 cb
          refine lv_iload_n hx hb dX6_numberAhead_15 rfl (lv_at hl 1 rfl) ?_
          refine lv_bipush (v := 10) hx hb dX6_numberAhead_16 (by decide) ?_
          refine lv_imul hx hb dX6_numberAhead_18 ?_
          refine lv_aload_n hx hb dX6_numberAhead_19 rfl (lv_at hl 0 rfl) ?_
          refine va_get (D := D) (ci := 6) (v := .ref h_bytes) (C := RX6) (T := TX6) (N := 5) hx hb htg in_X6 hown X.1 hP 0 rfl rfl 0 (by decide) (htg _ mw_46) (fun _ h9 => h9) rfl dX6_numberAhead_20 ?_
          refine lv_iload_n hx hb dX6_numberAhead_23 rfl (lv_at hl 2 rfl) ?_
          obtain ⟨g, hw⟩ := hw
          refine va_iald hx hb X.1 hP 1 0 rfl rfl g dX6_numberAhead_24 ?_
          refine lv_iadd hx hb dX6_numberAhead_25 ?_
          refine lv_bipush (v := 48) hx hb dX6_numberAhead_26 (by decide) ?_
          refine lv_isub hx hb dX6_numberAhead_28 ?_
          refine lv_sipush (v := 10001) hx hb dX6_numberAhead_29 (by decide) ?_
          refine va_mmin hx hb (hml.trans hl.1.symm) hown (htg _ mw_55) (htg _ mw_56) (htg _ mw_34) (htg _ mw_57) (Nat.le_of_ble_eq_true rfl) (Nat.le_of_ble_eq_true rfl) (Nat.zero_le _) (Nat.zero_le _) dX6_numberAhead_32 ?_
          refine lv_istore_n (lv' := [(1, .int (if (10001 : Int32) < (((t1 * (10 : Int32)) + (a_bytes t2.toNatClampNeg)) - (48 : Int32)) then (10001 : Int32) else (((t1 * (10 : Int32)) + (a_bytes t2.toNatClampNeg)) - (48 : Int32)))), (0, .ref h0), (2, .int t2)]) hx hb dX6_numberAhead_35 rfl hl (by decide) rfl (fun ls hl => ?_)
          refine lv_iinc (v := t2 + 1) (lv' := [(2, .int (t2 + 1)), (1, .int (if (10001 : Int32) < (((t1 * (10 : Int32)) + (a_bytes t2.toNatClampNeg)) - (48 : Int32)) then (10001 : Int32) else (((t1 * (10 : Int32)) + (a_bytes t2.toNatClampNeg)) - (48 : Int32)))), (0, .ref h0)]) hx hb dX6_numberAhead_36 hl (k := 2) rfl rfl (by decide) rfl (fun ls hl => ?_)
          refine lv_goto (tgt := 7) hx hb dX6_numberAhead_39 (by decide) ?_
          exact ih (if (10001 : Int32) < (((t1 * (10 : Int32)) + (a_bytes t2.toNatClampNeg)) - (48 : Int32)) then (10001 : Int32) else (((t1 * (10 : Int32)) + (a_bytes t2.toNatClampNeg)) - (48 : Int32))) (t2 + 1) H locs ls hP hD hS (lv_sub hl [2, 1, 0] rfl) hw.1 (Nat.lt_of_lt_of_le hw.2 (Nat.le_of_lt_succ hlt))
    exact key (μ t1 t2 + 1) t1 t2 H locs ls hP hD hS hl hI0 (Nat.lt_succ_self _)
  delta wp_X6_numberAhead at hw
  refine lv_iconst (v := 0) hx hb dX6_numberAhead_0 (by decide) ?_
  refine lv_istore_n (lv' := [(1, .int (0 : Int32)), (0, .ref h0)]) hx hb dX6_numberAhead_1 rfl hl (by decide) rfl (fun ls hl => ?_)
  refine lv_aload_n hx hb dX6_numberAhead_2 rfl (lv_at hl 1 rfl) ?_
  refine va_get (D := D) (ci := 6) (v := .int f_start) (C := RX6) (T := TX6) (N := 5) hx hb htg in_X6 hown X.1 hP 0 rfl rfl 3 (by decide) (htg _ mw_50) (fun _ h9 => h9) rfl dX6_numberAhead_3 ?_
  refine lv_istore_n (lv' := [(2, .int f_start), (1, .int (0 : Int32)), (0, .ref h0)]) hx hb dX6_numberAhead_6 rfl hl (by decide) rfl (fun ls hl => ?_)
  exact bk_7 (0 : Int32) f_start H locs ls hP hD hS (lv_sub hl [2, 1, 0] rfl) hw
set_option maxHeartbeats 40000000 in
set_option maxRecDepth 100000 in
theorem c_X6_numberAhead (l : Launch) (D : va_G) (cI cZ : ClassId) (ad : (Nat → Nat) × (Nat → Nat)) (sz : Nat) (h0 : Nat) (h_bytes : Nat) (f_length : Int32) (f_kind : Int32) (f_start : Int32) (f_after : Int32) (a_bytes : (Nat → Int32))  (Q : Int32 → Prop) (hw : wp_X6_numberAhead f_start f_after a_bytes Q) : Met l yX6_numberAhead ((.code yX6_numberAhead cX6_numberAhead 3 (some .int)) :: gw) rm_X6_numberAhead (va_Pc [.ref h0] (PC D cI cZ ad sz (w_X6_numberAhead cI cZ h0 h_bytes f_length f_kind f_start f_after a_bytes))) (va_Qi (fun r (_ : Unit) => Q r) (PW D (va_A (w_X6_numberAhead cI cZ h0 h_bytes f_length f_kind f_start f_after a_bytes) sz) (fun (_ : Unit) => (w_X6_numberAhead cI cZ h0 h_bytes f_length f_kind f_start f_after a_bytes))) (va_A (w_X6_numberAhead cI cZ h0 h_bytes f_length f_kind f_start f_after a_bytes) sz)) 0 0 (va_A (w_X6_numberAhead cI cZ h0 h_bytes f_length f_kind f_start f_after a_bytes) sz) := by
  refine Met.ofW (cc := cX6_numberAhead) (maxL := 3) (ret := (some .int)) (by decide) rfl ?_
  intro p e s m args below meth c s₁ B hml hv
  have hst := PC.start hv.2
  obtain ⟨ls, hfr, hl⟩ := en_fr (m := m) [.ref h0] 3 hv.1 (Nat.le_of_ble_eq_true rfl)
  rw [hfr]
  generalize va_A (w_X6_numberAhead cI cZ h0 h_bytes f_length f_kind f_start f_after a_bytes) sz = A at hst ⊢
  obtain ⟨X, hP, hD⟩ := hst
  exact k_X6_numberAhead B.exec B.bytes hml (findClass_of_methodNamed B.named) (atoms_spec (ws := (.code yX6_numberAhead cX6_numberAhead 3 (some .int)) :: gw) B.pre) X h0 h_bytes f_length f_kind f_start f_after a_bytes Q _ (fun r H locs pc ls hdg hP hD hS hw => rt_i () B.exec B.bytes B.returns B.notSynchronized hdg hP hD hS hw) s.heap [] ls hP hD va_S.rf hl hw
set_option maxHeartbeats 40000000 in
set_option maxRecDepth 100000 in
theorem k_X6_takeNumber {p : Program} {l : Launch} {e : Env} {s : State} {m : MethodId} {args : Array Value} {below : List Frame} {meth : Method} {c : Code} {D : va_G} {cI cZ : ClassId} {ad : (Nat → Nat) × (Nat → Nat)} {A : Nat → Prop} (hx : p.tables.exec = Jvm.exec) (hb : c.code = cX6_takeNumber) (hml : c.maxLocals = 3) (hown : s.vm.findClass RX6 = some m.cls) (hts : ∀ w ∈ (.code yX6_takeNumber cX6_takeNumber 3 (some .int)) :: gw, w.before args s = true) (X : CX D cI cZ ad A s) (h0 : Nat) (h_bytes : Nat) (f_length : Int32) (f_kind : Int32) (f_start : Int32) (f_after : Int32) (a_bytes : (Nat → Int32)) (x1 : Int32)  (Q : Int32 → Int32 → Int32 → Int32 → Prop) (Z : State → Prop) (hret : ∀ (r : Int32) (f_kind' : Int32) (f_start' : Int32) (f_after' : Int32)  (H : Heap) (locs : List Loc) (pc : Nat) (ls : Array Slot), decode cX6_takeNumber pc = .ok (.ireturn, 1) → va_P D classes (w_X6_takeNumber cI cZ h0 h_bytes f_length f_kind' f_start' f_after' a_bytes) H → va_D A (w_X6_takeNumber cI cZ h0 h_bytes f_length f_kind' f_start' f_after' a_bytes) → va_S A s.heap H locs → Q r f_kind' f_start' f_after' → W p l e rm_X6_takeNumber s m args below meth c H locs 0 0 Z (F0 m pc ls [.int r])) (H : Heap) (locs : List Loc) (ls : Array Slot) (hP : va_P D classes (w_X6_takeNumber cI cZ h0 h_bytes f_length f_kind f_start f_after a_bytes) H) (hD : va_D A (w_X6_takeNumber cI cZ h0 h_bytes f_length f_kind f_start f_after a_bytes)) (hS : va_S A s.heap H locs) (hl : lv_has ls 3 [(0, .ref h0), (1, .int x1)]) (hw : wp_X6_takeNumber f_length f_kind f_start f_after a_bytes x1 Q) : W p l e rm_X6_takeNumber s m args below meth c H locs 0 0 Z (F0 m 0 ls []) := by
  have htg : ∀ w ∈ gw, w.before args s = true := fun w h => hts w (gw_cons w h)
  have bk_27 : ∀ (f_kind : Int32) (f_start : Int32) (f_after : Int32) (H : Heap) (locs : List Loc) (ls : Array Slot), va_P D classes (w_X6_takeNumber cI cZ h0 h_bytes f_length f_kind f_start f_after a_bytes) H → va_D A (w_X6_takeNumber cI cZ h0 h_bytes f_length f_kind f_start f_after a_bytes) → va_S A s.heap H locs → lv_has ls 3 [] → wp_X6_takeNumber_b27 f_length a_bytes x1 Q f_kind f_start f_after → W p l e rm_X6_takeNumber s m args below meth c H locs 0 0 Z (F0 m 27 ls []) := by
    intro  f_kind f_start f_after H locs ls hP hD hS hl hw
    delta wp_X6_takeNumber_b27 at hw
    refine lv_iconst (v := -1) hx hb dX6_takeNumber_27 (by decide) ?_
    exact hret (-1 : Int32) f_kind f_start f_after H locs _ _ dX6_takeNumber_28 hP hD hS hw
  delta wp_X6_takeNumber at hw
  refine lv_aload_n hx hb dX6_takeNumber_0 rfl (lv_at hl 0 rfl) ?_
  refine va_get (D := D) (ci := 6) (v := .int f_kind) (C := RX6) (T := TX6) (N := 5) hx hb htg in_X6 hown X.1 hP 0 rfl rfl 2 (by decide) (htg _ mw_49) (fun _ h9 => h9) rfl dX6_takeNumber_1 ?_
  refine lv_iconst (v := 2) hx hb dX6_takeNumber_4 (by decide) ?_
  refine lv_icmp_eq (tgt := 10) hx hb dX6_takeNumber_5 (by decide) (fun cb => ?_) (fun cb => ?_)
  · have hw := hw.1 cb
    refine lv_aload_n hx hb dX6_takeNumber_10 rfl (lv_at hl 0 rfl) ?_
    refine cv_i (rest := []) (ws2 := fun (u : Unit) => (w_X6_takeNumber cI cZ h0 h_bytes f_length f_kind f_start f_after a_bytes)) ⟨hx, hb, hml, hown, hts⟩ (c_X6_numberAhead l D cI cZ ad H.size h0 h_bytes f_length f_kind f_start f_after a_bytes _ hw) (cwV 0 hts (gIV gw_cons mw_58 gy_X6_numberAhead) rfl rfl rfl hd_X6_numberAhead ⟨Nat.le_of_ble_eq_true rfl, Nat.le_of_ble_eq_true rfl⟩) X hP hD hS [0, 1] [] [0, 1] rfl rfl rfl rfl rfl rfl (fun u => rfl) 0 6 rfl rfl rfl (lv_sub hl [] rfl) rfl (Nat.le_of_ble_eq_true rfl) dX6_takeNumber_11 ⟨Nat.zero_le _, Nat.zero_le _⟩ (fun r_1 u H locs hw hP hD hS => ?_)
    have hP : va_P D classes (w_X6_takeNumber cI cZ h0 h_bytes f_length f_kind f_start f_after a_bytes) H := hP
    have hD : va_D A (w_X6_takeNumber cI cZ h0 h_bytes f_length f_kind f_start f_after a_bytes) := hD
    refine lv_istore_n (lv' := [(2, .int r_1), (0, .ref h0), (1, .int x1)]) hx hb dX6_takeNumber_14 rfl hl (by decide) rfl (fun ls hl => ?_)
    refine lv_iload_n hx hb dX6_takeNumber_15 rfl (lv_at hl 0 rfl) ?_
    refine lv_iload_n hx hb dX6_takeNumber_16 rfl (lv_at hl 2 rfl) ?_
    refine lv_icmp_lt (tgt := 27) hx hb dX6_takeNumber_17 (by decide) (fun cb => ?_) (fun cb => ?_)
    · have hw := hw.1 cb
      exact bk_27 f_kind f_start f_after H locs ls hP hD hS (lv_sub hl [] rfl) hw
    · have hw := hw.2 cb
      refine lv_iload_n hx hb dX6_takeNumber_20 rfl (lv_at hl 0 rfl) ?_
      refine lv_sipush (v := 10000) hx hb dX6_takeNumber_21 (by decide) ?_
      refine lv_icmp_le (tgt := 29) hx hb dX6_takeNumber_24 (by decide) (fun cb => ?_) (fun cb => ?_)
      · have hw := hw.1 cb
        refine lv_aload_n hx hb dX6_takeNumber_29 rfl (lv_at hl 1 rfl) ?_
        refine cv_v (rest := []) (ws2 := fun (u : Int32 × Int32 × Int32) => (w_X6_takeNumber cI cZ h0 h_bytes f_length u.1 u.2.1 u.2.2 a_bytes)) ⟨hx, hb, hml, hown, hts⟩ (c_X6_nextToken l D cI cZ ad H.size h0 h_bytes f_length f_kind f_start f_after a_bytes _ hw) (cwV 0 hts (gIV gw_cons mw_52 gy_X6_nextToken) rfl rfl rfl hd_X6_nextToken ⟨Nat.le_of_ble_eq_true rfl, Nat.le_of_ble_eq_true rfl⟩) X hP hD hS [0, 1] [] [0, 1] rfl rfl rfl rfl rfl rfl (fun u => rfl) 0 6 rfl rfl rfl (lv_sub hl [] rfl) rfl (Nat.le_of_ble_eq_true rfl) dX6_takeNumber_30 ⟨Nat.zero_le _, Nat.zero_le _⟩ (fun u H locs hw hP hD hS => ?_)
        obtain ⟨f_kind_2, f_start_3, f_after_4⟩ := u
        try dsimp only at hw
        have hP : va_P D classes (w_X6_takeNumber cI cZ h0 h_bytes f_length f_kind_2 f_start_3 f_after_4 a_bytes) H := hP
        have hD : va_D A (w_X6_takeNumber cI cZ h0 h_bytes f_length f_kind_2 f_start_3 f_after_4 a_bytes) := hD
        refine lv_iload_n hx hb dX6_takeNumber_33 rfl (lv_at hl 0 rfl) ?_
        exact hret r_1 f_kind_2 f_start_3 f_after_4 H locs _ _ dX6_takeNumber_34 hP hD hS hw
      · have hw := hw.2 cb
        exact bk_27 f_kind f_start f_after H locs ls hP hD hS (lv_sub hl [] rfl) hw
  · have hw := hw.2 cb
    refine lv_iconst (v := -1) hx hb dX6_takeNumber_8 (by decide) ?_
    exact hret (-1 : Int32) f_kind f_start f_after H locs _ _ dX6_takeNumber_9 hP hD hS hw
set_option maxHeartbeats 40000000 in
set_option maxRecDepth 100000 in
theorem c_X6_takeNumber (l : Launch) (D : va_G) (cI cZ : ClassId) (ad : (Nat → Nat) × (Nat → Nat)) (sz : Nat) (h0 : Nat) (h_bytes : Nat) (f_length : Int32) (f_kind : Int32) (f_start : Int32) (f_after : Int32) (a_bytes : (Nat → Int32)) (x1 : Int32)  (Q : Int32 → Int32 → Int32 → Int32 → Prop) (hw : wp_X6_takeNumber f_length f_kind f_start f_after a_bytes x1 Q) : Met l yX6_takeNumber ((.code yX6_takeNumber cX6_takeNumber 3 (some .int)) :: gw) rm_X6_takeNumber (va_Pc [.ref h0, .int x1] (PC D cI cZ ad sz (w_X6_takeNumber cI cZ h0 h_bytes f_length f_kind f_start f_after a_bytes))) (va_Qi (fun r (u : Int32 × Int32 × Int32) => Q r u.1 u.2.1 u.2.2) (PW D (va_A (w_X6_takeNumber cI cZ h0 h_bytes f_length f_kind f_start f_after a_bytes) sz) (fun (u : Int32 × Int32 × Int32) => (w_X6_takeNumber cI cZ h0 h_bytes f_length u.1 u.2.1 u.2.2 a_bytes))) (va_A (w_X6_takeNumber cI cZ h0 h_bytes f_length f_kind f_start f_after a_bytes) sz)) 0 0 (va_A (w_X6_takeNumber cI cZ h0 h_bytes f_length f_kind f_start f_after a_bytes) sz) := by
  refine Met.ofW (cc := cX6_takeNumber) (maxL := 3) (ret := (some .int)) (by decide) rfl ?_
  intro p e s m args below meth c s₁ B hml hv
  have hst := PC.start hv.2
  obtain ⟨ls, hfr, hl⟩ := en_fr (m := m) [.ref h0, .int x1] 3 hv.1 (Nat.le_of_ble_eq_true rfl)
  rw [hfr]
  generalize va_A (w_X6_takeNumber cI cZ h0 h_bytes f_length f_kind f_start f_after a_bytes) sz = A at hst ⊢
  obtain ⟨X, hP, hD⟩ := hst
  exact k_X6_takeNumber B.exec B.bytes hml (findClass_of_methodNamed B.named) (atoms_spec (ws := (.code yX6_takeNumber cX6_takeNumber 3 (some .int)) :: gw) B.pre) X h0 h_bytes f_length f_kind f_start f_after a_bytes x1 Q _ (fun r f_kind' f_start' f_after' H locs pc ls hdg hP hD hS hw => rt_i (f_kind', f_start', f_after') B.exec B.bytes B.returns B.notSynchronized hdg hP hD hS hw) s.heap [] ls hP hD va_S.rf hl hw
set_option maxHeartbeats 40000000 in
set_option maxRecDepth 100000 in
theorem k_X6_takeBound {p : Program} {l : Launch} {e : Env} {s : State} {m : MethodId} {args : Array Value} {below : List Frame} {meth : Method} {c : Code} {D : va_G} {cI cZ : ClassId} {ad : (Nat → Nat) × (Nat → Nat)} {A : Nat → Prop} (hx : p.tables.exec = Jvm.exec) (hb : c.code = cX6_takeBound) (hml : c.maxLocals = 3) (hown : s.vm.findClass RX6 = some m.cls) (hts : ∀ w ∈ (.code yX6_takeBound cX6_takeBound 3 (some .int)) :: gw, w.before args s = true) (X : CX D cI cZ ad A s) (h0 : Nat) (h_bytes : Nat) (f_length : Int32) (f_kind : Int32) (f_start : Int32) (f_after : Int32) (a_bytes : (Nat → Int32)) (x1 : Int32)  (Q : Int32 → Int32 → Int32 → Int32 → Prop) (Z : State → Prop) (hret : ∀ (r : Int32) (f_kind' : Int32) (f_start' : Int32) (f_after' : Int32)  (H : Heap) (locs : List Loc) (pc : Nat) (ls : Array Slot), decode cX6_takeBound pc = .ok (.ireturn, 1) → va_P D classes (w_X6_takeBound cI cZ h0 h_bytes f_length f_kind' f_start' f_after' a_bytes) H → va_D A (w_X6_takeBound cI cZ h0 h_bytes f_length f_kind' f_start' f_after' a_bytes) → va_S A s.heap H locs → Q r f_kind' f_start' f_after' → W p l e rm_X6_takeBound s m args below meth c H locs 0 0 Z (F0 m pc ls [.int r])) (H : Heap) (locs : List Loc) (ls : Array Slot) (hP : va_P D classes (w_X6_takeBound cI cZ h0 h_bytes f_length f_kind f_start f_after a_bytes) H) (hD : va_D A (w_X6_takeBound cI cZ h0 h_bytes f_length f_kind f_start f_after a_bytes)) (hS : va_S A s.heap H locs) (hl : lv_has ls 3 [(0, .ref h0), (1, .int x1)]) (hw : wp_X6_takeBound f_length f_kind f_start f_after a_bytes x1 Q) : W p l e rm_X6_takeBound s m args below meth c H locs 0 0 Z (F0 m 0 ls []) := by
  have htg : ∀ w ∈ gw, w.before args s = true := fun w h => hts w (gw_cons w h)
  have bk_26 : ∀ (f_kind : Int32) (f_start : Int32) (f_after : Int32) (s0 : Int32) (H : Heap) (locs : List Loc) (ls : Array Slot), va_P D classes (w_X6_takeBound cI cZ h0 h_bytes f_length f_kind f_start f_after a_bytes) H → va_D A (w_X6_takeBound cI cZ h0 h_bytes f_length f_kind f_start f_after a_bytes) → va_S A s.heap H locs → lv_has ls 3 [(0, .ref h0)] → wp_X6_takeBound_b26 f_length a_bytes x1 Q f_kind f_start f_after s0 → W p l e rm_X6_takeBound s m args below meth c H locs 0 0 Z (F0 m 26 ls [.int s0]) := by
    intro  f_kind f_start f_after s0 H locs ls hP hD hS hl hw
    delta wp_X6_takeBound_b26 at hw
    refine lv_istore_n (lv' := [(2, .int s0), (0, .ref h0)]) hx hb dX6_takeBound_26 rfl hl (by decide) rfl (fun ls hl => ?_)
    refine lv_iload_n hx hb dX6_takeBound_27 rfl (lv_at hl 0 rfl) ?_
    refine lv_if_eq (tgt := 39) hx hb dX6_takeBound_28 (by decide) (fun cb => ?_) (fun cb => ?_)
    · have hw := hw.1 cb
      refine lv_iconst (v := -1) hx hb dX6_takeBound_39 (by decide) ?_
      exact hret (-1 : Int32) f_kind f_start f_after H locs _ _ dX6_takeBound_40 hP hD hS hw
    · have hw := hw.2 cb
      refine lv_aload_n hx hb dX6_takeBound_31 rfl (lv_at hl 1 rfl) ?_
      refine lv_iconst (v := 0) hx hb dX6_takeBound_32 (by decide) ?_
      refine cv_i (rest := []) (ws2 := fun (u : Int32 × Int32 × Int32) => (w_X6_takeBound cI cZ h0 h_bytes f_length u.1 u.2.1 u.2.2 a_bytes)) ⟨hx, hb, hml, hown, hts⟩ (c_X6_takeNumber l D cI cZ ad H.size h0 h_bytes f_length f_kind f_start f_after a_bytes (0 : Int32) _ hw) (cwV 1 hts (gIV gw_cons mw_59 gy_X6_takeNumber) rfl rfl rfl hd_X6_takeNumber ⟨Nat.le_of_ble_eq_true rfl, Nat.le_of_ble_eq_true rfl⟩) X hP hD hS [0, 1] [] [0, 1] rfl rfl rfl rfl rfl rfl (fun u => rfl) 0 6 rfl rfl rfl (lv_sub hl [] rfl) rfl (Nat.le_of_ble_eq_true rfl) dX6_takeBound_33 ⟨Nat.zero_le _, Nat.zero_le _⟩ (fun r_4 u H locs hw hP hD hS => ?_)
      obtain ⟨f_kind_1, f_start_2, f_after_3⟩ := u
      try dsimp only at hw
      have hP : va_P D classes (w_X6_takeBound cI cZ h0 h_bytes f_length f_kind_1 f_start_2 f_after_3 a_bytes) H := hP
      have hD : va_D A (w_X6_takeBound cI cZ h0 h_bytes f_length f_kind_1 f_start_2 f_after_3 a_bytes) := hD
      refine lv_goto (tgt := 40) hx hb dX6_takeBound_36 (by decide) ?_
      exact hret r_4 f_kind_1 f_start_2 f_after_3 H locs _ _ dX6_takeBound_40 hP hD hS hw
  delta wp_X6_takeBound at hw
  refine lv_iload_n hx hb dX6_takeBound_0 rfl (lv_at hl 1 rfl) ?_
  refine lv_iconst (v := 3) hx hb dX6_takeBound_1 (by decide) ?_
  refine lv_icmp_ne (tgt := 7) hx hb dX6_takeBound_2 (by decide) (fun cb => ?_) (fun cb => ?_)
  · have hw := hw.1 cb
    refine lv_iload_n hx hb dX6_takeBound_7 rfl (lv_at hl 1 rfl) ?_
    refine lv_if_ne (tgt := 20) hx hb dX6_takeBound_8 (by decide) (fun cb => ?_) (fun cb => ?_)
    · have hw := hw.1 cb
      refine lv_aload_n hx hb dX6_takeBound_20 rfl (lv_at hl 0 rfl) ?_
      refine va_ldcS hx hb hown (X.2.2.1.2.2.1 6 (by decide)) dX6_takeBound_21 ?_
      refine cv_i (rest := []) (ws2 := fun (u : Int32 × Int32 × Int32) => (w_X6_takeBound cI cZ h0 h_bytes f_length u.1 u.2.1 u.2.2 a_bytes)) ⟨hx, hb, hml, hown, hts⟩ (c_X6_takeWord l D cI cZ ad H.size h0 h_bytes f_length f_kind f_start f_after a_bytes 6 (by decide) _ hw) (cwV 1 hts (gIV gw_cons mw_54 gy_X6_takeWord) rfl rfl rfl hd_X6_takeWord ⟨Nat.le_of_ble_eq_true rfl, Nat.le_of_ble_eq_true rfl⟩) X hP hD hS [0, 1] [] [0, 1] rfl rfl rfl rfl rfl rfl (fun u => rfl) 0 6 rfl rfl rfl (lv_sub hl [] rfl) rfl (Nat.le_of_ble_eq_true rfl) dX6_takeBound_23 ⟨Nat.zero_le _, Nat.zero_le _⟩ (fun r_8 u H locs hw hP hD hS => ?_)
      obtain ⟨f_kind_5, f_start_6, f_after_7⟩ := u
      try dsimp only at hw
      have hP : va_P D classes (w_X6_takeBound cI cZ h0 h_bytes f_length f_kind_5 f_start_6 f_after_7 a_bytes) H := hP
      have hD : va_D A (w_X6_takeBound cI cZ h0 h_bytes f_length f_kind_5 f_start_6 f_after_7 a_bytes) := hD
      exact bk_26 f_kind_5 f_start_6 f_after_7 r_8 H locs ls hP hD hS (lv_sub hl [0] rfl) hw
    · have hw := hw.2 cb
      refine lv_aload_n hx hb dX6_takeBound_11 rfl (lv_at hl 0 rfl) ?_
      refine va_ldcS hx hb hown (X.2.2.1.2.2.1 5 (by decide)) dX6_takeBound_12 ?_
      refine cv_i (rest := []) (ws2 := fun (u : Int32 × Int32 × Int32) => (w_X6_takeBound cI cZ h0 h_bytes f_length u.1 u.2.1 u.2.2 a_bytes)) ⟨hx, hb, hml, hown, hts⟩ (c_X6_takeWord l D cI cZ ad H.size h0 h_bytes f_length f_kind f_start f_after a_bytes 5 (by decide) _ hw) (cwV 1 hts (gIV gw_cons mw_54 gy_X6_takeWord) rfl rfl rfl hd_X6_takeWord ⟨Nat.le_of_ble_eq_true rfl, Nat.le_of_ble_eq_true rfl⟩) X hP hD hS [0, 1] [] [0, 1] rfl rfl rfl rfl rfl rfl (fun u => rfl) 0 6 rfl rfl rfl (lv_sub hl [] rfl) rfl (Nat.le_of_ble_eq_true rfl) dX6_takeBound_14 ⟨Nat.zero_le _, Nat.zero_le _⟩ (fun r_12 u H locs hw hP hD hS => ?_)
      obtain ⟨f_kind_9, f_start_10, f_after_11⟩ := u
      try dsimp only at hw
      have hP : va_P D classes (w_X6_takeBound cI cZ h0 h_bytes f_length f_kind_9 f_start_10 f_after_11 a_bytes) H := hP
      have hD : va_D A (w_X6_takeBound cI cZ h0 h_bytes f_length f_kind_9 f_start_10 f_after_11 a_bytes) := hD
      refine lv_goto (tgt := 26) hx hb dX6_takeBound_17 (by decide) ?_
      exact bk_26 f_kind_9 f_start_10 f_after_11 r_12 H locs ls hP hD hS (lv_sub hl [0] rfl) hw
  · have hw := hw.2 cb
    refine lv_iconst (v := 0) hx hb dX6_takeBound_5 (by decide) ?_
    exact hret (0 : Int32) f_kind f_start f_after H locs _ _ dX6_takeBound_6 hP hD hS hw
set_option maxHeartbeats 40000000 in
set_option maxRecDepth 100000 in
theorem c_X6_takeBound (l : Launch) (D : va_G) (cI cZ : ClassId) (ad : (Nat → Nat) × (Nat → Nat)) (sz : Nat) (h0 : Nat) (h_bytes : Nat) (f_length : Int32) (f_kind : Int32) (f_start : Int32) (f_after : Int32) (a_bytes : (Nat → Int32)) (x1 : Int32)  (Q : Int32 → Int32 → Int32 → Int32 → Prop) (hw : wp_X6_takeBound f_length f_kind f_start f_after a_bytes x1 Q) : Met l yX6_takeBound ((.code yX6_takeBound cX6_takeBound 3 (some .int)) :: gw) rm_X6_takeBound (va_Pc [.ref h0, .int x1] (PC D cI cZ ad sz (w_X6_takeBound cI cZ h0 h_bytes f_length f_kind f_start f_after a_bytes))) (va_Qi (fun r (u : Int32 × Int32 × Int32) => Q r u.1 u.2.1 u.2.2) (PW D (va_A (w_X6_takeBound cI cZ h0 h_bytes f_length f_kind f_start f_after a_bytes) sz) (fun (u : Int32 × Int32 × Int32) => (w_X6_takeBound cI cZ h0 h_bytes f_length u.1 u.2.1 u.2.2 a_bytes))) (va_A (w_X6_takeBound cI cZ h0 h_bytes f_length f_kind f_start f_after a_bytes) sz)) 0 0 (va_A (w_X6_takeBound cI cZ h0 h_bytes f_length f_kind f_start f_after a_bytes) sz) := by
  refine Met.ofW (cc := cX6_takeBound) (maxL := 3) (ret := (some .int)) (by decide) rfl ?_
  intro p e s m args below meth c s₁ B hml hv
  have hst := PC.start hv.2
  obtain ⟨ls, hfr, hl⟩ := en_fr (m := m) [.ref h0, .int x1] 3 hv.1 (Nat.le_of_ble_eq_true rfl)
  rw [hfr]
  generalize va_A (w_X6_takeBound cI cZ h0 h_bytes f_length f_kind f_start f_after a_bytes) sz = A at hst ⊢
  obtain ⟨X, hP, hD⟩ := hst
  exact k_X6_takeBound B.exec B.bytes hml (findClass_of_methodNamed B.named) (atoms_spec (ws := (.code yX6_takeBound cX6_takeBound 3 (some .int)) :: gw) B.pre) X h0 h_bytes f_length f_kind f_start f_after a_bytes x1 Q _ (fun r f_kind' f_start' f_after' H locs pc ls hdg hP hD hS hw => rt_i (f_kind', f_start', f_after') B.exec B.bytes B.returns B.notSynchronized hdg hP hD hS hw) s.heap [] ls hP hD va_S.rf hl hw
set_option maxHeartbeats 40000000 in
set_option maxRecDepth 100000 in
theorem k_X6_takeDecree {p : Program} {l : Launch} {e : Env} {s : State} {m : MethodId} {args : Array Value} {below : List Frame} {meth : Method} {c : Code} {D : va_G} {cI cZ : ClassId} {ad : (Nat → Nat) × (Nat → Nat)} {A : Nat → Prop} (hx : p.tables.exec = Jvm.exec) (hb : c.code = cX6_takeDecree) (hml : c.maxLocals = 6) (hown : s.vm.findClass RX6 = some m.cls) (hts : ∀ w ∈ (.code yX6_takeDecree cX6_takeDecree 6 (some .boolean)) :: gw, w.before args s = true) (X : CX D cI cZ ad A s) (h0 : Nat) (h_bytes : Nat) (h_p1 : Nat) (h_p1_kinds : Nat) (h_p1_parts : Nat) (h_p1_wholes : Nat) (h_p1_bounds : Nat) (f_length : Int32) (f_kind : Int32) (f_start : Int32) (f_after : Int32) (a_bytes : (Nat → Int32)) (f_p1_size : Int32) (a_p1_kinds : (Nat → Int32)) (a_p1_parts : (Nat → Int32)) (a_p1_wholes : (Nat → Int32)) (a_p1_bounds : (Nat → Int32))  (Q : Int32 → Int32 → Int32 → Int32 → Int32 → (Nat → Int32) → (Nat → Int32) → (Nat → Int32) → (Nat → Int32) → Prop) (Z : State → Prop) (hret : ∀ (r : Int32) (f_kind' : Int32) (f_start' : Int32) (f_after' : Int32) (f_p1_size' : Int32) (a_p1_kinds' : (Nat → Int32)) (a_p1_parts' : (Nat → Int32)) (a_p1_wholes' : (Nat → Int32)) (a_p1_bounds' : (Nat → Int32))  (H : Heap) (locs : List Loc) (pc : Nat) (ls : Array Slot), decode cX6_takeDecree pc = .ok (.ireturn, 1) → (r = 0 ∨ r = 1) → va_P D classes (w_X6_takeDecree cI cZ h0 h_bytes h_p1 h_p1_kinds h_p1_parts h_p1_wholes h_p1_bounds f_length f_kind' f_start' f_after' a_bytes f_p1_size' a_p1_kinds' a_p1_parts' a_p1_wholes' a_p1_bounds') H → va_D A (w_X6_takeDecree cI cZ h0 h_bytes h_p1 h_p1_kinds h_p1_parts h_p1_wholes h_p1_bounds f_length f_kind' f_start' f_after' a_bytes f_p1_size' a_p1_kinds' a_p1_parts' a_p1_wholes' a_p1_bounds') → va_S A s.heap H locs → Q r f_kind' f_start' f_after' f_p1_size' a_p1_kinds' a_p1_parts' a_p1_wholes' a_p1_bounds' → W p l e rm_X6_takeDecree s m args below meth c H locs 0 0 Z (F0 m pc ls [.int r])) (H : Heap) (locs : List Loc) (ls : Array Slot) (hP : va_P D classes (w_X6_takeDecree cI cZ h0 h_bytes h_p1 h_p1_kinds h_p1_parts h_p1_wholes h_p1_bounds f_length f_kind f_start f_after a_bytes f_p1_size a_p1_kinds a_p1_parts a_p1_wholes a_p1_bounds) H) (hD : va_D A (w_X6_takeDecree cI cZ h0 h_bytes h_p1 h_p1_kinds h_p1_parts h_p1_wholes h_p1_bounds f_length f_kind f_start f_after a_bytes f_p1_size a_p1_kinds a_p1_parts a_p1_wholes a_p1_bounds)) (hS : va_S A s.heap H locs) (hl : lv_has ls 6 [(0, .ref h0), (1, .ref h_p1)]) (hw : wp_X6_takeDecree f_length f_kind f_start f_after a_bytes f_p1_size a_p1_kinds a_p1_parts a_p1_wholes a_p1_bounds Q) : W p l e rm_X6_takeDecree s m args below meth c H locs 0 0 Z (F0 m 0 ls []) := by
  have htg : ∀ w ∈ gw, w.before args s = true := fun w h => hts w (gw_cons w h)
  delta wp_X6_takeDecree at hw
  refine lv_aload_n hx hb dX6_takeDecree_0 rfl (lv_at hl 0 rfl) ?_
  refine cv_i (rest := []) (ws2 := fun (u : Int32 × Int32 × Int32) => (w_X6_takeDecree cI cZ h0 h_bytes h_p1 h_p1_kinds h_p1_parts h_p1_wholes h_p1_bounds f_length u.1 u.2.1 u.2.2 a_bytes f_p1_size a_p1_kinds a_p1_parts a_p1_wholes a_p1_bounds)) ⟨hx, hb, hml, hown, hts⟩ (c_X6_takeDecreeKind l D cI cZ ad H.size h0 h_bytes f_length f_kind f_start f_after a_bytes _ hw) (cwV 0 hts (gIV gw_cons mw_60 gy_X6_takeDecreeKind) rfl rfl rfl hd_X6_takeDecreeKind ⟨Nat.le_of_ble_eq_true rfl, Nat.le_of_ble_eq_true rfl⟩) X hP hD hS [0, 1] [2, 3, 4, 5, 6] [5, 6, 0, 1, 2, 3, 4] rfl rfl rfl rfl rfl rfl (fun u => rfl) 0 6 rfl rfl rfl (lv_sub hl [] rfl) rfl (Nat.le_of_ble_eq_true rfl) dX6_takeDecree_1 ⟨Nat.zero_le _, Nat.zero_le _⟩ (fun r_4 u H locs hw hP hD hS => ?_)
  obtain ⟨f_kind_1, f_start_2, f_after_3⟩ := u
  try dsimp only at hw
  have hP : va_P D classes (w_X6_takeDecree cI cZ h0 h_bytes h_p1 h_p1_kinds h_p1_parts h_p1_wholes h_p1_bounds f_length f_kind_1 f_start_2 f_after_3 a_bytes f_p1_size a_p1_kinds a_p1_parts a_p1_wholes a_p1_bounds) H := hP
  have hD : va_D A (w_X6_takeDecree cI cZ h0 h_bytes h_p1 h_p1_kinds h_p1_parts h_p1_wholes h_p1_bounds f_length f_kind_1 f_start_2 f_after_3 a_bytes f_p1_size a_p1_kinds a_p1_parts a_p1_wholes a_p1_bounds) := hD
  refine lv_istore_n (lv' := [(2, .int r_4), (0, .ref h0), (1, .ref h_p1)]) hx hb dX6_takeDecree_4 rfl hl (by decide) rfl (fun ls hl => ?_)
  refine lv_iload_n hx hb dX6_takeDecree_5 rfl (lv_at hl 0 rfl) ?_
  refine lv_iconst (v := -1) hx hb dX6_takeDecree_6 (by decide) ?_
  refine lv_icmp_ne (tgt := 12) hx hb dX6_takeDecree_7 (by decide) (fun cb => ?_) (fun cb => ?_)
  · have hw := hw.1 cb
    refine lv_aload_n hx hb dX6_takeDecree_12 rfl (lv_at hl 1 rfl) ?_
    refine lv_iconst (v := 0) hx hb dX6_takeDecree_13 (by decide) ?_
    refine cv_i (rest := []) (ws2 := fun (u : Int32 × Int32 × Int32) => (w_X6_takeDecree cI cZ h0 h_bytes h_p1 h_p1_kinds h_p1_parts h_p1_wholes h_p1_bounds f_length u.1 u.2.1 u.2.2 a_bytes f_p1_size a_p1_kinds a_p1_parts a_p1_wholes a_p1_bounds)) ⟨hx, hb, hml, hown, hts⟩ (c_X6_takeNumber l D cI cZ ad H.size h0 h_bytes f_length f_kind_1 f_start_2 f_after_3 a_bytes (0 : Int32) _ hw) (cwV 1 hts (gIV gw_cons mw_59 gy_X6_takeNumber) rfl rfl rfl hd_X6_takeNumber ⟨Nat.le_of_ble_eq_true rfl, Nat.le_of_ble_eq_true rfl⟩) X hP hD hS [0, 1] [2, 3, 4, 5, 6] [5, 6, 0, 1, 2, 3, 4] rfl rfl rfl rfl rfl rfl (fun u => rfl) 0 6 rfl rfl rfl (lv_sub hl [] rfl) rfl (Nat.le_of_ble_eq_true rfl) dX6_takeDecree_14 ⟨Nat.zero_le _, Nat.zero_le _⟩ (fun r_8 u H locs hw hP hD hS => ?_)
    obtain ⟨f_kind_5, f_start_6, f_after_7⟩ := u
    try dsimp only at hw
    have hP : va_P D classes (w_X6_takeDecree cI cZ h0 h_bytes h_p1 h_p1_kinds h_p1_parts h_p1_wholes h_p1_bounds f_length f_kind_5 f_start_6 f_after_7 a_bytes f_p1_size a_p1_kinds a_p1_parts a_p1_wholes a_p1_bounds) H := hP
    have hD : va_D A (w_X6_takeDecree cI cZ h0 h_bytes h_p1 h_p1_kinds h_p1_parts h_p1_wholes h_p1_bounds f_length f_kind_5 f_start_6 f_after_7 a_bytes f_p1_size a_p1_kinds a_p1_parts a_p1_wholes a_p1_bounds) := hD
    refine lv_istore_n (lv' := [(3, .int r_8), (2, .int r_4), (0, .ref h0), (1, .ref h_p1)]) hx hb dX6_takeDecree_17 rfl hl (by decide) rfl (fun ls hl => ?_)
    refine lv_iload_n hx hb dX6_takeDecree_18 rfl (lv_at hl 0 rfl) ?_
    refine lv_iconst (v := -1) hx hb dX6_takeDecree_19 (by decide) ?_
    refine lv_icmp_ne (tgt := 25) hx hb dX6_takeDecree_20 (by decide) (fun cb => ?_) (fun cb => ?_)
    · have hw := hw.1 cb
      refine lv_iload_n hx hb dX6_takeDecree_25 rfl (lv_at hl 1 rfl) ?_
      refine lv_iconst (v := 2) hx hb dX6_takeDecree_26 (by decide) ?_
      refine lv_icmp_ne (tgt := 40) hx hb dX6_takeDecree_27 (by decide) (fun cb => ?_) (fun cb => ?_)
      · have hw := hw.1 cb
        refine lv_aload_n hx hb dX6_takeDecree_40 rfl (lv_at hl 2 rfl) ?_
        refine va_ldcS hx hb hown (X.2.2.1.2.2.1 0 (by decide)) dX6_takeDecree_41 ?_
        refine cv_i (rest := []) (ws2 := fun (u : Int32 × Int32 × Int32) => (w_X6_takeDecree cI cZ h0 h_bytes h_p1 h_p1_kinds h_p1_parts h_p1_wholes h_p1_bounds f_length u.1 u.2.1 u.2.2 a_bytes f_p1_size a_p1_kinds a_p1_parts a_p1_wholes a_p1_bounds)) ⟨hx, hb, hml, hown, hts⟩ (c_X6_takeWord l D cI cZ ad H.size h0 h_bytes f_length f_kind_5 f_start_6 f_after_7 a_bytes 0 (by decide) _ hw) (cwV 1 hts (gIV gw_cons mw_54 gy_X6_takeWord) rfl rfl rfl hd_X6_takeWord ⟨Nat.le_of_ble_eq_true rfl, Nat.le_of_ble_eq_true rfl⟩) X hP hD hS [0, 1] [2, 3, 4, 5, 6] [5, 6, 0, 1, 2, 3, 4] rfl rfl rfl rfl rfl rfl (fun u => rfl) 0 6 rfl rfl rfl (lv_sub hl [] rfl) rfl (Nat.le_of_ble_eq_true rfl) dX6_takeDecree_43 ⟨Nat.zero_le _, Nat.zero_le _⟩ (fun r_12 u H locs hw hP hD hS => ?_)
        obtain ⟨f_kind_9, f_start_10, f_after_11⟩ := u
        try dsimp only at hw
        have hP : va_P D classes (w_X6_takeDecree cI cZ h0 h_bytes h_p1 h_p1_kinds h_p1_parts h_p1_wholes h_p1_bounds f_length f_kind_9 f_start_10 f_after_11 a_bytes f_p1_size a_p1_kinds a_p1_parts a_p1_wholes a_p1_bounds) H := hP
        have hD : va_D A (w_X6_takeDecree cI cZ h0 h_bytes h_p1 h_p1_kinds h_p1_parts h_p1_wholes h_p1_bounds f_length f_kind_9 f_start_10 f_after_11 a_bytes f_p1_size a_p1_kinds a_p1_parts a_p1_wholes a_p1_bounds) := hD
        refine lv_if_ne (tgt := 51) hx hb dX6_takeDecree_46 (by decide) (fun cb => ?_) (fun cb => ?_)
        · have hw := hw.1 cb
          refine lv_aload_n hx hb dX6_takeDecree_51 rfl (lv_at hl 2 rfl) ?_
          refine lv_iconst (v := 1) hx hb dX6_takeDecree_52 (by decide) ?_
          refine lv_iload_n hx hb dX6_takeDecree_53 rfl (lv_at hl 0 rfl) ?_
          refine va_mmax hx hb (hml.trans hl.1.symm) hown (htg _ mw_61) (htg _ mw_33) (htg _ mw_34) (htg _ mw_35) (Nat.le_of_ble_eq_true rfl) (Nat.le_of_ble_eq_true rfl) (Nat.zero_le _) (Nat.zero_le _) dX6_takeDecree_54 ?_
          refine cv_i (rest := []) (ws2 := fun (u : Int32 × Int32 × Int32) => (w_X6_takeDecree cI cZ h0 h_bytes h_p1 h_p1_kinds h_p1_parts h_p1_wholes h_p1_bounds f_length u.1 u.2.1 u.2.2 a_bytes f_p1_size a_p1_kinds a_p1_parts a_p1_wholes a_p1_bounds)) ⟨hx, hb, hml, hown, hts⟩ (c_X6_takeNumber l D cI cZ ad H.size h0 h_bytes f_length f_kind_9 f_start_10 f_after_11 a_bytes (if (1 : Int32) < r_8 then r_8 else (1 : Int32)) _ hw) (cwV 1 hts (gIV gw_cons mw_59 gy_X6_takeNumber) rfl rfl rfl hd_X6_takeNumber ⟨Nat.le_of_ble_eq_true rfl, Nat.le_of_ble_eq_true rfl⟩) X hP hD hS [0, 1] [2, 3, 4, 5, 6] [5, 6, 0, 1, 2, 3, 4] rfl rfl rfl rfl rfl rfl (fun u => rfl) 0 6 rfl rfl rfl (lv_sub hl [] rfl) rfl (Nat.le_of_ble_eq_true rfl) dX6_takeDecree_57 ⟨Nat.zero_le _, Nat.zero_le _⟩ (fun r_16 u H locs hw hP hD hS => ?_)
          obtain ⟨f_kind_13, f_start_14, f_after_15⟩ := u
          try dsimp only at hw
          have hP : va_P D classes (w_X6_takeDecree cI cZ h0 h_bytes h_p1 h_p1_kinds h_p1_parts h_p1_wholes h_p1_bounds f_length f_kind_13 f_start_14 f_after_15 a_bytes f_p1_size a_p1_kinds a_p1_parts a_p1_wholes a_p1_bounds) H := hP
          have hD : va_D A (w_X6_takeDecree cI cZ h0 h_bytes h_p1 h_p1_kinds h_p1_parts h_p1_wholes h_p1_bounds f_length f_kind_13 f_start_14 f_after_15 a_bytes f_p1_size a_p1_kinds a_p1_parts a_p1_wholes a_p1_bounds) := hD
          refine lv_istore (lv' := [(4, .int r_16), (3, .int r_8), (2, .int r_4), (0, .ref h0), (1, .ref h_p1)]) hx hb dX6_takeDecree_60 hl (by decide) rfl (fun ls hl => ?_)
          refine lv_iload hx hb dX6_takeDecree_62 (lv_at hl 0 rfl) ?_
          refine lv_iconst (v := -1) hx hb dX6_takeDecree_64 (by decide) ?_
          refine lv_icmp_ne (tgt := 70) hx hb dX6_takeDecree_65 (by decide) (fun cb => ?_) (fun cb => ?_)
          · have hw := hw.1 cb
            refine lv_aload_n hx hb dX6_takeDecree_70 rfl (lv_at hl 3 rfl) ?_
            refine lv_iload_n hx hb dX6_takeDecree_71 rfl (lv_at hl 2 rfl) ?_
            refine cv_i (rest := []) (ws2 := fun (u : Int32 × Int32 × Int32) => (w_X6_takeDecree cI cZ h0 h_bytes h_p1 h_p1_kinds h_p1_parts h_p1_wholes h_p1_bounds f_length u.1 u.2.1 u.2.2 a_bytes f_p1_size a_p1_kinds a_p1_parts a_p1_wholes a_p1_bounds)) ⟨hx, hb, hml, hown, hts⟩ (c_X6_takeBound l D cI cZ ad H.size h0 h_bytes f_length f_kind_13 f_start_14 f_after_15 a_bytes r_4 _ hw) (cwV 1 hts (gIV gw_cons mw_62 gy_X6_takeBound) rfl rfl rfl hd_X6_takeBound ⟨Nat.le_of_ble_eq_true rfl, Nat.le_of_ble_eq_true rfl⟩) X hP hD hS [0, 1] [2, 3, 4, 5, 6] [5, 6, 0, 1, 2, 3, 4] rfl rfl rfl rfl rfl rfl (fun u => rfl) 0 6 rfl rfl rfl (lv_sub hl [] rfl) rfl (Nat.le_of_ble_eq_true rfl) dX6_takeDecree_72 ⟨Nat.zero_le _, Nat.zero_le _⟩ (fun r_20 u H locs hw hP hD hS => ?_)
            obtain ⟨f_kind_17, f_start_18, f_after_19⟩ := u
            try dsimp only at hw
            have hP : va_P D classes (w_X6_takeDecree cI cZ h0 h_bytes h_p1 h_p1_kinds h_p1_parts h_p1_wholes h_p1_bounds f_length f_kind_17 f_start_18 f_after_19 a_bytes f_p1_size a_p1_kinds a_p1_parts a_p1_wholes a_p1_bounds) H := hP
            have hD : va_D A (w_X6_takeDecree cI cZ h0 h_bytes h_p1 h_p1_kinds h_p1_parts h_p1_wholes h_p1_bounds f_length f_kind_17 f_start_18 f_after_19 a_bytes f_p1_size a_p1_kinds a_p1_parts a_p1_wholes a_p1_bounds) := hD
            refine lv_istore (lv' := [(5, .int r_20), (4, .int r_16), (3, .int r_8), (2, .int r_4), (0, .ref h0), (1, .ref h_p1)]) hx hb dX6_takeDecree_75 hl (by decide) rfl (fun ls hl => ?_)
            refine lv_iload hx hb dX6_takeDecree_77 (lv_at hl 0 rfl) ?_
            refine lv_iconst (v := -1) hx hb dX6_takeDecree_79 (by decide) ?_
            refine lv_icmp_ne (tgt := 85) hx hb dX6_takeDecree_80 (by decide) (fun cb => ?_) (fun cb => ?_)
            · have hw := hw.1 cb
              refine lv_aload_n hx hb dX6_takeDecree_85 rfl (lv_at hl 5 rfl) ?_
              refine lv_iload_n hx hb dX6_takeDecree_86 rfl (lv_at hl 3 rfl) ?_
              refine lv_iload_n hx hb dX6_takeDecree_87 rfl (lv_at hl 2 rfl) ?_
              refine lv_iload hx hb dX6_takeDecree_88 (lv_at hl 1 rfl) ?_
              refine lv_iload hx hb dX6_takeDecree_90 (lv_at hl 0 rfl) ?_
              refine cv_v (rest := []) (ws2 := fun (u : Int32 × (Nat → Int32) × (Nat → Int32) × (Nat → Int32) × (Nat → Int32)) => (w_X6_takeDecree cI cZ h0 h_bytes h_p1 h_p1_kinds h_p1_parts h_p1_wholes h_p1_bounds f_length f_kind_17 f_start_18 f_after_19 a_bytes u.1 u.2.1 u.2.2.1 u.2.2.2.1 u.2.2.2.2)) ⟨hx, hb, hml, hown, hts⟩ (c_X1_add l D cI cZ ad H.size h_p1 h_p1_kinds h_p1_parts h_p1_wholes h_p1_bounds f_p1_size a_p1_kinds a_p1_parts a_p1_wholes a_p1_bounds r_4 r_8 r_16 r_20 _ hw) (cwV 4 hts (gIV gw_cons mw_63 gy_X1_add) rfl rfl rfl hd_X1_add ⟨Nat.le_of_ble_eq_true rfl, Nat.le_of_ble_eq_true rfl⟩) X hP hD hS [2, 3, 4, 5, 6] [0, 1] [0, 1, 2, 3, 4, 5, 6] rfl rfl rfl rfl rfl rfl (fun u => rfl) 0 1 rfl rfl rfl (lv_sub hl [] rfl) rfl (Nat.le_of_ble_eq_true rfl) dX6_takeDecree_92 ⟨Nat.zero_le _, Nat.zero_le _⟩ (fun u H locs hw hP hD hS => ?_)
              obtain ⟨f_p1_size_21, a_p1_kinds_22, a_p1_parts_23, a_p1_wholes_24, a_p1_bounds_25⟩ := u
              try dsimp only at hw
              have hP : va_P D classes (w_X6_takeDecree cI cZ h0 h_bytes h_p1 h_p1_kinds h_p1_parts h_p1_wholes h_p1_bounds f_length f_kind_17 f_start_18 f_after_19 a_bytes f_p1_size_21 a_p1_kinds_22 a_p1_parts_23 a_p1_wholes_24 a_p1_bounds_25) H := hP
              have hD : va_D A (w_X6_takeDecree cI cZ h0 h_bytes h_p1 h_p1_kinds h_p1_parts h_p1_wholes h_p1_bounds f_length f_kind_17 f_start_18 f_after_19 a_bytes f_p1_size_21 a_p1_kinds_22 a_p1_parts_23 a_p1_wholes_24 a_p1_bounds_25) := hD
              refine lv_iconst (v := 1) hx hb dX6_takeDecree_95 (by decide) ?_
              exact hret (1 : Int32) f_kind_17 f_start_18 f_after_19 f_p1_size_21 a_p1_kinds_22 a_p1_parts_23 a_p1_wholes_24 a_p1_bounds_25 H locs _ _ dX6_takeDecree_96 (by decide) hP hD hS hw
            · have hw := hw.2 cb
              refine lv_iconst (v := 0) hx hb dX6_takeDecree_83 (by decide) ?_
              exact hret (0 : Int32) f_kind_17 f_start_18 f_after_19 f_p1_size a_p1_kinds a_p1_parts a_p1_wholes a_p1_bounds H locs _ _ dX6_takeDecree_84 (by decide) hP hD hS hw
          · have hw := hw.2 cb
            refine lv_iconst (v := 0) hx hb dX6_takeDecree_68 (by decide) ?_
            exact hret (0 : Int32) f_kind_13 f_start_14 f_after_15 f_p1_size a_p1_kinds a_p1_parts a_p1_wholes a_p1_bounds H locs _ _ dX6_takeDecree_69 (by decide) hP hD hS hw
        · have hw := hw.2 cb
          refine lv_iconst (v := 0) hx hb dX6_takeDecree_49 (by decide) ?_
          exact hret (0 : Int32) f_kind_9 f_start_10 f_after_11 f_p1_size a_p1_kinds a_p1_parts a_p1_wholes a_p1_bounds H locs _ _ dX6_takeDecree_50 (by decide) hP hD hS hw
      · have hw := hw.2 cb
        refine lv_aload_n hx hb dX6_takeDecree_30 rfl (lv_at hl 3 rfl) ?_
        refine lv_iload_n hx hb dX6_takeDecree_31 rfl (lv_at hl 1 rfl) ?_
        refine lv_iconst (v := 0) hx hb dX6_takeDecree_32 (by decide) ?_
        refine lv_iconst (v := 1) hx hb dX6_takeDecree_33 (by decide) ?_
        refine lv_iload_n hx hb dX6_takeDecree_34 rfl (lv_at hl 0 rfl) ?_
        refine cv_v (rest := []) (ws2 := fun (u : Int32 × (Nat → Int32) × (Nat → Int32) × (Nat → Int32) × (Nat → Int32)) => (w_X6_takeDecree cI cZ h0 h_bytes h_p1 h_p1_kinds h_p1_parts h_p1_wholes h_p1_bounds f_length f_kind_5 f_start_6 f_after_7 a_bytes u.1 u.2.1 u.2.2.1 u.2.2.2.1 u.2.2.2.2)) ⟨hx, hb, hml, hown, hts⟩ (c_X1_add l D cI cZ ad H.size h_p1 h_p1_kinds h_p1_parts h_p1_wholes h_p1_bounds f_p1_size a_p1_kinds a_p1_parts a_p1_wholes a_p1_bounds r_4 (0 : Int32) (1 : Int32) r_8 _ hw) (cwV 4 hts (gIV gw_cons mw_63 gy_X1_add) rfl rfl rfl hd_X1_add ⟨Nat.le_of_ble_eq_true rfl, Nat.le_of_ble_eq_true rfl⟩) X hP hD hS [2, 3, 4, 5, 6] [0, 1] [0, 1, 2, 3, 4, 5, 6] rfl rfl rfl rfl rfl rfl (fun u => rfl) 0 1 rfl rfl rfl (lv_sub hl [] rfl) rfl (Nat.le_of_ble_eq_true rfl) dX6_takeDecree_35 ⟨Nat.zero_le _, Nat.zero_le _⟩ (fun u H locs hw hP hD hS => ?_)
        obtain ⟨f_p1_size_26, a_p1_kinds_27, a_p1_parts_28, a_p1_wholes_29, a_p1_bounds_30⟩ := u
        try dsimp only at hw
        have hP : va_P D classes (w_X6_takeDecree cI cZ h0 h_bytes h_p1 h_p1_kinds h_p1_parts h_p1_wholes h_p1_bounds f_length f_kind_5 f_start_6 f_after_7 a_bytes f_p1_size_26 a_p1_kinds_27 a_p1_parts_28 a_p1_wholes_29 a_p1_bounds_30) H := hP
        have hD : va_D A (w_X6_takeDecree cI cZ h0 h_bytes h_p1 h_p1_kinds h_p1_parts h_p1_wholes h_p1_bounds f_length f_kind_5 f_start_6 f_after_7 a_bytes f_p1_size_26 a_p1_kinds_27 a_p1_parts_28 a_p1_wholes_29 a_p1_bounds_30) := hD
        refine lv_iconst (v := 1) hx hb dX6_takeDecree_38 (by decide) ?_
        exact hret (1 : Int32) f_kind_5 f_start_6 f_after_7 f_p1_size_26 a_p1_kinds_27 a_p1_parts_28 a_p1_wholes_29 a_p1_bounds_30 H locs _ _ dX6_takeDecree_39 (by decide) hP hD hS hw
    · have hw := hw.2 cb
      refine lv_iconst (v := 0) hx hb dX6_takeDecree_23 (by decide) ?_
      exact hret (0 : Int32) f_kind_5 f_start_6 f_after_7 f_p1_size a_p1_kinds a_p1_parts a_p1_wholes a_p1_bounds H locs _ _ dX6_takeDecree_24 (by decide) hP hD hS hw
  · have hw := hw.2 cb
    refine lv_iconst (v := 0) hx hb dX6_takeDecree_10 (by decide) ?_
    exact hret (0 : Int32) f_kind_1 f_start_2 f_after_3 f_p1_size a_p1_kinds a_p1_parts a_p1_wholes a_p1_bounds H locs _ _ dX6_takeDecree_11 (by decide) hP hD hS hw
set_option maxHeartbeats 40000000 in
set_option maxRecDepth 100000 in
theorem c_X6_takeDecree (l : Launch) (D : va_G) (cI cZ : ClassId) (ad : (Nat → Nat) × (Nat → Nat)) (sz : Nat) (h0 : Nat) (h_bytes : Nat) (h_p1 : Nat) (h_p1_kinds : Nat) (h_p1_parts : Nat) (h_p1_wholes : Nat) (h_p1_bounds : Nat) (f_length : Int32) (f_kind : Int32) (f_start : Int32) (f_after : Int32) (a_bytes : (Nat → Int32)) (f_p1_size : Int32) (a_p1_kinds : (Nat → Int32)) (a_p1_parts : (Nat → Int32)) (a_p1_wholes : (Nat → Int32)) (a_p1_bounds : (Nat → Int32))  (Q : Int32 → Int32 → Int32 → Int32 → Int32 → (Nat → Int32) → (Nat → Int32) → (Nat → Int32) → (Nat → Int32) → Prop) (hw : wp_X6_takeDecree f_length f_kind f_start f_after a_bytes f_p1_size a_p1_kinds a_p1_parts a_p1_wholes a_p1_bounds Q) : Met l yX6_takeDecree ((.code yX6_takeDecree cX6_takeDecree 6 (some .boolean)) :: gw) rm_X6_takeDecree (va_Pc [.ref h0, .ref h_p1] (PC D cI cZ ad sz (w_X6_takeDecree cI cZ h0 h_bytes h_p1 h_p1_kinds h_p1_parts h_p1_wholes h_p1_bounds f_length f_kind f_start f_after a_bytes f_p1_size a_p1_kinds a_p1_parts a_p1_wholes a_p1_bounds))) (va_Qi (fun r (u : Int32 × Int32 × Int32 × Int32 × (Nat → Int32) × (Nat → Int32) × (Nat → Int32) × (Nat → Int32)) => Q r u.1 u.2.1 u.2.2.1 u.2.2.2.1 u.2.2.2.2.1 u.2.2.2.2.2.1 u.2.2.2.2.2.2.1 u.2.2.2.2.2.2.2) (PW D (va_A (w_X6_takeDecree cI cZ h0 h_bytes h_p1 h_p1_kinds h_p1_parts h_p1_wholes h_p1_bounds f_length f_kind f_start f_after a_bytes f_p1_size a_p1_kinds a_p1_parts a_p1_wholes a_p1_bounds) sz) (fun (u : Int32 × Int32 × Int32 × Int32 × (Nat → Int32) × (Nat → Int32) × (Nat → Int32) × (Nat → Int32)) => (w_X6_takeDecree cI cZ h0 h_bytes h_p1 h_p1_kinds h_p1_parts h_p1_wholes h_p1_bounds f_length u.1 u.2.1 u.2.2.1 a_bytes u.2.2.2.1 u.2.2.2.2.1 u.2.2.2.2.2.1 u.2.2.2.2.2.2.1 u.2.2.2.2.2.2.2))) (va_A (w_X6_takeDecree cI cZ h0 h_bytes h_p1 h_p1_kinds h_p1_parts h_p1_wholes h_p1_bounds f_length f_kind f_start f_after a_bytes f_p1_size a_p1_kinds a_p1_parts a_p1_wholes a_p1_bounds) sz)) 0 0 (va_A (w_X6_takeDecree cI cZ h0 h_bytes h_p1 h_p1_kinds h_p1_parts h_p1_wholes h_p1_bounds f_length f_kind f_start f_after a_bytes f_p1_size a_p1_kinds a_p1_parts a_p1_wholes a_p1_bounds) sz) := by
  refine Met.ofW (cc := cX6_takeDecree) (maxL := 6) (ret := (some .boolean)) (by decide) rfl ?_
  intro p e s m args below meth c s₁ B hml hv
  have hst := PC.start hv.2
  obtain ⟨ls, hfr, hl⟩ := en_fr (m := m) [.ref h0, .ref h_p1] 6 hv.1 (Nat.le_of_ble_eq_true rfl)
  rw [hfr]
  generalize va_A (w_X6_takeDecree cI cZ h0 h_bytes h_p1 h_p1_kinds h_p1_parts h_p1_wholes h_p1_bounds f_length f_kind f_start f_after a_bytes f_p1_size a_p1_kinds a_p1_parts a_p1_wholes a_p1_bounds) sz = A at hst ⊢
  obtain ⟨X, hP, hD⟩ := hst
  exact k_X6_takeDecree B.exec B.bytes hml (findClass_of_methodNamed B.named) (atoms_spec (ws := (.code yX6_takeDecree cX6_takeDecree 6 (some .boolean)) :: gw) B.pre) X h0 h_bytes h_p1 h_p1_kinds h_p1_parts h_p1_wholes h_p1_bounds f_length f_kind f_start f_after a_bytes f_p1_size a_p1_kinds a_p1_parts a_p1_wholes a_p1_bounds Q _ (fun r f_kind' f_start' f_after' f_p1_size' a_p1_kinds' a_p1_parts' a_p1_wholes' a_p1_bounds' H locs pc ls hdg hz hP hD hS hw => rt_z (f_kind', f_start', f_after', f_p1_size', a_p1_kinds', a_p1_parts', a_p1_wholes', a_p1_bounds') B.exec B.bytes B.returns B.notSynchronized hdg hz hP hD hS hw) s.heap [] ls hP hD va_S.rf hl hw
set_option maxHeartbeats 40000000 in
set_option maxRecDepth 100000 in
theorem k_X6_takeSemicolon {p : Program} {l : Launch} {e : Env} {s : State} {m : MethodId} {args : Array Value} {below : List Frame} {meth : Method} {c : Code} {D : va_G} {cI cZ : ClassId} {ad : (Nat → Nat) × (Nat → Nat)} {A : Nat → Prop} (hx : p.tables.exec = Jvm.exec) (hb : c.code = cX6_takeSemicolon) (hml : c.maxLocals = 1) (hown : s.vm.findClass RX6 = some m.cls) (hts : ∀ w ∈ (.code yX6_takeSemicolon cX6_takeSemicolon 1 (some .boolean)) :: gw, w.before args s = true) (X : CX D cI cZ ad A s) (h0 : Nat) (h_bytes : Nat) (f_length : Int32) (f_kind : Int32) (f_start : Int32) (f_after : Int32) (a_bytes : (Nat → Int32))  (Q : Int32 → Int32 → Int32 → Int32 → Prop) (Z : State → Prop) (hret : ∀ (r : Int32) (f_kind' : Int32) (f_start' : Int32) (f_after' : Int32)  (H : Heap) (locs : List Loc) (pc : Nat) (ls : Array Slot), decode cX6_takeSemicolon pc = .ok (.ireturn, 1) → (r = 0 ∨ r = 1) → va_P D classes (w_X6_takeSemicolon cI cZ h0 h_bytes f_length f_kind' f_start' f_after' a_bytes) H → va_D A (w_X6_takeSemicolon cI cZ h0 h_bytes f_length f_kind' f_start' f_after' a_bytes) → va_S A s.heap H locs → Q r f_kind' f_start' f_after' → W p l e rm_X6_takeSemicolon s m args below meth c H locs 0 0 Z (F0 m pc ls [.int r])) (H : Heap) (locs : List Loc) (ls : Array Slot) (hP : va_P D classes (w_X6_takeSemicolon cI cZ h0 h_bytes f_length f_kind f_start f_after a_bytes) H) (hD : va_D A (w_X6_takeSemicolon cI cZ h0 h_bytes f_length f_kind f_start f_after a_bytes)) (hS : va_S A s.heap H locs) (hl : lv_has ls 1 [(0, .ref h0)]) (hw : wp_X6_takeSemicolon f_length f_kind f_start f_after a_bytes Q) : W p l e rm_X6_takeSemicolon s m args below meth c H locs 0 0 Z (F0 m 0 ls []) := by
  have htg : ∀ w ∈ gw, w.before args s = true := fun w h => hts w (gw_cons w h)
  have bk_22 : ∀ (f_kind : Int32) (f_start : Int32) (f_after : Int32) (H : Heap) (locs : List Loc) (ls : Array Slot), va_P D classes (w_X6_takeSemicolon cI cZ h0 h_bytes f_length f_kind f_start f_after a_bytes) H → va_D A (w_X6_takeSemicolon cI cZ h0 h_bytes f_length f_kind f_start f_after a_bytes) → va_S A s.heap H locs → lv_has ls 1 [] → wp_X6_takeSemicolon_b22 f_length a_bytes Q f_kind f_start f_after → W p l e rm_X6_takeSemicolon s m args below meth c H locs 0 0 Z (F0 m 22 ls []) := by
    intro  f_kind f_start f_after H locs ls hP hD hS hl hw
    delta wp_X6_takeSemicolon_b22 at hw
    refine lv_iconst (v := 0) hx hb dX6_takeSemicolon_22 (by decide) ?_
    exact hret (0 : Int32) f_kind f_start f_after H locs _ _ dX6_takeSemicolon_23 (by decide) hP hD hS hw
  delta wp_X6_takeSemicolon at hw
  refine lv_aload_n hx hb dX6_takeSemicolon_0 rfl (lv_at hl 0 rfl) ?_
  refine va_get (D := D) (ci := 6) (v := .int f_kind) (C := RX6) (T := TX6) (N := 5) hx hb htg in_X6 hown X.1 hP 0 rfl rfl 2 (by decide) (htg _ mw_49) (fun _ h9 => h9) rfl dX6_takeSemicolon_1 ?_
  refine lv_iconst (v := 3) hx hb dX6_takeSemicolon_4 (by decide) ?_
  refine lv_icmp_ne (tgt := 22) hx hb dX6_takeSemicolon_5 (by decide) (fun cb => ?_) (fun cb => ?_)
  · have hw := hw.1 cb
    exact bk_22 f_kind f_start f_after H locs ls hP hD hS (lv_sub hl [] rfl) hw
  · have hw := hw.2 cb
    refine lv_aload_n hx hb dX6_takeSemicolon_8 rfl (lv_at hl 0 rfl) ?_
    refine va_get (D := D) (ci := 6) (v := .ref h_bytes) (C := RX6) (T := TX6) (N := 5) hx hb htg in_X6 hown X.1 hP 0 rfl rfl 0 (by decide) (htg _ mw_46) (fun _ h9 => h9) rfl dX6_takeSemicolon_9 ?_
    refine lv_aload_n hx hb dX6_takeSemicolon_12 rfl (lv_at hl 0 rfl) ?_
    refine va_get (D := D) (ci := 6) (v := .int f_start) (C := RX6) (T := TX6) (N := 5) hx hb htg in_X6 hown X.1 hP 0 rfl rfl 3 (by decide) (htg _ mw_50) (fun _ h9 => h9) rfl dX6_takeSemicolon_13 ?_
    obtain ⟨g, hw⟩ := hw
    refine va_iald hx hb X.1 hP 1 0 rfl rfl g dX6_takeSemicolon_16 ?_
    refine lv_bipush (v := 59) hx hb dX6_takeSemicolon_17 (by decide) ?_
    refine lv_icmp_eq (tgt := 24) hx hb dX6_takeSemicolon_19 (by decide) (fun cb => ?_) (fun cb => ?_)
    · have hw := hw.1 cb
      refine lv_aload_n hx hb dX6_takeSemicolon_24 rfl (lv_at hl 0 rfl) ?_
      refine cv_v (rest := []) (ws2 := fun (u : Int32 × Int32 × Int32) => (w_X6_takeSemicolon cI cZ h0 h_bytes f_length u.1 u.2.1 u.2.2 a_bytes)) ⟨hx, hb, hml, hown, hts⟩ (c_X6_nextToken l D cI cZ ad H.size h0 h_bytes f_length f_kind f_start f_after a_bytes _ hw) (cwV 0 hts (gIV gw_cons mw_52 gy_X6_nextToken) rfl rfl rfl hd_X6_nextToken ⟨Nat.le_of_ble_eq_true rfl, Nat.le_of_ble_eq_true rfl⟩) X hP hD hS [0, 1] [] [0, 1] rfl rfl rfl rfl rfl rfl (fun u => rfl) 0 6 rfl rfl rfl (lv_sub hl [] rfl) rfl (Nat.le_of_ble_eq_true rfl) dX6_takeSemicolon_25 ⟨Nat.zero_le _, Nat.zero_le _⟩ (fun u H locs hw hP hD hS => ?_)
      obtain ⟨f_kind_1, f_start_2, f_after_3⟩ := u
      try dsimp only at hw
      have hP : va_P D classes (w_X6_takeSemicolon cI cZ h0 h_bytes f_length f_kind_1 f_start_2 f_after_3 a_bytes) H := hP
      have hD : va_D A (w_X6_takeSemicolon cI cZ h0 h_bytes f_length f_kind_1 f_start_2 f_after_3 a_bytes) := hD
      refine lv_iconst (v := 1) hx hb dX6_takeSemicolon_28 (by decide) ?_
      exact hret (1 : Int32) f_kind_1 f_start_2 f_after_3 H locs _ _ dX6_takeSemicolon_29 (by decide) hP hD hS hw
    · have hw := hw.2 cb
      exact bk_22 f_kind f_start f_after H locs ls hP hD hS (lv_sub hl [] rfl) hw
set_option maxHeartbeats 40000000 in
set_option maxRecDepth 100000 in
theorem c_X6_takeSemicolon (l : Launch) (D : va_G) (cI cZ : ClassId) (ad : (Nat → Nat) × (Nat → Nat)) (sz : Nat) (h0 : Nat) (h_bytes : Nat) (f_length : Int32) (f_kind : Int32) (f_start : Int32) (f_after : Int32) (a_bytes : (Nat → Int32))  (Q : Int32 → Int32 → Int32 → Int32 → Prop) (hw : wp_X6_takeSemicolon f_length f_kind f_start f_after a_bytes Q) : Met l yX6_takeSemicolon ((.code yX6_takeSemicolon cX6_takeSemicolon 1 (some .boolean)) :: gw) rm_X6_takeSemicolon (va_Pc [.ref h0] (PC D cI cZ ad sz (w_X6_takeSemicolon cI cZ h0 h_bytes f_length f_kind f_start f_after a_bytes))) (va_Qi (fun r (u : Int32 × Int32 × Int32) => Q r u.1 u.2.1 u.2.2) (PW D (va_A (w_X6_takeSemicolon cI cZ h0 h_bytes f_length f_kind f_start f_after a_bytes) sz) (fun (u : Int32 × Int32 × Int32) => (w_X6_takeSemicolon cI cZ h0 h_bytes f_length u.1 u.2.1 u.2.2 a_bytes))) (va_A (w_X6_takeSemicolon cI cZ h0 h_bytes f_length f_kind f_start f_after a_bytes) sz)) 0 0 (va_A (w_X6_takeSemicolon cI cZ h0 h_bytes f_length f_kind f_start f_after a_bytes) sz) := by
  refine Met.ofW (cc := cX6_takeSemicolon) (maxL := 1) (ret := (some .boolean)) (by decide) rfl ?_
  intro p e s m args below meth c s₁ B hml hv
  have hst := PC.start hv.2
  obtain ⟨ls, hfr, hl⟩ := en_fr (m := m) [.ref h0] 1 hv.1 (Nat.le_of_ble_eq_true rfl)
  rw [hfr]
  generalize va_A (w_X6_takeSemicolon cI cZ h0 h_bytes f_length f_kind f_start f_after a_bytes) sz = A at hst ⊢
  obtain ⟨X, hP, hD⟩ := hst
  exact k_X6_takeSemicolon B.exec B.bytes hml (findClass_of_methodNamed B.named) (atoms_spec (ws := (.code yX6_takeSemicolon cX6_takeSemicolon 1 (some .boolean)) :: gw) B.pre) X h0 h_bytes f_length f_kind f_start f_after a_bytes Q _ (fun r f_kind' f_start' f_after' H locs pc ls hdg hz hP hD hS hw => rt_z (f_kind', f_start', f_after') B.exec B.bytes B.returns B.notSynchronized hdg hz hP hD hS hw) s.heap [] ls hP hD va_S.rf hl hw
set_option maxHeartbeats 40000000 in
set_option maxRecDepth 100000 in
theorem k_X6_parseInto {p : Program} {l : Launch} {e : Env} {s : State} {m : MethodId} {args : Array Value} {below : List Frame} {meth : Method} {c : Code} {D : va_G} {cI cZ : ClassId} {ad : (Nat → Nat) × (Nat → Nat)} {A : Nat → Prop} (hx : p.tables.exec = Jvm.exec) (hb : c.code = cX6_parseInto) (hml : c.maxLocals = 3) (hown : s.vm.findClass RX6 = some m.cls) (hts : ∀ w ∈ (.code yX6_parseInto cX6_parseInto 3 (some .int)) :: gw, w.before args s = true) (X : CX D cI cZ ad A s) (h0 : Nat) (h_bytes : Nat) (h_p1 : Nat) (h_p1_kinds : Nat) (h_p1_parts : Nat) (h_p1_wholes : Nat) (h_p1_bounds : Nat) (f_length : Int32) (f_kind : Int32) (f_start : Int32) (f_after : Int32) (a_bytes : (Nat → Int32)) (f_p1_size : Int32) (a_p1_kinds : (Nat → Int32)) (a_p1_parts : (Nat → Int32)) (a_p1_wholes : (Nat → Int32)) (a_p1_bounds : (Nat → Int32))  (Q : Int32 → Int32 → Int32 → Int32 → Int32 → (Nat → Int32) → (Nat → Int32) → (Nat → Int32) → (Nat → Int32) → Prop) (Z : State → Prop) (hret : ∀ (r : Int32) (f_kind' : Int32) (f_start' : Int32) (f_after' : Int32) (f_p1_size' : Int32) (a_p1_kinds' : (Nat → Int32)) (a_p1_parts' : (Nat → Int32)) (a_p1_wholes' : (Nat → Int32)) (a_p1_bounds' : (Nat → Int32))  (H : Heap) (locs : List Loc) (pc : Nat) (ls : Array Slot), decode cX6_parseInto pc = .ok (.ireturn, 1) → va_P D classes (w_X6_parseInto cI cZ h0 h_bytes h_p1 h_p1_kinds h_p1_parts h_p1_wholes h_p1_bounds f_length f_kind' f_start' f_after' a_bytes f_p1_size' a_p1_kinds' a_p1_parts' a_p1_wholes' a_p1_bounds') H → va_D A (w_X6_parseInto cI cZ h0 h_bytes h_p1 h_p1_kinds h_p1_parts h_p1_wholes h_p1_bounds f_length f_kind' f_start' f_after' a_bytes f_p1_size' a_p1_kinds' a_p1_parts' a_p1_wholes' a_p1_bounds') → va_S A s.heap H locs → Q r f_kind' f_start' f_after' f_p1_size' a_p1_kinds' a_p1_parts' a_p1_wholes' a_p1_bounds' → W p l e rm_X6_parseInto s m args below meth c H locs 0 0 Z (F0 m pc ls [.int r])) (H : Heap) (locs : List Loc) (ls : Array Slot) (hP : va_P D classes (w_X6_parseInto cI cZ h0 h_bytes h_p1 h_p1_kinds h_p1_parts h_p1_wholes h_p1_bounds f_length f_kind f_start f_after a_bytes f_p1_size a_p1_kinds a_p1_parts a_p1_wholes a_p1_bounds) H) (hD : va_D A (w_X6_parseInto cI cZ h0 h_bytes h_p1 h_p1_kinds h_p1_parts h_p1_wholes h_p1_bounds f_length f_kind f_start f_after a_bytes f_p1_size a_p1_kinds a_p1_parts a_p1_wholes a_p1_bounds)) (hS : va_S A s.heap H locs) (hl : lv_has ls 3 [(0, .ref h0), (1, .ref h_p1)]) (hw : wp_X6_parseInto f_length f_kind f_start f_after a_bytes f_p1_size a_p1_kinds a_p1_parts a_p1_wholes a_p1_bounds Q) : W p l e rm_X6_parseInto s m args below meth c H locs 0 0 Z (F0 m 0 ls []) := by
  have htg : ∀ w ∈ gw, w.before args s = true := fun w h => hts w (gw_cons w h)
  have bk_25 : ∀ (f_kind : Int32) (f_start : Int32) (f_after : Int32) (f_p1_size : Int32) (a_p1_kinds : (Nat → Int32)) (a_p1_parts : (Nat → Int32)) (a_p1_wholes : (Nat → Int32)) (a_p1_bounds : (Nat → Int32)) (t2 : Int32) (H : Heap) (locs : List Loc) (ls : Array Slot), va_P D classes (w_X6_parseInto cI cZ h0 h_bytes h_p1 h_p1_kinds h_p1_parts h_p1_wholes h_p1_bounds f_length f_kind f_start f_after a_bytes f_p1_size a_p1_kinds a_p1_parts a_p1_wholes a_p1_bounds) H → va_D A (w_X6_parseInto cI cZ h0 h_bytes h_p1 h_p1_kinds h_p1_parts h_p1_wholes h_p1_bounds f_length f_kind f_start f_after a_bytes f_p1_size a_p1_kinds a_p1_parts a_p1_wholes a_p1_bounds) → va_S A s.heap H locs → lv_has ls 3 [(0, .ref h0), (1, .ref h_p1), (2, .int t2)] → wp_X6_parseInto_b25 f_length a_bytes Q f_kind f_start f_after f_p1_size a_p1_kinds a_p1_parts a_p1_wholes a_p1_bounds t2 → W p l e rm_X6_parseInto s m args below meth c H locs 0 0 Z (F0 m 25 ls []) := by
    intro  f_kind f_start f_after f_p1_size a_p1_kinds a_p1_parts a_p1_wholes a_p1_bounds t2 H locs ls hP hD hS hl hw
    delta wp_X6_parseInto_b25 at hw
    obtain ⟨I, μ, hI0, hst⟩ := hw
    have key : ∀ (n : Nat) (f_kind : Int32) (f_start : Int32) (f_after : Int32) (f_p1_size : Int32) (a_p1_kinds : (Nat → Int32)) (a_p1_parts : (Nat → Int32)) (a_p1_wholes : (Nat → Int32)) (a_p1_bounds : (Nat → Int32)) (t2 : Int32) (H : Heap) (locs : List Loc) (ls : Array Slot), va_P D classes (w_X6_parseInto cI cZ h0 h_bytes h_p1 h_p1_kinds h_p1_parts h_p1_wholes h_p1_bounds f_length f_kind f_start f_after a_bytes f_p1_size a_p1_kinds a_p1_parts a_p1_wholes a_p1_bounds) H → va_D A (w_X6_parseInto cI cZ h0 h_bytes h_p1 h_p1_kinds h_p1_parts h_p1_wholes h_p1_bounds f_length f_kind f_start f_after a_bytes f_p1_size a_p1_kinds a_p1_parts a_p1_wholes a_p1_bounds) → va_S A s.heap H locs → lv_has ls 3 [(0, .ref h0), (1, .ref h_p1), (2, .int t2)] → I f_kind f_start f_after f_p1_size a_p1_kinds a_p1_parts a_p1_wholes a_p1_bounds t2 → μ f_kind f_start f_after f_p1_size a_p1_kinds a_p1_parts a_p1_wholes a_p1_bounds t2 < n → W p l e rm_X6_parseInto s m args below meth c H locs 0 0 Z (F0 m 25 ls []) := by
      intro n
      induction n with
      | zero => intro f_kind f_start f_after f_p1_size a_p1_kinds a_p1_parts a_p1_wholes a_p1_bounds t2 H locs ls hP hD hS hl hI hlt; exact absurd hlt (Nat.not_lt_zero _)
      | succ n ih =>
        intro f_kind f_start f_after f_p1_size a_p1_kinds a_p1_parts a_p1_wholes a_p1_bounds t2 H locs ls hP hD hS hl hI hlt
        have hw := hst f_kind f_start f_after f_p1_size a_p1_kinds a_p1_parts a_p1_wholes a_p1_bounds t2 hI
        refine lv_iload_n hx hb dX6_parseInto_25 rfl (lv_at hl 2 rfl) ?_
        refine lv_bipush (v := 20) hx hb dX6_parseInto_26 (by decide) ?_
        refine lv_icmp_ge (tgt := 71) hx hb dX6_parseInto_28 (by decide) (fun cb => ?_) (fun cb => ?_)
        · have hw := hw.1 cb
          refine lv_aload_n hx hb dX6_parseInto_71 rfl (lv_at hl 0 rfl) ?_
          refine va_get (D := D) (ci := 6) (v := .int f_start) (C := RX6) (T := TX6) (N := 5) hx hb htg in_X6 hown X.1 hP 0 rfl rfl 3 (by decide) (htg _ mw_50) (fun _ h9 => h9) rfl dX6_parseInto_72 ?_
          exact hret f_start f_kind f_start f_after f_p1_size a_p1_kinds a_p1_parts a_p1_wholes a_p1_bounds H locs _ _ dX6_parseInto_75 hP hD hS hw
        · have hw := hw.2 cb
          refine lv_aload_n hx hb dX6_parseInto_31 rfl (lv_at hl 0 rfl) ?_
          refine lv_aload_n hx hb dX6_parseInto_32 rfl (lv_at hl 1 rfl) ?_
          refine cv_i (rest := []) (ws2 := fun (u : Int32 × Int32 × Int32 × Int32 × (Nat → Int32) × (Nat → Int32) × (Nat → Int32) × (Nat → Int32)) => (w_X6_parseInto cI cZ h0 h_bytes h_p1 h_p1_kinds h_p1_parts h_p1_wholes h_p1_bounds f_length u.1 u.2.1 u.2.2.1 a_bytes u.2.2.2.1 u.2.2.2.2.1 u.2.2.2.2.2.1 u.2.2.2.2.2.2.1 u.2.2.2.2.2.2.2)) ⟨hx, hb, hml, hown, hts⟩ (c_X6_takeDecree l D cI cZ ad H.size h0 h_bytes h_p1 h_p1_kinds h_p1_parts h_p1_wholes h_p1_bounds f_length f_kind f_start f_after a_bytes f_p1_size a_p1_kinds a_p1_parts a_p1_wholes a_p1_bounds _ hw) (cwV 1 hts (gIV gw_cons mw_64 gy_X6_takeDecree) rfl rfl rfl hd_X6_takeDecree ⟨Nat.le_of_ble_eq_true rfl, Nat.le_of_ble_eq_true rfl⟩) X hP hD hS [0, 1, 2, 3, 4, 5, 6] [] [0, 1, 2, 3, 4, 5, 6] rfl rfl rfl rfl rfl rfl (fun u => rfl) 0 6 rfl rfl rfl (lv_sub hl [] rfl) rfl (Nat.le_of_ble_eq_true rfl) dX6_parseInto_33 ⟨Nat.zero_le _, Nat.zero_le _⟩ (fun r_9 u H locs hw hP hD hS => ?_)
          obtain ⟨f_kind_1, f_start_2, f_after_3, f_p1_size_4, a_p1_kinds_5, a_p1_parts_6, a_p1_wholes_7, a_p1_bounds_8⟩ := u
          try dsimp only at hw
          have hP : va_P D classes (w_X6_parseInto cI cZ h0 h_bytes h_p1 h_p1_kinds h_p1_parts h_p1_wholes h_p1_bounds f_length f_kind_1 f_start_2 f_after_3 a_bytes f_p1_size_4 a_p1_kinds_5 a_p1_parts_6 a_p1_wholes_7 a_p1_bounds_8) H := hP
          have hD : va_D A (w_X6_parseInto cI cZ h0 h_bytes h_p1 h_p1_kinds h_p1_parts h_p1_wholes h_p1_bounds f_length f_kind_1 f_start_2 f_after_3 a_bytes f_p1_size_4 a_p1_kinds_5 a_p1_parts_6 a_p1_wholes_7 a_p1_bounds_8) := hD
          refine lv_if_ne (tgt := 44) hx hb dX6_parseInto_36 (by decide) (fun cb => ?_) (fun cb => ?_)
          · have hw := hw.1 cb
            refine lv_aload_n hx hb dX6_parseInto_44 rfl (lv_at hl 0 rfl) ?_
            refine va_get (D := D) (ci := 6) (v := .int f_kind_1) (C := RX6) (T := TX6) (N := 5) hx hb htg in_X6 hown X.1 hP 0 rfl rfl 2 (by decide) (htg _ mw_49) (fun _ h9 => h9) rfl dX6_parseInto_45 ?_
            refine lv_if_ne (tgt := 53) hx hb dX6_parseInto_48 (by decide) (fun cb => ?_) (fun cb => ?_)
            · have hw := hw.1 cb
              refine lv_aload_n hx hb dX6_parseInto_53 rfl (lv_at hl 0 rfl) ?_
              refine cv_i (rest := []) (ws2 := fun (u : Int32 × Int32 × Int32) => (w_X6_parseInto cI cZ h0 h_bytes h_p1 h_p1_kinds h_p1_parts h_p1_wholes h_p1_bounds f_length u.1 u.2.1 u.2.2 a_bytes f_p1_size_4 a_p1_kinds_5 a_p1_parts_6 a_p1_wholes_7 a_p1_bounds_8)) ⟨hx, hb, hml, hown, hts⟩ (c_X6_takeSemicolon l D cI cZ ad H.size h0 h_bytes f_length f_kind_1 f_start_2 f_after_3 a_bytes _ hw) (cwV 0 hts (gIV gw_cons mw_65 gy_X6_takeSemicolon) rfl rfl rfl hd_X6_takeSemicolon ⟨Nat.le_of_ble_eq_true rfl, Nat.le_of_ble_eq_true rfl⟩) X hP hD hS [0, 1] [2, 3, 4, 5, 6] [5, 6, 0, 1, 2, 3, 4] rfl rfl rfl rfl rfl rfl (fun u => rfl) 0 6 rfl rfl rfl (lv_sub hl [] rfl) rfl (Nat.le_of_ble_eq_true rfl) dX6_parseInto_54 ⟨Nat.zero_le _, Nat.zero_le _⟩ (fun r_13 u H locs hw hP hD hS => ?_)
              obtain ⟨f_kind_10, f_start_11, f_after_12⟩ := u
              try dsimp only at hw
              have hP : va_P D classes (w_X6_parseInto cI cZ h0 h_bytes h_p1 h_p1_kinds h_p1_parts h_p1_wholes h_p1_bounds f_length f_kind_10 f_start_11 f_after_12 a_bytes f_p1_size_4 a_p1_kinds_5 a_p1_parts_6 a_p1_wholes_7 a_p1_bounds_8) H := hP
              have hD : va_D A (w_X6_parseInto cI cZ h0 h_bytes h_p1 h_p1_kinds h_p1_parts h_p1_wholes h_p1_bounds f_length f_kind_10 f_start_11 f_after_12 a_bytes f_p1_size_4 a_p1_kinds_5 a_p1_parts_6 a_p1_wholes_7 a_p1_bounds_8) := hD
              refine lv_if_ne (tgt := 65) hx hb dX6_parseInto_57 (by decide) (fun cb => ?_) (fun cb => ?_)
              · have hw := hw.1 cb
                refine lv_iinc (v := t2 + 1) (lv' := [(2, .int (t2 + 1)), (0, .ref h0), (1, .ref h_p1)]) hx hb dX6_parseInto_65 hl (k := 2) rfl rfl (by decide) rfl (fun ls hl => ?_)
                refine lv_goto (tgt := 25) hx hb dX6_parseInto_68 (by decide) ?_
                exact ih f_kind_10 f_start_11 f_after_12 f_p1_size_4 a_p1_kinds_5 a_p1_parts_6 a_p1_wholes_7 a_p1_bounds_8 (t2 + 1) H locs ls hP hD hS (lv_sub hl [1, 2, 0] rfl) hw.1 (Nat.lt_of_lt_of_le hw.2 (Nat.le_of_lt_succ hlt))
              · have hw := hw.2 cb
                refine lv_aload_n hx hb dX6_parseInto_60 rfl (lv_at hl 0 rfl) ?_
                refine va_get (D := D) (ci := 6) (v := .int f_start_11) (C := RX6) (T := TX6) (N := 5) hx hb htg in_X6 hown X.1 hP 0 rfl rfl 3 (by decide) (htg _ mw_50) (fun _ h9 => h9) rfl dX6_parseInto_61 ?_
                exact hret f_start_11 f_kind_10 f_start_11 f_after_12 f_p1_size_4 a_p1_kinds_5 a_p1_parts_6 a_p1_wholes_7 a_p1_bounds_8 H locs _ _ dX6_parseInto_64 hP hD hS hw
            · have hw := hw.2 cb
              refine lv_iconst (v := -1) hx hb dX6_parseInto_51 (by decide) ?_
              exact hret (-1 : Int32) f_kind_1 f_start_2 f_after_3 f_p1_size_4 a_p1_kinds_5 a_p1_parts_6 a_p1_wholes_7 a_p1_bounds_8 H locs _ _ dX6_parseInto_52 hP hD hS hw
          · have hw := hw.2 cb
            refine lv_aload_n hx hb dX6_parseInto_39 rfl (lv_at hl 0 rfl) ?_
            refine va_get (D := D) (ci := 6) (v := .int f_start_2) (C := RX6) (T := TX6) (N := 5) hx hb htg in_X6 hown X.1 hP 0 rfl rfl 3 (by decide) (htg _ mw_50) (fun _ h9 => h9) rfl dX6_parseInto_40 ?_
            exact hret f_start_2 f_kind_1 f_start_2 f_after_3 f_p1_size_4 a_p1_kinds_5 a_p1_parts_6 a_p1_wholes_7 a_p1_bounds_8 H locs _ _ dX6_parseInto_43 hP hD hS hw
    exact key (μ f_kind f_start f_after f_p1_size a_p1_kinds a_p1_parts a_p1_wholes a_p1_bounds t2 + 1) f_kind f_start f_after f_p1_size a_p1_kinds a_p1_parts a_p1_wholes a_p1_bounds t2 H locs ls hP hD hS hl hI0 (Nat.lt_succ_self _)
  delta wp_X6_parseInto at hw
  refine lv_aload_n hx hb dX6_parseInto_0 rfl (lv_at hl 1 rfl) ?_
  refine lv_iconst (v := 0) hx hb dX6_parseInto_1 (by decide) ?_
  refine va_putN (D := D) (ci := 1) (v := .int (0 : Int32)) (ty := .int) (C := RX1) (T := TX1) (N := 5) hx hb htg in_X1 tyX1 tyX1_ok nmX1 hown X.1 hP hD hS 2 rfl rfl 4 (by decide) (X.2.1.f (q := (RX6, 28, RX1, "size", "I", "FloodTax")) 21 rfl) (fun _ h9 => h9) rfl (by decide +kernel) rfl rfl (Nat.le_of_ble_eq_true rfl) dX6_parseInto_2 (fun H locs hP hD hS => ?_)
  have hP : va_P D classes (w_X6_parseInto cI cZ h0 h_bytes h_p1 h_p1_kinds h_p1_parts h_p1_wholes h_p1_bounds f_length f_kind f_start f_after a_bytes (0 : Int32) a_p1_kinds a_p1_parts a_p1_wholes a_p1_bounds) H := hP
  have hD : va_D A (w_X6_parseInto cI cZ h0 h_bytes h_p1 h_p1_kinds h_p1_parts h_p1_wholes h_p1_bounds f_length f_kind f_start f_after a_bytes (0 : Int32) a_p1_kinds a_p1_parts a_p1_wholes a_p1_bounds) := hD
  refine lv_aload_n hx hb dX6_parseInto_5 rfl (lv_at hl 0 rfl) ?_
  refine lv_iconst (v := 0) hx hb dX6_parseInto_6 (by decide) ?_
  refine va_put (D := D) (ci := 6) (v := .int (0 : Int32)) (ty := .int) (C := RX6) (T := TX6) (N := 5) hx hb htg in_X6 tyX6 tyX6_ok nmX6 hown X.1 hP hD hS 0 rfl rfl 4 (by decide) (htg _ mw_47) (fun _ h9 => h9) rfl (by decide +kernel) rfl rfl (Nat.le_of_ble_eq_true rfl) dX6_parseInto_7 (fun H locs hP hD hS => ?_)
  have hP : va_P D classes (w_X6_parseInto cI cZ h0 h_bytes h_p1 h_p1_kinds h_p1_parts h_p1_wholes h_p1_bounds f_length f_kind f_start (0 : Int32) a_bytes (0 : Int32) a_p1_kinds a_p1_parts a_p1_wholes a_p1_bounds) H := hP
  have hD : va_D A (w_X6_parseInto cI cZ h0 h_bytes h_p1 h_p1_kinds h_p1_parts h_p1_wholes h_p1_bounds f_length f_kind f_start (0 : Int32) a_bytes (0 : Int32) a_p1_kinds a_p1_parts a_p1_wholes a_p1_bounds) := hD
  refine lv_aload_n hx hb dX6_parseInto_10 rfl (lv_at hl 0 rfl) ?_
  refine cv_v (rest := []) (ws2 := fun (u : Int32 × Int32 × Int32) => (w_X6_parseInto cI cZ h0 h_bytes h_p1 h_p1_kinds h_p1_parts h_p1_wholes h_p1_bounds f_length u.1 u.2.1 u.2.2 a_bytes (0 : Int32) a_p1_kinds a_p1_parts a_p1_wholes a_p1_bounds)) ⟨hx, hb, hml, hown, hts⟩ (c_X6_nextToken l D cI cZ ad H.size h0 h_bytes f_length f_kind f_start (0 : Int32) a_bytes _ hw) (cwV 0 hts (gIV gw_cons mw_52 gy_X6_nextToken) rfl rfl rfl hd_X6_nextToken ⟨Nat.le_of_ble_eq_true rfl, Nat.le_of_ble_eq_true rfl⟩) X hP hD hS [0, 1] [2, 3, 4, 5, 6] [5, 6, 0, 1, 2, 3, 4] rfl rfl rfl rfl rfl rfl (fun u => rfl) 0 6 rfl rfl rfl (lv_sub hl [] rfl) rfl (Nat.le_of_ble_eq_true rfl) dX6_parseInto_11 ⟨Nat.zero_le _, Nat.zero_le _⟩ (fun u H locs hw hP hD hS => ?_)
  obtain ⟨f_kind_14, f_start_15, f_after_16⟩ := u
  try dsimp only at hw
  have hP : va_P D classes (w_X6_parseInto cI cZ h0 h_bytes h_p1 h_p1_kinds h_p1_parts h_p1_wholes h_p1_bounds f_length f_kind_14 f_start_15 f_after_16 a_bytes (0 : Int32) a_p1_kinds a_p1_parts a_p1_wholes a_p1_bounds) H := hP
  have hD : va_D A (w_X6_parseInto cI cZ h0 h_bytes h_p1 h_p1_kinds h_p1_parts h_p1_wholes h_p1_bounds f_length f_kind_14 f_start_15 f_after_16 a_bytes (0 : Int32) a_p1_kinds a_p1_parts a_p1_wholes a_p1_bounds) := hD
  refine lv_aload_n hx hb dX6_parseInto_14 rfl (lv_at hl 0 rfl) ?_
  refine va_get (D := D) (ci := 6) (v := .int f_kind_14) (C := RX6) (T := TX6) (N := 5) hx hb htg in_X6 hown X.1 hP 0 rfl rfl 2 (by decide) (htg _ mw_49) (fun _ h9 => h9) rfl dX6_parseInto_15 ?_
  refine lv_if_ne (tgt := 23) hx hb dX6_parseInto_18 (by decide) (fun cb => ?_) (fun cb => ?_)
  · have hw := hw.1 cb
    refine lv_iconst (v := 0) hx hb dX6_parseInto_23 (by decide) ?_
    refine lv_istore_n (lv' := [(2, .int (0 : Int32)), (0, .ref h0), (1, .ref h_p1)]) hx hb dX6_parseInto_24 rfl hl (by decide) rfl (fun ls hl => ?_)
    exact bk_25 f_kind_14 f_start_15 f_after_16 (0 : Int32) a_p1_kinds a_p1_parts a_p1_wholes a_p1_bounds (0 : Int32) H locs ls hP hD hS (lv_sub hl [1, 2, 0] rfl) hw
  · have hw := hw.2 cb
    refine lv_iconst (v := -1) hx hb dX6_parseInto_21 (by decide) ?_
    exact hret (-1 : Int32) f_kind_14 f_start_15 f_after_16 (0 : Int32) a_p1_kinds a_p1_parts a_p1_wholes a_p1_bounds H locs _ _ dX6_parseInto_22 hP hD hS hw
set_option maxHeartbeats 40000000 in
set_option maxRecDepth 100000 in
theorem c_X6_parseInto (l : Launch) (D : va_G) (cI cZ : ClassId) (ad : (Nat → Nat) × (Nat → Nat)) (sz : Nat) (h0 : Nat) (h_bytes : Nat) (h_p1 : Nat) (h_p1_kinds : Nat) (h_p1_parts : Nat) (h_p1_wholes : Nat) (h_p1_bounds : Nat) (f_length : Int32) (f_kind : Int32) (f_start : Int32) (f_after : Int32) (a_bytes : (Nat → Int32)) (f_p1_size : Int32) (a_p1_kinds : (Nat → Int32)) (a_p1_parts : (Nat → Int32)) (a_p1_wholes : (Nat → Int32)) (a_p1_bounds : (Nat → Int32))  (Q : Int32 → Int32 → Int32 → Int32 → Int32 → (Nat → Int32) → (Nat → Int32) → (Nat → Int32) → (Nat → Int32) → Prop) (hw : wp_X6_parseInto f_length f_kind f_start f_after a_bytes f_p1_size a_p1_kinds a_p1_parts a_p1_wholes a_p1_bounds Q) : Met l yX6_parseInto ((.code yX6_parseInto cX6_parseInto 3 (some .int)) :: gw) rm_X6_parseInto (va_Pc [.ref h0, .ref h_p1] (PC D cI cZ ad sz (w_X6_parseInto cI cZ h0 h_bytes h_p1 h_p1_kinds h_p1_parts h_p1_wholes h_p1_bounds f_length f_kind f_start f_after a_bytes f_p1_size a_p1_kinds a_p1_parts a_p1_wholes a_p1_bounds))) (va_Qi (fun r (u : Int32 × Int32 × Int32 × Int32 × (Nat → Int32) × (Nat → Int32) × (Nat → Int32) × (Nat → Int32)) => Q r u.1 u.2.1 u.2.2.1 u.2.2.2.1 u.2.2.2.2.1 u.2.2.2.2.2.1 u.2.2.2.2.2.2.1 u.2.2.2.2.2.2.2) (PW D (va_A (w_X6_parseInto cI cZ h0 h_bytes h_p1 h_p1_kinds h_p1_parts h_p1_wholes h_p1_bounds f_length f_kind f_start f_after a_bytes f_p1_size a_p1_kinds a_p1_parts a_p1_wholes a_p1_bounds) sz) (fun (u : Int32 × Int32 × Int32 × Int32 × (Nat → Int32) × (Nat → Int32) × (Nat → Int32) × (Nat → Int32)) => (w_X6_parseInto cI cZ h0 h_bytes h_p1 h_p1_kinds h_p1_parts h_p1_wholes h_p1_bounds f_length u.1 u.2.1 u.2.2.1 a_bytes u.2.2.2.1 u.2.2.2.2.1 u.2.2.2.2.2.1 u.2.2.2.2.2.2.1 u.2.2.2.2.2.2.2))) (va_A (w_X6_parseInto cI cZ h0 h_bytes h_p1 h_p1_kinds h_p1_parts h_p1_wholes h_p1_bounds f_length f_kind f_start f_after a_bytes f_p1_size a_p1_kinds a_p1_parts a_p1_wholes a_p1_bounds) sz)) 0 0 (va_A (w_X6_parseInto cI cZ h0 h_bytes h_p1 h_p1_kinds h_p1_parts h_p1_wholes h_p1_bounds f_length f_kind f_start f_after a_bytes f_p1_size a_p1_kinds a_p1_parts a_p1_wholes a_p1_bounds) sz) := by
  refine Met.ofW (cc := cX6_parseInto) (maxL := 3) (ret := (some .int)) (by decide) rfl ?_
  intro p e s m args below meth c s₁ B hml hv
  have hst := PC.start hv.2
  obtain ⟨ls, hfr, hl⟩ := en_fr (m := m) [.ref h0, .ref h_p1] 3 hv.1 (Nat.le_of_ble_eq_true rfl)
  rw [hfr]
  generalize va_A (w_X6_parseInto cI cZ h0 h_bytes h_p1 h_p1_kinds h_p1_parts h_p1_wholes h_p1_bounds f_length f_kind f_start f_after a_bytes f_p1_size a_p1_kinds a_p1_parts a_p1_wholes a_p1_bounds) sz = A at hst ⊢
  obtain ⟨X, hP, hD⟩ := hst
  exact k_X6_parseInto B.exec B.bytes hml (findClass_of_methodNamed B.named) (atoms_spec (ws := (.code yX6_parseInto cX6_parseInto 3 (some .int)) :: gw) B.pre) X h0 h_bytes h_p1 h_p1_kinds h_p1_parts h_p1_wholes h_p1_bounds f_length f_kind f_start f_after a_bytes f_p1_size a_p1_kinds a_p1_parts a_p1_wholes a_p1_bounds Q _ (fun r f_kind' f_start' f_after' f_p1_size' a_p1_kinds' a_p1_parts' a_p1_wholes' a_p1_bounds' H locs pc ls hdg hP hD hS hw => rt_i (f_kind', f_start', f_after', f_p1_size', a_p1_kinds', a_p1_parts', a_p1_wholes', a_p1_bounds') B.exec B.bytes B.returns B.notSynchronized hdg hP hD hS hw) s.heap [] ls hP hD va_S.rf hl hw
