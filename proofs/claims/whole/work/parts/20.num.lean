/-! numbers, and branches on answers that are 0 or 1 -/
theorem if1 {A B : Prop} (h : B) : ((1 : Int32) = 0 → A) ∧ (¬ (1 : Int32) = 0 → B) := ⟨fun q => absurd q (by decide), fun _ => h⟩
theorem if0 {A B : Prop} (h : A) : ((0 : Int32) = 0 → A) ∧ (¬ (0 : Int32) = 0 → B) := ⟨fun _ => h, fun q => absurd rfl q⟩
theorem in1 {A B : Prop} (h : A) : (¬ (1 : Int32) = 0 → A) ∧ ((1 : Int32) = 0 → B) := ⟨fun _ => h, fun q => absurd q (by decide)⟩
theorem in0 {A B : Prop} (h : B) : (¬ (0 : Int32) = 0 → A) ∧ ((0 : Int32) = 0 → B) := ⟨fun q => absurd rfl q, fun _ => h⟩
theorem z1 : (1 : Int32) = 0 ∨ (1 : Int32) = 1 := Or.inr rfl
theorem z0 : (0 : Int32) = 0 ∨ (0 : Int32) = 1 := Or.inl rfl
theorem i_lt (a b : Int32) : a < b ↔ a.toInt < b.toInt := Int32.lt_iff_toInt_lt
theorem i_le (a b : Int32) : a ≤ b ↔ a.toInt ≤ b.toInt := Int32.le_iff_toInt_le
theorem i_eq (a b : Int32) : a = b ↔ a.toInt = b.toInt := Int32.toInt_inj.symm
theorem l_lt (a b : Int64) : a < b ↔ a.toInt < b.toInt := Int64.lt_iff_toInt_lt
theorem l_le (a b : Int64) : a ≤ b ↔ a.toInt ≤ b.toInt := Int64.le_iff_toInt_le
theorem l_eq (a b : Int64) : a = b ↔ a.toInt = b.toInt := Int64.toInt_inj.symm
theorem w_lt (a b : Int32) : a.toInt64 < b.toInt64 ↔ a < b := by rw [l_lt, i_lt, Int32.toInt_toInt64, Int32.toInt_toInt64]
theorem w_le (a b : Int32) : a.toInt64 ≤ b.toInt64 ↔ a ≤ b := by rw [l_le, i_le, Int32.toInt_toInt64, Int32.toInt_toInt64]
theorem w_eq (a b : Int32) : a.toInt64 = b.toInt64 ↔ a = b := by rw [l_eq, i_eq, Int32.toInt_toInt64, Int32.toInt_toInt64]
abbrev ok (x n : Int32) : Prop := 0 ≤ x ∧ x ≤ n
theorem cl {k : Nat} (h : k < 2147483648) : (nI k).toNatClampNeg = k := nI_clamp h
theorem ile {a b : Nat} (ha : a < 2147483648) (hb : b < 2147483648) : nI a ≤ nI b ↔ a ≤ b := nI_leI ha hb
theorem ilt {a b : Nat} (ha : a < 2147483648) (hb : b < 2147483648) : nI a < nI b ↔ a < b := nI_ltI ha hb
theorem vi {k n : Nat} (h : k < n) (hn : n < 2147483648 := by decide) : vp_in (nI k) n := vp_in_nI h hn
theorem vi_ok {x : Int32} {n : Nat} (h : ok x (nI n)) (hn : n + 1 < 2147483648 := by decide) : vp_in x (n + 1) := by
  obtain ⟨j, hj, rfl⟩ := nI_of2 (M := nI n) (n := n) (nI_toInt (by omega)) (Int32.not_lt.mpr h.1) h.2
  exact vi (by omega) hn
theorem ok_nI {x : Int32} {n : Nat} (h : ok x (nI n)) (hn : n < 2147483648 := by decide) : ∃ j, j ≤ n ∧ x = nI j :=
  nI_of2 (M := nI n) (n := n) (nI_toInt hn) (Int32.not_lt.mpr h.1) h.2
theorem nI_ok {j n : Nat} (h : j ≤ n) (hn : n < 2147483648 := by decide) : ok (nI j) (nI n) := ⟨nI_pos' (by omega), nI_le h hn⟩
theorem mu1 {n k : Nat} (h : k < n) (hn : n < 2147483648 := by decide) : n - (nI k + 1).toNatClampNeg < n - k := by
  rw [nI_1, cl (by omega)]; omega
theorem upd_s (f : Nat → Int32) (k : Nat) (x : Int32) : upd f k x k = x := pk_us
theorem upd_n (f : Nat → Int32) {k j : Nat} (x : Int32) (h : j ≠ k) : upd f k x j = f j := pk_un h
/-! isWithin, isKnownDay; in, isDay, isKnown; told -/
theorem sp_isWithin {x n : Int32} {Q : Int32 → Prop} (h1 : ok x n → Q 1) (h0 : ¬ ok x n → Q 0) : wp_X7_isWithin x n Q := by
  unfold wp_X7_isWithin wp_X7_isWithin_b13
  refine ⟨fun c => h0 fun q => absurd q.1 (Int32.not_le.mpr c), fun c => ⟨fun d => h0 fun q => absurd q.2 (Int32.not_le.mpr d), fun d => h1 ⟨Int32.not_lt.mp c, Int32.not_lt.mp d⟩⟩⟩
theorem sp_isKnownDay {x : Int32} {Q : Int32 → Prop} (h1 : ok x 1000 → Q 1) (h0 : ¬ ok x 1000 → Q 0) : wp_X7_isKnownDay x Q := sp_isWithin (fun c => ⟨z1, h1 c⟩) (fun c => ⟨z0, h0 c⟩)
theorem sp_in {x a b : Int64} {Q : Int32 → Prop} (h1 : a ≤ x ∧ x ≤ b → Q 1) (h0 : ¬ (a ≤ x ∧ x ≤ b) → Q 0) : wp_X8_in x a b Q := by
  unfold wp_X8_in wp_X8_in_b17
  refine ⟨fun c => h0 fun q => absurd q.1 (Int64.not_le.mpr c), fun c => ⟨fun d => h0 fun q => absurd q.2 (Int64.not_le.mpr d), fun d => h1 ⟨Int64.not_lt.mp c, Int64.not_lt.mp d⟩⟩⟩
theorem w_ok {x a b : Int32} : (a.toInt64 ≤ x.toInt64 ∧ x.toInt64 ≤ b.toInt64) ↔ (a ≤ x ∧ x ≤ b) := by rw [w_le, w_le]
theorem sp_inw {x a b : Int32} {A B : Int64} {Q : Int32 → Prop} (ha : A = a.toInt64) (hb : B = b.toInt64) (h1 : a ≤ x ∧ x ≤ b → Q 1) (h0 : ¬ (a ≤ x ∧ x ≤ b) → Q 0) : wp_X8_in x.toInt64 A B Q := by
  subst ha hb
  exact sp_in (fun c => h1 (w_ok.mp c)) (fun c => h0 (fun q => c (w_ok.mpr q)))
theorem sp_isDay {x : Int32} {Q : Int32 → Prop} (h1 : ok x 119 → Q 1) (h0 : ¬ ok x 119 → Q 0) : wp_X8_isDay x Q := sp_inw (a := 0) (b := 119) rfl rfl (fun c => ⟨z1, h1 c⟩) (fun c => ⟨z0, h0 c⟩)
theorem sp_isKnown {x : Int32} {Q : Int32 → Prop} (h1 : ok x 1000 → Q 1) (h0 : ¬ ok x 1000 → Q 0) : wp_X8_isKnown x Q := sp_inw (a := 0) (b := 1000) rfl rfl (fun c => ⟨z1, h1 c⟩) (fun c => ⟨z0, h0 c⟩)
theorem sp_told0 {s x : Int32} {Q : Int32 → Int32 → Prop} (hx : 0 ≤ x) (h : Q x 0) : wp_X8_told s x Q := by
  unfold wp_X8_told wp_X8_told_b10
  exact ⟨fun _ => h, fun c => absurd hx c⟩
theorem sp_toldN {s x : Int32} {Q : Int32 → Int32 → Prop} (hx : ¬ 0 ≤ x) (h : Q x x) : wp_X8_told s x Q := by
  unfold wp_X8_told wp_X8_told_b10
  exact ⟨fun c => absurd c hx, fun _ => h⟩
