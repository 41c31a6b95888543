/-! all decrees, both sides -/
def pos (b : Nat → Int32) (n : Nat) : Nat → Nat
  | 0 => 0
  | i + 1 => tkA b n (dR b n (pos b n i)).1
def en (b : Nat → Int32) (n j : Nat) : Nat × Nat × Nat × Nat := (dR b n (pos b n j)).2.getD (0, 0, 1, 0)
def out (b : Nat → Int32) (n : Nat) : Nat → Nat → Nat ⊕ Nat
  | 0, i => .inl (pos b n i)
  | f + 1, i => match (dR b n (pos b n i)).2 with
    | none => .inl (dR b n (pos b n i)).1
    | some _ => if tkK b n (dR b n (pos b n i)).1 = 0 then .inr (i + 1) else if tkK b n (dR b n (pos b n i)).1 = 3 ∧ b (tkS b n (dR b n (pos b n i)).1) = 59 then out b n f (i + 1) else .inl (dR b n (pos b n i)).1
def RES (b : Nat → Int32) (n : Nat) : Nat ⊕ Nat := if tkK b n 0 = 0 then .inr 0 else out b n 20 0
theorem pos_le (b : Nat → Int32) (n : Nat) : ∀ i, pos b n i ≤ n
  | 0 => Nat.zero_le _
  | i + 1 => by
    rw [pos]
    exact (tkA_le (dR_ok (pos_le b n i)).1).2
theorem en_ok (b : Nat → Int32) (n j : Nat) : (en b n j).1 < 4 ∧ ((en b n j).1 ≠ 2 → 1 ≤ (en b n j).2.2.1 ∧ (en b n j).2.2.1 ≤ 10000) := by
  have h := (dR_ok (b := b) (pos_le b n j)).2
  unfold en
  cases ho : (dR b n (pos b n j)).2 with
  | none => exact ⟨by decide, fun _ => ⟨by decide, by decide⟩⟩
  | some o =>
    obtain ⟨k, a, w, c⟩ := o
    exact h k a w c ho
theorem en_is {b : Nat → Int32} {n j q k a w c : Nat} (h : dR b n (pos b n j) = (q, some (k, a, w, c))) : en b n j = (k, a, w, c) := by
  unfold en; rw [h]; rfl
theorem out_n {b : Nat → Int32} {n f i q : Nat} (h : dR b n (pos b n i) = (q, none)) : out b n (f + 1) i = .inl q := by
  rw [out, h]
theorem out_e {b : Nat → Int32} {n f i q : Nat} {o : Nat × Nat × Nat × Nat} (h : dR b n (pos b n i) = (q, some o)) (h0 : tkK b n q = 0) : out b n (f + 1) i = .inr (i + 1) := by
  rw [out, h]; exact if_pos h0
theorem out_s {b : Nat → Int32} {n f i q : Nat} {o : Nat × Nat × Nat × Nat} (h : dR b n (pos b n i) = (q, some o)) (h0 : ¬ tkK b n q = 0) (h3 : tkK b n q = 3 ∧ b (tkS b n q) = 59) : out b n (f + 1) i = out b n f (i + 1) := by
  rw [out, h]
  show (if tkK b n q = 0 then _ else if tkK b n q = 3 ∧ b (tkS b n q) = 59 then _ else _) = _
  rw [if_neg h0, if_pos h3]
theorem out_x {b : Nat → Int32} {n f i q : Nat} {o : Nat × Nat × Nat × Nat} (h : dR b n (pos b n i) = (q, some o)) (h0 : ¬ tkK b n q = 0) (h3 : ¬ (tkK b n q = 3 ∧ b (tkS b n q) = 59)) : out b n (f + 1) i = .inl q := by
  rw [out, h]
  show (if tkK b n q = 0 then _ else if tkK b n q = 3 ∧ b (tkS b n q) = 59 then _ else _) = _
  rw [if_neg h0, if_neg h3]
def ce (b : Nat → Int32) (n j : Nat) (K P W B : Nat → Int32) : Prop := K j = nI (en b n j).1 ∧ P j = nI (if (en b n j).1 = 2 then 0 else (en b n j).2.1) ∧ W j = nI (if (en b n j).1 = 2 then 1 else (en b n j).2.2.1) ∧ B j = nI (if (en b n j).1 = 2 then (en b n j).2.1 else (en b n j).2.2.2)
def me (b : Nat → Int32) (n j : Nat) (D : Nat → Int32) : Prop := D (4 * j) = nI (en b n j).1 ∧ D (4 * j + 1) = nI (en b n j).2.1 ∧ D (4 * j + 2) = nI (en b n j).2.2.1 ∧ D (4 * j + 3) = nI (en b n j).2.2.2
def de (b : Nat → Int32) (n j : Nat) (S A B C : Nat → Int32) : Prop := S j = nI (en b n j).1 ∧ A j = nI (en b n j).2.1 ∧ B j = nI (en b n j).2.2.1 ∧ C j = nI (en b n j).2.2.2
theorem br_of {b : Nat → Int32} {n m : Nat} {K P W B dS dA dB dC : Nat → Int32} (hm : m ≤ 20) (hc : ∀ j, j < m → ce b n j K P W B) (hd : ∀ j, j < m → de b n j dS dA dB dC) : BR m K P W B dS dA dB dC := by
  refine ⟨hm, fun i hi => ?_⟩
  obtain ⟨c1, c2, c3, c4⟩ := hc i hi
  obtain ⟨d1, d2, d3, d4⟩ := hd i hi
  obtain ⟨o1, o2⟩ := en_ok b n i
  rw [c1, c2, c3, c4, d1, d2, d3, d4]
  generalize (en b n i).1 = k at *
  have h2 : nI k = 2 ↔ k = 2 := nI_eq (a := k) (b := 2) (by omega) (by decide)
  have h0 : nI k = 0 ↔ k = 0 := nI_eq (a := k) (b := 0) (by omega) (by decide)
  have h1 : nI k = 1 ↔ k = 1 := nI_eq (a := k) (b := 1) (by omega) (by decide)
  have h3 : nI k = 3 ↔ k = 3 := nI_eq (a := k) (b := 3) (by omega) (by decide)
  rw [h0, h1, h2, h3]
  refine ⟨rfl, fun e => by rw [if_pos e], fun e => ?_, fun e => by rw [if_neg (by omega)]⟩
  have o := o2 (by omega)
  refine ⟨by rw [if_neg (by omega)], by rw [if_neg (by omega)], ?_⟩
  exact nI_lt (a := 0) (by omega) (by omega)
theorem sp_takeSemicolon {b : Nat → Int32} {n p : Nat} {Q : Int32 → Int32 → Int32 → Int32 → Prop} (hn : n ≤ 200) (hp : p ≤ n)
  (h1 : tkK b n p = 3 ∧ b (tkS b n p) = 59 → Q 1 (tkK b n (tkA b n p)) (nI (tkS b n (tkA b n p))) (nI (tkA b n (tkA b n p))))
  (h0 : ¬ (tkK b n p = 3 ∧ b (tkS b n p) = 59) → Q 0 (tkK b n p) (nI (tkS b n p)) (nI (tkA b n p))) :
  wp_X6_takeSemicolon (nI n) (tkK b n p) (nI (tkS b n p)) (nI (tkA b n p)) b Q := by
  have ha := tkA_le (b := b) hp
  have hs := tkS_le (b := b) hp
  unfold wp_X6_takeSemicolon wp_X6_takeSemicolon_b22
  rw [cl (by omega)]
  refine ⟨fun c => h0 fun q => c q.1, fun c => ⟨?_, fun d => sp_nextToken hn ha.2 (h1 ⟨c, d⟩), fun d => h0 fun q => d q.2⟩⟩
  have := kd_lt (b := b) (n := n) (p := tkS b n p) (by rw [← tkK, c]; decide)
  exact vi (by omega)
theorem ce_up {b : Nat → Int32} {n i q k a w c : Nat} {K P W B : Nat → Int32} (h : ∀ j, j < i → ce b n j K P W B) (e : dR b n (pos b n i) = (q, some (k, a, w, c))) : ∀ j, j < i + 1 → ce b n j (upd K i (nI k)) (upd P i (nI (if k = 2 then 0 else a))) (upd W i (nI (if k = 2 then 1 else w))) (upd B i (nI (if k = 2 then a else c))) := fun j hj => by
  by_cases ej : j = i
  · subst ej
    unfold ce
    rw [en_is e, upd_s, upd_s, upd_s, upd_s]
    exact ⟨rfl, rfl, rfl, rfl⟩
  · unfold ce
    rw [upd_n _ _ ej, upd_n _ _ ej, upd_n _ _ ej, upd_n _ _ ej]
    exact h j (by omega)
theorem sp_parseInto {b : Nat → Int32} {n : Nat} {k0 s0 a0 z0 : Int32} {K P W B : Nat → Int32} {Q : Int32 → Int32 → Int32 → Int32 → Int32 → (Nat → Int32) → (Nat → Int32) → (Nat → Int32) → (Nat → Int32) → Prop} (hn : n ≤ 200)
  (hb : ∀ q, RES b n = .inl q → q ≤ n → ∀ k s a z K P W B, Q (nI (tkS b n q)) k s a z K P W B)
  (hg : ∀ m, RES b n = .inr m → m ≤ 20 → ∀ k s a K P W B, (∀ j, j < m → ce b n j K P W B) → Q (-1) k s a (nI m) K P W B) :
  wp_X6_parseInto (nI n) k0 s0 a0 b z0 K P W B Q := by
  unfold wp_X6_parseInto
  refine sp_nextToken (p := 0) hn (Nat.zero_le _) ?_
  unfold RES at hb hg
  refine ⟨fun c => ?_, fun c => ?_⟩
  · rw [if_neg c] at hb hg
    unfold wp_X6_parseInto_b25
    refine ⟨fun k s a z K P W B t => ∃ i, i ≤ 20 ∧ t = nI i ∧ z = nI i ∧ k = tkK b n (pos b n i) ∧ s = nI (tkS b n (pos b n i)) ∧ a = nI (tkA b n (pos b n i)) ∧ out b n (20 - i) i = out b n 20 0 ∧ ∀ j, j < i → ce b n j K P W B, fun _ _ _ _ _ _ _ _ t => 20 - t.toNatClampNeg, ⟨0, by omega, rfl, rfl, rfl, rfl, rfl, rfl, fun j hj => absurd hj (Nat.not_lt_zero _)⟩, ?_⟩
    rintro k s a z K P W B t ⟨i, hi, rfl, rfl, rfl, rfl, rfl, hr, hall⟩
    have hp := pos_le b n i
    have hq := (dR_ok (b := b) hp).1
    have hc := cl (k := i) (by omega)
    simp only [hc]
    refine ⟨fun d => ?_, fun d => ?_⟩
    · have := (ile (a := 20) (b := i) (by decide) (by omega)).mp d
      have e : i = 20 := by omega
      subst e
      exact hb _ hr.symm hp _ _ _ _ _ _ _ _
    · have hlt : i < 20 := Nat.not_le.mp fun z => d ((ile (a := 20) (b := i) (by decide) (by omega)).mpr z)
      rw [show 20 - i = (20 - (i + 1)) + 1 by omega] at hr
      refine sp_takeDecree hn hp hlt (fun q k a w c e => ?_) (fun q e => in0 ?_)
      · rw [e] at hq
        refine in1 ⟨fun d0 => ?_, fun d0 => ?_⟩
        · refine sp_takeSemicolon hn hq (fun d3 => in1 ?_) (fun d3 => in0 ?_)
          · rw [out_s e d0 d3] at hr
            have ep : pos b n (i + 1) = tkA b n q := by rw [pos, e]
            refine ⟨⟨i + 1, by omega, nI_1 i, rfl, by rw [ep], by rw [ep], by rw [ep], hr, ce_up hall e⟩, mu1 hlt (by omega)⟩
          · rw [out_x e d0 d3] at hr
            exact hb _ hr.symm hq _ _ _ _ _ _ _ _
        · rw [out_e e d0] at hr
          exact hg _ hr.symm (by omega) _ _ _ _ _ _ _ (ce_up hall e)
      · rw [e] at hq
        rw [out_n e] at hr
        exact hb _ hr.symm hq _ _ _ _ _ _ _ _
  · rw [if_pos c] at hg
    exact hg 0 rfl (by omega) _ _ _ _ _ _ _ (fun j hj => absurd hj (Nat.not_lt_zero _))
theorem me_up {b : Nat → Int32} {n i q k a w c : Nat} {D : Nat → Int32} (h : ∀ j, j < i → me b n j D) (e : dR b n (pos b n i) = (q, some (k, a, w, c))) : ∀ j, j < i + 1 → me b n j (upd (upd (upd (upd D (4 * i) (nI k)) (4 * i + 1) (nI a)) (4 * i + 2) (nI w)) (4 * i + 3) (nI c)) := fun j hj => by
  by_cases ej : j = i
  · subst ej
    unfold me
    rw [en_is e, upd_s, upd_n _ _ (show 4 * j ≠ 4 * j + 3 by omega), upd_n _ _ (show 4 * j ≠ 4 * j + 2 by omega), upd_n _ _ (show 4 * j ≠ 4 * j + 1 by omega), upd_s, upd_n _ _ (show 4 * j + 1 ≠ 4 * j + 3 by omega), upd_n _ _ (show 4 * j + 1 ≠ 4 * j + 2 by omega), upd_s, upd_n _ _ (show 4 * j + 2 ≠ 4 * j + 3 by omega), upd_s]
    exact ⟨rfl, rfl, rfl, rfl⟩
  · have := h j (by omega)
    unfold me at this ⊢
    simp only [upd_n _ _ (show 4 * j ≠ 4 * i + 3 by omega), upd_n _ _ (show 4 * j ≠ 4 * i + 2 by omega), upd_n _ _ (show 4 * j ≠ 4 * i + 1 by omega), upd_n _ _ (show 4 * j ≠ 4 * i by omega), upd_n _ _ (show 4 * j + 1 ≠ 4 * i + 3 by omega), upd_n _ _ (show 4 * j + 1 ≠ 4 * i + 2 by omega), upd_n _ _ (show 4 * j + 1 ≠ 4 * i + 1 by omega), upd_n _ _ (show 4 * j + 1 ≠ 4 * i by omega), upd_n _ _ (show 4 * j + 2 ≠ 4 * i + 3 by omega), upd_n _ _ (show 4 * j + 2 ≠ 4 * i + 2 by omega), upd_n _ _ (show 4 * j + 2 ≠ 4 * i + 1 by omega), upd_n _ _ (show 4 * j + 2 ≠ 4 * i by omega), upd_n _ _ (show 4 * j + 3 ≠ 4 * i + 3 by omega), upd_n _ _ (show 4 * j + 3 ≠ 4 * i + 2 by omega), upd_n _ _ (show 4 * j + 3 ≠ 4 * i + 1 by omega), upd_n _ _ (show 4 * j + 3 ≠ 4 * i by omega)]
    exact this
theorem de_up {b : Nat → Int32} {n i : Nat} {S A B C D : Nat → Int32} (h : ∀ j, j < i → de b n j S A B C) (hm : me b n i D) : ∀ j, j < i + 1 → de b n j (upd S i (D (4 * i))) (upd A i (D (4 * i + 1))) (upd B i (D (4 * i + 2))) (upd C i (D (4 * i + 3))) := fun j hj => by
  by_cases ej : j = i
  · subst ej
    unfold de
    rw [upd_s, upd_s, upd_s, upd_s]
    exact hm
  · unfold de
    rw [upd_n _ _ ej, upd_n _ _ ej, upd_n _ _ ej, upd_n _ _ ej]
    exact h j (by omega)
theorem tkW_59 {b : Nat → Int32} {n p : Nat} (h : tkK b n p = 3) : tkW b n p = 59 ↔ b (tkS b n p) = 59 := by
  unfold tkW
  rw [if_pos h]
  have e : (59 : Int64) = (59 : Int32).toInt64 := rfl
  rw [e, w_eq]
theorem sp_decrees8 {b : Nat → Int32} {n : Nat} {th st dc nm fr to so ft bd : Int32} {wo : Int64} {dS dA dB dC nD : Nat → Int32} {Q : Int32 → Int32 → Int32 → Int32 → Int32 → Int32 → Int32 → Int32 → Int32 → Int64 → Int32 → Int32 → (Nat → Int32) → (Nat → Int32) → (Nat → Int32) → (Nat → Int32) → (Nat → Int32) → Prop} (hn : n ≤ 200)
  (hb : ∀ q, RES b n = .inl q → q ≤ n → ∀ nm fr to so wo bd nD, Q (-6) 0 (-6) dc nm 0 fr to so wo (nI (tkS b n q)) bd dS dA dB dC nD)
  (hg : ∀ m, RES b n = .inr m → m ≤ 20 → ∀ nm fr to so wo bd dS dA dB dC nD, (∀ j, j < m → de b n j dS dA dB dC) → Q (nI m) 0 0 (nI m) nm 0 fr to so wo (-1) bd dS dA dB dC nD) :
  wp_X8_decrees th st dc nm (nI n) fr to so wo ft bd dS dA dB dC nD b Q := by
  -- the end
  have fin0 : ∀ q, RES b n = .inl q → q ≤ n → ∀ nm tp fr to so wo nD, wp_X8_decrees_b96 b Q 0 st dc nm tp fr to so wo (nI (tkS b n q)) 1 dS dA dB dC nD := by
    intro q e1 e2 nm tp fr to so wo nD
    unfold wp_X8_decrees_b96
    exact ⟨fun e => absurd e (by decide), fun _ => sp_toldN (by decide) (hb q e1 e2 _ _ _ _ _ _ _)⟩
  have fin1 : ∀ m, RES b n = .inr m → m ≤ 20 → ∀ tp fr to so wo nD, (∀ j, j < m → me b n j nD) → wp_X8_decrees_b96 b Q 0 st dc (nI m) tp fr to so wo (-1) 0 dS dA dB dC nD := by
    intro m e1 e2 tp fr to so wo nD hme
    unfold wp_X8_decrees_b96 wp_X8_decrees_b125
    refine ⟨fun _ => ?_, fun e => absurd rfl e⟩
    refine ⟨fun x1 x2 x3 x4 x5 x6 x7 x8 x9 x10 x11 S A B C D t => x1 = 0 ∧ x3 = nI m ∧ x5 = 0 ∧ x10 = -1 ∧ D = nD ∧ ∃ i, i ≤ m ∧ t = nI i ∧ ∀ j, j < i → de b n j S A B C, fun _ _ _ _ _ _ _ _ _ _ _ _ _ _ _ _ t => m - t.toNatClampNeg, ⟨rfl, rfl, rfl, rfl, rfl, 0, by omega, rfl, fun j hj => absurd hj (Nat.not_lt_zero _)⟩, ?_⟩
    rintro x1 x2 x3 x4 x5 x6 x7 x8 x9 x10 x11 S A B C D t ⟨rfl, rfl, rfl, rfl, rfl, i, hi, rfl, hall⟩
    have f4 : (4 : Int32) = nI 4 := rfl
    have f1 : (1 : Int32) = nI 1 := rfl
    have f2 : (2 : Int32) = nI 2 := rfl
    have f3 : (3 : Int32) = nI 3 := rfl
    have hc := cl (k := i) (by omega)
    have c0 : (4 : Int32) * nI i = nI (4 * i) := by rw [f4, pk_mul]
    have c1 : nI (4 * i) + (1 : Int32) = nI (4 * i + 1) := by rw [f1, nI_add]
    have c2 : nI (4 * i) + (2 : Int32) = nI (4 * i + 2) := by rw [f2, nI_add]
    have c3 : nI (4 * i) + (3 : Int32) = nI (4 * i + 3) := by rw [f3, nI_add]
    have h0 := cl (k := 4 * i) (by omega)
    have h1 := cl (k := 4 * i + 1) (by omega)
    have h2 := cl (k := 4 * i + 2) (by omega)
    have h3 := cl (k := 4 * i + 3) (by omega)
    simp only [c0, c1, c2, c3, hc, h0, h1, h2, h3]
    refine ⟨fun d => ?_, fun d => ?_⟩
    · have := (ile (a := m) (b := i) (by omega) (by omega)).mp d
      have e : i = m := by omega
      subst e
      exact sp_told0 (nI_pos' (by omega)) (hg _ e1 e2 _ _ _ _ _ _ _ _ _ _ _ hall)
    · have hlt : i < m := Nat.not_le.mp fun z => d ((ile (by omega) (by omega)).mpr z)
      have hv : vp_in (nI i) 20 := vi (by omega)
      exact ⟨vi (by omega), hv, vi (by omega), hv, vi (by omega), hv, vi (by omega), hv, ⟨by trivial, by trivial, by trivial, by trivial, by trivial, i + 1, by omega, nI_1 i, de_up hall (hme i hlt)⟩, mu1 hlt (by omega)⟩
  unfold wp_X8_decrees
  refine sp_next (p := 0) hn (Nat.zero_le _) ⟨fun c => ?_, fun c => ?_⟩
  · exact fin1 0 (by unfold RES; rw [if_pos c]) (by omega) _ _ _ _ _ _ (fun j hj => absurd hj (Nat.not_lt_zero _))
  · have hR : RES b n = out b n 20 0 := by unfold RES; rw [if_neg c]
    let I : Int32 → Int32 → Int32 → Int32 → Int32 → Int32 → Int32 → Int32 → Int64 → Int32 → Int32 → (Nat → Int32) → (Nat → Int32) → (Nat → Int32) → (Nat → Int32) → (Nat → Int32) → Prop := fun x1 x2 x3 x4 x5 x6 x7 x8 x9 x10 x11 S A B C D => x1 = 0 ∧ x2 = st ∧ x3 = dc ∧ x5 = nI n ∧ S = dS ∧ A = dA ∧ B = dB ∧ C = dC ∧ ((x11 = 1 ∧ ∃ q, q ≤ n ∧ x10 = nI (tkS b n q) ∧ RES b n = .inl q) ∨ (x11 = 0 ∧ x10 = -1 ∧ ∃ i q o, i < 20 ∧ x4 = nI (i + 1) ∧ dR b n (pos b n i) = (q, some o) ∧ x6 = nI (tkS b n q) ∧ x7 = nI (tkA b n q) ∧ x8 = tkK b n q ∧ x9 = tkW b n q ∧ out b n (20 - i) i = RES b n ∧ ∀ j, j < i + 1 → me b n j D))
    have step : ∀ (i : Nat) (D : Nat → Int32), i ≤ 20 → out b n (20 - i) i = RES b n → (∀ j, j < i → me b n j D) → ∀ {R : Int32 → Int32 → Int32 → Int32 → Int64 → Int32 → Int32 → (Nat → Int32) → Prop}, (∀ y1 y2 y3 y4 y5 y6 y7 D', I 0 st dc y1 (nI n) y2 y3 y4 y5 y6 y7 dS dA dB dC D' → (y7 = 1 ∨ (y7 = 0 ∧ i < 20 ∧ y1 = nI (i + 1))) → R y1 y2 y3 y4 y5 y6 y7 D') → wp_X8_readDecree (nI i) (nI n) (nI (tkS b n (pos b n i))) (nI (tkA b n (pos b n i))) (tkK b n (pos b n i)) (tkW b n (pos b n i)) (-1) 0 D b R := by
      intro i D hi hr hall R hh
      have hp := pos_le b n i
      have hq := (dR_ok (b := b) hp).1
      refine sp_readDecree hn hp hi (fun e => ?_) (fun hlt q k a w c e => ?_) (fun hlt q e => ?_)
      · subst e
        exact hh _ _ _ _ _ _ _ _ ⟨rfl, rfl, rfl, rfl, rfl, rfl, rfl, rfl, Or.inl ⟨rfl, _, hp, rfl, hr.symm⟩⟩ (Or.inl rfl)
      · exact hh _ _ _ _ _ _ _ _ ⟨rfl, rfl, rfl, rfl, rfl, rfl, rfl, rfl, Or.inr ⟨rfl, rfl, i, q, _, hlt, rfl, e, rfl, rfl, rfl, rfl, hr, me_up hall e⟩⟩ (Or.inr ⟨rfl, hlt, rfl⟩)
      · rw [e] at hq
        rw [show 20 - i = (20 - (i + 1)) + 1 by omega, out_n e] at hr
        exact hh _ _ _ _ _ _ _ _ ⟨rfl, rfl, rfl, rfl, rfl, rfl, rfl, rfl, Or.inl ⟨rfl, _, hq, rfl, hr.symm⟩⟩ (Or.inl rfl)
    refine step 0 nD (by omega) hR.symm (fun j hj => absurd hj (Nat.not_lt_zero _)) (fun y1 y2 y3 y4 y5 y6 y7 D' hI _ => ?_)
    unfold wp_X8_decrees_b40
    refine ⟨I, fun _ _ _ x4 _ _ _ _ _ _ x11 _ _ _ _ _ => if x11 = 0 then 21 - x4.toNatClampNeg else 0, hI, ?_⟩
    rintro x1 x2 x3 x4 x5 x6 x7 x8 x9 x10 x11 S A B C D ⟨rfl, rfl, rfl, rfl, rfl, rfl, rfl, rfl, hh⟩
    rcases hh with ⟨rfl, q, hq, rfl, hr⟩ | ⟨rfl, rfl, i, q, o, hi, rfl, hd, rfl, rfl, rfl, rfl, hr, hall⟩
    · refine ⟨fun _ => ?_, fun e => absurd e (by decide)⟩
      unfold wp_X8_decrees_b77
      exact ⟨fun _ => fin0 q hr hq _ _ _ _ _ _ _, fun e => absurd e (by decide)⟩
    · have hq := (dR_ok (b := b) (pos_le b n i)).1
      rw [hd] at hq
      have hq : q ≤ n := hq
      have hf : 20 - i = (20 - (i + 1)) + 1 := by omega
      rw [hf] at hr
      have stop : ¬ (tkK b n q = 3 ∧ b (tkS b n q) = 59) → wp_X8_decrees_b77 b Q 0 x2 x3 (nI (i + 1)) (nI n) (nI (tkS b n q)) (nI (tkA b n q)) (tkK b n q) (tkW b n q) (-1) 0 S A B C D := by
        intro h3
        unfold wp_X8_decrees_b77
        refine ⟨fun e => absurd rfl e, fun _ => ⟨fun e0 => ?_, fun e0 => sp_must hn hq (fun e => absurd rfl e) (fun _ => ?_)⟩⟩
        · rw [out_e hd e0] at hr
          exact fin1 (i + 1) hr.symm (by omega) _ _ _ _ _ _ hall
        · rw [out_x hd e0 h3] at hr
          exact fin0 q hr.symm hq _ _ _ _ _ _ _
      refine ⟨fun e => absurd rfl e, fun _ => ⟨fun e => stop fun z => e z.1, fun e => ⟨fun e2 => stop fun z => e2 ((tkW_59 e).mpr z.2), fun e2 => ?_⟩⟩⟩
      have h3 := (tkW_59 e).mp e2
      have e0 : ¬ tkK b n q = 0 := by rw [e]; decide
      rw [out_s hd e0 ⟨e, h3⟩] at hr
      have ep : pos b n (i + 1) = tkA b n q := by rw [pos, hd]
      refine sp_next hn (tkA_le hq).2 ?_
      rw [← ep]
      refine step (i + 1) D (by omega) hr hall (fun y1 y2 y3 y4 y5 y6 y7 D' hI hy => ⟨hI, ?_⟩)
      have hc : (nI (i + 1)).toNatClampNeg = i + 1 := cl (by omega)
      rcases hy with rfl | ⟨rfl, hlt, rfl⟩
      · show (if (1 : Int32) = 0 then _ else 0) < (if (0 : Int32) = 0 then _ else 0)
        rw [if_neg (by decide), if_pos rfl, hc]; omega
      · show (if (0 : Int32) = 0 then _ else 0) < (if (0 : Int32) = 0 then _ else 0)
        rw [if_pos rfl, if_pos rfl, hc, cl (by omega)]; omega
theorem bo_decrees {n k : Nat} {ft rf st th nm fr to so bd tk ts ta ss : Int32} {wo : Int64} {b K P W B sK sP sW sB dS dA dB dC nD : Nat → Int32} {F : Int32 → Int32 → Int32 → Int32 → Int32 → Int32 → Int32 → Int32 → (Nat → Int32) → (Nat → Int32) → (Nat → Int32) → (Nat → Int32) → Int32 → (Nat → Int32) → (Nat → Int32) → (Nat → Int32) → (Nat → Int32) → Int32 → Int32 → Int32 → Int32 → Int32 → Int32 → Int32 → Int32 → Int32 → Int64 → Int32 → Int32 → (Nat → Int32) → (Nat → Int32) → (Nat → Int32) → (Nat → Int32) → (Nat → Int32) → Prop} (hn : n ≤ 200) (hB : BR k K P W B dS dA dB dC)
  (h : ∀ r ft st k tk ts ta K P W B ss sK sP sW sB nm fr to so wo bd dS dA dB dC nD, BR k K P W B dS dA dB dC → F r ft st 0 tk ts ta (nI k) K P W B ss sK sP sW sB r 0 st (nI k) nm 0 fr to so wo ft bd dS dA dB dC nD) :
  wp_X7_decrees ft rf (nI n) tk ts ta b (nI k) K P W B ss sK sP sW sB (fun a1 a2 a3 a4 a5 a6 a7 a8 a9 a10 a11 a12 a13 a14 a15 a16 a17 => wp_X8_decrees th st (nI k) nm (nI n) fr to so wo ft bd dS dA dB dC nD b (fun b1 b2 b3 b4 b5 b6 b7 b8 b9 b10 b11 b12 b13 b14 b15 b16 b17 => F a1 a2 a3 a4 a5 a6 a7 a8 a9 a10 a11 a12 a13 a14 a15 a16 a17 b1 b2 b3 b4 b5 b6 b7 b8 b9 b10 b11 b12 b13 b14 b15 b16 b17)) := by
  unfold wp_X7_decrees wp_X7_accept wp_X7_refuse
  refine sp_parseInto hn (fun q hr hq k s a z K' P' W' B' => ?_) (fun m hr hm k s a K' P' W' B' hc => ?_)
  · have hs := (tkS_le (b := b) hq).2
    refine ⟨fun e => absurd e (nI_m1 (by omega)), fun _ => ?_⟩
    refine sp_decrees8 hn (fun q' hr' hq' nm fr to so wo bd nD => ?_) (fun m hr' => by rw [hr] at hr'; cases hr')
    rw [hr] at hr'
    cases hr'
    exact h _ _ _ _ _ _ _ _ _ _ _ _ _ _ _ _ _ _ _ _ _ _ _ _ _ _ _ hB
  · refine ⟨fun _ => ?_, fun e => absurd rfl e⟩
    refine sp_decrees8 hn (fun q hr' => by rw [hr] at hr'; cases hr') (fun m' hr' hm' nm fr to so wo bd S A B'' C D hd => ?_)
    rw [hr] at hr'
    cases hr'
    exact h _ _ _ _ _ _ _ _ _ _ _ _ _ _ _ _ _ _ _ _ _ _ _ _ _ _ _ (br_of hm hc hd)
