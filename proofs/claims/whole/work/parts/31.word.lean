/-! the model's next token -/
theorem sp_next {b : Nat → Int32} {n p : Nat} {f0 s0 : Int32} {w0 : Int64} {Q : Int32 → Int32 → Int32 → Int64 → Prop} (hn : n ≤ 200) (hp : p ≤ n) (h : Q (nI (tkS b n p)) (nI (tkA b n p)) (tkK b n p) (tkW b n p)) : wp_X8_next (nI n) f0 (nI p) s0 w0 b Q := by
  have hs := tkS_le (b := b) hp
  have ha := tkA_le (b := b) hp
  have hcs := cl (k := tkS b n p) (by omega)
  -- digits
  have t2 : ∀ (to : Nat) (w : Int64) (k : Int32), k = tkK b n p → (k = 2 → ∃ i, to = tkS b n p + i ∧ to ≤ n ∧ rnp b n 2 (n - to) to = tkA b n p ∧ w = nmW b (tkS b n p) i) → (¬ k = 2 → to = tkA b n p ∧ w = tkW b n p) → wp_X8_next_b243 (nI n) b Q (nI (tkS b n p)) (nI to) k w := by
    intro to w k hk h2 hno
    unfold wp_X8_next_b243
    refine ⟨fun f t s w => f = nI (tkS b n p) ∧ s = k ∧ ∃ to, t = nI to ∧ (k = 2 → ∃ i, to = tkS b n p + i ∧ to ≤ n ∧ rnp b n 2 (n - to) to = tkA b n p ∧ w = nmW b (tkS b n p) i) ∧ (¬ k = 2 → to = tkA b n p ∧ w = tkW b n p), fun _ t _ _ => n - t.toNatClampNeg, ⟨rfl, rfl, to, rfl, h2, hno⟩, ?_⟩
    rintro f t s w ⟨rfl, rfl, to, rfl, h2, hno⟩
    refine ⟨fun q => ?_, fun q => ?_⟩
    · obtain ⟨e1, e2⟩ := hno q
      subst e1 e2 hk; exact h
    · obtain ⟨i, e1, e2, e3, e4⟩ := h2 q
      have hc := cl (k := to) (by omega)
      simp only [hc, wp_X8_next_b319]
      have hfin : to = tkA b n p → Q (nI (tkS b n p)) (nI to) s w := by
        intro e
        have ew : w = tkW b n p := by
          unfold tkW
          have hk2 : tkK b n p = 2 := by rw [← hk]; exact q
          rw [if_neg (by rw [hk2]; decide), if_neg (by rw [hk2]; decide), if_pos hk2, e4]
          congr 1
          omega
        rw [ew, e, hk]; exact h
      refine ⟨fun c => ?_, fun c => ?_⟩
      · have : n ≤ to := (ile (by omega) (by omega)).mp c
        rw [show n - to = 0 by omega, rnp] at e3
        exact hfin e3
      · have hlt : to < n := Nat.not_le.mp fun z => c ((ile (by omega) (by omega)).mpr z)
        have hv : vp_in (nI to) 200 := vi (by omega)
        rw [show n - to = (n - (to + 1)) + 1 by omega, rnp] at e3
        refine ⟨hv, sp_isDigit (fun d => if1 ?_) (fun d => if0 ?_)⟩
        · rw [if_pos ⟨hlt, (kd_2i hlt).mpr d⟩] at e3
          have mu := mu1 hlt (by omega)
          refine ⟨fun c2 => ⟨hv, ⟨by trivial, by trivial, to + 1, nI_1 to, fun _ => ⟨i + 1, by omega, by omega, e3, ?_⟩, fun z => absurd q z⟩, mu⟩, fun c2 => ⟨⟨by trivial, by trivial, to + 1, nI_1 to, fun _ => ⟨i + 1, by omega, by omega, e3, ?_⟩, fun z => absurd q z⟩, mu⟩⟩
          · rw [nmW, ← e4, if_pos c2, ← e1]
          · rw [nmW, ← e4, if_neg c2]
        · rw [if_neg (fun z => (kd_2i hlt).mp z.2 d)] at e3
          exact hfin e3
  -- letters
  have t1 : ∀ (to : Nat) (w : Int64) (k : Int32), k = tkK b n p → (k = 1 → to = tkS b n p ∧ w = 0) → (k = 2 → to = tkS b n p ∧ w = 0) → (¬ k = 1 → ¬ k = 2 → to = tkA b n p ∧ w = tkW b n p) → wp_X8_next_b149 (nI n) b Q (nI (tkS b n p)) (nI to) k w := by
    intro to w k hk h1 h2 hno
    unfold wp_X8_next_b149
    refine ⟨fun f t s w => f = nI (tkS b n p) ∧ s = k ∧ ∃ to, t = nI to ∧ (k = 1 → ∃ i, to = tkS b n p + i ∧ to ≤ n ∧ rnp b n 1 (n - to) to = tkA b n p ∧ w = wdW b (tkS b n p) i) ∧ (k = 2 → to = tkS b n p ∧ w = 0) ∧ (¬ k = 1 → ¬ k = 2 → to = tkA b n p ∧ w = tkW b n p), fun _ t _ _ => n - t.toNatClampNeg, ⟨rfl, rfl, to, rfl, fun q => ?_, h2, hno⟩, ?_⟩
    · obtain ⟨e1, e2⟩ := h1 q
      refine ⟨0, by omega, by omega, ?_, e2⟩
      subst e1
      unfold tkA
      have hk1 : tkK b n p = 1 := by rw [← hk]; exact q
      rw [if_neg (by rw [hk1]; decide), if_neg (by rw [hk1]; decide), hk1]
    rintro f t s w ⟨rfl, rfl, to, rfl, h1, h2, hno⟩
    refine ⟨fun q => t2 to w s hk (fun z => ?_) (fun z => hno q z), fun q => ?_⟩
    · obtain ⟨e1, e2⟩ := h2 z
      refine ⟨0, by omega, by omega, ?_, e2⟩
      subst e1
      unfold tkA
      have hk2 : tkK b n p = 2 := by rw [← hk]; exact z
      rw [if_neg (by rw [hk2]; decide), if_neg (by rw [hk2]; decide), hk2]
    · obtain ⟨i, e1, e2, e3, e4⟩ := h1 q
      have hc := cl (k := to) (by omega)
      simp only [hc, wp_X8_next_b227]
      have hfin : to = tkA b n p → wp_X8_next_b243 (nI n) b Q (nI (tkS b n p)) (nI to) s w := by
        intro e
        refine t2 to w s hk (fun z => by rw [q] at z; exact absurd z (by decide)) (fun _ => ⟨e, ?_⟩)
        unfold tkW
        have hk1 : tkK b n p = 1 := by rw [← hk]; exact q
        rw [if_neg (by rw [hk1]; decide), if_pos hk1, e4]
        congr 1
        omega
      refine ⟨fun c => ?_, fun c => ?_⟩
      · have : n ≤ to := (ile (by omega) (by omega)).mp c
        rw [show n - to = 0 by omega, rnp] at e3
        exact hfin e3
      · have hlt : to < n := Nat.not_le.mp fun z => c ((ile (by omega) (by omega)).mpr z)
        have hv : vp_in (nI to) 200 := vi (by omega)
        rw [show n - to = (n - (to + 1)) + 1 by omega, rnp] at e3
        refine ⟨hv, sp_isSmall (fun d => if1 ?_) (fun d => if0 ?_)⟩
        · rw [if_pos ⟨hlt, (kd_1 hlt).mpr d⟩] at e3
          have mu := mu1 hlt (by omega)
          have hdf : nI to - nI (tkS b n p) = nI i := by rw [pk_sub (by omega)]; congr 1; omega
          rw [hdf]
          refine ⟨fun c2 => ⟨⟨by trivial, by trivial, to + 1, nI_1 to, fun _ => ⟨i + 1, by omega, by omega, e3, ?_⟩, fun z => ?_, fun z => absurd q z⟩, mu⟩, fun c2 => ⟨hv, ⟨by trivial, by trivial, to + 1, nI_1 to, fun _ => ⟨i + 1, by omega, by omega, e3, ?_⟩, fun z => ?_, fun z => absurd q z⟩, mu⟩⟩
          · have : 8 ≤ i := (ile (by decide) (by omega)).mp c2
            rw [wdW, if_neg (by omega)]
          · rw [q] at z; exact absurd z (by decide)
          · have : i < 8 := Nat.not_le.mp fun z => c2 ((ile (by decide) (by omega)).mpr z)
            rw [wdW, if_pos this, ← e4, ← e1]
          · rw [q] at z; exact absurd z (by decide)
        · rw [if_neg (fun z => (kd_1 hlt).mp z.2 d)] at e3
          exact hfin e3
  have main : ∀ (sr : Int32) (t : Int32) (w : Int64), wp_X8_next_b46 (nI n) b Q (nI (tkS b n p)) t sr w := by
    intro sr t w
    have k4 : ∀ k : Int32, k = tkK b n p → wp_X8_next_b114 (nI n) b Q (nI (tkS b n p)) (nI (tkS b n p)) sr 0 k := by
      intro k hk
      unfold wp_X8_next_b114
      rw [hcs]
      refine ⟨fun c => t1 _ _ _ hk (fun _ => ⟨rfl, rfl⟩) (fun _ => ⟨rfl, rfl⟩) (fun c1 c2 => ?_), fun c => ?_⟩
      · have hk0 : tkK b n p = 0 := by
          rcases kd_4 b n (tkS b n p) with z | z | z | z
          · exact z
          · exact absurd (hk.trans z) c1
          · exact absurd (hk.trans z) c2
          · exact absurd (hk.trans z) c
        refine ⟨?_, ?_⟩
        · unfold tkA; rw [if_neg (by rw [hk0]; decide), if_pos hk0]
        · unfold tkW; rw [if_neg (by rw [hk0]; decide), if_neg (by rw [hk0]; decide), if_neg (by rw [hk0]; decide)]
      · have hk3 : tkK b n p = 3 := by rw [← hk]; exact c
        have hlt : tkS b n p < n := kd_lt (b := b) (by rw [← tkK, hk3]; decide)
        rw [nI_1]
        refine ⟨vi (by omega), t1 _ _ _ hk (fun z => by rw [c] at z; exact absurd z (by decide)) (fun z => by rw [c] at z; exact absurd z (by decide)) (fun _ _ => ⟨?_, ?_⟩)⟩
        · unfold tkA; rw [if_pos hk3]
        · unfold tkW; rw [if_pos hk3]
    unfold wp_X8_next_b46
    rw [hcs]
    refine ⟨fun c => ?_, fun c => k4 0 ?_⟩
    · have hlt : tkS b n p < n := by
        rcases Nat.lt_or_ge (tkS b n p) n with z | z
        · exact z
        · exact absurd (by rw [show tkS b n p = n by omega]) c
      have hv : vp_in (nI (tkS b n p)) 200 := vi (by omega)
      refine ⟨hv, sp_isSmall (fun d => if1 (k4 1 ((kd_1 hlt).mpr d).symm)) (fun d => if0 ⟨hv, sp_isDigit (fun d2 => if1 (k4 2 ?_)) (fun d2 => if0 (k4 3 ?_))⟩)⟩
      · rw [tkK, kd_2 hlt d, if_neg d2]
      · rw [tkK, kd_2 hlt d, if_pos d2]
    · have := (nI_eq (a := tkS b n p) (b := n) (by omega) (by omega)).mp c
      exact (kd_0.mpr (by omega)).symm
  unfold wp_X8_next wp_X8_next_b8
  refine ⟨fun f t s w => ∃ j, p ≤ j ∧ j ≤ n ∧ f = nI j ∧ skp b n (n - j) j = tkS b n p, fun f _ _ _ => n - f.toNatClampNeg, ⟨p, Nat.le_refl _, hp, rfl, rfl⟩, ?_⟩
  rintro f t s w ⟨j, hj1, hj2, rfl, hr⟩
  have hc := cl (k := j) (by omega)
  simp only [hc]
  refine ⟨fun q => ?_, fun q => ?_⟩
  · have : n ≤ j := (ile (by omega) (by omega)).mp q
    rw [show n - j = 0 by omega, skp] at hr
    have := main s t w
    rwa [← hr] at this
  · have hlt : j < n := Nat.not_le.mp fun z => q ((ile (by omega) (by omega)).mpr z)
    rw [show n - j = (n - (j + 1)) + 1 by omega, skp] at hr
    refine ⟨vi (by omega), fun q2 => ?_, fun q2 => ?_⟩
    · rw [if_neg (fun z => q2 z.2)] at hr
      have := main s t w
      rwa [← hr] at this
    · rw [if_pos ⟨hlt, q2⟩] at hr
      exact ⟨⟨j + 1, by omega, by omega, nI_1 j, hr⟩, mu1 hlt (by omega)⟩
/-! words by their letters, and by their sum -/
def hN (d : Nat → Nat) : Nat → Nat
  | 0 => 0
  | i + 1 => hN d i * 32 + d i
theorem hN_inj (d c : Nat → Nat) : ∀ (i j : Nat), (∀ k, k < i → 1 ≤ d k ∧ d k ≤ 26) → (∀ k, k < j → 1 ≤ c k ∧ c k ≤ 26) → hN d i = hN c j → i = j ∧ ∀ k, k < i → d k = c k
  | 0, 0, _, _, _ => ⟨rfl, fun k hk => by omega⟩
  | 0, j + 1, _, h2, h => by
    have := h2 j (by omega)
    rw [hN, hN] at h; omega
  | i + 1, 0, h1, _, h => by
    have := h1 i (by omega)
    rw [hN, hN] at h; omega
  | i + 1, j + 1, h1, h2, h => by
    have a1 := h1 i (by omega)
    have a2 := h2 j (by omega)
    rw [hN, hN] at h
    have e1 : hN d i = hN c j := by omega
    have e2 : d i = c j := by omega
    have ih := hN_inj d c i j (fun k hk => h1 k (by omega)) (fun k hk => h2 k (by omega)) e1
    refine ⟨by omega, fun k hk => ?_⟩
    by_cases e : k = i
    · subst e; rw [e2, ih.1]
    · exact ih.2 k (by omega)
theorem hN_lt (d : Nat → Nat) : ∀ i, (∀ k, k < i → d k ≤ 26) → hN d i < 32 ^ i
  | 0, _ => Nat.one_pos
  | i + 1, h => by
    have ih := hN_lt d i (fun k hk => h k (by omega))
    have := h i (by omega)
    rw [hN, Nat.pow_succ]; omega
theorem let_nat {b : Nat → Int32} {n p : Nat} (h : p < n) (hk : kd b n p = 1) : ∃ v, 1 ≤ v ∧ v ≤ 26 ∧ b p = nI (v + 96) := by
  have c := (kd_1 h).mp hk
  have c1 : ¬ b p < 97 := fun z => c (Or.inl z)
  have c2 : ¬ 122 < b p := fun z => c (Or.inr z)
  have h0 : ok (b p) 122 := by
    refine ⟨?_, Int32.not_lt.mp c2⟩
    have := Int32.not_lt.mp c1
    rw [i_le] at this ⊢
    have e1 : (97 : Int32).toInt = 97 := by decide
    have e2 : (0 : Int32).toInt = 0 := by decide
    omega
  obtain ⟨j, hj, e⟩ := ok_nI (n := 122) h0
  rw [e] at c1
  have : 97 ≤ j := Nat.not_lt.mp fun z => c1 ((ilt (by omega) (by decide)).mpr z)
  exact ⟨j - 96, by omega, by omega, by rw [e]; congr 1; omega⟩
def s96 (x : Int32) : Nat := x.toNatClampNeg - 96
def ltN (b : Nat → Int32) (s : Nat) (i : Nat) : Nat := s96 (b (s + i))
theorem wdW_nat {b : Nat → Int32} {s : Nat} : ∀ i, i ≤ 8 → (∀ k, k < i → ∃ v, 1 ≤ v ∧ v ≤ 26 ∧ b (s + k) = nI (v + 96)) → wdW b s i = lN (hN (ltN b s) i)
  | 0, _, _ => rfl
  | i + 1, hi, h => by
    have ih := wdW_nat i (by omega) (fun k hk => h k (by omega))
    obtain ⟨v, h1, h2, e⟩ := h i (by omega)
    have e2 : ltN b s i = v := by unfold ltN s96; rw [e, cl (by omega)]; omega
    rw [wdW, if_pos (by omega), ih, hN, e2, e, nI_l (by omega)]
    have e3 : (32 : Int64) = lN 32 := rfl
    have e4 : (96 : Int64) = lN 96 := rfl
    rw [e3, e4, lN_mul, lN_add, lN_sub (by omega)]
    congr 1
theorem wdW_big {b : Nat → Int32} {s i : Nat} (h : 8 < i) : wdW b s i = -1 := by
  cases i with
  | zero => omega
  | succ i => rw [wdW, if_neg (by omega)]
abbrev isWd (b : Nat → Int32) (n p wi : Nat) : Prop := tkK b n p = 1 ∧ tkA b n p - tkS b n p = sLen.getD wi 0 ∧ ∀ i, i < sLen.getD wi 0 → b (tkS b n p + i) = (sByt.getD wi []).getD i 0
def cN (wi : Nat) (i : Nat) : Nat := s96 ((sByt.getD wi []).getD i 0)
theorem cN_ok : ∀ wi, wi < 7 → ∀ i, i < sLen.getD wi 0 → (1 ≤ cN wi i ∧ cN wi i ≤ 26) ∧ (sByt.getD wi []).getD i 0 = nI (cN wi i + 96) := by decide
theorem sLen_8 : ∀ wi, wi < 7 → sLen.getD wi 0 ≤ 8 := by decide
theorem hpw8 {i : Nat} (h : i ≤ 8) : 32 ^ i ≤ 2 ^ 63 := Nat.le_trans (Nat.pow_le_pow_right (by decide) h) (by decide)
theorem cN_lt {wi : Nat} (hw : wi < 7) : hN (cN wi) (sLen.getD wi 0) < 2 ^ 63 := Nat.lt_of_lt_of_le (hN_lt _ _ (fun k hk => (cN_ok wi hw k hk).1.2)) (hpw8 (sLen_8 wi hw))
theorem dg_lt {d : Nat → Nat} {i : Nat} (hi : i ≤ 8) (h : ∀ k, k < i → 1 ≤ d k ∧ d k ≤ 26) : hN d i < 2 ^ 63 := Nat.lt_of_lt_of_le (hN_lt _ _ (fun k hk => (h k hk).2)) (hpw8 hi)
theorem neg_lN {m : Nat} (h : m < 2 ^ 63) (e : (-1 : Int64) = lN m) : False := by
  have e2 := pk_lT h
  rw [← e] at e2
  have e1 : ((-1 : Int64)).toInt = -1 := by decide
  rw [e1] at e2
  cases e2
theorem wd_let {b : Nat → Int32} {n p : Nat} (hp : p ≤ n) (h1 : tkK b n p = 1) : ∀ k, k < tkA b n p - tkS b n p → ∃ v, 1 ≤ v ∧ v ≤ 26 ∧ b (tkS b n p + k) = nI (v + 96) := fun k hk => by
  obtain ⟨q1, q2⟩ := tk_run hp (by rw [h1]; decide) (by rw [h1]; decide) (tkS b n p + k) (by omega) (by omega)
  exact let_nat q1 (q2.trans h1)
theorem wd_dig {b : Nat → Int32} {s m : Nat} (h : ∀ k, k < m → ∃ v, 1 ≤ v ∧ v ≤ 26 ∧ b (s + k) = nI (v + 96)) : ∀ k, k < m → (1 ≤ ltN b s k ∧ ltN b s k ≤ 26) ∧ b (s + k) = nI (ltN b s k + 96) := fun k hk => by
  obtain ⟨v, z1, z2, z3⟩ := h k hk
  have e : ltN b s k = v := by unfold ltN s96; rw [z3, cl (by omega)]; omega
  rw [e]
  exact ⟨⟨z1, z2⟩, z3⟩
theorem tkW_1 {b : Nat → Int32} {n p : Nat} (h1 : tkK b n p = 1) : tkW b n p = wdW b (tkS b n p) (tkA b n p - tkS b n p) := by
  unfold tkW
  rw [if_neg (by rw [h1]; decide), if_pos h1]
theorem wd_fwd {b : Nat → Int32} {n p wi : Nat} (hp : p ≤ n) (hw : wi < 7) (h1 : tkK b n p = 1) (h2 : tkW b n p = lN (hN (cN wi) (sLen.getD wi 0))) : isWd b n p wi := by
  have hc := cN_ok wi hw
  have hd := wd_dig (wd_let hp h1)
  rw [tkW_1 h1] at h2
  rcases Nat.lt_or_ge 8 (tkA b n p - tkS b n p) with q | q
  · rw [wdW_big q] at h2
    exact (neg_lN (cN_lt hw) h2).elim
  · rw [wdW_nat _ q (wd_let hp h1)] at h2
    have he := (pk_lEQ (dg_lt q (fun k hk => (hd k hk).1)) (cN_lt hw)).mp h2
    obtain ⟨g1, g2⟩ := hN_inj _ _ _ _ (fun k hk => (hd k hk).1) (fun k hk => (hc k hk).1) he
    refine ⟨h1, g1, fun i hi => ?_⟩
    rw [(hd i (by omega)).2, (hc i hi).2, g2 i (by omega)]
theorem wd_same {b : Nat → Int32} {s wi : Nat} (h3 : ∀ i, i < sLen.getD wi 0 → b (s + i) = (sByt.getD wi []).getD i 0) : ∀ i, i ≤ sLen.getD wi 0 → hN (ltN b s) i = hN (cN wi) i := by
  intro i
  induction i with
  | zero => intro _; rw [hN, hN]
  | succ i ih =>
    intro hi
    have e : ltN b s i = cN wi i := congrArg s96 (h3 i (by omega))
    rw [hN, hN, ih (by omega), e]
theorem wd_bwd {b : Nat → Int32} {n p wi : Nat} (hw : wi < 7) (h : isWd b n p wi) : tkW b n p = lN (hN (cN wi) (sLen.getD wi 0)) := by
  obtain ⟨h1, h2, h3⟩ := h
  have hc := cN_ok wi hw
  rw [tkW_1 h1, h2, wdW_nat _ (sLen_8 wi hw) (fun k hk => ⟨cN wi k, (hc k hk).1.1, (hc k hk).1.2, (h3 k hk).trans (hc k hk).2⟩), wd_same h3 _ (Nat.le_refl _)]
theorem wd_iff {b : Nat → Int32} {n p wi : Nat} (hp : p ≤ n) (hw : wi < 7) : (tkK b n p = 1 ∧ tkW b n p = lN (hN (cN wi) (sLen.getD wi 0))) ↔ isWd b n p wi := ⟨fun h => wd_fwd hp hw h.1 h.2, fun h => ⟨h.1, wd_bwd hw h⟩⟩
