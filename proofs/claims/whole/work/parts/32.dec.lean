/-! numbers of a text -/
def s48 (x : Int32) : Nat := x.toNatClampNeg - 48
def dgN (b : Nat → Int32) (s : Nat) (i : Nat) : Nat := s48 (b (s + i))
def mN (d : Nat → Nat) : Nat → Nat
  | 0 => 0
  | i + 1 => if mN d i ≤ 10000 then mN d i * 10 + d i else mN d i
theorem mN_le (d : Nat → Nat) : ∀ i, (∀ k, k < i → d k ≤ 9) → mN d i ≤ 100009
  | 0, _ => by rw [mN]; omega
  | i + 1, h => by
    have ih := mN_le d i (fun k hk => h k (by omega))
    have := h i (by omega)
    rw [mN]; split <;> omega
def nV (b : Nat → Int32) (n p : Nat) : Nat := mN (dgN b (tkS b n p)) (tkA b n p - tkS b n p)
abbrev isNu (b : Nat → Int32) (n p lo : Nat) : Prop := tkK b n p = 2 ∧ lo ≤ nV b n p ∧ nV b n p ≤ 10000
theorem dig_nat {b : Nat → Int32} {n p : Nat} (h : p < n) (hk : kd b n p = 2) : s48 (b p) ≤ 9 ∧ b p = nI (s48 (b p) + 48) := by
  have c := (kd_2i h).mp hk
  have c1 : ¬ b p < 48 := fun z => c (Or.inl z)
  have c2 : ¬ 57 < b p := fun z => c (Or.inr z)
  have h0 : ok (b p) 57 := by
    refine ⟨?_, Int32.not_lt.mp c2⟩
    have := Int32.not_lt.mp c1
    rw [i_le] at this ⊢
    have e1 : (48 : Int32).toInt = 48 := by decide
    have e2 : (0 : Int32).toInt = 0 := by decide
    omega
  obtain ⟨j, hj, e⟩ := ok_nI (n := 57) h0
  rw [e] at c1 ⊢
  have : 48 ≤ j := Nat.not_lt.mp fun z => c1 ((ilt (by omega) (by decide)).mpr z)
  unfold s48
  rw [cl (by omega)]
  exact ⟨by omega, by congr 1; omega⟩
theorem tk_dig {b : Nat → Int32} {n p : Nat} (hp : p ≤ n) (h1 : tkK b n p = 2) : ∀ k, k < tkA b n p - tkS b n p → dgN b (tkS b n p) k ≤ 9 ∧ b (tkS b n p + k) = nI (dgN b (tkS b n p) k + 48) := fun k hk => by
  obtain ⟨q1, q2⟩ := tk_run hp (by rw [h1]; decide) (by rw [h1]; decide) (tkS b n p + k) (by omega) (by omega)
  exact dig_nat q1 (q2.trans h1)
theorem nV_le {b : Nat → Int32} {n p : Nat} (hp : p ≤ n) (h1 : tkK b n p = 2) : nV b n p ≤ 100009 := mN_le _ _ fun k hk => (tk_dig hp h1 k hk).1
theorem nmW_nat {b : Nat → Int32} {s : Nat} : ∀ i, (∀ k, k < i → dgN b s k ≤ 9 ∧ b (s + k) = nI (dgN b s k + 48)) → nmW b s i = lN (mN (dgN b s) i)
  | 0, _ => rfl
  | i + 1, h => by
    have ih := nmW_nat i (fun k hk => h k (by omega))
    obtain ⟨h1, e⟩ := h i (by omega)
    have hb := mN_le (dgN b s) i (fun k hk => (h k (by omega)).1)
    have e1 : (10000 : Int64) = lN 10000 := rfl
    have e2 : (10 : Int64) = lN 10 := rfl
    have e3 : (48 : Int64) = lN 48 := rfl
    have hq : lN (mN (dgN b s) i) ≤ 10000 ↔ mN (dgN b s) i ≤ 10000 := by rw [e1]; exact lN_le (by omega) (by decide)
    rw [nmW, ih, mN, e]
    by_cases c : mN (dgN b s) i ≤ 10000
    · rw [if_pos c, if_pos (hq.mpr c), nI_l (by omega), e2, e3, lN_mul, lN_add, lN_sub (by omega)]
      congr 1
    · rw [if_neg c, if_neg (fun z => c (hq.mp z))]
theorem tkW_2 {b : Nat → Int32} {n p : Nat} (hp : p ≤ n) (h1 : tkK b n p = 2) : tkW b n p = lN (nV b n p) := by
  unfold tkW
  rw [if_neg (by rw [h1]; decide), if_neg (by rw [h1]; decide), if_pos h1]
  exact nmW_nat _ (tk_dig hp h1)
/-! the class's steps over tokens -/
theorem sp_takeWord {b : Nat → Int32} {n p wi : Nat} {Q : Int32 → Int32 → Int32 → Int32 → Prop} (hn : n ≤ 200) (hp : p ≤ n) (hw : wi < 7)
  (h1 : isWd b n p wi → Q 1 (tkK b n (tkA b n p)) (nI (tkS b n (tkA b n p))) (nI (tkA b n (tkA b n p))))
  (h0 : ¬ isWd b n p wi → Q 0 (tkK b n p) (nI (tkS b n p)) (nI (tkA b n p))) :
  wp_X6_takeWord (nI n) (tkK b n p) (nI (tkS b n p)) (nI (tkA b n p)) b wi Q := by
  have hs := tkS_le (b := b) hp
  have ha := tkA_le (b := b) hp
  have hl := sLen_8 wi hw
  unfold wp_X6_takeWord wp_X6_takeWord_b24
  rw [pk_sub (by omega)]
  show _ ∧ (_ → (nI _ = nI (sLen.getD wi 0) → _) ∧ (¬ nI _ = nI (sLen.getD wi 0) → _))
  refine ⟨fun c => h0 fun q => c q.1, fun c => ⟨fun d => ?_, fun d => h0 fun q => d (by rw [q.2.1])⟩⟩
  have hd : tkA b n p - tkS b n p = sLen.getD wi 0 := (nI_eq (by omega) (by omega)).mp d
  unfold wp_X6_takeWord_b28
  refine ⟨fun k s a t => k = tkK b n p ∧ s = nI (tkS b n p) ∧ a = nI (tkA b n p) ∧ ∃ j, j ≤ sLen.getD wi 0 ∧ t = nI j ∧ ∀ i, i < j → b (tkS b n p + i) = (sByt.getD wi []).getD i 0, fun _ _ _ t => sLen.getD wi 0 - t.toNatClampNeg, ⟨rfl, rfl, rfl, 0, Nat.zero_le _, rfl, fun i hi => absurd hi (Nat.not_lt_zero _)⟩, ?_⟩
  rintro k s a t ⟨rfl, rfl, rfl, j, hj, rfl, hall⟩
  refine ⟨fun q => ?_, fun q => ?_⟩
  · have hle : sLen.getD wi 0 ≤ j := (ile (by omega) (by omega)).mp q
    refine sp_nextToken hn ha.2 (h1 ⟨c, hd, fun i hi => hall i (by omega)⟩)
  · have hlt : j < sLen.getD wi 0 := Nat.not_le.mp fun z => q ((ile (by omega) (by omega)).mpr z)
    have hc := cl (k := j) (by omega)
    have hc2 : (nI (tkS b n p) + nI j).toNatClampNeg = tkS b n p + j := by rw [nI_add, cl (by omega)]
    simp only [hc2, hc]
    refine ⟨?_, vi hlt (by omega), fun e => ?_, fun e => h0 fun q => e (q.2.2 j hlt)⟩
    · rw [nI_add]; exact vi (by omega)
    · refine ⟨⟨by trivial, by trivial, by trivial, j + 1, by omega, nI_1 j, fun i hi => ?_⟩, mu1 hlt (by omega)⟩
      by_cases ei : i = j
      · subst ei; exact e
      · exact hall i (by omega)
theorem sp_numberAhead {b : Nat → Int32} {n p : Nat} {Q : Int32 → Prop} (hn : n ≤ 200) (hp : p ≤ n) (hk : tkK b n p = 2) (h : Q (nI (min (nV b n p) 10001))) : wp_X6_numberAhead (nI (tkS b n p)) (nI (tkA b n p)) b Q := by
  have hs := tkS_le (b := b) hp
  have ha := tkA_le (b := b) hp
  have hd := tk_dig hp hk
  unfold wp_X6_numberAhead wp_X6_numberAhead_b7
  refine ⟨fun x t => ∃ i, tkS b n p + i ≤ tkA b n p ∧ t = nI (tkS b n p + i) ∧ x = nI (min (mN (dgN b (tkS b n p)) i) 10001), fun _ t => tkA b n p - t.toNatClampNeg, ⟨0, by omega, rfl, by rw [mN]; rfl⟩, ?_⟩
  rintro x t ⟨i, hi, rfl, rfl⟩
  have hc := cl (k := tkS b n p + i) (by omega)
  simp only [hc]
  refine ⟨fun q => ?_, fun q => ?_⟩
  · have : tkA b n p ≤ tkS b n p + i := (ile (by omega) (by omega)).mp q
    have e : i = tkA b n p - tkS b n p := by omega
    rw [e]; exact h
  · have hlt : tkS b n p + i < tkA b n p := Nat.not_le.mp fun z => q ((ile (by omega) (by omega)).mpr z)
    obtain ⟨g1, g2⟩ := hd i (by omega)
    refine ⟨vi (by omega), ⟨i + 1, by omega, nI_1 _, ?_⟩, mu1 hlt (by omega)⟩
    have e1 : (10 : Int32) = nI 10 := rfl
    have e2 : (48 : Int32) = nI 48 := rfl
    have e3 : (10001 : Int32) = nI 10001 := rfl
    have key : (nI (min (mN (dgN b (tkS b n p)) i) 10001) * (10 : Int32) + b (tkS b n p + i)) - (48 : Int32) = nI (min (mN (dgN b (tkS b n p)) i) 10001 * 10 + dgN b (tkS b n p) i) := by
      rw [g2, e1, e2, pk_mul, nI_add, pk_sub (by omega)]
      congr 1
    rw [key, e3]
    rw [mN]
    generalize mN (dgN b (tkS b n p)) i = m
    generalize hdd : dgN b (tkS b n p) i = d
    rw [hdd] at g1
    by_cases c : nI 10001 < nI (min m 10001 * 10 + d)
    · rw [if_pos c]
      have := (ilt (by decide) (by omega)).mp c
      congr 1
      split <;> omega
    · rw [if_neg c]
      have : ¬ 10001 < min m 10001 * 10 + d := fun z => c ((ilt (by decide) (by omega)).mpr z)
      congr 1
      split <;> omega
theorem sp_takeNumber {b : Nat → Int32} {n p lo : Nat} {Q : Int32 → Int32 → Int32 → Int32 → Prop} (hn : n ≤ 200) (hp : p ≤ n) (hlo : lo ≤ 10000)
  (h1 : isNu b n p lo → Q (nI (nV b n p)) (tkK b n (tkA b n p)) (nI (tkS b n (tkA b n p))) (nI (tkA b n (tkA b n p))))
  (h0 : ¬ isNu b n p lo → Q (-1) (tkK b n p) (nI (tkS b n p)) (nI (tkA b n p))) :
  wp_X6_takeNumber (nI n) (tkK b n p) (nI (tkS b n p)) (nI (tkA b n p)) b (nI lo) Q := by
  have ha := tkA_le (b := b) hp
  unfold wp_X6_takeNumber wp_X6_takeNumber_b27
  refine ⟨fun c => sp_numberAhead hn hp c ?_, fun c => h0 fun q => c q.1⟩
  have e3 : (10000 : Int32) = nI 10000 := rfl
  refine ⟨fun d => h0 fun q => ?_, fun d => ⟨fun e => ?_, fun e => h0 fun q => ?_⟩⟩
  · have := (ilt (by omega) (by omega)).mp d
    have := q.2.1
    have := q.2.2
    omega
  · rw [e3] at e
    have e' := (ile (by omega) (by omega)).mp e
    have d' : ¬ min (nV b n p) 10001 < lo := fun z => d ((ilt (by omega) (by omega)).mpr z)
    have em : min (nV b n p) 10001 = nV b n p := by omega
    rw [em]
    exact sp_nextToken hn ha.2 (h1 ⟨c, by omega, by omega⟩)
  · have := q.2.2
    exact e (by rw [e3, ile (by omega) (by omega)]; omega)
/-! the model's steps over tokens -/
theorem sp_must {b : Nat → Int32} {n p : Nat} {x f : Int32} {Q : Int32 → Int32 → Int32 → Int64 → Int32 → Int32 → Prop} (hn : n ≤ 200) (hp : p ≤ n)
  (h1 : ¬ x = 0 → Q (nI (tkS b n (tkA b n p))) (nI (tkA b n (tkA b n p))) (tkK b n (tkA b n p)) (tkW b n (tkA b n p)) f 0)
  (h0 : x = 0 → Q (nI (tkS b n p)) (nI (tkA b n p)) (tkK b n p) (tkW b n p) (nI (tkS b n p)) 1) :
  wp_X8_must (nI n) (nI (tkS b n p)) (nI (tkA b n p)) (tkK b n p) (tkW b n p) f 0 b x Q := by
  have ha := tkA_le (b := b) hp
  unfold wp_X8_must wp_X8_must_b24
  refine ⟨fun q => absurd rfl q, fun _ => ⟨fun c => ⟨fun q => absurd rfl q, fun _ => sp_next hn ha.2 (h1 c)⟩, fun c => ⟨fun _ => h0 c, fun q => absurd q (by decide)⟩⟩⟩
theorem sp_mustB {t x1 x2 x3 x5 y : Int32} {x4 : Int64} {b : Nat → Int32} {Q : Int32 → Int32 → Int32 → Int64 → Int32 → Int32 → Prop} (h : Q x1 x2 x3 x4 x5 1) : wp_X8_must t x1 x2 x3 x4 x5 1 b y Q := by
  unfold wp_X8_must wp_X8_must_b24
  exact ⟨fun _ => ⟨fun _ => h, fun q => absurd q (by decide)⟩, fun q => absurd q (by decide)⟩
theorem sp_numberB {t x1 x2 x3 x5 : Int32} {x4 y : Int64} {b : Nat → Int32} {Q : Int32 → Int32 → Int32 → Int32 → Int64 → Int32 → Int32 → Prop} (h : ∀ r, Q r x1 x2 x3 x4 x5 1) : wp_X8_number t x1 x2 x3 x4 x5 1 b y Q := by
  unfold wp_X8_number wp_X8_number_b33 wp_X8_number_b34
  exact ⟨fun _ => sp_mustB (h _), fun _ => sp_in (fun _ => if1 (sp_mustB (h _))) (fun _ => if0 (sp_mustB (h _)))⟩
theorem sp_number {b : Nat → Int32} {n p lo : Nat} {f : Int32} {x : Int64} {Q : Int32 → Int32 → Int32 → Int32 → Int64 → Int32 → Int32 → Prop} (hn : n ≤ 200) (hp : p ≤ n) (hlo : lo ≤ 10000) (hx : x = lN lo)
  (h1 : isNu b n p lo → Q (nI (nV b n p)) (nI (tkS b n (tkA b n p))) (nI (tkA b n (tkA b n p))) (tkK b n (tkA b n p)) (tkW b n (tkA b n p)) f 0)
  (h0 : ¬ isNu b n p lo → ∀ r, Q r (nI (tkS b n p)) (nI (tkA b n p)) (tkK b n p) (tkW b n p) (nI (tkS b n p)) 1) :
  wp_X8_number (nI n) (nI (tkS b n p)) (nI (tkA b n p)) (tkK b n p) (tkW b n p) f 0 b x Q := by
  unfold wp_X8_number wp_X8_number_b33 wp_X8_number_b34
  refine ⟨fun c => sp_must hn hp (fun q => absurd rfl q) (fun _ => h0 (fun q => c q.1) _), fun c => ?_⟩
  have hv := nV_le hp c
  have e3 : (10000 : Int64) = lN 10000 := rfl
  refine sp_in (fun d => if1 (sp_must hn hp (fun _ => ?_) (fun q => absurd q (by decide)))) (fun d => if0 (sp_must hn hp (fun q => absurd rfl q) (fun _ => h0 (fun q => d ?_) _)))
  · rw [tkW_2 hp c, hx, e3, lN_le (by omega) (by omega), lN_le (by omega) (by omega)] at d
    rw [tkW_2 hp c, lN_i]
    exact h1 ⟨c, d.1, d.2⟩
  · rw [tkW_2 hp c, hx, e3, lN_le (by omega) (by omega), lN_le (by omega) (by omega)]
    exact ⟨q.2.1, q.2.2⟩
def wvI (w x : Int64) (c : Int32) : Int64 := if c = 0 then w else (w * 32 + c.toInt64) - x
def wV (x1 x2 x3 x4 x5 x6 x7 : Int32) : Int64 := wvI (wvI (wvI (wvI (wvI ((((x1.toInt64 - 96) * 32) + x2.toInt64) - 96) 96 x3) 96 x4) 96 x5) 96 x6) 96 x7
theorem sp_isWordG {so x1 x2 x3 x4 x5 x6 x7 : Int32} {w : Int64} {Q : Int32 → Prop} (h1 : so = 1 ∧ w = wV x1 x2 x3 x4 x5 x6 x7 → Q 1) (h0 : ¬ (so = 1 ∧ w = wV x1 x2 x3 x4 x5 x6 x7) → Q 0) : wp_X8_isWord so w x1 x2 x3 x4 x5 x6 x7 Q := by
  have g7 : ∀ y, y = wV x1 x2 x3 x4 x5 x6 x7 → wp_X8_isWord_b145 so w x1 x2 x3 x4 x5 x6 x7 Q y := by
    intro y hy
    subst hy
    unfold wp_X8_isWord_b145 wp_X8_isWord_b169
    exact ⟨fun c => h0 fun q => c q.1, fun c => ⟨fun d => h0 fun q => d q.2, fun d => h1 ⟨c, d⟩⟩⟩
  have g6 : ∀ y, wvI y 96 x7 = wV x1 x2 x3 x4 x5 x6 x7 → wp_X8_isWord_b119 so w x1 x2 x3 x4 x5 x6 x7 Q y := by
    intro y hy
    unfold wp_X8_isWord_b119
    exact ⟨fun c => g7 _ (by rw [← hy, wvI, if_neg c]), fun c => g7 _ (by rw [← hy, wvI, if_pos c])⟩
  have g5 : ∀ y, wvI (wvI y 96 x6) 96 x7 = wV x1 x2 x3 x4 x5 x6 x7 → wp_X8_isWord_b93 so w x1 x2 x3 x4 x5 x6 x7 Q y := by
    intro y hy
    unfold wp_X8_isWord_b93
    exact ⟨fun c => g6 _ (by rw [← hy, wvI, wvI, wvI, if_neg c]), fun c => g6 _ (by rw [← hy, wvI, wvI, wvI, if_pos c])⟩
  have g4 : ∀ y, wvI (wvI (wvI y 96 x5) 96 x6) 96 x7 = wV x1 x2 x3 x4 x5 x6 x7 → wp_X8_isWord_b67 so w x1 x2 x3 x4 x5 x6 x7 Q y := by
    intro y hy
    unfold wp_X8_isWord_b67
    exact ⟨fun c => g5 _ (by rw [← hy]; congr 2; rw [wvI, if_neg c]), fun c => g5 _ (by rw [← hy]; congr 2; rw [wvI, if_pos c])⟩
  have g3 : ∀ y, wvI (wvI (wvI (wvI y 96 x4) 96 x5) 96 x6) 96 x7 = wV x1 x2 x3 x4 x5 x6 x7 → wp_X8_isWord_b41 so w x1 x2 x3 x4 x5 x6 x7 Q y := by
    intro y hy
    unfold wp_X8_isWord_b41
    exact ⟨fun c => g4 _ (by rw [← hy]; congr 3; rw [wvI, if_neg c]), fun c => g4 _ (by rw [← hy]; congr 3; rw [wvI, if_pos c])⟩
  unfold wp_X8_isWord
  exact ⟨fun c => g3 _ (by rw [wV]; congr 4; rw [wvI, if_neg c]), fun c => g3 _ (by rw [wV]; congr 4; rw [wvI, if_pos c])⟩
theorem sp_isWord {b : Nat → Int32} {n p wi : Nat} {x1 x2 x3 x4 x5 x6 x7 : Int32} {Q : Int32 → Prop} (hp : p ≤ n) (hw : wi < 7) (he : wV x1 x2 x3 x4 x5 x6 x7 = lN (hN (cN wi) (sLen.getD wi 0))) (h1 : isWd b n p wi → Q 1) (h0 : ¬ isWd b n p wi → Q 0) : wp_X8_isWord (tkK b n p) (tkW b n p) x1 x2 x3 x4 x5 x6 x7 Q :=
  sp_isWordG (fun c => h1 ((wd_iff hp hw).mp (by rw [← he]; exact c))) (fun c => h0 fun q => c (by rw [he]; exact (wd_iff hp hw).mpr q))
theorem wv_of : wV 111 102 0 0 0 0 0 = lN (hN (cN 0) (sLen.getD 0 0)) := by decide
theorem wv_tax : wV 116 97 120 0 0 0 0 = lN (hN (cN 1) (sLen.getD 1 0)) := by decide
theorem wv_relief : wV 114 101 108 105 101 102 0 = lN (hN (cN 2) (sLen.getD 2 0)) := by decide
theorem wv_free : wV 102 114 101 101 0 0 0 = lN (hN (cN 3) (sLen.getD 3 0)) := by decide
theorem wv_officer : wV 111 102 102 105 99 101 114 = lN (hN (cN 4) (sLen.getD 4 0)) := by decide
theorem wv_from : wV 102 114 111 109 0 0 0 = lN (hN (cN 5) (sLen.getD 5 0)) := by decide
theorem wv_below : wV 98 101 108 111 119 0 0 = lN (hN (cN 6) (sLen.getD 6 0)) := by decide
