/-! tokens of a text: b its bytes, n its length -/
def kd (b : Nat → Int32) (n p : Nat) : Int32 := if p < n then (if b p < 97 ∨ 122 < b p then (if b p < 48 ∨ 57 < b p then 3 else 2) else 1) else 0
def skp (b : Nat → Int32) (n : Nat) : Nat → Nat → Nat
  | 0, p => p
  | f + 1, p => if p < n ∧ b p = 32 then skp b n f (p + 1) else p
def rnp (b : Nat → Int32) (n : Nat) (k : Int32) : Nat → Nat → Nat
  | 0, p => p
  | f + 1, p => if p < n ∧ kd b n p = k then rnp b n k f (p + 1) else p
def tkS (b : Nat → Int32) (n p : Nat) : Nat := skp b n (n - p) p
def tkK (b : Nat → Int32) (n p : Nat) : Int32 := kd b n (tkS b n p)
def tkA (b : Nat → Int32) (n p : Nat) : Nat := if tkK b n p = 3 then tkS b n p + 1 else if tkK b n p = 0 then tkS b n p else rnp b n (tkK b n p) (n - tkS b n p) (tkS b n p)
theorem skp_le (b : Nat → Int32) (n : Nat) : ∀ f p, p + f ≤ n → p ≤ skp b n f p ∧ skp b n f p ≤ n
  | 0, p, h => ⟨Nat.le_refl _, by rw [skp]; omega⟩
  | f + 1, p, h => by
    rw [skp]
    split
    · have := skp_le b n f (p + 1) (by omega)
      omega
    · omega
theorem rnp_le (b : Nat → Int32) (n : Nat) (k : Int32) : ∀ f p, p + f ≤ n → p ≤ rnp b n k f p ∧ rnp b n k f p ≤ n ∧ ∀ i, p ≤ i → i < rnp b n k f p → i < n ∧ kd b n i = k
  | 0, p, h => ⟨Nat.le_refl _, by rw [rnp]; omega, fun i h1 h2 => by rw [rnp] at h2; omega⟩
  | f + 1, p, h => by
    rw [rnp]
    split
    next q =>
      have := rnp_le b n k f (p + 1) (by omega)
      refine ⟨by omega, this.2.1, fun i h1 h2 => ?_⟩
      by_cases e : i = p
      · subst e; exact q
      · exact this.2.2 i (by omega) h2
    · exact ⟨by omega, by omega, fun i h1 h2 => by omega⟩
theorem kd_0 {b : Nat → Int32} {n p : Nat} : kd b n p = 0 ↔ n ≤ p := by
  unfold kd
  by_cases h : p < n
  · rw [if_pos h]
    constructor
    · intro q
      split at q
      · split at q
        · exact absurd q (by decide)
        · exact absurd q (by decide)
      · exact absurd q (by decide)
    · intro q; omega
  · rw [if_neg h]; exact ⟨fun _ => by omega, fun _ => rfl⟩
theorem tkS_le {b : Nat → Int32} {n p : Nat} (h : p ≤ n) : p ≤ tkS b n p ∧ tkS b n p ≤ n := skp_le b n (n - p) p (by omega)
theorem kd_lt {b : Nat → Int32} {n p : Nat} (h : ¬ kd b n p = 0) : p < n := Nat.not_le.mp fun q => h (kd_0.mpr q)
theorem tkA_le {b : Nat → Int32} {n p : Nat} (h : p ≤ n) : tkS b n p ≤ tkA b n p ∧ tkA b n p ≤ n := by
  have hs := tkS_le (b := b) h
  unfold tkA
  split
  next q =>
    have := kd_lt (b := b) (n := n) (p := tkS b n p) (by rw [← tkK, q]; decide)
    omega
  · split
    · omega
    · have := rnp_le b n (tkK b n p) (n - tkS b n p) (tkS b n p) (by omega)
      omega
theorem tk_run {b : Nat → Int32} {n p : Nat} (h : p ≤ n) (h3 : ¬ tkK b n p = 3) (h0 : ¬ tkK b n p = 0) : ∀ i, tkS b n p ≤ i → i < tkA b n p → i < n ∧ kd b n i = tkK b n p := by
  have hs := tkS_le (b := b) h
  unfold tkA
  rw [if_neg h3, if_neg h0]
  exact (rnp_le b n (tkK b n p) (n - tkS b n p) (tkS b n p) (by omega)).2.2
theorem kd_4 (b : Nat → Int32) (n p : Nat) : kd b n p = 0 ∨ kd b n p = 1 ∨ kd b n p = 2 ∨ kd b n p = 3 := by
  unfold kd
  split
  · split
    · split
      · exact Or.inr (Or.inr (Or.inr rfl))
      · exact Or.inr (Or.inr (Or.inl rfl))
    · exact Or.inr (Or.inl rfl)
  · exact Or.inl rfl
/-! the class's tape -/
theorem sp_kindAt {b : Nat → Int32} {n j : Nat} {Q : Int32 → Prop} (hn : n ≤ 200) (hj : j ≤ n) (h : Q (kd b n j)) : wp_X6_kindAt (nI n) b (nI j) Q := by
  unfold wp_X6_kindAt wp_X6_kindAt_b31 wp_X6_kindAt_b47
  rw [cl (k := j) (by omega)]
  unfold kd at h
  refine ⟨fun c => ?_, fun c => ?_⟩
  · have hlt : j < n := (ilt (by omega) (by omega)).mp c
    rw [if_pos hlt] at h
    refine ⟨vi (by omega), fun c1 => ?_, fun c1 => ⟨fun c2 => ?_, fun c2 => ?_⟩⟩
    · rw [if_pos (Or.inl c1)] at h
      refine ⟨fun d => ?_, fun d => ⟨fun d2 => ?_, fun d2 => ?_⟩⟩
      · rw [if_pos (Or.inl d)] at h; exact h
      · rw [if_pos (Or.inr d2)] at h; exact h
      · rw [if_neg (fun q => q.elim d d2)] at h; exact h
    · rw [if_pos (Or.inr c2)] at h
      refine ⟨fun d => ?_, fun d => ⟨fun d2 => ?_, fun d2 => ?_⟩⟩
      · rw [if_pos (Or.inl d)] at h; exact h
      · rw [if_pos (Or.inr d2)] at h; exact h
      · rw [if_neg (fun q => q.elim d d2)] at h; exact h
    · rw [if_neg (fun q => q.elim c1 c2)] at h; exact h
  · rw [if_neg (fun q => c ((ilt (by omega) (by omega)).mpr q))] at h; exact h
theorem sp_nextToken {b : Nat → Int32} {n p : Nat} {k0 s0 : Int32} {Q : Int32 → Int32 → Int32 → Prop} (hn : n ≤ 200) (hp : p ≤ n) (h : Q (tkK b n p) (nI (tkS b n p)) (nI (tkA b n p))) : wp_X6_nextToken (nI n) k0 s0 (nI p) b Q := by
  have hs := tkS_le (b := b) hp
  have ha := tkA_le (b := b) hp
  have main : ∀ a0 : Int32, wp_X6_nextToken_b46 (nI n) b Q k0 (nI (tkS b n p)) a0 := by
    intro a0
    unfold wp_X6_nextToken_b46
    refine sp_kindAt hn hs.2 ?_
    show (¬ tkK b n p = 3 → _) ∧ (tkK b n p = 3 → _)
    unfold wp_X6_nextToken_b79
    refine ⟨fun c => ?_, fun c => ?_⟩
    · unfold wp_X6_nextToken_b88
      by_cases c0 : tkK b n p = 0
      · have e : tkA b n p = tkS b n p := by unfold tkA; rw [if_neg c, if_pos c0]
        have en : n ≤ tkS b n p := kd_0.mp c0
        rw [e] at h
        refine ⟨fun k s a t => k = tkK b n p ∧ s = nI (tkS b n p) ∧ a = nI (tkS b n p) ∧ t = nI n, fun _ _ _ _ => 0, ⟨rfl, rfl, rfl, rfl⟩, ?_⟩
        rintro k s a t ⟨rfl, rfl, rfl, rfl⟩
        exact ⟨fun _ => h, fun q => absurd ((ile (by omega) (by omega)).mpr en) q⟩
      · have e : tkA b n p = rnp b n (tkK b n p) (n - tkS b n p) (tkS b n p) := by unfold tkA; rw [if_neg c, if_neg c0]
        refine ⟨fun k s a t => k = tkK b n p ∧ s = nI (tkS b n p) ∧ t = nI n ∧ ∃ j, tkS b n p ≤ j ∧ j ≤ n ∧ a = nI j ∧ rnp b n (tkK b n p) (n - j) j = tkA b n p, fun _ _ a _ => n - a.toNatClampNeg, ⟨rfl, rfl, rfl, tkS b n p, Nat.le_refl _, hs.2, rfl, e.symm⟩, ?_⟩
        rintro k s a t ⟨rfl, rfl, rfl, j, hj1, hj2, rfl, hr⟩
        have hc := cl (k := j) (by omega)
        simp only [hc]
        refine ⟨fun q => ?_, fun q => ?_⟩
        · have : n ≤ j := (ile (by omega) (by omega)).mp q
          rw [show n - j = 0 by omega, rnp] at hr
          rw [← hr] at h; exact h
        · have hlt : j < n := Nat.not_le.mp fun z => q ((ile (by omega) (by omega)).mpr z)
          rw [show n - j = (n - (j + 1)) + 1 by omega, rnp] at hr
          refine sp_kindAt hn hj2 ⟨fun q2 => ?_, fun q2 => ?_⟩
          · rw [if_neg (fun z => q2 z.2)] at hr
            rw [← hr] at h; exact h
          · rw [if_pos ⟨hlt, q2⟩] at hr
            exact ⟨⟨by trivial, by trivial, by trivial, j + 1, by omega, by omega, nI_1 j, hr⟩, mu1 hlt (by omega)⟩
    · have e : tkA b n p = tkS b n p + 1 := by unfold tkA; rw [if_pos c]
      have hlt : tkS b n p < n := by omega
      rw [e] at h
      unfold wp_X6_nextToken_b88
      refine ⟨fun k s a t => k = tkK b n p ∧ s = nI (tkS b n p) ∧ t = nI (tkS b n p + 1) ∧ (a = nI (tkS b n p) ∨ a = nI (tkS b n p + 1)), fun _ _ a _ => (tkS b n p + 1) - a.toNatClampNeg, ⟨rfl, rfl, nI_1 _, Or.inl rfl⟩, ?_⟩
      rintro k s a t ⟨rfl, rfl, rfl, hh | hh⟩
      · subst hh
        refine ⟨fun q => ?_, fun _ => sp_kindAt hn hs.2 ⟨fun q2 => absurd rfl q2, fun _ => ⟨⟨rfl, rfl, rfl, Or.inr (nI_1 _)⟩, ?_⟩⟩⟩
        · have := (ile (a := tkS b n p + 1) (b := tkS b n p) (by omega) (by omega)).mp q
          omega
        · show (tkS b n p + 1) - (nI (tkS b n p) + 1).toNatClampNeg < (tkS b n p + 1) - (nI (tkS b n p)).toNatClampNeg
          rw [nI_1, cl (by omega), cl (by omega)]; omega
      · subst hh
        exact ⟨fun _ => h, fun q => absurd (Int32.le_refl _) q⟩
  unfold wp_X6_nextToken wp_X6_nextToken_b8
  refine ⟨fun k s a => k = k0 ∧ ∃ j, p ≤ j ∧ j ≤ n ∧ s = nI j ∧ skp b n (n - j) j = tkS b n p, fun _ s _ => n - s.toNatClampNeg, ⟨rfl, p, Nat.le_refl _, hp, rfl, rfl⟩, ?_⟩
  rintro k s a ⟨rfl, j, hj1, hj2, rfl, hr⟩
  have hc := cl (k := j) (by omega)
  simp only [hc]
  refine ⟨fun q => ?_, fun q => ?_⟩
  · have : n ≤ j := (ile (by omega) (by omega)).mp q
    rw [show n - j = 0 by omega, skp] at hr
    have := main a
    rwa [← hr] at this
  · have hlt : j < n := Nat.not_le.mp fun z => q ((ile (by omega) (by omega)).mpr z)
    rw [show n - j = (n - (j + 1)) + 1 by omega, skp] at hr
    refine ⟨vi (by omega), fun q2 => ?_, fun q2 => ?_⟩
    · rw [if_neg (fun z => q2 z.2)] at hr
      have := main a
      rwa [← hr] at this
    · rw [if_pos ⟨hlt, q2⟩] at hr
      exact ⟨⟨by trivial, j + 1, by omega, by omega, nI_1 j, hr⟩, mu1 hlt (by omega)⟩
/-! the model's tokens, with what they are worth -/
def wdW (b : Nat → Int32) (s : Nat) : Nat → Int64
  | 0 => 0
  | i + 1 => if i < 8 then (wdW b s i * 32 + (b (s + i)).toInt64) - 96 else -1
def nmW (b : Nat → Int32) (s : Nat) : Nat → Int64
  | 0 => 0
  | i + 1 => if nmW b s i ≤ 10000 then (nmW b s i * 10 + (b (s + i)).toInt64) - 48 else nmW b s i
def tkW (b : Nat → Int32) (n p : Nat) : Int64 := if tkK b n p = 3 then (b (tkS b n p)).toInt64 else if tkK b n p = 1 then wdW b (tkS b n p) (tkA b n p - tkS b n p) else if tkK b n p = 2 then nmW b (tkS b n p) (tkA b n p - tkS b n p) else 0
theorem sp_isSmall {x : Int32} {Q : Int32 → Prop} (h1 : ¬ (x < 97 ∨ 122 < x) → Q 1) (h0 : x < 97 ∨ 122 < x → Q 0) : wp_X8_isSmall x Q := by
  unfold wp_X8_isSmall wp_X8_isSmall_b16
  exact ⟨fun c => h0 (Or.inl c), fun c => ⟨fun d => h0 (Or.inr d), fun d => h1 fun q => q.elim c d⟩⟩
theorem sp_isDigit {x : Int32} {Q : Int32 → Prop} (h1 : ¬ (x < 48 ∨ 57 < x) → Q 1) (h0 : x < 48 ∨ 57 < x → Q 0) : wp_X8_isDigit x Q := by
  unfold wp_X8_isDigit wp_X8_isDigit_b16
  exact ⟨fun c => h0 (Or.inl c), fun c => ⟨fun d => h0 (Or.inr d), fun d => h1 fun q => q.elim c d⟩⟩
theorem kd_1 {b : Nat → Int32} {n p : Nat} (h : p < n) : kd b n p = 1 ↔ ¬ (b p < 97 ∨ 122 < b p) := by
  unfold kd
  rw [if_pos h]
  by_cases c : b p < 97 ∨ 122 < b p
  · rw [if_pos c]
    refine ⟨fun q => ?_, fun q => absurd c q⟩
    split at q
    · exact absurd q (by decide)
    · exact absurd q (by decide)
  · rw [if_neg c]; exact ⟨fun _ => c, fun _ => rfl⟩
theorem kd_2 {b : Nat → Int32} {n p : Nat} (h : p < n) (h1 : b p < 97 ∨ 122 < b p) : kd b n p = if b p < 48 ∨ 57 < b p then 3 else 2 := by
  unfold kd
  rw [if_pos h, if_pos h1]
theorem kd_2i {b : Nat → Int32} {n p : Nat} (h : p < n) : kd b n p = 2 ↔ ¬ (b p < 48 ∨ 57 < b p) := by
  by_cases c : b p < 97 ∨ 122 < b p
  · rw [kd_2 h c]
    by_cases d : b p < 48 ∨ 57 < b p
    · rw [if_pos d]; exact ⟨fun q => absurd q (by decide), fun q => absurd d q⟩
    · rw [if_neg d]; exact ⟨fun _ => d, fun _ => rfl⟩
  · have e := (kd_1 h).mpr c
    rw [e]
    refine ⟨fun q => absurd q (by decide), fun q => ?_⟩
    exfalso
    apply q
    right
    have c1 : ¬ b p < 97 := fun z => c (Or.inl z)
    rw [i_lt] at c1 ⊢
    have e1 : (97 : Int32).toInt = 97 := by decide
    have e2 : (57 : Int32).toInt = 57 := by decide
    omega
