/-! counting: pasted from the given laws (COUNTS) -/
def fb_ct (p : Nat → Bool) : Nat → Nat
  | 0 => 0
  | n + 1 => fb_ct p n + (if p n then 1 else 0)
theorem fb_ct_succ (p : Nat → Bool) (n : Nat) : fb_ct p (n + 1) = fb_ct p n + (if p n then 1 else 0) := rfl
theorem fb_ct_le (p : Nat → Bool) : ∀ n, fb_ct p n ≤ n
  | 0 => Nat.le_refl _
  | n + 1 => by
    have h := fb_ct_le p n
    rw [fb_ct_succ]
    split <;> omega
theorem fb_ct_step (p : Nat → Bool) (m : Nat) : ∀ n, fb_ct p m ≤ fb_ct p (m + n)
  | 0 => Nat.le_refl _
  | n + 1 => by
    have h := fb_ct_step p m n
    show fb_ct p m ≤ fb_ct p (m + n + 1)
    rw [fb_ct_succ]
    omega
theorem fb_ct_mono (p : Nat → Bool) {m n : Nat} (h : m ≤ n) : fb_ct p m ≤ fb_ct p n := by
  have := fb_ct_step p m (n - m)
  rwa [Nat.add_sub_cancel' h] at this
theorem fb_ct_cong {p q : Nat → Bool} : ∀ {n : Nat}, (∀ k, k < n → p k = q k) → fb_ct p n = fb_ct q n
  | 0, _ => rfl
  | n + 1, h => by
    rw [fb_ct_succ, fb_ct_succ, fb_ct_cong (fun k hk => h k (by omega)), h n (by omega)]
/-- one place changed -/
theorem fb_ct_out (p : Nat → Bool) (b : Bool) {i n : Nat} (h : n ≤ i) : fb_ct (fun k => if k = i then b else p k) n = fb_ct p n :=
  fb_ct_cong fun k hk => if_neg (by omega)
theorem fb_ct_upd (p : Nat → Bool) (b : Bool) {i : Nat} : ∀ {n : Nat}, i < n → fb_ct (fun k => if k = i then b else p k) n + (if p i then 1 else 0) = fb_ct p n + (if b then 1 else 0)
  | 0, h => absurd h (Nat.not_lt_zero i)
  | n + 1, h => by
    rw [fb_ct_succ, fb_ct_succ]
    rcases Nat.lt_or_ge i n with q | q
    · have := fb_ct_upd p b q
      have e : (if n = i then b else p n) = p n := if_neg (by omega)
      rw [e]
      omega
    · have e : i = n := by omega
      subst e
      rw [fb_ct_out p b (Nat.le_refl _)]
      simp only [if_true]
      omega
theorem fb_ct_sub {p q : Nat → Bool} : ∀ {n : Nat}, (∀ k, k < n → p k = true → q k = true) → fb_ct p n ≤ fb_ct q n
  | 0, _ => Nat.le_refl _
  | n + 1, h => by
    have h1 := fb_ct_sub (n := n) (p := p) (q := q) (fun k hk => h k (by omega))
    have h2 := h n (by omega)
    rw [fb_ct_succ, fb_ct_succ]
    cases hp : p n <;> cases hq : q n <;> simp_all <;> omega
theorem ct_from (a : Nat) : ∀ b, fb_ct (fun o => decide (a ≤ o)) b = b - a
  | 0 => by rw [fb_ct]; omega
  | b + 1 => by
    rw [fb_ct_succ, ct_from a b]
    by_cases h : a ≤ b
    · rw [if_pos (decide_eq_true h)]; omega
    · rw [if_neg (by simp [h])]; omega
/-! parting ropes by the register -/
def sg (g : Nat → Nat) (a : Nat) : Nat → Nat
  | 0 => 0
  | j + 1 => sg g a j + g (a + j)
theorem sg_mono (g : Nat → Nat) (a : Nat) {i j : Nat} (h : i ≤ j) : sg g a i ≤ sg g a j := by
  induction j with
  | zero => have : i = 0 := by omega
            subst this; exact Nat.le_refl _
  | succ j ih =>
    rcases Nat.lt_or_ge j i with q | q
    · have : i = j + 1 := by omega
      subst this; exact Nat.le_refl _
    · have := ih q
      rw [sg]; omega
theorem sg_at (g : Nat → Nat) (a : Nat) {i j : Nat} (h : i < j) : g (a + i) ≤ sg g a j := by
  have := sg_mono g a (i := i + 1) (j := j) h
  rw [sg] at this; omega
theorem sg_part (g : Nat → Nat) (R T a : Nat) : ∀ j, T * sg (fun s => R * g s / T) a j + sg (fun s => R * g s % T) a j = R * sg g a j
  | 0 => by simp [sg]
  | j + 1 => by
    have ih := sg_part g R T a j
    have h := Nat.div_add_mod (R * g (a + j)) T
    simp only [sg, Nat.mul_add]
    omega
theorem sg_rest (e : Nat → Nat) (T a : Nat) (h : ∀ s, e s < T) : ∀ j, sg e a j + j ≤ j * T
  | 0 => by simp [sg]
  | j + 1 => by
    have ih := sg_rest e T a h j
    have := h (a + j)
    have e2 : (j + 1) * T = j * T + T := Nat.succ_mul j T
    rw [sg, e2]; omega
theorem sg_le (g : Nat → Nat) (a c : Nat) : ∀ j, (∀ i, i < j → g (a + i) ≤ c) → sg g a j ≤ j * c
  | 0, _ => by simp [sg]
  | j + 1, h => by
    have ih := sg_le g a c j (fun i hi => h i (by omega))
    have := h j (by omega)
    have e2 : (j + 1) * c = j * c + c := Nat.succ_mul j c
    rw [sg, e2]; omega
theorem left_facts {g : Nat → Nat} {R T a n : Nat} (hT : T = sg g a n) (h0 : 0 < T) (hn : 0 < n) : sg (fun s => R * g s / T) a n ≤ R ∧ R - sg (fun s => R * g s / T) a n < n := by
  have h1 := sg_part g R T a n
  have h2 := sg_rest (fun s => R * g s % T) T a (fun s => Nat.mod_lt _ h0) n
  rw [← hT] at h1
  generalize sg (fun s => R * g s / T) a n = q at h1 ⊢
  generalize sg (fun s => R * g s % T) a n = e at h1 h2
  have e1 : R * T = T * R := Nat.mul_comm R T
  have hq : q ≤ R := Nat.le_of_mul_le_mul_left (by omega : T * q ≤ T * R) h0
  refine ⟨hq, ?_⟩
  have e2 : T * (R - q) = T * R - T * q := Nat.mul_sub T R q
  rcases Nat.lt_or_ge (R - q) n with c | c
  · exact c
  · have h3 : T * n ≤ T * (R - q) := Nat.mul_le_mul_left T c
    have e3 : T * n = n * T := Nat.mul_comm T n
    omega
/-! who goes ahead -/
def be (e : Nat → Nat) (a s o : Nat) : Bool := decide (a ≤ o ∧ (e s < e o ∨ (e o = e s ∧ o < s)))
def ah (e : Nat → Nat) (a b s : Nat) : Nat := fb_ct (be e a s) b
theorem be_iff {e : Nat → Nat} {a s o : Nat} : be e a s o = true ↔ a ≤ o ∧ (e s < e o ∨ (e o = e s ∧ o < s)) := by
  unfold be; exact decide_eq_true_iff
theorem ah_lt {e : Nat → Nat} {a b s o : Nat} (ho : o < b) (h : be e a s o = true) : ah e a b o < ah e a b s := by
  have hs := be_iff.mp h
  have hoo : be e a o o = false := by
    cases hq : be e a o o with
    | false => rfl
    | true => have := (be_iff.mp hq).2; omega
  have h1 := fb_ct_upd (be e a o) true (i := o) (n := b) ho
  rw [hoo] at h1
  have h2 : fb_ct (fun k => if k = o then true else be e a o k) b ≤ fb_ct (be e a s) b := fb_ct_sub fun k hk hp => by
    by_cases ek : k = o
    · subst ek; exact h
    · rw [if_neg ek] at hp
      have := be_iff.mp hp
      exact be_iff.mpr ⟨this.1, by omega⟩
  unfold ah
  simp only [Bool.false_eq_true, if_false, if_true] at h1
  omega
theorem be_tri {e : Nat → Nat} {a s o : Nat} (ha : a ≤ s) (hb : a ≤ o) (h : o ≠ s) : be e a s o = true ∨ be e a o s = true := by
  rcases Nat.lt_trichotomy (e s) (e o) with q | q | q
  · exact Or.inl (be_iff.mpr ⟨hb, Or.inl q⟩)
  · rcases Nat.lt_or_ge o s with c | c
    · exact Or.inl (be_iff.mpr ⟨hb, Or.inr ⟨q.symm, c⟩⟩)
    · exact Or.inr (be_iff.mpr ⟨ha, Or.inr ⟨q, by omega⟩⟩)
  · exact Or.inr (be_iff.mpr ⟨ha, Or.inl q⟩)
def inB (e : Nat → Nat) (a b k s : Nat) : Nat := if ah e a b s < k then 1 else 0
/-- one more rope goes to the one with just k ahead of it -/
theorem next_one {e : Nat → Nat} {a b k c : Nat} {r : Nat → Int32} (he : ∀ s, e s < 2147483648) (hk : k < b - a) (hr : ∀ s, a ≤ s → s < b → r s = if ah e a b s < k then -1 else nI (e s)) (hct : fb_ct (fun o => decide (a ≤ o ∧ ah e a b o < k)) b = k) (hac : a ≤ c) (hcb : c < b) (hmax : ∀ s, a ≤ s → s < b → r s ≤ r c) (hfst : ∀ s, a ≤ s → s < c → r s < r c) : ah e a b c = k ∧ (∀ s, a ≤ s → s < b → (ah e a b s < k + 1 ↔ ah e a b s < k ∨ s = c)) ∧ fb_ct (fun o => decide (a ≤ o ∧ ah e a b o < k + 1)) b = k + 1 := by
  have hex : ∃ s0, a ≤ s0 ∧ s0 < b ∧ ¬ ah e a b s0 < k := by
    refine Classical.byContradiction fun hno => ?_
    have hall : ∀ o, o < b → decide (a ≤ o ∧ ah e a b o < k) = decide (a ≤ o) := by
      intro o ho
      by_cases q : a ≤ o
      · have : ah e a b o < k := Classical.byContradiction fun z => hno ⟨o, q, ho, z⟩
        simp [q, this]
      · simp [q]
    rw [fb_ct_cong hall, ct_from] at hct
    omega
  obtain ⟨s0, p1, p2, p3⟩ := hex
  have hc0 : ¬ ah e a b c < k := by
    intro q
    have h1 := hmax s0 p1 p2
    rw [hr s0 p1 p2, hr c hac hcb, if_neg p3, if_pos q] at h1
    rw [i_le, nI_toInt (he s0)] at h1
    have : ((-1 : Int32)).toInt = -1 := by decide
    omega
  have hrc : r c = nI (e c) := by rw [hr c hac hcb, if_neg hc0]
  have hb1 : ∀ o, o < b → be e a c o = decide (a ≤ o ∧ ah e a b o < k) := by
    intro o ho
    by_cases q : be e a c o = true
    · have qq := be_iff.mp q
      have : ah e a b o < k := by
        refine Classical.byContradiction fun z => ?_
        have hro : r o = nI (e o) := by rw [hr o qq.1 ho, if_neg z]
        rcases qq.2 with w | w
        · have := hmax o qq.1 ho
          rw [hro, hrc] at this
          have := (ile (he o) (he c)).mp this
          omega
        · have := hfst o qq.1 w.2
          rw [hro, hrc] at this
          have := (ilt (he o) (he c)).mp this
          omega
      rw [q, decide_eq_true ⟨qq.1, this⟩]
    · have : ¬ (a ≤ o ∧ ah e a b o < k) := by
        rintro ⟨w1, w2⟩
        have hne : o ≠ c := fun z => hc0 (by rw [← z]; exact w2)
        rcases be_tri (e := e) hac w1 hne with z | z
        · exact q z
        · have := ah_lt (b := b) hcb z
          omega
      rw [Bool.eq_false_iff.mpr q, decide_eq_false this]
  have hahc : ah e a b c = k := by
    unfold ah
    rw [fb_ct_cong hb1, hct]
  have hiff : ∀ s, a ≤ s → s < b → (ah e a b s < k + 1 ↔ ah e a b s < k ∨ s = c) := by
    intro s h1 h2
    constructor
    · intro q
      rcases Nat.lt_or_ge (ah e a b s) k with z | z
      · exact Or.inl z
      · right
        refine Classical.byContradiction fun hne => ?_
        rcases be_tri (e := e) hac h1 hne with w | w
        · have := ah_lt (b := b) h2 w; omega
        · have := ah_lt (b := b) hcb w; omega
    · rintro (q | q)
      · omega
      · subst q; omega
  refine ⟨hahc, hiff, ?_⟩
  have h1 := fb_ct_upd (fun o => decide (a ≤ o ∧ ah e a b o < k)) true (i := c) (n := b) hcb
  have h2 : fb_ct (fun o => decide (a ≤ o ∧ ah e a b o < k + 1)) b = fb_ct (fun o => if o = c then true else decide (a ≤ o ∧ ah e a b o < k)) b := fb_ct_cong fun o ho => by
    by_cases eo : o = c
    · subst eo
      rw [if_pos rfl]
      exact decide_eq_true ⟨hac, (hiff o hac ho).mpr (Or.inr rfl)⟩
    · rw [if_neg eo]
      by_cases q : a ≤ o
      · have := hiff o q ho
        by_cases z : ah e a b o < k
        · rw [decide_eq_true ⟨q, this.mpr (Or.inl z)⟩, decide_eq_true ⟨q, z⟩]
        · rw [decide_eq_false (fun w => (this.mp w.2).elim z eo), decide_eq_false (fun w => z w.2)]
      · rw [decide_eq_false (fun w => q w.1), decide_eq_false (fun w => q w.1)]
  have h3 : decide (a ≤ c ∧ ah e a b c < k) = false := decide_eq_false (fun w => hc0 w.2)
  rw [h2]
  simp only [h3, hct, Bool.false_eq_true, if_false, if_true] at h1
  omega
