/-! what a rope bears -/
def oI : Option Nat → Int32
  | none => -1
  | some j => nI j
theorem oI_neg {j : Nat} (h : j < 2147483648) : ¬ nI j = -1 := fun q => by
  have h1 := nI_toInt h
  rw [q] at h1
  have : ((-1 : Int32)).toInt = -1 := by decide
  omega
def TI (td ts : Nat → Int32) : Prop := ∀ k, k < 8 → ok (td k) 120 ∧ ok (ts k) 100
def itsT (td : Nat → Int32) (wet : Int32) : Nat → Option Nat
  | 0 => none
  | k + 1 => match itsT td wet k with
    | none => if wet < td k then none else some k
    | some j => if wet < td k then some j else if td k < td j then some j else some k
theorem itsT_lt (td : Nat → Int32) (wet : Int32) : ∀ k j, itsT td wet k = some j → j < k := by
  intro k
  induction k with
  | zero => intro j h; cases h
  | succ k ih =>
    intro j h
    unfold itsT at h
    cases hk : itsT td wet k with
    | none =>
      rw [hk] at h
      dsimp only at h
      split at h
      · cases h
      · cases h; omega
    | some i =>
      rw [hk] at h
      dsimp only at h
      have hi := ih i hk
      split at h
      · cases h; omega
      · split at h
        · cases h; omega
        · cases h; omega
def borT (td ts : Nat → Int32) (wet : Int32) : Int32 := match itsT td wet 8 with
  | none => 0
  | some j => ts j
def gbT (td ts : Nat → Int32) : Option Nat → Int32 × Int32
  | none => (-1, 0)
  | some j => (td j, ts j)
theorem sp_borneAfter {td ts : Nat → Int32} {wet : Int32} {Q : Int32 → Prop} (hT : TI td ts) (h : Q (borT td ts wet)) : wp_X0_borneAfter td ts wet Q := by
  unfold wp_X0_borneAfter wp_X0_borneAfter_b7
  refine ⟨fun g b t => ∃ k, k ≤ 8 ∧ t = nI k ∧ g = (gbT td ts (itsT td wet k)).1 ∧ b = (gbT td ts (itsT td wet k)).2, fun _ _ t => 8 - t.toNatClampNeg, ⟨0, by omega, rfl, rfl, rfl⟩, ?_⟩
  rintro g b t ⟨k, hk, rfl, rfl, rfl⟩
  have hc := cl (k := k) (by omega)
  simp only [wp_X0_borneAfter_b52, hc]
  refine ⟨fun c => ?_, fun c => ?_⟩
  · have : 8 ≤ k := (ile (by decide) (by omega)).mp c
    have hk' : k = 8 := by omega
    subst hk'
    unfold borT at h
    cases hi : itsT td wet 8 with
    | none => rw [hi] at h; exact h
    | some j => rw [hi] at h; exact h
  · have hlt : k < 8 := Nat.not_le.mp fun q => c ((ile (by decide) (by omega)).mpr q)
    have hv := vi hlt
    have mu := mu1 hlt
    have h0 : ¬ td k < -1 := by
      have := (hT k hlt).1.1
      rw [i_le] at this
      rw [i_lt]
      have e1 : (0 : Int32).toInt = 0 := by decide
      have e2 : (-1 : Int32).toInt = -1 := by decide
      omega
    cases hi : itsT td wet k with
    | none =>
      simp only [gbT]
      refine ⟨hv, fun c1 => ⟨⟨k + 1, by omega, nI_1 k, by simp [itsT, hi, c1, gbT], by simp [itsT, hi, c1, gbT]⟩, mu⟩, fun c1 => ⟨hv, fun c2 => absurd c2 h0, fun c2 => ⟨hv, hv, ⟨k + 1, by omega, nI_1 k, by simp [itsT, hi, c1, gbT], by simp [itsT, hi, c1, gbT]⟩, mu⟩⟩⟩
    | some j =>
      simp only [gbT]
      refine ⟨hv, fun c1 => ⟨⟨k + 1, by omega, nI_1 k, by simp [itsT, hi, c1, gbT], by simp [itsT, hi, c1, gbT]⟩, mu⟩, fun c1 => ⟨hv, fun c2 => ⟨⟨k + 1, by omega, nI_1 k, by simp [itsT, hi, c1, c2, gbT], by simp [itsT, hi, c1, c2, gbT]⟩, mu⟩, fun c2 => ⟨hv, hv, ⟨k + 1, by omega, nI_1 k, by simp [itsT, hi, c1, c2, gbT], by simp [itsT, hi, c1, c2, gbT]⟩, mu⟩⟩⟩
theorem sp_harvestOf {r seen land levels td ts : Nat → Int32} {s : Nat} {Q : Int32 → Prop} (hi : s < 24) (hs : ∀ d, d < 120 → seen d = carS r (d + 1)) (h : Q (land s * borT td ts (wetS r (levels s) 120))) : wp_X8_harvestOf seen land levels td ts (nI s) Q := by
  unfold wp_X8_harvestOf
  refine sp_wetOf hi hs ?_
  generalize wetS r (levels s) 120 = wet at h
  unfold wp_X8_harvestOf_b11
  refine ⟨fun w i t => ∃ k, k ≤ 8 ∧ t = nI k ∧ w = wet ∧ i = oI (itsT td wet k), fun _ _ t => 8 - t.toNatClampNeg, ⟨0, by omega, rfl, rfl, rfl⟩, ?_⟩
  rintro w i t ⟨k, hk, rfl, rfl, rfl⟩
  have hc := cl (k := k) (by omega)
  have hc2 := cl (k := s) (by omega)
  simp only [wp_X8_harvestOf_b54, wp_X8_harvestOf_b55, wp_X8_harvestOf_b49, hc, hc2]
  refine ⟨fun c => ?_, fun c => ?_⟩
  · have : 8 ≤ k := (ile (by decide) (by omega)).mp c
    have hk' : k = 8 := by omega
    subst hk'
    unfold borT at h
    cases hi2 : itsT td w 8 with
    | none =>
      rw [hi2] at h
      simp only [Int32.mul_zero] at h
      exact ⟨fun q => absurd q (by decide), fun _ => h⟩
    | some j =>
      rw [hi2] at h
      have hj := itsT_lt td w 8 j hi2
      simp only [oI, cl (k := j) (by omega)]
      exact ⟨fun _ => ⟨vi hi, vi hj, h⟩, fun q => absurd (nI_pos' (by omega)) q⟩
  · have hlt : k < 8 := Nat.not_le.mp fun q => c ((ile (by decide) (by omega)).mpr q)
    have hv := vi hlt
    have mu := mu1 hlt
    refine ⟨hv, fun c1 => ⟨⟨k + 1, by omega, nI_1 k, (by trivial), ?_⟩, mu⟩, fun c1 => ?_⟩
    · cases hi2 : itsT td w k with
      | none => simp [itsT, hi2, c1]
      | some j => simp [itsT, hi2, c1]
    · cases hi2 : itsT td w k with
      | none => exact ⟨fun _ => ⟨⟨k + 1, by omega, nI_1 k, (by trivial), by simp [itsT, hi2, c1, oI]⟩, mu⟩, fun q => absurd (by decide : (-1 : Int32) < 0) q⟩
      | some j =>
        have hj := itsT_lt td w k j hi2
        simp only [oI, cl (k := j) (by omega)]
        refine ⟨fun q => absurd q (nI_pos (by omega)), fun _ => ⟨hv, vi (by omega), fun c2 => ⟨⟨k + 1, by omega, nI_1 k, (by trivial), by simp [itsT, hi2, c1, c2, oI]⟩, mu⟩, fun c2 => ⟨⟨k + 1, by omega, nI_1 k, (by trivial), by simp [itsT, hi2, c1, c2, oI]⟩, mu⟩⟩⟩
/-! decrees: the model's rows, and the book that holds the same -/
def BR (n : Nat) (kinds parts wholes bounds dS dA dB dC : Nat → Int32) : Prop := n ≤ 20 ∧ ∀ i, i < n → kinds i = dS i ∧ (dS i = 2 → bounds i = dA i) ∧ (dS i = 0 ∨ dS i = 1 ∨ dS i = 3 → parts i = dA i ∧ wholes i = dB i ∧ 0 < dB i) ∧ (dS i = 0 ∨ dS i = 1 → bounds i = dC i)
def stT (dS dC : Nat → Int32) (pk : Int32) (o : Option Nat) (k : Nat) : Option Nat := match o with
  | none => if dS k = 0 ∧ ¬ pk < dC k then some k else none
  | some j => if dS k = 0 ∧ ¬ pk < dC k ∧ ¬ dC k < dC j then some k else some j
def selT (dS dC : Nat → Int32) (pk : Int32) : Nat → Option Nat
  | 0 => none
  | k + 1 => stT dS dC pk (selT dS dC pk k) k
def stR (dS dC : Nat → Int32) (wet : Int32) (o : Option Nat) (k : Nat) : Option Nat := match o with
  | none => if dS k = 1 ∧ ¬ dC k ≤ wet then some k else none
  | some j => if dS k = 1 ∧ ¬ dC k ≤ wet ∧ ¬ dC j < dC k then some k else some j
def selR (dS dC : Nat → Int32) (wet : Int32) : Nat → Option Nat
  | 0 => none
  | k + 1 => stR dS dC wet (selR dS dC wet k) k
def lastK (dS : Nat → Int32) (z : Int32) : Nat → Option Nat
  | 0 => none
  | k + 1 => if dS k = z then some k else lastK dS z k
def freeF (dS dA : Nat → Int32) : Nat → Int32
  | 0 => 0
  | k + 1 => if dS k = 2 then dA k else freeF dS dA k
theorem selT_ok (dS dC : Nat → Int32) (pk : Int32) : ∀ k j, selT dS dC pk k = some j → j < k ∧ dS j = 0 := by
  intro k
  induction k with
  | zero => intro j h; cases h
  | succ k ih =>
    intro j h
    unfold selT stT at h
    cases hk : selT dS dC pk k with
    | none =>
      rw [hk] at h; dsimp only at h
      split at h
      next q => cases h; exact ⟨by omega, q.1⟩
      · cases h
    | some i =>
      rw [hk] at h; dsimp only at h
      have hi := ih i hk
      split at h
      next q => cases h; exact ⟨by omega, q.1⟩
      · cases h; exact ⟨by omega, hi.2⟩
theorem selR_ok (dS dC : Nat → Int32) (w : Int32) : ∀ k j, selR dS dC w k = some j → j < k ∧ dS j = 1 := by
  intro k
  induction k with
  | zero => intro j h; cases h
  | succ k ih =>
    intro j h
    unfold selR stR at h
    cases hk : selR dS dC w k with
    | none =>
      rw [hk] at h; dsimp only at h
      split at h
      next q => cases h; exact ⟨by omega, q.1⟩
      · cases h
    | some i =>
      rw [hk] at h; dsimp only at h
      have hi := ih i hk
      split at h
      next q => cases h; exact ⟨by omega, q.1⟩
      · cases h; exact ⟨by omega, hi.2⟩
theorem lastK_ok (dS : Nat → Int32) (z : Int32) : ∀ k j, lastK dS z k = some j → j < k ∧ dS j = z := by
  intro k
  induction k with
  | zero => intro j h; cases h
  | succ k ih =>
    intro j h
    unfold lastK at h
    split at h
    next q => cases h; exact ⟨by omega, q⟩
    · have := ih j h; exact ⟨by omega, this.2⟩
theorem free_last (dS dA : Nat → Int32) : ∀ k, freeF dS dA k = match lastK dS 2 k with | none => 0 | some j => dA j := by
  intro k
  induction k with
  | zero => rfl
  | succ k ih =>
    unfold freeF lastK
    split
    · rfl
    · exact ih
def parF (dA dB : Nat → Int32) (x : Int32) : Option Nat → Int32
  | none => 0
  | some j => ((x.toInt64 * (dA j).toInt64) / (dB j).toInt64).toInt32
def allF (n : Nat) (dS dA dB dC : Nat → Int32) (h pk : Int32) : Int32 := if h < freeF dS dA n then 0 else parF dA dB h (selT dS dC pk n)
def relF (n : Nat) (dS dA dB dC : Nat → Int32) (h wet pk : Int32) : Int32 := parF dA dB (allF n dS dA dB dC h pk) (selR dS dC wet n)
def taxF (n : Nat) (dS dA dB dC : Nat → Int32) (h wet pk : Int32) : Int32 := allF n dS dA dB dC h pk - relF n dS dA dB dC h wet pk
def offF (n : Nat) (dS dA dB dC : Nat → Int32) (h wet pk : Int32) : Int32 := parF dA dB (taxF n dS dA dB dC h wet pk) (lastK dS 3 n)
theorem sp_lastOf {n : Nat} {kinds dS : Nat → Int32} {z : Int32} {Q : Int32 → Prop} (hn : n ≤ 20) (hk : ∀ i, i < n → kinds i = dS i) (h : Q (oI (lastK dS z n))) : wp_X1_lastOf (nI n) kinds z Q := by
  unfold wp_X1_lastOf wp_X1_lastOf_b4
  refine ⟨fun a t => ∃ k, k ≤ n ∧ t = nI k ∧ a = oI (lastK dS z k), fun _ t => n - t.toNatClampNeg, ⟨0, by omega, rfl, rfl⟩, ?_⟩
  rintro a t ⟨k, hkn, rfl, rfl⟩
  have hc := cl (k := k) (by omega)
  simp only [wp_X1_lastOf_b24, hc]
  refine ⟨fun c => ?_, fun c => ?_⟩
  · have : n ≤ k := (ile (by omega) (by omega)).mp c
    have e : k = n := by omega
    subst e; exact h
  · have hlt : k < n := Nat.not_le.mp fun q => c ((ile (by omega) (by omega)).mpr q)
    rw [hk k hlt]
    have mu := mu1 hlt (by omega)
    refine ⟨vi (by omega), fun c1 => ⟨⟨k + 1, by omega, nI_1 k, by simp [lastK, c1]⟩, mu⟩, fun c1 => ⟨⟨k + 1, by omega, nI_1 k, by simp [lastK, c1, oI]⟩, mu⟩⟩
theorem dB_ne {x : Int32} (h : 0 < x) : ¬ x.toInt64 = 0 ∧ ¬ x.toInt64 ≤ 0 := by
  have h1 : ¬ x.toInt64 ≤ (0 : Int32).toInt64 := by rw [w_le]; exact Int32.not_le.mpr h
  have e : (0 : Int32).toInt64 = 0 := by decide
  rw [e] at h1
  exact ⟨fun q => h1 (by rw [q]; decide), h1⟩
theorem sp_partOf {n : Nat} {parts wholes dA dB : Nat → Int32} {x : Int32} {o : Option Nat} {Q : Int32 → Prop} (hn : n ≤ 20) (ho : ∀ j, o = some j → j < n ∧ parts j = dA j ∧ wholes j = dB j ∧ 0 < dB j) (h : Q (parF dA dB x o)) : wp_X1_partOf parts wholes x (oI o) Q := by
  unfold wp_X1_partOf wp_X7_share
  cases o with
  | none => exact ⟨fun q => absurd rfl q, fun _ => h⟩
  | some j =>
    obtain ⟨h1, h2, h3, h4⟩ := ho j rfl
    have hd := dB_ne h4
    simp only [oI, cl (k := j) (by omega), h2, h3]
    exact ⟨fun _ => ⟨vi (by omega), vi (by omega), fun q => absurd q hd.2, fun _ => ⟨hd.1, h⟩⟩, fun q => absurd q (oI_neg (by omega))⟩
theorem sp_frees {n : Nat} {kinds parts wholes bounds dS dA dB dC : Nat → Int32} {x : Int32} {Q : Int32 → Prop} (hB : BR n kinds parts wholes bounds dS dA dB dC) (hx : 0 ≤ x) (h1 : x < freeF dS dA n → Q 1) (h0 : ¬ x < freeF dS dA n → Q 0) : wp_X1_frees (nI n) kinds bounds x Q := by
  unfold wp_X1_frees
  refine sp_lastOf (dS := dS) hB.1 (fun i hi => (hB.2 i hi).1) ?_
  rw [free_last] at h1 h0
  cases ho : lastK dS 2 n with
  | none =>
    rw [ho] at h1 h0
    exact ⟨fun _ => h0 (Int32.not_lt.mpr hx), fun q => absurd rfl q⟩
  | some j =>
    rw [ho] at h1 h0
    obtain ⟨hj, hz⟩ := lastK_ok dS 2 n j ho
    have hn := hB.1
    simp only [oI, cl (k := j) (by omega), (hB.2 j hj).2.1 hz, wp_X1_frees_b25]
    exact ⟨fun q => absurd q (oI_neg (by omega)), fun _ => ⟨vi (by omega), fun q => h0 (Int32.not_lt.mpr q), fun q => h1 (Int32.not_le.mp q)⟩⟩
theorem sp_taxOn {n : Nat} {kinds parts wholes bounds dS dA dB dC : Nat → Int32} {x pk : Int32} {Q : Int32 → Prop} (hB : BR n kinds parts wholes bounds dS dA dB dC) (h : Q (parF dA dB x (selT dS dC pk n))) : wp_X1_taxOn (nI n) kinds parts wholes bounds x pk Q := by
  have hn := hB.1
  unfold wp_X1_taxOn wp_X1_taxOn_b5
  refine ⟨fun a t => ∃ k, k ≤ n ∧ t = nI k ∧ a = oI (selT dS dC pk k), fun _ t => n - t.toNatClampNeg, ⟨0, by omega, rfl, rfl⟩, ?_⟩
  rintro a t ⟨k, hkn, rfl, rfl⟩
  have hc := cl (k := k) (by omega)
  simp only [wp_X1_taxOn_b59, wp_X1_taxOn_b56, hc]
  refine ⟨fun c => ?_, fun c => ?_⟩
  · have : n ≤ k := (ile (by omega) (by omega)).mp c
    have e : k = n := by omega
    subst e
    refine sp_partOf hn (fun j hj => ?_) h
    obtain ⟨a1, a2⟩ := selT_ok _ _ _ _ _ hj
    have := (hB.2 j a1).2.2.1 (Or.inl a2)
    exact ⟨a1, this⟩
  · have hlt : k < n := Nat.not_le.mp fun q => c ((ile (by omega) (by omega)).mpr q)
    obtain ⟨b1, -, -, b4⟩ := hB.2 k hlt
    have mu := mu1 hlt (by omega)
    have hv : vp_in (nI k) 20 := vi (by omega)
    rw [b1]
    cases ho : selT dS dC pk k with
    | none =>
      refine ⟨hv, fun c1 => ⟨⟨k + 1, by omega, nI_1 k, by simp [selT, ho, stT, c1]⟩, mu⟩, fun c1 => ?_⟩
      rw [b4 (Or.inl c1)]
      refine ⟨hv, fun c2 => ⟨⟨k + 1, by omega, nI_1 k, by simp [selT, ho, stT, c1, c2]⟩, mu⟩, fun c2 => ⟨fun _ => ⟨⟨k + 1, by omega, nI_1 k, by simp [selT, ho, stT, c1, c2, oI]⟩, mu⟩, fun q => absurd rfl q⟩⟩
    | some j =>
      obtain ⟨a1, a2⟩ := selT_ok _ _ _ _ _ ho
      have e4 := (hB.2 j (by omega)).2.2.2 (Or.inl a2)
      simp only [oI, cl (k := j) (by omega), e4]
      refine ⟨hv, fun c1 => ⟨⟨k + 1, by omega, nI_1 k, by simp [selT, ho, stT, c1, oI]⟩, mu⟩, fun c1 => ?_⟩
      rw [b4 (Or.inl c1)]
      refine ⟨hv, fun c2 => ⟨⟨k + 1, by omega, nI_1 k, by simp [selT, ho, stT, c1, c2, oI]⟩, mu⟩, fun c2 => ⟨fun q => absurd q (oI_neg (by omega)), fun _ => ⟨hv, vi (by omega), fun c3 => ⟨⟨k + 1, by omega, nI_1 k, by simp [selT, ho, stT, c1, c2, c3, oI]⟩, mu⟩, fun c3 => ⟨⟨k + 1, by omega, nI_1 k, by simp [selT, ho, stT, c1, c2, c3, oI]⟩, mu⟩⟩⟩⟩
theorem sp_reliefOn {n : Nat} {kinds parts wholes bounds dS dA dB dC : Nat → Int32} {x w : Int32} {Q : Int32 → Prop} (hB : BR n kinds parts wholes bounds dS dA dB dC) (h : Q (parF dA dB x (selR dS dC w n))) : wp_X1_reliefOn (nI n) kinds parts wholes bounds x w Q := by
  have hn := hB.1
  unfold wp_X1_reliefOn wp_X1_reliefOn_b5
  refine ⟨fun a t => ∃ k, k ≤ n ∧ t = nI k ∧ a = oI (selR dS dC w k), fun _ t => n - t.toNatClampNeg, ⟨0, by omega, rfl, rfl⟩, ?_⟩
  rintro a t ⟨k, hkn, rfl, rfl⟩
  have hc := cl (k := k) (by omega)
  simp only [wp_X1_reliefOn_b60, wp_X1_reliefOn_b57, hc]
  refine ⟨fun c => ?_, fun c => ?_⟩
  · have : n ≤ k := (ile (by omega) (by omega)).mp c
    have e : k = n := by omega
    subst e
    refine sp_partOf hn (fun j hj => ?_) h
    obtain ⟨a1, a2⟩ := selR_ok _ _ _ _ _ hj
    have := (hB.2 j a1).2.2.1 (Or.inr (Or.inl a2))
    exact ⟨a1, this⟩
  · have hlt : k < n := Nat.not_le.mp fun q => c ((ile (by omega) (by omega)).mpr q)
    obtain ⟨b1, -, -, b4⟩ := hB.2 k hlt
    have mu := mu1 hlt (by omega)
    have hv : vp_in (nI k) 20 := vi (by omega)
    rw [b1]
    cases ho : selR dS dC w k with
    | none =>
      refine ⟨hv, fun c1 => ⟨⟨k + 1, by omega, nI_1 k, by simp [selR, ho, stR, c1]⟩, mu⟩, fun c1 => ?_⟩
      rw [b4 (Or.inr c1)]
      refine ⟨hv, fun c2 => ⟨⟨k + 1, by omega, nI_1 k, by simp [selR, ho, stR, c1, c2]⟩, mu⟩, fun c2 => ⟨fun _ => ⟨⟨k + 1, by omega, nI_1 k, by simp [selR, ho, stR, c1, c2, oI]⟩, mu⟩, fun q => absurd rfl q⟩⟩
    | some j =>
      obtain ⟨a1, a2⟩ := selR_ok _ _ _ _ _ ho
      have e4 := (hB.2 j (by omega)).2.2.2 (Or.inr a2)
      simp only [oI, cl (k := j) (by omega), e4]
      refine ⟨hv, fun c1 => ⟨⟨k + 1, by omega, nI_1 k, by simp [selR, ho, stR, c1, oI]⟩, mu⟩, fun c1 => ?_⟩
      rw [b4 (Or.inr c1)]
      refine ⟨hv, fun c2 => ⟨⟨k + 1, by omega, nI_1 k, by simp [selR, ho, stR, c1, c2, oI]⟩, mu⟩, fun c2 => ⟨fun q => absurd q (oI_neg (by omega)), fun _ => ⟨hv, vi (by omega), fun c3 => ⟨⟨k + 1, by omega, nI_1 k, by simp [selR, ho, stR, c1, c2, c3, oI]⟩, mu⟩, fun c3 => ⟨⟨k + 1, by omega, nI_1 k, by simp [selR, ho, stR, c1, c2, c3, oI]⟩, mu⟩⟩⟩⟩
theorem sp_officerPart {n : Nat} {kinds parts wholes bounds dS dA dB dC : Nat → Int32} {x : Int32} {Q : Int32 → Prop} (hB : BR n kinds parts wholes bounds dS dA dB dC) (h : Q (parF dA dB x (lastK dS 3 n))) : wp_X1_officerPart (nI n) kinds parts wholes x Q := by
  unfold wp_X1_officerPart
  refine sp_lastOf (dS := dS) hB.1 (fun i hi => (hB.2 i hi).1) ?_
  refine sp_partOf hB.1 (fun j hj => ?_) h
  obtain ⟨a1, a2⟩ := lastK_ok _ _ _ _ hj
  exact ⟨a1, (hB.2 j a1).2.2.1 (Or.inr (Or.inr a2))⟩
theorem sp_assess {n : Nat} {kinds parts wholes bounds dS dA dB dC : Nat → Int32} {d0 d1 d2 d3 d4 x wet pk : Int32} {Q : Int32 → Int32 → Int32 → Int32 → Int32 → Prop} (hB : BR n kinds parts wholes bounds dS dA dB dC) (hx : 0 ≤ x) (h : Q (taxF n dS dA dB dC x wet pk) (relF n dS dA dB dC x wet pk) (offF n dS dA dB dC x wet pk) (taxF n dS dA dB dC x wet pk - offF n dS dA dB dC x wet pk) (x - taxF n dS dA dB dC x wet pk)) : wp_X3_assess d0 d1 d2 d3 d4 (nI n) kinds parts wholes bounds x wet pk Q := by
  have key : ∀ b, b = allF n dS dA dB dC x pk → wp_X3_assess_b19 (nI n) kinds parts wholes bounds x wet pk Q d0 d1 d2 d3 d4 b := by
    intro b hb
    subst hb
    unfold wp_X3_assess_b19
    exact sp_reliefOn hB (sp_officerPart hB h)
  unfold wp_X3_assess
  refine sp_frees hB hx (fun c => if1 (key _ ?_)) (fun c => if0 (sp_taxOn hB (key _ ?_)))
  · rw [allF, if_pos c]
  · rw [allF, if_neg c]
/-! the model's reckoning -/
theorem rk139 {dec : Int32} {seen land levels td ts dS dA dB dC : Nat → Int32} {x1 : Int32} {Q : Int32 → Int32 → Int32 → Int32 → Prop} {B : Int32 → Int32 → Int32 → Int32 → Int32 → Int32 → Int32 → Int32 → Int32 → Int32 → Int32 → Prop} {f0 f1 f2 f3 t2 t3 t4 t5 t6 t7 : Int32} {k : Nat} (hk : k < 20) (h : B f0 f1 f2 f3 t2 t3 t4 t5 (if dS k = 2 then dA k else t6) (if dS k = 3 then nI k else t7) (nI k + 1)) : wp_X8_reckon_b139 dec seen land levels td ts dS dA dB dC x1 Q B f0 f1 f2 f3 t2 t3 t4 t5 t6 t7 (nI k) := by
  have hc := cl (k := k) (by omega)
  simp only [wp_X8_reckon_b139, wp_X8_reckon_b162, wp_X8_reckon_b182, hc]
  have hv := vi hk
  refine ⟨hv, fun c1 => ⟨hv, fun c2 => ?_, fun c2 => ?_⟩, fun c1 => ⟨hv, hv, fun c2 => ?_, fun c2 => ?_⟩⟩
  · rw [if_neg c1, if_neg c2] at h; exact h
  · rw [if_neg c1, if_pos c2] at h; exact h
  · rw [if_pos c1, if_neg c2] at h; exact h
  · rw [if_pos c1, if_pos c2] at h; exact h
theorem rk91 {dec : Int32} {seen land levels td ts dS dA dB dC : Nat → Int32} {x1 : Int32} {Q : Int32 → Int32 → Int32 → Int32 → Prop} {B : Int32 → Int32 → Int32 → Int32 → Int32 → Int32 → Int32 → Int32 → Int32 → Int32 → Int32 → Prop} {f0 f1 f2 f3 t2 t3 t4 t6 t7 : Int32} {o : Option Nat} {k : Nat} (hk : k < 20) (ho : ∀ j, o = some j → j < 20) (h : B f0 f1 f2 f3 t2 t3 t4 (oI (stR dS dC t2 o k)) (if dS k = 2 then dA k else t6) (if dS k = 3 then nI k else t7) (nI k + 1)) : wp_X8_reckon_b91 dec seen land levels td ts dS dA dB dC x1 Q B f0 f1 f2 f3 t2 t3 t4 (oI o) t6 t7 (nI k) := by
  have hc := cl (k := k) (by omega)
  have hv := vi hk
  cases o with
  | none =>
    simp only [wp_X8_reckon_b91, wp_X8_reckon_b135, hc]
    refine ⟨hv, fun c1 => rk139 hk ?_, fun c1 => ⟨hv, fun c2 => rk139 hk ?_, fun c2 => ⟨fun _ => rk139 hk ?_, fun q => absurd (by decide : (-1 : Int32) < 0) q⟩⟩⟩
    · simpa [stR, c1] using h
    · simpa [stR, c1, c2] using h
    · simpa [stR, c1, c2, oI] using h
  | some j =>
    have hj := ho j rfl
    simp only [wp_X8_reckon_b91, wp_X8_reckon_b135, hc, oI, cl (k := j) (by omega)]
    refine ⟨hv, fun c1 => rk139 hk ?_, fun c1 => ⟨hv, fun c2 => rk139 hk ?_, fun c2 => ⟨fun q => absurd q (nI_pos (by omega)), fun _ => ⟨hv, vi hj, fun c3 => rk139 hk ?_, fun c3 => rk139 hk ?_⟩⟩⟩⟩
    · simpa [stR, c1, oI] using h
    · simpa [stR, c1, c2, oI] using h
    · simpa [stR, c1, c2, c3, oI] using h
    · simpa [stR, c1, c2, c3, oI] using h
theorem sp_reckon {n s : Nat} {r seen land levels td ts kinds parts wholes bounds dS dA dB dC : Nat → Int32} {f0 f1 f2 f3 : Int32} {Q : Int32 → Int32 → Int32 → Int32 → Prop} (hi : s < 24) (hs : ∀ d, d < 120 → seen d = carS r (d + 1)) (hB : BR n kinds parts wholes bounds dS dA dB dC)
    (h : Q (taxF n dS dA dB dC (land s * borT td ts (wetS r (levels s) 120)) (wetS r (levels s) 120) (pkS r 120)) (relF n dS dA dB dC (land s * borT td ts (wetS r (levels s) 120)) (wetS r (levels s) 120) (pkS r 120)) (offF n dS dA dB dC (land s * borT td ts (wetS r (levels s) 120)) (wetS r (levels s) 120) (pkS r 120)) (land s * borT td ts (wetS r (levels s) 120))) : wp_X8_reckon (nI n) f0 f1 f2 f3 seen land levels td ts dS dA dB dC (nI s) Q := by
  have hn := hB.1
  unfold wp_X8_reckon
  refine sp_harvestOf hi hs (sp_wetOf hi hs (sp_peakOf hs ?_))
  generalize land s * borT td ts (wetS r (levels s) 120) = hv at h ⊢
  generalize wetS r (levels s) 120 = wet at h ⊢
  generalize pkS r 120 = pk at h ⊢
  unfold wp_X8_reckon_b35
  refine ⟨fun _ _ _ fh t2 t3 t4 t5 t6 t7 t8 => ∃ k, k ≤ n ∧ t8 = nI k ∧ fh = hv ∧ t2 = wet ∧ t3 = pk ∧ t4 = oI (selT dS dC pk k) ∧ t5 = oI (selR dS dC wet k) ∧ t6 = freeF dS dA k ∧ t7 = oI (lastK dS 3 k), fun _ _ _ _ _ _ _ _ _ _ t => n - t.toNatClampNeg, ⟨0, by omega, rfl, rfl, rfl, rfl, rfl, rfl, rfl, rfl⟩, ?_⟩
  rintro g0 g1 g2 fh t2 t3 t4 t5 t6 t7 t8 ⟨k, hkn, rfl, rfl, rfl, rfl, rfl, rfl, rfl, rfl⟩
  have hc := cl (k := k) (by omega)
  simp only [hc, wp_X8_reckon_b87, wp_X8_reckon_b204]
  refine ⟨fun c => ?_, fun c => ?_⟩
  · have : n ≤ k := (ile (by omega) (by omega)).mp c
    have e : k = n := by omega
    subst e
    have k3 : ∀ (o : Option Nat) (x y : Int32) (P : Int32 → Prop), (∀ j, o = some j → j < k ∧ 0 < dB j) → P (parF dA dB x o) → ((0 ≤ oI o → (vp_in (oI o) 20 ∧ (vp_in (oI o) 20 ∧ (¬ (dB (oI o).toNatClampNeg).toInt64 = 0 ∧ P ((x.toInt64 * (dA (oI o).toNatClampNeg).toInt64) / (dB (oI o).toNatClampNeg).toInt64).toInt32)))) ∧ (¬ 0 ≤ oI o → P 0)) := by
      intro o x y P ho hp
      cases o with
      | none => exact ⟨fun q => absurd q (by decide), fun _ => hp⟩
      | some j =>
        obtain ⟨a1, a2⟩ := ho j rfl
        have e := cl (k := j) (by omega)
        simp only [oI, e]
        exact ⟨fun _ => ⟨vi (by omega), vi (by omega), (dB_ne a2).1, hp⟩, fun q => absurd (nI_pos' (by omega)) q⟩
    have k4 : ∀ z, z = relF k dS dA dB dC fh t2 t3 → wp_X8_reckon_b266 (nI k) seen land levels td ts dS dA dB dC (nI s) Q g0 g1 g2 fh (oI (lastK dS 3 k)) (allF k dS dA dB dC fh t3) z := by
      intro z hz
      subst hz
      unfold wp_X8_reckon_b266
      exact k3 (lastK dS 3 k) _ 0 (fun y => wp_X8_reckon_b314 (nI k) seen land levels td ts dS dA dB dC (nI s) Q (allF k dS dA dB dC fh t3 - relF k dS dA dB dC fh t2 t3) (relF k dS dA dB dC fh t2 t3) g2 fh y) (fun j hj => by
        obtain ⟨a1, a2⟩ := lastK_ok _ _ _ _ hj
        exact ⟨a1, ((hB.2 j a1).2.2.1 (Or.inr (Or.inr a2))).2.2⟩) h
    have k2 : ∀ b, b = allF k dS dA dB dC fh t3 → wp_X8_reckon_b232 (nI k) seen land levels td ts dS dA dB dC (nI s) Q g0 g1 g2 fh (oI (selR dS dC t2 k)) (oI (lastK dS 3 k)) b := by
      intro b hb
      subst hb
      unfold wp_X8_reckon_b232
      exact k3 (selR dS dC t2 k) _ 0 (fun z => wp_X8_reckon_b266 (nI k) seen land levels td ts dS dA dB dC (nI s) Q g0 g1 g2 fh (oI (lastK dS 3 k)) (allF k dS dA dB dC fh t3) z) (fun j hj => by
        obtain ⟨a1, a2⟩ := selR_ok _ _ _ _ _ hj
        exact ⟨a1, ((hB.2 j a1).2.2.1 (Or.inr (Or.inl a2))).2.2⟩) (k4 _ rfl)
    refine ⟨fun q => k2 _ (by rw [allF, if_pos q]), fun q => ?_⟩
    have := k3 (selT dS dC t3 k) fh 0 (fun z => wp_X8_reckon_b232 (nI k) seen land levels td ts dS dA dB dC (nI s) Q g0 g1 g2 fh (oI (selR dS dC t2 k)) (oI (lastK dS 3 k)) z) (fun j hj => by
      obtain ⟨a1, a2⟩ := selT_ok _ _ _ _ _ hj
      exact ⟨a1, ((hB.2 j a1).2.2.1 (Or.inl a2)).2.2⟩) (k2 _ (by rw [allF, if_neg q]))
    exact this
  · have hlt : k < n := Nat.not_le.mp fun q => c ((ile (by omega) (by omega)).mpr q)
    have mu := mu1 hlt (by omega)
    have hv2 : vp_in (nI k) 20 := vi (by omega)
    have hR : ∀ j, selR dS dC t2 k = some j → j < 20 := fun j hj => by have := (selR_ok _ _ _ _ _ hj).1; omega
    have fin : ∀ o, o = selT dS dC t3 (k + 1) → wp_X8_reckon_b91 (nI n) seen land levels td ts dS dA dB dC (nI s) Q (fun f_tax' f_relief' f_officers' f_harvest' t2' t3' t4' t5' t6' t7' t8' => (∃ k, k ≤ n ∧ t8' = nI k ∧ f_harvest' = fh ∧ t2' = t2 ∧ t3' = t3 ∧ t4' = oI (selT dS dC t3 k) ∧ t5' = oI (selR dS dC t2 k) ∧ t6' = freeF dS dA k ∧ t7' = oI (lastK dS 3 k)) ∧ n - t8'.toNatClampNeg < n - k) g0 g1 g2 fh t2 t3 (oI o) (oI (selR dS dC t2 k)) (freeF dS dA k) (oI (lastK dS 3 k)) (nI k) := by
      intro o ho
      subst ho
      refine rk91 (by omega) hR ⟨⟨k + 1, by omega, nI_1 k, rfl, rfl, rfl, rfl, rfl, rfl, ?_⟩, mu⟩
      show (if dS k = 3 then nI k else oI (lastK dS 3 k)) = oI (if dS k = 3 then some k else lastK dS 3 k)
      split <;> rfl
    refine ⟨hv2, fun c1 => ?_, fun c1 => ⟨hv2, fun c2 => ?_, fun c2 => ?_⟩⟩
    · cases ho : selT dS dC t3 k with
      | none => exact fin _ (by simp [selT, ho, stT, c1])
      | some j => exact fin _ (by simp [selT, ho, stT, c1])
    · cases ho : selT dS dC t3 k with
      | none => exact fin _ (by simp [selT, ho, stT, c1, c2])
      | some j => exact fin _ (by simp [selT, ho, stT, c1, c2])
    · cases ho : selT dS dC t3 k with
      | none => exact ⟨fun _ => fin (some k) (by simp [selT, ho, stT, c1, c2]), fun q => absurd (by decide : (-1 : Int32) < 0) q⟩
      | some j =>
        have hj := (selT_ok _ _ _ _ _ ho).1
        simp only [oI, cl (k := j) (by omega)]
        exact ⟨fun q => absurd q (nI_pos (by omega)), fun _ => ⟨hv2, vi (by omega), fun c3 => fin (some j) (by simp [selT, ho, stT, c1, c2, c3]), fun c3 => fin (some k) (by simp [selT, ho, stT, c1, c2, c3])⟩⟩
