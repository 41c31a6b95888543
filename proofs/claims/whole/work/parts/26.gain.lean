/-! what officers took of a strip, summed -/
def allN (st am kn : Nat → Int32) (K : Int32) (s : Nat) : Nat → Nat
  | 0 => 0
  | i + 1 => allN st am kn K s i + (if ¬ K < kn i ∧ st i = nI s then (am i).toNatClampNeg else 0)
def ownN (of st am kn : Nat → Int32) (O K : Int32) (s : Nat) : Nat → Nat
  | 0 => 0
  | i + 1 => ownN of st am kn O K s i + (if ¬ K < kn i ∧ st i = nI s ∧ of i = O then (am i).toNatClampNeg else 0)
theorem am_le {x : Int32} (h : ok x 1000000) : x.toNatClampNeg ≤ 1000000 ∧ x = nI x.toNatClampNeg := by
  obtain ⟨j, hj, rfl⟩ := ok_nI (n := 1000000) h
  rw [cl (by omega)]
  exact ⟨hj, rfl⟩
theorem allN_le {z m : Nat} {st am kn : Nat → Int32} (h : KI z m st am) (K : Int32) (s : Nat) : ∀ i, i ≤ z → allN st am kn K s i ≤ i * 1000000 := by
  intro i
  induction i with
  | zero => intro _; exact Nat.le_refl _
  | succ i ih =>
    intro hi
    have h1 := ih (by omega)
    have h2 := (am_le (h.2 i (by omega)).2).1
    have e : (i + 1) * 1000000 = i * 1000000 + 1000000 := Nat.succ_mul i 1000000
    rw [allN, e]
    generalize i * 1000000 = y at h1 ⊢
    generalize (am i).toNatClampNeg = x at h2 ⊢
    split <;> omega
theorem own_le (of st am kn : Nat → Int32) (O K : Int32) (s : Nat) : ∀ i, ownN of st am kn O K s i ≤ allN st am kn K s i := by
  intro i
  induction i with
  | zero => exact Nat.le_refl _
  | succ i ih =>
    rw [allN, ownN]
    by_cases c : ¬ K < kn i ∧ st i = nI s
    · rw [if_pos c]; split <;> omega
    · rw [if_neg c, if_neg (fun q => c ⟨q.1, q.2.1⟩)]; omega
theorem sp_sumUp {z m : Nat} {of st am kn own all : Nat → Int32} {O K : Int32} {Q : (Nat → Int32) → (Nat → Int32) → Prop} (hm : m ≤ 24) (hK : KI z m st am) (h : ∀ a b, (∀ s, s < 24 → a s = nI (ownN of st am kn O K s z) ∧ b s = nI (allN st am kn K s z)) → Q a b) : wp_X5_sumUp (nI z) of st am kn own all O K Q := by
  have hz := hK.1
  unfold wp_X5_sumUp wp_X5_sumUp_b2
  refine ⟨fun a b t => ∃ k, k ≤ 24 ∧ t = nI k ∧ ∀ s, s < k → a s = 0 ∧ b s = 0, fun _ _ t => 24 - t.toNatClampNeg, ⟨0, by omega, rfl, fun s hs => by omega⟩, ?_⟩
  rintro a b t ⟨k, hk, rfl, h1⟩
  have hc := cl (k := k) (by omega)
  simp only [hc]
  refine ⟨fun c => ?_, fun c => ?_⟩
  · have : 24 ≤ k := (ile (by decide) (by omega)).mp c
    have e : k = 24 := by omega
    subst e
    unfold wp_X5_sumUp_b30
    refine ⟨fun a b t => ∃ i, i ≤ z ∧ t = nI i ∧ ∀ s, s < 24 → a s = nI (ownN of st am kn O K s i) ∧ b s = nI (allN st am kn K s i), fun _ _ t => z - t.toNatClampNeg, ⟨0, by omega, rfl, h1⟩, ?_⟩
    rintro a b t ⟨i, hi, rfl, h2⟩
    have hc := cl (k := i) (by omega)
    simp only [wp_X5_sumUp_b98, hc]
    refine ⟨fun c => ?_, fun c => ?_⟩
    · have : z ≤ i := (ile (by omega) (by omega)).mp c
      have e : i = z := by omega
      subst e; exact h a b h2
    · have hlt : i < z := Nat.not_le.mp fun q => c ((ile (by omega) (by omega)).mpr q)
      have mu := mu1 hlt (by omega)
      have hv : vp_in (nI i) 200 := vi (by omega)
      obtain ⟨hs1, hs2⟩ := hK.2 i hlt
      obtain ⟨s0, hs0, es⟩ := isS_nI hs1 hm
      have hvs : vp_in (st i) 24 := by rw [es]; exact vi (by omega)
      have ec : (st i).toNatClampNeg = s0 := by rw [es, cl (by omega)]
      obtain ⟨ha1, ha2⟩ := am_le hs2
      have hne : ∀ s, s < 24 → s ≠ s0 → ¬ st i = nI s := fun s hs q e => q (by rw [es] at e; exact ((nI_eq (by omega) (by omega)).mp e).symm)
      refine ⟨hv, fun c1 => ⟨⟨i + 1, by omega, nI_1 i, fun s hs => ?_⟩, mu⟩, fun c1 => ⟨hv, hvs, hv, hvs, hv, fun c2 => ⟨⟨i + 1, by omega, nI_1 i, fun s hs => ?_⟩, mu⟩, fun c2 => ⟨hv, hvs, hv, hvs, ⟨i + 1, by omega, nI_1 i, fun s hs => ?_⟩, mu⟩⟩⟩
      · rw [ownN, allN, if_neg (fun q => q.1 c1), if_neg (fun q => q.1 c1)]; exact h2 s hs
      · have o1 : ownN of st am kn O K s (i + 1) = ownN of st am kn O K s i := by rw [ownN, if_neg (fun q => c2 q.2.2)]; rfl
        rw [ec, o1]
        by_cases e : s = s0
        · subst e
          have a1 : allN st am kn K s (i + 1) = allN st am kn K s i + (am i).toNatClampNeg := by rw [allN, if_pos ⟨c1, es⟩]
          rw [upd_s, a1, ← nI_add, ← ha2, (h2 s hs).2]
          exact ⟨(h2 s hs).1, rfl⟩
        · have a1 : allN st am kn K s (i + 1) = allN st am kn K s i := by rw [allN, if_neg (fun q => hne s hs e q.2)]; rfl
          rw [upd_n _ _ e, a1]; exact h2 s hs
      · rw [ec]
        by_cases e : s = s0
        · subst e
          have a1 : allN st am kn K s (i + 1) = allN st am kn K s i + (am i).toNatClampNeg := by rw [allN, if_pos ⟨c1, es⟩]
          have o1 : ownN of st am kn O K s (i + 1) = ownN of st am kn O K s i + (am i).toNatClampNeg := by rw [ownN, if_pos ⟨c1, es, c2⟩]
          rw [upd_s, upd_s, a1, o1, ← nI_add, ← nI_add, ← ha2, (h2 s hs).1, (h2 s hs).2]
          exact ⟨rfl, rfl⟩
        · have a1 : allN st am kn K s (i + 1) = allN st am kn K s i := by rw [allN, if_neg (fun q => hne s hs e q.2)]; rfl
          have o1 : ownN of st am kn O K s (i + 1) = ownN of st am kn O K s i := by rw [ownN, if_neg (fun q => hne s hs e q.2.1)]; rfl
          rw [upd_n _ _ e, upd_n _ _ e, a1, o1]; exact h2 s hs
  · have hlt : k < 24 := Nat.not_le.mp fun q => c ((ile (by decide) (by omega)).mpr q)
    refine ⟨vi hlt, vi hlt, ⟨k + 1, by omega, nI_1 k, fun s hs => ?_⟩, mu1 hlt⟩
    by_cases e : s = k
    · subst e; rw [upd_s, upd_s]; exact ⟨rfl, rfl⟩
    · rw [upd_n _ _ e, upd_n _ _ e]; exact h1 s (by omega)
/-- what an officer gains of one strip -/
def gnF (al ow : Nat) (tx : Int32) : Int64 := if lN al ≤ tx.toInt64 ∨ ow = 0 then 0 else ((lN al - tx.toInt64) * lN ow) / lN al
def gnS (g : Nat → Int64) : Nat → Int64
  | 0 => 0
  | k + 1 => gnS g k + g k
theorem sub_le0 {al : Nat} {tx : Int32} (h : al ≤ 200000000) : lN al - tx.toInt64 ≤ 0 ↔ lN al ≤ tx.toInt64 := by
  have hr := Int32.toInt_lt tx
  have hr2 := Int32.le_toInt tx
  have e0 : (0 : Int64).toInt = 0 := by decide
  rw [l_le, l_le, Int64.toInt_sub, lN_toInt (by omega), Int32.toInt_toInt64, e0]
  rw [Int.bmod_eq_of_le (by omega) (by omega)]
  omega
theorem lN_pos {a : Nat} (h : a ≤ 200000000) : lN a ≤ 0 ↔ a = 0 := by
  have := lN_le (a := a) (b := 0) (by omega) (by decide)
  have e : lN 0 = 0 := rfl
  rw [e] at this
  rw [this]; omega
theorem nI_le0 {a : Nat} (h : a ≤ 200000000) : nI a ≤ 0 ↔ a = 0 := by
  have := ile (a := a) (b := 0) (by omega) (by decide)
  have e : nI 0 = 0 := rfl
  rw [e] at this
  rw [this]; omega
def gainR (n m k z : Nat) (days heights known w lev td ts dS dA dB dC of st am kn : Nat → Int32) (x1 x2 : Int32) : Int64 := if ok x1 9 ∧ ok x2 1000 then gnS (fun s => gnF (allN st am kn x2 s z) (ownN of st am kn x1 x2 s z) (TX k dS dA dB dC (rawS days heights known x2 119 n) w lev td ts s)) m else -1
theorem sp_X7_gain {n m k z : Nat} {pk x1 x2 d0 d1 d2 d3 d4 : Int32} {days heights known seen w lev td ts kinds parts wholes bounds dS dA dB dC of st am kn own all : Nat → Int32} {Q : Int64 → Int32 → (Nat → Int32) → Int32 → Int32 → Int32 → Int32 → Int32 → (Nat → Int32) → (Nat → Int32) → Prop} (hR : RI n days heights) (hm : m ≤ 24) (hw : ∀ s, s < m → ok (w s) 10000) (hT : TI td ts) (hB : BR k kinds parts wholes bounds dS dA dB dC) (hK : KI z m st am) (h : ∀ pk a e0 e1 e2 e3 e4 b c, Q (gainR n m k z days heights known w lev td ts dS dA dB dC of st am kn x1 x2) pk a e0 e1 e2 e3 e4 b c) : wp_X7_gain (nI n) pk days heights known seen (nI m) w lev td ts d0 d1 d2 d3 d4 (nI z) of st am kn own all (nI k) kinds parts wholes bounds x1 x2 Q := by
  have hz := hK.1
  unfold wp_X7_gain wp_X7_gain_b16
  refine sp_isWithin (fun c1 => if1 (sp_isKnownDay (fun c2 => in1 (sp_look hR fun a ha => sp_sumUp hm hK fun b c hbc => ?_)) (fun c2 => in0 ?_))) (fun c1 => if0 ?_)
  · rw [gainR, if_pos ⟨c1, c2⟩] at h
    generalize hg : (fun s => gnF (allN st am kn x2 s z) (ownN of st am kn x1 x2 s z) (TX k dS dA dB dC (rawS days heights known x2 119 n) w lev td ts s)) = G at h
    unfold wp_X7_gain_b42
    refine ⟨fun p a _ _ _ _ _ b c t3 t5 => ∃ j, j ≤ m ∧ t5 = nI j ∧ t3 = gnS G j ∧ p = pkS (rawS days heights known x2 119 n) 120 ∧ (∀ d, d < 120 → a d = carS (rawS days heights known x2 119 n) (d + 1)) ∧ ∀ s, s < 24 → b s = nI (ownN of st am kn x1 x2 s z) ∧ c s = nI (allN st am kn x2 s z), fun _ _ _ _ _ _ _ _ _ _ t => m - t.toNatClampNeg, ⟨0, by omega, rfl, rfl, rfl, ha, hbc⟩, ?_⟩
    rintro p a e0 e1 e2 e3 e4 b c t3 t5 ⟨j, hj, rfl, rfl, rfl, ha, hbc⟩
    have hc := cl (k := j) (by omega)
    simp only [hc, wp_X7_gain_b76]
    refine ⟨fun _ => ?_, fun cc => ?_⟩
    · have : m ≤ j := (ile (by omega) (by omega)).mp (by assumption)
      have e : j = m := by omega
      subst e
      exact h _ _ _ _ _ _ _ _ _
    · have hlt : j < m := Nat.not_le.mp fun q => cc ((ile (by omega) (by omega)).mpr q)
      have mu := mu1 hlt (by omega)
      have hv : vp_in (nI j) 24 := vi (by omega)
      have hal : allN st am kn x2 j z ≤ 200000000 := by
        have := allN_le (kn := kn) hK x2 j z (Nat.le_refl _); omega
      have how : ownN of st am kn x1 x2 j z ≤ 200000000 := by
        have := own_le of st am kn x1 x2 j z; omega
      have hGj : G j = gnF (allN st am kn x2 j z) (ownN of st am kn x1 x2 j z) (TX k dS dA dB dC (rawS days heights known x2 119 n) w lev td ts j) := by rw [← hg]
      obtain ⟨eb, ec⟩ := hbc j (by omega)
      rw [eb]
      refine ⟨hv, fun q => ⟨⟨j + 1, by omega, nI_1 j, ?_, (by trivial), ha, hbc⟩, mu⟩, fun q => ?_⟩
      · rw [gnS, hGj, gnF, if_pos (Or.inr ((nI_le0 how).mp q)), Int64.add_zero]
      · have ho0 : ¬ ownN of st am kn x1 x2 j z = 0 := fun e => q ((nI_le0 how).mpr e)
        have ha0 : ¬ allN st am kn x2 j z = 0 := by
          have := own_le of st am kn x1 x2 j z; omega
        unfold wp_X7_gainSeen
        refine sp_assessSeen (dS := dS) (dA := dA) (dB := dB) (dC := dC) (by omega) (hw j hlt) hT ha hB ⟨hv, ?_⟩
        rw [hc, ec, eb, nI_l (by omega), nI_l (by omega), sub_le0 hal]
        refine ⟨fun q2 => ⟨⟨j + 1, by omega, nI_1 j, ?_, (by trivial), ha, hbc⟩, mu⟩, fun q2 => ⟨hv, hv, ?_⟩⟩
        · rw [gnS, hGj, gnF, if_pos (Or.inl q2)]
        · unfold wp_X7_share
          rw [lN_pos hal]
          refine ⟨fun e => absurd e ha0, fun _ => ⟨fun e => ha0 ((lN_pos hal).mp (by rw [e]; decide)), ⟨j + 1, by omega, nI_1 j, ?_, (by trivial), ha, hbc⟩, mu⟩⟩
          rw [gnS, hGj, gnF, if_neg (fun e => e.elim q2 ho0)]
  · have := h pk seen d0 d1 d2 d3 d4 own all
    rwa [gainR, if_neg (fun q => c2 q.2)] at this
  · have := h pk seen d0 d1 d2 d3 d4 own all
    rwa [gainR, if_neg (fun q => c1 q.1)] at this
theorem sp_X8_gain {n m k z : Nat} {th x1 x2 d0 d1 d2 d3 : Int32} {days heights known seen w lev td ts kinds parts wholes bounds dS dA dB dC of st am kn : Nat → Int32} {Q : Int64 → Int32 → Int32 → Int32 → Int32 → Int32 → (Nat → Int32) → Prop} (hR : RI n days heights) (hm : m ≤ 24) (hB : BR k kinds parts wholes bounds dS dA dB dC) (hK : KI z m st am) (h : ∀ th a e0 e1 e2 e3, Q (gainR n m k z days heights known w lev td ts dS dA dB dC of st am kn x1 x2) th e0 e1 e2 e3 a) : wp_X8_gain th (nI n) (nI m) (nI k) d0 d1 d2 d3 (nI z) days heights known seen w lev td ts dS dA dB dC of st am kn x1 x2 Q := by
  have hz := hK.1
  unfold wp_X8_gain wp_X8_gain_b24
  refine sp_inw (a := 0) (b := 9) rfl rfl (fun c1 => if1 (sp_isKnown (fun c2 => in1 (sp_find hR fun a ha => ?_)) (fun c2 => in0 ?_))) (fun c1 => if0 ?_)
  · rw [gainR, if_pos ⟨c1, c2⟩] at h
    generalize hg : (fun s => gnF (allN st am kn x2 s z) (ownN of st am kn x1 x2 s z) (TX k dS dA dB dC (rawS days heights known x2 119 n) w lev td ts s)) = G at h
    unfold wp_X8_gain_b40
    refine ⟨fun _ _ _ _ _ a t3 t5 => ∃ j, j ≤ m ∧ t5 = nI j ∧ t3 = gnS G j ∧ ∀ d, d < 120 → a d = carS (rawS days heights known x2 119 n) (d + 1), fun _ _ _ _ _ _ _ t => m - t.toNatClampNeg, ⟨0, by omega, rfl, rfl, ha⟩, ?_⟩
    rintro p e0 e1 e2 e3 a t3 t5 ⟨j, hj, rfl, rfl, ha⟩
    have hcj := cl (k := j) (by omega)
    simp only [hcj]
    refine ⟨fun cc => ?_, fun cc => ?_⟩
    · have : m ≤ j := (ile (by omega) (by omega)).mp cc
      have e : j = m := by omega
      subst e
      exact h _ _ _ _ _ _
    · have hlt : j < m := Nat.not_le.mp fun q => cc ((ile (by omega) (by omega)).mpr q)
      have mu := mu1 hlt (by omega)
      have hal : allN st am kn x2 j z ≤ 200000000 := by
        have := allN_le (kn := kn) hK x2 j z (Nat.le_refl _); omega
      have how : ownN of st am kn x1 x2 j z ≤ 200000000 := by
        have := own_le of st am kn x1 x2 j z; omega
      have hGj : G j = gnF (allN st am kn x2 j z) (ownN of st am kn x1 x2 j z) (TX k dS dA dB dC (rawS days heights known x2 119 n) w lev td ts j) := by rw [← hg]
      unfold wp_X8_gain_b58
      refine ⟨fun _ _ _ _ _ a t3 t5 t6 t8 t10 => ∃ i, i ≤ z ∧ t10 = nI i ∧ t5 = nI j ∧ t3 = gnS G j ∧ t6 = lN (allN st am kn x2 j i) ∧ t8 = lN (ownN of st am kn x1 x2 j i) ∧ ∀ d, d < 120 → a d = carS (rawS days heights known x2 119 n) (d + 1), fun _ _ _ _ _ _ _ _ _ _ t => z - t.toNatClampNeg, ⟨0, by omega, rfl, rfl, rfl, rfl, rfl, ha⟩, ?_⟩
      rintro p e0 e1 e2 e3 a t3 t5 t6 t8 t10 ⟨i, hi, rfl, rfl, rfl, rfl, rfl, ha⟩
      have hc := cl (k := i) (by omega)
      simp only [hc, wp_X8_gain_b131, wp_X8_gain_b128, wp_X8_gain_b179, wp_X8_gain_b180]
      refine ⟨fun c => ?_, fun c => ?_⟩
      · have : z ≤ i := (ile (by omega) (by omega)).mp c
        have e : i = z := by omega
        subst e
        refine sp_reckon (by omega) ha hB ⟨fun q => ⟨⟨j + 1, by omega, nI_1 j, ?_, ha⟩, mu⟩, fun q => ⟨fun q2 => ⟨⟨j + 1, by omega, nI_1 j, ?_, ha⟩, mu⟩, fun q2 => ⟨fun e => ?_, ⟨j + 1, by omega, nI_1 j, ?_, ha⟩, mu⟩⟩⟩
        · rw [gnS, hGj, gnF, if_pos (Or.inl q)]
        · rw [gnS, hGj, gnF, if_pos (Or.inr ((lN_pos how).mp q2))]
        · have h1 := (lN_pos hal).mp (by rw [e]; decide)
          have h2 := own_le of st am kn x1 x2 j i
          exact q2 ((lN_pos how).mpr (by omega))
        · rw [gnS, hGj, gnF, if_neg (fun e => e.elim q (fun e => q2 ((lN_pos how).mpr e)))]
      · have hlt2 : i < z := Nat.not_le.mp fun q => c ((ile (by omega) (by omega)).mpr q)
        have mu2 := mu1 hlt2 (by omega)
        have hv : vp_in (nI i) 200 := vi (by omega)
        obtain ⟨ha1, ha2⟩ := am_le (hK.2 i hlt2).2
        have e64 : (am i).toInt64 = lN (am i).toNatClampNeg := by
          have := nI_l (n := (am i).toNatClampNeg) (by omega)
          rw [← ha2] at this; exact this
        have e0 : (0 : Int32).toInt64 = 0 := by decide
        refine ⟨hv, fun c3 => ⟨⟨i + 1, by omega, nI_1 i, (by trivial), (by trivial), ?_, ?_, ha⟩, mu2⟩, fun c3 => ⟨hv, fun c4 => ⟨⟨i + 1, by omega, nI_1 i, (by trivial), (by trivial), ?_, ?_, ha⟩, mu2⟩, fun c4 => ⟨hv, hv, fun c5 => ⟨⟨i + 1, by omega, nI_1 i, (by trivial), (by trivial), ?_, ?_, ha⟩, mu2⟩, fun c5 => ⟨hv, ⟨i + 1, by omega, nI_1 i, (by trivial), (by trivial), ?_, ?_, ha⟩, mu2⟩⟩⟩⟩
        · rw [allN, if_neg (fun q => c3 q.2)]; rfl
        · rw [ownN, if_neg (fun q => c3 q.2.1)]; rfl
        · rw [allN, if_neg (fun q => q.1 c4)]; rfl
        · rw [ownN, if_neg (fun q => q.1 c4)]; rfl
        · rw [allN, if_pos ⟨c4, c3⟩, e64, lN_add]
        · rw [ownN, if_neg (fun q => c5 q.2.2)]
          first | (rw [e0, Int64.add_zero]; rfl) | (rw [Int64.add_zero]; rfl)
        · rw [allN, if_pos ⟨c4, c3⟩, e64, lN_add]
        · rw [ownN, if_pos ⟨c4, c3, c5⟩, e64, lN_add]
  · have := h 0 seen d0 d1 d2 d3
    rwa [gainR, if_neg (fun q => c2 q.2)] at this
  · have := h 0 seen d0 d1 d2 d3
    rwa [gainR, if_neg (fun q => c1 q.1)] at this
