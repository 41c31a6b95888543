/-! the river: heights as known on a day -/
def rawS (days heights known : Nat → Int32) (K last : Int32) : Nat → Nat → Int32
  | 0 => fun _ => -1
  | i + 1 => if known i ≤ K ∧ days i ≤ last then upd (rawS days heights known K last i) (days i).toNatClampNeg (heights i) else rawS days heights known K last i
def carS (r : Nat → Int32) : Nat → Int32
  | 0 => 0
  | d + 1 => if r d = -1 then carS r d else r d
def pkS (r : Nat → Int32) : Nat → Int32
  | 0 => 0
  | d + 1 => if pkS r d < carS r (d + 1) then carS r (d + 1) else pkS r d
def RI (n : Nat) (days heights : Nat → Int32) : Prop := n ≤ 300 ∧ ∀ i, i < n → ok (days i) 119 ∧ 0 ≤ heights i
theorem raw_ge {n : Nat} {days heights known : Nat → Int32} (h : RI n days heights) (K last : Int32) : ∀ i, i ≤ n → ∀ d, rawS days heights known K last i d = -1 ∨ 0 ≤ rawS days heights known K last i d := by
  intro i
  induction i with
  | zero => intro _ d; exact Or.inl rfl
  | succ i ih =>
    intro hi d
    unfold rawS
    split
    · by_cases hd : d = (days i).toNatClampNeg
      · subst hd; rw [upd_s]; exact Or.inr (h.2 i (by omega)).2
      · rw [upd_n _ _ hd]; exact ih (by omega) d
    · exact ih (by omega) d
theorem sp_carryOn {pk : Int32} {seen r : Nat → Int32} {Q : Int32 → (Nat → Int32) → Prop} (hr : ∀ d, d < 120 → seen d = r d) (h : ∀ a, (∀ d, d < 120 → a d = carS r (d + 1)) → Q (pkS r 120) a) : wp_X4_carryOn pk seen Q := by
  unfold wp_X4_carryOn wp_X4_carryOn_b9
  refine ⟨fun p a t1 t2 => ∃ k, k ≤ 120 ∧ t2 = nI k ∧ t1 = carS r k ∧ p = pkS r k ∧ (∀ d, d < k → a d = carS r (d + 1)) ∧ ∀ d, k ≤ d → d < 120 → a d = r d, fun _ _ _ t => 120 - t.toNatClampNeg, ⟨0, by omega, rfl, rfl, rfl, fun d hd => by omega, fun d _ hd => hr d hd⟩, ?_⟩
  rintro p a t1 t2 ⟨k, hk, rfl, rfl, rfl, h1, h2⟩
  have hc := cl (k := k) (by omega)
  simp only [wp_X4_carryOn_b32, hc]
  refine ⟨fun c => ?_, fun c => ?_⟩
  · have : 120 ≤ k := (ile (by decide) (by omega)).mp c
    have hk' : k = 120 := by omega
    subst hk'
    exact h a h1
  · have hlt : k < 120 := Nat.not_le.mp fun q => c ((ile (by decide) (by omega)).mpr q)
    refine ⟨vi hlt, fun c1 => ⟨vi hlt, ⟨k + 1, by omega, nI_1 k, ?_, ?_, ?_, ?_⟩, mu1 hlt⟩, fun c1 => ⟨vi hlt, vi hlt, ⟨k + 1, by omega, nI_1 k, ?_, ?_, ?_, ?_⟩, mu1 hlt⟩⟩
    · rw [h2 k (Nat.le_refl _) hlt] at c1 ⊢
      rw [carS, if_neg c1]
    · rw [h2 k (Nat.le_refl _) hlt] at c1 ⊢
      rw [pkS, carS, if_neg c1]
    · intro d hd
      by_cases e : d = k
      · subst e
        rw [h2 d (Nat.le_refl _) hlt] at c1 ⊢
        rw [carS, if_neg c1]
      · exact h1 d (by omega)
    · intro d hd hd2; exact h2 d (by omega) hd2
    · rw [upd_s, carS, if_pos (by rw [← h2 k (Nat.le_refl _) hlt]; exact c1)]
    · have hcar : carS r (k + 1) = carS r k := by rw [carS, if_pos (by rw [← h2 k (Nat.le_refl _) hlt]; exact c1)]
      rw [upd_s, pkS, hcar]
    · intro d hd
      by_cases e : d = k
      · subst e
        rw [upd_s, carS, if_pos (by rw [← h2 d (Nat.le_refl _) hlt]; exact c1)]
      · rw [upd_n _ _ e]; exact h1 d (by omega)
    · intro d hd hd2
      rw [upd_n _ _ (by omega)]; exact h2 d (by omega) hd2
theorem sp_lookUpTo {n : Nat} {pk last K : Int32} {days heights known seen : Nat → Int32} {Q : Int32 → (Nat → Int32) → Prop} (hR : RI n days heights) (h : ∀ a, (∀ d, d < 120 → a d = carS (rawS days heights known K last n) (d + 1)) → Q (pkS (rawS days heights known K last n) 120) a) : wp_X4_lookUpTo (nI n) pk days heights known seen last K Q := by
  have hn := hR.1
  unfold wp_X4_lookUpTo wp_X4_lookUpTo_b2
  refine ⟨fun _ a t => ∃ k, k ≤ 120 ∧ t = nI k ∧ ∀ d, d < k → a d = -1, fun _ _ t => 120 - t.toNatClampNeg, ⟨0, by omega, rfl, fun d hd => by omega⟩, ?_⟩
  rintro p a t ⟨k, hk, rfl, h1⟩
  have hc := cl (k := k) (by omega)
  simp only [hc]
  refine ⟨fun c => ?_, fun c => ?_⟩
  · have : 120 ≤ k := (ile (by decide) (by omega)).mp c
    have hk' : k = 120 := by omega
    subst hk'
    unfold wp_X4_lookUpTo_b23
    refine ⟨fun _ a t => ∃ i, i ≤ n ∧ t = nI i ∧ ∀ d, d < 120 → a d = rawS days heights known K last i d, fun _ _ t => n - t.toNatClampNeg, ⟨0, by omega, rfl, fun d hd => h1 d hd⟩, ?_⟩
    rintro p a t ⟨i, hi, rfl, h2⟩
    have hc := cl (k := i) (by omega)
    simp only [wp_X4_lookUpTo_b68, hc]
    refine ⟨fun c => ?_, fun c => ?_⟩
    · have : n ≤ i := (ile (by omega) (by omega)).mp c
      have hi' : i = n := by omega
      subst hi'
      exact sp_carryOn h2 h
    · have hlt : i < n := Nat.not_le.mp fun q => c ((ile (by omega) (by omega)).mpr q)
      have hv : vp_in (nI i) 300 := vi (by omega)
      have hd := (hR.2 i hlt).1
      have hdi : vp_in (days i) 120 := vi_ok (n := 119) hd
      have mu := mu1 (n := n) (k := i) hlt (by omega)
      refine ⟨hv, fun c1 => ⟨⟨i + 1, by omega, nI_1 i, fun d hd => ?_⟩, mu⟩, fun c1 => ⟨hv, fun c2 => ⟨⟨i + 1, by omega, nI_1 i, fun d hd => ?_⟩, mu⟩, fun c2 => ⟨hv, hv, hdi, ⟨i + 1, by omega, nI_1 i, fun d hd => ?_⟩, mu⟩⟩⟩
      · rw [rawS, if_neg (fun q => Int32.not_le.mpr c1 q.1)]; exact h2 d hd
      · rw [rawS, if_neg (fun q => Int32.not_le.mpr c2 q.2)]; exact h2 d hd
      · rw [rawS, if_pos ⟨Int32.not_lt.mp c1, Int32.not_lt.mp c2⟩]
        by_cases e : d = (days i).toNatClampNeg
        · subst e; rw [upd_s, upd_s]
        · rw [upd_n _ _ e, upd_n _ _ e]; exact h2 d hd
  · have hlt : k < 120 := Nat.not_le.mp fun q => c ((ile (by decide) (by omega)).mpr q)
    refine ⟨vi hlt, ⟨k + 1, by omega, nI_1 k, fun d hd => ?_⟩, mu1 hlt⟩
    by_cases e : d = k
    · subst e; rw [upd_s]
    · rw [upd_n _ _ e]; exact h1 d (by omega)
theorem sp_find {n : Nat} {last K : Int32} {days heights known seen : Nat → Int32} {Q : (Nat → Int32) → Prop} (hR : RI n days heights) (h : ∀ a, (∀ d, d < 120 → a d = carS (rawS days heights known K last n) (d + 1)) → Q a) : wp_X8_find (nI n) days heights known seen K last Q := by
  have hn := hR.1
  unfold wp_X8_find wp_X8_find_b2
  refine ⟨fun a t => ∃ k, k ≤ 120 ∧ t = nI k ∧ ∀ d, d < k → a d = -1, fun _ t => 120 - t.toNatClampNeg, ⟨0, by omega, rfl, fun d hd => by omega⟩, ?_⟩
  rintro a t ⟨k, hk, rfl, h1⟩
  have hc := cl (k := k) (by omega)
  simp only [hc]
  refine ⟨fun c => ?_, fun c => ?_⟩
  · have : 120 ≤ k := (ile (by decide) (by omega)).mp c
    have hk' : k = 120 := by omega
    subst hk'
    unfold wp_X8_find_b23
    refine ⟨fun a t => ∃ i, i ≤ n ∧ t = nI i ∧ ∀ d, d < 120 → a d = rawS days heights known K last i d, fun _ t => n - t.toNatClampNeg, ⟨0, by omega, rfl, fun d hd => h1 d hd⟩, ?_⟩
    rintro a t ⟨i, hi, rfl, h2⟩
    have hc := cl (k := i) (by omega)
    simp only [wp_X8_find_b68, hc]
    refine ⟨fun c => ?_, fun c => ?_⟩
    · have : n ≤ i := (ile (by omega) (by omega)).mp c
      have hi' : i = n := by omega
      subst hi'
      have hg := fun d => raw_ge hR (known := known) K last i (Nat.le_refl _) d
      generalize rawS days heights known K last i = r at h h2 hg
      unfold wp_X8_find_b79
      refine ⟨fun a t1 t2 => ∃ k, k ≤ 120 ∧ t2 = nI k ∧ t1 = carS r k ∧ (∀ d, d < k → a d = carS r (d + 1)) ∧ ∀ d, k ≤ d → d < 120 → a d = r d, fun _ _ t => 120 - t.toNatClampNeg, ⟨0, by omega, rfl, rfl, fun d hd => by omega, fun d _ hd => h2 d hd⟩, ?_⟩
      rintro a t1 t2 ⟨k, hk, rfl, rfl, h1, h2⟩
      have hc := cl (k := k) (by omega)
      simp only [wp_X8_find_b113, hc, upd_s]
      refine ⟨fun c => ?_, fun c => ?_⟩
      · have : 120 ≤ k := (ile (by decide) (by omega)).mp c
        have hk' : k = 120 := by omega
        subst hk'
        exact h a h1
      · have hlt : k < 120 := Nat.not_le.mp fun q => c ((ile (by decide) (by omega)).mpr q)
        have hv := vi hlt
        have hrest : ∀ x : Int32, x = carS r (k + 1) → (∀ d, d < k + 1 → upd a k x d = carS r (d + 1)) ∧ ∀ d, k + 1 ≤ d → d < 120 → upd a k x d = r d := by
          intro x hx
          refine ⟨fun d hd => ?_, fun d hd hd2 => ?_⟩
          · by_cases e : d = k
            · subst e; rw [upd_s]; exact hx
            · rw [upd_n _ _ e]; exact h1 d (by omega)
          · rw [upd_n _ _ (by omega)]; exact h2 d (by omega) hd2
        have e2 := h2 k (Nat.le_refl _) hlt
        refine ⟨hv, fun c1 => ?_, fun c1 => ?_⟩
        · have hx : a k = carS r (k + 1) := by
            rw [e2] at c1 ⊢
            rw [carS, if_neg (fun q => by rw [q] at c1; exact absurd c1 (by decide))]
          exact ⟨hv, hv, hv, ⟨k + 1, by omega, nI_1 k, hx, hrest _ hx⟩, mu1 hlt⟩
        · have hx : carS r k = carS r (k + 1) := by
            rw [e2] at c1
            rw [carS, if_pos ((hg k).resolve_right c1)]
          exact ⟨hv, hv, ⟨k + 1, by omega, nI_1 k, hx, hrest _ hx⟩, mu1 hlt⟩
    · have hlt : i < n := Nat.not_le.mp fun q => c ((ile (by omega) (by omega)).mpr q)
      have hv : vp_in (nI i) 300 := vi (by omega)
      have hd := (hR.2 i hlt).1
      have hdi : vp_in (days i) 120 := vi_ok (n := 119) hd
      have mu := mu1 (n := n) (k := i) hlt (by omega)
      refine ⟨hv, fun c1 => ⟨⟨i + 1, by omega, nI_1 i, fun d hd => ?_⟩, mu⟩, fun c1 => ⟨hv, fun c2 => ⟨⟨i + 1, by omega, nI_1 i, fun d hd => ?_⟩, mu⟩, fun c2 => ⟨hv, hv, hdi, ⟨i + 1, by omega, nI_1 i, fun d hd => ?_⟩, mu⟩⟩⟩
      · rw [rawS, if_neg (fun q => Int32.not_le.mpr c1 q.1)]; exact h2 d hd
      · rw [rawS, if_neg (fun q => Int32.not_le.mpr c2 q.2)]; exact h2 d hd
      · rw [rawS, if_pos ⟨Int32.not_lt.mp c1, Int32.not_lt.mp c2⟩]
        by_cases e : d = (days i).toNatClampNeg
        · subst e; rw [upd_s, upd_s]
        · rw [upd_n _ _ e, upd_n _ _ e]; exact h2 d hd
  · have hlt : k < 120 := Nat.not_le.mp fun q => c ((ile (by decide) (by omega)).mpr q)
    refine ⟨vi hlt, ⟨k + 1, by omega, nI_1 k, fun d hd => ?_⟩, mu1 hlt⟩
    by_cases e : d = k
    · subst e; rw [upd_s]
    · rw [upd_n _ _ e]; exact h1 d (by omega)
theorem sp_peakOf {r seen : Nat → Int32} {Q : Int32 → Prop} (hs : ∀ d, d < 120 → seen d = carS r (d + 1)) (h : Q (pkS r 120)) : wp_X8_peakOf seen Q := by
  unfold wp_X8_peakOf wp_X8_peakOf_b4
  refine ⟨fun p t => ∃ k, k ≤ 120 ∧ t = nI k ∧ p = pkS r k, fun _ t => 120 - t.toNatClampNeg, ⟨0, by omega, rfl, rfl⟩, ?_⟩
  rintro p t ⟨k, hk, rfl, rfl⟩
  have hc := cl (k := k) (by omega)
  simp only [wp_X8_peakOf_b30, hc]
  refine ⟨fun c => ?_, fun c => ?_⟩
  · have : 120 ≤ k := (ile (by decide) (by omega)).mp c
    have hk' : k = 120 := by omega
    subst hk'
    exact h
  · have hlt : k < 120 := Nat.not_le.mp fun q => c ((ile (by decide) (by omega)).mpr q)
    rw [hs k hlt]
    refine ⟨vi hlt, fun c1 => ⟨⟨k + 1, by omega, nI_1 k, ?_⟩, mu1 hlt⟩, fun c1 => ⟨vi hlt, ⟨k + 1, by omega, nI_1 k, ?_⟩, mu1 hlt⟩⟩
    · rw [pkS, if_neg (Int32.not_lt.mpr c1)]
    · rw [pkS, if_pos (Int32.not_le.mp c1)]
/-! wet days -/
def wetS (r : Nat → Int32) (lev : Int32) : Nat → Int32
  | 0 => 0
  | d + 1 => if carS r (d + 1) < lev then wetS r lev d else wetS r lev d + 1
theorem sp_wetDays {r seen : Nat → Int32} {lev : Int32} {Q : Int32 → Prop} (hs : ∀ d, d < 120 → seen d = carS r (d + 1)) (h : Q (wetS r lev 120)) : wp_X4_wetDays seen lev Q := by
  unfold wp_X4_wetDays wp_X4_wetDays_b4
  refine ⟨fun p t => ∃ k, k ≤ 120 ∧ t = nI k ∧ p = wetS r lev k, fun _ t => 120 - t.toNatClampNeg, ⟨0, by omega, rfl, rfl⟩, ?_⟩
  rintro p t ⟨k, hk, rfl, rfl⟩
  have hc := cl (k := k) (by omega)
  simp only [wp_X4_wetDays_b23, hc]
  refine ⟨fun c => ?_, fun c => ?_⟩
  · have : 120 ≤ k := (ile (by decide) (by omega)).mp c
    have hk' : k = 120 := by omega
    subst hk'
    exact h
  · have hlt : k < 120 := Nat.not_le.mp fun q => c ((ile (by decide) (by omega)).mpr q)
    rw [hs k hlt]
    refine ⟨vi hlt, fun c1 => ⟨⟨k + 1, by omega, nI_1 k, ?_⟩, mu1 hlt⟩, fun c1 => ⟨⟨k + 1, by omega, nI_1 k, ?_⟩, mu1 hlt⟩⟩
    · rw [wetS, if_pos c1]
    · rw [wetS, if_neg c1]
theorem sp_wetOf {r seen levels : Nat → Int32} {s : Nat} {Q : Int32 → Prop} (hi : s < 24) (hs : ∀ d, d < 120 → seen d = carS r (d + 1)) (h : Q (wetS r (levels s) 120)) : wp_X8_wetOf seen levels (nI s) Q := by
  unfold wp_X8_wetOf wp_X8_wetOf_b4
  refine ⟨fun p t => ∃ k, k ≤ 120 ∧ t = nI k ∧ p = wetS r (levels s) k, fun _ t => 120 - t.toNatClampNeg, ⟨0, by omega, rfl, rfl⟩, ?_⟩
  rintro p t ⟨k, hk, rfl, rfl⟩
  have hc := cl (k := k) (by omega)
  have hc2 := cl (k := s) (by omega)
  simp only [wp_X8_wetOf_b31, hc, hc2]
  refine ⟨fun c => ?_, fun c => ?_⟩
  · have : 120 ≤ k := (ile (by decide) (by omega)).mp c
    have hk' : k = 120 := by omega
    subst hk'
    exact h
  · have hlt : k < 120 := Nat.not_le.mp fun q => c ((ile (by decide) (by omega)).mpr q)
    rw [hs k hlt]
    refine ⟨vi hlt, vi hi, fun c1 => ⟨⟨k + 1, by omega, nI_1 k, ?_⟩, mu1 hlt⟩, fun c1 => ⟨⟨k + 1, by omega, nI_1 k, ?_⟩, mu1 hlt⟩⟩
    · rw [wetS, if_pos c1, Int32.add_zero]
    · rw [wetS, if_neg c1]
