/-! bits of an Int32: pasted from the given laws (BITS) -/
def bt (x : Int32) (i : Nat) : Bool := x.toBitVec.getLsbD i
theorem b_ext {x y : Int32} (h : ∀ i, i < 32 → bt x i = bt y i) : x = y := Int32.toBitVec_inj.mp (BitVec.eq_of_getLsbD_eq (fun i hi => h i hi))
theorem b_and (x y : Int32) (i : Nat) : bt (x &&& y) i = (bt x i && bt y i) := by unfold bt; rw [Int32.toBitVec_and, BitVec.getLsbD_and]
theorem b_big {x : Int32} {i : Nat} (h : 32 ≤ i) : bt x i = false := BitVec.getLsbD_of_ge _ _ h
theorem b_255 (i : Nat) : bt 255 i = decide (i < 8) := by
  rcases Nat.lt_or_ge i 32 with h | h
  · exact (by decide +kernel : ∀ i, i < 32 → bt 255 i = decide (i < 8)) i h
  · rw [b_big h, decide_eq_false (by omega)]
theorem s_l : ∀ n, n < 32 → ((nI n &&& 31).toBitVec.smod 32).toNat = n := by decide +kernel
theorem s_u : ∀ n, n < 32 → (((nI n).toUInt32 &&& Int32.toUInt32 31).toBitVec % 32).toNat = n := by decide +kernel
theorem b_ushr (n : Nat) (hn : n < 32) (x : Int32) (i : Nat) : bt ((x.toUInt32 >>> ((nI n).toUInt32 &&& Int32.toUInt32 31)).toInt32) i = bt x (n + i) := by
  show (x.toUInt32 >>> ((nI n).toUInt32 &&& Int32.toUInt32 31)).toBitVec.getLsbD i = x.toUInt32.toBitVec.getLsbD (n + i)
  rw [UInt32.toBitVec_shiftRight]
  show (x.toUInt32.toBitVec >>> (((nI n).toUInt32 &&& Int32.toUInt32 31).toBitVec % 32).toNat).getLsbD i = _
  rw [s_u n hn, BitVec.getLsbD_ushiftRight]
theorem b_sshr (n : Nat) (hn : n < 32) (x : Int32) {i : Nat} (hi : i < 32) : bt (x >>> (nI n &&& 31)) i = if n + i < 32 then bt x (n + i) else bt x 31 := by
  unfold bt
  rw [Int32.toBitVec_shiftRight]
  show (x.toBitVec.sshiftRight ((nI n &&& 31).toBitVec.smod 32).toNat).getLsbD i = _
  rw [s_l n hn, BitVec.getLsbD_sshiftRight, BitVec.msb_eq_getLsbD_last]
  simp [hi]
theorem byte_eq (n : Nat) (hn : n ≤ 24) (x : Int32) : ((x.toUInt32 >>> ((nI n).toUInt32 &&& Int32.toUInt32 31)).toInt32) &&& 255 = (x >>> (nI n &&& 31)) &&& 255 := by
  apply b_ext
  intro i hi
  rw [b_and, b_and, b_255, b_ushr n (by omega), b_sshr n (by omega) x hi]
  by_cases h : i < 8
  · rw [if_pos (by omega)]
  · rw [decide_eq_false h]; simp
/-! the tape is fed -/
def tS : Nat → Nat
  | 0 => 24
  | 1 => 16
  | 2 => 8
  | _ => 0
def tF (f : Nat → Int32) (len : Nat) (x : Int32) : Nat → Nat → Int32
  | 0 => f
  | j + 1 => upd (tF f len x j) (len + j) ((x >>> (nI (tS j) &&& 31)) &&& 255)
def tV (j : Nat) : Int32 := if j < 4 then nI (tS j) else -8
theorem tV_step : ∀ j, j < 4 → tV j + (-8) = tV (j + 1) ∧ ¬ tV j < 0 ∧ (tV (j + 1) + 8).toNatClampNeg < (tV j + 8).toNatClampNeg ∧ tV j = nI (tS j) ∧ tS j ≤ 24 := by decide
theorem sp_append {t : Nat} {bytes : Nat → Int32} {x : Int32} {Q : Int32 → (Nat → Int32) → Prop} (ht : t + 4 ≤ 200) (h : Q (nI (t + 4)) (tF bytes t x 4)) : wp_X6_append (nI t) bytes x Q := by
  unfold wp_X6_append wp_X6_append_b3
  refine ⟨fun l a s => ∃ j, j ≤ 4 ∧ s = tV j ∧ l = nI (t + j) ∧ a = tF bytes t x j, fun _ _ s => (s + 8).toNatClampNeg, ⟨0, by omega, by decide, rfl, rfl⟩, ?_⟩
  rintro l a s ⟨j, hj, rfl, rfl, rfl⟩
  have hc := cl (k := t + j) (by omega)
  simp only [wp_X6_append_b43, hc]
  by_cases e : j = 4
  · subst e
    exact ⟨fun _ => h, fun q => absurd (by decide : tV 4 < 0) q⟩
  · obtain ⟨h1, h2, h3, h4, h5⟩ := tV_step j (by omega)
    refine ⟨fun q => absurd q h2, fun _ => ⟨fun q => ?_, fun _ => ⟨vi (by omega), ⟨j + 1, by omega, h1, nI_1 _, ?_⟩, ?_⟩⟩⟩
    · have : 200 ≤ t + j := (ile (by decide) (by omega)).mp q
      omega
    · rw [tF, h4, byte_eq _ h5]
    · rw [h1]; exact h3
theorem sp_four {t : Nat} {bytes : Nat → Int32} {x : Int32} {Q : Int32 → (Nat → Int32) → Prop} (ht : t + 4 ≤ 200) (h : Q (nI (t + 4)) (tF bytes t x 4)) : wp_X8_four (nI t) bytes x Q := by
  unfold wp_X8_four wp_X8_four_b3
  refine ⟨fun l a s => ∃ j, j ≤ 4 ∧ s = tV j ∧ l = nI (t + j) ∧ a = tF bytes t x j, fun _ _ s => (s + 8).toNatClampNeg, ⟨0, by omega, by decide, rfl, rfl⟩, ?_⟩
  rintro l a s ⟨j, hj, rfl, rfl, rfl⟩
  have hc := cl (k := t + j) (by omega)
  simp only [hc]
  by_cases e : j = 4
  · subst e
    exact ⟨fun _ => h, fun q => absurd (by decide : tV 4 < 0) q⟩
  · obtain ⟨h1, h2, h3, h4, h5⟩ := tV_step j (by omega)
    refine ⟨fun q => absurd q h2, fun _ => ⟨vi (by omega), ⟨j + 1, by omega, h1, nI_1 _, ?_⟩, ?_⟩⟩
    · rw [tF, h4]
    · rw [h1]; exact h3
theorem bo_feed {t : Nat} {th x1 x2 x3 x4 x5 : Int32} {bytes : Nat → Int32} {F : Int32 → Int32 → (Nat → Int32) → Int32 → Int32 → Int32 → (Nat → Int32) → Prop} (ht : t ≤ 200) (h : ∀ r t' b', t' ≤ 200 → F r (nI t') b' r 0 (nI t') b') : wp_X7_feed (nI t) bytes x1 x2 x3 x4 x5 (fun r a b => wp_X8_feed th (nI t) bytes x1 x2 x3 x4 x5 (fun r' z a' b' => F r a b r' z a' b')) := by
  have e : nI t + 20 = nI (t + 20) := nI_add t 20
  unfold wp_X7_feed wp_X8_feed
  rw [e]
  refine ⟨fun c => ?_, fun c => ⟨fun q => absurd q c, fun _ => h _ _ _ ht⟩⟩
  have hlt : t + 20 ≤ 200 := (ile (by omega) (by decide)).mp c
  refine sp_append (by omega) (sp_append (by omega) (sp_append (by omega) (sp_append (by omega) (sp_append (by omega) ⟨fun _ => ?_, fun q => absurd c q⟩))))
  exact sp_four (by omega) (sp_four (by omega) (sp_four (by omega) (sp_four (by omega) (sp_four (by omega) (h _ _ _ (by omega))))))
theorem bo_end {t : Nat} {th x1 : Int32} {F : Int32 → Int32 → Int32 → Int32 → Int32 → Prop} (ht : t ≤ 200) (h : ∀ r t', t' ≤ 200 → F r (nI t') r 0 (nI t')) : wp_X7_end (nI t) x1 (fun r a => wp_X8_end th (nI t) x1 (fun r' z a' => F r a r' z a')) := by
  unfold wp_X7_end wp_X8_end wp_X8_end_b17
  refine sp_isWithin (fun c => in1 ⟨fun q => absurd c.1 (Int32.not_le.mpr q), fun _ => ⟨fun _ => ?_, fun q => absurd c.2 q⟩⟩) (fun c => in0 ⟨fun _ => h _ _ ht, fun d => ⟨fun q => absurd ⟨Int32.not_lt.mp d, q⟩ c, fun _ => h _ _ ht⟩⟩)
  obtain ⟨j, hj, rfl⟩ := ok_nI (n := t) c (by omega)
  exact h _ _ (by omega)
/-! counts -/
def lostF (lost : Nat → Int32) : Nat → Int32
  | 0 => 0
  | k + 1 => if lost k = 0 then lostF lost k else lostF lost k + 1
theorem sp_lostMarks {m : Nat} {lost : Nat → Int32} {Q : Int32 → Prop} (hm : m ≤ 24) (h : Q (lostF lost (m + 1))) : wp_X2_lostMarks (nI m) lost Q := by
  unfold wp_X2_lostMarks wp_X2_lostMarks_b4
  refine ⟨fun a t => ∃ k, k ≤ m + 1 ∧ t = nI k ∧ a = lostF lost k, fun _ t => (m + 1) - t.toNatClampNeg, ⟨0, by omega, rfl, rfl⟩, ?_⟩
  rintro a t ⟨k, hk, rfl, rfl⟩
  have hc := cl (k := k) (by omega)
  simp only [wp_X2_lostMarks_b24, hc]
  refine ⟨fun c => ?_, fun c => ?_⟩
  · have : m < k := (ilt (by omega) (by omega)).mp c
    have e : k = m + 1 := by omega
    subst e; exact h
  · have hlt : k < m + 1 := by
      have : ¬ m < k := fun q => c ((ilt (by omega) (by omega)).mpr q)
      omega
    have mu := mu1 hlt (by omega)
    exact ⟨vi (by omega), fun c1 => ⟨⟨k + 1, by omega, nI_1 k, by rw [lostF, if_pos c1]⟩, mu⟩, fun c1 => ⟨⟨k + 1, by omega, nI_1 k, by rw [lostF, if_neg c1]⟩, mu⟩⟩
theorem sp_allWidths {m : Nat} {w : Nat → Int32} {Q : Int32 → Prop} (hm : m ≤ 24) (h : Q (sumH w m)) : wp_X2_allWidths (nI m) w Q := by
  unfold wp_X2_allWidths wp_X2_allWidths_b4
  refine ⟨fun a t => ∃ k, k ≤ m ∧ t = nI k ∧ a = sumH w k, fun _ t => m - t.toNatClampNeg, ⟨0, by omega, rfl, rfl⟩, ?_⟩
  rintro a t ⟨k, hk, rfl, rfl⟩
  have hc := cl (k := k) (by omega)
  simp only [hc]
  refine ⟨fun c => ?_, fun c => ?_⟩
  · have : m ≤ k := (ile (by omega) (by omega)).mp c
    have e : k = m := by omega
    subst e; exact h
  · have hlt : k < m := Nat.not_le.mp fun q => c ((ile (by omega) (by omega)).mpr q)
    exact ⟨vi (by omega), ⟨k + 1, by omega, nI_1 k, rfl⟩, mu1 hlt (by omega)⟩
theorem bo_count {m : Nat} {th rd dc tp tk x1 : Int32} {w lost : Nat → Int32} {F : Int32 → Int32 → Int32 → Prop} (hm : m ≤ 24) (h : ∀ r z, F r r z) : wp_X7_count rd (nI m) w lost tp tk dc x1 (fun r => wp_X8_count th rd (nI m) dc tp tk w lost x1 (fun r' z => F r r' z)) := by
  have key : ∀ r : Int32, (x1 = 0 → r = rd) → (x1 = 1 → r = nI m) → (x1 = 2 → r = lostF lost (m + 1)) → (x1 = 3 → r = dc) → (x1 = 4 → r = tk) → (x1 = 5 → r = tp) → (x1 = 6 → r = sumH w m) → (¬ x1 = 0 ∧ ¬ x1 = 1 ∧ ¬ x1 = 2 ∧ ¬ x1 = 3 ∧ ¬ x1 = 4 ∧ ¬ x1 = 5 ∧ ¬ x1 = 6 → r = -1) → wp_X8_count th rd (nI m) dc tp tk w lost x1 (fun r' z => F r r' z) := by
    intro r k0 k1 k2 k3 k4 k5 k6 k7
    unfold wp_X8_count
    refine ⟨fun c => by rw [← k0 c]; exact h _ _, fun c => by rw [← k1 c]; exact h _ _, fun c => ?_, fun c => by rw [← k3 c]; exact h _ _, fun c => by rw [← k4 c]; exact h _ _, fun c => by rw [← k5 c]; exact h _ _, fun c => ?_, fun c => by rw [← k7 c]; exact h _ _⟩
    · unfold wp_X8_count_b64
      refine ⟨fun _ a t => ∃ k, k ≤ m + 1 ∧ t = nI k ∧ a = lostF lost k, fun _ _ t => (m + 1) - t.toNatClampNeg, ⟨0, by omega, rfl, rfl⟩, ?_⟩
      rintro z a t ⟨k, hk, rfl, rfl⟩
      have hc := cl (k := k) (by omega)
      simp only [wp_X8_count_b87, hc]
      refine ⟨fun c' => ?_, fun c' => ?_⟩
      · have : m < k := (ilt (by omega) (by omega)).mp c'
        have e : k = m + 1 := by omega
        subst e; rw [← k2 c]; exact h _ _
      · have hlt : k < m + 1 := by
          have : ¬ m < k := fun q => c' ((ilt (by omega) (by omega)).mpr q)
          omega
        have mu := mu1 hlt (by omega)
        exact ⟨vi (by omega), fun c1 => ⟨⟨k + 1, by omega, nI_1 k, by rw [lostF, if_pos c1, Int32.add_zero]⟩, mu⟩, fun c1 => ⟨⟨k + 1, by omega, nI_1 k, by rw [lostF, if_neg c1]⟩, mu⟩⟩
    · unfold wp_X8_count_b114
      refine ⟨fun _ a t => ∃ k, k ≤ m ∧ t = nI k ∧ a = sumH w k, fun _ _ t => m - t.toNatClampNeg, ⟨0, by omega, rfl, rfl⟩, ?_⟩
      rintro z a t ⟨k, hk, rfl, rfl⟩
      have hc := cl (k := k) (by omega)
      simp only [hc]
      refine ⟨fun c' => ?_, fun c' => ?_⟩
      · have : m ≤ k := (ile (by omega) (by omega)).mp c'
        have e : k = m := by omega
        subst e; rw [← k6 c]; exact h _ _
      · have hlt : k < m := Nat.not_le.mp fun q => c' ((ile (by omega) (by omega)).mpr q)
        exact ⟨vi (by omega), ⟨k + 1, by omega, nI_1 k, rfl⟩, mu1 hlt (by omega)⟩
  have ne : ∀ {a b : Int32}, x1 = a → ¬ a = b → ¬ x1 = b := fun h1 h2 q => h2 (by rw [← h1]; exact q)
  unfold wp_X7_count
  refine ⟨fun c => ?_, fun c => ?_, fun c => sp_lostMarks hm ?_, fun c => ?_, fun c => ?_, fun c => ?_, fun c => sp_allWidths hm ?_, fun c => ?_⟩
  · exact key _ (fun _ => rfl) (fun q => absurd q (ne c (by decide))) (fun q => absurd q (ne c (by decide))) (fun q => absurd q (ne c (by decide))) (fun q => absurd q (ne c (by decide))) (fun q => absurd q (ne c (by decide))) (fun q => absurd q (ne c (by decide))) (fun q => absurd c q.1)
  · exact key _ (fun q => absurd q (ne c (by decide))) (fun _ => rfl) (fun q => absurd q (ne c (by decide))) (fun q => absurd q (ne c (by decide))) (fun q => absurd q (ne c (by decide))) (fun q => absurd q (ne c (by decide))) (fun q => absurd q (ne c (by decide))) (fun q => absurd c q.2.1)
  · exact key _ (fun q => absurd q (ne c (by decide))) (fun q => absurd q (ne c (by decide))) (fun _ => rfl) (fun q => absurd q (ne c (by decide))) (fun q => absurd q (ne c (by decide))) (fun q => absurd q (ne c (by decide))) (fun q => absurd q (ne c (by decide))) (fun q => absurd c q.2.2.1)
  · exact key _ (fun q => absurd q (ne c (by decide))) (fun q => absurd q (ne c (by decide))) (fun q => absurd q (ne c (by decide))) (fun _ => rfl) (fun q => absurd q (ne c (by decide))) (fun q => absurd q (ne c (by decide))) (fun q => absurd q (ne c (by decide))) (fun q => absurd c q.2.2.2.1)
  · exact key _ (fun q => absurd q (ne c (by decide))) (fun q => absurd q (ne c (by decide))) (fun q => absurd q (ne c (by decide))) (fun q => absurd q (ne c (by decide))) (fun _ => rfl) (fun q => absurd q (ne c (by decide))) (fun q => absurd q (ne c (by decide))) (fun q => absurd c q.2.2.2.2.1)
  · exact key _ (fun q => absurd q (ne c (by decide))) (fun q => absurd q (ne c (by decide))) (fun q => absurd q (ne c (by decide))) (fun q => absurd q (ne c (by decide))) (fun q => absurd q (ne c (by decide))) (fun _ => rfl) (fun q => absurd q (ne c (by decide))) (fun q => absurd c q.2.2.2.2.2.1)
  · exact key _ (fun q => absurd q (ne c (by decide))) (fun q => absurd q (ne c (by decide))) (fun q => absurd q (ne c (by decide))) (fun q => absurd q (ne c (by decide))) (fun q => absurd q (ne c (by decide))) (fun q => absurd q (ne c (by decide))) (fun _ => rfl) (fun q => absurd c q.2.2.2.2.2.2)
  · exact key _ (fun q => absurd q c.1) (fun q => absurd q c.2.1) (fun q => absurd q c.2.2.1) (fun q => absurd q c.2.2.2.1) (fun q => absurd q c.2.2.2.2.1) (fun q => absurd q c.2.2.2.2.2.1) (fun q => absurd q c.2.2.2.2.2.2) (fun _ => rfl)
/-! what officers took -/
def KI (z m : Nat) (st am : Nat → Int32) : Prop := z ≤ 200 ∧ ∀ i, i < z → isS m (st i) ∧ ok (am i) 1000000
theorem KI.up {z m m' : Nat} {st am : Nat → Int32} (h : KI z m st am) (hm : m ≤ m') (hm2 : m' ≤ 24) : KI z m' st am := ⟨h.1, fun i hi => ⟨⟨(h.2 i hi).1.1, by
  obtain ⟨s, hs, e⟩ := isS_nI (h.2 i hi).1 (by omega)
  rw [e]; exact (ilt (by omega) (by omega)).mpr (by omega)⟩, (h.2 i hi).2⟩⟩
theorem bo_take {m z : Nat} {rf st0 th x1 x2 x3 x4 : Int32} {of st am kn : Nat → Int32} {F : Int32 → Int32 → Int32 → (Nat → Int32) → (Nat → Int32) → (Nat → Int32) → (Nat → Int32) → Int32 → Int32 → Int32 → Int32 → (Nat → Int32) → (Nat → Int32) → (Nat → Int32) → (Nat → Int32) → Prop} (hm : m ≤ 24) (hK : KI z m st am)
    (h : ∀ r s' z' a' b' c' d', KI z' m b' c' → F r s' (nI z') a' b' c' d' r 0 s' (nI z') a' b' c' d') : wp_X7_take rf (nI m) (nI z) of st am kn x1 x2 x3 x4 (fun r a b c d e f => wp_X8_take th st0 (nI m) (nI z) of st am kn x1 x2 x3 x4 (fun r' t a' b' c' d' e' f' => F r a b c d e f r' t a' b' c' d' e' f')) := by
  have hz := hK.1
  have bad : ¬ (ok x1 9 ∧ ok x3 1000000 ∧ ok x4 1000) → wp_X7_take_b26 (nI m) x1 x2 x3 x4 (fun r a b c d e f => wp_X8_take th st0 (nI m) (nI z) of st am kn x1 x2 x3 x4 (fun r' t a' b' c' d' e' f' => F r a b c d e f r' t a' b' c' d' e' f')) rf (nI z) of st am kn := by
    intro hb
    unfold wp_X7_take_b26 wp_X7_refuse wp_X8_take wp_X8_take_b37
    refine sp_inw (a := 0) (b := 9) rfl rfl (fun c1 => if1 (sp_inw (a := 0) (b := 1000000) rfl rfl (fun c2 => if1 (sp_isKnown (fun c3 => absurd ⟨c1, c2, c3⟩ hb) (fun c3 => in0 ?_))) (fun c2 => if0 ?_))) (fun c1 => if0 ?_)
    all_goals exact sp_toldN neg1 (h _ _ _ _ _ _ _ hK)
  unfold wp_X7_take
  refine sp_isWithin (fun c1 => if1 (sp_isWithin (fun c2 => if1 (sp_isKnownDay (fun c3 => in1 (sp_hasStrip (fun c4 => in1 ⟨fun c5 => ?_, fun c5 => ?_⟩) (fun c4 => in0 ?_))) (fun c3 => in0 (bad fun q => c3 q.2.2)))) (fun c2 => if0 (bad fun q => c2 q.2.1)))) (fun c1 => if0 (bad fun q => c1 q.1))
  · have hlt : z < 200 := (ilt (by omega) (by decide)).mp c5
    have hc := cl (k := z) (by omega)
    have hv : vp_in (nI z) 200 := vi hlt
    unfold wp_X5_add wp_X7_accept
    refine ⟨hv, hv, hv, hv, ?_⟩
    unfold wp_X8_take
    refine sp_inw (a := 0) (b := 9) rfl rfl (fun _ => if1 (sp_inw (a := 0) (b := 1000000) rfl rfl (fun _ => if1 (sp_isKnown (fun _ => in1 (sp_isStrip hm (fun _ => in1 ⟨fun _ => ⟨hv, hv, hv, hv, ?_⟩, fun q => ?_⟩) (fun q => absurd c4 q))) (fun q => absurd c3 q))) (fun q => absurd c2 q))) (fun q => absurd c1 q)
    · have e : nI z + 1 = nI (z + 1) := nI_1 z
      rw [e, hc]
      refine sp_told0 (nI_pos' (by omega)) (h _ _ _ _ _ _ _ ⟨by omega, fun i hi => ?_⟩)
      by_cases ei : i = z
      · subst ei; rw [upd_s, upd_s]; exact ⟨c4, c2⟩
      · rw [upd_n _ _ ei, upd_n _ _ ei]; exact hK.2 i (by omega)
    · have := (nI_eq (a := z) (b := 200) (by omega) (by decide)).mp q
      omega
  · have hge : z = 200 := by
      have : ¬ z < 200 := fun q => c5 ((ilt (by omega) (by decide)).mpr q)
      omega
    unfold wp_X7_refuse wp_X8_take
    refine sp_inw (a := 0) (b := 9) rfl rfl (fun _ => if1 (sp_inw (a := 0) (b := 1000000) rfl rfl (fun _ => if1 (sp_isKnown (fun _ => in1 (sp_isStrip hm (fun _ => in1 ⟨fun q => absurd (by rw [hge]; rfl) q, fun _ => sp_toldN neg5 (h _ _ _ _ _ _ _ hK)⟩) (fun q => absurd c4 q))) (fun q => absurd c3 q))) (fun q => absurd c2 q))) (fun q => absurd c1 q)
  · unfold wp_X7_refuse wp_X8_take
    refine sp_inw (a := 0) (b := 9) rfl rfl (fun _ => if1 (sp_inw (a := 0) (b := 1000000) rfl rfl (fun _ => if1 (sp_isKnown (fun _ => in1 (sp_isStrip hm (fun q => absurd q c4) (fun _ => in0 (sp_toldN neg2 (h _ _ _ _ _ _ _ hK))))) (fun q => absurd c3 q))) (fun q => absurd c2 q))) (fun q => absurd c1 q)
