/-! strips and marks by their numbers -/
abbrev isS (m : Nat) (x : Int32) : Prop := 0 ≤ x ∧ x < nI m
abbrev isM (m : Nat) (x : Int32) : Prop := 0 < m ∧ 0 ≤ x ∧ x ≤ nI m
theorem isS_nI {m : Nat} {x : Int32} (h : isS m x) (hm : m ≤ 24) : ∃ s, s < m ∧ x = nI s := by
  obtain ⟨j, hj, rfl⟩ := nI_of (Int32.not_lt.mpr h.1)
  exact ⟨j, (ilt hj (by omega)).mp h.2, rfl⟩
theorem isM_nI {m : Nat} {x : Int32} (h : isM m x) (hm : m ≤ 24) : ∃ s, s ≤ m ∧ x = nI s := by
  obtain ⟨j, hj, rfl⟩ := nI_of (Int32.not_lt.mpr h.2.1)
  exact ⟨j, (ile hj (by omega)).mp h.2.2, rfl⟩
theorem sp_hasStrip {m : Nat} {x : Int32} {Q : Int32 → Prop} (h1 : isS m x → Q 1) (h0 : ¬ isS m x → Q 0) : wp_X2_hasStrip (nI m) x Q := by
  unfold wp_X2_hasStrip wp_X2_hasStrip_b16
  exact ⟨fun c => h0 fun q => absurd q.1 (Int32.not_le.mpr c), fun c => ⟨fun d => h0 fun q => absurd q.2 (Int32.not_lt.mpr d), fun d => h1 ⟨Int32.not_lt.mp c, Int32.not_le.mp d⟩⟩⟩
theorem m_pos {m : Nat} (hm : m ≤ 24) : ¬ nI m ≤ 0 ↔ 0 < m := by
  have := ile (a := m) (b := 0) (by omega) (by decide)
  constructor
  · intro h; exact Nat.pos_of_ne_zero fun q => h (by rw [q]; decide)
  · intro h q; have := this.mp q; omega
theorem sp_hasMark {m : Nat} {x : Int32} {Q : Int32 → Prop} (hm : m ≤ 24) (h1 : isM m x → Q 1) (h0 : ¬ isM m x → Q 0) : wp_X2_hasMark (nI m) x Q := by
  unfold wp_X2_hasMark wp_X2_hasMark_b23
  exact ⟨fun c => h0 fun q => (m_pos hm).mpr q.1 c, fun b => ⟨fun c => h0 fun q => absurd q.2.1 (Int32.not_le.mpr c), fun c => ⟨fun d => h0 fun q => absurd q.2.2 (Int32.not_le.mpr d), fun d => h1 ⟨(m_pos hm).mp b, Int32.not_lt.mp c, Int32.not_lt.mp d⟩⟩⟩⟩
theorem isS_l {m : Nat} {x : Int32} (hm : m ≤ 24) : ((0 : Int64) ≤ x.toInt64 ∧ x.toInt64 ≤ (nI m).toInt64 - 1) ↔ isS m x := by
  have e0 : (0 : Int64).toInt = 0 := by decide
  have e1 : (0 : Int32).toInt = 0 := by decide
  have e2 : (1 : Int64).toInt = 1 := by decide
  have e3 : ((nI m).toInt64 - 1).toInt = (m : Int) - 1 := by
    rw [nI_l (by omega), Int64.toInt_sub, lN_toInt (by omega), e2]
    rw [Int.bmod_eq_of_le (by omega) (by omega)]
  rw [isS, l_le, l_le, i_le, i_lt, e0, e1, e3, Int32.toInt_toInt64, nI_toInt (by omega)]
  omega
theorem sp_isStrip {m : Nat} {x : Int32} {Q : Int32 → Prop} (hm : m ≤ 24) (h1 : isS m x → Q 1) (h0 : ¬ isS m x → Q 0) : wp_X8_isStrip (nI m) x Q :=
  sp_in (fun c => ⟨z1, h1 ((isS_l hm).mp c)⟩) (fun c => ⟨z0, h0 fun q => c ((isS_l hm).mpr q)⟩)
theorem sp_isMark {m : Nat} {x : Int32} {Q : Int32 → Prop} (hm : m ≤ 24) (h1 : isM m x → Q 1) (h0 : ¬ isM m x → Q 0) : wp_X8_isMark (nI m) x Q := by
  unfold wp_X8_isMark wp_X8_isMark_b25
  refine ⟨fun c => h0 fun q => (m_pos hm).mpr q.1 c, fun b => sp_inw (a := 0) (b := nI m) rfl rfl (fun c => if1 (h1 ⟨(m_pos hm).mp b, c⟩)) (fun c => if0 (h0 fun q => c q.2))⟩
/-! a strip's harvest and tax, by what is seen -/
abbrev HV (r w lev td ts : Nat → Int32) (s : Nat) : Int32 := w s * borT td ts (wetS r (lev s) 120)
abbrev TX (n : Nat) (dS dA dB dC r w lev td ts : Nat → Int32) (s : Nat) : Int32 := taxF n dS dA dB dC (HV r w lev td ts s) (wetS r (lev s) 120) (pkS r 120)
abbrev RL_ (n : Nat) (dS dA dB dC r w lev td ts : Nat → Int32) (s : Nat) : Int32 := relF n dS dA dB dC (HV r w lev td ts s) (wetS r (lev s) 120) (pkS r 120)
abbrev OF (n : Nat) (dS dA dB dC r w lev td ts : Nat → Int32) (s : Nat) : Int32 := offF n dS dA dB dC (HV r w lev td ts s) (wetS r (lev s) 120) (pkS r 120)
theorem borT_ok {td ts : Nat → Int32} {wet : Int32} (hT : TI td ts) : ok (borT td ts wet) 100 := by
  unfold borT
  cases hi : itsT td wet 8 with
  | none => exact ⟨show (0 : Int32) ≤ 0 by decide, show (0 : Int32) ≤ 100 by decide⟩
  | some j => exact (hT j (itsT_lt td wet 8 j hi)).2
theorem hv_nn {a b : Int32} (ha : ok a 10000) (hb : ok b 100) : 0 ≤ a * b := by
  obtain ⟨i, hi, rfl⟩ := ok_nI (n := 10000) ha
  obtain ⟨j, hj, rfl⟩ := ok_nI (n := 100) hb
  rw [pk_mul]
  have : i * j ≤ 10000 * 100 := Nat.mul_le_mul hi hj
  exact nI_pos' (by omega)
theorem sp_look {n : Nat} {pk K : Int32} {days heights known seen : Nat → Int32} {Q : Int32 → (Nat → Int32) → Prop} (hR : RI n days heights) (h : ∀ a, (∀ d, d < 120 → a d = carS (rawS days heights known K 119 n) (d + 1)) → Q (pkS (rawS days heights known K 119 n) 120) a) : wp_X4_look (nI n) pk days heights known seen K Q := sp_lookUpTo hR h
theorem sp_harvestAfter {w td ts : Nat → Int32} {s : Nat} {wet : Int32} {Q : Int32 → Prop} (hi : s < 24) (hT : TI td ts) (h : Q (w s * borT td ts wet)) : wp_X7_harvestAfter w td ts (nI s) wet Q := by
  unfold wp_X7_harvestAfter
  refine ⟨vi hi, sp_borneAfter hT ?_⟩
  rw [cl (k := s) (by omega)]
  exact h
theorem sp_harvestSeen {r seen w lev td ts : Nat → Int32} {s : Nat} {Q : Int32 → Prop} (hi : s < 24) (hT : TI td ts) (hs : ∀ d, d < 120 → seen d = carS r (d + 1)) (h : Q (HV r w lev td ts s)) : wp_X7_harvestSeen seen w lev td ts (nI s) Q := by
  unfold wp_X7_harvestSeen
  refine ⟨vi hi, sp_wetDays hs ?_⟩
  rw [cl (k := s) (by omega)]
  exact sp_harvestAfter hi hT h
theorem sp_assessSeen {n s : Nat} {r seen w lev td ts kinds parts wholes bounds dS dA dB dC : Nat → Int32} {d0 d1 d2 d3 d4 : Int32} {Q : Int32 → Int32 → Int32 → Int32 → Int32 → Prop} (hi : s < 24) (hw : ok (w s) 10000) (hT : TI td ts) (hs : ∀ d, d < 120 → seen d = carS r (d + 1)) (hB : BR n kinds parts wholes bounds dS dA dB dC)
    (h : Q (TX n dS dA dB dC r w lev td ts s) (RL_ n dS dA dB dC r w lev td ts s) (OF n dS dA dB dC r w lev td ts s) (TX n dS dA dB dC r w lev td ts s - OF n dS dA dB dC r w lev td ts s) (HV r w lev td ts s - TX n dS dA dB dC r w lev td ts s)) : wp_X7_assessSeen (pkS r 120) seen w lev td ts d0 d1 d2 d3 d4 (nI n) kinds parts wholes bounds (nI s) Q := by
  unfold wp_X7_assessSeen
  refine ⟨vi hi, sp_wetDays hs ?_⟩
  rw [cl (k := s) (by omega)]
  exact sp_harvestAfter hi hT (sp_assess hB (hv_nn hw (borT_ok hT)) h)
/-! what is asked of the river and of strips: one answer for both -/
def heightR (n : Nat) (days heights known : Nat → Int32) (x1 x2 : Int32) : Int32 := if ok x1 119 ∧ ok x2 1000 then carS (rawS days heights known x2 119 n) (x1.toNatClampNeg + 1) else -1
theorem day_lt {x : Int32} (h : ok x 119) : x.toNatClampNeg < 120 ∧ vp_in x 120 := by
  obtain ⟨j, hj, rfl⟩ := ok_nI (n := 119) h
  rw [cl (by omega)]
  exact ⟨by omega, vi (by omega)⟩
theorem sp_X7_height {n : Nat} {pk x1 x2 : Int32} {days heights known seen : Nat → Int32} {Q : Int32 → Int32 → (Nat → Int32) → Prop} (hR : RI n days heights) (h : ∀ pk a, Q (heightR n days heights known x1 x2) pk a) : wp_X7_height (nI n) pk days heights known seen x1 x2 Q := by
  unfold wp_X7_height wp_X7_height_b16
  refine sp_isWithin (fun c1 => if1 (sp_isKnownDay (fun c2 => in1 (sp_look hR fun a ha => ?_)) (fun c2 => in0 ?_))) (fun c1 => if0 ?_)
  · obtain ⟨g1, g2⟩ := day_lt c1
    refine ⟨g2, ?_⟩
    rw [ha _ g1]
    have := h (pkS (rawS days heights known x2 119 n) 120) a
    rwa [heightR, if_pos ⟨c1, c2⟩] at this
  · have := h pk seen
    rwa [heightR, if_neg (fun q => c2 q.2)] at this
  · have := h pk seen
    rwa [heightR, if_neg (fun q => c1 q.1)] at this
theorem sp_X8_height {n : Nat} {th x1 x2 : Int32} {days heights known seen : Nat → Int32} {Q : Int32 → Int32 → (Nat → Int32) → Prop} (hR : RI n days heights) (h : ∀ a, Q (heightR n days heights known x1 x2) 0 a) : wp_X8_height th (nI n) days heights known seen x1 x2 Q := by
  unfold wp_X8_height wp_X8_height_b19
  refine sp_isDay (fun c1 => if1 (sp_isKnown (fun c2 => in1 (sp_find hR fun a ha => ?_)) (fun c2 => in0 ?_))) (fun c1 => if0 ?_)
  · obtain ⟨g1, g2⟩ := day_lt c1
    refine ⟨g2, ?_⟩
    rw [ha _ g1]
    have := h a
    rwa [heightR, if_pos ⟨c1, c2⟩] at this
  · have := h seen
    rwa [heightR, if_neg (fun q => c2 q.2)] at this
  · have := h seen
    rwa [heightR, if_neg (fun q => c1 q.1)] at this
def peakR (n : Nat) (days heights known : Nat → Int32) (x1 : Int32) : Int32 := if ok x1 1000 then pkS (rawS days heights known x1 119 n) 120 else -1
theorem sp_X7_peak {n : Nat} {pk x1 : Int32} {days heights known seen : Nat → Int32} {Q : Int32 → Int32 → (Nat → Int32) → Prop} (hR : RI n days heights) (h : ∀ pk a, Q (peakR n days heights known x1) pk a) : wp_X7_peak (nI n) pk days heights known seen x1 Q := by
  unfold wp_X7_peak
  refine sp_isKnownDay (fun c2 => in1 (sp_look hR fun a ha => ?_)) (fun c2 => in0 ?_)
  · have := h (pkS (rawS days heights known x1 119 n) 120) a
    rwa [peakR, if_pos c2] at this
  · have := h pk seen
    rwa [peakR, if_neg c2] at this
theorem sp_X8_peak {n : Nat} {th x1 : Int32} {days heights known seen : Nat → Int32} {Q : Int32 → Int32 → (Nat → Int32) → Prop} (hR : RI n days heights) (h : ∀ a, Q (peakR n days heights known x1) 0 a) : wp_X8_peak th (nI n) days heights known seen x1 Q := by
  unfold wp_X8_peak
  refine sp_isKnown (fun c2 => in1 (sp_find hR fun a ha => sp_peakOf ha ?_)) (fun c2 => in0 ?_)
  · have := h a
    rwa [peakR, if_pos c2] at this
  · have := h seen
    rwa [peakR, if_neg c2] at this
def wetR (n m : Nat) (days heights known lev : Nat → Int32) (x1 x2 : Int32) : Int32 := if isS m x1 ∧ ok x2 1000 then wetS (rawS days heights known x2 119 n) (lev x1.toNatClampNeg) 120 else -1
theorem sp_X7_wet {n m : Nat} {pk x1 x2 : Int32} {days heights known seen lev : Nat → Int32} {Q : Int32 → Int32 → (Nat → Int32) → Prop} (hR : RI n days heights) (hm : m ≤ 24) (h : ∀ pk a, Q (wetR n m days heights known lev x1 x2) pk a) : wp_X7_wet (nI n) pk days heights known seen (nI m) lev x1 x2 Q := by
  unfold wp_X7_wet wp_X7_wet_b18
  refine sp_hasStrip (fun c1 => if1 (sp_isKnownDay (fun c2 => in1 (sp_look hR fun a ha => ?_)) (fun c2 => in0 ?_))) (fun c1 => if0 ?_)
  · obtain ⟨s, hs, rfl⟩ := isS_nI c1 hm
    have e := cl (k := s) (by omega)
    refine ⟨vi (by omega), sp_wetDays ha ?_⟩
    have := h (pkS (rawS days heights known x2 119 n) 120) a
    rwa [wetR, if_pos ⟨c1, c2⟩] at this
  · have := h pk seen
    rwa [wetR, if_neg (fun q => c2 q.2)] at this
  · have := h pk seen
    rwa [wetR, if_neg (fun q => c1 q.1)] at this
theorem sp_X8_wet {n m : Nat} {th x1 x2 : Int32} {days heights known seen lev : Nat → Int32} {Q : Int32 → Int32 → (Nat → Int32) → Prop} (hR : RI n days heights) (hm : m ≤ 24) (h : ∀ a, Q (wetR n m days heights known lev x1 x2) 0 a) : wp_X8_wet th (nI n) (nI m) days heights known seen lev x1 x2 Q := by
  unfold wp_X8_wet wp_X8_wet_b20
  refine sp_isStrip hm (fun c1 => if1 (sp_isKnown (fun c2 => in1 (sp_find hR fun a ha => ?_)) (fun c2 => in0 ?_))) (fun c1 => if0 ?_)
  · obtain ⟨s, hs, rfl⟩ := isS_nI c1 hm
    refine sp_wetOf (by omega) ha ?_
    have := h a
    rwa [wetR, if_pos ⟨c1, c2⟩, cl (k := s) (by omega)] at this
  · have := h seen
    rwa [wetR, if_neg (fun q => c2 q.2)] at this
  · have := h seen
    rwa [wetR, if_neg (fun q => c1 q.1)] at this
def harR (n m : Nat) (days heights known w lev td ts : Nat → Int32) (x1 x2 last : Int32) (c : Prop) [Decidable c] : Int32 := if isS m x1 ∧ c then HV (rawS days heights known x2 last n) w lev td ts x1.toNatClampNeg else -1
theorem sp_X7_harvest {n m : Nat} {pk x1 x2 : Int32} {days heights known seen w lev td ts : Nat → Int32} {Q : Int32 → Int32 → (Nat → Int32) → Prop} (hR : RI n days heights) (hm : m ≤ 24) (hT : TI td ts) (h : ∀ pk a, Q (harR n m days heights known w lev td ts x1 x2 119 (ok x2 1000)) pk a) : wp_X7_harvest (nI n) pk days heights known seen (nI m) w lev td ts x1 x2 Q := by
  unfold wp_X7_harvest wp_X7_harvest_b18
  refine sp_hasStrip (fun c1 => if1 (sp_isKnownDay (fun c2 => in1 (sp_look hR fun a ha => ?_)) (fun c2 => in0 ?_))) (fun c1 => if0 ?_)
  · obtain ⟨s, hs, rfl⟩ := isS_nI c1 hm
    refine sp_harvestSeen (by omega) hT ha ?_
    have := h (pkS (rawS days heights known x2 119 n) 120) a
    rwa [harR, if_pos ⟨c1, c2⟩, cl (k := s) (by omega)] at this
  · have := h pk seen
    rwa [harR, if_neg (fun q => c2 q.2)] at this
  · have := h pk seen
    rwa [harR, if_neg (fun q => c1 q.1)] at this
theorem sp_X8_harvest {n m : Nat} {th x1 x2 : Int32} {days heights known seen w lev td ts : Nat → Int32} {Q : Int32 → Int32 → (Nat → Int32) → Prop} (hR : RI n days heights) (hm : m ≤ 24) (h : ∀ a, Q (harR n m days heights known w lev td ts x1 x2 119 (ok x2 1000)) 0 a) : wp_X8_harvest th (nI n) (nI m) days heights known seen w lev td ts x1 x2 Q := by
  unfold wp_X8_harvest wp_X8_harvest_b20
  refine sp_isStrip hm (fun c1 => if1 (sp_isKnown (fun c2 => in1 (sp_find hR fun a ha => ?_)) (fun c2 => in0 ?_))) (fun c1 => if0 ?_)
  · obtain ⟨s, hs, rfl⟩ := isS_nI c1 hm
    refine sp_harvestOf (by omega) ha ?_
    have := h a
    rwa [harR, if_pos ⟨c1, c2⟩, cl (k := s) (by omega)] at this
  · have := h seen
    rwa [harR, if_neg (fun q => c2 q.2)] at this
  · have := h seen
    rwa [harR, if_neg (fun q => c1 q.1)] at this
theorem sp_X7_foretold {n m : Nat} {pk x1 x2 : Int32} {days heights known seen w lev td ts : Nat → Int32} {Q : Int32 → Int32 → (Nat → Int32) → Prop} (hR : RI n days heights) (hm : m ≤ 24) (hT : TI td ts) (h : ∀ pk a, Q (harR n m days heights known w lev td ts x1 x2 x2 (ok x2 119)) pk a) : wp_X7_foretold (nI n) pk days heights known seen (nI m) w lev td ts x1 x2 Q := by
  unfold wp_X7_foretold wp_X7_foretold_b20
  refine sp_hasStrip (fun c1 => if1 (sp_isWithin (fun c2 => in1 (sp_lookUpTo hR fun a ha => ?_)) (fun c2 => in0 ?_))) (fun c1 => if0 ?_)
  · obtain ⟨s, hs, rfl⟩ := isS_nI c1 hm
    refine sp_harvestSeen (by omega) hT ha ?_
    have := h (pkS (rawS days heights known x2 x2 n) 120) a
    rwa [harR, if_pos ⟨c1, c2⟩, cl (k := s) (by omega)] at this
  · have := h pk seen
    rwa [harR, if_neg (fun q => c2 q.2)] at this
  · have := h pk seen
    rwa [harR, if_neg (fun q => c1 q.1)] at this
theorem sp_X8_foretold {n m : Nat} {th x1 x2 : Int32} {days heights known seen w lev td ts : Nat → Int32} {Q : Int32 → Int32 → (Nat → Int32) → Prop} (hR : RI n days heights) (hm : m ≤ 24) (h : ∀ a, Q (harR n m days heights known w lev td ts x1 x2 x2 (ok x2 119)) 0 a) : wp_X8_foretold th (nI n) (nI m) days heights known seen w lev td ts x1 x2 Q := by
  unfold wp_X8_foretold wp_X8_foretold_b20
  refine sp_isStrip hm (fun c1 => if1 (sp_isDay (fun c2 => in1 (sp_find hR fun a ha => ?_)) (fun c2 => in0 ?_))) (fun c1 => if0 ?_)
  · obtain ⟨s, hs, rfl⟩ := isS_nI c1 hm
    refine sp_harvestOf (by omega) ha ?_
    have := h a
    rwa [harR, if_pos ⟨c1, c2⟩, cl (k := s) (by omega)] at this
  · have := h seen
    rwa [harR, if_neg (fun q => c2 q.2)] at this
  · have := h seen
    rwa [harR, if_neg (fun q => c1 q.1)] at this
def tx5 (x a0 a1 a2 a3 a4 : Int32) : Int32 := if x = 0 then a0 else if x = 1 then a1 else if x = 2 then a2 else if x = 3 then a3 else if x = 4 then a4 else -1
theorem sw5 {x a0 a1 a2 a3 a4 : Int32} {P : Int32 → Prop} (h : P (tx5 x a0 a1 a2 a3 a4)) : (x = 0 → P a0) ∧ ((x = 1 → P a1) ∧ ((x = 2 → P a2) ∧ ((x = 3 → P a3) ∧ ((x = 4 → P a4) ∧ (¬ x = 0 ∧ ¬ x = 1 ∧ ¬ x = 2 ∧ ¬ x = 3 ∧ ¬ x = 4 → P (-1)))))) := by
  refine ⟨?_, ?_, ?_, ?_, ?_, ?_⟩
  · rintro rfl; exact h
  · rintro rfl; exact h
  · rintro rfl; exact h
  · rintro rfl; exact h
  · rintro rfl; exact h
  · rintro ⟨h0, h1, h2, h3, h4⟩; simpa [tx5, h0, h1, h2, h3, h4] using h
def taxR (n m k : Nat) (days heights known w lev td ts dS dA dB dC : Nat → Int32) (x1 x2 x3 : Int32) : Int32 := if isS m x1 ∧ ok x2 1000 then tx5 x3 (TX k dS dA dB dC (rawS days heights known x2 119 n) w lev td ts x1.toNatClampNeg) (RL_ k dS dA dB dC (rawS days heights known x2 119 n) w lev td ts x1.toNatClampNeg) (OF k dS dA dB dC (rawS days heights known x2 119 n) w lev td ts x1.toNatClampNeg) (TX k dS dA dB dC (rawS days heights known x2 119 n) w lev td ts x1.toNatClampNeg - OF k dS dA dB dC (rawS days heights known x2 119 n) w lev td ts x1.toNatClampNeg) (HV (rawS days heights known x2 119 n) w lev td ts x1.toNatClampNeg - TX k dS dA dB dC (rawS days heights known x2 119 n) w lev td ts x1.toNatClampNeg) else -1
theorem sp_X7_tax {n m k : Nat} {pk x1 x2 x3 d0 d1 d2 d3 d4 : Int32} {days heights known seen w lev td ts kinds parts wholes bounds dS dA dB dC : Nat → Int32} {Q : Int32 → Int32 → (Nat → Int32) → Int32 → Int32 → Int32 → Int32 → Int32 → Prop} (hR : RI n days heights) (hm : m ≤ 24) (hw : ∀ s, s < m → ok (w s) 10000) (hT : TI td ts) (hB : BR k kinds parts wholes bounds dS dA dB dC) (h : ∀ pk a e0 e1 e2 e3 e4, Q (taxR n m k days heights known w lev td ts dS dA dB dC x1 x2 x3) pk a e0 e1 e2 e3 e4) : wp_X7_tax (nI n) pk days heights known seen (nI m) w lev td ts d0 d1 d2 d3 d4 (nI k) kinds parts wholes bounds x1 x2 x3 Q := by
  unfold wp_X7_tax wp_X7_tax_b18
  refine sp_hasStrip (fun c1 => if1 (sp_isKnownDay (fun c2 => in1 (sp_look hR fun a ha => ?_)) (fun c2 => in0 ?_))) (fun c1 => if0 ?_)
  · obtain ⟨s, hs, rfl⟩ := isS_nI c1 hm
    refine sp_assessSeen (dS := dS) (dA := dA) (dB := dB) (dC := dC) (by omega) (hw s hs) hT ha hB ?_
    have := h (pkS (rawS days heights known x2 119 n) 120) a
    rw [taxR, if_pos ⟨c1, c2⟩, cl (k := s) (by omega)] at this
    exact sw5 (P := fun z => Q z (pkS (rawS days heights known x2 119 n) 120) a (TX k dS dA dB dC (rawS days heights known x2 119 n) w lev td ts s) (RL_ k dS dA dB dC (rawS days heights known x2 119 n) w lev td ts s) (OF k dS dA dB dC (rawS days heights known x2 119 n) w lev td ts s) ((TX k dS dA dB dC (rawS days heights known x2 119 n) w lev td ts s) - (OF k dS dA dB dC (rawS days heights known x2 119 n) w lev td ts s)) ((HV (rawS days heights known x2 119 n) w lev td ts s) - (TX k dS dA dB dC (rawS days heights known x2 119 n) w lev td ts s))) (this _ _ _ _ _)
  · have := h pk seen d0 d1 d2 d3 d4
    rwa [taxR, if_neg (fun q => c2 q.2)] at this
  · have := h pk seen d0 d1 d2 d3 d4
    rwa [taxR, if_neg (fun q => c1 q.1)] at this
theorem sp_X8_tax {n m k : Nat} {th x1 x2 x3 d0 d1 d2 d3 : Int32} {days heights known seen w lev td ts kinds parts wholes bounds dS dA dB dC : Nat → Int32} {Q : Int32 → Int32 → Int32 → Int32 → Int32 → Int32 → (Nat → Int32) → Prop} (hR : RI n days heights) (hm : m ≤ 24) (hB : BR k kinds parts wholes bounds dS dA dB dC) (h : ∀ a e0 e1 e2 e3, Q (taxR n m k days heights known w lev td ts dS dA dB dC x1 x2 x3) 0 e0 e1 e2 e3 a) : wp_X8_tax th (nI n) (nI m) (nI k) d0 d1 d2 d3 days heights known seen w lev td ts dS dA dB dC x1 x2 x3 Q := by
  unfold wp_X8_tax wp_X8_tax_b20
  refine sp_isStrip hm (fun c1 => if1 (sp_isKnown (fun c2 => in1 (sp_find hR fun a ha => ?_)) (fun c2 => in0 ?_))) (fun c1 => if0 ?_)
  · obtain ⟨s, hs, rfl⟩ := isS_nI c1 hm
    refine sp_reckon (by omega) ha hB ?_
    have := h a
    rw [taxR, if_pos ⟨c1, c2⟩, cl (k := s) (by omega)] at this
    exact sw5 (P := fun z => Q z _ _ _ _ _ _) (this _ _ _ _)
  · have := h seen d0 d1 d2 d3
    rwa [taxR, if_neg (fun q => c2 q.2)] at this
  · have := h seen d0 d1 d2 d3
    rwa [taxR, if_neg (fun q => c1 q.1)] at this
/-! sheaves, and where each is led -/
def sumH (H : Nat → Int32) : Nat → Int32
  | 0 => 0
  | k + 1 => sumH H k + H k
def sheR (n m : Nat) (days heights known w lev td ts : Nat → Int32) (x1 : Int32) : Int32 := if ok x1 1000 then sumH (HV (rawS days heights known x1 119 n) w lev td ts) m else -1
theorem sp_X7_sheaves {n m : Nat} {pk x1 : Int32} {days heights known seen w lev td ts : Nat → Int32} {Q : Int32 → Int32 → (Nat → Int32) → Prop} (hR : RI n days heights) (hm : m ≤ 24) (hT : TI td ts) (h : ∀ pk a, Q (sheR n m days heights known w lev td ts x1) pk a) : wp_X7_sheaves (nI n) pk days heights known seen (nI m) w lev td ts x1 Q := by
  unfold wp_X7_sheaves
  refine sp_isKnownDay (fun c2 => in1 (sp_look hR fun a ha => ?_)) (fun c2 => in0 ?_)
  · unfold wp_X7_sheaves_b21
    refine ⟨fun p b t2 t3 => ∃ k, k ≤ m ∧ t3 = nI k ∧ t2 = sumH (HV (rawS days heights known x1 119 n) w lev td ts) k ∧ ∀ d, d < 120 → b d = carS (rawS days heights known x1 119 n) (d + 1), fun _ _ _ t => m - t.toNatClampNeg, ⟨0, by omega, rfl, rfl, ha⟩, ?_⟩
    rintro p b t2 t3 ⟨k, hk, rfl, rfl, hb⟩
    have hc := cl (k := k) (by omega)
    simp only [hc]
    refine ⟨fun c => ?_, fun c => ?_⟩
    · have : m ≤ k := (ile (by omega) (by omega)).mp c
      have e : k = m := by omega
      subst e
      have := h p b
      rwa [sheR, if_pos c2] at this
    · have hlt : k < m := Nat.not_le.mp fun q => c ((ile (by omega) (by omega)).mpr q)
      exact sp_harvestSeen (by omega) hT hb ⟨⟨k + 1, by omega, nI_1 k, rfl, hb⟩, mu1 hlt (by omega)⟩
  · have := h pk seen
    rwa [sheR, if_neg c2] at this
theorem sp_X8_sheaves {n m : Nat} {th x1 : Int32} {days heights known seen w lev td ts : Nat → Int32} {Q : Int32 → Int32 → (Nat → Int32) → Prop} (hR : RI n days heights) (hm : m ≤ 24) (h : ∀ th a, Q (sheR n m days heights known w lev td ts x1) th a) : wp_X8_sheaves th (nI n) (nI m) days heights known seen w lev td ts x1 Q := by
  unfold wp_X8_sheaves
  refine sp_isKnown (fun c2 => in1 (sp_find hR fun a ha => ?_)) (fun c2 => in0 ?_)
  · unfold wp_X8_sheaves_b25
    refine ⟨fun _ b t2 t3 => ∃ k, k ≤ m ∧ t3 = nI k ∧ t2 = sumH (HV (rawS days heights known x1 119 n) w lev td ts) k ∧ ∀ d, d < 120 → b d = carS (rawS days heights known x1 119 n) (d + 1), fun _ _ _ t => m - t.toNatClampNeg, ⟨0, by omega, rfl, rfl, ha⟩, ?_⟩
    rintro p b t2 t3 ⟨k, hk, rfl, rfl, hb⟩
    have hc := cl (k := k) (by omega)
    simp only [hc]
    refine ⟨fun c => ?_, fun c => ?_⟩
    · have : m ≤ k := (ile (by omega) (by omega)).mp c
      have e : k = m := by omega
      subst e
      have := h p b
      rwa [sheR, if_pos c2] at this
    · have hlt : k < m := Nat.not_le.mp fun q => c ((ile (by omega) (by omega)).mpr q)
      exact sp_harvestOf (by omega) hb ⟨⟨k + 1, by omega, nI_1 k, rfl, hb⟩, mu1 hlt (by omega)⟩
  · have := h 0 seen
    rwa [sheR, if_neg c2] at this
def ledF (H : Nat → Int32) (res : Nat → Int32 → Int32) : Nat → Nat → Int32 → Int32
  | 0, _, _ => -1
  | f + 1, k, p => if H k ≤ p then ledF H res f (k + 1) (p - H k) else res k p
def whoR (x3 of tx : Int32) (k : Nat) (p : Int32) : Int32 := if x3 = 0 then nI k else if of ≤ p then (if tx ≤ p then 2 else 1) else 0
def ledR (n m k : Nat) (days heights known w lev td ts dS dA dB dC : Nat → Int32) (x1 x2 x3 : Int32) : Int32 := if 0 ≤ x1 ∧ ok x2 1000 ∧ ok x3 1 then ledF (HV (rawS days heights known x2 119 n) w lev td ts) (fun s p => whoR x3 (OF k dS dA dB dC (rawS days heights known x2 119 n) w lev td ts s) (TX k dS dA dB dC (rawS days heights known x2 119 n) w lev td ts s) s p) m 0 x1 else -1
theorem led_step {H : Nat → Int32} {res : Nat → Int32 → Int32} {m k : Nat} {p R : Int32} (hlt : k < m) (h : ledF H res (m - k) k p = R) : (H k ≤ p → ledF H res (m - (k + 1)) (k + 1) (p - H k) = R) ∧ (¬ H k ≤ p → res k p = R) := by
  have e : m - k = (m - (k + 1)) + 1 := by omega
  rw [e, ledF] at h
  refine ⟨fun c => ?_, fun c => ?_⟩
  · rwa [if_pos c] at h
  · rwa [if_neg c] at h
theorem sp_X7_led {n m k : Nat} {pk x1 x2 x3 d0 d1 d2 d3 d4 : Int32} {days heights known seen w lev td ts kinds parts wholes bounds dS dA dB dC : Nat → Int32} {Q : Int32 → Int32 → (Nat → Int32) → Int32 → Int32 → Int32 → Int32 → Int32 → Prop} (hR : RI n days heights) (hm : m ≤ 24) (hw : ∀ s, s < m → ok (w s) 10000) (hT : TI td ts) (hB : BR k kinds parts wholes bounds dS dA dB dC) (h : ∀ pk a e0 e1 e2 e3 e4, Q (ledR n m k days heights known w lev td ts dS dA dB dC x1 x2 x3) pk a e0 e1 e2 e3 e4) : wp_X7_led (nI n) pk days heights known seen (nI m) w lev td ts d0 d1 d2 d3 d4 (nI k) kinds parts wholes bounds x1 x2 x3 Q := by
  unfold wp_X7_led wp_X7_led_b19
  refine ⟨fun c0 => ?_, fun c0 => sp_isKnownDay (fun c1 => if1 (sp_isWithin (fun c2 => in1 (sp_look hR fun a ha => ?_)) (fun c2 => in0 ?_))) (fun c1 => if0 ?_)⟩
  · have := h pk seen d0 d1 d2 d3 d4
    rwa [ledR, if_neg (fun q => absurd q.1 (Int32.not_le.mpr c0))] at this
  · unfold wp_X7_led_b35
    rw [ledR, if_pos ⟨Int32.not_lt.mp c0, c1, c2⟩] at h
    generalize hRe : ledF _ _ m 0 x1 = R at h
    refine ⟨fun p b _ _ _ _ _ t4 t5 => ∃ j, j ≤ m ∧ t5 = nI j ∧ p = pkS (rawS days heights known x2 119 n) 120 ∧ (∀ d, d < 120 → b d = carS (rawS days heights known x2 119 n) (d + 1)) ∧ ledF (HV (rawS days heights known x2 119 n) w lev td ts) (fun s p => whoR x3 (OF k dS dA dB dC (rawS days heights known x2 119 n) w lev td ts s) (TX k dS dA dB dC (rawS days heights known x2 119 n) w lev td ts s) s p) (m - j) j t4 = R, fun _ _ _ _ _ _ _ _ t => m - t.toNatClampNeg, ⟨0, by omega, rfl, rfl, ha, hRe⟩, ?_⟩
    rintro p b e0 e1 e2 e3 e4 t4 t5 ⟨j, hj, rfl, rfl, hb, hl⟩
    have hc := cl (k := j) (by omega)
    simp only [hc]
    refine ⟨fun c => ?_, fun c => ?_⟩
    · have : m ≤ j := (ile (by omega) (by omega)).mp c
      have e : j = m := by omega
      subst e
      rw [Nat.sub_self] at hl
      have := h (pkS (rawS days heights known x2 119 n) 120) b e0 e1 e2 e3 e4
      rwa [← hl] at this
    · have hlt : j < m := Nat.not_le.mp fun q => c ((ile (by omega) (by omega)).mpr q)
      obtain ⟨g1, g2⟩ := led_step hlt hl
      refine sp_harvestSeen (by omega) hT hb ⟨fun q => ⟨⟨j + 1, by omega, nI_1 j, (by trivial), hb, g1 q⟩, mu1 hlt (by omega)⟩, fun q => ⟨fun c3 => ?_, fun c3 => ?_⟩⟩
      · have e := g2 q
        unfold wp_X7_whoGets
        refine sp_assessSeen (dS := dS) (dA := dA) (dB := dB) (dC := dC) (by omega) (hw j hlt) hT hb hB ⟨fun c4 => ⟨fun c5 => ?_, fun c5 => ?_⟩, fun c4 => ?_⟩
        · rw [whoR, if_neg c3, if_pos c4, if_pos c5] at e; rw [e]; exact h _ _ _ _ _ _ _
        · rw [whoR, if_neg c3, if_pos c4, if_neg c5] at e; rw [e]; exact h _ _ _ _ _ _ _
        · rw [whoR, if_neg c3, if_neg c4] at e; rw [e]; exact h _ _ _ _ _ _ _
      · have e := g2 q
        rw [whoR, if_pos c3] at e
        rw [e]; exact h _ _ _ _ _ _ _
  · have := h pk seen d0 d1 d2 d3 d4
    rwa [ledR, if_neg (fun q => c2 q.2.2)] at this
  · have := h pk seen d0 d1 d2 d3 d4
    rwa [ledR, if_neg (fun q => c1 q.2.1)] at this
theorem sp_X8_led {n m k : Nat} {th x1 x2 x3 d0 d1 d2 d3 : Int32} {days heights known seen w lev td ts kinds parts wholes bounds dS dA dB dC : Nat → Int32} {Q : Int32 → Int32 → Int32 → Int32 → Int32 → Int32 → (Nat → Int32) → Prop} (hR : RI n days heights) (hm : m ≤ 24) (hB : BR k kinds parts wholes bounds dS dA dB dC) (h : ∀ th a e0 e1 e2 e3, Q (ledR n m k days heights known w lev td ts dS dA dB dC x1 x2 x3) th e0 e1 e2 e3 a) : wp_X8_led th (nI n) (nI m) (nI k) d0 d1 d2 d3 days heights known seen w lev td ts dS dA dB dC x1 x2 x3 Q := by
  unfold wp_X8_led wp_X8_led_b26
  refine ⟨fun c0 => ?_, fun c0 => sp_isKnown (fun c1 => if1 (sp_inw (a := 0) (b := 1) rfl rfl (fun c2 => in1 (sp_find hR fun a ha => ?_)) (fun c2 => in0 ?_))) (fun c1 => if0 ?_)⟩
  · have := h 0 seen d0 d1 d2 d3
    rwa [ledR, if_neg (fun q => absurd q.1 (Int32.not_le.mpr c0))] at this
  · unfold wp_X8_led_b41
    rw [ledR, if_pos ⟨Int32.not_lt.mp c0, c1, c2⟩] at h
    generalize hRe : ledF _ _ m 0 x1 = R at h
    refine ⟨fun _ _ _ _ _ b t4 t5 => ∃ j, j ≤ m ∧ t5 = nI j ∧ (∀ d, d < 120 → b d = carS (rawS days heights known x2 119 n) (d + 1)) ∧ ledF (HV (rawS days heights known x2 119 n) w lev td ts) (fun s p => whoR x3 (OF k dS dA dB dC (rawS days heights known x2 119 n) w lev td ts s) (TX k dS dA dB dC (rawS days heights known x2 119 n) w lev td ts s) s p) (m - j) j t4 = R, fun _ _ _ _ _ _ _ t => m - t.toNatClampNeg, ⟨0, by omega, rfl, ha, hRe⟩, ?_⟩
    rintro p e0 e1 e2 e3 b t4 t5 ⟨j, hj, rfl, hb, hl⟩
    have hc := cl (k := j) (by omega)
    simp only [hc]
    refine ⟨fun c => ?_, fun c => ?_⟩
    · have : m ≤ j := (ile (by omega) (by omega)).mp c
      have e : j = m := by omega
      subst e
      rw [Nat.sub_self] at hl
      have := h p b e0 e1 e2 e3
      rwa [← hl] at this
    · have hlt : j < m := Nat.not_le.mp fun q => c ((ile (by omega) (by omega)).mpr q)
      obtain ⟨g1, g2⟩ := led_step hlt hl
      refine sp_reckon (by omega) hb hB ⟨fun q => ⟨⟨j + 1, by omega, nI_1 j, hb, g1 q⟩, mu1 hlt (by omega)⟩, fun q => ⟨fun c3 => ⟨fun c4 => ⟨fun c5 => ?_, fun c5 => ?_⟩, fun c4 => ?_⟩, fun c3 => ?_⟩⟩
      · have e := g2 q
        rw [whoR, if_neg c3, if_pos c4, if_pos c5] at e; rw [e]; exact h _ _ _ _ _ _
      · have e := g2 q
        rw [whoR, if_neg c3, if_pos c4, if_neg c5] at e; rw [e]; exact h _ _ _ _ _ _
      · have e := g2 q
        rw [whoR, if_neg c3, if_neg c4] at e; rw [e]; exact h _ _ _ _ _ _
      · have e := g2 q
        rw [whoR, if_pos c3] at e
        rw [e]; exact h _ _ _ _ _ _
  · have := h 0 seen d0 d1 d2 d3
    rwa [ledR, if_neg (fun q => c2 q.2.2)] at this
  · have := h 0 seen d0 d1 d2 d3
    rwa [ledR, if_neg (fun q => c1 q.2.1)] at this
