/-! drawing marks again: what both make of it -/
theorem sp_canDraw {a b : Nat} {lost : Nat → Int32} {Q : Int32 → Prop} (hab : a < b) (hb : b ≤ 24) (h1 : lost a = 0 ∧ lost b = 0 ∧ (∀ k, a < k → k < b → ¬ lost k = 0) → Q 1) (h0 : ¬ (lost a = 0 ∧ lost b = 0 ∧ ∀ k, a < k → k < b → ¬ lost k = 0) → Q 0) : wp_X2_canDraw lost (nI a) (nI b) Q := by
  unfold wp_X2_canDraw wp_X2_canDraw_b18
  rw [cl (k := a) (by omega), cl (k := b) (by omega)]
  refine ⟨vi (by omega), fun c => h0 fun q => c q.1, fun c1 => ⟨vi (by omega), fun c2 => ?_, fun c => h0 fun q => c q.2.1⟩⟩
  unfold wp_X2_canDraw_b24
  refine ⟨fun t => ∃ k, a < k ∧ k ≤ b ∧ t = nI k ∧ ∀ i, a < i → i < k → ¬ lost i = 0, fun t => b - t.toNatClampNeg, ⟨a + 1, by omega, by omega, nI_1 a, fun i h1 h2 => by omega⟩, ?_⟩
  rintro t ⟨k, hk1, hk2, rfl, hl⟩
  have hc := cl (k := k) (by omega)
  simp only [hc]
  refine ⟨fun c => ?_, fun c => ?_⟩
  · have : b ≤ k := (ile (by omega) (by omega)).mp c
    have e : k = b := by omega
    subst e
    exact h1 ⟨c1, c2, hl⟩
  · have hlt : k < b := Nat.not_le.mp fun q => c ((ile (by omega) (by omega)).mpr q)
    refine ⟨vi (by omega), fun c3 => ⟨⟨k + 1, by omega, by omega, nI_1 k, fun i h1 h2 => ?_⟩, mu1 hlt (by omega)⟩, fun c3 => h0 fun q => q.2.2 k hk1 hlt c3⟩
    by_cases e : i = k
    · subst e; exact c3
    · exact hl i h1 (by omega)
def LF (a b : Nat) (lost : Nat → Int32) : Nat → Int32 := fun k => if a ≤ k ∧ k < b then 0 else lost k
theorem sp_setMarks {a b : Nat} {lost : Nat → Int32} {Q : Int32 → (Nat → Int32) → Prop} (hab : a < b) (hb : b ≤ 24) (h0 : lost a = 0) (h : Q (nI b - nI a - 1) (LF a b lost)) : wp_X2_setMarksBetween lost (nI a) (nI b) Q := by
  unfold wp_X2_setMarksBetween wp_X2_setMarksBetween_b4
  refine ⟨fun l t => ∃ k, a < k ∧ k ≤ b ∧ t = nI k ∧ l = LF a k lost, fun _ t => b - t.toNatClampNeg, ⟨a + 1, by omega, by omega, nI_1 a, ?_⟩, ?_⟩
  · funext k
    unfold LF
    split
    next q => rw [show k = a by omega]; exact h0
    · rfl
  rintro l t ⟨k, hk1, hk2, rfl, rfl⟩
  have hc := cl (k := k) (by omega)
  simp only [hc]
  refine ⟨fun c => ?_, fun c => ?_⟩
  · have : b ≤ k := (ile (by omega) (by omega)).mp c
    have e : k = b := by omega
    subst e
    exact h
  · have hlt : k < b := Nat.not_le.mp fun q => c ((ile (by omega) (by omega)).mpr q)
    refine ⟨vi (by omega), ⟨k + 1, by omega, by omega, nI_1 k, ?_⟩, mu1 hlt (by omega)⟩
    funext i
    by_cases e : i = k
    · subst e; rw [upd_s, LF, if_pos (by omega)]
    · rw [upd_n _ _ e]
      unfold LF
      by_cases q : a ≤ i ∧ i < k
      · rw [if_pos q, if_pos (by omega)]
      · rw [if_neg q, if_neg (by omega)]
theorem sp_giveOneMore {a b : Nat} {w r : Nat → Int32} {Q : (Nat → Int32) → (Nat → Int32) → Prop} (hab : a < b) (hb : b ≤ 24) (h : ∀ c, a ≤ c → c < b → (∀ s, a ≤ s → s < b → r s ≤ r c) → (∀ s, a ≤ s → s < c → r s < r c) → Q (upd w c (w c + 1)) (upd r c (-1))) : wp_X2_giveOneMore w r (nI a) (nI b) Q := by
  unfold wp_X2_giveOneMore wp_X2_giveOneMore_b7
  refine ⟨fun w' r' t3 t4 => w' = w ∧ r' = r ∧ ∃ c k, t3 = nI c ∧ t4 = nI k ∧ a ≤ c ∧ c < k ∧ k ≤ b ∧ (∀ s, a ≤ s → s < k → r s ≤ r c) ∧ (∀ s, a ≤ s → s < c → r s < r c), fun _ _ _ t => b - t.toNatClampNeg, ⟨rfl, rfl, a, a + 1, rfl, nI_1 a, Nat.le_refl _, by omega, by omega, fun s h1 h2 => ?_, fun s h1 h2 => by omega⟩, ?_⟩
  · rw [show s = a by omega]; exact Int32.le_refl _
  rintro w' r' t3 t4 ⟨rfl, rfl, c, k, rfl, rfl, h1, h2, h3, hm, hf⟩
  have hc := cl (k := k) (by omega)
  have hc2 := cl (k := c) (by omega)
  simp only [wp_X2_giveOneMore_b32, hc, hc2]
  have hv : vp_in (nI c) 24 := vi (by omega)
  refine ⟨fun q => ?_, fun q => ?_⟩
  · have : b ≤ k := (ile (by omega) (by omega)).mp q
    have e : k = b := by omega
    subst e
    exact ⟨hv, hv, hv, h c h1 h2 hm hf⟩
  · have hlt : k < b := Nat.not_le.mp fun z => q ((ile (by omega) (by omega)).mpr z)
    have mu := mu1 hlt (by omega)
    refine ⟨vi (by omega), hv, fun c1 => ⟨⟨(by trivial), (by trivial), c, k + 1, rfl, nI_1 k, h1, by omega, by omega, fun s g1 g2 => ?_, hf⟩, mu⟩, fun c1 => ⟨⟨(by trivial), (by trivial), k, k + 1, rfl, nI_1 k, by omega, by omega, by omega, fun s g1 g2 => ?_, fun s g1 g2 => ?_⟩, mu⟩⟩
    · by_cases e : s = k
      · subst e; exact c1
      · exact hm s g1 (by omega)
    · by_cases e : s = k
      · subst e; exact Int32.le_refl _
      · have := hm s g1 (by omega)
        rw [i_le] at this c1 ⊢
        omega
    · have := hm s g1 g2
      rw [i_le] at this c1
      rw [i_lt]
      omega
/-- the widths that come of it -/
def WF (a b left : Nat) (q e : Nat → Nat) (w : Nat → Int32) : Nat → Int32 := fun s => if a ≤ s ∧ s < b then nI (q s + inB e a b left s) else w s
theorem sp_partRopes {a b R : Nat} {w reg rests : Nat → Int32} {g : Nat → Nat} {Q : (Nat → Int32) → (Nat → Int32) → Prop} (hab : a < b) (hb : b ≤ 24) (hR : R ≤ 10000) (hg : ∀ s, s < b → reg s = nI (g s) ∧ 1 ≤ g s ∧ g s ≤ 400) (h : ∀ r', Q (WF a b (R - sg (fun s => R * g s / sg g a (b - a)) a (b - a)) (fun s => R * g s / sg g a (b - a)) (fun s => R * g s % sg g a (b - a)) w) r') : wp_X2_partRopes w reg rests (nI a) (nI b) (nI R) Q := by
  unfold wp_X2_partRopes wp_X2_partRopes_b6
  have hbound : ∀ j, j ≤ b - a → sg g a j ≤ 9600 := by
    intro j hj
    have := sg_le g a 400 j (fun i hi => (hg (a + i) (by omega)).2.2)
    omega
  refine ⟨fun w' _ t4 t5 => w' = w ∧ ∃ j, j ≤ b - a ∧ t5 = nI (a + j) ∧ t4 = nI (sg g a j), fun _ _ _ t => b - t.toNatClampNeg, ⟨rfl, 0, by omega, rfl, rfl⟩, ?_⟩
  rintro w' r' t4 t5 ⟨rfl, j, hj, rfl, rfl⟩
  have hc := cl (k := a + j) (by omega)
  simp only [hc]
  refine ⟨fun c => ?_, fun c => ?_⟩
  · have : b ≤ a + j := (ile (by omega) (by omega)).mp c
    have e : j = b - a := by omega
    subst e
    have hTb := hbound (b - a) (Nat.le_refl _)
    have hT0 : 0 < sg g a (b - a) := by
      have := sg_at g a (i := 0) (j := b - a) (by omega)
      have := (hg a hab).2.1
      simp only [Nat.add_zero] at *
      omega
    generalize hT : sg g a (b - a) = T at *
    have hT1 : ¬ nI T = 0 := nI_ne0 hT0 (by omega)
    refine ⟨fun _ => ?_, fun q => absurd ((ilt (a := 0) (b := T) (by decide) (by omega)).mpr hT0) q⟩
    have hlf := left_facts (R := R) hT.symm hT0 (show 0 < b - a by omega)
    have hqle : ∀ i, i ≤ b - a → sg (fun s => R * g s / T) a i ≤ R := fun i hi => Nat.le_trans (sg_mono _ a hi) hlf.1
    have hRg : ∀ s, s < b → R * g s ≤ 4000000 := fun s hs => by
      have := Nat.mul_le_mul hR (hg s hs).2.2
      omega
    unfold wp_X2_partRopes_b42
    refine ⟨fun w2 r2 t4 t5 t6 => t4 = nI T ∧ ∃ i, i ≤ b - a ∧ t6 = nI (a + i) ∧ t5 = nI (R - sg (fun s => R * g s / T) a i) ∧ (∀ s, a ≤ s → s < a + i → w2 s = nI (R * g s / T) ∧ r2 s = nI (R * g s % T)) ∧ ∀ s, (s < a ∨ a + i ≤ s) → w2 s = w' s, fun _ _ _ _ t => b - t.toNatClampNeg, ⟨rfl, 0, by omega, rfl, rfl, fun s h1 h2 => by omega, fun s _ => rfl⟩, ?_⟩
    rintro w2 r2 t4 t5 t6 ⟨rfl, i, hi, rfl, rfl, h1, h2⟩
    have hc := cl (k := a + i) (by omega)
    simp only [hc]
    refine ⟨fun c => ?_, fun c => ?_⟩
    · have : b ≤ a + i := (ile (by omega) (by omega)).mp c
      have e : i = b - a := by omega
      subst e
      have eab : a + (b - a) = b := by omega
      rw [eab] at h1 h2
      have hlt := hlf.2
      generalize hleft : R - sg (fun s => R * g s / T) a (b - a) = left at *
      unfold wp_X2_partRopes_b104
      refine ⟨fun w3 r3 t5 t6 => t5 = nI left ∧ ∃ k, k ≤ left ∧ t6 = nI k ∧ (∀ s, a ≤ s → s < b → w3 s = nI (R * g s / T + inB (fun s => R * g s % T) a b k s) ∧ r3 s = if ah (fun s => R * g s % T) a b s < k then -1 else nI (R * g s % T)) ∧ (∀ s, (s < a ∨ b ≤ s) → w3 s = w' s) ∧ fb_ct (fun o => decide (a ≤ o ∧ ah (fun s => R * g s % T) a b o < k)) b = k, fun _ _ _ t => left - t.toNatClampNeg, ⟨rfl, 0, by omega, rfl, fun s g1 g2 => ?_, h2, ?_⟩, ?_⟩
      · rw [inB, if_neg (by omega), if_neg (by omega)]; exact h1 s g1 g2
      · have : fb_ct (fun o => decide (a ≤ o ∧ ah (fun s => R * g s % T) a b o < 0)) b = fb_ct (fun _ => false) b := fb_ct_cong fun o _ => by simp
        rw [this]
        clear this
        generalize b = bb
        induction bb with
        | zero => rfl
        | succ n ih => rw [fb_ct_succ, ih]; rfl
      rintro w3 r3 t5 t6 ⟨rfl, k, hk, rfl, g1, g2, g3⟩
      have hc := cl (k := k) (by omega)
      simp only [hc]
      refine ⟨fun c => ?_, fun c => ?_⟩
      · have : left ≤ k := (ile (by omega) (by omega)).mp c
        have e : k = left := by omega
        subst e
        have ew : w3 = WF a b k (fun s => R * g s / T) (fun s => R * g s % T) w' := by
          funext s
          unfold WF
          split
          next q => exact (g1 s q.1 q.2).1
          next q => exact g2 s (by omega)
        rw [ew]
        exact h _
      · have hkl : k < left := Nat.not_le.mp fun q => c ((ile (by omega) (by omega)).mpr q)
        refine sp_giveOneMore hab hb fun cc hc1 hc2 hmx hfs => ?_
        have hes : ∀ s, (fun s => R * g s % T) s < 2147483648 := fun s => by
          have := Nat.mod_lt (R * g s) hT0
          show R * g s % T < _
          omega
        obtain ⟨k1, k2, k3⟩ := next_one (e := fun s => R * g s % T) (r := r3) hes (by omega) (fun s z1 z2 => (g1 s z1 z2).2) g3 hc1 hc2 hmx hfs
        refine ⟨⟨(by trivial), k + 1, by omega, nI_1 k, fun s z1 z2 => ?_, fun s z => ?_, k3⟩, mu1 hkl (by omega)⟩
        · have hi3 := k2 s z1 z2
          by_cases e : s = cc
          · subst e
            rw [upd_s, upd_s, (g1 s z1 z2).1, if_pos (hi3.mpr (Or.inr rfl))]
            refine ⟨?_, rfl⟩
            rw [inB, inB, if_pos (hi3.mpr (Or.inr rfl)), if_neg (by omega), nI_1]
          · rw [upd_n _ _ e, upd_n _ _ e, (g1 s z1 z2).1, (g1 s z1 z2).2]
            by_cases q : ah (fun s => R * g s % T) a b s < k
            · rw [inB, inB, if_pos q, if_pos (hi3.mpr (Or.inl q)), if_pos q, if_pos (hi3.mpr (Or.inl q))]; exact ⟨rfl, rfl⟩
            · have q2 : ¬ ah (fun s => R * g s % T) a b s < k + 1 := fun z => (hi3.mp z).elim q e
              rw [inB, inB, if_neg q, if_neg q2, if_neg q, if_neg q2]; exact ⟨rfl, rfl⟩
        · rw [upd_n _ _ (by omega)]; exact g2 s z
    · have hlt : a + i < b := Nat.not_le.mp fun q => c ((ile (by omega) (by omega)).mpr q)
      have hv : vp_in (nI (a + i)) 24 := vi (by omega)
      have eg := (hg (a + i) hlt).1
      have hp : nI R * nI (g (a + i)) = nI (R * g (a + i)) := pk_mul _ _
      have hb1 := hRg (a + i) hlt
      have hdv : nI (R * g (a + i)) / nI T = nI (R * g (a + i) / T) := pk_div (by omega) hT0 (by omega)
      have hrm : nI (R * g (a + i)) - nI (R * g (a + i) / T) * nI T = nI (R * g (a + i) % T) := by rw [← hdv]; exact pk_rem (by omega) hT0 (by omega)
      rw [eg, hp, hdv, hrm, upd_s]
      refine ⟨hv, hT1, hv, hT1, hv, hv, ⟨(by trivial), i + 1, by omega, nI_1 _, ?_, fun s z1 z2 => ?_, fun s z => ?_⟩, mu1 hlt (by omega)⟩
      · have hq1 := hqle (i + 1) (by omega)
        rw [sg] at hq1
        rw [pk_sub (by omega), sg]
        congr 1
        omega
      · by_cases e : s = a + i
        · subst e; rw [upd_s, upd_s]; exact ⟨rfl, rfl⟩
        · rw [upd_n _ _ e, upd_n _ _ e]; exact h1 s z1 (by omega)
      · rw [upd_n _ _ (by omega)]; exact h2 s (by omega)
  · have hlt : a + j < b := Nat.not_le.mp fun q => c ((ile (by omega) (by omega)).mpr q)
    refine ⟨vi (by omega), ⟨(by trivial), j + 1, by omega, nI_1 _, ?_⟩, mu1 hlt (by omega)⟩
    rw [(hg (a + j) hlt).1, nI_add, sg]
