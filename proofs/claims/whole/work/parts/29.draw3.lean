/-! the model's drawing -/
theorem md_inner {m a b s R T left : Nat} {reg land lost : Nat → Int32} {g : Nat → Nat} {th st : Int32} {Q : Int32 → Int32 → Int32 → (Nat → Int32) → (Nat → Int32) → Prop} {B : Int32 → Int32 → (Nat → Int32) → (Nat → Int32) → Int64 → Int64 → Int32 → Prop} (hab : a < b) (hb : b ≤ 24) (hs1 : a ≤ s) (hs2 : s < b) (hR : R ≤ 10000) (hT0 : 0 < T) (hT1 : T ≤ 9600) (hl : left ≤ 10000) (hg : ∀ s, s < b → reg s = nI (g s) ∧ 1 ≤ g s ∧ g s ≤ 400)
    (h : B th st (upd land s (land s + nI (inB (fun s => R * g s % T) a b left s))) (upd lost s 0) (lN T) (lN left) (nI s + 1)) : wp_X8_draw_b232 (nI m) reg (nI a) (nI b) (nI R) Q B th st land lost (lN T) (lN left) (nI s) (lN (R * g s % T)) 0 (nI a) := by
  have hRg : ∀ s, s < b → R * g s ≤ 4000000 := fun s hs => by
    have := Nat.mul_le_mul hR (hg s hs).2.2
    omega
  have hTne : ¬ lN T = 0 := fun q => by
    have : lN T = lN 0 := q
    have := (lN_eq (by omega) (by decide)).mp this
    omega
  have hel : ∀ s, R * g s % T < 9600 := fun s => by
    have := Nat.mod_lt (R * g s) hT0; omega
  unfold wp_X8_draw_b232
  refine ⟨fun f1 f2 f3 f4 t5 t7 t9 t10 t12 t13 => f1 = th ∧ f2 = st ∧ f3 = land ∧ f4 = lost ∧ t5 = lN T ∧ t7 = lN left ∧ t9 = nI s ∧ t10 = lN (R * g s % T) ∧ ∃ j, j ≤ b - a ∧ t13 = nI (a + j) ∧ t12 = nI (fb_ct (be (fun s => R * g s % T) a s) (a + j)), fun _ _ _ _ _ _ _ _ _ t => b - t.toNatClampNeg, ⟨rfl, rfl, rfl, rfl, rfl, rfl, rfl, rfl, 0, by omega, rfl, ?_⟩, ?_⟩
  · have : ∀ n, n ≤ a → fb_ct (be (fun s => R * g s % T) a s) n = 0 := by
      intro n
      induction n with
      | zero => intro _; rfl
      | succ n ih =>
        intro hn
        have e : be (fun s => R * g s % T) a s n = false := decide_eq_false (fun q => by omega)
        rw [fb_ct_succ, ih (by omega), e]; rfl
    rw [Nat.add_zero, this a (Nat.le_refl _)]; rfl
  rintro f1 f2 f3 f4 t5 t7 t9 t10 t12 t13 ⟨rfl, rfl, rfl, rfl, rfl, rfl, rfl, rfl, j, hj, rfl, rfl⟩
  have hc := cl (k := a + j) (by omega)
  have hc2 := cl (k := s) (by omega)
  simp only [wp_X8_draw_b315, wp_X8_draw_b279, wp_X8_draw_b283, wp_X8_draw_b284, hc, hc2]
  have hvs : vp_in (nI s) 24 := vi (by omega)
  have hvs5 : vp_in (nI s) 25 := vi (by omega)
  have hcnt := fb_ct_le (be (fun s => R * g s % T) a s) (a + j)
  refine ⟨fun c => ?_, fun c => ?_⟩
  · have : b ≤ a + j := (ile (by omega) (by omega)).mp c
    have e : a + j = b := by omega
    rw [e, nI_l (by have := fb_ct_le (be (fun s => R * g s % T) a s) b; omega), lN_le (by omega) (by have := fb_ct_le (be (fun s => R * g s % T) a s) b; omega)]
    unfold inB ah at h
    refine ⟨hvs, fun q => ⟨hvs, hvs5, ?_⟩, fun q => ⟨hvs, hvs5, ?_⟩⟩
    · rw [if_neg (by omega)] at h; exact h
    · rw [if_pos (by omega)] at h; exact h
  · have hlt : a + j < b := Nat.not_le.mp fun q => c ((ile (by omega) (by omega)).mpr q)
    have hv : vp_in (nI (a + j)) 24 := vi (by omega)
    have mu := mu1 hlt (by omega)
    have hb1 := hRg (a + j) hlt
    have eg := hg (a + j) hlt
    have hrm : lN (R * g (a + j)) - lN (R * g (a + j)) / lN T * lN T = lN (R * g (a + j) % T) := pk_lRem (by omega) hT0 (by omega)
    rw [eg.1, nI_l (n := R) (by omega), nI_l (n := g (a + j)) (by omega), lN_mul, hrm]
    have e1 := hel s
    have e2 := hel (a + j)
    rw [lN_lt (by omega) (by omega), lN_eq (by omega) (by omega), ile (by omega) (by omega)]
    have step : ∀ x : Int32, (x = if be (fun s => R * g s % T) a s (a + j) then 1 else 0) → nI (fb_ct (be (fun s => R * g s % T) a s) (a + j)) + x = nI (fb_ct (be (fun s => R * g s % T) a s) (a + (j + 1))) := by
      intro x hx
      subst hx
      rw [← Nat.add_assoc, fb_ct_succ]
      split
      · exact nI_1 _
      · exact Int32.add_zero _
    refine ⟨hv, hTne, fun q => ⟨⟨(by trivial), (by trivial), (by trivial), (by trivial), (by trivial), (by trivial), (by trivial), (by trivial), j + 1, by omega, nI_1 _, step _ ?_⟩, mu⟩, fun q => ⟨fun q2 => ⟨⟨(by trivial), (by trivial), (by trivial), (by trivial), (by trivial), (by trivial), (by trivial), (by trivial), j + 1, by omega, nI_1 _, step _ ?_⟩, mu⟩, fun q2 => ⟨fun q3 => ⟨⟨(by trivial), (by trivial), (by trivial), (by trivial), (by trivial), (by trivial), (by trivial), (by trivial), j + 1, by omega, nI_1 _, step _ ?_⟩, mu⟩, fun q3 => ⟨⟨(by trivial), (by trivial), (by trivial), (by trivial), (by trivial), (by trivial), (by trivial), (by trivial), j + 1, by omega, nI_1 _, step _ ?_⟩, mu⟩⟩⟩⟩
    · rw [if_pos (be_iff.mpr ⟨by omega, Or.inl q⟩)]
    · rw [if_neg (fun z => by have := (be_iff.mp z).2; rcases this with w | w; exact q w; exact q2 w.1)]
    · rw [if_neg (fun z => by have := (be_iff.mp z).2; rcases this with w | w; exact q w; omega)]
    · rw [if_pos (be_iff.mpr ⟨by omega, Or.inr ⟨q2, by omega⟩⟩)]
theorem md_outer {m a b R T left : Nat} {reg w land lost : Nat → Int32} {g : Nat → Nat} {th st : Int32} {Q : Int32 → Int32 → Int32 → (Nat → Int32) → (Nat → Int32) → Prop} (hab : a < b) (hb : b ≤ 24) (hR : R ≤ 10000) (hT0 : 0 < T) (hT1 : T ≤ 9600) (hl : left ≤ 10000) (hg : ∀ s, s < b → reg s = nI (g s) ∧ 1 ≤ g s ∧ g s ≤ 400)
    (h1 : ∀ s, a ≤ s → s < b → land s = nI (R * g s / T)) (h2 : ∀ s, (s < a ∨ b ≤ s) → land s = w s) (h : Q (nI b - nI a - 1) th 0 (WF a b left (fun s => R * g s / T) (fun s => R * g s % T) w) (LF a b lost)) : wp_X8_draw_b204 (nI m) reg (nI a) (nI b) (nI R) Q th st land lost (lN T) (lN left) (nI a) := by
  have hRg : ∀ s, s < b → R * g s ≤ 4000000 := fun s hs => by
    have := Nat.mul_le_mul hR (hg s hs).2.2
    omega
  have hTne : ¬ lN T = 0 := fun q => by
    have : lN T = lN 0 := q
    have := (lN_eq (by omega) (by decide)).mp this
    omega
  unfold wp_X8_draw_b204
  refine ⟨fun f1 f2 f3 f4 t5 t7 t9 => f1 = th ∧ f2 = st ∧ t5 = lN T ∧ t7 = lN left ∧ ∃ i, i ≤ b - a ∧ t9 = nI (a + i) ∧ (∀ s, a ≤ s → s < a + i → f3 s = nI (R * g s / T + inB (fun s => R * g s % T) a b left s)) ∧ (∀ s, a + i ≤ s → s < b → f3 s = nI (R * g s / T)) ∧ (∀ s, (s < a ∨ b ≤ s) → f3 s = w s) ∧ f4 = LF a (a + i) lost, fun _ _ _ _ _ _ t => b - t.toNatClampNeg, ⟨rfl, rfl, rfl, rfl, 0, by omega, rfl, fun s z1 z2 => by omega, fun s z1 z2 => h1 s (by omega) z2, h2, ?_⟩, ?_⟩
  · funext k
    unfold LF
    rw [if_neg (by omega)]
  rintro f1 f2 f3 f4 t5 t7 t9 ⟨rfl, rfl, rfl, rfl, i, hi, rfl, g1, g2, g3, rfl⟩
  have hc := cl (k := a + i) (by omega)
  simp only [hc]
  refine ⟨fun c => ?_, fun c => ?_⟩
  · have : b ≤ a + i := (ile (by omega) (by omega)).mp c
    have e : a + i = b := by omega
    rw [e] at g1 ⊢
    have ew : f3 = WF a b left (fun s => R * g s / T) (fun s => R * g s % T) w := by
      funext s
      unfold WF
      split
      next q => exact g1 s q.1 q.2
      next q => exact g3 s (by omega)
    rw [ew]
    refine sp_told0 ?_ h
    rw [pk_sub (by omega), show nI (b - a) - 1 = nI (b - a - 1) by
      have : b - a = (b - a - 1) + 1 := by omega
      rw [this]; exact nI_pred _]
    exact nI_pos' (by omega)
  · have hlt : a + i < b := Nat.not_le.mp fun q => c ((ile (by omega) (by omega)).mpr q)
    have hv : vp_in (nI (a + i)) 24 := vi (by omega)
    have hb1 := hRg (a + i) hlt
    have eg := hg (a + i) hlt
    have hrm : lN (R * g (a + i)) - lN (R * g (a + i)) / lN T * lN T = lN (R * g (a + i) % T) := pk_lRem (by omega) hT0 (by omega)
    rw [eg.1, nI_l (n := R) (by omega), nI_l (n := g (a + i)) (by omega), lN_mul, hrm]
    refine ⟨hv, hTne, md_inner hab hb (by omega) hlt hR hT0 hT1 hl hg ⟨⟨(by trivial), (by trivial), (by trivial), (by trivial), i + 1, by omega, nI_1 _, fun s z1 z2 => ?_, fun s z1 z2 => ?_, fun s z => ?_, ?_⟩, mu1 hlt (by omega)⟩⟩
    · by_cases e : s = a + i
      · subst e
        rw [upd_s, g2 _ (Nat.le_refl _) hlt, nI_add]
      · rw [upd_n _ _ e]; exact g1 s z1 (by omega)
    · rw [upd_n _ _ (by omega)]; exact g2 s (by omega) z2
    · rw [upd_n _ _ (by omega)]; exact g3 s z
    · funext k
      by_cases e : k = a + i
      · subst e; rw [upd_s, LF, if_pos (by omega)]
      · rw [upd_n _ _ e]
        unfold LF
        by_cases q : a ≤ k ∧ k < a + i
        · rw [if_pos q, if_pos (by omega)]
        · rw [if_neg q, if_neg (by omega)]
theorem md_part {m a b R : Nat} {reg w lost : Nat → Int32} {g : Nat → Nat} {th st : Int32} {Q : Int32 → Int32 → Int32 → (Nat → Int32) → (Nat → Int32) → Prop} (hab : a < b) (hb : b ≤ 24) (hR : R ≤ 10000) (hg : ∀ s, s < b → reg s = nI (g s) ∧ 1 ≤ g s ∧ g s ≤ 400)
    (h : Q (nI b - nI a - 1) th 0 (WF a b (R - sg (fun s => R * g s / sg g a (b - a)) a (b - a)) (fun s => R * g s / sg g a (b - a)) (fun s => R * g s % sg g a (b - a)) w) (LF a b lost)) : wp_X8_draw_b154 (nI m) reg (nI a) (nI b) (nI R) Q th st w lost (lN (sg g a (b - a))) (lN R) (nI a) := by
  have hTb : sg g a (b - a) ≤ 9600 := by
    have := sg_le g a 400 (b - a) (fun i hi => (hg (a + i) (by omega)).2.2)
    omega
  have hT0 : 0 < sg g a (b - a) := by
    have := sg_at g a (i := 0) (j := b - a) (by omega)
    have := (hg a hab).2.1
    simp only [Nat.add_zero] at *
    omega
  generalize hT : sg g a (b - a) = T at *
  have hlf := left_facts (R := R) hT.symm hT0 (show 0 < b - a by omega)
  have hqle : ∀ i, i ≤ b - a → sg (fun s => R * g s / T) a i ≤ R := fun i hi => Nat.le_trans (sg_mono _ a hi) hlf.1
  have hRg : ∀ s, s < b → R * g s ≤ 4000000 := fun s hs => by
    have := Nat.mul_le_mul hR (hg s hs).2.2
    omega
  have hTne : ¬ lN T = 0 := fun q => by
    have : lN T = lN 0 := q
    have := (lN_eq (by omega) (by decide)).mp this
    omega
  unfold wp_X8_draw_b154
  refine ⟨fun f1 f2 f3 f4 t5 t7 t9 => f1 = th ∧ f2 = st ∧ f4 = lost ∧ t5 = lN T ∧ ∃ i, i ≤ b - a ∧ t9 = nI (a + i) ∧ t7 = lN (R - sg (fun s => R * g s / T) a i) ∧ (∀ s, a ≤ s → s < a + i → f3 s = nI (R * g s / T)) ∧ ∀ s, (s < a ∨ a + i ≤ s) → f3 s = w s, fun _ _ _ _ _ _ t => b - t.toNatClampNeg, ⟨rfl, rfl, rfl, rfl, 0, by omega, rfl, rfl, fun s z1 z2 => by omega, fun s _ => rfl⟩, ?_⟩
  rintro f1 f2 f3 f4 t5 t7 t9 ⟨rfl, rfl, rfl, rfl, i, hi, rfl, rfl, g1, g2⟩
  have hc := cl (k := a + i) (by omega)
  simp only [hc]
  refine ⟨fun c => ?_, fun c => ?_⟩
  · have : b ≤ a + i := (ile (by omega) (by omega)).mp c
    have e : i = b - a := by omega
    subst e
    have eab : a + (b - a) = b := by omega
    rw [eab] at g1 g2
    exact md_outer hab hb hR hT0 hTb (by omega) hg g1 g2 h
  · have hlt : a + i < b := Nat.not_le.mp fun q => c ((ile (by omega) (by omega)).mpr q)
    have hv : vp_in (nI (a + i)) 24 := vi (by omega)
    have hb1 := hRg (a + i) hlt
    have eg := hg (a + i) hlt
    have hdv : lN (R * g (a + i)) / lN T = lN (R * g (a + i) / T) := pk_lDiv (by omega) hT0 (by omega)
    have hdle : R * g (a + i) / T ≤ 4000000 := Nat.le_trans (Nat.div_le_self _ _) hb1
    rw [eg.1, nI_l (n := R) (by omega), nI_l (n := g (a + i)) (by omega), lN_mul, hdv, lN_i, upd_s, nI_l (n := R * g (a + i) / T) (by omega)]
    refine ⟨hv, hTne, hv, hv, ⟨(by trivial), (by trivial), (by trivial), (by trivial), i + 1, by omega, nI_1 _, ?_, fun s z1 z2 => ?_, fun s z => ?_⟩, mu1 hlt (by omega)⟩
    · have hq1 := hqle (i + 1) (by omega)
      rw [sg] at hq1
      rw [lN_sub (by omega), sg]
      congr 1
      omega
    · by_cases e : s = a + i
      · subst e; rw [upd_s]
      · rw [upd_n _ _ e]; exact g1 s z1 (by omega)
    · rw [upd_n _ _ (by omega)]; exact g2 s (by omega)
def CD (a b : Nat) (lost : Nat → Int32) (k : Nat) : Prop := lost a = 0 ∧ lost b = 0 ∧ ∀ i, a < i → i < k → ¬ lost i = 0
theorem md_good {m a b R : Nat} {reg w lost : Nat → Int32} {g : Nat → Nat} {th st t4 : Int32} {Q : Int32 → Int32 → Int32 → (Nat → Int32) → (Nat → Int32) → Prop} (hab : a < b) (hb : b ≤ 24) (hR : R ≤ 10000) (hg : ∀ s, s < b → reg s = nI (g s) ∧ 1 ≤ g s ∧ g s ≤ 400) (ht : (t4 = 1 ∧ lost a = 0 ∧ lost b = 0) ∨ (t4 = 0 ∧ ¬ (lost a = 0 ∧ lost b = 0)))
    (h1 : CD a b lost b → Q (nI b - nI a - 1) th 0 (WF a b (R - sg (fun s => R * g s / sg g a (b - a)) a (b - a)) (fun s => R * g s / sg g a (b - a)) (fun s => R * g s % sg g a (b - a)) w) (LF a b lost)) (h0 : ¬ CD a b lost b → Q (-3) th (-3) w lost) : wp_X8_draw_b82 (nI m) reg (nI a) (nI b) (nI R) Q th st w lost t4 0 (nI a) := by
  unfold wp_X8_draw_b82
  refine ⟨fun f1 f2 f3 f4 t4 t5 t7 => f1 = th ∧ f2 = st ∧ f3 = w ∧ f4 = lost ∧ ∃ i, i ≤ b - a ∧ t7 = nI (a + i) ∧ t5 = lN (sg g a i) ∧ ((t4 = 1 ∧ CD a b lost (a + i)) ∨ (t4 = 0 ∧ ¬ CD a b lost (a + i))), fun _ _ _ _ _ _ t => b - t.toNatClampNeg, ⟨rfl, rfl, rfl, rfl, 0, by omega, rfl, rfl, ?_⟩, ?_⟩
  · rcases ht with q | q
    · exact Or.inl ⟨q.1, q.2.1, q.2.2, fun i z1 z2 => by omega⟩
    · exact Or.inr ⟨q.1, fun z => q.2 ⟨z.1, z.2.1⟩⟩
  rintro f1 f2 f3 f4 t4 t5 t7 ⟨rfl, rfl, rfl, rfl, i, hi, rfl, rfl, ht⟩
  have hc := cl (k := a + i) (by omega)
  simp only [hc, wp_X8_draw_b113, wp_X8_draw_b109, wp_X8_draw_b114]
  refine ⟨fun c => ?_, fun c => ?_⟩
  · have : b ≤ a + i := (ile (by omega) (by omega)).mp c
    have e : i = b - a := by omega
    subst e
    rw [show a + (b - a) = b by omega] at ht
    refine ⟨fun q => ?_, fun q => ?_⟩
    · rcases ht with z | z
      · rw [nI_l (n := R) (by omega)]
        exact md_part hab hb hR hg (h1 z.2)
      · exact absurd z.1 q
    · rcases ht with z | z
      · rw [z.1] at q; exact absurd q (by decide)
      · exact sp_toldN neg3 (h0 z.2)
  · have hlt : a + i < b := Nat.not_le.mp fun q => c ((ile (by omega) (by omega)).mpr q)
    have hv : vp_in (nI (a + i)) 24 := vi (by omega)
    have mu := mu1 hlt (by omega)
    have eg := hg (a + i) hlt
    rw [eg.1, nI_l (n := g (a + i)) (by omega), lN_add]
    refine ⟨fun q => ?_, fun q => ⟨fun q2 => ?_, fun q2 => ⟨vi (by omega), fun q3 => ?_, fun q3 => ?_⟩⟩⟩
    · have H : ¬ CD a b f4 (a + (i + 1)) := fun z => by
        rcases ht with y | y
        · rw [y.1] at q; exact absurd q (by decide)
        · exact y.2 ⟨z.1, z.2.1, fun k z1 z2 => z.2.2 k z1 (by omega)⟩
      exact ⟨hv, ⟨by trivial, by trivial, by trivial, by trivial, i + 1, by omega, nI_1 _, rfl, Or.inr ⟨by trivial, H⟩⟩, mu⟩
    · have H : CD a b f4 (a + (i + 1)) := by
        rcases ht with y | y
        · have : i = 0 := by have := (nI_eq (a := a + i) (b := a) (by omega) (by omega)).mp q2; omega
          exact ⟨y.2.1, y.2.2.1, fun k z1 z2 => by omega⟩
        · exact absurd y.1 q
      exact ⟨hv, ⟨by trivial, by trivial, by trivial, by trivial, i + 1, by omega, nI_1 _, rfl, Or.inl ⟨by trivial, H⟩⟩, mu⟩
    · have H : ¬ CD a b f4 (a + (i + 1)) := fun z => by
        have hne : 0 < i := Nat.pos_of_ne_zero fun e => q2 (by rw [e]; rfl)
        exact z.2.2 (a + i) (by omega) (by omega) q3
      exact ⟨hv, ⟨by trivial, by trivial, by trivial, by trivial, i + 1, by omega, nI_1 _, rfl, Or.inr ⟨by trivial, H⟩⟩, mu⟩
    · have H : CD a b f4 (a + (i + 1)) := by
        rcases ht with y | y
        · refine ⟨y.2.1, y.2.2.1, fun k z1 z2 => ?_⟩
          by_cases e : k = a + i
          · subst e; exact q3
          · exact y.2.2.2 k z1 (by omega)
        · exact absurd y.1 q
      exact ⟨hv, ⟨by trivial, by trivial, by trivial, by trivial, i + 1, by omega, nI_1 _, rfl, Or.inl ⟨by trivial, H⟩⟩, mu⟩
/-! draw, both sides -/
theorem wf_ok {a b R T : Nat} {g : Nat → Nat} {w : Nat → Int32} {m : Nat} (hT : T = sg g a (b - a)) (h0 : 0 < T) (hab : a < b) (hR : R ≤ 10000) (hw : ∀ s, s < m → ok (w s) 10000) : ∀ s, s < m → ok (WF a b (R - sg (fun s => R * g s / T) a (b - a)) (fun s => R * g s / T) (fun s => R * g s % T) w s) 10000 := by
  intro s hs
  unfold WF
  split
  next q =>
    have hlf := left_facts (R := R) hT h0 (show 0 < b - a by omega)
    have h1 := sg_at (fun s => R * g s / T) a (i := s - a) (j := b - a) (by omega)
    rw [show a + (s - a) = s by omega] at h1
    refine nI_ok (n := 10000) ?_
    show R * g s / T + inB _ a b _ s ≤ 10000
    have h2 : R * g s / T ≤ sg (fun s => R * g s / T) a (b - a) := h1
    unfold inB
    split <;> omega
  · exact hw s hs
theorem reg_nat {m : Nat} {w reg lost : Nat → Int32} (hL : LI m w reg lost) : ∀ s, s < m → reg s = nI ((reg s).toNatClampNeg) ∧ 1 ≤ (reg s).toNatClampNeg ∧ (reg s).toNatClampNeg ≤ 400 := by
  intro s hs
  obtain ⟨-, h1, h2⟩ := hL.2.1 s hs
  have h3 : ok (reg s) 400 := by
    refine ⟨?_, h2⟩
    rw [i_le] at h1 ⊢
    have e1 : (1 : Int32).toInt = 1 := by decide
    have e0 : (0 : Int32).toInt = 0 := by decide
    omega
  obtain ⟨j, hj, e⟩ := ok_nI (n := 400) h3
  rw [e] at h1 ⊢
  rw [cl (by omega)]
  have := (ile (a := 1) (b := j) (by decide) (by omega)).mp h1
  exact ⟨rfl, this, hj⟩
theorem bo_draw {m : Nat} {rf st th x1 x2 x3 : Int32} {w reg lost rests : Nat → Int32} {F : Int32 → Int32 → (Nat → Int32) → (Nat → Int32) → (Nat → Int32) → Int32 → Int32 → Int32 → (Nat → Int32) → (Nat → Int32) → Prop} (hL : LI m w reg lost)
    (h : ∀ r s' w' l' rr, LI m w' reg l' → F r s' w' l' rr r 0 s' w' l') : wp_X7_draw rf (nI m) w reg lost rests x1 x2 x3 (fun r a b c d => wp_X8_draw th st (nI m) reg w lost x1 x2 x3 (fun r' t a' b' c' => F r a b c d r' t a' b' c')) := by
  have hm := hL.1
  have bad1 : ¬ (¬ x2 ≤ x1 ∧ ok x3 10000) → wp_X7_draw_b15 (nI m) reg x1 x2 x3 (fun r a b c d => wp_X8_draw th st (nI m) reg w lost x1 x2 x3 (fun r' t a' b' c' => F r a b c d r' t a' b' c')) rf w lost rests := by
    intro hb
    unfold wp_X7_draw_b15 wp_X7_refuse wp_X8_draw wp_X8_draw_b22
    refine ⟨fun _ => sp_toldN neg1 (h _ _ _ _ _ hL), fun c => sp_inw (a := 0) (b := 10000) rfl rfl (fun q => absurd ⟨c, q⟩ hb) (fun _ => in0 (sp_toldN neg1 (h _ _ _ _ _ hL)))⟩
  have bad2 : ¬ x2 ≤ x1 → ok x3 10000 → ¬ (isM m x1 ∧ isM m x2) → wp_X7_draw_b43 (nI m) reg x1 x2 x3 (fun r a b c d => wp_X8_draw th st (nI m) reg w lost x1 x2 x3 (fun r' t a' b' c' => F r a b c d r' t a' b' c')) rf w lost rests := by
    intro c0 c1 hb
    unfold wp_X7_draw_b43 wp_X7_refuse wp_X8_draw wp_X8_draw_b44
    refine ⟨fun q => absurd q c0, fun _ => sp_inw (a := 0) (b := 10000) rfl rfl (fun _ => in1 (sp_isMark hm (fun q1 => if1 (sp_isMark hm (fun q2 => absurd ⟨q1, q2⟩ hb) (fun _ => in0 (sp_toldN neg2 (h _ _ _ _ _ hL))))) (fun _ => if0 (sp_toldN neg2 (h _ _ _ _ _ hL))))) (fun q => absurd c1 q)⟩
  unfold wp_X7_draw
  refine ⟨fun c => bad1 fun q => q.1 c, fun c0 => sp_isWithin (fun c1 => in1 (sp_hasMark hm (fun c2 => if1 (sp_hasMark hm (fun c3 => in1 ?_) (fun c3 => in0 (bad2 c0 c1 fun q => c3 q.2)))) (fun c2 => if0 (bad2 c0 c1 fun q => c2 q.1)))) (fun c1 => in0 (bad1 fun q => c1 q.2))⟩
  obtain ⟨a, ha, rfl⟩ := isM_nI c2 hm
  obtain ⟨b, hb, rfl⟩ := isM_nI c3 hm
  obtain ⟨R, hR, rfl⟩ := ok_nI (n := 10000) c1
  have hab : a < b := Nat.not_le.mp fun q => c0 ((ile (by omega) (by omega)).mpr q)
  have hg : ∀ s, s < b → reg s = nI ((reg s).toNatClampNeg) ∧ 1 ≤ (reg s).toNatClampNeg ∧ (reg s).toNatClampNeg ≤ 400 := fun s hs => reg_nat hL s (by omega)
  have model : ∀ (P : Int32 → Int32 → Int32 → (Nat → Int32) → (Nat → Int32) → Prop), (CD a b lost b → P (nI b - nI a - 1) 0 0 (WF a b (R - sg (fun s => R * (reg s).toNatClampNeg / sg (fun s => (reg s).toNatClampNeg) a (b - a)) a (b - a)) (fun s => R * (reg s).toNatClampNeg / sg (fun s => (reg s).toNatClampNeg) a (b - a)) (fun s => R * (reg s).toNatClampNeg % sg (fun s => (reg s).toNatClampNeg) a (b - a)) w) (LF a b lost)) → (¬ CD a b lost b → P (-3) 0 (-3) w lost) → wp_X8_draw th st (nI m) reg w lost (nI a) (nI b) (nI R) P := by
    intro P h1 h0
    unfold wp_X8_draw
    refine ⟨fun q => absurd q c0, fun _ => sp_inw (a := 0) (b := 10000) rfl rfl (fun _ => in1 (sp_isMark hm (fun _ => if1 (sp_isMark hm (fun _ => in1 ?_) (fun q => absurd c3 q))) (fun q => absurd c2 q))) (fun q => absurd c1 q)⟩
    rw [cl (k := a) (by omega), cl (k := b) (by omega)]
    unfold wp_X8_draw_b73 wp_X8_draw_b74
    refine ⟨vi (by omega), fun q => md_good hab (by omega) hR hg (Or.inr ⟨rfl, fun z => q z.1⟩) h1 h0, fun q => ⟨vi (by omega), fun q2 => md_good hab (by omega) hR hg (Or.inr ⟨rfl, fun z => q2 z.2⟩) h1 h0, fun q2 => md_good hab (by omega) hR hg (Or.inl ⟨rfl, q, q2⟩) h1 h0⟩⟩
  refine sp_canDraw hab (by omega) (fun cd => in1 ?_) (fun cd => in0 ?_)
  · refine sp_partRopes hab (by omega) hR hg fun r' => ?_
    refine sp_setMarks hab (by omega) cd.1 ?_
    unfold wp_X7_accept
    refine model _ (fun _ => h _ _ _ _ _ ⟨hm, fun s hs => ⟨?_, (hL.2.1 s hs).2⟩, fun k => ?_⟩) (fun q => absurd cd q)
    · have hT0 : 0 < sg (fun s => (reg s).toNatClampNeg) a (b - a) := by
        have h1 := sg_at (fun s => (reg s).toNatClampNeg) a (i := 0) (j := b - a) (by omega)
        have h2 := (hg a hab).2.1
        simp only [Nat.add_zero] at h1
        omega
      exact wf_ok rfl hT0 hab hR (fun s hs => (hL.2.1 s hs).1) s hs
    · unfold LF
      split
      · exact Or.inl rfl
      · exact hL.2.2 k
  · unfold wp_X7_refuse
    exact model _ (fun q => absurd q cd) (fun _ => h _ _ _ _ _ hL)
