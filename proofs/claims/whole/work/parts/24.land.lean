/-! calls that change what is held: both sides at once -/
theorem neg1 : ¬ (0 : Int32) ≤ -1 := by decide
theorem neg2 : ¬ (0 : Int32) ≤ -2 := by decide
theorem neg3 : ¬ (0 : Int32) ≤ -3 := by decide
theorem neg5 : ¬ (0 : Int32) ≤ -5 := by decide
theorem bo_read {n : Nat} {rf st th x1 x2 x3 : Int32} {days heights known : Nat → Int32} {F : Int32 → Int32 → Int32 → (Nat → Int32) → (Nat → Int32) → (Nat → Int32) → Int32 → Int32 → Int32 → Int32 → (Nat → Int32) → (Nat → Int32) → (Nat → Int32) → Prop} (hR : RI n days heights)
    (h : ∀ r s' n' d' h' k', RI n' d' h' → F r s' (nI n') d' h' k' r 0 s' (nI n') d' h' k') : wp_X7_read rf (nI n) days heights known x1 x2 x3 (fun r a b c d e => wp_X8_read th st (nI n) days heights known x1 x2 x3 (fun r' t a' b' c' d' e' => F r a b c d e r' t a' b' c' d' e')) := by
  have hn := hR.1
  have bad : ¬ (ok x1 119 ∧ ok x2 400 ∧ ok x3 1000) → wp_X7_read_b26 x1 x2 x3 (fun r a b c d e => wp_X8_read th st (nI n) days heights known x1 x2 x3 (fun r' t a' b' c' d' e' => F r a b c d e r' t a' b' c' d' e')) rf (nI n) days heights known := by
    intro hb
    unfold wp_X7_read_b26 wp_X7_refuse wp_X8_read wp_X8_read_b31
    refine sp_isDay (fun c1 => if1 (sp_inw (a := 0) (b := 400) rfl rfl (fun c2 => if1 (sp_isKnown (fun c3 => absurd ⟨c1, c2, c3⟩ hb) (fun c3 => in0 ?_))) (fun c2 => if0 ?_))) (fun c1 => if0 ?_)
    all_goals exact sp_toldN neg1 (h _ _ _ _ _ _ hR)
  unfold wp_X7_read
  refine sp_isWithin (fun c1 => if1 (sp_isWithin (fun c2 => if1 (sp_isKnownDay (fun c3 => in1 ⟨fun c4 => ?_, fun c4 => ?_⟩) (fun c3 => in0 (bad fun q => c3 q.2.2)))) (fun c2 => if0 (bad fun q => c2 q.2.1)))) (fun c1 => if0 (bad fun q => c1 q.1))
  · have hlt : n < 300 := (ilt (by omega) (by decide)).mp c4
    have hc := cl (k := n) (by omega)
    have hv : vp_in (nI n) 300 := vi hlt
    unfold wp_X4_tell wp_X7_accept
    refine ⟨hv, hv, hv, ?_⟩
    unfold wp_X8_read
    refine sp_isDay (fun _ => if1 (sp_inw (a := 0) (b := 400) rfl rfl (fun _ => if1 (sp_isKnown (fun _ => in1 ⟨fun _ => ⟨hv, hv, hv, ?_⟩, fun q => ?_⟩) (fun q => absurd c3 q))) (fun q => absurd c2 q))) (fun q => absurd c1 q)
    · have e : nI n + 1 = nI (n + 1) := nI_1 n
      rw [e, hc]
      refine sp_told0 (nI_pos' (by omega)) (h _ _ _ _ _ _ ⟨by omega, fun i hi => ?_⟩)
      by_cases ei : i = n
      · subst ei; rw [upd_s, upd_s]; exact ⟨c1, c2.1⟩
      · rw [upd_n _ _ ei, upd_n _ _ ei]; exact hR.2 i (by omega)
    · have := (nI_eq (a := n) (b := 300) (by omega) (by decide)).mp q
      omega
  · have hge : n = 300 := by
      have : ¬ n < 300 := fun q => c4 ((ilt (by omega) (by decide)).mpr q)
      omega
    unfold wp_X7_refuse wp_X8_read
    refine sp_isDay (fun _ => if1 (sp_inw (a := 0) (b := 400) rfl rfl (fun _ => if1 (sp_isKnown (fun _ => in1 ⟨fun q => absurd (by rw [hge]; rfl) q, fun _ => sp_toldN neg5 (h _ _ _ _ _ _ hR)⟩) (fun q => absurd c3 q))) (fun q => absurd c2 q))) (fun q => absurd c1 q)
def LI (m : Nat) (w reg lost : Nat → Int32) : Prop := m ≤ 24 ∧ (∀ s, s < m → ok (w s) 10000 ∧ 1 ≤ reg s ∧ reg s ≤ 400) ∧ ∀ k, lost k = 0 ∨ lost k = 1
theorem ok_up {x : Int32} (h1 : 1 ≤ x) (h2 : x ≤ 400) : ok x 10000 := by
  rw [i_le] at h1 h2
  refine ⟨?_, ?_⟩
  · rw [i_le]
    have e1 : (1 : Int32).toInt = 1 := by decide
    have e0 : (0 : Int32).toInt = 0 := by decide
    omega
  · rw [i_le]
    have e1 : (400 : Int32).toInt = 400 := by decide
    have e0 : (10000 : Int32).toInt = 10000 := by decide
    omega
theorem bo_strip {m : Nat} {rf st th x1 x2 x3 : Int32} {w reg lev own lost : Nat → Int32} {F : Int32 → Int32 → Int32 → (Nat → Int32) → (Nat → Int32) → (Nat → Int32) → (Nat → Int32) → Int32 → Int32 → Int32 → Int32 → (Nat → Int32) → (Nat → Int32) → (Nat → Int32) → (Nat → Int32) → Prop} (hL : LI m w reg lost)
    (h : ∀ r s' m' w' g' l' o', m ≤ m' → LI m' w' g' lost → F r s' (nI m') w' g' l' o' r 0 s' (nI m') g' w' l' o') : wp_X7_strip rf (nI m) w reg lev own x1 x2 x3 (fun r a b c d e f => wp_X8_strip th st (nI m) reg w lev own x1 x2 x3 (fun r' t a' b' c' d' e' f' => F r a b c d e f r' t a' b' c' d' e' f')) := by
  have hm := hL.1
  have bad : ¬ ((1 ≤ x1 ∧ x1 ≤ 400) ∧ ok x2 400 ∧ ok x3 19) → wp_X7_strip_b31 x1 x2 x3 (fun r a b c d e f => wp_X8_strip th st (nI m) reg w lev own x1 x2 x3 (fun r' t a' b' c' d' e' f' => F r a b c d e f r' t a' b' c' d' e' f')) rf (nI m) w reg lev own := by
    intro hb
    unfold wp_X7_strip_b31 wp_X7_refuse wp_X8_strip wp_X8_strip_b41
    refine sp_inw (a := 1) (b := 400) rfl rfl (fun c1 => if1 (sp_inw (a := 0) (b := 400) rfl rfl (fun c2 => if1 (sp_inw (a := 0) (b := 19) rfl rfl (fun c3 => absurd ⟨c1, c2, c3⟩ hb) (fun c3 => in0 ?_))) (fun c2 => if0 ?_))) (fun c1 => if0 ?_)
    all_goals exact sp_toldN neg1 (h _ _ _ _ _ _ _ (Nat.le_refl _) hL)
  unfold wp_X7_strip
  refine ⟨fun c => bad fun q => absurd q.1.1 (Int32.not_le.mpr c), fun c0 => ⟨fun c => bad fun q => absurd q.1.2 (Int32.not_le.mpr c), fun c0' => sp_isWithin (fun c2 => if1 (sp_isWithin (fun c3 => in1 ⟨fun c4 => ?_, fun c4 => ?_⟩) (fun c3 => in0 (bad fun q => c3 q.2.2)))) (fun c2 => if0 (bad fun q => c2 q.2.1))⟩⟩
  all_goals have c1 : 1 ≤ x1 ∧ x1 ≤ 400 := ⟨Int32.not_lt.mp c0, Int32.not_lt.mp c0'⟩
  · have hlt : m < 24 := (ilt (by omega) (by decide)).mp c4
    have hc := cl (k := m) (by omega)
    have hv : vp_in (nI m) 24 := vi hlt
    unfold wp_X2_addStrip wp_X7_accept
    refine ⟨hv, hv, hv, hv, ?_⟩
    unfold wp_X8_strip
    refine sp_inw (a := 1) (b := 400) rfl rfl (fun _ => if1 (sp_inw (a := 0) (b := 400) rfl rfl (fun _ => if1 (sp_inw (a := 0) (b := 19) rfl rfl (fun _ => in1 ⟨fun _ => ⟨hv, hv, hv, hv, ?_⟩, fun q => ?_⟩) (fun q => absurd c3 q))) (fun q => absurd c2 q))) (fun q => absurd c1 q)
    · have e : nI m + 1 = nI (m + 1) := nI_1 m
      rw [e, hc, nI_pred]
      refine sp_told0 (nI_pos' (by omega)) (h _ _ _ _ _ _ _ (by omega) ⟨by omega, fun i hi => ?_, hL.2.2⟩)
      by_cases ei : i = m
      · subst ei; rw [upd_s, upd_s]; exact ⟨ok_up c1.1 c1.2, c1⟩
      · rw [upd_n _ _ ei, upd_n _ _ ei]; exact hL.2.1 i (by omega)
    · have := (nI_eq (a := m) (b := 24) (by omega) (by decide)).mp q
      omega
  · have hge : m = 24 := by
      have : ¬ m < 24 := fun q => c4 ((ilt (by omega) (by decide)).mpr q)
      omega
    unfold wp_X7_refuse wp_X8_strip
    refine sp_inw (a := 1) (b := 400) rfl rfl (fun _ => if1 (sp_inw (a := 0) (b := 400) rfl rfl (fun _ => if1 (sp_inw (a := 0) (b := 19) rfl rfl (fun _ => in1 ⟨fun q => absurd (by rw [hge]; rfl) q, fun _ => sp_toldN neg5 (h _ _ _ _ _ _ _ (Nat.le_refl _) hL)⟩) (fun q => absurd c3 q))) (fun q => absurd c2 q))) (fun q => absurd c1 q)
theorem bo_of {m : Nat} {th x1 x2 : Int32} {w reg lev own : Nat → Int32} {F : Int32 → Int32 → Int32 → Prop} (hm : m ≤ 24) (h : ∀ r, F r r 0) : wp_X7_of (nI m) w reg lev own x1 x2 (fun r => wp_X8_of th (nI m) reg w lev own x1 x2 (fun r' t => F r r' t)) := by
  unfold wp_X7_of
  refine sp_hasStrip (fun c1 => in1 ?_) (fun c1 => in0 (sp_isStrip hm (fun q => absurd q c1) (fun _ => in0 (h _))))
  obtain ⟨s, hs, rfl⟩ := isS_nI c1 hm
  have hv : vp_in (nI s) 24 := vi (by omega)
  refine ⟨fun d => ⟨hv, ?_⟩, fun d => ⟨hv, ?_⟩, fun d => ⟨hv, ?_⟩, fun d => ⟨hv, ?_⟩, fun d => ?_⟩
  · exact sp_isStrip hm (fun _ => in1 ⟨fun q => absurd d q, fun _ => ⟨hv, h _⟩⟩) (fun q => absurd c1 q)
  · exact sp_isStrip hm (fun _ => in1 ⟨fun _ => ⟨fun q => absurd d q, fun _ => ⟨hv, h _⟩⟩, fun q => by rw [d] at q; exact absurd q (by decide)⟩) (fun q => absurd c1 q)
  · exact sp_isStrip hm (fun _ => in1 ⟨fun _ => ⟨fun _ => ⟨fun q => absurd d q, fun _ => ⟨hv, h _⟩⟩, fun q => by rw [d] at q; exact absurd q (by decide)⟩, fun q => by rw [d] at q; exact absurd q (by decide)⟩) (fun q => absurd c1 q)
  · exact sp_isStrip hm (fun _ => in1 ⟨fun _ => ⟨fun _ => ⟨fun _ => ⟨fun q => absurd d q, fun _ => ⟨hv, h _⟩⟩, fun q => by rw [d] at q; exact absurd q (by decide)⟩, fun q => by rw [d] at q; exact absurd q (by decide)⟩, fun q => by rw [d] at q; exact absurd q (by decide)⟩) (fun q => absurd c1 q)
  · exact sp_isStrip hm (fun _ => in1 ⟨fun _ => ⟨fun _ => ⟨fun _ => ⟨fun _ => h _, fun q => absurd q d.2.2.2⟩, fun q => absurd q d.2.2.1⟩, fun q => absurd q d.2.1⟩, fun q => absurd q d.1⟩) (fun q => absurd c1 q)
theorem lost_up {lost : Nat → Int32} (h : ∀ k, lost k = 0 ∨ lost k = 1) (i : Nat) {x : Int32} (hx : x = 0 ∨ x = 1) : ∀ k, upd lost i x k = 0 ∨ upd lost i x k = 1 := fun k => by
  by_cases e : k = i
  · subst e; rw [upd_s]; exact hx
  · rw [upd_n _ _ e]; exact h k
theorem bo_lose {m : Nat} {rf st th x1 : Int32} {w reg lost : Nat → Int32} {F : Int32 → Int32 → (Nat → Int32) → Int32 → Int32 → Int32 → (Nat → Int32) → Prop} (hL : LI m w reg lost)
    (h : ∀ r s' l', LI m w reg l' → F r s' l' r 0 s' l') : wp_X7_lose rf (nI m) lost x1 (fun r a b => wp_X8_lose th st (nI m) lost x1 (fun r' t a' b' => F r a b r' t a' b')) := by
  have hm := hL.1
  unfold wp_X7_lose
  refine sp_hasMark hm (fun c1 => in1 ?_) (fun c1 => in0 ?_)
  · obtain ⟨k, hk, rfl⟩ := isM_nI c1 hm
    have hv : vp_in (nI k) 25 := vi (by omega)
    unfold wp_X2_isRock wp_X2_isRock_b12 wp_X7_lose_b41
    refine ⟨fun d => in1 ?_, fun d => ⟨fun d2 => in0 ⟨hv, fun d3 => ⟨hv, ?_⟩, fun d3 => ?_⟩, fun d2 => in1 ?_⟩⟩
    · exact sp_isMark hm (fun _ => in1 ⟨fun _ => sp_toldN neg3 (h _ _ _ hL), fun q => absurd d q⟩) (fun q => absurd c1 q)
    · exact sp_isMark hm (fun _ => in1 ⟨fun q => absurd q d, fun _ => ⟨fun q => absurd q d2, fun _ => ⟨hv, fun _ => ⟨hv, sp_told0 (by decide) (h _ _ _ ⟨hL.1, hL.2.1, lost_up hL.2.2 _ (Or.inr rfl)⟩)⟩, fun q => absurd d3 q⟩⟩⟩) (fun q => absurd c1 q)
    · exact sp_isMark hm (fun _ => in1 ⟨fun q => absurd q d, fun _ => ⟨fun q => absurd q d2, fun _ => ⟨hv, fun q => absurd q d3, fun _ => sp_toldN neg3 (h _ _ _ hL)⟩⟩⟩) (fun q => absurd c1 q)
    · exact sp_isMark hm (fun _ => in1 ⟨fun q => absurd q d, fun _ => ⟨fun _ => sp_toldN neg3 (h _ _ _ hL), fun q => absurd d2 q⟩⟩) (fun q => absurd c1 q)
  · exact sp_isMark hm (fun q => absurd q c1) (fun _ => in0 (sp_toldN neg2 (h _ _ _ hL)))
theorem bo_stands {m : Nat} {th x1 : Int32} {lost : Nat → Int32} {F : Int32 → Int32 → Int32 → Prop} (hm : m ≤ 24) (h : ∀ r, F r r 0) : wp_X7_stands (nI m) lost x1 (fun r => wp_X8_stands th (nI m) lost x1 (fun r' t => F r r' t)) := by
  unfold wp_X7_stands
  refine sp_hasMark hm (fun c1 => in1 ?_) (fun c1 => in0 (sp_isMark hm (fun q => absurd q c1) (fun _ => if0 (h _))))
  obtain ⟨k, hk, rfl⟩ := isM_nI c1 hm
  have hv : vp_in (nI k) 25 := vi (by omega)
  refine ⟨hv, fun d => ?_, fun d => ?_⟩
  · exact sp_isMark hm (fun _ => if1 ⟨hv, fun _ => h _, fun q => absurd d q⟩) (fun q => absurd c1 q)
  · exact sp_isMark hm (fun _ => if1 ⟨hv, fun q => absurd q d, fun _ => h _⟩) (fun q => absurd c1 q)
theorem bo_table {rf st th x1 x2 x3 : Int32} {td ts : Nat → Int32} {F : Int32 → Int32 → (Nat → Int32) → (Nat → Int32) → Int32 → Int32 → Int32 → (Nat → Int32) → (Nat → Int32) → Prop} (hT : TI td ts)
    (h : ∀ r s' a' b', TI a' b' → F r s' a' b' r 0 s' a' b') : wp_X7_table rf td ts x1 x2 x3 (fun r a b c => wp_X8_table th st td ts x1 x2 x3 (fun r' t a' b' c' => F r a b c r' t a' b' c')) := by
  have bad : ¬ (ok x1 7 ∧ ok x2 120 ∧ ok x3 100) → wp_X7_table_b27 x1 x2 x3 (fun r a b c => wp_X8_table th st td ts x1 x2 x3 (fun r' t a' b' c' => F r a b c r' t a' b' c')) rf td ts := by
    intro hb
    unfold wp_X7_table_b27 wp_X7_refuse wp_X8_table wp_X8_table_b41
    refine sp_inw (a := 0) (b := 7) rfl rfl (fun c1 => if1 (sp_inw (a := 0) (b := 120) rfl rfl (fun c2 => if1 (sp_inw (a := 0) (b := 100) rfl rfl (fun c3 => absurd ⟨c1, c2, c3⟩ hb) (fun c3 => in0 ?_))) (fun c2 => if0 ?_))) (fun c1 => if0 ?_)
    all_goals exact sp_toldN neg1 (h _ _ _ _ hT)
  unfold wp_X7_table
  refine sp_isWithin (fun c1 => if1 (sp_isWithin (fun c2 => if1 (sp_isWithin (fun c3 => in1 ?_) (fun c3 => in0 (bad fun q => c3 q.2.2)))) (fun c2 => if0 (bad fun q => c2 q.2.1)))) (fun c1 => if0 (bad fun q => c1 q.1))
  have hv : vp_in x1 8 := vi_ok (n := 7) c1
  unfold wp_X7_accept wp_X8_table
  refine ⟨hv, hv, sp_inw (a := 0) (b := 7) rfl rfl (fun _ => if1 (sp_inw (a := 0) (b := 120) rfl rfl (fun _ => if1 (sp_inw (a := 0) (b := 100) rfl rfl (fun _ => in1 ⟨hv, hv, sp_told0 (by decide) (h _ _ _ _ fun k hk => ?_)⟩) (fun q => absurd c3 q))) (fun q => absurd c2 q))) (fun q => absurd c1 q)⟩
  by_cases e : k = x1.toNatClampNeg
  · subst e; rw [upd_s, upd_s]; exact ⟨c2, c3⟩
  · rw [upd_n _ _ e, upd_n _ _ e]; exact hT k hk
