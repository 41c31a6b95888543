/-! one decree, both sides -/
def dK (b : Nat → Int32) (n p : Nat) : Nat := if isWd b n p 1 then 0 else if isWd b n p 2 then 1 else if isWd b n p 3 then 2 else if isWd b n p 4 then 3 else 4
def bw (k : Nat) : Nat := if k = 0 then 5 else 6
def dR3 (b : Nat → Int32) (n k a w p : Nat) : Nat × Option (Nat × Nat × Nat × Nat) :=
  if k = 3 then (p, some (3, a, w, 0)) else if isWd b n p (bw k) then (if isNu b n (tkA b n p) 0 then (tkA b n (tkA b n p), some (k, a, w, nV b n (tkA b n p))) else (tkA b n p, none)) else (p, none)
def dR2 (b : Nat → Int32) (n k a p : Nat) : Nat × Option (Nat × Nat × Nat × Nat) :=
  if k = 2 then (p, some (2, a, 0, 0)) else if isWd b n p 0 then (if isNu b n (tkA b n p) (max 1 a) then dR3 b n k a (nV b n (tkA b n p)) (tkA b n (tkA b n p)) else (tkA b n p, none)) else (p, none)
def dR (b : Nat → Int32) (n p : Nat) : Nat × Option (Nat × Nat × Nat × Nat) :=
  if dK b n p = 4 then (p, none) else if isNu b n (tkA b n p) 0 then dR2 b n (dK b n p) (nV b n (tkA b n p)) (tkA b n (tkA b n p)) else (tkA b n p, none)
def gq (r : Nat × Option (Nat × Nat × Nat × Nat)) (n : Nat) : Prop := r.1 ≤ n ∧ ∀ k a w c, r.2 = some (k, a, w, c) → k < 4 ∧ (k ≠ 2 → 1 ≤ w ∧ w ≤ 10000)
theorem dR3_ok {b : Nat → Int32} {n k a w p : Nat} (hp : p ≤ n) (hk : k < 4) (hw : 1 ≤ w ∧ w ≤ 10000) : gq (dR3 b n k a w p) n := by
  have h1 := (tkA_le (b := b) hp).2
  have h2 := (tkA_le (b := b) h1).2
  unfold dR3 gq
  split
  · refine ⟨hp, fun _ _ _ _ e => ?_⟩
    cases e; exact ⟨by omega, fun _ => hw⟩
  · split
    · split
      · refine ⟨h2, fun _ _ _ _ e => ?_⟩
        cases e; exact ⟨hk, fun _ => hw⟩
      · exact ⟨h1, fun _ _ _ _ e => by cases e⟩
    · exact ⟨hp, fun _ _ _ _ e => by cases e⟩
theorem dR2_ok {b : Nat → Int32} {n k a p : Nat} (hp : p ≤ n) (hk : k < 4) : gq (dR2 b n k a p) n := by
  have h1 := (tkA_le (b := b) hp).2
  have h2 := (tkA_le (b := b) h1).2
  unfold dR2
  split
  · refine ⟨hp, fun _ _ _ _ e => ?_⟩
    cases e; exact ⟨by omega, fun z => absurd rfl z⟩
  · split
    · split
      next q =>
        have := q.2.1
        exact dR3_ok h2 hk ⟨by omega, q.2.2⟩
      · exact ⟨h1, fun _ _ _ _ e => by cases e⟩
    · exact ⟨hp, fun _ _ _ _ e => by cases e⟩
theorem dK_le (b : Nat → Int32) (n p : Nat) : dK b n p ≤ 4 := by
  unfold dK
  split
  · omega
  · split
    · omega
    · split
      · omega
      · split <;> omega
theorem dR_ok {b : Nat → Int32} {n p : Nat} (hp : p ≤ n) : gq (dR b n p) n := by
  have h1 := (tkA_le (b := b) hp).2
  have h2 := (tkA_le (b := b) h1).2
  have hk := dK_le b n p
  unfold dR
  split
  · exact ⟨hp, fun _ _ _ _ e => by cases e⟩
  · split
    · exact dR2_ok h2 (by omega)
    · exact ⟨h1, fun _ _ _ _ e => by cases e⟩
theorem sp_takeDecreeKind {b : Nat → Int32} {n p : Nat} {Q : Int32 → Int32 → Int32 → Int32 → Prop} (hn : n ≤ 200) (hp : p ≤ n)
  (h1 : dK b n p < 4 → Q (nI (dK b n p)) (tkK b n (tkA b n p)) (nI (tkS b n (tkA b n p))) (nI (tkA b n (tkA b n p))))
  (h0 : dK b n p = 4 → Q (-1) (tkK b n p) (nI (tkS b n p)) (nI (tkA b n p))) :
  wp_X6_takeDecreeKind (nI n) (tkK b n p) (nI (tkS b n p)) (nI (tkA b n p)) b Q := by
  unfold dK at h1 h0
  unfold wp_X6_takeDecreeKind
  refine sp_takeWord hn hp (by decide) (fun c => if1 ?_) (fun c => if0 (sp_takeWord hn hp (by decide) (fun d => if1 ?_) (fun d => if0 (sp_takeWord hn hp (by decide) (fun e => if1 ?_) (fun e => if0 (sp_takeWord hn hp (by decide) (fun f => if1 ?_) (fun f => if0 ?_)))))))
  · rw [if_pos c] at h1; exact h1 (by decide)
  · rw [if_neg c, if_pos d] at h1; exact h1 (by decide)
  · rw [if_neg c, if_neg d, if_pos e] at h1; exact h1 (by decide)
  · rw [if_neg c, if_neg d, if_neg e, if_pos f] at h1; exact h1 (by decide)
  · rw [if_neg c, if_neg d, if_neg e, if_neg f] at h0; exact h0 rfl
theorem nI_m1 {k : Nat} (h : k < 2147483648) : ¬ nI k = -1 := fun e => by
  have := nI_pos' (n := k) (by omega)
  rw [e] at this
  exact absurd this (by decide)
theorem nI_nz {k : Nat} (h : k < 2147483648) : nI k = 0 ↔ k = 0 := nI_eq (a := k) (b := 0) h (by decide)
theorem sp_takeBound {b : Nat → Int32} {n p k a w : Nat} {Q : Int32 → Int32 → Int32 → Int32 → Prop} (hn : n ≤ 200) (hp : p ≤ n) (hk : k < 4)
  (h1 : ∀ q k' a' w' c, dR3 b n k a w p = (q, some (k', a', w', c)) → k' = k ∧ a' = a ∧ w' = w ∧ c ≤ 10000 → Q (nI c) (tkK b n q) (nI (tkS b n q)) (nI (tkA b n q)))
  (h0 : ∀ q, dR3 b n k a w p = (q, none) → Q (-1) (tkK b n q) (nI (tkS b n q)) (nI (tkA b n q))) :
  wp_X6_takeBound (nI n) (tkK b n p) (nI (tkS b n p)) (nI (tkA b n p)) b (nI k) Q := by
  have g1 := (tkA_le (b := b) hp).2
  have e3 : (3 : Int32) = nI 3 := rfl
  have key : ∀ wi, wi < 7 → bw k = wi → ¬ k = 3 → wp_X6_takeWord (nI n) (tkK b n p) (nI (tkS b n p)) (nI (tkA b n p)) b wi (fun r x y z => wp_X6_takeBound_b26 (nI n) b (nI k) Q x y z r) := by
    intro wi hwi ewi k3
    unfold dR3 at h1 h0
    rw [if_neg k3, ewi] at h1 h0
    unfold wp_X6_takeBound_b26
    refine sp_takeWord hn hp hwi (fun c => if1 ?_) (fun c => if0 ?_)
    · rw [if_pos c] at h1 h0
      refine sp_takeNumber (lo := 0) hn g1 (by decide) (fun d => ?_) (fun d => ?_)
      · rw [if_pos d] at h1
        exact h1 _ _ _ _ _ rfl ⟨rfl, rfl, rfl, d.2.2⟩
      · rw [if_neg d] at h0
        exact h0 _ rfl
    · rw [if_neg c] at h0
      exact h0 _ rfl
  unfold wp_X6_takeBound
  refine ⟨fun c => ?_, fun c => ?_⟩
  · have k3 : ¬ k = 3 := fun e => c (by rw [e]; rfl)
    refine ⟨fun d => key 6 (by decide) ?_ k3, fun d => key 5 (by decide) ?_ k3⟩
    · rw [bw, if_neg (fun e => d (by rw [e]; rfl))]
    · rw [bw, if_pos ((nI_nz (by omega)).mp d)]
  · have k3 : k = 3 := (nI_eq (by omega) (by omega)).mp c
    unfold dR3 at h1
    rw [if_pos k3] at h1
    exact h1 _ _ _ _ _ rfl ⟨k3.symm, rfl, rfl, by decide⟩
theorem sp_add {i : Nat} {K P W B : Nat → Int32} {x1 x2 x3 x4 : Int32} {Q : Int32 → (Nat → Int32) → (Nat → Int32) → (Nat → Int32) → (Nat → Int32) → Prop} (hi : i < 20) (h : Q (nI (i + 1)) (upd K i x1) (upd P i x2) (upd W i x3) (upd B i x4)) : wp_X1_add (nI i) K P W B x1 x2 x3 x4 Q := by
  unfold wp_X1_add
  have hv : vp_in (nI i) 20 := vi hi
  rw [cl (by omega)]
  refine ⟨fun c => ?_, fun _ => ⟨hv, hv, hv, hv, ?_⟩⟩
  · have := (ile (a := 20) (b := i) (by decide) (by omega)).mp c
    omega
  · rw [nI_1]; exact h
theorem sp_takeDecree {b : Nat → Int32} {n p i : Nat} {K P W B : Nat → Int32} {Q : Int32 → Int32 → Int32 → Int32 → Int32 → (Nat → Int32) → (Nat → Int32) → (Nat → Int32) → (Nat → Int32) → Prop} (hn : n ≤ 200) (hp : p ≤ n) (hi : i < 20)
  (h1 : ∀ q k a w c, dR b n p = (q, some (k, a, w, c)) → Q 1 (tkK b n q) (nI (tkS b n q)) (nI (tkA b n q)) (nI (i + 1)) (upd K i (nI k)) (upd P i (nI (if k = 2 then 0 else a))) (upd W i (nI (if k = 2 then 1 else w))) (upd B i (nI (if k = 2 then a else c))))
  (h0 : ∀ q, dR b n p = (q, none) → Q 0 (tkK b n q) (nI (tkS b n q)) (nI (tkA b n q)) (nI i) K P W B) :
  wp_X6_takeDecree (nI n) (tkK b n p) (nI (tkS b n p)) (nI (tkA b n p)) b (nI i) K P W B Q := by
  have g1 := (tkA_le (b := b) hp).2
  have g2 := (tkA_le (b := b) g1).2
  have g3 := (tkA_le (b := b) g2).2
  have g4 := (tkA_le (b := b) g3).2
  unfold dR at h1 h0
  unfold wp_X6_takeDecree
  refine sp_takeDecreeKind hn hp (fun c => ⟨fun _ => ?_, fun e => absurd e (nI_m1 (by omega))⟩) (fun c => ⟨fun e => absurd rfl e, fun _ => ?_⟩)
  · rw [if_neg (by omega)] at h1 h0
    generalize dK b n p = k at *
    refine sp_takeNumber (lo := 0) hn g1 (by decide) (fun d => ⟨fun _ => ?_, fun e => absurd e (nI_m1 (by have := d.2.2; omega))⟩) (fun d => ⟨fun e => absurd rfl e, fun _ => ?_⟩)
    · rw [if_pos d] at h1 h0
      have ha := d.2.2
      generalize nV b n (tkA b n p) = a at *
      unfold dR2 at h1 h0
      refine ⟨fun c2 => ?_, fun c2 => ?_⟩
      · have k2 : ¬ k = 2 := fun e => c2 (by rw [e]; rfl)
        rw [if_neg k2] at h1 h0
        refine sp_takeWord hn g2 (by decide) (fun e => in1 ?_) (fun e => in0 ?_)
        · rw [if_pos e] at h1 h0
          have em : (if (1 : Int32) < nI a then nI a else (1 : Int32)) = nI (max 1 a) := by
            have e1 : (1 : Int32) = nI 1 := rfl
            by_cases q : 1 < a
            · have q' : (1 : Int32) < nI a := (ilt (a := 1) (by decide) (by omega)).mpr q
              rw [if_pos q']
              congr 1; omega
            · have q' : ¬ (1 : Int32) < nI a := fun z => q ((ilt (a := 1) (by decide) (by omega)).mp z)
              rw [if_neg q', e1]
              congr 1; omega
          rw [em]
          refine sp_takeNumber hn g3 (by omega) (fun f => ⟨fun _ => ?_, fun e => absurd e (nI_m1 (by have := f.2.2; omega))⟩) (fun f => ⟨fun e => absurd rfl e, fun _ => ?_⟩)
          · rw [if_pos f] at h1 h0
            refine sp_takeBound (k := k) hn g4 c (fun q k' a' w' c' er hh => ?_) (fun q er => ⟨fun e => absurd rfl e, fun _ => h0 _ er⟩)
            obtain ⟨rfl, rfl, rfl, hc'⟩ := hh
            refine ⟨fun _ => sp_add hi ?_, fun e => absurd e (nI_m1 (by omega))⟩
            have := h1 _ _ _ _ _ er
            rw [if_neg k2, if_neg k2, if_neg k2] at this
            exact this
          · rw [if_neg f] at h0
            exact h0 _ rfl
        · rw [if_neg e] at h0
          exact h0 _ rfl
      · have k2 : k = 2 := (nI_eq (a := k) (b := 2) (by omega) (by decide)).mp c2
        rw [if_pos k2] at h1
        subst k2
        exact sp_add hi (h1 _ _ _ _ _ rfl)
    · rw [if_neg d] at h0
      exact h0 _ rfl
  · rw [if_pos c] at h0
    exact h0 _ rfl
/-! the model's decree -/
theorem sp_b219B {t x1 x2 x3 x5 nm t1 t2 t3 t4 : Int32} {x4 : Int64} {b nD : Nat → Int32} {Q : Int32 → Int32 → Int32 → Int32 → Int64 → Int32 → Int32 → (Nat → Int32) → Prop} (h : Q nm x1 x2 x3 x4 x5 1 nD) : wp_X8_readDecree_b219 t b Q nm x1 x2 x3 x4 x5 1 nD t1 t2 t3 t4 := by
  unfold wp_X8_readDecree_b219
  exact ⟨fun e => absurd e (by decide), fun _ => h⟩
theorem sp_b209B {t x1 x2 x3 x5 nm t1 t2 t3 s : Int32} {x4 : Int64} {b nD : Nat → Int32} {Q : Int32 → Int32 → Int32 → Int32 → Int64 → Int32 → Int32 → (Nat → Int32) → Prop} (h : Q nm x1 x2 x3 x4 x5 1 nD) : wp_X8_readDecree_b209 t b Q nm x1 x2 x3 x4 x5 1 nD t1 t2 t3 s := by
  unfold wp_X8_readDecree_b209
  exact sp_mustB (sp_numberB fun _ => sp_b219B h)
theorem sp_b165B {t x1 x2 x3 x5 nm t1 t2 t3 t4 : Int32} {x4 : Int64} {b nD : Nat → Int32} {Q : Int32 → Int32 → Int32 → Int32 → Int64 → Int32 → Int32 → (Nat → Int32) → Prop} (h : Q nm x1 x2 x3 x4 x5 1 nD) : wp_X8_readDecree_b165 t b Q nm x1 x2 x3 x4 x5 1 nD t1 t2 t3 t4 := by
  unfold wp_X8_readDecree_b165
  exact ⟨fun _ => sp_b219B h, fun _ => ⟨fun _ => sp_isWordG (fun _ => sp_b209B h) (fun _ => sp_b209B h), fun _ => sp_isWordG (fun _ => sp_b209B h) (fun _ => sp_b209B h)⟩⟩
theorem sp_b161B {t x1 x2 x3 x5 nm t1 t2 t4 : Int32} {x4 s : Int64} {b nD : Nat → Int32} {Q : Int32 → Int32 → Int32 → Int32 → Int64 → Int32 → Int32 → (Nat → Int32) → Prop} (h : Q nm x1 x2 x3 x4 x5 1 nD) : wp_X8_readDecree_b161 t b Q nm x1 x2 x3 x4 x5 1 nD t1 t2 t4 s := by
  unfold wp_X8_readDecree_b161
  exact sp_numberB fun _ => sp_b165B h
theorem sp_b113T {t x1 x2 x3 x5 nm t1 r : Int32} {x4 : Int64} {b nD : Nat → Int32} {Q : Int32 → Int32 → Int32 → Int32 → Int64 → Int32 → Int32 → (Nat → Int32) → Prop} (h : Q nm x1 x2 x3 x4 x5 1 nD) : ((t1 = (2 : Int32) → wp_X8_readDecree_b165 t b Q nm x1 x2 x3 x4 x5 1 nD t1 r (0 : Int32) (0 : Int32)) ∧ (¬ t1 = (2 : Int32) → wp_X8_isWord x3 x4 (111 : Int32) (102 : Int32) (0 : Int32) (0 : Int32) (0 : Int32) (0 : Int32) (0 : Int32) (fun (r_36 : Int32) => wp_X8_must t x1 x2 x3 x4 x5 1 b r_36 (fun y1 y2 y3 y4 y5 y6 => (((1 : Int32) ≤ r → wp_X8_readDecree_b161 t b Q nm y1 y2 y3 y4 y5 y6 nD t1 r (0 : Int32) r.toInt64) ∧ (¬ (1 : Int32) ≤ r → wp_X8_readDecree_b161 t b Q nm y1 y2 y3 y4 y5 y6 nD t1 r (0 : Int32) (1 : Int64))))))) :=
  ⟨fun _ => sp_b165B h, fun _ => sp_isWordG (fun _ => sp_mustB ⟨fun _ => sp_b161B h, fun _ => sp_b161B h⟩) (fun _ => sp_mustB ⟨fun _ => sp_b161B h, fun _ => sp_b161B h⟩)⟩
theorem sp_b219 {b nD : Nat → Int32} {n q i k a w c : Nat} {t f : Int32} {Q : Int32 → Int32 → Int32 → Int32 → Int64 → Int32 → Int32 → (Nat → Int32) → Prop} (hi : i < 20)
  (h : Q (nI (i + 1)) (nI (tkS b n q)) (nI (tkA b n q)) (tkK b n q) (tkW b n q) f 0 (upd (upd (upd (upd nD (4 * i) (nI k)) (4 * i + 1) (nI a)) (4 * i + 2) (nI w)) (4 * i + 3) (nI c))) :
  wp_X8_readDecree_b219 t b Q (nI i) (nI (tkS b n q)) (nI (tkA b n q)) (tkK b n q) (tkW b n q) f 0 nD (nI k) (nI a) (nI w) (nI c) := by
  have e4 : (4 : Int32) = nI 4 := rfl
  have e1 : (1 : Int32) = nI 1 := rfl
  have e2 : (2 : Int32) = nI 2 := rfl
  have e3 : (3 : Int32) = nI 3 := rfl
  unfold wp_X8_readDecree_b219
  refine ⟨fun _ => ?_, fun e => absurd rfl e⟩
  rw [e4, pk_mul, e1, nI_add, e2, nI_add, e3, nI_add, nI_add, cl (by omega), cl (by omega), cl (by omega), cl (by omega)]
  exact ⟨vi (by omega), vi (by omega), vi (by omega), vi (by omega), h⟩
theorem sp_b165 {b nD : Nat → Int32} {n p i k a w : Nat} {f : Int32} {Q : Int32 → Int32 → Int32 → Int32 → Int64 → Int32 → Int32 → (Nat → Int32) → Prop} (hn : n ≤ 200) (hp : p ≤ n) (hi : i < 20) (hk : k < 4) (k2 : ¬ k = 2)
  (h1 : ∀ q k' a' w' c, dR3 b n k a w p = (q, some (k', a', w', c)) → Q (nI (i + 1)) (nI (tkS b n q)) (nI (tkA b n q)) (tkK b n q) (tkW b n q) f 0 (upd (upd (upd (upd nD (4 * i) (nI k')) (4 * i + 1) (nI a')) (4 * i + 2) (nI w')) (4 * i + 3) (nI c)))
  (h0 : ∀ q, dR3 b n k a w p = (q, none) → Q (nI i) (nI (tkS b n q)) (nI (tkA b n q)) (tkK b n q) (tkW b n q) (nI (tkS b n q)) 1 nD) :
  wp_X8_readDecree_b165 (nI n) b Q (nI i) (nI (tkS b n p)) (nI (tkA b n p)) (tkK b n p) (tkW b n p) f 0 nD (nI k) (nI a) (nI w) 0 := by
  have g1 := (tkA_le (b := b) hp).2
  have e2 : (2 : Int32) = nI 2 := rfl
  have key : ∀ wi, wi < 7 → bw k = wi → ¬ k = 3 → ((isWd b n p wi → wp_X8_readDecree_b209 (nI n) b Q (nI i) (nI (tkS b n p)) (nI (tkA b n p)) (tkK b n p) (tkW b n p) f 0 nD (nI k) (nI a) (nI w) 1) ∧ (¬ isWd b n p wi → wp_X8_readDecree_b209 (nI n) b Q (nI i) (nI (tkS b n p)) (nI (tkA b n p)) (tkK b n p) (tkW b n p) f 0 nD (nI k) (nI a) (nI w) 0)) := by
    intro wi hwi ewi k3
    unfold dR3 at h1 h0
    rw [if_neg k3, ewi] at h1 h0
    unfold wp_X8_readDecree_b209
    refine ⟨fun c => sp_must hn hp (fun _ => ?_) (fun e => absurd e (by decide)), fun c => sp_must hn hp (fun e => absurd rfl e) (fun _ => ?_)⟩
    · rw [if_pos c] at h1 h0
      refine sp_number (lo := 0) hn g1 (by decide) rfl (fun d => ?_) (fun d r => ?_)
      · rw [if_pos d] at h1
        exact sp_b219 hi (h1 _ _ _ _ _ rfl)
      · rw [if_neg d] at h0
        exact sp_b219B (h0 _ rfl)
    · rw [if_neg c] at h0
      exact sp_numberB fun _ => sp_b219B (h0 _ rfl)
  unfold wp_X8_readDecree_b165
  refine ⟨fun c => ?_, fun c => ?_⟩
  · rw [e2] at c
    have := (ile (a := 2) (b := k) (by decide) (by omega)).mp c
    have k3 : k = 3 := by omega
    unfold dR3 at h1
    rw [if_pos k3] at h1
    subst k3
    exact sp_b219 (c := 0) hi (h1 _ _ _ _ _ rfl)
  · have k3 : ¬ k = 3 := fun e => c (by rw [e]; decide)
    refine ⟨fun d => ?_, fun d => ?_⟩
    · have kk := key 6 (by decide) (by rw [bw, if_neg (fun e => d (by rw [e]; rfl))]) k3
      exact sp_isWord hp (by decide) wv_below kk.1 kk.2
    · have kk := key 5 (by decide) (by rw [bw, if_pos ((nI_nz (by omega)).mp d)]) k3
      exact sp_isWord hp (by decide) wv_from kk.1 kk.2
theorem sp_readDecree {b nD : Nat → Int32} {n p i : Nat} {f : Int32} {Q : Int32 → Int32 → Int32 → Int32 → Int64 → Int32 → Int32 → (Nat → Int32) → Prop} (hn : n ≤ 200) (hp : p ≤ n) (hi : i ≤ 20)
  (hx : i = 20 → Q (nI i) (nI (tkS b n p)) (nI (tkA b n p)) (tkK b n p) (tkW b n p) (nI (tkS b n p)) 1 nD)
  (h1 : i < 20 → ∀ q k a w c, dR b n p = (q, some (k, a, w, c)) → Q (nI (i + 1)) (nI (tkS b n q)) (nI (tkA b n q)) (tkK b n q) (tkW b n q) f 0 (upd (upd (upd (upd nD (4 * i) (nI k)) (4 * i + 1) (nI a)) (4 * i + 2) (nI w)) (4 * i + 3) (nI c)))
  (h0 : i < 20 → ∀ q, dR b n p = (q, none) → Q (nI i) (nI (tkS b n q)) (nI (tkA b n q)) (tkK b n q) (tkW b n q) (nI (tkS b n q)) 1 nD) :
  wp_X8_readDecree (nI i) (nI n) (nI (tkS b n p)) (nI (tkA b n p)) (tkK b n p) (tkW b n p) f 0 nD b Q := by
  have g1 := (tkA_le (b := b) hp).2
  have g2 := (tkA_le (b := b) g1).2
  have g3 := (tkA_le (b := b) g2).2
  have g4 := (tkA_le (b := b) g3).2
  have e20 : (20 : Int32) = nI 20 := rfl
  have bad : ∀ x, (Q (nI i) (nI (tkS b n p)) (nI (tkA b n p)) (tkK b n p) (tkW b n p) (nI (tkS b n p)) 1 nD) → wp_X8_readDecree_b112 (nI n) b Q (nI i) (nI (tkS b n p)) (nI (tkA b n p)) (tkK b n p) (tkW b n p) f 0 nD x := by
    intro x hq
    unfold wp_X8_readDecree_b112 wp_X8_readDecree_b113
    exact sp_must hn hp (fun e => absurd rfl e) (fun _ => sp_numberB fun r => sp_b113T hq)
  have hno : dK b n p = 4 → wp_X8_readDecree_b93 (nI n) b Q (nI i) (nI (tkS b n p)) (nI (tkA b n p)) (tkK b n p) (tkW b n p) f 0 nD (-1) := by
    intro h4
    unfold wp_X8_readDecree_b93
    refine ⟨fun _ => bad _ ?_, fun e => absurd (by decide) e⟩
    rcases Nat.lt_or_ge i 20 with q | q
    · exact h0 q _ (by unfold dR; rw [if_pos h4])
    · exact hx (by omega)
  have hyes : dK b n p < 4 → wp_X8_readDecree_b93 (nI n) b Q (nI i) (nI (tkS b n p)) (nI (tkA b n p)) (tkK b n p) (tkW b n p) f 0 nD (nI (dK b n p)) := by
    intro h4
    unfold dR at h1 h0
    rw [if_neg (by omega)] at h1 h0
    unfold wp_X8_readDecree_b93
    generalize dK b n p = k at *
    refine ⟨fun e => absurd e (nI_pos (by omega)), fun _ => ⟨fun c => bad _ (hx ?_), fun c => ?_⟩⟩
    · have := (ile (a := 20) (b := i) (by decide) (by omega)).mp c
      omega
    · have hlt : i < 20 := Nat.not_le.mp fun z => c ((ile (a := 20) (b := i) (by decide) (by omega)).mpr z)
      replace h1 := h1 hlt
      replace h0 := h0 hlt
      unfold wp_X8_readDecree_b113
      refine sp_must hn hp (fun _ => ?_) (fun e => absurd e (by decide))
      refine sp_number (lo := 0) hn g1 (by decide) rfl (fun d => ?_) (fun d r => ?_)
      · rw [if_pos d] at h1 h0
        have ha := d.2.2
        generalize nV b n (tkA b n p) = a at *
        unfold dR2 at h1 h0
        refine ⟨fun c2 => ?_, fun c2 => ?_⟩
        · have k2 : k = 2 := (nI_eq (a := k) (b := 2) (by omega) (by decide)).mp c2
          subst k2
          rw [if_pos rfl] at h1
          unfold wp_X8_readDecree_b165
          exact ⟨fun _ => sp_b219 (w := 0) (c := 0) hlt (h1 _ _ _ _ _ rfl), fun e => absurd (by decide) e⟩
        · have k2 : ¬ k = 2 := fun e => c2 (by rw [e]; rfl)
          rw [if_neg k2] at h1 h0
          refine sp_isWord g2 (by decide) wv_of (fun e => sp_must hn g2 (fun _ => ?_) (fun e => absurd e (by decide))) (fun e => sp_must hn g2 (fun e => absurd rfl e) (fun _ => ?_))
          · rw [if_pos e] at h1 h0
            have go : ∀ x, x = lN (max 1 a) → wp_X8_readDecree_b161 (nI n) b Q (nI i) (nI (tkS b n (tkA b n (tkA b n (tkA b n p))))) (nI (tkA b n (tkA b n (tkA b n (tkA b n p))))) (tkK b n (tkA b n (tkA b n (tkA b n p)))) (tkW b n (tkA b n (tkA b n (tkA b n p)))) f 0 nD (nI k) (nI a) 0 x := by
              intro x hx
              unfold wp_X8_readDecree_b161
              refine sp_number hn g3 (by omega) hx (fun d => ?_) (fun d r => ?_)
              · rw [if_pos d] at h1 h0
                exact sp_b165 hn g4 hlt h4 k2 h1 h0
              · rw [if_neg d] at h0
                exact sp_b165B (h0 _ rfl)
            refine ⟨fun c3 => go _ ?_, fun c3 => go _ ?_⟩
            · have := (ile (a := 1) (b := a) (by decide) (by omega)).mp c3
              rw [nI_l (by omega)]; congr 1; omega
            · have : ¬ 1 ≤ a := fun z => c3 ((ile (a := 1) (b := a) (by decide) (by omega)).mpr z)
              have em : max 1 a = 1 := by omega
              rw [em]; rfl
          · rw [if_neg e] at h0
            exact ⟨fun _ => sp_b161B (h0 _ rfl), fun _ => sp_b161B (h0 _ rfl)⟩
      · rw [if_neg d] at h0
        exact sp_b113T (h0 _ rfl)
  unfold wp_X8_readDecree
  unfold dK at hno hyes
  refine sp_isWord hp (by decide) wv_tax (fun c => if1 ?_) (fun c => if0 (sp_isWord hp (by decide) wv_relief (fun d => if1 ?_) (fun d => if0 (sp_isWord hp (by decide) wv_free (fun e => if1 ?_) (fun e => if0 (sp_isWord hp (by decide) wv_officer (fun g => if1 ?_) (fun g => if0 ?_)))))))
  · rw [if_pos c] at hyes; exact hyes (by decide)
  · rw [if_neg c, if_pos d] at hyes; exact hyes (by decide)
  · rw [if_neg c, if_neg d, if_pos e] at hyes; exact hyes (by decide)
  · rw [if_neg c, if_neg d, if_neg e, if_pos g] at hyes; exact hyes (by decide)
  · rw [if_neg c, if_neg d, if_neg e, if_neg g] at hno; exact hno rfl
