/-! a call's cells put back at their places -/
def putG : va_W → List Nat → va_W → va_W
  | _ :: ws, 0 :: gs, x :: cs => x :: putG ws gs cs
  | w :: ws, (g + 1) :: gs, x :: cs => w :: putG ws (g :: gs) (x :: cs)
  | ws, _, _ => ws
def ixG : Nat → List Nat → List Nat
  | _, [] => []
  | j, g :: gs => (j + g) :: ixG (j + g + 1) gs
theorem ixG_ge : ∀ (gs : List Nat) (j x : Nat), x ∈ ixG j gs → j ≤ x
  | [], _, _, h => by rw [ixG] at h; exact absurd h List.not_mem_nil
  | g :: gs, j, x, h => by
    rw [ixG] at h
    rcases List.mem_cons.mp h with r | r
    · omega
    · have := ixG_ge gs _ _ r
      omega
theorem ixG_up (g : Nat) (gs : List Nat) (j : Nat) : ixG j ((g + 1) :: gs) = ixG (j + 1) (g :: gs) := by
  rw [ixG, ixG, show j + (g + 1) = j + 1 + g by omega]
theorem putG_get : ∀ (ws : va_W) (gs : List Nat) (cs : va_W) (k j : Nat) (q : Nat × va_E), (putG ws gs cs)[k]? = some q → (∃ n : Nat, (ixG j gs)[n]? = some (j + k) ∧ cs[n]? = some q) ∨ ((j + k ∉ ixG j gs ∨ gs.length ≠ cs.length) ∧ ws[k]? = some q)
  | [], gs, cs, k, j, q, h => by
    rw [putG] at h
    · simp at h
    · intros; simp_all
    · intros; simp_all
  | w :: ws, [], cs, k, j, q, h => by
    rw [putG] at h
    · exact Or.inr ⟨Or.inl (by rw [ixG]; exact List.not_mem_nil), h⟩
    · intros; simp_all
    · intros; simp_all
  | w :: ws, g :: gs, [], k, j, q, h => by
    rw [putG] at h
    · exact Or.inr ⟨Or.inr (by simp), h⟩
    · intros; simp_all
    · intros; simp_all
  | w :: ws, 0 :: gs, x :: cs, k, j, q, h => by
    rw [putG] at h
    cases k with
    | zero => exact Or.inl ⟨0, by rw [ixG]; rfl, h⟩
    | succ k =>
      rcases putG_get ws gs cs k (j + 1) q h with ⟨n, h1, h2⟩ | ⟨h1, h2⟩
      · refine Or.inl ⟨n + 1, ?_, h2⟩
        rw [ixG, show j + (k + 1) = j + 1 + k by omega]
        exact h1
      · refine Or.inr ⟨h1.imp (fun z => ?_) (fun z => ?_), h2⟩
        · rw [ixG, show j + (k + 1) = j + 1 + k by omega]
          intro hm
          rcases List.mem_cons.mp hm with r | r
          · omega
          · exact z r
        · simp only [List.length_cons]; omega
  | w :: ws, (g + 1) :: gs, x :: cs, k, j, q, h => by
    rw [putG] at h
    rw [ixG_up]
    cases k with
    | zero =>
      refine Or.inr ⟨Or.inl fun hm => ?_, h⟩
      have := ixG_ge _ _ _ hm
      omega
    | succ k =>
      rw [show j + (k + 1) = j + 1 + k by omega]
      exact putG_get ws (g :: gs) (x :: cs) k (j + 1) q h
section PUTS
variable {p : Program} {l : Launch} {e : Env} {R : Room} {s : State} {m : MethodId} {args : Array Value} {below : List Frame} {meth : Method} {c : Code} {H : Heap} {locs : List Loc} {cells slots : Nat} {Q : State → Prop}
variable {pc : Nat} {ls : Array Slot} {rest st0 : List Value} {A : Nat → Prop} {D : va_G} {cI cZ : ClassId} {ad : (Nat → Nat) × (Nat → Nat)} {ws wc : va_W}
variable {y : MethodName} {bytes cc : ByteArray} {maxL nL n index : Nat} {ret : Option FieldType} {wy : List Cond} {rm : Room} {Ts : List Cond} {own C : String} {b : Addr} {As : List Value}
theorem va_put_back {S : Type} {w1 : S → va_W} {u : S} {t : State} {H1 : Heap} (X : CX D cI cZ ad A s) (hP : va_P D classes ws H) (hD : va_D A ws) (hS : va_S A s.heap H locs) (isC gs : List Nat) (hI : ixG 0 gs = isC) (hC : isC.map (fun i => ws[i]?) = wc.map some) (hn : ∀ u, gs.length = (w1 u).length) (ht : t.heap = H1) (hB : PW D (va_A wc H.size) w1 u t) (hk : ∀ q : Nat, q < H.size → ¬ va_A wc H.size q → H1[q]? = H[q]?) : va_P D classes (putG ws gs (w1 u)) H1 ∧ va_D A (putG ws gs (w1 u)) := by
  have hF := va_free (wc := wc) hD hS X.2.2.2 isC hC
  have hP1 : va_P D classes (w1 u) H1 := by rw [← ht]; exact hB.1
  have hout : ∀ (k : Nat) (q : Nat × va_E), k ∉ isC → ws[k]? = some q → ¬ va_A wc H.size q.1 := by
    intro k q hk hq hA
    rcases hA with ⟨j, x, hj⟩ | hA
    · have h1 : (isC.map (fun i => ws[i]?))[j]? = some (some (q.1, x)) := by rw [hC, List.getElem?_map, hj]; rfl
      rw [List.getElem?_map] at h1
      cases hi : isC[j]? with
      | none => rw [hi] at h1; cases h1
      | some i =>
        rw [hi] at h1
        have h2 : ws[i]? = some (q.1, x) := Option.some.inj h1
        have := hD.1 k i q _ hq h2 rfl
        subst this
        exact hk (List.mem_of_getElem? hi)
    · exact absurd (hP k q hq).lt (Nat.not_lt.mpr hA)
  have get : ∀ (k : Nat) (q : Nat × va_E), (putG ws gs (w1 u))[k]? = some q → (∃ n : Nat, isC[n]? = some k ∧ (w1 u)[n]? = some q) ∨ (k ∉ isC ∧ ws[k]? = some q) := by
    intro k q h
    have h' := putG_get ws gs (w1 u) k 0 q h
    rw [hI, Nat.zero_add] at h'
    rcases h' with h | ⟨h1 | h1, h2⟩
    · exact Or.inl h
    · exact Or.inr ⟨h1, h2⟩
    · exact absurd (hn u) h1
  refine ⟨fun k q h => ?_, fun i j a q hi hj e => ?_, fun k q h => ?_⟩
  · rcases get k q h with ⟨n, h1, h2⟩ | ⟨h1, h2⟩
    · exact hP1 n q h2
    · exact (hP k q h2).kept (hk q.1 (hP k q h2).lt (hout k q h1 h2))
  · rcases get i a hi with ⟨n, h1, h2⟩ | ⟨h1, h2⟩
    · rcases get j q hj with ⟨n', h3, h4⟩ | ⟨h3, h4⟩
      · have := hB.2.1 n n' a q h2 h4 e
        subst this
        exact Option.some.inj (h1.symm.trans h3)
      · exact absurd (by rw [← e]; exact hB.2.2 n a h2) (hout j q h3 h4)
    · rcases get j q hj with ⟨n', h3, h4⟩ | ⟨h3, h4⟩
      · exact absurd (by rw [e]; exact hB.2.2 n' q h4) (hout i a h1 h2)
      · exact hD.1 i j a q h2 h4 e
  · rcases get k q h with ⟨n, h1, h2⟩ | ⟨h1, h2⟩
    · exact hF _ (hB.2.2 n q h2)
    · exact hD.2 k q h2
theorem pv_i {S : Type} {post : Int32 → S → Prop} {w1 : S → va_W} (hfx : CallFix p m c cc nL s args Ts own) (hM : Met l y wy rm (va_Pc (.ref b :: As) (PC D cI cZ ad H.size wc)) (va_Qi post (PW D (va_A wc H.size) w1) (va_A wc H.size)) 0 0 (va_A wc H.size)) (cw : CallW R s args own C index y bytes maxL ret wy rm 0 0 n)
    (X : CX D cI cZ ad A s) (hP : va_P D classes ws H) (hD : va_D A ws) (hS : va_S A s.heap H locs) (isC gs : List Nat) (hI : ixG 0 gs = isC) (hC : isC.map (fun i => ws[i]?) = wc.map some) (hnC : va_nd isC = true) (hln : ∀ u, gs.length = (w1 u).length)
    (q0 ci : Nat) {T : u_T} {N : Nat} {fs : List Value} (he : wc[q0]? = some (b, .inr (ci, fs))) (hcl : classes[ci]? = some (C, T, N))
    (hn2 : As.length = n) (hsz : lv_has ls nL []) (hst : st0 = As.reverse ++ .ref b :: rest) (hroom : (rest.map fun v => v.category).sum ≤ 8) (hdg : decode cc pc = .ok (.invokevirtual index, 3)) (hfit : cells ≤ R.cells ∧ slots ≤ R.slots)
    (kk : ∀ (r : Int32) (u : S) (H1 : Heap) (locs1 : List Loc), post r u → va_P D classes (putG ws gs (w1 u)) H1 → va_D A (putG ws gs (w1 u)) → va_S A s.heap H1 locs1 → W p l e R s m args below meth c H1 locs1 cells slots Q (F0 m (pc + 3) ls (.int r :: rest))) : W p l e R s m args below meth c H locs cells slots Q (F0 m pc ls st0) := by
  have hF := va_free (wc := wc) hD hS X.2.2.2 isC hC
  refine va_calli (va_runV (As := As) (rest := rest) hfx hM cw ⟨PC.blind, va_recv X.1 (va_sub' hP isC hC) hcl he, PC.give X hP hD hS isC hC hnC⟩ rfl hn2 hsz.1 hst (lv_room hroom) hdg hfit) hS (fun q _ h => hF q h) hF (fun r u t H1 locs1 ht hvm hw hB hz1 hk1 hS1 => ?_)
  obtain ⟨g1, g2⟩ := va_put_back X hP hD hS isC gs hI hC hln ht hB hk1
  exact kk r u H1 locs1 hw g1 g2 hS1
theorem pv_l {S : Type} {post : Int64 → S → Prop} {w1 : S → va_W} (hfx : CallFix p m c cc nL s args Ts own) (hM : Met l y wy rm (va_Pc (.ref b :: As) (PC D cI cZ ad H.size wc)) (va_Ql post (PW D (va_A wc H.size) w1) (va_A wc H.size)) 0 0 (va_A wc H.size)) (cw : CallW R s args own C index y bytes maxL ret wy rm 0 0 n)
    (X : CX D cI cZ ad A s) (hP : va_P D classes ws H) (hD : va_D A ws) (hS : va_S A s.heap H locs) (isC gs : List Nat) (hI : ixG 0 gs = isC) (hC : isC.map (fun i => ws[i]?) = wc.map some) (hnC : va_nd isC = true) (hln : ∀ u, gs.length = (w1 u).length)
    (q0 ci : Nat) {T : u_T} {N : Nat} {fs : List Value} (he : wc[q0]? = some (b, .inr (ci, fs))) (hcl : classes[ci]? = some (C, T, N))
    (hn2 : As.length = n) (hsz : lv_has ls nL []) (hst : st0 = As.reverse ++ .ref b :: rest) (hroom : (rest.map fun v => v.category).sum ≤ 8) (hdg : decode cc pc = .ok (.invokevirtual index, 3)) (hfit : cells ≤ R.cells ∧ slots ≤ R.slots)
    (kk : ∀ (r : Int64) (u : S) (H1 : Heap) (locs1 : List Loc), post r u → va_P D classes (putG ws gs (w1 u)) H1 → va_D A (putG ws gs (w1 u)) → va_S A s.heap H1 locs1 → W p l e R s m args below meth c H1 locs1 cells slots Q (F0 m (pc + 3) ls (.long r :: rest))) : W p l e R s m args below meth c H locs cells slots Q (F0 m pc ls st0) := by
  have hF := va_free (wc := wc) hD hS X.2.2.2 isC hC
  refine va_calll (va_runV (As := As) (rest := rest) hfx hM cw ⟨PC.blind, va_recv X.1 (va_sub' hP isC hC) hcl he, PC.give X hP hD hS isC hC hnC⟩ rfl hn2 hsz.1 hst (lv_room hroom) hdg hfit) hS (fun q _ h => hF q h) hF (fun r u t H1 locs1 ht hvm hw hB hz1 hk1 hS1 => ?_)
  obtain ⟨g1, g2⟩ := va_put_back X hP hD hS isC gs hI hC hln ht hB hk1
  exact kk r u H1 locs1 hw g1 g2 hS1
end PUTS
abbrev wL (cI cZ : ClassId) (ox ox_river ox_river_days ox_river_heights ox_river_knownFrom ox_river_seen ox_land ox_land_widths ox_land_register ox_land_levels ox_land_owners ox_land_lost ox_land_rests ox_bearTable ox_bearTable_fromDays ox_bearTable_sheavesARope ox_tape ox_tape_bytes ox_levy ox_takings ox_takings_officers ox_takings_strips ox_takings_amounts ox_takings_knownFrom ox_takings_own ox_takings_all ox_book ox_book_kinds ox_book_parts ox_book_wholes ox_book_bounds ox_spareBook ox_spareBook_kinds ox_spareBook_parts ox_spareBook_wholes ox_spareBook_bounds om om_rDay om_rHeight om_rKnown om_heights om_register om_land om_levels om_owners om_isLost om_tableDays om_tableSheaves om_dSort om_dA om_dB om_dC om_nDecree om_tape om_tOfficer om_tStrip om_tSheaves om_tKnown : Nat) (fx_faultPlace : Int32) (fx_refusal : Int32) (fx_river_told : Int32) (fx_river_seenPeak : Int32) (ax_river_days : (Nat → Int32)) (ax_river_heights : (Nat → Int32)) (ax_river_knownFrom : (Nat → Int32)) (ax_river_seen : (Nat → Int32)) (fx_land_strips : Int32) (ax_land_widths : (Nat → Int32)) (ax_land_register : (Nat → Int32)) (ax_land_levels : (Nat → Int32)) (ax_land_owners : (Nat → Int32)) (ax_land_lost : (Nat → Int32)) (ax_land_rests : (Nat → Int32)) (ax_bearTable_fromDays : (Nat → Int32)) (ax_bearTable_sheavesARope : (Nat → Int32)) (fx_tape_length : Int32) (fx_tape_kind : Int32) (fx_tape_start : Int32) (fx_tape_after : Int32) (ax_tape_bytes : (Nat → Int32)) (fx_levy_due : Int32) (fx_levy_relieved : Int32) (fx_levy_toOfficer : Int32) (fx_levy_toKing : Int32) (fx_levy_toOwner : Int32) (fx_takings_size : Int32) (ax_takings_officers : (Nat → Int32)) (ax_takings_strips : (Nat → Int32)) (ax_takings_amounts : (Nat → Int32)) (ax_takings_knownFrom : (Nat → Int32)) (ax_takings_own : (Nat → Int32)) (ax_takings_all : (Nat → Int32)) (fx_book_size : Int32) (ax_book_kinds : (Nat → Int32)) (ax_book_parts : (Nat → Int32)) (ax_book_wholes : (Nat → Int32)) (ax_book_bounds : (Nat → Int32)) (fx_spareBook_size : Int32) (ax_spareBook_kinds : (Nat → Int32)) (ax_spareBook_parts : (Nat → Int32)) (ax_spareBook_wholes : (Nat → Int32)) (ax_spareBook_bounds : (Nat → Int32)) (fm_thrown : Int32) (fm_status : Int32) (fm_readings : Int32) (fm_strips : Int32) (fm_decrees : Int32) (fm_nMany : Int32) (fm_taped : Int32) (fm_from : Int32) (fm_to : Int32) (fm_sort : Int32) (fm_worth : Int64) (fm_fault : Int32) (fm_bad : Int32) (fm_tax : Int32) (fm_relief : Int32) (fm_officers : Int32) (fm_harvest : Int32) (fm_taken : Int32) (am_rDay : (Nat → Int32)) (am_rHeight : (Nat → Int32)) (am_rKnown : (Nat → Int32)) (am_heights : (Nat → Int32)) (am_register : (Nat → Int32)) (am_land : (Nat → Int32)) (am_levels : (Nat → Int32)) (am_owners : (Nat → Int32)) (am_isLost : (Nat → Int32)) (am_tableDays : (Nat → Int32)) (am_tableSheaves : (Nat → Int32)) (am_dSort : (Nat → Int32)) (am_dA : (Nat → Int32)) (am_dB : (Nat → Int32)) (am_dC : (Nat → Int32)) (am_nDecree : (Nat → Int32)) (am_tape : (Nat → Int32)) (am_tOfficer : (Nat → Int32)) (am_tStrip : (Nat → Int32)) (am_tSheaves : (Nat → Int32)) (am_tKnown : (Nat → Int32)) : va_W := [(ox, .inr (7, [.ref ox_river, .ref ox_land, .ref ox_bearTable, .ref ox_tape, .ref ox_levy, .ref ox_takings, .ref ox_book, .ref ox_spareBook, .int fx_faultPlace, .int fx_refusal])), (ox_river, .inr (4, [.ref ox_river_days, .ref ox_river_heights, .ref ox_river_knownFrom, .int fx_river_told, .ref ox_river_seen, .int fx_river_seenPeak])), (ox_river_days, .inl (cI, (300, .inl ax_river_days))), (ox_river_heights, .inl (cI, (300, .inl ax_river_heights))), (ox_river_knownFrom, .inl (cI, (300, .inl ax_river_knownFrom))), (ox_river_seen, .inl (cI, (120, .inl ax_river_seen))), (ox_land, .inr (2, [.ref ox_land_widths, .ref ox_land_register, .ref ox_land_levels, .ref ox_land_owners, .ref ox_land_lost, .ref ox_land_rests, .int fx_land_strips])), (ox_land_widths, .inl (cI, (24, .inl ax_land_widths))), (ox_land_register, .inl (cI, (24, .inl ax_land_register))), (ox_land_levels, .inl (cI, (24, .inl ax_land_levels))), (ox_land_owners, .inl (cI, (24, .inl ax_land_owners))), (ox_land_lost, .inl (cZ, (25, .inl ax_land_lost))), (ox_land_rests, .inl (cI, (24, .inl ax_land_rests))), (ox_bearTable, .inr (0, [.ref ox_bearTable_fromDays, .ref ox_bearTable_sheavesARope])), (ox_bearTable_fromDays, .inl (cI, (8, .inl ax_bearTable_fromDays))), (ox_bearTable_sheavesARope, .inl (cI, (8, .inl ax_bearTable_sheavesARope))), (ox_tape, .inr (6, [.ref ox_tape_bytes, .int fx_tape_length, .int fx_tape_kind, .int fx_tape_start, .int fx_tape_after])), (ox_tape_bytes, .inl (cI, (200, .inl ax_tape_bytes))), (ox_levy, .inr (3, [.int fx_levy_due, .int fx_levy_relieved, .int fx_levy_toOfficer, .int fx_levy_toKing, .int fx_levy_toOwner])), (ox_takings, .inr (5, [.ref ox_takings_officers, .ref ox_takings_strips, .ref ox_takings_amounts, .ref ox_takings_knownFrom, .ref ox_takings_own, .ref ox_takings_all, .int fx_takings_size])), (ox_takings_officers, .inl (cI, (200, .inl ax_takings_officers))), (ox_takings_strips, .inl (cI, (200, .inl ax_takings_strips))), (ox_takings_amounts, .inl (cI, (200, .inl ax_takings_amounts))), (ox_takings_knownFrom, .inl (cI, (200, .inl ax_takings_knownFrom))), (ox_takings_own, .inl (cI, (24, .inl ax_takings_own))), (ox_takings_all, .inl (cI, (24, .inl ax_takings_all))), (ox_book, .inr (1, [.ref ox_book_kinds, .ref ox_book_parts, .ref ox_book_wholes, .ref ox_book_bounds, .int fx_book_size])), (ox_book_kinds, .inl (cI, (20, .inl ax_book_kinds))), (ox_book_parts, .inl (cI, (20, .inl ax_book_parts))), (ox_book_wholes, .inl (cI, (20, .inl ax_book_wholes))), (ox_book_bounds, .inl (cI, (20, .inl ax_book_bounds))), (ox_spareBook, .inr (1, [.ref ox_spareBook_kinds, .ref ox_spareBook_parts, .ref ox_spareBook_wholes, .ref ox_spareBook_bounds, .int fx_spareBook_size])), (ox_spareBook_kinds, .inl (cI, (20, .inl ax_spareBook_kinds))), (ox_spareBook_parts, .inl (cI, (20, .inl ax_spareBook_parts))), (ox_spareBook_wholes, .inl (cI, (20, .inl ax_spareBook_wholes))), (ox_spareBook_bounds, .inl (cI, (20, .inl ax_spareBook_bounds))), (om, .inr (8, [.int fm_thrown, .int fm_status, .int fm_readings, .ref om_rDay, .ref om_rHeight, .ref om_rKnown, .ref om_heights, .int fm_strips, .ref om_register, .ref om_land, .ref om_levels, .ref om_owners, .ref om_isLost, .ref om_tableDays, .ref om_tableSheaves, .int fm_decrees, .ref om_dSort, .ref om_dA, .ref om_dB, .ref om_dC, .int fm_nMany, .ref om_nDecree, .ref om_tape, .int fm_taped, .int fm_from, .int fm_to, .int fm_sort, .long fm_worth, .int fm_fault, .int fm_bad, .int fm_tax, .int fm_relief, .int fm_officers, .int fm_harvest, .int fm_taken, .ref om_tOfficer, .ref om_tStrip, .ref om_tSheaves, .ref om_tKnown])), (om_rDay, .inl (cI, (300, .inl am_rDay))), (om_rHeight, .inl (cI, (300, .inl am_rHeight))), (om_rKnown, .inl (cI, (300, .inl am_rKnown))), (om_heights, .inl (cI, (120, .inl am_heights))), (om_register, .inl (cI, (24, .inl am_register))), (om_land, .inl (cI, (24, .inl am_land))), (om_levels, .inl (cI, (24, .inl am_levels))), (om_owners, .inl (cI, (24, .inl am_owners))), (om_isLost, .inl (cZ, (25, .inl am_isLost))), (om_tableDays, .inl (cI, (8, .inl am_tableDays))), (om_tableSheaves, .inl (cI, (8, .inl am_tableSheaves))), (om_dSort, .inl (cI, (20, .inl am_dSort))), (om_dA, .inl (cI, (20, .inl am_dA))), (om_dB, .inl (cI, (20, .inl am_dB))), (om_dC, .inl (cI, (20, .inl am_dC))), (om_nDecree, .inl (cI, (80, .inl am_nDecree))), (om_tape, .inl (cI, (200, .inl am_tape))), (om_tOfficer, .inl (cI, (200, .inl am_tOfficer))), (om_tStrip, .inl (cI, (200, .inl am_tStrip))), (om_tSheaves, .inl (cI, (200, .inl am_tSheaves))), (om_tKnown, .inl (cI, (200, .inl am_tKnown)))]
def NX (p : Program) (l : Launch) (e : Env) (s : State) (m : MethodId) (below : List Frame) (meth : Method) (c : Code) (D : va_G) (cI cZ : ClassId) (A : Nat → Prop) (b : Nat) (Z : State → Prop) (pc i : Nat) : Prop := ∀ (ox ox_river ox_river_days ox_river_heights ox_river_knownFrom ox_river_seen ox_land ox_land_widths ox_land_register ox_land_levels ox_land_owners ox_land_lost ox_land_rests ox_bearTable ox_bearTable_fromDays ox_bearTable_sheavesARope ox_tape ox_tape_bytes ox_levy ox_takings ox_takings_officers ox_takings_strips ox_takings_amounts ox_takings_knownFrom ox_takings_own ox_takings_all ox_book ox_book_kinds ox_book_parts ox_book_wholes ox_book_bounds ox_spareBook ox_spareBook_kinds ox_spareBook_parts ox_spareBook_wholes ox_spareBook_bounds om om_rDay om_rHeight om_rKnown om_heights om_register om_land om_levels om_owners om_isLost om_tableDays om_tableSheaves om_dSort om_dA om_dB om_dC om_nDecree om_tape om_tOfficer om_tStrip om_tSheaves om_tKnown : Nat) (fx_faultPlace : Int32) (fx_refusal : Int32) (fx_river_told : Int32) (fx_river_seenPeak : Int32) (ax_river_days : (Nat → Int32)) (ax_river_heights : (Nat → Int32)) (ax_river_knownFrom : (Nat → Int32)) (ax_river_seen : (Nat → Int32)) (fx_land_strips : Int32) (ax_land_widths : (Nat → Int32)) (ax_land_register : (Nat → Int32)) (ax_land_levels : (Nat → Int32)) (ax_land_owners : (Nat → Int32)) (ax_land_lost : (Nat → Int32)) (ax_land_rests : (Nat → Int32)) (ax_bearTable_fromDays : (Nat → Int32)) (ax_bearTable_sheavesARope : (Nat → Int32)) (fx_tape_length : Int32) (fx_tape_kind : Int32) (fx_tape_start : Int32) (fx_tape_after : Int32) (ax_tape_bytes : (Nat → Int32)) (fx_levy_due : Int32) (fx_levy_relieved : Int32) (fx_levy_toOfficer : Int32) (fx_levy_toKing : Int32) (fx_levy_toOwner : Int32) (fx_takings_size : Int32) (ax_takings_officers : (Nat → Int32)) (ax_takings_strips : (Nat → Int32)) (ax_takings_amounts : (Nat → Int32)) (ax_takings_knownFrom : (Nat → Int32)) (ax_takings_own : (Nat → Int32)) (ax_takings_all : (Nat → Int32)) (fx_book_size : Int32) (ax_book_kinds : (Nat → Int32)) (ax_book_parts : (Nat → Int32)) (ax_book_wholes : (Nat → Int32)) (ax_book_bounds : (Nat → Int32)) (fx_spareBook_size : Int32) (ax_spareBook_kinds : (Nat → Int32)) (ax_spareBook_parts : (Nat → Int32)) (ax_spareBook_wholes : (Nat → Int32)) (ax_spareBook_bounds : (Nat → Int32)) (fm_thrown : Int32) (fm_status : Int32) (fm_readings : Int32) (fm_strips : Int32) (fm_decrees : Int32) (fm_nMany : Int32) (fm_taped : Int32) (fm_from : Int32) (fm_to : Int32) (fm_sort : Int32) (fm_worth : Int64) (fm_fault : Int32) (fm_bad : Int32) (fm_tax : Int32) (fm_relief : Int32) (fm_officers : Int32) (fm_harvest : Int32) (fm_taken : Int32) (am_rDay : (Nat → Int32)) (am_rHeight : (Nat → Int32)) (am_rKnown : (Nat → Int32)) (am_heights : (Nat → Int32)) (am_register : (Nat → Int32)) (am_land : (Nat → Int32)) (am_levels : (Nat → Int32)) (am_owners : (Nat → Int32)) (am_isLost : (Nat → Int32)) (am_tableDays : (Nat → Int32)) (am_tableSheaves : (Nat → Int32)) (am_dSort : (Nat → Int32)) (am_dA : (Nat → Int32)) (am_dB : (Nat → Int32)) (am_dC : (Nat → Int32)) (am_nDecree : (Nat → Int32)) (am_tape : (Nat → Int32)) (am_tOfficer : (Nat → Int32)) (am_tStrip : (Nat → Int32)) (am_tSheaves : (Nat → Int32)) (am_tKnown : (Nat → Int32)) (H : Heap) (locs : List Loc) (ls : Array Slot), va_P D classes (wL cI cZ ox ox_river ox_river_days ox_river_heights ox_river_knownFrom ox_river_seen ox_land ox_land_widths ox_land_register ox_land_levels ox_land_owners ox_land_lost ox_land_rests ox_bearTable ox_bearTable_fromDays ox_bearTable_sheavesARope ox_tape ox_tape_bytes ox_levy ox_takings ox_takings_officers ox_takings_strips ox_takings_amounts ox_takings_knownFrom ox_takings_own ox_takings_all ox_book ox_book_kinds ox_book_parts ox_book_wholes ox_book_bounds ox_spareBook ox_spareBook_kinds ox_spareBook_parts ox_spareBook_wholes ox_spareBook_bounds om om_rDay om_rHeight om_rKnown om_heights om_register om_land om_levels om_owners om_isLost om_tableDays om_tableSheaves om_dSort om_dA om_dB om_dC om_nDecree om_tape om_tOfficer om_tStrip om_tSheaves om_tKnown fx_faultPlace fx_refusal fx_river_told fx_river_seenPeak ax_river_days ax_river_heights ax_river_knownFrom ax_river_seen fx_land_strips ax_land_widths ax_land_register ax_land_levels ax_land_owners ax_land_lost ax_land_rests ax_bearTable_fromDays ax_bearTable_sheavesARope fx_tape_length fx_tape_kind fx_tape_start fx_tape_after ax_tape_bytes fx_levy_due fx_levy_relieved fx_levy_toOfficer fx_levy_toKing fx_levy_toOwner fx_takings_size ax_takings_officers ax_takings_strips ax_takings_amounts ax_takings_knownFrom ax_takings_own ax_takings_all fx_book_size ax_book_kinds ax_book_parts ax_book_wholes ax_book_bounds fx_spareBook_size ax_spareBook_kinds ax_spareBook_parts ax_spareBook_wholes ax_spareBook_bounds fm_thrown fm_status fm_readings fm_strips fm_decrees fm_nMany fm_taped fm_from fm_to fm_sort fm_worth fm_fault fm_bad fm_tax fm_relief fm_officers fm_harvest fm_taken am_rDay am_rHeight am_rKnown am_heights am_register am_land am_levels am_owners am_isLost am_tableDays am_tableSheaves am_dSort am_dA am_dB am_dC am_nDecree am_tape am_tOfficer am_tStrip am_tSheaves am_tKnown) H → va_D A (wL cI cZ ox ox_river ox_river_days ox_river_heights ox_river_knownFrom ox_river_seen ox_land ox_land_widths ox_land_register ox_land_levels ox_land_owners ox_land_lost ox_land_rests ox_bearTable ox_bearTable_fromDays ox_bearTable_sheavesARope ox_tape ox_tape_bytes ox_levy ox_takings ox_takings_officers ox_takings_strips ox_takings_amounts ox_takings_knownFrom ox_takings_own ox_takings_all ox_book ox_book_kinds ox_book_parts ox_book_wholes ox_book_bounds ox_spareBook ox_spareBook_kinds ox_spareBook_parts ox_spareBook_wholes ox_spareBook_bounds om om_rDay om_rHeight om_rKnown om_heights om_register om_land om_levels om_owners om_isLost om_tableDays om_tableSheaves om_dSort om_dA om_dB om_dC om_nDecree om_tape om_tOfficer om_tStrip om_tSheaves om_tKnown fx_faultPlace fx_refusal fx_river_told fx_river_seenPeak ax_river_days ax_river_heights ax_river_knownFrom ax_river_seen fx_land_strips ax_land_widths ax_land_register ax_land_levels ax_land_owners ax_land_lost ax_land_rests ax_bearTable_fromDays ax_bearTable_sheavesARope fx_tape_length fx_tape_kind fx_tape_start fx_tape_after ax_tape_bytes fx_levy_due fx_levy_relieved fx_levy_toOfficer fx_levy_toKing fx_levy_toOwner fx_takings_size ax_takings_officers ax_takings_strips ax_takings_amounts ax_takings_knownFrom ax_takings_own ax_takings_all fx_book_size ax_book_kinds ax_book_parts ax_book_wholes ax_book_bounds fx_spareBook_size ax_spareBook_kinds ax_spareBook_parts ax_spareBook_wholes ax_spareBook_bounds fm_thrown fm_status fm_readings fm_strips fm_decrees fm_nMany fm_taped fm_from fm_to fm_sort fm_worth fm_fault fm_bad fm_tax fm_relief fm_officers fm_harvest fm_taken am_rDay am_rHeight am_rKnown am_heights am_register am_land am_levels am_owners am_isLost am_tableDays am_tableSheaves am_dSort am_dA am_dB am_dC am_nDecree am_tape am_tOfficer am_tStrip am_tSheaves am_tKnown) → va_S A s.heap H locs → lv_has ls 4 [(3, .int (nI i)), (2, .ref om), (1, .ref ox), (0, .ref b)] → FX fx_river_told ax_river_days ax_river_heights ax_river_knownFrom fx_land_strips ax_land_widths ax_land_register ax_land_levels ax_land_owners ax_land_lost ax_bearTable_fromDays ax_bearTable_sheavesARope fx_tape_length ax_tape_bytes fx_takings_size ax_takings_officers ax_takings_strips ax_takings_amounts ax_takings_knownFrom fx_book_size ax_book_kinds ax_book_parts ax_book_wholes ax_book_bounds fx_faultPlace fx_refusal fm_readings am_rDay am_rHeight am_rKnown fm_strips am_land am_register am_levels am_owners am_isLost am_tableDays am_tableSheaves fm_taped am_tape fm_taken am_tOfficer am_tStrip am_tSheaves am_tKnown fm_decrees am_dSort am_dA am_dB am_dC fm_fault fm_status → W p l e room_1 s m #[Value.ref b] below meth c H locs 58 4797 Z (F0 m pc ls [])
theorem sc_1 {i L : Nat} (hi : i + 6 ≤ L) (hL : L ≤ 3072) : vp_in (nI i + (1 : Int32)) L := by rw [show (1 : Int32) = nI 1 from rfl, nI_add]; exact vi (by omega) (by omega)
theorem sc_2 {i L : Nat} (hi : i + 6 ≤ L) (hL : L ≤ 3072) : vp_in (nI i + (2 : Int32)) L := by rw [show (2 : Int32) = nI 2 from rfl, nI_add]; exact vi (by omega) (by omega)
theorem sc_3 {i L : Nat} (hi : i + 6 ≤ L) (hL : L ≤ 3072) : vp_in (nI i + (3 : Int32)) L := by rw [show (3 : Int32) = nI 3 from rfl, nI_add]; exact vi (by omega) (by omega)
theorem sc_4 {i L : Nat} (hi : i + 6 ≤ L) (hL : L ≤ 3072) : vp_in (nI i + (4 : Int32)) L := by rw [show (4 : Int32) = nI 4 from rfl, nI_add]; exact vi (by omega) (by omega)
theorem sc_5 {i L : Nat} (hi : i + 6 ≤ L) (hL : L ≤ 3072) : vp_in (nI i + (5 : Int32)) L := by rw [show (5 : Int32) = nI 5 from rfl, nI_add]; exact vi (by omega) (by omega)
set_option maxRecDepth 100000 in
theorem lw3_0 : Cond.methodLink R_law 13 yX7_read ∈ gw := gw_of (List.mem_of_getElem? (i := 238) rfl) rfl
set_option maxRecDepth 100000 in
theorem lw3_1 : Cond.methodLink R_law 17 yX8_read ∈ gw := gw_of (List.mem_of_getElem? (i := 706) rfl) rfl
set_option maxRecDepth 100000 in
theorem lw3_2 : Cond.methodLink R_law 18 yX7_height ∈ gw := gw_of (List.mem_of_getElem? (i := 260) rfl) rfl
set_option maxRecDepth 100000 in
theorem lw3_3 : Cond.methodLink R_law 22 yX8_height ∈ gw := gw_of (List.mem_of_getElem? (i := 726) rfl) rfl
set_option maxRecDepth 100000 in
theorem lw3_4 : Cond.methodLink R_law 23 yX7_peak ∈ gw := gw_of (List.mem_of_getElem? (i := 279) rfl) rfl
set_option maxRecDepth 100000 in
theorem lw3_5 : Cond.methodLink R_law 27 yX8_peak ∈ gw := gw_of (List.mem_of_getElem? (i := 734) rfl) rfl
set_option maxRecDepth 100000 in
theorem lw3_6 : Cond.methodLink R_law 28 yX7_strip ∈ gw := gw_of (List.mem_of_getElem? (i := 283) rfl) rfl
set_option maxRecDepth 100000 in
theorem lw3_7 : Cond.methodLink R_law 31 yX8_strip ∈ gw := gw_of (List.mem_of_getElem? (i := 742) rfl) rfl
set_option maxRecDepth 100000 in
theorem lw3_8 : Cond.methodLink R_law 32 yX7_of ∈ gw := gw_of (List.mem_of_getElem? (i := 291) rfl) rfl
set_option maxRecDepth 100000 in
theorem lw3_9 : Cond.methodLink R_law 35 yX8_of ∈ gw := gw_of (List.mem_of_getElem? (i := 747) rfl) rfl
set_option maxRecDepth 100000 in
theorem lw3_10 : Cond.methodLink R_law 36 yX7_lose ∈ gw := gw_of (List.mem_of_getElem? (i := 299) rfl) rfl
set_option maxRecDepth 100000 in
theorem lw3_11 : Cond.methodLink R_law 39 yX8_lose ∈ gw := gw_of (List.mem_of_getElem? (i := 755) rfl) rfl
set_option maxRecDepth 100000 in
theorem lw3_12 : Cond.methodLink R_law 40 yX7_draw ∈ gw := gw_of (List.mem_of_getElem? (i := 311) rfl) rfl
set_option maxRecDepth 100000 in
theorem lw3_13 : Cond.methodLink R_law 43 yX8_draw ∈ gw := gw_of (List.mem_of_getElem? (i := 763) rfl) rfl
set_option maxRecDepth 100000 in
theorem lw3_14 : Cond.methodLink R_law 44 yX7_stands ∈ gw := gw_of (List.mem_of_getElem? (i := 331) rfl) rfl
set_option maxRecDepth 100000 in
theorem lw3_15 : Cond.methodLink R_law 47 yX8_stands ∈ gw := gw_of (List.mem_of_getElem? (i := 768) rfl) rfl
set_option maxRecDepth 100000 in
theorem lw3_16 : Cond.methodLink R_law 48 yX7_table ∈ gw := gw_of (List.mem_of_getElem? (i := 335) rfl) rfl
set_option maxRecDepth 100000 in
theorem lw3_17 : Cond.methodLink R_law 51 yX8_table ∈ gw := gw_of (List.mem_of_getElem? (i := 772) rfl) rfl
set_option maxRecDepth 100000 in
theorem lw3_18 : Cond.methodLink R_law 52 yX7_wet ∈ gw := gw_of (List.mem_of_getElem? (i := 339) rfl) rfl
set_option maxRecDepth 100000 in
theorem lw3_19 : Cond.methodLink R_law 55 yX8_wet ∈ gw := gw_of (List.mem_of_getElem? (i := 779) rfl) rfl
set_option maxRecDepth 100000 in
theorem lw3_20 : Cond.methodLink R_law 56 yX7_harvest ∈ gw := gw_of (List.mem_of_getElem? (i := 347) rfl) rfl
set_option maxRecDepth 100000 in
theorem lw3_21 : Cond.methodLink R_law 59 yX8_harvest ∈ gw := gw_of (List.mem_of_getElem? (i := 787) rfl) rfl
set_option maxRecDepth 100000 in
theorem lw3_22 : Cond.methodLink R_law 60 yX7_foretold ∈ gw := gw_of (List.mem_of_getElem? (i := 363) rfl) rfl
set_option maxRecDepth 100000 in
theorem lw3_23 : Cond.methodLink R_law 63 yX8_foretold ∈ gw := gw_of (List.mem_of_getElem? (i := 795) rfl) rfl
set_option maxRecDepth 100000 in
theorem lw3_24 : Cond.methodLink R_law 64 yX7_feed ∈ gw := gw_of (List.mem_of_getElem? (i := 368) rfl) rfl
set_option maxRecDepth 100000 in
theorem lw3_25 : Cond.methodLink R_law 68 yX8_feed ∈ gw := gw_of (List.mem_of_getElem? (i := 799) rfl) rfl
set_option maxRecDepth 100000 in
theorem lw3_26 : Cond.methodLink R_law 69 yX7_end ∈ gw := gw_of (List.mem_of_getElem? (i := 376) rfl) rfl
set_option maxRecDepth 100000 in
theorem lw3_27 : Cond.methodLink R_law 72 yX8_end ∈ gw := gw_of (List.mem_of_getElem? (i := 807) rfl) rfl
set_option maxRecDepth 100000 in
theorem lw3_28 : Cond.methodLink R_law 73 yX7_decrees ∈ gw := gw_of (List.mem_of_getElem? (i := 380) rfl) rfl
set_option maxRecDepth 100000 in
theorem lw3_29 : Cond.methodLink R_law 77 yX8_decrees ∈ gw := gw_of (List.mem_of_getElem? (i := 811) rfl) rfl
set_option maxRecDepth 100000 in
theorem lw3_30 : Cond.methodLink R_law 78 yX7_fault ∈ gw := gw_of (List.mem_of_getElem? (i := 488) rfl) rfl
set_option maxRecDepth 100000 in
theorem lw3_31 : Cond.methodLink R_law 81 yX8_fault ∈ gw := gw_of (List.mem_of_getElem? (i := 847) rfl) rfl
set_option maxRecDepth 100000 in
theorem lw3_32 : Cond.methodLink R_law 82 yX7_tax ∈ gw := gw_of (List.mem_of_getElem? (i := 492) rfl) rfl
set_option maxRecDepth 100000 in
theorem lw3_33 : Cond.methodLink R_law 85 yX8_tax ∈ gw := gw_of (List.mem_of_getElem? (i := 851) rfl) rfl
set_option maxRecDepth 100000 in
theorem lw3_34 : Cond.methodLink R_law 86 yX7_take ∈ gw := gw_of (List.mem_of_getElem? (i := 531) rfl) rfl
set_option maxRecDepth 100000 in
theorem lw3_35 : Cond.methodLink R_law 90 yX8_take ∈ gw := gw_of (List.mem_of_getElem? (i := 859) rfl) rfl
set_option maxRecDepth 100000 in
theorem lw3_36 : Cond.methodLink R_law 91 yX7_gain ∈ gw := gw_of (List.mem_of_getElem? (i := 540) rfl) rfl
set_option maxRecDepth 100000 in
theorem lw3_37 : Cond.methodLink R_law 95 yX8_gain ∈ gw := gw_of (List.mem_of_getElem? (i := 865) rfl) rfl
set_option maxRecDepth 100000 in
theorem lw3_38 : Cond.methodLink R_law 96 yX7_sheaves ∈ gw := gw_of (List.mem_of_getElem? (i := 554) rfl) rfl
set_option maxRecDepth 100000 in
theorem lw3_39 : Cond.methodLink R_law 99 yX8_sheaves ∈ gw := gw_of (List.mem_of_getElem? (i := 869) rfl) rfl
set_option maxRecDepth 100000 in
theorem lw3_40 : Cond.methodLink R_law 100 yX7_led ∈ gw := gw_of (List.mem_of_getElem? (i := 558) rfl) rfl
set_option maxRecDepth 100000 in
theorem lw3_41 : Cond.methodLink R_law 103 yX8_led ∈ gw := gw_of (List.mem_of_getElem? (i := 873) rfl) rfl
set_option maxRecDepth 100000 in
theorem lw3_42 : Cond.methodLink R_law 104 yX7_count ∈ gw := gw_of (List.mem_of_getElem? (i := 566) rfl) rfl
set_option maxRecDepth 100000 in
theorem lw3_43 : Cond.methodLink R_law 107 yX8_count ∈ gw := gw_of (List.mem_of_getElem? (i := 877) rfl) rfl
set_option maxRecDepth 100000 in
theorem lw3_44 : Cond.methodLink R_law 108 yX7_status ∈ gw := gw_of (List.mem_of_getElem? (i := 578) rfl) rfl
set_option maxRecDepth 100000 in
theorem lw3_45 : Cond.methodLink R_law 111 yX8_status ∈ gw := gw_of (List.mem_of_getElem? (i := 881) rfl) rfl
set_option maxRecDepth 100000 in
theorem lw3_46 : Cond.classLink R_law 7 RX7 ∈ gw := gw_of (List.mem_of_getElem? (i := 15) rfl) rfl
set_option maxRecDepth 100000 in
theorem lw3_47 : Cond.methodLink R_law 9 yX7_init ∈ gw := gw_of (List.mem_of_getElem? (i := 17) rfl) rfl
set_option maxRecDepth 100000 in
theorem lw3_48 : Cond.classLink R_law 10 RX8 ∈ gw := gw_of (List.mem_of_getElem? (i := 582) rfl) rfl
set_option maxRecDepth 100000 in
theorem lw3_49 : Cond.methodLink R_law 12 yX8_init ∈ gw := gw_of (List.mem_of_getElem? (i := 584) rfl) rfl
set_option maxRecDepth 100000 in
theorem mw_ini7 : Cond.initialized RX7 ∈ gw := gw_of (List.mem_of_getElem? (i := 1) rfl) rfl
set_option maxRecDepth 100000 in
theorem mw_ini8 : Cond.initialized RX8 ∈ gw := gw_of (List.mem_of_getElem? (i := 9) rfl) rfl
