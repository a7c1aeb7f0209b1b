/-! ===== fault, lay ===== -/
def cpS (f : Nat → Int32) (i : Nat) : Nat → Int32 := fun j => if j < i then f (5 + j) else f j
theorem cpS_0 (f : Nat → Int32) : cpS f 0 = f := by funext j; unfold cpS; rw [if_neg (by omega)]
theorem cpS_upd (f : Nat → Int32) (i : Nat) : upd (cpS f i) i (cpS f i (5 + i)) = cpS f (i + 1) := by
  funext j
  unfold upd cpS
  by_cases h : j = i
  · subst h; rw [if_pos rfl, if_neg (by omega), if_pos (by omega)]
  · rw [if_neg h]
    by_cases h2 : j < i
    · rw [if_pos h2, if_pos (by omega)]
    · rw [if_neg h2, if_neg (by omega)]
theorem cpS_in (f : Nat → Int32) {j : Nat} (h : j < 5) : cpS f 5 j = f (5 + j) := if_pos h
theorem u_lay47 {k u s p pl : Int32} {m pe gn at0 fn td on ot ki fi : Nat → Int32} {post : Int32 → Int32 → Int32 → Int32 → Int32 → Int32 → (Nat → Int32) → (Nat → Int32) → (Nat → Int32) → (Nat → Int32) → (Nat → Int32) → (Nat → Int32) → (Nat → Int32) → (Nat → Int32) → (Nat → Int32) → (Nat → Int32) → Prop}
    (hp : post (m 0) 0 0 0 0 pl m (cpS on 5) (cpS ot 5) (cpS ki 5) (cpS fi 5) pe (cpy1 (cpS fi 5) gn 5) (fil1 at0 0 3) (upd fn 0 0) td) :
    ∀ (d i n : Nat), i + d = 5 → d < n → PX8_lay_47 post k u s p pl m pe gn at0 fn td n (nI i) (cpS on i) (cpS ot i) (cpS ki i) (cpS fi i) := by
  intro d
  induction d with
  | zero =>
    intro i n hd hn
    obtain ⟨n, rfl⟩ : ∃ k, n = k + 1 := ⟨n - 1, by omega⟩
    obtain rfl : i = 5 := by omega
    exact pk_le 5 5 (fun _ => u_begin ⟨in02, hp⟩) (fun h => absurd h (by omega))
  | succ d ih =>
    intro i n hd hn
    obtain ⟨n, rfl⟩ : ∃ k, n = k + 1 := ⟨n - 1, by omega⟩
    have i10 : vp_in (nI i) 10 := vp_in_nI (by omega) (by omega)
    have e5 : 5 + nI i = nI (5 + i) := by rw [l5, nI_add]
    have j10 : vp_in (5 + nI i) 10 := by rw [e5]; exact vp_in_nI (by omega) (by omega)
    refine pk_le 5 i (fun h => absurd h (by omega)) (fun _ => ⟨j10, ?_⟩)
    rintro _ rfl
    refine ⟨i10, ?_⟩
    rintro _ rfl
    refine ⟨j10, ?_⟩
    rintro _ rfl
    refine ⟨i10, ?_⟩
    rintro _ rfl
    refine ⟨j10, ?_⟩
    rintro _ rfl
    refine ⟨i10, ?_⟩
    rintro _ rfl
    refine ⟨j10, ?_⟩
    rintro _ rfl
    refine ⟨i10, ?_⟩
    rintro _ rfl _ rfl
    rw [e5, nI_clamp (show 5 + i < 2 ^ 31 by omega), nI_clamp (show i < 2 ^ 31 by omega), cpS_upd, cpS_upd, cpS_upd, cpS_upd, nI_1]
    exact ih (i + 1) n (by omega) (by omega)
theorem u_layE {k u s p pl : Int32} {m pe gn at0 fn td on ot ki fi : Nat → Int32} {post : Int32 → Int32 → Int32 → Int32 → Int32 → Int32 → (Nat → Int32) → (Nat → Int32) → (Nat → Int32) → (Nat → Int32) → (Nat → Int32) → (Nat → Int32) → (Nat → Int32) → (Nat → Int32) → (Nat → Int32) → (Nat → Int32) → Prop}
    (hp : post (m 0) 0 0 0 0 pl m (cpS on 5) (cpS ot 5) (cpS ki 5) (cpS fi 5) pe (cpy1 (cpS fi 5) gn 5) (fil1 at0 0 3) (upd fn 0 0) td) : ∃ q, PX8_lay_47 post k u s p pl m pe gn at0 fn td q 0 on ot ki fi :=
  ⟨6, by
    have h := u_lay47 (k := k) (u := u) (s := s) (p := p) hp 5 0 6 (by omega) (by omega)
    rw [cpS_0, cpS_0, cpS_0, cpS_0] at h
    exact h⟩

theorem s_fault {t : Nat} {ic_keptMany : Int32} {ic_text_length : Int32} {ic_text_at : Int32} {ac_text_signs : Nat → Int32} {ic_now_gates : Int32} {ic_now_persons : Int32} {ic_now_fines : Int32} {ac_now_courtA : Nat → Int32} {ac_now_courtB : Nat → Int32} {ac_now_kind : Nat → Int32} {ac_now_gone : Nat → Int32} {ac_now_court : Nat → Int32} {ic_trial_gates : Int32} {ic_trial_persons : Int32} {ic_trial_fines : Int32} {ac_trial_courtA : Nat → Int32} {ac_trial_courtB : Nat → Int32} {ac_trial_kind : Nat → Int32} {ac_trial_gone : Nat → Int32} {ac_trial_court : Nat → Int32} {ic_lowerKept_gates : Int32} {ic_lowerKept_persons : Int32} {ic_lowerKept_fines : Int32} {ac_lowerKept_courtA : Nat → Int32} {ac_lowerKept_courtB : Nat → Int32} {ac_lowerKept_kind : Nat → Int32} {ac_lowerKept_gone : Nat → Int32} {ac_lowerKept_court : Nat → Int32} {ic_upperKept_gates : Int32} {ic_upperKept_persons : Int32} {ic_upperKept_fines : Int32} {ac_upperKept_courtA : Nat → Int32} {ac_upperKept_courtB : Nat → Int32} {ac_upperKept_kind : Nat → Int32} {ac_upperKept_gone : Nat → Int32} {ac_upperKept_court : Nat → Int32} {ic_deeds_many : Int32} {ac_deeds_person : Nat → Int32} {ac_deeds_gate : Nat → Int32} {ac_deeds_from : Nat → Int32} {ac_deeds_fine : Nat → Int32} {ic_sights_many : Int32} {ac_sights_gate : Nat → Int32} {ac_sights_open : Nat → Int32} {ic_route_many : Int32} {ac_route_gate : Nat → Int32} {im_length : Int32} {im_keptMany : Int32} {im_undoMany : Int32} {im_seenMany : Int32} {im_pathMany : Int32} {im_place : Int32} {am_text : Nat → Int32} {am_many : Nat → Int32} {am_ones : Nat → Int32} {am_others : Nat → Int32} {am_kinds : Nat → Int32} {am_firsts : Nat → Int32} {am_persons : Nat → Int32} {am_gone : Nat → Int32} {am_at : Nat → Int32} {am_fines : Nat → Int32} {am_undos : Nat → Int32} {am_seenOf : Nat → Int32} {am_seenOpen : Nat → Int32} {am_path : Nat → Int32} {am_told : Nat → Int32} (ht : t < 512) (h : LInv t ic_text_length ac_text_signs ic_now_gates ic_now_persons ic_now_fines ac_now_courtA ac_now_courtB ac_now_kind ac_now_gone ac_now_court ic_lowerKept_gates ic_lowerKept_persons ic_lowerKept_fines ac_lowerKept_courtA ac_lowerKept_courtB ac_lowerKept_kind ac_lowerKept_gone ac_lowerKept_court ic_upperKept_gates ic_upperKept_persons ic_upperKept_fines ac_upperKept_courtA ac_upperKept_courtB ac_upperKept_kind ac_upperKept_gone ac_upperKept_court ic_keptMany ic_deeds_many ac_deeds_person ac_deeds_gate ac_deeds_from ac_deeds_fine ic_sights_many ac_sights_gate ac_sights_open ic_route_many ac_route_gate im_length am_text am_many am_ones am_others am_kinds am_persons am_gone am_at am_fines im_keptMany im_undoMany am_undos im_seenMany am_seenOf am_seenOpen im_pathMany am_path) : PX7_fault ic_text_length ic_text_at ac_text_signs ic_trial_gates ic_trial_persons ic_trial_fines ac_trial_courtA ac_trial_courtB ac_trial_kind ac_trial_gone ac_trial_court (fun r ic_text_at' ic_trial_gates' ic_trial_persons' ic_trial_fines' ac_trial_courtA' ac_trial_courtB' ac_trial_kind' ac_trial_gone' ac_trial_court' => PX8_fault im_length im_place am_text am_many am_ones am_others am_kinds am_firsts am_persons am_told (fun r' im_place' am_many' am_ones' am_others' am_kinds' am_firsts' am_persons' am_told' => r = r' ∧ LInv (t + 1) ic_text_length ac_text_signs ic_now_gates ic_now_persons ic_now_fines ac_now_courtA ac_now_courtB ac_now_kind ac_now_gone ac_now_court ic_lowerKept_gates ic_lowerKept_persons ic_lowerKept_fines ac_lowerKept_courtA ac_lowerKept_courtB ac_lowerKept_kind ac_lowerKept_gone ac_lowerKept_court ic_upperKept_gates ic_upperKept_persons ic_upperKept_fines ac_upperKept_courtA ac_upperKept_courtB ac_upperKept_kind ac_upperKept_gone ac_upperKept_court ic_keptMany ic_deeds_many ac_deeds_person ac_deeds_gate ac_deeds_from ac_deeds_fine ic_sights_many ac_sights_gate ac_sights_open ic_route_many ac_route_gate im_length am_text am_many' am_ones' am_others' am_kinds' am_persons' am_gone am_at am_fines im_keptMany im_undoMany am_undos im_seenMany am_seenOf am_seenOpen im_pathMany am_path)) := by
  obtain ⟨G, P, A, B, K, N, C, h0, hT, hC, hM, hS, hk, hD, hs, hr⟩ := LInv_next h
  obtain ⟨L, T, hL, e1, e2, h256, hs1, hs2⟩ := hT
  subst e1 e2
  have hG5 := h0.1.1
  have hT' : Itx (nI L) ac_text_signs (nI L) am_text := ⟨L, T, hL, rfl, rfl, h256, hs1, hs2⟩
  refine t_readInto hL h256 hs1 (fun q hq _ _ _ _ _ _ _ _ => u_readAll hL h256 hs2 (fun q' hq' _ m on ot ki fi pe td hF => ?_) (fun hn _ _ _ _ _ _ _ _ _ _ => ?_)) (fun hq _ _ _ _ _ _ _ _ _ => u_readAll hL h256 hs2 (fun q' hq' _ m on ot ki fi pe td hF => ?_) (fun hn _ m on ot ki fi pe td _ hF => ?_))
  · rw [hq] at hq'
    cases hq'
    exact ⟨rfl, G, P, A, B, K, N, C, h0, hT', hC, hM, hS.fr hG5 hF, hk, hD, hs, hr⟩
  · rw [hq] at hn; cases hn
  · rw [hq] at hq'; cases hq'
  · exact ⟨rfl, G, P, A, B, K, N, C, h0, hT', hC, hM, hS.fr hG5 hF, hk, hD, hs, hr⟩

theorem s_lay {t : Nat} {ic_keptMany : Int32} {ic_text_length : Int32} {ic_text_at : Int32} {ac_text_signs : Nat → Int32} {ic_now_gates : Int32} {ic_now_persons : Int32} {ic_now_fines : Int32} {ac_now_courtA : Nat → Int32} {ac_now_courtB : Nat → Int32} {ac_now_kind : Nat → Int32} {ac_now_gone : Nat → Int32} {ac_now_court : Nat → Int32} {ic_trial_gates : Int32} {ic_trial_persons : Int32} {ic_trial_fines : Int32} {ac_trial_courtA : Nat → Int32} {ac_trial_courtB : Nat → Int32} {ac_trial_kind : Nat → Int32} {ac_trial_gone : Nat → Int32} {ac_trial_court : Nat → Int32} {ic_lowerKept_gates : Int32} {ic_lowerKept_persons : Int32} {ic_lowerKept_fines : Int32} {ac_lowerKept_courtA : Nat → Int32} {ac_lowerKept_courtB : Nat → Int32} {ac_lowerKept_kind : Nat → Int32} {ac_lowerKept_gone : Nat → Int32} {ac_lowerKept_court : Nat → Int32} {ic_upperKept_gates : Int32} {ic_upperKept_persons : Int32} {ic_upperKept_fines : Int32} {ac_upperKept_courtA : Nat → Int32} {ac_upperKept_courtB : Nat → Int32} {ac_upperKept_kind : Nat → Int32} {ac_upperKept_gone : Nat → Int32} {ac_upperKept_court : Nat → Int32} {ic_deeds_many : Int32} {ac_deeds_person : Nat → Int32} {ac_deeds_gate : Nat → Int32} {ac_deeds_from : Nat → Int32} {ac_deeds_fine : Nat → Int32} {ic_sights_many : Int32} {ac_sights_gate : Nat → Int32} {ac_sights_open : Nat → Int32} {ic_route_many : Int32} {ac_route_gate : Nat → Int32} {im_length : Int32} {im_keptMany : Int32} {im_undoMany : Int32} {im_seenMany : Int32} {im_pathMany : Int32} {im_place : Int32} {am_text : Nat → Int32} {am_many : Nat → Int32} {am_ones : Nat → Int32} {am_others : Nat → Int32} {am_kinds : Nat → Int32} {am_firsts : Nat → Int32} {am_persons : Nat → Int32} {am_gone : Nat → Int32} {am_at : Nat → Int32} {am_fines : Nat → Int32} {am_undos : Nat → Int32} {am_seenOf : Nat → Int32} {am_seenOpen : Nat → Int32} {am_path : Nat → Int32} {am_told : Nat → Int32} (ht : t < 512) (h : LInv t ic_text_length ac_text_signs ic_now_gates ic_now_persons ic_now_fines ac_now_courtA ac_now_courtB ac_now_kind ac_now_gone ac_now_court ic_lowerKept_gates ic_lowerKept_persons ic_lowerKept_fines ac_lowerKept_courtA ac_lowerKept_courtB ac_lowerKept_kind ac_lowerKept_gone ac_lowerKept_court ic_upperKept_gates ic_upperKept_persons ic_upperKept_fines ac_upperKept_courtA ac_upperKept_courtB ac_upperKept_kind ac_upperKept_gone ac_upperKept_court ic_keptMany ic_deeds_many ac_deeds_person ac_deeds_gate ac_deeds_from ac_deeds_fine ic_sights_many ac_sights_gate ac_sights_open ic_route_many ac_route_gate im_length am_text am_many am_ones am_others am_kinds am_persons am_gone am_at am_fines im_keptMany im_undoMany am_undos im_seenMany am_seenOf am_seenOpen im_pathMany am_path) : PX7_lay ic_keptMany ic_text_length ic_text_at ac_text_signs ic_now_gates ic_now_persons ic_now_fines ac_now_courtA ac_now_courtB ac_now_kind ac_now_gone ac_now_court ic_trial_gates ic_trial_persons ic_trial_fines ac_trial_courtA ac_trial_courtB ac_trial_kind ac_trial_gone ac_trial_court ic_deeds_many ic_sights_many ic_route_many (fun r ic_keptMany' ic_text_at' ic_now_gates' ic_now_persons' ic_now_fines' ac_now_courtA' ac_now_courtB' ac_now_kind' ac_now_gone' ac_now_court' ic_trial_gates' ic_trial_persons' ic_trial_fines' ac_trial_courtA' ac_trial_courtB' ac_trial_kind' ac_trial_gone' ac_trial_court' ic_deeds_many' ic_sights_many' ic_route_many' => PX8_lay im_length im_keptMany im_undoMany im_seenMany im_pathMany im_place am_text am_many am_ones am_others am_kinds am_firsts am_persons am_gone am_at am_fines am_told (fun r' im_keptMany' im_undoMany' im_seenMany' im_pathMany' im_place' am_many' am_ones' am_others' am_kinds' am_firsts' am_persons' am_gone' am_at' am_fines' am_told' => r = r' ∧ LInv (t + 1) ic_text_length ac_text_signs ic_now_gates' ic_now_persons' ic_now_fines' ac_now_courtA' ac_now_courtB' ac_now_kind' ac_now_gone' ac_now_court' ic_lowerKept_gates ic_lowerKept_persons ic_lowerKept_fines ac_lowerKept_courtA ac_lowerKept_courtB ac_lowerKept_kind ac_lowerKept_gone ac_lowerKept_court ic_upperKept_gates ic_upperKept_persons ic_upperKept_fines ac_upperKept_courtA ac_upperKept_courtB ac_upperKept_kind ac_upperKept_gone ac_upperKept_court ic_keptMany' ic_deeds_many' ac_deeds_person ac_deeds_gate ac_deeds_from ac_deeds_fine ic_sights_many' ac_sights_gate ac_sights_open ic_route_many' ac_route_gate im_length am_text am_many' am_ones' am_others' am_kinds' am_persons' am_gone' am_at' am_fines' im_keptMany' im_undoMany' am_undos im_seenMany' am_seenOf am_seenOpen im_pathMany' am_path)) := by
  obtain ⟨G, P, A, B, K, N, C, h0, hT, hC, hM, hS, hk, hD, hs, hr⟩ := LInv_next h
  obtain ⟨L, T, hL, e1, e2, h256, hs1, hs2⟩ := hT
  subst e1 e2
  have hG5 := h0.1.1
  have hT' : Itx (nI L) ac_text_signs (nI L) am_text := ⟨L, T, hL, rfl, rfl, h256, hs1, hs2⟩
  have hV := rdA_ok (T := T) (L := L) 201 0 gs0 gs0_ok
  refine t_readInto hL h256 hs1 (fun q hq _ _ _ _ _ _ _ _ => ?_) (fun hq _ g' p' cA' cB' kd' gn' ct' hCR => ⟨fun _ => ?_, fun e => absurd rfl e⟩)
  · have hq2 := rdA_at (T := T) (L := L) 201 0 gs0 hq
    refine ⟨fun e => absurd e (nI_ne4 (by omega)), fun _ => u_readAll hL h256 hs2 (fun q' hq' _ m on ot ki fi pe td hF => ?_) (fun hn _ _ _ _ _ _ _ _ _ _ => ?_)⟩
    · rw [hq] at hq'
      cases hq'
      exact ⟨fun e => absurd e (nI_ne4 (by omega)), fun _ => ⟨rfl, G, P, A, B, K, N, C, h0, hT', hC, hM, hS.fr hG5 hF, hk, hD, hs, hr⟩⟩
    · rw [hq] at hn; cases hn
  · have hR := fun post hb hg => u_readAll (post := post) (p0 := im_place) (m0 := am_many) (on0 := am_ones) (ot0 := am_others) (ki0 := am_kinds) (fi0 := am_firsts) (pe0 := am_persons) (td0 := am_told) hL h256 hs2 hb hg
    generalize rdA T L 201 0 gs0 = R at *
    obtain ⟨hO2, hP2, hN2⟩ := hV
    obtain ⟨rfl, rfl, r1, r2, r3, r4, r5⟩ := hCR
    have hG2 := hO2.1
    refine pk_eq R.2.1 0 (fun hz => hR _ (fun q' hq' _ _ _ _ _ _ _ _ => ?_) (fun _ _ m on ot ki fi pe td hMR hF => ⟨fun _ => ⟨in12, ?_⟩, fun e => absurd rfl e⟩)) (fun hz => t_copyFrom (hR _ (fun q' hq' _ _ _ _ _ _ _ _ => ?_) (fun _ _ m on ot ki fi pe td hMR hF => ⟨fun _ => ⟨in12, ?_⟩, fun e => absurd rfl e⟩)))
    · rw [hq] at hq'; cases hq'
    · rw [z1, hMR.1]
      exact pk_eq R.2.1 0 (fun _ => ⟨rfl, G, P, A, B, K, N, C, h0, hT', hC, hM, hS.fr hG5 hF, hk, hD, hs, hr⟩) (fun e => absurd hz e)
    · rw [hq] at hq'; cases hq'
    · rw [z1, hMR.1]
      refine pk_eq R.2.1 0 (fun e => absurd e hz) (fun _ => ⟨in12, ?_⟩)
      rintro _ rfl
      refine ⟨in02, ?_⟩
      rintro _ rfl
      refine ⟨in12, ?_⟩
      rintro _ rfl
      refine ⟨in02, ?_⟩
      rintro _ rfl
      rw [hMR.2.1]
      refine u_layE ⟨pk_us.symm, R.2.1, R.2.2.1, R.2.2.2.1, R.2.2.2.2.1, R.2.2.2.2.2.1, R.2.2.2.2.2.2, fun _ => 0, ⟨hO2, by omega, hP2.1, hP2.2⟩, hT', ⟨rfl, rfl, r1.cpy hG2, r2.cpy hG2, r3.cpy hG2, r4.cpy hG2, r5.cpy (Nat.le_refl 3), fun g hg => by have := hN2 g hg; omega, fun p _ => by show 0 < 5; omega⟩, ⟨fun g hg => ?_, fun p hp => ?_, pk_us⟩, ⟨pk_us, pk_us, fun i hi => ?_, fun i hi => ?_, fun i hi => ?_⟩, ⟨0, by omega, rfl, rfl, fun h => absurd h (by omega), fun h => absurd h (by omega)⟩, ⟨0, fun _ => 0, fun _ => 0, fun _ => 0, fun _ => 0, by omega, rfl, rfl, fun i hi => absurd hi (by omega), fun i hi => absurd hi (by omega), fun i hi => absurd hi (by omega), fun i hi => absurd hi (by omega), fun i hi => absurd hi (by omega), fun i hi => absurd hi (by omega), fun g hg => Nat.zero_le _⟩, ⟨0, fun _ => 0, fun _ => 0, by omega, rfl, rfl, fun i hi => absurd hi (by omega), fun i hi => absurd hi (by omega), fun i hi => absurd hi (by omega), fun i hi => absurd hi (by omega), fun i hi => absurd hi (by omega)⟩, ⟨0, fun _ => 0, by omega, rfl, rfl, fun i hi => absurd hi (by omega), fun i hi => absurd hi (by omega), fun i hi => absurd hi (by omega)⟩⟩
      · rw [show 5 * 0 + g = g by omega]
        unfold cpy1
        rw [if_pos (by omega), cpS_in _ (by omega)]
        exact (hMR.2.2 g hg).2.2.2
      · rw [show 3 * 0 + p = p by omega]
        unfold fil1
        rw [if_pos hp]; rfl
      · rw [cpS_in _ (by omega)]; exact (hMR.2.2 i hi).1
      · rw [cpS_in _ (by omega)]; exact (hMR.2.2 i hi).2.1
      · rw [cpS_in _ (by omega)]; exact (hMR.2.2 i hi).2.2.1
