theorem s_day {t : Nat} {ic_keptMany : Int32} {ic_text_length : Int32} {ac_text_signs : Nat → Int32} {ic_now_gates : Int32} {ic_now_persons : Int32} {ic_now_fines : Int32} {ac_now_courtA : Nat → Int32} {ac_now_courtB : Nat → Int32} {ac_now_kind : Nat → Int32} {ac_now_gone : Nat → Int32} {ac_now_court : Nat → Int32} {ic_trial_gates : Int32} {ic_trial_persons : Int32} {ic_trial_fines : Int32} {ac_trial_courtA : Nat → Int32} {ac_trial_courtB : Nat → Int32} {ac_trial_kind : Nat → Int32} {ac_trial_gone : Nat → Int32} {ac_trial_court : Nat → Int32} {ic_lowerKept_gates : Int32} {ic_lowerKept_persons : Int32} {ic_lowerKept_fines : Int32} {ac_lowerKept_courtA : Nat → Int32} {ac_lowerKept_courtB : Nat → Int32} {ac_lowerKept_kind : Nat → Int32} {ac_lowerKept_gone : Nat → Int32} {ac_lowerKept_court : Nat → Int32} {ic_upperKept_gates : Int32} {ic_upperKept_persons : Int32} {ic_upperKept_fines : Int32} {ac_upperKept_courtA : Nat → Int32} {ac_upperKept_courtB : Nat → Int32} {ac_upperKept_kind : Nat → Int32} {ac_upperKept_gone : Nat → Int32} {ac_upperKept_court : Nat → Int32} {ic_deeds_many : Int32} {ac_deeds_person : Nat → Int32} {ac_deeds_gate : Nat → Int32} {ac_deeds_from : Nat → Int32} {ac_deeds_fine : Nat → Int32} {ic_sights_many : Int32} {ac_sights_gate : Nat → Int32} {ac_sights_open : Nat → Int32} {ic_route_many : Int32} {ac_route_gate : Nat → Int32} {im_length : Int32} {im_keptMany : Int32} {im_undoMany : Int32} {im_seenMany : Int32} {im_pathMany : Int32} {am_text : Nat → Int32} {am_many : Nat → Int32} {am_ones : Nat → Int32} {am_others : Nat → Int32} {am_kinds : Nat → Int32} {am_persons : Nat → Int32} {am_gone : Nat → Int32} {am_at : Nat → Int32} {am_fines : Nat → Int32} {am_undos : Nat → Int32} {am_seenOf : Nat → Int32} {am_seenOpen : Nat → Int32} {am_path : Nat → Int32} {am_counts : Nat → Int32} {am_spots : Nat → Int32} (x1 : Int32) (x2 : Int32) (x3 : Int32) (ht : t < 512) (h : LInv t ic_text_length ac_text_signs ic_now_gates ic_now_persons ic_now_fines ac_now_courtA ac_now_courtB ac_now_kind ac_now_gone ac_now_court ic_lowerKept_gates ic_lowerKept_persons ic_lowerKept_fines ac_lowerKept_courtA ac_lowerKept_courtB ac_lowerKept_kind ac_lowerKept_gone ac_lowerKept_court ic_upperKept_gates ic_upperKept_persons ic_upperKept_fines ac_upperKept_courtA ac_upperKept_courtB ac_upperKept_kind ac_upperKept_gone ac_upperKept_court ic_keptMany ic_deeds_many ac_deeds_person ac_deeds_gate ac_deeds_from ac_deeds_fine ic_sights_many ac_sights_gate ac_sights_open ic_route_many ac_route_gate im_length am_text am_many am_ones am_others am_kinds am_persons am_gone am_at am_fines im_keptMany im_undoMany am_undos im_seenMany am_seenOf am_seenOpen im_pathMany am_path) : PX7_day x1 x2 x3 ic_now_gates ic_now_persons ic_now_fines ac_now_courtA ac_now_courtB ac_now_kind ac_now_gone ac_now_court ic_trial_gates ic_trial_persons ic_trial_fines ac_trial_courtA ac_trial_courtB ac_trial_kind ac_trial_gone ac_trial_court (fun r ic_trial_gates' ic_trial_persons' ic_trial_fines' ac_trial_courtA' ac_trial_courtB' ac_trial_kind' ac_trial_gone' ac_trial_court' => PX8_day x1 x2 x3 am_many am_ones am_others am_kinds am_persons am_gone am_at am_counts am_spots (fun r' am_counts' am_spots' => r = r' ∧ LInv (t + 1) ic_text_length ac_text_signs ic_now_gates ic_now_persons ic_now_fines ac_now_courtA ac_now_courtB ac_now_kind ac_now_gone ac_now_court ic_lowerKept_gates ic_lowerKept_persons ic_lowerKept_fines ac_lowerKept_courtA ac_lowerKept_courtB ac_lowerKept_kind ac_lowerKept_gone ac_lowerKept_court ic_upperKept_gates ic_upperKept_persons ic_upperKept_fines ac_upperKept_courtA ac_upperKept_courtB ac_upperKept_kind ac_upperKept_gone ac_upperKept_court ic_keptMany ic_deeds_many ac_deeds_person ac_deeds_gate ac_deeds_from ac_deeds_fine ic_sights_many ac_sights_gate ac_sights_open ic_route_many ac_route_gate im_length am_text am_many am_ones am_others am_kinds am_persons am_gone am_at am_fines im_keptMany im_undoMany am_undos im_seenMany am_seenOf am_seenOpen im_pathMany am_path)) := by
  have hI := LInv_next h
  obtain ⟨G, P, A, B, K, N, C, ⟨hO, hG, hP0, hP⟩, hT, hC, hM, hS, hk, hD, hs, hr⟩ := h
  have hSm := hC.sm ht
  obtain ⟨c1, c2, c3, c4, c5, c6, c7, c8, c9⟩ := hC
  have hG5 := hO.1
  have h9 : ∀ g, g < G → N g < 99000 := fun g hg => by have := c8 g hg; omega
  have t0 : (0 : Int32).toInt = 0 := by decide
  have t1 : (1 : Int32).toInt = 1 := by decide
  have t99 : (99 : Int32).toInt = 99 := by decide
  have t9999 : (9999 : Int32).toInt = 9999 := by decide
  subst c1 c2
  rcases range_or x1 0 9999 (by omega) with ⟨z, z0', z9, rfl⟩ | hn
  · refine ⟨fun h => ?_, fun _ => ⟨fun h => ?_, fun _ => ?_⟩⟩
    · rw [lt_iff, nI_toInt (by omega)] at h; omega
    · rw [lt_iff, nI_toInt (by omega)] at h; omega
    have uz : ∀ post : Int32 → Prop, post 1 → PX8_in (nI z).toInt64 0 9999 post := fun post hp => u_inY (a := 0) (b := 9999) (by decide) (by decide) (by omega) (by omega) (by omega) hp
    rcases range_or x2 1 99 (by omega) with ⟨m, m1, m9, rfl⟩ | hn
    · refine ⟨fun h => ?_, fun _ => ⟨fun _ => ?_, fun h => ?_⟩⟩
      · rw [lt_iff, nI_toInt (by omega)] at h; omega
      · have um : ∀ post : Int32 → Prop, post 1 → PX8_in (nI m).toInt64 1 99 post := fun post hp => u_inY (a := 1) (b := 99) (by decide) (by decide) (by omega) (by omega) (by omega) hp
        by_cases q3 : x3 = (-1)
        · subst q3
          refine ⟨fun _ => ?_, fun h => absurd rfl h⟩
          refine t_copyFrom ⟨m + 1, t_day59 (N := N) (C := C) hO hG hP0 hP (by omega) (by omega) (c3.cpy hG5) (c4.cpy hG5) (c5.cpy hG5) h9 c9 (fun gn' ct' hct => ⟨fun _ => ?_, fun h => absurd rfl h⟩) m 0 (m + 1) _ _ (by omega) (by omega) (c6.cpy hG5) (c7.cpy (by omega))⟩
          refine uz _ (rb1 (um _ (rb1 ⟨fun _ => ?_, fun h => absurd rfl h⟩)))
          refine u_layNow ⟨m + 1, u_day49 (N := N) (C := C) hO hS.1 hS.2.1 hG hP0 hP (by omega) (by omega) hS.2.2.1 hS.2.2.2.1 hS.2.2.2.2 h9 c9 (fun gn' ct' hct => ⟨fun h => absurd h (by decide), fun _ => ⟨rfl, hI⟩⟩) m 0 (m + 1) _ _ (by omega) (by omega) (hM.gone.cpy hG5) (hM.at'.cpy (by omega))⟩
        · refine ⟨fun h => absurd h q3, fun _ => ?_⟩
          refine t_hasPerson hP (fun p hp e => rb1 ?_) (fun hn => rb0 (uz _ (rb1 (um _ (rb1 ⟨fun h => absurd h q3, fun _ => u_isPersonN hS.2.1 (by omega) hP0 hn (rb0 ⟨rfl, hI⟩)⟩)))))
          subst e
          refine t_copyFrom ⟨m + 1, t_day59 (N := N) (C := C) hO hG hP0 hP (by omega) (by omega) (c3.cpy hG5) (c4.cpy hG5) (c5.cpy hG5) h9 c9 (fun gn' ct' hct => ⟨fun h => absurd h q3, fun _ => ⟨vp_in_nI (by omega) (by omega), ?_⟩⟩) m 0 (m + 1) _ _ (by omega) (by omega) (c6.cpy hG5) (c7.cpy (by omega))⟩
          refine uz _ (rb1 (um _ (rb1 ⟨fun h => absurd h q3, fun _ => u_isPerson' hS.2.1 (by omega) hp (rb1 ?_)⟩)))
          refine u_layNow ⟨m + 1, u_day49 (N := N) (C := C) hO hS.1 hS.2.1 hG hP0 hP (by omega) (by omega) hS.2.2.1 hS.2.2.2.1 hS.2.2.2.2 h9 c9 (fun gn2 ct2 hct2 => pk_le 0 p (fun _ => ⟨vp_in_nI (by omega) (by omega), ?_, hI⟩) (fun h => absurd h (by omega))) m 0 (m + 1) _ _ (by omega) (by omega) (hM.gone.cpy hG5) (hM.at'.cpy (by omega))⟩
          rw [nI_clamp (by omega), hct p (by omega), hct2 p (by omega)]
      · rw [le_iff, nI_toInt (by omega)] at h; omega
    · have un : ∀ post : Int32 → Prop, post 0 → PX8_in x2.toInt64 1 99 post := fun post hp => u_inN (a := 1) (b := 99) (by decide) (by decide) hn hp
      refine ⟨fun h => uz _ (rb1 (un _ (rb0 ⟨rfl, hI⟩))), fun h1 => ⟨fun h2 => ?_, fun h2 => uz _ (rb1 (un _ (rb0 ⟨rfl, hI⟩)))⟩⟩
      rw [lt_iff] at h1
      rw [le_iff] at h2
      omega
  · have un : ∀ post : Int32 → Prop, post 0 → PX8_in x1.toInt64 0 9999 post := fun post hp => u_inN (a := 0) (b := 9999) (by decide) (by decide) hn hp
    refine ⟨fun h => un _ (rb0 ⟨rfl, hI⟩), fun h1 => ⟨fun h2 => un _ (rb0 ⟨rfl, hI⟩), fun h2 => ?_⟩⟩
    rw [lt_iff] at h1 h2
    omega
