theorem s_pass {t : Nat} {ic_keptMany : Int32} {ic_text_length : Int32} {ac_text_signs : Nat → Int32} {ic_now_gates : Int32} {ic_now_persons : Int32} {ic_now_fines : Int32} {ac_now_courtA : Nat → Int32} {ac_now_courtB : Nat → Int32} {ac_now_kind : Nat → Int32} {ac_now_gone : Nat → Int32} {ac_now_court : Nat → Int32} {ic_lowerKept_gates : Int32} {ic_lowerKept_persons : Int32} {ic_lowerKept_fines : Int32} {ac_lowerKept_courtA : Nat → Int32} {ac_lowerKept_courtB : Nat → Int32} {ac_lowerKept_kind : Nat → Int32} {ac_lowerKept_gone : Nat → Int32} {ac_lowerKept_court : Nat → Int32} {ic_upperKept_gates : Int32} {ic_upperKept_persons : Int32} {ic_upperKept_fines : Int32} {ac_upperKept_courtA : Nat → Int32} {ac_upperKept_courtB : Nat → Int32} {ac_upperKept_kind : Nat → Int32} {ac_upperKept_gone : Nat → Int32} {ac_upperKept_court : Nat → Int32} {ic_deeds_many : Int32} {ac_deeds_person : Nat → Int32} {ac_deeds_gate : Nat → Int32} {ac_deeds_from : Nat → Int32} {ac_deeds_fine : Nat → Int32} {ic_sights_many : Int32} {ac_sights_gate : Nat → Int32} {ac_sights_open : Nat → Int32} {ic_route_many : Int32} {ac_route_gate : Nat → Int32} {im_length : Int32} {im_keptMany : Int32} {im_undoMany : Int32} {im_seenMany : Int32} {im_pathMany : Int32} {am_text : Nat → Int32} {am_many : Nat → Int32} {am_ones : Nat → Int32} {am_others : Nat → Int32} {am_kinds : Nat → Int32} {am_persons : Nat → Int32} {am_gone : Nat → Int32} {am_at : Nat → Int32} {am_fines : Nat → Int32} {am_undos : Nat → Int32} {am_seenOf : Nat → Int32} {am_seenOpen : Nat → Int32} {am_path : Nat → Int32} {am_counts : Nat → Int32} {am_spots : Nat → Int32} (x1 : Int32) (x2 : Int32) (ht : t < 512) (h : LInv t ic_text_length ac_text_signs ic_now_gates ic_now_persons ic_now_fines ac_now_courtA ac_now_courtB ac_now_kind ac_now_gone ac_now_court ic_lowerKept_gates ic_lowerKept_persons ic_lowerKept_fines ac_lowerKept_courtA ac_lowerKept_courtB ac_lowerKept_kind ac_lowerKept_gone ac_lowerKept_court ic_upperKept_gates ic_upperKept_persons ic_upperKept_fines ac_upperKept_courtA ac_upperKept_courtB ac_upperKept_kind ac_upperKept_gone ac_upperKept_court ic_keptMany ic_deeds_many ac_deeds_person ac_deeds_gate ac_deeds_from ac_deeds_fine ic_sights_many ac_sights_gate ac_sights_open ic_route_many ac_route_gate im_length am_text am_many am_ones am_others am_kinds am_persons am_gone am_at am_fines im_keptMany im_undoMany am_undos im_seenMany am_seenOf am_seenOpen im_pathMany am_path) : PX7_pass x1 x2 ic_now_gates ic_now_persons ac_now_courtA ac_now_courtB ac_now_kind ac_now_gone ac_now_court ic_deeds_many ac_deeds_person ac_deeds_gate ac_deeds_from ac_deeds_fine (fun r ac_now_gone' ac_now_court' ic_deeds_many' ac_deeds_person' ac_deeds_gate' ac_deeds_from' ac_deeds_fine' => PX8_pass x1 x2 im_undoMany am_many am_ones am_others am_kinds am_persons am_gone am_at am_undos am_counts am_spots (fun r' im_undoMany' am_gone' am_at' am_undos' am_counts' am_spots' => r = r' ∧ LInv (t + 1) ic_text_length ac_text_signs ic_now_gates ic_now_persons ic_now_fines ac_now_courtA ac_now_courtB ac_now_kind ac_now_gone' ac_now_court' ic_lowerKept_gates ic_lowerKept_persons ic_lowerKept_fines ac_lowerKept_courtA ac_lowerKept_courtB ac_lowerKept_kind ac_lowerKept_gone ac_lowerKept_court ic_upperKept_gates ic_upperKept_persons ic_upperKept_fines ac_upperKept_courtA ac_upperKept_courtB ac_upperKept_kind ac_upperKept_gone ac_upperKept_court ic_keptMany ic_deeds_many' ac_deeds_person' ac_deeds_gate' ac_deeds_from' ac_deeds_fine' ic_sights_many ac_sights_gate ac_sights_open ic_route_many ac_route_gate im_length am_text am_many am_ones am_others am_kinds am_persons am_gone' am_at' am_fines im_keptMany im_undoMany' am_undos' im_seenMany am_seenOf am_seenOpen im_pathMany am_path)) := by
  have hI := LInv_next h
  obtain ⟨G, P, A, B, K, N, C, ⟨hO, hG, hP0, hP⟩, hT, hC, hM, hS, hk, hD, hs, hr⟩ := h
  have hSm := hC.sm ht
  obtain ⟨c1, c2, c3, c4, c5, c6, c7, c8, c9⟩ := hC
  obtain ⟨d, DP, DG, DC, DF, hd8, d1, d2, d3, d4, d5, d6, d7, d8, d9⟩ := hD
  have hG5 := hO.1
  subst c1 c2 d1 d2
  refine t_hasPerson hP (fun p hp e => ?_) (fun hn => rb0 (u_isPersonN hS.2.1 (by omega) hP0 hn (rb0 ⟨rfl, hI⟩)))
  subst e
  refine rb1 (t_hasGate hO.1 (fun g hg e => ?_) (fun hn => rb0 (u_isPerson' hS.2.1 (by omega) hp (rb1 (u_isGateN hS.1 (by omega) hG hn (rb0 ⟨rfl, hI⟩))))))
  subst e
  refine rb1 (t_letsIn hO c3 c4 c5 c6 hSm c7 c9 hP hp hg ?_)
  have hcan : ∀ post, post (bI (opf A B K N (C p) g)) (cpy1 am_gone am_counts 5) (cpy1 am_at am_spots 3) → PX8_canNow (nI p) (nI g) am_ones am_others am_kinds am_gone am_at am_counts am_spots post := fun post hp' => u_canNow hO hS.2.2.1 hS.2.2.2.1 hS.2.2.2.2 hM.gone hSm hM.at' c9 (by omega) hg hp'
  cases hq : opf A B K N (C p) g
  · refine rb0 (u_isPerson' hS.2.1 (by omega) hp (rb1 (u_isGate' hS.1 (by omega) hg (rb1 (hcan _ ?_)))))
    rw [hq]
    exact rb0 ⟨rfl, hI⟩
  · have hbe := opf_beside hq
    have hb5 := byd_lt (c := C p) hO hg
    refine rb1 ⟨vp_in_nI (by omega) (by omega), ?_⟩
    rw [nI_clamp (by omega), c7 p (by omega)]
    refine t_note (f := 0) hd8 d3 d4 d5 d6 (fun dp' dg' df' dfi' n1 n2 n3 n4 => ?_)
    refine t_letThrough hO c3 c4 c6 c7 c9 hP hp hg hbe ⟨vp_in_nI (by omega) (by omega), ?_⟩
    refine u_isPerson' hS.2.1 (by omega) hp (rb1 (u_isGate' hS.1 (by omega) hg (rb1 (hcan _ ?_))))
    rw [hq]
    refine rb1 (u_note (f := 0) (c := C p) (N := N) hd8 (by omega) (by omega) (hM.gone g hg) (hM.at' p (by omega)) d7 (fun mun' hU => ⟨vp_in_nI (by omega) (by omega), ?_⟩))
    rw [nI_clamp (by omega), hM.at' p (by omega)]
    refine u_beyond hO hS.2.2.1 hS.2.2.2.1 (c9 p (by omega)) hg ⟨vp_in_nI (by omega) (by omega), ?_⟩
    rintro _ rfl
    refine ⟨vp_in_nI (by omega) (by omega), ?_⟩
    refine ⟨by rw [upd_eq, upd_eq, if_pos rfl, if_pos rfl], G, P, A, B, K, plus1 N g, fun j => if j = p then byd A B (C p) g else C j, ⟨hO, hG, hP0, hP⟩, hT, ?_, ?_, hS, ((hk.next).gone_upd (by omega)).at_upd (by omega), ?_, hs, hr⟩
    · refine ⟨rfl, rfl, c3, c4, c5, c6.upd g (N g + 1), c7.upd p (byd A B (C p) g), fun g' hg' => ?_, fun p' hp' => ?_⟩
      · show (if g' = g then N g + 1 else N g') ≤ _
        have := c8 g hg
        have := c8 g' hg'
        split <;> omega
      · show (if p' = p then byd A B (C p) g else C p') < 5
        have := c9 p' hp'
        split <;> omega
    · refine ⟨fun g' hg' => ?_, fun p' hp' => ?_, hM.2.2⟩
      · rw [show 5 * 0 + g' = g' by omega]
        exact (hM.gone.upd g (N g + 1)) g' hg'
      · rw [show 3 * 0 + p' = p' by omega]
        exact (hM.at'.upd p (byd A B (C p) g)) p' hp'
    · exact ⟨eD d + 1, _, _, _, _, eD_le hd8, rfl, rfl, n1, n2, n3, n4, hU, new_all hd8 d8 hp hg (c9 p (by omega)) (by omega), cntD_new hd8 d9⟩

theorem s_linger {t : Nat} {ic_keptMany : Int32} {ic_text_length : Int32} {ac_text_signs : Nat → Int32} {ic_now_gates : Int32} {ic_now_persons : Int32} {ic_now_fines : Int32} {ac_now_courtA : Nat → Int32} {ac_now_courtB : Nat → Int32} {ac_now_kind : Nat → Int32} {ac_now_gone : Nat → Int32} {ac_now_court : Nat → Int32} {ic_lowerKept_gates : Int32} {ic_lowerKept_persons : Int32} {ic_lowerKept_fines : Int32} {ac_lowerKept_courtA : Nat → Int32} {ac_lowerKept_courtB : Nat → Int32} {ac_lowerKept_kind : Nat → Int32} {ac_lowerKept_gone : Nat → Int32} {ac_lowerKept_court : Nat → Int32} {ic_upperKept_gates : Int32} {ic_upperKept_persons : Int32} {ic_upperKept_fines : Int32} {ac_upperKept_courtA : Nat → Int32} {ac_upperKept_courtB : Nat → Int32} {ac_upperKept_kind : Nat → Int32} {ac_upperKept_gone : Nat → Int32} {ac_upperKept_court : Nat → Int32} {ic_deeds_many : Int32} {ac_deeds_person : Nat → Int32} {ac_deeds_gate : Nat → Int32} {ac_deeds_from : Nat → Int32} {ac_deeds_fine : Nat → Int32} {ic_sights_many : Int32} {ac_sights_gate : Nat → Int32} {ac_sights_open : Nat → Int32} {ic_route_many : Int32} {ac_route_gate : Nat → Int32} {im_length : Int32} {im_keptMany : Int32} {im_undoMany : Int32} {im_seenMany : Int32} {im_pathMany : Int32} {am_text : Nat → Int32} {am_many : Nat → Int32} {am_ones : Nat → Int32} {am_others : Nat → Int32} {am_kinds : Nat → Int32} {am_persons : Nat → Int32} {am_gone : Nat → Int32} {am_at : Nat → Int32} {am_fines : Nat → Int32} {am_undos : Nat → Int32} {am_seenOf : Nat → Int32} {am_seenOpen : Nat → Int32} {am_path : Nat → Int32} {am_counts : Nat → Int32} {am_spots : Nat → Int32} (x1 : Int32) (x2 : Int32) (ht : t < 512) (h : LInv t ic_text_length ac_text_signs ic_now_gates ic_now_persons ic_now_fines ac_now_courtA ac_now_courtB ac_now_kind ac_now_gone ac_now_court ic_lowerKept_gates ic_lowerKept_persons ic_lowerKept_fines ac_lowerKept_courtA ac_lowerKept_courtB ac_lowerKept_kind ac_lowerKept_gone ac_lowerKept_court ic_upperKept_gates ic_upperKept_persons ic_upperKept_fines ac_upperKept_courtA ac_upperKept_courtB ac_upperKept_kind ac_upperKept_gone ac_upperKept_court ic_keptMany ic_deeds_many ac_deeds_person ac_deeds_gate ac_deeds_from ac_deeds_fine ic_sights_many ac_sights_gate ac_sights_open ic_route_many ac_route_gate im_length am_text am_many am_ones am_others am_kinds am_persons am_gone am_at am_fines im_keptMany im_undoMany am_undos im_seenMany am_seenOf am_seenOpen im_pathMany am_path) : PX7_linger x1 x2 ic_now_gates ic_now_persons ic_now_fines ac_now_courtA ac_now_courtB ac_now_kind ac_now_gone ac_now_court ic_deeds_many ac_deeds_person ac_deeds_gate ac_deeds_from ac_deeds_fine (fun r ic_now_fines' ac_now_gone' ic_deeds_many' ac_deeds_person' ac_deeds_gate' ac_deeds_from' ac_deeds_fine' => PX8_linger x1 x2 im_undoMany am_many am_ones am_others am_kinds am_persons am_gone am_at am_fines am_undos am_counts am_spots (fun r' im_undoMany' am_gone' am_fines' am_undos' am_counts' am_spots' => r = r' ∧ LInv (t + 1) ic_text_length ac_text_signs ic_now_gates ic_now_persons ic_now_fines' ac_now_courtA ac_now_courtB ac_now_kind ac_now_gone' ac_now_court ic_lowerKept_gates ic_lowerKept_persons ic_lowerKept_fines ac_lowerKept_courtA ac_lowerKept_courtB ac_lowerKept_kind ac_lowerKept_gone ac_lowerKept_court ic_upperKept_gates ic_upperKept_persons ic_upperKept_fines ac_upperKept_courtA ac_upperKept_courtB ac_upperKept_kind ac_upperKept_gone ac_upperKept_court ic_keptMany ic_deeds_many' ac_deeds_person' ac_deeds_gate' ac_deeds_from' ac_deeds_fine' ic_sights_many ac_sights_gate ac_sights_open ic_route_many ac_route_gate im_length am_text am_many am_ones am_others am_kinds am_persons am_gone' am_at am_fines' im_keptMany im_undoMany' am_undos' im_seenMany am_seenOf am_seenOpen im_pathMany am_path)) := by
  have hI := LInv_next h
  obtain ⟨G, P, A, B, K, N, C, ⟨hO, hG, hP0, hP⟩, hT, hC, hM, hS, hk, hD, hs, hr⟩ := h
  have hSm := hC.sm ht
  obtain ⟨c1, c2, c3, c4, c5, c6, c7, c8, c9⟩ := hC
  obtain ⟨d, DP, DG, DC, DF, hd8, d1, d2, d3, d4, d5, d6, d7, d8, d9⟩ := hD
  have hG5 := hO.1
  subst c1 c2 d1 d2
  refine t_hasPerson hP (fun p hp e => ?_) (fun hn => rb0 (u_isPersonN hS.2.1 (by omega) hP0 hn (rb0 ⟨rfl, hI⟩)))
  subst e
  refine rb1 (t_hasGate hO.1 (fun g hg e => ?_) (fun hn => rb0 (u_isPerson' hS.2.1 (by omega) hp (rb1 (u_isGateN hS.1 (by omega) hG hn (rb0 ⟨rfl, hI⟩))))))
  subst e
  refine rb1 (t_letsIn hO c3 c4 c5 c6 hSm c7 c9 hP hp hg ?_)
  have hcan : ∀ post, post (bI (opf A B K N (C p) g)) (cpy1 am_gone am_counts 5) (cpy1 am_at am_spots 3) → PX8_canNow (nI p) (nI g) am_ones am_others am_kinds am_gone am_at am_counts am_spots post := fun post hp' => u_canNow hO hS.2.2.1 hS.2.2.2.1 hS.2.2.2.2 hM.gone hSm hM.at' c9 (by omega) hg hp'
  cases hq : opf A B K N (C p) g
  · refine rb0 (u_isPerson' hS.2.1 (by omega) hp (rb1 (u_isGate' hS.1 (by omega) hg (rb1 (hcan _ ?_)))))
    rw [hq]
    exact rb0 ⟨rfl, hI⟩
  · refine rb1 ⟨vp_in_nI (by omega) (by omega), ?_⟩
    rw [nI_clamp (by omega), c7 p (by omega)]
    refine t_note (f := 1) hd8 d3 d4 d5 d6 (fun dp' dg' df' dfi' n1 n2 n3 n4 => ⟨vp_in_nI (by omega) (by omega), ?_⟩)
    rintro _ rfl
    refine ⟨vp_in_nI (by omega) (by omega), ?_⟩
    rintro _ rfl _ rfl
    rw [nI_clamp (by omega), c6 g hg, nI_1]
    refine u_isPerson' hS.2.1 (by omega) hp (rb1 (u_isGate' hS.1 (by omega) hg (rb1 (hcan _ ?_))))
    rw [hq]
    refine rb1 (u_note (f := 1) (c := C p) (N := N) hd8 (by omega) (by omega) (hM.gone g hg) (hM.at' p (by omega)) d7 (fun mun' hU => ⟨vp_in_nI (n := 0) (by omega) (by omega), ?_⟩))
    rintro _ rfl
    refine ⟨vp_in_nI (n := 0) (by omega) (by omega), ?_⟩
    rintro _ rfl
    refine ⟨vp_in_nI (n := 0) (by omega) (by omega), ?_⟩
    have hf := hM.2.2
    rw [z0, hf]
    refine ⟨by rw [upd_eq, if_pos rfl], G, P, A, B, K, plus1 N g, C, ⟨hO, hG, hP0, hP⟩, hT, ?_, ?_, hS, ((hk.next).gone_upd (by omega)).fi_upd, ?_, hs, hr⟩
    · refine ⟨rfl, rfl, c3, c4, c5, c6.upd g (N g + 1), c7, fun g' hg' => ?_, c9⟩
      show (if g' = g then N g + 1 else N g') ≤ _
      have := c8 g hg
      have := c8 g' hg'
      split <;> omega
    · refine ⟨fun g' hg' => ?_, hM.2.1, by rw [upd_eq, if_pos rfl]⟩
      rw [show 5 * 0 + g' = g' by omega]
      exact (hM.gone.upd g (N g + 1)) g' hg'
    · exact ⟨eD d + 1, _, _, _, _, eD_le hd8, rfl, rfl, n1, n2, n3, n4, hU, new_all hd8 d8 hp hg (c9 p (by omega)) (by omega), cntD_new hd8 d9⟩

theorem s_undo {t : Nat} {ic_keptMany : Int32} {ic_text_length : Int32} {ac_text_signs : Nat → Int32} {ic_now_gates : Int32} {ic_now_persons : Int32} {ic_now_fines : Int32} {ac_now_courtA : Nat → Int32} {ac_now_courtB : Nat → Int32} {ac_now_kind : Nat → Int32} {ac_now_gone : Nat → Int32} {ac_now_court : Nat → Int32} {ic_lowerKept_gates : Int32} {ic_lowerKept_persons : Int32} {ic_lowerKept_fines : Int32} {ac_lowerKept_courtA : Nat → Int32} {ac_lowerKept_courtB : Nat → Int32} {ac_lowerKept_kind : Nat → Int32} {ac_lowerKept_gone : Nat → Int32} {ac_lowerKept_court : Nat → Int32} {ic_upperKept_gates : Int32} {ic_upperKept_persons : Int32} {ic_upperKept_fines : Int32} {ac_upperKept_courtA : Nat → Int32} {ac_upperKept_courtB : Nat → Int32} {ac_upperKept_kind : Nat → Int32} {ac_upperKept_gone : Nat → Int32} {ac_upperKept_court : Nat → Int32} {ic_deeds_many : Int32} {ac_deeds_person : Nat → Int32} {ac_deeds_gate : Nat → Int32} {ac_deeds_from : Nat → Int32} {ac_deeds_fine : Nat → Int32} {ic_sights_many : Int32} {ac_sights_gate : Nat → Int32} {ac_sights_open : Nat → Int32} {ic_route_many : Int32} {ac_route_gate : Nat → Int32} {im_length : Int32} {im_keptMany : Int32} {im_undoMany : Int32} {im_seenMany : Int32} {im_pathMany : Int32} {am_text : Nat → Int32} {am_many : Nat → Int32} {am_ones : Nat → Int32} {am_others : Nat → Int32} {am_kinds : Nat → Int32} {am_persons : Nat → Int32} {am_gone : Nat → Int32} {am_at : Nat → Int32} {am_fines : Nat → Int32} {am_undos : Nat → Int32} {am_seenOf : Nat → Int32} {am_seenOpen : Nat → Int32} {am_path : Nat → Int32} (ht : t < 512) (h : LInv t ic_text_length ac_text_signs ic_now_gates ic_now_persons ic_now_fines ac_now_courtA ac_now_courtB ac_now_kind ac_now_gone ac_now_court ic_lowerKept_gates ic_lowerKept_persons ic_lowerKept_fines ac_lowerKept_courtA ac_lowerKept_courtB ac_lowerKept_kind ac_lowerKept_gone ac_lowerKept_court ic_upperKept_gates ic_upperKept_persons ic_upperKept_fines ac_upperKept_courtA ac_upperKept_courtB ac_upperKept_kind ac_upperKept_gone ac_upperKept_court ic_keptMany ic_deeds_many ac_deeds_person ac_deeds_gate ac_deeds_from ac_deeds_fine ic_sights_many ac_sights_gate ac_sights_open ic_route_many ac_route_gate im_length am_text am_many am_ones am_others am_kinds am_persons am_gone am_at am_fines im_keptMany im_undoMany am_undos im_seenMany am_seenOf am_seenOpen im_pathMany am_path) : PX7_undo ic_now_gates ic_now_persons ic_now_fines ac_now_gone ac_now_court ic_deeds_many ac_deeds_person ac_deeds_gate ac_deeds_from ac_deeds_fine (fun r ic_now_fines' ac_now_gone' ac_now_court' ic_deeds_many' => PX8_undo im_undoMany am_gone am_at am_fines am_undos (fun r' im_undoMany' am_gone' am_at' am_fines' => r = r' ∧ LInv (t + 1) ic_text_length ac_text_signs ic_now_gates ic_now_persons ic_now_fines' ac_now_courtA ac_now_courtB ac_now_kind ac_now_gone' ac_now_court' ic_lowerKept_gates ic_lowerKept_persons ic_lowerKept_fines ac_lowerKept_courtA ac_lowerKept_courtB ac_lowerKept_kind ac_lowerKept_gone ac_lowerKept_court ic_upperKept_gates ic_upperKept_persons ic_upperKept_fines ac_upperKept_courtA ac_upperKept_courtB ac_upperKept_kind ac_upperKept_gone ac_upperKept_court ic_keptMany ic_deeds_many' ac_deeds_person ac_deeds_gate ac_deeds_from ac_deeds_fine ic_sights_many ac_sights_gate ac_sights_open ic_route_many ac_route_gate im_length am_text am_many am_ones am_others am_kinds am_persons am_gone' am_at' am_fines' im_keptMany im_undoMany' am_undos im_seenMany am_seenOf am_seenOpen im_pathMany am_path)) := by
  have hI := LInv_next h
  obtain ⟨G, P, A, B, K, N, C, ⟨hO, hG, hP0, hP⟩, hT, hC, hM, hS, hk, hD, hs, hr⟩ := h
  obtain ⟨c1, c2, c3, c4, c5, c6, c7, c8, c9⟩ := hC
  obtain ⟨d, DP, DG, DC, DF, hd8, d1, d2, d3, d4, d5, d6, d7, d8, d9⟩ := hD
  have hG5 := hO.1
  subst c1 c2 d1 d2
  refine pk_eq d 0 (fun h0 => ?_) (fun h0 => ?_)
  · subst h0
    exact pk_eq 0 0 (fun _ => ⟨rfl, hI⟩) (fun h => absurd rfl h)
  · obtain ⟨e, rfl⟩ : ∃ e, d = e + 1 := ⟨d - 1, by omega⟩
    obtain ⟨hp, hg, hc, hf⟩ := d8 e (by omega)
    obtain ⟨u1, u2, u3, u4⟩ := d7 e (by omega)
    have h1N : 1 ≤ N (DG e) := by
      have h9 := d9 (DG e) hg
      rw [cntD, if_pos rfl] at h9
      omega
    refine pk_lt (e + 1) 1 (fun h => absurd h (by omega)) (fun _ => pk_le (e + 1) 8 (fun _ => ?_) (fun h => absurd h (by omega)))
    rintro _ rfl
    rw [nI_pred]
    refine ⟨vp_in_nI (by omega) (by omega), ?_⟩
    rintro _ rfl
    refine ⟨vp_in_nI (by omega) (by omega), ?_⟩
    rintro _ rfl
    rw [nI_clamp (by omega), d3 e (by omega), d4 e (by omega)]
    refine t_hasPerson' hP hp (rb1 (t_hasGate' hG5 hg (rb1 ⟨vp_in_nI (by omega) (by omega), ?_⟩)))
    rintro _ rfl
    refine ⟨vp_in_nI (by omega) (by omega), ?_⟩
    rintro _ rfl
    refine ⟨vp_in_nI (by omega) (by omega), ?_⟩
    rintro _ rfl
    refine ⟨vp_in_nI (by omega) (by omega), ?_⟩
    rintro _ rfl
    refine ⟨vp_in_nI (by omega) (by omega), ?_⟩
    rintro _ rfl
    rw [nI_clamp (by omega), nI_clamp (by omega), d5 e (by omega), d6 e (by omega), c6 _ hg, l1, pk_sub h1N]
    refine pk_eq (e + 1) 0 (fun h => absurd h (by omega)) (fun _ => ?_)
    rintro _ rfl
    have e4 : 4 * nI e = nI (4 * e) := by rw [l4, pk_mul]
    rw [nI_pred, e4, l1, l2, l3, nI_add, nI_add, nI_add, nI_clamp (by omega), nI_clamp (by omega), nI_clamp (by omega), nI_clamp (by omega), u1, u2, u3, u4, nI_clamp (by omega), nI_clamp (by omega), z0, hM.2.2, hM.gone _ hg, pk_sub h1N]
    refine ⟨vp_in_nI (by omega) (by omega), vp_in_nI (by omega) (by omega), ?_⟩
    rintro _ rfl
    refine ⟨vp_in_nI (by omega) (by omega), ?_⟩
    rintro _ rfl
    refine ⟨vp_in_nI (by omega) (by omega), vp_in_nI (by omega) (by omega), ?_⟩
    rintro _ rfl
    refine ⟨vp_in_nI (by omega) (by omega), ?_⟩
    rintro _ rfl
    refine ⟨vp_in_nI (n := 0) (by omega) (by omega), vp_in_nI (by omega) (by omega), ?_⟩
    rintro _ rfl
    refine ⟨vp_in_nI (n := 0) (by omega) (by omega), ?_⟩
    rintro _ rfl
    refine ⟨rfl, G, P, A, B, K, fun j => if j = DG e then N (DG e) - 1 else N j, fun j => if j = DP e then DC e else C j, ⟨hO, hG, hP0, hP⟩, hT, ?_, ?_, hS, (((hk.next).gone_upd (by omega)).at_upd (by omega)).fi_upd, ?_, hs, hr⟩
    · refine ⟨rfl, rfl, c3, c4, c5, c6.upd (DG e) (N (DG e) - 1), c7.upd (DP e) (DC e), fun g' hg' => ?_, fun p' hp' => ?_⟩
      · show (if g' = DG e then N (DG e) - 1 else N g') ≤ _
        have := c8 _ hg
        have := c8 g' hg'
        split <;> omega
      · show (if p' = DP e then DC e else C p') < 5
        have := c9 p' hp'
        split <;> omega
    · refine ⟨fun g' hg' => ?_, fun p' hp' => ?_, by rw [upd_eq, if_pos rfl]⟩
      · rw [show 5 * 0 + g' = g' by omega]
        exact (hM.gone.upd (DG e) (N (DG e) - 1)) g' hg'
      · rw [show 3 * 0 + p' = p' by omega]
        exact (hM.at'.upd (DP e) (DC e)) p' hp'
    · refine ⟨e, DP, DG, DC, DF, by omega, rfl, rfl, d3.sub (by omega), d4.sub (by omega), d5.sub (by omega), d6.sub (by omega), fun i hi => d7 i (by omega), fun i hi => d8 i (by omega), fun g' hg' => ?_⟩
      have h9 := d9 g' hg'
      rw [cntD] at h9
      show cntD DG e g' ≤ (if g' = DG e then N (DG e) - 1 else N g')
      by_cases q : g' = DG e
      · subst q; rw [if_pos rfl] at h9 ⊢; omega
      · rw [if_neg q]; omega
