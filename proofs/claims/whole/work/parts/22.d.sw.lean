theorem s_count {t : Nat} {ic_keptMany : Int32} {ic_text_length : Int32} {ac_text_signs : Nat → Int32} {ic_now_gates : Int32} {ic_now_persons : Int32} {ic_now_fines : Int32} {ac_now_courtA : Nat → Int32} {ac_now_courtB : Nat → Int32} {ac_now_kind : Nat → Int32} {ac_now_gone : Nat → Int32} {ac_now_court : Nat → Int32} {ic_lowerKept_gates : Int32} {ic_lowerKept_persons : Int32} {ic_lowerKept_fines : Int32} {ac_lowerKept_courtA : Nat → Int32} {ac_lowerKept_courtB : Nat → Int32} {ac_lowerKept_kind : Nat → Int32} {ac_lowerKept_gone : Nat → Int32} {ac_lowerKept_court : Nat → Int32} {ic_upperKept_gates : Int32} {ic_upperKept_persons : Int32} {ic_upperKept_fines : Int32} {ac_upperKept_courtA : Nat → Int32} {ac_upperKept_courtB : Nat → Int32} {ac_upperKept_kind : Nat → Int32} {ac_upperKept_gone : Nat → Int32} {ac_upperKept_court : Nat → Int32} {ic_deeds_many : Int32} {ac_deeds_person : Nat → Int32} {ac_deeds_gate : Nat → Int32} {ac_deeds_from : Nat → Int32} {ac_deeds_fine : Nat → Int32} {ic_sights_many : Int32} {ac_sights_gate : Nat → Int32} {ac_sights_open : Nat → Int32} {ic_route_many : Int32} {ac_route_gate : Nat → Int32} {im_length : Int32} {im_keptMany : Int32} {im_undoMany : Int32} {im_seenMany : Int32} {im_pathMany : Int32} {am_text : Nat → Int32} {am_many : Nat → Int32} {am_ones : Nat → Int32} {am_others : Nat → Int32} {am_kinds : Nat → Int32} {am_persons : Nat → Int32} {am_gone : Nat → Int32} {am_at : Nat → Int32} {am_fines : Nat → Int32} {am_undos : Nat → Int32} {am_seenOf : Nat → Int32} {am_seenOpen : Nat → Int32} {am_path : Nat → Int32} {am_counts : Nat → Int32} {am_spots : Nat → Int32} (x1 : Int32) (ht : t < 512) (h : LInv t ic_text_length ac_text_signs ic_now_gates ic_now_persons ic_now_fines ac_now_courtA ac_now_courtB ac_now_kind ac_now_gone ac_now_court ic_lowerKept_gates ic_lowerKept_persons ic_lowerKept_fines ac_lowerKept_courtA ac_lowerKept_courtB ac_lowerKept_kind ac_lowerKept_gone ac_lowerKept_court ic_upperKept_gates ic_upperKept_persons ic_upperKept_fines ac_upperKept_courtA ac_upperKept_courtB ac_upperKept_kind ac_upperKept_gone ac_upperKept_court ic_keptMany ic_deeds_many ac_deeds_person ac_deeds_gate ac_deeds_from ac_deeds_fine ic_sights_many ac_sights_gate ac_sights_open ic_route_many ac_route_gate im_length am_text am_many am_ones am_others am_kinds am_persons am_gone am_at am_fines im_keptMany im_undoMany am_undos im_seenMany am_seenOf am_seenOpen im_pathMany am_path) : PX7_count x1 ic_keptMany ic_text_length ic_now_gates ic_now_persons ic_now_fines ac_now_kind ac_now_gone ic_deeds_many ic_sights_many ic_route_many (fun r => PX8_count x1 im_length im_keptMany im_undoMany im_seenMany im_pathMany am_many am_kinds am_persons am_gone am_at am_fines am_counts am_spots (fun r' am_counts' am_spots' => r = r' ∧ LInv (t + 1) ic_text_length ac_text_signs ic_now_gates ic_now_persons ic_now_fines ac_now_courtA ac_now_courtB ac_now_kind ac_now_gone ac_now_court ic_lowerKept_gates ic_lowerKept_persons ic_lowerKept_fines ac_lowerKept_courtA ac_lowerKept_courtB ac_lowerKept_kind ac_lowerKept_gone ac_lowerKept_court ic_upperKept_gates ic_upperKept_persons ic_upperKept_fines ac_upperKept_courtA ac_upperKept_courtB ac_upperKept_kind ac_upperKept_gone ac_upperKept_court ic_keptMany ic_deeds_many ac_deeds_person ac_deeds_gate ac_deeds_from ac_deeds_fine ic_sights_many ac_sights_gate ac_sights_open ic_route_many ac_route_gate im_length am_text am_many am_ones am_others am_kinds am_persons am_gone am_at am_fines im_keptMany im_undoMany am_undos im_seenMany am_seenOf am_seenOpen im_pathMany am_path)) := by
  have hI := LInv_next h
  obtain ⟨G, P, A, B, K, N, C, ⟨hO, hG, hP0, hP⟩, hT, hC, hM, hS, hk, hD, hs, hr⟩ := h
  have hSm := hC.sm ht
  obtain ⟨c1, c2, c3, c4, c5, c6, c7, c8, c9⟩ := hC
  obtain ⟨L, T, hL, t1, t2, -⟩ := hT
  obtain ⟨k, hk2, k1, k2, -⟩ := hk
  obtain ⟨d, DP, DG, DC, DF, hd8, d1, d2, -⟩ := hD
  obtain ⟨s, SG, SO, hs1, s1, s2, -⟩ := hs
  obtain ⟨r, RG, hr1, r1, r2, -⟩ := hr
  have hG5 := hO.1
  have in03 : vp_in 0 3 := vp_in_nI (n := 0) (by omega) (by omega)
  by_cases hx : vp_in x1 9
  · obtain ⟨w, hw, rfl⟩ := vp_in_of hx (by omega)
    intro t1' e1'
    rw [e1']
    rcases (show w = 0 ∨ w = 1 ∨ w = 2 ∨ w = 3 ∨ w = 4 ∨ w = 5 ∨ w = 6 ∨ w = 7 ∨ w = 8 by omega) with rfl | rfl | rfl | rfl | rfl | rfl | rfl | rfl | rfl
    · refine pk_eq 0 0 (fun _ => ?_) (fun h => absurd rfl h)
      intro t1'' e1''
      rw [e1'']
      exact pk_eq 0 0 (fun _ => ⟨in02, by rw [z0, hS.1, c1], hI⟩) (fun h => absurd rfl h)
    · refine pk_eq 1 0 (fun h => absurd h (by omega)) (fun _ => pk_eq 1 1 (fun _ => ?_) (fun h => absurd rfl h))
      intro t1'' e1''
      rw [e1'']
      exact pk_eq 1 0 (fun h => absurd h (by omega)) (fun _ => pk_eq 1 1 (fun _ => ⟨in02, by rw [z0, hS.2.1, c2], hI⟩) (fun h => absurd rfl h))
    · refine pk_eq 2 0 (fun h => absurd h (by omega)) (fun _ => pk_eq 2 1 (fun h => absurd h (by omega)) (fun _ => pk_eq 2 2 (fun _ => ?_) (fun h => absurd rfl h)))
      intro t1'' e1''
      rw [e1'']
      exact pk_eq 2 0 (fun h => absurd h (by omega)) (fun _ => pk_eq 2 1 (fun h => absurd h (by omega)) (fun _ => pk_eq 2 2 (fun _ => ⟨in03, by rw [z0, hM.2.2], hI⟩) (fun h => absurd rfl h)))
    · refine pk_eq 3 0 (fun h => absurd h (by omega)) (fun _ => pk_eq 3 1 (fun h => absurd h (by omega)) (fun _ => pk_eq 3 2 (fun h => absurd h (by omega)) (fun _ => pk_eq 3 3 (fun _ => ?_) (fun h => absurd rfl h))))
      rw [c1]
      have hlt := osetN_lt K N G
      have hle : 2 ^ G ≤ 2 ^ 5 := Nat.pow_le_pow_right (by omega) hG5
      refine t_openFromA hO c5 c6 hSm (t_bitCount (by omega) ?_)
      intro t1'' e1''
      rw [e1'']
      refine pk_eq 3 0 (fun h => absurd h (by omega)) (fun _ => pk_eq 3 1 (fun h => absurd h (by omega)) (fun _ => pk_eq 3 2 (fun h => absurd h (by omega)) (fun _ => pk_eq 3 3 (fun _ => ?_) (fun h => absurd rfl h))))
      refine u_layNow (u_openSet hO hS.1 hS.2.2.2.2 (hM.gone.cpy hG5) hSm ⟨osetN K N G + 1, ?_⟩)
      refine u_openMany11 (osetN K N G + 1) _ 0 _ (by omega) (by omega) (by omega) (by omega) ?_
      rw [Nat.zero_add]
      rw [c1] at hI
      exact ⟨rfl, hI⟩
    · refine pk_eq 4 0 (fun h => absurd h (by omega)) (fun _ => pk_eq 4 1 (fun h => absurd h (by omega)) (fun _ => pk_eq 4 2 (fun h => absurd h (by omega)) (fun _ => pk_eq 4 3 (fun h => absurd h (by omega)) (fun _ => pk_eq 4 4 (fun _ => ?_) (fun h => absurd rfl h)))))
      intro t1'' e1''
      rw [e1'']
      exact pk_eq 4 0 (fun h => absurd h (by omega)) (fun _ => pk_eq 4 1 (fun h => absurd h (by omega)) (fun _ => pk_eq 4 2 (fun h => absurd h (by omega)) (fun _ => pk_eq 4 3 (fun h => absurd h (by omega)) (fun _ => pk_eq 4 4 (fun _ => ⟨by rw [s1, s2], hI⟩) (fun h => absurd rfl h)))))
    · refine pk_eq 5 0 (fun h => absurd h (by omega)) (fun _ => pk_eq 5 1 (fun h => absurd h (by omega)) (fun _ => pk_eq 5 2 (fun h => absurd h (by omega)) (fun _ => pk_eq 5 3 (fun h => absurd h (by omega)) (fun _ => pk_eq 5 4 (fun h => absurd h (by omega)) (fun _ => pk_eq 5 5 (fun _ => ?_) (fun h => absurd rfl h))))))
      intro t1'' e1''
      rw [e1'']
      exact pk_eq 5 0 (fun h => absurd h (by omega)) (fun _ => pk_eq 5 1 (fun h => absurd h (by omega)) (fun _ => pk_eq 5 2 (fun h => absurd h (by omega)) (fun _ => pk_eq 5 3 (fun h => absurd h (by omega)) (fun _ => pk_eq 5 4 (fun h => absurd h (by omega)) (fun _ => pk_eq 5 5 (fun _ => ⟨by rw [r1, r2], hI⟩) (fun h => absurd rfl h))))))
    · refine pk_eq 6 0 (fun h => absurd h (by omega)) (fun _ => pk_eq 6 1 (fun h => absurd h (by omega)) (fun _ => pk_eq 6 2 (fun h => absurd h (by omega)) (fun _ => pk_eq 6 3 (fun h => absurd h (by omega)) (fun _ => pk_eq 6 4 (fun h => absurd h (by omega)) (fun _ => pk_eq 6 5 (fun h => absurd h (by omega)) (fun _ => pk_eq 6 6 (fun _ => ?_) (fun h => absurd rfl h)))))))
      intro t1'' e1''
      rw [e1'']
      exact pk_eq 6 0 (fun h => absurd h (by omega)) (fun _ => pk_eq 6 1 (fun h => absurd h (by omega)) (fun _ => pk_eq 6 2 (fun h => absurd h (by omega)) (fun _ => pk_eq 6 3 (fun h => absurd h (by omega)) (fun _ => pk_eq 6 4 (fun h => absurd h (by omega)) (fun _ => pk_eq 6 5 (fun h => absurd h (by omega)) (fun _ => pk_eq 6 6 (fun _ => ⟨by rw [d1, d2], hI⟩) (fun h => absurd rfl h)))))))
    · refine pk_eq 7 0 (fun h => absurd h (by omega)) (fun _ => pk_eq 7 1 (fun h => absurd h (by omega)) (fun _ => pk_eq 7 2 (fun h => absurd h (by omega)) (fun _ => pk_eq 7 3 (fun h => absurd h (by omega)) (fun _ => pk_eq 7 4 (fun h => absurd h (by omega)) (fun _ => pk_eq 7 5 (fun h => absurd h (by omega)) (fun _ => pk_eq 7 6 (fun h => absurd h (by omega)) (fun _ => pk_eq 7 7 (fun _ => ?_) (fun h => absurd rfl h))))))))
      intro t1'' e1''
      rw [e1'']
      exact pk_eq 7 0 (fun h => absurd h (by omega)) (fun _ => pk_eq 7 1 (fun h => absurd h (by omega)) (fun _ => pk_eq 7 2 (fun h => absurd h (by omega)) (fun _ => pk_eq 7 3 (fun h => absurd h (by omega)) (fun _ => pk_eq 7 4 (fun h => absurd h (by omega)) (fun _ => pk_eq 7 5 (fun h => absurd h (by omega)) (fun _ => pk_eq 7 6 (fun h => absurd h (by omega)) (fun _ => pk_eq 7 7 (fun _ => ⟨by rw [k1, k2], hI⟩) (fun h => absurd rfl h))))))))
    · refine pk_eq 8 0 (fun h => absurd h (by omega)) (fun _ => pk_eq 8 1 (fun h => absurd h (by omega)) (fun _ => pk_eq 8 2 (fun h => absurd h (by omega)) (fun _ => pk_eq 8 3 (fun h => absurd h (by omega)) (fun _ => pk_eq 8 4 (fun h => absurd h (by omega)) (fun _ => pk_eq 8 5 (fun h => absurd h (by omega)) (fun _ => pk_eq 8 6 (fun h => absurd h (by omega)) (fun _ => pk_eq 8 7 (fun h => absurd h (by omega)) (fun _ => pk_eq 8 8 (fun _ => ?_) (fun h => absurd rfl h)))))))))
      intro t1'' e1''
      rw [e1'']
      exact pk_eq 8 0 (fun h => absurd h (by omega)) (fun _ => pk_eq 8 1 (fun h => absurd h (by omega)) (fun _ => pk_eq 8 2 (fun h => absurd h (by omega)) (fun _ => pk_eq 8 3 (fun h => absurd h (by omega)) (fun _ => pk_eq 8 4 (fun h => absurd h (by omega)) (fun _ => pk_eq 8 5 (fun h => absurd h (by omega)) (fun _ => pk_eq 8 6 (fun h => absurd h (by omega)) (fun _ => pk_eq 8 7 (fun h => absurd h (by omega)) (fun _ => pk_eq 8 8 (fun _ => ⟨by rw [t1, t2], hI⟩) (fun h => absurd rfl h)))))))))
  · have nk : ∀ k, k < 9 → ¬ x1 = nI k := fun k hk e => hx (by rw [e]; exact vp_in_nI hk (by omega))
    intro t1' e1'
    rw [e1']
    refine (and_f (nk 0 (by omega))).mpr ((and_f (nk 1 (by omega))).mpr ((and_f (nk 2 (by omega))).mpr ((and_f (nk 3 (by omega))).mpr ((and_f (nk 4 (by omega))).mpr ((and_f (nk 5 (by omega))).mpr ((and_f (nk 6 (by omega))).mpr ((and_f (nk 7 (by omega))).mpr ((and_f (nk 8 (by omega))).mpr (?_)))))))))
    intro t1'' e1''
    rw [e1'']
    exact (and_f (nk 0 (by omega))).mpr ((and_f (nk 1 (by omega))).mpr ((and_f (nk 2 (by omega))).mpr ((and_f (nk 3 (by omega))).mpr ((and_f (nk 4 (by omega))).mpr ((and_f (nk 5 (by omega))).mpr ((and_f (nk 6 (by omega))).mpr ((and_f (nk 7 (by omega))).mpr ((and_f (nk 8 (by omega))).mpr (⟨rfl, hI⟩)))))))))

theorem s_gate {t : Nat} {ic_keptMany : Int32} {ic_text_length : Int32} {ac_text_signs : Nat → Int32} {ic_now_gates : Int32} {ic_now_persons : Int32} {ic_now_fines : Int32} {ac_now_courtA : Nat → Int32} {ac_now_courtB : Nat → Int32} {ac_now_kind : Nat → Int32} {ac_now_gone : Nat → Int32} {ac_now_court : Nat → Int32} {ic_lowerKept_gates : Int32} {ic_lowerKept_persons : Int32} {ic_lowerKept_fines : Int32} {ac_lowerKept_courtA : Nat → Int32} {ac_lowerKept_courtB : Nat → Int32} {ac_lowerKept_kind : Nat → Int32} {ac_lowerKept_gone : Nat → Int32} {ac_lowerKept_court : Nat → Int32} {ic_upperKept_gates : Int32} {ic_upperKept_persons : Int32} {ic_upperKept_fines : Int32} {ac_upperKept_courtA : Nat → Int32} {ac_upperKept_courtB : Nat → Int32} {ac_upperKept_kind : Nat → Int32} {ac_upperKept_gone : Nat → Int32} {ac_upperKept_court : Nat → Int32} {ic_deeds_many : Int32} {ac_deeds_person : Nat → Int32} {ac_deeds_gate : Nat → Int32} {ac_deeds_from : Nat → Int32} {ac_deeds_fine : Nat → Int32} {ic_sights_many : Int32} {ac_sights_gate : Nat → Int32} {ac_sights_open : Nat → Int32} {ic_route_many : Int32} {ac_route_gate : Nat → Int32} {im_length : Int32} {im_keptMany : Int32} {im_undoMany : Int32} {im_seenMany : Int32} {im_pathMany : Int32} {am_text : Nat → Int32} {am_many : Nat → Int32} {am_ones : Nat → Int32} {am_others : Nat → Int32} {am_kinds : Nat → Int32} {am_persons : Nat → Int32} {am_gone : Nat → Int32} {am_at : Nat → Int32} {am_fines : Nat → Int32} {am_undos : Nat → Int32} {am_seenOf : Nat → Int32} {am_seenOpen : Nat → Int32} {am_path : Nat → Int32} {am_counts : Nat → Int32} {am_spots : Nat → Int32} (x1 : Int32) (x2 : Int32) (ht : t < 512) (h : LInv t ic_text_length ac_text_signs ic_now_gates ic_now_persons ic_now_fines ac_now_courtA ac_now_courtB ac_now_kind ac_now_gone ac_now_court ic_lowerKept_gates ic_lowerKept_persons ic_lowerKept_fines ac_lowerKept_courtA ac_lowerKept_courtB ac_lowerKept_kind ac_lowerKept_gone ac_lowerKept_court ic_upperKept_gates ic_upperKept_persons ic_upperKept_fines ac_upperKept_courtA ac_upperKept_courtB ac_upperKept_kind ac_upperKept_gone ac_upperKept_court ic_keptMany ic_deeds_many ac_deeds_person ac_deeds_gate ac_deeds_from ac_deeds_fine ic_sights_many ac_sights_gate ac_sights_open ic_route_many ac_route_gate im_length am_text am_many am_ones am_others am_kinds am_persons am_gone am_at am_fines im_keptMany im_undoMany am_undos im_seenMany am_seenOf am_seenOpen im_pathMany am_path) : PX7_gate x1 x2 ic_now_gates ac_now_courtA ac_now_courtB ac_now_kind ac_now_gone (fun r => PX8_gate x1 x2 am_many am_ones am_others am_kinds am_gone am_at am_counts am_spots (fun r' am_counts' am_spots' => r = r' ∧ LInv (t + 1) ic_text_length ac_text_signs ic_now_gates ic_now_persons ic_now_fines ac_now_courtA ac_now_courtB ac_now_kind ac_now_gone ac_now_court ic_lowerKept_gates ic_lowerKept_persons ic_lowerKept_fines ac_lowerKept_courtA ac_lowerKept_courtB ac_lowerKept_kind ac_lowerKept_gone ac_lowerKept_court ic_upperKept_gates ic_upperKept_persons ic_upperKept_fines ac_upperKept_courtA ac_upperKept_courtB ac_upperKept_kind ac_upperKept_gone ac_upperKept_court ic_keptMany ic_deeds_many ac_deeds_person ac_deeds_gate ac_deeds_from ac_deeds_fine ic_sights_many ac_sights_gate ac_sights_open ic_route_many ac_route_gate im_length am_text am_many am_ones am_others am_kinds am_persons am_gone am_at am_fines im_keptMany im_undoMany am_undos im_seenMany am_seenOf am_seenOpen im_pathMany am_path)) := by
  have hI := LInv_next h
  obtain ⟨G, P, A, B, K, N, C, ⟨hO, hG, hP0, hP⟩, hT, hC, hM, hS, hk, hD, hs, hr⟩ := h
  have hSm := hC.sm ht
  obtain ⟨c1, c2, c3, c4, c5, c6, c7, c8, c9⟩ := hC
  have hG5 := hO.1
  subst c1
  refine t_hasGate hO.1 (fun g hg e => ?_) (fun hn => rb0 (u_isGateN hS.1 (by omega) hG hn (rb0 ⟨rfl, hI⟩)))
  subst e
  refine rb1 ?_
  intro t1' e1'
  rw [e1']
  by_cases hx : vp_in x2 6
  · obtain ⟨w, hw, rfl⟩ := vp_in_of hx (by omega)
    have hin : ∀ post : Int32 → Prop, post 1 → PX8_in (nI w).toInt64 0 5 post := fun post hp => t_in (a := 0) (b := 5) (by decide) (by decide) (fun _ _ => hp) (fun q => by rw [w32, nI_toInt (by omega)] at q; omega)
    rcases (show w = 0 ∨ w = 1 ∨ w = 2 ∨ w = 3 ∨ w = 4 ∨ w = 5 by omega) with rfl | rfl | rfl | rfl | rfl | rfl
    · refine pk_eq 0 0 (fun _ => ⟨vp_in_nI (by omega) (by omega), u_isGate' hS.1 (by omega) hg (rb1 (hin _ (rb1 (u_layNow ?_))))⟩) (fun h => absurd rfl h)
      intro t1'' e1''
      rw [e1'']
      exact pk_eq 0 0 (fun _ => ⟨vp_in_nI (by omega) (by omega), by rw [nI_clamp (by omega), c3 g hg, hS.2.2.1 g hg], hI⟩) (fun h => absurd rfl h)
    · refine pk_eq 1 0 (fun h => absurd h (by omega)) (fun _ => pk_eq 1 1 (fun _ => ⟨vp_in_nI (by omega) (by omega), u_isGate' hS.1 (by omega) hg (rb1 (hin _ (rb1 (u_layNow ?_))))⟩) (fun h => absurd rfl h))
      intro t1'' e1''
      rw [e1'']
      exact pk_eq 1 0 (fun h => absurd h (by omega)) (fun _ => pk_eq 1 1 (fun _ => ⟨vp_in_nI (by omega) (by omega), by rw [nI_clamp (by omega), c4 g hg, hS.2.2.2.1 g hg], hI⟩) (fun h => absurd rfl h))
    · refine pk_eq 2 0 (fun h => absurd h (by omega)) (fun _ => pk_eq 2 1 (fun h => absurd h (by omega)) (fun _ => pk_eq 2 2 (fun _ => ⟨vp_in_nI (by omega) (by omega), u_isGate' hS.1 (by omega) hg (rb1 (hin _ (rb1 (u_layNow ?_))))⟩) (fun h => absurd rfl h)))
      intro t1'' e1''
      rw [e1'']
      exact pk_eq 2 0 (fun h => absurd h (by omega)) (fun _ => pk_eq 2 1 (fun h => absurd h (by omega)) (fun _ => pk_eq 2 2 (fun _ => ⟨vp_in_nI (by omega) (by omega), by rw [nI_clamp (by omega), c5 g hg, hS.2.2.2.2 g hg], hI⟩) (fun h => absurd rfl h)))
    · refine pk_eq 3 0 (fun h => absurd h (by omega)) (fun _ => pk_eq 3 1 (fun h => absurd h (by omega)) (fun _ => pk_eq 3 2 (fun h => absurd h (by omega)) (fun _ => pk_eq 3 3 (fun _ => ⟨vp_in_nI (by omega) (by omega), u_isGate' hS.1 (by omega) hg (rb1 (hin _ (rb1 (u_layNow ?_))))⟩) (fun h => absurd rfl h))))
      intro t1'' e1''
      rw [e1'']
      exact pk_eq 3 0 (fun h => absurd h (by omega)) (fun _ => pk_eq 3 1 (fun h => absurd h (by omega)) (fun _ => pk_eq 3 2 (fun h => absurd h (by omega)) (fun _ => pk_eq 3 3 (fun _ => ⟨vp_in_nI (by omega) (by omega), by rw [nI_clamp (by omega), c6 g hg, hM.gone g hg], hI⟩) (fun h => absurd rfl h))))
    · refine pk_eq 4 0 (fun h => absurd h (by omega)) (fun _ => pk_eq 4 1 (fun h => absurd h (by omega)) (fun _ => pk_eq 4 2 (fun h => absurd h (by omega)) (fun _ => pk_eq 4 3 (fun h => absurd h (by omega)) (fun _ => pk_eq 4 4 (fun _ => t_isOpen (side := 0) hO c5 c6 hSm hg (Or.inl rfl) ?_) (fun h => absurd rfl h)))))
      cases hq : opn K N g 0
      · refine rb0 (u_isGate' hS.1 (by omega) hg (rb1 (hin _ (rb1 (u_layNow ?_)))))
        intro t1'' e1''
        rw [e1'', l4, pk_sub (by omega)]
        refine pk_eq 4 0 (fun h => absurd h (by omega)) (fun _ => pk_eq 4 1 (fun h => absurd h (by omega)) (fun _ => pk_eq 4 2 (fun h => absurd h (by omega)) (fun _ => pk_eq 4 3 (fun h => absurd h (by omega)) (fun _ => ?_))))
        refine u_isOpen (side := 0) hO hS.2.2.2.2 (hM.gone.cpy hG5) hSm hg (Or.inl rfl) ?_
        rw [hq]
        exact rb0 ⟨rfl, hI⟩
      · refine rb1 (u_isGate' hS.1 (by omega) hg (rb1 (hin _ (rb1 (u_layNow ?_)))))
        intro t1'' e1''
        rw [e1'', l4, pk_sub (by omega)]
        refine pk_eq 4 0 (fun h => absurd h (by omega)) (fun _ => pk_eq 4 1 (fun h => absurd h (by omega)) (fun _ => pk_eq 4 2 (fun h => absurd h (by omega)) (fun _ => pk_eq 4 3 (fun h => absurd h (by omega)) (fun _ => ?_))))
        refine u_isOpen (side := 0) hO hS.2.2.2.2 (hM.gone.cpy hG5) hSm hg (Or.inl rfl) ?_
        rw [hq]
        exact rb1 ⟨rfl, hI⟩
    · refine pk_eq 5 0 (fun h => absurd h (by omega)) (fun _ => pk_eq 5 1 (fun h => absurd h (by omega)) (fun _ => pk_eq 5 2 (fun h => absurd h (by omega)) (fun _ => pk_eq 5 3 (fun h => absurd h (by omega)) (fun _ => pk_eq 5 4 (fun h => absurd h (by omega)) (fun _ => pk_eq 5 5 (fun _ => t_isOpen (side := 1) hO c5 c6 hSm hg (Or.inr rfl) ?_) (fun h => absurd rfl h))))))
      cases hq : opn K N g 1
      · refine rb0 (u_isGate' hS.1 (by omega) hg (rb1 (hin _ (rb1 (u_layNow ?_)))))
        intro t1'' e1''
        rw [e1'', l4, pk_sub (by omega)]
        refine pk_eq 5 0 (fun h => absurd h (by omega)) (fun _ => pk_eq 5 1 (fun h => absurd h (by omega)) (fun _ => pk_eq 5 2 (fun h => absurd h (by omega)) (fun _ => pk_eq 5 3 (fun h => absurd h (by omega)) (fun _ => ?_))))
        refine u_isOpen (side := 1) hO hS.2.2.2.2 (hM.gone.cpy hG5) hSm hg (Or.inr rfl) ?_
        rw [hq]
        exact rb0 ⟨rfl, hI⟩
      · refine rb1 (u_isGate' hS.1 (by omega) hg (rb1 (hin _ (rb1 (u_layNow ?_)))))
        intro t1'' e1''
        rw [e1'', l4, pk_sub (by omega)]
        refine pk_eq 5 0 (fun h => absurd h (by omega)) (fun _ => pk_eq 5 1 (fun h => absurd h (by omega)) (fun _ => pk_eq 5 2 (fun h => absurd h (by omega)) (fun _ => pk_eq 5 3 (fun h => absurd h (by omega)) (fun _ => ?_))))
        refine u_isOpen (side := 1) hO hS.2.2.2.2 (hM.gone.cpy hG5) hSm hg (Or.inr rfl) ?_
        rw [hq]
        exact rb1 ⟨rfl, hI⟩
  · have nk : ∀ k, k < 6 → ¬ x2 = nI k := fun k hk e => hx (by rw [e]; exact vp_in_nI hk (by omega))
    refine (and_f (nk 0 (by omega))).mpr ((and_f (nk 1 (by omega))).mpr ((and_f (nk 2 (by omega))).mpr ((and_f (nk 3 (by omega))).mpr ((and_f (nk 4 (by omega))).mpr ((and_f (nk 5 (by omega))).mpr (u_isGate' hS.1 (by omega) hg (rb1 (t_in (a := 0) (b := 5) (by decide) (by decide) (fun q1 q2 => ?_) (fun _ => rb0 ⟨rfl, hI⟩)))))))))
    rw [w32] at q1 q2
    exact absurd (vp_in_iff.mpr ⟨q1, by omega⟩) hx
