theorem s_write {t : Nat} {ic_keptMany : Int32} {ic_text_length : Int32} {ac_text_signs : Nat → Int32} {ic_now_gates : Int32} {ic_now_persons : Int32} {ic_now_fines : Int32} {ac_now_courtA : Nat → Int32} {ac_now_courtB : Nat → Int32} {ac_now_kind : Nat → Int32} {ac_now_gone : Nat → Int32} {ac_now_court : Nat → Int32} {ic_lowerKept_gates : Int32} {ic_lowerKept_persons : Int32} {ic_lowerKept_fines : Int32} {ac_lowerKept_courtA : Nat → Int32} {ac_lowerKept_courtB : Nat → Int32} {ac_lowerKept_kind : Nat → Int32} {ac_lowerKept_gone : Nat → Int32} {ac_lowerKept_court : Nat → Int32} {ic_upperKept_gates : Int32} {ic_upperKept_persons : Int32} {ic_upperKept_fines : Int32} {ac_upperKept_courtA : Nat → Int32} {ac_upperKept_courtB : Nat → Int32} {ac_upperKept_kind : Nat → Int32} {ac_upperKept_gone : Nat → Int32} {ac_upperKept_court : Nat → Int32} {ic_deeds_many : Int32} {ac_deeds_person : Nat → Int32} {ac_deeds_gate : Nat → Int32} {ac_deeds_from : Nat → Int32} {ac_deeds_fine : Nat → Int32} {ic_sights_many : Int32} {ac_sights_gate : Nat → Int32} {ac_sights_open : Nat → Int32} {ic_route_many : Int32} {ac_route_gate : Nat → Int32} {im_length : Int32} {im_keptMany : Int32} {im_undoMany : Int32} {im_seenMany : Int32} {im_pathMany : Int32} {am_text : Nat → Int32} {am_many : Nat → Int32} {am_ones : Nat → Int32} {am_others : Nat → Int32} {am_kinds : Nat → Int32} {am_persons : Nat → Int32} {am_gone : Nat → Int32} {am_at : Nat → Int32} {am_fines : Nat → Int32} {am_undos : Nat → Int32} {am_seenOf : Nat → Int32} {am_seenOpen : Nat → Int32} {am_path : Nat → Int32} (x1 : Int32) (x2 : Int64) (ht : t < 512) (h : LInv t ic_text_length ac_text_signs ic_now_gates ic_now_persons ic_now_fines ac_now_courtA ac_now_courtB ac_now_kind ac_now_gone ac_now_court ic_lowerKept_gates ic_lowerKept_persons ic_lowerKept_fines ac_lowerKept_courtA ac_lowerKept_courtB ac_lowerKept_kind ac_lowerKept_gone ac_lowerKept_court ic_upperKept_gates ic_upperKept_persons ic_upperKept_fines ac_upperKept_courtA ac_upperKept_courtB ac_upperKept_kind ac_upperKept_gone ac_upperKept_court ic_keptMany ic_deeds_many ac_deeds_person ac_deeds_gate ac_deeds_from ac_deeds_fine ic_sights_many ac_sights_gate ac_sights_open ic_route_many ac_route_gate im_length am_text am_many am_ones am_others am_kinds am_persons am_gone am_at am_fines im_keptMany im_undoMany am_undos im_seenMany am_seenOf am_seenOpen im_pathMany am_path) : PX7_write x1 x2 ic_text_length ac_text_signs (fun r ic_text_length' ac_text_signs' => PX8_write x1 x2 im_length am_text (fun r' im_length' am_text' => r = r' ∧ LInv (t + 1) ic_text_length' ac_text_signs' ic_now_gates ic_now_persons ic_now_fines ac_now_courtA ac_now_courtB ac_now_kind ac_now_gone ac_now_court ic_lowerKept_gates ic_lowerKept_persons ic_lowerKept_fines ac_lowerKept_courtA ac_lowerKept_courtB ac_lowerKept_kind ac_lowerKept_gone ac_lowerKept_court ic_upperKept_gates ic_upperKept_persons ic_upperKept_fines ac_upperKept_courtA ac_upperKept_courtB ac_upperKept_kind ac_upperKept_gone ac_upperKept_court ic_keptMany ic_deeds_many ac_deeds_person ac_deeds_gate ac_deeds_from ac_deeds_fine ic_sights_many ac_sights_gate ac_sights_open ic_route_many ac_route_gate im_length' am_text' am_many am_ones am_others am_kinds am_persons am_gone am_at am_fines im_keptMany im_undoMany am_undos im_seenMany am_seenOf am_seenOpen im_pathMany am_path)) := by
  have hI := LInv_next h
  obtain ⟨G, P, A, B, K, N, C, h0, hT, hC, hM, hS, hk, hD, hs, hr⟩ := h
  obtain ⟨L, T, hL, e1, e2, hT6, hT1, hT2⟩ := hT
  have t1 : (1 : Int32).toInt = 1 := by decide
  have t8 : (8 : Int32).toInt = 8 := by decide
  subst e1 e2
  rcases range_or x1 1 8 (by omega) with ⟨m, m1, m8, rfl⟩ | hn
  · have um : ∀ post : Int32 → Prop, post 1 → PX8_in (nI m).toInt64 1 8 post := fun post hp => u_inY (a := 1) (b := 8) (by decide) (by decide) (by omega) (by omega) (by omega) hp
    refine pk_lt m 1 (fun h => absurd h (by omega)) (fun _ => pk_le m 8 (fun _ => ?_) (fun h => absurd h (by omega)))
    unfold PX5_hasRoom
    rw [l200, pk_sub (by omega)]
    refine pk_lt (200 - L) m (fun hf => rb0 (um _ (rb1 ?_))) (fun hf => rb1 ?_)
    · rw [nI_add]
      exact pk_le (L + m) 200 (fun h => absurd h (by omega)) (fun _ => ⟨rfl, hI⟩)
    · rintro _ rfl
      rw [dec_eq]
      refine ⟨m + 1, t_append5 m L (m + 1) T _ (by omega) (by omega) (by omega) hT1 (fun ts' hts => um _ (rb1 ?_))⟩
      rw [nI_add]
      refine pk_le (L + m) 200 (fun _ => ?_) (fun h => absurd h (by omega))
      rintro _ rfl
      rw [dec_eq]
      refine ⟨m + 1, u_write34 m L (m + 1) T _ (by omega) (by omega) (by omega) hT2 (fun mt' hmt => ⟨rfl, ?_⟩)⟩
      exact ⟨G, P, A, B, K, N, C, h0, ⟨L + m, wrT x2 m L T, by omega, rfl, rfl, wrT_ok m L T hT6, hts, hmt⟩, hC.next, hM, hS, hk.next, hD, hs, hr⟩
  · have un : ∀ post : Int32 → Prop, post 0 → PX8_in x1.toInt64 1 8 post := fun post hp => u_inN (a := 1) (b := 8) (by decide) (by decide) hn hp
    refine ⟨fun h => un _ (rb0 ⟨rfl, hI⟩), fun h1 => ⟨fun h2 => ?_, fun h2 => un _ (rb0 ⟨rfl, hI⟩)⟩⟩
    rw [lt_iff] at h1
    rw [le_iff] at h2
    omega
