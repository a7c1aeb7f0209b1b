abbrev wX8_begin (cyI cyJ cyZ : ClassId) (h h_text h_many h_ones h_others h_kinds h_firsts h_persons h_gone h_at h_fines h_undos h_seenOf h_seenOpen h_path h_told h_counts h_spots h_far h_row h_begins h_ways h_next : Nat) (i_length : Int32) (i_keptMany : Int32) (i_undoMany : Int32) (i_seenMany : Int32) (i_pathMany : Int32) (i_place : Int32) (i_found : Int32) (i_walkers : Int32) (a_firsts : Nat → Int32) (a_gone : Nat → Int32) (a_at : Nat → Int32) (a_fines : Nat → Int32) : va_W := [(h, .inr (8, [.int i_length, .ref h_text, .ref h_many, .ref h_ones, .ref h_others, .ref h_kinds, .ref h_firsts, .ref h_persons, .ref h_gone, .ref h_at, .ref h_fines, .int i_keptMany, .int i_undoMany, .ref h_undos, .int i_seenMany, .ref h_seenOf, .ref h_seenOpen, .int i_pathMany, .ref h_path, .int i_place, .ref h_told, .ref h_counts, .ref h_spots, .ref h_far, .ref h_row, .ref h_begins, .int i_found, .int i_walkers, .ref h_ways, .ref h_next])), (h_firsts, .inl (cyI, 10, .inl a_firsts)), (h_gone, .inl (cyI, 15, .inl a_gone)), (h_at, .inl (cyI, 9, .inl a_at)), (h_fines, .inl (cyI, 3, .inl a_fines))]
abbrev qX8_begin (dC : Nat → ClassId) (dI : Nat → Nat → Nat) (cyI cyJ cyZ : ClassId) (h h_text h_many h_ones h_others h_kinds h_firsts h_persons h_gone h_at h_fines h_undos h_seenOf h_seenOpen h_path h_told h_counts h_spots h_far h_row h_begins h_ways h_next : Nat) (i_length : Int32) (i_keptMany : Int32) (i_undoMany : Int32) (i_seenMany : Int32) (i_pathMany : Int32) (i_place : Int32) (i_found : Int32) (i_walkers : Int32) (a_firsts : Nat → Int32) (a_gone : Nat → Int32) (a_at : Nat → Int32) (a_fines : Nat → Int32) (post : Int32 → Int32 → Int32 → Int32 → (Nat → Int32) → (Nat → Int32) → (Nat → Int32) → Prop) (A : Nat → Prop) : Array Value → State → Outcome → State → Prop := (va_Qv (fun (u : Int32 × Int32 × Int32 × Int32 × (Nat → Int32) × (Nat → Int32) × (Nat → Int32)) => post u.1 u.2.1 u.2.2.1 u.2.2.2.1 u.2.2.2.2.1 u.2.2.2.2.2.1 u.2.2.2.2.2.2) (bW (dC, dI) (tyG cyI cyJ cyZ) A (fun u : Int32 × Int32 × Int32 × Int32 × (Nat → Int32) × (Nat → Int32) × (Nat → Int32) => (wX8_begin cyI cyJ cyZ h h_text h_many h_ones h_others h_kinds h_firsts h_persons h_gone h_at h_fines h_undos h_seenOf h_seenOpen h_path h_told h_counts h_spots h_far h_row h_begins h_ways h_next i_length (u.1) (u.2.1) (u.2.2.1) (u.2.2.2.1) i_place i_found i_walkers a_firsts (u.2.2.2.2.1) (u.2.2.2.2.2.1) (u.2.2.2.2.2.2)))) A)
set_option maxHeartbeats 4000000 in
set_option maxRecDepth 100000 in
theorem mX8_begin (l : Launch) (dC : Nat → ClassId) (dI : Nat → Nat → Nat) (cyI cyJ cyZ : ClassId) (h h_text h_many h_ones h_others h_kinds h_firsts h_persons h_gone h_at h_fines h_undos h_seenOf h_seenOpen h_path h_told h_counts h_spots h_far h_row h_begins h_ways h_next : Nat) (sz : Nat) (i_length : Int32) (i_keptMany : Int32) (i_undoMany : Int32) (i_seenMany : Int32) (i_pathMany : Int32) (i_place : Int32) (i_found : Int32) (i_walkers : Int32) (a_firsts : Nat → Int32) (a_gone : Nat → Int32) (a_at : Nat → Int32) (a_fines : Nat → Int32) (post : Int32 → Int32 → Int32 → Int32 → (Nat → Int32) → (Nat → Int32) → (Nat → Int32) → Prop) (hwp : PX8_begin i_keptMany i_undoMany i_seenMany i_pathMany a_firsts a_gone a_at a_fines post) : Met l yX8_begin wsX8_begin ({ frames := 0, cells := 0, slots := 0, locals := 0 } : Room) (va_Pc [.ref h] (pcW (dC, dI) sz (wX8_begin cyI cyJ cyZ h h_text h_many h_ones h_others h_kinds h_firsts h_persons h_gone h_at h_fines h_undos h_seenOf h_seenOpen h_path h_told h_counts h_spots h_far h_row h_begins h_ways h_next i_length i_keptMany i_undoMany i_seenMany i_pathMany i_place i_found i_walkers a_firsts a_gone a_at a_fines) (tyG cyI cyJ cyZ))) (qX8_begin dC dI cyI cyJ cyZ h h_text h_many h_ones h_others h_kinds h_firsts h_persons h_gone h_at h_fines h_undos h_seenOf h_seenOpen h_path h_told h_counts h_spots h_far h_row h_begins h_ways h_next i_length i_keptMany i_undoMany i_seenMany i_pathMany i_place i_found i_walkers a_firsts a_gone a_at a_fines post (va_A (wX8_begin cyI cyJ cyZ h h_text h_many h_ones h_others h_kinds h_firsts h_persons h_gone h_at h_fines h_undos h_seenOf h_seenOpen h_path h_told h_counts h_spots h_far h_row h_begins h_ways h_next i_length i_keptMany i_undoMany i_seenMany i_pathMany i_place i_found i_walkers a_firsts a_gone a_at a_fines) sz)) 0 0 (va_A (wX8_begin cyI cyJ cyZ h h_text h_many h_ones h_others h_kinds h_firsts h_persons h_gone h_at h_fines h_undos h_seenOf h_seenOpen h_path h_told h_counts h_spots h_far h_row h_begins h_ways h_next i_length i_keptMany i_undoMany i_seenMany i_pathMany i_place i_found i_walkers a_firsts a_gone a_at a_fines) sz) := by
  refine Met.ofW (cc := cX8_begin) (maxL := 2) (ret := none) (by decide) rfl ?_
  intro p e s m args below meth c s₁ B hml hv
  obtain ⟨rfl, hsz, hP, hK, hD0, hN⟩ := hv
  have hx := B.exec
  have hb := B.bytes
  have hr := B.returns
  have hts := atoms_spec (ws := wsX8_begin) B.pre
  have hown : s.vm.findClass RX8 = some m.cls := findClass_of_methodNamed B.named
  have hlocks := B.notSynchronized
  subst hsz
  have hD := hD0.self (sz := s.heap.size)
  generalize hAe : va_A (wX8_begin cyI cyJ cyZ h h_text h_many h_ones h_others h_kinds h_firsts h_persons h_gone h_at h_fines h_undos h_seenOf h_seenOpen h_path h_told h_counts h_spots h_far h_row h_begins h_ways h_next i_length i_keptMany i_undoMany i_seenMany i_pathMany i_place i_found i_walkers a_firsts a_gone a_at a_fines) s.heap.size = A at hD ⊢
  have hA : ∀ q : Nat, s.heap.size ≤ q → A q := fun q h => by rw [← hAe]; exact Or.inr h
  have hW : Wd (dC, dI) A s.heap (wX8_begin cyI cyJ cyZ h h_text h_many h_ones h_others h_kinds h_firsts h_persons h_gone h_at h_fines h_undos h_seenOf h_seenOpen h_path h_told h_counts h_spots h_far h_row h_begins h_ways h_next i_length i_keptMany i_undoMany i_seenMany i_pathMany i_place i_found i_walkers a_firsts a_gone a_at a_fines) s.heap [] := ⟨hP, hD, va_S.rf⟩
  have hw := hwp
  have hiX8 : ∀ w ∈ u_ws RX8 TX8 30, w ∈ wsX8_begin := fun _ h => List.mem_cons_of_mem _ (List.mem_append_right _ h)
  have k_0 := hts (.fieldLink RX8 37 "OddLetsInModel" "fines" "[I") (List.mem_of_getElem? (i := 4) rfl)
  have k_1 := hts (.fieldLink RX8 119 "OddLetsInModel" "keptMany" "I") (List.mem_of_getElem? (i := 5) rfl)
  have k_2 := hts (.fieldLink RX8 122 "OddLetsInModel" "undoMany" "I") (List.mem_of_getElem? (i := 6) rfl)
  have k_3 := hts (.fieldLink RX8 125 "OddLetsInModel" "seenMany" "I") (List.mem_of_getElem? (i := 7) rfl)
  have k_4 := hts (.fieldLink RX8 128 "OddLetsInModel" "pathMany" "I") (List.mem_of_getElem? (i := 8) rfl)
  have k_5 := hts (.fieldLink RX8 34 "OddLetsInModel" "at" "[I") (List.mem_of_getElem? (i := 3) rfl)
  have k_6 := hts (.fieldLink RX8 31 "OddLetsInModel" "gone" "[I") (List.mem_of_getElem? (i := 1) rfl)
  have k_7 := hts (.fieldLink RX8 25 "OddLetsInModel" "firsts" "[I") (List.mem_of_getElem? (i := 2) rfl)
  have W_27 : ∀ (i_keptMany : Int32) (i_undoMany : Int32) (i_seenMany : Int32) (i_pathMany : Int32) (a_gone : Nat → Int32) (a_fines : Nat → Int32) (n_27 : Nat) (x1 : Int32) (a_at : Nat → Int32) (H : Heap) (locs : List Loc) (ls : Array Slot), Wd (dC, dI) A s.heap (wX8_begin cyI cyJ cyZ h h_text h_many h_ones h_others h_kinds h_firsts h_persons h_gone h_at h_fines h_undos h_seenOf h_seenOpen h_path h_told h_counts h_spots h_far h_row h_begins h_ways h_next i_length i_keptMany i_undoMany i_seenMany i_pathMany i_place i_found i_walkers a_firsts a_gone a_at a_fines) H locs → lv_has ls 2 [(0, .ref h), (1, .int x1)] → PX8_begin_27 post i_keptMany i_undoMany i_seenMany i_pathMany a_gone a_fines n_27 x1 a_at → W p l e (({ frames := 0, cells := 0, slots := 0, locals := 0 } : Room)) s m (([.ref h] : List Value).toArray) below meth c H locs 0 0 (MQ below (qX8_begin dC dI cyI cyJ cyZ h h_text h_many h_ones h_others h_kinds h_firsts h_persons h_gone h_at h_fines h_undos h_seenOf h_seenOpen h_path h_told h_counts h_spots h_far h_row h_begins h_ways h_next i_length i_keptMany i_undoMany i_seenMany i_pathMany i_place i_found i_walkers a_firsts a_gone a_at a_fines post A) (([.ref h] : List Value).toArray) s 0 0 A) (F0 m 27 ls []) := by
    intro i_keptMany i_undoMany i_seenMany i_pathMany a_gone a_fines n_27
    induction n_27 with
    | zero =>
      intro x1 a_at H locs ls hW hl hw
      exact False.elim hw
    | succ n_27 ih_27 =>
      intro x1 a_at H locs ls hW hl hw
      refine lv_iload_n hx hb dX8_begin_27 rfl (lv_at hl 1 rfl) ?_
      refine lv_iconst (v := 3) hx hb dX8_begin_28 (by decide) ?_
      refine lv_icmp_ge (tgt := 45) hx hb dX8_begin_29 (by decide) (fun c_1 => ?_) (fun c_1 => ?_)
      · replace hw := hw.1 c_1
        refine lv_aload_n hx hb dX8_begin_45 rfl (lv_at hl 0 rfl) ?_
        refine zw_get (ci := 8) (C := RX8) (T := TX8) (N := 30) (v := .ref h_fines) hx hb hts hiX8 hown hK hW 0 rfl rfl 10 (by decide) rfl k_0 dX8_begin_46 ?_
        refine lv_iconst (v := 0) hx hb dX8_begin_49 (by decide) ?_
        refine lv_iconst (v := 0) hx hb dX8_begin_50 (by decide) ?_
        refine zw_iast hx hb hK hW 4 rfl rfl hw.1 (w2 := fun a_fines_2 => (wX8_begin cyI cyJ cyZ h h_text h_many h_ones h_others h_kinds h_firsts h_persons h_gone h_at h_fines h_undos h_seenOf h_seenOpen h_path h_told h_counts h_spots h_far h_row h_begins h_ways h_next i_length i_keptMany i_undoMany i_seenMany i_pathMany i_place i_found i_walkers a_firsts a_gone a_at a_fines_2)) (fun _ => rfl) dX8_begin_51 (fun a_fines_2 H locs ea_fines_2 hW => ?_)
        replace hw := hw.2 a_fines_2 ea_fines_2
        refine lv_aload_n hx hb dX8_begin_52 rfl (lv_at hl 0 rfl) ?_
        refine lv_iconst (v := 0) hx hb dX8_begin_53 (by decide) ?_
        refine zw_put (ci := 8) (C := RX8) (T := TX8) (N := 30) (w2 := (wX8_begin cyI cyJ cyZ h h_text h_many h_ones h_others h_kinds h_firsts h_persons h_gone h_at h_fines h_undos h_seenOf h_seenOpen h_path h_told h_counts h_spots h_far h_row h_begins h_ways h_next i_length 0 i_undoMany i_seenMany i_pathMany i_place i_found i_walkers a_firsts a_gone a_at a_fines_2)) hx hb hts hiX8 tyX8 tyX8_ok nmX8 hown hK hW 0 rfl rfl 11 (by decide) (by decide +kernel) rfl (Nat.le_of_ble_eq_true rfl) rfl k_1 dX8_begin_54 (fun H locs hW => ?_)
        refine lv_aload_n hx hb dX8_begin_57 rfl (lv_at hl 0 rfl) ?_
        refine lv_iconst (v := 0) hx hb dX8_begin_58 (by decide) ?_
        refine zw_put (ci := 8) (C := RX8) (T := TX8) (N := 30) (w2 := (wX8_begin cyI cyJ cyZ h h_text h_many h_ones h_others h_kinds h_firsts h_persons h_gone h_at h_fines h_undos h_seenOf h_seenOpen h_path h_told h_counts h_spots h_far h_row h_begins h_ways h_next i_length 0 0 i_seenMany i_pathMany i_place i_found i_walkers a_firsts a_gone a_at a_fines_2)) hx hb hts hiX8 tyX8 tyX8_ok nmX8 hown hK hW 0 rfl rfl 12 (by decide) (by decide +kernel) rfl (Nat.le_of_ble_eq_true rfl) rfl k_2 dX8_begin_59 (fun H locs hW => ?_)
        refine lv_aload_n hx hb dX8_begin_62 rfl (lv_at hl 0 rfl) ?_
        refine lv_iconst (v := 0) hx hb dX8_begin_63 (by decide) ?_
        refine zw_put (ci := 8) (C := RX8) (T := TX8) (N := 30) (w2 := (wX8_begin cyI cyJ cyZ h h_text h_many h_ones h_others h_kinds h_firsts h_persons h_gone h_at h_fines h_undos h_seenOf h_seenOpen h_path h_told h_counts h_spots h_far h_row h_begins h_ways h_next i_length 0 0 0 i_pathMany i_place i_found i_walkers a_firsts a_gone a_at a_fines_2)) hx hb hts hiX8 tyX8 tyX8_ok nmX8 hown hK hW 0 rfl rfl 14 (by decide) (by decide +kernel) rfl (Nat.le_of_ble_eq_true rfl) rfl k_3 dX8_begin_64 (fun H locs hW => ?_)
        refine lv_aload_n hx hb dX8_begin_67 rfl (lv_at hl 0 rfl) ?_
        refine lv_iconst (v := 0) hx hb dX8_begin_68 (by decide) ?_
        refine zw_put (ci := 8) (C := RX8) (T := TX8) (N := 30) (w2 := (wX8_begin cyI cyJ cyZ h h_text h_many h_ones h_others h_kinds h_firsts h_persons h_gone h_at h_fines h_undos h_seenOf h_seenOpen h_path h_told h_counts h_spots h_far h_row h_begins h_ways h_next i_length 0 0 0 0 i_place i_found i_walkers a_firsts a_gone a_at a_fines_2)) hx hb hts hiX8 tyX8 tyX8_ok nmX8 hown hK hW 0 rfl rfl 17 (by decide) (by decide +kernel) rfl (Nat.le_of_ble_eq_true rfl) rfl k_4 dX8_begin_69 (fun H locs hW => ?_)
        refine zw_vret (S := Int32 × Int32 × Int32 × Int32 × (Nat → Int32) × (Nat → Int32) × (Nat → Int32)) (post := fun u => post u.1 u.2.1 u.2.2.1 u.2.2.2.1 u.2.2.2.2.1 u.2.2.2.2.2.1 u.2.2.2.2.2.2) (0, 0, 0, 0, a_gone, a_at, a_fines_2) hx hb hr hlocks hK hW hw ?_ dX8_begin_72
        rfl
      · replace hw := hw.2 c_1
        refine lv_aload_n hx hb dX8_begin_32 rfl (lv_at hl 0 rfl) ?_
        refine zw_get (ci := 8) (C := RX8) (T := TX8) (N := 30) (v := .ref h_at) hx hb hts hiX8 hown hK hW 0 rfl rfl 9 (by decide) rfl k_5 dX8_begin_33 ?_
        refine lv_iload_n hx hb dX8_begin_36 rfl (lv_at hl 1 rfl) ?_
        refine lv_iconst (v := 0) hx hb dX8_begin_37 (by decide) ?_
        refine zw_iast hx hb hK hW 3 rfl rfl hw.1 (w2 := fun a_at_3 => (wX8_begin cyI cyJ cyZ h h_text h_many h_ones h_others h_kinds h_firsts h_persons h_gone h_at h_fines h_undos h_seenOf h_seenOpen h_path h_told h_counts h_spots h_far h_row h_begins h_ways h_next i_length i_keptMany i_undoMany i_seenMany i_pathMany i_place i_found i_walkers a_firsts a_gone a_at_3 a_fines)) (fun _ => rfl) dX8_begin_38 (fun a_at_3 H locs ea_at_3 hW => ?_)
        replace hw := hw.2 a_at_3 ea_at_3
        obtain ⟨x1_4, ex1_4⟩ : ∃ y : Int32, y = x1 + 1 := ⟨_, rfl⟩
        replace hw := hw x1_4 ex1_4
        refine lv_iinc (v := x1_4) (lv' := [(1, .int x1_4), (0, .ref h)]) hx hb dX8_begin_39 hl (k := 1) rfl (by rw [ex1_4]; rfl) (by decide) rfl (fun ls hl => ?_)
        refine lv_goto (tgt := 27) hx hb dX8_begin_42 (by decide) ?_
        exact ih_27 x1_4 a_at_3 _ _ _ hW (lv_sub hl [1, 0] rfl) hw
  have W_2 : ∀ (i_keptMany : Int32) (i_undoMany : Int32) (i_seenMany : Int32) (i_pathMany : Int32) (a_at : Nat → Int32) (a_fines : Nat → Int32) (n_2 : Nat) (x1 : Int32) (a_gone : Nat → Int32) (H : Heap) (locs : List Loc) (ls : Array Slot), Wd (dC, dI) A s.heap (wX8_begin cyI cyJ cyZ h h_text h_many h_ones h_others h_kinds h_firsts h_persons h_gone h_at h_fines h_undos h_seenOf h_seenOpen h_path h_told h_counts h_spots h_far h_row h_begins h_ways h_next i_length i_keptMany i_undoMany i_seenMany i_pathMany i_place i_found i_walkers a_firsts a_gone a_at a_fines) H locs → lv_has ls 2 [(0, .ref h), (1, .int x1)] → PX8_begin_2 post a_firsts i_keptMany i_undoMany i_seenMany i_pathMany a_at a_fines n_2 x1 a_gone → W p l e (({ frames := 0, cells := 0, slots := 0, locals := 0 } : Room)) s m (([.ref h] : List Value).toArray) below meth c H locs 0 0 (MQ below (qX8_begin dC dI cyI cyJ cyZ h h_text h_many h_ones h_others h_kinds h_firsts h_persons h_gone h_at h_fines h_undos h_seenOf h_seenOpen h_path h_told h_counts h_spots h_far h_row h_begins h_ways h_next i_length i_keptMany i_undoMany i_seenMany i_pathMany i_place i_found i_walkers a_firsts a_gone a_at a_fines post A) (([.ref h] : List Value).toArray) s 0 0 A) (F0 m 2 ls []) := by
    intro i_keptMany i_undoMany i_seenMany i_pathMany a_at a_fines n_2
    induction n_2 with
    | zero =>
      intro x1 a_gone H locs ls hW hl hw
      exact False.elim hw
    | succ n_2 ih_2 =>
      intro x1 a_gone H locs ls hW hl hw
      refine lv_iload_n hx hb dX8_begin_2 rfl (lv_at hl 1 rfl) ?_
      refine lv_iconst (v := 5) hx hb dX8_begin_3 (by decide) ?_
      refine lv_icmp_ge (tgt := 25) hx hb dX8_begin_4 (by decide) (fun c_5 => ?_) (fun c_5 => ?_)
      · replace hw := hw.1 c_5
        refine lv_iconst (v := 0) hx hb dX8_begin_25 (by decide) ?_
        refine lv_istore_n (lv' := [(1, .int 0), (0, .ref h)]) hx hb dX8_begin_26 rfl hl (by decide) rfl (fun ls hl => ?_)
        obtain ⟨n_27, hw⟩ := hw
        exact W_27 i_keptMany i_undoMany i_seenMany i_pathMany a_gone a_fines n_27 0 a_at _ _ _ hW (lv_sub hl [1, 0] rfl) hw
      · replace hw := hw.2 c_5
        refine lv_aload_n hx hb dX8_begin_7 rfl (lv_at hl 0 rfl) ?_
        refine zw_get (ci := 8) (C := RX8) (T := TX8) (N := 30) (v := .ref h_gone) hx hb hts hiX8 hown hK hW 0 rfl rfl 8 (by decide) rfl k_6 dX8_begin_8 ?_
        refine lv_iload_n hx hb dX8_begin_11 rfl (lv_at hl 1 rfl) ?_
        refine lv_aload_n hx hb dX8_begin_12 rfl (lv_at hl 0 rfl) ?_
        refine zw_get (ci := 8) (C := RX8) (T := TX8) (N := 30) (v := .ref h_firsts) hx hb hts hiX8 hown hK hW 0 rfl rfl 6 (by decide) rfl k_7 dX8_begin_13 ?_
        refine lv_iload_n hx hb dX8_begin_16 rfl (lv_at hl 1 rfl) ?_
        refine zw_iald hx hb hK hW 1 rfl rfl hw.1 dX8_begin_17 ?_
        replace hw := hw.2
        refine lv_topi (fun t_6 et_6 => ?_)
        replace hw := hw t_6 et_6
        refine zw_iast hx hb hK hW 2 rfl rfl hw.1 (w2 := fun a_gone_7 => (wX8_begin cyI cyJ cyZ h h_text h_many h_ones h_others h_kinds h_firsts h_persons h_gone h_at h_fines h_undos h_seenOf h_seenOpen h_path h_told h_counts h_spots h_far h_row h_begins h_ways h_next i_length i_keptMany i_undoMany i_seenMany i_pathMany i_place i_found i_walkers a_firsts a_gone_7 a_at a_fines)) (fun _ => rfl) dX8_begin_18 (fun a_gone_7 H locs ea_gone_7 hW => ?_)
        replace hw := hw.2 a_gone_7 ea_gone_7
        obtain ⟨x1_8, ex1_8⟩ : ∃ y : Int32, y = x1 + 1 := ⟨_, rfl⟩
        replace hw := hw x1_8 ex1_8
        refine lv_iinc (v := x1_8) (lv' := [(1, .int x1_8), (0, .ref h)]) hx hb dX8_begin_19 hl (k := 1) rfl (by rw [ex1_8]; rfl) (by decide) rfl (fun ls hl => ?_)
        refine lv_goto (tgt := 2) hx hb dX8_begin_22 (by decide) ?_
        exact ih_2 x1_8 a_gone_7 _ _ _ hW (lv_sub hl [1, 0] rfl) hw
  have hl := lv_entry ([.ref h]) (n := 2) (Nat.le_of_ble_eq_true rfl)
  rw [lg_entry_eq]
  generalize (lg_sl ([.ref h]) ++ List.replicate (2 - (lg_sl ([.ref h])).length) Slot.unset).toArray = ls at hl ⊢
  have hl : lv_has ls 2 [(0, .ref h)] := hl
  refine lv_iconst (v := 0) hx hb dX8_begin_0 (by decide) ?_
  refine lv_istore_n (lv' := [(1, .int 0), (0, .ref h)]) hx hb dX8_begin_1 rfl hl (by decide) rfl (fun ls hl => ?_)
  obtain ⟨n_2, hw⟩ := hw
  exact W_2 i_keptMany i_undoMany i_seenMany i_pathMany a_at a_fines n_2 0 a_gone _ _ _ hW (lv_sub hl [1, 0] rfl) hw
set_option maxHeartbeats 4000000 in
set_option maxRecDepth 100000 in
theorem mX8_init (l : Launch) (dC : Nat → ClassId) (dI : Nat → Nat → Nat) (cyI cyJ cyZ : ClassId) (h sz : Nat) (post : Int32 → Int32 → Int32 → Int32 → (Nat → Int32) → (Nat → Int32) → (Nat → Int32) → (Nat → Int32) → (Nat → Int32) → (Nat → Int32) → (Nat → Int32) → (Nat → Int32) → (Nat → Int32) → Prop) (hwp : PX8_init post) : Met l yX8_init wsX8_init ({ frames := 1, cells := 22, slots := 91555, locals := 21 } : Room) (va_Pc [.ref h] (pcW (dC, dI) sz [(h, .inr (8, [.int 0, .null, .null, .null, .null, .null, .null, .null, .null, .null, .null, .int 0, .int 0, .null, .int 0, .null, .null, .int 0, .null, .int 0, .null, .null, .null, .null, .null, .null, .int 0, .int 0, .null, .null]))] (tyG cyI cyJ cyZ))) (va_Qv (fun u : Nat × Nat × Nat × Nat × Nat × Nat × Nat × Nat × Nat × Nat × Nat × Nat × Nat × Nat × Nat × Nat × Nat × Nat × Nat × Nat × Nat × Nat × Int32 × Int32 × Int32 × Int32 × (Nat → Int32) × (Nat → Int32) × (Nat → Int32) × (Nat → Int32) × (Nat → Int32) × (Nat → Int32) × (Nat → Int32) × (Nat → Int32) × (Nat → Int32) => post u.2.2.2.2.2.2.2.2.2.2.2.2.2.2.2.2.2.2.2.2.2.2.1 u.2.2.2.2.2.2.2.2.2.2.2.2.2.2.2.2.2.2.2.2.2.2.2.1 u.2.2.2.2.2.2.2.2.2.2.2.2.2.2.2.2.2.2.2.2.2.2.2.2.1 u.2.2.2.2.2.2.2.2.2.2.2.2.2.2.2.2.2.2.2.2.2.2.2.2.2.1 u.2.2.2.2.2.2.2.2.2.2.2.2.2.2.2.2.2.2.2.2.2.2.2.2.2.2.1 u.2.2.2.2.2.2.2.2.2.2.2.2.2.2.2.2.2.2.2.2.2.2.2.2.2.2.2.1 u.2.2.2.2.2.2.2.2.2.2.2.2.2.2.2.2.2.2.2.2.2.2.2.2.2.2.2.2.1 u.2.2.2.2.2.2.2.2.2.2.2.2.2.2.2.2.2.2.2.2.2.2.2.2.2.2.2.2.2.1 u.2.2.2.2.2.2.2.2.2.2.2.2.2.2.2.2.2.2.2.2.2.2.2.2.2.2.2.2.2.2.1 u.2.2.2.2.2.2.2.2.2.2.2.2.2.2.2.2.2.2.2.2.2.2.2.2.2.2.2.2.2.2.2.1 u.2.2.2.2.2.2.2.2.2.2.2.2.2.2.2.2.2.2.2.2.2.2.2.2.2.2.2.2.2.2.2.2.1 u.2.2.2.2.2.2.2.2.2.2.2.2.2.2.2.2.2.2.2.2.2.2.2.2.2.2.2.2.2.2.2.2.2.1 u.2.2.2.2.2.2.2.2.2.2.2.2.2.2.2.2.2.2.2.2.2.2.2.2.2.2.2.2.2.2.2.2.2.2) (bW (dC, dI) (tyG cyI cyJ cyZ) (va_A [(h, .inr (8, [.int 0, .null, .null, .null, .null, .null, .null, .null, .null, .null, .null, .int 0, .int 0, .null, .int 0, .null, .null, .int 0, .null, .int 0, .null, .null, .null, .null, .null, .null, .int 0, .int 0, .null, .null]))] sz) (fun u : Nat × Nat × Nat × Nat × Nat × Nat × Nat × Nat × Nat × Nat × Nat × Nat × Nat × Nat × Nat × Nat × Nat × Nat × Nat × Nat × Nat × Nat × Int32 × Int32 × Int32 × Int32 × (Nat → Int32) × (Nat → Int32) × (Nat → Int32) × (Nat → Int32) × (Nat → Int32) × (Nat → Int32) × (Nat → Int32) × (Nat → Int32) × (Nat → Int32) => ([(h, .inr (8, [.int 0, .ref (u.1), .ref (u.2.1), .ref (u.2.2.1), .ref (u.2.2.2.1), .ref (u.2.2.2.2.1), .ref (u.2.2.2.2.2.1), .ref (u.2.2.2.2.2.2.1), .ref (u.2.2.2.2.2.2.2.1), .ref (u.2.2.2.2.2.2.2.2.1), .ref (u.2.2.2.2.2.2.2.2.2.1), .int (u.2.2.2.2.2.2.2.2.2.2.2.2.2.2.2.2.2.2.2.2.2.2.1), .int (u.2.2.2.2.2.2.2.2.2.2.2.2.2.2.2.2.2.2.2.2.2.2.2.1), .ref (u.2.2.2.2.2.2.2.2.2.2.1), .int (u.2.2.2.2.2.2.2.2.2.2.2.2.2.2.2.2.2.2.2.2.2.2.2.2.1), .ref (u.2.2.2.2.2.2.2.2.2.2.2.1), .ref (u.2.2.2.2.2.2.2.2.2.2.2.2.1), .int (u.2.2.2.2.2.2.2.2.2.2.2.2.2.2.2.2.2.2.2.2.2.2.2.2.2.1), .ref (u.2.2.2.2.2.2.2.2.2.2.2.2.2.1), .int 0, .ref (u.2.2.2.2.2.2.2.2.2.2.2.2.2.2.1), .ref (u.2.2.2.2.2.2.2.2.2.2.2.2.2.2.2.1), .ref (u.2.2.2.2.2.2.2.2.2.2.2.2.2.2.2.2.1), .ref (u.2.2.2.2.2.2.2.2.2.2.2.2.2.2.2.2.2.1), .ref (u.2.2.2.2.2.2.2.2.2.2.2.2.2.2.2.2.2.2.1), .ref (u.2.2.2.2.2.2.2.2.2.2.2.2.2.2.2.2.2.2.2.1), .int 0, .int 0, .ref (u.2.2.2.2.2.2.2.2.2.2.2.2.2.2.2.2.2.2.2.2.1), .ref (u.2.2.2.2.2.2.2.2.2.2.2.2.2.2.2.2.2.2.2.2.2.1)])), ((u.1), .inl (cyI, 200, .inl (fun _ => 0))), ((u.2.1), .inl (cyI, 2, .inl (u.2.2.2.2.2.2.2.2.2.2.2.2.2.2.2.2.2.2.2.2.2.2.2.2.2.2.1))), ((u.2.2.1), .inl (cyI, 10, .inl (u.2.2.2.2.2.2.2.2.2.2.2.2.2.2.2.2.2.2.2.2.2.2.2.2.2.2.2.1))), ((u.2.2.2.1), .inl (cyI, 10, .inl (u.2.2.2.2.2.2.2.2.2.2.2.2.2.2.2.2.2.2.2.2.2.2.2.2.2.2.2.2.1))), ((u.2.2.2.2.1), .inl (cyI, 10, .inl (u.2.2.2.2.2.2.2.2.2.2.2.2.2.2.2.2.2.2.2.2.2.2.2.2.2.2.2.2.2.1))), ((u.2.2.2.2.2.1), .inl (cyI, 10, .inl (u.2.2.2.2.2.2.2.2.2.2.2.2.2.2.2.2.2.2.2.2.2.2.2.2.2.2.2.2.2.2.1))), ((u.2.2.2.2.2.2.1), .inl (cyI, 2, .inl (u.2.2.2.2.2.2.2.2.2.2.2.2.2.2.2.2.2.2.2.2.2.2.2.2.2.2.2.2.2.2.2.1))), ((u.2.2.2.2.2.2.2.1), .inl (cyI, 15, .inl (u.2.2.2.2.2.2.2.2.2.2.2.2.2.2.2.2.2.2.2.2.2.2.2.2.2.2.2.2.2.2.2.2.1))), ((u.2.2.2.2.2.2.2.2.1), .inl (cyI, 9, .inl (u.2.2.2.2.2.2.2.2.2.2.2.2.2.2.2.2.2.2.2.2.2.2.2.2.2.2.2.2.2.2.2.2.2.1))), ((u.2.2.2.2.2.2.2.2.2.1), .inl (cyI, 3, .inl (u.2.2.2.2.2.2.2.2.2.2.2.2.2.2.2.2.2.2.2.2.2.2.2.2.2.2.2.2.2.2.2.2.2.2))), ((u.2.2.2.2.2.2.2.2.2.2.1), .inl (cyI, 32, .inl (fun _ => 0))), ((u.2.2.2.2.2.2.2.2.2.2.2.1), .inl (cyI, 10, .inl (fun _ => 0))), ((u.2.2.2.2.2.2.2.2.2.2.2.2.1), .inl (cyI, 10, .inl (fun _ => 0))), ((u.2.2.2.2.2.2.2.2.2.2.2.2.2.1), .inl (cyI, 8, .inl (fun _ => 0))), ((u.2.2.2.2.2.2.2.2.2.2.2.2.2.2.1), .inl (cyI, 4, .inl (fun _ => 0))), ((u.2.2.2.2.2.2.2.2.2.2.2.2.2.2.2.1), .inl (cyI, 5, .inl (fun _ => 0))), ((u.2.2.2.2.2.2.2.2.2.2.2.2.2.2.2.2.1), .inl (cyI, 3, .inl (fun _ => 0))), ((u.2.2.2.2.2.2.2.2.2.2.2.2.2.2.2.2.2.1), .inl (cyI, 30400, .inl (fun _ => 0))), ((u.2.2.2.2.2.2.2.2.2.2.2.2.2.2.2.2.2.2.1), .inl (cyI, 30400, .inl (fun _ => 0))), ((u.2.2.2.2.2.2.2.2.2.2.2.2.2.2.2.2.2.2.2.1), .inl (cyI, 30400, .inl (fun _ => 0))), ((u.2.2.2.2.2.2.2.2.2.2.2.2.2.2.2.2.2.2.2.2.1), .inl (cyJ, 6, .inr (.inl (fun _ => 0)))), ((u.2.2.2.2.2.2.2.2.2.2.2.2.2.2.2.2.2.2.2.2.2.1), .inl (cyJ, 6, .inr (.inl (fun _ => 0))))] : va_W))) (va_A [(h, .inr (8, [.int 0, .null, .null, .null, .null, .null, .null, .null, .null, .null, .null, .int 0, .int 0, .null, .int 0, .null, .null, .int 0, .null, .int 0, .null, .null, .null, .null, .null, .null, .int 0, .int 0, .null, .null]))] sz)) 22 91555 (va_A [(h, .inr (8, [.int 0, .null, .null, .null, .null, .null, .null, .null, .null, .null, .null, .int 0, .int 0, .null, .int 0, .null, .null, .int 0, .null, .int 0, .null, .null, .null, .null, .null, .null, .int 0, .int 0, .null, .null]))] sz) := by
  refine Met.ofW (cc := cX8_init) (maxL := 1) (ret := none) (by decide) rfl ?_
  intro p e s m args below meth c s₁ B hml hv
  obtain ⟨rfl, hsz, hP, hK, hD0, hN⟩ := hv
  have hx := B.exec
  have hb := B.bytes
  have hr := B.returns
  have hts := atoms_spec (ws := wsX8_init) B.pre
  have hown : s.vm.findClass RX8 = some m.cls := findClass_of_methodNamed B.named
  have hlocks := B.notSynchronized
  have hin : meth.name = "<init>" := (name_of_methodNamed B.named B.method).1
  subst hsz
  have hD := hD0.self (sz := s.heap.size)
  generalize hAe : va_A [(h, .inr (8, [.int 0, .null, .null, .null, .null, .null, .null, .null, .null, .null, .null, .int 0, .int 0, .null, .int 0, .null, .null, .int 0, .null, .int 0, .null, .null, .null, .null, .null, .null, .int 0, .int 0, .null, .null]))] s.heap.size = A at hD ⊢
  have hA : ∀ q : Nat, s.heap.size ≤ q → A q := fun q h => by rw [← hAe]; exact Or.inr h
  have hW : Wd (dC, dI) A s.heap ([(h, .inr (8, [.int 0, .null, .null, .null, .null, .null, .null, .null, .null, .null, .null, .int 0, .int 0, .null, .int 0, .null, .null, .int 0, .null, .int 0, .null, .null, .null, .null, .null, .null, .int 0, .int 0, .null, .null]))] : va_W) s.heap [] := ⟨hP, hD, va_S.rf⟩
  have hw := hwp
  have hiX8 : ∀ w ∈ u_ws RX8 TX8 30, w ∈ wsX8_init := fun _ h => List.mem_cons_of_mem _ (List.mem_append_right _ h)
  have k_0 := hts (.methodLink RX8 1 objectInit) (List.mem_of_getElem? (i := 1) rfl)
  have k_1 := hts (.instanceMethod objectInit) (List.mem_of_getElem? (i := 2) rfl)
  have k_2 := hts (.code objectInit ⟨#[0xb1]⟩ 1 none) (List.mem_of_getElem? (i := 3) rfl)
  have k_3 := hts (.arrayClass .int) (List.mem_of_getElem? (i := 4) rfl)
  have k_4 := hts (.fieldLink RX8 7 "OddLetsInModel" "text" "[I") (List.mem_of_getElem? (i := 5) rfl)
  have k_5 := hts (.fieldLink RX8 13 "OddLetsInModel" "many" "[I") (List.mem_of_getElem? (i := 6) rfl)
  have k_6 := hts (.fieldLink RX8 16 "OddLetsInModel" "ones" "[I") (List.mem_of_getElem? (i := 7) rfl)
  have k_7 := hts (.fieldLink RX8 19 "OddLetsInModel" "others" "[I") (List.mem_of_getElem? (i := 8) rfl)
  have k_8 := hts (.fieldLink RX8 22 "OddLetsInModel" "kinds" "[I") (List.mem_of_getElem? (i := 9) rfl)
  have k_9 := hts (.fieldLink RX8 25 "OddLetsInModel" "firsts" "[I") (List.mem_of_getElem? (i := 10) rfl)
  have k_10 := hts (.fieldLink RX8 28 "OddLetsInModel" "persons" "[I") (List.mem_of_getElem? (i := 11) rfl)
  have k_11 := hts (.fieldLink RX8 31 "OddLetsInModel" "gone" "[I") (List.mem_of_getElem? (i := 12) rfl)
  have k_12 := hts (.fieldLink RX8 34 "OddLetsInModel" "at" "[I") (List.mem_of_getElem? (i := 13) rfl)
  have k_13 := hts (.fieldLink RX8 37 "OddLetsInModel" "fines" "[I") (List.mem_of_getElem? (i := 14) rfl)
  have k_14 := hts (.fieldLink RX8 40 "OddLetsInModel" "undos" "[I") (List.mem_of_getElem? (i := 15) rfl)
  have k_15 := hts (.fieldLink RX8 43 "OddLetsInModel" "seenOf" "[I") (List.mem_of_getElem? (i := 16) rfl)
  have k_16 := hts (.fieldLink RX8 46 "OddLetsInModel" "seenOpen" "[I") (List.mem_of_getElem? (i := 17) rfl)
  have k_17 := hts (.fieldLink RX8 49 "OddLetsInModel" "path" "[I") (List.mem_of_getElem? (i := 18) rfl)
  have k_18 := hts (.fieldLink RX8 52 "OddLetsInModel" "told" "[I") (List.mem_of_getElem? (i := 19) rfl)
  have k_19 := hts (.fieldLink RX8 55 "OddLetsInModel" "counts" "[I") (List.mem_of_getElem? (i := 20) rfl)
  have k_20 := hts (.fieldLink RX8 58 "OddLetsInModel" "spots" "[I") (List.mem_of_getElem? (i := 21) rfl)
  have k_21 := hts (.fieldLink RX8 61 "OddLetsInModel" "far" "[I") (List.mem_of_getElem? (i := 22) rfl)
  have k_22 := hts (.fieldLink RX8 64 "OddLetsInModel" "row" "[I") (List.mem_of_getElem? (i := 23) rfl)
  have k_23 := hts (.fieldLink RX8 67 "OddLetsInModel" "begins" "[I") (List.mem_of_getElem? (i := 24) rfl)
  have k_24 := hts (.arrayClass .long) (List.mem_of_getElem? (i := 25) rfl)
  have k_25 := hts (.fieldLink RX8 70 "OddLetsInModel" "ways" "[J") (List.mem_of_getElem? (i := 26) rfl)
  have k_26 := hts (.fieldLink RX8 74 "OddLetsInModel" "next" "[J") (List.mem_of_getElem? (i := 27) rfl)
  have hl := lv_entry ([.ref h]) (n := 1) (Nat.le_of_ble_eq_true rfl)
  rw [lg_entry_eq]
  generalize (lg_sl ([.ref h]) ++ List.replicate (1 - (lg_sl ([.ref h])).length) Slot.unset).toArray = ls at hl ⊢
  have hl : lv_has ls 1 [(0, .ref h)] := hl
  refine lv_aload_n hx hb dX8_init_0 rfl (lv_at hl 0 rfl) ?_
  refine W.objInit hx hb hown k_0 k_1 k_2 rfl (by rw [hml]; exact hl.1) rfl dX8_init_1 (Nat.le_of_ble_eq_true rfl) (Nat.le_of_ble_eq_true rfl) ?_
  refine W.eq (g2 := F0 m 4 ls []) rfl ?_
  refine lv_aload_n hx hb dX8_init_4 rfl (lv_at hl 0 rfl) ?_
  refine lv_sipush (v := 200) hx hb dX8_init_5 (by decide) ?_
  refine zw_newi hx hb k_3 hK hA hW 200 (by decide) (by decide) (Nat.le_of_ble_eq_true rfl) (Nat.le_of_ble_eq_true rfl) (Nat.le_of_ble_eq_true rfl) dX8_init_8 (fun h_text H hW => ?_)
  replace hW : Wd (dC, dI) A s.heap ([(h, .inr (8, [.int 0, .null, .null, .null, .null, .null, .null, .null, .null, .null, .null, .int 0, .int 0, .null, .int 0, .null, .null, .int 0, .null, .int 0, .null, .null, .null, .null, .null, .null, .int 0, .int 0, .null, .null])), (h_text, .inl (cyI, 200, .inl (fun _ => 0)))] : va_W) H _ := hW
  refine zw_putF (ci := 8) (C := RX8) (T := TX8) (N := 30) (ty := .array .int) (w2 := [(h, .inr (8, [.int 0, .ref h_text, .null, .null, .null, .null, .null, .null, .null, .null, .null, .int 0, .int 0, .null, .int 0, .null, .null, .int 0, .null, .int 0, .null, .null, .null, .null, .null, .null, .int 0, .int 0, .null, .null])), (h_text, .inl (cyI, 200, .inl (fun _ => 0)))]) hx hb hts hiX8 tyX8 tyX8_ok nmX8 hown hK hW 0 rfl rfl 1 (by decide) (by decide +kernel) rfl rfl rfl hin rfl (Nat.le_of_ble_eq_true rfl) rfl k_4 dX8_init_10 (fun H locs hW => ?_)
  refine lv_aload_n hx hb dX8_init_13 rfl (lv_at hl 0 rfl) ?_
  refine lv_iconst (v := 2) hx hb dX8_init_14 (by decide) ?_
  refine zw_newi hx hb k_3 hK hA hW 2 (by decide) (by decide) (Nat.le_of_ble_eq_true rfl) (Nat.le_of_ble_eq_true rfl) (Nat.le_of_ble_eq_true rfl) dX8_init_15 (fun h_many H hW => ?_)
  replace hW : Wd (dC, dI) A s.heap ([(h, .inr (8, [.int 0, .ref h_text, .null, .null, .null, .null, .null, .null, .null, .null, .null, .int 0, .int 0, .null, .int 0, .null, .null, .int 0, .null, .int 0, .null, .null, .null, .null, .null, .null, .int 0, .int 0, .null, .null])), (h_text, .inl (cyI, 200, .inl (fun _ => 0))), (h_many, .inl (cyI, 2, .inl (fun _ => 0)))] : va_W) H _ := hW
  refine zw_putF (ci := 8) (C := RX8) (T := TX8) (N := 30) (ty := .array .int) (w2 := [(h, .inr (8, [.int 0, .ref h_text, .ref h_many, .null, .null, .null, .null, .null, .null, .null, .null, .int 0, .int 0, .null, .int 0, .null, .null, .int 0, .null, .int 0, .null, .null, .null, .null, .null, .null, .int 0, .int 0, .null, .null])), (h_text, .inl (cyI, 200, .inl (fun _ => 0))), (h_many, .inl (cyI, 2, .inl (fun _ => 0)))]) hx hb hts hiX8 tyX8 tyX8_ok nmX8 hown hK hW 0 rfl rfl 2 (by decide) (by decide +kernel) rfl rfl rfl hin rfl (Nat.le_of_ble_eq_true rfl) rfl k_5 dX8_init_17 (fun H locs hW => ?_)
  refine lv_aload_n hx hb dX8_init_20 rfl (lv_at hl 0 rfl) ?_
  refine lv_bipush (v := 10) hx hb dX8_init_21 (by decide) ?_
  refine zw_newi hx hb k_3 hK hA hW 10 (by decide) (by decide) (Nat.le_of_ble_eq_true rfl) (Nat.le_of_ble_eq_true rfl) (Nat.le_of_ble_eq_true rfl) dX8_init_23 (fun h_ones H hW => ?_)
  replace hW : Wd (dC, dI) A s.heap ([(h, .inr (8, [.int 0, .ref h_text, .ref h_many, .null, .null, .null, .null, .null, .null, .null, .null, .int 0, .int 0, .null, .int 0, .null, .null, .int 0, .null, .int 0, .null, .null, .null, .null, .null, .null, .int 0, .int 0, .null, .null])), (h_text, .inl (cyI, 200, .inl (fun _ => 0))), (h_many, .inl (cyI, 2, .inl (fun _ => 0))), (h_ones, .inl (cyI, 10, .inl (fun _ => 0)))] : va_W) H _ := hW
  refine zw_putF (ci := 8) (C := RX8) (T := TX8) (N := 30) (ty := .array .int) (w2 := [(h, .inr (8, [.int 0, .ref h_text, .ref h_many, .ref h_ones, .null, .null, .null, .null, .null, .null, .null, .int 0, .int 0, .null, .int 0, .null, .null, .int 0, .null, .int 0, .null, .null, .null, .null, .null, .null, .int 0, .int 0, .null, .null])), (h_text, .inl (cyI, 200, .inl (fun _ => 0))), (h_many, .inl (cyI, 2, .inl (fun _ => 0))), (h_ones, .inl (cyI, 10, .inl (fun _ => 0)))]) hx hb hts hiX8 tyX8 tyX8_ok nmX8 hown hK hW 0 rfl rfl 3 (by decide) (by decide +kernel) rfl rfl rfl hin rfl (Nat.le_of_ble_eq_true rfl) rfl k_6 dX8_init_25 (fun H locs hW => ?_)
  refine lv_aload_n hx hb dX8_init_28 rfl (lv_at hl 0 rfl) ?_
  refine lv_bipush (v := 10) hx hb dX8_init_29 (by decide) ?_
  refine zw_newi hx hb k_3 hK hA hW 10 (by decide) (by decide) (Nat.le_of_ble_eq_true rfl) (Nat.le_of_ble_eq_true rfl) (Nat.le_of_ble_eq_true rfl) dX8_init_31 (fun h_others H hW => ?_)
  replace hW : Wd (dC, dI) A s.heap ([(h, .inr (8, [.int 0, .ref h_text, .ref h_many, .ref h_ones, .null, .null, .null, .null, .null, .null, .null, .int 0, .int 0, .null, .int 0, .null, .null, .int 0, .null, .int 0, .null, .null, .null, .null, .null, .null, .int 0, .int 0, .null, .null])), (h_text, .inl (cyI, 200, .inl (fun _ => 0))), (h_many, .inl (cyI, 2, .inl (fun _ => 0))), (h_ones, .inl (cyI, 10, .inl (fun _ => 0))), (h_others, .inl (cyI, 10, .inl (fun _ => 0)))] : va_W) H _ := hW
  refine zw_putF (ci := 8) (C := RX8) (T := TX8) (N := 30) (ty := .array .int) (w2 := [(h, .inr (8, [.int 0, .ref h_text, .ref h_many, .ref h_ones, .ref h_others, .null, .null, .null, .null, .null, .null, .int 0, .int 0, .null, .int 0, .null, .null, .int 0, .null, .int 0, .null, .null, .null, .null, .null, .null, .int 0, .int 0, .null, .null])), (h_text, .inl (cyI, 200, .inl (fun _ => 0))), (h_many, .inl (cyI, 2, .inl (fun _ => 0))), (h_ones, .inl (cyI, 10, .inl (fun _ => 0))), (h_others, .inl (cyI, 10, .inl (fun _ => 0)))]) hx hb hts hiX8 tyX8 tyX8_ok nmX8 hown hK hW 0 rfl rfl 4 (by decide) (by decide +kernel) rfl rfl rfl hin rfl (Nat.le_of_ble_eq_true rfl) rfl k_7 dX8_init_33 (fun H locs hW => ?_)
  refine lv_aload_n hx hb dX8_init_36 rfl (lv_at hl 0 rfl) ?_
  refine lv_bipush (v := 10) hx hb dX8_init_37 (by decide) ?_
  refine zw_newi hx hb k_3 hK hA hW 10 (by decide) (by decide) (Nat.le_of_ble_eq_true rfl) (Nat.le_of_ble_eq_true rfl) (Nat.le_of_ble_eq_true rfl) dX8_init_39 (fun h_kinds H hW => ?_)
  replace hW : Wd (dC, dI) A s.heap ([(h, .inr (8, [.int 0, .ref h_text, .ref h_many, .ref h_ones, .ref h_others, .null, .null, .null, .null, .null, .null, .int 0, .int 0, .null, .int 0, .null, .null, .int 0, .null, .int 0, .null, .null, .null, .null, .null, .null, .int 0, .int 0, .null, .null])), (h_text, .inl (cyI, 200, .inl (fun _ => 0))), (h_many, .inl (cyI, 2, .inl (fun _ => 0))), (h_ones, .inl (cyI, 10, .inl (fun _ => 0))), (h_others, .inl (cyI, 10, .inl (fun _ => 0))), (h_kinds, .inl (cyI, 10, .inl (fun _ => 0)))] : va_W) H _ := hW
  refine zw_putF (ci := 8) (C := RX8) (T := TX8) (N := 30) (ty := .array .int) (w2 := [(h, .inr (8, [.int 0, .ref h_text, .ref h_many, .ref h_ones, .ref h_others, .ref h_kinds, .null, .null, .null, .null, .null, .int 0, .int 0, .null, .int 0, .null, .null, .int 0, .null, .int 0, .null, .null, .null, .null, .null, .null, .int 0, .int 0, .null, .null])), (h_text, .inl (cyI, 200, .inl (fun _ => 0))), (h_many, .inl (cyI, 2, .inl (fun _ => 0))), (h_ones, .inl (cyI, 10, .inl (fun _ => 0))), (h_others, .inl (cyI, 10, .inl (fun _ => 0))), (h_kinds, .inl (cyI, 10, .inl (fun _ => 0)))]) hx hb hts hiX8 tyX8 tyX8_ok nmX8 hown hK hW 0 rfl rfl 5 (by decide) (by decide +kernel) rfl rfl rfl hin rfl (Nat.le_of_ble_eq_true rfl) rfl k_8 dX8_init_41 (fun H locs hW => ?_)
  refine lv_aload_n hx hb dX8_init_44 rfl (lv_at hl 0 rfl) ?_
  refine lv_bipush (v := 10) hx hb dX8_init_45 (by decide) ?_
  refine zw_newi hx hb k_3 hK hA hW 10 (by decide) (by decide) (Nat.le_of_ble_eq_true rfl) (Nat.le_of_ble_eq_true rfl) (Nat.le_of_ble_eq_true rfl) dX8_init_47 (fun h_firsts H hW => ?_)
  replace hW : Wd (dC, dI) A s.heap ([(h, .inr (8, [.int 0, .ref h_text, .ref h_many, .ref h_ones, .ref h_others, .ref h_kinds, .null, .null, .null, .null, .null, .int 0, .int 0, .null, .int 0, .null, .null, .int 0, .null, .int 0, .null, .null, .null, .null, .null, .null, .int 0, .int 0, .null, .null])), (h_text, .inl (cyI, 200, .inl (fun _ => 0))), (h_many, .inl (cyI, 2, .inl (fun _ => 0))), (h_ones, .inl (cyI, 10, .inl (fun _ => 0))), (h_others, .inl (cyI, 10, .inl (fun _ => 0))), (h_kinds, .inl (cyI, 10, .inl (fun _ => 0))), (h_firsts, .inl (cyI, 10, .inl (fun _ => 0)))] : va_W) H _ := hW
  refine zw_putF (ci := 8) (C := RX8) (T := TX8) (N := 30) (ty := .array .int) (w2 := [(h, .inr (8, [.int 0, .ref h_text, .ref h_many, .ref h_ones, .ref h_others, .ref h_kinds, .ref h_firsts, .null, .null, .null, .null, .int 0, .int 0, .null, .int 0, .null, .null, .int 0, .null, .int 0, .null, .null, .null, .null, .null, .null, .int 0, .int 0, .null, .null])), (h_text, .inl (cyI, 200, .inl (fun _ => 0))), (h_many, .inl (cyI, 2, .inl (fun _ => 0))), (h_ones, .inl (cyI, 10, .inl (fun _ => 0))), (h_others, .inl (cyI, 10, .inl (fun _ => 0))), (h_kinds, .inl (cyI, 10, .inl (fun _ => 0))), (h_firsts, .inl (cyI, 10, .inl (fun _ => 0)))]) hx hb hts hiX8 tyX8 tyX8_ok nmX8 hown hK hW 0 rfl rfl 6 (by decide) (by decide +kernel) rfl rfl rfl hin rfl (Nat.le_of_ble_eq_true rfl) rfl k_9 dX8_init_49 (fun H locs hW => ?_)
  refine lv_aload_n hx hb dX8_init_52 rfl (lv_at hl 0 rfl) ?_
  refine lv_iconst (v := 2) hx hb dX8_init_53 (by decide) ?_
  refine zw_newi hx hb k_3 hK hA hW 2 (by decide) (by decide) (Nat.le_of_ble_eq_true rfl) (Nat.le_of_ble_eq_true rfl) (Nat.le_of_ble_eq_true rfl) dX8_init_54 (fun h_persons H hW => ?_)
  replace hW : Wd (dC, dI) A s.heap ([(h, .inr (8, [.int 0, .ref h_text, .ref h_many, .ref h_ones, .ref h_others, .ref h_kinds, .ref h_firsts, .null, .null, .null, .null, .int 0, .int 0, .null, .int 0, .null, .null, .int 0, .null, .int 0, .null, .null, .null, .null, .null, .null, .int 0, .int 0, .null, .null])), (h_text, .inl (cyI, 200, .inl (fun _ => 0))), (h_many, .inl (cyI, 2, .inl (fun _ => 0))), (h_ones, .inl (cyI, 10, .inl (fun _ => 0))), (h_others, .inl (cyI, 10, .inl (fun _ => 0))), (h_kinds, .inl (cyI, 10, .inl (fun _ => 0))), (h_firsts, .inl (cyI, 10, .inl (fun _ => 0))), (h_persons, .inl (cyI, 2, .inl (fun _ => 0)))] : va_W) H _ := hW
  refine zw_putF (ci := 8) (C := RX8) (T := TX8) (N := 30) (ty := .array .int) (w2 := [(h, .inr (8, [.int 0, .ref h_text, .ref h_many, .ref h_ones, .ref h_others, .ref h_kinds, .ref h_firsts, .ref h_persons, .null, .null, .null, .int 0, .int 0, .null, .int 0, .null, .null, .int 0, .null, .int 0, .null, .null, .null, .null, .null, .null, .int 0, .int 0, .null, .null])), (h_text, .inl (cyI, 200, .inl (fun _ => 0))), (h_many, .inl (cyI, 2, .inl (fun _ => 0))), (h_ones, .inl (cyI, 10, .inl (fun _ => 0))), (h_others, .inl (cyI, 10, .inl (fun _ => 0))), (h_kinds, .inl (cyI, 10, .inl (fun _ => 0))), (h_firsts, .inl (cyI, 10, .inl (fun _ => 0))), (h_persons, .inl (cyI, 2, .inl (fun _ => 0)))]) hx hb hts hiX8 tyX8 tyX8_ok nmX8 hown hK hW 0 rfl rfl 7 (by decide) (by decide +kernel) rfl rfl rfl hin rfl (Nat.le_of_ble_eq_true rfl) rfl k_10 dX8_init_56 (fun H locs hW => ?_)
  refine lv_aload_n hx hb dX8_init_59 rfl (lv_at hl 0 rfl) ?_
  refine lv_bipush (v := 15) hx hb dX8_init_60 (by decide) ?_
  refine zw_newi hx hb k_3 hK hA hW 15 (by decide) (by decide) (Nat.le_of_ble_eq_true rfl) (Nat.le_of_ble_eq_true rfl) (Nat.le_of_ble_eq_true rfl) dX8_init_62 (fun h_gone H hW => ?_)
  replace hW : Wd (dC, dI) A s.heap ([(h, .inr (8, [.int 0, .ref h_text, .ref h_many, .ref h_ones, .ref h_others, .ref h_kinds, .ref h_firsts, .ref h_persons, .null, .null, .null, .int 0, .int 0, .null, .int 0, .null, .null, .int 0, .null, .int 0, .null, .null, .null, .null, .null, .null, .int 0, .int 0, .null, .null])), (h_text, .inl (cyI, 200, .inl (fun _ => 0))), (h_many, .inl (cyI, 2, .inl (fun _ => 0))), (h_ones, .inl (cyI, 10, .inl (fun _ => 0))), (h_others, .inl (cyI, 10, .inl (fun _ => 0))), (h_kinds, .inl (cyI, 10, .inl (fun _ => 0))), (h_firsts, .inl (cyI, 10, .inl (fun _ => 0))), (h_persons, .inl (cyI, 2, .inl (fun _ => 0))), (h_gone, .inl (cyI, 15, .inl (fun _ => 0)))] : va_W) H _ := hW
  refine zw_putF (ci := 8) (C := RX8) (T := TX8) (N := 30) (ty := .array .int) (w2 := [(h, .inr (8, [.int 0, .ref h_text, .ref h_many, .ref h_ones, .ref h_others, .ref h_kinds, .ref h_firsts, .ref h_persons, .ref h_gone, .null, .null, .int 0, .int 0, .null, .int 0, .null, .null, .int 0, .null, .int 0, .null, .null, .null, .null, .null, .null, .int 0, .int 0, .null, .null])), (h_text, .inl (cyI, 200, .inl (fun _ => 0))), (h_many, .inl (cyI, 2, .inl (fun _ => 0))), (h_ones, .inl (cyI, 10, .inl (fun _ => 0))), (h_others, .inl (cyI, 10, .inl (fun _ => 0))), (h_kinds, .inl (cyI, 10, .inl (fun _ => 0))), (h_firsts, .inl (cyI, 10, .inl (fun _ => 0))), (h_persons, .inl (cyI, 2, .inl (fun _ => 0))), (h_gone, .inl (cyI, 15, .inl (fun _ => 0)))]) hx hb hts hiX8 tyX8 tyX8_ok nmX8 hown hK hW 0 rfl rfl 8 (by decide) (by decide +kernel) rfl rfl rfl hin rfl (Nat.le_of_ble_eq_true rfl) rfl k_11 dX8_init_64 (fun H locs hW => ?_)
  refine lv_aload_n hx hb dX8_init_67 rfl (lv_at hl 0 rfl) ?_
  refine lv_bipush (v := 9) hx hb dX8_init_68 (by decide) ?_
  refine zw_newi hx hb k_3 hK hA hW 9 (by decide) (by decide) (Nat.le_of_ble_eq_true rfl) (Nat.le_of_ble_eq_true rfl) (Nat.le_of_ble_eq_true rfl) dX8_init_70 (fun h_at H hW => ?_)
  replace hW : Wd (dC, dI) A s.heap ([(h, .inr (8, [.int 0, .ref h_text, .ref h_many, .ref h_ones, .ref h_others, .ref h_kinds, .ref h_firsts, .ref h_persons, .ref h_gone, .null, .null, .int 0, .int 0, .null, .int 0, .null, .null, .int 0, .null, .int 0, .null, .null, .null, .null, .null, .null, .int 0, .int 0, .null, .null])), (h_text, .inl (cyI, 200, .inl (fun _ => 0))), (h_many, .inl (cyI, 2, .inl (fun _ => 0))), (h_ones, .inl (cyI, 10, .inl (fun _ => 0))), (h_others, .inl (cyI, 10, .inl (fun _ => 0))), (h_kinds, .inl (cyI, 10, .inl (fun _ => 0))), (h_firsts, .inl (cyI, 10, .inl (fun _ => 0))), (h_persons, .inl (cyI, 2, .inl (fun _ => 0))), (h_gone, .inl (cyI, 15, .inl (fun _ => 0))), (h_at, .inl (cyI, 9, .inl (fun _ => 0)))] : va_W) H _ := hW
  refine zw_putF (ci := 8) (C := RX8) (T := TX8) (N := 30) (ty := .array .int) (w2 := [(h, .inr (8, [.int 0, .ref h_text, .ref h_many, .ref h_ones, .ref h_others, .ref h_kinds, .ref h_firsts, .ref h_persons, .ref h_gone, .ref h_at, .null, .int 0, .int 0, .null, .int 0, .null, .null, .int 0, .null, .int 0, .null, .null, .null, .null, .null, .null, .int 0, .int 0, .null, .null])), (h_text, .inl (cyI, 200, .inl (fun _ => 0))), (h_many, .inl (cyI, 2, .inl (fun _ => 0))), (h_ones, .inl (cyI, 10, .inl (fun _ => 0))), (h_others, .inl (cyI, 10, .inl (fun _ => 0))), (h_kinds, .inl (cyI, 10, .inl (fun _ => 0))), (h_firsts, .inl (cyI, 10, .inl (fun _ => 0))), (h_persons, .inl (cyI, 2, .inl (fun _ => 0))), (h_gone, .inl (cyI, 15, .inl (fun _ => 0))), (h_at, .inl (cyI, 9, .inl (fun _ => 0)))]) hx hb hts hiX8 tyX8 tyX8_ok nmX8 hown hK hW 0 rfl rfl 9 (by decide) (by decide +kernel) rfl rfl rfl hin rfl (Nat.le_of_ble_eq_true rfl) rfl k_12 dX8_init_72 (fun H locs hW => ?_)
  refine lv_aload_n hx hb dX8_init_75 rfl (lv_at hl 0 rfl) ?_
  refine lv_iconst (v := 3) hx hb dX8_init_76 (by decide) ?_
  refine zw_newi hx hb k_3 hK hA hW 3 (by decide) (by decide) (Nat.le_of_ble_eq_true rfl) (Nat.le_of_ble_eq_true rfl) (Nat.le_of_ble_eq_true rfl) dX8_init_77 (fun h_fines H hW => ?_)
  replace hW : Wd (dC, dI) A s.heap ([(h, .inr (8, [.int 0, .ref h_text, .ref h_many, .ref h_ones, .ref h_others, .ref h_kinds, .ref h_firsts, .ref h_persons, .ref h_gone, .ref h_at, .null, .int 0, .int 0, .null, .int 0, .null, .null, .int 0, .null, .int 0, .null, .null, .null, .null, .null, .null, .int 0, .int 0, .null, .null])), (h_text, .inl (cyI, 200, .inl (fun _ => 0))), (h_many, .inl (cyI, 2, .inl (fun _ => 0))), (h_ones, .inl (cyI, 10, .inl (fun _ => 0))), (h_others, .inl (cyI, 10, .inl (fun _ => 0))), (h_kinds, .inl (cyI, 10, .inl (fun _ => 0))), (h_firsts, .inl (cyI, 10, .inl (fun _ => 0))), (h_persons, .inl (cyI, 2, .inl (fun _ => 0))), (h_gone, .inl (cyI, 15, .inl (fun _ => 0))), (h_at, .inl (cyI, 9, .inl (fun _ => 0))), (h_fines, .inl (cyI, 3, .inl (fun _ => 0)))] : va_W) H _ := hW
  refine zw_putF (ci := 8) (C := RX8) (T := TX8) (N := 30) (ty := .array .int) (w2 := [(h, .inr (8, [.int 0, .ref h_text, .ref h_many, .ref h_ones, .ref h_others, .ref h_kinds, .ref h_firsts, .ref h_persons, .ref h_gone, .ref h_at, .ref h_fines, .int 0, .int 0, .null, .int 0, .null, .null, .int 0, .null, .int 0, .null, .null, .null, .null, .null, .null, .int 0, .int 0, .null, .null])), (h_text, .inl (cyI, 200, .inl (fun _ => 0))), (h_many, .inl (cyI, 2, .inl (fun _ => 0))), (h_ones, .inl (cyI, 10, .inl (fun _ => 0))), (h_others, .inl (cyI, 10, .inl (fun _ => 0))), (h_kinds, .inl (cyI, 10, .inl (fun _ => 0))), (h_firsts, .inl (cyI, 10, .inl (fun _ => 0))), (h_persons, .inl (cyI, 2, .inl (fun _ => 0))), (h_gone, .inl (cyI, 15, .inl (fun _ => 0))), (h_at, .inl (cyI, 9, .inl (fun _ => 0))), (h_fines, .inl (cyI, 3, .inl (fun _ => 0)))]) hx hb hts hiX8 tyX8 tyX8_ok nmX8 hown hK hW 0 rfl rfl 10 (by decide) (by decide +kernel) rfl rfl rfl hin rfl (Nat.le_of_ble_eq_true rfl) rfl k_13 dX8_init_79 (fun H locs hW => ?_)
  refine lv_aload_n hx hb dX8_init_82 rfl (lv_at hl 0 rfl) ?_
  refine lv_bipush (v := 32) hx hb dX8_init_83 (by decide) ?_
  refine zw_newi hx hb k_3 hK hA hW 32 (by decide) (by decide) (Nat.le_of_ble_eq_true rfl) (Nat.le_of_ble_eq_true rfl) (Nat.le_of_ble_eq_true rfl) dX8_init_85 (fun h_undos H hW => ?_)
  replace hW : Wd (dC, dI) A s.heap ([(h, .inr (8, [.int 0, .ref h_text, .ref h_many, .ref h_ones, .ref h_others, .ref h_kinds, .ref h_firsts, .ref h_persons, .ref h_gone, .ref h_at, .ref h_fines, .int 0, .int 0, .null, .int 0, .null, .null, .int 0, .null, .int 0, .null, .null, .null, .null, .null, .null, .int 0, .int 0, .null, .null])), (h_text, .inl (cyI, 200, .inl (fun _ => 0))), (h_many, .inl (cyI, 2, .inl (fun _ => 0))), (h_ones, .inl (cyI, 10, .inl (fun _ => 0))), (h_others, .inl (cyI, 10, .inl (fun _ => 0))), (h_kinds, .inl (cyI, 10, .inl (fun _ => 0))), (h_firsts, .inl (cyI, 10, .inl (fun _ => 0))), (h_persons, .inl (cyI, 2, .inl (fun _ => 0))), (h_gone, .inl (cyI, 15, .inl (fun _ => 0))), (h_at, .inl (cyI, 9, .inl (fun _ => 0))), (h_fines, .inl (cyI, 3, .inl (fun _ => 0))), (h_undos, .inl (cyI, 32, .inl (fun _ => 0)))] : va_W) H _ := hW
  refine zw_putF (ci := 8) (C := RX8) (T := TX8) (N := 30) (ty := .array .int) (w2 := [(h, .inr (8, [.int 0, .ref h_text, .ref h_many, .ref h_ones, .ref h_others, .ref h_kinds, .ref h_firsts, .ref h_persons, .ref h_gone, .ref h_at, .ref h_fines, .int 0, .int 0, .ref h_undos, .int 0, .null, .null, .int 0, .null, .int 0, .null, .null, .null, .null, .null, .null, .int 0, .int 0, .null, .null])), (h_text, .inl (cyI, 200, .inl (fun _ => 0))), (h_many, .inl (cyI, 2, .inl (fun _ => 0))), (h_ones, .inl (cyI, 10, .inl (fun _ => 0))), (h_others, .inl (cyI, 10, .inl (fun _ => 0))), (h_kinds, .inl (cyI, 10, .inl (fun _ => 0))), (h_firsts, .inl (cyI, 10, .inl (fun _ => 0))), (h_persons, .inl (cyI, 2, .inl (fun _ => 0))), (h_gone, .inl (cyI, 15, .inl (fun _ => 0))), (h_at, .inl (cyI, 9, .inl (fun _ => 0))), (h_fines, .inl (cyI, 3, .inl (fun _ => 0))), (h_undos, .inl (cyI, 32, .inl (fun _ => 0)))]) hx hb hts hiX8 tyX8 tyX8_ok nmX8 hown hK hW 0 rfl rfl 13 (by decide) (by decide +kernel) rfl rfl rfl hin rfl (Nat.le_of_ble_eq_true rfl) rfl k_14 dX8_init_87 (fun H locs hW => ?_)
  refine lv_aload_n hx hb dX8_init_90 rfl (lv_at hl 0 rfl) ?_
  refine lv_bipush (v := 10) hx hb dX8_init_91 (by decide) ?_
  refine zw_newi hx hb k_3 hK hA hW 10 (by decide) (by decide) (Nat.le_of_ble_eq_true rfl) (Nat.le_of_ble_eq_true rfl) (Nat.le_of_ble_eq_true rfl) dX8_init_93 (fun h_seenOf H hW => ?_)
  replace hW : Wd (dC, dI) A s.heap ([(h, .inr (8, [.int 0, .ref h_text, .ref h_many, .ref h_ones, .ref h_others, .ref h_kinds, .ref h_firsts, .ref h_persons, .ref h_gone, .ref h_at, .ref h_fines, .int 0, .int 0, .ref h_undos, .int 0, .null, .null, .int 0, .null, .int 0, .null, .null, .null, .null, .null, .null, .int 0, .int 0, .null, .null])), (h_text, .inl (cyI, 200, .inl (fun _ => 0))), (h_many, .inl (cyI, 2, .inl (fun _ => 0))), (h_ones, .inl (cyI, 10, .inl (fun _ => 0))), (h_others, .inl (cyI, 10, .inl (fun _ => 0))), (h_kinds, .inl (cyI, 10, .inl (fun _ => 0))), (h_firsts, .inl (cyI, 10, .inl (fun _ => 0))), (h_persons, .inl (cyI, 2, .inl (fun _ => 0))), (h_gone, .inl (cyI, 15, .inl (fun _ => 0))), (h_at, .inl (cyI, 9, .inl (fun _ => 0))), (h_fines, .inl (cyI, 3, .inl (fun _ => 0))), (h_undos, .inl (cyI, 32, .inl (fun _ => 0))), (h_seenOf, .inl (cyI, 10, .inl (fun _ => 0)))] : va_W) H _ := hW
  refine zw_putF (ci := 8) (C := RX8) (T := TX8) (N := 30) (ty := .array .int) (w2 := [(h, .inr (8, [.int 0, .ref h_text, .ref h_many, .ref h_ones, .ref h_others, .ref h_kinds, .ref h_firsts, .ref h_persons, .ref h_gone, .ref h_at, .ref h_fines, .int 0, .int 0, .ref h_undos, .int 0, .ref h_seenOf, .null, .int 0, .null, .int 0, .null, .null, .null, .null, .null, .null, .int 0, .int 0, .null, .null])), (h_text, .inl (cyI, 200, .inl (fun _ => 0))), (h_many, .inl (cyI, 2, .inl (fun _ => 0))), (h_ones, .inl (cyI, 10, .inl (fun _ => 0))), (h_others, .inl (cyI, 10, .inl (fun _ => 0))), (h_kinds, .inl (cyI, 10, .inl (fun _ => 0))), (h_firsts, .inl (cyI, 10, .inl (fun _ => 0))), (h_persons, .inl (cyI, 2, .inl (fun _ => 0))), (h_gone, .inl (cyI, 15, .inl (fun _ => 0))), (h_at, .inl (cyI, 9, .inl (fun _ => 0))), (h_fines, .inl (cyI, 3, .inl (fun _ => 0))), (h_undos, .inl (cyI, 32, .inl (fun _ => 0))), (h_seenOf, .inl (cyI, 10, .inl (fun _ => 0)))]) hx hb hts hiX8 tyX8 tyX8_ok nmX8 hown hK hW 0 rfl rfl 15 (by decide) (by decide +kernel) rfl rfl rfl hin rfl (Nat.le_of_ble_eq_true rfl) rfl k_15 dX8_init_95 (fun H locs hW => ?_)
  refine lv_aload_n hx hb dX8_init_98 rfl (lv_at hl 0 rfl) ?_
  refine lv_bipush (v := 10) hx hb dX8_init_99 (by decide) ?_
  refine zw_newi hx hb k_3 hK hA hW 10 (by decide) (by decide) (Nat.le_of_ble_eq_true rfl) (Nat.le_of_ble_eq_true rfl) (Nat.le_of_ble_eq_true rfl) dX8_init_101 (fun h_seenOpen H hW => ?_)
  replace hW : Wd (dC, dI) A s.heap ([(h, .inr (8, [.int 0, .ref h_text, .ref h_many, .ref h_ones, .ref h_others, .ref h_kinds, .ref h_firsts, .ref h_persons, .ref h_gone, .ref h_at, .ref h_fines, .int 0, .int 0, .ref h_undos, .int 0, .ref h_seenOf, .null, .int 0, .null, .int 0, .null, .null, .null, .null, .null, .null, .int 0, .int 0, .null, .null])), (h_text, .inl (cyI, 200, .inl (fun _ => 0))), (h_many, .inl (cyI, 2, .inl (fun _ => 0))), (h_ones, .inl (cyI, 10, .inl (fun _ => 0))), (h_others, .inl (cyI, 10, .inl (fun _ => 0))), (h_kinds, .inl (cyI, 10, .inl (fun _ => 0))), (h_firsts, .inl (cyI, 10, .inl (fun _ => 0))), (h_persons, .inl (cyI, 2, .inl (fun _ => 0))), (h_gone, .inl (cyI, 15, .inl (fun _ => 0))), (h_at, .inl (cyI, 9, .inl (fun _ => 0))), (h_fines, .inl (cyI, 3, .inl (fun _ => 0))), (h_undos, .inl (cyI, 32, .inl (fun _ => 0))), (h_seenOf, .inl (cyI, 10, .inl (fun _ => 0))), (h_seenOpen, .inl (cyI, 10, .inl (fun _ => 0)))] : va_W) H _ := hW
  refine zw_putF (ci := 8) (C := RX8) (T := TX8) (N := 30) (ty := .array .int) (w2 := [(h, .inr (8, [.int 0, .ref h_text, .ref h_many, .ref h_ones, .ref h_others, .ref h_kinds, .ref h_firsts, .ref h_persons, .ref h_gone, .ref h_at, .ref h_fines, .int 0, .int 0, .ref h_undos, .int 0, .ref h_seenOf, .ref h_seenOpen, .int 0, .null, .int 0, .null, .null, .null, .null, .null, .null, .int 0, .int 0, .null, .null])), (h_text, .inl (cyI, 200, .inl (fun _ => 0))), (h_many, .inl (cyI, 2, .inl (fun _ => 0))), (h_ones, .inl (cyI, 10, .inl (fun _ => 0))), (h_others, .inl (cyI, 10, .inl (fun _ => 0))), (h_kinds, .inl (cyI, 10, .inl (fun _ => 0))), (h_firsts, .inl (cyI, 10, .inl (fun _ => 0))), (h_persons, .inl (cyI, 2, .inl (fun _ => 0))), (h_gone, .inl (cyI, 15, .inl (fun _ => 0))), (h_at, .inl (cyI, 9, .inl (fun _ => 0))), (h_fines, .inl (cyI, 3, .inl (fun _ => 0))), (h_undos, .inl (cyI, 32, .inl (fun _ => 0))), (h_seenOf, .inl (cyI, 10, .inl (fun _ => 0))), (h_seenOpen, .inl (cyI, 10, .inl (fun _ => 0)))]) hx hb hts hiX8 tyX8 tyX8_ok nmX8 hown hK hW 0 rfl rfl 16 (by decide) (by decide +kernel) rfl rfl rfl hin rfl (Nat.le_of_ble_eq_true rfl) rfl k_16 dX8_init_103 (fun H locs hW => ?_)
  refine lv_aload_n hx hb dX8_init_106 rfl (lv_at hl 0 rfl) ?_
  refine lv_bipush (v := 8) hx hb dX8_init_107 (by decide) ?_
  refine zw_newi hx hb k_3 hK hA hW 8 (by decide) (by decide) (Nat.le_of_ble_eq_true rfl) (Nat.le_of_ble_eq_true rfl) (Nat.le_of_ble_eq_true rfl) dX8_init_109 (fun h_path H hW => ?_)
  replace hW : Wd (dC, dI) A s.heap ([(h, .inr (8, [.int 0, .ref h_text, .ref h_many, .ref h_ones, .ref h_others, .ref h_kinds, .ref h_firsts, .ref h_persons, .ref h_gone, .ref h_at, .ref h_fines, .int 0, .int 0, .ref h_undos, .int 0, .ref h_seenOf, .ref h_seenOpen, .int 0, .null, .int 0, .null, .null, .null, .null, .null, .null, .int 0, .int 0, .null, .null])), (h_text, .inl (cyI, 200, .inl (fun _ => 0))), (h_many, .inl (cyI, 2, .inl (fun _ => 0))), (h_ones, .inl (cyI, 10, .inl (fun _ => 0))), (h_others, .inl (cyI, 10, .inl (fun _ => 0))), (h_kinds, .inl (cyI, 10, .inl (fun _ => 0))), (h_firsts, .inl (cyI, 10, .inl (fun _ => 0))), (h_persons, .inl (cyI, 2, .inl (fun _ => 0))), (h_gone, .inl (cyI, 15, .inl (fun _ => 0))), (h_at, .inl (cyI, 9, .inl (fun _ => 0))), (h_fines, .inl (cyI, 3, .inl (fun _ => 0))), (h_undos, .inl (cyI, 32, .inl (fun _ => 0))), (h_seenOf, .inl (cyI, 10, .inl (fun _ => 0))), (h_seenOpen, .inl (cyI, 10, .inl (fun _ => 0))), (h_path, .inl (cyI, 8, .inl (fun _ => 0)))] : va_W) H _ := hW
  refine zw_putF (ci := 8) (C := RX8) (T := TX8) (N := 30) (ty := .array .int) (w2 := [(h, .inr (8, [.int 0, .ref h_text, .ref h_many, .ref h_ones, .ref h_others, .ref h_kinds, .ref h_firsts, .ref h_persons, .ref h_gone, .ref h_at, .ref h_fines, .int 0, .int 0, .ref h_undos, .int 0, .ref h_seenOf, .ref h_seenOpen, .int 0, .ref h_path, .int 0, .null, .null, .null, .null, .null, .null, .int 0, .int 0, .null, .null])), (h_text, .inl (cyI, 200, .inl (fun _ => 0))), (h_many, .inl (cyI, 2, .inl (fun _ => 0))), (h_ones, .inl (cyI, 10, .inl (fun _ => 0))), (h_others, .inl (cyI, 10, .inl (fun _ => 0))), (h_kinds, .inl (cyI, 10, .inl (fun _ => 0))), (h_firsts, .inl (cyI, 10, .inl (fun _ => 0))), (h_persons, .inl (cyI, 2, .inl (fun _ => 0))), (h_gone, .inl (cyI, 15, .inl (fun _ => 0))), (h_at, .inl (cyI, 9, .inl (fun _ => 0))), (h_fines, .inl (cyI, 3, .inl (fun _ => 0))), (h_undos, .inl (cyI, 32, .inl (fun _ => 0))), (h_seenOf, .inl (cyI, 10, .inl (fun _ => 0))), (h_seenOpen, .inl (cyI, 10, .inl (fun _ => 0))), (h_path, .inl (cyI, 8, .inl (fun _ => 0)))]) hx hb hts hiX8 tyX8 tyX8_ok nmX8 hown hK hW 0 rfl rfl 18 (by decide) (by decide +kernel) rfl rfl rfl hin rfl (Nat.le_of_ble_eq_true rfl) rfl k_17 dX8_init_111 (fun H locs hW => ?_)
  refine lv_aload_n hx hb dX8_init_114 rfl (lv_at hl 0 rfl) ?_
  refine lv_iconst (v := 4) hx hb dX8_init_115 (by decide) ?_
  refine zw_newi hx hb k_3 hK hA hW 4 (by decide) (by decide) (Nat.le_of_ble_eq_true rfl) (Nat.le_of_ble_eq_true rfl) (Nat.le_of_ble_eq_true rfl) dX8_init_116 (fun h_told H hW => ?_)
  replace hW : Wd (dC, dI) A s.heap ([(h, .inr (8, [.int 0, .ref h_text, .ref h_many, .ref h_ones, .ref h_others, .ref h_kinds, .ref h_firsts, .ref h_persons, .ref h_gone, .ref h_at, .ref h_fines, .int 0, .int 0, .ref h_undos, .int 0, .ref h_seenOf, .ref h_seenOpen, .int 0, .ref h_path, .int 0, .null, .null, .null, .null, .null, .null, .int 0, .int 0, .null, .null])), (h_text, .inl (cyI, 200, .inl (fun _ => 0))), (h_many, .inl (cyI, 2, .inl (fun _ => 0))), (h_ones, .inl (cyI, 10, .inl (fun _ => 0))), (h_others, .inl (cyI, 10, .inl (fun _ => 0))), (h_kinds, .inl (cyI, 10, .inl (fun _ => 0))), (h_firsts, .inl (cyI, 10, .inl (fun _ => 0))), (h_persons, .inl (cyI, 2, .inl (fun _ => 0))), (h_gone, .inl (cyI, 15, .inl (fun _ => 0))), (h_at, .inl (cyI, 9, .inl (fun _ => 0))), (h_fines, .inl (cyI, 3, .inl (fun _ => 0))), (h_undos, .inl (cyI, 32, .inl (fun _ => 0))), (h_seenOf, .inl (cyI, 10, .inl (fun _ => 0))), (h_seenOpen, .inl (cyI, 10, .inl (fun _ => 0))), (h_path, .inl (cyI, 8, .inl (fun _ => 0))), (h_told, .inl (cyI, 4, .inl (fun _ => 0)))] : va_W) H _ := hW
  refine zw_putF (ci := 8) (C := RX8) (T := TX8) (N := 30) (ty := .array .int) (w2 := [(h, .inr (8, [.int 0, .ref h_text, .ref h_many, .ref h_ones, .ref h_others, .ref h_kinds, .ref h_firsts, .ref h_persons, .ref h_gone, .ref h_at, .ref h_fines, .int 0, .int 0, .ref h_undos, .int 0, .ref h_seenOf, .ref h_seenOpen, .int 0, .ref h_path, .int 0, .ref h_told, .null, .null, .null, .null, .null, .int 0, .int 0, .null, .null])), (h_text, .inl (cyI, 200, .inl (fun _ => 0))), (h_many, .inl (cyI, 2, .inl (fun _ => 0))), (h_ones, .inl (cyI, 10, .inl (fun _ => 0))), (h_others, .inl (cyI, 10, .inl (fun _ => 0))), (h_kinds, .inl (cyI, 10, .inl (fun _ => 0))), (h_firsts, .inl (cyI, 10, .inl (fun _ => 0))), (h_persons, .inl (cyI, 2, .inl (fun _ => 0))), (h_gone, .inl (cyI, 15, .inl (fun _ => 0))), (h_at, .inl (cyI, 9, .inl (fun _ => 0))), (h_fines, .inl (cyI, 3, .inl (fun _ => 0))), (h_undos, .inl (cyI, 32, .inl (fun _ => 0))), (h_seenOf, .inl (cyI, 10, .inl (fun _ => 0))), (h_seenOpen, .inl (cyI, 10, .inl (fun _ => 0))), (h_path, .inl (cyI, 8, .inl (fun _ => 0))), (h_told, .inl (cyI, 4, .inl (fun _ => 0)))]) hx hb hts hiX8 tyX8 tyX8_ok nmX8 hown hK hW 0 rfl rfl 20 (by decide) (by decide +kernel) rfl rfl rfl hin rfl (Nat.le_of_ble_eq_true rfl) rfl k_18 dX8_init_118 (fun H locs hW => ?_)
  refine lv_aload_n hx hb dX8_init_121 rfl (lv_at hl 0 rfl) ?_
  refine lv_iconst (v := 5) hx hb dX8_init_122 (by decide) ?_
  refine zw_newi hx hb k_3 hK hA hW 5 (by decide) (by decide) (Nat.le_of_ble_eq_true rfl) (Nat.le_of_ble_eq_true rfl) (Nat.le_of_ble_eq_true rfl) dX8_init_123 (fun h_counts H hW => ?_)
  replace hW : Wd (dC, dI) A s.heap ([(h, .inr (8, [.int 0, .ref h_text, .ref h_many, .ref h_ones, .ref h_others, .ref h_kinds, .ref h_firsts, .ref h_persons, .ref h_gone, .ref h_at, .ref h_fines, .int 0, .int 0, .ref h_undos, .int 0, .ref h_seenOf, .ref h_seenOpen, .int 0, .ref h_path, .int 0, .ref h_told, .null, .null, .null, .null, .null, .int 0, .int 0, .null, .null])), (h_text, .inl (cyI, 200, .inl (fun _ => 0))), (h_many, .inl (cyI, 2, .inl (fun _ => 0))), (h_ones, .inl (cyI, 10, .inl (fun _ => 0))), (h_others, .inl (cyI, 10, .inl (fun _ => 0))), (h_kinds, .inl (cyI, 10, .inl (fun _ => 0))), (h_firsts, .inl (cyI, 10, .inl (fun _ => 0))), (h_persons, .inl (cyI, 2, .inl (fun _ => 0))), (h_gone, .inl (cyI, 15, .inl (fun _ => 0))), (h_at, .inl (cyI, 9, .inl (fun _ => 0))), (h_fines, .inl (cyI, 3, .inl (fun _ => 0))), (h_undos, .inl (cyI, 32, .inl (fun _ => 0))), (h_seenOf, .inl (cyI, 10, .inl (fun _ => 0))), (h_seenOpen, .inl (cyI, 10, .inl (fun _ => 0))), (h_path, .inl (cyI, 8, .inl (fun _ => 0))), (h_told, .inl (cyI, 4, .inl (fun _ => 0))), (h_counts, .inl (cyI, 5, .inl (fun _ => 0)))] : va_W) H _ := hW
  refine zw_putF (ci := 8) (C := RX8) (T := TX8) (N := 30) (ty := .array .int) (w2 := [(h, .inr (8, [.int 0, .ref h_text, .ref h_many, .ref h_ones, .ref h_others, .ref h_kinds, .ref h_firsts, .ref h_persons, .ref h_gone, .ref h_at, .ref h_fines, .int 0, .int 0, .ref h_undos, .int 0, .ref h_seenOf, .ref h_seenOpen, .int 0, .ref h_path, .int 0, .ref h_told, .ref h_counts, .null, .null, .null, .null, .int 0, .int 0, .null, .null])), (h_text, .inl (cyI, 200, .inl (fun _ => 0))), (h_many, .inl (cyI, 2, .inl (fun _ => 0))), (h_ones, .inl (cyI, 10, .inl (fun _ => 0))), (h_others, .inl (cyI, 10, .inl (fun _ => 0))), (h_kinds, .inl (cyI, 10, .inl (fun _ => 0))), (h_firsts, .inl (cyI, 10, .inl (fun _ => 0))), (h_persons, .inl (cyI, 2, .inl (fun _ => 0))), (h_gone, .inl (cyI, 15, .inl (fun _ => 0))), (h_at, .inl (cyI, 9, .inl (fun _ => 0))), (h_fines, .inl (cyI, 3, .inl (fun _ => 0))), (h_undos, .inl (cyI, 32, .inl (fun _ => 0))), (h_seenOf, .inl (cyI, 10, .inl (fun _ => 0))), (h_seenOpen, .inl (cyI, 10, .inl (fun _ => 0))), (h_path, .inl (cyI, 8, .inl (fun _ => 0))), (h_told, .inl (cyI, 4, .inl (fun _ => 0))), (h_counts, .inl (cyI, 5, .inl (fun _ => 0)))]) hx hb hts hiX8 tyX8 tyX8_ok nmX8 hown hK hW 0 rfl rfl 21 (by decide) (by decide +kernel) rfl rfl rfl hin rfl (Nat.le_of_ble_eq_true rfl) rfl k_19 dX8_init_125 (fun H locs hW => ?_)
  refine lv_aload_n hx hb dX8_init_128 rfl (lv_at hl 0 rfl) ?_
  refine lv_iconst (v := 3) hx hb dX8_init_129 (by decide) ?_
  refine zw_newi hx hb k_3 hK hA hW 3 (by decide) (by decide) (Nat.le_of_ble_eq_true rfl) (Nat.le_of_ble_eq_true rfl) (Nat.le_of_ble_eq_true rfl) dX8_init_130 (fun h_spots H hW => ?_)
  replace hW : Wd (dC, dI) A s.heap ([(h, .inr (8, [.int 0, .ref h_text, .ref h_many, .ref h_ones, .ref h_others, .ref h_kinds, .ref h_firsts, .ref h_persons, .ref h_gone, .ref h_at, .ref h_fines, .int 0, .int 0, .ref h_undos, .int 0, .ref h_seenOf, .ref h_seenOpen, .int 0, .ref h_path, .int 0, .ref h_told, .ref h_counts, .null, .null, .null, .null, .int 0, .int 0, .null, .null])), (h_text, .inl (cyI, 200, .inl (fun _ => 0))), (h_many, .inl (cyI, 2, .inl (fun _ => 0))), (h_ones, .inl (cyI, 10, .inl (fun _ => 0))), (h_others, .inl (cyI, 10, .inl (fun _ => 0))), (h_kinds, .inl (cyI, 10, .inl (fun _ => 0))), (h_firsts, .inl (cyI, 10, .inl (fun _ => 0))), (h_persons, .inl (cyI, 2, .inl (fun _ => 0))), (h_gone, .inl (cyI, 15, .inl (fun _ => 0))), (h_at, .inl (cyI, 9, .inl (fun _ => 0))), (h_fines, .inl (cyI, 3, .inl (fun _ => 0))), (h_undos, .inl (cyI, 32, .inl (fun _ => 0))), (h_seenOf, .inl (cyI, 10, .inl (fun _ => 0))), (h_seenOpen, .inl (cyI, 10, .inl (fun _ => 0))), (h_path, .inl (cyI, 8, .inl (fun _ => 0))), (h_told, .inl (cyI, 4, .inl (fun _ => 0))), (h_counts, .inl (cyI, 5, .inl (fun _ => 0))), (h_spots, .inl (cyI, 3, .inl (fun _ => 0)))] : va_W) H _ := hW
  refine zw_putF (ci := 8) (C := RX8) (T := TX8) (N := 30) (ty := .array .int) (w2 := [(h, .inr (8, [.int 0, .ref h_text, .ref h_many, .ref h_ones, .ref h_others, .ref h_kinds, .ref h_firsts, .ref h_persons, .ref h_gone, .ref h_at, .ref h_fines, .int 0, .int 0, .ref h_undos, .int 0, .ref h_seenOf, .ref h_seenOpen, .int 0, .ref h_path, .int 0, .ref h_told, .ref h_counts, .ref h_spots, .null, .null, .null, .int 0, .int 0, .null, .null])), (h_text, .inl (cyI, 200, .inl (fun _ => 0))), (h_many, .inl (cyI, 2, .inl (fun _ => 0))), (h_ones, .inl (cyI, 10, .inl (fun _ => 0))), (h_others, .inl (cyI, 10, .inl (fun _ => 0))), (h_kinds, .inl (cyI, 10, .inl (fun _ => 0))), (h_firsts, .inl (cyI, 10, .inl (fun _ => 0))), (h_persons, .inl (cyI, 2, .inl (fun _ => 0))), (h_gone, .inl (cyI, 15, .inl (fun _ => 0))), (h_at, .inl (cyI, 9, .inl (fun _ => 0))), (h_fines, .inl (cyI, 3, .inl (fun _ => 0))), (h_undos, .inl (cyI, 32, .inl (fun _ => 0))), (h_seenOf, .inl (cyI, 10, .inl (fun _ => 0))), (h_seenOpen, .inl (cyI, 10, .inl (fun _ => 0))), (h_path, .inl (cyI, 8, .inl (fun _ => 0))), (h_told, .inl (cyI, 4, .inl (fun _ => 0))), (h_counts, .inl (cyI, 5, .inl (fun _ => 0))), (h_spots, .inl (cyI, 3, .inl (fun _ => 0)))]) hx hb hts hiX8 tyX8 tyX8_ok nmX8 hown hK hW 0 rfl rfl 22 (by decide) (by decide +kernel) rfl rfl rfl hin rfl (Nat.le_of_ble_eq_true rfl) rfl k_20 dX8_init_132 (fun H locs hW => ?_)
  refine lv_aload_n hx hb dX8_init_135 rfl (lv_at hl 0 rfl) ?_
  refine lv_sipush (v := 30400) hx hb dX8_init_136 (by decide) ?_
  refine zw_newi hx hb k_3 hK hA hW 30400 (by decide) (by decide) (Nat.le_of_ble_eq_true rfl) (Nat.le_of_ble_eq_true rfl) (Nat.le_of_ble_eq_true rfl) dX8_init_139 (fun h_far H hW => ?_)
  replace hW : Wd (dC, dI) A s.heap ([(h, .inr (8, [.int 0, .ref h_text, .ref h_many, .ref h_ones, .ref h_others, .ref h_kinds, .ref h_firsts, .ref h_persons, .ref h_gone, .ref h_at, .ref h_fines, .int 0, .int 0, .ref h_undos, .int 0, .ref h_seenOf, .ref h_seenOpen, .int 0, .ref h_path, .int 0, .ref h_told, .ref h_counts, .ref h_spots, .null, .null, .null, .int 0, .int 0, .null, .null])), (h_text, .inl (cyI, 200, .inl (fun _ => 0))), (h_many, .inl (cyI, 2, .inl (fun _ => 0))), (h_ones, .inl (cyI, 10, .inl (fun _ => 0))), (h_others, .inl (cyI, 10, .inl (fun _ => 0))), (h_kinds, .inl (cyI, 10, .inl (fun _ => 0))), (h_firsts, .inl (cyI, 10, .inl (fun _ => 0))), (h_persons, .inl (cyI, 2, .inl (fun _ => 0))), (h_gone, .inl (cyI, 15, .inl (fun _ => 0))), (h_at, .inl (cyI, 9, .inl (fun _ => 0))), (h_fines, .inl (cyI, 3, .inl (fun _ => 0))), (h_undos, .inl (cyI, 32, .inl (fun _ => 0))), (h_seenOf, .inl (cyI, 10, .inl (fun _ => 0))), (h_seenOpen, .inl (cyI, 10, .inl (fun _ => 0))), (h_path, .inl (cyI, 8, .inl (fun _ => 0))), (h_told, .inl (cyI, 4, .inl (fun _ => 0))), (h_counts, .inl (cyI, 5, .inl (fun _ => 0))), (h_spots, .inl (cyI, 3, .inl (fun _ => 0))), (h_far, .inl (cyI, 30400, .inl (fun _ => 0)))] : va_W) H _ := hW
  refine zw_putF (ci := 8) (C := RX8) (T := TX8) (N := 30) (ty := .array .int) (w2 := [(h, .inr (8, [.int 0, .ref h_text, .ref h_many, .ref h_ones, .ref h_others, .ref h_kinds, .ref h_firsts, .ref h_persons, .ref h_gone, .ref h_at, .ref h_fines, .int 0, .int 0, .ref h_undos, .int 0, .ref h_seenOf, .ref h_seenOpen, .int 0, .ref h_path, .int 0, .ref h_told, .ref h_counts, .ref h_spots, .ref h_far, .null, .null, .int 0, .int 0, .null, .null])), (h_text, .inl (cyI, 200, .inl (fun _ => 0))), (h_many, .inl (cyI, 2, .inl (fun _ => 0))), (h_ones, .inl (cyI, 10, .inl (fun _ => 0))), (h_others, .inl (cyI, 10, .inl (fun _ => 0))), (h_kinds, .inl (cyI, 10, .inl (fun _ => 0))), (h_firsts, .inl (cyI, 10, .inl (fun _ => 0))), (h_persons, .inl (cyI, 2, .inl (fun _ => 0))), (h_gone, .inl (cyI, 15, .inl (fun _ => 0))), (h_at, .inl (cyI, 9, .inl (fun _ => 0))), (h_fines, .inl (cyI, 3, .inl (fun _ => 0))), (h_undos, .inl (cyI, 32, .inl (fun _ => 0))), (h_seenOf, .inl (cyI, 10, .inl (fun _ => 0))), (h_seenOpen, .inl (cyI, 10, .inl (fun _ => 0))), (h_path, .inl (cyI, 8, .inl (fun _ => 0))), (h_told, .inl (cyI, 4, .inl (fun _ => 0))), (h_counts, .inl (cyI, 5, .inl (fun _ => 0))), (h_spots, .inl (cyI, 3, .inl (fun _ => 0))), (h_far, .inl (cyI, 30400, .inl (fun _ => 0)))]) hx hb hts hiX8 tyX8 tyX8_ok nmX8 hown hK hW 0 rfl rfl 23 (by decide) (by decide +kernel) rfl rfl rfl hin rfl (Nat.le_of_ble_eq_true rfl) rfl k_21 dX8_init_141 (fun H locs hW => ?_)
  refine lv_aload_n hx hb dX8_init_144 rfl (lv_at hl 0 rfl) ?_
  refine lv_sipush (v := 30400) hx hb dX8_init_145 (by decide) ?_
  refine zw_newi hx hb k_3 hK hA hW 30400 (by decide) (by decide) (Nat.le_of_ble_eq_true rfl) (Nat.le_of_ble_eq_true rfl) (Nat.le_of_ble_eq_true rfl) dX8_init_148 (fun h_row H hW => ?_)
  replace hW : Wd (dC, dI) A s.heap ([(h, .inr (8, [.int 0, .ref h_text, .ref h_many, .ref h_ones, .ref h_others, .ref h_kinds, .ref h_firsts, .ref h_persons, .ref h_gone, .ref h_at, .ref h_fines, .int 0, .int 0, .ref h_undos, .int 0, .ref h_seenOf, .ref h_seenOpen, .int 0, .ref h_path, .int 0, .ref h_told, .ref h_counts, .ref h_spots, .ref h_far, .null, .null, .int 0, .int 0, .null, .null])), (h_text, .inl (cyI, 200, .inl (fun _ => 0))), (h_many, .inl (cyI, 2, .inl (fun _ => 0))), (h_ones, .inl (cyI, 10, .inl (fun _ => 0))), (h_others, .inl (cyI, 10, .inl (fun _ => 0))), (h_kinds, .inl (cyI, 10, .inl (fun _ => 0))), (h_firsts, .inl (cyI, 10, .inl (fun _ => 0))), (h_persons, .inl (cyI, 2, .inl (fun _ => 0))), (h_gone, .inl (cyI, 15, .inl (fun _ => 0))), (h_at, .inl (cyI, 9, .inl (fun _ => 0))), (h_fines, .inl (cyI, 3, .inl (fun _ => 0))), (h_undos, .inl (cyI, 32, .inl (fun _ => 0))), (h_seenOf, .inl (cyI, 10, .inl (fun _ => 0))), (h_seenOpen, .inl (cyI, 10, .inl (fun _ => 0))), (h_path, .inl (cyI, 8, .inl (fun _ => 0))), (h_told, .inl (cyI, 4, .inl (fun _ => 0))), (h_counts, .inl (cyI, 5, .inl (fun _ => 0))), (h_spots, .inl (cyI, 3, .inl (fun _ => 0))), (h_far, .inl (cyI, 30400, .inl (fun _ => 0))), (h_row, .inl (cyI, 30400, .inl (fun _ => 0)))] : va_W) H _ := hW
  refine zw_putF (ci := 8) (C := RX8) (T := TX8) (N := 30) (ty := .array .int) (w2 := [(h, .inr (8, [.int 0, .ref h_text, .ref h_many, .ref h_ones, .ref h_others, .ref h_kinds, .ref h_firsts, .ref h_persons, .ref h_gone, .ref h_at, .ref h_fines, .int 0, .int 0, .ref h_undos, .int 0, .ref h_seenOf, .ref h_seenOpen, .int 0, .ref h_path, .int 0, .ref h_told, .ref h_counts, .ref h_spots, .ref h_far, .ref h_row, .null, .int 0, .int 0, .null, .null])), (h_text, .inl (cyI, 200, .inl (fun _ => 0))), (h_many, .inl (cyI, 2, .inl (fun _ => 0))), (h_ones, .inl (cyI, 10, .inl (fun _ => 0))), (h_others, .inl (cyI, 10, .inl (fun _ => 0))), (h_kinds, .inl (cyI, 10, .inl (fun _ => 0))), (h_firsts, .inl (cyI, 10, .inl (fun _ => 0))), (h_persons, .inl (cyI, 2, .inl (fun _ => 0))), (h_gone, .inl (cyI, 15, .inl (fun _ => 0))), (h_at, .inl (cyI, 9, .inl (fun _ => 0))), (h_fines, .inl (cyI, 3, .inl (fun _ => 0))), (h_undos, .inl (cyI, 32, .inl (fun _ => 0))), (h_seenOf, .inl (cyI, 10, .inl (fun _ => 0))), (h_seenOpen, .inl (cyI, 10, .inl (fun _ => 0))), (h_path, .inl (cyI, 8, .inl (fun _ => 0))), (h_told, .inl (cyI, 4, .inl (fun _ => 0))), (h_counts, .inl (cyI, 5, .inl (fun _ => 0))), (h_spots, .inl (cyI, 3, .inl (fun _ => 0))), (h_far, .inl (cyI, 30400, .inl (fun _ => 0))), (h_row, .inl (cyI, 30400, .inl (fun _ => 0)))]) hx hb hts hiX8 tyX8 tyX8_ok nmX8 hown hK hW 0 rfl rfl 24 (by decide) (by decide +kernel) rfl rfl rfl hin rfl (Nat.le_of_ble_eq_true rfl) rfl k_22 dX8_init_150 (fun H locs hW => ?_)
  refine lv_aload_n hx hb dX8_init_153 rfl (lv_at hl 0 rfl) ?_
  refine lv_sipush (v := 30400) hx hb dX8_init_154 (by decide) ?_
  refine zw_newi hx hb k_3 hK hA hW 30400 (by decide) (by decide) (Nat.le_of_ble_eq_true rfl) (Nat.le_of_ble_eq_true rfl) (Nat.le_of_ble_eq_true rfl) dX8_init_157 (fun h_begins H hW => ?_)
  replace hW : Wd (dC, dI) A s.heap ([(h, .inr (8, [.int 0, .ref h_text, .ref h_many, .ref h_ones, .ref h_others, .ref h_kinds, .ref h_firsts, .ref h_persons, .ref h_gone, .ref h_at, .ref h_fines, .int 0, .int 0, .ref h_undos, .int 0, .ref h_seenOf, .ref h_seenOpen, .int 0, .ref h_path, .int 0, .ref h_told, .ref h_counts, .ref h_spots, .ref h_far, .ref h_row, .null, .int 0, .int 0, .null, .null])), (h_text, .inl (cyI, 200, .inl (fun _ => 0))), (h_many, .inl (cyI, 2, .inl (fun _ => 0))), (h_ones, .inl (cyI, 10, .inl (fun _ => 0))), (h_others, .inl (cyI, 10, .inl (fun _ => 0))), (h_kinds, .inl (cyI, 10, .inl (fun _ => 0))), (h_firsts, .inl (cyI, 10, .inl (fun _ => 0))), (h_persons, .inl (cyI, 2, .inl (fun _ => 0))), (h_gone, .inl (cyI, 15, .inl (fun _ => 0))), (h_at, .inl (cyI, 9, .inl (fun _ => 0))), (h_fines, .inl (cyI, 3, .inl (fun _ => 0))), (h_undos, .inl (cyI, 32, .inl (fun _ => 0))), (h_seenOf, .inl (cyI, 10, .inl (fun _ => 0))), (h_seenOpen, .inl (cyI, 10, .inl (fun _ => 0))), (h_path, .inl (cyI, 8, .inl (fun _ => 0))), (h_told, .inl (cyI, 4, .inl (fun _ => 0))), (h_counts, .inl (cyI, 5, .inl (fun _ => 0))), (h_spots, .inl (cyI, 3, .inl (fun _ => 0))), (h_far, .inl (cyI, 30400, .inl (fun _ => 0))), (h_row, .inl (cyI, 30400, .inl (fun _ => 0))), (h_begins, .inl (cyI, 30400, .inl (fun _ => 0)))] : va_W) H _ := hW
  refine zw_putF (ci := 8) (C := RX8) (T := TX8) (N := 30) (ty := .array .int) (w2 := [(h, .inr (8, [.int 0, .ref h_text, .ref h_many, .ref h_ones, .ref h_others, .ref h_kinds, .ref h_firsts, .ref h_persons, .ref h_gone, .ref h_at, .ref h_fines, .int 0, .int 0, .ref h_undos, .int 0, .ref h_seenOf, .ref h_seenOpen, .int 0, .ref h_path, .int 0, .ref h_told, .ref h_counts, .ref h_spots, .ref h_far, .ref h_row, .ref h_begins, .int 0, .int 0, .null, .null])), (h_text, .inl (cyI, 200, .inl (fun _ => 0))), (h_many, .inl (cyI, 2, .inl (fun _ => 0))), (h_ones, .inl (cyI, 10, .inl (fun _ => 0))), (h_others, .inl (cyI, 10, .inl (fun _ => 0))), (h_kinds, .inl (cyI, 10, .inl (fun _ => 0))), (h_firsts, .inl (cyI, 10, .inl (fun _ => 0))), (h_persons, .inl (cyI, 2, .inl (fun _ => 0))), (h_gone, .inl (cyI, 15, .inl (fun _ => 0))), (h_at, .inl (cyI, 9, .inl (fun _ => 0))), (h_fines, .inl (cyI, 3, .inl (fun _ => 0))), (h_undos, .inl (cyI, 32, .inl (fun _ => 0))), (h_seenOf, .inl (cyI, 10, .inl (fun _ => 0))), (h_seenOpen, .inl (cyI, 10, .inl (fun _ => 0))), (h_path, .inl (cyI, 8, .inl (fun _ => 0))), (h_told, .inl (cyI, 4, .inl (fun _ => 0))), (h_counts, .inl (cyI, 5, .inl (fun _ => 0))), (h_spots, .inl (cyI, 3, .inl (fun _ => 0))), (h_far, .inl (cyI, 30400, .inl (fun _ => 0))), (h_row, .inl (cyI, 30400, .inl (fun _ => 0))), (h_begins, .inl (cyI, 30400, .inl (fun _ => 0)))]) hx hb hts hiX8 tyX8 tyX8_ok nmX8 hown hK hW 0 rfl rfl 25 (by decide) (by decide +kernel) rfl rfl rfl hin rfl (Nat.le_of_ble_eq_true rfl) rfl k_23 dX8_init_159 (fun H locs hW => ?_)
  refine lv_aload_n hx hb dX8_init_162 rfl (lv_at hl 0 rfl) ?_
  refine lv_bipush (v := 6) hx hb dX8_init_163 (by decide) ?_
  refine zw_newl hx hb k_24 hK hA hW 6 (by decide) (by decide) (Nat.le_of_ble_eq_true rfl) (Nat.le_of_ble_eq_true rfl) (Nat.le_of_ble_eq_true rfl) dX8_init_165 (fun h_ways H hW => ?_)
  replace hW : Wd (dC, dI) A s.heap ([(h, .inr (8, [.int 0, .ref h_text, .ref h_many, .ref h_ones, .ref h_others, .ref h_kinds, .ref h_firsts, .ref h_persons, .ref h_gone, .ref h_at, .ref h_fines, .int 0, .int 0, .ref h_undos, .int 0, .ref h_seenOf, .ref h_seenOpen, .int 0, .ref h_path, .int 0, .ref h_told, .ref h_counts, .ref h_spots, .ref h_far, .ref h_row, .ref h_begins, .int 0, .int 0, .null, .null])), (h_text, .inl (cyI, 200, .inl (fun _ => 0))), (h_many, .inl (cyI, 2, .inl (fun _ => 0))), (h_ones, .inl (cyI, 10, .inl (fun _ => 0))), (h_others, .inl (cyI, 10, .inl (fun _ => 0))), (h_kinds, .inl (cyI, 10, .inl (fun _ => 0))), (h_firsts, .inl (cyI, 10, .inl (fun _ => 0))), (h_persons, .inl (cyI, 2, .inl (fun _ => 0))), (h_gone, .inl (cyI, 15, .inl (fun _ => 0))), (h_at, .inl (cyI, 9, .inl (fun _ => 0))), (h_fines, .inl (cyI, 3, .inl (fun _ => 0))), (h_undos, .inl (cyI, 32, .inl (fun _ => 0))), (h_seenOf, .inl (cyI, 10, .inl (fun _ => 0))), (h_seenOpen, .inl (cyI, 10, .inl (fun _ => 0))), (h_path, .inl (cyI, 8, .inl (fun _ => 0))), (h_told, .inl (cyI, 4, .inl (fun _ => 0))), (h_counts, .inl (cyI, 5, .inl (fun _ => 0))), (h_spots, .inl (cyI, 3, .inl (fun _ => 0))), (h_far, .inl (cyI, 30400, .inl (fun _ => 0))), (h_row, .inl (cyI, 30400, .inl (fun _ => 0))), (h_begins, .inl (cyI, 30400, .inl (fun _ => 0))), (h_ways, .inl (cyJ, 6, .inr (.inl (fun _ => 0))))] : va_W) H _ := hW
  refine zw_putF (ci := 8) (C := RX8) (T := TX8) (N := 30) (ty := .array .long) (w2 := [(h, .inr (8, [.int 0, .ref h_text, .ref h_many, .ref h_ones, .ref h_others, .ref h_kinds, .ref h_firsts, .ref h_persons, .ref h_gone, .ref h_at, .ref h_fines, .int 0, .int 0, .ref h_undos, .int 0, .ref h_seenOf, .ref h_seenOpen, .int 0, .ref h_path, .int 0, .ref h_told, .ref h_counts, .ref h_spots, .ref h_far, .ref h_row, .ref h_begins, .int 0, .int 0, .ref h_ways, .null])), (h_text, .inl (cyI, 200, .inl (fun _ => 0))), (h_many, .inl (cyI, 2, .inl (fun _ => 0))), (h_ones, .inl (cyI, 10, .inl (fun _ => 0))), (h_others, .inl (cyI, 10, .inl (fun _ => 0))), (h_kinds, .inl (cyI, 10, .inl (fun _ => 0))), (h_firsts, .inl (cyI, 10, .inl (fun _ => 0))), (h_persons, .inl (cyI, 2, .inl (fun _ => 0))), (h_gone, .inl (cyI, 15, .inl (fun _ => 0))), (h_at, .inl (cyI, 9, .inl (fun _ => 0))), (h_fines, .inl (cyI, 3, .inl (fun _ => 0))), (h_undos, .inl (cyI, 32, .inl (fun _ => 0))), (h_seenOf, .inl (cyI, 10, .inl (fun _ => 0))), (h_seenOpen, .inl (cyI, 10, .inl (fun _ => 0))), (h_path, .inl (cyI, 8, .inl (fun _ => 0))), (h_told, .inl (cyI, 4, .inl (fun _ => 0))), (h_counts, .inl (cyI, 5, .inl (fun _ => 0))), (h_spots, .inl (cyI, 3, .inl (fun _ => 0))), (h_far, .inl (cyI, 30400, .inl (fun _ => 0))), (h_row, .inl (cyI, 30400, .inl (fun _ => 0))), (h_begins, .inl (cyI, 30400, .inl (fun _ => 0))), (h_ways, .inl (cyJ, 6, .inr (.inl (fun _ => 0))))]) hx hb hts hiX8 tyX8 tyX8_ok nmX8 hown hK hW 0 rfl rfl 28 (by decide) (by decide +kernel) rfl rfl rfl hin rfl (Nat.le_of_ble_eq_true rfl) rfl k_25 dX8_init_167 (fun H locs hW => ?_)
  refine lv_aload_n hx hb dX8_init_170 rfl (lv_at hl 0 rfl) ?_
  refine lv_bipush (v := 6) hx hb dX8_init_171 (by decide) ?_
  refine zw_newl hx hb k_24 hK hA hW 6 (by decide) (by decide) (Nat.le_of_ble_eq_true rfl) (Nat.le_of_ble_eq_true rfl) (Nat.le_of_ble_eq_true rfl) dX8_init_173 (fun h_next H hW => ?_)
  replace hW : Wd (dC, dI) A s.heap ([(h, .inr (8, [.int 0, .ref h_text, .ref h_many, .ref h_ones, .ref h_others, .ref h_kinds, .ref h_firsts, .ref h_persons, .ref h_gone, .ref h_at, .ref h_fines, .int 0, .int 0, .ref h_undos, .int 0, .ref h_seenOf, .ref h_seenOpen, .int 0, .ref h_path, .int 0, .ref h_told, .ref h_counts, .ref h_spots, .ref h_far, .ref h_row, .ref h_begins, .int 0, .int 0, .ref h_ways, .null])), (h_text, .inl (cyI, 200, .inl (fun _ => 0))), (h_many, .inl (cyI, 2, .inl (fun _ => 0))), (h_ones, .inl (cyI, 10, .inl (fun _ => 0))), (h_others, .inl (cyI, 10, .inl (fun _ => 0))), (h_kinds, .inl (cyI, 10, .inl (fun _ => 0))), (h_firsts, .inl (cyI, 10, .inl (fun _ => 0))), (h_persons, .inl (cyI, 2, .inl (fun _ => 0))), (h_gone, .inl (cyI, 15, .inl (fun _ => 0))), (h_at, .inl (cyI, 9, .inl (fun _ => 0))), (h_fines, .inl (cyI, 3, .inl (fun _ => 0))), (h_undos, .inl (cyI, 32, .inl (fun _ => 0))), (h_seenOf, .inl (cyI, 10, .inl (fun _ => 0))), (h_seenOpen, .inl (cyI, 10, .inl (fun _ => 0))), (h_path, .inl (cyI, 8, .inl (fun _ => 0))), (h_told, .inl (cyI, 4, .inl (fun _ => 0))), (h_counts, .inl (cyI, 5, .inl (fun _ => 0))), (h_spots, .inl (cyI, 3, .inl (fun _ => 0))), (h_far, .inl (cyI, 30400, .inl (fun _ => 0))), (h_row, .inl (cyI, 30400, .inl (fun _ => 0))), (h_begins, .inl (cyI, 30400, .inl (fun _ => 0))), (h_ways, .inl (cyJ, 6, .inr (.inl (fun _ => 0)))), (h_next, .inl (cyJ, 6, .inr (.inl (fun _ => 0))))] : va_W) H _ := hW
  refine zw_putF (ci := 8) (C := RX8) (T := TX8) (N := 30) (ty := .array .long) (w2 := [(h, .inr (8, [.int 0, .ref h_text, .ref h_many, .ref h_ones, .ref h_others, .ref h_kinds, .ref h_firsts, .ref h_persons, .ref h_gone, .ref h_at, .ref h_fines, .int 0, .int 0, .ref h_undos, .int 0, .ref h_seenOf, .ref h_seenOpen, .int 0, .ref h_path, .int 0, .ref h_told, .ref h_counts, .ref h_spots, .ref h_far, .ref h_row, .ref h_begins, .int 0, .int 0, .ref h_ways, .ref h_next])), (h_text, .inl (cyI, 200, .inl (fun _ => 0))), (h_many, .inl (cyI, 2, .inl (fun _ => 0))), (h_ones, .inl (cyI, 10, .inl (fun _ => 0))), (h_others, .inl (cyI, 10, .inl (fun _ => 0))), (h_kinds, .inl (cyI, 10, .inl (fun _ => 0))), (h_firsts, .inl (cyI, 10, .inl (fun _ => 0))), (h_persons, .inl (cyI, 2, .inl (fun _ => 0))), (h_gone, .inl (cyI, 15, .inl (fun _ => 0))), (h_at, .inl (cyI, 9, .inl (fun _ => 0))), (h_fines, .inl (cyI, 3, .inl (fun _ => 0))), (h_undos, .inl (cyI, 32, .inl (fun _ => 0))), (h_seenOf, .inl (cyI, 10, .inl (fun _ => 0))), (h_seenOpen, .inl (cyI, 10, .inl (fun _ => 0))), (h_path, .inl (cyI, 8, .inl (fun _ => 0))), (h_told, .inl (cyI, 4, .inl (fun _ => 0))), (h_counts, .inl (cyI, 5, .inl (fun _ => 0))), (h_spots, .inl (cyI, 3, .inl (fun _ => 0))), (h_far, .inl (cyI, 30400, .inl (fun _ => 0))), (h_row, .inl (cyI, 30400, .inl (fun _ => 0))), (h_begins, .inl (cyI, 30400, .inl (fun _ => 0))), (h_ways, .inl (cyJ, 6, .inr (.inl (fun _ => 0)))), (h_next, .inl (cyJ, 6, .inr (.inl (fun _ => 0))))]) hx hb hts hiX8 tyX8 tyX8_ok nmX8 hown hK hW 0 rfl rfl 29 (by decide) (by decide +kernel) rfl rfl rfl hin rfl (Nat.le_of_ble_eq_true rfl) rfl k_26 dX8_init_175 (fun H locs hW => ?_)
  refine lv_aload_n hx hb dX8_init_178 rfl (lv_at hl 0 rfl) ?_
  refine zw_get (ci := 8) (C := RX8) (T := TX8) (N := 30) (v := .ref h_many) hx hb hts hiX8 hown hK hW 0 rfl rfl 2 (by decide) rfl k_5 dX8_init_179 ?_
  refine lv_iconst (v := 0) hx hb dX8_init_182 (by decide) ?_
  refine lv_iconst (v := 2) hx hb dX8_init_183 (by decide) ?_
  refine zw_iast hx hb hK hW 2 rfl rfl hw.1 (w2 := fun a_many_1 => [(h, .inr (8, [.int 0, .ref h_text, .ref h_many, .ref h_ones, .ref h_others, .ref h_kinds, .ref h_firsts, .ref h_persons, .ref h_gone, .ref h_at, .ref h_fines, .int 0, .int 0, .ref h_undos, .int 0, .ref h_seenOf, .ref h_seenOpen, .int 0, .ref h_path, .int 0, .ref h_told, .ref h_counts, .ref h_spots, .ref h_far, .ref h_row, .ref h_begins, .int 0, .int 0, .ref h_ways, .ref h_next])), (h_text, .inl (cyI, 200, .inl (fun _ => 0))), (h_many, .inl (cyI, 2, .inl a_many_1)), (h_ones, .inl (cyI, 10, .inl (fun _ => 0))), (h_others, .inl (cyI, 10, .inl (fun _ => 0))), (h_kinds, .inl (cyI, 10, .inl (fun _ => 0))), (h_firsts, .inl (cyI, 10, .inl (fun _ => 0))), (h_persons, .inl (cyI, 2, .inl (fun _ => 0))), (h_gone, .inl (cyI, 15, .inl (fun _ => 0))), (h_at, .inl (cyI, 9, .inl (fun _ => 0))), (h_fines, .inl (cyI, 3, .inl (fun _ => 0))), (h_undos, .inl (cyI, 32, .inl (fun _ => 0))), (h_seenOf, .inl (cyI, 10, .inl (fun _ => 0))), (h_seenOpen, .inl (cyI, 10, .inl (fun _ => 0))), (h_path, .inl (cyI, 8, .inl (fun _ => 0))), (h_told, .inl (cyI, 4, .inl (fun _ => 0))), (h_counts, .inl (cyI, 5, .inl (fun _ => 0))), (h_spots, .inl (cyI, 3, .inl (fun _ => 0))), (h_far, .inl (cyI, 30400, .inl (fun _ => 0))), (h_row, .inl (cyI, 30400, .inl (fun _ => 0))), (h_begins, .inl (cyI, 30400, .inl (fun _ => 0))), (h_ways, .inl (cyJ, 6, .inr (.inl (fun _ => 0)))), (h_next, .inl (cyJ, 6, .inr (.inl (fun _ => 0))))]) (fun _ => rfl) dX8_init_184 (fun a_many_1 H locs ea_many_1 hW => ?_)
  replace hw := hw.2 a_many_1 ea_many_1
  refine lv_aload_n hx hb dX8_init_185 rfl (lv_at hl 0 rfl) ?_
  refine zw_get (ci := 8) (C := RX8) (T := TX8) (N := 30) (v := .ref h_others) hx hb hts hiX8 hown hK hW 0 rfl rfl 4 (by decide) rfl k_7 dX8_init_186 ?_
  refine lv_iconst (v := 0) hx hb dX8_init_189 (by decide) ?_
  refine lv_iconst (v := 1) hx hb dX8_init_190 (by decide) ?_
  refine zw_iast hx hb hK hW 4 rfl rfl hw.1 (w2 := fun a_others_2 => [(h, .inr (8, [.int 0, .ref h_text, .ref h_many, .ref h_ones, .ref h_others, .ref h_kinds, .ref h_firsts, .ref h_persons, .ref h_gone, .ref h_at, .ref h_fines, .int 0, .int 0, .ref h_undos, .int 0, .ref h_seenOf, .ref h_seenOpen, .int 0, .ref h_path, .int 0, .ref h_told, .ref h_counts, .ref h_spots, .ref h_far, .ref h_row, .ref h_begins, .int 0, .int 0, .ref h_ways, .ref h_next])), (h_text, .inl (cyI, 200, .inl (fun _ => 0))), (h_many, .inl (cyI, 2, .inl a_many_1)), (h_ones, .inl (cyI, 10, .inl (fun _ => 0))), (h_others, .inl (cyI, 10, .inl a_others_2)), (h_kinds, .inl (cyI, 10, .inl (fun _ => 0))), (h_firsts, .inl (cyI, 10, .inl (fun _ => 0))), (h_persons, .inl (cyI, 2, .inl (fun _ => 0))), (h_gone, .inl (cyI, 15, .inl (fun _ => 0))), (h_at, .inl (cyI, 9, .inl (fun _ => 0))), (h_fines, .inl (cyI, 3, .inl (fun _ => 0))), (h_undos, .inl (cyI, 32, .inl (fun _ => 0))), (h_seenOf, .inl (cyI, 10, .inl (fun _ => 0))), (h_seenOpen, .inl (cyI, 10, .inl (fun _ => 0))), (h_path, .inl (cyI, 8, .inl (fun _ => 0))), (h_told, .inl (cyI, 4, .inl (fun _ => 0))), (h_counts, .inl (cyI, 5, .inl (fun _ => 0))), (h_spots, .inl (cyI, 3, .inl (fun _ => 0))), (h_far, .inl (cyI, 30400, .inl (fun _ => 0))), (h_row, .inl (cyI, 30400, .inl (fun _ => 0))), (h_begins, .inl (cyI, 30400, .inl (fun _ => 0))), (h_ways, .inl (cyJ, 6, .inr (.inl (fun _ => 0)))), (h_next, .inl (cyJ, 6, .inr (.inl (fun _ => 0))))]) (fun _ => rfl) dX8_init_191 (fun a_others_2 H locs ea_others_2 hW => ?_)
  replace hw := hw.2 a_others_2 ea_others_2
  refine lv_aload_n hx hb dX8_init_192 rfl (lv_at hl 0 rfl) ?_
  refine zw_get (ci := 8) (C := RX8) (T := TX8) (N := 30) (v := .ref h_ones) hx hb hts hiX8 hown hK hW 0 rfl rfl 3 (by decide) rfl k_6 dX8_init_193 ?_
  refine lv_iconst (v := 1) hx hb dX8_init_196 (by decide) ?_
  refine lv_iconst (v := 1) hx hb dX8_init_197 (by decide) ?_
  refine zw_iast hx hb hK hW 3 rfl rfl hw.1 (w2 := fun a_ones_3 => [(h, .inr (8, [.int 0, .ref h_text, .ref h_many, .ref h_ones, .ref h_others, .ref h_kinds, .ref h_firsts, .ref h_persons, .ref h_gone, .ref h_at, .ref h_fines, .int 0, .int 0, .ref h_undos, .int 0, .ref h_seenOf, .ref h_seenOpen, .int 0, .ref h_path, .int 0, .ref h_told, .ref h_counts, .ref h_spots, .ref h_far, .ref h_row, .ref h_begins, .int 0, .int 0, .ref h_ways, .ref h_next])), (h_text, .inl (cyI, 200, .inl (fun _ => 0))), (h_many, .inl (cyI, 2, .inl a_many_1)), (h_ones, .inl (cyI, 10, .inl a_ones_3)), (h_others, .inl (cyI, 10, .inl a_others_2)), (h_kinds, .inl (cyI, 10, .inl (fun _ => 0))), (h_firsts, .inl (cyI, 10, .inl (fun _ => 0))), (h_persons, .inl (cyI, 2, .inl (fun _ => 0))), (h_gone, .inl (cyI, 15, .inl (fun _ => 0))), (h_at, .inl (cyI, 9, .inl (fun _ => 0))), (h_fines, .inl (cyI, 3, .inl (fun _ => 0))), (h_undos, .inl (cyI, 32, .inl (fun _ => 0))), (h_seenOf, .inl (cyI, 10, .inl (fun _ => 0))), (h_seenOpen, .inl (cyI, 10, .inl (fun _ => 0))), (h_path, .inl (cyI, 8, .inl (fun _ => 0))), (h_told, .inl (cyI, 4, .inl (fun _ => 0))), (h_counts, .inl (cyI, 5, .inl (fun _ => 0))), (h_spots, .inl (cyI, 3, .inl (fun _ => 0))), (h_far, .inl (cyI, 30400, .inl (fun _ => 0))), (h_row, .inl (cyI, 30400, .inl (fun _ => 0))), (h_begins, .inl (cyI, 30400, .inl (fun _ => 0))), (h_ways, .inl (cyJ, 6, .inr (.inl (fun _ => 0)))), (h_next, .inl (cyJ, 6, .inr (.inl (fun _ => 0))))]) (fun _ => rfl) dX8_init_198 (fun a_ones_3 H locs ea_ones_3 hW => ?_)
  replace hw := hw.2 a_ones_3 ea_ones_3
  refine lv_aload_n hx hb dX8_init_199 rfl (lv_at hl 0 rfl) ?_
  refine zw_get (ci := 8) (C := RX8) (T := TX8) (N := 30) (v := .ref h_others) hx hb hts hiX8 hown hK hW 0 rfl rfl 4 (by decide) rfl k_7 dX8_init_200 ?_
  refine lv_iconst (v := 1) hx hb dX8_init_203 (by decide) ?_
  refine lv_iconst (v := 2) hx hb dX8_init_204 (by decide) ?_
  refine zw_iast hx hb hK hW 4 rfl rfl hw.1 (w2 := fun a_others_4 => [(h, .inr (8, [.int 0, .ref h_text, .ref h_many, .ref h_ones, .ref h_others, .ref h_kinds, .ref h_firsts, .ref h_persons, .ref h_gone, .ref h_at, .ref h_fines, .int 0, .int 0, .ref h_undos, .int 0, .ref h_seenOf, .ref h_seenOpen, .int 0, .ref h_path, .int 0, .ref h_told, .ref h_counts, .ref h_spots, .ref h_far, .ref h_row, .ref h_begins, .int 0, .int 0, .ref h_ways, .ref h_next])), (h_text, .inl (cyI, 200, .inl (fun _ => 0))), (h_many, .inl (cyI, 2, .inl a_many_1)), (h_ones, .inl (cyI, 10, .inl a_ones_3)), (h_others, .inl (cyI, 10, .inl a_others_4)), (h_kinds, .inl (cyI, 10, .inl (fun _ => 0))), (h_firsts, .inl (cyI, 10, .inl (fun _ => 0))), (h_persons, .inl (cyI, 2, .inl (fun _ => 0))), (h_gone, .inl (cyI, 15, .inl (fun _ => 0))), (h_at, .inl (cyI, 9, .inl (fun _ => 0))), (h_fines, .inl (cyI, 3, .inl (fun _ => 0))), (h_undos, .inl (cyI, 32, .inl (fun _ => 0))), (h_seenOf, .inl (cyI, 10, .inl (fun _ => 0))), (h_seenOpen, .inl (cyI, 10, .inl (fun _ => 0))), (h_path, .inl (cyI, 8, .inl (fun _ => 0))), (h_told, .inl (cyI, 4, .inl (fun _ => 0))), (h_counts, .inl (cyI, 5, .inl (fun _ => 0))), (h_spots, .inl (cyI, 3, .inl (fun _ => 0))), (h_far, .inl (cyI, 30400, .inl (fun _ => 0))), (h_row, .inl (cyI, 30400, .inl (fun _ => 0))), (h_begins, .inl (cyI, 30400, .inl (fun _ => 0))), (h_ways, .inl (cyJ, 6, .inr (.inl (fun _ => 0)))), (h_next, .inl (cyJ, 6, .inr (.inl (fun _ => 0))))]) (fun _ => rfl) dX8_init_205 (fun a_others_4 H locs ea_others_4 hW => ?_)
  replace hw := hw.2 a_others_4 ea_others_4
  refine lv_aload_n hx hb dX8_init_206 rfl (lv_at hl 0 rfl) ?_
  refine zw_get (ci := 8) (C := RX8) (T := TX8) (N := 30) (v := .ref h_kinds) hx hb hts hiX8 hown hK hW 0 rfl rfl 5 (by decide) rfl k_8 dX8_init_207 ?_
  refine lv_iconst (v := 1) hx hb dX8_init_210 (by decide) ?_
  refine lv_iconst (v := 1) hx hb dX8_init_211 (by decide) ?_
  refine zw_iast hx hb hK hW 5 rfl rfl hw.1 (w2 := fun a_kinds_5 => [(h, .inr (8, [.int 0, .ref h_text, .ref h_many, .ref h_ones, .ref h_others, .ref h_kinds, .ref h_firsts, .ref h_persons, .ref h_gone, .ref h_at, .ref h_fines, .int 0, .int 0, .ref h_undos, .int 0, .ref h_seenOf, .ref h_seenOpen, .int 0, .ref h_path, .int 0, .ref h_told, .ref h_counts, .ref h_spots, .ref h_far, .ref h_row, .ref h_begins, .int 0, .int 0, .ref h_ways, .ref h_next])), (h_text, .inl (cyI, 200, .inl (fun _ => 0))), (h_many, .inl (cyI, 2, .inl a_many_1)), (h_ones, .inl (cyI, 10, .inl a_ones_3)), (h_others, .inl (cyI, 10, .inl a_others_4)), (h_kinds, .inl (cyI, 10, .inl a_kinds_5)), (h_firsts, .inl (cyI, 10, .inl (fun _ => 0))), (h_persons, .inl (cyI, 2, .inl (fun _ => 0))), (h_gone, .inl (cyI, 15, .inl (fun _ => 0))), (h_at, .inl (cyI, 9, .inl (fun _ => 0))), (h_fines, .inl (cyI, 3, .inl (fun _ => 0))), (h_undos, .inl (cyI, 32, .inl (fun _ => 0))), (h_seenOf, .inl (cyI, 10, .inl (fun _ => 0))), (h_seenOpen, .inl (cyI, 10, .inl (fun _ => 0))), (h_path, .inl (cyI, 8, .inl (fun _ => 0))), (h_told, .inl (cyI, 4, .inl (fun _ => 0))), (h_counts, .inl (cyI, 5, .inl (fun _ => 0))), (h_spots, .inl (cyI, 3, .inl (fun _ => 0))), (h_far, .inl (cyI, 30400, .inl (fun _ => 0))), (h_row, .inl (cyI, 30400, .inl (fun _ => 0))), (h_begins, .inl (cyI, 30400, .inl (fun _ => 0))), (h_ways, .inl (cyJ, 6, .inr (.inl (fun _ => 0)))), (h_next, .inl (cyJ, 6, .inr (.inl (fun _ => 0))))]) (fun _ => rfl) dX8_init_212 (fun a_kinds_5 H locs ea_kinds_5 hW => ?_)
  replace hw := hw.2 a_kinds_5 ea_kinds_5
  refine lv_aload_n hx hb dX8_init_213 rfl (lv_at hl 0 rfl) ?_
  refine zw_get (ci := 8) (C := RX8) (T := TX8) (N := 30) (v := .ref h_firsts) hx hb hts hiX8 hown hK hW 0 rfl rfl 6 (by decide) rfl k_9 dX8_init_214 ?_
  refine lv_iconst (v := 1) hx hb dX8_init_217 (by decide) ?_
  refine lv_iconst (v := 1) hx hb dX8_init_218 (by decide) ?_
  refine zw_iast hx hb hK hW 6 rfl rfl hw.1 (w2 := fun a_firsts_6 => [(h, .inr (8, [.int 0, .ref h_text, .ref h_many, .ref h_ones, .ref h_others, .ref h_kinds, .ref h_firsts, .ref h_persons, .ref h_gone, .ref h_at, .ref h_fines, .int 0, .int 0, .ref h_undos, .int 0, .ref h_seenOf, .ref h_seenOpen, .int 0, .ref h_path, .int 0, .ref h_told, .ref h_counts, .ref h_spots, .ref h_far, .ref h_row, .ref h_begins, .int 0, .int 0, .ref h_ways, .ref h_next])), (h_text, .inl (cyI, 200, .inl (fun _ => 0))), (h_many, .inl (cyI, 2, .inl a_many_1)), (h_ones, .inl (cyI, 10, .inl a_ones_3)), (h_others, .inl (cyI, 10, .inl a_others_4)), (h_kinds, .inl (cyI, 10, .inl a_kinds_5)), (h_firsts, .inl (cyI, 10, .inl a_firsts_6)), (h_persons, .inl (cyI, 2, .inl (fun _ => 0))), (h_gone, .inl (cyI, 15, .inl (fun _ => 0))), (h_at, .inl (cyI, 9, .inl (fun _ => 0))), (h_fines, .inl (cyI, 3, .inl (fun _ => 0))), (h_undos, .inl (cyI, 32, .inl (fun _ => 0))), (h_seenOf, .inl (cyI, 10, .inl (fun _ => 0))), (h_seenOpen, .inl (cyI, 10, .inl (fun _ => 0))), (h_path, .inl (cyI, 8, .inl (fun _ => 0))), (h_told, .inl (cyI, 4, .inl (fun _ => 0))), (h_counts, .inl (cyI, 5, .inl (fun _ => 0))), (h_spots, .inl (cyI, 3, .inl (fun _ => 0))), (h_far, .inl (cyI, 30400, .inl (fun _ => 0))), (h_row, .inl (cyI, 30400, .inl (fun _ => 0))), (h_begins, .inl (cyI, 30400, .inl (fun _ => 0))), (h_ways, .inl (cyJ, 6, .inr (.inl (fun _ => 0)))), (h_next, .inl (cyJ, 6, .inr (.inl (fun _ => 0))))]) (fun _ => rfl) dX8_init_219 (fun a_firsts_6 H locs ea_firsts_6 hW => ?_)
  replace hw := hw.2 a_firsts_6 ea_firsts_6
  refine lv_aload_n hx hb dX8_init_220 rfl (lv_at hl 0 rfl) ?_
  refine zw_get (ci := 8) (C := RX8) (T := TX8) (N := 30) (v := .ref h_persons) hx hb hts hiX8 hown hK hW 0 rfl rfl 7 (by decide) rfl k_10 dX8_init_221 ?_
  refine lv_iconst (v := 0) hx hb dX8_init_224 (by decide) ?_
  refine lv_iconst (v := 2) hx hb dX8_init_225 (by decide) ?_
  refine zw_iast hx hb hK hW 7 rfl rfl hw.1 (w2 := fun a_persons_7 => [(h, .inr (8, [.int 0, .ref h_text, .ref h_many, .ref h_ones, .ref h_others, .ref h_kinds, .ref h_firsts, .ref h_persons, .ref h_gone, .ref h_at, .ref h_fines, .int 0, .int 0, .ref h_undos, .int 0, .ref h_seenOf, .ref h_seenOpen, .int 0, .ref h_path, .int 0, .ref h_told, .ref h_counts, .ref h_spots, .ref h_far, .ref h_row, .ref h_begins, .int 0, .int 0, .ref h_ways, .ref h_next])), (h_text, .inl (cyI, 200, .inl (fun _ => 0))), (h_many, .inl (cyI, 2, .inl a_many_1)), (h_ones, .inl (cyI, 10, .inl a_ones_3)), (h_others, .inl (cyI, 10, .inl a_others_4)), (h_kinds, .inl (cyI, 10, .inl a_kinds_5)), (h_firsts, .inl (cyI, 10, .inl a_firsts_6)), (h_persons, .inl (cyI, 2, .inl a_persons_7)), (h_gone, .inl (cyI, 15, .inl (fun _ => 0))), (h_at, .inl (cyI, 9, .inl (fun _ => 0))), (h_fines, .inl (cyI, 3, .inl (fun _ => 0))), (h_undos, .inl (cyI, 32, .inl (fun _ => 0))), (h_seenOf, .inl (cyI, 10, .inl (fun _ => 0))), (h_seenOpen, .inl (cyI, 10, .inl (fun _ => 0))), (h_path, .inl (cyI, 8, .inl (fun _ => 0))), (h_told, .inl (cyI, 4, .inl (fun _ => 0))), (h_counts, .inl (cyI, 5, .inl (fun _ => 0))), (h_spots, .inl (cyI, 3, .inl (fun _ => 0))), (h_far, .inl (cyI, 30400, .inl (fun _ => 0))), (h_row, .inl (cyI, 30400, .inl (fun _ => 0))), (h_begins, .inl (cyI, 30400, .inl (fun _ => 0))), (h_ways, .inl (cyJ, 6, .inr (.inl (fun _ => 0)))), (h_next, .inl (cyJ, 6, .inr (.inl (fun _ => 0))))]) (fun _ => rfl) dX8_init_226 (fun a_persons_7 H locs ea_persons_7 hW => ?_)
  replace hw := hw.2 a_persons_7 ea_persons_7
  refine lv_aload_n hx hb dX8_init_227 rfl (lv_at hl 0 rfl) ?_
  refine zw_Vv ⟨hx, hb, hml, hown, hts⟩ hK hN hA hW 0 rfl (T := TX8) (N := 30) rfl [] [] [0, 6, 8, 9, 10] [1, 2, 3, 4, 5, 7, 11, 12, 13, 14, 15, 16, 17, 18, 19, 20, 21, 22] [18, 0, 1, 2, 3, 4, 19, 5, 20, 21, 22, 6, 7, 8, 9, 10, 11, 12, 13, 14, 15, 16, 17] (fun u => [(h, .inr (8, [.int 0, .ref h_text, .ref h_many, .ref h_ones, .ref h_others, .ref h_kinds, .ref h_firsts, .ref h_persons, .ref h_gone, .ref h_at, .ref h_fines, .int (u.1), .int (u.2.1), .ref h_undos, .int (u.2.2.1), .ref h_seenOf, .ref h_seenOpen, .int (u.2.2.2.1), .ref h_path, .int 0, .ref h_told, .ref h_counts, .ref h_spots, .ref h_far, .ref h_row, .ref h_begins, .int 0, .int 0, .ref h_ways, .ref h_next])), (h_text, .inl (cyI, 200, .inl (fun _ => 0))), (h_many, .inl (cyI, 2, .inl a_many_1)), (h_ones, .inl (cyI, 10, .inl a_ones_3)), (h_others, .inl (cyI, 10, .inl a_others_4)), (h_kinds, .inl (cyI, 10, .inl a_kinds_5)), (h_firsts, .inl (cyI, 10, .inl a_firsts_6)), (h_persons, .inl (cyI, 2, .inl a_persons_7)), (h_gone, .inl (cyI, 15, .inl (u.2.2.2.2.1))), (h_at, .inl (cyI, 9, .inl (u.2.2.2.2.2.1))), (h_fines, .inl (cyI, 3, .inl (u.2.2.2.2.2.2))), (h_undos, .inl (cyI, 32, .inl (fun _ => 0))), (h_seenOf, .inl (cyI, 10, .inl (fun _ => 0))), (h_seenOpen, .inl (cyI, 10, .inl (fun _ => 0))), (h_path, .inl (cyI, 8, .inl (fun _ => 0))), (h_told, .inl (cyI, 4, .inl (fun _ => 0))), (h_counts, .inl (cyI, 5, .inl (fun _ => 0))), (h_spots, .inl (cyI, 3, .inl (fun _ => 0))), (h_far, .inl (cyI, 30400, .inl (fun _ => 0))), (h_row, .inl (cyI, 30400, .inl (fun _ => 0))), (h_begins, .inl (cyI, 30400, .inl (fun _ => 0))), (h_ways, .inl (cyJ, 6, .inr (.inl (fun _ => 0)))), (h_next, .inl (cyJ, 6, .inr (.inl (fun _ => 0))))]) (mX8_begin l dC dI cyI cyJ cyZ h h_text h_many h_ones h_others h_kinds h_firsts h_persons h_gone h_at h_fines h_undos h_seenOf h_seenOpen h_path h_told h_counts h_spots h_far h_row h_begins h_ways h_next _ 0 0 0 0 0 0 0 0 a_firsts_6 (fun _ => 0) (fun _ => 0) (fun _ => 0) _ hw) (cwV 0 hts gX8_init_X8_begin rfl rfl rfl (by decide +kernel) ⟨Nat.le_of_ble_eq_true rfl, Nat.le_of_ble_eq_true rfl⟩) rfl rfl rfl rfl (by decide) rfl (fun _ => rfl) rfl hl.1 rfl (Nat.le_of_ble_eq_true rfl) (Nat.le_of_ble_eq_true rfl) (Nat.le_of_ble_eq_true rfl) dX8_init_228 (fun u H locs hw hW => ?_)
  obtain ⟨i_keptMany_8, i_undoMany_9, i_seenMany_10, i_pathMany_11, a_gone_12, a_at_13, a_fines_14⟩ := u
  try dsimp only at hw
  replace hW : Wd (dC, dI) A s.heap [(h, .inr (8, [.int 0, .ref h_text, .ref h_many, .ref h_ones, .ref h_others, .ref h_kinds, .ref h_firsts, .ref h_persons, .ref h_gone, .ref h_at, .ref h_fines, .int i_keptMany_8, .int i_undoMany_9, .ref h_undos, .int i_seenMany_10, .ref h_seenOf, .ref h_seenOpen, .int i_pathMany_11, .ref h_path, .int 0, .ref h_told, .ref h_counts, .ref h_spots, .ref h_far, .ref h_row, .ref h_begins, .int 0, .int 0, .ref h_ways, .ref h_next])), (h_text, .inl (cyI, 200, .inl (fun _ => 0))), (h_many, .inl (cyI, 2, .inl a_many_1)), (h_ones, .inl (cyI, 10, .inl a_ones_3)), (h_others, .inl (cyI, 10, .inl a_others_4)), (h_kinds, .inl (cyI, 10, .inl a_kinds_5)), (h_firsts, .inl (cyI, 10, .inl a_firsts_6)), (h_persons, .inl (cyI, 2, .inl a_persons_7)), (h_gone, .inl (cyI, 15, .inl a_gone_12)), (h_at, .inl (cyI, 9, .inl a_at_13)), (h_fines, .inl (cyI, 3, .inl a_fines_14)), (h_undos, .inl (cyI, 32, .inl (fun _ => 0))), (h_seenOf, .inl (cyI, 10, .inl (fun _ => 0))), (h_seenOpen, .inl (cyI, 10, .inl (fun _ => 0))), (h_path, .inl (cyI, 8, .inl (fun _ => 0))), (h_told, .inl (cyI, 4, .inl (fun _ => 0))), (h_counts, .inl (cyI, 5, .inl (fun _ => 0))), (h_spots, .inl (cyI, 3, .inl (fun _ => 0))), (h_far, .inl (cyI, 30400, .inl (fun _ => 0))), (h_row, .inl (cyI, 30400, .inl (fun _ => 0))), (h_begins, .inl (cyI, 30400, .inl (fun _ => 0))), (h_ways, .inl (cyJ, 6, .inr (.inl (fun _ => 0)))), (h_next, .inl (cyJ, 6, .inr (.inl (fun _ => 0))))] H locs := hW
  replace hW : Wd (dC, dI) A s.heap ([(h, .inr (8, [.int 0, .ref h_text, .ref h_many, .ref h_ones, .ref h_others, .ref h_kinds, .ref h_firsts, .ref h_persons, .ref h_gone, .ref h_at, .ref h_fines, .int i_keptMany_8, .int i_undoMany_9, .ref h_undos, .int i_seenMany_10, .ref h_seenOf, .ref h_seenOpen, .int i_pathMany_11, .ref h_path, .int 0, .ref h_told, .ref h_counts, .ref h_spots, .ref h_far, .ref h_row, .ref h_begins, .int 0, .int 0, .ref h_ways, .ref h_next])), (h_text, .inl (cyI, 200, .inl (fun _ => 0))), (h_many, .inl (cyI, 2, .inl a_many_1)), (h_ones, .inl (cyI, 10, .inl a_ones_3)), (h_others, .inl (cyI, 10, .inl a_others_4)), (h_kinds, .inl (cyI, 10, .inl a_kinds_5)), (h_firsts, .inl (cyI, 10, .inl a_firsts_6)), (h_persons, .inl (cyI, 2, .inl a_persons_7)), (h_gone, .inl (cyI, 15, .inl a_gone_12)), (h_at, .inl (cyI, 9, .inl a_at_13)), (h_fines, .inl (cyI, 3, .inl a_fines_14)), (h_undos, .inl (cyI, 32, .inl (fun _ => 0))), (h_seenOf, .inl (cyI, 10, .inl (fun _ => 0))), (h_seenOpen, .inl (cyI, 10, .inl (fun _ => 0))), (h_path, .inl (cyI, 8, .inl (fun _ => 0))), (h_told, .inl (cyI, 4, .inl (fun _ => 0))), (h_counts, .inl (cyI, 5, .inl (fun _ => 0))), (h_spots, .inl (cyI, 3, .inl (fun _ => 0))), (h_far, .inl (cyI, 30400, .inl (fun _ => 0))), (h_row, .inl (cyI, 30400, .inl (fun _ => 0))), (h_begins, .inl (cyI, 30400, .inl (fun _ => 0))), (h_ways, .inl (cyJ, 6, .inr (.inl (fun _ => 0)))), (h_next, .inl (cyJ, 6, .inr (.inl (fun _ => 0))))] : va_W) H _ := zw_perm hW [0, 1, 2, 3, 4, 5, 6, 7, 8, 9, 10, 11, 12, 13, 14, 15, 16, 17, 18, 19, 20, 21, 22] rfl rfl
  refine zw_vret (S := Nat × Nat × Nat × Nat × Nat × Nat × Nat × Nat × Nat × Nat × Nat × Nat × Nat × Nat × Nat × Nat × Nat × Nat × Nat × Nat × Nat × Nat × Int32 × Int32 × Int32 × Int32 × (Nat → Int32) × (Nat → Int32) × (Nat → Int32) × (Nat → Int32) × (Nat → Int32) × (Nat → Int32) × (Nat → Int32) × (Nat → Int32) × (Nat → Int32)) (post := fun u => post u.2.2.2.2.2.2.2.2.2.2.2.2.2.2.2.2.2.2.2.2.2.2.1 u.2.2.2.2.2.2.2.2.2.2.2.2.2.2.2.2.2.2.2.2.2.2.2.1 u.2.2.2.2.2.2.2.2.2.2.2.2.2.2.2.2.2.2.2.2.2.2.2.2.1 u.2.2.2.2.2.2.2.2.2.2.2.2.2.2.2.2.2.2.2.2.2.2.2.2.2.1 u.2.2.2.2.2.2.2.2.2.2.2.2.2.2.2.2.2.2.2.2.2.2.2.2.2.2.1 u.2.2.2.2.2.2.2.2.2.2.2.2.2.2.2.2.2.2.2.2.2.2.2.2.2.2.2.1 u.2.2.2.2.2.2.2.2.2.2.2.2.2.2.2.2.2.2.2.2.2.2.2.2.2.2.2.2.1 u.2.2.2.2.2.2.2.2.2.2.2.2.2.2.2.2.2.2.2.2.2.2.2.2.2.2.2.2.2.1 u.2.2.2.2.2.2.2.2.2.2.2.2.2.2.2.2.2.2.2.2.2.2.2.2.2.2.2.2.2.2.1 u.2.2.2.2.2.2.2.2.2.2.2.2.2.2.2.2.2.2.2.2.2.2.2.2.2.2.2.2.2.2.2.1 u.2.2.2.2.2.2.2.2.2.2.2.2.2.2.2.2.2.2.2.2.2.2.2.2.2.2.2.2.2.2.2.2.1 u.2.2.2.2.2.2.2.2.2.2.2.2.2.2.2.2.2.2.2.2.2.2.2.2.2.2.2.2.2.2.2.2.2.1 u.2.2.2.2.2.2.2.2.2.2.2.2.2.2.2.2.2.2.2.2.2.2.2.2.2.2.2.2.2.2.2.2.2.2) (h_text, h_many, h_ones, h_others, h_kinds, h_firsts, h_persons, h_gone, h_at, h_fines, h_undos, h_seenOf, h_seenOpen, h_path, h_told, h_counts, h_spots, h_far, h_row, h_begins, h_ways, h_next, i_keptMany_8, i_undoMany_9, i_seenMany_10, i_pathMany_11, a_many_1, a_ones_3, a_others_4, a_kinds_5, a_firsts_6, a_persons_7, a_gone_12, a_at_13, a_fines_14) hx hb hr hlocks hK hW hw ?_ dX8_init_231
  rfl
abbrev wX8_in (cyI cyJ cyZ : ClassId) : va_W := []
abbrev qX8_in (dC : Nat → ClassId) (dI : Nat → Nat → Nat) (cyI cyJ cyZ : ClassId) (post : Int32 → Prop) (A : Nat → Prop) : Array Value → State → Outcome → State → Prop := (va_Qi (fun (r : Int32) (u : Unit) => (r = 0 ∨ r = 1) ∧ post r) (bW (dC, dI) (tyG cyI cyJ cyZ) A (fun _ : Unit => (wX8_in cyI cyJ cyZ))) A)
set_option maxHeartbeats 4000000 in
set_option maxRecDepth 100000 in
theorem mX8_in (l : Launch) (dC : Nat → ClassId) (dI : Nat → Nat → Nat) (cyI cyJ cyZ : ClassId) (sz : Nat) (x0 : Int64) (x2 : Int64) (x4 : Int64) (post : Int32 → Prop) (hwp : PX8_in x0 x2 x4 post) : Met l yX8_in wsX8_in ({ frames := 0, cells := 0, slots := 0, locals := 0 } : Room) (va_Pc [.long x0, .long x2, .long x4] (pcW (dC, dI) sz (wX8_in cyI cyJ cyZ) (tyG cyI cyJ cyZ))) (qX8_in dC dI cyI cyJ cyZ post (va_A (wX8_in cyI cyJ cyZ) sz)) 0 0 (va_A (wX8_in cyI cyJ cyZ) sz) := by
  refine Met.ofW (cc := cX8_in) (maxL := 6) (ret := some .boolean) (by decide) rfl ?_
  intro p e s m args below meth c s₁ B hml hv
  obtain ⟨rfl, hsz, hP, hK, hD0, hN⟩ := hv
  have hx := B.exec
  have hb := B.bytes
  have hr := B.returns
  have hts := atoms_spec (ws := wsX8_in) B.pre
  have hown : s.vm.findClass RX8 = some m.cls := findClass_of_methodNamed B.named
  have hlocks := B.notSynchronized
  subst hsz
  have hD := hD0.self (sz := s.heap.size)
  generalize hAe : va_A (wX8_in cyI cyJ cyZ) s.heap.size = A at hD ⊢
  have hA : ∀ q : Nat, s.heap.size ≤ q → A q := fun q h => by rw [← hAe]; exact Or.inr h
  have hW : Wd (dC, dI) A s.heap (wX8_in cyI cyJ cyZ) s.heap [] := ⟨hP, hD, va_S.rf⟩
  have hw := hwp
  have hl := lv_entry ([.long x0, .long x2, .long x4]) (n := 6) (Nat.le_of_ble_eq_true rfl)
  rw [lg_entry_eq]
  generalize (lg_sl ([.long x0, .long x2, .long x4]) ++ List.replicate (6 - (lg_sl ([.long x0, .long x2, .long x4])).length) Slot.unset).toArray = ls at hl ⊢
  have hl : lv_has ls 6 [(0, .long x0), (2, .long x2), (4, .long x4)] := hl
  refine lv_lload_n hx hb dX8_in_0 rfl (lv_at hl 0 rfl) ?_
  refine lv_lload_n hx hb dX8_in_1 rfl (lv_at hl 1 rfl) ?_
  refine W.lcmp hx hb dX8_in_2 ?_
  refine lv_if_lt (tgt := 17) hx hb dX8_in_3 (by decide) (fun c_1 => ?_) (fun c_1 => ?_)
  · replace hw := hw.1 c_1
    refine lv_iconst (v := 0) hx hb dX8_in_17 (by decide) ?_
    refine zw_zret (S := Unit) (post := fun r u => post r) () hx hb hr hlocks hK hW (Or.inl rfl) hw ?_ dX8_in_18
    rfl
  · replace hw := hw.2 c_1
    refine lv_lload_n hx hb dX8_in_6 rfl (lv_at hl 0 rfl) ?_
    refine lv_lload hx hb dX8_in_7 (lv_at hl 2 rfl) ?_
    refine W.lcmp hx hb dX8_in_9 ?_
    refine lv_if_gt (tgt := 17) hx hb dX8_in_10 (by decide) (fun c_2 => ?_) (fun c_2 => ?_)
    · replace hw := hw.1 c_2
      refine lv_iconst (v := 0) hx hb dX8_in_17 (by decide) ?_
      refine zw_zret (S := Unit) (post := fun r u => post r) () hx hb hr hlocks hK hW (Or.inl rfl) hw ?_ dX8_in_18
      rfl
    · replace hw := hw.2 c_2
      refine lv_iconst (v := 1) hx hb dX8_in_13 (by decide) ?_
      refine lv_goto (tgt := 18) hx hb dX8_in_14 (by decide) ?_
      refine zw_zret (S := Unit) (post := fun r u => post r) () hx hb hr hlocks hK hW (Or.inr rfl) hw ?_ dX8_in_18
      rfl
abbrev wX8_write (cyI cyJ cyZ : ClassId) (h h_text h_many h_ones h_others h_kinds h_firsts h_persons h_gone h_at h_fines h_undos h_seenOf h_seenOpen h_path h_told h_counts h_spots h_far h_row h_begins h_ways h_next : Nat) (i_length : Int32) (i_keptMany : Int32) (i_undoMany : Int32) (i_seenMany : Int32) (i_pathMany : Int32) (i_place : Int32) (i_found : Int32) (i_walkers : Int32) (a_text : Nat → Int32) : va_W := [(h, .inr (8, [.int i_length, .ref h_text, .ref h_many, .ref h_ones, .ref h_others, .ref h_kinds, .ref h_firsts, .ref h_persons, .ref h_gone, .ref h_at, .ref h_fines, .int i_keptMany, .int i_undoMany, .ref h_undos, .int i_seenMany, .ref h_seenOf, .ref h_seenOpen, .int i_pathMany, .ref h_path, .int i_place, .ref h_told, .ref h_counts, .ref h_spots, .ref h_far, .ref h_row, .ref h_begins, .int i_found, .int i_walkers, .ref h_ways, .ref h_next])), (h_text, .inl (cyI, 200, .inl a_text))]
abbrev qX8_write (dC : Nat → ClassId) (dI : Nat → Nat → Nat) (cyI cyJ cyZ : ClassId) (h h_text h_many h_ones h_others h_kinds h_firsts h_persons h_gone h_at h_fines h_undos h_seenOf h_seenOpen h_path h_told h_counts h_spots h_far h_row h_begins h_ways h_next : Nat) (i_length : Int32) (i_keptMany : Int32) (i_undoMany : Int32) (i_seenMany : Int32) (i_pathMany : Int32) (i_place : Int32) (i_found : Int32) (i_walkers : Int32) (a_text : Nat → Int32) (post : Int32 → Int32 → (Nat → Int32) → Prop) (A : Nat → Prop) : Array Value → State → Outcome → State → Prop := (va_Qi (fun (r : Int32) (u : Int32 × (Nat → Int32)) => post r u.1 u.2) (bW (dC, dI) (tyG cyI cyJ cyZ) A (fun u : Int32 × (Nat → Int32) => (wX8_write cyI cyJ cyZ h h_text h_many h_ones h_others h_kinds h_firsts h_persons h_gone h_at h_fines h_undos h_seenOf h_seenOpen h_path h_told h_counts h_spots h_far h_row h_begins h_ways h_next (u.1) i_keptMany i_undoMany i_seenMany i_pathMany i_place i_found i_walkers (u.2)))) A)
set_option maxHeartbeats 4000000 in
set_option maxRecDepth 100000 in
theorem mX8_write (l : Launch) (dC : Nat → ClassId) (dI : Nat → Nat → Nat) (cyI cyJ cyZ : ClassId) (h h_text h_many h_ones h_others h_kinds h_firsts h_persons h_gone h_at h_fines h_undos h_seenOf h_seenOpen h_path h_told h_counts h_spots h_far h_row h_begins h_ways h_next : Nat) (sz : Nat) (i_length : Int32) (i_keptMany : Int32) (i_undoMany : Int32) (i_seenMany : Int32) (i_pathMany : Int32) (i_place : Int32) (i_found : Int32) (i_walkers : Int32) (a_text : Nat → Int32) (x1 : Int32) (x2 : Int64) (post : Int32 → Int32 → (Nat → Int32) → Prop) (hwp : PX8_write x1 x2 i_length a_text post) : Met l yX8_write wsX8_write ({ frames := 1, cells := 0, slots := 0, locals := 25 } : Room) (va_Pc [.ref h, .int x1, .long x2] (pcW (dC, dI) sz (wX8_write cyI cyJ cyZ h h_text h_many h_ones h_others h_kinds h_firsts h_persons h_gone h_at h_fines h_undos h_seenOf h_seenOpen h_path h_told h_counts h_spots h_far h_row h_begins h_ways h_next i_length i_keptMany i_undoMany i_seenMany i_pathMany i_place i_found i_walkers a_text) (tyG cyI cyJ cyZ))) (qX8_write dC dI cyI cyJ cyZ h h_text h_many h_ones h_others h_kinds h_firsts h_persons h_gone h_at h_fines h_undos h_seenOf h_seenOpen h_path h_told h_counts h_spots h_far h_row h_begins h_ways h_next i_length i_keptMany i_undoMany i_seenMany i_pathMany i_place i_found i_walkers a_text post (va_A (wX8_write cyI cyJ cyZ h h_text h_many h_ones h_others h_kinds h_firsts h_persons h_gone h_at h_fines h_undos h_seenOf h_seenOpen h_path h_told h_counts h_spots h_far h_row h_begins h_ways h_next i_length i_keptMany i_undoMany i_seenMany i_pathMany i_place i_found i_walkers a_text) sz)) 0 0 (va_A (wX8_write cyI cyJ cyZ h h_text h_many h_ones h_others h_kinds h_firsts h_persons h_gone h_at h_fines h_undos h_seenOf h_seenOpen h_path h_told h_counts h_spots h_far h_row h_begins h_ways h_next i_length i_keptMany i_undoMany i_seenMany i_pathMany i_place i_found i_walkers a_text) sz) := by
  refine Met.ofW (cc := cX8_write) (maxL := 5) (ret := some .int) (by decide) rfl ?_
  intro p e s m args below meth c s₁ B hml hv
  obtain ⟨rfl, hsz, hP, hK, hD0, hN⟩ := hv
  have hx := B.exec
  have hb := B.bytes
  have hr := B.returns
  have hts := atoms_spec (ws := wsX8_write) B.pre
  have hown : s.vm.findClass RX8 = some m.cls := findClass_of_methodNamed B.named
  have hlocks := B.notSynchronized
  subst hsz
  have hD := hD0.self (sz := s.heap.size)
  generalize hAe : va_A (wX8_write cyI cyJ cyZ h h_text h_many h_ones h_others h_kinds h_firsts h_persons h_gone h_at h_fines h_undos h_seenOf h_seenOpen h_path h_told h_counts h_spots h_far h_row h_begins h_ways h_next i_length i_keptMany i_undoMany i_seenMany i_pathMany i_place i_found i_walkers a_text) s.heap.size = A at hD ⊢
  have hA : ∀ q : Nat, s.heap.size ≤ q → A q := fun q h => by rw [← hAe]; exact Or.inr h
  have hW : Wd (dC, dI) A s.heap (wX8_write cyI cyJ cyZ h h_text h_many h_ones h_others h_kinds h_firsts h_persons h_gone h_at h_fines h_undos h_seenOf h_seenOpen h_path h_told h_counts h_spots h_far h_row h_begins h_ways h_next i_length i_keptMany i_undoMany i_seenMany i_pathMany i_place i_found i_walkers a_text) s.heap [] := ⟨hP, hD, va_S.rf⟩
  have hw := hwp
  have hiX8 : ∀ w ∈ u_ws RX8 TX8 30, w ∈ wsX8_write := fun _ h => List.mem_cons_of_mem _ (List.mem_append_right _ h)
  have k_0 := hts (.fieldLink RX8 86 "OddLetsInModel" "length" "I") (List.mem_of_getElem? (i := 2) rfl)
  have k_1 := hts (.fieldLink RX8 7 "OddLetsInModel" "text" "[I") (List.mem_of_getElem? (i := 3) rfl)
  have k_2 := hts (.constantLong RX8 90 (255)) (List.mem_of_getElem? (i := 4) rfl)
  have k_3 := hts (.constantLong RX8 80 (8)) (List.mem_of_getElem? (i := 1) rfl)
  have W_34 : ∀ (n_34 : Nat) (x4 : Int32) (i_length : Int32) (a_text : Nat → Int32) (H : Heap) (locs : List Loc) (ls : Array Slot), Wd (dC, dI) A s.heap (wX8_write cyI cyJ cyZ h h_text h_many h_ones h_others h_kinds h_firsts h_persons h_gone h_at h_fines h_undos h_seenOf h_seenOpen h_path h_told h_counts h_spots h_far h_row h_begins h_ways h_next i_length i_keptMany i_undoMany i_seenMany i_pathMany i_place i_found i_walkers a_text) H locs → lv_has ls 5 [(0, .ref h), (2, .long x2), (4, .int x4)] → PX8_write_34 post x2 n_34 x4 i_length a_text → W p l e (({ frames := 1, cells := 0, slots := 0, locals := 25 } : Room)) s m (([.ref h, .int x1, .long x2] : List Value).toArray) below meth c H locs 0 0 (MQ below (qX8_write dC dI cyI cyJ cyZ h h_text h_many h_ones h_others h_kinds h_firsts h_persons h_gone h_at h_fines h_undos h_seenOf h_seenOpen h_path h_told h_counts h_spots h_far h_row h_begins h_ways h_next i_length i_keptMany i_undoMany i_seenMany i_pathMany i_place i_found i_walkers a_text post A) (([.ref h, .int x1, .long x2] : List Value).toArray) s 0 0 A) (F0 m 34 ls []) := by
    intro n_34
    induction n_34 with
    | zero =>
      intro x4 i_length a_text H locs ls hW hl hw
      exact False.elim hw
    | succ n_34 ih_34 =>
      intro x4 i_length a_text H locs ls hW hl hw
      refine lv_iload hx hb dX8_write_34 (lv_at hl 2 rfl) ?_
      refine lv_if_lt (tgt := 76) hx hb dX8_write_36 (by decide) (fun c_1 => ?_) (fun c_1 => ?_)
      · replace hw := hw.1 c_1
        refine lv_aload_n hx hb dX8_write_76 rfl (lv_at hl 0 rfl) ?_
        refine zw_get (ci := 8) (C := RX8) (T := TX8) (N := 30) (v := .int i_length) hx hb hts hiX8 hown hK hW 0 rfl rfl 0 (by decide) rfl k_0 dX8_write_77 ?_
        refine zw_iret (S := Int32 × (Nat → Int32)) (post := fun r u => post r u.1 u.2) (i_length, a_text) hx hb hr hlocks hK hW hw ?_ dX8_write_80
        rfl
      · replace hw := hw.2 c_1
        refine lv_aload_n hx hb dX8_write_39 rfl (lv_at hl 0 rfl) ?_
        refine zw_get (ci := 8) (C := RX8) (T := TX8) (N := 30) (v := .ref h_text) hx hb hts hiX8 hown hK hW 0 rfl rfl 1 (by decide) rfl k_1 dX8_write_40 ?_
        refine lv_aload_n hx hb dX8_write_43 rfl (lv_at hl 0 rfl) ?_
        refine zw_get (ci := 8) (C := RX8) (T := TX8) (N := 30) (v := .int i_length) hx hb hts hiX8 hown hK hW 0 rfl rfl 0 (by decide) rfl k_0 dX8_write_44 ?_
        refine lv_lload_n hx hb dX8_write_47 rfl (lv_at hl 1 rfl) ?_
        refine lv_bipush (v := 8) hx hb dX8_write_48 (by decide) ?_
        refine lv_iload hx hb dX8_write_50 (lv_at hl 2 rfl) ?_
        refine lv_imul hx hb dX8_write_52 ?_
        refine lv_lshr hx hb dX8_write_53 rfl ?_
        refine lv_ldc2 hx hb hown k_2 dX8_write_54 ?_
        refine lv_land hx hb dX8_write_57 ?_
        refine lv_l2i hx hb dX8_write_58 rfl ?_
        refine lv_topi (fun t_2 et_2 => ?_)
        replace hw := hw t_2 et_2
        refine zw_iast hx hb hK hW 1 rfl rfl hw.1 (w2 := fun a_text_3 => (wX8_write cyI cyJ cyZ h h_text h_many h_ones h_others h_kinds h_firsts h_persons h_gone h_at h_fines h_undos h_seenOf h_seenOpen h_path h_told h_counts h_spots h_far h_row h_begins h_ways h_next i_length i_keptMany i_undoMany i_seenMany i_pathMany i_place i_found i_walkers a_text_3)) (fun _ => rfl) dX8_write_59 (fun a_text_3 H locs ea_text_3 hW => ?_)
        replace hw := hw.2 a_text_3 ea_text_3
        refine lv_aload_n hx hb dX8_write_60 rfl (lv_at hl 0 rfl) ?_
        refine lv_dup hx hb dX8_write_61 rfl ?_
        refine zw_get (ci := 8) (C := RX8) (T := TX8) (N := 30) (v := .int i_length) hx hb hts hiX8 hown hK hW 0 rfl rfl 0 (by decide) rfl k_0 dX8_write_62 ?_
        refine lv_iconst (v := 1) hx hb dX8_write_65 (by decide) ?_
        refine lv_iadd hx hb dX8_write_66 ?_
        refine lv_topi (fun i_4 ei_4 => ?_)
        replace hw := hw i_4 ei_4
        refine zw_put (ci := 8) (C := RX8) (T := TX8) (N := 30) (w2 := (wX8_write cyI cyJ cyZ h h_text h_many h_ones h_others h_kinds h_firsts h_persons h_gone h_at h_fines h_undos h_seenOf h_seenOpen h_path h_told h_counts h_spots h_far h_row h_begins h_ways h_next i_4 i_keptMany i_undoMany i_seenMany i_pathMany i_place i_found i_walkers a_text_3)) hx hb hts hiX8 tyX8 tyX8_ok nmX8 hown hK hW 0 rfl rfl 0 (by decide) (by decide +kernel) rfl (Nat.le_of_ble_eq_true rfl) rfl k_0 dX8_write_67 (fun H locs hW => ?_)
        obtain ⟨x4_5, ex4_5⟩ : ∃ y : Int32, y = x4 + (-1) := ⟨_, rfl⟩
        replace hw := hw x4_5 ex4_5
        refine lv_iinc (v := x4_5) (lv' := [(4, .int x4_5), (0, .ref h), (2, .long x2)]) hx hb dX8_write_70 hl (k := 2) rfl (by rw [ex4_5]; rfl) (by decide) rfl (fun ls hl => ?_)
        refine lv_goto (tgt := 34) hx hb dX8_write_73 (by decide) ?_
        exact ih_34 x4_5 i_4 a_text_3 _ _ _ hW (lv_sub hl [1, 2, 0] rfl) hw
  have hl := lv_entry ([.ref h, .int x1, .long x2]) (n := 5) (Nat.le_of_ble_eq_true rfl)
  rw [lg_entry_eq]
  generalize (lg_sl ([.ref h, .int x1, .long x2]) ++ List.replicate (5 - (lg_sl ([.ref h, .int x1, .long x2])).length) Slot.unset).toArray = ls at hl ⊢
  have hl : lv_has ls 5 [(0, .ref h), (1, .int x1), (2, .long x2)] := hl
  refine lv_iload_n hx hb dX8_write_0 rfl (lv_at hl 1 rfl) ?_
  refine lv_i2l hx hb dX8_write_1 rfl ?_
  refine lv_lconst (v := 1) hx hb dX8_write_2 (by decide) ?_
  refine lv_ldc2 hx hb hown k_3 dX8_write_3 ?_
  refine zw_Si ⟨hx, hb, hml, hown, hts⟩ hK hN hA hW [.long ((x1).toInt64), .long 1, .long 8] [] [] [0, 1] [0, 1] (fun _ => (wX8_write cyI cyJ cyZ h h_text h_many h_ones h_others h_kinds h_firsts h_persons h_gone h_at h_fines h_undos h_seenOf h_seenOpen h_path h_told h_counts h_spots h_far h_row h_begins h_ways h_next i_length i_keptMany i_undoMany i_seenMany i_pathMany i_place i_found i_walkers a_text)) (mX8_in l dC dI cyI cyJ cyZ _ ((x1).toInt64) 1 8 _ hw) (va_cwS 3 hts gX8_write_X8_in rfl rfl rfl (by decide +kernel) ⟨Nat.le_of_ble_eq_true rfl, Nat.le_of_ble_eq_true rfl⟩) rfl rfl rfl rfl (by decide) rfl (fun _ => rfl) rfl hl.1 rfl (Nat.le_of_ble_eq_true rfl) (Nat.le_of_ble_eq_true rfl) (Nat.le_of_ble_eq_true rfl) dX8_write_6 (fun r_6 u H locs hw hW => ?_)
  obtain ⟨br_6, hw⟩ := hw
  refine lv_if_ne (tgt := 14) hx hb dX8_write_9 (by decide) (fun c_7 => ?_) (fun c_7 => ?_)
  · replace hw := hw.2 c_7
    refine lv_aload_n hx hb dX8_write_14 rfl (lv_at hl 0 rfl) ?_
    refine zw_get (ci := 8) (C := RX8) (T := TX8) (N := 30) (v := .int i_length) hx hb hts hiX8 hown hK hW 0 rfl rfl 0 (by decide) rfl k_0 dX8_write_15 ?_
    refine lv_iload_n hx hb dX8_write_18 rfl (lv_at hl 1 rfl) ?_
    refine lv_iadd hx hb dX8_write_19 ?_
    refine lv_sipush (v := 200) hx hb dX8_write_20 (by decide) ?_
    refine lv_icmp_le (tgt := 29) hx hb dX8_write_23 (by decide) (fun c_8 => ?_) (fun c_8 => ?_)
    · replace hw := hw.1 c_8
      refine lv_iload_n hx hb dX8_write_29 rfl (lv_at hl 1 rfl) ?_
      refine lv_iconst (v := 1) hx hb dX8_write_30 (by decide) ?_
      refine lv_isub hx hb dX8_write_31 ?_
      refine lv_topi (fun x4_9 ex4_9 => ?_)
      replace hw := hw x4_9 ex4_9
      refine lv_istore (lv' := [(4, .int x4_9), (0, .ref h), (1, .int x1), (2, .long x2)]) hx hb dX8_write_32 hl (by decide) rfl (fun ls hl => ?_)
      obtain ⟨n_34, hw⟩ := hw
      exact W_34  n_34 x4_9 i_length a_text _ _ _ hW (lv_sub hl [1, 3, 0] rfl) hw
    · replace hw := hw.2 c_8
      refine lv_bipush (v := (-3)) hx hb dX8_write_26 (by decide) ?_
      refine zw_iret (S := Int32 × (Nat → Int32)) (post := fun r u => post r u.1 u.2) (i_length, a_text) hx hb hr hlocks hK hW hw ?_ dX8_write_28
      rfl
  · replace hw := hw.1 c_7
    refine lv_iconst (v := (-1)) hx hb dX8_write_12 (by decide) ?_
    refine zw_iret (S := Int32 × (Nat → Int32)) (post := fun r u => post r u.1 u.2) (i_length, a_text) hx hb hr hlocks hK hW hw ?_ dX8_write_13
    rfl
abbrev wX8_wipe (cyI cyJ cyZ : ClassId) (h h_text h_many h_ones h_others h_kinds h_firsts h_persons h_gone h_at h_fines h_undos h_seenOf h_seenOpen h_path h_told h_counts h_spots h_far h_row h_begins h_ways h_next : Nat) (i_length : Int32) (i_keptMany : Int32) (i_undoMany : Int32) (i_seenMany : Int32) (i_pathMany : Int32) (i_place : Int32) (i_found : Int32) (i_walkers : Int32) : va_W := [(h, .inr (8, [.int i_length, .ref h_text, .ref h_many, .ref h_ones, .ref h_others, .ref h_kinds, .ref h_firsts, .ref h_persons, .ref h_gone, .ref h_at, .ref h_fines, .int i_keptMany, .int i_undoMany, .ref h_undos, .int i_seenMany, .ref h_seenOf, .ref h_seenOpen, .int i_pathMany, .ref h_path, .int i_place, .ref h_told, .ref h_counts, .ref h_spots, .ref h_far, .ref h_row, .ref h_begins, .int i_found, .int i_walkers, .ref h_ways, .ref h_next]))]
abbrev qX8_wipe (dC : Nat → ClassId) (dI : Nat → Nat → Nat) (cyI cyJ cyZ : ClassId) (h h_text h_many h_ones h_others h_kinds h_firsts h_persons h_gone h_at h_fines h_undos h_seenOf h_seenOpen h_path h_told h_counts h_spots h_far h_row h_begins h_ways h_next : Nat) (i_length : Int32) (i_keptMany : Int32) (i_undoMany : Int32) (i_seenMany : Int32) (i_pathMany : Int32) (i_place : Int32) (i_found : Int32) (i_walkers : Int32) (post : Int32 → Int32 → Prop) (A : Nat → Prop) : Array Value → State → Outcome → State → Prop := (va_Qi (fun (r : Int32) (u : Int32) => post r u) (bW (dC, dI) (tyG cyI cyJ cyZ) A (fun u : Int32 => (wX8_wipe cyI cyJ cyZ h h_text h_many h_ones h_others h_kinds h_firsts h_persons h_gone h_at h_fines h_undos h_seenOf h_seenOpen h_path h_told h_counts h_spots h_far h_row h_begins h_ways h_next u i_keptMany i_undoMany i_seenMany i_pathMany i_place i_found i_walkers))) A)
set_option maxHeartbeats 4000000 in
set_option maxRecDepth 100000 in
theorem mX8_wipe (l : Launch) (dC : Nat → ClassId) (dI : Nat → Nat → Nat) (cyI cyJ cyZ : ClassId) (h h_text h_many h_ones h_others h_kinds h_firsts h_persons h_gone h_at h_fines h_undos h_seenOf h_seenOpen h_path h_told h_counts h_spots h_far h_row h_begins h_ways h_next : Nat) (sz : Nat) (i_length : Int32) (i_keptMany : Int32) (i_undoMany : Int32) (i_seenMany : Int32) (i_pathMany : Int32) (i_place : Int32) (i_found : Int32) (i_walkers : Int32) (post : Int32 → Int32 → Prop) (hwp : PX8_wipe i_length post) : Met l yX8_wipe wsX8_wipe ({ frames := 0, cells := 0, slots := 0, locals := 0 } : Room) (va_Pc [.ref h] (pcW (dC, dI) sz (wX8_wipe cyI cyJ cyZ h h_text h_many h_ones h_others h_kinds h_firsts h_persons h_gone h_at h_fines h_undos h_seenOf h_seenOpen h_path h_told h_counts h_spots h_far h_row h_begins h_ways h_next i_length i_keptMany i_undoMany i_seenMany i_pathMany i_place i_found i_walkers) (tyG cyI cyJ cyZ))) (qX8_wipe dC dI cyI cyJ cyZ h h_text h_many h_ones h_others h_kinds h_firsts h_persons h_gone h_at h_fines h_undos h_seenOf h_seenOpen h_path h_told h_counts h_spots h_far h_row h_begins h_ways h_next i_length i_keptMany i_undoMany i_seenMany i_pathMany i_place i_found i_walkers post (va_A (wX8_wipe cyI cyJ cyZ h h_text h_many h_ones h_others h_kinds h_firsts h_persons h_gone h_at h_fines h_undos h_seenOf h_seenOpen h_path h_told h_counts h_spots h_far h_row h_begins h_ways h_next i_length i_keptMany i_undoMany i_seenMany i_pathMany i_place i_found i_walkers) sz)) 0 0 (va_A (wX8_wipe cyI cyJ cyZ h h_text h_many h_ones h_others h_kinds h_firsts h_persons h_gone h_at h_fines h_undos h_seenOf h_seenOpen h_path h_told h_counts h_spots h_far h_row h_begins h_ways h_next i_length i_keptMany i_undoMany i_seenMany i_pathMany i_place i_found i_walkers) sz) := by
  refine Met.ofW (cc := cX8_wipe) (maxL := 2) (ret := some .int) (by decide) rfl ?_
  intro p e s m args below meth c s₁ B hml hv
  obtain ⟨rfl, hsz, hP, hK, hD0, hN⟩ := hv
  have hx := B.exec
  have hb := B.bytes
  have hr := B.returns
  have hts := atoms_spec (ws := wsX8_wipe) B.pre
  have hown : s.vm.findClass RX8 = some m.cls := findClass_of_methodNamed B.named
  have hlocks := B.notSynchronized
  subst hsz
  have hD := hD0.self (sz := s.heap.size)
  generalize hAe : va_A (wX8_wipe cyI cyJ cyZ h h_text h_many h_ones h_others h_kinds h_firsts h_persons h_gone h_at h_fines h_undos h_seenOf h_seenOpen h_path h_told h_counts h_spots h_far h_row h_begins h_ways h_next i_length i_keptMany i_undoMany i_seenMany i_pathMany i_place i_found i_walkers) s.heap.size = A at hD ⊢
  have hA : ∀ q : Nat, s.heap.size ≤ q → A q := fun q h => by rw [← hAe]; exact Or.inr h
  have hW : Wd (dC, dI) A s.heap (wX8_wipe cyI cyJ cyZ h h_text h_many h_ones h_others h_kinds h_firsts h_persons h_gone h_at h_fines h_undos h_seenOf h_seenOpen h_path h_told h_counts h_spots h_far h_row h_begins h_ways h_next i_length i_keptMany i_undoMany i_seenMany i_pathMany i_place i_found i_walkers) s.heap [] := ⟨hP, hD, va_S.rf⟩
  have hw := hwp
  have hiX8 : ∀ w ∈ u_ws RX8 TX8 30, w ∈ wsX8_wipe := fun _ h => List.mem_cons_of_mem _ (List.mem_append_right _ h)
  have k_0 := hts (.fieldLink RX8 86 "OddLetsInModel" "length" "I") (List.mem_of_getElem? (i := 1) rfl)
  have hl := lv_entry ([.ref h]) (n := 2) (Nat.le_of_ble_eq_true rfl)
  rw [lg_entry_eq]
  generalize (lg_sl ([.ref h]) ++ List.replicate (2 - (lg_sl ([.ref h])).length) Slot.unset).toArray = ls at hl ⊢
  have hl : lv_has ls 2 [(0, .ref h)] := hl
  refine lv_aload_n hx hb dX8_wipe_0 rfl (lv_at hl 0 rfl) ?_
  refine zw_get (ci := 8) (C := RX8) (T := TX8) (N := 30) (v := .int i_length) hx hb hts hiX8 hown hK hW 0 rfl rfl 0 (by decide) rfl k_0 dX8_wipe_1 ?_
  refine lv_istore_n (lv' := [(1, .int i_length), (0, .ref h)]) hx hb dX8_wipe_4 rfl hl (by decide) rfl (fun ls hl => ?_)
  refine lv_aload_n hx hb dX8_wipe_5 rfl (lv_at hl 1 rfl) ?_
  refine lv_iconst (v := 0) hx hb dX8_wipe_6 (by decide) ?_
  refine zw_put (ci := 8) (C := RX8) (T := TX8) (N := 30) (w2 := (wX8_wipe cyI cyJ cyZ h h_text h_many h_ones h_others h_kinds h_firsts h_persons h_gone h_at h_fines h_undos h_seenOf h_seenOpen h_path h_told h_counts h_spots h_far h_row h_begins h_ways h_next 0 i_keptMany i_undoMany i_seenMany i_pathMany i_place i_found i_walkers)) hx hb hts hiX8 tyX8 tyX8_ok nmX8 hown hK hW 0 rfl rfl 0 (by decide) (by decide +kernel) rfl (Nat.le_of_ble_eq_true rfl) rfl k_0 dX8_wipe_7 (fun H locs hW => ?_)
  refine lv_iload_n hx hb dX8_wipe_10 rfl (lv_at hl 0 rfl) ?_
  refine zw_iret (S := Int32) (post := fun r u => post r u) 0 hx hb hr hlocks hK hW hw ?_ dX8_wipe_11
  rfl
abbrev wX8_byteAt (cyI cyJ cyZ : ClassId) (h h_text h_many h_ones h_others h_kinds h_firsts h_persons h_gone h_at h_fines h_undos h_seenOf h_seenOpen h_path h_told h_counts h_spots h_far h_row h_begins h_ways h_next : Nat) (i_length : Int32) (i_keptMany : Int32) (i_undoMany : Int32) (i_seenMany : Int32) (i_pathMany : Int32) (i_place : Int32) (i_found : Int32) (i_walkers : Int32) (a_text : Nat → Int32) : va_W := [(h, .inr (8, [.int i_length, .ref h_text, .ref h_many, .ref h_ones, .ref h_others, .ref h_kinds, .ref h_firsts, .ref h_persons, .ref h_gone, .ref h_at, .ref h_fines, .int i_keptMany, .int i_undoMany, .ref h_undos, .int i_seenMany, .ref h_seenOf, .ref h_seenOpen, .int i_pathMany, .ref h_path, .int i_place, .ref h_told, .ref h_counts, .ref h_spots, .ref h_far, .ref h_row, .ref h_begins, .int i_found, .int i_walkers, .ref h_ways, .ref h_next])), (h_text, .inl (cyI, 200, .inl a_text))]
abbrev qX8_byteAt (dC : Nat → ClassId) (dI : Nat → Nat → Nat) (cyI cyJ cyZ : ClassId) (h h_text h_many h_ones h_others h_kinds h_firsts h_persons h_gone h_at h_fines h_undos h_seenOf h_seenOpen h_path h_told h_counts h_spots h_far h_row h_begins h_ways h_next : Nat) (i_length : Int32) (i_keptMany : Int32) (i_undoMany : Int32) (i_seenMany : Int32) (i_pathMany : Int32) (i_place : Int32) (i_found : Int32) (i_walkers : Int32) (a_text : Nat → Int32) (post : Int32 → Prop) (A : Nat → Prop) : Array Value → State → Outcome → State → Prop := (va_Qi (fun (r : Int32) (u : Unit) => post r) (bW (dC, dI) (tyG cyI cyJ cyZ) A (fun _ : Unit => (wX8_byteAt cyI cyJ cyZ h h_text h_many h_ones h_others h_kinds h_firsts h_persons h_gone h_at h_fines h_undos h_seenOf h_seenOpen h_path h_told h_counts h_spots h_far h_row h_begins h_ways h_next i_length i_keptMany i_undoMany i_seenMany i_pathMany i_place i_found i_walkers a_text))) A)
set_option maxHeartbeats 4000000 in
set_option maxRecDepth 100000 in
theorem mX8_byteAt (l : Launch) (dC : Nat → ClassId) (dI : Nat → Nat → Nat) (cyI cyJ cyZ : ClassId) (h h_text h_many h_ones h_others h_kinds h_firsts h_persons h_gone h_at h_fines h_undos h_seenOf h_seenOpen h_path h_told h_counts h_spots h_far h_row h_begins h_ways h_next : Nat) (sz : Nat) (i_length : Int32) (i_keptMany : Int32) (i_undoMany : Int32) (i_seenMany : Int32) (i_pathMany : Int32) (i_place : Int32) (i_found : Int32) (i_walkers : Int32) (a_text : Nat → Int32) (x1 : Int32) (post : Int32 → Prop) (hwp : PX8_byteAt x1 i_length a_text post) : Met l yX8_byteAt wsX8_byteAt ({ frames := 0, cells := 0, slots := 0, locals := 0 } : Room) (va_Pc [.ref h, .int x1] (pcW (dC, dI) sz (wX8_byteAt cyI cyJ cyZ h h_text h_many h_ones h_others h_kinds h_firsts h_persons h_gone h_at h_fines h_undos h_seenOf h_seenOpen h_path h_told h_counts h_spots h_far h_row h_begins h_ways h_next i_length i_keptMany i_undoMany i_seenMany i_pathMany i_place i_found i_walkers a_text) (tyG cyI cyJ cyZ))) (qX8_byteAt dC dI cyI cyJ cyZ h h_text h_many h_ones h_others h_kinds h_firsts h_persons h_gone h_at h_fines h_undos h_seenOf h_seenOpen h_path h_told h_counts h_spots h_far h_row h_begins h_ways h_next i_length i_keptMany i_undoMany i_seenMany i_pathMany i_place i_found i_walkers a_text post (va_A (wX8_byteAt cyI cyJ cyZ h h_text h_many h_ones h_others h_kinds h_firsts h_persons h_gone h_at h_fines h_undos h_seenOf h_seenOpen h_path h_told h_counts h_spots h_far h_row h_begins h_ways h_next i_length i_keptMany i_undoMany i_seenMany i_pathMany i_place i_found i_walkers a_text) sz)) 0 0 (va_A (wX8_byteAt cyI cyJ cyZ h h_text h_many h_ones h_others h_kinds h_firsts h_persons h_gone h_at h_fines h_undos h_seenOf h_seenOpen h_path h_told h_counts h_spots h_far h_row h_begins h_ways h_next i_length i_keptMany i_undoMany i_seenMany i_pathMany i_place i_found i_walkers a_text) sz) := by
  refine Met.ofW (cc := cX8_byteAt) (maxL := 2) (ret := some .int) (by decide) rfl ?_
  intro p e s m args below meth c s₁ B hml hv
  obtain ⟨rfl, hsz, hP, hK, hD0, hN⟩ := hv
  have hx := B.exec
  have hb := B.bytes
  have hr := B.returns
  have hts := atoms_spec (ws := wsX8_byteAt) B.pre
  have hown : s.vm.findClass RX8 = some m.cls := findClass_of_methodNamed B.named
  have hlocks := B.notSynchronized
  subst hsz
  have hD := hD0.self (sz := s.heap.size)
  generalize hAe : va_A (wX8_byteAt cyI cyJ cyZ h h_text h_many h_ones h_others h_kinds h_firsts h_persons h_gone h_at h_fines h_undos h_seenOf h_seenOpen h_path h_told h_counts h_spots h_far h_row h_begins h_ways h_next i_length i_keptMany i_undoMany i_seenMany i_pathMany i_place i_found i_walkers a_text) s.heap.size = A at hD ⊢
  have hA : ∀ q : Nat, s.heap.size ≤ q → A q := fun q h => by rw [← hAe]; exact Or.inr h
  have hW : Wd (dC, dI) A s.heap (wX8_byteAt cyI cyJ cyZ h h_text h_many h_ones h_others h_kinds h_firsts h_persons h_gone h_at h_fines h_undos h_seenOf h_seenOpen h_path h_told h_counts h_spots h_far h_row h_begins h_ways h_next i_length i_keptMany i_undoMany i_seenMany i_pathMany i_place i_found i_walkers a_text) s.heap [] := ⟨hP, hD, va_S.rf⟩
  have hw := hwp
  have hiX8 : ∀ w ∈ u_ws RX8 TX8 30, w ∈ wsX8_byteAt := fun _ h => List.mem_cons_of_mem _ (List.mem_append_right _ h)
  have k_0 := hts (.fieldLink RX8 86 "OddLetsInModel" "length" "I") (List.mem_of_getElem? (i := 1) rfl)
  have k_1 := hts (.fieldLink RX8 7 "OddLetsInModel" "text" "[I") (List.mem_of_getElem? (i := 2) rfl)
  have hl := lv_entry ([.ref h, .int x1]) (n := 2) (Nat.le_of_ble_eq_true rfl)
  rw [lg_entry_eq]
  generalize (lg_sl ([.ref h, .int x1]) ++ List.replicate (2 - (lg_sl ([.ref h, .int x1])).length) Slot.unset).toArray = ls at hl ⊢
  have hl : lv_has ls 2 [(0, .ref h), (1, .int x1)] := hl
  refine lv_iload_n hx hb dX8_byteAt_0 rfl (lv_at hl 1 rfl) ?_
  refine lv_aload_n hx hb dX8_byteAt_1 rfl (lv_at hl 0 rfl) ?_
  refine zw_get (ci := 8) (C := RX8) (T := TX8) (N := 30) (v := .int i_length) hx hb hts hiX8 hown hK hW 0 rfl rfl 0 (by decide) rfl k_0 dX8_byteAt_2 ?_
  refine lv_icmp_ge (tgt := 17) hx hb dX8_byteAt_5 (by decide) (fun c_1 => ?_) (fun c_1 => ?_)
  · replace hw := hw.1 c_1
    refine lv_iconst (v := 0) hx hb dX8_byteAt_17 (by decide) ?_
    refine zw_iret (S := Unit) (post := fun r u => post r) () hx hb hr hlocks hK hW hw ?_ dX8_byteAt_18
    rfl
  · replace hw := hw.2 c_1
    refine lv_aload_n hx hb dX8_byteAt_8 rfl (lv_at hl 0 rfl) ?_
    refine zw_get (ci := 8) (C := RX8) (T := TX8) (N := 30) (v := .ref h_text) hx hb hts hiX8 hown hK hW 0 rfl rfl 1 (by decide) rfl k_1 dX8_byteAt_9 ?_
    refine lv_iload_n hx hb dX8_byteAt_12 rfl (lv_at hl 1 rfl) ?_
    refine zw_iald hx hb hK hW 1 rfl rfl hw.1 dX8_byteAt_13 ?_
    replace hw := hw.2
    refine lv_goto (tgt := 18) hx hb dX8_byteAt_14 (by decide) ?_
    refine zw_iret (S := Unit) (post := fun r u => post r) () hx hb hr hlocks hK hW hw ?_ dX8_byteAt_18
    rfl
abbrev wX8_figures (cyI cyJ cyZ : ClassId) (h h_text h_many h_ones h_others h_kinds h_firsts h_persons h_gone h_at h_fines h_undos h_seenOf h_seenOpen h_path h_told h_counts h_spots h_far h_row h_begins h_ways h_next : Nat) (i_length : Int32) (i_keptMany : Int32) (i_undoMany : Int32) (i_seenMany : Int32) (i_pathMany : Int32) (i_place : Int32) (i_found : Int32) (i_walkers : Int32) (a_text : Nat → Int32) (a_told : Nat → Int32) : va_W := [(h, .inr (8, [.int i_length, .ref h_text, .ref h_many, .ref h_ones, .ref h_others, .ref h_kinds, .ref h_firsts, .ref h_persons, .ref h_gone, .ref h_at, .ref h_fines, .int i_keptMany, .int i_undoMany, .ref h_undos, .int i_seenMany, .ref h_seenOf, .ref h_seenOpen, .int i_pathMany, .ref h_path, .int i_place, .ref h_told, .ref h_counts, .ref h_spots, .ref h_far, .ref h_row, .ref h_begins, .int i_found, .int i_walkers, .ref h_ways, .ref h_next])), (h_text, .inl (cyI, 200, .inl a_text)), (h_told, .inl (cyI, 4, .inl a_told))]
abbrev qX8_figures (dC : Nat → ClassId) (dI : Nat → Nat → Nat) (cyI cyJ cyZ : ClassId) (h h_text h_many h_ones h_others h_kinds h_firsts h_persons h_gone h_at h_fines h_undos h_seenOf h_seenOpen h_path h_told h_counts h_spots h_far h_row h_begins h_ways h_next : Nat) (i_length : Int32) (i_keptMany : Int32) (i_undoMany : Int32) (i_seenMany : Int32) (i_pathMany : Int32) (i_place : Int32) (i_found : Int32) (i_walkers : Int32) (a_text : Nat → Int32) (a_told : Nat → Int32) (post : Int32 → Int32 → (Nat → Int32) → Prop) (A : Nat → Prop) : Array Value → State → Outcome → State → Prop := (va_Qi (fun (r : Int32) (u : Int32 × (Nat → Int32)) => (r = 0 ∨ r = 1) ∧ post r u.1 u.2) (bW (dC, dI) (tyG cyI cyJ cyZ) A (fun u : Int32 × (Nat → Int32) => (wX8_figures cyI cyJ cyZ h h_text h_many h_ones h_others h_kinds h_firsts h_persons h_gone h_at h_fines h_undos h_seenOf h_seenOpen h_path h_told h_counts h_spots h_far h_row h_begins h_ways h_next i_length i_keptMany i_undoMany i_seenMany i_pathMany (u.1) i_found i_walkers a_text (u.2)))) A)
set_option maxHeartbeats 4000000 in
set_option maxRecDepth 100000 in
theorem mX8_figures (l : Launch) (dC : Nat → ClassId) (dI : Nat → Nat → Nat) (cyI cyJ cyZ : ClassId) (h h_text h_many h_ones h_others h_kinds h_firsts h_persons h_gone h_at h_fines h_undos h_seenOf h_seenOpen h_path h_told h_counts h_spots h_far h_row h_begins h_ways h_next : Nat) (sz : Nat) (i_length : Int32) (i_keptMany : Int32) (i_undoMany : Int32) (i_seenMany : Int32) (i_pathMany : Int32) (i_place : Int32) (i_found : Int32) (i_walkers : Int32) (a_text : Nat → Int32) (a_told : Nat → Int32) (x1 : Int32) (post : Int32 → Int32 → (Nat → Int32) → Prop) (hwp : PX8_figures x1 i_length i_place a_text a_told post) : Met l yX8_figures wsX8_figures ({ frames := 1, cells := 0, slots := 0, locals := 25 } : Room) (va_Pc [.ref h, .int x1] (pcW (dC, dI) sz (wX8_figures cyI cyJ cyZ h h_text h_many h_ones h_others h_kinds h_firsts h_persons h_gone h_at h_fines h_undos h_seenOf h_seenOpen h_path h_told h_counts h_spots h_far h_row h_begins h_ways h_next i_length i_keptMany i_undoMany i_seenMany i_pathMany i_place i_found i_walkers a_text a_told) (tyG cyI cyJ cyZ))) (qX8_figures dC dI cyI cyJ cyZ h h_text h_many h_ones h_others h_kinds h_firsts h_persons h_gone h_at h_fines h_undos h_seenOf h_seenOpen h_path h_told h_counts h_spots h_far h_row h_begins h_ways h_next i_length i_keptMany i_undoMany i_seenMany i_pathMany i_place i_found i_walkers a_text a_told post (va_A (wX8_figures cyI cyJ cyZ h h_text h_many h_ones h_others h_kinds h_firsts h_persons h_gone h_at h_fines h_undos h_seenOf h_seenOpen h_path h_told h_counts h_spots h_far h_row h_begins h_ways h_next i_length i_keptMany i_undoMany i_seenMany i_pathMany i_place i_found i_walkers a_text a_told) sz)) 0 0 (va_A (wX8_figures cyI cyJ cyZ h h_text h_many h_ones h_others h_kinds h_firsts h_persons h_gone h_at h_fines h_undos h_seenOf h_seenOpen h_path h_told h_counts h_spots h_far h_row h_begins h_ways h_next i_length i_keptMany i_undoMany i_seenMany i_pathMany i_place i_found i_walkers a_text a_told) sz) := by
  refine Met.ofW (cc := cX8_figures) (maxL := 5) (ret := some .boolean) (by decide) rfl ?_
  intro p e s m args below meth c s₁ B hml hv
  obtain ⟨rfl, hsz, hP, hK, hD0, hN⟩ := hv
  have hx := B.exec
  have hb := B.bytes
  have hr := B.returns
  have hts := atoms_spec (ws := wsX8_figures) B.pre
  have hown : s.vm.findClass RX8 = some m.cls := findClass_of_methodNamed B.named
  have hlocks := B.notSynchronized
  subst hsz
  have hD := hD0.self (sz := s.heap.size)
  generalize hAe : va_A (wX8_figures cyI cyJ cyZ h h_text h_many h_ones h_others h_kinds h_firsts h_persons h_gone h_at h_fines h_undos h_seenOf h_seenOpen h_path h_told h_counts h_spots h_far h_row h_begins h_ways h_next i_length i_keptMany i_undoMany i_seenMany i_pathMany i_place i_found i_walkers a_text a_told) s.heap.size = A at hD ⊢
  have hA : ∀ q : Nat, s.heap.size ≤ q → A q := fun q h => by rw [← hAe]; exact Or.inr h
  have hW : Wd (dC, dI) A s.heap (wX8_figures cyI cyJ cyZ h h_text h_many h_ones h_others h_kinds h_firsts h_persons h_gone h_at h_fines h_undos h_seenOf h_seenOpen h_path h_told h_counts h_spots h_far h_row h_begins h_ways h_next i_length i_keptMany i_undoMany i_seenMany i_pathMany i_place i_found i_walkers a_text a_told) s.heap [] := ⟨hP, hD, va_S.rf⟩
  have hw := hwp
  have hiX8 : ∀ w ∈ u_ws RX8 TX8 30, w ∈ wsX8_figures := fun _ h => List.mem_cons_of_mem _ (List.mem_append_right _ h)
  have k_0 := hts (.constantLong RX8 103 (2)) (List.mem_of_getElem? (i := 4) rfl)
  have k_1 := hts (.fieldLink RX8 92 "OddLetsInModel" "place" "I") (List.mem_of_getElem? (i := 1) rfl)
  have k_2 := hts (.fieldLink RX8 52 "OddLetsInModel" "told" "[I") (List.mem_of_getElem? (i := 5) rfl)
  have k_3 := hts (.constantLong RX8 99 (48)) (List.mem_of_getElem? (i := 2) rfl)
  have k_4 := hts (.constantLong RX8 101 (57)) (List.mem_of_getElem? (i := 3) rfl)
  have W_2 : ∀ (n_2 : Nat) (x2 : Int32) (i_place : Int32) (a_told : Nat → Int32) (H : Heap) (locs : List Loc) (ls : Array Slot), Wd (dC, dI) A s.heap (wX8_figures cyI cyJ cyZ h h_text h_many h_ones h_others h_kinds h_firsts h_persons h_gone h_at h_fines h_undos h_seenOf h_seenOpen h_path h_told h_counts h_spots h_far h_row h_begins h_ways h_next i_length i_keptMany i_undoMany i_seenMany i_pathMany i_place i_found i_walkers a_text a_told) H locs → lv_has ls 5 [(0, .ref h), (1, .int x1), (2, .int x2)] → PX8_figures_2 post x1 i_length a_text n_2 x2 i_place a_told → W p l e (({ frames := 1, cells := 0, slots := 0, locals := 25 } : Room)) s m (([.ref h, .int x1] : List Value).toArray) below meth c H locs 0 0 (MQ below (qX8_figures dC dI cyI cyJ cyZ h h_text h_many h_ones h_others h_kinds h_firsts h_persons h_gone h_at h_fines h_undos h_seenOf h_seenOpen h_path h_told h_counts h_spots h_far h_row h_begins h_ways h_next i_length i_keptMany i_undoMany i_seenMany i_pathMany i_place i_found i_walkers a_text a_told post A) (([.ref h, .int x1] : List Value).toArray) s 0 0 A) (F0 m 2 ls []) := by
    intro n_2
    induction n_2 with
    | zero =>
      intro x2 i_place a_told H locs ls hW hl hw
      exact False.elim hw
    | succ n_2 ih_2 =>
      have W_73 : ∀ (x2 : Int32) (x3 : Int32) (x4 : Int32) (i_place : Int32) (a_told : Nat → Int32) (H : Heap) (locs : List Loc) (ls : Array Slot), Wd (dC, dI) A s.heap (wX8_figures cyI cyJ cyZ h h_text h_many h_ones h_others h_kinds h_firsts h_persons h_gone h_at h_fines h_undos h_seenOf h_seenOpen h_path h_told h_counts h_spots h_far h_row h_begins h_ways h_next i_length i_keptMany i_undoMany i_seenMany i_pathMany i_place i_found i_walkers a_text a_told) H locs → lv_has ls 5 [(0, .ref h), (1, .int x1), (2, .int x2), (3, .int x3), (4, .int x4)] → PX8_figures_73 post x1 i_length a_text (PX8_figures_2 post x1 i_length a_text n_2) x2 x3 x4 i_place a_told → W p l e (({ frames := 1, cells := 0, slots := 0, locals := 25 } : Room)) s m (([.ref h, .int x1] : List Value).toArray) below meth c H locs 0 0 (MQ below (qX8_figures dC dI cyI cyJ cyZ h h_text h_many h_ones h_others h_kinds h_firsts h_persons h_gone h_at h_fines h_undos h_seenOf h_seenOpen h_path h_told h_counts h_spots h_far h_row h_begins h_ways h_next i_length i_keptMany i_undoMany i_seenMany i_pathMany i_place i_found i_walkers a_text a_told post A) (([.ref h, .int x1] : List Value).toArray) s 0 0 A) (F0 m 73 ls []) := by
        intro x2 x3 x4 i_place a_told H locs ls hW hl hw
        refine lv_iload_n hx hb dX8_figures_73 rfl (lv_at hl 3 rfl) ?_
        refine lv_i2l hx hb dX8_figures_74 rfl ?_
        refine lv_lconst (v := 1) hx hb dX8_figures_75 (by decide) ?_
        refine lv_ldc2 hx hb hown k_0 dX8_figures_76 ?_
        refine zw_Si ⟨hx, hb, hml, hown, hts⟩ hK hN hA hW [.long ((x3).toInt64), .long 1, .long 2] [] [] [0, 1, 2] [0, 1, 2] (fun _ => (wX8_figures cyI cyJ cyZ h h_text h_many h_ones h_others h_kinds h_firsts h_persons h_gone h_at h_fines h_undos h_seenOf h_seenOpen h_path h_told h_counts h_spots h_far h_row h_begins h_ways h_next i_length i_keptMany i_undoMany i_seenMany i_pathMany i_place i_found i_walkers a_text a_told)) (mX8_in l dC dI cyI cyJ cyZ _ ((x3).toInt64) 1 2 _ hw) (va_cwS 3 hts gX8_figures_X8_in rfl rfl rfl (by decide +kernel) ⟨Nat.le_of_ble_eq_true rfl, Nat.le_of_ble_eq_true rfl⟩) rfl rfl rfl rfl (by decide) rfl (fun _ => rfl) rfl hl.1 rfl (Nat.le_of_ble_eq_true rfl) (Nat.le_of_ble_eq_true rfl) (Nat.le_of_ble_eq_true rfl) dX8_figures_79 (fun r_1 u H locs hw hW => ?_)
        obtain ⟨br_1, hw⟩ := hw
        refine lv_if_eq (tgt := 110) hx hb dX8_figures_82 (by decide) (fun c_2 => ?_) (fun c_2 => ?_)
        · replace hw := hw.1 c_2
          refine lv_iconst (v := 0) hx hb dX8_figures_110 (by decide) ?_
          refine zw_zret (S := Int32 × (Nat → Int32)) (post := fun r u => post r u.1 u.2) (i_place, a_told) hx hb hr hlocks hK hW (Or.inl rfl) hw ?_ dX8_figures_111
          rfl
        · replace hw := hw.2 c_2
          refine lv_aload_n hx hb dX8_figures_85 rfl (lv_at hl 0 rfl) ?_
          refine lv_aload_n hx hb dX8_figures_86 rfl (lv_at hl 0 rfl) ?_
          refine zw_get (ci := 8) (C := RX8) (T := TX8) (N := 30) (v := .int i_place) hx hb hts hiX8 hown hK hW 0 rfl rfl 19 (by decide) rfl k_1 dX8_figures_87 ?_
          refine zw_Vi ⟨hx, hb, hml, hown, hts⟩ hK hN hA hW 0 rfl (T := TX8) (N := 30) rfl [.int i_place] [] [0, 1] [2] [1, 2, 0] (fun _ => (wX8_figures cyI cyJ cyZ h h_text h_many h_ones h_others h_kinds h_firsts h_persons h_gone h_at h_fines h_undos h_seenOf h_seenOpen h_path h_told h_counts h_spots h_far h_row h_begins h_ways h_next i_length i_keptMany i_undoMany i_seenMany i_pathMany i_place i_found i_walkers a_text a_told)) (mX8_byteAt l dC dI cyI cyJ cyZ h h_text h_many h_ones h_others h_kinds h_firsts h_persons h_gone h_at h_fines h_undos h_seenOf h_seenOpen h_path h_told h_counts h_spots h_far h_row h_begins h_ways h_next _ i_length i_keptMany i_undoMany i_seenMany i_pathMany i_place i_found i_walkers a_text i_place _ hw) (cwV 1 hts gX8_figures_X8_byteAt rfl rfl rfl (by decide +kernel) ⟨Nat.le_of_ble_eq_true rfl, Nat.le_of_ble_eq_true rfl⟩) rfl rfl rfl rfl (by decide) rfl (fun _ => rfl) rfl hl.1 rfl (Nat.le_of_ble_eq_true rfl) (Nat.le_of_ble_eq_true rfl) (Nat.le_of_ble_eq_true rfl) dX8_figures_90 (fun r_3 u H locs hw hW => ?_)
          refine lv_iload_n hx hb dX8_figures_93 rfl (lv_at hl 2 rfl) ?_
          refine lv_iload_n hx hb dX8_figures_94 rfl (lv_at hl 1 rfl) ?_
          refine lv_iconst (v := 1) hx hb dX8_figures_95 (by decide) ?_
          refine lv_isub hx hb dX8_figures_96 ?_
          refine lv_icmp_ge (tgt := 105) hx hb dX8_figures_97 (by decide) (fun c_4 => ?_) (fun c_4 => ?_)
          · replace hw := hw.1 c_4
            refine lv_bipush (v := 59) hx hb dX8_figures_105 (by decide) ?_
            refine lv_icmp_eq (tgt := 112) hx hb dX8_figures_107 (by decide) (fun c_5 => ?_) (fun c_5 => ?_)
            · replace hw := hw.1 c_5
              refine lv_aload_n hx hb dX8_figures_112 rfl (lv_at hl 0 rfl) ?_
              refine zw_get (ci := 8) (C := RX8) (T := TX8) (N := 30) (v := .ref h_told) hx hb hts hiX8 hown hK hW 0 rfl rfl 20 (by decide) rfl k_2 dX8_figures_113 ?_
              refine lv_iload_n hx hb dX8_figures_116 rfl (lv_at hl 2 rfl) ?_
              refine lv_iload hx hb dX8_figures_117 (lv_at hl 4 rfl) ?_
              refine zw_iast hx hb hK hW 2 rfl rfl hw.1 (w2 := fun a_told_6 => (wX8_figures cyI cyJ cyZ h h_text h_many h_ones h_others h_kinds h_firsts h_persons h_gone h_at h_fines h_undos h_seenOf h_seenOpen h_path h_told h_counts h_spots h_far h_row h_begins h_ways h_next i_length i_keptMany i_undoMany i_seenMany i_pathMany i_place i_found i_walkers a_text a_told_6)) (fun _ => rfl) dX8_figures_119 (fun a_told_6 H locs ea_told_6 hW => ?_)
              replace hw := hw.2 a_told_6 ea_told_6
              refine lv_aload_n hx hb dX8_figures_120 rfl (lv_at hl 0 rfl) ?_
              refine lv_dup hx hb dX8_figures_121 rfl ?_
              refine zw_get (ci := 8) (C := RX8) (T := TX8) (N := 30) (v := .int i_place) hx hb hts hiX8 hown hK hW 0 rfl rfl 19 (by decide) rfl k_1 dX8_figures_122 ?_
              refine lv_iconst (v := 1) hx hb dX8_figures_125 (by decide) ?_
              refine lv_iadd hx hb dX8_figures_126 ?_
              refine lv_topi (fun i_7 ei_7 => ?_)
              replace hw := hw i_7 ei_7
              refine zw_put (ci := 8) (C := RX8) (T := TX8) (N := 30) (w2 := (wX8_figures cyI cyJ cyZ h h_text h_many h_ones h_others h_kinds h_firsts h_persons h_gone h_at h_fines h_undos h_seenOf h_seenOpen h_path h_told h_counts h_spots h_far h_row h_begins h_ways h_next i_length i_keptMany i_undoMany i_seenMany i_pathMany i_7 i_found i_walkers a_text a_told_6)) hx hb hts hiX8 tyX8 tyX8_ok nmX8 hown hK hW 0 rfl rfl 19 (by decide) (by decide +kernel) rfl (Nat.le_of_ble_eq_true rfl) rfl k_1 dX8_figures_127 (fun H locs hW => ?_)
              obtain ⟨x2_8, ex2_8⟩ : ∃ y : Int32, y = x2 + 1 := ⟨_, rfl⟩
              replace hw := hw x2_8 ex2_8
              refine lv_iinc (v := x2_8) (lv' := [(2, .int x2_8), (0, .ref h), (1, .int x1), (3, .int x3), (4, .int x4)]) hx hb dX8_figures_130 hl (k := 2) rfl (by rw [ex2_8]; rfl) (by decide) rfl (fun ls hl => ?_)
              refine lv_goto (tgt := 2) hx hb dX8_figures_133 (by decide) ?_
              exact ih_2 x2_8 i_7 a_told_6 _ _ _ hW (lv_sub hl [1, 2, 0] rfl) hw
            · replace hw := hw.2 c_5
              refine lv_iconst (v := 0) hx hb dX8_figures_110 (by decide) ?_
              refine zw_zret (S := Int32 × (Nat → Int32)) (post := fun r u => post r u.1 u.2) (i_place, a_told) hx hb hr hlocks hK hW (Or.inl rfl) hw ?_ dX8_figures_111
              rfl
          · replace hw := hw.2 c_4
            refine lv_bipush (v := 44) hx hb dX8_figures_100 (by decide) ?_
            refine lv_goto (tgt := 107) hx hb dX8_figures_102 (by decide) ?_
            refine lv_icmp_eq (tgt := 112) hx hb dX8_figures_107 (by decide) (fun c_9 => ?_) (fun c_9 => ?_)
            · replace hw := hw.1 c_9
              refine lv_aload_n hx hb dX8_figures_112 rfl (lv_at hl 0 rfl) ?_
              refine zw_get (ci := 8) (C := RX8) (T := TX8) (N := 30) (v := .ref h_told) hx hb hts hiX8 hown hK hW 0 rfl rfl 20 (by decide) rfl k_2 dX8_figures_113 ?_
              refine lv_iload_n hx hb dX8_figures_116 rfl (lv_at hl 2 rfl) ?_
              refine lv_iload hx hb dX8_figures_117 (lv_at hl 4 rfl) ?_
              refine zw_iast hx hb hK hW 2 rfl rfl hw.1 (w2 := fun a_told_10 => (wX8_figures cyI cyJ cyZ h h_text h_many h_ones h_others h_kinds h_firsts h_persons h_gone h_at h_fines h_undos h_seenOf h_seenOpen h_path h_told h_counts h_spots h_far h_row h_begins h_ways h_next i_length i_keptMany i_undoMany i_seenMany i_pathMany i_place i_found i_walkers a_text a_told_10)) (fun _ => rfl) dX8_figures_119 (fun a_told_10 H locs ea_told_10 hW => ?_)
              replace hw := hw.2 a_told_10 ea_told_10
              refine lv_aload_n hx hb dX8_figures_120 rfl (lv_at hl 0 rfl) ?_
              refine lv_dup hx hb dX8_figures_121 rfl ?_
              refine zw_get (ci := 8) (C := RX8) (T := TX8) (N := 30) (v := .int i_place) hx hb hts hiX8 hown hK hW 0 rfl rfl 19 (by decide) rfl k_1 dX8_figures_122 ?_
              refine lv_iconst (v := 1) hx hb dX8_figures_125 (by decide) ?_
              refine lv_iadd hx hb dX8_figures_126 ?_
              refine lv_topi (fun i_11 ei_11 => ?_)
              replace hw := hw i_11 ei_11
              refine zw_put (ci := 8) (C := RX8) (T := TX8) (N := 30) (w2 := (wX8_figures cyI cyJ cyZ h h_text h_many h_ones h_others h_kinds h_firsts h_persons h_gone h_at h_fines h_undos h_seenOf h_seenOpen h_path h_told h_counts h_spots h_far h_row h_begins h_ways h_next i_length i_keptMany i_undoMany i_seenMany i_pathMany i_11 i_found i_walkers a_text a_told_10)) hx hb hts hiX8 tyX8 tyX8_ok nmX8 hown hK hW 0 rfl rfl 19 (by decide) (by decide +kernel) rfl (Nat.le_of_ble_eq_true rfl) rfl k_1 dX8_figures_127 (fun H locs hW => ?_)
              obtain ⟨x2_12, ex2_12⟩ : ∃ y : Int32, y = x2 + 1 := ⟨_, rfl⟩
              replace hw := hw x2_12 ex2_12
              refine lv_iinc (v := x2_12) (lv' := [(2, .int x2_12), (0, .ref h), (1, .int x1), (3, .int x3), (4, .int x4)]) hx hb dX8_figures_130 hl (k := 2) rfl (by rw [ex2_12]; rfl) (by decide) rfl (fun ls hl => ?_)
              refine lv_goto (tgt := 2) hx hb dX8_figures_133 (by decide) ?_
              exact ih_2 x2_12 i_11 a_told_10 _ _ _ hW (lv_sub hl [1, 2, 0] rfl) hw
            · replace hw := hw.2 c_9
              refine lv_iconst (v := 0) hx hb dX8_figures_110 (by decide) ?_
              refine zw_zret (S := Int32 × (Nat → Int32)) (post := fun r u => post r u.1 u.2) (i_place, a_told) hx hb hr hlocks hK hW (Or.inl rfl) hw ?_ dX8_figures_111
              rfl
      have W_12 : ∀ (x2 : Int32) (a_told : Nat → Int32) (n_12 : Nat) (x3 : Int32) (x4 : Int32) (i_place : Int32) (H : Heap) (locs : List Loc) (ls : Array Slot), Wd (dC, dI) A s.heap (wX8_figures cyI cyJ cyZ h h_text h_many h_ones h_others h_kinds h_firsts h_persons h_gone h_at h_fines h_undos h_seenOf h_seenOpen h_path h_told h_counts h_spots h_far h_row h_begins h_ways h_next i_length i_keptMany i_undoMany i_seenMany i_pathMany i_place i_found i_walkers a_text a_told) H locs → lv_has ls 5 [(0, .ref h), (1, .int x1), (2, .int x2), (3, .int x3), (4, .int x4)] → PX8_figures_12 post x1 i_length a_text (PX8_figures_2 post x1 i_length a_text n_2) x2 a_told n_12 x3 x4 i_place → W p l e (({ frames := 1, cells := 0, slots := 0, locals := 25 } : Room)) s m (([.ref h, .int x1] : List Value).toArray) below meth c H locs 0 0 (MQ below (qX8_figures dC dI cyI cyJ cyZ h h_text h_many h_ones h_others h_kinds h_firsts h_persons h_gone h_at h_fines h_undos h_seenOf h_seenOpen h_path h_told h_counts h_spots h_far h_row h_begins h_ways h_next i_length i_keptMany i_undoMany i_seenMany i_pathMany i_place i_found i_walkers a_text a_told post A) (([.ref h, .int x1] : List Value).toArray) s 0 0 A) (F0 m 12 ls []) := by
        intro x2 a_told n_12
        induction n_12 with
        | zero =>
          intro x3 x4 i_place H locs ls hW hl hw
          exact False.elim hw
        | succ n_12 ih_12 =>
          intro x3 x4 i_place H locs ls hW hl hw
          rw [PX8_figures_12] at hw
          refine lv_aload_n hx hb dX8_figures_12 rfl (lv_at hl 0 rfl) ?_
          refine lv_aload_n hx hb dX8_figures_13 rfl (lv_at hl 0 rfl) ?_
          refine zw_get (ci := 8) (C := RX8) (T := TX8) (N := 30) (v := .int i_place) hx hb hts hiX8 hown hK hW 0 rfl rfl 19 (by decide) rfl k_1 dX8_figures_14 ?_
          refine zw_Vi ⟨hx, hb, hml, hown, hts⟩ hK hN hA hW 0 rfl (T := TX8) (N := 30) rfl [.int i_place] [] [0, 1] [2] [1, 2, 0] (fun _ => (wX8_figures cyI cyJ cyZ h h_text h_many h_ones h_others h_kinds h_firsts h_persons h_gone h_at h_fines h_undos h_seenOf h_seenOpen h_path h_told h_counts h_spots h_far h_row h_begins h_ways h_next i_length i_keptMany i_undoMany i_seenMany i_pathMany i_place i_found i_walkers a_text a_told)) (mX8_byteAt l dC dI cyI cyJ cyZ h h_text h_many h_ones h_others h_kinds h_firsts h_persons h_gone h_at h_fines h_undos h_seenOf h_seenOpen h_path h_told h_counts h_spots h_far h_row h_begins h_ways h_next _ i_length i_keptMany i_undoMany i_seenMany i_pathMany i_place i_found i_walkers a_text i_place _ hw) (cwV 1 hts gX8_figures_X8_byteAt rfl rfl rfl (by decide +kernel) ⟨Nat.le_of_ble_eq_true rfl, Nat.le_of_ble_eq_true rfl⟩) rfl rfl rfl rfl (by decide) rfl (fun _ => rfl) rfl hl.1 rfl (Nat.le_of_ble_eq_true rfl) (Nat.le_of_ble_eq_true rfl) (Nat.le_of_ble_eq_true rfl) dX8_figures_17 (fun r_13 u H locs hw hW => ?_)
          refine lv_i2l hx hb dX8_figures_20 rfl ?_
          refine lv_ldc2 hx hb hown k_3 dX8_figures_21 ?_
          refine lv_ldc2 hx hb hown k_4 dX8_figures_24 ?_
          refine zw_Si ⟨hx, hb, hml, hown, hts⟩ hK hN hA hW [.long ((r_13).toInt64), .long 48, .long 57] [] [] [0, 1, 2] [0, 1, 2] (fun _ => (wX8_figures cyI cyJ cyZ h h_text h_many h_ones h_others h_kinds h_firsts h_persons h_gone h_at h_fines h_undos h_seenOf h_seenOpen h_path h_told h_counts h_spots h_far h_row h_begins h_ways h_next i_length i_keptMany i_undoMany i_seenMany i_pathMany i_place i_found i_walkers a_text a_told)) (mX8_in l dC dI cyI cyJ cyZ _ ((r_13).toInt64) 48 57 _ hw) (va_cwS 3 hts gX8_figures_X8_in rfl rfl rfl (by decide +kernel) ⟨Nat.le_of_ble_eq_true rfl, Nat.le_of_ble_eq_true rfl⟩) rfl rfl rfl rfl (by decide) rfl (fun _ => rfl) rfl hl.1 rfl (Nat.le_of_ble_eq_true rfl) (Nat.le_of_ble_eq_true rfl) (Nat.le_of_ble_eq_true rfl) dX8_figures_27 (fun r_14 u H locs hw hW => ?_)
          obtain ⟨br_14, hw⟩ := hw
          refine lv_if_eq (tgt := 73) hx hb dX8_figures_30 (by decide) (fun c_15 => ?_) (fun c_15 => ?_)
          · replace hw := hw.1 c_15
            exact W_73 x2 x3 x4 i_place a_told _ _ _ hW (lv_sub hl [0, 1, 2, 3, 4] rfl) hw
          · replace hw := hw.2 c_15
            refine lv_iload_n hx hb dX8_figures_33 rfl (lv_at hl 3 rfl) ?_
            refine lv_iconst (v := 3) hx hb dX8_figures_34 (by decide) ?_
            refine lv_icmp_ge (tgt := 73) hx hb dX8_figures_35 (by decide) (fun c_16 => ?_) (fun c_16 => ?_)
            · replace hw := hw.1 c_16
              exact W_73 x2 x3 x4 i_place a_told _ _ _ hW (lv_sub hl [0, 1, 2, 3, 4] rfl) hw
            · replace hw := hw.2 c_16
              refine lv_bipush (v := 10) hx hb dX8_figures_38 (by decide) ?_
              refine lv_iload hx hb dX8_figures_40 (lv_at hl 4 rfl) ?_
              refine lv_imul hx hb dX8_figures_42 ?_
              refine lv_aload_n hx hb dX8_figures_43 rfl (lv_at hl 0 rfl) ?_
              refine lv_aload_n hx hb dX8_figures_44 rfl (lv_at hl 0 rfl) ?_
              refine zw_get (ci := 8) (C := RX8) (T := TX8) (N := 30) (v := .int i_place) hx hb hts hiX8 hown hK hW 0 rfl rfl 19 (by decide) rfl k_1 dX8_figures_45 ?_
              refine zw_Vi ⟨hx, hb, hml, hown, hts⟩ hK hN hA hW 0 rfl (T := TX8) (N := 30) rfl [.int i_place] [.int (10 * x4)] [0, 1] [2] [1, 2, 0] (fun _ => (wX8_figures cyI cyJ cyZ h h_text h_many h_ones h_others h_kinds h_firsts h_persons h_gone h_at h_fines h_undos h_seenOf h_seenOpen h_path h_told h_counts h_spots h_far h_row h_begins h_ways h_next i_length i_keptMany i_undoMany i_seenMany i_pathMany i_place i_found i_walkers a_text a_told)) (mX8_byteAt l dC dI cyI cyJ cyZ h h_text h_many h_ones h_others h_kinds h_firsts h_persons h_gone h_at h_fines h_undos h_seenOf h_seenOpen h_path h_told h_counts h_spots h_far h_row h_begins h_ways h_next _ i_length i_keptMany i_undoMany i_seenMany i_pathMany i_place i_found i_walkers a_text i_place _ hw) (cwV 1 hts gX8_figures_X8_byteAt rfl rfl rfl (by decide +kernel) ⟨Nat.le_of_ble_eq_true rfl, Nat.le_of_ble_eq_true rfl⟩) rfl rfl rfl rfl (by decide) rfl (fun _ => rfl) rfl hl.1 rfl (Nat.le_of_ble_eq_true rfl) (Nat.le_of_ble_eq_true rfl) (Nat.le_of_ble_eq_true rfl) dX8_figures_48 (fun r_17 u H locs hw hW => ?_)
              refine lv_iadd hx hb dX8_figures_51 ?_
              refine lv_bipush (v := 48) hx hb dX8_figures_52 (by decide) ?_
              refine lv_isub hx hb dX8_figures_54 ?_
              refine lv_topi (fun x4_18 ex4_18 => ?_)
              replace hw := hw x4_18 ex4_18
              refine lv_istore (lv' := [(4, .int x4_18), (0, .ref h), (1, .int x1), (2, .int x2), (3, .int x3)]) hx hb dX8_figures_55 hl (by decide) rfl (fun ls hl => ?_)
              obtain ⟨x3_19, ex3_19⟩ : ∃ y : Int32, y = x3 + 1 := ⟨_, rfl⟩
              replace hw := hw x3_19 ex3_19
              refine lv_iinc (v := x3_19) (lv' := [(3, .int x3_19), (4, .int x4_18), (0, .ref h), (1, .int x1), (2, .int x2)]) hx hb dX8_figures_57 hl (k := 4) rfl (by rw [ex3_19]; rfl) (by decide) rfl (fun ls hl => ?_)
              refine lv_aload_n hx hb dX8_figures_60 rfl (lv_at hl 2 rfl) ?_
              refine lv_dup hx hb dX8_figures_61 rfl ?_
              refine zw_get (ci := 8) (C := RX8) (T := TX8) (N := 30) (v := .int i_place) hx hb hts hiX8 hown hK hW 0 rfl rfl 19 (by decide) rfl k_1 dX8_figures_62 ?_
              refine lv_iconst (v := 1) hx hb dX8_figures_65 (by decide) ?_
              refine lv_iadd hx hb dX8_figures_66 ?_
              refine lv_topi (fun i_20 ei_20 => ?_)
              replace hw := hw i_20 ei_20
              refine zw_put (ci := 8) (C := RX8) (T := TX8) (N := 30) (w2 := (wX8_figures cyI cyJ cyZ h h_text h_many h_ones h_others h_kinds h_firsts h_persons h_gone h_at h_fines h_undos h_seenOf h_seenOpen h_path h_told h_counts h_spots h_far h_row h_begins h_ways h_next i_length i_keptMany i_undoMany i_seenMany i_pathMany i_20 i_found i_walkers a_text a_told)) hx hb hts hiX8 tyX8 tyX8_ok nmX8 hown hK hW 0 rfl rfl 19 (by decide) (by decide +kernel) rfl (Nat.le_of_ble_eq_true rfl) rfl k_1 dX8_figures_67 (fun H locs hW => ?_)
              refine lv_goto (tgt := 12) hx hb dX8_figures_70 (by decide) ?_
              exact ih_12 x3_19 x4_18 i_20 _ _ _ hW (lv_sub hl [2, 3, 4, 0, 1] rfl) hw
      intro x2 i_place a_told H locs ls hW hl hw
      refine lv_iload_n hx hb dX8_figures_2 rfl (lv_at hl 2 rfl) ?_
      refine lv_iload_n hx hb dX8_figures_3 rfl (lv_at hl 1 rfl) ?_
      refine lv_icmp_ge (tgt := 136) hx hb dX8_figures_4 (by decide) (fun c_21 => ?_) (fun c_21 => ?_)
      · replace hw := hw.1 c_21
        refine lv_iconst (v := 1) hx hb dX8_figures_136 (by decide) ?_
        refine zw_zret (S := Int32 × (Nat → Int32)) (post := fun r u => post r u.1 u.2) (i_place, a_told) hx hb hr hlocks hK hW (Or.inr rfl) hw ?_ dX8_figures_137
        rfl
      · replace hw := hw.2 c_21
        refine lv_iconst (v := 0) hx hb dX8_figures_7 (by decide) ?_
        refine lv_istore_n (lv' := [(3, .int 0), (0, .ref h), (1, .int x1), (2, .int x2)]) hx hb dX8_figures_8 rfl hl (by decide) rfl (fun ls hl => ?_)
        refine lv_iconst (v := 0) hx hb dX8_figures_9 (by decide) ?_
        refine lv_istore (lv' := [(4, .int 0), (3, .int 0), (0, .ref h), (1, .int x1), (2, .int x2)]) hx hb dX8_figures_10 hl (by decide) rfl (fun ls hl => ?_)
        obtain ⟨n_12, hw⟩ := hw
        exact W_12 x2 a_told n_12 0 0 i_place _ _ _ hW (lv_sub hl [2, 3, 4, 1, 0] rfl) hw
  have hl := lv_entry ([.ref h, .int x1]) (n := 5) (Nat.le_of_ble_eq_true rfl)
  rw [lg_entry_eq]
  generalize (lg_sl ([.ref h, .int x1]) ++ List.replicate (5 - (lg_sl ([.ref h, .int x1])).length) Slot.unset).toArray = ls at hl ⊢
  have hl : lv_has ls 5 [(0, .ref h), (1, .int x1)] := hl
  refine lv_iconst (v := 0) hx hb dX8_figures_0 (by decide) ?_
  refine lv_istore_n (lv' := [(2, .int 0), (0, .ref h), (1, .int x1)]) hx hb dX8_figures_1 rfl hl (by decide) rfl (fun ls hl => ?_)
  obtain ⟨n_2, hw⟩ := hw
  exact W_2  n_2 0 i_place a_told _ _ _ hW (lv_sub hl [1, 2, 0] rfl) hw
abbrev wX8_item (cyI cyJ cyZ : ClassId) (h h_text h_many h_ones h_others h_kinds h_firsts h_persons h_gone h_at h_fines h_undos h_seenOf h_seenOpen h_path h_told h_counts h_spots h_far h_row h_begins h_ways h_next : Nat) (i_length : Int32) (i_keptMany : Int32) (i_undoMany : Int32) (i_seenMany : Int32) (i_pathMany : Int32) (i_place : Int32) (i_found : Int32) (i_walkers : Int32) (a_text : Nat → Int32) (a_many : Nat → Int32) (a_ones : Nat → Int32) (a_others : Nat → Int32) (a_kinds : Nat → Int32) (a_firsts : Nat → Int32) (a_persons : Nat → Int32) (a_told : Nat → Int32) : va_W := [(h, .inr (8, [.int i_length, .ref h_text, .ref h_many, .ref h_ones, .ref h_others, .ref h_kinds, .ref h_firsts, .ref h_persons, .ref h_gone, .ref h_at, .ref h_fines, .int i_keptMany, .int i_undoMany, .ref h_undos, .int i_seenMany, .ref h_seenOf, .ref h_seenOpen, .int i_pathMany, .ref h_path, .int i_place, .ref h_told, .ref h_counts, .ref h_spots, .ref h_far, .ref h_row, .ref h_begins, .int i_found, .int i_walkers, .ref h_ways, .ref h_next])), (h_text, .inl (cyI, 200, .inl a_text)), (h_many, .inl (cyI, 2, .inl a_many)), (h_ones, .inl (cyI, 10, .inl a_ones)), (h_others, .inl (cyI, 10, .inl a_others)), (h_kinds, .inl (cyI, 10, .inl a_kinds)), (h_firsts, .inl (cyI, 10, .inl a_firsts)), (h_persons, .inl (cyI, 2, .inl a_persons)), (h_told, .inl (cyI, 4, .inl a_told))]
abbrev qX8_item (dC : Nat → ClassId) (dI : Nat → Nat → Nat) (cyI cyJ cyZ : ClassId) (h h_text h_many h_ones h_others h_kinds h_firsts h_persons h_gone h_at h_fines h_undos h_seenOf h_seenOpen h_path h_told h_counts h_spots h_far h_row h_begins h_ways h_next : Nat) (i_length : Int32) (i_keptMany : Int32) (i_undoMany : Int32) (i_seenMany : Int32) (i_pathMany : Int32) (i_place : Int32) (i_found : Int32) (i_walkers : Int32) (a_text : Nat → Int32) (a_many : Nat → Int32) (a_ones : Nat → Int32) (a_others : Nat → Int32) (a_kinds : Nat → Int32) (a_firsts : Nat → Int32) (a_persons : Nat → Int32) (a_told : Nat → Int32) (post : Int32 → Int32 → (Nat → Int32) → (Nat → Int32) → (Nat → Int32) → (Nat → Int32) → (Nat → Int32) → (Nat → Int32) → (Nat → Int32) → Prop) (A : Nat → Prop) : Array Value → State → Outcome → State → Prop := (va_Qi (fun (r : Int32) (u : Int32 × (Nat → Int32) × (Nat → Int32) × (Nat → Int32) × (Nat → Int32) × (Nat → Int32) × (Nat → Int32) × (Nat → Int32)) => (r = 0 ∨ r = 1) ∧ post r u.1 u.2.1 u.2.2.1 u.2.2.2.1 u.2.2.2.2.1 u.2.2.2.2.2.1 u.2.2.2.2.2.2.1 u.2.2.2.2.2.2.2) (bW (dC, dI) (tyG cyI cyJ cyZ) A (fun u : Int32 × (Nat → Int32) × (Nat → Int32) × (Nat → Int32) × (Nat → Int32) × (Nat → Int32) × (Nat → Int32) × (Nat → Int32) => (wX8_item cyI cyJ cyZ h h_text h_many h_ones h_others h_kinds h_firsts h_persons h_gone h_at h_fines h_undos h_seenOf h_seenOpen h_path h_told h_counts h_spots h_far h_row h_begins h_ways h_next i_length i_keptMany i_undoMany i_seenMany i_pathMany (u.1) i_found i_walkers a_text (u.2.1) (u.2.2.1) (u.2.2.2.1) (u.2.2.2.2.1) (u.2.2.2.2.2.1) (u.2.2.2.2.2.2.1) (u.2.2.2.2.2.2.2)))) A)
set_option maxHeartbeats 4000000 in
set_option maxRecDepth 100000 in
theorem mX8_item (l : Launch) (dC : Nat → ClassId) (dI : Nat → Nat → Nat) (cyI cyJ cyZ : ClassId) (h h_text h_many h_ones h_others h_kinds h_firsts h_persons h_gone h_at h_fines h_undos h_seenOf h_seenOpen h_path h_told h_counts h_spots h_far h_row h_begins h_ways h_next : Nat) (sz : Nat) (i_length : Int32) (i_keptMany : Int32) (i_undoMany : Int32) (i_seenMany : Int32) (i_pathMany : Int32) (i_place : Int32) (i_found : Int32) (i_walkers : Int32) (a_text : Nat → Int32) (a_many : Nat → Int32) (a_ones : Nat → Int32) (a_others : Nat → Int32) (a_kinds : Nat → Int32) (a_firsts : Nat → Int32) (a_persons : Nat → Int32) (a_told : Nat → Int32) (post : Int32 → Int32 → (Nat → Int32) → (Nat → Int32) → (Nat → Int32) → (Nat → Int32) → (Nat → Int32) → (Nat → Int32) → (Nat → Int32) → Prop) (hwp : PX8_item i_length i_place a_text a_many a_ones a_others a_kinds a_firsts a_persons a_told post) : Met l yX8_item wsX8_item ({ frames := 2, cells := 0, slots := 0, locals := 49 } : Room) (va_Pc [.ref h] (pcW (dC, dI) sz (wX8_item cyI cyJ cyZ h h_text h_many h_ones h_others h_kinds h_firsts h_persons h_gone h_at h_fines h_undos h_seenOf h_seenOpen h_path h_told h_counts h_spots h_far h_row h_begins h_ways h_next i_length i_keptMany i_undoMany i_seenMany i_pathMany i_place i_found i_walkers a_text a_many a_ones a_others a_kinds a_firsts a_persons a_told) (tyG cyI cyJ cyZ))) (qX8_item dC dI cyI cyJ cyZ h h_text h_many h_ones h_others h_kinds h_firsts h_persons h_gone h_at h_fines h_undos h_seenOf h_seenOpen h_path h_told h_counts h_spots h_far h_row h_begins h_ways h_next i_length i_keptMany i_undoMany i_seenMany i_pathMany i_place i_found i_walkers a_text a_many a_ones a_others a_kinds a_firsts a_persons a_told post (va_A (wX8_item cyI cyJ cyZ h h_text h_many h_ones h_others h_kinds h_firsts h_persons h_gone h_at h_fines h_undos h_seenOf h_seenOpen h_path h_told h_counts h_spots h_far h_row h_begins h_ways h_next i_length i_keptMany i_undoMany i_seenMany i_pathMany i_place i_found i_walkers a_text a_many a_ones a_others a_kinds a_firsts a_persons a_told) sz)) 0 0 (va_A (wX8_item cyI cyJ cyZ h h_text h_many h_ones h_others h_kinds h_firsts h_persons h_gone h_at h_fines h_undos h_seenOf h_seenOpen h_path h_told h_counts h_spots h_far h_row h_begins h_ways h_next i_length i_keptMany i_undoMany i_seenMany i_pathMany i_place i_found i_walkers a_text a_many a_ones a_others a_kinds a_firsts a_persons a_told) sz) := by
  refine Met.ofW (cc := cX8_item) (maxL := 3) (ret := some .boolean) (by decide) rfl ?_
  intro p e s m args below meth c s₁ B hml hv
  obtain ⟨rfl, hsz, hP, hK, hD0, hN⟩ := hv
  have hx := B.exec
  have hb := B.bytes
  have hr := B.returns
  have hts := atoms_spec (ws := wsX8_item) B.pre
  have hown : s.vm.findClass RX8 = some m.cls := findClass_of_methodNamed B.named
  have hlocks := B.notSynchronized
  subst hsz
  have hD := hD0.self (sz := s.heap.size)
  generalize hAe : va_A (wX8_item cyI cyJ cyZ h h_text h_many h_ones h_others h_kinds h_firsts h_persons h_gone h_at h_fines h_undos h_seenOf h_seenOpen h_path h_told h_counts h_spots h_far h_row h_begins h_ways h_next i_length i_keptMany i_undoMany i_seenMany i_pathMany i_place i_found i_walkers a_text a_many a_ones a_others a_kinds a_firsts a_persons a_told) s.heap.size = A at hD ⊢
  have hA : ∀ q : Nat, s.heap.size ≤ q → A q := fun q h => by rw [← hAe]; exact Or.inr h
  have hW : Wd (dC, dI) A s.heap (wX8_item cyI cyJ cyZ h h_text h_many h_ones h_others h_kinds h_firsts h_persons h_gone h_at h_fines h_undos h_seenOf h_seenOpen h_path h_told h_counts h_spots h_far h_row h_begins h_ways h_next i_length i_keptMany i_undoMany i_seenMany i_pathMany i_place i_found i_walkers a_text a_many a_ones a_others a_kinds a_firsts a_persons a_told) s.heap [] := ⟨hP, hD, va_S.rf⟩
  have hw := hwp
  have hiX8 : ∀ w ∈ u_ws RX8 TX8 30, w ∈ wsX8_item := fun _ h => List.mem_cons_of_mem _ (List.mem_append_right _ h)
  have k_0 := hts (.fieldLink RX8 16 "OddLetsInModel" "ones" "[I") (List.mem_of_getElem? (i := 4) rfl)
  have k_1 := hts (.fieldLink RX8 13 "OddLetsInModel" "many" "[I") (List.mem_of_getElem? (i := 2) rfl)
  have k_2 := hts (.fieldLink RX8 52 "OddLetsInModel" "told" "[I") (List.mem_of_getElem? (i := 3) rfl)
  have k_3 := hts (.fieldLink RX8 19 "OddLetsInModel" "others" "[I") (List.mem_of_getElem? (i := 5) rfl)
  have k_4 := hts (.fieldLink RX8 22 "OddLetsInModel" "kinds" "[I") (List.mem_of_getElem? (i := 6) rfl)
  have k_5 := hts (.fieldLink RX8 25 "OddLetsInModel" "firsts" "[I") (List.mem_of_getElem? (i := 7) rfl)
  have k_6 := hts (.fieldLink RX8 92 "OddLetsInModel" "place" "I") (List.mem_of_getElem? (i := 1) rfl)
  have k_7 := hts (.constantLong RX8 109 (3)) (List.mem_of_getElem? (i := 8) rfl)
  have k_8 := hts (.fieldLink RX8 28 "OddLetsInModel" "persons" "[I") (List.mem_of_getElem? (i := 9) rfl)
  have W_142 : ∀ (i_place : Int32) (a_many : Nat → Int32) (a_ones : Nat → Int32) (a_others : Nat → Int32) (a_kinds : Nat → Int32) (a_firsts : Nat → Int32) (a_persons : Nat → Int32) (a_told : Nat → Int32) (H : Heap) (locs : List Loc) (ls : Array Slot), Wd (dC, dI) A s.heap (wX8_item cyI cyJ cyZ h h_text h_many h_ones h_others h_kinds h_firsts h_persons h_gone h_at h_fines h_undos h_seenOf h_seenOpen h_path h_told h_counts h_spots h_far h_row h_begins h_ways h_next i_length i_keptMany i_undoMany i_seenMany i_pathMany i_place i_found i_walkers a_text a_many a_ones a_others a_kinds a_firsts a_persons a_told) H locs → lv_has ls 3 [(0, .ref h)] → PX8_item_142 post i_place a_many a_ones a_others a_kinds a_firsts a_persons a_told → W p l e (({ frames := 2, cells := 0, slots := 0, locals := 49 } : Room)) s m (([.ref h] : List Value).toArray) below meth c H locs 0 0 (MQ below (qX8_item dC dI cyI cyJ cyZ h h_text h_many h_ones h_others h_kinds h_firsts h_persons h_gone h_at h_fines h_undos h_seenOf h_seenOpen h_path h_told h_counts h_spots h_far h_row h_begins h_ways h_next i_length i_keptMany i_undoMany i_seenMany i_pathMany i_place i_found i_walkers a_text a_many a_ones a_others a_kinds a_firsts a_persons a_told post A) (([.ref h] : List Value).toArray) s 0 0 A) (F0 m 142 ls []) := by
    intro i_place a_many a_ones a_others a_kinds a_firsts a_persons a_told H locs ls hW hl hw
    refine lv_aload_n hx hb dX8_item_142 rfl (lv_at hl 0 rfl) ?_
    refine zw_get (ci := 8) (C := RX8) (T := TX8) (N := 30) (v := .ref h_ones) hx hb hts hiX8 hown hK hW 0 rfl rfl 3 (by decide) rfl k_0 dX8_item_143 ?_
    refine lv_iconst (v := 5) hx hb dX8_item_146 (by decide) ?_
    refine lv_aload_n hx hb dX8_item_147 rfl (lv_at hl 0 rfl) ?_
    refine zw_get (ci := 8) (C := RX8) (T := TX8) (N := 30) (v := .ref h_many) hx hb hts hiX8 hown hK hW 0 rfl rfl 2 (by decide) rfl k_1 dX8_item_148 ?_
    refine lv_iconst (v := 1) hx hb dX8_item_151 (by decide) ?_
    refine zw_iald hx hb hK hW 2 rfl rfl hw.1 dX8_item_152 ?_
    replace hw := hw.2
    refine lv_iadd hx hb dX8_item_153 ?_
    refine lv_aload_n hx hb dX8_item_154 rfl (lv_at hl 0 rfl) ?_
    refine zw_get (ci := 8) (C := RX8) (T := TX8) (N := 30) (v := .ref h_told) hx hb hts hiX8 hown hK hW 0 rfl rfl 20 (by decide) rfl k_2 dX8_item_155 ?_
    refine lv_iconst (v := 0) hx hb dX8_item_158 (by decide) ?_
    refine zw_iald hx hb hK hW 8 rfl rfl hw.1 dX8_item_159 ?_
    replace hw := hw.2
    refine lv_topi (fun t_1 et_1 => ?_)
    replace hw := hw t_1 et_1
    refine zw_iast hx hb hK hW 3 rfl rfl hw.1 (w2 := fun a_ones_2 => (wX8_item cyI cyJ cyZ h h_text h_many h_ones h_others h_kinds h_firsts h_persons h_gone h_at h_fines h_undos h_seenOf h_seenOpen h_path h_told h_counts h_spots h_far h_row h_begins h_ways h_next i_length i_keptMany i_undoMany i_seenMany i_pathMany i_place i_found i_walkers a_text a_many a_ones_2 a_others a_kinds a_firsts a_persons a_told)) (fun _ => rfl) dX8_item_160 (fun a_ones_2 H locs ea_ones_2 hW => ?_)
    replace hw := hw.2 a_ones_2 ea_ones_2
    refine lv_aload_n hx hb dX8_item_161 rfl (lv_at hl 0 rfl) ?_
    refine zw_get (ci := 8) (C := RX8) (T := TX8) (N := 30) (v := .ref h_others) hx hb hts hiX8 hown hK hW 0 rfl rfl 4 (by decide) rfl k_3 dX8_item_162 ?_
    refine lv_iconst (v := 5) hx hb dX8_item_165 (by decide) ?_
    refine lv_aload_n hx hb dX8_item_166 rfl (lv_at hl 0 rfl) ?_
    refine zw_get (ci := 8) (C := RX8) (T := TX8) (N := 30) (v := .ref h_many) hx hb hts hiX8 hown hK hW 0 rfl rfl 2 (by decide) rfl k_1 dX8_item_167 ?_
    refine lv_iconst (v := 1) hx hb dX8_item_170 (by decide) ?_
    refine zw_iald hx hb hK hW 2 rfl rfl hw.1 dX8_item_171 ?_
    replace hw := hw.2
    refine lv_iadd hx hb dX8_item_172 ?_
    refine lv_aload_n hx hb dX8_item_173 rfl (lv_at hl 0 rfl) ?_
    refine zw_get (ci := 8) (C := RX8) (T := TX8) (N := 30) (v := .ref h_told) hx hb hts hiX8 hown hK hW 0 rfl rfl 20 (by decide) rfl k_2 dX8_item_174 ?_
    refine lv_iconst (v := 1) hx hb dX8_item_177 (by decide) ?_
    refine zw_iald hx hb hK hW 8 rfl rfl hw.1 dX8_item_178 ?_
    replace hw := hw.2
    refine lv_topi (fun t_3 et_3 => ?_)
    replace hw := hw t_3 et_3
    refine zw_iast hx hb hK hW 4 rfl rfl hw.1 (w2 := fun a_others_4 => (wX8_item cyI cyJ cyZ h h_text h_many h_ones h_others h_kinds h_firsts h_persons h_gone h_at h_fines h_undos h_seenOf h_seenOpen h_path h_told h_counts h_spots h_far h_row h_begins h_ways h_next i_length i_keptMany i_undoMany i_seenMany i_pathMany i_place i_found i_walkers a_text a_many a_ones_2 a_others_4 a_kinds a_firsts a_persons a_told)) (fun _ => rfl) dX8_item_179 (fun a_others_4 H locs ea_others_4 hW => ?_)
    replace hw := hw.2 a_others_4 ea_others_4
    refine lv_aload_n hx hb dX8_item_180 rfl (lv_at hl 0 rfl) ?_
    refine zw_get (ci := 8) (C := RX8) (T := TX8) (N := 30) (v := .ref h_kinds) hx hb hts hiX8 hown hK hW 0 rfl rfl 5 (by decide) rfl k_4 dX8_item_181 ?_
    refine lv_iconst (v := 5) hx hb dX8_item_184 (by decide) ?_
    refine lv_aload_n hx hb dX8_item_185 rfl (lv_at hl 0 rfl) ?_
    refine zw_get (ci := 8) (C := RX8) (T := TX8) (N := 30) (v := .ref h_many) hx hb hts hiX8 hown hK hW 0 rfl rfl 2 (by decide) rfl k_1 dX8_item_186 ?_
    refine lv_iconst (v := 1) hx hb dX8_item_189 (by decide) ?_
    refine zw_iald hx hb hK hW 2 rfl rfl hw.1 dX8_item_190 ?_
    replace hw := hw.2
    refine lv_iadd hx hb dX8_item_191 ?_
    refine lv_aload_n hx hb dX8_item_192 rfl (lv_at hl 0 rfl) ?_
    refine zw_get (ci := 8) (C := RX8) (T := TX8) (N := 30) (v := .ref h_told) hx hb hts hiX8 hown hK hW 0 rfl rfl 20 (by decide) rfl k_2 dX8_item_193 ?_
    refine lv_iconst (v := 2) hx hb dX8_item_196 (by decide) ?_
    refine zw_iald hx hb hK hW 8 rfl rfl hw.1 dX8_item_197 ?_
    replace hw := hw.2
    refine lv_topi (fun t_5 et_5 => ?_)
    replace hw := hw t_5 et_5
    refine zw_iast hx hb hK hW 5 rfl rfl hw.1 (w2 := fun a_kinds_6 => (wX8_item cyI cyJ cyZ h h_text h_many h_ones h_others h_kinds h_firsts h_persons h_gone h_at h_fines h_undos h_seenOf h_seenOpen h_path h_told h_counts h_spots h_far h_row h_begins h_ways h_next i_length i_keptMany i_undoMany i_seenMany i_pathMany i_place i_found i_walkers a_text a_many a_ones_2 a_others_4 a_kinds_6 a_firsts a_persons a_told)) (fun _ => rfl) dX8_item_198 (fun a_kinds_6 H locs ea_kinds_6 hW => ?_)
    replace hw := hw.2 a_kinds_6 ea_kinds_6
    refine lv_aload_n hx hb dX8_item_199 rfl (lv_at hl 0 rfl) ?_
    refine zw_get (ci := 8) (C := RX8) (T := TX8) (N := 30) (v := .ref h_firsts) hx hb hts hiX8 hown hK hW 0 rfl rfl 6 (by decide) rfl k_5 dX8_item_200 ?_
    refine lv_iconst (v := 5) hx hb dX8_item_203 (by decide) ?_
    refine lv_aload_n hx hb dX8_item_204 rfl (lv_at hl 0 rfl) ?_
    refine zw_get (ci := 8) (C := RX8) (T := TX8) (N := 30) (v := .ref h_many) hx hb hts hiX8 hown hK hW 0 rfl rfl 2 (by decide) rfl k_1 dX8_item_205 ?_
    refine lv_iconst (v := 1) hx hb dX8_item_208 (by decide) ?_
    refine zw_iald hx hb hK hW 2 rfl rfl hw.1 dX8_item_209 ?_
    replace hw := hw.2
    refine lv_iadd hx hb dX8_item_210 ?_
    refine lv_aload_n hx hb dX8_item_211 rfl (lv_at hl 0 rfl) ?_
    refine zw_get (ci := 8) (C := RX8) (T := TX8) (N := 30) (v := .ref h_told) hx hb hts hiX8 hown hK hW 0 rfl rfl 20 (by decide) rfl k_2 dX8_item_212 ?_
    refine lv_iconst (v := 3) hx hb dX8_item_215 (by decide) ?_
    refine zw_iald hx hb hK hW 8 rfl rfl hw.1 dX8_item_216 ?_
    replace hw := hw.2
    refine lv_topi (fun t_7 et_7 => ?_)
    replace hw := hw t_7 et_7
    refine zw_iast hx hb hK hW 6 rfl rfl hw.1 (w2 := fun a_firsts_8 => (wX8_item cyI cyJ cyZ h h_text h_many h_ones h_others h_kinds h_firsts h_persons h_gone h_at h_fines h_undos h_seenOf h_seenOpen h_path h_told h_counts h_spots h_far h_row h_begins h_ways h_next i_length i_keptMany i_undoMany i_seenMany i_pathMany i_place i_found i_walkers a_text a_many a_ones_2 a_others_4 a_kinds_6 a_firsts_8 a_persons a_told)) (fun _ => rfl) dX8_item_217 (fun a_firsts_8 H locs ea_firsts_8 hW => ?_)
    replace hw := hw.2 a_firsts_8 ea_firsts_8
    refine lv_aload_n hx hb dX8_item_218 rfl (lv_at hl 0 rfl) ?_
    refine zw_get (ci := 8) (C := RX8) (T := TX8) (N := 30) (v := .ref h_many) hx hb hts hiX8 hown hK hW 0 rfl rfl 2 (by decide) rfl k_1 dX8_item_219 ?_
    refine lv_iconst (v := 1) hx hb dX8_item_222 (by decide) ?_
    refine lv_dup2_11 hx hb dX8_item_223 rfl rfl ?_
    refine zw_iald hx hb hK hW 2 rfl rfl hw.1 dX8_item_224 ?_
    replace hw := hw.2
    refine lv_iconst (v := 1) hx hb dX8_item_225 (by decide) ?_
    refine lv_iadd hx hb dX8_item_226 ?_
    refine lv_topi (fun t_9 et_9 => ?_)
    replace hw := hw t_9 et_9
    refine zw_iast hx hb hK hW 2 rfl rfl hw.1 (w2 := fun a_many_10 => (wX8_item cyI cyJ cyZ h h_text h_many h_ones h_others h_kinds h_firsts h_persons h_gone h_at h_fines h_undos h_seenOf h_seenOpen h_path h_told h_counts h_spots h_far h_row h_begins h_ways h_next i_length i_keptMany i_undoMany i_seenMany i_pathMany i_place i_found i_walkers a_text a_many_10 a_ones_2 a_others_4 a_kinds_6 a_firsts_8 a_persons a_told)) (fun _ => rfl) dX8_item_227 (fun a_many_10 H locs ea_many_10 hW => ?_)
    replace hw := hw.2 a_many_10 ea_many_10
    refine lv_iconst (v := 1) hx hb dX8_item_228 (by decide) ?_
    refine zw_zret (S := Int32 × (Nat → Int32) × (Nat → Int32) × (Nat → Int32) × (Nat → Int32) × (Nat → Int32) × (Nat → Int32) × (Nat → Int32)) (post := fun r u => post r u.1 u.2.1 u.2.2.1 u.2.2.2.1 u.2.2.2.2.1 u.2.2.2.2.2.1 u.2.2.2.2.2.2.1 u.2.2.2.2.2.2.2) (i_place, a_many_10, a_ones_2, a_others_4, a_kinds_6, a_firsts_8, a_persons, a_told) hx hb hr hlocks hK hW (Or.inr rfl) hw ?_ dX8_item_229
    rfl
  have W_115 : ∀ (i_place : Int32) (a_many : Nat → Int32) (a_ones : Nat → Int32) (a_others : Nat → Int32) (a_kinds : Nat → Int32) (a_firsts : Nat → Int32) (a_persons : Nat → Int32) (a_told : Nat → Int32) (H : Heap) (locs : List Loc) (ls : Array Slot), Wd (dC, dI) A s.heap (wX8_item cyI cyJ cyZ h h_text h_many h_ones h_others h_kinds h_firsts h_persons h_gone h_at h_fines h_undos h_seenOf h_seenOpen h_path h_told h_counts h_spots h_far h_row h_begins h_ways h_next i_length i_keptMany i_undoMany i_seenMany i_pathMany i_place i_found i_walkers a_text a_many a_ones a_others a_kinds a_firsts a_persons a_told) H locs → lv_has ls 3 [(0, .ref h)] → PX8_item_115 post i_place a_many a_ones a_others a_kinds a_firsts a_persons a_told → W p l e (({ frames := 2, cells := 0, slots := 0, locals := 49 } : Room)) s m (([.ref h] : List Value).toArray) below meth c H locs 0 0 (MQ below (qX8_item dC dI cyI cyJ cyZ h h_text h_many h_ones h_others h_kinds h_firsts h_persons h_gone h_at h_fines h_undos h_seenOf h_seenOpen h_path h_told h_counts h_spots h_far h_row h_begins h_ways h_next i_length i_keptMany i_undoMany i_seenMany i_pathMany i_place i_found i_walkers a_text a_many a_ones a_others a_kinds a_firsts a_persons a_told post A) (([.ref h] : List Value).toArray) s 0 0 A) (F0 m 115 ls []) := by
    intro i_place a_many a_ones a_others a_kinds a_firsts a_persons a_told H locs ls hW hl hw
    refine lv_iconst (v := 0) hx hb dX8_item_115 (by decide) ?_
    refine lv_istore_n (lv' := [(2, .int 0), (0, .ref h)]) hx hb dX8_item_116 rfl hl (by decide) rfl (fun ls hl => ?_)
    refine lv_iload_n hx hb dX8_item_117 rfl (lv_at hl 0 rfl) ?_
    refine lv_if_eq (tgt := 140) hx hb dX8_item_118 (by decide) (fun c_11 => ?_) (fun c_11 => ?_)
    · replace hw := hw.1 c_11
      refine lv_iconst (v := 0) hx hb dX8_item_140 (by decide) ?_
      refine zw_zret (S := Int32 × (Nat → Int32) × (Nat → Int32) × (Nat → Int32) × (Nat → Int32) × (Nat → Int32) × (Nat → Int32) × (Nat → Int32)) (post := fun r u => post r u.1 u.2.1 u.2.2.1 u.2.2.2.1 u.2.2.2.2.1 u.2.2.2.2.2.1 u.2.2.2.2.2.2.1 u.2.2.2.2.2.2.2) (i_place, a_many, a_ones, a_others, a_kinds, a_firsts, a_persons, a_told) hx hb hr hlocks hK hW (Or.inl rfl) hw ?_ dX8_item_141
      rfl
    · replace hw := hw.2 c_11
      refine lv_aload_n hx hb dX8_item_121 rfl (lv_at hl 1 rfl) ?_
      refine zw_get (ci := 8) (C := RX8) (T := TX8) (N := 30) (v := .ref h_told) hx hb hts hiX8 hown hK hW 0 rfl rfl 20 (by decide) rfl k_2 dX8_item_122 ?_
      refine lv_iconst (v := 2) hx hb dX8_item_125 (by decide) ?_
      refine zw_iald hx hb hK hW 8 rfl rfl hw.1 dX8_item_126 ?_
      replace hw := hw.2
      refine lv_iconst (v := 3) hx hb dX8_item_127 (by decide) ?_
      refine lv_icmp_ne (tgt := 142) hx hb dX8_item_128 (by decide) (fun c_12 => ?_) (fun c_12 => ?_)
      · replace hw := hw.2 c_12
        exact W_142 i_place a_many a_ones a_others a_kinds a_firsts a_persons a_told _ _ _ hW (lv_sub hl [1] rfl) hw
      · replace hw := hw.1 c_12
        refine lv_aload_n hx hb dX8_item_131 rfl (lv_at hl 1 rfl) ?_
        refine zw_get (ci := 8) (C := RX8) (T := TX8) (N := 30) (v := .ref h_many) hx hb hts hiX8 hown hK hW 0 rfl rfl 2 (by decide) rfl k_1 dX8_item_132 ?_
        refine lv_iconst (v := 1) hx hb dX8_item_135 (by decide) ?_
        refine zw_iald hx hb hK hW 2 rfl rfl hw.1 dX8_item_136 ?_
        replace hw := hw.2
        refine lv_if_ne (tgt := 142) hx hb dX8_item_137 (by decide) (fun c_13 => ?_) (fun c_13 => ?_)
        · replace hw := hw.2 c_13
          exact W_142 i_place a_many a_ones a_others a_kinds a_firsts a_persons a_told _ _ _ hW (lv_sub hl [1] rfl) hw
        · replace hw := hw.1 c_13
          refine lv_iconst (v := 0) hx hb dX8_item_140 (by decide) ?_
          refine zw_zret (S := Int32 × (Nat → Int32) × (Nat → Int32) × (Nat → Int32) × (Nat → Int32) × (Nat → Int32) × (Nat → Int32) × (Nat → Int32)) (post := fun r u => post r u.1 u.2.1 u.2.2.1 u.2.2.2.1 u.2.2.2.2.1 u.2.2.2.2.2.1 u.2.2.2.2.2.2.1 u.2.2.2.2.2.2.2) (i_place, a_many, a_ones, a_others, a_kinds, a_firsts, a_persons, a_told) hx hb hr hlocks hK hW (Or.inl rfl) hw ?_ dX8_item_141
          rfl
  have hl := lv_entry ([.ref h]) (n := 3) (Nat.le_of_ble_eq_true rfl)
  rw [lg_entry_eq]
  generalize (lg_sl ([.ref h]) ++ List.replicate (3 - (lg_sl ([.ref h])).length) Slot.unset).toArray = ls at hl ⊢
  have hl : lv_has ls 3 [(0, .ref h)] := hl
  refine lv_aload_n hx hb dX8_item_0 rfl (lv_at hl 0 rfl) ?_
  refine lv_aload_n hx hb dX8_item_1 rfl (lv_at hl 0 rfl) ?_
  refine zw_get (ci := 8) (C := RX8) (T := TX8) (N := 30) (v := .int i_place) hx hb hts hiX8 hown hK hW 0 rfl rfl 19 (by decide) rfl k_6 dX8_item_2 ?_
  refine zw_Vi ⟨hx, hb, hml, hown, hts⟩ hK hN hA hW 0 rfl (T := TX8) (N := 30) rfl [.int i_place] [] [0, 1] [2, 3, 4, 5, 6, 7, 8] [7, 8, 0, 1, 2, 3, 4, 5, 6] (fun _ => (wX8_item cyI cyJ cyZ h h_text h_many h_ones h_others h_kinds h_firsts h_persons h_gone h_at h_fines h_undos h_seenOf h_seenOpen h_path h_told h_counts h_spots h_far h_row h_begins h_ways h_next i_length i_keptMany i_undoMany i_seenMany i_pathMany i_place i_found i_walkers a_text a_many a_ones a_others a_kinds a_firsts a_persons a_told)) (mX8_byteAt l dC dI cyI cyJ cyZ h h_text h_many h_ones h_others h_kinds h_firsts h_persons h_gone h_at h_fines h_undos h_seenOf h_seenOpen h_path h_told h_counts h_spots h_far h_row h_begins h_ways h_next _ i_length i_keptMany i_undoMany i_seenMany i_pathMany i_place i_found i_walkers a_text i_place _ hw) (cwV 1 hts gX8_item_X8_byteAt rfl rfl rfl (by decide +kernel) ⟨Nat.le_of_ble_eq_true rfl, Nat.le_of_ble_eq_true rfl⟩) rfl rfl rfl rfl (by decide) rfl (fun _ => rfl) rfl hl.1 rfl (Nat.le_of_ble_eq_true rfl) (Nat.le_of_ble_eq_true rfl) (Nat.le_of_ble_eq_true rfl) dX8_item_5 (fun r_14 u H locs hw hW => ?_)
  refine lv_istore_n (lv' := [(1, .int r_14), (0, .ref h)]) hx hb dX8_item_8 rfl hl (by decide) rfl (fun ls hl => ?_)
  refine lv_aload_n hx hb dX8_item_9 rfl (lv_at hl 1 rfl) ?_
  refine lv_dup hx hb dX8_item_10 rfl ?_
  refine zw_get (ci := 8) (C := RX8) (T := TX8) (N := 30) (v := .int i_place) hx hb hts hiX8 hown hK hW 0 rfl rfl 19 (by decide) rfl k_6 dX8_item_11 ?_
  refine lv_iconst (v := 1) hx hb dX8_item_14 (by decide) ?_
  refine lv_iadd hx hb dX8_item_15 ?_
  refine lv_topi (fun i_15 ei_15 => ?_)
  replace hw := hw i_15 ei_15
  refine zw_put (ci := 8) (C := RX8) (T := TX8) (N := 30) (w2 := (wX8_item cyI cyJ cyZ h h_text h_many h_ones h_others h_kinds h_firsts h_persons h_gone h_at h_fines h_undos h_seenOf h_seenOpen h_path h_told h_counts h_spots h_far h_row h_begins h_ways h_next i_length i_keptMany i_undoMany i_seenMany i_pathMany i_15 i_found i_walkers a_text a_many a_ones a_others a_kinds a_firsts a_persons a_told)) hx hb hts hiX8 tyX8 tyX8_ok nmX8 hown hK hW 0 rfl rfl 19 (by decide) (by decide +kernel) rfl (Nat.le_of_ble_eq_true rfl) rfl k_6 dX8_item_16 (fun H locs hW => ?_)
  refine lv_iload_n hx hb dX8_item_19 rfl (lv_at hl 0 rfl) ?_
  refine lv_topi (fun t_16 et_16 => ?_)
  replace hw := hw t_16 et_16
  by_cases c_17 : t_16 = 103
  · replace hw := hw.1 c_17
    refine lv_lookup (off := 28) (tgt := 48) hx hb dX8_item_20 (by decide) (by rw [c_17]; decide) (by decide) ?_
    refine lv_aload_n hx hb dX8_item_48 rfl (lv_at hl 1 rfl) ?_
    refine lv_iconst (v := 4) hx hb dX8_item_49 (by decide) ?_
    refine zw_Vi ⟨hx, hb, hml, hown, hts⟩ hK hN hA hW 0 rfl (T := TX8) (N := 30) rfl [.int 4] [] [0, 1, 8] [2, 3, 4, 5, 6, 7] [6, 7, 0, 1, 2, 3, 4, 5, 8] (fun u => (wX8_item cyI cyJ cyZ h h_text h_many h_ones h_others h_kinds h_firsts h_persons h_gone h_at h_fines h_undos h_seenOf h_seenOpen h_path h_told h_counts h_spots h_far h_row h_begins h_ways h_next i_length i_keptMany i_undoMany i_seenMany i_pathMany (u.1) i_found i_walkers a_text a_many a_ones a_others a_kinds a_firsts a_persons (u.2))) (mX8_figures l dC dI cyI cyJ cyZ h h_text h_many h_ones h_others h_kinds h_firsts h_persons h_gone h_at h_fines h_undos h_seenOf h_seenOpen h_path h_told h_counts h_spots h_far h_row h_begins h_ways h_next _ i_length i_keptMany i_undoMany i_seenMany i_pathMany i_15 i_found i_walkers a_text a_told 4 _ hw) (cwV 1 hts gX8_item_X8_figures rfl rfl rfl (by decide +kernel) ⟨Nat.le_of_ble_eq_true rfl, Nat.le_of_ble_eq_true rfl⟩) rfl rfl rfl rfl (by decide) rfl (fun _ => rfl) rfl hl.1 rfl (Nat.le_of_ble_eq_true rfl) (Nat.le_of_ble_eq_true rfl) (Nat.le_of_ble_eq_true rfl) dX8_item_50 (fun r_20 u H locs hw hW => ?_)
    obtain ⟨i_place_18, a_told_19⟩ := u
    try dsimp only at hw
    replace hW : Wd (dC, dI) A s.heap (wX8_item cyI cyJ cyZ h h_text h_many h_ones h_others h_kinds h_firsts h_persons h_gone h_at h_fines h_undos h_seenOf h_seenOpen h_path h_told h_counts h_spots h_far h_row h_begins h_ways h_next i_length i_keptMany i_undoMany i_seenMany i_pathMany i_place_18 i_found i_walkers a_text a_many a_ones a_others a_kinds a_firsts a_persons a_told_19) H locs := hW
    obtain ⟨br_20, hw⟩ := hw
    refine lv_if_eq (tgt := 115) hx hb dX8_item_53 (by decide) (fun c_21 => ?_) (fun c_21 => ?_)
    · replace hw := hw.1 c_21
      exact W_115 i_place_18 a_many a_ones a_others a_kinds a_firsts a_persons a_told_19 _ _ _ hW (lv_sub hl [1] rfl) hw
    · replace hw := hw.2 c_21
      refine lv_aload_n hx hb dX8_item_56 rfl (lv_at hl 1 rfl) ?_
      refine zw_get (ci := 8) (C := RX8) (T := TX8) (N := 30) (v := .ref h_many) hx hb hts hiX8 hown hK hW 0 rfl rfl 2 (by decide) rfl k_1 dX8_item_57 ?_
      refine lv_iconst (v := 1) hx hb dX8_item_60 (by decide) ?_
      refine zw_iald hx hb hK hW 2 rfl rfl hw.1 dX8_item_61 ?_
      replace hw := hw.2
      refine lv_iconst (v := 5) hx hb dX8_item_62 (by decide) ?_
      refine lv_icmp_ge (tgt := 115) hx hb dX8_item_63 (by decide) (fun c_22 => ?_) (fun c_22 => ?_)
      · replace hw := hw.1 c_22
        exact W_115 i_place_18 a_many a_ones a_others a_kinds a_firsts a_persons a_told_19 _ _ _ hW (lv_sub hl [1] rfl) hw
      · replace hw := hw.2 c_22
        refine lv_aload_n hx hb dX8_item_66 rfl (lv_at hl 1 rfl) ?_
        refine zw_get (ci := 8) (C := RX8) (T := TX8) (N := 30) (v := .ref h_told) hx hb hts hiX8 hown hK hW 0 rfl rfl 20 (by decide) rfl k_2 dX8_item_67 ?_
        refine lv_iconst (v := 0) hx hb dX8_item_70 (by decide) ?_
        refine zw_iald hx hb hK hW 8 rfl rfl hw.1 dX8_item_71 ?_
        replace hw := hw.2
        refine lv_iconst (v := 5) hx hb dX8_item_72 (by decide) ?_
        refine lv_icmp_ge (tgt := 115) hx hb dX8_item_73 (by decide) (fun c_23 => ?_) (fun c_23 => ?_)
        · replace hw := hw.1 c_23
          exact W_115 i_place_18 a_many a_ones a_others a_kinds a_firsts a_persons a_told_19 _ _ _ hW (lv_sub hl [1] rfl) hw
        · replace hw := hw.2 c_23
          refine lv_aload_n hx hb dX8_item_76 rfl (lv_at hl 1 rfl) ?_
          refine zw_get (ci := 8) (C := RX8) (T := TX8) (N := 30) (v := .ref h_told) hx hb hts hiX8 hown hK hW 0 rfl rfl 20 (by decide) rfl k_2 dX8_item_77 ?_
          refine lv_iconst (v := 1) hx hb dX8_item_80 (by decide) ?_
          refine zw_iald hx hb hK hW 8 rfl rfl hw.1 dX8_item_81 ?_
          replace hw := hw.2
          refine lv_iconst (v := 5) hx hb dX8_item_82 (by decide) ?_
          refine lv_icmp_ge (tgt := 115) hx hb dX8_item_83 (by decide) (fun c_24 => ?_) (fun c_24 => ?_)
          · replace hw := hw.1 c_24
            exact W_115 i_place_18 a_many a_ones a_others a_kinds a_firsts a_persons a_told_19 _ _ _ hW (lv_sub hl [1] rfl) hw
          · replace hw := hw.2 c_24
            refine lv_aload_n hx hb dX8_item_86 rfl (lv_at hl 1 rfl) ?_
            refine zw_get (ci := 8) (C := RX8) (T := TX8) (N := 30) (v := .ref h_told) hx hb hts hiX8 hown hK hW 0 rfl rfl 20 (by decide) rfl k_2 dX8_item_87 ?_
            refine lv_iconst (v := 0) hx hb dX8_item_90 (by decide) ?_
            refine zw_iald hx hb hK hW 8 rfl rfl hw.1 dX8_item_91 ?_
            replace hw := hw.2
            refine lv_aload_n hx hb dX8_item_92 rfl (lv_at hl 1 rfl) ?_
            refine zw_get (ci := 8) (C := RX8) (T := TX8) (N := 30) (v := .ref h_told) hx hb hts hiX8 hown hK hW 0 rfl rfl 20 (by decide) rfl k_2 dX8_item_93 ?_
            refine lv_iconst (v := 1) hx hb dX8_item_96 (by decide) ?_
            refine zw_iald hx hb hK hW 8 rfl rfl hw.1 dX8_item_97 ?_
            replace hw := hw.2
            refine lv_icmp_eq (tgt := 115) hx hb dX8_item_98 (by decide) (fun c_25 => ?_) (fun c_25 => ?_)
            · replace hw := hw.1 c_25
              exact W_115 i_place_18 a_many a_ones a_others a_kinds a_firsts a_persons a_told_19 _ _ _ hW (lv_sub hl [1] rfl) hw
            · replace hw := hw.2 c_25
              refine lv_aload_n hx hb dX8_item_101 rfl (lv_at hl 1 rfl) ?_
              refine zw_get (ci := 8) (C := RX8) (T := TX8) (N := 30) (v := .ref h_told) hx hb hts hiX8 hown hK hW 0 rfl rfl 20 (by decide) rfl k_2 dX8_item_102 ?_
              refine lv_iconst (v := 2) hx hb dX8_item_105 (by decide) ?_
              refine zw_iald hx hb hK hW 8 rfl rfl hw.1 dX8_item_106 ?_
              replace hw := hw.2
              refine lv_iconst (v := 5) hx hb dX8_item_107 (by decide) ?_
              refine lv_icmp_ge (tgt := 115) hx hb dX8_item_108 (by decide) (fun c_26 => ?_) (fun c_26 => ?_)
              · replace hw := hw.1 c_26
                exact W_115 i_place_18 a_many a_ones a_others a_kinds a_firsts a_persons a_told_19 _ _ _ hW (lv_sub hl [1] rfl) hw
              · replace hw := hw.2 c_26
                refine lv_iconst (v := 1) hx hb dX8_item_111 (by decide) ?_
                refine lv_goto (tgt := 116) hx hb dX8_item_112 (by decide) ?_
                refine lv_istore_n (lv' := [(2, .int 1), (1, .int r_14), (0, .ref h)]) hx hb dX8_item_116 rfl hl (by decide) rfl (fun ls hl => ?_)
                refine lv_iload_n hx hb dX8_item_117 rfl (lv_at hl 0 rfl) ?_
                refine lv_if_eq (tgt := 140) hx hb dX8_item_118 (by decide) (fun c_27 => ?_) (fun c_27 => ?_)
                · replace hw := hw.1 c_27
                  refine lv_iconst (v := 0) hx hb dX8_item_140 (by decide) ?_
                  refine zw_zret (S := Int32 × (Nat → Int32) × (Nat → Int32) × (Nat → Int32) × (Nat → Int32) × (Nat → Int32) × (Nat → Int32) × (Nat → Int32)) (post := fun r u => post r u.1 u.2.1 u.2.2.1 u.2.2.2.1 u.2.2.2.2.1 u.2.2.2.2.2.1 u.2.2.2.2.2.2.1 u.2.2.2.2.2.2.2) (i_place_18, a_many, a_ones, a_others, a_kinds, a_firsts, a_persons, a_told_19) hx hb hr hlocks hK hW (Or.inl rfl) hw ?_ dX8_item_141
                  rfl
                · replace hw := hw.2 c_27
                  refine lv_aload_n hx hb dX8_item_121 rfl (lv_at hl 2 rfl) ?_
                  refine zw_get (ci := 8) (C := RX8) (T := TX8) (N := 30) (v := .ref h_told) hx hb hts hiX8 hown hK hW 0 rfl rfl 20 (by decide) rfl k_2 dX8_item_122 ?_
                  refine lv_iconst (v := 2) hx hb dX8_item_125 (by decide) ?_
                  refine zw_iald hx hb hK hW 8 rfl rfl hw.1 dX8_item_126 ?_
                  replace hw := hw.2
                  refine lv_iconst (v := 3) hx hb dX8_item_127 (by decide) ?_
                  refine lv_icmp_ne (tgt := 142) hx hb dX8_item_128 (by decide) (fun c_28 => ?_) (fun c_28 => ?_)
                  · replace hw := hw.2 c_28
                    exact W_142 i_place_18 a_many a_ones a_others a_kinds a_firsts a_persons a_told_19 _ _ _ hW (lv_sub hl [2] rfl) hw
                  · replace hw := hw.1 c_28
                    refine lv_aload_n hx hb dX8_item_131 rfl (lv_at hl 2 rfl) ?_
                    refine zw_get (ci := 8) (C := RX8) (T := TX8) (N := 30) (v := .ref h_many) hx hb hts hiX8 hown hK hW 0 rfl rfl 2 (by decide) rfl k_1 dX8_item_132 ?_
                    refine lv_iconst (v := 1) hx hb dX8_item_135 (by decide) ?_
                    refine zw_iald hx hb hK hW 2 rfl rfl hw.1 dX8_item_136 ?_
                    replace hw := hw.2
                    refine lv_if_ne (tgt := 142) hx hb dX8_item_137 (by decide) (fun c_29 => ?_) (fun c_29 => ?_)
                    · replace hw := hw.2 c_29
                      exact W_142 i_place_18 a_many a_ones a_others a_kinds a_firsts a_persons a_told_19 _ _ _ hW (lv_sub hl [2] rfl) hw
                    · replace hw := hw.1 c_29
                      refine lv_iconst (v := 0) hx hb dX8_item_140 (by decide) ?_
                      refine zw_zret (S := Int32 × (Nat → Int32) × (Nat → Int32) × (Nat → Int32) × (Nat → Int32) × (Nat → Int32) × (Nat → Int32) × (Nat → Int32)) (post := fun r u => post r u.1 u.2.1 u.2.2.1 u.2.2.2.1 u.2.2.2.2.1 u.2.2.2.2.2.1 u.2.2.2.2.2.2.1 u.2.2.2.2.2.2.2) (i_place_18, a_many, a_ones, a_others, a_kinds, a_firsts, a_persons, a_told_19) hx hb hr hlocks hK hW (Or.inl rfl) hw ?_ dX8_item_141
                      rfl
  · replace hw := hw.2 c_17
    by_cases c_30 : t_16 = 110
    · replace hw := hw.1 c_30
      refine lv_lookup (off := 210) (tgt := 230) hx hb dX8_item_20 (by decide) (by rw [c_30]; decide) (by decide) ?_
      refine lv_aload_n hx hb dX8_item_230 rfl (lv_at hl 1 rfl) ?_
      refine lv_iconst (v := 1) hx hb dX8_item_231 (by decide) ?_
      refine zw_Vi ⟨hx, hb, hml, hown, hts⟩ hK hN hA hW 0 rfl (T := TX8) (N := 30) rfl [.int 1] [] [0, 1, 8] [2, 3, 4, 5, 6, 7] [6, 7, 0, 1, 2, 3, 4, 5, 8] (fun u => (wX8_item cyI cyJ cyZ h h_text h_many h_ones h_others h_kinds h_firsts h_persons h_gone h_at h_fines h_undos h_seenOf h_seenOpen h_path h_told h_counts h_spots h_far h_row h_begins h_ways h_next i_length i_keptMany i_undoMany i_seenMany i_pathMany (u.1) i_found i_walkers a_text a_many a_ones a_others a_kinds a_firsts a_persons (u.2))) (mX8_figures l dC dI cyI cyJ cyZ h h_text h_many h_ones h_others h_kinds h_firsts h_persons h_gone h_at h_fines h_undos h_seenOf h_seenOpen h_path h_told h_counts h_spots h_far h_row h_begins h_ways h_next _ i_length i_keptMany i_undoMany i_seenMany i_pathMany i_15 i_found i_walkers a_text a_told 1 _ hw) (cwV 1 hts gX8_item_X8_figures rfl rfl rfl (by decide +kernel) ⟨Nat.le_of_ble_eq_true rfl, Nat.le_of_ble_eq_true rfl⟩) rfl rfl rfl rfl (by decide) rfl (fun _ => rfl) rfl hl.1 rfl (Nat.le_of_ble_eq_true rfl) (Nat.le_of_ble_eq_true rfl) (Nat.le_of_ble_eq_true rfl) dX8_item_232 (fun r_33 u H locs hw hW => ?_)
      obtain ⟨i_place_31, a_told_32⟩ := u
      try dsimp only at hw
      replace hW : Wd (dC, dI) A s.heap (wX8_item cyI cyJ cyZ h h_text h_many h_ones h_others h_kinds h_firsts h_persons h_gone h_at h_fines h_undos h_seenOf h_seenOpen h_path h_told h_counts h_spots h_far h_row h_begins h_ways h_next i_length i_keptMany i_undoMany i_seenMany i_pathMany i_place_31 i_found i_walkers a_text a_many a_ones a_others a_kinds a_firsts a_persons a_told_32) H locs := hW
      obtain ⟨br_33, hw⟩ := hw
      refine lv_if_eq (tgt := 255) hx hb dX8_item_235 (by decide) (fun c_34 => ?_) (fun c_34 => ?_)
      · replace hw := hw.1 c_34
        refine lv_iconst (v := 0) hx hb dX8_item_255 (by decide) ?_
        refine zw_zret (S := Int32 × (Nat → Int32) × (Nat → Int32) × (Nat → Int32) × (Nat → Int32) × (Nat → Int32) × (Nat → Int32) × (Nat → Int32)) (post := fun r u => post r u.1 u.2.1 u.2.2.1 u.2.2.2.1 u.2.2.2.2.1 u.2.2.2.2.2.1 u.2.2.2.2.2.2.1 u.2.2.2.2.2.2.2) (i_place_31, a_many, a_ones, a_others, a_kinds, a_firsts, a_persons, a_told_32) hx hb hr hlocks hK hW (Or.inl rfl) hw ?_ dX8_item_256
        rfl
      · replace hw := hw.2 c_34
        refine lv_aload_n hx hb dX8_item_238 rfl (lv_at hl 1 rfl) ?_
        refine zw_get (ci := 8) (C := RX8) (T := TX8) (N := 30) (v := .ref h_told) hx hb hts hiX8 hown hK hW 0 rfl rfl 20 (by decide) rfl k_2 dX8_item_239 ?_
        refine lv_iconst (v := 0) hx hb dX8_item_242 (by decide) ?_
        refine zw_iald hx hb hK hW 8 rfl rfl hw.1 dX8_item_243 ?_
        replace hw := hw.2
        refine lv_i2l hx hb dX8_item_244 rfl ?_
        refine lv_lconst (v := 1) hx hb dX8_item_245 (by decide) ?_
        refine lv_ldc2 hx hb hown k_7 dX8_item_246 ?_
        refine zw_Si ⟨hx, hb, hml, hown, hts⟩ hK hN hA hW [.long (((a_told_32 (0 : Int32).toNatClampNeg)).toInt64), .long 1, .long 3] [] [] [0, 1, 2, 3, 4, 5, 6, 7, 8] [0, 1, 2, 3, 4, 5, 6, 7, 8] (fun _ => (wX8_item cyI cyJ cyZ h h_text h_many h_ones h_others h_kinds h_firsts h_persons h_gone h_at h_fines h_undos h_seenOf h_seenOpen h_path h_told h_counts h_spots h_far h_row h_begins h_ways h_next i_length i_keptMany i_undoMany i_seenMany i_pathMany i_place_31 i_found i_walkers a_text a_many a_ones a_others a_kinds a_firsts a_persons a_told_32)) (mX8_in l dC dI cyI cyJ cyZ _ (((a_told_32 (0 : Int32).toNatClampNeg)).toInt64) 1 3 _ hw) (va_cwS 3 hts gX8_item_X8_in rfl rfl rfl (by decide +kernel) ⟨Nat.le_of_ble_eq_true rfl, Nat.le_of_ble_eq_true rfl⟩) rfl rfl rfl rfl (by decide) rfl (fun _ => rfl) rfl hl.1 rfl (Nat.le_of_ble_eq_true rfl) (Nat.le_of_ble_eq_true rfl) (Nat.le_of_ble_eq_true rfl) dX8_item_249 (fun r_35 u H locs hw hW => ?_)
        obtain ⟨br_35, hw⟩ := hw
        refine lv_if_ne (tgt := 257) hx hb dX8_item_252 (by decide) (fun c_36 => ?_) (fun c_36 => ?_)
        · replace hw := hw.2 c_36
          refine lv_aload_n hx hb dX8_item_257 rfl (lv_at hl 1 rfl) ?_
          refine zw_get (ci := 8) (C := RX8) (T := TX8) (N := 30) (v := .ref h_persons) hx hb hts hiX8 hown hK hW 0 rfl rfl 7 (by decide) rfl k_8 dX8_item_258 ?_
          refine lv_iconst (v := 1) hx hb dX8_item_261 (by decide) ?_
          refine lv_aload_n hx hb dX8_item_262 rfl (lv_at hl 1 rfl) ?_
          refine zw_get (ci := 8) (C := RX8) (T := TX8) (N := 30) (v := .ref h_told) hx hb hts hiX8 hown hK hW 0 rfl rfl 20 (by decide) rfl k_2 dX8_item_263 ?_
          refine lv_iconst (v := 0) hx hb dX8_item_266 (by decide) ?_
          refine zw_iald hx hb hK hW 8 rfl rfl hw.1 dX8_item_267 ?_
          replace hw := hw.2
          refine lv_topi (fun t_37 et_37 => ?_)
          replace hw := hw t_37 et_37
          refine zw_iast hx hb hK hW 7 rfl rfl hw.1 (w2 := fun a_persons_38 => (wX8_item cyI cyJ cyZ h h_text h_many h_ones h_others h_kinds h_firsts h_persons h_gone h_at h_fines h_undos h_seenOf h_seenOpen h_path h_told h_counts h_spots h_far h_row h_begins h_ways h_next i_length i_keptMany i_undoMany i_seenMany i_pathMany i_place_31 i_found i_walkers a_text a_many a_ones a_others a_kinds a_firsts a_persons_38 a_told_32)) (fun _ => rfl) dX8_item_268 (fun a_persons_38 H locs ea_persons_38 hW => ?_)
          replace hw := hw.2 a_persons_38 ea_persons_38
          refine lv_iconst (v := 1) hx hb dX8_item_269 (by decide) ?_
          refine zw_zret (S := Int32 × (Nat → Int32) × (Nat → Int32) × (Nat → Int32) × (Nat → Int32) × (Nat → Int32) × (Nat → Int32) × (Nat → Int32)) (post := fun r u => post r u.1 u.2.1 u.2.2.1 u.2.2.2.1 u.2.2.2.2.1 u.2.2.2.2.2.1 u.2.2.2.2.2.2.1 u.2.2.2.2.2.2.2) (i_place_31, a_many, a_ones, a_others, a_kinds, a_firsts, a_persons_38, a_told_32) hx hb hr hlocks hK hW (Or.inr rfl) hw ?_ dX8_item_270
          rfl
        · replace hw := hw.1 c_36
          refine lv_iconst (v := 0) hx hb dX8_item_255 (by decide) ?_
          refine zw_zret (S := Int32 × (Nat → Int32) × (Nat → Int32) × (Nat → Int32) × (Nat → Int32) × (Nat → Int32) × (Nat → Int32) × (Nat → Int32)) (post := fun r u => post r u.1 u.2.1 u.2.2.1 u.2.2.2.1 u.2.2.2.2.1 u.2.2.2.2.2.1 u.2.2.2.2.2.2.1 u.2.2.2.2.2.2.2) (i_place_31, a_many, a_ones, a_others, a_kinds, a_firsts, a_persons, a_told_32) hx hb hr hlocks hK hW (Or.inl rfl) hw ?_ dX8_item_256
          rfl
    · replace hw := hw.2 c_30
      refine lv_lookup (off := 251) (tgt := 271) hx hb dX8_item_20 (by decide) (zb_lk c_17 c_30) (by decide) ?_
      refine lv_iconst (v := 0) hx hb dX8_item_271 (by decide) ?_
      refine zw_zret (S := Int32 × (Nat → Int32) × (Nat → Int32) × (Nat → Int32) × (Nat → Int32) × (Nat → Int32) × (Nat → Int32) × (Nat → Int32)) (post := fun r u => post r u.1 u.2.1 u.2.2.1 u.2.2.2.1 u.2.2.2.2.1 u.2.2.2.2.2.1 u.2.2.2.2.2.2.1 u.2.2.2.2.2.2.2) (i_15, a_many, a_ones, a_others, a_kinds, a_firsts, a_persons, a_told) hx hb hr hlocks hK hW (Or.inl rfl) hw ?_ dX8_item_272
      rfl
abbrev wX8_readAll (cyI cyJ cyZ : ClassId) (h h_text h_many h_ones h_others h_kinds h_firsts h_persons h_gone h_at h_fines h_undos h_seenOf h_seenOpen h_path h_told h_counts h_spots h_far h_row h_begins h_ways h_next : Nat) (i_length : Int32) (i_keptMany : Int32) (i_undoMany : Int32) (i_seenMany : Int32) (i_pathMany : Int32) (i_place : Int32) (i_found : Int32) (i_walkers : Int32) (a_text : Nat → Int32) (a_many : Nat → Int32) (a_ones : Nat → Int32) (a_others : Nat → Int32) (a_kinds : Nat → Int32) (a_firsts : Nat → Int32) (a_persons : Nat → Int32) (a_told : Nat → Int32) : va_W := [(h, .inr (8, [.int i_length, .ref h_text, .ref h_many, .ref h_ones, .ref h_others, .ref h_kinds, .ref h_firsts, .ref h_persons, .ref h_gone, .ref h_at, .ref h_fines, .int i_keptMany, .int i_undoMany, .ref h_undos, .int i_seenMany, .ref h_seenOf, .ref h_seenOpen, .int i_pathMany, .ref h_path, .int i_place, .ref h_told, .ref h_counts, .ref h_spots, .ref h_far, .ref h_row, .ref h_begins, .int i_found, .int i_walkers, .ref h_ways, .ref h_next])), (h_text, .inl (cyI, 200, .inl a_text)), (h_many, .inl (cyI, 2, .inl a_many)), (h_ones, .inl (cyI, 10, .inl a_ones)), (h_others, .inl (cyI, 10, .inl a_others)), (h_kinds, .inl (cyI, 10, .inl a_kinds)), (h_firsts, .inl (cyI, 10, .inl a_firsts)), (h_persons, .inl (cyI, 2, .inl a_persons)), (h_told, .inl (cyI, 4, .inl a_told))]
abbrev qX8_readAll (dC : Nat → ClassId) (dI : Nat → Nat → Nat) (cyI cyJ cyZ : ClassId) (h h_text h_many h_ones h_others h_kinds h_firsts h_persons h_gone h_at h_fines h_undos h_seenOf h_seenOpen h_path h_told h_counts h_spots h_far h_row h_begins h_ways h_next : Nat) (i_length : Int32) (i_keptMany : Int32) (i_undoMany : Int32) (i_seenMany : Int32) (i_pathMany : Int32) (i_place : Int32) (i_found : Int32) (i_walkers : Int32) (a_text : Nat → Int32) (a_many : Nat → Int32) (a_ones : Nat → Int32) (a_others : Nat → Int32) (a_kinds : Nat → Int32) (a_firsts : Nat → Int32) (a_persons : Nat → Int32) (a_told : Nat → Int32) (post : Int32 → Int32 → (Nat → Int32) → (Nat → Int32) → (Nat → Int32) → (Nat → Int32) → (Nat → Int32) → (Nat → Int32) → (Nat → Int32) → Prop) (A : Nat → Prop) : Array Value → State → Outcome → State → Prop := (va_Qi (fun (r : Int32) (u : Int32 × (Nat → Int32) × (Nat → Int32) × (Nat → Int32) × (Nat → Int32) × (Nat → Int32) × (Nat → Int32) × (Nat → Int32)) => post r u.1 u.2.1 u.2.2.1 u.2.2.2.1 u.2.2.2.2.1 u.2.2.2.2.2.1 u.2.2.2.2.2.2.1 u.2.2.2.2.2.2.2) (bW (dC, dI) (tyG cyI cyJ cyZ) A (fun u : Int32 × (Nat → Int32) × (Nat → Int32) × (Nat → Int32) × (Nat → Int32) × (Nat → Int32) × (Nat → Int32) × (Nat → Int32) => (wX8_readAll cyI cyJ cyZ h h_text h_many h_ones h_others h_kinds h_firsts h_persons h_gone h_at h_fines h_undos h_seenOf h_seenOpen h_path h_told h_counts h_spots h_far h_row h_begins h_ways h_next i_length i_keptMany i_undoMany i_seenMany i_pathMany (u.1) i_found i_walkers a_text (u.2.1) (u.2.2.1) (u.2.2.2.1) (u.2.2.2.2.1) (u.2.2.2.2.2.1) (u.2.2.2.2.2.2.1) (u.2.2.2.2.2.2.2)))) A)
set_option maxHeartbeats 4000000 in
set_option maxRecDepth 100000 in
theorem mX8_readAll (l : Launch) (dC : Nat → ClassId) (dI : Nat → Nat → Nat) (cyI cyJ cyZ : ClassId) (h h_text h_many h_ones h_others h_kinds h_firsts h_persons h_gone h_at h_fines h_undos h_seenOf h_seenOpen h_path h_told h_counts h_spots h_far h_row h_begins h_ways h_next : Nat) (sz : Nat) (i_length : Int32) (i_keptMany : Int32) (i_undoMany : Int32) (i_seenMany : Int32) (i_pathMany : Int32) (i_place : Int32) (i_found : Int32) (i_walkers : Int32) (a_text : Nat → Int32) (a_many : Nat → Int32) (a_ones : Nat → Int32) (a_others : Nat → Int32) (a_kinds : Nat → Int32) (a_firsts : Nat → Int32) (a_persons : Nat → Int32) (a_told : Nat → Int32) (post : Int32 → Int32 → (Nat → Int32) → (Nat → Int32) → (Nat → Int32) → (Nat → Int32) → (Nat → Int32) → (Nat → Int32) → (Nat → Int32) → Prop) (hwp : PX8_readAll i_length i_place a_text a_many a_ones a_others a_kinds a_firsts a_persons a_told post) : Met l yX8_readAll wsX8_readAll ({ frames := 3, cells := 0, slots := 0, locals := 71 } : Room) (va_Pc [.ref h] (pcW (dC, dI) sz (wX8_readAll cyI cyJ cyZ h h_text h_many h_ones h_others h_kinds h_firsts h_persons h_gone h_at h_fines h_undos h_seenOf h_seenOpen h_path h_told h_counts h_spots h_far h_row h_begins h_ways h_next i_length i_keptMany i_undoMany i_seenMany i_pathMany i_place i_found i_walkers a_text a_many a_ones a_others a_kinds a_firsts a_persons a_told) (tyG cyI cyJ cyZ))) (qX8_readAll dC dI cyI cyJ cyZ h h_text h_many h_ones h_others h_kinds h_firsts h_persons h_gone h_at h_fines h_undos h_seenOf h_seenOpen h_path h_told h_counts h_spots h_far h_row h_begins h_ways h_next i_length i_keptMany i_undoMany i_seenMany i_pathMany i_place i_found i_walkers a_text a_many a_ones a_others a_kinds a_firsts a_persons a_told post (va_A (wX8_readAll cyI cyJ cyZ h h_text h_many h_ones h_others h_kinds h_firsts h_persons h_gone h_at h_fines h_undos h_seenOf h_seenOpen h_path h_told h_counts h_spots h_far h_row h_begins h_ways h_next i_length i_keptMany i_undoMany i_seenMany i_pathMany i_place i_found i_walkers a_text a_many a_ones a_others a_kinds a_firsts a_persons a_told) sz)) 0 0 (va_A (wX8_readAll cyI cyJ cyZ h h_text h_many h_ones h_others h_kinds h_firsts h_persons h_gone h_at h_fines h_undos h_seenOf h_seenOpen h_path h_told h_counts h_spots h_far h_row h_begins h_ways h_next i_length i_keptMany i_undoMany i_seenMany i_pathMany i_place i_found i_walkers a_text a_many a_ones a_others a_kinds a_firsts a_persons a_told) sz) := by
  refine Met.ofW (cc := cX8_readAll) (maxL := 2) (ret := some .int) (by decide) rfl ?_
  intro p e s m args below meth c s₁ B hml hv
  obtain ⟨rfl, hsz, hP, hK, hD0, hN⟩ := hv
  have hx := B.exec
  have hb := B.bytes
  have hr := B.returns
  have hts := atoms_spec (ws := wsX8_readAll) B.pre
  have hown : s.vm.findClass RX8 = some m.cls := findClass_of_methodNamed B.named
  have hlocks := B.notSynchronized
  subst hsz
  have hD := hD0.self (sz := s.heap.size)
  generalize hAe : va_A (wX8_readAll cyI cyJ cyZ h h_text h_many h_ones h_others h_kinds h_firsts h_persons h_gone h_at h_fines h_undos h_seenOf h_seenOpen h_path h_told h_counts h_spots h_far h_row h_begins h_ways h_next i_length i_keptMany i_undoMany i_seenMany i_pathMany i_place i_found i_walkers a_text a_many a_ones a_others a_kinds a_firsts a_persons a_told) s.heap.size = A at hD ⊢
  have hA : ∀ q : Nat, s.heap.size ≤ q → A q := fun q h => by rw [← hAe]; exact Or.inr h
  have hW : Wd (dC, dI) A s.heap (wX8_readAll cyI cyJ cyZ h h_text h_many h_ones h_others h_kinds h_firsts h_persons h_gone h_at h_fines h_undos h_seenOf h_seenOpen h_path h_told h_counts h_spots h_far h_row h_begins h_ways h_next i_length i_keptMany i_undoMany i_seenMany i_pathMany i_place i_found i_walkers a_text a_many a_ones a_others a_kinds a_firsts a_persons a_told) s.heap [] := ⟨hP, hD, va_S.rf⟩
  have hw := hwp
  have hiX8 : ∀ w ∈ u_ws RX8 TX8 30, w ∈ wsX8_readAll := fun _ h => List.mem_cons_of_mem _ (List.mem_append_right _ h)
  have k_0 := hts (.fieldLink RX8 92 "OddLetsInModel" "place" "I") (List.mem_of_getElem? (i := 3) rfl)
  have k_1 := hts (.fieldLink RX8 86 "OddLetsInModel" "length" "I") (List.mem_of_getElem? (i := 4) rfl)
  have k_2 := hts (.fieldLink RX8 13 "OddLetsInModel" "many" "[I") (List.mem_of_getElem? (i := 1) rfl)
  have k_3 := hts (.fieldLink RX8 28 "OddLetsInModel" "persons" "[I") (List.mem_of_getElem? (i := 2) rfl)
  have W_19 : ∀ (n_19 : Nat) (i_place : Int32) (a_many : Nat → Int32) (a_ones : Nat → Int32) (a_others : Nat → Int32) (a_kinds : Nat → Int32) (a_firsts : Nat → Int32) (a_persons : Nat → Int32) (a_told : Nat → Int32) (H : Heap) (locs : List Loc) (ls : Array Slot), Wd (dC, dI) A s.heap (wX8_readAll cyI cyJ cyZ h h_text h_many h_ones h_others h_kinds h_firsts h_persons h_gone h_at h_fines h_undos h_seenOf h_seenOpen h_path h_told h_counts h_spots h_far h_row h_begins h_ways h_next i_length i_keptMany i_undoMany i_seenMany i_pathMany i_place i_found i_walkers a_text a_many a_ones a_others a_kinds a_firsts a_persons a_told) H locs → lv_has ls 2 [(0, .ref h)] → PX8_readAll_19 post i_length a_text n_19 i_place a_many a_ones a_others a_kinds a_firsts a_persons a_told → W p l e (({ frames := 3, cells := 0, slots := 0, locals := 71 } : Room)) s m (([.ref h] : List Value).toArray) below meth c H locs 0 0 (MQ below (qX8_readAll dC dI cyI cyJ cyZ h h_text h_many h_ones h_others h_kinds h_firsts h_persons h_gone h_at h_fines h_undos h_seenOf h_seenOpen h_path h_told h_counts h_spots h_far h_row h_begins h_ways h_next i_length i_keptMany i_undoMany i_seenMany i_pathMany i_place i_found i_walkers a_text a_many a_ones a_others a_kinds a_firsts a_persons a_told post A) (([.ref h] : List Value).toArray) s 0 0 A) (F0 m 19 ls []) := by
    intro n_19
    induction n_19 with
    | zero =>
      intro i_place a_many a_ones a_others a_kinds a_firsts a_persons a_told H locs ls hW hl hw
      exact False.elim hw
    | succ n_19 ih_19 =>
      intro i_place a_many a_ones a_others a_kinds a_firsts a_persons a_told H locs ls hW hl hw
      refine lv_aload_n hx hb dX8_readAll_19 rfl (lv_at hl 0 rfl) ?_
      refine zw_get (ci := 8) (C := RX8) (T := TX8) (N := 30) (v := .int i_place) hx hb hts hiX8 hown hK hW 0 rfl rfl 19 (by decide) rfl k_0 dX8_readAll_20 ?_
      refine lv_aload_n hx hb dX8_readAll_23 rfl (lv_at hl 0 rfl) ?_
      refine zw_get (ci := 8) (C := RX8) (T := TX8) (N := 30) (v := .int i_length) hx hb hts hiX8 hown hK hW 0 rfl rfl 0 (by decide) rfl k_1 dX8_readAll_24 ?_
      refine lv_icmp_ge (tgt := 47) hx hb dX8_readAll_27 (by decide) (fun c_1 => ?_) (fun c_1 => ?_)
      · replace hw := hw.1 c_1
        refine lv_bipush (v := (-4)) hx hb dX8_readAll_47 (by decide) ?_
        refine zw_iret (S := Int32 × (Nat → Int32) × (Nat → Int32) × (Nat → Int32) × (Nat → Int32) × (Nat → Int32) × (Nat → Int32) × (Nat → Int32)) (post := fun r u => post r u.1 u.2.1 u.2.2.1 u.2.2.2.1 u.2.2.2.2.1 u.2.2.2.2.2.1 u.2.2.2.2.2.2.1 u.2.2.2.2.2.2.2) (i_place, a_many, a_ones, a_others, a_kinds, a_firsts, a_persons, a_told) hx hb hr hlocks hK hW hw ?_ dX8_readAll_49
        rfl
      · replace hw := hw.2 c_1
        refine lv_aload_n hx hb dX8_readAll_30 rfl (lv_at hl 0 rfl) ?_
        refine zw_get (ci := 8) (C := RX8) (T := TX8) (N := 30) (v := .int i_place) hx hb hts hiX8 hown hK hW 0 rfl rfl 19 (by decide) rfl k_0 dX8_readAll_31 ?_
        refine lv_istore_n (lv' := [(1, .int i_place), (0, .ref h)]) hx hb dX8_readAll_34 rfl hl (by decide) rfl (fun ls hl => ?_)
        refine lv_aload_n hx hb dX8_readAll_35 rfl (lv_at hl 1 rfl) ?_
        refine zw_Vi ⟨hx, hb, hml, hown, hts⟩ hK hN hA hW 0 rfl (T := TX8) (N := 30) rfl [] [] [0, 1, 2, 3, 4, 5, 6, 7, 8] [] [0, 1, 2, 3, 4, 5, 6, 7, 8] (fun u => (wX8_readAll cyI cyJ cyZ h h_text h_many h_ones h_others h_kinds h_firsts h_persons h_gone h_at h_fines h_undos h_seenOf h_seenOpen h_path h_told h_counts h_spots h_far h_row h_begins h_ways h_next i_length i_keptMany i_undoMany i_seenMany i_pathMany (u.1) i_found i_walkers a_text (u.2.1) (u.2.2.1) (u.2.2.2.1) (u.2.2.2.2.1) (u.2.2.2.2.2.1) (u.2.2.2.2.2.2.1) (u.2.2.2.2.2.2.2))) (mX8_item l dC dI cyI cyJ cyZ h h_text h_many h_ones h_others h_kinds h_firsts h_persons h_gone h_at h_fines h_undos h_seenOf h_seenOpen h_path h_told h_counts h_spots h_far h_row h_begins h_ways h_next _ i_length i_keptMany i_undoMany i_seenMany i_pathMany i_place i_found i_walkers a_text a_many a_ones a_others a_kinds a_firsts a_persons a_told _ hw) (cwV 0 hts gX8_readAll_X8_item rfl rfl rfl (by decide +kernel) ⟨Nat.le_of_ble_eq_true rfl, Nat.le_of_ble_eq_true rfl⟩) rfl rfl rfl rfl (by decide) rfl (fun _ => rfl) rfl hl.1 rfl (Nat.le_of_ble_eq_true rfl) (Nat.le_of_ble_eq_true rfl) (Nat.le_of_ble_eq_true rfl) dX8_readAll_36 (fun r_10 u H locs hw hW => ?_)
        obtain ⟨i_place_2, a_many_3, a_ones_4, a_others_5, a_kinds_6, a_firsts_7, a_persons_8, a_told_9⟩ := u
        try dsimp only at hw
        replace hW : Wd (dC, dI) A s.heap (wX8_readAll cyI cyJ cyZ h h_text h_many h_ones h_others h_kinds h_firsts h_persons h_gone h_at h_fines h_undos h_seenOf h_seenOpen h_path h_told h_counts h_spots h_far h_row h_begins h_ways h_next i_length i_keptMany i_undoMany i_seenMany i_pathMany i_place_2 i_found i_walkers a_text a_many_3 a_ones_4 a_others_5 a_kinds_6 a_firsts_7 a_persons_8 a_told_9) H locs := hW
        obtain ⟨br_10, hw⟩ := hw
        refine lv_if_ne (tgt := 44) hx hb dX8_readAll_39 (by decide) (fun c_11 => ?_) (fun c_11 => ?_)
        · replace hw := hw.2 c_11
          refine lv_goto (tgt := 19) hx hb dX8_readAll_44 (by decide) ?_
          exact ih_19 i_place_2 a_many_3 a_ones_4 a_others_5 a_kinds_6 a_firsts_7 a_persons_8 a_told_9 _ _ _ hW (lv_sub hl [1] rfl) hw
        · replace hw := hw.1 c_11
          refine lv_iload_n hx hb dX8_readAll_42 rfl (lv_at hl 0 rfl) ?_
          refine zw_iret (S := Int32 × (Nat → Int32) × (Nat → Int32) × (Nat → Int32) × (Nat → Int32) × (Nat → Int32) × (Nat → Int32) × (Nat → Int32)) (post := fun r u => post r u.1 u.2.1 u.2.2.1 u.2.2.2.1 u.2.2.2.2.1 u.2.2.2.2.2.1 u.2.2.2.2.2.2.1 u.2.2.2.2.2.2.2) (i_place_2, a_many_3, a_ones_4, a_others_5, a_kinds_6, a_firsts_7, a_persons_8, a_told_9) hx hb hr hlocks hK hW hw ?_ dX8_readAll_43
          rfl
  have hl := lv_entry ([.ref h]) (n := 2) (Nat.le_of_ble_eq_true rfl)
  rw [lg_entry_eq]
  generalize (lg_sl ([.ref h]) ++ List.replicate (2 - (lg_sl ([.ref h])).length) Slot.unset).toArray = ls at hl ⊢
  have hl : lv_has ls 2 [(0, .ref h)] := hl
  refine lv_aload_n hx hb dX8_readAll_0 rfl (lv_at hl 0 rfl) ?_
  refine zw_get (ci := 8) (C := RX8) (T := TX8) (N := 30) (v := .ref h_many) hx hb hts hiX8 hown hK hW 0 rfl rfl 2 (by decide) rfl k_2 dX8_readAll_1 ?_
  refine lv_iconst (v := 1) hx hb dX8_readAll_4 (by decide) ?_
  refine lv_iconst (v := 0) hx hb dX8_readAll_5 (by decide) ?_
  refine zw_iast hx hb hK hW 2 rfl rfl hw.1 (w2 := fun a_many_12 => (wX8_readAll cyI cyJ cyZ h h_text h_many h_ones h_others h_kinds h_firsts h_persons h_gone h_at h_fines h_undos h_seenOf h_seenOpen h_path h_told h_counts h_spots h_far h_row h_begins h_ways h_next i_length i_keptMany i_undoMany i_seenMany i_pathMany i_place i_found i_walkers a_text a_many_12 a_ones a_others a_kinds a_firsts a_persons a_told)) (fun _ => rfl) dX8_readAll_6 (fun a_many_12 H locs ea_many_12 hW => ?_)
  replace hw := hw.2 a_many_12 ea_many_12
  refine lv_aload_n hx hb dX8_readAll_7 rfl (lv_at hl 0 rfl) ?_
  refine zw_get (ci := 8) (C := RX8) (T := TX8) (N := 30) (v := .ref h_persons) hx hb hts hiX8 hown hK hW 0 rfl rfl 7 (by decide) rfl k_3 dX8_readAll_8 ?_
  refine lv_iconst (v := 1) hx hb dX8_readAll_11 (by decide) ?_
  refine lv_iconst (v := 2) hx hb dX8_readAll_12 (by decide) ?_
  refine zw_iast hx hb hK hW 7 rfl rfl hw.1 (w2 := fun a_persons_13 => (wX8_readAll cyI cyJ cyZ h h_text h_many h_ones h_others h_kinds h_firsts h_persons h_gone h_at h_fines h_undos h_seenOf h_seenOpen h_path h_told h_counts h_spots h_far h_row h_begins h_ways h_next i_length i_keptMany i_undoMany i_seenMany i_pathMany i_place i_found i_walkers a_text a_many_12 a_ones a_others a_kinds a_firsts a_persons_13 a_told)) (fun _ => rfl) dX8_readAll_13 (fun a_persons_13 H locs ea_persons_13 hW => ?_)
  replace hw := hw.2 a_persons_13 ea_persons_13
  refine lv_aload_n hx hb dX8_readAll_14 rfl (lv_at hl 0 rfl) ?_
  refine lv_iconst (v := 0) hx hb dX8_readAll_15 (by decide) ?_
  refine zw_put (ci := 8) (C := RX8) (T := TX8) (N := 30) (w2 := (wX8_readAll cyI cyJ cyZ h h_text h_many h_ones h_others h_kinds h_firsts h_persons h_gone h_at h_fines h_undos h_seenOf h_seenOpen h_path h_told h_counts h_spots h_far h_row h_begins h_ways h_next i_length i_keptMany i_undoMany i_seenMany i_pathMany 0 i_found i_walkers a_text a_many_12 a_ones a_others a_kinds a_firsts a_persons_13 a_told)) hx hb hts hiX8 tyX8 tyX8_ok nmX8 hown hK hW 0 rfl rfl 19 (by decide) (by decide +kernel) rfl (Nat.le_of_ble_eq_true rfl) rfl k_0 dX8_readAll_16 (fun H locs hW => ?_)
  obtain ⟨n_19, hw⟩ := hw
  exact W_19  n_19 0 a_many_12 a_ones a_others a_kinds a_firsts a_persons_13 a_told _ _ _ hW (lv_sub hl [0] rfl) hw
abbrev wX8_fault (cyI cyJ cyZ : ClassId) (h h_text h_many h_ones h_others h_kinds h_firsts h_persons h_gone h_at h_fines h_undos h_seenOf h_seenOpen h_path h_told h_counts h_spots h_far h_row h_begins h_ways h_next : Nat) (i_length : Int32) (i_keptMany : Int32) (i_undoMany : Int32) (i_seenMany : Int32) (i_pathMany : Int32) (i_place : Int32) (i_found : Int32) (i_walkers : Int32) (a_text : Nat → Int32) (a_many : Nat → Int32) (a_ones : Nat → Int32) (a_others : Nat → Int32) (a_kinds : Nat → Int32) (a_firsts : Nat → Int32) (a_persons : Nat → Int32) (a_told : Nat → Int32) : va_W := [(h, .inr (8, [.int i_length, .ref h_text, .ref h_many, .ref h_ones, .ref h_others, .ref h_kinds, .ref h_firsts, .ref h_persons, .ref h_gone, .ref h_at, .ref h_fines, .int i_keptMany, .int i_undoMany, .ref h_undos, .int i_seenMany, .ref h_seenOf, .ref h_seenOpen, .int i_pathMany, .ref h_path, .int i_place, .ref h_told, .ref h_counts, .ref h_spots, .ref h_far, .ref h_row, .ref h_begins, .int i_found, .int i_walkers, .ref h_ways, .ref h_next])), (h_text, .inl (cyI, 200, .inl a_text)), (h_many, .inl (cyI, 2, .inl a_many)), (h_ones, .inl (cyI, 10, .inl a_ones)), (h_others, .inl (cyI, 10, .inl a_others)), (h_kinds, .inl (cyI, 10, .inl a_kinds)), (h_firsts, .inl (cyI, 10, .inl a_firsts)), (h_persons, .inl (cyI, 2, .inl a_persons)), (h_told, .inl (cyI, 4, .inl a_told))]
abbrev qX8_fault (dC : Nat → ClassId) (dI : Nat → Nat → Nat) (cyI cyJ cyZ : ClassId) (h h_text h_many h_ones h_others h_kinds h_firsts h_persons h_gone h_at h_fines h_undos h_seenOf h_seenOpen h_path h_told h_counts h_spots h_far h_row h_begins h_ways h_next : Nat) (i_length : Int32) (i_keptMany : Int32) (i_undoMany : Int32) (i_seenMany : Int32) (i_pathMany : Int32) (i_place : Int32) (i_found : Int32) (i_walkers : Int32) (a_text : Nat → Int32) (a_many : Nat → Int32) (a_ones : Nat → Int32) (a_others : Nat → Int32) (a_kinds : Nat → Int32) (a_firsts : Nat → Int32) (a_persons : Nat → Int32) (a_told : Nat → Int32) (post : Int32 → Int32 → (Nat → Int32) → (Nat → Int32) → (Nat → Int32) → (Nat → Int32) → (Nat → Int32) → (Nat → Int32) → (Nat → Int32) → Prop) (A : Nat → Prop) : Array Value → State → Outcome → State → Prop := (va_Qi (fun (r : Int32) (u : Int32 × (Nat → Int32) × (Nat → Int32) × (Nat → Int32) × (Nat → Int32) × (Nat → Int32) × (Nat → Int32) × (Nat → Int32)) => post r u.1 u.2.1 u.2.2.1 u.2.2.2.1 u.2.2.2.2.1 u.2.2.2.2.2.1 u.2.2.2.2.2.2.1 u.2.2.2.2.2.2.2) (bW (dC, dI) (tyG cyI cyJ cyZ) A (fun u : Int32 × (Nat → Int32) × (Nat → Int32) × (Nat → Int32) × (Nat → Int32) × (Nat → Int32) × (Nat → Int32) × (Nat → Int32) => (wX8_fault cyI cyJ cyZ h h_text h_many h_ones h_others h_kinds h_firsts h_persons h_gone h_at h_fines h_undos h_seenOf h_seenOpen h_path h_told h_counts h_spots h_far h_row h_begins h_ways h_next i_length i_keptMany i_undoMany i_seenMany i_pathMany (u.1) i_found i_walkers a_text (u.2.1) (u.2.2.1) (u.2.2.2.1) (u.2.2.2.2.1) (u.2.2.2.2.2.1) (u.2.2.2.2.2.2.1) (u.2.2.2.2.2.2.2)))) A)
set_option maxHeartbeats 4000000 in
set_option maxRecDepth 100000 in
theorem mX8_fault (l : Launch) (dC : Nat → ClassId) (dI : Nat → Nat → Nat) (cyI cyJ cyZ : ClassId) (h h_text h_many h_ones h_others h_kinds h_firsts h_persons h_gone h_at h_fines h_undos h_seenOf h_seenOpen h_path h_told h_counts h_spots h_far h_row h_begins h_ways h_next : Nat) (sz : Nat) (i_length : Int32) (i_keptMany : Int32) (i_undoMany : Int32) (i_seenMany : Int32) (i_pathMany : Int32) (i_place : Int32) (i_found : Int32) (i_walkers : Int32) (a_text : Nat → Int32) (a_many : Nat → Int32) (a_ones : Nat → Int32) (a_others : Nat → Int32) (a_kinds : Nat → Int32) (a_firsts : Nat → Int32) (a_persons : Nat → Int32) (a_told : Nat → Int32) (post : Int32 → Int32 → (Nat → Int32) → (Nat → Int32) → (Nat → Int32) → (Nat → Int32) → (Nat → Int32) → (Nat → Int32) → (Nat → Int32) → Prop) (hwp : PX8_fault i_length i_place a_text a_many a_ones a_others a_kinds a_firsts a_persons a_told post) : Met l yX8_fault wsX8_fault ({ frames := 4, cells := 0, slots := 0, locals := 92 } : Room) (va_Pc [.ref h] (pcW (dC, dI) sz (wX8_fault cyI cyJ cyZ h h_text h_many h_ones h_others h_kinds h_firsts h_persons h_gone h_at h_fines h_undos h_seenOf h_seenOpen h_path h_told h_counts h_spots h_far h_row h_begins h_ways h_next i_length i_keptMany i_undoMany i_seenMany i_pathMany i_place i_found i_walkers a_text a_many a_ones a_others a_kinds a_firsts a_persons a_told) (tyG cyI cyJ cyZ))) (qX8_fault dC dI cyI cyJ cyZ h h_text h_many h_ones h_others h_kinds h_firsts h_persons h_gone h_at h_fines h_undos h_seenOf h_seenOpen h_path h_told h_counts h_spots h_far h_row h_begins h_ways h_next i_length i_keptMany i_undoMany i_seenMany i_pathMany i_place i_found i_walkers a_text a_many a_ones a_others a_kinds a_firsts a_persons a_told post (va_A (wX8_fault cyI cyJ cyZ h h_text h_many h_ones h_others h_kinds h_firsts h_persons h_gone h_at h_fines h_undos h_seenOf h_seenOpen h_path h_told h_counts h_spots h_far h_row h_begins h_ways h_next i_length i_keptMany i_undoMany i_seenMany i_pathMany i_place i_found i_walkers a_text a_many a_ones a_others a_kinds a_firsts a_persons a_told) sz)) 0 0 (va_A (wX8_fault cyI cyJ cyZ h h_text h_many h_ones h_others h_kinds h_firsts h_persons h_gone h_at h_fines h_undos h_seenOf h_seenOpen h_path h_told h_counts h_spots h_far h_row h_begins h_ways h_next i_length i_keptMany i_undoMany i_seenMany i_pathMany i_place i_found i_walkers a_text a_many a_ones a_others a_kinds a_firsts a_persons a_told) sz) := by
  refine Met.ofW (cc := cX8_fault) (maxL := 1) (ret := some .int) (by decide) rfl ?_
  intro p e s m args below meth c s₁ B hml hv
  obtain ⟨rfl, hsz, hP, hK, hD0, hN⟩ := hv
  have hx := B.exec
  have hb := B.bytes
  have hr := B.returns
  have hts := atoms_spec (ws := wsX8_fault) B.pre
  have hown : s.vm.findClass RX8 = some m.cls := findClass_of_methodNamed B.named
  have hlocks := B.notSynchronized
  subst hsz
  have hD := hD0.self (sz := s.heap.size)
  generalize hAe : va_A (wX8_fault cyI cyJ cyZ h h_text h_many h_ones h_others h_kinds h_firsts h_persons h_gone h_at h_fines h_undos h_seenOf h_seenOpen h_path h_told h_counts h_spots h_far h_row h_begins h_ways h_next i_length i_keptMany i_undoMany i_seenMany i_pathMany i_place i_found i_walkers a_text a_many a_ones a_others a_kinds a_firsts a_persons a_told) s.heap.size = A at hD ⊢
  have hA : ∀ q : Nat, s.heap.size ≤ q → A q := fun q h => by rw [← hAe]; exact Or.inr h
  have hW : Wd (dC, dI) A s.heap (wX8_fault cyI cyJ cyZ h h_text h_many h_ones h_others h_kinds h_firsts h_persons h_gone h_at h_fines h_undos h_seenOf h_seenOpen h_path h_told h_counts h_spots h_far h_row h_begins h_ways h_next i_length i_keptMany i_undoMany i_seenMany i_pathMany i_place i_found i_walkers a_text a_many a_ones a_others a_kinds a_firsts a_persons a_told) s.heap [] := ⟨hP, hD, va_S.rf⟩
  have hw := hwp
  have hl := lv_entry ([.ref h]) (n := 1) (Nat.le_of_ble_eq_true rfl)
  rw [lg_entry_eq]
  generalize (lg_sl ([.ref h]) ++ List.replicate (1 - (lg_sl ([.ref h])).length) Slot.unset).toArray = ls at hl ⊢
  have hl : lv_has ls 1 [(0, .ref h)] := hl
  refine lv_aload_n hx hb dX8_fault_0 rfl (lv_at hl 0 rfl) ?_
  refine zw_Vi ⟨hx, hb, hml, hown, hts⟩ hK hN hA hW 0 rfl (T := TX8) (N := 30) rfl [] [] [0, 1, 2, 3, 4, 5, 6, 7, 8] [] [0, 1, 2, 3, 4, 5, 6, 7, 8] (fun u => (wX8_fault cyI cyJ cyZ h h_text h_many h_ones h_others h_kinds h_firsts h_persons h_gone h_at h_fines h_undos h_seenOf h_seenOpen h_path h_told h_counts h_spots h_far h_row h_begins h_ways h_next i_length i_keptMany i_undoMany i_seenMany i_pathMany (u.1) i_found i_walkers a_text (u.2.1) (u.2.2.1) (u.2.2.2.1) (u.2.2.2.2.1) (u.2.2.2.2.2.1) (u.2.2.2.2.2.2.1) (u.2.2.2.2.2.2.2))) (mX8_readAll l dC dI cyI cyJ cyZ h h_text h_many h_ones h_others h_kinds h_firsts h_persons h_gone h_at h_fines h_undos h_seenOf h_seenOpen h_path h_told h_counts h_spots h_far h_row h_begins h_ways h_next _ i_length i_keptMany i_undoMany i_seenMany i_pathMany i_place i_found i_walkers a_text a_many a_ones a_others a_kinds a_firsts a_persons a_told _ hw) (cwV 0 hts gX8_fault_X8_readAll rfl rfl rfl (by decide +kernel) ⟨Nat.le_of_ble_eq_true rfl, Nat.le_of_ble_eq_true rfl⟩) rfl rfl rfl rfl (by decide) rfl (fun _ => rfl) rfl hl.1 rfl (Nat.le_of_ble_eq_true rfl) (Nat.le_of_ble_eq_true rfl) (Nat.le_of_ble_eq_true rfl) dX8_fault_1 (fun r_9 u H locs hw hW => ?_)
  obtain ⟨i_place_1, a_many_2, a_ones_3, a_others_4, a_kinds_5, a_firsts_6, a_persons_7, a_told_8⟩ := u
  try dsimp only at hw
  replace hW : Wd (dC, dI) A s.heap (wX8_fault cyI cyJ cyZ h h_text h_many h_ones h_others h_kinds h_firsts h_persons h_gone h_at h_fines h_undos h_seenOf h_seenOpen h_path h_told h_counts h_spots h_far h_row h_begins h_ways h_next i_length i_keptMany i_undoMany i_seenMany i_pathMany i_place_1 i_found i_walkers a_text a_many_2 a_ones_3 a_others_4 a_kinds_5 a_firsts_6 a_persons_7 a_told_8) H locs := hW
  refine zw_iret (S := Int32 × (Nat → Int32) × (Nat → Int32) × (Nat → Int32) × (Nat → Int32) × (Nat → Int32) × (Nat → Int32) × (Nat → Int32)) (post := fun r u => post r u.1 u.2.1 u.2.2.1 u.2.2.2.1 u.2.2.2.2.1 u.2.2.2.2.2.1 u.2.2.2.2.2.2.1 u.2.2.2.2.2.2.2) (i_place_1, a_many_2, a_ones_3, a_others_4, a_kinds_5, a_firsts_6, a_persons_7, a_told_8) hx hb hr hlocks hK hW hw ?_ dX8_fault_4
  rfl
abbrev wX8_lay (cyI cyJ cyZ : ClassId) (h h_text h_many h_ones h_others h_kinds h_firsts h_persons h_gone h_at h_fines h_undos h_seenOf h_seenOpen h_path h_told h_counts h_spots h_far h_row h_begins h_ways h_next : Nat) (i_length : Int32) (i_keptMany : Int32) (i_undoMany : Int32) (i_seenMany : Int32) (i_pathMany : Int32) (i_place : Int32) (i_found : Int32) (i_walkers : Int32) (a_text : Nat → Int32) (a_many : Nat → Int32) (a_ones : Nat → Int32) (a_others : Nat → Int32) (a_kinds : Nat → Int32) (a_firsts : Nat → Int32) (a_persons : Nat → Int32) (a_gone : Nat → Int32) (a_at : Nat → Int32) (a_fines : Nat → Int32) (a_told : Nat → Int32) : va_W := [(h, .inr (8, [.int i_length, .ref h_text, .ref h_many, .ref h_ones, .ref h_others, .ref h_kinds, .ref h_firsts, .ref h_persons, .ref h_gone, .ref h_at, .ref h_fines, .int i_keptMany, .int i_undoMany, .ref h_undos, .int i_seenMany, .ref h_seenOf, .ref h_seenOpen, .int i_pathMany, .ref h_path, .int i_place, .ref h_told, .ref h_counts, .ref h_spots, .ref h_far, .ref h_row, .ref h_begins, .int i_found, .int i_walkers, .ref h_ways, .ref h_next])), (h_text, .inl (cyI, 200, .inl a_text)), (h_many, .inl (cyI, 2, .inl a_many)), (h_ones, .inl (cyI, 10, .inl a_ones)), (h_others, .inl (cyI, 10, .inl a_others)), (h_kinds, .inl (cyI, 10, .inl a_kinds)), (h_firsts, .inl (cyI, 10, .inl a_firsts)), (h_persons, .inl (cyI, 2, .inl a_persons)), (h_gone, .inl (cyI, 15, .inl a_gone)), (h_at, .inl (cyI, 9, .inl a_at)), (h_fines, .inl (cyI, 3, .inl a_fines)), (h_told, .inl (cyI, 4, .inl a_told))]
abbrev qX8_lay (dC : Nat → ClassId) (dI : Nat → Nat → Nat) (cyI cyJ cyZ : ClassId) (h h_text h_many h_ones h_others h_kinds h_firsts h_persons h_gone h_at h_fines h_undos h_seenOf h_seenOpen h_path h_told h_counts h_spots h_far h_row h_begins h_ways h_next : Nat) (i_length : Int32) (i_keptMany : Int32) (i_undoMany : Int32) (i_seenMany : Int32) (i_pathMany : Int32) (i_place : Int32) (i_found : Int32) (i_walkers : Int32) (a_text : Nat → Int32) (a_many : Nat → Int32) (a_ones : Nat → Int32) (a_others : Nat → Int32) (a_kinds : Nat → Int32) (a_firsts : Nat → Int32) (a_persons : Nat → Int32) (a_gone : Nat → Int32) (a_at : Nat → Int32) (a_fines : Nat → Int32) (a_told : Nat → Int32) (post : Int32 → Int32 → Int32 → Int32 → Int32 → Int32 → (Nat → Int32) → (Nat → Int32) → (Nat → Int32) → (Nat → Int32) → (Nat → Int32) → (Nat → Int32) → (Nat → Int32) → (Nat → Int32) → (Nat → Int32) → (Nat → Int32) → Prop) (A : Nat → Prop) : Array Value → State → Outcome → State → Prop := (va_Qi (fun (r : Int32) (u : Int32 × Int32 × Int32 × Int32 × Int32 × (Nat → Int32) × (Nat → Int32) × (Nat → Int32) × (Nat → Int32) × (Nat → Int32) × (Nat → Int32) × (Nat → Int32) × (Nat → Int32) × (Nat → Int32) × (Nat → Int32)) => post r u.1 u.2.1 u.2.2.1 u.2.2.2.1 u.2.2.2.2.1 u.2.2.2.2.2.1 u.2.2.2.2.2.2.1 u.2.2.2.2.2.2.2.1 u.2.2.2.2.2.2.2.2.1 u.2.2.2.2.2.2.2.2.2.1 u.2.2.2.2.2.2.2.2.2.2.1 u.2.2.2.2.2.2.2.2.2.2.2.1 u.2.2.2.2.2.2.2.2.2.2.2.2.1 u.2.2.2.2.2.2.2.2.2.2.2.2.2.1 u.2.2.2.2.2.2.2.2.2.2.2.2.2.2) (bW (dC, dI) (tyG cyI cyJ cyZ) A (fun u : Int32 × Int32 × Int32 × Int32 × Int32 × (Nat → Int32) × (Nat → Int32) × (Nat → Int32) × (Nat → Int32) × (Nat → Int32) × (Nat → Int32) × (Nat → Int32) × (Nat → Int32) × (Nat → Int32) × (Nat → Int32) => (wX8_lay cyI cyJ cyZ h h_text h_many h_ones h_others h_kinds h_firsts h_persons h_gone h_at h_fines h_undos h_seenOf h_seenOpen h_path h_told h_counts h_spots h_far h_row h_begins h_ways h_next i_length (u.1) (u.2.1) (u.2.2.1) (u.2.2.2.1) (u.2.2.2.2.1) i_found i_walkers a_text (u.2.2.2.2.2.1) (u.2.2.2.2.2.2.1) (u.2.2.2.2.2.2.2.1) (u.2.2.2.2.2.2.2.2.1) (u.2.2.2.2.2.2.2.2.2.1) (u.2.2.2.2.2.2.2.2.2.2.1) (u.2.2.2.2.2.2.2.2.2.2.2.1) (u.2.2.2.2.2.2.2.2.2.2.2.2.1) (u.2.2.2.2.2.2.2.2.2.2.2.2.2.1) (u.2.2.2.2.2.2.2.2.2.2.2.2.2.2)))) A)
set_option maxHeartbeats 4000000 in
set_option maxRecDepth 100000 in
theorem mX8_lay (l : Launch) (dC : Nat → ClassId) (dI : Nat → Nat → Nat) (cyI cyJ cyZ : ClassId) (h h_text h_many h_ones h_others h_kinds h_firsts h_persons h_gone h_at h_fines h_undos h_seenOf h_seenOpen h_path h_told h_counts h_spots h_far h_row h_begins h_ways h_next : Nat) (sz : Nat) (i_length : Int32) (i_keptMany : Int32) (i_undoMany : Int32) (i_seenMany : Int32) (i_pathMany : Int32) (i_place : Int32) (i_found : Int32) (i_walkers : Int32) (a_text : Nat → Int32) (a_many : Nat → Int32) (a_ones : Nat → Int32) (a_others : Nat → Int32) (a_kinds : Nat → Int32) (a_firsts : Nat → Int32) (a_persons : Nat → Int32) (a_gone : Nat → Int32) (a_at : Nat → Int32) (a_fines : Nat → Int32) (a_told : Nat → Int32) (post : Int32 → Int32 → Int32 → Int32 → Int32 → Int32 → (Nat → Int32) → (Nat → Int32) → (Nat → Int32) → (Nat → Int32) → (Nat → Int32) → (Nat → Int32) → (Nat → Int32) → (Nat → Int32) → (Nat → Int32) → (Nat → Int32) → Prop) (hwp : PX8_lay i_length i_keptMany i_undoMany i_seenMany i_pathMany i_place a_text a_many a_ones a_others a_kinds a_firsts a_persons a_gone a_at a_fines a_told post) : Met l yX8_lay wsX8_lay ({ frames := 4, cells := 0, slots := 0, locals := 92 } : Room) (va_Pc [.ref h] (pcW (dC, dI) sz (wX8_lay cyI cyJ cyZ h h_text h_many h_ones h_others h_kinds h_firsts h_persons h_gone h_at h_fines h_undos h_seenOf h_seenOpen h_path h_told h_counts h_spots h_far h_row h_begins h_ways h_next i_length i_keptMany i_undoMany i_seenMany i_pathMany i_place i_found i_walkers a_text a_many a_ones a_others a_kinds a_firsts a_persons a_gone a_at a_fines a_told) (tyG cyI cyJ cyZ))) (qX8_lay dC dI cyI cyJ cyZ h h_text h_many h_ones h_others h_kinds h_firsts h_persons h_gone h_at h_fines h_undos h_seenOf h_seenOpen h_path h_told h_counts h_spots h_far h_row h_begins h_ways h_next i_length i_keptMany i_undoMany i_seenMany i_pathMany i_place i_found i_walkers a_text a_many a_ones a_others a_kinds a_firsts a_persons a_gone a_at a_fines a_told post (va_A (wX8_lay cyI cyJ cyZ h h_text h_many h_ones h_others h_kinds h_firsts h_persons h_gone h_at h_fines h_undos h_seenOf h_seenOpen h_path h_told h_counts h_spots h_far h_row h_begins h_ways h_next i_length i_keptMany i_undoMany i_seenMany i_pathMany i_place i_found i_walkers a_text a_many a_ones a_others a_kinds a_firsts a_persons a_gone a_at a_fines a_told) sz)) 0 0 (va_A (wX8_lay cyI cyJ cyZ h h_text h_many h_ones h_others h_kinds h_firsts h_persons h_gone h_at h_fines h_undos h_seenOf h_seenOpen h_path h_told h_counts h_spots h_far h_row h_begins h_ways h_next i_length i_keptMany i_undoMany i_seenMany i_pathMany i_place i_found i_walkers a_text a_many a_ones a_others a_kinds a_firsts a_persons a_gone a_at a_fines a_told) sz) := by
  refine Met.ofW (cc := cX8_lay) (maxL := 2) (ret := some .int) (by decide) rfl ?_
  intro p e s m args below meth c s₁ B hml hv
  obtain ⟨rfl, hsz, hP, hK, hD0, hN⟩ := hv
  have hx := B.exec
  have hb := B.bytes
  have hr := B.returns
  have hts := atoms_spec (ws := wsX8_lay) B.pre
  have hown : s.vm.findClass RX8 = some m.cls := findClass_of_methodNamed B.named
  have hlocks := B.notSynchronized
  subst hsz
  have hD := hD0.self (sz := s.heap.size)
  generalize hAe : va_A (wX8_lay cyI cyJ cyZ h h_text h_many h_ones h_others h_kinds h_firsts h_persons h_gone h_at h_fines h_undos h_seenOf h_seenOpen h_path h_told h_counts h_spots h_far h_row h_begins h_ways h_next i_length i_keptMany i_undoMany i_seenMany i_pathMany i_place i_found i_walkers a_text a_many a_ones a_others a_kinds a_firsts a_persons a_gone a_at a_fines a_told) s.heap.size = A at hD ⊢
  have hA : ∀ q : Nat, s.heap.size ≤ q → A q := fun q h => by rw [← hAe]; exact Or.inr h
  have hW : Wd (dC, dI) A s.heap (wX8_lay cyI cyJ cyZ h h_text h_many h_ones h_others h_kinds h_firsts h_persons h_gone h_at h_fines h_undos h_seenOf h_seenOpen h_path h_told h_counts h_spots h_far h_row h_begins h_ways h_next i_length i_keptMany i_undoMany i_seenMany i_pathMany i_place i_found i_walkers a_text a_many a_ones a_others a_kinds a_firsts a_persons a_gone a_at a_fines a_told) s.heap [] := ⟨hP, hD, va_S.rf⟩
  have hw := hwp
  have hiX8 : ∀ w ∈ u_ws RX8 TX8 30, w ∈ wsX8_lay := fun _ h => List.mem_cons_of_mem _ (List.mem_append_right _ h)
  have k_0 := hts (.fieldLink RX8 13 "OddLetsInModel" "many" "[I") (List.mem_of_getElem? (i := 1) rfl)
  have k_1 := hts (.fieldLink RX8 16 "OddLetsInModel" "ones" "[I") (List.mem_of_getElem? (i := 3) rfl)
  have k_2 := hts (.fieldLink RX8 19 "OddLetsInModel" "others" "[I") (List.mem_of_getElem? (i := 4) rfl)
  have k_3 := hts (.fieldLink RX8 22 "OddLetsInModel" "kinds" "[I") (List.mem_of_getElem? (i := 5) rfl)
  have k_4 := hts (.fieldLink RX8 25 "OddLetsInModel" "firsts" "[I") (List.mem_of_getElem? (i := 6) rfl)
  have k_5 := hts (.fieldLink RX8 28 "OddLetsInModel" "persons" "[I") (List.mem_of_getElem? (i := 2) rfl)
  have W_47 : ∀ (i_keptMany : Int32) (i_undoMany : Int32) (i_seenMany : Int32) (i_pathMany : Int32) (i_place : Int32) (a_many : Nat → Int32) (a_persons : Nat → Int32) (a_gone : Nat → Int32) (a_at : Nat → Int32) (a_fines : Nat → Int32) (a_told : Nat → Int32) (n_47 : Nat) (x1 : Int32) (a_ones : Nat → Int32) (a_others : Nat → Int32) (a_kinds : Nat → Int32) (a_firsts : Nat → Int32) (H : Heap) (locs : List Loc) (ls : Array Slot), Wd (dC, dI) A s.heap (wX8_lay cyI cyJ cyZ h h_text h_many h_ones h_others h_kinds h_firsts h_persons h_gone h_at h_fines h_undos h_seenOf h_seenOpen h_path h_told h_counts h_spots h_far h_row h_begins h_ways h_next i_length i_keptMany i_undoMany i_seenMany i_pathMany i_place i_found i_walkers a_text a_many a_ones a_others a_kinds a_firsts a_persons a_gone a_at a_fines a_told) H locs → lv_has ls 2 [(0, .ref h), (1, .int x1)] → PX8_lay_47 post i_keptMany i_undoMany i_seenMany i_pathMany i_place a_many a_persons a_gone a_at a_fines a_told n_47 x1 a_ones a_others a_kinds a_firsts → W p l e (({ frames := 4, cells := 0, slots := 0, locals := 92 } : Room)) s m (([.ref h] : List Value).toArray) below meth c H locs 0 0 (MQ below (qX8_lay dC dI cyI cyJ cyZ h h_text h_many h_ones h_others h_kinds h_firsts h_persons h_gone h_at h_fines h_undos h_seenOf h_seenOpen h_path h_told h_counts h_spots h_far h_row h_begins h_ways h_next i_length i_keptMany i_undoMany i_seenMany i_pathMany i_place i_found i_walkers a_text a_many a_ones a_others a_kinds a_firsts a_persons a_gone a_at a_fines a_told post A) (([.ref h] : List Value).toArray) s 0 0 A) (F0 m 47 ls []) := by
    intro i_keptMany i_undoMany i_seenMany i_pathMany i_place a_many a_persons a_gone a_at a_fines a_told n_47
    induction n_47 with
    | zero =>
      intro x1 a_ones a_others a_kinds a_firsts H locs ls hW hl hw
      exact False.elim hw
    | succ n_47 ih_47 =>
      intro x1 a_ones a_others a_kinds a_firsts H locs ls hW hl hw
      refine lv_iload_n hx hb dX8_lay_47 rfl (lv_at hl 1 rfl) ?_
      refine lv_iconst (v := 5) hx hb dX8_lay_48 (by decide) ?_
      refine lv_icmp_ge (tgt := 114) hx hb dX8_lay_49 (by decide) (fun c_1 => ?_) (fun c_1 => ?_)
      · replace hw := hw.1 c_1
        refine lv_aload_n hx hb dX8_lay_114 rfl (lv_at hl 0 rfl) ?_
        refine zw_Vv ⟨hx, hb, hml, hown, hts⟩ hK hN hA hW 0 rfl (T := TX8) (N := 30) rfl [] [] [0, 6, 8, 9, 10] [1, 2, 3, 4, 5, 7, 11] [7, 0, 1, 2, 3, 4, 8, 5, 9, 10, 11, 6] (fun u => (wX8_lay cyI cyJ cyZ h h_text h_many h_ones h_others h_kinds h_firsts h_persons h_gone h_at h_fines h_undos h_seenOf h_seenOpen h_path h_told h_counts h_spots h_far h_row h_begins h_ways h_next i_length (u.1) (u.2.1) (u.2.2.1) (u.2.2.2.1) i_place i_found i_walkers a_text a_many a_ones a_others a_kinds a_firsts a_persons (u.2.2.2.2.1) (u.2.2.2.2.2.1) (u.2.2.2.2.2.2) a_told)) (mX8_begin l dC dI cyI cyJ cyZ h h_text h_many h_ones h_others h_kinds h_firsts h_persons h_gone h_at h_fines h_undos h_seenOf h_seenOpen h_path h_told h_counts h_spots h_far h_row h_begins h_ways h_next _ i_length i_keptMany i_undoMany i_seenMany i_pathMany i_place i_found i_walkers a_firsts a_gone a_at a_fines _ hw) (cwV 0 hts gX8_lay_X8_begin rfl rfl rfl (by decide +kernel) ⟨Nat.le_of_ble_eq_true rfl, Nat.le_of_ble_eq_true rfl⟩) rfl rfl rfl rfl (by decide) rfl (fun _ => rfl) rfl hl.1 rfl (Nat.le_of_ble_eq_true rfl) (Nat.le_of_ble_eq_true rfl) (Nat.le_of_ble_eq_true rfl) dX8_lay_115 (fun u H locs hw hW => ?_)
        obtain ⟨i_keptMany_2, i_undoMany_3, i_seenMany_4, i_pathMany_5, a_gone_6, a_at_7, a_fines_8⟩ := u
        try dsimp only at hw
        replace hW : Wd (dC, dI) A s.heap (wX8_lay cyI cyJ cyZ h h_text h_many h_ones h_others h_kinds h_firsts h_persons h_gone h_at h_fines h_undos h_seenOf h_seenOpen h_path h_told h_counts h_spots h_far h_row h_begins h_ways h_next i_length i_keptMany_2 i_undoMany_3 i_seenMany_4 i_pathMany_5 i_place i_found i_walkers a_text a_many a_ones a_others a_kinds a_firsts a_persons a_gone_6 a_at_7 a_fines_8 a_told) H locs := hW
        refine lv_aload_n hx hb dX8_lay_118 rfl (lv_at hl 0 rfl) ?_
        refine zw_get (ci := 8) (C := RX8) (T := TX8) (N := 30) (v := .ref h_many) hx hb hts hiX8 hown hK hW 0 rfl rfl 2 (by decide) rfl k_0 dX8_lay_119 ?_
        refine lv_iconst (v := 0) hx hb dX8_lay_122 (by decide) ?_
        refine zw_iald hx hb hK hW 2 rfl rfl hw.1 dX8_lay_123 ?_
        replace hw := hw.2
        refine zw_iret (S := Int32 × Int32 × Int32 × Int32 × Int32 × (Nat → Int32) × (Nat → Int32) × (Nat → Int32) × (Nat → Int32) × (Nat → Int32) × (Nat → Int32) × (Nat → Int32) × (Nat → Int32) × (Nat → Int32) × (Nat → Int32)) (post := fun r u => post r u.1 u.2.1 u.2.2.1 u.2.2.2.1 u.2.2.2.2.1 u.2.2.2.2.2.1 u.2.2.2.2.2.2.1 u.2.2.2.2.2.2.2.1 u.2.2.2.2.2.2.2.2.1 u.2.2.2.2.2.2.2.2.2.1 u.2.2.2.2.2.2.2.2.2.2.1 u.2.2.2.2.2.2.2.2.2.2.2.1 u.2.2.2.2.2.2.2.2.2.2.2.2.1 u.2.2.2.2.2.2.2.2.2.2.2.2.2.1 u.2.2.2.2.2.2.2.2.2.2.2.2.2.2) (i_keptMany_2, i_undoMany_3, i_seenMany_4, i_pathMany_5, i_place, a_many, a_ones, a_others, a_kinds, a_firsts, a_persons, a_gone_6, a_at_7, a_fines_8, a_told) hx hb hr hlocks hK hW hw ?_ dX8_lay_124
        rfl
      · replace hw := hw.2 c_1
        refine lv_aload_n hx hb dX8_lay_52 rfl (lv_at hl 0 rfl) ?_
        refine zw_get (ci := 8) (C := RX8) (T := TX8) (N := 30) (v := .ref h_ones) hx hb hts hiX8 hown hK hW 0 rfl rfl 3 (by decide) rfl k_1 dX8_lay_53 ?_
        refine lv_iload_n hx hb dX8_lay_56 rfl (lv_at hl 1 rfl) ?_
        refine lv_aload_n hx hb dX8_lay_57 rfl (lv_at hl 0 rfl) ?_
        refine zw_get (ci := 8) (C := RX8) (T := TX8) (N := 30) (v := .ref h_ones) hx hb hts hiX8 hown hK hW 0 rfl rfl 3 (by decide) rfl k_1 dX8_lay_58 ?_
        refine lv_iconst (v := 5) hx hb dX8_lay_61 (by decide) ?_
        refine lv_iload_n hx hb dX8_lay_62 rfl (lv_at hl 1 rfl) ?_
        refine lv_iadd hx hb dX8_lay_63 ?_
        refine zw_iald hx hb hK hW 3 rfl rfl hw.1 dX8_lay_64 ?_
        replace hw := hw.2
        refine lv_topi (fun t_9 et_9 => ?_)
        replace hw := hw t_9 et_9
        refine zw_iast hx hb hK hW 3 rfl rfl hw.1 (w2 := fun a_ones_10 => (wX8_lay cyI cyJ cyZ h h_text h_many h_ones h_others h_kinds h_firsts h_persons h_gone h_at h_fines h_undos h_seenOf h_seenOpen h_path h_told h_counts h_spots h_far h_row h_begins h_ways h_next i_length i_keptMany i_undoMany i_seenMany i_pathMany i_place i_found i_walkers a_text a_many a_ones_10 a_others a_kinds a_firsts a_persons a_gone a_at a_fines a_told)) (fun _ => rfl) dX8_lay_65 (fun a_ones_10 H locs ea_ones_10 hW => ?_)
        replace hw := hw.2 a_ones_10 ea_ones_10
        refine lv_aload_n hx hb dX8_lay_66 rfl (lv_at hl 0 rfl) ?_
        refine zw_get (ci := 8) (C := RX8) (T := TX8) (N := 30) (v := .ref h_others) hx hb hts hiX8 hown hK hW 0 rfl rfl 4 (by decide) rfl k_2 dX8_lay_67 ?_
        refine lv_iload_n hx hb dX8_lay_70 rfl (lv_at hl 1 rfl) ?_
        refine lv_aload_n hx hb dX8_lay_71 rfl (lv_at hl 0 rfl) ?_
        refine zw_get (ci := 8) (C := RX8) (T := TX8) (N := 30) (v := .ref h_others) hx hb hts hiX8 hown hK hW 0 rfl rfl 4 (by decide) rfl k_2 dX8_lay_72 ?_
        refine lv_iconst (v := 5) hx hb dX8_lay_75 (by decide) ?_
        refine lv_iload_n hx hb dX8_lay_76 rfl (lv_at hl 1 rfl) ?_
        refine lv_iadd hx hb dX8_lay_77 ?_
        refine zw_iald hx hb hK hW 4 rfl rfl hw.1 dX8_lay_78 ?_
        replace hw := hw.2
        refine lv_topi (fun t_11 et_11 => ?_)
        replace hw := hw t_11 et_11
        refine zw_iast hx hb hK hW 4 rfl rfl hw.1 (w2 := fun a_others_12 => (wX8_lay cyI cyJ cyZ h h_text h_many h_ones h_others h_kinds h_firsts h_persons h_gone h_at h_fines h_undos h_seenOf h_seenOpen h_path h_told h_counts h_spots h_far h_row h_begins h_ways h_next i_length i_keptMany i_undoMany i_seenMany i_pathMany i_place i_found i_walkers a_text a_many a_ones_10 a_others_12 a_kinds a_firsts a_persons a_gone a_at a_fines a_told)) (fun _ => rfl) dX8_lay_79 (fun a_others_12 H locs ea_others_12 hW => ?_)
        replace hw := hw.2 a_others_12 ea_others_12
        refine lv_aload_n hx hb dX8_lay_80 rfl (lv_at hl 0 rfl) ?_
        refine zw_get (ci := 8) (C := RX8) (T := TX8) (N := 30) (v := .ref h_kinds) hx hb hts hiX8 hown hK hW 0 rfl rfl 5 (by decide) rfl k_3 dX8_lay_81 ?_
        refine lv_iload_n hx hb dX8_lay_84 rfl (lv_at hl 1 rfl) ?_
        refine lv_aload_n hx hb dX8_lay_85 rfl (lv_at hl 0 rfl) ?_
        refine zw_get (ci := 8) (C := RX8) (T := TX8) (N := 30) (v := .ref h_kinds) hx hb hts hiX8 hown hK hW 0 rfl rfl 5 (by decide) rfl k_3 dX8_lay_86 ?_
        refine lv_iconst (v := 5) hx hb dX8_lay_89 (by decide) ?_
        refine lv_iload_n hx hb dX8_lay_90 rfl (lv_at hl 1 rfl) ?_
        refine lv_iadd hx hb dX8_lay_91 ?_
        refine zw_iald hx hb hK hW 5 rfl rfl hw.1 dX8_lay_92 ?_
        replace hw := hw.2
        refine lv_topi (fun t_13 et_13 => ?_)
        replace hw := hw t_13 et_13
        refine zw_iast hx hb hK hW 5 rfl rfl hw.1 (w2 := fun a_kinds_14 => (wX8_lay cyI cyJ cyZ h h_text h_many h_ones h_others h_kinds h_firsts h_persons h_gone h_at h_fines h_undos h_seenOf h_seenOpen h_path h_told h_counts h_spots h_far h_row h_begins h_ways h_next i_length i_keptMany i_undoMany i_seenMany i_pathMany i_place i_found i_walkers a_text a_many a_ones_10 a_others_12 a_kinds_14 a_firsts a_persons a_gone a_at a_fines a_told)) (fun _ => rfl) dX8_lay_93 (fun a_kinds_14 H locs ea_kinds_14 hW => ?_)
        replace hw := hw.2 a_kinds_14 ea_kinds_14
        refine lv_aload_n hx hb dX8_lay_94 rfl (lv_at hl 0 rfl) ?_
        refine zw_get (ci := 8) (C := RX8) (T := TX8) (N := 30) (v := .ref h_firsts) hx hb hts hiX8 hown hK hW 0 rfl rfl 6 (by decide) rfl k_4 dX8_lay_95 ?_
        refine lv_iload_n hx hb dX8_lay_98 rfl (lv_at hl 1 rfl) ?_
        refine lv_aload_n hx hb dX8_lay_99 rfl (lv_at hl 0 rfl) ?_
        refine zw_get (ci := 8) (C := RX8) (T := TX8) (N := 30) (v := .ref h_firsts) hx hb hts hiX8 hown hK hW 0 rfl rfl 6 (by decide) rfl k_4 dX8_lay_100 ?_
        refine lv_iconst (v := 5) hx hb dX8_lay_103 (by decide) ?_
        refine lv_iload_n hx hb dX8_lay_104 rfl (lv_at hl 1 rfl) ?_
        refine lv_iadd hx hb dX8_lay_105 ?_
        refine zw_iald hx hb hK hW 6 rfl rfl hw.1 dX8_lay_106 ?_
        replace hw := hw.2
        refine lv_topi (fun t_15 et_15 => ?_)
        replace hw := hw t_15 et_15
        refine zw_iast hx hb hK hW 6 rfl rfl hw.1 (w2 := fun a_firsts_16 => (wX8_lay cyI cyJ cyZ h h_text h_many h_ones h_others h_kinds h_firsts h_persons h_gone h_at h_fines h_undos h_seenOf h_seenOpen h_path h_told h_counts h_spots h_far h_row h_begins h_ways h_next i_length i_keptMany i_undoMany i_seenMany i_pathMany i_place i_found i_walkers a_text a_many a_ones_10 a_others_12 a_kinds_14 a_firsts_16 a_persons a_gone a_at a_fines a_told)) (fun _ => rfl) dX8_lay_107 (fun a_firsts_16 H locs ea_firsts_16 hW => ?_)
        replace hw := hw.2 a_firsts_16 ea_firsts_16
        obtain ⟨x1_17, ex1_17⟩ : ∃ y : Int32, y = x1 + 1 := ⟨_, rfl⟩
        replace hw := hw x1_17 ex1_17
        refine lv_iinc (v := x1_17) (lv' := [(1, .int x1_17), (0, .ref h)]) hx hb dX8_lay_108 hl (k := 1) rfl (by rw [ex1_17]; rfl) (by decide) rfl (fun ls hl => ?_)
        refine lv_goto (tgt := 47) hx hb dX8_lay_111 (by decide) ?_
        exact ih_47 x1_17 a_ones_10 a_others_12 a_kinds_14 a_firsts_16 _ _ _ hW (lv_sub hl [1, 0] rfl) hw
  have hl := lv_entry ([.ref h]) (n := 2) (Nat.le_of_ble_eq_true rfl)
  rw [lg_entry_eq]
  generalize (lg_sl ([.ref h]) ++ List.replicate (2 - (lg_sl ([.ref h])).length) Slot.unset).toArray = ls at hl ⊢
  have hl : lv_has ls 2 [(0, .ref h)] := hl
  refine lv_aload_n hx hb dX8_lay_0 rfl (lv_at hl 0 rfl) ?_
  refine zw_Vi ⟨hx, hb, hml, hown, hts⟩ hK hN hA hW 0 rfl (T := TX8) (N := 30) rfl [] [] [0, 1, 2, 3, 4, 5, 6, 7, 11] [8, 9, 10] [3, 4, 5, 6, 7, 8, 9, 10, 0, 1, 2, 11] (fun u => (wX8_lay cyI cyJ cyZ h h_text h_many h_ones h_others h_kinds h_firsts h_persons h_gone h_at h_fines h_undos h_seenOf h_seenOpen h_path h_told h_counts h_spots h_far h_row h_begins h_ways h_next i_length i_keptMany i_undoMany i_seenMany i_pathMany (u.1) i_found i_walkers a_text (u.2.1) (u.2.2.1) (u.2.2.2.1) (u.2.2.2.2.1) (u.2.2.2.2.2.1) (u.2.2.2.2.2.2.1) a_gone a_at a_fines (u.2.2.2.2.2.2.2))) (mX8_readAll l dC dI cyI cyJ cyZ h h_text h_many h_ones h_others h_kinds h_firsts h_persons h_gone h_at h_fines h_undos h_seenOf h_seenOpen h_path h_told h_counts h_spots h_far h_row h_begins h_ways h_next _ i_length i_keptMany i_undoMany i_seenMany i_pathMany i_place i_found i_walkers a_text a_many a_ones a_others a_kinds a_firsts a_persons a_told _ hw) (cwV 0 hts gX8_lay_X8_readAll rfl rfl rfl (by decide +kernel) ⟨Nat.le_of_ble_eq_true rfl, Nat.le_of_ble_eq_true rfl⟩) rfl rfl rfl rfl (by decide) rfl (fun _ => rfl) rfl hl.1 rfl (Nat.le_of_ble_eq_true rfl) (Nat.le_of_ble_eq_true rfl) (Nat.le_of_ble_eq_true rfl) dX8_lay_1 (fun r_26 u H locs hw hW => ?_)
  obtain ⟨i_place_18, a_many_19, a_ones_20, a_others_21, a_kinds_22, a_firsts_23, a_persons_24, a_told_25⟩ := u
  try dsimp only at hw
  replace hW : Wd (dC, dI) A s.heap (wX8_lay cyI cyJ cyZ h h_text h_many h_ones h_others h_kinds h_firsts h_persons h_gone h_at h_fines h_undos h_seenOf h_seenOpen h_path h_told h_counts h_spots h_far h_row h_begins h_ways h_next i_length i_keptMany i_undoMany i_seenMany i_pathMany i_place_18 i_found i_walkers a_text a_many_19 a_ones_20 a_others_21 a_kinds_22 a_firsts_23 a_persons_24 a_gone a_at a_fines a_told_25) H locs := hW
  refine lv_bipush (v := (-4)) hx hb dX8_lay_4 (by decide) ?_
  refine lv_icmp_ne (tgt := 18) hx hb dX8_lay_6 (by decide) (fun c_27 => ?_) (fun c_27 => ?_)
  · replace hw := hw.2 c_27
    refine lv_bipush (v := (-2)) hx hb dX8_lay_18 (by decide) ?_
    refine zw_iret (S := Int32 × Int32 × Int32 × Int32 × Int32 × (Nat → Int32) × (Nat → Int32) × (Nat → Int32) × (Nat → Int32) × (Nat → Int32) × (Nat → Int32) × (Nat → Int32) × (Nat → Int32) × (Nat → Int32) × (Nat → Int32)) (post := fun r u => post r u.1 u.2.1 u.2.2.1 u.2.2.2.1 u.2.2.2.2.1 u.2.2.2.2.2.1 u.2.2.2.2.2.2.1 u.2.2.2.2.2.2.2.1 u.2.2.2.2.2.2.2.2.1 u.2.2.2.2.2.2.2.2.2.1 u.2.2.2.2.2.2.2.2.2.2.1 u.2.2.2.2.2.2.2.2.2.2.2.1 u.2.2.2.2.2.2.2.2.2.2.2.2.1 u.2.2.2.2.2.2.2.2.2.2.2.2.2.1 u.2.2.2.2.2.2.2.2.2.2.2.2.2.2) (i_keptMany, i_undoMany, i_seenMany, i_pathMany, i_place_18, a_many_19, a_ones_20, a_others_21, a_kinds_22, a_firsts_23, a_persons_24, a_gone, a_at, a_fines, a_told_25) hx hb hr hlocks hK hW hw ?_ dX8_lay_20
    rfl
  · replace hw := hw.1 c_27
    refine lv_aload_n hx hb dX8_lay_9 rfl (lv_at hl 0 rfl) ?_
    refine zw_get (ci := 8) (C := RX8) (T := TX8) (N := 30) (v := .ref h_many) hx hb hts hiX8 hown hK hW 0 rfl rfl 2 (by decide) rfl k_0 dX8_lay_10 ?_
    refine lv_iconst (v := 1) hx hb dX8_lay_13 (by decide) ?_
    refine zw_iald hx hb hK hW 2 rfl rfl hw.1 dX8_lay_14 ?_
    replace hw := hw.2
    refine lv_if_ne (tgt := 21) hx hb dX8_lay_15 (by decide) (fun c_28 => ?_) (fun c_28 => ?_)
    · replace hw := hw.2 c_28
      refine lv_aload_n hx hb dX8_lay_21 rfl (lv_at hl 0 rfl) ?_
      refine zw_get (ci := 8) (C := RX8) (T := TX8) (N := 30) (v := .ref h_many) hx hb hts hiX8 hown hK hW 0 rfl rfl 2 (by decide) rfl k_0 dX8_lay_22 ?_
      refine lv_iconst (v := 0) hx hb dX8_lay_25 (by decide) ?_
      refine lv_aload_n hx hb dX8_lay_26 rfl (lv_at hl 0 rfl) ?_
      refine zw_get (ci := 8) (C := RX8) (T := TX8) (N := 30) (v := .ref h_many) hx hb hts hiX8 hown hK hW 0 rfl rfl 2 (by decide) rfl k_0 dX8_lay_27 ?_
      refine lv_iconst (v := 1) hx hb dX8_lay_30 (by decide) ?_
      refine zw_iald hx hb hK hW 2 rfl rfl hw.1 dX8_lay_31 ?_
      replace hw := hw.2
      refine lv_topi (fun t_29 et_29 => ?_)
      replace hw := hw t_29 et_29
      refine zw_iast hx hb hK hW 2 rfl rfl hw.1 (w2 := fun a_many_30 => (wX8_lay cyI cyJ cyZ h h_text h_many h_ones h_others h_kinds h_firsts h_persons h_gone h_at h_fines h_undos h_seenOf h_seenOpen h_path h_told h_counts h_spots h_far h_row h_begins h_ways h_next i_length i_keptMany i_undoMany i_seenMany i_pathMany i_place_18 i_found i_walkers a_text a_many_30 a_ones_20 a_others_21 a_kinds_22 a_firsts_23 a_persons_24 a_gone a_at a_fines a_told_25)) (fun _ => rfl) dX8_lay_32 (fun a_many_30 H locs ea_many_30 hW => ?_)
      replace hw := hw.2 a_many_30 ea_many_30
      refine lv_aload_n hx hb dX8_lay_33 rfl (lv_at hl 0 rfl) ?_
      refine zw_get (ci := 8) (C := RX8) (T := TX8) (N := 30) (v := .ref h_persons) hx hb hts hiX8 hown hK hW 0 rfl rfl 7 (by decide) rfl k_5 dX8_lay_34 ?_
      refine lv_iconst (v := 0) hx hb dX8_lay_37 (by decide) ?_
      refine lv_aload_n hx hb dX8_lay_38 rfl (lv_at hl 0 rfl) ?_
      refine zw_get (ci := 8) (C := RX8) (T := TX8) (N := 30) (v := .ref h_persons) hx hb hts hiX8 hown hK hW 0 rfl rfl 7 (by decide) rfl k_5 dX8_lay_39 ?_
      refine lv_iconst (v := 1) hx hb dX8_lay_42 (by decide) ?_
      refine zw_iald hx hb hK hW 7 rfl rfl hw.1 dX8_lay_43 ?_
      replace hw := hw.2
      refine lv_topi (fun t_31 et_31 => ?_)
      replace hw := hw t_31 et_31
      refine zw_iast hx hb hK hW 7 rfl rfl hw.1 (w2 := fun a_persons_32 => (wX8_lay cyI cyJ cyZ h h_text h_many h_ones h_others h_kinds h_firsts h_persons h_gone h_at h_fines h_undos h_seenOf h_seenOpen h_path h_told h_counts h_spots h_far h_row h_begins h_ways h_next i_length i_keptMany i_undoMany i_seenMany i_pathMany i_place_18 i_found i_walkers a_text a_many_30 a_ones_20 a_others_21 a_kinds_22 a_firsts_23 a_persons_32 a_gone a_at a_fines a_told_25)) (fun _ => rfl) dX8_lay_44 (fun a_persons_32 H locs ea_persons_32 hW => ?_)
      replace hw := hw.2 a_persons_32 ea_persons_32
      refine lv_iconst (v := 0) hx hb dX8_lay_45 (by decide) ?_
      refine lv_istore_n (lv' := [(1, .int 0), (0, .ref h)]) hx hb dX8_lay_46 rfl hl (by decide) rfl (fun ls hl => ?_)
      obtain ⟨n_47, hw⟩ := hw
      exact W_47 i_keptMany i_undoMany i_seenMany i_pathMany i_place_18 a_many_30 a_persons_32 a_gone a_at a_fines a_told_25 n_47 0 a_ones_20 a_others_21 a_kinds_22 a_firsts_23 _ _ _ hW (lv_sub hl [1, 0] rfl) hw
    · replace hw := hw.1 c_28
      refine lv_bipush (v := (-2)) hx hb dX8_lay_18 (by decide) ?_
      refine zw_iret (S := Int32 × Int32 × Int32 × Int32 × Int32 × (Nat → Int32) × (Nat → Int32) × (Nat → Int32) × (Nat → Int32) × (Nat → Int32) × (Nat → Int32) × (Nat → Int32) × (Nat → Int32) × (Nat → Int32) × (Nat → Int32)) (post := fun r u => post r u.1 u.2.1 u.2.2.1 u.2.2.2.1 u.2.2.2.2.1 u.2.2.2.2.2.1 u.2.2.2.2.2.2.1 u.2.2.2.2.2.2.2.1 u.2.2.2.2.2.2.2.2.1 u.2.2.2.2.2.2.2.2.2.1 u.2.2.2.2.2.2.2.2.2.2.1 u.2.2.2.2.2.2.2.2.2.2.2.1 u.2.2.2.2.2.2.2.2.2.2.2.2.1 u.2.2.2.2.2.2.2.2.2.2.2.2.2.1 u.2.2.2.2.2.2.2.2.2.2.2.2.2.2) (i_keptMany, i_undoMany, i_seenMany, i_pathMany, i_place_18, a_many_19, a_ones_20, a_others_21, a_kinds_22, a_firsts_23, a_persons_24, a_gone, a_at, a_fines, a_told_25) hx hb hr hlocks hK hW hw ?_ dX8_lay_20
      rfl
abbrev wX8_isGate (cyI cyJ cyZ : ClassId) (h h_text h_many h_ones h_others h_kinds h_firsts h_persons h_gone h_at h_fines h_undos h_seenOf h_seenOpen h_path h_told h_counts h_spots h_far h_row h_begins h_ways h_next : Nat) (i_length : Int32) (i_keptMany : Int32) (i_undoMany : Int32) (i_seenMany : Int32) (i_pathMany : Int32) (i_place : Int32) (i_found : Int32) (i_walkers : Int32) (a_many : Nat → Int32) : va_W := [(h, .inr (8, [.int i_length, .ref h_text, .ref h_many, .ref h_ones, .ref h_others, .ref h_kinds, .ref h_firsts, .ref h_persons, .ref h_gone, .ref h_at, .ref h_fines, .int i_keptMany, .int i_undoMany, .ref h_undos, .int i_seenMany, .ref h_seenOf, .ref h_seenOpen, .int i_pathMany, .ref h_path, .int i_place, .ref h_told, .ref h_counts, .ref h_spots, .ref h_far, .ref h_row, .ref h_begins, .int i_found, .int i_walkers, .ref h_ways, .ref h_next])), (h_many, .inl (cyI, 2, .inl a_many))]
abbrev qX8_isGate (dC : Nat → ClassId) (dI : Nat → Nat → Nat) (cyI cyJ cyZ : ClassId) (h h_text h_many h_ones h_others h_kinds h_firsts h_persons h_gone h_at h_fines h_undos h_seenOf h_seenOpen h_path h_told h_counts h_spots h_far h_row h_begins h_ways h_next : Nat) (i_length : Int32) (i_keptMany : Int32) (i_undoMany : Int32) (i_seenMany : Int32) (i_pathMany : Int32) (i_place : Int32) (i_found : Int32) (i_walkers : Int32) (a_many : Nat → Int32) (post : Int32 → Prop) (A : Nat → Prop) : Array Value → State → Outcome → State → Prop := (va_Qi (fun (r : Int32) (u : Unit) => (r = 0 ∨ r = 1) ∧ post r) (bW (dC, dI) (tyG cyI cyJ cyZ) A (fun _ : Unit => (wX8_isGate cyI cyJ cyZ h h_text h_many h_ones h_others h_kinds h_firsts h_persons h_gone h_at h_fines h_undos h_seenOf h_seenOpen h_path h_told h_counts h_spots h_far h_row h_begins h_ways h_next i_length i_keptMany i_undoMany i_seenMany i_pathMany i_place i_found i_walkers a_many))) A)
set_option maxHeartbeats 4000000 in
set_option maxRecDepth 100000 in
theorem mX8_isGate (l : Launch) (dC : Nat → ClassId) (dI : Nat → Nat → Nat) (cyI cyJ cyZ : ClassId) (h h_text h_many h_ones h_others h_kinds h_firsts h_persons h_gone h_at h_fines h_undos h_seenOf h_seenOpen h_path h_told h_counts h_spots h_far h_row h_begins h_ways h_next : Nat) (sz : Nat) (i_length : Int32) (i_keptMany : Int32) (i_undoMany : Int32) (i_seenMany : Int32) (i_pathMany : Int32) (i_place : Int32) (i_found : Int32) (i_walkers : Int32) (a_many : Nat → Int32) (x1 : Int32) (post : Int32 → Prop) (hwp : PX8_isGate x1 a_many post) : Met l yX8_isGate wsX8_isGate ({ frames := 1, cells := 0, slots := 0, locals := 25 } : Room) (va_Pc [.ref h, .int x1] (pcW (dC, dI) sz (wX8_isGate cyI cyJ cyZ h h_text h_many h_ones h_others h_kinds h_firsts h_persons h_gone h_at h_fines h_undos h_seenOf h_seenOpen h_path h_told h_counts h_spots h_far h_row h_begins h_ways h_next i_length i_keptMany i_undoMany i_seenMany i_pathMany i_place i_found i_walkers a_many) (tyG cyI cyJ cyZ))) (qX8_isGate dC dI cyI cyJ cyZ h h_text h_many h_ones h_others h_kinds h_firsts h_persons h_gone h_at h_fines h_undos h_seenOf h_seenOpen h_path h_told h_counts h_spots h_far h_row h_begins h_ways h_next i_length i_keptMany i_undoMany i_seenMany i_pathMany i_place i_found i_walkers a_many post (va_A (wX8_isGate cyI cyJ cyZ h h_text h_many h_ones h_others h_kinds h_firsts h_persons h_gone h_at h_fines h_undos h_seenOf h_seenOpen h_path h_told h_counts h_spots h_far h_row h_begins h_ways h_next i_length i_keptMany i_undoMany i_seenMany i_pathMany i_place i_found i_walkers a_many) sz)) 0 0 (va_A (wX8_isGate cyI cyJ cyZ h h_text h_many h_ones h_others h_kinds h_firsts h_persons h_gone h_at h_fines h_undos h_seenOf h_seenOpen h_path h_told h_counts h_spots h_far h_row h_begins h_ways h_next i_length i_keptMany i_undoMany i_seenMany i_pathMany i_place i_found i_walkers a_many) sz) := by
  refine Met.ofW (cc := cX8_isGate) (maxL := 2) (ret := some .boolean) (by decide) rfl ?_
  intro p e s m args below meth c s₁ B hml hv
  obtain ⟨rfl, hsz, hP, hK, hD0, hN⟩ := hv
  have hx := B.exec
  have hb := B.bytes
  have hr := B.returns
  have hts := atoms_spec (ws := wsX8_isGate) B.pre
  have hown : s.vm.findClass RX8 = some m.cls := findClass_of_methodNamed B.named
  have hlocks := B.notSynchronized
  subst hsz
  have hD := hD0.self (sz := s.heap.size)
  generalize hAe : va_A (wX8_isGate cyI cyJ cyZ h h_text h_many h_ones h_others h_kinds h_firsts h_persons h_gone h_at h_fines h_undos h_seenOf h_seenOpen h_path h_told h_counts h_spots h_far h_row h_begins h_ways h_next i_length i_keptMany i_undoMany i_seenMany i_pathMany i_place i_found i_walkers a_many) s.heap.size = A at hD ⊢
  have hA : ∀ q : Nat, s.heap.size ≤ q → A q := fun q h => by rw [← hAe]; exact Or.inr h
  have hW : Wd (dC, dI) A s.heap (wX8_isGate cyI cyJ cyZ h h_text h_many h_ones h_others h_kinds h_firsts h_persons h_gone h_at h_fines h_undos h_seenOf h_seenOpen h_path h_told h_counts h_spots h_far h_row h_begins h_ways h_next i_length i_keptMany i_undoMany i_seenMany i_pathMany i_place i_found i_walkers a_many) s.heap [] := ⟨hP, hD, va_S.rf⟩
  have hw := hwp
  have hiX8 : ∀ w ∈ u_ws RX8 TX8 30, w ∈ wsX8_isGate := fun _ h => List.mem_cons_of_mem _ (List.mem_append_right _ h)
  have k_0 := hts (.fieldLink RX8 13 "OddLetsInModel" "many" "[I") (List.mem_of_getElem? (i := 1) rfl)
  have hl := lv_entry ([.ref h, .int x1]) (n := 2) (Nat.le_of_ble_eq_true rfl)
  rw [lg_entry_eq]
  generalize (lg_sl ([.ref h, .int x1]) ++ List.replicate (2 - (lg_sl ([.ref h, .int x1])).length) Slot.unset).toArray = ls at hl ⊢
  have hl : lv_has ls 2 [(0, .ref h), (1, .int x1)] := hl
  refine lv_iload_n hx hb dX8_isGate_0 rfl (lv_at hl 1 rfl) ?_
  refine lv_i2l hx hb dX8_isGate_1 rfl ?_
  refine lv_lconst (v := 0) hx hb dX8_isGate_2 (by decide) ?_
  refine lv_aload_n hx hb dX8_isGate_3 rfl (lv_at hl 0 rfl) ?_
  refine zw_get (ci := 8) (C := RX8) (T := TX8) (N := 30) (v := .ref h_many) hx hb hts hiX8 hown hK hW 0 rfl rfl 2 (by decide) rfl k_0 dX8_isGate_4 ?_
  refine lv_iconst (v := 0) hx hb dX8_isGate_7 (by decide) ?_
  refine zw_iald hx hb hK hW 1 rfl rfl hw.1 dX8_isGate_8 ?_
  replace hw := hw.2
  refine lv_iconst (v := 1) hx hb dX8_isGate_9 (by decide) ?_
  refine lv_isub hx hb dX8_isGate_10 ?_
  refine lv_i2l hx hb dX8_isGate_11 rfl ?_
  refine zw_Si ⟨hx, hb, hml, hown, hts⟩ hK hN hA hW [.long ((x1).toInt64), .long 0, .long ((((a_many (0 : Int32).toNatClampNeg) - 1)).toInt64)] [] [] [0, 1] [0, 1] (fun _ => (wX8_isGate cyI cyJ cyZ h h_text h_many h_ones h_others h_kinds h_firsts h_persons h_gone h_at h_fines h_undos h_seenOf h_seenOpen h_path h_told h_counts h_spots h_far h_row h_begins h_ways h_next i_length i_keptMany i_undoMany i_seenMany i_pathMany i_place i_found i_walkers a_many)) (mX8_in l dC dI cyI cyJ cyZ _ ((x1).toInt64) 0 ((((a_many (0 : Int32).toNatClampNeg) - 1)).toInt64) _ hw) (va_cwS 3 hts gX8_isGate_X8_in rfl rfl rfl (by decide +kernel) ⟨Nat.le_of_ble_eq_true rfl, Nat.le_of_ble_eq_true rfl⟩) rfl rfl rfl rfl (by decide) rfl (fun _ => rfl) rfl hl.1 rfl (Nat.le_of_ble_eq_true rfl) (Nat.le_of_ble_eq_true rfl) (Nat.le_of_ble_eq_true rfl) dX8_isGate_12 (fun r_1 u H locs hw hW => ?_)
  obtain ⟨br_1, hw⟩ := hw
  refine zw_zret (S := Unit) (post := fun r u => post r) () hx hb hr hlocks hK hW br_1 hw ?_ dX8_isGate_15
  rfl
abbrev wX8_isPerson (cyI cyJ cyZ : ClassId) (h h_text h_many h_ones h_others h_kinds h_firsts h_persons h_gone h_at h_fines h_undos h_seenOf h_seenOpen h_path h_told h_counts h_spots h_far h_row h_begins h_ways h_next : Nat) (i_length : Int32) (i_keptMany : Int32) (i_undoMany : Int32) (i_seenMany : Int32) (i_pathMany : Int32) (i_place : Int32) (i_found : Int32) (i_walkers : Int32) (a_persons : Nat → Int32) : va_W := [(h, .inr (8, [.int i_length, .ref h_text, .ref h_many, .ref h_ones, .ref h_others, .ref h_kinds, .ref h_firsts, .ref h_persons, .ref h_gone, .ref h_at, .ref h_fines, .int i_keptMany, .int i_undoMany, .ref h_undos, .int i_seenMany, .ref h_seenOf, .ref h_seenOpen, .int i_pathMany, .ref h_path, .int i_place, .ref h_told, .ref h_counts, .ref h_spots, .ref h_far, .ref h_row, .ref h_begins, .int i_found, .int i_walkers, .ref h_ways, .ref h_next])), (h_persons, .inl (cyI, 2, .inl a_persons))]
abbrev qX8_isPerson (dC : Nat → ClassId) (dI : Nat → Nat → Nat) (cyI cyJ cyZ : ClassId) (h h_text h_many h_ones h_others h_kinds h_firsts h_persons h_gone h_at h_fines h_undos h_seenOf h_seenOpen h_path h_told h_counts h_spots h_far h_row h_begins h_ways h_next : Nat) (i_length : Int32) (i_keptMany : Int32) (i_undoMany : Int32) (i_seenMany : Int32) (i_pathMany : Int32) (i_place : Int32) (i_found : Int32) (i_walkers : Int32) (a_persons : Nat → Int32) (post : Int32 → Prop) (A : Nat → Prop) : Array Value → State → Outcome → State → Prop := (va_Qi (fun (r : Int32) (u : Unit) => (r = 0 ∨ r = 1) ∧ post r) (bW (dC, dI) (tyG cyI cyJ cyZ) A (fun _ : Unit => (wX8_isPerson cyI cyJ cyZ h h_text h_many h_ones h_others h_kinds h_firsts h_persons h_gone h_at h_fines h_undos h_seenOf h_seenOpen h_path h_told h_counts h_spots h_far h_row h_begins h_ways h_next i_length i_keptMany i_undoMany i_seenMany i_pathMany i_place i_found i_walkers a_persons))) A)
set_option maxHeartbeats 4000000 in
set_option maxRecDepth 100000 in
theorem mX8_isPerson (l : Launch) (dC : Nat → ClassId) (dI : Nat → Nat → Nat) (cyI cyJ cyZ : ClassId) (h h_text h_many h_ones h_others h_kinds h_firsts h_persons h_gone h_at h_fines h_undos h_seenOf h_seenOpen h_path h_told h_counts h_spots h_far h_row h_begins h_ways h_next : Nat) (sz : Nat) (i_length : Int32) (i_keptMany : Int32) (i_undoMany : Int32) (i_seenMany : Int32) (i_pathMany : Int32) (i_place : Int32) (i_found : Int32) (i_walkers : Int32) (a_persons : Nat → Int32) (x1 : Int32) (post : Int32 → Prop) (hwp : PX8_isPerson x1 a_persons post) : Met l yX8_isPerson wsX8_isPerson ({ frames := 1, cells := 0, slots := 0, locals := 25 } : Room) (va_Pc [.ref h, .int x1] (pcW (dC, dI) sz (wX8_isPerson cyI cyJ cyZ h h_text h_many h_ones h_others h_kinds h_firsts h_persons h_gone h_at h_fines h_undos h_seenOf h_seenOpen h_path h_told h_counts h_spots h_far h_row h_begins h_ways h_next i_length i_keptMany i_undoMany i_seenMany i_pathMany i_place i_found i_walkers a_persons) (tyG cyI cyJ cyZ))) (qX8_isPerson dC dI cyI cyJ cyZ h h_text h_many h_ones h_others h_kinds h_firsts h_persons h_gone h_at h_fines h_undos h_seenOf h_seenOpen h_path h_told h_counts h_spots h_far h_row h_begins h_ways h_next i_length i_keptMany i_undoMany i_seenMany i_pathMany i_place i_found i_walkers a_persons post (va_A (wX8_isPerson cyI cyJ cyZ h h_text h_many h_ones h_others h_kinds h_firsts h_persons h_gone h_at h_fines h_undos h_seenOf h_seenOpen h_path h_told h_counts h_spots h_far h_row h_begins h_ways h_next i_length i_keptMany i_undoMany i_seenMany i_pathMany i_place i_found i_walkers a_persons) sz)) 0 0 (va_A (wX8_isPerson cyI cyJ cyZ h h_text h_many h_ones h_others h_kinds h_firsts h_persons h_gone h_at h_fines h_undos h_seenOf h_seenOpen h_path h_told h_counts h_spots h_far h_row h_begins h_ways h_next i_length i_keptMany i_undoMany i_seenMany i_pathMany i_place i_found i_walkers a_persons) sz) := by
  refine Met.ofW (cc := cX8_isPerson) (maxL := 2) (ret := some .boolean) (by decide) rfl ?_
  intro p e s m args below meth c s₁ B hml hv
  obtain ⟨rfl, hsz, hP, hK, hD0, hN⟩ := hv
  have hx := B.exec
  have hb := B.bytes
  have hr := B.returns
  have hts := atoms_spec (ws := wsX8_isPerson) B.pre
  have hown : s.vm.findClass RX8 = some m.cls := findClass_of_methodNamed B.named
  have hlocks := B.notSynchronized
  subst hsz
  have hD := hD0.self (sz := s.heap.size)
  generalize hAe : va_A (wX8_isPerson cyI cyJ cyZ h h_text h_many h_ones h_others h_kinds h_firsts h_persons h_gone h_at h_fines h_undos h_seenOf h_seenOpen h_path h_told h_counts h_spots h_far h_row h_begins h_ways h_next i_length i_keptMany i_undoMany i_seenMany i_pathMany i_place i_found i_walkers a_persons) s.heap.size = A at hD ⊢
  have hA : ∀ q : Nat, s.heap.size ≤ q → A q := fun q h => by rw [← hAe]; exact Or.inr h
  have hW : Wd (dC, dI) A s.heap (wX8_isPerson cyI cyJ cyZ h h_text h_many h_ones h_others h_kinds h_firsts h_persons h_gone h_at h_fines h_undos h_seenOf h_seenOpen h_path h_told h_counts h_spots h_far h_row h_begins h_ways h_next i_length i_keptMany i_undoMany i_seenMany i_pathMany i_place i_found i_walkers a_persons) s.heap [] := ⟨hP, hD, va_S.rf⟩
  have hw := hwp
  have hiX8 : ∀ w ∈ u_ws RX8 TX8 30, w ∈ wsX8_isPerson := fun _ h => List.mem_cons_of_mem _ (List.mem_append_right _ h)
  have k_0 := hts (.fieldLink RX8 28 "OddLetsInModel" "persons" "[I") (List.mem_of_getElem? (i := 1) rfl)
  have hl := lv_entry ([.ref h, .int x1]) (n := 2) (Nat.le_of_ble_eq_true rfl)
  rw [lg_entry_eq]
  generalize (lg_sl ([.ref h, .int x1]) ++ List.replicate (2 - (lg_sl ([.ref h, .int x1])).length) Slot.unset).toArray = ls at hl ⊢
  have hl : lv_has ls 2 [(0, .ref h), (1, .int x1)] := hl
  refine lv_iload_n hx hb dX8_isPerson_0 rfl (lv_at hl 1 rfl) ?_
  refine lv_i2l hx hb dX8_isPerson_1 rfl ?_
  refine lv_lconst (v := 0) hx hb dX8_isPerson_2 (by decide) ?_
  refine lv_aload_n hx hb dX8_isPerson_3 rfl (lv_at hl 0 rfl) ?_
  refine zw_get (ci := 8) (C := RX8) (T := TX8) (N := 30) (v := .ref h_persons) hx hb hts hiX8 hown hK hW 0 rfl rfl 7 (by decide) rfl k_0 dX8_isPerson_4 ?_
  refine lv_iconst (v := 0) hx hb dX8_isPerson_7 (by decide) ?_
  refine zw_iald hx hb hK hW 1 rfl rfl hw.1 dX8_isPerson_8 ?_
  replace hw := hw.2
  refine lv_iconst (v := 1) hx hb dX8_isPerson_9 (by decide) ?_
  refine lv_isub hx hb dX8_isPerson_10 ?_
  refine lv_i2l hx hb dX8_isPerson_11 rfl ?_
  refine zw_Si ⟨hx, hb, hml, hown, hts⟩ hK hN hA hW [.long ((x1).toInt64), .long 0, .long ((((a_persons (0 : Int32).toNatClampNeg) - 1)).toInt64)] [] [] [0, 1] [0, 1] (fun _ => (wX8_isPerson cyI cyJ cyZ h h_text h_many h_ones h_others h_kinds h_firsts h_persons h_gone h_at h_fines h_undos h_seenOf h_seenOpen h_path h_told h_counts h_spots h_far h_row h_begins h_ways h_next i_length i_keptMany i_undoMany i_seenMany i_pathMany i_place i_found i_walkers a_persons)) (mX8_in l dC dI cyI cyJ cyZ _ ((x1).toInt64) 0 ((((a_persons (0 : Int32).toNatClampNeg) - 1)).toInt64) _ hw) (va_cwS 3 hts gX8_isPerson_X8_in rfl rfl rfl (by decide +kernel) ⟨Nat.le_of_ble_eq_true rfl, Nat.le_of_ble_eq_true rfl⟩) rfl rfl rfl rfl (by decide) rfl (fun _ => rfl) rfl hl.1 rfl (Nat.le_of_ble_eq_true rfl) (Nat.le_of_ble_eq_true rfl) (Nat.le_of_ble_eq_true rfl) dX8_isPerson_12 (fun r_1 u H locs hw hW => ?_)
  obtain ⟨br_1, hw⟩ := hw
  refine zw_zret (S := Unit) (post := fun r u => post r) () hx hb hr hlocks hK hW br_1 hw ?_ dX8_isPerson_15
  rfl
abbrev wX8_layCounts (cyI cyJ cyZ : ClassId) (h h_text h_many h_ones h_others h_kinds h_firsts h_persons h_gone h_at h_fines h_undos h_seenOf h_seenOpen h_path h_told h_counts h_spots h_far h_row h_begins h_ways h_next : Nat) (i_length : Int32) (i_keptMany : Int32) (i_undoMany : Int32) (i_seenMany : Int32) (i_pathMany : Int32) (i_place : Int32) (i_found : Int32) (i_walkers : Int32) (a_gone : Nat → Int32) (a_counts : Nat → Int32) : va_W := [(h, .inr (8, [.int i_length, .ref h_text, .ref h_many, .ref h_ones, .ref h_others, .ref h_kinds, .ref h_firsts, .ref h_persons, .ref h_gone, .ref h_at, .ref h_fines, .int i_keptMany, .int i_undoMany, .ref h_undos, .int i_seenMany, .ref h_seenOf, .ref h_seenOpen, .int i_pathMany, .ref h_path, .int i_place, .ref h_told, .ref h_counts, .ref h_spots, .ref h_far, .ref h_row, .ref h_begins, .int i_found, .int i_walkers, .ref h_ways, .ref h_next])), (h_gone, .inl (cyI, 15, .inl a_gone)), (h_counts, .inl (cyI, 5, .inl a_counts))]
abbrev qX8_layCounts (dC : Nat → ClassId) (dI : Nat → Nat → Nat) (cyI cyJ cyZ : ClassId) (h h_text h_many h_ones h_others h_kinds h_firsts h_persons h_gone h_at h_fines h_undos h_seenOf h_seenOpen h_path h_told h_counts h_spots h_far h_row h_begins h_ways h_next : Nat) (i_length : Int32) (i_keptMany : Int32) (i_undoMany : Int32) (i_seenMany : Int32) (i_pathMany : Int32) (i_place : Int32) (i_found : Int32) (i_walkers : Int32) (a_gone : Nat → Int32) (a_counts : Nat → Int32) (post : (Nat → Int32) → Prop) (A : Nat → Prop) : Array Value → State → Outcome → State → Prop := (va_Qv (fun (u : (Nat → Int32)) => post u) (bW (dC, dI) (tyG cyI cyJ cyZ) A (fun u : (Nat → Int32) => (wX8_layCounts cyI cyJ cyZ h h_text h_many h_ones h_others h_kinds h_firsts h_persons h_gone h_at h_fines h_undos h_seenOf h_seenOpen h_path h_told h_counts h_spots h_far h_row h_begins h_ways h_next i_length i_keptMany i_undoMany i_seenMany i_pathMany i_place i_found i_walkers a_gone u))) A)
set_option maxHeartbeats 4000000 in
set_option maxRecDepth 100000 in
theorem mX8_layCounts (l : Launch) (dC : Nat → ClassId) (dI : Nat → Nat → Nat) (cyI cyJ cyZ : ClassId) (h h_text h_many h_ones h_others h_kinds h_firsts h_persons h_gone h_at h_fines h_undos h_seenOf h_seenOpen h_path h_told h_counts h_spots h_far h_row h_begins h_ways h_next : Nat) (sz : Nat) (i_length : Int32) (i_keptMany : Int32) (i_undoMany : Int32) (i_seenMany : Int32) (i_pathMany : Int32) (i_place : Int32) (i_found : Int32) (i_walkers : Int32) (a_gone : Nat → Int32) (a_counts : Nat → Int32) (post : (Nat → Int32) → Prop) (hwp : PX8_layCounts a_gone a_counts post) : Met l yX8_layCounts wsX8_layCounts ({ frames := 0, cells := 0, slots := 0, locals := 0 } : Room) (va_Pc [.ref h] (pcW (dC, dI) sz (wX8_layCounts cyI cyJ cyZ h h_text h_many h_ones h_others h_kinds h_firsts h_persons h_gone h_at h_fines h_undos h_seenOf h_seenOpen h_path h_told h_counts h_spots h_far h_row h_begins h_ways h_next i_length i_keptMany i_undoMany i_seenMany i_pathMany i_place i_found i_walkers a_gone a_counts) (tyG cyI cyJ cyZ))) (qX8_layCounts dC dI cyI cyJ cyZ h h_text h_many h_ones h_others h_kinds h_firsts h_persons h_gone h_at h_fines h_undos h_seenOf h_seenOpen h_path h_told h_counts h_spots h_far h_row h_begins h_ways h_next i_length i_keptMany i_undoMany i_seenMany i_pathMany i_place i_found i_walkers a_gone a_counts post (va_A (wX8_layCounts cyI cyJ cyZ h h_text h_many h_ones h_others h_kinds h_firsts h_persons h_gone h_at h_fines h_undos h_seenOf h_seenOpen h_path h_told h_counts h_spots h_far h_row h_begins h_ways h_next i_length i_keptMany i_undoMany i_seenMany i_pathMany i_place i_found i_walkers a_gone a_counts) sz)) 0 0 (va_A (wX8_layCounts cyI cyJ cyZ h h_text h_many h_ones h_others h_kinds h_firsts h_persons h_gone h_at h_fines h_undos h_seenOf h_seenOpen h_path h_told h_counts h_spots h_far h_row h_begins h_ways h_next i_length i_keptMany i_undoMany i_seenMany i_pathMany i_place i_found i_walkers a_gone a_counts) sz) := by
  refine Met.ofW (cc := cX8_layCounts) (maxL := 2) (ret := none) (by decide) rfl ?_
  intro p e s m args below meth c s₁ B hml hv
  obtain ⟨rfl, hsz, hP, hK, hD0, hN⟩ := hv
  have hx := B.exec
  have hb := B.bytes
  have hr := B.returns
  have hts := atoms_spec (ws := wsX8_layCounts) B.pre
  have hown : s.vm.findClass RX8 = some m.cls := findClass_of_methodNamed B.named
  have hlocks := B.notSynchronized
  subst hsz
  have hD := hD0.self (sz := s.heap.size)
  generalize hAe : va_A (wX8_layCounts cyI cyJ cyZ h h_text h_many h_ones h_others h_kinds h_firsts h_persons h_gone h_at h_fines h_undos h_seenOf h_seenOpen h_path h_told h_counts h_spots h_far h_row h_begins h_ways h_next i_length i_keptMany i_undoMany i_seenMany i_pathMany i_place i_found i_walkers a_gone a_counts) s.heap.size = A at hD ⊢
  have hA : ∀ q : Nat, s.heap.size ≤ q → A q := fun q h => by rw [← hAe]; exact Or.inr h
  have hW : Wd (dC, dI) A s.heap (wX8_layCounts cyI cyJ cyZ h h_text h_many h_ones h_others h_kinds h_firsts h_persons h_gone h_at h_fines h_undos h_seenOf h_seenOpen h_path h_told h_counts h_spots h_far h_row h_begins h_ways h_next i_length i_keptMany i_undoMany i_seenMany i_pathMany i_place i_found i_walkers a_gone a_counts) s.heap [] := ⟨hP, hD, va_S.rf⟩
  have hw := hwp
  have hiX8 : ∀ w ∈ u_ws RX8 TX8 30, w ∈ wsX8_layCounts := fun _ h => List.mem_cons_of_mem _ (List.mem_append_right _ h)
  have k_0 := hts (.fieldLink RX8 55 "OddLetsInModel" "counts" "[I") (List.mem_of_getElem? (i := 1) rfl)
  have k_1 := hts (.fieldLink RX8 31 "OddLetsInModel" "gone" "[I") (List.mem_of_getElem? (i := 2) rfl)
  have W_2 : ∀ (n_2 : Nat) (x1 : Int32) (a_counts : Nat → Int32) (H : Heap) (locs : List Loc) (ls : Array Slot), Wd (dC, dI) A s.heap (wX8_layCounts cyI cyJ cyZ h h_text h_many h_ones h_others h_kinds h_firsts h_persons h_gone h_at h_fines h_undos h_seenOf h_seenOpen h_path h_told h_counts h_spots h_far h_row h_begins h_ways h_next i_length i_keptMany i_undoMany i_seenMany i_pathMany i_place i_found i_walkers a_gone a_counts) H locs → lv_has ls 2 [(0, .ref h), (1, .int x1)] → PX8_layCounts_2 post a_gone n_2 x1 a_counts → W p l e (({ frames := 0, cells := 0, slots := 0, locals := 0 } : Room)) s m (([.ref h] : List Value).toArray) below meth c H locs 0 0 (MQ below (qX8_layCounts dC dI cyI cyJ cyZ h h_text h_many h_ones h_others h_kinds h_firsts h_persons h_gone h_at h_fines h_undos h_seenOf h_seenOpen h_path h_told h_counts h_spots h_far h_row h_begins h_ways h_next i_length i_keptMany i_undoMany i_seenMany i_pathMany i_place i_found i_walkers a_gone a_counts post A) (([.ref h] : List Value).toArray) s 0 0 A) (F0 m 2 ls []) := by
    intro n_2
    induction n_2 with
    | zero =>
      intro x1 a_counts H locs ls hW hl hw
      exact False.elim hw
    | succ n_2 ih_2 =>
      intro x1 a_counts H locs ls hW hl hw
      refine lv_iload_n hx hb dX8_layCounts_2 rfl (lv_at hl 1 rfl) ?_
      refine lv_iconst (v := 5) hx hb dX8_layCounts_3 (by decide) ?_
      refine lv_icmp_ge (tgt := 25) hx hb dX8_layCounts_4 (by decide) (fun c_1 => ?_) (fun c_1 => ?_)
      · replace hw := hw.1 c_1
        refine zw_vret (S := (Nat → Int32)) (post := fun u => post u) a_counts hx hb hr hlocks hK hW hw ?_ dX8_layCounts_25
        rfl
      · replace hw := hw.2 c_1
        refine lv_aload_n hx hb dX8_layCounts_7 rfl (lv_at hl 0 rfl) ?_
        refine zw_get (ci := 8) (C := RX8) (T := TX8) (N := 30) (v := .ref h_counts) hx hb hts hiX8 hown hK hW 0 rfl rfl 21 (by decide) rfl k_0 dX8_layCounts_8 ?_
        refine lv_iload_n hx hb dX8_layCounts_11 rfl (lv_at hl 1 rfl) ?_
        refine lv_aload_n hx hb dX8_layCounts_12 rfl (lv_at hl 0 rfl) ?_
        refine zw_get (ci := 8) (C := RX8) (T := TX8) (N := 30) (v := .ref h_gone) hx hb hts hiX8 hown hK hW 0 rfl rfl 8 (by decide) rfl k_1 dX8_layCounts_13 ?_
        refine lv_iload_n hx hb dX8_layCounts_16 rfl (lv_at hl 1 rfl) ?_
        refine zw_iald hx hb hK hW 1 rfl rfl hw.1 dX8_layCounts_17 ?_
        replace hw := hw.2
        refine lv_topi (fun t_2 et_2 => ?_)
        replace hw := hw t_2 et_2
        refine zw_iast hx hb hK hW 2 rfl rfl hw.1 (w2 := fun a_counts_3 => (wX8_layCounts cyI cyJ cyZ h h_text h_many h_ones h_others h_kinds h_firsts h_persons h_gone h_at h_fines h_undos h_seenOf h_seenOpen h_path h_told h_counts h_spots h_far h_row h_begins h_ways h_next i_length i_keptMany i_undoMany i_seenMany i_pathMany i_place i_found i_walkers a_gone a_counts_3)) (fun _ => rfl) dX8_layCounts_18 (fun a_counts_3 H locs ea_counts_3 hW => ?_)
        replace hw := hw.2 a_counts_3 ea_counts_3
        obtain ⟨x1_4, ex1_4⟩ : ∃ y : Int32, y = x1 + 1 := ⟨_, rfl⟩
        replace hw := hw x1_4 ex1_4
        refine lv_iinc (v := x1_4) (lv' := [(1, .int x1_4), (0, .ref h)]) hx hb dX8_layCounts_19 hl (k := 1) rfl (by rw [ex1_4]; rfl) (by decide) rfl (fun ls hl => ?_)
        refine lv_goto (tgt := 2) hx hb dX8_layCounts_22 (by decide) ?_
        exact ih_2 x1_4 a_counts_3 _ _ _ hW (lv_sub hl [1, 0] rfl) hw
  have hl := lv_entry ([.ref h]) (n := 2) (Nat.le_of_ble_eq_true rfl)
  rw [lg_entry_eq]
  generalize (lg_sl ([.ref h]) ++ List.replicate (2 - (lg_sl ([.ref h])).length) Slot.unset).toArray = ls at hl ⊢
  have hl : lv_has ls 2 [(0, .ref h)] := hl
  refine lv_iconst (v := 0) hx hb dX8_layCounts_0 (by decide) ?_
  refine lv_istore_n (lv' := [(1, .int 0), (0, .ref h)]) hx hb dX8_layCounts_1 rfl hl (by decide) rfl (fun ls hl => ?_)
  obtain ⟨n_2, hw⟩ := hw
  exact W_2  n_2 0 a_counts _ _ _ hW (lv_sub hl [1, 0] rfl) hw
abbrev wX8_layNow (cyI cyJ cyZ : ClassId) (h h_text h_many h_ones h_others h_kinds h_firsts h_persons h_gone h_at h_fines h_undos h_seenOf h_seenOpen h_path h_told h_counts h_spots h_far h_row h_begins h_ways h_next : Nat) (i_length : Int32) (i_keptMany : Int32) (i_undoMany : Int32) (i_seenMany : Int32) (i_pathMany : Int32) (i_place : Int32) (i_found : Int32) (i_walkers : Int32) (a_gone : Nat → Int32) (a_at : Nat → Int32) (a_counts : Nat → Int32) (a_spots : Nat → Int32) : va_W := [(h, .inr (8, [.int i_length, .ref h_text, .ref h_many, .ref h_ones, .ref h_others, .ref h_kinds, .ref h_firsts, .ref h_persons, .ref h_gone, .ref h_at, .ref h_fines, .int i_keptMany, .int i_undoMany, .ref h_undos, .int i_seenMany, .ref h_seenOf, .ref h_seenOpen, .int i_pathMany, .ref h_path, .int i_place, .ref h_told, .ref h_counts, .ref h_spots, .ref h_far, .ref h_row, .ref h_begins, .int i_found, .int i_walkers, .ref h_ways, .ref h_next])), (h_gone, .inl (cyI, 15, .inl a_gone)), (h_at, .inl (cyI, 9, .inl a_at)), (h_counts, .inl (cyI, 5, .inl a_counts)), (h_spots, .inl (cyI, 3, .inl a_spots))]
abbrev qX8_layNow (dC : Nat → ClassId) (dI : Nat → Nat → Nat) (cyI cyJ cyZ : ClassId) (h h_text h_many h_ones h_others h_kinds h_firsts h_persons h_gone h_at h_fines h_undos h_seenOf h_seenOpen h_path h_told h_counts h_spots h_far h_row h_begins h_ways h_next : Nat) (i_length : Int32) (i_keptMany : Int32) (i_undoMany : Int32) (i_seenMany : Int32) (i_pathMany : Int32) (i_place : Int32) (i_found : Int32) (i_walkers : Int32) (a_gone : Nat → Int32) (a_at : Nat → Int32) (a_counts : Nat → Int32) (a_spots : Nat → Int32) (post : (Nat → Int32) → (Nat → Int32) → Prop) (A : Nat → Prop) : Array Value → State → Outcome → State → Prop := (va_Qv (fun (u : (Nat → Int32) × (Nat → Int32)) => post u.1 u.2) (bW (dC, dI) (tyG cyI cyJ cyZ) A (fun u : (Nat → Int32) × (Nat → Int32) => (wX8_layNow cyI cyJ cyZ h h_text h_many h_ones h_others h_kinds h_firsts h_persons h_gone h_at h_fines h_undos h_seenOf h_seenOpen h_path h_told h_counts h_spots h_far h_row h_begins h_ways h_next i_length i_keptMany i_undoMany i_seenMany i_pathMany i_place i_found i_walkers a_gone a_at (u.1) (u.2)))) A)
set_option maxHeartbeats 4000000 in
set_option maxRecDepth 100000 in
theorem mX8_layNow (l : Launch) (dC : Nat → ClassId) (dI : Nat → Nat → Nat) (cyI cyJ cyZ : ClassId) (h h_text h_many h_ones h_others h_kinds h_firsts h_persons h_gone h_at h_fines h_undos h_seenOf h_seenOpen h_path h_told h_counts h_spots h_far h_row h_begins h_ways h_next : Nat) (sz : Nat) (i_length : Int32) (i_keptMany : Int32) (i_undoMany : Int32) (i_seenMany : Int32) (i_pathMany : Int32) (i_place : Int32) (i_found : Int32) (i_walkers : Int32) (a_gone : Nat → Int32) (a_at : Nat → Int32) (a_counts : Nat → Int32) (a_spots : Nat → Int32) (post : (Nat → Int32) → (Nat → Int32) → Prop) (hwp : PX8_layNow a_gone a_at a_counts a_spots post) : Met l yX8_layNow wsX8_layNow ({ frames := 1, cells := 0, slots := 0, locals := 21 } : Room) (va_Pc [.ref h] (pcW (dC, dI) sz (wX8_layNow cyI cyJ cyZ h h_text h_many h_ones h_others h_kinds h_firsts h_persons h_gone h_at h_fines h_undos h_seenOf h_seenOpen h_path h_told h_counts h_spots h_far h_row h_begins h_ways h_next i_length i_keptMany i_undoMany i_seenMany i_pathMany i_place i_found i_walkers a_gone a_at a_counts a_spots) (tyG cyI cyJ cyZ))) (qX8_layNow dC dI cyI cyJ cyZ h h_text h_many h_ones h_others h_kinds h_firsts h_persons h_gone h_at h_fines h_undos h_seenOf h_seenOpen h_path h_told h_counts h_spots h_far h_row h_begins h_ways h_next i_length i_keptMany i_undoMany i_seenMany i_pathMany i_place i_found i_walkers a_gone a_at a_counts a_spots post (va_A (wX8_layNow cyI cyJ cyZ h h_text h_many h_ones h_others h_kinds h_firsts h_persons h_gone h_at h_fines h_undos h_seenOf h_seenOpen h_path h_told h_counts h_spots h_far h_row h_begins h_ways h_next i_length i_keptMany i_undoMany i_seenMany i_pathMany i_place i_found i_walkers a_gone a_at a_counts a_spots) sz)) 0 0 (va_A (wX8_layNow cyI cyJ cyZ h h_text h_many h_ones h_others h_kinds h_firsts h_persons h_gone h_at h_fines h_undos h_seenOf h_seenOpen h_path h_told h_counts h_spots h_far h_row h_begins h_ways h_next i_length i_keptMany i_undoMany i_seenMany i_pathMany i_place i_found i_walkers a_gone a_at a_counts a_spots) sz) := by
  refine Met.ofW (cc := cX8_layNow) (maxL := 2) (ret := none) (by decide) rfl ?_
  intro p e s m args below meth c s₁ B hml hv
  obtain ⟨rfl, hsz, hP, hK, hD0, hN⟩ := hv
  have hx := B.exec
  have hb := B.bytes
  have hr := B.returns
  have hts := atoms_spec (ws := wsX8_layNow) B.pre
  have hown : s.vm.findClass RX8 = some m.cls := findClass_of_methodNamed B.named
  have hlocks := B.notSynchronized
  subst hsz
  have hD := hD0.self (sz := s.heap.size)
  generalize hAe : va_A (wX8_layNow cyI cyJ cyZ h h_text h_many h_ones h_others h_kinds h_firsts h_persons h_gone h_at h_fines h_undos h_seenOf h_seenOpen h_path h_told h_counts h_spots h_far h_row h_begins h_ways h_next i_length i_keptMany i_undoMany i_seenMany i_pathMany i_place i_found i_walkers a_gone a_at a_counts a_spots) s.heap.size = A at hD ⊢
  have hA : ∀ q : Nat, s.heap.size ≤ q → A q := fun q h => by rw [← hAe]; exact Or.inr h
  have hW : Wd (dC, dI) A s.heap (wX8_layNow cyI cyJ cyZ h h_text h_many h_ones h_others h_kinds h_firsts h_persons h_gone h_at h_fines h_undos h_seenOf h_seenOpen h_path h_told h_counts h_spots h_far h_row h_begins h_ways h_next i_length i_keptMany i_undoMany i_seenMany i_pathMany i_place i_found i_walkers a_gone a_at a_counts a_spots) s.heap [] := ⟨hP, hD, va_S.rf⟩
  have hw := hwp
  have hiX8 : ∀ w ∈ u_ws RX8 TX8 30, w ∈ wsX8_layNow := fun _ h => List.mem_cons_of_mem _ (List.mem_append_right _ h)
  have k_0 := hts (.fieldLink RX8 58 "OddLetsInModel" "spots" "[I") (List.mem_of_getElem? (i := 1) rfl)
  have k_1 := hts (.fieldLink RX8 34 "OddLetsInModel" "at" "[I") (List.mem_of_getElem? (i := 2) rfl)
  have W_6 : ∀ (a_counts : Nat → Int32) (n_6 : Nat) (x1 : Int32) (a_spots : Nat → Int32) (H : Heap) (locs : List Loc) (ls : Array Slot), Wd (dC, dI) A s.heap (wX8_layNow cyI cyJ cyZ h h_text h_many h_ones h_others h_kinds h_firsts h_persons h_gone h_at h_fines h_undos h_seenOf h_seenOpen h_path h_told h_counts h_spots h_far h_row h_begins h_ways h_next i_length i_keptMany i_undoMany i_seenMany i_pathMany i_place i_found i_walkers a_gone a_at a_counts a_spots) H locs → lv_has ls 2 [(0, .ref h), (1, .int x1)] → PX8_layNow_6 post a_at a_counts n_6 x1 a_spots → W p l e (({ frames := 1, cells := 0, slots := 0, locals := 21 } : Room)) s m (([.ref h] : List Value).toArray) below meth c H locs 0 0 (MQ below (qX8_layNow dC dI cyI cyJ cyZ h h_text h_many h_ones h_others h_kinds h_firsts h_persons h_gone h_at h_fines h_undos h_seenOf h_seenOpen h_path h_told h_counts h_spots h_far h_row h_begins h_ways h_next i_length i_keptMany i_undoMany i_seenMany i_pathMany i_place i_found i_walkers a_gone a_at a_counts a_spots post A) (([.ref h] : List Value).toArray) s 0 0 A) (F0 m 6 ls []) := by
    intro a_counts n_6
    induction n_6 with
    | zero =>
      intro x1 a_spots H locs ls hW hl hw
      exact False.elim hw
    | succ n_6 ih_6 =>
      intro x1 a_spots H locs ls hW hl hw
      refine lv_iload_n hx hb dX8_layNow_6 rfl (lv_at hl 1 rfl) ?_
      refine lv_iconst (v := 3) hx hb dX8_layNow_7 (by decide) ?_
      refine lv_icmp_ge (tgt := 29) hx hb dX8_layNow_8 (by decide) (fun c_1 => ?_) (fun c_1 => ?_)
      · replace hw := hw.1 c_1
        refine zw_vret (S := (Nat → Int32) × (Nat → Int32)) (post := fun u => post u.1 u.2) (a_counts, a_spots) hx hb hr hlocks hK hW hw ?_ dX8_layNow_29
        rfl
      · replace hw := hw.2 c_1
        refine lv_aload_n hx hb dX8_layNow_11 rfl (lv_at hl 0 rfl) ?_
        refine zw_get (ci := 8) (C := RX8) (T := TX8) (N := 30) (v := .ref h_spots) hx hb hts hiX8 hown hK hW 0 rfl rfl 22 (by decide) rfl k_0 dX8_layNow_12 ?_
        refine lv_iload_n hx hb dX8_layNow_15 rfl (lv_at hl 1 rfl) ?_
        refine lv_aload_n hx hb dX8_layNow_16 rfl (lv_at hl 0 rfl) ?_
        refine zw_get (ci := 8) (C := RX8) (T := TX8) (N := 30) (v := .ref h_at) hx hb hts hiX8 hown hK hW 0 rfl rfl 9 (by decide) rfl k_1 dX8_layNow_17 ?_
        refine lv_iload_n hx hb dX8_layNow_20 rfl (lv_at hl 1 rfl) ?_
        refine zw_iald hx hb hK hW 2 rfl rfl hw.1 dX8_layNow_21 ?_
        replace hw := hw.2
        refine lv_topi (fun t_2 et_2 => ?_)
        replace hw := hw t_2 et_2
        refine zw_iast hx hb hK hW 4 rfl rfl hw.1 (w2 := fun a_spots_3 => (wX8_layNow cyI cyJ cyZ h h_text h_many h_ones h_others h_kinds h_firsts h_persons h_gone h_at h_fines h_undos h_seenOf h_seenOpen h_path h_told h_counts h_spots h_far h_row h_begins h_ways h_next i_length i_keptMany i_undoMany i_seenMany i_pathMany i_place i_found i_walkers a_gone a_at a_counts a_spots_3)) (fun _ => rfl) dX8_layNow_22 (fun a_spots_3 H locs ea_spots_3 hW => ?_)
        replace hw := hw.2 a_spots_3 ea_spots_3
        obtain ⟨x1_4, ex1_4⟩ : ∃ y : Int32, y = x1 + 1 := ⟨_, rfl⟩
        replace hw := hw x1_4 ex1_4
        refine lv_iinc (v := x1_4) (lv' := [(1, .int x1_4), (0, .ref h)]) hx hb dX8_layNow_23 hl (k := 1) rfl (by rw [ex1_4]; rfl) (by decide) rfl (fun ls hl => ?_)
        refine lv_goto (tgt := 6) hx hb dX8_layNow_26 (by decide) ?_
        exact ih_6 x1_4 a_spots_3 _ _ _ hW (lv_sub hl [1, 0] rfl) hw
  have hl := lv_entry ([.ref h]) (n := 2) (Nat.le_of_ble_eq_true rfl)
  rw [lg_entry_eq]
  generalize (lg_sl ([.ref h]) ++ List.replicate (2 - (lg_sl ([.ref h])).length) Slot.unset).toArray = ls at hl ⊢
  have hl : lv_has ls 2 [(0, .ref h)] := hl
  refine lv_aload_n hx hb dX8_layNow_0 rfl (lv_at hl 0 rfl) ?_
  refine zw_Vv ⟨hx, hb, hml, hown, hts⟩ hK hN hA hW 0 rfl (T := TX8) (N := 30) rfl [] [] [0, 1, 3] [2, 4] [2, 3, 0, 4, 1] (fun u => (wX8_layNow cyI cyJ cyZ h h_text h_many h_ones h_others h_kinds h_firsts h_persons h_gone h_at h_fines h_undos h_seenOf h_seenOpen h_path h_told h_counts h_spots h_far h_row h_begins h_ways h_next i_length i_keptMany i_undoMany i_seenMany i_pathMany i_place i_found i_walkers a_gone a_at u a_spots)) (mX8_layCounts l dC dI cyI cyJ cyZ h h_text h_many h_ones h_others h_kinds h_firsts h_persons h_gone h_at h_fines h_undos h_seenOf h_seenOpen h_path h_told h_counts h_spots h_far h_row h_begins h_ways h_next _ i_length i_keptMany i_undoMany i_seenMany i_pathMany i_place i_found i_walkers a_gone a_counts _ hw) (cwV 0 hts gX8_layNow_X8_layCounts rfl rfl rfl (by decide +kernel) ⟨Nat.le_of_ble_eq_true rfl, Nat.le_of_ble_eq_true rfl⟩) rfl rfl rfl rfl (by decide) rfl (fun _ => rfl) rfl hl.1 rfl (Nat.le_of_ble_eq_true rfl) (Nat.le_of_ble_eq_true rfl) (Nat.le_of_ble_eq_true rfl) dX8_layNow_1 (fun u H locs hw hW => ?_)
  obtain ⟨a_counts_5, rfl⟩ : ∃ z, z = u := ⟨_, rfl⟩
  replace hW : Wd (dC, dI) A s.heap (wX8_layNow cyI cyJ cyZ h h_text h_many h_ones h_others h_kinds h_firsts h_persons h_gone h_at h_fines h_undos h_seenOf h_seenOpen h_path h_told h_counts h_spots h_far h_row h_begins h_ways h_next i_length i_keptMany i_undoMany i_seenMany i_pathMany i_place i_found i_walkers a_gone a_at a_counts_5 a_spots) H locs := hW
  refine lv_iconst (v := 0) hx hb dX8_layNow_4 (by decide) ?_
  refine lv_istore_n (lv' := [(1, .int 0), (0, .ref h)]) hx hb dX8_layNow_5 rfl hl (by decide) rfl (fun ls hl => ?_)
  obtain ⟨n_6, hw⟩ := hw
  exact W_6 a_counts_5 n_6 0 a_spots _ _ _ hW (lv_sub hl [1, 0] rfl) hw
abbrev wX8_isOpen (cyI cyJ cyZ : ClassId) (h h_text h_many h_ones h_others h_kinds h_firsts h_persons h_gone h_at h_fines h_undos h_seenOf h_seenOpen h_path h_told h_counts h_spots h_far h_row h_begins h_ways h_next : Nat) (i_length : Int32) (i_keptMany : Int32) (i_undoMany : Int32) (i_seenMany : Int32) (i_pathMany : Int32) (i_place : Int32) (i_found : Int32) (i_walkers : Int32) (a_kinds : Nat → Int32) (a_counts : Nat → Int32) : va_W := [(h, .inr (8, [.int i_length, .ref h_text, .ref h_many, .ref h_ones, .ref h_others, .ref h_kinds, .ref h_firsts, .ref h_persons, .ref h_gone, .ref h_at, .ref h_fines, .int i_keptMany, .int i_undoMany, .ref h_undos, .int i_seenMany, .ref h_seenOf, .ref h_seenOpen, .int i_pathMany, .ref h_path, .int i_place, .ref h_told, .ref h_counts, .ref h_spots, .ref h_far, .ref h_row, .ref h_begins, .int i_found, .int i_walkers, .ref h_ways, .ref h_next])), (h_kinds, .inl (cyI, 10, .inl a_kinds)), (h_counts, .inl (cyI, 5, .inl a_counts))]
abbrev qX8_isOpen (dC : Nat → ClassId) (dI : Nat → Nat → Nat) (cyI cyJ cyZ : ClassId) (h h_text h_many h_ones h_others h_kinds h_firsts h_persons h_gone h_at h_fines h_undos h_seenOf h_seenOpen h_path h_told h_counts h_spots h_far h_row h_begins h_ways h_next : Nat) (i_length : Int32) (i_keptMany : Int32) (i_undoMany : Int32) (i_seenMany : Int32) (i_pathMany : Int32) (i_place : Int32) (i_found : Int32) (i_walkers : Int32) (a_kinds : Nat → Int32) (a_counts : Nat → Int32) (post : Int32 → Prop) (A : Nat → Prop) : Array Value → State → Outcome → State → Prop := (va_Qi (fun (r : Int32) (u : Unit) => (r = 0 ∨ r = 1) ∧ post r) (bW (dC, dI) (tyG cyI cyJ cyZ) A (fun _ : Unit => (wX8_isOpen cyI cyJ cyZ h h_text h_many h_ones h_others h_kinds h_firsts h_persons h_gone h_at h_fines h_undos h_seenOf h_seenOpen h_path h_told h_counts h_spots h_far h_row h_begins h_ways h_next i_length i_keptMany i_undoMany i_seenMany i_pathMany i_place i_found i_walkers a_kinds a_counts))) A)
set_option maxHeartbeats 4000000 in
set_option maxRecDepth 100000 in
theorem mX8_isOpen (l : Launch) (dC : Nat → ClassId) (dI : Nat → Nat → Nat) (cyI cyJ cyZ : ClassId) (h h_text h_many h_ones h_others h_kinds h_firsts h_persons h_gone h_at h_fines h_undos h_seenOf h_seenOpen h_path h_told h_counts h_spots h_far h_row h_begins h_ways h_next : Nat) (sz : Nat) (i_length : Int32) (i_keptMany : Int32) (i_undoMany : Int32) (i_seenMany : Int32) (i_pathMany : Int32) (i_place : Int32) (i_found : Int32) (i_walkers : Int32) (a_kinds : Nat → Int32) (a_counts : Nat → Int32) (x1 : Int32) (x2 : Int32) (post : Int32 → Prop) (hwp : PX8_isOpen x1 x2 a_kinds a_counts post) : Met l yX8_isOpen wsX8_isOpen ({ frames := 0, cells := 0, slots := 0, locals := 0 } : Room) (va_Pc [.ref h, .int x1, .int x2] (pcW (dC, dI) sz (wX8_isOpen cyI cyJ cyZ h h_text h_many h_ones h_others h_kinds h_firsts h_persons h_gone h_at h_fines h_undos h_seenOf h_seenOpen h_path h_told h_counts h_spots h_far h_row h_begins h_ways h_next i_length i_keptMany i_undoMany i_seenMany i_pathMany i_place i_found i_walkers a_kinds a_counts) (tyG cyI cyJ cyZ))) (qX8_isOpen dC dI cyI cyJ cyZ h h_text h_many h_ones h_others h_kinds h_firsts h_persons h_gone h_at h_fines h_undos h_seenOf h_seenOpen h_path h_told h_counts h_spots h_far h_row h_begins h_ways h_next i_length i_keptMany i_undoMany i_seenMany i_pathMany i_place i_found i_walkers a_kinds a_counts post (va_A (wX8_isOpen cyI cyJ cyZ h h_text h_many h_ones h_others h_kinds h_firsts h_persons h_gone h_at h_fines h_undos h_seenOf h_seenOpen h_path h_told h_counts h_spots h_far h_row h_begins h_ways h_next i_length i_keptMany i_undoMany i_seenMany i_pathMany i_place i_found i_walkers a_kinds a_counts) sz)) 0 0 (va_A (wX8_isOpen cyI cyJ cyZ h h_text h_many h_ones h_others h_kinds h_firsts h_persons h_gone h_at h_fines h_undos h_seenOf h_seenOpen h_path h_told h_counts h_spots h_far h_row h_begins h_ways h_next i_length i_keptMany i_undoMany i_seenMany i_pathMany i_place i_found i_walkers a_kinds a_counts) sz) := by
  refine Met.ofW (cc := cX8_isOpen) (maxL := 4) (ret := some .boolean) (by decide) rfl ?_
  intro p e s m args below meth c s₁ B hml hv
  obtain ⟨rfl, hsz, hP, hK, hD0, hN⟩ := hv
  have hx := B.exec
  have hb := B.bytes
  have hr := B.returns
  have hts := atoms_spec (ws := wsX8_isOpen) B.pre
  have hown : s.vm.findClass RX8 = some m.cls := findClass_of_methodNamed B.named
  have hlocks := B.notSynchronized
  subst hsz
  have hD := hD0.self (sz := s.heap.size)
  generalize hAe : va_A (wX8_isOpen cyI cyJ cyZ h h_text h_many h_ones h_others h_kinds h_firsts h_persons h_gone h_at h_fines h_undos h_seenOf h_seenOpen h_path h_told h_counts h_spots h_far h_row h_begins h_ways h_next i_length i_keptMany i_undoMany i_seenMany i_pathMany i_place i_found i_walkers a_kinds a_counts) s.heap.size = A at hD ⊢
  have hA : ∀ q : Nat, s.heap.size ≤ q → A q := fun q h => by rw [← hAe]; exact Or.inr h
  have hW : Wd (dC, dI) A s.heap (wX8_isOpen cyI cyJ cyZ h h_text h_many h_ones h_others h_kinds h_firsts h_persons h_gone h_at h_fines h_undos h_seenOf h_seenOpen h_path h_told h_counts h_spots h_far h_row h_begins h_ways h_next i_length i_keptMany i_undoMany i_seenMany i_pathMany i_place i_found i_walkers a_kinds a_counts) s.heap [] := ⟨hP, hD, va_S.rf⟩
  have hw := hwp
  have hiX8 : ∀ w ∈ u_ws RX8 TX8 30, w ∈ wsX8_isOpen := fun _ h => List.mem_cons_of_mem _ (List.mem_append_right _ h)
  have k_0 := hts (.fieldLink RX8 22 "OddLetsInModel" "kinds" "[I") (List.mem_of_getElem? (i := 1) rfl)
  have k_1 := hts (.fieldLink RX8 55 "OddLetsInModel" "counts" "[I") (List.mem_of_getElem? (i := 2) rfl)
  have W_2 : ∀ (n_2 : Nat) (x3 : Int32) (H : Heap) (locs : List Loc) (ls : Array Slot), Wd (dC, dI) A s.heap (wX8_isOpen cyI cyJ cyZ h h_text h_many h_ones h_others h_kinds h_firsts h_persons h_gone h_at h_fines h_undos h_seenOf h_seenOpen h_path h_told h_counts h_spots h_far h_row h_begins h_ways h_next i_length i_keptMany i_undoMany i_seenMany i_pathMany i_place i_found i_walkers a_kinds a_counts) H locs → lv_has ls 4 [(0, .ref h), (2, .int x2), (3, .int x3)] → PX8_isOpen_2 post x2 a_kinds a_counts n_2 x3 → W p l e (({ frames := 0, cells := 0, slots := 0, locals := 0 } : Room)) s m (([.ref h, .int x1, .int x2] : List Value).toArray) below meth c H locs 0 0 (MQ below (qX8_isOpen dC dI cyI cyJ cyZ h h_text h_many h_ones h_others h_kinds h_firsts h_persons h_gone h_at h_fines h_undos h_seenOf h_seenOpen h_path h_told h_counts h_spots h_far h_row h_begins h_ways h_next i_length i_keptMany i_undoMany i_seenMany i_pathMany i_place i_found i_walkers a_kinds a_counts post A) (([.ref h, .int x1, .int x2] : List Value).toArray) s 0 0 A) (F0 m 2 ls []) := by
    intro n_2
    induction n_2 with
    | zero =>
      intro x3 H locs ls hW hl hw
      exact False.elim hw
    | succ n_2 ih_2 =>
      intro x3 H locs ls hW hl hw
      refine lv_aload_n hx hb dX8_isOpen_2 rfl (lv_at hl 0 rfl) ?_
      refine zw_get (ci := 8) (C := RX8) (T := TX8) (N := 30) (v := .ref h_kinds) hx hb hts hiX8 hown hK hW 0 rfl rfl 5 (by decide) rfl k_0 dX8_isOpen_3 ?_
      refine lv_iload_n hx hb dX8_isOpen_6 rfl (lv_at hl 2 rfl) ?_
      refine zw_iald hx hb hK hW 1 rfl rfl hw.1 dX8_isOpen_7 ?_
      replace hw := hw.2
      refine lv_iconst (v := 3) hx hb dX8_isOpen_8 (by decide) ?_
      refine lv_icmp_ne (tgt := 18) hx hb dX8_isOpen_9 (by decide) (fun c_1 => ?_) (fun c_1 => ?_)
      · replace hw := hw.2 c_1
        refine lv_aload_n hx hb dX8_isOpen_18 rfl (lv_at hl 0 rfl) ?_
        refine zw_get (ci := 8) (C := RX8) (T := TX8) (N := 30) (v := .ref h_kinds) hx hb hts hiX8 hown hK hW 0 rfl rfl 5 (by decide) rfl k_0 dX8_isOpen_19 ?_
        refine lv_iload_n hx hb dX8_isOpen_22 rfl (lv_at hl 2 rfl) ?_
        refine zw_iald hx hb hK hW 1 rfl rfl hw.1 dX8_isOpen_23 ?_
        replace hw := hw.2
        refine lv_topi (fun t_2 et_2 => ?_)
        replace hw := hw t_2 et_2
        by_cases c_3 : t_2 = 0
        · replace hw := hw.1 c_3
          refine lv_tableIn (off := 28) (tgt := 52) hx hb dX8_isOpen_24 (by rw [c_3]; decide) (by rw [c_3]; decide) (by rw [c_3]; decide) (by decide) ?_
          refine lv_aload_n hx hb dX8_isOpen_52 rfl (lv_at hl 0 rfl) ?_
          refine zw_get (ci := 8) (C := RX8) (T := TX8) (N := 30) (v := .ref h_counts) hx hb hts hiX8 hown hK hW 0 rfl rfl 21 (by decide) rfl k_1 dX8_isOpen_53 ?_
          refine lv_iload_n hx hb dX8_isOpen_56 rfl (lv_at hl 2 rfl) ?_
          refine zw_iald hx hb hK hW 2 rfl rfl hw.1 dX8_isOpen_57 ?_
          replace hw := hw.2
          refine lv_iconst (v := 2) hx hb dX8_isOpen_58 (by decide) ?_
          refine lv_irem hx hb dX8_isOpen_59 (by decide) ?_
          refine lv_if_ne (tgt := 67) hx hb dX8_isOpen_60 (by decide) (fun c_4 => ?_) (fun c_4 => ?_)
          · replace hw := hw.2 c_4
            refine lv_iconst (v := 0) hx hb dX8_isOpen_67 (by decide) ?_
            refine zw_zret (S := Unit) (post := fun r u => post r) () hx hb hr hlocks hK hW (Or.inl rfl) hw ?_ dX8_isOpen_68
            rfl
          · replace hw := hw.1 c_4
            refine lv_iconst (v := 1) hx hb dX8_isOpen_63 (by decide) ?_
            refine lv_goto (tgt := 68) hx hb dX8_isOpen_64 (by decide) ?_
            refine zw_zret (S := Unit) (post := fun r u => post r) () hx hb hr hlocks hK hW (Or.inr rfl) hw ?_ dX8_isOpen_68
            rfl
        · replace hw := hw.2 c_3
          by_cases c_5 : t_2 = 1
          · replace hw := hw.1 c_5
            refine lv_tableIn (off := 45) (tgt := 69) hx hb dX8_isOpen_24 (by rw [c_5]; decide) (by rw [c_5]; decide) (by rw [c_5]; decide) (by decide) ?_
            refine lv_aload_n hx hb dX8_isOpen_69 rfl (lv_at hl 0 rfl) ?_
            refine zw_get (ci := 8) (C := RX8) (T := TX8) (N := 30) (v := .ref h_counts) hx hb hts hiX8 hown hK hW 0 rfl rfl 21 (by decide) rfl k_1 dX8_isOpen_70 ?_
            refine lv_iload_n hx hb dX8_isOpen_73 rfl (lv_at hl 2 rfl) ?_
            refine zw_iald hx hb hK hW 2 rfl rfl hw.1 dX8_isOpen_74 ?_
            replace hw := hw.2
            refine lv_iconst (v := 2) hx hb dX8_isOpen_75 (by decide) ?_
            refine lv_irem hx hb dX8_isOpen_76 (by decide) ?_
            refine lv_iconst (v := 1) hx hb dX8_isOpen_77 (by decide) ?_
            refine lv_icmp_ne (tgt := 85) hx hb dX8_isOpen_78 (by decide) (fun c_6 => ?_) (fun c_6 => ?_)
            · replace hw := hw.2 c_6
              refine lv_iconst (v := 0) hx hb dX8_isOpen_85 (by decide) ?_
              refine zw_zret (S := Unit) (post := fun r u => post r) () hx hb hr hlocks hK hW (Or.inl rfl) hw ?_ dX8_isOpen_86
              rfl
            · replace hw := hw.1 c_6
              refine lv_iconst (v := 1) hx hb dX8_isOpen_81 (by decide) ?_
              refine lv_goto (tgt := 86) hx hb dX8_isOpen_82 (by decide) ?_
              refine zw_zret (S := Unit) (post := fun r u => post r) () hx hb hr hlocks hK hW (Or.inr rfl) hw ?_ dX8_isOpen_86
              rfl
          · replace hw := hw.2 c_5
            by_cases c_7 : t_2 = 2
            · replace hw := hw.1 c_7
              refine lv_tableIn (off := 63) (tgt := 87) hx hb dX8_isOpen_24 (by rw [c_7]; decide) (by rw [c_7]; decide) (by rw [c_7]; decide) (by decide) ?_
              refine lv_aload_n hx hb dX8_isOpen_87 rfl (lv_at hl 0 rfl) ?_
              refine zw_get (ci := 8) (C := RX8) (T := TX8) (N := 30) (v := .ref h_counts) hx hb hts hiX8 hown hK hW 0 rfl rfl 21 (by decide) rfl k_1 dX8_isOpen_88 ?_
              refine lv_iload_n hx hb dX8_isOpen_91 rfl (lv_at hl 2 rfl) ?_
              refine zw_iald hx hb hK hW 2 rfl rfl hw.1 dX8_isOpen_92 ?_
              replace hw := hw.2
              refine lv_iconst (v := 3) hx hb dX8_isOpen_93 (by decide) ?_
              refine lv_irem hx hb dX8_isOpen_94 (by decide) ?_
              refine lv_if_ne (tgt := 102) hx hb dX8_isOpen_95 (by decide) (fun c_8 => ?_) (fun c_8 => ?_)
              · replace hw := hw.2 c_8
                refine lv_iconst (v := 0) hx hb dX8_isOpen_102 (by decide) ?_
                refine zw_zret (S := Unit) (post := fun r u => post r) () hx hb hr hlocks hK hW (Or.inl rfl) hw ?_ dX8_isOpen_103
                rfl
              · replace hw := hw.1 c_8
                refine lv_iconst (v := 1) hx hb dX8_isOpen_98 (by decide) ?_
                refine lv_goto (tgt := 103) hx hb dX8_isOpen_99 (by decide) ?_
                refine zw_zret (S := Unit) (post := fun r u => post r) () hx hb hr hlocks hK hW (Or.inr rfl) hw ?_ dX8_isOpen_103
                rfl
            · replace hw := hw.2 c_7
              refine lv_tableOut (tgt := 104) hx hb dX8_isOpen_24 (zb_ts 2 (fun k hk => by rcases (show k = 0 ∨ k = 1 ∨ k = 2 by omega) with rfl | rfl | rfl <;> assumption) (by decide)) (by decide) ?_
              refine lv_iload_n hx hb dX8_isOpen_104 rfl (lv_at hl 1 rfl) ?_
              refine lv_if_ne (tgt := 123) hx hb dX8_isOpen_105 (by decide) (fun c_9 => ?_) (fun c_9 => ?_)
              · replace hw := hw.2 c_9
                refine lv_iconst (v := 0) hx hb dX8_isOpen_123 (by decide) ?_
                refine zw_zret (S := Unit) (post := fun r u => post r) () hx hb hr hlocks hK hW (Or.inl rfl) hw ?_ dX8_isOpen_124
                rfl
              · replace hw := hw.1 c_9
                refine lv_aload_n hx hb dX8_isOpen_108 rfl (lv_at hl 0 rfl) ?_
                refine zw_get (ci := 8) (C := RX8) (T := TX8) (N := 30) (v := .ref h_counts) hx hb hts hiX8 hown hK hW 0 rfl rfl 21 (by decide) rfl k_1 dX8_isOpen_109 ?_
                refine lv_iload_n hx hb dX8_isOpen_112 rfl (lv_at hl 2 rfl) ?_
                refine zw_iald hx hb hK hW 2 rfl rfl hw.1 dX8_isOpen_113 ?_
                replace hw := hw.2
                refine lv_iconst (v := 2) hx hb dX8_isOpen_114 (by decide) ?_
                refine lv_irem hx hb dX8_isOpen_115 (by decide) ?_
                refine lv_if_ne (tgt := 123) hx hb dX8_isOpen_116 (by decide) (fun c_10 => ?_) (fun c_10 => ?_)
                · replace hw := hw.2 c_10
                  refine lv_iconst (v := 0) hx hb dX8_isOpen_123 (by decide) ?_
                  refine zw_zret (S := Unit) (post := fun r u => post r) () hx hb hr hlocks hK hW (Or.inl rfl) hw ?_ dX8_isOpen_124
                  rfl
                · replace hw := hw.1 c_10
                  refine lv_iconst (v := 1) hx hb dX8_isOpen_119 (by decide) ?_
                  refine lv_goto (tgt := 124) hx hb dX8_isOpen_120 (by decide) ?_
                  refine zw_zret (S := Unit) (post := fun r u => post r) () hx hb hr hlocks hK hW (Or.inr rfl) hw ?_ dX8_isOpen_124
                  rfl
      · replace hw := hw.1 c_1
        obtain ⟨x3_11, ex3_11⟩ : ∃ y : Int32, y = x3 + (-1) := ⟨_, rfl⟩
        replace hw := hw x3_11 ex3_11
        refine lv_iinc (v := x3_11) (lv' := [(3, .int x3_11), (0, .ref h), (2, .int x2)]) hx hb dX8_isOpen_12 hl (k := 2) rfl (by rw [ex3_11]; rfl) (by decide) rfl (fun ls hl => ?_)
        refine lv_goto (tgt := 2) hx hb dX8_isOpen_15 (by decide) ?_
        exact ih_2 x3_11 _ _ _ hW (lv_sub hl [1, 2, 0] rfl) hw
  have hl := lv_entry ([.ref h, .int x1, .int x2]) (n := 4) (Nat.le_of_ble_eq_true rfl)
  rw [lg_entry_eq]
  generalize (lg_sl ([.ref h, .int x1, .int x2]) ++ List.replicate (4 - (lg_sl ([.ref h, .int x1, .int x2])).length) Slot.unset).toArray = ls at hl ⊢
  have hl : lv_has ls 4 [(0, .ref h), (1, .int x1), (2, .int x2)] := hl
  refine lv_iload_n hx hb dX8_isOpen_0 rfl (lv_at hl 1 rfl) ?_
  refine lv_istore_n (lv' := [(3, .int x1), (0, .ref h), (1, .int x1), (2, .int x2)]) hx hb dX8_isOpen_1 rfl hl (by decide) rfl (fun ls hl => ?_)
  obtain ⟨n_2, hw⟩ := hw
  exact W_2  n_2 x1 _ _ _ hW (lv_sub hl [1, 3, 0] rfl) hw
abbrev wX8_sideOf (cyI cyJ cyZ : ClassId) (h h_text h_many h_ones h_others h_kinds h_firsts h_persons h_gone h_at h_fines h_undos h_seenOf h_seenOpen h_path h_told h_counts h_spots h_far h_row h_begins h_ways h_next : Nat) (i_length : Int32) (i_keptMany : Int32) (i_undoMany : Int32) (i_seenMany : Int32) (i_pathMany : Int32) (i_place : Int32) (i_found : Int32) (i_walkers : Int32) (a_ones : Nat → Int32) (a_others : Nat → Int32) : va_W := [(h, .inr (8, [.int i_length, .ref h_text, .ref h_many, .ref h_ones, .ref h_others, .ref h_kinds, .ref h_firsts, .ref h_persons, .ref h_gone, .ref h_at, .ref h_fines, .int i_keptMany, .int i_undoMany, .ref h_undos, .int i_seenMany, .ref h_seenOf, .ref h_seenOpen, .int i_pathMany, .ref h_path, .int i_place, .ref h_told, .ref h_counts, .ref h_spots, .ref h_far, .ref h_row, .ref h_begins, .int i_found, .int i_walkers, .ref h_ways, .ref h_next])), (h_ones, .inl (cyI, 10, .inl a_ones)), (h_others, .inl (cyI, 10, .inl a_others))]
abbrev qX8_sideOf (dC : Nat → ClassId) (dI : Nat → Nat → Nat) (cyI cyJ cyZ : ClassId) (h h_text h_many h_ones h_others h_kinds h_firsts h_persons h_gone h_at h_fines h_undos h_seenOf h_seenOpen h_path h_told h_counts h_spots h_far h_row h_begins h_ways h_next : Nat) (i_length : Int32) (i_keptMany : Int32) (i_undoMany : Int32) (i_seenMany : Int32) (i_pathMany : Int32) (i_place : Int32) (i_found : Int32) (i_walkers : Int32) (a_ones : Nat → Int32) (a_others : Nat → Int32) (post : Int32 → Prop) (A : Nat → Prop) : Array Value → State → Outcome → State → Prop := (va_Qi (fun (r : Int32) (u : Unit) => post r) (bW (dC, dI) (tyG cyI cyJ cyZ) A (fun _ : Unit => (wX8_sideOf cyI cyJ cyZ h h_text h_many h_ones h_others h_kinds h_firsts h_persons h_gone h_at h_fines h_undos h_seenOf h_seenOpen h_path h_told h_counts h_spots h_far h_row h_begins h_ways h_next i_length i_keptMany i_undoMany i_seenMany i_pathMany i_place i_found i_walkers a_ones a_others))) A)
set_option maxHeartbeats 4000000 in
set_option maxRecDepth 100000 in
theorem mX8_sideOf (l : Launch) (dC : Nat → ClassId) (dI : Nat → Nat → Nat) (cyI cyJ cyZ : ClassId) (h h_text h_many h_ones h_others h_kinds h_firsts h_persons h_gone h_at h_fines h_undos h_seenOf h_seenOpen h_path h_told h_counts h_spots h_far h_row h_begins h_ways h_next : Nat) (sz : Nat) (i_length : Int32) (i_keptMany : Int32) (i_undoMany : Int32) (i_seenMany : Int32) (i_pathMany : Int32) (i_place : Int32) (i_found : Int32) (i_walkers : Int32) (a_ones : Nat → Int32) (a_others : Nat → Int32) (x1 : Int32) (x2 : Int32) (post : Int32 → Prop) (hwp : PX8_sideOf x1 x2 a_ones a_others post) : Met l yX8_sideOf wsX8_sideOf ({ frames := 0, cells := 0, slots := 0, locals := 0 } : Room) (va_Pc [.ref h, .int x1, .int x2] (pcW (dC, dI) sz (wX8_sideOf cyI cyJ cyZ h h_text h_many h_ones h_others h_kinds h_firsts h_persons h_gone h_at h_fines h_undos h_seenOf h_seenOpen h_path h_told h_counts h_spots h_far h_row h_begins h_ways h_next i_length i_keptMany i_undoMany i_seenMany i_pathMany i_place i_found i_walkers a_ones a_others) (tyG cyI cyJ cyZ))) (qX8_sideOf dC dI cyI cyJ cyZ h h_text h_many h_ones h_others h_kinds h_firsts h_persons h_gone h_at h_fines h_undos h_seenOf h_seenOpen h_path h_told h_counts h_spots h_far h_row h_begins h_ways h_next i_length i_keptMany i_undoMany i_seenMany i_pathMany i_place i_found i_walkers a_ones a_others post (va_A (wX8_sideOf cyI cyJ cyZ h h_text h_many h_ones h_others h_kinds h_firsts h_persons h_gone h_at h_fines h_undos h_seenOf h_seenOpen h_path h_told h_counts h_spots h_far h_row h_begins h_ways h_next i_length i_keptMany i_undoMany i_seenMany i_pathMany i_place i_found i_walkers a_ones a_others) sz)) 0 0 (va_A (wX8_sideOf cyI cyJ cyZ h h_text h_many h_ones h_others h_kinds h_firsts h_persons h_gone h_at h_fines h_undos h_seenOf h_seenOpen h_path h_told h_counts h_spots h_far h_row h_begins h_ways h_next i_length i_keptMany i_undoMany i_seenMany i_pathMany i_place i_found i_walkers a_ones a_others) sz) := by
  refine Met.ofW (cc := cX8_sideOf) (maxL := 3) (ret := some .int) (by decide) rfl ?_
  intro p e s m args below meth c s₁ B hml hv
  obtain ⟨rfl, hsz, hP, hK, hD0, hN⟩ := hv
  have hx := B.exec
  have hb := B.bytes
  have hr := B.returns
  have hts := atoms_spec (ws := wsX8_sideOf) B.pre
  have hown : s.vm.findClass RX8 = some m.cls := findClass_of_methodNamed B.named
  have hlocks := B.notSynchronized
  subst hsz
  have hD := hD0.self (sz := s.heap.size)
  generalize hAe : va_A (wX8_sideOf cyI cyJ cyZ h h_text h_many h_ones h_others h_kinds h_firsts h_persons h_gone h_at h_fines h_undos h_seenOf h_seenOpen h_path h_told h_counts h_spots h_far h_row h_begins h_ways h_next i_length i_keptMany i_undoMany i_seenMany i_pathMany i_place i_found i_walkers a_ones a_others) s.heap.size = A at hD ⊢
  have hA : ∀ q : Nat, s.heap.size ≤ q → A q := fun q h => by rw [← hAe]; exact Or.inr h
  have hW : Wd (dC, dI) A s.heap (wX8_sideOf cyI cyJ cyZ h h_text h_many h_ones h_others h_kinds h_firsts h_persons h_gone h_at h_fines h_undos h_seenOf h_seenOpen h_path h_told h_counts h_spots h_far h_row h_begins h_ways h_next i_length i_keptMany i_undoMany i_seenMany i_pathMany i_place i_found i_walkers a_ones a_others) s.heap [] := ⟨hP, hD, va_S.rf⟩
  have hw := hwp
  have hiX8 : ∀ w ∈ u_ws RX8 TX8 30, w ∈ wsX8_sideOf := fun _ h => List.mem_cons_of_mem _ (List.mem_append_right _ h)
  have k_0 := hts (.fieldLink RX8 16 "OddLetsInModel" "ones" "[I") (List.mem_of_getElem? (i := 1) rfl)
  have k_1 := hts (.fieldLink RX8 19 "OddLetsInModel" "others" "[I") (List.mem_of_getElem? (i := 2) rfl)
  have hl := lv_entry ([.ref h, .int x1, .int x2]) (n := 3) (Nat.le_of_ble_eq_true rfl)
  rw [lg_entry_eq]
  generalize (lg_sl ([.ref h, .int x1, .int x2]) ++ List.replicate (3 - (lg_sl ([.ref h, .int x1, .int x2])).length) Slot.unset).toArray = ls at hl ⊢
  have hl : lv_has ls 3 [(0, .ref h), (1, .int x1), (2, .int x2)] := hl
  refine lv_aload_n hx hb dX8_sideOf_0 rfl (lv_at hl 0 rfl) ?_
  refine zw_get (ci := 8) (C := RX8) (T := TX8) (N := 30) (v := .ref h_ones) hx hb hts hiX8 hown hK hW 0 rfl rfl 3 (by decide) rfl k_0 dX8_sideOf_1 ?_
  refine lv_iload_n hx hb dX8_sideOf_4 rfl (lv_at hl 1 rfl) ?_
  refine zw_iald hx hb hK hW 1 rfl rfl hw.1 dX8_sideOf_5 ?_
  replace hw := hw.2
  refine lv_iload_n hx hb dX8_sideOf_6 rfl (lv_at hl 2 rfl) ?_
  refine lv_icmp_ne (tgt := 14) hx hb dX8_sideOf_7 (by decide) (fun c_1 => ?_) (fun c_1 => ?_)
  · replace hw := hw.2 c_1
    refine lv_aload_n hx hb dX8_sideOf_14 rfl (lv_at hl 0 rfl) ?_
    refine zw_get (ci := 8) (C := RX8) (T := TX8) (N := 30) (v := .ref h_others) hx hb hts hiX8 hown hK hW 0 rfl rfl 4 (by decide) rfl k_1 dX8_sideOf_15 ?_
    refine lv_iload_n hx hb dX8_sideOf_18 rfl (lv_at hl 1 rfl) ?_
    refine zw_iald hx hb hK hW 2 rfl rfl hw.1 dX8_sideOf_19 ?_
    replace hw := hw.2
    refine lv_iload_n hx hb dX8_sideOf_20 rfl (lv_at hl 2 rfl) ?_
    refine lv_icmp_ne (tgt := 28) hx hb dX8_sideOf_21 (by decide) (fun c_2 => ?_) (fun c_2 => ?_)
    · replace hw := hw.2 c_2
      refine lv_bipush (v := (-4)) hx hb dX8_sideOf_28 (by decide) ?_
      refine zw_iret (S := Unit) (post := fun r u => post r) () hx hb hr hlocks hK hW hw ?_ dX8_sideOf_30
      rfl
    · replace hw := hw.1 c_2
      refine lv_iconst (v := 1) hx hb dX8_sideOf_24 (by decide) ?_
      refine lv_goto (tgt := 30) hx hb dX8_sideOf_25 (by decide) ?_
      refine zw_iret (S := Unit) (post := fun r u => post r) () hx hb hr hlocks hK hW hw ?_ dX8_sideOf_30
      rfl
  · replace hw := hw.1 c_1
    refine lv_iconst (v := 0) hx hb dX8_sideOf_10 (by decide) ?_
    refine lv_goto (tgt := 30) hx hb dX8_sideOf_11 (by decide) ?_
    refine zw_iret (S := Unit) (post := fun r u => post r) () hx hb hr hlocks hK hW hw ?_ dX8_sideOf_30
    rfl
abbrev wX8_canPass (cyI cyJ cyZ : ClassId) (h h_text h_many h_ones h_others h_kinds h_firsts h_persons h_gone h_at h_fines h_undos h_seenOf h_seenOpen h_path h_told h_counts h_spots h_far h_row h_begins h_ways h_next : Nat) (i_length : Int32) (i_keptMany : Int32) (i_undoMany : Int32) (i_seenMany : Int32) (i_pathMany : Int32) (i_place : Int32) (i_found : Int32) (i_walkers : Int32) (a_ones : Nat → Int32) (a_others : Nat → Int32) (a_kinds : Nat → Int32) (a_counts : Nat → Int32) : va_W := [(h, .inr (8, [.int i_length, .ref h_text, .ref h_many, .ref h_ones, .ref h_others, .ref h_kinds, .ref h_firsts, .ref h_persons, .ref h_gone, .ref h_at, .ref h_fines, .int i_keptMany, .int i_undoMany, .ref h_undos, .int i_seenMany, .ref h_seenOf, .ref h_seenOpen, .int i_pathMany, .ref h_path, .int i_place, .ref h_told, .ref h_counts, .ref h_spots, .ref h_far, .ref h_row, .ref h_begins, .int i_found, .int i_walkers, .ref h_ways, .ref h_next])), (h_ones, .inl (cyI, 10, .inl a_ones)), (h_others, .inl (cyI, 10, .inl a_others)), (h_kinds, .inl (cyI, 10, .inl a_kinds)), (h_counts, .inl (cyI, 5, .inl a_counts))]
abbrev qX8_canPass (dC : Nat → ClassId) (dI : Nat → Nat → Nat) (cyI cyJ cyZ : ClassId) (h h_text h_many h_ones h_others h_kinds h_firsts h_persons h_gone h_at h_fines h_undos h_seenOf h_seenOpen h_path h_told h_counts h_spots h_far h_row h_begins h_ways h_next : Nat) (i_length : Int32) (i_keptMany : Int32) (i_undoMany : Int32) (i_seenMany : Int32) (i_pathMany : Int32) (i_place : Int32) (i_found : Int32) (i_walkers : Int32) (a_ones : Nat → Int32) (a_others : Nat → Int32) (a_kinds : Nat → Int32) (a_counts : Nat → Int32) (post : Int32 → Prop) (A : Nat → Prop) : Array Value → State → Outcome → State → Prop := (va_Qi (fun (r : Int32) (u : Unit) => (r = 0 ∨ r = 1) ∧ post r) (bW (dC, dI) (tyG cyI cyJ cyZ) A (fun _ : Unit => (wX8_canPass cyI cyJ cyZ h h_text h_many h_ones h_others h_kinds h_firsts h_persons h_gone h_at h_fines h_undos h_seenOf h_seenOpen h_path h_told h_counts h_spots h_far h_row h_begins h_ways h_next i_length i_keptMany i_undoMany i_seenMany i_pathMany i_place i_found i_walkers a_ones a_others a_kinds a_counts))) A)
set_option maxHeartbeats 4000000 in
set_option maxRecDepth 100000 in
theorem mX8_canPass (l : Launch) (dC : Nat → ClassId) (dI : Nat → Nat → Nat) (cyI cyJ cyZ : ClassId) (h h_text h_many h_ones h_others h_kinds h_firsts h_persons h_gone h_at h_fines h_undos h_seenOf h_seenOpen h_path h_told h_counts h_spots h_far h_row h_begins h_ways h_next : Nat) (sz : Nat) (i_length : Int32) (i_keptMany : Int32) (i_undoMany : Int32) (i_seenMany : Int32) (i_pathMany : Int32) (i_place : Int32) (i_found : Int32) (i_walkers : Int32) (a_ones : Nat → Int32) (a_others : Nat → Int32) (a_kinds : Nat → Int32) (a_counts : Nat → Int32) (x1 : Int32) (x2 : Int32) (post : Int32 → Prop) (hwp : PX8_canPass x1 x2 a_ones a_others a_kinds a_counts post) : Met l yX8_canPass wsX8_canPass ({ frames := 1, cells := 0, slots := 0, locals := 23 } : Room) (va_Pc [.ref h, .int x1, .int x2] (pcW (dC, dI) sz (wX8_canPass cyI cyJ cyZ h h_text h_many h_ones h_others h_kinds h_firsts h_persons h_gone h_at h_fines h_undos h_seenOf h_seenOpen h_path h_told h_counts h_spots h_far h_row h_begins h_ways h_next i_length i_keptMany i_undoMany i_seenMany i_pathMany i_place i_found i_walkers a_ones a_others a_kinds a_counts) (tyG cyI cyJ cyZ))) (qX8_canPass dC dI cyI cyJ cyZ h h_text h_many h_ones h_others h_kinds h_firsts h_persons h_gone h_at h_fines h_undos h_seenOf h_seenOpen h_path h_told h_counts h_spots h_far h_row h_begins h_ways h_next i_length i_keptMany i_undoMany i_seenMany i_pathMany i_place i_found i_walkers a_ones a_others a_kinds a_counts post (va_A (wX8_canPass cyI cyJ cyZ h h_text h_many h_ones h_others h_kinds h_firsts h_persons h_gone h_at h_fines h_undos h_seenOf h_seenOpen h_path h_told h_counts h_spots h_far h_row h_begins h_ways h_next i_length i_keptMany i_undoMany i_seenMany i_pathMany i_place i_found i_walkers a_ones a_others a_kinds a_counts) sz)) 0 0 (va_A (wX8_canPass cyI cyJ cyZ h h_text h_many h_ones h_others h_kinds h_firsts h_persons h_gone h_at h_fines h_undos h_seenOf h_seenOpen h_path h_told h_counts h_spots h_far h_row h_begins h_ways h_next i_length i_keptMany i_undoMany i_seenMany i_pathMany i_place i_found i_walkers a_ones a_others a_kinds a_counts) sz) := by
  refine Met.ofW (cc := cX8_canPass) (maxL := 4) (ret := some .boolean) (by decide) rfl ?_
  intro p e s m args below meth c s₁ B hml hv
  obtain ⟨rfl, hsz, hP, hK, hD0, hN⟩ := hv
  have hx := B.exec
  have hb := B.bytes
  have hr := B.returns
  have hts := atoms_spec (ws := wsX8_canPass) B.pre
  have hown : s.vm.findClass RX8 = some m.cls := findClass_of_methodNamed B.named
  have hlocks := B.notSynchronized
  subst hsz
  have hD := hD0.self (sz := s.heap.size)
  generalize hAe : va_A (wX8_canPass cyI cyJ cyZ h h_text h_many h_ones h_others h_kinds h_firsts h_persons h_gone h_at h_fines h_undos h_seenOf h_seenOpen h_path h_told h_counts h_spots h_far h_row h_begins h_ways h_next i_length i_keptMany i_undoMany i_seenMany i_pathMany i_place i_found i_walkers a_ones a_others a_kinds a_counts) s.heap.size = A at hD ⊢
  have hA : ∀ q : Nat, s.heap.size ≤ q → A q := fun q h => by rw [← hAe]; exact Or.inr h
  have hW : Wd (dC, dI) A s.heap (wX8_canPass cyI cyJ cyZ h h_text h_many h_ones h_others h_kinds h_firsts h_persons h_gone h_at h_fines h_undos h_seenOf h_seenOpen h_path h_told h_counts h_spots h_far h_row h_begins h_ways h_next i_length i_keptMany i_undoMany i_seenMany i_pathMany i_place i_found i_walkers a_ones a_others a_kinds a_counts) s.heap [] := ⟨hP, hD, va_S.rf⟩
  have hw := hwp
  have hl := lv_entry ([.ref h, .int x1, .int x2]) (n := 4) (Nat.le_of_ble_eq_true rfl)
  rw [lg_entry_eq]
  generalize (lg_sl ([.ref h, .int x1, .int x2]) ++ List.replicate (4 - (lg_sl ([.ref h, .int x1, .int x2])).length) Slot.unset).toArray = ls at hl ⊢
  have hl : lv_has ls 4 [(0, .ref h), (1, .int x1), (2, .int x2)] := hl
  refine lv_aload_n hx hb dX8_canPass_0 rfl (lv_at hl 0 rfl) ?_
  refine lv_iload_n hx hb dX8_canPass_1 rfl (lv_at hl 2 rfl) ?_
  refine lv_iload_n hx hb dX8_canPass_2 rfl (lv_at hl 1 rfl) ?_
  refine zw_Vi ⟨hx, hb, hml, hown, hts⟩ hK hN hA hW 0 rfl (T := TX8) (N := 30) rfl [.int x2, .int x1] [] [0, 1, 2] [3, 4] [2, 3, 4, 0, 1] (fun _ => (wX8_canPass cyI cyJ cyZ h h_text h_many h_ones h_others h_kinds h_firsts h_persons h_gone h_at h_fines h_undos h_seenOf h_seenOpen h_path h_told h_counts h_spots h_far h_row h_begins h_ways h_next i_length i_keptMany i_undoMany i_seenMany i_pathMany i_place i_found i_walkers a_ones a_others a_kinds a_counts)) (mX8_sideOf l dC dI cyI cyJ cyZ h h_text h_many h_ones h_others h_kinds h_firsts h_persons h_gone h_at h_fines h_undos h_seenOf h_seenOpen h_path h_told h_counts h_spots h_far h_row h_begins h_ways h_next _ i_length i_keptMany i_undoMany i_seenMany i_pathMany i_place i_found i_walkers a_ones a_others x2 x1 _ hw) (cwV 2 hts gX8_canPass_X8_sideOf rfl rfl rfl (by decide +kernel) ⟨Nat.le_of_ble_eq_true rfl, Nat.le_of_ble_eq_true rfl⟩) rfl rfl rfl rfl (by decide) rfl (fun _ => rfl) rfl hl.1 rfl (Nat.le_of_ble_eq_true rfl) (Nat.le_of_ble_eq_true rfl) (Nat.le_of_ble_eq_true rfl) dX8_canPass_3 (fun r_1 u H locs hw hW => ?_)
  refine lv_istore_n (lv' := [(3, .int r_1), (0, .ref h), (1, .int x1), (2, .int x2)]) hx hb dX8_canPass_6 rfl hl (by decide) rfl (fun ls hl => ?_)
  refine lv_iload_n hx hb dX8_canPass_7 rfl (lv_at hl 0 rfl) ?_
  refine lv_if_lt (tgt := 24) hx hb dX8_canPass_8 (by decide) (fun c_2 => ?_) (fun c_2 => ?_)
  · replace hw := hw.1 c_2
    refine lv_iconst (v := 0) hx hb dX8_canPass_24 (by decide) ?_
    refine zw_zret (S := Unit) (post := fun r u => post r) () hx hb hr hlocks hK hW (Or.inl rfl) hw ?_ dX8_canPass_25
    rfl
  · replace hw := hw.2 c_2
    refine lv_aload_n hx hb dX8_canPass_11 rfl (lv_at hl 1 rfl) ?_
    refine lv_iload_n hx hb dX8_canPass_12 rfl (lv_at hl 3 rfl) ?_
    refine lv_iload_n hx hb dX8_canPass_13 rfl (lv_at hl 0 rfl) ?_
    refine zw_Vi ⟨hx, hb, hml, hown, hts⟩ hK hN hA hW 0 rfl (T := TX8) (N := 30) rfl [.int x2, .int r_1] [] [0, 3, 4] [1, 2] [2, 0, 1, 3, 4] (fun _ => (wX8_canPass cyI cyJ cyZ h h_text h_many h_ones h_others h_kinds h_firsts h_persons h_gone h_at h_fines h_undos h_seenOf h_seenOpen h_path h_told h_counts h_spots h_far h_row h_begins h_ways h_next i_length i_keptMany i_undoMany i_seenMany i_pathMany i_place i_found i_walkers a_ones a_others a_kinds a_counts)) (mX8_isOpen l dC dI cyI cyJ cyZ h h_text h_many h_ones h_others h_kinds h_firsts h_persons h_gone h_at h_fines h_undos h_seenOf h_seenOpen h_path h_told h_counts h_spots h_far h_row h_begins h_ways h_next _ i_length i_keptMany i_undoMany i_seenMany i_pathMany i_place i_found i_walkers a_kinds a_counts x2 r_1 _ hw) (cwV 2 hts gX8_canPass_X8_isOpen rfl rfl rfl (by decide +kernel) ⟨Nat.le_of_ble_eq_true rfl, Nat.le_of_ble_eq_true rfl⟩) rfl rfl rfl rfl (by decide) rfl (fun _ => rfl) rfl hl.1 rfl (Nat.le_of_ble_eq_true rfl) (Nat.le_of_ble_eq_true rfl) (Nat.le_of_ble_eq_true rfl) dX8_canPass_14 (fun r_3 u H locs hw hW => ?_)
    obtain ⟨br_3, hw⟩ := hw
    refine lv_if_eq (tgt := 24) hx hb dX8_canPass_17 (by decide) (fun c_4 => ?_) (fun c_4 => ?_)
    · replace hw := hw.1 c_4
      refine lv_iconst (v := 0) hx hb dX8_canPass_24 (by decide) ?_
      refine zw_zret (S := Unit) (post := fun r u => post r) () hx hb hr hlocks hK hW (Or.inl rfl) hw ?_ dX8_canPass_25
      rfl
    · replace hw := hw.2 c_4
      refine lv_iconst (v := 1) hx hb dX8_canPass_20 (by decide) ?_
      refine lv_goto (tgt := 25) hx hb dX8_canPass_21 (by decide) ?_
      refine zw_zret (S := Unit) (post := fun r u => post r) () hx hb hr hlocks hK hW (Or.inr rfl) hw ?_ dX8_canPass_25
      rfl
abbrev wX8_beyond (cyI cyJ cyZ : ClassId) (h h_text h_many h_ones h_others h_kinds h_firsts h_persons h_gone h_at h_fines h_undos h_seenOf h_seenOpen h_path h_told h_counts h_spots h_far h_row h_begins h_ways h_next : Nat) (i_length : Int32) (i_keptMany : Int32) (i_undoMany : Int32) (i_seenMany : Int32) (i_pathMany : Int32) (i_place : Int32) (i_found : Int32) (i_walkers : Int32) (a_ones : Nat → Int32) (a_others : Nat → Int32) : va_W := [(h, .inr (8, [.int i_length, .ref h_text, .ref h_many, .ref h_ones, .ref h_others, .ref h_kinds, .ref h_firsts, .ref h_persons, .ref h_gone, .ref h_at, .ref h_fines, .int i_keptMany, .int i_undoMany, .ref h_undos, .int i_seenMany, .ref h_seenOf, .ref h_seenOpen, .int i_pathMany, .ref h_path, .int i_place, .ref h_told, .ref h_counts, .ref h_spots, .ref h_far, .ref h_row, .ref h_begins, .int i_found, .int i_walkers, .ref h_ways, .ref h_next])), (h_ones, .inl (cyI, 10, .inl a_ones)), (h_others, .inl (cyI, 10, .inl a_others))]
abbrev qX8_beyond (dC : Nat → ClassId) (dI : Nat → Nat → Nat) (cyI cyJ cyZ : ClassId) (h h_text h_many h_ones h_others h_kinds h_firsts h_persons h_gone h_at h_fines h_undos h_seenOf h_seenOpen h_path h_told h_counts h_spots h_far h_row h_begins h_ways h_next : Nat) (i_length : Int32) (i_keptMany : Int32) (i_undoMany : Int32) (i_seenMany : Int32) (i_pathMany : Int32) (i_place : Int32) (i_found : Int32) (i_walkers : Int32) (a_ones : Nat → Int32) (a_others : Nat → Int32) (post : Int32 → Prop) (A : Nat → Prop) : Array Value → State → Outcome → State → Prop := (va_Qi (fun (r : Int32) (u : Unit) => post r) (bW (dC, dI) (tyG cyI cyJ cyZ) A (fun _ : Unit => (wX8_beyond cyI cyJ cyZ h h_text h_many h_ones h_others h_kinds h_firsts h_persons h_gone h_at h_fines h_undos h_seenOf h_seenOpen h_path h_told h_counts h_spots h_far h_row h_begins h_ways h_next i_length i_keptMany i_undoMany i_seenMany i_pathMany i_place i_found i_walkers a_ones a_others))) A)
set_option maxHeartbeats 4000000 in
set_option maxRecDepth 100000 in
theorem mX8_beyond (l : Launch) (dC : Nat → ClassId) (dI : Nat → Nat → Nat) (cyI cyJ cyZ : ClassId) (h h_text h_many h_ones h_others h_kinds h_firsts h_persons h_gone h_at h_fines h_undos h_seenOf h_seenOpen h_path h_told h_counts h_spots h_far h_row h_begins h_ways h_next : Nat) (sz : Nat) (i_length : Int32) (i_keptMany : Int32) (i_undoMany : Int32) (i_seenMany : Int32) (i_pathMany : Int32) (i_place : Int32) (i_found : Int32) (i_walkers : Int32) (a_ones : Nat → Int32) (a_others : Nat → Int32) (x1 : Int32) (x2 : Int32) (post : Int32 → Prop) (hwp : PX8_beyond x1 x2 a_ones a_others post) : Met l yX8_beyond wsX8_beyond ({ frames := 0, cells := 0, slots := 0, locals := 0 } : Room) (va_Pc [.ref h, .int x1, .int x2] (pcW (dC, dI) sz (wX8_beyond cyI cyJ cyZ h h_text h_many h_ones h_others h_kinds h_firsts h_persons h_gone h_at h_fines h_undos h_seenOf h_seenOpen h_path h_told h_counts h_spots h_far h_row h_begins h_ways h_next i_length i_keptMany i_undoMany i_seenMany i_pathMany i_place i_found i_walkers a_ones a_others) (tyG cyI cyJ cyZ))) (qX8_beyond dC dI cyI cyJ cyZ h h_text h_many h_ones h_others h_kinds h_firsts h_persons h_gone h_at h_fines h_undos h_seenOf h_seenOpen h_path h_told h_counts h_spots h_far h_row h_begins h_ways h_next i_length i_keptMany i_undoMany i_seenMany i_pathMany i_place i_found i_walkers a_ones a_others post (va_A (wX8_beyond cyI cyJ cyZ h h_text h_many h_ones h_others h_kinds h_firsts h_persons h_gone h_at h_fines h_undos h_seenOf h_seenOpen h_path h_told h_counts h_spots h_far h_row h_begins h_ways h_next i_length i_keptMany i_undoMany i_seenMany i_pathMany i_place i_found i_walkers a_ones a_others) sz)) 0 0 (va_A (wX8_beyond cyI cyJ cyZ h h_text h_many h_ones h_others h_kinds h_firsts h_persons h_gone h_at h_fines h_undos h_seenOf h_seenOpen h_path h_told h_counts h_spots h_far h_row h_begins h_ways h_next i_length i_keptMany i_undoMany i_seenMany i_pathMany i_place i_found i_walkers a_ones a_others) sz) := by
  refine Met.ofW (cc := cX8_beyond) (maxL := 3) (ret := some .int) (by decide) rfl ?_
  intro p e s m args below meth c s₁ B hml hv
  obtain ⟨rfl, hsz, hP, hK, hD0, hN⟩ := hv
  have hx := B.exec
  have hb := B.bytes
  have hr := B.returns
  have hts := atoms_spec (ws := wsX8_beyond) B.pre
  have hown : s.vm.findClass RX8 = some m.cls := findClass_of_methodNamed B.named
  have hlocks := B.notSynchronized
  subst hsz
  have hD := hD0.self (sz := s.heap.size)
  generalize hAe : va_A (wX8_beyond cyI cyJ cyZ h h_text h_many h_ones h_others h_kinds h_firsts h_persons h_gone h_at h_fines h_undos h_seenOf h_seenOpen h_path h_told h_counts h_spots h_far h_row h_begins h_ways h_next i_length i_keptMany i_undoMany i_seenMany i_pathMany i_place i_found i_walkers a_ones a_others) s.heap.size = A at hD ⊢
  have hA : ∀ q : Nat, s.heap.size ≤ q → A q := fun q h => by rw [← hAe]; exact Or.inr h
  have hW : Wd (dC, dI) A s.heap (wX8_beyond cyI cyJ cyZ h h_text h_many h_ones h_others h_kinds h_firsts h_persons h_gone h_at h_fines h_undos h_seenOf h_seenOpen h_path h_told h_counts h_spots h_far h_row h_begins h_ways h_next i_length i_keptMany i_undoMany i_seenMany i_pathMany i_place i_found i_walkers a_ones a_others) s.heap [] := ⟨hP, hD, va_S.rf⟩
  have hw := hwp
  have hiX8 : ∀ w ∈ u_ws RX8 TX8 30, w ∈ wsX8_beyond := fun _ h => List.mem_cons_of_mem _ (List.mem_append_right _ h)
  have k_0 := hts (.fieldLink RX8 16 "OddLetsInModel" "ones" "[I") (List.mem_of_getElem? (i := 1) rfl)
  have k_1 := hts (.fieldLink RX8 19 "OddLetsInModel" "others" "[I") (List.mem_of_getElem? (i := 2) rfl)
  have hl := lv_entry ([.ref h, .int x1, .int x2]) (n := 3) (Nat.le_of_ble_eq_true rfl)
  rw [lg_entry_eq]
  generalize (lg_sl ([.ref h, .int x1, .int x2]) ++ List.replicate (3 - (lg_sl ([.ref h, .int x1, .int x2])).length) Slot.unset).toArray = ls at hl ⊢
  have hl : lv_has ls 3 [(0, .ref h), (1, .int x1), (2, .int x2)] := hl
  refine lv_aload_n hx hb dX8_beyond_0 rfl (lv_at hl 0 rfl) ?_
  refine zw_get (ci := 8) (C := RX8) (T := TX8) (N := 30) (v := .ref h_ones) hx hb hts hiX8 hown hK hW 0 rfl rfl 3 (by decide) rfl k_0 dX8_beyond_1 ?_
  refine lv_iload_n hx hb dX8_beyond_4 rfl (lv_at hl 1 rfl) ?_
  refine zw_iald hx hb hK hW 1 rfl rfl hw.1 dX8_beyond_5 ?_
  replace hw := hw.2
  refine lv_iload_n hx hb dX8_beyond_6 rfl (lv_at hl 2 rfl) ?_
  refine lv_icmp_ne (tgt := 19) hx hb dX8_beyond_7 (by decide) (fun c_1 => ?_) (fun c_1 => ?_)
  · replace hw := hw.2 c_1
    refine lv_aload_n hx hb dX8_beyond_19 rfl (lv_at hl 0 rfl) ?_
    refine zw_get (ci := 8) (C := RX8) (T := TX8) (N := 30) (v := .ref h_ones) hx hb hts hiX8 hown hK hW 0 rfl rfl 3 (by decide) rfl k_0 dX8_beyond_20 ?_
    refine lv_iload_n hx hb dX8_beyond_23 rfl (lv_at hl 1 rfl) ?_
    refine zw_iald hx hb hK hW 1 rfl rfl hw.1 dX8_beyond_24 ?_
    replace hw := hw.2
    refine zw_iret (S := Unit) (post := fun r u => post r) () hx hb hr hlocks hK hW hw ?_ dX8_beyond_25
    rfl
  · replace hw := hw.1 c_1
    refine lv_aload_n hx hb dX8_beyond_10 rfl (lv_at hl 0 rfl) ?_
    refine zw_get (ci := 8) (C := RX8) (T := TX8) (N := 30) (v := .ref h_others) hx hb hts hiX8 hown hK hW 0 rfl rfl 4 (by decide) rfl k_1 dX8_beyond_11 ?_
    refine lv_iload_n hx hb dX8_beyond_14 rfl (lv_at hl 1 rfl) ?_
    refine zw_iald hx hb hK hW 2 rfl rfl hw.1 dX8_beyond_15 ?_
    replace hw := hw.2
    refine lv_goto (tgt := 25) hx hb dX8_beyond_16 (by decide) ?_
    refine zw_iret (S := Unit) (post := fun r u => post r) () hx hb hr hlocks hK hW hw ?_ dX8_beyond_25
    rfl
abbrev wX8_openSet (cyI cyJ cyZ : ClassId) (h h_text h_many h_ones h_others h_kinds h_firsts h_persons h_gone h_at h_fines h_undos h_seenOf h_seenOpen h_path h_told h_counts h_spots h_far h_row h_begins h_ways h_next : Nat) (i_length : Int32) (i_keptMany : Int32) (i_undoMany : Int32) (i_seenMany : Int32) (i_pathMany : Int32) (i_place : Int32) (i_found : Int32) (i_walkers : Int32) (a_many : Nat → Int32) (a_kinds : Nat → Int32) (a_counts : Nat → Int32) : va_W := [(h, .inr (8, [.int i_length, .ref h_text, .ref h_many, .ref h_ones, .ref h_others, .ref h_kinds, .ref h_firsts, .ref h_persons, .ref h_gone, .ref h_at, .ref h_fines, .int i_keptMany, .int i_undoMany, .ref h_undos, .int i_seenMany, .ref h_seenOf, .ref h_seenOpen, .int i_pathMany, .ref h_path, .int i_place, .ref h_told, .ref h_counts, .ref h_spots, .ref h_far, .ref h_row, .ref h_begins, .int i_found, .int i_walkers, .ref h_ways, .ref h_next])), (h_many, .inl (cyI, 2, .inl a_many)), (h_kinds, .inl (cyI, 10, .inl a_kinds)), (h_counts, .inl (cyI, 5, .inl a_counts))]
abbrev qX8_openSet (dC : Nat → ClassId) (dI : Nat → Nat → Nat) (cyI cyJ cyZ : ClassId) (h h_text h_many h_ones h_others h_kinds h_firsts h_persons h_gone h_at h_fines h_undos h_seenOf h_seenOpen h_path h_told h_counts h_spots h_far h_row h_begins h_ways h_next : Nat) (i_length : Int32) (i_keptMany : Int32) (i_undoMany : Int32) (i_seenMany : Int32) (i_pathMany : Int32) (i_place : Int32) (i_found : Int32) (i_walkers : Int32) (a_many : Nat → Int32) (a_kinds : Nat → Int32) (a_counts : Nat → Int32) (post : Int32 → Prop) (A : Nat → Prop) : Array Value → State → Outcome → State → Prop := (va_Qi (fun (r : Int32) (u : Unit) => post r) (bW (dC, dI) (tyG cyI cyJ cyZ) A (fun _ : Unit => (wX8_openSet cyI cyJ cyZ h h_text h_many h_ones h_others h_kinds h_firsts h_persons h_gone h_at h_fines h_undos h_seenOf h_seenOpen h_path h_told h_counts h_spots h_far h_row h_begins h_ways h_next i_length i_keptMany i_undoMany i_seenMany i_pathMany i_place i_found i_walkers a_many a_kinds a_counts))) A)
set_option maxHeartbeats 4000000 in
set_option maxRecDepth 100000 in
theorem mX8_openSet (l : Launch) (dC : Nat → ClassId) (dI : Nat → Nat → Nat) (cyI cyJ cyZ : ClassId) (h h_text h_many h_ones h_others h_kinds h_firsts h_persons h_gone h_at h_fines h_undos h_seenOf h_seenOpen h_path h_told h_counts h_spots h_far h_row h_begins h_ways h_next : Nat) (sz : Nat) (i_length : Int32) (i_keptMany : Int32) (i_undoMany : Int32) (i_seenMany : Int32) (i_pathMany : Int32) (i_place : Int32) (i_found : Int32) (i_walkers : Int32) (a_many : Nat → Int32) (a_kinds : Nat → Int32) (a_counts : Nat → Int32) (post : Int32 → Prop) (hwp : PX8_openSet a_many a_kinds a_counts post) : Met l yX8_openSet wsX8_openSet ({ frames := 1, cells := 0, slots := 0, locals := 23 } : Room) (va_Pc [.ref h] (pcW (dC, dI) sz (wX8_openSet cyI cyJ cyZ h h_text h_many h_ones h_others h_kinds h_firsts h_persons h_gone h_at h_fines h_undos h_seenOf h_seenOpen h_path h_told h_counts h_spots h_far h_row h_begins h_ways h_next i_length i_keptMany i_undoMany i_seenMany i_pathMany i_place i_found i_walkers a_many a_kinds a_counts) (tyG cyI cyJ cyZ))) (qX8_openSet dC dI cyI cyJ cyZ h h_text h_many h_ones h_others h_kinds h_firsts h_persons h_gone h_at h_fines h_undos h_seenOf h_seenOpen h_path h_told h_counts h_spots h_far h_row h_begins h_ways h_next i_length i_keptMany i_undoMany i_seenMany i_pathMany i_place i_found i_walkers a_many a_kinds a_counts post (va_A (wX8_openSet cyI cyJ cyZ h h_text h_many h_ones h_others h_kinds h_firsts h_persons h_gone h_at h_fines h_undos h_seenOf h_seenOpen h_path h_told h_counts h_spots h_far h_row h_begins h_ways h_next i_length i_keptMany i_undoMany i_seenMany i_pathMany i_place i_found i_walkers a_many a_kinds a_counts) sz)) 0 0 (va_A (wX8_openSet cyI cyJ cyZ h h_text h_many h_ones h_others h_kinds h_firsts h_persons h_gone h_at h_fines h_undos h_seenOf h_seenOpen h_path h_told h_counts h_spots h_far h_row h_begins h_ways h_next i_length i_keptMany i_undoMany i_seenMany i_pathMany i_place i_found i_walkers a_many a_kinds a_counts) sz) := by
  refine Met.ofW (cc := cX8_openSet) (maxL := 3) (ret := some .int) (by decide) rfl ?_
  intro p e s m args below meth c s₁ B hml hv
  obtain ⟨rfl, hsz, hP, hK, hD0, hN⟩ := hv
  have hx := B.exec
  have hb := B.bytes
  have hr := B.returns
  have hts := atoms_spec (ws := wsX8_openSet) B.pre
  have hown : s.vm.findClass RX8 = some m.cls := findClass_of_methodNamed B.named
  have hlocks := B.notSynchronized
  subst hsz
  have hD := hD0.self (sz := s.heap.size)
  generalize hAe : va_A (wX8_openSet cyI cyJ cyZ h h_text h_many h_ones h_others h_kinds h_firsts h_persons h_gone h_at h_fines h_undos h_seenOf h_seenOpen h_path h_told h_counts h_spots h_far h_row h_begins h_ways h_next i_length i_keptMany i_undoMany i_seenMany i_pathMany i_place i_found i_walkers a_many a_kinds a_counts) s.heap.size = A at hD ⊢
  have hA : ∀ q : Nat, s.heap.size ≤ q → A q := fun q h => by rw [← hAe]; exact Or.inr h
  have hW : Wd (dC, dI) A s.heap (wX8_openSet cyI cyJ cyZ h h_text h_many h_ones h_others h_kinds h_firsts h_persons h_gone h_at h_fines h_undos h_seenOf h_seenOpen h_path h_told h_counts h_spots h_far h_row h_begins h_ways h_next i_length i_keptMany i_undoMany i_seenMany i_pathMany i_place i_found i_walkers a_many a_kinds a_counts) s.heap [] := ⟨hP, hD, va_S.rf⟩
  have hw := hwp
  have hiX8 : ∀ w ∈ u_ws RX8 TX8 30, w ∈ wsX8_openSet := fun _ h => List.mem_cons_of_mem _ (List.mem_append_right _ h)
  have k_0 := hts (.fieldLink RX8 13 "OddLetsInModel" "many" "[I") (List.mem_of_getElem? (i := 1) rfl)
  have W_4 : ∀ (n_4 : Nat) (x1 : Int32) (x2 : Int32) (H : Heap) (locs : List Loc) (ls : Array Slot), Wd (dC, dI) A s.heap (wX8_openSet cyI cyJ cyZ h h_text h_many h_ones h_others h_kinds h_firsts h_persons h_gone h_at h_fines h_undos h_seenOf h_seenOpen h_path h_told h_counts h_spots h_far h_row h_begins h_ways h_next i_length i_keptMany i_undoMany i_seenMany i_pathMany i_place i_found i_walkers a_many a_kinds a_counts) H locs → lv_has ls 3 [(0, .ref h), (1, .int x1), (2, .int x2)] → PX8_openSet_4 post a_many a_kinds a_counts n_4 x1 x2 → W p l e (({ frames := 1, cells := 0, slots := 0, locals := 23 } : Room)) s m (([.ref h] : List Value).toArray) below meth c H locs 0 0 (MQ below (qX8_openSet dC dI cyI cyJ cyZ h h_text h_many h_ones h_others h_kinds h_firsts h_persons h_gone h_at h_fines h_undos h_seenOf h_seenOpen h_path h_told h_counts h_spots h_far h_row h_begins h_ways h_next i_length i_keptMany i_undoMany i_seenMany i_pathMany i_place i_found i_walkers a_many a_kinds a_counts post A) (([.ref h] : List Value).toArray) s 0 0 A) (F0 m 4 ls []) := by
    intro n_4
    induction n_4 with
    | zero =>
      intro x1 x2 H locs ls hW hl hw
      exact False.elim hw
    | succ n_4 ih_4 =>
      intro x1 x2 H locs ls hW hl hw
      refine lv_iload_n hx hb dX8_openSet_4 rfl (lv_at hl 2 rfl) ?_
      refine lv_aload_n hx hb dX8_openSet_5 rfl (lv_at hl 0 rfl) ?_
      refine zw_get (ci := 8) (C := RX8) (T := TX8) (N := 30) (v := .ref h_many) hx hb hts hiX8 hown hK hW 0 rfl rfl 2 (by decide) rfl k_0 dX8_openSet_6 ?_
      refine lv_iconst (v := 0) hx hb dX8_openSet_9 (by decide) ?_
      refine zw_iald hx hb hK hW 1 rfl rfl hw.1 dX8_openSet_10 ?_
      replace hw := hw.2
      refine lv_icmp_ge (tgt := 39) hx hb dX8_openSet_11 (by decide) (fun c_1 => ?_) (fun c_1 => ?_)
      · replace hw := hw.1 c_1
        refine lv_iload_n hx hb dX8_openSet_39 rfl (lv_at hl 1 rfl) ?_
        refine zw_iret (S := Unit) (post := fun r u => post r) () hx hb hr hlocks hK hW hw ?_ dX8_openSet_40
        rfl
      · replace hw := hw.2 c_1
        refine lv_iload_n hx hb dX8_openSet_14 rfl (lv_at hl 1 rfl) ?_
        refine lv_aload_n hx hb dX8_openSet_15 rfl (lv_at hl 0 rfl) ?_
        refine lv_iload_n hx hb dX8_openSet_16 rfl (lv_at hl 2 rfl) ?_
        refine lv_iconst (v := 0) hx hb dX8_openSet_17 (by decide) ?_
        refine zw_Vi ⟨hx, hb, hml, hown, hts⟩ hK hN hA hW 0 rfl (T := TX8) (N := 30) rfl [.int x2, .int 0] [.int x1] [0, 2, 3] [1] [1, 0, 2, 3] (fun _ => (wX8_openSet cyI cyJ cyZ h h_text h_many h_ones h_others h_kinds h_firsts h_persons h_gone h_at h_fines h_undos h_seenOf h_seenOpen h_path h_told h_counts h_spots h_far h_row h_begins h_ways h_next i_length i_keptMany i_undoMany i_seenMany i_pathMany i_place i_found i_walkers a_many a_kinds a_counts)) (mX8_isOpen l dC dI cyI cyJ cyZ h h_text h_many h_ones h_others h_kinds h_firsts h_persons h_gone h_at h_fines h_undos h_seenOf h_seenOpen h_path h_told h_counts h_spots h_far h_row h_begins h_ways h_next _ i_length i_keptMany i_undoMany i_seenMany i_pathMany i_place i_found i_walkers a_kinds a_counts x2 0 _ hw) (cwV 2 hts gX8_openSet_X8_isOpen rfl rfl rfl (by decide +kernel) ⟨Nat.le_of_ble_eq_true rfl, Nat.le_of_ble_eq_true rfl⟩) rfl rfl rfl rfl (by decide) rfl (fun _ => rfl) rfl hl.1 rfl (Nat.le_of_ble_eq_true rfl) (Nat.le_of_ble_eq_true rfl) (Nat.le_of_ble_eq_true rfl) dX8_openSet_18 (fun r_2 u H locs hw hW => ?_)
        obtain ⟨br_2, hw⟩ := hw
        refine lv_if_eq (tgt := 30) hx hb dX8_openSet_21 (by decide) (fun c_3 => ?_) (fun c_3 => ?_)
        · replace hw := hw.1 c_3
          refine lv_iconst (v := 0) hx hb dX8_openSet_30 (by decide) ?_
          refine lv_ior hx hb dX8_openSet_31 ?_
          refine lv_topi (fun x1_4 ex1_4 => ?_)
          replace hw := hw x1_4 ex1_4
          refine lv_istore_n (lv' := [(1, .int x1_4), (0, .ref h), (2, .int x2)]) hx hb dX8_openSet_32 rfl hl (by decide) rfl (fun ls hl => ?_)
          obtain ⟨x2_5, ex2_5⟩ : ∃ y : Int32, y = x2 + 1 := ⟨_, rfl⟩
          replace hw := hw x2_5 ex2_5
          refine lv_iinc (v := x2_5) (lv' := [(2, .int x2_5), (1, .int x1_4), (0, .ref h)]) hx hb dX8_openSet_33 hl (k := 2) rfl (by rw [ex2_5]; rfl) (by decide) rfl (fun ls hl => ?_)
          refine lv_goto (tgt := 4) hx hb dX8_openSet_36 (by decide) ?_
          exact ih_4 x1_4 x2_5 _ _ _ hW (lv_sub hl [2, 1, 0] rfl) hw
        · replace hw := hw.2 c_3
          refine lv_iconst (v := 1) hx hb dX8_openSet_24 (by decide) ?_
          refine lv_iload_n hx hb dX8_openSet_25 rfl (lv_at hl 2 rfl) ?_
          refine lv_ishl hx hb dX8_openSet_26 ?_
          refine lv_goto (tgt := 31) hx hb dX8_openSet_27 (by decide) ?_
          refine lv_ior hx hb dX8_openSet_31 ?_
          refine lv_topi (fun x1_6 ex1_6 => ?_)
          replace hw := hw x1_6 ex1_6
          refine lv_istore_n (lv' := [(1, .int x1_6), (0, .ref h), (2, .int x2)]) hx hb dX8_openSet_32 rfl hl (by decide) rfl (fun ls hl => ?_)
          obtain ⟨x2_7, ex2_7⟩ : ∃ y : Int32, y = x2 + 1 := ⟨_, rfl⟩
          replace hw := hw x2_7 ex2_7
          refine lv_iinc (v := x2_7) (lv' := [(2, .int x2_7), (1, .int x1_6), (0, .ref h)]) hx hb dX8_openSet_33 hl (k := 2) rfl (by rw [ex2_7]; rfl) (by decide) rfl (fun ls hl => ?_)
          refine lv_goto (tgt := 4) hx hb dX8_openSet_36 (by decide) ?_
          exact ih_4 x1_6 x2_7 _ _ _ hW (lv_sub hl [2, 1, 0] rfl) hw
  have hl := lv_entry ([.ref h]) (n := 3) (Nat.le_of_ble_eq_true rfl)
  rw [lg_entry_eq]
  generalize (lg_sl ([.ref h]) ++ List.replicate (3 - (lg_sl ([.ref h])).length) Slot.unset).toArray = ls at hl ⊢
  have hl : lv_has ls 3 [(0, .ref h)] := hl
  refine lv_iconst (v := 0) hx hb dX8_openSet_0 (by decide) ?_
  refine lv_istore_n (lv' := [(1, .int 0), (0, .ref h)]) hx hb dX8_openSet_1 rfl hl (by decide) rfl (fun ls hl => ?_)
  refine lv_iconst (v := 0) hx hb dX8_openSet_2 (by decide) ?_
  refine lv_istore_n (lv' := [(2, .int 0), (1, .int 0), (0, .ref h)]) hx hb dX8_openSet_3 rfl hl (by decide) rfl (fun ls hl => ?_)
  obtain ⟨n_4, hw⟩ := hw
  exact W_4  n_4 0 0 _ _ _ hW (lv_sub hl [2, 1, 0] rfl) hw
abbrev wX8_gate (cyI cyJ cyZ : ClassId) (h h_text h_many h_ones h_others h_kinds h_firsts h_persons h_gone h_at h_fines h_undos h_seenOf h_seenOpen h_path h_told h_counts h_spots h_far h_row h_begins h_ways h_next : Nat) (i_length : Int32) (i_keptMany : Int32) (i_undoMany : Int32) (i_seenMany : Int32) (i_pathMany : Int32) (i_place : Int32) (i_found : Int32) (i_walkers : Int32) (a_many : Nat → Int32) (a_ones : Nat → Int32) (a_others : Nat → Int32) (a_kinds : Nat → Int32) (a_gone : Nat → Int32) (a_at : Nat → Int32) (a_counts : Nat → Int32) (a_spots : Nat → Int32) : va_W := [(h, .inr (8, [.int i_length, .ref h_text, .ref h_many, .ref h_ones, .ref h_others, .ref h_kinds, .ref h_firsts, .ref h_persons, .ref h_gone, .ref h_at, .ref h_fines, .int i_keptMany, .int i_undoMany, .ref h_undos, .int i_seenMany, .ref h_seenOf, .ref h_seenOpen, .int i_pathMany, .ref h_path, .int i_place, .ref h_told, .ref h_counts, .ref h_spots, .ref h_far, .ref h_row, .ref h_begins, .int i_found, .int i_walkers, .ref h_ways, .ref h_next])), (h_many, .inl (cyI, 2, .inl a_many)), (h_ones, .inl (cyI, 10, .inl a_ones)), (h_others, .inl (cyI, 10, .inl a_others)), (h_kinds, .inl (cyI, 10, .inl a_kinds)), (h_gone, .inl (cyI, 15, .inl a_gone)), (h_at, .inl (cyI, 9, .inl a_at)), (h_counts, .inl (cyI, 5, .inl a_counts)), (h_spots, .inl (cyI, 3, .inl a_spots))]
abbrev qX8_gate (dC : Nat → ClassId) (dI : Nat → Nat → Nat) (cyI cyJ cyZ : ClassId) (h h_text h_many h_ones h_others h_kinds h_firsts h_persons h_gone h_at h_fines h_undos h_seenOf h_seenOpen h_path h_told h_counts h_spots h_far h_row h_begins h_ways h_next : Nat) (i_length : Int32) (i_keptMany : Int32) (i_undoMany : Int32) (i_seenMany : Int32) (i_pathMany : Int32) (i_place : Int32) (i_found : Int32) (i_walkers : Int32) (a_many : Nat → Int32) (a_ones : Nat → Int32) (a_others : Nat → Int32) (a_kinds : Nat → Int32) (a_gone : Nat → Int32) (a_at : Nat → Int32) (a_counts : Nat → Int32) (a_spots : Nat → Int32) (post : Int32 → (Nat → Int32) → (Nat → Int32) → Prop) (A : Nat → Prop) : Array Value → State → Outcome → State → Prop := (va_Qi (fun (r : Int32) (u : (Nat → Int32) × (Nat → Int32)) => post r u.1 u.2) (bW (dC, dI) (tyG cyI cyJ cyZ) A (fun u : (Nat → Int32) × (Nat → Int32) => (wX8_gate cyI cyJ cyZ h h_text h_many h_ones h_others h_kinds h_firsts h_persons h_gone h_at h_fines h_undos h_seenOf h_seenOpen h_path h_told h_counts h_spots h_far h_row h_begins h_ways h_next i_length i_keptMany i_undoMany i_seenMany i_pathMany i_place i_found i_walkers a_many a_ones a_others a_kinds a_gone a_at (u.1) (u.2)))) A)
set_option maxHeartbeats 4000000 in
set_option maxRecDepth 100000 in
theorem mX8_gate (l : Launch) (dC : Nat → ClassId) (dI : Nat → Nat → Nat) (cyI cyJ cyZ : ClassId) (h h_text h_many h_ones h_others h_kinds h_firsts h_persons h_gone h_at h_fines h_undos h_seenOf h_seenOpen h_path h_told h_counts h_spots h_far h_row h_begins h_ways h_next : Nat) (sz : Nat) (i_length : Int32) (i_keptMany : Int32) (i_undoMany : Int32) (i_seenMany : Int32) (i_pathMany : Int32) (i_place : Int32) (i_found : Int32) (i_walkers : Int32) (a_many : Nat → Int32) (a_ones : Nat → Int32) (a_others : Nat → Int32) (a_kinds : Nat → Int32) (a_gone : Nat → Int32) (a_at : Nat → Int32) (a_counts : Nat → Int32) (a_spots : Nat → Int32) (x1 : Int32) (x2 : Int32) (post : Int32 → (Nat → Int32) → (Nat → Int32) → Prop) (hwp : PX8_gate x1 x2 a_many a_ones a_others a_kinds a_gone a_at a_counts a_spots post) : Met l yX8_gate wsX8_gate ({ frames := 2, cells := 0, slots := 0, locals := 46 } : Room) (va_Pc [.ref h, .int x1, .int x2] (pcW (dC, dI) sz (wX8_gate cyI cyJ cyZ h h_text h_many h_ones h_others h_kinds h_firsts h_persons h_gone h_at h_fines h_undos h_seenOf h_seenOpen h_path h_told h_counts h_spots h_far h_row h_begins h_ways h_next i_length i_keptMany i_undoMany i_seenMany i_pathMany i_place i_found i_walkers a_many a_ones a_others a_kinds a_gone a_at a_counts a_spots) (tyG cyI cyJ cyZ))) (qX8_gate dC dI cyI cyJ cyZ h h_text h_many h_ones h_others h_kinds h_firsts h_persons h_gone h_at h_fines h_undos h_seenOf h_seenOpen h_path h_told h_counts h_spots h_far h_row h_begins h_ways h_next i_length i_keptMany i_undoMany i_seenMany i_pathMany i_place i_found i_walkers a_many a_ones a_others a_kinds a_gone a_at a_counts a_spots post (va_A (wX8_gate cyI cyJ cyZ h h_text h_many h_ones h_others h_kinds h_firsts h_persons h_gone h_at h_fines h_undos h_seenOf h_seenOpen h_path h_told h_counts h_spots h_far h_row h_begins h_ways h_next i_length i_keptMany i_undoMany i_seenMany i_pathMany i_place i_found i_walkers a_many a_ones a_others a_kinds a_gone a_at a_counts a_spots) sz)) 0 0 (va_A (wX8_gate cyI cyJ cyZ h h_text h_many h_ones h_others h_kinds h_firsts h_persons h_gone h_at h_fines h_undos h_seenOf h_seenOpen h_path h_told h_counts h_spots h_far h_row h_begins h_ways h_next i_length i_keptMany i_undoMany i_seenMany i_pathMany i_place i_found i_walkers a_many a_ones a_others a_kinds a_gone a_at a_counts a_spots) sz) := by
  refine Met.ofW (cc := cX8_gate) (maxL := 3) (ret := some .int) (by decide) rfl ?_
  intro p e s m args below meth c s₁ B hml hv
  obtain ⟨rfl, hsz, hP, hK, hD0, hN⟩ := hv
  have hx := B.exec
  have hb := B.bytes
  have hr := B.returns
  have hts := atoms_spec (ws := wsX8_gate) B.pre
  have hown : s.vm.findClass RX8 = some m.cls := findClass_of_methodNamed B.named
  have hlocks := B.notSynchronized
  subst hsz
  have hD := hD0.self (sz := s.heap.size)
  generalize hAe : va_A (wX8_gate cyI cyJ cyZ h h_text h_many h_ones h_others h_kinds h_firsts h_persons h_gone h_at h_fines h_undos h_seenOf h_seenOpen h_path h_told h_counts h_spots h_far h_row h_begins h_ways h_next i_length i_keptMany i_undoMany i_seenMany i_pathMany i_place i_found i_walkers a_many a_ones a_others a_kinds a_gone a_at a_counts a_spots) s.heap.size = A at hD ⊢
  have hA : ∀ q : Nat, s.heap.size ≤ q → A q := fun q h => by rw [← hAe]; exact Or.inr h
  have hW : Wd (dC, dI) A s.heap (wX8_gate cyI cyJ cyZ h h_text h_many h_ones h_others h_kinds h_firsts h_persons h_gone h_at h_fines h_undos h_seenOf h_seenOpen h_path h_told h_counts h_spots h_far h_row h_begins h_ways h_next i_length i_keptMany i_undoMany i_seenMany i_pathMany i_place i_found i_walkers a_many a_ones a_others a_kinds a_gone a_at a_counts a_spots) s.heap [] := ⟨hP, hD, va_S.rf⟩
  have hw := hwp
  have hiX8 : ∀ w ∈ u_ws RX8 TX8 30, w ∈ wsX8_gate := fun _ h => List.mem_cons_of_mem _ (List.mem_append_right _ h)
  have k_0 := hts (.constantLong RX8 145 (5)) (List.mem_of_getElem? (i := 1) rfl)
  have k_1 := hts (.fieldLink RX8 16 "OddLetsInModel" "ones" "[I") (List.mem_of_getElem? (i := 2) rfl)
  have k_2 := hts (.fieldLink RX8 19 "OddLetsInModel" "others" "[I") (List.mem_of_getElem? (i := 3) rfl)
  have k_3 := hts (.fieldLink RX8 22 "OddLetsInModel" "kinds" "[I") (List.mem_of_getElem? (i := 4) rfl)
  have k_4 := hts (.fieldLink RX8 31 "OddLetsInModel" "gone" "[I") (List.mem_of_getElem? (i := 5) rfl)
  have hl := lv_entry ([.ref h, .int x1, .int x2]) (n := 3) (Nat.le_of_ble_eq_true rfl)
  rw [lg_entry_eq]
  generalize (lg_sl ([.ref h, .int x1, .int x2]) ++ List.replicate (3 - (lg_sl ([.ref h, .int x1, .int x2])).length) Slot.unset).toArray = ls at hl ⊢
  have hl : lv_has ls 3 [(0, .ref h), (1, .int x1), (2, .int x2)] := hl
  refine lv_aload_n hx hb dX8_gate_0 rfl (lv_at hl 0 rfl) ?_
  refine lv_iload_n hx hb dX8_gate_1 rfl (lv_at hl 1 rfl) ?_
  refine zw_Vi ⟨hx, hb, hml, hown, hts⟩ hK hN hA hW 0 rfl (T := TX8) (N := 30) rfl [.int x1] [] [0, 1] [2, 3, 4, 5, 6, 7, 8] [7, 8, 0, 1, 2, 3, 4, 5, 6] (fun _ => (wX8_gate cyI cyJ cyZ h h_text h_many h_ones h_others h_kinds h_firsts h_persons h_gone h_at h_fines h_undos h_seenOf h_seenOpen h_path h_told h_counts h_spots h_far h_row h_begins h_ways h_next i_length i_keptMany i_undoMany i_seenMany i_pathMany i_place i_found i_walkers a_many a_ones a_others a_kinds a_gone a_at a_counts a_spots)) (mX8_isGate l dC dI cyI cyJ cyZ h h_text h_many h_ones h_others h_kinds h_firsts h_persons h_gone h_at h_fines h_undos h_seenOf h_seenOpen h_path h_told h_counts h_spots h_far h_row h_begins h_ways h_next _ i_length i_keptMany i_undoMany i_seenMany i_pathMany i_place i_found i_walkers a_many x1 _ hw) (cwV 1 hts gX8_gate_X8_isGate rfl rfl rfl (by decide +kernel) ⟨Nat.le_of_ble_eq_true rfl, Nat.le_of_ble_eq_true rfl⟩) rfl rfl rfl rfl (by decide) rfl (fun _ => rfl) rfl hl.1 rfl (Nat.le_of_ble_eq_true rfl) (Nat.le_of_ble_eq_true rfl) (Nat.le_of_ble_eq_true rfl) dX8_gate_2 (fun r_1 u H locs hw hW => ?_)
  obtain ⟨br_1, hw⟩ := hw
  refine lv_if_eq (tgt := 20) hx hb dX8_gate_5 (by decide) (fun c_2 => ?_) (fun c_2 => ?_)
  · replace hw := hw.1 c_2
    refine lv_iconst (v := (-1)) hx hb dX8_gate_20 (by decide) ?_
    refine zw_iret (S := (Nat → Int32) × (Nat → Int32)) (post := fun r u => post r u.1 u.2) (a_counts, a_spots) hx hb hr hlocks hK hW hw ?_ dX8_gate_21
    rfl
  · replace hw := hw.2 c_2
    refine lv_iload_n hx hb dX8_gate_8 rfl (lv_at hl 2 rfl) ?_
    refine lv_i2l hx hb dX8_gate_9 rfl ?_
    refine lv_lconst (v := 0) hx hb dX8_gate_10 (by decide) ?_
    refine lv_ldc2 hx hb hown k_0 dX8_gate_11 ?_
    refine zw_Si ⟨hx, hb, hml, hown, hts⟩ hK hN hA hW [.long ((x2).toInt64), .long 0, .long 5] [] [] [0, 1, 2, 3, 4, 5, 6, 7, 8] [0, 1, 2, 3, 4, 5, 6, 7, 8] (fun _ => (wX8_gate cyI cyJ cyZ h h_text h_many h_ones h_others h_kinds h_firsts h_persons h_gone h_at h_fines h_undos h_seenOf h_seenOpen h_path h_told h_counts h_spots h_far h_row h_begins h_ways h_next i_length i_keptMany i_undoMany i_seenMany i_pathMany i_place i_found i_walkers a_many a_ones a_others a_kinds a_gone a_at a_counts a_spots)) (mX8_in l dC dI cyI cyJ cyZ _ ((x2).toInt64) 0 5 _ hw) (va_cwS 3 hts gX8_gate_X8_in rfl rfl rfl (by decide +kernel) ⟨Nat.le_of_ble_eq_true rfl, Nat.le_of_ble_eq_true rfl⟩) rfl rfl rfl rfl (by decide) rfl (fun _ => rfl) rfl hl.1 rfl (Nat.le_of_ble_eq_true rfl) (Nat.le_of_ble_eq_true rfl) (Nat.le_of_ble_eq_true rfl) dX8_gate_14 (fun r_3 u H locs hw hW => ?_)
    obtain ⟨br_3, hw⟩ := hw
    refine lv_if_ne (tgt := 22) hx hb dX8_gate_17 (by decide) (fun c_4 => ?_) (fun c_4 => ?_)
    · replace hw := hw.2 c_4
      refine lv_aload_n hx hb dX8_gate_22 rfl (lv_at hl 0 rfl) ?_
      refine zw_Vv ⟨hx, hb, hml, hown, hts⟩ hK hN hA hW 0 rfl (T := TX8) (N := 30) rfl [] [] [0, 5, 6, 7, 8] [1, 2, 3, 4] [4, 0, 1, 2, 3, 5, 6, 7, 8] (fun u => (wX8_gate cyI cyJ cyZ h h_text h_many h_ones h_others h_kinds h_firsts h_persons h_gone h_at h_fines h_undos h_seenOf h_seenOpen h_path h_told h_counts h_spots h_far h_row h_begins h_ways h_next i_length i_keptMany i_undoMany i_seenMany i_pathMany i_place i_found i_walkers a_many a_ones a_others a_kinds a_gone a_at (u.1) (u.2))) (mX8_layNow l dC dI cyI cyJ cyZ h h_text h_many h_ones h_others h_kinds h_firsts h_persons h_gone h_at h_fines h_undos h_seenOf h_seenOpen h_path h_told h_counts h_spots h_far h_row h_begins h_ways h_next _ i_length i_keptMany i_undoMany i_seenMany i_pathMany i_place i_found i_walkers a_gone a_at a_counts a_spots _ hw) (cwV 0 hts gX8_gate_X8_layNow rfl rfl rfl (by decide +kernel) ⟨Nat.le_of_ble_eq_true rfl, Nat.le_of_ble_eq_true rfl⟩) rfl rfl rfl rfl (by decide) rfl (fun _ => rfl) rfl hl.1 rfl (Nat.le_of_ble_eq_true rfl) (Nat.le_of_ble_eq_true rfl) (Nat.le_of_ble_eq_true rfl) dX8_gate_23 (fun u H locs hw hW => ?_)
      obtain ⟨a_counts_5, a_spots_6⟩ := u
      try dsimp only at hw
      replace hW : Wd (dC, dI) A s.heap (wX8_gate cyI cyJ cyZ h h_text h_many h_ones h_others h_kinds h_firsts h_persons h_gone h_at h_fines h_undos h_seenOf h_seenOpen h_path h_told h_counts h_spots h_far h_row h_begins h_ways h_next i_length i_keptMany i_undoMany i_seenMany i_pathMany i_place i_found i_walkers a_many a_ones a_others a_kinds a_gone a_at a_counts_5 a_spots_6) H locs := hW
      refine lv_iload_n hx hb dX8_gate_26 rfl (lv_at hl 2 rfl) ?_
      refine lv_topi (fun t_7 et_7 => ?_)
      replace hw := hw t_7 et_7
      by_cases c_8 : t_7 = 0
      · replace hw := hw.1 c_8
        refine lv_tableIn (off := 29) (tgt := 56) hx hb dX8_gate_27 (by rw [c_8]; decide) (by rw [c_8]; decide) (by rw [c_8]; decide) (by decide) ?_
        refine lv_aload_n hx hb dX8_gate_56 rfl (lv_at hl 0 rfl) ?_
        refine zw_get (ci := 8) (C := RX8) (T := TX8) (N := 30) (v := .ref h_ones) hx hb hts hiX8 hown hK hW 0 rfl rfl 3 (by decide) rfl k_1 dX8_gate_57 ?_
        refine lv_iload_n hx hb dX8_gate_60 rfl (lv_at hl 1 rfl) ?_
        refine zw_iald hx hb hK hW 2 rfl rfl hw.1 dX8_gate_61 ?_
        replace hw := hw.2
        refine zw_iret (S := (Nat → Int32) × (Nat → Int32)) (post := fun r u => post r u.1 u.2) (a_counts_5, a_spots_6) hx hb hr hlocks hK hW hw ?_ dX8_gate_62
        rfl
      · replace hw := hw.2 c_8
        by_cases c_9 : t_7 = 1
        · replace hw := hw.1 c_9
          refine lv_tableIn (off := 36) (tgt := 63) hx hb dX8_gate_27 (by rw [c_9]; decide) (by rw [c_9]; decide) (by rw [c_9]; decide) (by decide) ?_
          refine lv_aload_n hx hb dX8_gate_63 rfl (lv_at hl 0 rfl) ?_
          refine zw_get (ci := 8) (C := RX8) (T := TX8) (N := 30) (v := .ref h_others) hx hb hts hiX8 hown hK hW 0 rfl rfl 4 (by decide) rfl k_2 dX8_gate_64 ?_
          refine lv_iload_n hx hb dX8_gate_67 rfl (lv_at hl 1 rfl) ?_
          refine zw_iald hx hb hK hW 3 rfl rfl hw.1 dX8_gate_68 ?_
          replace hw := hw.2
          refine zw_iret (S := (Nat → Int32) × (Nat → Int32)) (post := fun r u => post r u.1 u.2) (a_counts_5, a_spots_6) hx hb hr hlocks hK hW hw ?_ dX8_gate_69
          rfl
        · replace hw := hw.2 c_9
          by_cases c_10 : t_7 = 2
          · replace hw := hw.1 c_10
            refine lv_tableIn (off := 43) (tgt := 70) hx hb dX8_gate_27 (by rw [c_10]; decide) (by rw [c_10]; decide) (by rw [c_10]; decide) (by decide) ?_
            refine lv_aload_n hx hb dX8_gate_70 rfl (lv_at hl 0 rfl) ?_
            refine zw_get (ci := 8) (C := RX8) (T := TX8) (N := 30) (v := .ref h_kinds) hx hb hts hiX8 hown hK hW 0 rfl rfl 5 (by decide) rfl k_3 dX8_gate_71 ?_
            refine lv_iload_n hx hb dX8_gate_74 rfl (lv_at hl 1 rfl) ?_
            refine zw_iald hx hb hK hW 4 rfl rfl hw.1 dX8_gate_75 ?_
            replace hw := hw.2
            refine zw_iret (S := (Nat → Int32) × (Nat → Int32)) (post := fun r u => post r u.1 u.2) (a_counts_5, a_spots_6) hx hb hr hlocks hK hW hw ?_ dX8_gate_76
            rfl
          · replace hw := hw.2 c_10
            by_cases c_11 : t_7 = 3
            · replace hw := hw.1 c_11
              refine lv_tableIn (off := 50) (tgt := 77) hx hb dX8_gate_27 (by rw [c_11]; decide) (by rw [c_11]; decide) (by rw [c_11]; decide) (by decide) ?_
              refine lv_aload_n hx hb dX8_gate_77 rfl (lv_at hl 0 rfl) ?_
              refine zw_get (ci := 8) (C := RX8) (T := TX8) (N := 30) (v := .ref h_gone) hx hb hts hiX8 hown hK hW 0 rfl rfl 8 (by decide) rfl k_4 dX8_gate_78 ?_
              refine lv_iload_n hx hb dX8_gate_81 rfl (lv_at hl 1 rfl) ?_
              refine zw_iald hx hb hK hW 5 rfl rfl hw.1 dX8_gate_82 ?_
              replace hw := hw.2
              refine zw_iret (S := (Nat → Int32) × (Nat → Int32)) (post := fun r u => post r u.1 u.2) (a_counts_5, a_spots_6) hx hb hr hlocks hK hW hw ?_ dX8_gate_83
              rfl
            · replace hw := hw.2 c_11
              refine lv_tableOut (tgt := 84) hx hb dX8_gate_27 (zb_ts 3 (fun k hk => by rcases (show k = 0 ∨ k = 1 ∨ k = 2 ∨ k = 3 by omega) with rfl | rfl | rfl | rfl <;> assumption) (by decide)) (by decide) ?_
              refine lv_aload_n hx hb dX8_gate_84 rfl (lv_at hl 0 rfl) ?_
              refine lv_iload_n hx hb dX8_gate_85 rfl (lv_at hl 1 rfl) ?_
              refine lv_iload_n hx hb dX8_gate_86 rfl (lv_at hl 2 rfl) ?_
              refine lv_iconst (v := 4) hx hb dX8_gate_87 (by decide) ?_
              refine lv_isub hx hb dX8_gate_88 ?_
              refine zw_Vi ⟨hx, hb, hml, hown, hts⟩ hK hN hA hW 0 rfl (T := TX8) (N := 30) rfl [.int x1, .int (x2 - 4)] [] [0, 4, 7] [1, 2, 3, 5, 6, 8] [6, 0, 1, 2, 7, 3, 4, 8, 5] (fun _ => (wX8_gate cyI cyJ cyZ h h_text h_many h_ones h_others h_kinds h_firsts h_persons h_gone h_at h_fines h_undos h_seenOf h_seenOpen h_path h_told h_counts h_spots h_far h_row h_begins h_ways h_next i_length i_keptMany i_undoMany i_seenMany i_pathMany i_place i_found i_walkers a_many a_ones a_others a_kinds a_gone a_at a_counts_5 a_spots_6)) (mX8_isOpen l dC dI cyI cyJ cyZ h h_text h_many h_ones h_others h_kinds h_firsts h_persons h_gone h_at h_fines h_undos h_seenOf h_seenOpen h_path h_told h_counts h_spots h_far h_row h_begins h_ways h_next _ i_length i_keptMany i_undoMany i_seenMany i_pathMany i_place i_found i_walkers a_kinds a_counts_5 x1 (x2 - 4) _ hw) (cwV 2 hts gX8_gate_X8_isOpen rfl rfl rfl (by decide +kernel) ⟨Nat.le_of_ble_eq_true rfl, Nat.le_of_ble_eq_true rfl⟩) rfl rfl rfl rfl (by decide) rfl (fun _ => rfl) rfl hl.1 rfl (Nat.le_of_ble_eq_true rfl) (Nat.le_of_ble_eq_true rfl) (Nat.le_of_ble_eq_true rfl) dX8_gate_89 (fun r_12 u H locs hw hW => ?_)
              obtain ⟨br_12, hw⟩ := hw
              refine lv_if_eq (tgt := 99) hx hb dX8_gate_92 (by decide) (fun c_13 => ?_) (fun c_13 => ?_)
              · replace hw := hw.1 c_13
                refine lv_iconst (v := 0) hx hb dX8_gate_99 (by decide) ?_
                refine zw_iret (S := (Nat → Int32) × (Nat → Int32)) (post := fun r u => post r u.1 u.2) (a_counts_5, a_spots_6) hx hb hr hlocks hK hW hw ?_ dX8_gate_100
                rfl
              · replace hw := hw.2 c_13
                refine lv_iconst (v := 1) hx hb dX8_gate_95 (by decide) ?_
                refine lv_goto (tgt := 100) hx hb dX8_gate_96 (by decide) ?_
                refine zw_iret (S := (Nat → Int32) × (Nat → Int32)) (post := fun r u => post r u.1 u.2) (a_counts_5, a_spots_6) hx hb hr hlocks hK hW hw ?_ dX8_gate_100
                rfl
    · replace hw := hw.1 c_4
      refine lv_iconst (v := (-1)) hx hb dX8_gate_20 (by decide) ?_
      refine zw_iret (S := (Nat → Int32) × (Nat → Int32)) (post := fun r u => post r u.1 u.2) (a_counts, a_spots) hx hb hr hlocks hK hW hw ?_ dX8_gate_21
      rfl
abbrev wX8_where (cyI cyJ cyZ : ClassId) (h h_text h_many h_ones h_others h_kinds h_firsts h_persons h_gone h_at h_fines h_undos h_seenOf h_seenOpen h_path h_told h_counts h_spots h_far h_row h_begins h_ways h_next : Nat) (i_length : Int32) (i_keptMany : Int32) (i_undoMany : Int32) (i_seenMany : Int32) (i_pathMany : Int32) (i_place : Int32) (i_found : Int32) (i_walkers : Int32) (a_persons : Nat → Int32) (a_at : Nat → Int32) : va_W := [(h, .inr (8, [.int i_length, .ref h_text, .ref h_many, .ref h_ones, .ref h_others, .ref h_kinds, .ref h_firsts, .ref h_persons, .ref h_gone, .ref h_at, .ref h_fines, .int i_keptMany, .int i_undoMany, .ref h_undos, .int i_seenMany, .ref h_seenOf, .ref h_seenOpen, .int i_pathMany, .ref h_path, .int i_place, .ref h_told, .ref h_counts, .ref h_spots, .ref h_far, .ref h_row, .ref h_begins, .int i_found, .int i_walkers, .ref h_ways, .ref h_next])), (h_persons, .inl (cyI, 2, .inl a_persons)), (h_at, .inl (cyI, 9, .inl a_at))]
abbrev qX8_where (dC : Nat → ClassId) (dI : Nat → Nat → Nat) (cyI cyJ cyZ : ClassId) (h h_text h_many h_ones h_others h_kinds h_firsts h_persons h_gone h_at h_fines h_undos h_seenOf h_seenOpen h_path h_told h_counts h_spots h_far h_row h_begins h_ways h_next : Nat) (i_length : Int32) (i_keptMany : Int32) (i_undoMany : Int32) (i_seenMany : Int32) (i_pathMany : Int32) (i_place : Int32) (i_found : Int32) (i_walkers : Int32) (a_persons : Nat → Int32) (a_at : Nat → Int32) (post : Int32 → Prop) (A : Nat → Prop) : Array Value → State → Outcome → State → Prop := (va_Qi (fun (r : Int32) (u : Unit) => post r) (bW (dC, dI) (tyG cyI cyJ cyZ) A (fun _ : Unit => (wX8_where cyI cyJ cyZ h h_text h_many h_ones h_others h_kinds h_firsts h_persons h_gone h_at h_fines h_undos h_seenOf h_seenOpen h_path h_told h_counts h_spots h_far h_row h_begins h_ways h_next i_length i_keptMany i_undoMany i_seenMany i_pathMany i_place i_found i_walkers a_persons a_at))) A)
set_option maxHeartbeats 4000000 in
set_option maxRecDepth 100000 in
theorem mX8_where (l : Launch) (dC : Nat → ClassId) (dI : Nat → Nat → Nat) (cyI cyJ cyZ : ClassId) (h h_text h_many h_ones h_others h_kinds h_firsts h_persons h_gone h_at h_fines h_undos h_seenOf h_seenOpen h_path h_told h_counts h_spots h_far h_row h_begins h_ways h_next : Nat) (sz : Nat) (i_length : Int32) (i_keptMany : Int32) (i_undoMany : Int32) (i_seenMany : Int32) (i_pathMany : Int32) (i_place : Int32) (i_found : Int32) (i_walkers : Int32) (a_persons : Nat → Int32) (a_at : Nat → Int32) (x1 : Int32) (post : Int32 → Prop) (hwp : PX8_where x1 a_persons a_at post) : Met l yX8_where wsX8_where ({ frames := 2, cells := 0, slots := 0, locals := 46 } : Room) (va_Pc [.ref h, .int x1] (pcW (dC, dI) sz (wX8_where cyI cyJ cyZ h h_text h_many h_ones h_others h_kinds h_firsts h_persons h_gone h_at h_fines h_undos h_seenOf h_seenOpen h_path h_told h_counts h_spots h_far h_row h_begins h_ways h_next i_length i_keptMany i_undoMany i_seenMany i_pathMany i_place i_found i_walkers a_persons a_at) (tyG cyI cyJ cyZ))) (qX8_where dC dI cyI cyJ cyZ h h_text h_many h_ones h_others h_kinds h_firsts h_persons h_gone h_at h_fines h_undos h_seenOf h_seenOpen h_path h_told h_counts h_spots h_far h_row h_begins h_ways h_next i_length i_keptMany i_undoMany i_seenMany i_pathMany i_place i_found i_walkers a_persons a_at post (va_A (wX8_where cyI cyJ cyZ h h_text h_many h_ones h_others h_kinds h_firsts h_persons h_gone h_at h_fines h_undos h_seenOf h_seenOpen h_path h_told h_counts h_spots h_far h_row h_begins h_ways h_next i_length i_keptMany i_undoMany i_seenMany i_pathMany i_place i_found i_walkers a_persons a_at) sz)) 0 0 (va_A (wX8_where cyI cyJ cyZ h h_text h_many h_ones h_others h_kinds h_firsts h_persons h_gone h_at h_fines h_undos h_seenOf h_seenOpen h_path h_told h_counts h_spots h_far h_row h_begins h_ways h_next i_length i_keptMany i_undoMany i_seenMany i_pathMany i_place i_found i_walkers a_persons a_at) sz) := by
  refine Met.ofW (cc := cX8_where) (maxL := 2) (ret := some .int) (by decide) rfl ?_
  intro p e s m args below meth c s₁ B hml hv
  obtain ⟨rfl, hsz, hP, hK, hD0, hN⟩ := hv
  have hx := B.exec
  have hb := B.bytes
  have hr := B.returns
  have hts := atoms_spec (ws := wsX8_where) B.pre
  have hown : s.vm.findClass RX8 = some m.cls := findClass_of_methodNamed B.named
  have hlocks := B.notSynchronized
  subst hsz
  have hD := hD0.self (sz := s.heap.size)
  generalize hAe : va_A (wX8_where cyI cyJ cyZ h h_text h_many h_ones h_others h_kinds h_firsts h_persons h_gone h_at h_fines h_undos h_seenOf h_seenOpen h_path h_told h_counts h_spots h_far h_row h_begins h_ways h_next i_length i_keptMany i_undoMany i_seenMany i_pathMany i_place i_found i_walkers a_persons a_at) s.heap.size = A at hD ⊢
  have hA : ∀ q : Nat, s.heap.size ≤ q → A q := fun q h => by rw [← hAe]; exact Or.inr h
  have hW : Wd (dC, dI) A s.heap (wX8_where cyI cyJ cyZ h h_text h_many h_ones h_others h_kinds h_firsts h_persons h_gone h_at h_fines h_undos h_seenOf h_seenOpen h_path h_told h_counts h_spots h_far h_row h_begins h_ways h_next i_length i_keptMany i_undoMany i_seenMany i_pathMany i_place i_found i_walkers a_persons a_at) s.heap [] := ⟨hP, hD, va_S.rf⟩
  have hw := hwp
  have hiX8 : ∀ w ∈ u_ws RX8 TX8 30, w ∈ wsX8_where := fun _ h => List.mem_cons_of_mem _ (List.mem_append_right _ h)
  have k_0 := hts (.fieldLink RX8 34 "OddLetsInModel" "at" "[I") (List.mem_of_getElem? (i := 1) rfl)
  have hl := lv_entry ([.ref h, .int x1]) (n := 2) (Nat.le_of_ble_eq_true rfl)
  rw [lg_entry_eq]
  generalize (lg_sl ([.ref h, .int x1]) ++ List.replicate (2 - (lg_sl ([.ref h, .int x1])).length) Slot.unset).toArray = ls at hl ⊢
  have hl : lv_has ls 2 [(0, .ref h), (1, .int x1)] := hl
  refine lv_aload_n hx hb dX8_where_0 rfl (lv_at hl 0 rfl) ?_
  refine lv_iload_n hx hb dX8_where_1 rfl (lv_at hl 1 rfl) ?_
  refine zw_Vi ⟨hx, hb, hml, hown, hts⟩ hK hN hA hW 0 rfl (T := TX8) (N := 30) rfl [.int x1] [] [0, 1] [2] [1, 2, 0] (fun _ => (wX8_where cyI cyJ cyZ h h_text h_many h_ones h_others h_kinds h_firsts h_persons h_gone h_at h_fines h_undos h_seenOf h_seenOpen h_path h_told h_counts h_spots h_far h_row h_begins h_ways h_next i_length i_keptMany i_undoMany i_seenMany i_pathMany i_place i_found i_walkers a_persons a_at)) (mX8_isPerson l dC dI cyI cyJ cyZ h h_text h_many h_ones h_others h_kinds h_firsts h_persons h_gone h_at h_fines h_undos h_seenOf h_seenOpen h_path h_told h_counts h_spots h_far h_row h_begins h_ways h_next _ i_length i_keptMany i_undoMany i_seenMany i_pathMany i_place i_found i_walkers a_persons x1 _ hw) (cwV 1 hts gX8_where_X8_isPerson rfl rfl rfl (by decide +kernel) ⟨Nat.le_of_ble_eq_true rfl, Nat.le_of_ble_eq_true rfl⟩) rfl rfl rfl rfl (by decide) rfl (fun _ => rfl) rfl hl.1 rfl (Nat.le_of_ble_eq_true rfl) (Nat.le_of_ble_eq_true rfl) (Nat.le_of_ble_eq_true rfl) dX8_where_2 (fun r_1 u H locs hw hW => ?_)
  obtain ⟨br_1, hw⟩ := hw
  refine lv_if_eq (tgt := 17) hx hb dX8_where_5 (by decide) (fun c_2 => ?_) (fun c_2 => ?_)
  · replace hw := hw.1 c_2
    refine lv_iconst (v := (-1)) hx hb dX8_where_17 (by decide) ?_
    refine zw_iret (S := Unit) (post := fun r u => post r) () hx hb hr hlocks hK hW hw ?_ dX8_where_18
    rfl
  · replace hw := hw.2 c_2
    refine lv_aload_n hx hb dX8_where_8 rfl (lv_at hl 0 rfl) ?_
    refine zw_get (ci := 8) (C := RX8) (T := TX8) (N := 30) (v := .ref h_at) hx hb hts hiX8 hown hK hW 0 rfl rfl 9 (by decide) rfl k_0 dX8_where_9 ?_
    refine lv_iload_n hx hb dX8_where_12 rfl (lv_at hl 1 rfl) ?_
    refine zw_iald hx hb hK hW 2 rfl rfl hw.1 dX8_where_13 ?_
    replace hw := hw.2
    refine lv_goto (tgt := 18) hx hb dX8_where_14 (by decide) ?_
    refine zw_iret (S := Unit) (post := fun r u => post r) () hx hb hr hlocks hK hW hw ?_ dX8_where_18
    rfl
abbrev wX8_canNow (cyI cyJ cyZ : ClassId) (h h_text h_many h_ones h_others h_kinds h_firsts h_persons h_gone h_at h_fines h_undos h_seenOf h_seenOpen h_path h_told h_counts h_spots h_far h_row h_begins h_ways h_next : Nat) (i_length : Int32) (i_keptMany : Int32) (i_undoMany : Int32) (i_seenMany : Int32) (i_pathMany : Int32) (i_place : Int32) (i_found : Int32) (i_walkers : Int32) (a_ones : Nat → Int32) (a_others : Nat → Int32) (a_kinds : Nat → Int32) (a_gone : Nat → Int32) (a_at : Nat → Int32) (a_counts : Nat → Int32) (a_spots : Nat → Int32) : va_W := [(h, .inr (8, [.int i_length, .ref h_text, .ref h_many, .ref h_ones, .ref h_others, .ref h_kinds, .ref h_firsts, .ref h_persons, .ref h_gone, .ref h_at, .ref h_fines, .int i_keptMany, .int i_undoMany, .ref h_undos, .int i_seenMany, .ref h_seenOf, .ref h_seenOpen, .int i_pathMany, .ref h_path, .int i_place, .ref h_told, .ref h_counts, .ref h_spots, .ref h_far, .ref h_row, .ref h_begins, .int i_found, .int i_walkers, .ref h_ways, .ref h_next])), (h_ones, .inl (cyI, 10, .inl a_ones)), (h_others, .inl (cyI, 10, .inl a_others)), (h_kinds, .inl (cyI, 10, .inl a_kinds)), (h_gone, .inl (cyI, 15, .inl a_gone)), (h_at, .inl (cyI, 9, .inl a_at)), (h_counts, .inl (cyI, 5, .inl a_counts)), (h_spots, .inl (cyI, 3, .inl a_spots))]
abbrev qX8_canNow (dC : Nat → ClassId) (dI : Nat → Nat → Nat) (cyI cyJ cyZ : ClassId) (h h_text h_many h_ones h_others h_kinds h_firsts h_persons h_gone h_at h_fines h_undos h_seenOf h_seenOpen h_path h_told h_counts h_spots h_far h_row h_begins h_ways h_next : Nat) (i_length : Int32) (i_keptMany : Int32) (i_undoMany : Int32) (i_seenMany : Int32) (i_pathMany : Int32) (i_place : Int32) (i_found : Int32) (i_walkers : Int32) (a_ones : Nat → Int32) (a_others : Nat → Int32) (a_kinds : Nat → Int32) (a_gone : Nat → Int32) (a_at : Nat → Int32) (a_counts : Nat → Int32) (a_spots : Nat → Int32) (post : Int32 → (Nat → Int32) → (Nat → Int32) → Prop) (A : Nat → Prop) : Array Value → State → Outcome → State → Prop := (va_Qi (fun (r : Int32) (u : (Nat → Int32) × (Nat → Int32)) => (r = 0 ∨ r = 1) ∧ post r u.1 u.2) (bW (dC, dI) (tyG cyI cyJ cyZ) A (fun u : (Nat → Int32) × (Nat → Int32) => (wX8_canNow cyI cyJ cyZ h h_text h_many h_ones h_others h_kinds h_firsts h_persons h_gone h_at h_fines h_undos h_seenOf h_seenOpen h_path h_told h_counts h_spots h_far h_row h_begins h_ways h_next i_length i_keptMany i_undoMany i_seenMany i_pathMany i_place i_found i_walkers a_ones a_others a_kinds a_gone a_at (u.1) (u.2)))) A)
set_option maxHeartbeats 4000000 in
set_option maxRecDepth 100000 in
theorem mX8_canNow (l : Launch) (dC : Nat → ClassId) (dI : Nat → Nat → Nat) (cyI cyJ cyZ : ClassId) (h h_text h_many h_ones h_others h_kinds h_firsts h_persons h_gone h_at h_fines h_undos h_seenOf h_seenOpen h_path h_told h_counts h_spots h_far h_row h_begins h_ways h_next : Nat) (sz : Nat) (i_length : Int32) (i_keptMany : Int32) (i_undoMany : Int32) (i_seenMany : Int32) (i_pathMany : Int32) (i_place : Int32) (i_found : Int32) (i_walkers : Int32) (a_ones : Nat → Int32) (a_others : Nat → Int32) (a_kinds : Nat → Int32) (a_gone : Nat → Int32) (a_at : Nat → Int32) (a_counts : Nat → Int32) (a_spots : Nat → Int32) (x1 : Int32) (x2 : Int32) (post : Int32 → (Nat → Int32) → (Nat → Int32) → Prop) (hwp : PX8_canNow x1 x2 a_ones a_others a_kinds a_gone a_at a_counts a_spots post) : Met l yX8_canNow wsX8_canNow ({ frames := 2, cells := 0, slots := 0, locals := 46 } : Room) (va_Pc [.ref h, .int x1, .int x2] (pcW (dC, dI) sz (wX8_canNow cyI cyJ cyZ h h_text h_many h_ones h_others h_kinds h_firsts h_persons h_gone h_at h_fines h_undos h_seenOf h_seenOpen h_path h_told h_counts h_spots h_far h_row h_begins h_ways h_next i_length i_keptMany i_undoMany i_seenMany i_pathMany i_place i_found i_walkers a_ones a_others a_kinds a_gone a_at a_counts a_spots) (tyG cyI cyJ cyZ))) (qX8_canNow dC dI cyI cyJ cyZ h h_text h_many h_ones h_others h_kinds h_firsts h_persons h_gone h_at h_fines h_undos h_seenOf h_seenOpen h_path h_told h_counts h_spots h_far h_row h_begins h_ways h_next i_length i_keptMany i_undoMany i_seenMany i_pathMany i_place i_found i_walkers a_ones a_others a_kinds a_gone a_at a_counts a_spots post (va_A (wX8_canNow cyI cyJ cyZ h h_text h_many h_ones h_others h_kinds h_firsts h_persons h_gone h_at h_fines h_undos h_seenOf h_seenOpen h_path h_told h_counts h_spots h_far h_row h_begins h_ways h_next i_length i_keptMany i_undoMany i_seenMany i_pathMany i_place i_found i_walkers a_ones a_others a_kinds a_gone a_at a_counts a_spots) sz)) 0 0 (va_A (wX8_canNow cyI cyJ cyZ h h_text h_many h_ones h_others h_kinds h_firsts h_persons h_gone h_at h_fines h_undos h_seenOf h_seenOpen h_path h_told h_counts h_spots h_far h_row h_begins h_ways h_next i_length i_keptMany i_undoMany i_seenMany i_pathMany i_place i_found i_walkers a_ones a_others a_kinds a_gone a_at a_counts a_spots) sz) := by
  refine Met.ofW (cc := cX8_canNow) (maxL := 3) (ret := some .boolean) (by decide) rfl ?_
  intro p e s m args below meth c s₁ B hml hv
  obtain ⟨rfl, hsz, hP, hK, hD0, hN⟩ := hv
  have hx := B.exec
  have hb := B.bytes
  have hr := B.returns
  have hts := atoms_spec (ws := wsX8_canNow) B.pre
  have hown : s.vm.findClass RX8 = some m.cls := findClass_of_methodNamed B.named
  have hlocks := B.notSynchronized
  subst hsz
  have hD := hD0.self (sz := s.heap.size)
  generalize hAe : va_A (wX8_canNow cyI cyJ cyZ h h_text h_many h_ones h_others h_kinds h_firsts h_persons h_gone h_at h_fines h_undos h_seenOf h_seenOpen h_path h_told h_counts h_spots h_far h_row h_begins h_ways h_next i_length i_keptMany i_undoMany i_seenMany i_pathMany i_place i_found i_walkers a_ones a_others a_kinds a_gone a_at a_counts a_spots) s.heap.size = A at hD ⊢
  have hA : ∀ q : Nat, s.heap.size ≤ q → A q := fun q h => by rw [← hAe]; exact Or.inr h
  have hW : Wd (dC, dI) A s.heap (wX8_canNow cyI cyJ cyZ h h_text h_many h_ones h_others h_kinds h_firsts h_persons h_gone h_at h_fines h_undos h_seenOf h_seenOpen h_path h_told h_counts h_spots h_far h_row h_begins h_ways h_next i_length i_keptMany i_undoMany i_seenMany i_pathMany i_place i_found i_walkers a_ones a_others a_kinds a_gone a_at a_counts a_spots) s.heap [] := ⟨hP, hD, va_S.rf⟩
  have hw := hwp
  have hiX8 : ∀ w ∈ u_ws RX8 TX8 30, w ∈ wsX8_canNow := fun _ h => List.mem_cons_of_mem _ (List.mem_append_right _ h)
  have k_0 := hts (.fieldLink RX8 34 "OddLetsInModel" "at" "[I") (List.mem_of_getElem? (i := 1) rfl)
  have hl := lv_entry ([.ref h, .int x1, .int x2]) (n := 3) (Nat.le_of_ble_eq_true rfl)
  rw [lg_entry_eq]
  generalize (lg_sl ([.ref h, .int x1, .int x2]) ++ List.replicate (3 - (lg_sl ([.ref h, .int x1, .int x2])).length) Slot.unset).toArray = ls at hl ⊢
  have hl : lv_has ls 3 [(0, .ref h), (1, .int x1), (2, .int x2)] := hl
  refine lv_aload_n hx hb dX8_canNow_0 rfl (lv_at hl 0 rfl) ?_
  refine zw_Vv ⟨hx, hb, hml, hown, hts⟩ hK hN hA hW 0 rfl (T := TX8) (N := 30) rfl [] [] [0, 4, 5, 6, 7] [1, 2, 3] [3, 0, 1, 2, 4, 5, 6, 7] (fun u => (wX8_canNow cyI cyJ cyZ h h_text h_many h_ones h_others h_kinds h_firsts h_persons h_gone h_at h_fines h_undos h_seenOf h_seenOpen h_path h_told h_counts h_spots h_far h_row h_begins h_ways h_next i_length i_keptMany i_undoMany i_seenMany i_pathMany i_place i_found i_walkers a_ones a_others a_kinds a_gone a_at (u.1) (u.2))) (mX8_layNow l dC dI cyI cyJ cyZ h h_text h_many h_ones h_others h_kinds h_firsts h_persons h_gone h_at h_fines h_undos h_seenOf h_seenOpen h_path h_told h_counts h_spots h_far h_row h_begins h_ways h_next _ i_length i_keptMany i_undoMany i_seenMany i_pathMany i_place i_found i_walkers a_gone a_at a_counts a_spots _ hw) (cwV 0 hts gX8_canNow_X8_layNow rfl rfl rfl (by decide +kernel) ⟨Nat.le_of_ble_eq_true rfl, Nat.le_of_ble_eq_true rfl⟩) rfl rfl rfl rfl (by decide) rfl (fun _ => rfl) rfl hl.1 rfl (Nat.le_of_ble_eq_true rfl) (Nat.le_of_ble_eq_true rfl) (Nat.le_of_ble_eq_true rfl) dX8_canNow_1 (fun u H locs hw hW => ?_)
  obtain ⟨a_counts_1, a_spots_2⟩ := u
  try dsimp only at hw
  replace hW : Wd (dC, dI) A s.heap (wX8_canNow cyI cyJ cyZ h h_text h_many h_ones h_others h_kinds h_firsts h_persons h_gone h_at h_fines h_undos h_seenOf h_seenOpen h_path h_told h_counts h_spots h_far h_row h_begins h_ways h_next i_length i_keptMany i_undoMany i_seenMany i_pathMany i_place i_found i_walkers a_ones a_others a_kinds a_gone a_at a_counts_1 a_spots_2) H locs := hW
  refine lv_aload_n hx hb dX8_canNow_4 rfl (lv_at hl 0 rfl) ?_
  refine lv_aload_n hx hb dX8_canNow_5 rfl (lv_at hl 0 rfl) ?_
  refine zw_get (ci := 8) (C := RX8) (T := TX8) (N := 30) (v := .ref h_at) hx hb hts hiX8 hown hK hW 0 rfl rfl 9 (by decide) rfl k_0 dX8_canNow_6 ?_
  refine lv_iload_n hx hb dX8_canNow_9 rfl (lv_at hl 1 rfl) ?_
  refine zw_iald hx hb hK hW 5 rfl rfl hw.1 dX8_canNow_10 ?_
  replace hw := hw.2
  refine lv_iload_n hx hb dX8_canNow_11 rfl (lv_at hl 2 rfl) ?_
  refine zw_Vi ⟨hx, hb, hml, hown, hts⟩ hK hN hA hW 0 rfl (T := TX8) (N := 30) rfl [.int (a_at (x1).toNatClampNeg), .int x2] [] [0, 1, 2, 3, 6] [4, 5, 7] [3, 4, 5, 6, 0, 1, 7, 2] (fun _ => (wX8_canNow cyI cyJ cyZ h h_text h_many h_ones h_others h_kinds h_firsts h_persons h_gone h_at h_fines h_undos h_seenOf h_seenOpen h_path h_told h_counts h_spots h_far h_row h_begins h_ways h_next i_length i_keptMany i_undoMany i_seenMany i_pathMany i_place i_found i_walkers a_ones a_others a_kinds a_gone a_at a_counts_1 a_spots_2)) (mX8_canPass l dC dI cyI cyJ cyZ h h_text h_many h_ones h_others h_kinds h_firsts h_persons h_gone h_at h_fines h_undos h_seenOf h_seenOpen h_path h_told h_counts h_spots h_far h_row h_begins h_ways h_next _ i_length i_keptMany i_undoMany i_seenMany i_pathMany i_place i_found i_walkers a_ones a_others a_kinds a_counts_1 (a_at (x1).toNatClampNeg) x2 _ hw) (cwV 2 hts gX8_canNow_X8_canPass rfl rfl rfl (by decide +kernel) ⟨Nat.le_of_ble_eq_true rfl, Nat.le_of_ble_eq_true rfl⟩) rfl rfl rfl rfl (by decide) rfl (fun _ => rfl) rfl hl.1 rfl (Nat.le_of_ble_eq_true rfl) (Nat.le_of_ble_eq_true rfl) (Nat.le_of_ble_eq_true rfl) dX8_canNow_12 (fun r_3 u H locs hw hW => ?_)
  obtain ⟨br_3, hw⟩ := hw
  refine zw_zret (S := (Nat → Int32) × (Nat → Int32)) (post := fun r u => post r u.1 u.2) (a_counts_1, a_spots_2) hx hb hr hlocks hK hW br_3 hw ?_ dX8_canNow_15
  rfl
abbrev wX8_can (cyI cyJ cyZ : ClassId) (h h_text h_many h_ones h_others h_kinds h_firsts h_persons h_gone h_at h_fines h_undos h_seenOf h_seenOpen h_path h_told h_counts h_spots h_far h_row h_begins h_ways h_next : Nat) (i_length : Int32) (i_keptMany : Int32) (i_undoMany : Int32) (i_seenMany : Int32) (i_pathMany : Int32) (i_place : Int32) (i_found : Int32) (i_walkers : Int32) (a_many : Nat → Int32) (a_ones : Nat → Int32) (a_others : Nat → Int32) (a_kinds : Nat → Int32) (a_persons : Nat → Int32) (a_gone : Nat → Int32) (a_at : Nat → Int32) (a_counts : Nat → Int32) (a_spots : Nat → Int32) : va_W := [(h, .inr (8, [.int i_length, .ref h_text, .ref h_many, .ref h_ones, .ref h_others, .ref h_kinds, .ref h_firsts, .ref h_persons, .ref h_gone, .ref h_at, .ref h_fines, .int i_keptMany, .int i_undoMany, .ref h_undos, .int i_seenMany, .ref h_seenOf, .ref h_seenOpen, .int i_pathMany, .ref h_path, .int i_place, .ref h_told, .ref h_counts, .ref h_spots, .ref h_far, .ref h_row, .ref h_begins, .int i_found, .int i_walkers, .ref h_ways, .ref h_next])), (h_many, .inl (cyI, 2, .inl a_many)), (h_ones, .inl (cyI, 10, .inl a_ones)), (h_others, .inl (cyI, 10, .inl a_others)), (h_kinds, .inl (cyI, 10, .inl a_kinds)), (h_persons, .inl (cyI, 2, .inl a_persons)), (h_gone, .inl (cyI, 15, .inl a_gone)), (h_at, .inl (cyI, 9, .inl a_at)), (h_counts, .inl (cyI, 5, .inl a_counts)), (h_spots, .inl (cyI, 3, .inl a_spots))]
abbrev qX8_can (dC : Nat → ClassId) (dI : Nat → Nat → Nat) (cyI cyJ cyZ : ClassId) (h h_text h_many h_ones h_others h_kinds h_firsts h_persons h_gone h_at h_fines h_undos h_seenOf h_seenOpen h_path h_told h_counts h_spots h_far h_row h_begins h_ways h_next : Nat) (i_length : Int32) (i_keptMany : Int32) (i_undoMany : Int32) (i_seenMany : Int32) (i_pathMany : Int32) (i_place : Int32) (i_found : Int32) (i_walkers : Int32) (a_many : Nat → Int32) (a_ones : Nat → Int32) (a_others : Nat → Int32) (a_kinds : Nat → Int32) (a_persons : Nat → Int32) (a_gone : Nat → Int32) (a_at : Nat → Int32) (a_counts : Nat → Int32) (a_spots : Nat → Int32) (post : Int32 → (Nat → Int32) → (Nat → Int32) → Prop) (A : Nat → Prop) : Array Value → State → Outcome → State → Prop := (va_Qi (fun (r : Int32) (u : (Nat → Int32) × (Nat → Int32)) => post r u.1 u.2) (bW (dC, dI) (tyG cyI cyJ cyZ) A (fun u : (Nat → Int32) × (Nat → Int32) => (wX8_can cyI cyJ cyZ h h_text h_many h_ones h_others h_kinds h_firsts h_persons h_gone h_at h_fines h_undos h_seenOf h_seenOpen h_path h_told h_counts h_spots h_far h_row h_begins h_ways h_next i_length i_keptMany i_undoMany i_seenMany i_pathMany i_place i_found i_walkers a_many a_ones a_others a_kinds a_persons a_gone a_at (u.1) (u.2)))) A)
set_option maxHeartbeats 4000000 in
set_option maxRecDepth 100000 in
theorem mX8_can (l : Launch) (dC : Nat → ClassId) (dI : Nat → Nat → Nat) (cyI cyJ cyZ : ClassId) (h h_text h_many h_ones h_others h_kinds h_firsts h_persons h_gone h_at h_fines h_undos h_seenOf h_seenOpen h_path h_told h_counts h_spots h_far h_row h_begins h_ways h_next : Nat) (sz : Nat) (i_length : Int32) (i_keptMany : Int32) (i_undoMany : Int32) (i_seenMany : Int32) (i_pathMany : Int32) (i_place : Int32) (i_found : Int32) (i_walkers : Int32) (a_many : Nat → Int32) (a_ones : Nat → Int32) (a_others : Nat → Int32) (a_kinds : Nat → Int32) (a_persons : Nat → Int32) (a_gone : Nat → Int32) (a_at : Nat → Int32) (a_counts : Nat → Int32) (a_spots : Nat → Int32) (x1 : Int32) (x2 : Int32) (post : Int32 → (Nat → Int32) → (Nat → Int32) → Prop) (hwp : PX8_can x1 x2 a_many a_ones a_others a_kinds a_persons a_gone a_at a_counts a_spots post) : Met l yX8_can wsX8_can ({ frames := 3, cells := 0, slots := 0, locals := 68 } : Room) (va_Pc [.ref h, .int x1, .int x2] (pcW (dC, dI) sz (wX8_can cyI cyJ cyZ h h_text h_many h_ones h_others h_kinds h_firsts h_persons h_gone h_at h_fines h_undos h_seenOf h_seenOpen h_path h_told h_counts h_spots h_far h_row h_begins h_ways h_next i_length i_keptMany i_undoMany i_seenMany i_pathMany i_place i_found i_walkers a_many a_ones a_others a_kinds a_persons a_gone a_at a_counts a_spots) (tyG cyI cyJ cyZ))) (qX8_can dC dI cyI cyJ cyZ h h_text h_many h_ones h_others h_kinds h_firsts h_persons h_gone h_at h_fines h_undos h_seenOf h_seenOpen h_path h_told h_counts h_spots h_far h_row h_begins h_ways h_next i_length i_keptMany i_undoMany i_seenMany i_pathMany i_place i_found i_walkers a_many a_ones a_others a_kinds a_persons a_gone a_at a_counts a_spots post (va_A (wX8_can cyI cyJ cyZ h h_text h_many h_ones h_others h_kinds h_firsts h_persons h_gone h_at h_fines h_undos h_seenOf h_seenOpen h_path h_told h_counts h_spots h_far h_row h_begins h_ways h_next i_length i_keptMany i_undoMany i_seenMany i_pathMany i_place i_found i_walkers a_many a_ones a_others a_kinds a_persons a_gone a_at a_counts a_spots) sz)) 0 0 (va_A (wX8_can cyI cyJ cyZ h h_text h_many h_ones h_others h_kinds h_firsts h_persons h_gone h_at h_fines h_undos h_seenOf h_seenOpen h_path h_told h_counts h_spots h_far h_row h_begins h_ways h_next i_length i_keptMany i_undoMany i_seenMany i_pathMany i_place i_found i_walkers a_many a_ones a_others a_kinds a_persons a_gone a_at a_counts a_spots) sz) := by
  refine Met.ofW (cc := cX8_can) (maxL := 3) (ret := some .int) (by decide) rfl ?_
  intro p e s m args below meth c s₁ B hml hv
  obtain ⟨rfl, hsz, hP, hK, hD0, hN⟩ := hv
  have hx := B.exec
  have hb := B.bytes
  have hr := B.returns
  have hts := atoms_spec (ws := wsX8_can) B.pre
  have hown : s.vm.findClass RX8 = some m.cls := findClass_of_methodNamed B.named
  have hlocks := B.notSynchronized
  subst hsz
  have hD := hD0.self (sz := s.heap.size)
  generalize hAe : va_A (wX8_can cyI cyJ cyZ h h_text h_many h_ones h_others h_kinds h_firsts h_persons h_gone h_at h_fines h_undos h_seenOf h_seenOpen h_path h_told h_counts h_spots h_far h_row h_begins h_ways h_next i_length i_keptMany i_undoMany i_seenMany i_pathMany i_place i_found i_walkers a_many a_ones a_others a_kinds a_persons a_gone a_at a_counts a_spots) s.heap.size = A at hD ⊢
  have hA : ∀ q : Nat, s.heap.size ≤ q → A q := fun q h => by rw [← hAe]; exact Or.inr h
  have hW : Wd (dC, dI) A s.heap (wX8_can cyI cyJ cyZ h h_text h_many h_ones h_others h_kinds h_firsts h_persons h_gone h_at h_fines h_undos h_seenOf h_seenOpen h_path h_told h_counts h_spots h_far h_row h_begins h_ways h_next i_length i_keptMany i_undoMany i_seenMany i_pathMany i_place i_found i_walkers a_many a_ones a_others a_kinds a_persons a_gone a_at a_counts a_spots) s.heap [] := ⟨hP, hD, va_S.rf⟩
  have hw := hwp
  have hl := lv_entry ([.ref h, .int x1, .int x2]) (n := 3) (Nat.le_of_ble_eq_true rfl)
  rw [lg_entry_eq]
  generalize (lg_sl ([.ref h, .int x1, .int x2]) ++ List.replicate (3 - (lg_sl ([.ref h, .int x1, .int x2])).length) Slot.unset).toArray = ls at hl ⊢
  have hl : lv_has ls 3 [(0, .ref h), (1, .int x1), (2, .int x2)] := hl
  refine lv_aload_n hx hb dX8_can_0 rfl (lv_at hl 0 rfl) ?_
  refine lv_iload_n hx hb dX8_can_1 rfl (lv_at hl 1 rfl) ?_
  refine zw_Vi ⟨hx, hb, hml, hown, hts⟩ hK hN hA hW 0 rfl (T := TX8) (N := 30) rfl [.int x1] [] [0, 5] [1, 2, 3, 4, 6, 7, 8, 9] [8, 0, 1, 2, 3, 9, 4, 5, 6, 7] (fun _ => (wX8_can cyI cyJ cyZ h h_text h_many h_ones h_others h_kinds h_firsts h_persons h_gone h_at h_fines h_undos h_seenOf h_seenOpen h_path h_told h_counts h_spots h_far h_row h_begins h_ways h_next i_length i_keptMany i_undoMany i_seenMany i_pathMany i_place i_found i_walkers a_many a_ones a_others a_kinds a_persons a_gone a_at a_counts a_spots)) (mX8_isPerson l dC dI cyI cyJ cyZ h h_text h_many h_ones h_others h_kinds h_firsts h_persons h_gone h_at h_fines h_undos h_seenOf h_seenOpen h_path h_told h_counts h_spots h_far h_row h_begins h_ways h_next _ i_length i_keptMany i_undoMany i_seenMany i_pathMany i_place i_found i_walkers a_persons x1 _ hw) (cwV 1 hts gX8_can_X8_isPerson rfl rfl rfl (by decide +kernel) ⟨Nat.le_of_ble_eq_true rfl, Nat.le_of_ble_eq_true rfl⟩) rfl rfl rfl rfl (by decide) rfl (fun _ => rfl) rfl hl.1 rfl (Nat.le_of_ble_eq_true rfl) (Nat.le_of_ble_eq_true rfl) (Nat.le_of_ble_eq_true rfl) dX8_can_2 (fun r_1 u H locs hw hW => ?_)
  obtain ⟨br_1, hw⟩ := hw
  refine lv_if_eq (tgt := 16) hx hb dX8_can_5 (by decide) (fun c_2 => ?_) (fun c_2 => ?_)
  · replace hw := hw.1 c_2
    refine lv_iconst (v := (-1)) hx hb dX8_can_16 (by decide) ?_
    refine lv_goto (tgt := 34) hx hb dX8_can_17 (by decide) ?_
    refine zw_iret (S := (Nat → Int32) × (Nat → Int32)) (post := fun r u => post r u.1 u.2) (a_counts, a_spots) hx hb hr hlocks hK hW hw ?_ dX8_can_34
    rfl
  · replace hw := hw.2 c_2
    refine lv_aload_n hx hb dX8_can_8 rfl (lv_at hl 0 rfl) ?_
    refine lv_iload_n hx hb dX8_can_9 rfl (lv_at hl 2 rfl) ?_
    refine zw_Vi ⟨hx, hb, hml, hown, hts⟩ hK hN hA hW 0 rfl (T := TX8) (N := 30) rfl [.int x2] [] [0, 1] [2, 3, 4, 5, 6, 7, 8, 9] [8, 9, 0, 1, 2, 3, 4, 5, 6, 7] (fun _ => (wX8_can cyI cyJ cyZ h h_text h_many h_ones h_others h_kinds h_firsts h_persons h_gone h_at h_fines h_undos h_seenOf h_seenOpen h_path h_told h_counts h_spots h_far h_row h_begins h_ways h_next i_length i_keptMany i_undoMany i_seenMany i_pathMany i_place i_found i_walkers a_many a_ones a_others a_kinds a_persons a_gone a_at a_counts a_spots)) (mX8_isGate l dC dI cyI cyJ cyZ h h_text h_many h_ones h_others h_kinds h_firsts h_persons h_gone h_at h_fines h_undos h_seenOf h_seenOpen h_path h_told h_counts h_spots h_far h_row h_begins h_ways h_next _ i_length i_keptMany i_undoMany i_seenMany i_pathMany i_place i_found i_walkers a_many x2 _ hw) (cwV 1 hts gX8_can_X8_isGate rfl rfl rfl (by decide +kernel) ⟨Nat.le_of_ble_eq_true rfl, Nat.le_of_ble_eq_true rfl⟩) rfl rfl rfl rfl (by decide) rfl (fun _ => rfl) rfl hl.1 rfl (Nat.le_of_ble_eq_true rfl) (Nat.le_of_ble_eq_true rfl) (Nat.le_of_ble_eq_true rfl) dX8_can_10 (fun r_3 u H locs hw hW => ?_)
    obtain ⟨br_3, hw⟩ := hw
    refine lv_if_ne (tgt := 20) hx hb dX8_can_13 (by decide) (fun c_4 => ?_) (fun c_4 => ?_)
    · replace hw := hw.2 c_4
      refine lv_aload_n hx hb dX8_can_20 rfl (lv_at hl 0 rfl) ?_
      refine lv_iload_n hx hb dX8_can_21 rfl (lv_at hl 1 rfl) ?_
      refine lv_iload_n hx hb dX8_can_22 rfl (lv_at hl 2 rfl) ?_
      refine zw_Vi ⟨hx, hb, hml, hown, hts⟩ hK hN hA hW 0 rfl (T := TX8) (N := 30) rfl [.int x1, .int x2] [] [0, 2, 3, 4, 6, 7, 8, 9] [1, 5] [2, 0, 3, 4, 5, 1, 6, 7, 8, 9] (fun u => (wX8_can cyI cyJ cyZ h h_text h_many h_ones h_others h_kinds h_firsts h_persons h_gone h_at h_fines h_undos h_seenOf h_seenOpen h_path h_told h_counts h_spots h_far h_row h_begins h_ways h_next i_length i_keptMany i_undoMany i_seenMany i_pathMany i_place i_found i_walkers a_many a_ones a_others a_kinds a_persons a_gone a_at (u.1) (u.2))) (mX8_canNow l dC dI cyI cyJ cyZ h h_text h_many h_ones h_others h_kinds h_firsts h_persons h_gone h_at h_fines h_undos h_seenOf h_seenOpen h_path h_told h_counts h_spots h_far h_row h_begins h_ways h_next _ i_length i_keptMany i_undoMany i_seenMany i_pathMany i_place i_found i_walkers a_ones a_others a_kinds a_gone a_at a_counts a_spots x1 x2 _ hw) (cwV 2 hts gX8_can_X8_canNow rfl rfl rfl (by decide +kernel) ⟨Nat.le_of_ble_eq_true rfl, Nat.le_of_ble_eq_true rfl⟩) rfl rfl rfl rfl (by decide) rfl (fun _ => rfl) rfl hl.1 rfl (Nat.le_of_ble_eq_true rfl) (Nat.le_of_ble_eq_true rfl) (Nat.le_of_ble_eq_true rfl) dX8_can_23 (fun r_7 u H locs hw hW => ?_)
      obtain ⟨a_counts_5, a_spots_6⟩ := u
      try dsimp only at hw
      replace hW : Wd (dC, dI) A s.heap (wX8_can cyI cyJ cyZ h h_text h_many h_ones h_others h_kinds h_firsts h_persons h_gone h_at h_fines h_undos h_seenOf h_seenOpen h_path h_told h_counts h_spots h_far h_row h_begins h_ways h_next i_length i_keptMany i_undoMany i_seenMany i_pathMany i_place i_found i_walkers a_many a_ones a_others a_kinds a_persons a_gone a_at a_counts_5 a_spots_6) H locs := hW
      obtain ⟨br_7, hw⟩ := hw
      refine lv_if_eq (tgt := 33) hx hb dX8_can_26 (by decide) (fun c_8 => ?_) (fun c_8 => ?_)
      · replace hw := hw.1 c_8
        refine lv_iconst (v := 0) hx hb dX8_can_33 (by decide) ?_
        refine zw_iret (S := (Nat → Int32) × (Nat → Int32)) (post := fun r u => post r u.1 u.2) (a_counts_5, a_spots_6) hx hb hr hlocks hK hW hw ?_ dX8_can_34
        rfl
      · replace hw := hw.2 c_8
        refine lv_iconst (v := 1) hx hb dX8_can_29 (by decide) ?_
        refine lv_goto (tgt := 34) hx hb dX8_can_30 (by decide) ?_
        refine zw_iret (S := (Nat → Int32) × (Nat → Int32)) (post := fun r u => post r u.1 u.2) (a_counts_5, a_spots_6) hx hb hr hlocks hK hW hw ?_ dX8_can_34
        rfl
    · replace hw := hw.1 c_4
      refine lv_iconst (v := (-1)) hx hb dX8_can_16 (by decide) ?_
      refine lv_goto (tgt := 34) hx hb dX8_can_17 (by decide) ?_
      refine zw_iret (S := (Nat → Int32) × (Nat → Int32)) (post := fun r u => post r u.1 u.2) (a_counts, a_spots) hx hb hr hlocks hK hW hw ?_ dX8_can_34
      rfl
abbrev wX8_note (cyI cyJ cyZ : ClassId) (h h_text h_many h_ones h_others h_kinds h_firsts h_persons h_gone h_at h_fines h_undos h_seenOf h_seenOpen h_path h_told h_counts h_spots h_far h_row h_begins h_ways h_next : Nat) (i_length : Int32) (i_keptMany : Int32) (i_undoMany : Int32) (i_seenMany : Int32) (i_pathMany : Int32) (i_place : Int32) (i_found : Int32) (i_walkers : Int32) (a_gone : Nat → Int32) (a_at : Nat → Int32) (a_undos : Nat → Int32) : va_W := [(h, .inr (8, [.int i_length, .ref h_text, .ref h_many, .ref h_ones, .ref h_others, .ref h_kinds, .ref h_firsts, .ref h_persons, .ref h_gone, .ref h_at, .ref h_fines, .int i_keptMany, .int i_undoMany, .ref h_undos, .int i_seenMany, .ref h_seenOf, .ref h_seenOpen, .int i_pathMany, .ref h_path, .int i_place, .ref h_told, .ref h_counts, .ref h_spots, .ref h_far, .ref h_row, .ref h_begins, .int i_found, .int i_walkers, .ref h_ways, .ref h_next])), (h_gone, .inl (cyI, 15, .inl a_gone)), (h_at, .inl (cyI, 9, .inl a_at)), (h_undos, .inl (cyI, 32, .inl a_undos))]
abbrev qX8_note (dC : Nat → ClassId) (dI : Nat → Nat → Nat) (cyI cyJ cyZ : ClassId) (h h_text h_many h_ones h_others h_kinds h_firsts h_persons h_gone h_at h_fines h_undos h_seenOf h_seenOpen h_path h_told h_counts h_spots h_far h_row h_begins h_ways h_next : Nat) (i_length : Int32) (i_keptMany : Int32) (i_undoMany : Int32) (i_seenMany : Int32) (i_pathMany : Int32) (i_place : Int32) (i_found : Int32) (i_walkers : Int32) (a_gone : Nat → Int32) (a_at : Nat → Int32) (a_undos : Nat → Int32) (post : Int32 → (Nat → Int32) → (Nat → Int32) → Prop) (A : Nat → Prop) : Array Value → State → Outcome → State → Prop := (va_Qv (fun (u : Int32 × (Nat → Int32) × (Nat → Int32)) => post u.1 u.2.1 u.2.2) (bW (dC, dI) (tyG cyI cyJ cyZ) A (fun u : Int32 × (Nat → Int32) × (Nat → Int32) => (wX8_note cyI cyJ cyZ h h_text h_many h_ones h_others h_kinds h_firsts h_persons h_gone h_at h_fines h_undos h_seenOf h_seenOpen h_path h_told h_counts h_spots h_far h_row h_begins h_ways h_next i_length i_keptMany (u.1) i_seenMany i_pathMany i_place i_found i_walkers (u.2.1) a_at (u.2.2)))) A)
set_option maxHeartbeats 4000000 in
set_option maxRecDepth 100000 in
theorem mX8_note (l : Launch) (dC : Nat → ClassId) (dI : Nat → Nat → Nat) (cyI cyJ cyZ : ClassId) (h h_text h_many h_ones h_others h_kinds h_firsts h_persons h_gone h_at h_fines h_undos h_seenOf h_seenOpen h_path h_told h_counts h_spots h_far h_row h_begins h_ways h_next : Nat) (sz : Nat) (i_length : Int32) (i_keptMany : Int32) (i_undoMany : Int32) (i_seenMany : Int32) (i_pathMany : Int32) (i_place : Int32) (i_found : Int32) (i_walkers : Int32) (a_gone : Nat → Int32) (a_at : Nat → Int32) (a_undos : Nat → Int32) (x1 : Int32) (x2 : Int32) (x3 : Int32) (post : Int32 → (Nat → Int32) → (Nat → Int32) → Prop) (hwp : PX8_note x1 x2 x3 i_undoMany a_gone a_at a_undos post) : Met l yX8_note wsX8_note ({ frames := 0, cells := 0, slots := 0, locals := 0 } : Room) (va_Pc [.ref h, .int x1, .int x2, .int x3] (pcW (dC, dI) sz (wX8_note cyI cyJ cyZ h h_text h_many h_ones h_others h_kinds h_firsts h_persons h_gone h_at h_fines h_undos h_seenOf h_seenOpen h_path h_told h_counts h_spots h_far h_row h_begins h_ways h_next i_length i_keptMany i_undoMany i_seenMany i_pathMany i_place i_found i_walkers a_gone a_at a_undos) (tyG cyI cyJ cyZ))) (qX8_note dC dI cyI cyJ cyZ h h_text h_many h_ones h_others h_kinds h_firsts h_persons h_gone h_at h_fines h_undos h_seenOf h_seenOpen h_path h_told h_counts h_spots h_far h_row h_begins h_ways h_next i_length i_keptMany i_undoMany i_seenMany i_pathMany i_place i_found i_walkers a_gone a_at a_undos post (va_A (wX8_note cyI cyJ cyZ h h_text h_many h_ones h_others h_kinds h_firsts h_persons h_gone h_at h_fines h_undos h_seenOf h_seenOpen h_path h_told h_counts h_spots h_far h_row h_begins h_ways h_next i_length i_keptMany i_undoMany i_seenMany i_pathMany i_place i_found i_walkers a_gone a_at a_undos) sz)) 0 0 (va_A (wX8_note cyI cyJ cyZ h h_text h_many h_ones h_others h_kinds h_firsts h_persons h_gone h_at h_fines h_undos h_seenOf h_seenOpen h_path h_told h_counts h_spots h_far h_row h_begins h_ways h_next i_length i_keptMany i_undoMany i_seenMany i_pathMany i_place i_found i_walkers a_gone a_at a_undos) sz) := by
  refine Met.ofW (cc := cX8_note) (maxL := 5) (ret := none) (by decide) rfl ?_
  intro p e s m args below meth c s₁ B hml hv
  obtain ⟨rfl, hsz, hP, hK, hD0, hN⟩ := hv
  have hx := B.exec
  have hb := B.bytes
  have hr := B.returns
  have hts := atoms_spec (ws := wsX8_note) B.pre
  have hown : s.vm.findClass RX8 = some m.cls := findClass_of_methodNamed B.named
  have hlocks := B.notSynchronized
  subst hsz
  have hD := hD0.self (sz := s.heap.size)
  generalize hAe : va_A (wX8_note cyI cyJ cyZ h h_text h_many h_ones h_others h_kinds h_firsts h_persons h_gone h_at h_fines h_undos h_seenOf h_seenOpen h_path h_told h_counts h_spots h_far h_row h_begins h_ways h_next i_length i_keptMany i_undoMany i_seenMany i_pathMany i_place i_found i_walkers a_gone a_at a_undos) s.heap.size = A at hD ⊢
  have hA : ∀ q : Nat, s.heap.size ≤ q → A q := fun q h => by rw [← hAe]; exact Or.inr h
  have hW : Wd (dC, dI) A s.heap (wX8_note cyI cyJ cyZ h h_text h_many h_ones h_others h_kinds h_firsts h_persons h_gone h_at h_fines h_undos h_seenOf h_seenOpen h_path h_told h_counts h_spots h_far h_row h_begins h_ways h_next i_length i_keptMany i_undoMany i_seenMany i_pathMany i_place i_found i_walkers a_gone a_at a_undos) s.heap [] := ⟨hP, hD, va_S.rf⟩
  have hw := hwp
  have hiX8 : ∀ w ∈ u_ws RX8 TX8 30, w ∈ wsX8_note := fun _ h => List.mem_cons_of_mem _ (List.mem_append_right _ h)
  have k_0 := hts (.fieldLink RX8 40 "OddLetsInModel" "undos" "[I") (List.mem_of_getElem? (i := 2) rfl)
  have k_1 := hts (.fieldLink RX8 122 "OddLetsInModel" "undoMany" "I") (List.mem_of_getElem? (i := 1) rfl)
  have k_2 := hts (.fieldLink RX8 34 "OddLetsInModel" "at" "[I") (List.mem_of_getElem? (i := 3) rfl)
  have k_3 := hts (.fieldLink RX8 31 "OddLetsInModel" "gone" "[I") (List.mem_of_getElem? (i := 4) rfl)
  have W_51 : ∀ (i_undoMany : Int32) (a_gone : Nat → Int32) (a_undos : Nat → Int32) (H : Heap) (locs : List Loc) (ls : Array Slot), Wd (dC, dI) A s.heap (wX8_note cyI cyJ cyZ h h_text h_many h_ones h_others h_kinds h_firsts h_persons h_gone h_at h_fines h_undos h_seenOf h_seenOpen h_path h_told h_counts h_spots h_far h_row h_begins h_ways h_next i_length i_keptMany i_undoMany i_seenMany i_pathMany i_place i_found i_walkers a_gone a_at a_undos) H locs → lv_has ls 5 [(0, .ref h), (1, .int x1), (2, .int x2), (3, .int x3)] → PX8_note_51 post x1 x2 x3 a_at i_undoMany a_gone a_undos → W p l e (({ frames := 0, cells := 0, slots := 0, locals := 0 } : Room)) s m (([.ref h, .int x1, .int x2, .int x3] : List Value).toArray) below meth c H locs 0 0 (MQ below (qX8_note dC dI cyI cyJ cyZ h h_text h_many h_ones h_others h_kinds h_firsts h_persons h_gone h_at h_fines h_undos h_seenOf h_seenOpen h_path h_told h_counts h_spots h_far h_row h_begins h_ways h_next i_length i_keptMany i_undoMany i_seenMany i_pathMany i_place i_found i_walkers a_gone a_at a_undos post A) (([.ref h, .int x1, .int x2, .int x3] : List Value).toArray) s 0 0 A) (F0 m 51 ls []) := by
    intro i_undoMany a_gone a_undos H locs ls hW hl hw
    refine lv_aload_n hx hb dX8_note_51 rfl (lv_at hl 0 rfl) ?_
    refine zw_get (ci := 8) (C := RX8) (T := TX8) (N := 30) (v := .ref h_undos) hx hb hts hiX8 hown hK hW 0 rfl rfl 13 (by decide) rfl k_0 dX8_note_52 ?_
    refine lv_iconst (v := 4) hx hb dX8_note_55 (by decide) ?_
    refine lv_aload_n hx hb dX8_note_56 rfl (lv_at hl 0 rfl) ?_
    refine zw_get (ci := 8) (C := RX8) (T := TX8) (N := 30) (v := .int i_undoMany) hx hb hts hiX8 hown hK hW 0 rfl rfl 12 (by decide) rfl k_1 dX8_note_57 ?_
    refine lv_imul hx hb dX8_note_60 ?_
    refine lv_iload_n hx hb dX8_note_61 rfl (lv_at hl 1 rfl) ?_
    refine zw_iast hx hb hK hW 3 rfl rfl hw.1 (w2 := fun a_undos_1 => (wX8_note cyI cyJ cyZ h h_text h_many h_ones h_others h_kinds h_firsts h_persons h_gone h_at h_fines h_undos h_seenOf h_seenOpen h_path h_told h_counts h_spots h_far h_row h_begins h_ways h_next i_length i_keptMany i_undoMany i_seenMany i_pathMany i_place i_found i_walkers a_gone a_at a_undos_1)) (fun _ => rfl) dX8_note_62 (fun a_undos_1 H locs ea_undos_1 hW => ?_)
    replace hw := hw.2 a_undos_1 ea_undos_1
    refine lv_aload_n hx hb dX8_note_63 rfl (lv_at hl 0 rfl) ?_
    refine zw_get (ci := 8) (C := RX8) (T := TX8) (N := 30) (v := .ref h_undos) hx hb hts hiX8 hown hK hW 0 rfl rfl 13 (by decide) rfl k_0 dX8_note_64 ?_
    refine lv_iconst (v := 4) hx hb dX8_note_67 (by decide) ?_
    refine lv_aload_n hx hb dX8_note_68 rfl (lv_at hl 0 rfl) ?_
    refine zw_get (ci := 8) (C := RX8) (T := TX8) (N := 30) (v := .int i_undoMany) hx hb hts hiX8 hown hK hW 0 rfl rfl 12 (by decide) rfl k_1 dX8_note_69 ?_
    refine lv_imul hx hb dX8_note_72 ?_
    refine lv_iconst (v := 1) hx hb dX8_note_73 (by decide) ?_
    refine lv_iadd hx hb dX8_note_74 ?_
    refine lv_iload_n hx hb dX8_note_75 rfl (lv_at hl 2 rfl) ?_
    refine zw_iast hx hb hK hW 3 rfl rfl hw.1 (w2 := fun a_undos_2 => (wX8_note cyI cyJ cyZ h h_text h_many h_ones h_others h_kinds h_firsts h_persons h_gone h_at h_fines h_undos h_seenOf h_seenOpen h_path h_told h_counts h_spots h_far h_row h_begins h_ways h_next i_length i_keptMany i_undoMany i_seenMany i_pathMany i_place i_found i_walkers a_gone a_at a_undos_2)) (fun _ => rfl) dX8_note_76 (fun a_undos_2 H locs ea_undos_2 hW => ?_)
    replace hw := hw.2 a_undos_2 ea_undos_2
    refine lv_aload_n hx hb dX8_note_77 rfl (lv_at hl 0 rfl) ?_
    refine zw_get (ci := 8) (C := RX8) (T := TX8) (N := 30) (v := .ref h_undos) hx hb hts hiX8 hown hK hW 0 rfl rfl 13 (by decide) rfl k_0 dX8_note_78 ?_
    refine lv_iconst (v := 4) hx hb dX8_note_81 (by decide) ?_
    refine lv_aload_n hx hb dX8_note_82 rfl (lv_at hl 0 rfl) ?_
    refine zw_get (ci := 8) (C := RX8) (T := TX8) (N := 30) (v := .int i_undoMany) hx hb hts hiX8 hown hK hW 0 rfl rfl 12 (by decide) rfl k_1 dX8_note_83 ?_
    refine lv_imul hx hb dX8_note_86 ?_
    refine lv_iconst (v := 2) hx hb dX8_note_87 (by decide) ?_
    refine lv_iadd hx hb dX8_note_88 ?_
    refine lv_aload_n hx hb dX8_note_89 rfl (lv_at hl 0 rfl) ?_
    refine zw_get (ci := 8) (C := RX8) (T := TX8) (N := 30) (v := .ref h_at) hx hb hts hiX8 hown hK hW 0 rfl rfl 9 (by decide) rfl k_2 dX8_note_90 ?_
    refine lv_iload_n hx hb dX8_note_93 rfl (lv_at hl 1 rfl) ?_
    refine zw_iald hx hb hK hW 2 rfl rfl hw.1 dX8_note_94 ?_
    replace hw := hw.2
    refine lv_topi (fun t_3 et_3 => ?_)
    replace hw := hw t_3 et_3
    refine zw_iast hx hb hK hW 3 rfl rfl hw.1 (w2 := fun a_undos_4 => (wX8_note cyI cyJ cyZ h h_text h_many h_ones h_others h_kinds h_firsts h_persons h_gone h_at h_fines h_undos h_seenOf h_seenOpen h_path h_told h_counts h_spots h_far h_row h_begins h_ways h_next i_length i_keptMany i_undoMany i_seenMany i_pathMany i_place i_found i_walkers a_gone a_at a_undos_4)) (fun _ => rfl) dX8_note_95 (fun a_undos_4 H locs ea_undos_4 hW => ?_)
    replace hw := hw.2 a_undos_4 ea_undos_4
    refine lv_aload_n hx hb dX8_note_96 rfl (lv_at hl 0 rfl) ?_
    refine zw_get (ci := 8) (C := RX8) (T := TX8) (N := 30) (v := .ref h_undos) hx hb hts hiX8 hown hK hW 0 rfl rfl 13 (by decide) rfl k_0 dX8_note_97 ?_
    refine lv_iconst (v := 4) hx hb dX8_note_100 (by decide) ?_
    refine lv_aload_n hx hb dX8_note_101 rfl (lv_at hl 0 rfl) ?_
    refine zw_get (ci := 8) (C := RX8) (T := TX8) (N := 30) (v := .int i_undoMany) hx hb hts hiX8 hown hK hW 0 rfl rfl 12 (by decide) rfl k_1 dX8_note_102 ?_
    refine lv_imul hx hb dX8_note_105 ?_
    refine lv_iconst (v := 3) hx hb dX8_note_106 (by decide) ?_
    refine lv_iadd hx hb dX8_note_107 ?_
    refine lv_iload_n hx hb dX8_note_108 rfl (lv_at hl 3 rfl) ?_
    refine zw_iast hx hb hK hW 3 rfl rfl hw.1 (w2 := fun a_undos_5 => (wX8_note cyI cyJ cyZ h h_text h_many h_ones h_others h_kinds h_firsts h_persons h_gone h_at h_fines h_undos h_seenOf h_seenOpen h_path h_told h_counts h_spots h_far h_row h_begins h_ways h_next i_length i_keptMany i_undoMany i_seenMany i_pathMany i_place i_found i_walkers a_gone a_at a_undos_5)) (fun _ => rfl) dX8_note_109 (fun a_undos_5 H locs ea_undos_5 hW => ?_)
    replace hw := hw.2 a_undos_5 ea_undos_5
    refine lv_aload_n hx hb dX8_note_110 rfl (lv_at hl 0 rfl) ?_
    refine lv_dup hx hb dX8_note_111 rfl ?_
    refine zw_get (ci := 8) (C := RX8) (T := TX8) (N := 30) (v := .int i_undoMany) hx hb hts hiX8 hown hK hW 0 rfl rfl 12 (by decide) rfl k_1 dX8_note_112 ?_
    refine lv_iconst (v := 1) hx hb dX8_note_115 (by decide) ?_
    refine lv_iadd hx hb dX8_note_116 ?_
    refine lv_topi (fun i_6 ei_6 => ?_)
    replace hw := hw i_6 ei_6
    refine zw_put (ci := 8) (C := RX8) (T := TX8) (N := 30) (w2 := (wX8_note cyI cyJ cyZ h h_text h_many h_ones h_others h_kinds h_firsts h_persons h_gone h_at h_fines h_undos h_seenOf h_seenOpen h_path h_told h_counts h_spots h_far h_row h_begins h_ways h_next i_length i_keptMany i_6 i_seenMany i_pathMany i_place i_found i_walkers a_gone a_at a_undos_5)) hx hb hts hiX8 tyX8 tyX8_ok nmX8 hown hK hW 0 rfl rfl 12 (by decide) (by decide +kernel) rfl (Nat.le_of_ble_eq_true rfl) rfl k_1 dX8_note_117 (fun H locs hW => ?_)
    refine lv_aload_n hx hb dX8_note_120 rfl (lv_at hl 0 rfl) ?_
    refine zw_get (ci := 8) (C := RX8) (T := TX8) (N := 30) (v := .ref h_gone) hx hb hts hiX8 hown hK hW 0 rfl rfl 8 (by decide) rfl k_3 dX8_note_121 ?_
    refine lv_iload_n hx hb dX8_note_124 rfl (lv_at hl 2 rfl) ?_
    refine lv_dup2_11 hx hb dX8_note_125 rfl rfl ?_
    refine zw_iald hx hb hK hW 1 rfl rfl hw.1 dX8_note_126 ?_
    replace hw := hw.2
    refine lv_iconst (v := 1) hx hb dX8_note_127 (by decide) ?_
    refine lv_iadd hx hb dX8_note_128 ?_
    refine lv_topi (fun t_7 et_7 => ?_)
    replace hw := hw t_7 et_7
    refine zw_iast hx hb hK hW 1 rfl rfl hw.1 (w2 := fun a_gone_8 => (wX8_note cyI cyJ cyZ h h_text h_many h_ones h_others h_kinds h_firsts h_persons h_gone h_at h_fines h_undos h_seenOf h_seenOpen h_path h_told h_counts h_spots h_far h_row h_begins h_ways h_next i_length i_keptMany i_6 i_seenMany i_pathMany i_place i_found i_walkers a_gone_8 a_at a_undos_5)) (fun _ => rfl) dX8_note_129 (fun a_gone_8 H locs ea_gone_8 hW => ?_)
    replace hw := hw.2 a_gone_8 ea_gone_8
    refine zw_vret (S := Int32 × (Nat → Int32) × (Nat → Int32)) (post := fun u => post u.1 u.2.1 u.2.2) (i_6, a_gone_8, a_undos_5) hx hb hr hlocks hK hW hw ?_ dX8_note_130
    rfl
  have W_12 : ∀ (i_undoMany : Int32) (a_gone : Nat → Int32) (n_12 : Nat) (x4 : Int32) (a_undos : Nat → Int32) (H : Heap) (locs : List Loc) (ls : Array Slot), Wd (dC, dI) A s.heap (wX8_note cyI cyJ cyZ h h_text h_many h_ones h_others h_kinds h_firsts h_persons h_gone h_at h_fines h_undos h_seenOf h_seenOpen h_path h_told h_counts h_spots h_far h_row h_begins h_ways h_next i_length i_keptMany i_undoMany i_seenMany i_pathMany i_place i_found i_walkers a_gone a_at a_undos) H locs → lv_has ls 5 [(0, .ref h), (1, .int x1), (2, .int x2), (3, .int x3), (4, .int x4)] → PX8_note_12 post x1 x2 x3 a_at i_undoMany a_gone n_12 x4 a_undos → W p l e (({ frames := 0, cells := 0, slots := 0, locals := 0 } : Room)) s m (([.ref h, .int x1, .int x2, .int x3] : List Value).toArray) below meth c H locs 0 0 (MQ below (qX8_note dC dI cyI cyJ cyZ h h_text h_many h_ones h_others h_kinds h_firsts h_persons h_gone h_at h_fines h_undos h_seenOf h_seenOpen h_path h_told h_counts h_spots h_far h_row h_begins h_ways h_next i_length i_keptMany i_undoMany i_seenMany i_pathMany i_place i_found i_walkers a_gone a_at a_undos post A) (([.ref h, .int x1, .int x2, .int x3] : List Value).toArray) s 0 0 A) (F0 m 12 ls []) := by
    intro i_undoMany a_gone n_12
    induction n_12 with
    | zero =>
      intro x4 a_undos H locs ls hW hl hw
      exact False.elim hw
    | succ n_12 ih_12 =>
      intro x4 a_undos H locs ls hW hl hw
      refine lv_iload hx hb dX8_note_12 (lv_at hl 4 rfl) ?_
      refine lv_bipush (v := 28) hx hb dX8_note_14 (by decide) ?_
      refine lv_icmp_ge (tgt := 41) hx hb dX8_note_16 (by decide) (fun c_9 => ?_) (fun c_9 => ?_)
      · replace hw := hw.1 c_9
        refine lv_aload_n hx hb dX8_note_41 rfl (lv_at hl 0 rfl) ?_
        refine lv_dup hx hb dX8_note_42 rfl ?_
        refine zw_get (ci := 8) (C := RX8) (T := TX8) (N := 30) (v := .int i_undoMany) hx hb hts hiX8 hown hK hW 0 rfl rfl 12 (by decide) rfl k_1 dX8_note_43 ?_
        refine lv_iconst (v := 1) hx hb dX8_note_46 (by decide) ?_
        refine lv_isub hx hb dX8_note_47 ?_
        refine lv_topi (fun i_10 ei_10 => ?_)
        replace hw := hw i_10 ei_10
        refine zw_put (ci := 8) (C := RX8) (T := TX8) (N := 30) (w2 := (wX8_note cyI cyJ cyZ h h_text h_many h_ones h_others h_kinds h_firsts h_persons h_gone h_at h_fines h_undos h_seenOf h_seenOpen h_path h_told h_counts h_spots h_far h_row h_begins h_ways h_next i_length i_keptMany i_10 i_seenMany i_pathMany i_place i_found i_walkers a_gone a_at a_undos)) hx hb hts hiX8 tyX8 tyX8_ok nmX8 hown hK hW 0 rfl rfl 12 (by decide) (by decide +kernel) rfl (Nat.le_of_ble_eq_true rfl) rfl k_1 dX8_note_48 (fun H locs hW => ?_)
        exact W_51 i_10 a_gone a_undos _ _ _ hW (lv_sub hl [0, 1, 2, 3] rfl) hw
      · replace hw := hw.2 c_9
        refine lv_aload_n hx hb dX8_note_19 rfl (lv_at hl 0 rfl) ?_
        refine zw_get (ci := 8) (C := RX8) (T := TX8) (N := 30) (v := .ref h_undos) hx hb hts hiX8 hown hK hW 0 rfl rfl 13 (by decide) rfl k_0 dX8_note_20 ?_
        refine lv_iload hx hb dX8_note_23 (lv_at hl 4 rfl) ?_
        refine lv_aload_n hx hb dX8_note_25 rfl (lv_at hl 0 rfl) ?_
        refine zw_get (ci := 8) (C := RX8) (T := TX8) (N := 30) (v := .ref h_undos) hx hb hts hiX8 hown hK hW 0 rfl rfl 13 (by decide) rfl k_0 dX8_note_26 ?_
        refine lv_iload hx hb dX8_note_29 (lv_at hl 4 rfl) ?_
        refine lv_iconst (v := 4) hx hb dX8_note_31 (by decide) ?_
        refine lv_iadd hx hb dX8_note_32 ?_
        refine zw_iald hx hb hK hW 3 rfl rfl hw.1 dX8_note_33 ?_
        replace hw := hw.2
        refine lv_topi (fun t_11 et_11 => ?_)
        replace hw := hw t_11 et_11
        refine zw_iast hx hb hK hW 3 rfl rfl hw.1 (w2 := fun a_undos_12 => (wX8_note cyI cyJ cyZ h h_text h_many h_ones h_others h_kinds h_firsts h_persons h_gone h_at h_fines h_undos h_seenOf h_seenOpen h_path h_told h_counts h_spots h_far h_row h_begins h_ways h_next i_length i_keptMany i_undoMany i_seenMany i_pathMany i_place i_found i_walkers a_gone a_at a_undos_12)) (fun _ => rfl) dX8_note_34 (fun a_undos_12 H locs ea_undos_12 hW => ?_)
        replace hw := hw.2 a_undos_12 ea_undos_12
        obtain ⟨x4_13, ex4_13⟩ : ∃ y : Int32, y = x4 + 1 := ⟨_, rfl⟩
        replace hw := hw x4_13 ex4_13
        refine lv_iinc (v := x4_13) (lv' := [(4, .int x4_13), (0, .ref h), (1, .int x1), (2, .int x2), (3, .int x3)]) hx hb dX8_note_35 hl (k := 4) rfl (by rw [ex4_13]; rfl) (by decide) rfl (fun ls hl => ?_)
        refine lv_goto (tgt := 12) hx hb dX8_note_38 (by decide) ?_
        exact ih_12 x4_13 a_undos_12 _ _ _ hW (lv_sub hl [1, 2, 3, 4, 0] rfl) hw
  have hl := lv_entry ([.ref h, .int x1, .int x2, .int x3]) (n := 5) (Nat.le_of_ble_eq_true rfl)
  rw [lg_entry_eq]
  generalize (lg_sl ([.ref h, .int x1, .int x2, .int x3]) ++ List.replicate (5 - (lg_sl ([.ref h, .int x1, .int x2, .int x3])).length) Slot.unset).toArray = ls at hl ⊢
  have hl : lv_has ls 5 [(0, .ref h), (1, .int x1), (2, .int x2), (3, .int x3)] := hl
  refine lv_aload_n hx hb dX8_note_0 rfl (lv_at hl 0 rfl) ?_
  refine zw_get (ci := 8) (C := RX8) (T := TX8) (N := 30) (v := .int i_undoMany) hx hb hts hiX8 hown hK hW 0 rfl rfl 12 (by decide) rfl k_1 dX8_note_1 ?_
  refine lv_bipush (v := 8) hx hb dX8_note_4 (by decide) ?_
  refine lv_icmp_ne (tgt := 51) hx hb dX8_note_6 (by decide) (fun c_14 => ?_) (fun c_14 => ?_)
  · replace hw := hw.2 c_14
    exact W_51 i_undoMany a_gone a_undos _ _ _ hW (lv_sub hl [0, 1, 2, 3] rfl) hw
  · replace hw := hw.1 c_14
    refine lv_iconst (v := 0) hx hb dX8_note_9 (by decide) ?_
    refine lv_istore (lv' := [(4, .int 0), (0, .ref h), (1, .int x1), (2, .int x2), (3, .int x3)]) hx hb dX8_note_10 hl (by decide) rfl (fun ls hl => ?_)
    obtain ⟨n_12, hw⟩ := hw
    exact W_12 i_undoMany a_gone n_12 0 a_undos _ _ _ hW (lv_sub hl [1, 2, 3, 4, 0] rfl) hw
abbrev wX8_pass (cyI cyJ cyZ : ClassId) (h h_text h_many h_ones h_others h_kinds h_firsts h_persons h_gone h_at h_fines h_undos h_seenOf h_seenOpen h_path h_told h_counts h_spots h_far h_row h_begins h_ways h_next : Nat) (i_length : Int32) (i_keptMany : Int32) (i_undoMany : Int32) (i_seenMany : Int32) (i_pathMany : Int32) (i_place : Int32) (i_found : Int32) (i_walkers : Int32) (a_many : Nat → Int32) (a_ones : Nat → Int32) (a_others : Nat → Int32) (a_kinds : Nat → Int32) (a_persons : Nat → Int32) (a_gone : Nat → Int32) (a_at : Nat → Int32) (a_undos : Nat → Int32) (a_counts : Nat → Int32) (a_spots : Nat → Int32) : va_W := [(h, .inr (8, [.int i_length, .ref h_text, .ref h_many, .ref h_ones, .ref h_others, .ref h_kinds, .ref h_firsts, .ref h_persons, .ref h_gone, .ref h_at, .ref h_fines, .int i_keptMany, .int i_undoMany, .ref h_undos, .int i_seenMany, .ref h_seenOf, .ref h_seenOpen, .int i_pathMany, .ref h_path, .int i_place, .ref h_told, .ref h_counts, .ref h_spots, .ref h_far, .ref h_row, .ref h_begins, .int i_found, .int i_walkers, .ref h_ways, .ref h_next])), (h_many, .inl (cyI, 2, .inl a_many)), (h_ones, .inl (cyI, 10, .inl a_ones)), (h_others, .inl (cyI, 10, .inl a_others)), (h_kinds, .inl (cyI, 10, .inl a_kinds)), (h_persons, .inl (cyI, 2, .inl a_persons)), (h_gone, .inl (cyI, 15, .inl a_gone)), (h_at, .inl (cyI, 9, .inl a_at)), (h_undos, .inl (cyI, 32, .inl a_undos)), (h_counts, .inl (cyI, 5, .inl a_counts)), (h_spots, .inl (cyI, 3, .inl a_spots))]
abbrev qX8_pass (dC : Nat → ClassId) (dI : Nat → Nat → Nat) (cyI cyJ cyZ : ClassId) (h h_text h_many h_ones h_others h_kinds h_firsts h_persons h_gone h_at h_fines h_undos h_seenOf h_seenOpen h_path h_told h_counts h_spots h_far h_row h_begins h_ways h_next : Nat) (i_length : Int32) (i_keptMany : Int32) (i_undoMany : Int32) (i_seenMany : Int32) (i_pathMany : Int32) (i_place : Int32) (i_found : Int32) (i_walkers : Int32) (a_many : Nat → Int32) (a_ones : Nat → Int32) (a_others : Nat → Int32) (a_kinds : Nat → Int32) (a_persons : Nat → Int32) (a_gone : Nat → Int32) (a_at : Nat → Int32) (a_undos : Nat → Int32) (a_counts : Nat → Int32) (a_spots : Nat → Int32) (post : Int32 → Int32 → (Nat → Int32) → (Nat → Int32) → (Nat → Int32) → (Nat → Int32) → (Nat → Int32) → Prop) (A : Nat → Prop) : Array Value → State → Outcome → State → Prop := (va_Qi (fun (r : Int32) (u : Int32 × (Nat → Int32) × (Nat → Int32) × (Nat → Int32) × (Nat → Int32) × (Nat → Int32)) => post r u.1 u.2.1 u.2.2.1 u.2.2.2.1 u.2.2.2.2.1 u.2.2.2.2.2) (bW (dC, dI) (tyG cyI cyJ cyZ) A (fun u : Int32 × (Nat → Int32) × (Nat → Int32) × (Nat → Int32) × (Nat → Int32) × (Nat → Int32) => (wX8_pass cyI cyJ cyZ h h_text h_many h_ones h_others h_kinds h_firsts h_persons h_gone h_at h_fines h_undos h_seenOf h_seenOpen h_path h_told h_counts h_spots h_far h_row h_begins h_ways h_next i_length i_keptMany (u.1) i_seenMany i_pathMany i_place i_found i_walkers a_many a_ones a_others a_kinds a_persons (u.2.1) (u.2.2.1) (u.2.2.2.1) (u.2.2.2.2.1) (u.2.2.2.2.2)))) A)
set_option maxHeartbeats 4000000 in
set_option maxRecDepth 100000 in
theorem mX8_pass (l : Launch) (dC : Nat → ClassId) (dI : Nat → Nat → Nat) (cyI cyJ cyZ : ClassId) (h h_text h_many h_ones h_others h_kinds h_firsts h_persons h_gone h_at h_fines h_undos h_seenOf h_seenOpen h_path h_told h_counts h_spots h_far h_row h_begins h_ways h_next : Nat) (sz : Nat) (i_length : Int32) (i_keptMany : Int32) (i_undoMany : Int32) (i_seenMany : Int32) (i_pathMany : Int32) (i_place : Int32) (i_found : Int32) (i_walkers : Int32) (a_many : Nat → Int32) (a_ones : Nat → Int32) (a_others : Nat → Int32) (a_kinds : Nat → Int32) (a_persons : Nat → Int32) (a_gone : Nat → Int32) (a_at : Nat → Int32) (a_undos : Nat → Int32) (a_counts : Nat → Int32) (a_spots : Nat → Int32) (x1 : Int32) (x2 : Int32) (post : Int32 → Int32 → (Nat → Int32) → (Nat → Int32) → (Nat → Int32) → (Nat → Int32) → (Nat → Int32) → Prop) (hwp : PX8_pass x1 x2 i_undoMany a_many a_ones a_others a_kinds a_persons a_gone a_at a_undos a_counts a_spots post) : Met l yX8_pass wsX8_pass ({ frames := 3, cells := 0, slots := 0, locals := 68 } : Room) (va_Pc [.ref h, .int x1, .int x2] (pcW (dC, dI) sz (wX8_pass cyI cyJ cyZ h h_text h_many h_ones h_others h_kinds h_firsts h_persons h_gone h_at h_fines h_undos h_seenOf h_seenOpen h_path h_told h_counts h_spots h_far h_row h_begins h_ways h_next i_length i_keptMany i_undoMany i_seenMany i_pathMany i_place i_found i_walkers a_many a_ones a_others a_kinds a_persons a_gone a_at a_undos a_counts a_spots) (tyG cyI cyJ cyZ))) (qX8_pass dC dI cyI cyJ cyZ h h_text h_many h_ones h_others h_kinds h_firsts h_persons h_gone h_at h_fines h_undos h_seenOf h_seenOpen h_path h_told h_counts h_spots h_far h_row h_begins h_ways h_next i_length i_keptMany i_undoMany i_seenMany i_pathMany i_place i_found i_walkers a_many a_ones a_others a_kinds a_persons a_gone a_at a_undos a_counts a_spots post (va_A (wX8_pass cyI cyJ cyZ h h_text h_many h_ones h_others h_kinds h_firsts h_persons h_gone h_at h_fines h_undos h_seenOf h_seenOpen h_path h_told h_counts h_spots h_far h_row h_begins h_ways h_next i_length i_keptMany i_undoMany i_seenMany i_pathMany i_place i_found i_walkers a_many a_ones a_others a_kinds a_persons a_gone a_at a_undos a_counts a_spots) sz)) 0 0 (va_A (wX8_pass cyI cyJ cyZ h h_text h_many h_ones h_others h_kinds h_firsts h_persons h_gone h_at h_fines h_undos h_seenOf h_seenOpen h_path h_told h_counts h_spots h_far h_row h_begins h_ways h_next i_length i_keptMany i_undoMany i_seenMany i_pathMany i_place i_found i_walkers a_many a_ones a_others a_kinds a_persons a_gone a_at a_undos a_counts a_spots) sz) := by
  refine Met.ofW (cc := cX8_pass) (maxL := 3) (ret := some .int) (by decide) rfl ?_
  intro p e s m args below meth c s₁ B hml hv
  obtain ⟨rfl, hsz, hP, hK, hD0, hN⟩ := hv
  have hx := B.exec
  have hb := B.bytes
  have hr := B.returns
  have hts := atoms_spec (ws := wsX8_pass) B.pre
  have hown : s.vm.findClass RX8 = some m.cls := findClass_of_methodNamed B.named
  have hlocks := B.notSynchronized
  subst hsz
  have hD := hD0.self (sz := s.heap.size)
  generalize hAe : va_A (wX8_pass cyI cyJ cyZ h h_text h_many h_ones h_others h_kinds h_firsts h_persons h_gone h_at h_fines h_undos h_seenOf h_seenOpen h_path h_told h_counts h_spots h_far h_row h_begins h_ways h_next i_length i_keptMany i_undoMany i_seenMany i_pathMany i_place i_found i_walkers a_many a_ones a_others a_kinds a_persons a_gone a_at a_undos a_counts a_spots) s.heap.size = A at hD ⊢
  have hA : ∀ q : Nat, s.heap.size ≤ q → A q := fun q h => by rw [← hAe]; exact Or.inr h
  have hW : Wd (dC, dI) A s.heap (wX8_pass cyI cyJ cyZ h h_text h_many h_ones h_others h_kinds h_firsts h_persons h_gone h_at h_fines h_undos h_seenOf h_seenOpen h_path h_told h_counts h_spots h_far h_row h_begins h_ways h_next i_length i_keptMany i_undoMany i_seenMany i_pathMany i_place i_found i_walkers a_many a_ones a_others a_kinds a_persons a_gone a_at a_undos a_counts a_spots) s.heap [] := ⟨hP, hD, va_S.rf⟩
  have hw := hwp
  have hiX8 : ∀ w ∈ u_ws RX8 TX8 30, w ∈ wsX8_pass := fun _ h => List.mem_cons_of_mem _ (List.mem_append_right _ h)
  have k_0 := hts (.fieldLink RX8 34 "OddLetsInModel" "at" "[I") (List.mem_of_getElem? (i := 1) rfl)
  have hl := lv_entry ([.ref h, .int x1, .int x2]) (n := 3) (Nat.le_of_ble_eq_true rfl)
  rw [lg_entry_eq]
  generalize (lg_sl ([.ref h, .int x1, .int x2]) ++ List.replicate (3 - (lg_sl ([.ref h, .int x1, .int x2])).length) Slot.unset).toArray = ls at hl ⊢
  have hl : lv_has ls 3 [(0, .ref h), (1, .int x1), (2, .int x2)] := hl
  refine lv_aload_n hx hb dX8_pass_0 rfl (lv_at hl 0 rfl) ?_
  refine lv_iload_n hx hb dX8_pass_1 rfl (lv_at hl 1 rfl) ?_
  refine zw_Vi ⟨hx, hb, hml, hown, hts⟩ hK hN hA hW 0 rfl (T := TX8) (N := 30) rfl [.int x1] [] [0, 5] [1, 2, 3, 4, 6, 7, 8, 9, 10] [9, 0, 1, 2, 3, 10, 4, 5, 6, 7, 8] (fun _ => (wX8_pass cyI cyJ cyZ h h_text h_many h_ones h_others h_kinds h_firsts h_persons h_gone h_at h_fines h_undos h_seenOf h_seenOpen h_path h_told h_counts h_spots h_far h_row h_begins h_ways h_next i_length i_keptMany i_undoMany i_seenMany i_pathMany i_place i_found i_walkers a_many a_ones a_others a_kinds a_persons a_gone a_at a_undos a_counts a_spots)) (mX8_isPerson l dC dI cyI cyJ cyZ h h_text h_many h_ones h_others h_kinds h_firsts h_persons h_gone h_at h_fines h_undos h_seenOf h_seenOpen h_path h_told h_counts h_spots h_far h_row h_begins h_ways h_next _ i_length i_keptMany i_undoMany i_seenMany i_pathMany i_place i_found i_walkers a_persons x1 _ hw) (cwV 1 hts gX8_pass_X8_isPerson rfl rfl rfl (by decide +kernel) ⟨Nat.le_of_ble_eq_true rfl, Nat.le_of_ble_eq_true rfl⟩) rfl rfl rfl rfl (by decide) rfl (fun _ => rfl) rfl hl.1 rfl (Nat.le_of_ble_eq_true rfl) (Nat.le_of_ble_eq_true rfl) (Nat.le_of_ble_eq_true rfl) dX8_pass_2 (fun r_1 u H locs hw hW => ?_)
  obtain ⟨br_1, hw⟩ := hw
  refine lv_if_eq (tgt := 16) hx hb dX8_pass_5 (by decide) (fun c_2 => ?_) (fun c_2 => ?_)
  · replace hw := hw.1 c_2
    refine lv_iconst (v := (-1)) hx hb dX8_pass_16 (by decide) ?_
    refine zw_iret (S := Int32 × (Nat → Int32) × (Nat → Int32) × (Nat → Int32) × (Nat → Int32) × (Nat → Int32)) (post := fun r u => post r u.1 u.2.1 u.2.2.1 u.2.2.2.1 u.2.2.2.2.1 u.2.2.2.2.2) (i_undoMany, a_gone, a_at, a_undos, a_counts, a_spots) hx hb hr hlocks hK hW hw ?_ dX8_pass_17
    rfl
  · replace hw := hw.2 c_2
    refine lv_aload_n hx hb dX8_pass_8 rfl (lv_at hl 0 rfl) ?_
    refine lv_iload_n hx hb dX8_pass_9 rfl (lv_at hl 2 rfl) ?_
    refine zw_Vi ⟨hx, hb, hml, hown, hts⟩ hK hN hA hW 0 rfl (T := TX8) (N := 30) rfl [.int x2] [] [0, 1] [2, 3, 4, 5, 6, 7, 8, 9, 10] [9, 10, 0, 1, 2, 3, 4, 5, 6, 7, 8] (fun _ => (wX8_pass cyI cyJ cyZ h h_text h_many h_ones h_others h_kinds h_firsts h_persons h_gone h_at h_fines h_undos h_seenOf h_seenOpen h_path h_told h_counts h_spots h_far h_row h_begins h_ways h_next i_length i_keptMany i_undoMany i_seenMany i_pathMany i_place i_found i_walkers a_many a_ones a_others a_kinds a_persons a_gone a_at a_undos a_counts a_spots)) (mX8_isGate l dC dI cyI cyJ cyZ h h_text h_many h_ones h_others h_kinds h_firsts h_persons h_gone h_at h_fines h_undos h_seenOf h_seenOpen h_path h_told h_counts h_spots h_far h_row h_begins h_ways h_next _ i_length i_keptMany i_undoMany i_seenMany i_pathMany i_place i_found i_walkers a_many x2 _ hw) (cwV 1 hts gX8_pass_X8_isGate rfl rfl rfl (by decide +kernel) ⟨Nat.le_of_ble_eq_true rfl, Nat.le_of_ble_eq_true rfl⟩) rfl rfl rfl rfl (by decide) rfl (fun _ => rfl) rfl hl.1 rfl (Nat.le_of_ble_eq_true rfl) (Nat.le_of_ble_eq_true rfl) (Nat.le_of_ble_eq_true rfl) dX8_pass_10 (fun r_3 u H locs hw hW => ?_)
    obtain ⟨br_3, hw⟩ := hw
    refine lv_if_ne (tgt := 18) hx hb dX8_pass_13 (by decide) (fun c_4 => ?_) (fun c_4 => ?_)
    · replace hw := hw.2 c_4
      refine lv_aload_n hx hb dX8_pass_18 rfl (lv_at hl 0 rfl) ?_
      refine lv_iload_n hx hb dX8_pass_19 rfl (lv_at hl 1 rfl) ?_
      refine lv_iload_n hx hb dX8_pass_20 rfl (lv_at hl 2 rfl) ?_
      refine zw_Vi ⟨hx, hb, hml, hown, hts⟩ hK hN hA hW 0 rfl (T := TX8) (N := 30) rfl [.int x1, .int x2] [] [0, 2, 3, 4, 6, 7, 9, 10] [1, 5, 8] [3, 0, 4, 5, 6, 1, 7, 8, 2, 9, 10] (fun u => (wX8_pass cyI cyJ cyZ h h_text h_many h_ones h_others h_kinds h_firsts h_persons h_gone h_at h_fines h_undos h_seenOf h_seenOpen h_path h_told h_counts h_spots h_far h_row h_begins h_ways h_next i_length i_keptMany i_undoMany i_seenMany i_pathMany i_place i_found i_walkers a_many a_ones a_others a_kinds a_persons a_gone a_at a_undos (u.1) (u.2))) (mX8_canNow l dC dI cyI cyJ cyZ h h_text h_many h_ones h_others h_kinds h_firsts h_persons h_gone h_at h_fines h_undos h_seenOf h_seenOpen h_path h_told h_counts h_spots h_far h_row h_begins h_ways h_next _ i_length i_keptMany i_undoMany i_seenMany i_pathMany i_place i_found i_walkers a_ones a_others a_kinds a_gone a_at a_counts a_spots x1 x2 _ hw) (cwV 2 hts gX8_pass_X8_canNow rfl rfl rfl (by decide +kernel) ⟨Nat.le_of_ble_eq_true rfl, Nat.le_of_ble_eq_true rfl⟩) rfl rfl rfl rfl (by decide) rfl (fun _ => rfl) rfl hl.1 rfl (Nat.le_of_ble_eq_true rfl) (Nat.le_of_ble_eq_true rfl) (Nat.le_of_ble_eq_true rfl) dX8_pass_21 (fun r_7 u H locs hw hW => ?_)
      obtain ⟨a_counts_5, a_spots_6⟩ := u
      try dsimp only at hw
      replace hW : Wd (dC, dI) A s.heap (wX8_pass cyI cyJ cyZ h h_text h_many h_ones h_others h_kinds h_firsts h_persons h_gone h_at h_fines h_undos h_seenOf h_seenOpen h_path h_told h_counts h_spots h_far h_row h_begins h_ways h_next i_length i_keptMany i_undoMany i_seenMany i_pathMany i_place i_found i_walkers a_many a_ones a_others a_kinds a_persons a_gone a_at a_undos a_counts_5 a_spots_6) H locs := hW
      obtain ⟨br_7, hw⟩ := hw
      refine lv_if_ne (tgt := 30) hx hb dX8_pass_24 (by decide) (fun c_8 => ?_) (fun c_8 => ?_)
      · replace hw := hw.2 c_8
        refine lv_aload_n hx hb dX8_pass_30 rfl (lv_at hl 0 rfl) ?_
        refine lv_iload_n hx hb dX8_pass_31 rfl (lv_at hl 1 rfl) ?_
        refine lv_iload_n hx hb dX8_pass_32 rfl (lv_at hl 2 rfl) ?_
        refine lv_iconst (v := 0) hx hb dX8_pass_33 (by decide) ?_
        refine zw_Vv ⟨hx, hb, hml, hown, hts⟩ hK hN hA hW 0 rfl (T := TX8) (N := 30) rfl [.int x1, .int x2, .int 0] [] [0, 6, 7, 8] [1, 2, 3, 4, 5, 9, 10] [7, 0, 1, 2, 3, 4, 8, 9, 10, 5, 6] (fun u => (wX8_pass cyI cyJ cyZ h h_text h_many h_ones h_others h_kinds h_firsts h_persons h_gone h_at h_fines h_undos h_seenOf h_seenOpen h_path h_told h_counts h_spots h_far h_row h_begins h_ways h_next i_length i_keptMany (u.1) i_seenMany i_pathMany i_place i_found i_walkers a_many a_ones a_others a_kinds a_persons (u.2.1) a_at (u.2.2) a_counts_5 a_spots_6)) (mX8_note l dC dI cyI cyJ cyZ h h_text h_many h_ones h_others h_kinds h_firsts h_persons h_gone h_at h_fines h_undos h_seenOf h_seenOpen h_path h_told h_counts h_spots h_far h_row h_begins h_ways h_next _ i_length i_keptMany i_undoMany i_seenMany i_pathMany i_place i_found i_walkers a_gone a_at a_undos x1 x2 0 _ hw) (cwV 3 hts gX8_pass_X8_note rfl rfl rfl (by decide +kernel) ⟨Nat.le_of_ble_eq_true rfl, Nat.le_of_ble_eq_true rfl⟩) rfl rfl rfl rfl (by decide) rfl (fun _ => rfl) rfl hl.1 rfl (Nat.le_of_ble_eq_true rfl) (Nat.le_of_ble_eq_true rfl) (Nat.le_of_ble_eq_true rfl) dX8_pass_34 (fun u H locs hw hW => ?_)
        obtain ⟨i_undoMany_9, a_gone_10, a_undos_11⟩ := u
        try dsimp only at hw
        replace hW : Wd (dC, dI) A s.heap (wX8_pass cyI cyJ cyZ h h_text h_many h_ones h_others h_kinds h_firsts h_persons h_gone h_at h_fines h_undos h_seenOf h_seenOpen h_path h_told h_counts h_spots h_far h_row h_begins h_ways h_next i_length i_keptMany i_undoMany_9 i_seenMany i_pathMany i_place i_found i_walkers a_many a_ones a_others a_kinds a_persons a_gone_10 a_at a_undos_11 a_counts_5 a_spots_6) H locs := hW
        refine lv_aload_n hx hb dX8_pass_37 rfl (lv_at hl 0 rfl) ?_
        refine zw_get (ci := 8) (C := RX8) (T := TX8) (N := 30) (v := .ref h_at) hx hb hts hiX8 hown hK hW 0 rfl rfl 9 (by decide) rfl k_0 dX8_pass_38 ?_
        refine lv_iload_n hx hb dX8_pass_41 rfl (lv_at hl 1 rfl) ?_
        refine lv_aload_n hx hb dX8_pass_42 rfl (lv_at hl 0 rfl) ?_
        refine lv_iload_n hx hb dX8_pass_43 rfl (lv_at hl 2 rfl) ?_
        refine lv_aload_n hx hb dX8_pass_44 rfl (lv_at hl 0 rfl) ?_
        refine zw_get (ci := 8) (C := RX8) (T := TX8) (N := 30) (v := .ref h_at) hx hb hts hiX8 hown hK hW 0 rfl rfl 9 (by decide) rfl k_0 dX8_pass_45 ?_
        refine lv_iload_n hx hb dX8_pass_48 rfl (lv_at hl 1 rfl) ?_
        refine zw_iald hx hb hK hW 7 rfl rfl hw.1 dX8_pass_49 ?_
        replace hw := hw.2
        refine zw_Vi ⟨hx, hb, hml, hown, hts⟩ hK hN hA hW 0 rfl (T := TX8) (N := 30) rfl [.int x2, .int (a_at (x1).toNatClampNeg)] [.int x1, .ref h_at] [0, 2, 3] [1, 4, 5, 6, 7, 8, 9, 10] [8, 0, 9, 10, 1, 2, 3, 4, 5, 6, 7] (fun _ => (wX8_pass cyI cyJ cyZ h h_text h_many h_ones h_others h_kinds h_firsts h_persons h_gone h_at h_fines h_undos h_seenOf h_seenOpen h_path h_told h_counts h_spots h_far h_row h_begins h_ways h_next i_length i_keptMany i_undoMany_9 i_seenMany i_pathMany i_place i_found i_walkers a_many a_ones a_others a_kinds a_persons a_gone_10 a_at a_undos_11 a_counts_5 a_spots_6)) (mX8_beyond l dC dI cyI cyJ cyZ h h_text h_many h_ones h_others h_kinds h_firsts h_persons h_gone h_at h_fines h_undos h_seenOf h_seenOpen h_path h_told h_counts h_spots h_far h_row h_begins h_ways h_next _ i_length i_keptMany i_undoMany_9 i_seenMany i_pathMany i_place i_found i_walkers a_ones a_others x2 (a_at (x1).toNatClampNeg) _ hw) (cwV 2 hts gX8_pass_X8_beyond rfl rfl rfl (by decide +kernel) ⟨Nat.le_of_ble_eq_true rfl, Nat.le_of_ble_eq_true rfl⟩) rfl rfl rfl rfl (by decide) rfl (fun _ => rfl) rfl hl.1 rfl (Nat.le_of_ble_eq_true rfl) (Nat.le_of_ble_eq_true rfl) (Nat.le_of_ble_eq_true rfl) dX8_pass_50 (fun r_12 u H locs hw hW => ?_)
        refine zw_iast hx hb hK hW 7 rfl rfl hw.1 (w2 := fun a_at_13 => (wX8_pass cyI cyJ cyZ h h_text h_many h_ones h_others h_kinds h_firsts h_persons h_gone h_at h_fines h_undos h_seenOf h_seenOpen h_path h_told h_counts h_spots h_far h_row h_begins h_ways h_next i_length i_keptMany i_undoMany_9 i_seenMany i_pathMany i_place i_found i_walkers a_many a_ones a_others a_kinds a_persons a_gone_10 a_at_13 a_undos_11 a_counts_5 a_spots_6)) (fun _ => rfl) dX8_pass_53 (fun a_at_13 H locs ea_at_13 hW => ?_)
        replace hw := hw.2 a_at_13 ea_at_13
        refine lv_aload_n hx hb dX8_pass_54 rfl (lv_at hl 0 rfl) ?_
        refine zw_get (ci := 8) (C := RX8) (T := TX8) (N := 30) (v := .ref h_at) hx hb hts hiX8 hown hK hW 0 rfl rfl 9 (by decide) rfl k_0 dX8_pass_55 ?_
        refine lv_iload_n hx hb dX8_pass_58 rfl (lv_at hl 1 rfl) ?_
        refine zw_iald hx hb hK hW 7 rfl rfl hw.1 dX8_pass_59 ?_
        replace hw := hw.2
        refine zw_iret (S := Int32 × (Nat → Int32) × (Nat → Int32) × (Nat → Int32) × (Nat → Int32) × (Nat → Int32)) (post := fun r u => post r u.1 u.2.1 u.2.2.1 u.2.2.2.1 u.2.2.2.2.1 u.2.2.2.2.2) (i_undoMany_9, a_gone_10, a_at_13, a_undos_11, a_counts_5, a_spots_6) hx hb hr hlocks hK hW hw ?_ dX8_pass_60
        rfl
      · replace hw := hw.1 c_8
        refine lv_bipush (v := (-2)) hx hb dX8_pass_27 (by decide) ?_
        refine zw_iret (S := Int32 × (Nat → Int32) × (Nat → Int32) × (Nat → Int32) × (Nat → Int32) × (Nat → Int32)) (post := fun r u => post r u.1 u.2.1 u.2.2.1 u.2.2.2.1 u.2.2.2.2.1 u.2.2.2.2.2) (i_undoMany, a_gone, a_at, a_undos, a_counts_5, a_spots_6) hx hb hr hlocks hK hW hw ?_ dX8_pass_29
        rfl
    · replace hw := hw.1 c_4
      refine lv_iconst (v := (-1)) hx hb dX8_pass_16 (by decide) ?_
      refine zw_iret (S := Int32 × (Nat → Int32) × (Nat → Int32) × (Nat → Int32) × (Nat → Int32) × (Nat → Int32)) (post := fun r u => post r u.1 u.2.1 u.2.2.1 u.2.2.2.1 u.2.2.2.2.1 u.2.2.2.2.2) (i_undoMany, a_gone, a_at, a_undos, a_counts, a_spots) hx hb hr hlocks hK hW hw ?_ dX8_pass_17
      rfl
abbrev wX8_linger (cyI cyJ cyZ : ClassId) (h h_text h_many h_ones h_others h_kinds h_firsts h_persons h_gone h_at h_fines h_undos h_seenOf h_seenOpen h_path h_told h_counts h_spots h_far h_row h_begins h_ways h_next : Nat) (i_length : Int32) (i_keptMany : Int32) (i_undoMany : Int32) (i_seenMany : Int32) (i_pathMany : Int32) (i_place : Int32) (i_found : Int32) (i_walkers : Int32) (a_many : Nat → Int32) (a_ones : Nat → Int32) (a_others : Nat → Int32) (a_kinds : Nat → Int32) (a_persons : Nat → Int32) (a_gone : Nat → Int32) (a_at : Nat → Int32) (a_fines : Nat → Int32) (a_undos : Nat → Int32) (a_counts : Nat → Int32) (a_spots : Nat → Int32) : va_W := [(h, .inr (8, [.int i_length, .ref h_text, .ref h_many, .ref h_ones, .ref h_others, .ref h_kinds, .ref h_firsts, .ref h_persons, .ref h_gone, .ref h_at, .ref h_fines, .int i_keptMany, .int i_undoMany, .ref h_undos, .int i_seenMany, .ref h_seenOf, .ref h_seenOpen, .int i_pathMany, .ref h_path, .int i_place, .ref h_told, .ref h_counts, .ref h_spots, .ref h_far, .ref h_row, .ref h_begins, .int i_found, .int i_walkers, .ref h_ways, .ref h_next])), (h_many, .inl (cyI, 2, .inl a_many)), (h_ones, .inl (cyI, 10, .inl a_ones)), (h_others, .inl (cyI, 10, .inl a_others)), (h_kinds, .inl (cyI, 10, .inl a_kinds)), (h_persons, .inl (cyI, 2, .inl a_persons)), (h_gone, .inl (cyI, 15, .inl a_gone)), (h_at, .inl (cyI, 9, .inl a_at)), (h_fines, .inl (cyI, 3, .inl a_fines)), (h_undos, .inl (cyI, 32, .inl a_undos)), (h_counts, .inl (cyI, 5, .inl a_counts)), (h_spots, .inl (cyI, 3, .inl a_spots))]
abbrev qX8_linger (dC : Nat → ClassId) (dI : Nat → Nat → Nat) (cyI cyJ cyZ : ClassId) (h h_text h_many h_ones h_others h_kinds h_firsts h_persons h_gone h_at h_fines h_undos h_seenOf h_seenOpen h_path h_told h_counts h_spots h_far h_row h_begins h_ways h_next : Nat) (i_length : Int32) (i_keptMany : Int32) (i_undoMany : Int32) (i_seenMany : Int32) (i_pathMany : Int32) (i_place : Int32) (i_found : Int32) (i_walkers : Int32) (a_many : Nat → Int32) (a_ones : Nat → Int32) (a_others : Nat → Int32) (a_kinds : Nat → Int32) (a_persons : Nat → Int32) (a_gone : Nat → Int32) (a_at : Nat → Int32) (a_fines : Nat → Int32) (a_undos : Nat → Int32) (a_counts : Nat → Int32) (a_spots : Nat → Int32) (post : Int32 → Int32 → (Nat → Int32) → (Nat → Int32) → (Nat → Int32) → (Nat → Int32) → (Nat → Int32) → Prop) (A : Nat → Prop) : Array Value → State → Outcome → State → Prop := (va_Qi (fun (r : Int32) (u : Int32 × (Nat → Int32) × (Nat → Int32) × (Nat → Int32) × (Nat → Int32) × (Nat → Int32)) => post r u.1 u.2.1 u.2.2.1 u.2.2.2.1 u.2.2.2.2.1 u.2.2.2.2.2) (bW (dC, dI) (tyG cyI cyJ cyZ) A (fun u : Int32 × (Nat → Int32) × (Nat → Int32) × (Nat → Int32) × (Nat → Int32) × (Nat → Int32) => (wX8_linger cyI cyJ cyZ h h_text h_many h_ones h_others h_kinds h_firsts h_persons h_gone h_at h_fines h_undos h_seenOf h_seenOpen h_path h_told h_counts h_spots h_far h_row h_begins h_ways h_next i_length i_keptMany (u.1) i_seenMany i_pathMany i_place i_found i_walkers a_many a_ones a_others a_kinds a_persons (u.2.1) a_at (u.2.2.1) (u.2.2.2.1) (u.2.2.2.2.1) (u.2.2.2.2.2)))) A)
set_option maxHeartbeats 4000000 in
set_option maxRecDepth 100000 in
theorem mX8_linger (l : Launch) (dC : Nat → ClassId) (dI : Nat → Nat → Nat) (cyI cyJ cyZ : ClassId) (h h_text h_many h_ones h_others h_kinds h_firsts h_persons h_gone h_at h_fines h_undos h_seenOf h_seenOpen h_path h_told h_counts h_spots h_far h_row h_begins h_ways h_next : Nat) (sz : Nat) (i_length : Int32) (i_keptMany : Int32) (i_undoMany : Int32) (i_seenMany : Int32) (i_pathMany : Int32) (i_place : Int32) (i_found : Int32) (i_walkers : Int32) (a_many : Nat → Int32) (a_ones : Nat → Int32) (a_others : Nat → Int32) (a_kinds : Nat → Int32) (a_persons : Nat → Int32) (a_gone : Nat → Int32) (a_at : Nat → Int32) (a_fines : Nat → Int32) (a_undos : Nat → Int32) (a_counts : Nat → Int32) (a_spots : Nat → Int32) (x1 : Int32) (x2 : Int32) (post : Int32 → Int32 → (Nat → Int32) → (Nat → Int32) → (Nat → Int32) → (Nat → Int32) → (Nat → Int32) → Prop) (hwp : PX8_linger x1 x2 i_undoMany a_many a_ones a_others a_kinds a_persons a_gone a_at a_fines a_undos a_counts a_spots post) : Met l yX8_linger wsX8_linger ({ frames := 3, cells := 0, slots := 0, locals := 68 } : Room) (va_Pc [.ref h, .int x1, .int x2] (pcW (dC, dI) sz (wX8_linger cyI cyJ cyZ h h_text h_many h_ones h_others h_kinds h_firsts h_persons h_gone h_at h_fines h_undos h_seenOf h_seenOpen h_path h_told h_counts h_spots h_far h_row h_begins h_ways h_next i_length i_keptMany i_undoMany i_seenMany i_pathMany i_place i_found i_walkers a_many a_ones a_others a_kinds a_persons a_gone a_at a_fines a_undos a_counts a_spots) (tyG cyI cyJ cyZ))) (qX8_linger dC dI cyI cyJ cyZ h h_text h_many h_ones h_others h_kinds h_firsts h_persons h_gone h_at h_fines h_undos h_seenOf h_seenOpen h_path h_told h_counts h_spots h_far h_row h_begins h_ways h_next i_length i_keptMany i_undoMany i_seenMany i_pathMany i_place i_found i_walkers a_many a_ones a_others a_kinds a_persons a_gone a_at a_fines a_undos a_counts a_spots post (va_A (wX8_linger cyI cyJ cyZ h h_text h_many h_ones h_others h_kinds h_firsts h_persons h_gone h_at h_fines h_undos h_seenOf h_seenOpen h_path h_told h_counts h_spots h_far h_row h_begins h_ways h_next i_length i_keptMany i_undoMany i_seenMany i_pathMany i_place i_found i_walkers a_many a_ones a_others a_kinds a_persons a_gone a_at a_fines a_undos a_counts a_spots) sz)) 0 0 (va_A (wX8_linger cyI cyJ cyZ h h_text h_many h_ones h_others h_kinds h_firsts h_persons h_gone h_at h_fines h_undos h_seenOf h_seenOpen h_path h_told h_counts h_spots h_far h_row h_begins h_ways h_next i_length i_keptMany i_undoMany i_seenMany i_pathMany i_place i_found i_walkers a_many a_ones a_others a_kinds a_persons a_gone a_at a_fines a_undos a_counts a_spots) sz) := by
  refine Met.ofW (cc := cX8_linger) (maxL := 3) (ret := some .int) (by decide) rfl ?_
  intro p e s m args below meth c s₁ B hml hv
  obtain ⟨rfl, hsz, hP, hK, hD0, hN⟩ := hv
  have hx := B.exec
  have hb := B.bytes
  have hr := B.returns
  have hts := atoms_spec (ws := wsX8_linger) B.pre
  have hown : s.vm.findClass RX8 = some m.cls := findClass_of_methodNamed B.named
  have hlocks := B.notSynchronized
  subst hsz
  have hD := hD0.self (sz := s.heap.size)
  generalize hAe : va_A (wX8_linger cyI cyJ cyZ h h_text h_many h_ones h_others h_kinds h_firsts h_persons h_gone h_at h_fines h_undos h_seenOf h_seenOpen h_path h_told h_counts h_spots h_far h_row h_begins h_ways h_next i_length i_keptMany i_undoMany i_seenMany i_pathMany i_place i_found i_walkers a_many a_ones a_others a_kinds a_persons a_gone a_at a_fines a_undos a_counts a_spots) s.heap.size = A at hD ⊢
  have hA : ∀ q : Nat, s.heap.size ≤ q → A q := fun q h => by rw [← hAe]; exact Or.inr h
  have hW : Wd (dC, dI) A s.heap (wX8_linger cyI cyJ cyZ h h_text h_many h_ones h_others h_kinds h_firsts h_persons h_gone h_at h_fines h_undos h_seenOf h_seenOpen h_path h_told h_counts h_spots h_far h_row h_begins h_ways h_next i_length i_keptMany i_undoMany i_seenMany i_pathMany i_place i_found i_walkers a_many a_ones a_others a_kinds a_persons a_gone a_at a_fines a_undos a_counts a_spots) s.heap [] := ⟨hP, hD, va_S.rf⟩
  have hw := hwp
  have hiX8 : ∀ w ∈ u_ws RX8 TX8 30, w ∈ wsX8_linger := fun _ h => List.mem_cons_of_mem _ (List.mem_append_right _ h)
  have k_0 := hts (.fieldLink RX8 37 "OddLetsInModel" "fines" "[I") (List.mem_of_getElem? (i := 1) rfl)
  have hl := lv_entry ([.ref h, .int x1, .int x2]) (n := 3) (Nat.le_of_ble_eq_true rfl)
  rw [lg_entry_eq]
  generalize (lg_sl ([.ref h, .int x1, .int x2]) ++ List.replicate (3 - (lg_sl ([.ref h, .int x1, .int x2])).length) Slot.unset).toArray = ls at hl ⊢
  have hl : lv_has ls 3 [(0, .ref h), (1, .int x1), (2, .int x2)] := hl
  refine lv_aload_n hx hb dX8_linger_0 rfl (lv_at hl 0 rfl) ?_
  refine lv_iload_n hx hb dX8_linger_1 rfl (lv_at hl 1 rfl) ?_
  refine zw_Vi ⟨hx, hb, hml, hown, hts⟩ hK hN hA hW 0 rfl (T := TX8) (N := 30) rfl [.int x1] [] [0, 5] [1, 2, 3, 4, 6, 7, 8, 9, 10, 11] [10, 0, 1, 2, 3, 11, 4, 5, 6, 7, 8, 9] (fun _ => (wX8_linger cyI cyJ cyZ h h_text h_many h_ones h_others h_kinds h_firsts h_persons h_gone h_at h_fines h_undos h_seenOf h_seenOpen h_path h_told h_counts h_spots h_far h_row h_begins h_ways h_next i_length i_keptMany i_undoMany i_seenMany i_pathMany i_place i_found i_walkers a_many a_ones a_others a_kinds a_persons a_gone a_at a_fines a_undos a_counts a_spots)) (mX8_isPerson l dC dI cyI cyJ cyZ h h_text h_many h_ones h_others h_kinds h_firsts h_persons h_gone h_at h_fines h_undos h_seenOf h_seenOpen h_path h_told h_counts h_spots h_far h_row h_begins h_ways h_next _ i_length i_keptMany i_undoMany i_seenMany i_pathMany i_place i_found i_walkers a_persons x1 _ hw) (cwV 1 hts gX8_linger_X8_isPerson rfl rfl rfl (by decide +kernel) ⟨Nat.le_of_ble_eq_true rfl, Nat.le_of_ble_eq_true rfl⟩) rfl rfl rfl rfl (by decide) rfl (fun _ => rfl) rfl hl.1 rfl (Nat.le_of_ble_eq_true rfl) (Nat.le_of_ble_eq_true rfl) (Nat.le_of_ble_eq_true rfl) dX8_linger_2 (fun r_1 u H locs hw hW => ?_)
  obtain ⟨br_1, hw⟩ := hw
  refine lv_if_eq (tgt := 16) hx hb dX8_linger_5 (by decide) (fun c_2 => ?_) (fun c_2 => ?_)
  · replace hw := hw.1 c_2
    refine lv_iconst (v := (-1)) hx hb dX8_linger_16 (by decide) ?_
    refine zw_iret (S := Int32 × (Nat → Int32) × (Nat → Int32) × (Nat → Int32) × (Nat → Int32) × (Nat → Int32)) (post := fun r u => post r u.1 u.2.1 u.2.2.1 u.2.2.2.1 u.2.2.2.2.1 u.2.2.2.2.2) (i_undoMany, a_gone, a_fines, a_undos, a_counts, a_spots) hx hb hr hlocks hK hW hw ?_ dX8_linger_17
    rfl
  · replace hw := hw.2 c_2
    refine lv_aload_n hx hb dX8_linger_8 rfl (lv_at hl 0 rfl) ?_
    refine lv_iload_n hx hb dX8_linger_9 rfl (lv_at hl 2 rfl) ?_
    refine zw_Vi ⟨hx, hb, hml, hown, hts⟩ hK hN hA hW 0 rfl (T := TX8) (N := 30) rfl [.int x2] [] [0, 1] [2, 3, 4, 5, 6, 7, 8, 9, 10, 11] [10, 11, 0, 1, 2, 3, 4, 5, 6, 7, 8, 9] (fun _ => (wX8_linger cyI cyJ cyZ h h_text h_many h_ones h_others h_kinds h_firsts h_persons h_gone h_at h_fines h_undos h_seenOf h_seenOpen h_path h_told h_counts h_spots h_far h_row h_begins h_ways h_next i_length i_keptMany i_undoMany i_seenMany i_pathMany i_place i_found i_walkers a_many a_ones a_others a_kinds a_persons a_gone a_at a_fines a_undos a_counts a_spots)) (mX8_isGate l dC dI cyI cyJ cyZ h h_text h_many h_ones h_others h_kinds h_firsts h_persons h_gone h_at h_fines h_undos h_seenOf h_seenOpen h_path h_told h_counts h_spots h_far h_row h_begins h_ways h_next _ i_length i_keptMany i_undoMany i_seenMany i_pathMany i_place i_found i_walkers a_many x2 _ hw) (cwV 1 hts gX8_linger_X8_isGate rfl rfl rfl (by decide +kernel) ⟨Nat.le_of_ble_eq_true rfl, Nat.le_of_ble_eq_true rfl⟩) rfl rfl rfl rfl (by decide) rfl (fun _ => rfl) rfl hl.1 rfl (Nat.le_of_ble_eq_true rfl) (Nat.le_of_ble_eq_true rfl) (Nat.le_of_ble_eq_true rfl) dX8_linger_10 (fun r_3 u H locs hw hW => ?_)
    obtain ⟨br_3, hw⟩ := hw
    refine lv_if_ne (tgt := 18) hx hb dX8_linger_13 (by decide) (fun c_4 => ?_) (fun c_4 => ?_)
    · replace hw := hw.2 c_4
      refine lv_aload_n hx hb dX8_linger_18 rfl (lv_at hl 0 rfl) ?_
      refine lv_iload_n hx hb dX8_linger_19 rfl (lv_at hl 1 rfl) ?_
      refine lv_iload_n hx hb dX8_linger_20 rfl (lv_at hl 2 rfl) ?_
      refine zw_Vi ⟨hx, hb, hml, hown, hts⟩ hK hN hA hW 0 rfl (T := TX8) (N := 30) rfl [.int x1, .int x2] [] [0, 2, 3, 4, 6, 7, 10, 11] [1, 5, 8, 9] [4, 0, 5, 6, 7, 1, 8, 9, 2, 3, 10, 11] (fun u => (wX8_linger cyI cyJ cyZ h h_text h_many h_ones h_others h_kinds h_firsts h_persons h_gone h_at h_fines h_undos h_seenOf h_seenOpen h_path h_told h_counts h_spots h_far h_row h_begins h_ways h_next i_length i_keptMany i_undoMany i_seenMany i_pathMany i_place i_found i_walkers a_many a_ones a_others a_kinds a_persons a_gone a_at a_fines a_undos (u.1) (u.2))) (mX8_canNow l dC dI cyI cyJ cyZ h h_text h_many h_ones h_others h_kinds h_firsts h_persons h_gone h_at h_fines h_undos h_seenOf h_seenOpen h_path h_told h_counts h_spots h_far h_row h_begins h_ways h_next _ i_length i_keptMany i_undoMany i_seenMany i_pathMany i_place i_found i_walkers a_ones a_others a_kinds a_gone a_at a_counts a_spots x1 x2 _ hw) (cwV 2 hts gX8_linger_X8_canNow rfl rfl rfl (by decide +kernel) ⟨Nat.le_of_ble_eq_true rfl, Nat.le_of_ble_eq_true rfl⟩) rfl rfl rfl rfl (by decide) rfl (fun _ => rfl) rfl hl.1 rfl (Nat.le_of_ble_eq_true rfl) (Nat.le_of_ble_eq_true rfl) (Nat.le_of_ble_eq_true rfl) dX8_linger_21 (fun r_7 u H locs hw hW => ?_)
      obtain ⟨a_counts_5, a_spots_6⟩ := u
      try dsimp only at hw
      replace hW : Wd (dC, dI) A s.heap (wX8_linger cyI cyJ cyZ h h_text h_many h_ones h_others h_kinds h_firsts h_persons h_gone h_at h_fines h_undos h_seenOf h_seenOpen h_path h_told h_counts h_spots h_far h_row h_begins h_ways h_next i_length i_keptMany i_undoMany i_seenMany i_pathMany i_place i_found i_walkers a_many a_ones a_others a_kinds a_persons a_gone a_at a_fines a_undos a_counts_5 a_spots_6) H locs := hW
      obtain ⟨br_7, hw⟩ := hw
      refine lv_if_ne (tgt := 30) hx hb dX8_linger_24 (by decide) (fun c_8 => ?_) (fun c_8 => ?_)
      · replace hw := hw.2 c_8
        refine lv_aload_n hx hb dX8_linger_30 rfl (lv_at hl 0 rfl) ?_
        refine lv_iload_n hx hb dX8_linger_31 rfl (lv_at hl 1 rfl) ?_
        refine lv_iload_n hx hb dX8_linger_32 rfl (lv_at hl 2 rfl) ?_
        refine lv_iconst (v := 1) hx hb dX8_linger_33 (by decide) ?_
        refine zw_Vv ⟨hx, hb, hml, hown, hts⟩ hK hN hA hW 0 rfl (T := TX8) (N := 30) rfl [.int x1, .int x2, .int 1] [] [0, 6, 7, 9] [1, 2, 3, 4, 5, 8, 10, 11] [8, 0, 1, 2, 3, 4, 9, 10, 5, 11, 6, 7] (fun u => (wX8_linger cyI cyJ cyZ h h_text h_many h_ones h_others h_kinds h_firsts h_persons h_gone h_at h_fines h_undos h_seenOf h_seenOpen h_path h_told h_counts h_spots h_far h_row h_begins h_ways h_next i_length i_keptMany (u.1) i_seenMany i_pathMany i_place i_found i_walkers a_many a_ones a_others a_kinds a_persons (u.2.1) a_at a_fines (u.2.2) a_counts_5 a_spots_6)) (mX8_note l dC dI cyI cyJ cyZ h h_text h_many h_ones h_others h_kinds h_firsts h_persons h_gone h_at h_fines h_undos h_seenOf h_seenOpen h_path h_told h_counts h_spots h_far h_row h_begins h_ways h_next _ i_length i_keptMany i_undoMany i_seenMany i_pathMany i_place i_found i_walkers a_gone a_at a_undos x1 x2 1 _ hw) (cwV 3 hts gX8_linger_X8_note rfl rfl rfl (by decide +kernel) ⟨Nat.le_of_ble_eq_true rfl, Nat.le_of_ble_eq_true rfl⟩) rfl rfl rfl rfl (by decide) rfl (fun _ => rfl) rfl hl.1 rfl (Nat.le_of_ble_eq_true rfl) (Nat.le_of_ble_eq_true rfl) (Nat.le_of_ble_eq_true rfl) dX8_linger_34 (fun u H locs hw hW => ?_)
        obtain ⟨i_undoMany_9, a_gone_10, a_undos_11⟩ := u
        try dsimp only at hw
        replace hW : Wd (dC, dI) A s.heap (wX8_linger cyI cyJ cyZ h h_text h_many h_ones h_others h_kinds h_firsts h_persons h_gone h_at h_fines h_undos h_seenOf h_seenOpen h_path h_told h_counts h_spots h_far h_row h_begins h_ways h_next i_length i_keptMany i_undoMany_9 i_seenMany i_pathMany i_place i_found i_walkers a_many a_ones a_others a_kinds a_persons a_gone_10 a_at a_fines a_undos_11 a_counts_5 a_spots_6) H locs := hW
        refine lv_aload_n hx hb dX8_linger_37 rfl (lv_at hl 0 rfl) ?_
        refine zw_get (ci := 8) (C := RX8) (T := TX8) (N := 30) (v := .ref h_fines) hx hb hts hiX8 hown hK hW 0 rfl rfl 10 (by decide) rfl k_0 dX8_linger_38 ?_
        refine lv_iconst (v := 0) hx hb dX8_linger_41 (by decide) ?_
        refine lv_dup2_11 hx hb dX8_linger_42 rfl rfl ?_
        refine zw_iald hx hb hK hW 8 rfl rfl hw.1 dX8_linger_43 ?_
        replace hw := hw.2
        refine lv_iconst (v := 1) hx hb dX8_linger_44 (by decide) ?_
        refine lv_iadd hx hb dX8_linger_45 ?_
        refine lv_topi (fun t_12 et_12 => ?_)
        replace hw := hw t_12 et_12
        refine zw_iast hx hb hK hW 8 rfl rfl hw.1 (w2 := fun a_fines_13 => (wX8_linger cyI cyJ cyZ h h_text h_many h_ones h_others h_kinds h_firsts h_persons h_gone h_at h_fines h_undos h_seenOf h_seenOpen h_path h_told h_counts h_spots h_far h_row h_begins h_ways h_next i_length i_keptMany i_undoMany_9 i_seenMany i_pathMany i_place i_found i_walkers a_many a_ones a_others a_kinds a_persons a_gone_10 a_at a_fines_13 a_undos_11 a_counts_5 a_spots_6)) (fun _ => rfl) dX8_linger_46 (fun a_fines_13 H locs ea_fines_13 hW => ?_)
        replace hw := hw.2 a_fines_13 ea_fines_13
        refine lv_aload_n hx hb dX8_linger_47 rfl (lv_at hl 0 rfl) ?_
        refine zw_get (ci := 8) (C := RX8) (T := TX8) (N := 30) (v := .ref h_fines) hx hb hts hiX8 hown hK hW 0 rfl rfl 10 (by decide) rfl k_0 dX8_linger_48 ?_
        refine lv_iconst (v := 0) hx hb dX8_linger_51 (by decide) ?_
        refine zw_iald hx hb hK hW 8 rfl rfl hw.1 dX8_linger_52 ?_
        replace hw := hw.2
        refine zw_iret (S := Int32 × (Nat → Int32) × (Nat → Int32) × (Nat → Int32) × (Nat → Int32) × (Nat → Int32)) (post := fun r u => post r u.1 u.2.1 u.2.2.1 u.2.2.2.1 u.2.2.2.2.1 u.2.2.2.2.2) (i_undoMany_9, a_gone_10, a_fines_13, a_undos_11, a_counts_5, a_spots_6) hx hb hr hlocks hK hW hw ?_ dX8_linger_53
        rfl
      · replace hw := hw.1 c_8
        refine lv_bipush (v := (-2)) hx hb dX8_linger_27 (by decide) ?_
        refine zw_iret (S := Int32 × (Nat → Int32) × (Nat → Int32) × (Nat → Int32) × (Nat → Int32) × (Nat → Int32)) (post := fun r u => post r u.1 u.2.1 u.2.2.1 u.2.2.2.1 u.2.2.2.2.1 u.2.2.2.2.2) (i_undoMany, a_gone, a_fines, a_undos, a_counts_5, a_spots_6) hx hb hr hlocks hK hW hw ?_ dX8_linger_29
        rfl
    · replace hw := hw.1 c_4
      refine lv_iconst (v := (-1)) hx hb dX8_linger_16 (by decide) ?_
      refine zw_iret (S := Int32 × (Nat → Int32) × (Nat → Int32) × (Nat → Int32) × (Nat → Int32) × (Nat → Int32)) (post := fun r u => post r u.1 u.2.1 u.2.2.1 u.2.2.2.1 u.2.2.2.2.1 u.2.2.2.2.2) (i_undoMany, a_gone, a_fines, a_undos, a_counts, a_spots) hx hb hr hlocks hK hW hw ?_ dX8_linger_17
      rfl
abbrev wX8_undo (cyI cyJ cyZ : ClassId) (h h_text h_many h_ones h_others h_kinds h_firsts h_persons h_gone h_at h_fines h_undos h_seenOf h_seenOpen h_path h_told h_counts h_spots h_far h_row h_begins h_ways h_next : Nat) (i_length : Int32) (i_keptMany : Int32) (i_undoMany : Int32) (i_seenMany : Int32) (i_pathMany : Int32) (i_place : Int32) (i_found : Int32) (i_walkers : Int32) (a_gone : Nat → Int32) (a_at : Nat → Int32) (a_fines : Nat → Int32) (a_undos : Nat → Int32) : va_W := [(h, .inr (8, [.int i_length, .ref h_text, .ref h_many, .ref h_ones, .ref h_others, .ref h_kinds, .ref h_firsts, .ref h_persons, .ref h_gone, .ref h_at, .ref h_fines, .int i_keptMany, .int i_undoMany, .ref h_undos, .int i_seenMany, .ref h_seenOf, .ref h_seenOpen, .int i_pathMany, .ref h_path, .int i_place, .ref h_told, .ref h_counts, .ref h_spots, .ref h_far, .ref h_row, .ref h_begins, .int i_found, .int i_walkers, .ref h_ways, .ref h_next])), (h_gone, .inl (cyI, 15, .inl a_gone)), (h_at, .inl (cyI, 9, .inl a_at)), (h_fines, .inl (cyI, 3, .inl a_fines)), (h_undos, .inl (cyI, 32, .inl a_undos))]
abbrev qX8_undo (dC : Nat → ClassId) (dI : Nat → Nat → Nat) (cyI cyJ cyZ : ClassId) (h h_text h_many h_ones h_others h_kinds h_firsts h_persons h_gone h_at h_fines h_undos h_seenOf h_seenOpen h_path h_told h_counts h_spots h_far h_row h_begins h_ways h_next : Nat) (i_length : Int32) (i_keptMany : Int32) (i_undoMany : Int32) (i_seenMany : Int32) (i_pathMany : Int32) (i_place : Int32) (i_found : Int32) (i_walkers : Int32) (a_gone : Nat → Int32) (a_at : Nat → Int32) (a_fines : Nat → Int32) (a_undos : Nat → Int32) (post : Int32 → Int32 → (Nat → Int32) → (Nat → Int32) → (Nat → Int32) → Prop) (A : Nat → Prop) : Array Value → State → Outcome → State → Prop := (va_Qi (fun (r : Int32) (u : Int32 × (Nat → Int32) × (Nat → Int32) × (Nat → Int32)) => post r u.1 u.2.1 u.2.2.1 u.2.2.2) (bW (dC, dI) (tyG cyI cyJ cyZ) A (fun u : Int32 × (Nat → Int32) × (Nat → Int32) × (Nat → Int32) => (wX8_undo cyI cyJ cyZ h h_text h_many h_ones h_others h_kinds h_firsts h_persons h_gone h_at h_fines h_undos h_seenOf h_seenOpen h_path h_told h_counts h_spots h_far h_row h_begins h_ways h_next i_length i_keptMany (u.1) i_seenMany i_pathMany i_place i_found i_walkers (u.2.1) (u.2.2.1) (u.2.2.2) a_undos))) A)
set_option maxHeartbeats 4000000 in
set_option maxRecDepth 100000 in
theorem mX8_undo (l : Launch) (dC : Nat → ClassId) (dI : Nat → Nat → Nat) (cyI cyJ cyZ : ClassId) (h h_text h_many h_ones h_others h_kinds h_firsts h_persons h_gone h_at h_fines h_undos h_seenOf h_seenOpen h_path h_told h_counts h_spots h_far h_row h_begins h_ways h_next : Nat) (sz : Nat) (i_length : Int32) (i_keptMany : Int32) (i_undoMany : Int32) (i_seenMany : Int32) (i_pathMany : Int32) (i_place : Int32) (i_found : Int32) (i_walkers : Int32) (a_gone : Nat → Int32) (a_at : Nat → Int32) (a_fines : Nat → Int32) (a_undos : Nat → Int32) (post : Int32 → Int32 → (Nat → Int32) → (Nat → Int32) → (Nat → Int32) → Prop) (hwp : PX8_undo i_undoMany a_gone a_at a_fines a_undos post) : Met l yX8_undo wsX8_undo ({ frames := 0, cells := 0, slots := 0, locals := 0 } : Room) (va_Pc [.ref h] (pcW (dC, dI) sz (wX8_undo cyI cyJ cyZ h h_text h_many h_ones h_others h_kinds h_firsts h_persons h_gone h_at h_fines h_undos h_seenOf h_seenOpen h_path h_told h_counts h_spots h_far h_row h_begins h_ways h_next i_length i_keptMany i_undoMany i_seenMany i_pathMany i_place i_found i_walkers a_gone a_at a_fines a_undos) (tyG cyI cyJ cyZ))) (qX8_undo dC dI cyI cyJ cyZ h h_text h_many h_ones h_others h_kinds h_firsts h_persons h_gone h_at h_fines h_undos h_seenOf h_seenOpen h_path h_told h_counts h_spots h_far h_row h_begins h_ways h_next i_length i_keptMany i_undoMany i_seenMany i_pathMany i_place i_found i_walkers a_gone a_at a_fines a_undos post (va_A (wX8_undo cyI cyJ cyZ h h_text h_many h_ones h_others h_kinds h_firsts h_persons h_gone h_at h_fines h_undos h_seenOf h_seenOpen h_path h_told h_counts h_spots h_far h_row h_begins h_ways h_next i_length i_keptMany i_undoMany i_seenMany i_pathMany i_place i_found i_walkers a_gone a_at a_fines a_undos) sz)) 0 0 (va_A (wX8_undo cyI cyJ cyZ h h_text h_many h_ones h_others h_kinds h_firsts h_persons h_gone h_at h_fines h_undos h_seenOf h_seenOpen h_path h_told h_counts h_spots h_far h_row h_begins h_ways h_next i_length i_keptMany i_undoMany i_seenMany i_pathMany i_place i_found i_walkers a_gone a_at a_fines a_undos) sz) := by
  refine Met.ofW (cc := cX8_undo) (maxL := 1) (ret := some .int) (by decide) rfl ?_
  intro p e s m args below meth c s₁ B hml hv
  obtain ⟨rfl, hsz, hP, hK, hD0, hN⟩ := hv
  have hx := B.exec
  have hb := B.bytes
  have hr := B.returns
  have hts := atoms_spec (ws := wsX8_undo) B.pre
  have hown : s.vm.findClass RX8 = some m.cls := findClass_of_methodNamed B.named
  have hlocks := B.notSynchronized
  subst hsz
  have hD := hD0.self (sz := s.heap.size)
  generalize hAe : va_A (wX8_undo cyI cyJ cyZ h h_text h_many h_ones h_others h_kinds h_firsts h_persons h_gone h_at h_fines h_undos h_seenOf h_seenOpen h_path h_told h_counts h_spots h_far h_row h_begins h_ways h_next i_length i_keptMany i_undoMany i_seenMany i_pathMany i_place i_found i_walkers a_gone a_at a_fines a_undos) s.heap.size = A at hD ⊢
  have hA : ∀ q : Nat, s.heap.size ≤ q → A q := fun q h => by rw [← hAe]; exact Or.inr h
  have hW : Wd (dC, dI) A s.heap (wX8_undo cyI cyJ cyZ h h_text h_many h_ones h_others h_kinds h_firsts h_persons h_gone h_at h_fines h_undos h_seenOf h_seenOpen h_path h_told h_counts h_spots h_far h_row h_begins h_ways h_next i_length i_keptMany i_undoMany i_seenMany i_pathMany i_place i_found i_walkers a_gone a_at a_fines a_undos) s.heap [] := ⟨hP, hD, va_S.rf⟩
  have hw := hwp
  have hiX8 : ∀ w ∈ u_ws RX8 TX8 30, w ∈ wsX8_undo := fun _ h => List.mem_cons_of_mem _ (List.mem_append_right _ h)
  have k_0 := hts (.fieldLink RX8 122 "OddLetsInModel" "undoMany" "I") (List.mem_of_getElem? (i := 1) rfl)
  have k_1 := hts (.fieldLink RX8 31 "OddLetsInModel" "gone" "[I") (List.mem_of_getElem? (i := 2) rfl)
  have k_2 := hts (.fieldLink RX8 40 "OddLetsInModel" "undos" "[I") (List.mem_of_getElem? (i := 3) rfl)
  have k_3 := hts (.fieldLink RX8 34 "OddLetsInModel" "at" "[I") (List.mem_of_getElem? (i := 4) rfl)
  have k_4 := hts (.fieldLink RX8 37 "OddLetsInModel" "fines" "[I") (List.mem_of_getElem? (i := 5) rfl)
  have hl := lv_entry ([.ref h]) (n := 1) (Nat.le_of_ble_eq_true rfl)
  rw [lg_entry_eq]
  generalize (lg_sl ([.ref h]) ++ List.replicate (1 - (lg_sl ([.ref h])).length) Slot.unset).toArray = ls at hl ⊢
  have hl : lv_has ls 1 [(0, .ref h)] := hl
  refine lv_aload_n hx hb dX8_undo_0 rfl (lv_at hl 0 rfl) ?_
  refine zw_get (ci := 8) (C := RX8) (T := TX8) (N := 30) (v := .int i_undoMany) hx hb hts hiX8 hown hK hW 0 rfl rfl 12 (by decide) rfl k_0 dX8_undo_1 ?_
  refine lv_if_ne (tgt := 10) hx hb dX8_undo_4 (by decide) (fun c_1 => ?_) (fun c_1 => ?_)
  · replace hw := hw.2 c_1
    refine lv_aload_n hx hb dX8_undo_10 rfl (lv_at hl 0 rfl) ?_
    refine lv_dup hx hb dX8_undo_11 rfl ?_
    refine zw_get (ci := 8) (C := RX8) (T := TX8) (N := 30) (v := .int i_undoMany) hx hb hts hiX8 hown hK hW 0 rfl rfl 12 (by decide) rfl k_0 dX8_undo_12 ?_
    refine lv_iconst (v := 1) hx hb dX8_undo_15 (by decide) ?_
    refine lv_isub hx hb dX8_undo_16 ?_
    refine lv_topi (fun i_2 ei_2 => ?_)
    replace hw := hw i_2 ei_2
    refine zw_put (ci := 8) (C := RX8) (T := TX8) (N := 30) (w2 := (wX8_undo cyI cyJ cyZ h h_text h_many h_ones h_others h_kinds h_firsts h_persons h_gone h_at h_fines h_undos h_seenOf h_seenOpen h_path h_told h_counts h_spots h_far h_row h_begins h_ways h_next i_length i_keptMany i_2 i_seenMany i_pathMany i_place i_found i_walkers a_gone a_at a_fines a_undos)) hx hb hts hiX8 tyX8 tyX8_ok nmX8 hown hK hW 0 rfl rfl 12 (by decide) (by decide +kernel) rfl (Nat.le_of_ble_eq_true rfl) rfl k_0 dX8_undo_17 (fun H locs hW => ?_)
    refine lv_aload_n hx hb dX8_undo_20 rfl (lv_at hl 0 rfl) ?_
    refine zw_get (ci := 8) (C := RX8) (T := TX8) (N := 30) (v := .ref h_gone) hx hb hts hiX8 hown hK hW 0 rfl rfl 8 (by decide) rfl k_1 dX8_undo_21 ?_
    refine lv_aload_n hx hb dX8_undo_24 rfl (lv_at hl 0 rfl) ?_
    refine zw_get (ci := 8) (C := RX8) (T := TX8) (N := 30) (v := .ref h_undos) hx hb hts hiX8 hown hK hW 0 rfl rfl 13 (by decide) rfl k_2 dX8_undo_25 ?_
    refine lv_iconst (v := 4) hx hb dX8_undo_28 (by decide) ?_
    refine lv_aload_n hx hb dX8_undo_29 rfl (lv_at hl 0 rfl) ?_
    refine zw_get (ci := 8) (C := RX8) (T := TX8) (N := 30) (v := .int i_2) hx hb hts hiX8 hown hK hW 0 rfl rfl 12 (by decide) rfl k_0 dX8_undo_30 ?_
    refine lv_imul hx hb dX8_undo_33 ?_
    refine lv_iconst (v := 1) hx hb dX8_undo_34 (by decide) ?_
    refine lv_iadd hx hb dX8_undo_35 ?_
    refine zw_iald hx hb hK hW 4 rfl rfl hw.1 dX8_undo_36 ?_
    replace hw := hw.2
    refine lv_dup2_11 hx hb dX8_undo_37 rfl rfl ?_
    refine zw_iald hx hb hK hW 1 rfl rfl hw.1 dX8_undo_38 ?_
    replace hw := hw.2
    refine lv_iconst (v := 1) hx hb dX8_undo_39 (by decide) ?_
    refine lv_isub hx hb dX8_undo_40 ?_
    refine lv_topi (fun t_3 et_3 => ?_)
    replace hw := hw t_3 et_3
    refine zw_iast hx hb hK hW 1 rfl rfl hw.1 (w2 := fun a_gone_4 => (wX8_undo cyI cyJ cyZ h h_text h_many h_ones h_others h_kinds h_firsts h_persons h_gone h_at h_fines h_undos h_seenOf h_seenOpen h_path h_told h_counts h_spots h_far h_row h_begins h_ways h_next i_length i_keptMany i_2 i_seenMany i_pathMany i_place i_found i_walkers a_gone_4 a_at a_fines a_undos)) (fun _ => rfl) dX8_undo_41 (fun a_gone_4 H locs ea_gone_4 hW => ?_)
    replace hw := hw.2 a_gone_4 ea_gone_4
    refine lv_aload_n hx hb dX8_undo_42 rfl (lv_at hl 0 rfl) ?_
    refine zw_get (ci := 8) (C := RX8) (T := TX8) (N := 30) (v := .ref h_at) hx hb hts hiX8 hown hK hW 0 rfl rfl 9 (by decide) rfl k_3 dX8_undo_43 ?_
    refine lv_aload_n hx hb dX8_undo_46 rfl (lv_at hl 0 rfl) ?_
    refine zw_get (ci := 8) (C := RX8) (T := TX8) (N := 30) (v := .ref h_undos) hx hb hts hiX8 hown hK hW 0 rfl rfl 13 (by decide) rfl k_2 dX8_undo_47 ?_
    refine lv_iconst (v := 4) hx hb dX8_undo_50 (by decide) ?_
    refine lv_aload_n hx hb dX8_undo_51 rfl (lv_at hl 0 rfl) ?_
    refine zw_get (ci := 8) (C := RX8) (T := TX8) (N := 30) (v := .int i_2) hx hb hts hiX8 hown hK hW 0 rfl rfl 12 (by decide) rfl k_0 dX8_undo_52 ?_
    refine lv_imul hx hb dX8_undo_55 ?_
    refine zw_iald hx hb hK hW 4 rfl rfl hw.1 dX8_undo_56 ?_
    replace hw := hw.2
    refine lv_aload_n hx hb dX8_undo_57 rfl (lv_at hl 0 rfl) ?_
    refine zw_get (ci := 8) (C := RX8) (T := TX8) (N := 30) (v := .ref h_undos) hx hb hts hiX8 hown hK hW 0 rfl rfl 13 (by decide) rfl k_2 dX8_undo_58 ?_
    refine lv_iconst (v := 4) hx hb dX8_undo_61 (by decide) ?_
    refine lv_aload_n hx hb dX8_undo_62 rfl (lv_at hl 0 rfl) ?_
    refine zw_get (ci := 8) (C := RX8) (T := TX8) (N := 30) (v := .int i_2) hx hb hts hiX8 hown hK hW 0 rfl rfl 12 (by decide) rfl k_0 dX8_undo_63 ?_
    refine lv_imul hx hb dX8_undo_66 ?_
    refine lv_iconst (v := 2) hx hb dX8_undo_67 (by decide) ?_
    refine lv_iadd hx hb dX8_undo_68 ?_
    refine zw_iald hx hb hK hW 4 rfl rfl hw.1 dX8_undo_69 ?_
    replace hw := hw.2
    refine lv_topi (fun t_5 et_5 => ?_)
    replace hw := hw t_5 et_5
    refine zw_iast hx hb hK hW 2 rfl rfl hw.1 (w2 := fun a_at_6 => (wX8_undo cyI cyJ cyZ h h_text h_many h_ones h_others h_kinds h_firsts h_persons h_gone h_at h_fines h_undos h_seenOf h_seenOpen h_path h_told h_counts h_spots h_far h_row h_begins h_ways h_next i_length i_keptMany i_2 i_seenMany i_pathMany i_place i_found i_walkers a_gone_4 a_at_6 a_fines a_undos)) (fun _ => rfl) dX8_undo_70 (fun a_at_6 H locs ea_at_6 hW => ?_)
    replace hw := hw.2 a_at_6 ea_at_6
    refine lv_aload_n hx hb dX8_undo_71 rfl (lv_at hl 0 rfl) ?_
    refine zw_get (ci := 8) (C := RX8) (T := TX8) (N := 30) (v := .ref h_fines) hx hb hts hiX8 hown hK hW 0 rfl rfl 10 (by decide) rfl k_4 dX8_undo_72 ?_
    refine lv_iconst (v := 0) hx hb dX8_undo_75 (by decide) ?_
    refine lv_dup2_11 hx hb dX8_undo_76 rfl rfl ?_
    refine zw_iald hx hb hK hW 3 rfl rfl hw.1 dX8_undo_77 ?_
    replace hw := hw.2
    refine lv_aload_n hx hb dX8_undo_78 rfl (lv_at hl 0 rfl) ?_
    refine zw_get (ci := 8) (C := RX8) (T := TX8) (N := 30) (v := .ref h_undos) hx hb hts hiX8 hown hK hW 0 rfl rfl 13 (by decide) rfl k_2 dX8_undo_79 ?_
    refine lv_iconst (v := 4) hx hb dX8_undo_82 (by decide) ?_
    refine lv_aload_n hx hb dX8_undo_83 rfl (lv_at hl 0 rfl) ?_
    refine zw_get (ci := 8) (C := RX8) (T := TX8) (N := 30) (v := .int i_2) hx hb hts hiX8 hown hK hW 0 rfl rfl 12 (by decide) rfl k_0 dX8_undo_84 ?_
    refine lv_imul hx hb dX8_undo_87 ?_
    refine lv_iconst (v := 3) hx hb dX8_undo_88 (by decide) ?_
    refine lv_iadd hx hb dX8_undo_89 ?_
    refine zw_iald hx hb hK hW 4 rfl rfl hw.1 dX8_undo_90 ?_
    replace hw := hw.2
    refine lv_isub hx hb dX8_undo_91 ?_
    refine lv_topi (fun t_7 et_7 => ?_)
    replace hw := hw t_7 et_7
    refine zw_iast hx hb hK hW 3 rfl rfl hw.1 (w2 := fun a_fines_8 => (wX8_undo cyI cyJ cyZ h h_text h_many h_ones h_others h_kinds h_firsts h_persons h_gone h_at h_fines h_undos h_seenOf h_seenOpen h_path h_told h_counts h_spots h_far h_row h_begins h_ways h_next i_length i_keptMany i_2 i_seenMany i_pathMany i_place i_found i_walkers a_gone_4 a_at_6 a_fines_8 a_undos)) (fun _ => rfl) dX8_undo_92 (fun a_fines_8 H locs ea_fines_8 hW => ?_)
    replace hw := hw.2 a_fines_8 ea_fines_8
    refine lv_aload_n hx hb dX8_undo_93 rfl (lv_at hl 0 rfl) ?_
    refine zw_get (ci := 8) (C := RX8) (T := TX8) (N := 30) (v := .int i_2) hx hb hts hiX8 hown hK hW 0 rfl rfl 12 (by decide) rfl k_0 dX8_undo_94 ?_
    refine zw_iret (S := Int32 × (Nat → Int32) × (Nat → Int32) × (Nat → Int32)) (post := fun r u => post r u.1 u.2.1 u.2.2.1 u.2.2.2) (i_2, a_gone_4, a_at_6, a_fines_8) hx hb hr hlocks hK hW hw ?_ dX8_undo_97
    rfl
  · replace hw := hw.1 c_1
    refine lv_bipush (v := (-2)) hx hb dX8_undo_7 (by decide) ?_
    refine zw_iret (S := Int32 × (Nat → Int32) × (Nat → Int32) × (Nat → Int32)) (post := fun r u => post r u.1 u.2.1 u.2.2.1 u.2.2.2) (i_undoMany, a_gone, a_at, a_fines) hx hb hr hlocks hK hW hw ?_ dX8_undo_9
    rfl
abbrev wX8_rests (cyI cyJ cyZ : ClassId) : va_W := []
abbrev qX8_rests (dC : Nat → ClassId) (dI : Nat → Nat → Nat) (cyI cyJ cyZ : ClassId) (post : Int32 → Prop) (A : Nat → Prop) : Array Value → State → Outcome → State → Prop := (va_Qi (fun (r : Int32) (u : Unit) => post r) (bW (dC, dI) (tyG cyI cyJ cyZ) A (fun _ : Unit => (wX8_rests cyI cyJ cyZ))) A)
set_option maxHeartbeats 4000000 in
set_option maxRecDepth 100000 in
theorem mX8_rests (l : Launch) (dC : Nat → ClassId) (dI : Nat → Nat → Nat) (cyI cyJ cyZ : ClassId) (sz : Nat) (x0 : Int32) (post : Int32 → Prop) (hwp : PX8_rests x0 post) : Met l yX8_rests wsX8_rests ({ frames := 0, cells := 0, slots := 0, locals := 0 } : Room) (va_Pc [.int x0] (pcW (dC, dI) sz (wX8_rests cyI cyJ cyZ) (tyG cyI cyJ cyZ))) (qX8_rests dC dI cyI cyJ cyZ post (va_A (wX8_rests cyI cyJ cyZ) sz)) 0 0 (va_A (wX8_rests cyI cyJ cyZ) sz) := by
  refine Met.ofW (cc := cX8_rests) (maxL := 1) (ret := some .int) (by decide) rfl ?_
  intro p e s m args below meth c s₁ B hml hv
  obtain ⟨rfl, hsz, hP, hK, hD0, hN⟩ := hv
  have hx := B.exec
  have hb := B.bytes
  have hr := B.returns
  have hts := atoms_spec (ws := wsX8_rests) B.pre
  have hown : s.vm.findClass RX8 = some m.cls := findClass_of_methodNamed B.named
  have hlocks := B.notSynchronized
  subst hsz
  have hD := hD0.self (sz := s.heap.size)
  generalize hAe : va_A (wX8_rests cyI cyJ cyZ) s.heap.size = A at hD ⊢
  have hA : ∀ q : Nat, s.heap.size ≤ q → A q := fun q h => by rw [← hAe]; exact Or.inr h
  have hW : Wd (dC, dI) A s.heap (wX8_rests cyI cyJ cyZ) s.heap [] := ⟨hP, hD, va_S.rf⟩
  have hw := hwp
  have hl := lv_entry ([.int x0]) (n := 1) (Nat.le_of_ble_eq_true rfl)
  rw [lg_entry_eq]
  generalize (lg_sl ([.int x0]) ++ List.replicate (1 - (lg_sl ([.int x0])).length) Slot.unset).toArray = ls at hl ⊢
  have hl : lv_has ls 1 [(0, .int x0)] := hl
  refine lv_iload_n hx hb dX8_rests_0 rfl (lv_at hl 0 rfl) ?_
  refine lv_iconst (v := 2) hx hb dX8_rests_1 (by decide) ?_
  refine lv_icmp_ne (tgt := 9) hx hb dX8_rests_2 (by decide) (fun c_1 => ?_) (fun c_1 => ?_)
  · replace hw := hw.2 c_1
    refine lv_iload_n hx hb dX8_rests_9 rfl (lv_at hl 0 rfl) ?_
    refine lv_iconst (v := 3) hx hb dX8_rests_10 (by decide) ?_
    refine lv_icmp_ne (tgt := 18) hx hb dX8_rests_11 (by decide) (fun c_2 => ?_) (fun c_2 => ?_)
    · replace hw := hw.2 c_2
      refine lv_iconst (v := 2) hx hb dX8_rests_18 (by decide) ?_
      refine zw_iret (S := Unit) (post := fun r u => post r) () hx hb hr hlocks hK hW hw ?_ dX8_rests_19
      rfl
    · replace hw := hw.1 c_2
      refine lv_iconst (v := 1) hx hb dX8_rests_14 (by decide) ?_
      refine lv_goto (tgt := 19) hx hb dX8_rests_15 (by decide) ?_
      refine zw_iret (S := Unit) (post := fun r u => post r) () hx hb hr hlocks hK hW hw ?_ dX8_rests_19
      rfl
  · replace hw := hw.1 c_1
    refine lv_iconst (v := 3) hx hb dX8_rests_5 (by decide) ?_
    refine lv_goto (tgt := 19) hx hb dX8_rests_6 (by decide) ?_
    refine zw_iret (S := Unit) (post := fun r u => post r) () hx hb hr hlocks hK hW hw ?_ dX8_rests_19
    rfl
abbrev wX8_code (cyI cyJ cyZ : ClassId) (h h_text h_many h_ones h_others h_kinds h_firsts h_persons h_gone h_at h_fines h_undos h_seenOf h_seenOpen h_path h_told h_counts h_spots h_far h_row h_begins h_ways h_next : Nat) (i_length : Int32) (i_keptMany : Int32) (i_undoMany : Int32) (i_seenMany : Int32) (i_pathMany : Int32) (i_place : Int32) (i_found : Int32) (i_walkers : Int32) (a_many : Nat → Int32) (a_kinds : Nat → Int32) (a_counts : Nat → Int32) (a_spots : Nat → Int32) : va_W := [(h, .inr (8, [.int i_length, .ref h_text, .ref h_many, .ref h_ones, .ref h_others, .ref h_kinds, .ref h_firsts, .ref h_persons, .ref h_gone, .ref h_at, .ref h_fines, .int i_keptMany, .int i_undoMany, .ref h_undos, .int i_seenMany, .ref h_seenOf, .ref h_seenOpen, .int i_pathMany, .ref h_path, .int i_place, .ref h_told, .ref h_counts, .ref h_spots, .ref h_far, .ref h_row, .ref h_begins, .int i_found, .int i_walkers, .ref h_ways, .ref h_next])), (h_many, .inl (cyI, 2, .inl a_many)), (h_kinds, .inl (cyI, 10, .inl a_kinds)), (h_counts, .inl (cyI, 5, .inl a_counts)), (h_spots, .inl (cyI, 3, .inl a_spots))]
abbrev qX8_code (dC : Nat → ClassId) (dI : Nat → Nat → Nat) (cyI cyJ cyZ : ClassId) (h h_text h_many h_ones h_others h_kinds h_firsts h_persons h_gone h_at h_fines h_undos h_seenOf h_seenOpen h_path h_told h_counts h_spots h_far h_row h_begins h_ways h_next : Nat) (i_length : Int32) (i_keptMany : Int32) (i_undoMany : Int32) (i_seenMany : Int32) (i_pathMany : Int32) (i_place : Int32) (i_found : Int32) (i_walkers : Int32) (a_many : Nat → Int32) (a_kinds : Nat → Int32) (a_counts : Nat → Int32) (a_spots : Nat → Int32) (post : Int32 → Prop) (A : Nat → Prop) : Array Value → State → Outcome → State → Prop := (va_Qi (fun (r : Int32) (u : Unit) => post r) (bW (dC, dI) (tyG cyI cyJ cyZ) A (fun _ : Unit => (wX8_code cyI cyJ cyZ h h_text h_many h_ones h_others h_kinds h_firsts h_persons h_gone h_at h_fines h_undos h_seenOf h_seenOpen h_path h_told h_counts h_spots h_far h_row h_begins h_ways h_next i_length i_keptMany i_undoMany i_seenMany i_pathMany i_place i_found i_walkers a_many a_kinds a_counts a_spots))) A)
set_option maxHeartbeats 4000000 in
set_option maxRecDepth 100000 in
theorem mX8_code (l : Launch) (dC : Nat → ClassId) (dI : Nat → Nat → Nat) (cyI cyJ cyZ : ClassId) (h h_text h_many h_ones h_others h_kinds h_firsts h_persons h_gone h_at h_fines h_undos h_seenOf h_seenOpen h_path h_told h_counts h_spots h_far h_row h_begins h_ways h_next : Nat) (sz : Nat) (i_length : Int32) (i_keptMany : Int32) (i_undoMany : Int32) (i_seenMany : Int32) (i_pathMany : Int32) (i_place : Int32) (i_found : Int32) (i_walkers : Int32) (a_many : Nat → Int32) (a_kinds : Nat → Int32) (a_counts : Nat → Int32) (a_spots : Nat → Int32) (post : Int32 → Prop) (hwp : PX8_code i_walkers a_many a_kinds a_counts a_spots post) : Met l yX8_code wsX8_code ({ frames := 1, cells := 0, slots := 0, locals := 20 } : Room) (va_Pc [.ref h] (pcW (dC, dI) sz (wX8_code cyI cyJ cyZ h h_text h_many h_ones h_others h_kinds h_firsts h_persons h_gone h_at h_fines h_undos h_seenOf h_seenOpen h_path h_told h_counts h_spots h_far h_row h_begins h_ways h_next i_length i_keptMany i_undoMany i_seenMany i_pathMany i_place i_found i_walkers a_many a_kinds a_counts a_spots) (tyG cyI cyJ cyZ))) (qX8_code dC dI cyI cyJ cyZ h h_text h_many h_ones h_others h_kinds h_firsts h_persons h_gone h_at h_fines h_undos h_seenOf h_seenOpen h_path h_told h_counts h_spots h_far h_row h_begins h_ways h_next i_length i_keptMany i_undoMany i_seenMany i_pathMany i_place i_found i_walkers a_many a_kinds a_counts a_spots post (va_A (wX8_code cyI cyJ cyZ h h_text h_many h_ones h_others h_kinds h_firsts h_persons h_gone h_at h_fines h_undos h_seenOf h_seenOpen h_path h_told h_counts h_spots h_far h_row h_begins h_ways h_next i_length i_keptMany i_undoMany i_seenMany i_pathMany i_place i_found i_walkers a_many a_kinds a_counts a_spots) sz)) 0 0 (va_A (wX8_code cyI cyJ cyZ h h_text h_many h_ones h_others h_kinds h_firsts h_persons h_gone h_at h_fines h_undos h_seenOf h_seenOpen h_path h_told h_counts h_spots h_far h_row h_begins h_ways h_next i_length i_keptMany i_undoMany i_seenMany i_pathMany i_place i_found i_walkers a_many a_kinds a_counts a_spots) sz) := by
  refine Met.ofW (cc := cX8_code) (maxL := 3) (ret := some .int) (by decide) rfl ?_
  intro p e s m args below meth c s₁ B hml hv
  obtain ⟨rfl, hsz, hP, hK, hD0, hN⟩ := hv
  have hx := B.exec
  have hb := B.bytes
  have hr := B.returns
  have hts := atoms_spec (ws := wsX8_code) B.pre
  have hown : s.vm.findClass RX8 = some m.cls := findClass_of_methodNamed B.named
  have hlocks := B.notSynchronized
  subst hsz
  have hD := hD0.self (sz := s.heap.size)
  generalize hAe : va_A (wX8_code cyI cyJ cyZ h h_text h_many h_ones h_others h_kinds h_firsts h_persons h_gone h_at h_fines h_undos h_seenOf h_seenOpen h_path h_told h_counts h_spots h_far h_row h_begins h_ways h_next i_length i_keptMany i_undoMany i_seenMany i_pathMany i_place i_found i_walkers a_many a_kinds a_counts a_spots) s.heap.size = A at hD ⊢
  have hA : ∀ q : Nat, s.heap.size ≤ q → A q := fun q h => by rw [← hAe]; exact Or.inr h
  have hW : Wd (dC, dI) A s.heap (wX8_code cyI cyJ cyZ h h_text h_many h_ones h_others h_kinds h_firsts h_persons h_gone h_at h_fines h_undos h_seenOf h_seenOpen h_path h_told h_counts h_spots h_far h_row h_begins h_ways h_next i_length i_keptMany i_undoMany i_seenMany i_pathMany i_place i_found i_walkers a_many a_kinds a_counts a_spots) s.heap [] := ⟨hP, hD, va_S.rf⟩
  have hw := hwp
  have hiX8 : ∀ w ∈ u_ws RX8 TX8 30, w ∈ wsX8_code := fun _ h => List.mem_cons_of_mem _ (List.mem_append_right _ h)
  have k_0 := hts (.fieldLink RX8 169 "OddLetsInModel" "walkers" "I") (List.mem_of_getElem? (i := 4) rfl)
  have k_1 := hts (.fieldLink RX8 58 "OddLetsInModel" "spots" "[I") (List.mem_of_getElem? (i := 5) rfl)
  have k_2 := hts (.fieldLink RX8 13 "OddLetsInModel" "many" "[I") (List.mem_of_getElem? (i := 1) rfl)
  have k_3 := hts (.fieldLink RX8 22 "OddLetsInModel" "kinds" "[I") (List.mem_of_getElem? (i := 2) rfl)
  have k_4 := hts (.fieldLink RX8 55 "OddLetsInModel" "counts" "[I") (List.mem_of_getElem? (i := 3) rfl)
  have W_51 : ∀ (n_51 : Nat) (x1 : Int32) (x2 : Int32) (H : Heap) (locs : List Loc) (ls : Array Slot), Wd (dC, dI) A s.heap (wX8_code cyI cyJ cyZ h h_text h_many h_ones h_others h_kinds h_firsts h_persons h_gone h_at h_fines h_undos h_seenOf h_seenOpen h_path h_told h_counts h_spots h_far h_row h_begins h_ways h_next i_length i_keptMany i_undoMany i_seenMany i_pathMany i_place i_found i_walkers a_many a_kinds a_counts a_spots) H locs → lv_has ls 3 [(0, .ref h), (1, .int x1), (2, .int x2)] → PX8_code_51 post i_walkers a_spots n_51 x1 x2 → W p l e (({ frames := 1, cells := 0, slots := 0, locals := 20 } : Room)) s m (([.ref h] : List Value).toArray) below meth c H locs 0 0 (MQ below (qX8_code dC dI cyI cyJ cyZ h h_text h_many h_ones h_others h_kinds h_firsts h_persons h_gone h_at h_fines h_undos h_seenOf h_seenOpen h_path h_told h_counts h_spots h_far h_row h_begins h_ways h_next i_length i_keptMany i_undoMany i_seenMany i_pathMany i_place i_found i_walkers a_many a_kinds a_counts a_spots post A) (([.ref h] : List Value).toArray) s 0 0 A) (F0 m 51 ls []) := by
    intro n_51
    induction n_51 with
    | zero =>
      intro x1 x2 H locs ls hW hl hw
      exact False.elim hw
    | succ n_51 ih_51 =>
      intro x1 x2 H locs ls hW hl hw
      refine lv_iload_n hx hb dX8_code_51 rfl (lv_at hl 2 rfl) ?_
      refine lv_aload_n hx hb dX8_code_52 rfl (lv_at hl 0 rfl) ?_
      refine zw_get (ci := 8) (C := RX8) (T := TX8) (N := 30) (v := .int i_walkers) hx hb hts hiX8 hown hK hW 0 rfl rfl 27 (by decide) rfl k_0 dX8_code_53 ?_
      refine lv_icmp_ge (tgt := 76) hx hb dX8_code_56 (by decide) (fun c_1 => ?_) (fun c_1 => ?_)
      · replace hw := hw.1 c_1
        refine lv_iload_n hx hb dX8_code_76 rfl (lv_at hl 1 rfl) ?_
        refine zw_iret (S := Unit) (post := fun r u => post r) () hx hb hr hlocks hK hW hw ?_ dX8_code_77
        rfl
      · replace hw := hw.2 c_1
        refine lv_iconst (v := 5) hx hb dX8_code_59 (by decide) ?_
        refine lv_iload_n hx hb dX8_code_60 rfl (lv_at hl 1 rfl) ?_
        refine lv_imul hx hb dX8_code_61 ?_
        refine lv_aload_n hx hb dX8_code_62 rfl (lv_at hl 0 rfl) ?_
        refine zw_get (ci := 8) (C := RX8) (T := TX8) (N := 30) (v := .ref h_spots) hx hb hts hiX8 hown hK hW 0 rfl rfl 22 (by decide) rfl k_1 dX8_code_63 ?_
        refine lv_iload_n hx hb dX8_code_66 rfl (lv_at hl 2 rfl) ?_
        refine zw_iald hx hb hK hW 4 rfl rfl hw.1 dX8_code_67 ?_
        replace hw := hw.2
        refine lv_iadd hx hb dX8_code_68 ?_
        refine lv_topi (fun x1_2 ex1_2 => ?_)
        replace hw := hw x1_2 ex1_2
        refine lv_istore_n (lv' := [(1, .int x1_2), (0, .ref h), (2, .int x2)]) hx hb dX8_code_69 rfl hl (by decide) rfl (fun ls hl => ?_)
        obtain ⟨x2_3, ex2_3⟩ : ∃ y : Int32, y = x2 + 1 := ⟨_, rfl⟩
        replace hw := hw x2_3 ex2_3
        refine lv_iinc (v := x2_3) (lv' := [(2, .int x2_3), (1, .int x1_2), (0, .ref h)]) hx hb dX8_code_70 hl (k := 2) rfl (by rw [ex2_3]; rfl) (by decide) rfl (fun ls hl => ?_)
        refine lv_goto (tgt := 51) hx hb dX8_code_73 (by decide) ?_
        exact ih_51 x1_2 x2_3 _ _ _ hW (lv_sub hl [2, 1, 0] rfl) hw
  have W_4 : ∀ (n_4 : Nat) (x1 : Int32) (x2 : Int32) (H : Heap) (locs : List Loc) (ls : Array Slot), Wd (dC, dI) A s.heap (wX8_code cyI cyJ cyZ h h_text h_many h_ones h_others h_kinds h_firsts h_persons h_gone h_at h_fines h_undos h_seenOf h_seenOpen h_path h_told h_counts h_spots h_far h_row h_begins h_ways h_next i_length i_keptMany i_undoMany i_seenMany i_pathMany i_place i_found i_walkers a_many a_kinds a_counts a_spots) H locs → lv_has ls 3 [(0, .ref h), (1, .int x1), (2, .int x2)] → PX8_code_4 post i_walkers a_many a_kinds a_counts a_spots n_4 x1 x2 → W p l e (({ frames := 1, cells := 0, slots := 0, locals := 20 } : Room)) s m (([.ref h] : List Value).toArray) below meth c H locs 0 0 (MQ below (qX8_code dC dI cyI cyJ cyZ h h_text h_many h_ones h_others h_kinds h_firsts h_persons h_gone h_at h_fines h_undos h_seenOf h_seenOpen h_path h_told h_counts h_spots h_far h_row h_begins h_ways h_next i_length i_keptMany i_undoMany i_seenMany i_pathMany i_place i_found i_walkers a_many a_kinds a_counts a_spots post A) (([.ref h] : List Value).toArray) s 0 0 A) (F0 m 4 ls []) := by
    intro n_4
    induction n_4 with
    | zero =>
      intro x1 x2 H locs ls hW hl hw
      exact False.elim hw
    | succ n_4 ih_4 =>
      intro x1 x2 H locs ls hW hl hw
      refine lv_iload_n hx hb dX8_code_4 rfl (lv_at hl 2 rfl) ?_
      refine lv_aload_n hx hb dX8_code_5 rfl (lv_at hl 0 rfl) ?_
      refine zw_get (ci := 8) (C := RX8) (T := TX8) (N := 30) (v := .ref h_many) hx hb hts hiX8 hown hK hW 0 rfl rfl 2 (by decide) rfl k_2 dX8_code_6 ?_
      refine lv_iconst (v := 0) hx hb dX8_code_9 (by decide) ?_
      refine zw_iald hx hb hK hW 1 rfl rfl hw.1 dX8_code_10 ?_
      replace hw := hw.2
      refine lv_icmp_ge (tgt := 49) hx hb dX8_code_11 (by decide) (fun c_4 => ?_) (fun c_4 => ?_)
      · replace hw := hw.1 c_4
        refine lv_iconst (v := 0) hx hb dX8_code_49 (by decide) ?_
        refine lv_istore_n (lv' := [(2, .int 0), (0, .ref h), (1, .int x1)]) hx hb dX8_code_50 rfl hl (by decide) rfl (fun ls hl => ?_)
        obtain ⟨n_51, hw⟩ := hw
        exact W_51  n_51 x1 0 _ _ _ hW (lv_sub hl [1, 2, 0] rfl) hw
      · replace hw := hw.2 c_4
        refine lv_iload_n hx hb dX8_code_14 rfl (lv_at hl 1 rfl) ?_
        refine lv_aload_n hx hb dX8_code_15 rfl (lv_at hl 0 rfl) ?_
        refine zw_get (ci := 8) (C := RX8) (T := TX8) (N := 30) (v := .ref h_kinds) hx hb hts hiX8 hown hK hW 0 rfl rfl 5 (by decide) rfl k_3 dX8_code_16 ?_
        refine lv_iload_n hx hb dX8_code_19 rfl (lv_at hl 2 rfl) ?_
        refine zw_iald hx hb hK hW 2 rfl rfl hw.1 dX8_code_20 ?_
        replace hw := hw.2
        refine zw_Si ⟨hx, hb, hml, hown, hts⟩ hK hN hA hW [.int (a_kinds (x2).toNatClampNeg)] [.int x1] [] [0, 1, 2, 3, 4] [0, 1, 2, 3, 4] (fun _ => (wX8_code cyI cyJ cyZ h h_text h_many h_ones h_others h_kinds h_firsts h_persons h_gone h_at h_fines h_undos h_seenOf h_seenOpen h_path h_told h_counts h_spots h_far h_row h_begins h_ways h_next i_length i_keptMany i_undoMany i_seenMany i_pathMany i_place i_found i_walkers a_many a_kinds a_counts a_spots)) (mX8_rests l dC dI cyI cyJ cyZ _ (a_kinds (x2).toNatClampNeg) _ hw) (va_cwS 1 hts gX8_code_X8_rests rfl rfl rfl (by decide +kernel) ⟨Nat.le_of_ble_eq_true rfl, Nat.le_of_ble_eq_true rfl⟩) rfl rfl rfl rfl (by decide) rfl (fun _ => rfl) rfl hl.1 rfl (Nat.le_of_ble_eq_true rfl) (Nat.le_of_ble_eq_true rfl) (Nat.le_of_ble_eq_true rfl) dX8_code_21 (fun r_5 u H locs hw hW => ?_)
        refine lv_imul hx hb dX8_code_24 ?_
        refine lv_aload_n hx hb dX8_code_25 rfl (lv_at hl 0 rfl) ?_
        refine zw_get (ci := 8) (C := RX8) (T := TX8) (N := 30) (v := .ref h_counts) hx hb hts hiX8 hown hK hW 0 rfl rfl 21 (by decide) rfl k_4 dX8_code_26 ?_
        refine lv_iload_n hx hb dX8_code_29 rfl (lv_at hl 2 rfl) ?_
        refine zw_iald hx hb hK hW 3 rfl rfl hw.1 dX8_code_30 ?_
        replace hw := hw.2
        refine lv_aload_n hx hb dX8_code_31 rfl (lv_at hl 0 rfl) ?_
        refine zw_get (ci := 8) (C := RX8) (T := TX8) (N := 30) (v := .ref h_kinds) hx hb hts hiX8 hown hK hW 0 rfl rfl 5 (by decide) rfl k_3 dX8_code_32 ?_
        refine lv_iload_n hx hb dX8_code_35 rfl (lv_at hl 2 rfl) ?_
        refine zw_iald hx hb hK hW 2 rfl rfl hw.1 dX8_code_36 ?_
        replace hw := hw.2
        refine zw_Si ⟨hx, hb, hml, hown, hts⟩ hK hN hA hW [.int (a_kinds (x2).toNatClampNeg)] [.int (a_counts (x2).toNatClampNeg), .int (x1 * r_5)] [] [0, 1, 2, 3, 4] [0, 1, 2, 3, 4] (fun _ => (wX8_code cyI cyJ cyZ h h_text h_many h_ones h_others h_kinds h_firsts h_persons h_gone h_at h_fines h_undos h_seenOf h_seenOpen h_path h_told h_counts h_spots h_far h_row h_begins h_ways h_next i_length i_keptMany i_undoMany i_seenMany i_pathMany i_place i_found i_walkers a_many a_kinds a_counts a_spots)) (mX8_rests l dC dI cyI cyJ cyZ _ (a_kinds (x2).toNatClampNeg) _ hw) (va_cwS 1 hts gX8_code_X8_rests rfl rfl rfl (by decide +kernel) ⟨Nat.le_of_ble_eq_true rfl, Nat.le_of_ble_eq_true rfl⟩) rfl rfl rfl rfl (by decide) rfl (fun _ => rfl) rfl hl.1 rfl (Nat.le_of_ble_eq_true rfl) (Nat.le_of_ble_eq_true rfl) (Nat.le_of_ble_eq_true rfl) dX8_code_37 (fun r_6 u H locs hw hW => ?_)
        refine lv_irem hx hb dX8_code_40 hw.1 ?_
        replace hw := hw.2
        refine lv_iadd hx hb dX8_code_41 ?_
        refine lv_topi (fun x1_7 ex1_7 => ?_)
        replace hw := hw x1_7 ex1_7
        refine lv_istore_n (lv' := [(1, .int x1_7), (0, .ref h), (2, .int x2)]) hx hb dX8_code_42 rfl hl (by decide) rfl (fun ls hl => ?_)
        obtain ⟨x2_8, ex2_8⟩ : ∃ y : Int32, y = x2 + 1 := ⟨_, rfl⟩
        replace hw := hw x2_8 ex2_8
        refine lv_iinc (v := x2_8) (lv' := [(2, .int x2_8), (1, .int x1_7), (0, .ref h)]) hx hb dX8_code_43 hl (k := 2) rfl (by rw [ex2_8]; rfl) (by decide) rfl (fun ls hl => ?_)
        refine lv_goto (tgt := 4) hx hb dX8_code_46 (by decide) ?_
        exact ih_4 x1_7 x2_8 _ _ _ hW (lv_sub hl [2, 1, 0] rfl) hw
  have hl := lv_entry ([.ref h]) (n := 3) (Nat.le_of_ble_eq_true rfl)
  rw [lg_entry_eq]
  generalize (lg_sl ([.ref h]) ++ List.replicate (3 - (lg_sl ([.ref h])).length) Slot.unset).toArray = ls at hl ⊢
  have hl : lv_has ls 3 [(0, .ref h)] := hl
  refine lv_iconst (v := 0) hx hb dX8_code_0 (by decide) ?_
  refine lv_istore_n (lv' := [(1, .int 0), (0, .ref h)]) hx hb dX8_code_1 rfl hl (by decide) rfl (fun ls hl => ?_)
  refine lv_iconst (v := 0) hx hb dX8_code_2 (by decide) ?_
  refine lv_istore_n (lv' := [(2, .int 0), (1, .int 0), (0, .ref h)]) hx hb dX8_code_3 rfl hl (by decide) rfl (fun ls hl => ?_)
  obtain ⟨n_4, hw⟩ := hw
  exact W_4  n_4 0 0 _ _ _ hW (lv_sub hl [2, 1, 0] rfl) hw
abbrev wX8_take (cyI cyJ cyZ : ClassId) (h h_text h_many h_ones h_others h_kinds h_firsts h_persons h_gone h_at h_fines h_undos h_seenOf h_seenOpen h_path h_told h_counts h_spots h_far h_row h_begins h_ways h_next : Nat) (i_length : Int32) (i_keptMany : Int32) (i_undoMany : Int32) (i_seenMany : Int32) (i_pathMany : Int32) (i_place : Int32) (i_found : Int32) (i_walkers : Int32) (a_many : Nat → Int32) (a_kinds : Nat → Int32) (a_counts : Nat → Int32) (a_spots : Nat → Int32) : va_W := [(h, .inr (8, [.int i_length, .ref h_text, .ref h_many, .ref h_ones, .ref h_others, .ref h_kinds, .ref h_firsts, .ref h_persons, .ref h_gone, .ref h_at, .ref h_fines, .int i_keptMany, .int i_undoMany, .ref h_undos, .int i_seenMany, .ref h_seenOf, .ref h_seenOpen, .int i_pathMany, .ref h_path, .int i_place, .ref h_told, .ref h_counts, .ref h_spots, .ref h_far, .ref h_row, .ref h_begins, .int i_found, .int i_walkers, .ref h_ways, .ref h_next])), (h_many, .inl (cyI, 2, .inl a_many)), (h_kinds, .inl (cyI, 10, .inl a_kinds)), (h_counts, .inl (cyI, 5, .inl a_counts)), (h_spots, .inl (cyI, 3, .inl a_spots))]
abbrev qX8_take (dC : Nat → ClassId) (dI : Nat → Nat → Nat) (cyI cyJ cyZ : ClassId) (h h_text h_many h_ones h_others h_kinds h_firsts h_persons h_gone h_at h_fines h_undos h_seenOf h_seenOpen h_path h_told h_counts h_spots h_far h_row h_begins h_ways h_next : Nat) (i_length : Int32) (i_keptMany : Int32) (i_undoMany : Int32) (i_seenMany : Int32) (i_pathMany : Int32) (i_place : Int32) (i_found : Int32) (i_walkers : Int32) (a_many : Nat → Int32) (a_kinds : Nat → Int32) (a_counts : Nat → Int32) (a_spots : Nat → Int32) (post : (Nat → Int32) → (Nat → Int32) → Prop) (A : Nat → Prop) : Array Value → State → Outcome → State → Prop := (va_Qv (fun (u : (Nat → Int32) × (Nat → Int32)) => post u.1 u.2) (bW (dC, dI) (tyG cyI cyJ cyZ) A (fun u : (Nat → Int32) × (Nat → Int32) => (wX8_take cyI cyJ cyZ h h_text h_many h_ones h_others h_kinds h_firsts h_persons h_gone h_at h_fines h_undos h_seenOf h_seenOpen h_path h_told h_counts h_spots h_far h_row h_begins h_ways h_next i_length i_keptMany i_undoMany i_seenMany i_pathMany i_place i_found i_walkers a_many a_kinds (u.1) (u.2)))) A)
set_option maxHeartbeats 4000000 in
set_option maxRecDepth 100000 in
theorem mX8_take (l : Launch) (dC : Nat → ClassId) (dI : Nat → Nat → Nat) (cyI cyJ cyZ : ClassId) (h h_text h_many h_ones h_others h_kinds h_firsts h_persons h_gone h_at h_fines h_undos h_seenOf h_seenOpen h_path h_told h_counts h_spots h_far h_row h_begins h_ways h_next : Nat) (sz : Nat) (i_length : Int32) (i_keptMany : Int32) (i_undoMany : Int32) (i_seenMany : Int32) (i_pathMany : Int32) (i_place : Int32) (i_found : Int32) (i_walkers : Int32) (a_many : Nat → Int32) (a_kinds : Nat → Int32) (a_counts : Nat → Int32) (a_spots : Nat → Int32) (x1 : Int32) (post : (Nat → Int32) → (Nat → Int32) → Prop) (hwp : PX8_take x1 i_walkers a_many a_kinds a_counts a_spots post) : Met l yX8_take wsX8_take ({ frames := 1, cells := 0, slots := 0, locals := 20 } : Room) (va_Pc [.ref h, .int x1] (pcW (dC, dI) sz (wX8_take cyI cyJ cyZ h h_text h_many h_ones h_others h_kinds h_firsts h_persons h_gone h_at h_fines h_undos h_seenOf h_seenOpen h_path h_told h_counts h_spots h_far h_row h_begins h_ways h_next i_length i_keptMany i_undoMany i_seenMany i_pathMany i_place i_found i_walkers a_many a_kinds a_counts a_spots) (tyG cyI cyJ cyZ))) (qX8_take dC dI cyI cyJ cyZ h h_text h_many h_ones h_others h_kinds h_firsts h_persons h_gone h_at h_fines h_undos h_seenOf h_seenOpen h_path h_told h_counts h_spots h_far h_row h_begins h_ways h_next i_length i_keptMany i_undoMany i_seenMany i_pathMany i_place i_found i_walkers a_many a_kinds a_counts a_spots post (va_A (wX8_take cyI cyJ cyZ h h_text h_many h_ones h_others h_kinds h_firsts h_persons h_gone h_at h_fines h_undos h_seenOf h_seenOpen h_path h_told h_counts h_spots h_far h_row h_begins h_ways h_next i_length i_keptMany i_undoMany i_seenMany i_pathMany i_place i_found i_walkers a_many a_kinds a_counts a_spots) sz)) 0 0 (va_A (wX8_take cyI cyJ cyZ h h_text h_many h_ones h_others h_kinds h_firsts h_persons h_gone h_at h_fines h_undos h_seenOf h_seenOpen h_path h_told h_counts h_spots h_far h_row h_begins h_ways h_next i_length i_keptMany i_undoMany i_seenMany i_pathMany i_place i_found i_walkers a_many a_kinds a_counts a_spots) sz) := by
  refine Met.ofW (cc := cX8_take) (maxL := 4) (ret := none) (by decide) rfl ?_
  intro p e s m args below meth c s₁ B hml hv
  obtain ⟨rfl, hsz, hP, hK, hD0, hN⟩ := hv
  have hx := B.exec
  have hb := B.bytes
  have hr := B.returns
  have hts := atoms_spec (ws := wsX8_take) B.pre
  have hown : s.vm.findClass RX8 = some m.cls := findClass_of_methodNamed B.named
  have hlocks := B.notSynchronized
  subst hsz
  have hD := hD0.self (sz := s.heap.size)
  generalize hAe : va_A (wX8_take cyI cyJ cyZ h h_text h_many h_ones h_others h_kinds h_firsts h_persons h_gone h_at h_fines h_undos h_seenOf h_seenOpen h_path h_told h_counts h_spots h_far h_row h_begins h_ways h_next i_length i_keptMany i_undoMany i_seenMany i_pathMany i_place i_found i_walkers a_many a_kinds a_counts a_spots) s.heap.size = A at hD ⊢
  have hA : ∀ q : Nat, s.heap.size ≤ q → A q := fun q h => by rw [← hAe]; exact Or.inr h
  have hW : Wd (dC, dI) A s.heap (wX8_take cyI cyJ cyZ h h_text h_many h_ones h_others h_kinds h_firsts h_persons h_gone h_at h_fines h_undos h_seenOf h_seenOpen h_path h_told h_counts h_spots h_far h_row h_begins h_ways h_next i_length i_keptMany i_undoMany i_seenMany i_pathMany i_place i_found i_walkers a_many a_kinds a_counts a_spots) s.heap [] := ⟨hP, hD, va_S.rf⟩
  have hw := hwp
  have hiX8 : ∀ w ∈ u_ws RX8 TX8 30, w ∈ wsX8_take := fun _ h => List.mem_cons_of_mem _ (List.mem_append_right _ h)
  have k_0 := hts (.fieldLink RX8 55 "OddLetsInModel" "counts" "[I") (List.mem_of_getElem? (i := 4) rfl)
  have k_1 := hts (.fieldLink RX8 22 "OddLetsInModel" "kinds" "[I") (List.mem_of_getElem? (i := 5) rfl)
  have k_2 := hts (.fieldLink RX8 13 "OddLetsInModel" "many" "[I") (List.mem_of_getElem? (i := 3) rfl)
  have k_3 := hts (.fieldLink RX8 58 "OddLetsInModel" "spots" "[I") (List.mem_of_getElem? (i := 2) rfl)
  have k_4 := hts (.fieldLink RX8 169 "OddLetsInModel" "walkers" "I") (List.mem_of_getElem? (i := 1) rfl)
  have W_41 : ∀ (a_spots : Nat → Int32) (n_41 : Nat) (x2 : Int32) (x3 : Int32) (a_counts : Nat → Int32) (H : Heap) (locs : List Loc) (ls : Array Slot), Wd (dC, dI) A s.heap (wX8_take cyI cyJ cyZ h h_text h_many h_ones h_others h_kinds h_firsts h_persons h_gone h_at h_fines h_undos h_seenOf h_seenOpen h_path h_told h_counts h_spots h_far h_row h_begins h_ways h_next i_length i_keptMany i_undoMany i_seenMany i_pathMany i_place i_found i_walkers a_many a_kinds a_counts a_spots) H locs → lv_has ls 4 [(0, .ref h), (2, .int x2), (3, .int x3)] → PX8_take_41 post a_kinds a_spots n_41 x2 x3 a_counts → W p l e (({ frames := 1, cells := 0, slots := 0, locals := 20 } : Room)) s m (([.ref h, .int x1] : List Value).toArray) below meth c H locs 0 0 (MQ below (qX8_take dC dI cyI cyJ cyZ h h_text h_many h_ones h_others h_kinds h_firsts h_persons h_gone h_at h_fines h_undos h_seenOf h_seenOpen h_path h_told h_counts h_spots h_far h_row h_begins h_ways h_next i_length i_keptMany i_undoMany i_seenMany i_pathMany i_place i_found i_walkers a_many a_kinds a_counts a_spots post A) (([.ref h, .int x1] : List Value).toArray) s 0 0 A) (F0 m 41 ls []) := by
    intro a_spots n_41
    induction n_41 with
    | zero =>
      intro x2 x3 a_counts H locs ls hW hl hw
      exact False.elim hw
    | succ n_41 ih_41 =>
      intro x2 x3 a_counts H locs ls hW hl hw
      refine lv_iload_n hx hb dX8_take_41 rfl (lv_at hl 2 rfl) ?_
      refine lv_if_lt (tgt := 80) hx hb dX8_take_42 (by decide) (fun c_1 => ?_) (fun c_1 => ?_)
      · replace hw := hw.1 c_1
        refine zw_vret (S := (Nat → Int32) × (Nat → Int32)) (post := fun u => post u.1 u.2) (a_counts, a_spots) hx hb hr hlocks hK hW hw ?_ dX8_take_80
        rfl
      · replace hw := hw.2 c_1
        refine lv_aload_n hx hb dX8_take_45 rfl (lv_at hl 0 rfl) ?_
        refine zw_get (ci := 8) (C := RX8) (T := TX8) (N := 30) (v := .ref h_counts) hx hb hts hiX8 hown hK hW 0 rfl rfl 21 (by decide) rfl k_0 dX8_take_46 ?_
        refine lv_iload_n hx hb dX8_take_49 rfl (lv_at hl 2 rfl) ?_
        refine lv_iload_n hx hb dX8_take_50 rfl (lv_at hl 1 rfl) ?_
        refine lv_aload_n hx hb dX8_take_51 rfl (lv_at hl 0 rfl) ?_
        refine zw_get (ci := 8) (C := RX8) (T := TX8) (N := 30) (v := .ref h_kinds) hx hb hts hiX8 hown hK hW 0 rfl rfl 5 (by decide) rfl k_1 dX8_take_52 ?_
        refine lv_iload_n hx hb dX8_take_55 rfl (lv_at hl 2 rfl) ?_
        refine zw_iald hx hb hK hW 2 rfl rfl hw.1 dX8_take_56 ?_
        replace hw := hw.2
        refine zw_Si ⟨hx, hb, hml, hown, hts⟩ hK hN hA hW [.int (a_kinds (x3).toNatClampNeg)] [.int x2, .int x3, .ref h_counts] [] [0, 1, 2, 3, 4] [0, 1, 2, 3, 4] (fun _ => (wX8_take cyI cyJ cyZ h h_text h_many h_ones h_others h_kinds h_firsts h_persons h_gone h_at h_fines h_undos h_seenOf h_seenOpen h_path h_told h_counts h_spots h_far h_row h_begins h_ways h_next i_length i_keptMany i_undoMany i_seenMany i_pathMany i_place i_found i_walkers a_many a_kinds a_counts a_spots)) (mX8_rests l dC dI cyI cyJ cyZ _ (a_kinds (x3).toNatClampNeg) _ hw) (va_cwS 1 hts gX8_take_X8_rests rfl rfl rfl (by decide +kernel) ⟨Nat.le_of_ble_eq_true rfl, Nat.le_of_ble_eq_true rfl⟩) rfl rfl rfl rfl (by decide) rfl (fun _ => rfl) rfl hl.1 rfl (Nat.le_of_ble_eq_true rfl) (Nat.le_of_ble_eq_true rfl) (Nat.le_of_ble_eq_true rfl) dX8_take_57 (fun r_2 u H locs hw hW => ?_)
        refine lv_irem hx hb dX8_take_60 hw.1 ?_
        replace hw := hw.2
        refine lv_topi (fun t_3 et_3 => ?_)
        replace hw := hw t_3 et_3
        refine zw_iast hx hb hK hW 3 rfl rfl hw.1 (w2 := fun a_counts_4 => (wX8_take cyI cyJ cyZ h h_text h_many h_ones h_others h_kinds h_firsts h_persons h_gone h_at h_fines h_undos h_seenOf h_seenOpen h_path h_told h_counts h_spots h_far h_row h_begins h_ways h_next i_length i_keptMany i_undoMany i_seenMany i_pathMany i_place i_found i_walkers a_many a_kinds a_counts_4 a_spots)) (fun _ => rfl) dX8_take_61 (fun a_counts_4 H locs ea_counts_4 hW => ?_)
        replace hw := hw.2 a_counts_4 ea_counts_4
        refine lv_iload_n hx hb dX8_take_62 rfl (lv_at hl 1 rfl) ?_
        refine lv_aload_n hx hb dX8_take_63 rfl (lv_at hl 0 rfl) ?_
        refine zw_get (ci := 8) (C := RX8) (T := TX8) (N := 30) (v := .ref h_kinds) hx hb hts hiX8 hown hK hW 0 rfl rfl 5 (by decide) rfl k_1 dX8_take_64 ?_
        refine lv_iload_n hx hb dX8_take_67 rfl (lv_at hl 2 rfl) ?_
        refine zw_iald hx hb hK hW 2 rfl rfl hw.1 dX8_take_68 ?_
        replace hw := hw.2
        refine zw_Si ⟨hx, hb, hml, hown, hts⟩ hK hN hA hW [.int (a_kinds (x3).toNatClampNeg)] [.int x2] [] [0, 1, 2, 3, 4] [0, 1, 2, 3, 4] (fun _ => (wX8_take cyI cyJ cyZ h h_text h_many h_ones h_others h_kinds h_firsts h_persons h_gone h_at h_fines h_undos h_seenOf h_seenOpen h_path h_told h_counts h_spots h_far h_row h_begins h_ways h_next i_length i_keptMany i_undoMany i_seenMany i_pathMany i_place i_found i_walkers a_many a_kinds a_counts_4 a_spots)) (mX8_rests l dC dI cyI cyJ cyZ _ (a_kinds (x3).toNatClampNeg) _ hw) (va_cwS 1 hts gX8_take_X8_rests rfl rfl rfl (by decide +kernel) ⟨Nat.le_of_ble_eq_true rfl, Nat.le_of_ble_eq_true rfl⟩) rfl rfl rfl rfl (by decide) rfl (fun _ => rfl) rfl hl.1 rfl (Nat.le_of_ble_eq_true rfl) (Nat.le_of_ble_eq_true rfl) (Nat.le_of_ble_eq_true rfl) dX8_take_69 (fun r_5 u H locs hw hW => ?_)
        refine lv_idiv hx hb dX8_take_72 hw.1 ?_
        replace hw := hw.2
        refine lv_topi (fun x2_6 ex2_6 => ?_)
        replace hw := hw x2_6 ex2_6
        refine lv_istore_n (lv' := [(2, .int x2_6), (0, .ref h), (3, .int x3)]) hx hb dX8_take_73 rfl hl (by decide) rfl (fun ls hl => ?_)
        obtain ⟨x3_7, ex3_7⟩ : ∃ y : Int32, y = x3 + (-1) := ⟨_, rfl⟩
        replace hw := hw x3_7 ex3_7
        refine lv_iinc (v := x3_7) (lv' := [(3, .int x3_7), (2, .int x2_6), (0, .ref h)]) hx hb dX8_take_74 hl (k := 2) rfl (by rw [ex3_7]; rfl) (by decide) rfl (fun ls hl => ?_)
        refine lv_goto (tgt := 41) hx hb dX8_take_77 (by decide) ?_
        exact ih_41 x2_6 x3_7 a_counts_4 _ _ _ hW (lv_sub hl [2, 1, 0] rfl) hw
  have W_9 : ∀ (a_counts : Nat → Int32) (n_9 : Nat) (x2 : Int32) (x3 : Int32) (a_spots : Nat → Int32) (H : Heap) (locs : List Loc) (ls : Array Slot), Wd (dC, dI) A s.heap (wX8_take cyI cyJ cyZ h h_text h_many h_ones h_others h_kinds h_firsts h_persons h_gone h_at h_fines h_undos h_seenOf h_seenOpen h_path h_told h_counts h_spots h_far h_row h_begins h_ways h_next i_length i_keptMany i_undoMany i_seenMany i_pathMany i_place i_found i_walkers a_many a_kinds a_counts a_spots) H locs → lv_has ls 4 [(0, .ref h), (2, .int x2), (3, .int x3)] → PX8_take_9 post a_many a_kinds a_counts n_9 x2 x3 a_spots → W p l e (({ frames := 1, cells := 0, slots := 0, locals := 20 } : Room)) s m (([.ref h, .int x1] : List Value).toArray) below meth c H locs 0 0 (MQ below (qX8_take dC dI cyI cyJ cyZ h h_text h_many h_ones h_others h_kinds h_firsts h_persons h_gone h_at h_fines h_undos h_seenOf h_seenOpen h_path h_told h_counts h_spots h_far h_row h_begins h_ways h_next i_length i_keptMany i_undoMany i_seenMany i_pathMany i_place i_found i_walkers a_many a_kinds a_counts a_spots post A) (([.ref h, .int x1] : List Value).toArray) s 0 0 A) (F0 m 9 ls []) := by
    intro a_counts n_9
    induction n_9 with
    | zero =>
      intro x2 x3 a_spots H locs ls hW hl hw
      exact False.elim hw
    | succ n_9 ih_9 =>
      intro x2 x3 a_spots H locs ls hW hl hw
      refine lv_iload_n hx hb dX8_take_9 rfl (lv_at hl 2 rfl) ?_
      refine lv_if_lt (tgt := 32) hx hb dX8_take_10 (by decide) (fun c_8 => ?_) (fun c_8 => ?_)
      · replace hw := hw.1 c_8
        refine lv_aload_n hx hb dX8_take_32 rfl (lv_at hl 0 rfl) ?_
        refine zw_get (ci := 8) (C := RX8) (T := TX8) (N := 30) (v := .ref h_many) hx hb hts hiX8 hown hK hW 0 rfl rfl 2 (by decide) rfl k_2 dX8_take_33 ?_
        refine lv_iconst (v := 0) hx hb dX8_take_36 (by decide) ?_
        refine zw_iald hx hb hK hW 1 rfl rfl hw.1 dX8_take_37 ?_
        replace hw := hw.2
        refine lv_iconst (v := 1) hx hb dX8_take_38 (by decide) ?_
        refine lv_isub hx hb dX8_take_39 ?_
        refine lv_topi (fun x3_9 ex3_9 => ?_)
        replace hw := hw x3_9 ex3_9
        refine lv_istore_n (lv' := [(3, .int x3_9), (0, .ref h), (2, .int x2)]) hx hb dX8_take_40 rfl hl (by decide) rfl (fun ls hl => ?_)
        obtain ⟨n_41, hw⟩ := hw
        exact W_41 a_spots n_41 x2 x3_9 a_counts _ _ _ hW (lv_sub hl [1, 2, 0] rfl) hw
      · replace hw := hw.2 c_8
        refine lv_aload_n hx hb dX8_take_13 rfl (lv_at hl 0 rfl) ?_
        refine zw_get (ci := 8) (C := RX8) (T := TX8) (N := 30) (v := .ref h_spots) hx hb hts hiX8 hown hK hW 0 rfl rfl 22 (by decide) rfl k_3 dX8_take_14 ?_
        refine lv_iload_n hx hb dX8_take_17 rfl (lv_at hl 2 rfl) ?_
        refine lv_iload_n hx hb dX8_take_18 rfl (lv_at hl 1 rfl) ?_
        refine lv_iconst (v := 5) hx hb dX8_take_19 (by decide) ?_
        refine lv_irem hx hb dX8_take_20 (by decide) ?_
        refine lv_topi (fun t_10 et_10 => ?_)
        replace hw := hw t_10 et_10
        refine zw_iast hx hb hK hW 4 rfl rfl hw.1 (w2 := fun a_spots_11 => (wX8_take cyI cyJ cyZ h h_text h_many h_ones h_others h_kinds h_firsts h_persons h_gone h_at h_fines h_undos h_seenOf h_seenOpen h_path h_told h_counts h_spots h_far h_row h_begins h_ways h_next i_length i_keptMany i_undoMany i_seenMany i_pathMany i_place i_found i_walkers a_many a_kinds a_counts a_spots_11)) (fun _ => rfl) dX8_take_21 (fun a_spots_11 H locs ea_spots_11 hW => ?_)
        replace hw := hw.2 a_spots_11 ea_spots_11
        refine lv_iload_n hx hb dX8_take_22 rfl (lv_at hl 1 rfl) ?_
        refine lv_iconst (v := 5) hx hb dX8_take_23 (by decide) ?_
        refine lv_idiv hx hb dX8_take_24 (by decide) ?_
        refine lv_topi (fun x2_12 ex2_12 => ?_)
        replace hw := hw x2_12 ex2_12
        refine lv_istore_n (lv' := [(2, .int x2_12), (0, .ref h), (3, .int x3)]) hx hb dX8_take_25 rfl hl (by decide) rfl (fun ls hl => ?_)
        obtain ⟨x3_13, ex3_13⟩ : ∃ y : Int32, y = x3 + (-1) := ⟨_, rfl⟩
        replace hw := hw x3_13 ex3_13
        refine lv_iinc (v := x3_13) (lv' := [(3, .int x3_13), (2, .int x2_12), (0, .ref h)]) hx hb dX8_take_26 hl (k := 2) rfl (by rw [ex3_13]; rfl) (by decide) rfl (fun ls hl => ?_)
        refine lv_goto (tgt := 9) hx hb dX8_take_29 (by decide) ?_
        exact ih_9 x2_12 x3_13 a_spots_11 _ _ _ hW (lv_sub hl [2, 1, 0] rfl) hw
  have hl := lv_entry ([.ref h, .int x1]) (n := 4) (Nat.le_of_ble_eq_true rfl)
  rw [lg_entry_eq]
  generalize (lg_sl ([.ref h, .int x1]) ++ List.replicate (4 - (lg_sl ([.ref h, .int x1])).length) Slot.unset).toArray = ls at hl ⊢
  have hl : lv_has ls 4 [(0, .ref h), (1, .int x1)] := hl
  refine lv_iload_n hx hb dX8_take_0 rfl (lv_at hl 1 rfl) ?_
  refine lv_istore_n (lv' := [(2, .int x1), (0, .ref h), (1, .int x1)]) hx hb dX8_take_1 rfl hl (by decide) rfl (fun ls hl => ?_)
  refine lv_aload_n hx hb dX8_take_2 rfl (lv_at hl 1 rfl) ?_
  refine zw_get (ci := 8) (C := RX8) (T := TX8) (N := 30) (v := .int i_walkers) hx hb hts hiX8 hown hK hW 0 rfl rfl 27 (by decide) rfl k_4 dX8_take_3 ?_
  refine lv_iconst (v := 1) hx hb dX8_take_6 (by decide) ?_
  refine lv_isub hx hb dX8_take_7 ?_
  refine lv_topi (fun x3_14 ex3_14 => ?_)
  replace hw := hw x3_14 ex3_14
  refine lv_istore_n (lv' := [(3, .int x3_14), (2, .int x1), (0, .ref h), (1, .int x1)]) hx hb dX8_take_8 rfl hl (by decide) rfl (fun ls hl => ?_)
  obtain ⟨n_9, hw⟩ := hw
  exact W_9 a_counts n_9 x1 x3_14 a_spots _ _ _ hW (lv_sub hl [2, 1, 0] rfl) hw
abbrev wX8_search (cyI cyJ cyZ : ClassId) (h h_text h_many h_ones h_others h_kinds h_firsts h_persons h_gone h_at h_fines h_undos h_seenOf h_seenOpen h_path h_told h_counts h_spots h_far h_row h_begins h_ways h_next : Nat) (i_length : Int32) (i_keptMany : Int32) (i_undoMany : Int32) (i_seenMany : Int32) (i_pathMany : Int32) (i_place : Int32) (i_found : Int32) (i_walkers : Int32) (a_many : Nat → Int32) (a_ones : Nat → Int32) (a_others : Nat → Int32) (a_kinds : Nat → Int32) (a_counts : Nat → Int32) (a_spots : Nat → Int32) (a_far : Nat → Int32) (a_row : Nat → Int32) (a_begins : Nat → Int32) : va_W := [(h, .inr (8, [.int i_length, .ref h_text, .ref h_many, .ref h_ones, .ref h_others, .ref h_kinds, .ref h_firsts, .ref h_persons, .ref h_gone, .ref h_at, .ref h_fines, .int i_keptMany, .int i_undoMany, .ref h_undos, .int i_seenMany, .ref h_seenOf, .ref h_seenOpen, .int i_pathMany, .ref h_path, .int i_place, .ref h_told, .ref h_counts, .ref h_spots, .ref h_far, .ref h_row, .ref h_begins, .int i_found, .int i_walkers, .ref h_ways, .ref h_next])), (h_many, .inl (cyI, 2, .inl a_many)), (h_ones, .inl (cyI, 10, .inl a_ones)), (h_others, .inl (cyI, 10, .inl a_others)), (h_kinds, .inl (cyI, 10, .inl a_kinds)), (h_counts, .inl (cyI, 5, .inl a_counts)), (h_spots, .inl (cyI, 3, .inl a_spots)), (h_far, .inl (cyI, 30400, .inl a_far)), (h_row, .inl (cyI, 30400, .inl a_row)), (h_begins, .inl (cyI, 30400, .inl a_begins))]
abbrev qX8_search (dC : Nat → ClassId) (dI : Nat → Nat → Nat) (cyI cyJ cyZ : ClassId) (h h_text h_many h_ones h_others h_kinds h_firsts h_persons h_gone h_at h_fines h_undos h_seenOf h_seenOpen h_path h_told h_counts h_spots h_far h_row h_begins h_ways h_next : Nat) (i_length : Int32) (i_keptMany : Int32) (i_undoMany : Int32) (i_seenMany : Int32) (i_pathMany : Int32) (i_place : Int32) (i_found : Int32) (i_walkers : Int32) (a_many : Nat → Int32) (a_ones : Nat → Int32) (a_others : Nat → Int32) (a_kinds : Nat → Int32) (a_counts : Nat → Int32) (a_spots : Nat → Int32) (a_far : Nat → Int32) (a_row : Nat → Int32) (a_begins : Nat → Int32) (post : Int32 → Int32 → (Nat → Int32) → (Nat → Int32) → (Nat → Int32) → (Nat → Int32) → (Nat → Int32) → Prop) (A : Nat → Prop) : Array Value → State → Outcome → State → Prop := (va_Qv (fun (u : Int32 × Int32 × (Nat → Int32) × (Nat → Int32) × (Nat → Int32) × (Nat → Int32) × (Nat → Int32)) => post u.1 u.2.1 u.2.2.1 u.2.2.2.1 u.2.2.2.2.1 u.2.2.2.2.2.1 u.2.2.2.2.2.2) (bW (dC, dI) (tyG cyI cyJ cyZ) A (fun u : Int32 × Int32 × (Nat → Int32) × (Nat → Int32) × (Nat → Int32) × (Nat → Int32) × (Nat → Int32) => (wX8_search cyI cyJ cyZ h h_text h_many h_ones h_others h_kinds h_firsts h_persons h_gone h_at h_fines h_undos h_seenOf h_seenOpen h_path h_told h_counts h_spots h_far h_row h_begins h_ways h_next i_length i_keptMany i_undoMany i_seenMany i_pathMany i_place (u.1) (u.2.1) a_many a_ones a_others a_kinds (u.2.2.1) (u.2.2.2.1) (u.2.2.2.2.1) (u.2.2.2.2.2.1) (u.2.2.2.2.2.2)))) A)
set_option maxHeartbeats 4000000 in
set_option maxRecDepth 100000 in
theorem mX8_search (l : Launch) (dC : Nat → ClassId) (dI : Nat → Nat → Nat) (cyI cyJ cyZ : ClassId) (h h_text h_many h_ones h_others h_kinds h_firsts h_persons h_gone h_at h_fines h_undos h_seenOf h_seenOpen h_path h_told h_counts h_spots h_far h_row h_begins h_ways h_next : Nat) (sz : Nat) (i_length : Int32) (i_keptMany : Int32) (i_undoMany : Int32) (i_seenMany : Int32) (i_pathMany : Int32) (i_place : Int32) (i_found : Int32) (i_walkers : Int32) (a_many : Nat → Int32) (a_ones : Nat → Int32) (a_others : Nat → Int32) (a_kinds : Nat → Int32) (a_counts : Nat → Int32) (a_spots : Nat → Int32) (a_far : Nat → Int32) (a_row : Nat → Int32) (a_begins : Nat → Int32) (x1 : Int32) (post : Int32 → Int32 → (Nat → Int32) → (Nat → Int32) → (Nat → Int32) → (Nat → Int32) → (Nat → Int32) → Prop) (hwp : PX8_search x1 i_found i_walkers a_many a_ones a_others a_kinds a_counts a_spots a_far a_row a_begins post) : Met l yX8_search wsX8_search ({ frames := 2, cells := 0, slots := 0, locals := 46 } : Room) (va_Pc [.ref h, .int x1] (pcW (dC, dI) sz (wX8_search cyI cyJ cyZ h h_text h_many h_ones h_others h_kinds h_firsts h_persons h_gone h_at h_fines h_undos h_seenOf h_seenOpen h_path h_told h_counts h_spots h_far h_row h_begins h_ways h_next i_length i_keptMany i_undoMany i_seenMany i_pathMany i_place i_found i_walkers a_many a_ones a_others a_kinds a_counts a_spots a_far a_row a_begins) (tyG cyI cyJ cyZ))) (qX8_search dC dI cyI cyJ cyZ h h_text h_many h_ones h_others h_kinds h_firsts h_persons h_gone h_at h_fines h_undos h_seenOf h_seenOpen h_path h_told h_counts h_spots h_far h_row h_begins h_ways h_next i_length i_keptMany i_undoMany i_seenMany i_pathMany i_place i_found i_walkers a_many a_ones a_others a_kinds a_counts a_spots a_far a_row a_begins post (va_A (wX8_search cyI cyJ cyZ h h_text h_many h_ones h_others h_kinds h_firsts h_persons h_gone h_at h_fines h_undos h_seenOf h_seenOpen h_path h_told h_counts h_spots h_far h_row h_begins h_ways h_next i_length i_keptMany i_undoMany i_seenMany i_pathMany i_place i_found i_walkers a_many a_ones a_others a_kinds a_counts a_spots a_far a_row a_begins) sz)) 0 0 (va_A (wX8_search cyI cyJ cyZ h h_text h_many h_ones h_others h_kinds h_firsts h_persons h_gone h_at h_fines h_undos h_seenOf h_seenOpen h_path h_told h_counts h_spots h_far h_row h_begins h_ways h_next i_length i_keptMany i_undoMany i_seenMany i_pathMany i_place i_found i_walkers a_many a_ones a_others a_kinds a_counts a_spots a_far a_row a_begins) sz) := by
  refine Met.ofW (cc := cX8_search) (maxL := 8) (ret := none) (by decide) rfl ?_
  intro p e s m args below meth c s₁ B hml hv
  obtain ⟨rfl, hsz, hP, hK, hD0, hN⟩ := hv
  have hx := B.exec
  have hb := B.bytes
  have hr := B.returns
  have hts := atoms_spec (ws := wsX8_search) B.pre
  have hown : s.vm.findClass RX8 = some m.cls := findClass_of_methodNamed B.named
  have hlocks := B.notSynchronized
  subst hsz
  have hD := hD0.self (sz := s.heap.size)
  generalize hAe : va_A (wX8_search cyI cyJ cyZ h h_text h_many h_ones h_others h_kinds h_firsts h_persons h_gone h_at h_fines h_undos h_seenOf h_seenOpen h_path h_told h_counts h_spots h_far h_row h_begins h_ways h_next i_length i_keptMany i_undoMany i_seenMany i_pathMany i_place i_found i_walkers a_many a_ones a_others a_kinds a_counts a_spots a_far a_row a_begins) s.heap.size = A at hD ⊢
  have hA : ∀ q : Nat, s.heap.size ≤ q → A q := fun q h => by rw [← hAe]; exact Or.inr h
  have hW : Wd (dC, dI) A s.heap (wX8_search cyI cyJ cyZ h h_text h_many h_ones h_others h_kinds h_firsts h_persons h_gone h_at h_fines h_undos h_seenOf h_seenOpen h_path h_told h_counts h_spots h_far h_row h_begins h_ways h_next i_length i_keptMany i_undoMany i_seenMany i_pathMany i_place i_found i_walkers a_many a_ones a_others a_kinds a_counts a_spots a_far a_row a_begins) s.heap [] := ⟨hP, hD, va_S.rf⟩
  have hw := hwp
  have hiX8 : ∀ w ∈ u_ws RX8 TX8 30, w ∈ wsX8_search := fun _ h => List.mem_cons_of_mem _ (List.mem_append_right _ h)
  have k_0 := hts (.fieldLink RX8 13 "OddLetsInModel" "many" "[I") (List.mem_of_getElem? (i := 6) rfl)
  have k_1 := hts (.fieldLink RX8 58 "OddLetsInModel" "spots" "[I") (List.mem_of_getElem? (i := 7) rfl)
  have k_2 := hts (.fieldLink RX8 55 "OddLetsInModel" "counts" "[I") (List.mem_of_getElem? (i := 8) rfl)
  have k_3 := hts (.fieldLink RX8 61 "OddLetsInModel" "far" "[I") (List.mem_of_getElem? (i := 2) rfl)
  have k_4 := hts (.fieldLink RX8 67 "OddLetsInModel" "begins" "[I") (List.mem_of_getElem? (i := 4) rfl)
  have k_5 := hts (.fieldLink RX8 64 "OddLetsInModel" "row" "[I") (List.mem_of_getElem? (i := 3) rfl)
  have k_6 := hts (.fieldLink RX8 175 "OddLetsInModel" "found" "I") (List.mem_of_getElem? (i := 5) rfl)
  have k_7 := hts (.fieldLink RX8 169 "OddLetsInModel" "walkers" "I") (List.mem_of_getElem? (i := 1) rfl)
  have W_70 : ∀ (i_walkers : Int32) (n_70 : Nat) (x2 : Int32) (i_found : Int32) (a_counts : Nat → Int32) (a_spots : Nat → Int32) (a_far : Nat → Int32) (a_row : Nat → Int32) (a_begins : Nat → Int32) (H : Heap) (locs : List Loc) (ls : Array Slot), Wd (dC, dI) A s.heap (wX8_search cyI cyJ cyZ h h_text h_many h_ones h_others h_kinds h_firsts h_persons h_gone h_at h_fines h_undos h_seenOf h_seenOpen h_path h_told h_counts h_spots h_far h_row h_begins h_ways h_next i_length i_keptMany i_undoMany i_seenMany i_pathMany i_place i_found i_walkers a_many a_ones a_others a_kinds a_counts a_spots a_far a_row a_begins) H locs → lv_has ls 8 [(0, .ref h), (1, .int x1), (2, .int x2)] → PX8_search_70 post x1 a_many a_ones a_others a_kinds i_walkers n_70 x2 i_found a_counts a_spots a_far a_row a_begins → W p l e (({ frames := 2, cells := 0, slots := 0, locals := 46 } : Room)) s m (([.ref h, .int x1] : List Value).toArray) below meth c H locs 0 0 (MQ below (qX8_search dC dI cyI cyJ cyZ h h_text h_many h_ones h_others h_kinds h_firsts h_persons h_gone h_at h_fines h_undos h_seenOf h_seenOpen h_path h_told h_counts h_spots h_far h_row h_begins h_ways h_next i_length i_keptMany i_undoMany i_seenMany i_pathMany i_place i_found i_walkers a_many a_ones a_others a_kinds a_counts a_spots a_far a_row a_begins post A) (([.ref h, .int x1] : List Value).toArray) s 0 0 A) (F0 m 70 ls []) := by
    intro i_walkers n_70
    induction n_70 with
    | zero =>
      intro x2 i_found a_counts a_spots a_far a_row a_begins H locs ls hW hl hw
      exact False.elim hw
    | succ n_70 ih_70 =>
      have W_88 : ∀ (x2 : Int32) (x3 : Int32) (n_88 : Nat) (x4 : Int32) (i_found : Int32) (a_counts : Nat → Int32) (a_spots : Nat → Int32) (a_far : Nat → Int32) (a_row : Nat → Int32) (a_begins : Nat → Int32) (H : Heap) (locs : List Loc) (ls : Array Slot), Wd (dC, dI) A s.heap (wX8_search cyI cyJ cyZ h h_text h_many h_ones h_others h_kinds h_firsts h_persons h_gone h_at h_fines h_undos h_seenOf h_seenOpen h_path h_told h_counts h_spots h_far h_row h_begins h_ways h_next i_length i_keptMany i_undoMany i_seenMany i_pathMany i_place i_found i_walkers a_many a_ones a_others a_kinds a_counts a_spots a_far a_row a_begins) H locs → lv_has ls 8 [(0, .ref h), (1, .int x1), (2, .int x2), (3, .int x3), (4, .int x4)] → PX8_search_88 post x1 i_walkers a_many a_ones a_others a_kinds (PX8_search_70 post x1 a_many a_ones a_others a_kinds i_walkers n_70) x2 x3 n_88 x4 i_found a_counts a_spots a_far a_row a_begins → W p l e (({ frames := 2, cells := 0, slots := 0, locals := 46 } : Room)) s m (([.ref h, .int x1] : List Value).toArray) below meth c H locs 0 0 (MQ below (qX8_search dC dI cyI cyJ cyZ h h_text h_many h_ones h_others h_kinds h_firsts h_persons h_gone h_at h_fines h_undos h_seenOf h_seenOpen h_path h_told h_counts h_spots h_far h_row h_begins h_ways h_next i_length i_keptMany i_undoMany i_seenMany i_pathMany i_place i_found i_walkers a_many a_ones a_others a_kinds a_counts a_spots a_far a_row a_begins post A) (([.ref h, .int x1] : List Value).toArray) s 0 0 A) (F0 m 88 ls []) := by
        intro x2 x3 n_88
        induction n_88 with
        | zero =>
          intro x4 i_found a_counts a_spots a_far a_row a_begins H locs ls hW hl hw
          exact False.elim hw
        | succ n_88 ih_88 =>
          intro x4 i_found a_counts a_spots a_far a_row a_begins H locs ls hW hl hw
          refine lv_iload hx hb dX8_search_88 (lv_at hl 4 rfl) ?_
          refine lv_iload_n hx hb dX8_search_90 rfl (lv_at hl 1 rfl) ?_
          refine lv_aload_n hx hb dX8_search_91 rfl (lv_at hl 0 rfl) ?_
          refine zw_get (ci := 8) (C := RX8) (T := TX8) (N := 30) (v := .ref h_many) hx hb hts hiX8 hown hK hW 0 rfl rfl 2 (by decide) rfl k_0 dX8_search_92 ?_
          refine lv_iconst (v := 0) hx hb dX8_search_95 (by decide) ?_
          refine zw_iald hx hb hK hW 1 rfl rfl hw.1 dX8_search_96 ?_
          replace hw := hw.2
          refine lv_imul hx hb dX8_search_97 ?_
          refine lv_icmp_ge (tgt := 261) hx hb dX8_search_98 (by decide) (fun c_1 => ?_) (fun c_1 => ?_)
          · replace hw := hw.1 c_1
            obtain ⟨x2_2, ex2_2⟩ : ∃ y : Int32, y = x2 + 1 := ⟨_, rfl⟩
            replace hw := hw x2_2 ex2_2
            refine lv_iinc (v := x2_2) (lv' := [(2, .int x2_2), (0, .ref h), (1, .int x1), (3, .int x3), (4, .int x4)]) hx hb dX8_search_261 hl (k := 2) rfl (by rw [ex2_2]; rfl) (by decide) rfl (fun ls hl => ?_)
            refine lv_goto (tgt := 70) hx hb dX8_search_264 (by decide) ?_
            exact ih_70 x2_2 i_found a_counts a_spots a_far a_row a_begins _ _ _ hW (lv_sub hl [1, 2, 0] rfl) hw
          · replace hw := hw.2 c_1
            refine lv_iload hx hb dX8_search_101 (lv_at hl 4 rfl) ?_
            refine lv_aload_n hx hb dX8_search_103 rfl (lv_at hl 0 rfl) ?_
            refine zw_get (ci := 8) (C := RX8) (T := TX8) (N := 30) (v := .ref h_many) hx hb hts hiX8 hown hK hW 0 rfl rfl 2 (by decide) rfl k_0 dX8_search_104 ?_
            refine lv_iconst (v := 0) hx hb dX8_search_107 (by decide) ?_
            refine zw_iald hx hb hK hW 1 rfl rfl hw.1 dX8_search_108 ?_
            replace hw := hw.2
            refine lv_idiv hx hb dX8_search_109 hw.1 ?_
            replace hw := hw.2
            refine lv_topi (fun x5_3 ex5_3 => ?_)
            replace hw := hw x5_3 ex5_3
            refine lv_istore (lv' := [(5, .int x5_3), (0, .ref h), (1, .int x1), (2, .int x2), (3, .int x3), (4, .int x4)]) hx hb dX8_search_110 hl (by decide) rfl (fun ls hl => ?_)
            refine lv_iload hx hb dX8_search_112 (lv_at hl 5 rfl) ?_
            refine lv_aload_n hx hb dX8_search_114 rfl (lv_at hl 1 rfl) ?_
            refine zw_get (ci := 8) (C := RX8) (T := TX8) (N := 30) (v := .ref h_many) hx hb hts hiX8 hown hK hW 0 rfl rfl 2 (by decide) rfl k_0 dX8_search_115 ?_
            refine lv_iconst (v := 0) hx hb dX8_search_118 (by decide) ?_
            refine zw_iald hx hb hK hW 1 rfl rfl hw.1 dX8_search_119 ?_
            replace hw := hw.2
            refine lv_irem hx hb dX8_search_120 hw.1 ?_
            replace hw := hw.2
            refine lv_topi (fun x6_4 ex6_4 => ?_)
            replace hw := hw x6_4 ex6_4
            refine lv_istore (lv' := [(6, .int x6_4), (5, .int x5_3), (0, .ref h), (1, .int x1), (2, .int x2), (3, .int x3), (4, .int x4)]) hx hb dX8_search_121 hl (by decide) rfl (fun ls hl => ?_)
            refine lv_aload_n hx hb dX8_search_123 rfl (lv_at hl 2 rfl) ?_
            refine lv_iload_n hx hb dX8_search_124 rfl (lv_at hl 5 rfl) ?_
            refine zw_Vv ⟨hx, hb, hml, hown, hts⟩ hK hN hA hW 0 rfl (T := TX8) (N := 30) rfl [.int x3] [] [0, 1, 4, 5, 6] [2, 3, 7, 8, 9] [5, 6, 0, 1, 7, 8, 9, 2, 3, 4] (fun u => (wX8_search cyI cyJ cyZ h h_text h_many h_ones h_others h_kinds h_firsts h_persons h_gone h_at h_fines h_undos h_seenOf h_seenOpen h_path h_told h_counts h_spots h_far h_row h_begins h_ways h_next i_length i_keptMany i_undoMany i_seenMany i_pathMany i_place i_found i_walkers a_many a_ones a_others a_kinds (u.1) (u.2) a_far a_row a_begins)) (mX8_take l dC dI cyI cyJ cyZ h h_text h_many h_ones h_others h_kinds h_firsts h_persons h_gone h_at h_fines h_undos h_seenOf h_seenOpen h_path h_told h_counts h_spots h_far h_row h_begins h_ways h_next _ i_length i_keptMany i_undoMany i_seenMany i_pathMany i_place i_found i_walkers a_many a_kinds a_counts a_spots x3 _ hw) (cwV 1 hts gX8_search_X8_take rfl rfl rfl (by decide +kernel) ⟨Nat.le_of_ble_eq_true rfl, Nat.le_of_ble_eq_true rfl⟩) rfl rfl rfl rfl (by decide) rfl (fun _ => rfl) rfl hl.1 rfl (Nat.le_of_ble_eq_true rfl) (Nat.le_of_ble_eq_true rfl) (Nat.le_of_ble_eq_true rfl) dX8_search_125 (fun u H locs hw hW => ?_)
            obtain ⟨a_counts_5, a_spots_6⟩ := u
            try dsimp only at hw
            replace hW : Wd (dC, dI) A s.heap (wX8_search cyI cyJ cyZ h h_text h_many h_ones h_others h_kinds h_firsts h_persons h_gone h_at h_fines h_undos h_seenOf h_seenOpen h_path h_told h_counts h_spots h_far h_row h_begins h_ways h_next i_length i_keptMany i_undoMany i_seenMany i_pathMany i_place i_found i_walkers a_many a_ones a_others a_kinds a_counts_5 a_spots_6 a_far a_row a_begins) H locs := hW
            refine lv_aload_n hx hb dX8_search_128 rfl (lv_at hl 2 rfl) ?_
            refine lv_aload_n hx hb dX8_search_129 rfl (lv_at hl 2 rfl) ?_
            refine zw_get (ci := 8) (C := RX8) (T := TX8) (N := 30) (v := .ref h_spots) hx hb hts hiX8 hown hK hW 0 rfl rfl 22 (by decide) rfl k_1 dX8_search_130 ?_
            refine lv_iload hx hb dX8_search_133 (lv_at hl 1 rfl) ?_
            refine zw_iald hx hb hK hW 6 rfl rfl hw.1 dX8_search_135 ?_
            replace hw := hw.2
            refine lv_iload hx hb dX8_search_136 (lv_at hl 0 rfl) ?_
            refine zw_Vi ⟨hx, hb, hml, hown, hts⟩ hK hN hA hW 0 rfl (T := TX8) (N := 30) rfl [.int (a_spots_6 (x5_3).toNatClampNeg), .int x6_4] [] [0, 2, 3, 4, 5] [1, 6, 7, 8, 9] [5, 0, 6, 7, 8, 9, 1, 2, 3, 4] (fun _ => (wX8_search cyI cyJ cyZ h h_text h_many h_ones h_others h_kinds h_firsts h_persons h_gone h_at h_fines h_undos h_seenOf h_seenOpen h_path h_told h_counts h_spots h_far h_row h_begins h_ways h_next i_length i_keptMany i_undoMany i_seenMany i_pathMany i_place i_found i_walkers a_many a_ones a_others a_kinds a_counts_5 a_spots_6 a_far a_row a_begins)) (mX8_canPass l dC dI cyI cyJ cyZ h h_text h_many h_ones h_others h_kinds h_firsts h_persons h_gone h_at h_fines h_undos h_seenOf h_seenOpen h_path h_told h_counts h_spots h_far h_row h_begins h_ways h_next _ i_length i_keptMany i_undoMany i_seenMany i_pathMany i_place i_found i_walkers a_ones a_others a_kinds a_counts_5 (a_spots_6 (x5_3).toNatClampNeg) x6_4 _ hw) (cwV 2 hts gX8_search_X8_canPass rfl rfl rfl (by decide +kernel) ⟨Nat.le_of_ble_eq_true rfl, Nat.le_of_ble_eq_true rfl⟩) rfl rfl rfl rfl (by decide) rfl (fun _ => rfl) rfl hl.1 rfl (Nat.le_of_ble_eq_true rfl) (Nat.le_of_ble_eq_true rfl) (Nat.le_of_ble_eq_true rfl) dX8_search_138 (fun r_7 u H locs hw hW => ?_)
            obtain ⟨br_7, hw⟩ := hw
            refine lv_if_eq (tgt := 255) hx hb dX8_search_141 (by decide) (fun c_8 => ?_) (fun c_8 => ?_)
            · replace hw := hw.1 c_8
              obtain ⟨x4_9, ex4_9⟩ : ∃ y : Int32, y = x4 + 1 := ⟨_, rfl⟩
              replace hw := hw x4_9 ex4_9
              refine lv_iinc (v := x4_9) (lv' := [(4, .int x4_9), (6, .int x6_4), (5, .int x5_3), (0, .ref h), (1, .int x1), (2, .int x2), (3, .int x3)]) hx hb dX8_search_255 hl (k := 6) rfl (by rw [ex4_9]; rfl) (by decide) rfl (fun ls hl => ?_)
              refine lv_goto (tgt := 88) hx hb dX8_search_258 (by decide) ?_
              exact ih_88 x4_9 i_found a_counts_5 a_spots_6 a_far a_row a_begins _ _ _ hW (lv_sub hl [3, 4, 5, 6, 0] rfl) hw
            · replace hw := hw.2 c_8
              refine lv_aload_n hx hb dX8_search_144 rfl (lv_at hl 2 rfl) ?_
              refine zw_get (ci := 8) (C := RX8) (T := TX8) (N := 30) (v := .ref h_counts) hx hb hts hiX8 hown hK hW 0 rfl rfl 21 (by decide) rfl k_2 dX8_search_145 ?_
              refine lv_iload hx hb dX8_search_148 (lv_at hl 0 rfl) ?_
              refine lv_dup2_11 hx hb dX8_search_150 rfl rfl ?_
              refine zw_iald hx hb hK hW 5 rfl rfl hw.1 dX8_search_151 ?_
              replace hw := hw.2
              refine lv_iconst (v := 1) hx hb dX8_search_152 (by decide) ?_
              refine lv_iadd hx hb dX8_search_153 ?_
              refine lv_topi (fun t_10 et_10 => ?_)
              replace hw := hw t_10 et_10
              refine zw_iast hx hb hK hW 5 rfl rfl hw.1 (w2 := fun a_counts_11 => (wX8_search cyI cyJ cyZ h h_text h_many h_ones h_others h_kinds h_firsts h_persons h_gone h_at h_fines h_undos h_seenOf h_seenOpen h_path h_told h_counts h_spots h_far h_row h_begins h_ways h_next i_length i_keptMany i_undoMany i_seenMany i_pathMany i_place i_found i_walkers a_many a_ones a_others a_kinds a_counts_11 a_spots_6 a_far a_row a_begins)) (fun _ => rfl) dX8_search_154 (fun a_counts_11 H locs ea_counts_11 hW => ?_)
              replace hw := hw.2 a_counts_11 ea_counts_11
              refine lv_aload_n hx hb dX8_search_155 rfl (lv_at hl 2 rfl) ?_
              refine zw_get (ci := 8) (C := RX8) (T := TX8) (N := 30) (v := .ref h_spots) hx hb hts hiX8 hown hK hW 0 rfl rfl 22 (by decide) rfl k_1 dX8_search_156 ?_
              refine lv_iload hx hb dX8_search_159 (lv_at hl 1 rfl) ?_
              refine lv_aload_n hx hb dX8_search_161 rfl (lv_at hl 2 rfl) ?_
              refine lv_iload hx hb dX8_search_162 (lv_at hl 0 rfl) ?_
              refine lv_aload_n hx hb dX8_search_164 rfl (lv_at hl 2 rfl) ?_
              refine zw_get (ci := 8) (C := RX8) (T := TX8) (N := 30) (v := .ref h_spots) hx hb hts hiX8 hown hK hW 0 rfl rfl 22 (by decide) rfl k_1 dX8_search_165 ?_
              refine lv_iload hx hb dX8_search_168 (lv_at hl 1 rfl) ?_
              refine zw_iald hx hb hK hW 6 rfl rfl hw.1 dX8_search_170 ?_
              replace hw := hw.2
              refine zw_Vi ⟨hx, hb, hml, hown, hts⟩ hK hN hA hW 0 rfl (T := TX8) (N := 30) rfl [.int x6_4, .int (a_spots_6 (x5_3).toNatClampNeg)] [.int x5_3, .ref h_spots] [0, 2, 3] [1, 4, 5, 6, 7, 8, 9] [7, 0, 8, 9, 1, 2, 3, 4, 5, 6] (fun _ => (wX8_search cyI cyJ cyZ h h_text h_many h_ones h_others h_kinds h_firsts h_persons h_gone h_at h_fines h_undos h_seenOf h_seenOpen h_path h_told h_counts h_spots h_far h_row h_begins h_ways h_next i_length i_keptMany i_undoMany i_seenMany i_pathMany i_place i_found i_walkers a_many a_ones a_others a_kinds a_counts_11 a_spots_6 a_far a_row a_begins)) (mX8_beyond l dC dI cyI cyJ cyZ h h_text h_many h_ones h_others h_kinds h_firsts h_persons h_gone h_at h_fines h_undos h_seenOf h_seenOpen h_path h_told h_counts h_spots h_far h_row h_begins h_ways h_next _ i_length i_keptMany i_undoMany i_seenMany i_pathMany i_place i_found i_walkers a_ones a_others x6_4 (a_spots_6 (x5_3).toNatClampNeg) _ hw) (cwV 2 hts gX8_search_X8_beyond rfl rfl rfl (by decide +kernel) ⟨Nat.le_of_ble_eq_true rfl, Nat.le_of_ble_eq_true rfl⟩) rfl rfl rfl rfl (by decide) rfl (fun _ => rfl) rfl hl.1 rfl (Nat.le_of_ble_eq_true rfl) (Nat.le_of_ble_eq_true rfl) (Nat.le_of_ble_eq_true rfl) dX8_search_171 (fun r_12 u H locs hw hW => ?_)
              refine zw_iast hx hb hK hW 6 rfl rfl hw.1 (w2 := fun a_spots_13 => (wX8_search cyI cyJ cyZ h h_text h_many h_ones h_others h_kinds h_firsts h_persons h_gone h_at h_fines h_undos h_seenOf h_seenOpen h_path h_told h_counts h_spots h_far h_row h_begins h_ways h_next i_length i_keptMany i_undoMany i_seenMany i_pathMany i_place i_found i_walkers a_many a_ones a_others a_kinds a_counts_11 a_spots_13 a_far a_row a_begins)) (fun _ => rfl) dX8_search_174 (fun a_spots_13 H locs ea_spots_13 hW => ?_)
              replace hw := hw.2 a_spots_13 ea_spots_13
              refine lv_aload_n hx hb dX8_search_175 rfl (lv_at hl 2 rfl) ?_
              refine zw_Vi ⟨hx, hb, hml, hown, hts⟩ hK hN hA hW 0 rfl (T := TX8) (N := 30) rfl [] [] [0, 1, 4, 5, 6] [2, 3, 7, 8, 9] [5, 6, 0, 1, 7, 8, 9, 2, 3, 4] (fun _ => (wX8_search cyI cyJ cyZ h h_text h_many h_ones h_others h_kinds h_firsts h_persons h_gone h_at h_fines h_undos h_seenOf h_seenOpen h_path h_told h_counts h_spots h_far h_row h_begins h_ways h_next i_length i_keptMany i_undoMany i_seenMany i_pathMany i_place i_found i_walkers a_many a_ones a_others a_kinds a_counts_11 a_spots_13 a_far a_row a_begins)) (mX8_code l dC dI cyI cyJ cyZ h h_text h_many h_ones h_others h_kinds h_firsts h_persons h_gone h_at h_fines h_undos h_seenOf h_seenOpen h_path h_told h_counts h_spots h_far h_row h_begins h_ways h_next _ i_length i_keptMany i_undoMany i_seenMany i_pathMany i_place i_found i_walkers a_many a_kinds a_counts_11 a_spots_13 _ hw) (cwV 0 hts gX8_search_X8_code rfl rfl rfl (by decide +kernel) ⟨Nat.le_of_ble_eq_true rfl, Nat.le_of_ble_eq_true rfl⟩) rfl rfl rfl rfl (by decide) rfl (fun _ => rfl) rfl hl.1 rfl (Nat.le_of_ble_eq_true rfl) (Nat.le_of_ble_eq_true rfl) (Nat.le_of_ble_eq_true rfl) dX8_search_176 (fun r_14 u H locs hw hW => ?_)
              refine lv_istore (lv' := [(7, .int r_14), (6, .int x6_4), (5, .int x5_3), (0, .ref h), (1, .int x1), (2, .int x2), (3, .int x3), (4, .int x4)]) hx hb dX8_search_179 hl (by decide) rfl (fun ls hl => ?_)
              refine lv_aload_n hx hb dX8_search_181 rfl (lv_at hl 3 rfl) ?_
              refine zw_get (ci := 8) (C := RX8) (T := TX8) (N := 30) (v := .ref h_far) hx hb hts hiX8 hown hK hW 0 rfl rfl 23 (by decide) rfl k_3 dX8_search_182 ?_
              refine lv_iload hx hb dX8_search_185 (lv_at hl 0 rfl) ?_
              refine zw_iald hx hb hK hW 7 rfl rfl hw.1 dX8_search_187 ?_
              replace hw := hw.2
              refine lv_if_ge (tgt := 255) hx hb dX8_search_188 (by decide) (fun c_15 => ?_) (fun c_15 => ?_)
              · replace hw := hw.1 c_15
                obtain ⟨x4_16, ex4_16⟩ : ∃ y : Int32, y = x4 + 1 := ⟨_, rfl⟩
                replace hw := hw x4_16 ex4_16
                refine lv_iinc (v := x4_16) (lv' := [(4, .int x4_16), (7, .int r_14), (6, .int x6_4), (5, .int x5_3), (0, .ref h), (1, .int x1), (2, .int x2), (3, .int x3)]) hx hb dX8_search_255 hl (k := 7) rfl (by rw [ex4_16]; rfl) (by decide) rfl (fun ls hl => ?_)
                refine lv_goto (tgt := 88) hx hb dX8_search_258 (by decide) ?_
                exact ih_88 x4_16 i_found a_counts_11 a_spots_13 a_far a_row a_begins _ _ _ hW (lv_sub hl [4, 5, 6, 7, 0] rfl) hw
              · replace hw := hw.2 c_15
                refine lv_aload_n hx hb dX8_search_191 rfl (lv_at hl 3 rfl) ?_
                refine zw_get (ci := 8) (C := RX8) (T := TX8) (N := 30) (v := .ref h_far) hx hb hts hiX8 hown hK hW 0 rfl rfl 23 (by decide) rfl k_3 dX8_search_192 ?_
                refine lv_iload hx hb dX8_search_195 (lv_at hl 0 rfl) ?_
                refine lv_aload_n hx hb dX8_search_197 rfl (lv_at hl 3 rfl) ?_
                refine zw_get (ci := 8) (C := RX8) (T := TX8) (N := 30) (v := .ref h_far) hx hb hts hiX8 hown hK hW 0 rfl rfl 23 (by decide) rfl k_3 dX8_search_198 ?_
                refine lv_iload_n hx hb dX8_search_201 rfl (lv_at hl 6 rfl) ?_
                refine zw_iald hx hb hK hW 7 rfl rfl hw.1 dX8_search_202 ?_
                replace hw := hw.2
                refine lv_iconst (v := 1) hx hb dX8_search_203 (by decide) ?_
                refine lv_iadd hx hb dX8_search_204 ?_
                refine lv_topi (fun t_17 et_17 => ?_)
                replace hw := hw t_17 et_17
                refine zw_iast hx hb hK hW 7 rfl rfl hw.1 (w2 := fun a_far_18 => (wX8_search cyI cyJ cyZ h h_text h_many h_ones h_others h_kinds h_firsts h_persons h_gone h_at h_fines h_undos h_seenOf h_seenOpen h_path h_told h_counts h_spots h_far h_row h_begins h_ways h_next i_length i_keptMany i_undoMany i_seenMany i_pathMany i_place i_found i_walkers a_many a_ones a_others a_kinds a_counts_11 a_spots_13 a_far_18 a_row a_begins)) (fun _ => rfl) dX8_search_205 (fun a_far_18 H locs ea_far_18 hW => ?_)
                replace hw := hw.2 a_far_18 ea_far_18
                refine lv_aload_n hx hb dX8_search_206 rfl (lv_at hl 3 rfl) ?_
                refine zw_get (ci := 8) (C := RX8) (T := TX8) (N := 30) (v := .ref h_begins) hx hb hts hiX8 hown hK hW 0 rfl rfl 25 (by decide) rfl k_4 dX8_search_207 ?_
                refine lv_iload hx hb dX8_search_210 (lv_at hl 0 rfl) ?_
                refine lv_iload_n hx hb dX8_search_212 rfl (lv_at hl 5 rfl) ?_
                refine lv_if_ne (tgt := 227) hx hb dX8_search_213 (by decide) (fun c_19 => ?_) (fun c_19 => ?_)
                · replace hw := hw.2 c_19
                  refine lv_aload_n hx hb dX8_search_227 rfl (lv_at hl 3 rfl) ?_
                  refine zw_get (ci := 8) (C := RX8) (T := TX8) (N := 30) (v := .ref h_begins) hx hb hts hiX8 hown hK hW 0 rfl rfl 25 (by decide) rfl k_4 dX8_search_228 ?_
                  refine lv_iload_n hx hb dX8_search_231 rfl (lv_at hl 6 rfl) ?_
                  refine zw_iald hx hb hK hW 9 rfl rfl hw.1 dX8_search_232 ?_
                  replace hw := hw.2
                  refine lv_topi (fun t_20 et_20 => ?_)
                  replace hw := hw t_20 et_20
                  refine zw_iast hx hb hK hW 9 rfl rfl hw.1 (w2 := fun a_begins_21 => (wX8_search cyI cyJ cyZ h h_text h_many h_ones h_others h_kinds h_firsts h_persons h_gone h_at h_fines h_undos h_seenOf h_seenOpen h_path h_told h_counts h_spots h_far h_row h_begins h_ways h_next i_length i_keptMany i_undoMany i_seenMany i_pathMany i_place i_found i_walkers a_many a_ones a_others a_kinds a_counts_11 a_spots_13 a_far_18 a_row a_begins_21)) (fun _ => rfl) dX8_search_233 (fun a_begins_21 H locs ea_begins_21 hW => ?_)
                  replace hw := hw.2 a_begins_21 ea_begins_21
                  refine lv_aload_n hx hb dX8_search_234 rfl (lv_at hl 3 rfl) ?_
                  refine zw_get (ci := 8) (C := RX8) (T := TX8) (N := 30) (v := .ref h_row) hx hb hts hiX8 hown hK hW 0 rfl rfl 24 (by decide) rfl k_5 dX8_search_235 ?_
                  refine lv_aload_n hx hb dX8_search_238 rfl (lv_at hl 3 rfl) ?_
                  refine zw_get (ci := 8) (C := RX8) (T := TX8) (N := 30) (v := .int i_found) hx hb hts hiX8 hown hK hW 0 rfl rfl 26 (by decide) rfl k_6 dX8_search_239 ?_
                  refine lv_iload hx hb dX8_search_242 (lv_at hl 0 rfl) ?_
                  refine zw_iast hx hb hK hW 8 rfl rfl hw.1 (w2 := fun a_row_22 => (wX8_search cyI cyJ cyZ h h_text h_many h_ones h_others h_kinds h_firsts h_persons h_gone h_at h_fines h_undos h_seenOf h_seenOpen h_path h_told h_counts h_spots h_far h_row h_begins h_ways h_next i_length i_keptMany i_undoMany i_seenMany i_pathMany i_place i_found i_walkers a_many a_ones a_others a_kinds a_counts_11 a_spots_13 a_far_18 a_row_22 a_begins_21)) (fun _ => rfl) dX8_search_244 (fun a_row_22 H locs ea_row_22 hW => ?_)
                  replace hw := hw.2 a_row_22 ea_row_22
                  refine lv_aload_n hx hb dX8_search_245 rfl (lv_at hl 3 rfl) ?_
                  refine lv_dup hx hb dX8_search_246 rfl ?_
                  refine zw_get (ci := 8) (C := RX8) (T := TX8) (N := 30) (v := .int i_found) hx hb hts hiX8 hown hK hW 0 rfl rfl 26 (by decide) rfl k_6 dX8_search_247 ?_
                  refine lv_iconst (v := 1) hx hb dX8_search_250 (by decide) ?_
                  refine lv_iadd hx hb dX8_search_251 ?_
                  refine lv_topi (fun i_23 ei_23 => ?_)
                  replace hw := hw i_23 ei_23
                  refine zw_put (ci := 8) (C := RX8) (T := TX8) (N := 30) (w2 := (wX8_search cyI cyJ cyZ h h_text h_many h_ones h_others h_kinds h_firsts h_persons h_gone h_at h_fines h_undos h_seenOf h_seenOpen h_path h_told h_counts h_spots h_far h_row h_begins h_ways h_next i_length i_keptMany i_undoMany i_seenMany i_pathMany i_place i_23 i_walkers a_many a_ones a_others a_kinds a_counts_11 a_spots_13 a_far_18 a_row_22 a_begins_21)) hx hb hts hiX8 tyX8 tyX8_ok nmX8 hown hK hW 0 rfl rfl 26 (by decide) (by decide +kernel) rfl (Nat.le_of_ble_eq_true rfl) rfl k_6 dX8_search_252 (fun H locs hW => ?_)
                  obtain ⟨x4_24, ex4_24⟩ : ∃ y : Int32, y = x4 + 1 := ⟨_, rfl⟩
                  replace hw := hw x4_24 ex4_24
                  refine lv_iinc (v := x4_24) (lv' := [(4, .int x4_24), (7, .int r_14), (6, .int x6_4), (5, .int x5_3), (0, .ref h), (1, .int x1), (2, .int x2), (3, .int x3)]) hx hb dX8_search_255 hl (k := 7) rfl (by rw [ex4_24]; rfl) (by decide) rfl (fun ls hl => ?_)
                  refine lv_goto (tgt := 88) hx hb dX8_search_258 (by decide) ?_
                  exact ih_88 x4_24 i_23 a_counts_11 a_spots_13 a_far_18 a_row_22 a_begins_21 _ _ _ hW (lv_sub hl [4, 5, 6, 7, 0] rfl) hw
                · replace hw := hw.1 c_19
                  refine lv_bipush (v := 10) hx hb dX8_search_216 (by decide) ?_
                  refine lv_iload hx hb dX8_search_218 (lv_at hl 2 rfl) ?_
                  refine lv_imul hx hb dX8_search_220 ?_
                  refine lv_iload hx hb dX8_search_221 (lv_at hl 1 rfl) ?_
                  refine lv_iadd hx hb dX8_search_223 ?_
                  refine lv_goto (tgt := 233) hx hb dX8_search_224 (by decide) ?_
                  refine lv_topi (fun t_25 et_25 => ?_)
                  replace hw := hw t_25 et_25
                  refine zw_iast hx hb hK hW 9 rfl rfl hw.1 (w2 := fun a_begins_26 => (wX8_search cyI cyJ cyZ h h_text h_many h_ones h_others h_kinds h_firsts h_persons h_gone h_at h_fines h_undos h_seenOf h_seenOpen h_path h_told h_counts h_spots h_far h_row h_begins h_ways h_next i_length i_keptMany i_undoMany i_seenMany i_pathMany i_place i_found i_walkers a_many a_ones a_others a_kinds a_counts_11 a_spots_13 a_far_18 a_row a_begins_26)) (fun _ => rfl) dX8_search_233 (fun a_begins_26 H locs ea_begins_26 hW => ?_)
                  replace hw := hw.2 a_begins_26 ea_begins_26
                  refine lv_aload_n hx hb dX8_search_234 rfl (lv_at hl 3 rfl) ?_
                  refine zw_get (ci := 8) (C := RX8) (T := TX8) (N := 30) (v := .ref h_row) hx hb hts hiX8 hown hK hW 0 rfl rfl 24 (by decide) rfl k_5 dX8_search_235 ?_
                  refine lv_aload_n hx hb dX8_search_238 rfl (lv_at hl 3 rfl) ?_
                  refine zw_get (ci := 8) (C := RX8) (T := TX8) (N := 30) (v := .int i_found) hx hb hts hiX8 hown hK hW 0 rfl rfl 26 (by decide) rfl k_6 dX8_search_239 ?_
                  refine lv_iload hx hb dX8_search_242 (lv_at hl 0 rfl) ?_
                  refine zw_iast hx hb hK hW 8 rfl rfl hw.1 (w2 := fun a_row_27 => (wX8_search cyI cyJ cyZ h h_text h_many h_ones h_others h_kinds h_firsts h_persons h_gone h_at h_fines h_undos h_seenOf h_seenOpen h_path h_told h_counts h_spots h_far h_row h_begins h_ways h_next i_length i_keptMany i_undoMany i_seenMany i_pathMany i_place i_found i_walkers a_many a_ones a_others a_kinds a_counts_11 a_spots_13 a_far_18 a_row_27 a_begins_26)) (fun _ => rfl) dX8_search_244 (fun a_row_27 H locs ea_row_27 hW => ?_)
                  replace hw := hw.2 a_row_27 ea_row_27
                  refine lv_aload_n hx hb dX8_search_245 rfl (lv_at hl 3 rfl) ?_
                  refine lv_dup hx hb dX8_search_246 rfl ?_
                  refine zw_get (ci := 8) (C := RX8) (T := TX8) (N := 30) (v := .int i_found) hx hb hts hiX8 hown hK hW 0 rfl rfl 26 (by decide) rfl k_6 dX8_search_247 ?_
                  refine lv_iconst (v := 1) hx hb dX8_search_250 (by decide) ?_
                  refine lv_iadd hx hb dX8_search_251 ?_
                  refine lv_topi (fun i_28 ei_28 => ?_)
                  replace hw := hw i_28 ei_28
                  refine zw_put (ci := 8) (C := RX8) (T := TX8) (N := 30) (w2 := (wX8_search cyI cyJ cyZ h h_text h_many h_ones h_others h_kinds h_firsts h_persons h_gone h_at h_fines h_undos h_seenOf h_seenOpen h_path h_told h_counts h_spots h_far h_row h_begins h_ways h_next i_length i_keptMany i_undoMany i_seenMany i_pathMany i_place i_28 i_walkers a_many a_ones a_others a_kinds a_counts_11 a_spots_13 a_far_18 a_row_27 a_begins_26)) hx hb hts hiX8 tyX8 tyX8_ok nmX8 hown hK hW 0 rfl rfl 26 (by decide) (by decide +kernel) rfl (Nat.le_of_ble_eq_true rfl) rfl k_6 dX8_search_252 (fun H locs hW => ?_)
                  obtain ⟨x4_29, ex4_29⟩ : ∃ y : Int32, y = x4 + 1 := ⟨_, rfl⟩
                  replace hw := hw x4_29 ex4_29
                  refine lv_iinc (v := x4_29) (lv' := [(4, .int x4_29), (7, .int r_14), (6, .int x6_4), (5, .int x5_3), (0, .ref h), (1, .int x1), (2, .int x2), (3, .int x3)]) hx hb dX8_search_255 hl (k := 7) rfl (by rw [ex4_29]; rfl) (by decide) rfl (fun ls hl => ?_)
                  refine lv_goto (tgt := 88) hx hb dX8_search_258 (by decide) ?_
                  exact ih_88 x4_29 i_28 a_counts_11 a_spots_13 a_far_18 a_row_27 a_begins_26 _ _ _ hW (lv_sub hl [4, 5, 6, 7, 0] rfl) hw
      intro x2 i_found a_counts a_spots a_far a_row a_begins H locs ls hW hl hw
      refine lv_iload_n hx hb dX8_search_70 rfl (lv_at hl 2 rfl) ?_
      refine lv_aload_n hx hb dX8_search_71 rfl (lv_at hl 0 rfl) ?_
      refine zw_get (ci := 8) (C := RX8) (T := TX8) (N := 30) (v := .int i_found) hx hb hts hiX8 hown hK hW 0 rfl rfl 26 (by decide) rfl k_6 dX8_search_72 ?_
      refine lv_icmp_ge (tgt := 267) hx hb dX8_search_75 (by decide) (fun c_30 => ?_) (fun c_30 => ?_)
      · replace hw := hw.1 c_30
        refine zw_vret (S := Int32 × Int32 × (Nat → Int32) × (Nat → Int32) × (Nat → Int32) × (Nat → Int32) × (Nat → Int32)) (post := fun u => post u.1 u.2.1 u.2.2.1 u.2.2.2.1 u.2.2.2.2.1 u.2.2.2.2.2.1 u.2.2.2.2.2.2) (i_found, i_walkers, a_counts, a_spots, a_far, a_row, a_begins) hx hb hr hlocks hK hW hw ?_ dX8_search_267
        rfl
      · replace hw := hw.2 c_30
        refine lv_aload_n hx hb dX8_search_78 rfl (lv_at hl 0 rfl) ?_
        refine zw_get (ci := 8) (C := RX8) (T := TX8) (N := 30) (v := .ref h_row) hx hb hts hiX8 hown hK hW 0 rfl rfl 24 (by decide) rfl k_5 dX8_search_79 ?_
        refine lv_iload_n hx hb dX8_search_82 rfl (lv_at hl 2 rfl) ?_
        refine zw_iald hx hb hK hW 8 rfl rfl hw.1 dX8_search_83 ?_
        replace hw := hw.2
        refine lv_topi (fun x3_31 ex3_31 => ?_)
        replace hw := hw x3_31 ex3_31
        refine lv_istore_n (lv' := [(3, .int x3_31), (0, .ref h), (1, .int x1), (2, .int x2)]) hx hb dX8_search_84 rfl hl (by decide) rfl (fun ls hl => ?_)
        refine lv_iconst (v := 0) hx hb dX8_search_85 (by decide) ?_
        refine lv_istore (lv' := [(4, .int 0), (3, .int x3_31), (0, .ref h), (1, .int x1), (2, .int x2)]) hx hb dX8_search_86 hl (by decide) rfl (fun ls hl => ?_)
        obtain ⟨n_88, hw⟩ := hw
        exact W_88 x2 x3_31 n_88 0 i_found a_counts a_spots a_far a_row a_begins _ _ _ hW (lv_sub hl [2, 3, 4, 1, 0] rfl) hw
  have W_7 : ∀ (i_found : Int32) (i_walkers : Int32) (a_counts : Nat → Int32) (a_spots : Nat → Int32) (a_row : Nat → Int32) (a_begins : Nat → Int32) (n_7 : Nat) (x2 : Int32) (a_far : Nat → Int32) (H : Heap) (locs : List Loc) (ls : Array Slot), Wd (dC, dI) A s.heap (wX8_search cyI cyJ cyZ h h_text h_many h_ones h_others h_kinds h_firsts h_persons h_gone h_at h_fines h_undos h_seenOf h_seenOpen h_path h_told h_counts h_spots h_far h_row h_begins h_ways h_next i_length i_keptMany i_undoMany i_seenMany i_pathMany i_place i_found i_walkers a_many a_ones a_others a_kinds a_counts a_spots a_far a_row a_begins) H locs → lv_has ls 8 [(0, .ref h), (1, .int x1), (2, .int x2)] → PX8_search_7 post x1 a_many a_ones a_others a_kinds i_found i_walkers a_counts a_spots a_row a_begins n_7 x2 a_far → W p l e (({ frames := 2, cells := 0, slots := 0, locals := 46 } : Room)) s m (([.ref h, .int x1] : List Value).toArray) below meth c H locs 0 0 (MQ below (qX8_search dC dI cyI cyJ cyZ h h_text h_many h_ones h_others h_kinds h_firsts h_persons h_gone h_at h_fines h_undos h_seenOf h_seenOpen h_path h_told h_counts h_spots h_far h_row h_begins h_ways h_next i_length i_keptMany i_undoMany i_seenMany i_pathMany i_place i_found i_walkers a_many a_ones a_others a_kinds a_counts a_spots a_far a_row a_begins post A) (([.ref h, .int x1] : List Value).toArray) s 0 0 A) (F0 m 7 ls []) := by
    intro i_found i_walkers a_counts a_spots a_row a_begins n_7
    induction n_7 with
    | zero =>
      intro x2 a_far H locs ls hW hl hw
      exact False.elim hw
    | succ n_7 ih_7 =>
      intro x2 a_far H locs ls hW hl hw
      refine lv_iload_n hx hb dX8_search_7 rfl (lv_at hl 2 rfl) ?_
      refine lv_sipush (v := 30400) hx hb dX8_search_8 (by decide) ?_
      refine lv_icmp_ge (tgt := 28) hx hb dX8_search_11 (by decide) (fun c_32 => ?_) (fun c_32 => ?_)
      · replace hw := hw.1 c_32
        refine lv_aload_n hx hb dX8_search_28 rfl (lv_at hl 0 rfl) ?_
        refine zw_get (ci := 8) (C := RX8) (T := TX8) (N := 30) (v := .ref h_row) hx hb hts hiX8 hown hK hW 0 rfl rfl 24 (by decide) rfl k_5 dX8_search_29 ?_
        refine lv_iconst (v := 0) hx hb dX8_search_32 (by decide) ?_
        refine lv_aload_n hx hb dX8_search_33 rfl (lv_at hl 0 rfl) ?_
        refine zw_Vi ⟨hx, hb, hml, hown, hts⟩ hK hN hA hW 0 rfl (T := TX8) (N := 30) rfl [] [.int 0, .ref h_row] [0, 1, 4, 5, 6] [2, 3, 7, 8, 9] [5, 6, 0, 1, 7, 8, 9, 2, 3, 4] (fun _ => (wX8_search cyI cyJ cyZ h h_text h_many h_ones h_others h_kinds h_firsts h_persons h_gone h_at h_fines h_undos h_seenOf h_seenOpen h_path h_told h_counts h_spots h_far h_row h_begins h_ways h_next i_length i_keptMany i_undoMany i_seenMany i_pathMany i_place i_found i_walkers a_many a_ones a_others a_kinds a_counts a_spots a_far a_row a_begins)) (mX8_code l dC dI cyI cyJ cyZ h h_text h_many h_ones h_others h_kinds h_firsts h_persons h_gone h_at h_fines h_undos h_seenOf h_seenOpen h_path h_told h_counts h_spots h_far h_row h_begins h_ways h_next _ i_length i_keptMany i_undoMany i_seenMany i_pathMany i_place i_found i_walkers a_many a_kinds a_counts a_spots _ hw) (cwV 0 hts gX8_search_X8_code rfl rfl rfl (by decide +kernel) ⟨Nat.le_of_ble_eq_true rfl, Nat.le_of_ble_eq_true rfl⟩) rfl rfl rfl rfl (by decide) rfl (fun _ => rfl) rfl hl.1 rfl (Nat.le_of_ble_eq_true rfl) (Nat.le_of_ble_eq_true rfl) (Nat.le_of_ble_eq_true rfl) dX8_search_34 (fun r_33 u H locs hw hW => ?_)
        refine zw_iast hx hb hK hW 8 rfl rfl hw.1 (w2 := fun a_row_34 => (wX8_search cyI cyJ cyZ h h_text h_many h_ones h_others h_kinds h_firsts h_persons h_gone h_at h_fines h_undos h_seenOf h_seenOpen h_path h_told h_counts h_spots h_far h_row h_begins h_ways h_next i_length i_keptMany i_undoMany i_seenMany i_pathMany i_place i_found i_walkers a_many a_ones a_others a_kinds a_counts a_spots a_far a_row_34 a_begins)) (fun _ => rfl) dX8_search_37 (fun a_row_34 H locs ea_row_34 hW => ?_)
        replace hw := hw.2 a_row_34 ea_row_34
        refine lv_aload_n hx hb dX8_search_38 rfl (lv_at hl 0 rfl) ?_
        refine zw_get (ci := 8) (C := RX8) (T := TX8) (N := 30) (v := .ref h_far) hx hb hts hiX8 hown hK hW 0 rfl rfl 23 (by decide) rfl k_3 dX8_search_39 ?_
        refine lv_aload_n hx hb dX8_search_42 rfl (lv_at hl 0 rfl) ?_
        refine zw_get (ci := 8) (C := RX8) (T := TX8) (N := 30) (v := .ref h_row) hx hb hts hiX8 hown hK hW 0 rfl rfl 24 (by decide) rfl k_5 dX8_search_43 ?_
        refine lv_iconst (v := 0) hx hb dX8_search_46 (by decide) ?_
        refine zw_iald hx hb hK hW 8 rfl rfl hw.1 dX8_search_47 ?_
        replace hw := hw.2
        refine lv_iconst (v := 0) hx hb dX8_search_48 (by decide) ?_
        refine zw_iast hx hb hK hW 7 rfl rfl hw.1 (w2 := fun a_far_35 => (wX8_search cyI cyJ cyZ h h_text h_many h_ones h_others h_kinds h_firsts h_persons h_gone h_at h_fines h_undos h_seenOf h_seenOpen h_path h_told h_counts h_spots h_far h_row h_begins h_ways h_next i_length i_keptMany i_undoMany i_seenMany i_pathMany i_place i_found i_walkers a_many a_ones a_others a_kinds a_counts a_spots a_far_35 a_row_34 a_begins)) (fun _ => rfl) dX8_search_49 (fun a_far_35 H locs ea_far_35 hW => ?_)
        replace hw := hw.2 a_far_35 ea_far_35
        refine lv_aload_n hx hb dX8_search_50 rfl (lv_at hl 0 rfl) ?_
        refine zw_get (ci := 8) (C := RX8) (T := TX8) (N := 30) (v := .ref h_begins) hx hb hts hiX8 hown hK hW 0 rfl rfl 25 (by decide) rfl k_4 dX8_search_51 ?_
        refine lv_aload_n hx hb dX8_search_54 rfl (lv_at hl 0 rfl) ?_
        refine zw_get (ci := 8) (C := RX8) (T := TX8) (N := 30) (v := .ref h_row) hx hb hts hiX8 hown hK hW 0 rfl rfl 24 (by decide) rfl k_5 dX8_search_55 ?_
        refine lv_iconst (v := 0) hx hb dX8_search_58 (by decide) ?_
        refine zw_iald hx hb hK hW 8 rfl rfl hw.1 dX8_search_59 ?_
        replace hw := hw.2
        refine lv_bipush (v := (-4)) hx hb dX8_search_60 (by decide) ?_
        refine zw_iast hx hb hK hW 9 rfl rfl hw.1 (w2 := fun a_begins_36 => (wX8_search cyI cyJ cyZ h h_text h_many h_ones h_others h_kinds h_firsts h_persons h_gone h_at h_fines h_undos h_seenOf h_seenOpen h_path h_told h_counts h_spots h_far h_row h_begins h_ways h_next i_length i_keptMany i_undoMany i_seenMany i_pathMany i_place i_found i_walkers a_many a_ones a_others a_kinds a_counts a_spots a_far_35 a_row_34 a_begins_36)) (fun _ => rfl) dX8_search_62 (fun a_begins_36 H locs ea_begins_36 hW => ?_)
        replace hw := hw.2 a_begins_36 ea_begins_36
        refine lv_aload_n hx hb dX8_search_63 rfl (lv_at hl 0 rfl) ?_
        refine lv_iconst (v := 1) hx hb dX8_search_64 (by decide) ?_
        refine zw_put (ci := 8) (C := RX8) (T := TX8) (N := 30) (w2 := (wX8_search cyI cyJ cyZ h h_text h_many h_ones h_others h_kinds h_firsts h_persons h_gone h_at h_fines h_undos h_seenOf h_seenOpen h_path h_told h_counts h_spots h_far h_row h_begins h_ways h_next i_length i_keptMany i_undoMany i_seenMany i_pathMany i_place 1 i_walkers a_many a_ones a_others a_kinds a_counts a_spots a_far_35 a_row_34 a_begins_36)) hx hb hts hiX8 tyX8 tyX8_ok nmX8 hown hK hW 0 rfl rfl 26 (by decide) (by decide +kernel) rfl (Nat.le_of_ble_eq_true rfl) rfl k_6 dX8_search_65 (fun H locs hW => ?_)
        refine lv_iconst (v := 0) hx hb dX8_search_68 (by decide) ?_
        refine lv_istore_n (lv' := [(2, .int 0), (0, .ref h), (1, .int x1)]) hx hb dX8_search_69 rfl hl (by decide) rfl (fun ls hl => ?_)
        obtain ⟨n_70, hw⟩ := hw
        exact W_70 i_walkers n_70 0 1 a_counts a_spots a_far_35 a_row_34 a_begins_36 _ _ _ hW (lv_sub hl [1, 2, 0] rfl) hw
      · replace hw := hw.2 c_32
        refine lv_aload_n hx hb dX8_search_14 rfl (lv_at hl 0 rfl) ?_
        refine zw_get (ci := 8) (C := RX8) (T := TX8) (N := 30) (v := .ref h_far) hx hb hts hiX8 hown hK hW 0 rfl rfl 23 (by decide) rfl k_3 dX8_search_15 ?_
        refine lv_iload_n hx hb dX8_search_18 rfl (lv_at hl 2 rfl) ?_
        refine lv_bipush (v := (-4)) hx hb dX8_search_19 (by decide) ?_
        refine zw_iast hx hb hK hW 7 rfl rfl hw.1 (w2 := fun a_far_37 => (wX8_search cyI cyJ cyZ h h_text h_many h_ones h_others h_kinds h_firsts h_persons h_gone h_at h_fines h_undos h_seenOf h_seenOpen h_path h_told h_counts h_spots h_far h_row h_begins h_ways h_next i_length i_keptMany i_undoMany i_seenMany i_pathMany i_place i_found i_walkers a_many a_ones a_others a_kinds a_counts a_spots a_far_37 a_row a_begins)) (fun _ => rfl) dX8_search_21 (fun a_far_37 H locs ea_far_37 hW => ?_)
        replace hw := hw.2 a_far_37 ea_far_37
        obtain ⟨x2_38, ex2_38⟩ : ∃ y : Int32, y = x2 + 1 := ⟨_, rfl⟩
        replace hw := hw x2_38 ex2_38
        refine lv_iinc (v := x2_38) (lv' := [(2, .int x2_38), (0, .ref h), (1, .int x1)]) hx hb dX8_search_22 hl (k := 2) rfl (by rw [ex2_38]; rfl) (by decide) rfl (fun ls hl => ?_)
        refine lv_goto (tgt := 7) hx hb dX8_search_25 (by decide) ?_
        exact ih_7 x2_38 a_far_37 _ _ _ hW (lv_sub hl [1, 2, 0] rfl) hw
  have hl := lv_entry ([.ref h, .int x1]) (n := 8) (Nat.le_of_ble_eq_true rfl)
  rw [lg_entry_eq]
  generalize (lg_sl ([.ref h, .int x1]) ++ List.replicate (8 - (lg_sl ([.ref h, .int x1])).length) Slot.unset).toArray = ls at hl ⊢
  have hl : lv_has ls 8 [(0, .ref h), (1, .int x1)] := hl
  refine lv_aload_n hx hb dX8_search_0 rfl (lv_at hl 0 rfl) ?_
  refine lv_iload_n hx hb dX8_search_1 rfl (lv_at hl 1 rfl) ?_
  refine zw_put (ci := 8) (C := RX8) (T := TX8) (N := 30) (w2 := (wX8_search cyI cyJ cyZ h h_text h_many h_ones h_others h_kinds h_firsts h_persons h_gone h_at h_fines h_undos h_seenOf h_seenOpen h_path h_told h_counts h_spots h_far h_row h_begins h_ways h_next i_length i_keptMany i_undoMany i_seenMany i_pathMany i_place i_found x1 a_many a_ones a_others a_kinds a_counts a_spots a_far a_row a_begins)) hx hb hts hiX8 tyX8 tyX8_ok nmX8 hown hK hW 0 rfl rfl 27 (by decide) (by decide +kernel) rfl (Nat.le_of_ble_eq_true rfl) rfl k_7 dX8_search_2 (fun H locs hW => ?_)
  refine lv_iconst (v := 0) hx hb dX8_search_5 (by decide) ?_
  refine lv_istore_n (lv' := [(2, .int 0), (0, .ref h), (1, .int x1)]) hx hb dX8_search_6 rfl hl (by decide) rfl (fun ls hl => ?_)
  obtain ⟨n_7, hw⟩ := hw
  exact W_7 i_found x1 a_counts a_spots a_row a_begins n_7 0 a_far _ _ _ hW (lv_sub hl [1, 2, 0] rfl) hw
abbrev wX8_areThere (cyI cyJ cyZ : ClassId) (h h_text h_many h_ones h_others h_kinds h_firsts h_persons h_gone h_at h_fines h_undos h_seenOf h_seenOpen h_path h_told h_counts h_spots h_far h_row h_begins h_ways h_next : Nat) (i_length : Int32) (i_keptMany : Int32) (i_undoMany : Int32) (i_seenMany : Int32) (i_pathMany : Int32) (i_place : Int32) (i_found : Int32) (i_walkers : Int32) (a_spots : Nat → Int32) : va_W := [(h, .inr (8, [.int i_length, .ref h_text, .ref h_many, .ref h_ones, .ref h_others, .ref h_kinds, .ref h_firsts, .ref h_persons, .ref h_gone, .ref h_at, .ref h_fines, .int i_keptMany, .int i_undoMany, .ref h_undos, .int i_seenMany, .ref h_seenOf, .ref h_seenOpen, .int i_pathMany, .ref h_path, .int i_place, .ref h_told, .ref h_counts, .ref h_spots, .ref h_far, .ref h_row, .ref h_begins, .int i_found, .int i_walkers, .ref h_ways, .ref h_next])), (h_spots, .inl (cyI, 3, .inl a_spots))]
abbrev qX8_areThere (dC : Nat → ClassId) (dI : Nat → Nat → Nat) (cyI cyJ cyZ : ClassId) (h h_text h_many h_ones h_others h_kinds h_firsts h_persons h_gone h_at h_fines h_undos h_seenOf h_seenOpen h_path h_told h_counts h_spots h_far h_row h_begins h_ways h_next : Nat) (i_length : Int32) (i_keptMany : Int32) (i_undoMany : Int32) (i_seenMany : Int32) (i_pathMany : Int32) (i_place : Int32) (i_found : Int32) (i_walkers : Int32) (a_spots : Nat → Int32) (post : Int32 → Prop) (A : Nat → Prop) : Array Value → State → Outcome → State → Prop := (va_Qi (fun (r : Int32) (u : Unit) => (r = 0 ∨ r = 1) ∧ post r) (bW (dC, dI) (tyG cyI cyJ cyZ) A (fun _ : Unit => (wX8_areThere cyI cyJ cyZ h h_text h_many h_ones h_others h_kinds h_firsts h_persons h_gone h_at h_fines h_undos h_seenOf h_seenOpen h_path h_told h_counts h_spots h_far h_row h_begins h_ways h_next i_length i_keptMany i_undoMany i_seenMany i_pathMany i_place i_found i_walkers a_spots))) A)
set_option maxHeartbeats 4000000 in
set_option maxRecDepth 100000 in
theorem mX8_areThere (l : Launch) (dC : Nat → ClassId) (dI : Nat → Nat → Nat) (cyI cyJ cyZ : ClassId) (h h_text h_many h_ones h_others h_kinds h_firsts h_persons h_gone h_at h_fines h_undos h_seenOf h_seenOpen h_path h_told h_counts h_spots h_far h_row h_begins h_ways h_next : Nat) (sz : Nat) (i_length : Int32) (i_keptMany : Int32) (i_undoMany : Int32) (i_seenMany : Int32) (i_pathMany : Int32) (i_place : Int32) (i_found : Int32) (i_walkers : Int32) (a_spots : Nat → Int32) (x1 : Int32) (x2 : Int32) (post : Int32 → Prop) (hwp : PX8_areThere x1 x2 i_walkers a_spots post) : Met l yX8_areThere wsX8_areThere ({ frames := 0, cells := 0, slots := 0, locals := 0 } : Room) (va_Pc [.ref h, .int x1, .int x2] (pcW (dC, dI) sz (wX8_areThere cyI cyJ cyZ h h_text h_many h_ones h_others h_kinds h_firsts h_persons h_gone h_at h_fines h_undos h_seenOf h_seenOpen h_path h_told h_counts h_spots h_far h_row h_begins h_ways h_next i_length i_keptMany i_undoMany i_seenMany i_pathMany i_place i_found i_walkers a_spots) (tyG cyI cyJ cyZ))) (qX8_areThere dC dI cyI cyJ cyZ h h_text h_many h_ones h_others h_kinds h_firsts h_persons h_gone h_at h_fines h_undos h_seenOf h_seenOpen h_path h_told h_counts h_spots h_far h_row h_begins h_ways h_next i_length i_keptMany i_undoMany i_seenMany i_pathMany i_place i_found i_walkers a_spots post (va_A (wX8_areThere cyI cyJ cyZ h h_text h_many h_ones h_others h_kinds h_firsts h_persons h_gone h_at h_fines h_undos h_seenOf h_seenOpen h_path h_told h_counts h_spots h_far h_row h_begins h_ways h_next i_length i_keptMany i_undoMany i_seenMany i_pathMany i_place i_found i_walkers a_spots) sz)) 0 0 (va_A (wX8_areThere cyI cyJ cyZ h h_text h_many h_ones h_others h_kinds h_firsts h_persons h_gone h_at h_fines h_undos h_seenOf h_seenOpen h_path h_told h_counts h_spots h_far h_row h_begins h_ways h_next i_length i_keptMany i_undoMany i_seenMany i_pathMany i_place i_found i_walkers a_spots) sz) := by
  refine Met.ofW (cc := cX8_areThere) (maxL := 5) (ret := some .boolean) (by decide) rfl ?_
  intro p e s m args below meth c s₁ B hml hv
  obtain ⟨rfl, hsz, hP, hK, hD0, hN⟩ := hv
  have hx := B.exec
  have hb := B.bytes
  have hr := B.returns
  have hts := atoms_spec (ws := wsX8_areThere) B.pre
  have hown : s.vm.findClass RX8 = some m.cls := findClass_of_methodNamed B.named
  have hlocks := B.notSynchronized
  subst hsz
  have hD := hD0.self (sz := s.heap.size)
  generalize hAe : va_A (wX8_areThere cyI cyJ cyZ h h_text h_many h_ones h_others h_kinds h_firsts h_persons h_gone h_at h_fines h_undos h_seenOf h_seenOpen h_path h_told h_counts h_spots h_far h_row h_begins h_ways h_next i_length i_keptMany i_undoMany i_seenMany i_pathMany i_place i_found i_walkers a_spots) s.heap.size = A at hD ⊢
  have hA : ∀ q : Nat, s.heap.size ≤ q → A q := fun q h => by rw [← hAe]; exact Or.inr h
  have hW : Wd (dC, dI) A s.heap (wX8_areThere cyI cyJ cyZ h h_text h_many h_ones h_others h_kinds h_firsts h_persons h_gone h_at h_fines h_undos h_seenOf h_seenOpen h_path h_told h_counts h_spots h_far h_row h_begins h_ways h_next i_length i_keptMany i_undoMany i_seenMany i_pathMany i_place i_found i_walkers a_spots) s.heap [] := ⟨hP, hD, va_S.rf⟩
  have hw := hwp
  have hiX8 : ∀ w ∈ u_ws RX8 TX8 30, w ∈ wsX8_areThere := fun _ h => List.mem_cons_of_mem _ (List.mem_append_right _ h)
  have k_0 := hts (.fieldLink RX8 169 "OddLetsInModel" "walkers" "I") (List.mem_of_getElem? (i := 1) rfl)
  have k_1 := hts (.fieldLink RX8 58 "OddLetsInModel" "spots" "[I") (List.mem_of_getElem? (i := 2) rfl)
  have W_5 : ∀ (n_5 : Nat) (x3 : Int32) (x4 : Int32) (H : Heap) (locs : List Loc) (ls : Array Slot), Wd (dC, dI) A s.heap (wX8_areThere cyI cyJ cyZ h h_text h_many h_ones h_others h_kinds h_firsts h_persons h_gone h_at h_fines h_undos h_seenOf h_seenOpen h_path h_told h_counts h_spots h_far h_row h_begins h_ways h_next i_length i_keptMany i_undoMany i_seenMany i_pathMany i_place i_found i_walkers a_spots) H locs → lv_has ls 5 [(0, .ref h), (1, .int x1), (2, .int x2), (3, .int x3), (4, .int x4)] → PX8_areThere_5 post x1 x2 i_walkers a_spots n_5 x3 x4 → W p l e (({ frames := 0, cells := 0, slots := 0, locals := 0 } : Room)) s m (([.ref h, .int x1, .int x2] : List Value).toArray) below meth c H locs 0 0 (MQ below (qX8_areThere dC dI cyI cyJ cyZ h h_text h_many h_ones h_others h_kinds h_firsts h_persons h_gone h_at h_fines h_undos h_seenOf h_seenOpen h_path h_told h_counts h_spots h_far h_row h_begins h_ways h_next i_length i_keptMany i_undoMany i_seenMany i_pathMany i_place i_found i_walkers a_spots post A) (([.ref h, .int x1, .int x2] : List Value).toArray) s 0 0 A) (F0 m 5 ls []) := by
    intro n_5
    induction n_5 with
    | zero =>
      intro x3 x4 H locs ls hW hl hw
      exact False.elim hw
    | succ n_5 ih_5 =>
      intro x3 x4 H locs ls hW hl hw
      refine lv_iload hx hb dX8_areThere_5 (lv_at hl 4 rfl) ?_
      refine lv_aload_n hx hb dX8_areThere_7 rfl (lv_at hl 0 rfl) ?_
      refine zw_get (ci := 8) (C := RX8) (T := TX8) (N := 30) (v := .int i_walkers) hx hb hts hiX8 hown hK hW 0 rfl rfl 27 (by decide) rfl k_0 dX8_areThere_8 ?_
      refine lv_icmp_ge (tgt := 39) hx hb dX8_areThere_11 (by decide) (fun c_1 => ?_) (fun c_1 => ?_)
      · replace hw := hw.1 c_1
        refine lv_iload_n hx hb dX8_areThere_39 rfl (lv_at hl 2 rfl) ?_
        refine lv_if_eq (tgt := 59) hx hb dX8_areThere_40 (by decide) (fun c_2 => ?_) (fun c_2 => ?_)
        · replace hw := hw.1 c_2
          refine lv_iload_n hx hb dX8_areThere_59 rfl (lv_at hl 3 rfl) ?_
          refine lv_if_le (tgt := 67) hx hb dX8_areThere_60 (by decide) (fun c_3 => ?_) (fun c_3 => ?_)
          · replace hw := hw.1 c_3
            refine lv_iconst (v := 0) hx hb dX8_areThere_67 (by decide) ?_
            refine zw_zret (S := Unit) (post := fun r u => post r) () hx hb hr hlocks hK hW (Or.inl rfl) hw ?_ dX8_areThere_68
            rfl
          · replace hw := hw.2 c_3
            refine lv_iconst (v := 1) hx hb dX8_areThere_63 (by decide) ?_
            refine lv_goto (tgt := 68) hx hb dX8_areThere_64 (by decide) ?_
            refine zw_zret (S := Unit) (post := fun r u => post r) () hx hb hr hlocks hK hW (Or.inr rfl) hw ?_ dX8_areThere_68
            rfl
        · replace hw := hw.2 c_2
          refine lv_iload_n hx hb dX8_areThere_43 rfl (lv_at hl 3 rfl) ?_
          refine lv_aload_n hx hb dX8_areThere_44 rfl (lv_at hl 0 rfl) ?_
          refine zw_get (ci := 8) (C := RX8) (T := TX8) (N := 30) (v := .int i_walkers) hx hb hts hiX8 hown hK hW 0 rfl rfl 27 (by decide) rfl k_0 dX8_areThere_45 ?_
          refine lv_icmp_ne (tgt := 55) hx hb dX8_areThere_48 (by decide) (fun c_4 => ?_) (fun c_4 => ?_)
          · replace hw := hw.2 c_4
            refine lv_iconst (v := 0) hx hb dX8_areThere_55 (by decide) ?_
            refine lv_goto (tgt := 68) hx hb dX8_areThere_56 (by decide) ?_
            refine zw_zret (S := Unit) (post := fun r u => post r) () hx hb hr hlocks hK hW (Or.inl rfl) hw ?_ dX8_areThere_68
            rfl
          · replace hw := hw.1 c_4
            refine lv_iconst (v := 1) hx hb dX8_areThere_51 (by decide) ?_
            refine lv_goto (tgt := 68) hx hb dX8_areThere_52 (by decide) ?_
            refine zw_zret (S := Unit) (post := fun r u => post r) () hx hb hr hlocks hK hW (Or.inr rfl) hw ?_ dX8_areThere_68
            rfl
      · replace hw := hw.2 c_1
        refine lv_iload_n hx hb dX8_areThere_14 rfl (lv_at hl 3 rfl) ?_
        refine lv_aload_n hx hb dX8_areThere_15 rfl (lv_at hl 0 rfl) ?_
        refine zw_get (ci := 8) (C := RX8) (T := TX8) (N := 30) (v := .ref h_spots) hx hb hts hiX8 hown hK hW 0 rfl rfl 22 (by decide) rfl k_1 dX8_areThere_16 ?_
        refine lv_iload hx hb dX8_areThere_19 (lv_at hl 4 rfl) ?_
        refine zw_iald hx hb hK hW 1 rfl rfl hw.1 dX8_areThere_21 ?_
        replace hw := hw.2
        refine lv_iload_n hx hb dX8_areThere_22 rfl (lv_at hl 1 rfl) ?_
        refine lv_icmp_ne (tgt := 30) hx hb dX8_areThere_23 (by decide) (fun c_5 => ?_) (fun c_5 => ?_)
        · replace hw := hw.2 c_5
          refine lv_iconst (v := 0) hx hb dX8_areThere_30 (by decide) ?_
          refine lv_iadd hx hb dX8_areThere_31 ?_
          refine lv_topi (fun x3_6 ex3_6 => ?_)
          replace hw := hw x3_6 ex3_6
          refine lv_istore_n (lv' := [(3, .int x3_6), (0, .ref h), (1, .int x1), (2, .int x2), (4, .int x4)]) hx hb dX8_areThere_32 rfl hl (by decide) rfl (fun ls hl => ?_)
          obtain ⟨x4_7, ex4_7⟩ : ∃ y : Int32, y = x4 + 1 := ⟨_, rfl⟩
          replace hw := hw x4_7 ex4_7
          refine lv_iinc (v := x4_7) (lv' := [(4, .int x4_7), (3, .int x3_6), (0, .ref h), (1, .int x1), (2, .int x2)]) hx hb dX8_areThere_33 hl (k := 4) rfl (by rw [ex4_7]; rfl) (by decide) rfl (fun ls hl => ?_)
          refine lv_goto (tgt := 5) hx hb dX8_areThere_36 (by decide) ?_
          exact ih_5 x3_6 x4_7 _ _ _ hW (lv_sub hl [2, 3, 4, 1, 0] rfl) hw
        · replace hw := hw.1 c_5
          refine lv_iconst (v := 1) hx hb dX8_areThere_26 (by decide) ?_
          refine lv_goto (tgt := 31) hx hb dX8_areThere_27 (by decide) ?_
          refine lv_iadd hx hb dX8_areThere_31 ?_
          refine lv_topi (fun x3_8 ex3_8 => ?_)
          replace hw := hw x3_8 ex3_8
          refine lv_istore_n (lv' := [(3, .int x3_8), (0, .ref h), (1, .int x1), (2, .int x2), (4, .int x4)]) hx hb dX8_areThere_32 rfl hl (by decide) rfl (fun ls hl => ?_)
          obtain ⟨x4_9, ex4_9⟩ : ∃ y : Int32, y = x4 + 1 := ⟨_, rfl⟩
          replace hw := hw x4_9 ex4_9
          refine lv_iinc (v := x4_9) (lv' := [(4, .int x4_9), (3, .int x3_8), (0, .ref h), (1, .int x1), (2, .int x2)]) hx hb dX8_areThere_33 hl (k := 4) rfl (by rw [ex4_9]; rfl) (by decide) rfl (fun ls hl => ?_)
          refine lv_goto (tgt := 5) hx hb dX8_areThere_36 (by decide) ?_
          exact ih_5 x3_8 x4_9 _ _ _ hW (lv_sub hl [2, 3, 4, 1, 0] rfl) hw
  have hl := lv_entry ([.ref h, .int x1, .int x2]) (n := 5) (Nat.le_of_ble_eq_true rfl)
  rw [lg_entry_eq]
  generalize (lg_sl ([.ref h, .int x1, .int x2]) ++ List.replicate (5 - (lg_sl ([.ref h, .int x1, .int x2])).length) Slot.unset).toArray = ls at hl ⊢
  have hl : lv_has ls 5 [(0, .ref h), (1, .int x1), (2, .int x2)] := hl
  refine lv_iconst (v := 0) hx hb dX8_areThere_0 (by decide) ?_
  refine lv_istore_n (lv' := [(3, .int 0), (0, .ref h), (1, .int x1), (2, .int x2)]) hx hb dX8_areThere_1 rfl hl (by decide) rfl (fun ls hl => ?_)
  refine lv_iconst (v := 0) hx hb dX8_areThere_2 (by decide) ?_
  refine lv_istore (lv' := [(4, .int 0), (3, .int 0), (0, .ref h), (1, .int x1), (2, .int x2)]) hx hb dX8_areThere_3 hl (by decide) rfl (fun ls hl => ?_)
  obtain ⟨n_5, hw⟩ := hw
  exact W_5  n_5 0 0 _ _ _ hW (lv_sub hl [2, 3, 4, 1, 0] rfl) hw
abbrev wX8_isCourt (cyI cyJ cyZ : ClassId) : va_W := []
abbrev qX8_isCourt (dC : Nat → ClassId) (dI : Nat → Nat → Nat) (cyI cyJ cyZ : ClassId) (post : Int32 → Prop) (A : Nat → Prop) : Array Value → State → Outcome → State → Prop := (va_Qi (fun (r : Int32) (u : Unit) => (r = 0 ∨ r = 1) ∧ post r) (bW (dC, dI) (tyG cyI cyJ cyZ) A (fun _ : Unit => (wX8_isCourt cyI cyJ cyZ))) A)
set_option maxHeartbeats 4000000 in
set_option maxRecDepth 100000 in
theorem mX8_isCourt (l : Launch) (dC : Nat → ClassId) (dI : Nat → Nat → Nat) (cyI cyJ cyZ : ClassId) (sz : Nat) (x0 : Int32) (post : Int32 → Prop) (hwp : PX8_isCourt x0 post) : Met l yX8_isCourt wsX8_isCourt ({ frames := 1, cells := 0, slots := 0, locals := 25 } : Room) (va_Pc [.int x0] (pcW (dC, dI) sz (wX8_isCourt cyI cyJ cyZ) (tyG cyI cyJ cyZ))) (qX8_isCourt dC dI cyI cyJ cyZ post (va_A (wX8_isCourt cyI cyJ cyZ) sz)) 0 0 (va_A (wX8_isCourt cyI cyJ cyZ) sz) := by
  refine Met.ofW (cc := cX8_isCourt) (maxL := 1) (ret := some .boolean) (by decide) rfl ?_
  intro p e s m args below meth c s₁ B hml hv
  obtain ⟨rfl, hsz, hP, hK, hD0, hN⟩ := hv
  have hx := B.exec
  have hb := B.bytes
  have hr := B.returns
  have hts := atoms_spec (ws := wsX8_isCourt) B.pre
  have hown : s.vm.findClass RX8 = some m.cls := findClass_of_methodNamed B.named
  have hlocks := B.notSynchronized
  subst hsz
  have hD := hD0.self (sz := s.heap.size)
  generalize hAe : va_A (wX8_isCourt cyI cyJ cyZ) s.heap.size = A at hD ⊢
  have hA : ∀ q : Nat, s.heap.size ≤ q → A q := fun q h => by rw [← hAe]; exact Or.inr h
  have hW : Wd (dC, dI) A s.heap (wX8_isCourt cyI cyJ cyZ) s.heap [] := ⟨hP, hD, va_S.rf⟩
  have hw := hwp
  have k_0 := hts (.constantLong RX8 182 (4)) (List.mem_of_getElem? (i := 1) rfl)
  have hl := lv_entry ([.int x0]) (n := 1) (Nat.le_of_ble_eq_true rfl)
  rw [lg_entry_eq]
  generalize (lg_sl ([.int x0]) ++ List.replicate (1 - (lg_sl ([.int x0])).length) Slot.unset).toArray = ls at hl ⊢
  have hl : lv_has ls 1 [(0, .int x0)] := hl
  refine lv_iload_n hx hb dX8_isCourt_0 rfl (lv_at hl 0 rfl) ?_
  refine lv_i2l hx hb dX8_isCourt_1 rfl ?_
  refine lv_lconst (v := 0) hx hb dX8_isCourt_2 (by decide) ?_
  refine lv_ldc2 hx hb hown k_0 dX8_isCourt_3 ?_
  refine zw_Si ⟨hx, hb, hml, hown, hts⟩ hK hN hA hW [.long ((x0).toInt64), .long 0, .long 4] [] [] [] [] (fun _ => (wX8_isCourt cyI cyJ cyZ)) (mX8_in l dC dI cyI cyJ cyZ _ ((x0).toInt64) 0 4 _ hw) (va_cwS 3 hts gX8_isCourt_X8_in rfl rfl rfl (by decide +kernel) ⟨Nat.le_of_ble_eq_true rfl, Nat.le_of_ble_eq_true rfl⟩) rfl rfl rfl rfl (by decide) rfl (fun _ => rfl) rfl hl.1 rfl (Nat.le_of_ble_eq_true rfl) (Nat.le_of_ble_eq_true rfl) (Nat.le_of_ble_eq_true rfl) dX8_isCourt_6 (fun r_1 u H locs hw hW => ?_)
  obtain ⟨br_1, hw⟩ := hw
  refine zw_zret (S := Unit) (post := fun r u => post r) () hx hb hr hlocks hK hW br_1 hw ?_ dX8_isCourt_9
  rfl
abbrev wX8_way (cyI cyJ cyZ : ClassId) (h h_text h_many h_ones h_others h_kinds h_firsts h_persons h_gone h_at h_fines h_undos h_seenOf h_seenOpen h_path h_told h_counts h_spots h_far h_row h_begins h_ways h_next : Nat) (i_length : Int32) (i_keptMany : Int32) (i_undoMany : Int32) (i_seenMany : Int32) (i_pathMany : Int32) (i_place : Int32) (i_found : Int32) (i_walkers : Int32) (a_many : Nat → Int32) (a_ones : Nat → Int32) (a_others : Nat → Int32) (a_kinds : Nat → Int32) (a_persons : Nat → Int32) (a_gone : Nat → Int32) (a_at : Nat → Int32) (a_counts : Nat → Int32) (a_spots : Nat → Int32) (a_far : Nat → Int32) (a_row : Nat → Int32) (a_begins : Nat → Int32) : va_W := [(h, .inr (8, [.int i_length, .ref h_text, .ref h_many, .ref h_ones, .ref h_others, .ref h_kinds, .ref h_firsts, .ref h_persons, .ref h_gone, .ref h_at, .ref h_fines, .int i_keptMany, .int i_undoMany, .ref h_undos, .int i_seenMany, .ref h_seenOf, .ref h_seenOpen, .int i_pathMany, .ref h_path, .int i_place, .ref h_told, .ref h_counts, .ref h_spots, .ref h_far, .ref h_row, .ref h_begins, .int i_found, .int i_walkers, .ref h_ways, .ref h_next])), (h_many, .inl (cyI, 2, .inl a_many)), (h_ones, .inl (cyI, 10, .inl a_ones)), (h_others, .inl (cyI, 10, .inl a_others)), (h_kinds, .inl (cyI, 10, .inl a_kinds)), (h_persons, .inl (cyI, 2, .inl a_persons)), (h_gone, .inl (cyI, 15, .inl a_gone)), (h_at, .inl (cyI, 9, .inl a_at)), (h_counts, .inl (cyI, 5, .inl a_counts)), (h_spots, .inl (cyI, 3, .inl a_spots)), (h_far, .inl (cyI, 30400, .inl a_far)), (h_row, .inl (cyI, 30400, .inl a_row)), (h_begins, .inl (cyI, 30400, .inl a_begins))]
abbrev qX8_way (dC : Nat → ClassId) (dI : Nat → Nat → Nat) (cyI cyJ cyZ : ClassId) (h h_text h_many h_ones h_others h_kinds h_firsts h_persons h_gone h_at h_fines h_undos h_seenOf h_seenOpen h_path h_told h_counts h_spots h_far h_row h_begins h_ways h_next : Nat) (i_length : Int32) (i_keptMany : Int32) (i_undoMany : Int32) (i_seenMany : Int32) (i_pathMany : Int32) (i_place : Int32) (i_found : Int32) (i_walkers : Int32) (a_many : Nat → Int32) (a_ones : Nat → Int32) (a_others : Nat → Int32) (a_kinds : Nat → Int32) (a_persons : Nat → Int32) (a_gone : Nat → Int32) (a_at : Nat → Int32) (a_counts : Nat → Int32) (a_spots : Nat → Int32) (a_far : Nat → Int32) (a_row : Nat → Int32) (a_begins : Nat → Int32) (post : Int32 → Int32 → Int32 → (Nat → Int32) → (Nat → Int32) → (Nat → Int32) → (Nat → Int32) → (Nat → Int32) → Prop) (A : Nat → Prop) : Array Value → State → Outcome → State → Prop := (va_Qi (fun (r : Int32) (u : Int32 × Int32 × (Nat → Int32) × (Nat → Int32) × (Nat → Int32) × (Nat → Int32) × (Nat → Int32)) => post r u.1 u.2.1 u.2.2.1 u.2.2.2.1 u.2.2.2.2.1 u.2.2.2.2.2.1 u.2.2.2.2.2.2) (bW (dC, dI) (tyG cyI cyJ cyZ) A (fun u : Int32 × Int32 × (Nat → Int32) × (Nat → Int32) × (Nat → Int32) × (Nat → Int32) × (Nat → Int32) => (wX8_way cyI cyJ cyZ h h_text h_many h_ones h_others h_kinds h_firsts h_persons h_gone h_at h_fines h_undos h_seenOf h_seenOpen h_path h_told h_counts h_spots h_far h_row h_begins h_ways h_next i_length i_keptMany i_undoMany i_seenMany i_pathMany i_place (u.1) (u.2.1) a_many a_ones a_others a_kinds a_persons a_gone a_at (u.2.2.1) (u.2.2.2.1) (u.2.2.2.2.1) (u.2.2.2.2.2.1) (u.2.2.2.2.2.2)))) A)
set_option maxHeartbeats 4000000 in
set_option maxRecDepth 100000 in
theorem mX8_way (l : Launch) (dC : Nat → ClassId) (dI : Nat → Nat → Nat) (cyI cyJ cyZ : ClassId) (h h_text h_many h_ones h_others h_kinds h_firsts h_persons h_gone h_at h_fines h_undos h_seenOf h_seenOpen h_path h_told h_counts h_spots h_far h_row h_begins h_ways h_next : Nat) (sz : Nat) (i_length : Int32) (i_keptMany : Int32) (i_undoMany : Int32) (i_seenMany : Int32) (i_pathMany : Int32) (i_place : Int32) (i_found : Int32) (i_walkers : Int32) (a_many : Nat → Int32) (a_ones : Nat → Int32) (a_others : Nat → Int32) (a_kinds : Nat → Int32) (a_persons : Nat → Int32) (a_gone : Nat → Int32) (a_at : Nat → Int32) (a_counts : Nat → Int32) (a_spots : Nat → Int32) (a_far : Nat → Int32) (a_row : Nat → Int32) (a_begins : Nat → Int32) (x1 : Int32) (x2 : Int32) (x3 : Int32) (post : Int32 → Int32 → Int32 → (Nat → Int32) → (Nat → Int32) → (Nat → Int32) → (Nat → Int32) → (Nat → Int32) → Prop) (hwp : PX8_way x1 x2 x3 i_found i_walkers a_many a_ones a_others a_kinds a_persons a_gone a_at a_counts a_spots a_far a_row a_begins post) : Met l yX8_way wsX8_way ({ frames := 3, cells := 0, slots := 0, locals := 73 } : Room) (va_Pc [.ref h, .int x1, .int x2, .int x3] (pcW (dC, dI) sz (wX8_way cyI cyJ cyZ h h_text h_many h_ones h_others h_kinds h_firsts h_persons h_gone h_at h_fines h_undos h_seenOf h_seenOpen h_path h_told h_counts h_spots h_far h_row h_begins h_ways h_next i_length i_keptMany i_undoMany i_seenMany i_pathMany i_place i_found i_walkers a_many a_ones a_others a_kinds a_persons a_gone a_at a_counts a_spots a_far a_row a_begins) (tyG cyI cyJ cyZ))) (qX8_way dC dI cyI cyJ cyZ h h_text h_many h_ones h_others h_kinds h_firsts h_persons h_gone h_at h_fines h_undos h_seenOf h_seenOpen h_path h_told h_counts h_spots h_far h_row h_begins h_ways h_next i_length i_keptMany i_undoMany i_seenMany i_pathMany i_place i_found i_walkers a_many a_ones a_others a_kinds a_persons a_gone a_at a_counts a_spots a_far a_row a_begins post (va_A (wX8_way cyI cyJ cyZ h h_text h_many h_ones h_others h_kinds h_firsts h_persons h_gone h_at h_fines h_undos h_seenOf h_seenOpen h_path h_told h_counts h_spots h_far h_row h_begins h_ways h_next i_length i_keptMany i_undoMany i_seenMany i_pathMany i_place i_found i_walkers a_many a_ones a_others a_kinds a_persons a_gone a_at a_counts a_spots a_far a_row a_begins) sz)) 0 0 (va_A (wX8_way cyI cyJ cyZ h h_text h_many h_ones h_others h_kinds h_firsts h_persons h_gone h_at h_fines h_undos h_seenOf h_seenOpen h_path h_told h_counts h_spots h_far h_row h_begins h_ways h_next i_length i_keptMany i_undoMany i_seenMany i_pathMany i_place i_found i_walkers a_many a_ones a_others a_kinds a_persons a_gone a_at a_counts a_spots a_far a_row a_begins) sz) := by
  refine Met.ofW (cc := cX8_way) (maxL := 5) (ret := some .int) (by decide) rfl ?_
  intro p e s m args below meth c s₁ B hml hv
  obtain ⟨rfl, hsz, hP, hK, hD0, hN⟩ := hv
  have hx := B.exec
  have hb := B.bytes
  have hr := B.returns
  have hts := atoms_spec (ws := wsX8_way) B.pre
  have hown : s.vm.findClass RX8 = some m.cls := findClass_of_methodNamed B.named
  have hlocks := B.notSynchronized
  subst hsz
  have hD := hD0.self (sz := s.heap.size)
  generalize hAe : va_A (wX8_way cyI cyJ cyZ h h_text h_many h_ones h_others h_kinds h_firsts h_persons h_gone h_at h_fines h_undos h_seenOf h_seenOpen h_path h_told h_counts h_spots h_far h_row h_begins h_ways h_next i_length i_keptMany i_undoMany i_seenMany i_pathMany i_place i_found i_walkers a_many a_ones a_others a_kinds a_persons a_gone a_at a_counts a_spots a_far a_row a_begins) s.heap.size = A at hD ⊢
  have hA : ∀ q : Nat, s.heap.size ≤ q → A q := fun q h => by rw [← hAe]; exact Or.inr h
  have hW : Wd (dC, dI) A s.heap (wX8_way cyI cyJ cyZ h h_text h_many h_ones h_others h_kinds h_firsts h_persons h_gone h_at h_fines h_undos h_seenOf h_seenOpen h_path h_told h_counts h_spots h_far h_row h_begins h_ways h_next i_length i_keptMany i_undoMany i_seenMany i_pathMany i_place i_found i_walkers a_many a_ones a_others a_kinds a_persons a_gone a_at a_counts a_spots a_far a_row a_begins) s.heap [] := ⟨hP, hD, va_S.rf⟩
  have hw := hwp
  have hiX8 : ∀ w ∈ u_ws RX8 TX8 30, w ∈ wsX8_way := fun _ h => List.mem_cons_of_mem _ (List.mem_append_right _ h)
  have k_0 := hts (.fieldLink RX8 175 "OddLetsInModel" "found" "I") (List.mem_of_getElem? (i := 2) rfl)
  have k_1 := hts (.fieldLink RX8 64 "OddLetsInModel" "row" "[I") (List.mem_of_getElem? (i := 3) rfl)
  have k_2 := hts (.fieldLink RX8 67 "OddLetsInModel" "begins" "[I") (List.mem_of_getElem? (i := 5) rfl)
  have k_3 := hts (.fieldLink RX8 61 "OddLetsInModel" "far" "[I") (List.mem_of_getElem? (i := 4) rfl)
  have k_4 := hts (.fieldLink RX8 28 "OddLetsInModel" "persons" "[I") (List.mem_of_getElem? (i := 1) rfl)
  have W_36 : ∀ (i_found : Int32) (i_walkers : Int32) (a_far : Nat → Int32) (a_row : Nat → Int32) (a_begins : Nat → Int32) (n_36 : Nat) (x4 : Int32) (a_counts : Nat → Int32) (a_spots : Nat → Int32) (H : Heap) (locs : List Loc) (ls : Array Slot), Wd (dC, dI) A s.heap (wX8_way cyI cyJ cyZ h h_text h_many h_ones h_others h_kinds h_firsts h_persons h_gone h_at h_fines h_undos h_seenOf h_seenOpen h_path h_told h_counts h_spots h_far h_row h_begins h_ways h_next i_length i_keptMany i_undoMany i_seenMany i_pathMany i_place i_found i_walkers a_many a_ones a_others a_kinds a_persons a_gone a_at a_counts a_spots a_far a_row a_begins) H locs → lv_has ls 5 [(0, .ref h), (1, .int x1), (2, .int x2), (3, .int x3), (4, .int x4)] → PX8_way_36 post x1 x2 x3 a_many a_kinds i_found i_walkers a_far a_row a_begins n_36 x4 a_counts a_spots → W p l e (({ frames := 3, cells := 0, slots := 0, locals := 73 } : Room)) s m (([.ref h, .int x1, .int x2, .int x3] : List Value).toArray) below meth c H locs 0 0 (MQ below (qX8_way dC dI cyI cyJ cyZ h h_text h_many h_ones h_others h_kinds h_firsts h_persons h_gone h_at h_fines h_undos h_seenOf h_seenOpen h_path h_told h_counts h_spots h_far h_row h_begins h_ways h_next i_length i_keptMany i_undoMany i_seenMany i_pathMany i_place i_found i_walkers a_many a_ones a_others a_kinds a_persons a_gone a_at a_counts a_spots a_far a_row a_begins post A) (([.ref h, .int x1, .int x2, .int x3] : List Value).toArray) s 0 0 A) (F0 m 36 ls []) := by
    intro i_found i_walkers a_far a_row a_begins n_36
    induction n_36 with
    | zero =>
      intro x4 a_counts a_spots H locs ls hW hl hw
      exact False.elim hw
    | succ n_36 ih_36 =>
      intro x4 a_counts a_spots H locs ls hW hl hw
      refine lv_iload hx hb dX8_way_36 (lv_at hl 4 rfl) ?_
      refine lv_aload_n hx hb dX8_way_38 rfl (lv_at hl 0 rfl) ?_
      refine zw_get (ci := 8) (C := RX8) (T := TX8) (N := 30) (v := .int i_found) hx hb hts hiX8 hown hK hW 0 rfl rfl 26 (by decide) rfl k_0 dX8_way_39 ?_
      refine lv_icmp_ge (tgt := 103) hx hb dX8_way_42 (by decide) (fun c_1 => ?_) (fun c_1 => ?_)
      · replace hw := hw.1 c_1
        refine lv_bipush (v := (-4)) hx hb dX8_way_103 (by decide) ?_
        refine zw_iret (S := Int32 × Int32 × (Nat → Int32) × (Nat → Int32) × (Nat → Int32) × (Nat → Int32) × (Nat → Int32)) (post := fun r u => post r u.1 u.2.1 u.2.2.1 u.2.2.2.1 u.2.2.2.2.1 u.2.2.2.2.2.1 u.2.2.2.2.2.2) (i_found, i_walkers, a_counts, a_spots, a_far, a_row, a_begins) hx hb hr hlocks hK hW hw ?_ dX8_way_105
        rfl
      · replace hw := hw.2 c_1
        refine lv_aload_n hx hb dX8_way_45 rfl (lv_at hl 0 rfl) ?_
        refine lv_aload_n hx hb dX8_way_46 rfl (lv_at hl 0 rfl) ?_
        refine zw_get (ci := 8) (C := RX8) (T := TX8) (N := 30) (v := .ref h_row) hx hb hts hiX8 hown hK hW 0 rfl rfl 24 (by decide) rfl k_1 dX8_way_47 ?_
        refine lv_iload hx hb dX8_way_50 (lv_at hl 4 rfl) ?_
        refine zw_iald hx hb hK hW 11 rfl rfl hw.1 dX8_way_52 ?_
        replace hw := hw.2
        refine zw_Vv ⟨hx, hb, hml, hown, hts⟩ hK hN hA hW 0 rfl (T := TX8) (N := 30) rfl [.int (a_row (x4).toNatClampNeg)] [] [0, 1, 4, 8, 9] [2, 3, 5, 6, 7, 10, 11, 12] [8, 9, 0, 1, 10, 2, 3, 4, 11, 12, 5, 6, 7] (fun u => (wX8_way cyI cyJ cyZ h h_text h_many h_ones h_others h_kinds h_firsts h_persons h_gone h_at h_fines h_undos h_seenOf h_seenOpen h_path h_told h_counts h_spots h_far h_row h_begins h_ways h_next i_length i_keptMany i_undoMany i_seenMany i_pathMany i_place i_found i_walkers a_many a_ones a_others a_kinds a_persons a_gone a_at (u.1) (u.2) a_far a_row a_begins)) (mX8_take l dC dI cyI cyJ cyZ h h_text h_many h_ones h_others h_kinds h_firsts h_persons h_gone h_at h_fines h_undos h_seenOf h_seenOpen h_path h_told h_counts h_spots h_far h_row h_begins h_ways h_next _ i_length i_keptMany i_undoMany i_seenMany i_pathMany i_place i_found i_walkers a_many a_kinds a_counts a_spots (a_row (x4).toNatClampNeg) _ hw) (cwV 1 hts gX8_way_X8_take rfl rfl rfl (by decide +kernel) ⟨Nat.le_of_ble_eq_true rfl, Nat.le_of_ble_eq_true rfl⟩) rfl rfl rfl rfl (by decide) rfl (fun _ => rfl) rfl hl.1 rfl (Nat.le_of_ble_eq_true rfl) (Nat.le_of_ble_eq_true rfl) (Nat.le_of_ble_eq_true rfl) dX8_way_53 (fun u H locs hw hW => ?_)
        obtain ⟨a_counts_2, a_spots_3⟩ := u
        try dsimp only at hw
        replace hW : Wd (dC, dI) A s.heap (wX8_way cyI cyJ cyZ h h_text h_many h_ones h_others h_kinds h_firsts h_persons h_gone h_at h_fines h_undos h_seenOf h_seenOpen h_path h_told h_counts h_spots h_far h_row h_begins h_ways h_next i_length i_keptMany i_undoMany i_seenMany i_pathMany i_place i_found i_walkers a_many a_ones a_others a_kinds a_persons a_gone a_at a_counts_2 a_spots_3 a_far a_row a_begins) H locs := hW
        refine lv_aload_n hx hb dX8_way_56 rfl (lv_at hl 0 rfl) ?_
        refine lv_iload_n hx hb dX8_way_57 rfl (lv_at hl 1 rfl) ?_
        refine lv_iload_n hx hb dX8_way_58 rfl (lv_at hl 2 rfl) ?_
        refine zw_Vi ⟨hx, hb, hml, hown, hts⟩ hK hN hA hW 0 rfl (T := TX8) (N := 30) rfl [.int x1, .int x2] [] [0, 9] [1, 2, 3, 4, 5, 6, 7, 8, 10, 11, 12] [11, 0, 1, 2, 3, 4, 5, 6, 7, 12, 8, 9, 10] (fun _ => (wX8_way cyI cyJ cyZ h h_text h_many h_ones h_others h_kinds h_firsts h_persons h_gone h_at h_fines h_undos h_seenOf h_seenOpen h_path h_told h_counts h_spots h_far h_row h_begins h_ways h_next i_length i_keptMany i_undoMany i_seenMany i_pathMany i_place i_found i_walkers a_many a_ones a_others a_kinds a_persons a_gone a_at a_counts_2 a_spots_3 a_far a_row a_begins)) (mX8_areThere l dC dI cyI cyJ cyZ h h_text h_many h_ones h_others h_kinds h_firsts h_persons h_gone h_at h_fines h_undos h_seenOf h_seenOpen h_path h_told h_counts h_spots h_far h_row h_begins h_ways h_next _ i_length i_keptMany i_undoMany i_seenMany i_pathMany i_place i_found i_walkers a_spots_3 x1 x2 _ hw) (cwV 2 hts gX8_way_X8_areThere rfl rfl rfl (by decide +kernel) ⟨Nat.le_of_ble_eq_true rfl, Nat.le_of_ble_eq_true rfl⟩) rfl rfl rfl rfl (by decide) rfl (fun _ => rfl) rfl hl.1 rfl (Nat.le_of_ble_eq_true rfl) (Nat.le_of_ble_eq_true rfl) (Nat.le_of_ble_eq_true rfl) dX8_way_59 (fun r_4 u H locs hw hW => ?_)
        obtain ⟨br_4, hw⟩ := hw
        refine lv_if_eq (tgt := 97) hx hb dX8_way_62 (by decide) (fun c_5 => ?_) (fun c_5 => ?_)
        · replace hw := hw.1 c_5
          obtain ⟨x4_6, ex4_6⟩ : ∃ y : Int32, y = x4 + 1 := ⟨_, rfl⟩
          replace hw := hw x4_6 ex4_6
          refine lv_iinc (v := x4_6) (lv' := [(4, .int x4_6), (0, .ref h), (1, .int x1), (2, .int x2), (3, .int x3)]) hx hb dX8_way_97 hl (k := 4) rfl (by rw [ex4_6]; rfl) (by decide) rfl (fun ls hl => ?_)
          refine lv_goto (tgt := 36) hx hb dX8_way_100 (by decide) ?_
          exact ih_36 x4_6 a_counts_2 a_spots_3 _ _ _ hW (lv_sub hl [1, 2, 3, 4, 0] rfl) hw
        · replace hw := hw.2 c_5
          refine lv_iload_n hx hb dX8_way_65 rfl (lv_at hl 3 rfl) ?_
          refine lv_if_ne (tgt := 84) hx hb dX8_way_66 (by decide) (fun c_7 => ?_) (fun c_7 => ?_)
          · replace hw := hw.2 c_7
            refine lv_aload_n hx hb dX8_way_84 rfl (lv_at hl 0 rfl) ?_
            refine zw_get (ci := 8) (C := RX8) (T := TX8) (N := 30) (v := .ref h_begins) hx hb hts hiX8 hown hK hW 0 rfl rfl 25 (by decide) rfl k_2 dX8_way_85 ?_
            refine lv_aload_n hx hb dX8_way_88 rfl (lv_at hl 0 rfl) ?_
            refine zw_get (ci := 8) (C := RX8) (T := TX8) (N := 30) (v := .ref h_row) hx hb hts hiX8 hown hK hW 0 rfl rfl 24 (by decide) rfl k_1 dX8_way_89 ?_
            refine lv_iload hx hb dX8_way_92 (lv_at hl 4 rfl) ?_
            refine zw_iald hx hb hK hW 11 rfl rfl hw.1 dX8_way_94 ?_
            replace hw := hw.2
            refine zw_iald hx hb hK hW 12 rfl rfl hw.1 dX8_way_95 ?_
            replace hw := hw.2
            refine zw_iret (S := Int32 × Int32 × (Nat → Int32) × (Nat → Int32) × (Nat → Int32) × (Nat → Int32) × (Nat → Int32)) (post := fun r u => post r u.1 u.2.1 u.2.2.1 u.2.2.2.1 u.2.2.2.2.1 u.2.2.2.2.2.1 u.2.2.2.2.2.2) (i_found, i_walkers, a_counts_2, a_spots_3, a_far, a_row, a_begins) hx hb hr hlocks hK hW hw ?_ dX8_way_96
            rfl
          · replace hw := hw.1 c_7
            refine lv_aload_n hx hb dX8_way_69 rfl (lv_at hl 0 rfl) ?_
            refine zw_get (ci := 8) (C := RX8) (T := TX8) (N := 30) (v := .ref h_far) hx hb hts hiX8 hown hK hW 0 rfl rfl 23 (by decide) rfl k_3 dX8_way_70 ?_
            refine lv_aload_n hx hb dX8_way_73 rfl (lv_at hl 0 rfl) ?_
            refine zw_get (ci := 8) (C := RX8) (T := TX8) (N := 30) (v := .ref h_row) hx hb hts hiX8 hown hK hW 0 rfl rfl 24 (by decide) rfl k_1 dX8_way_74 ?_
            refine lv_iload hx hb dX8_way_77 (lv_at hl 4 rfl) ?_
            refine zw_iald hx hb hK hW 11 rfl rfl hw.1 dX8_way_79 ?_
            replace hw := hw.2
            refine zw_iald hx hb hK hW 10 rfl rfl hw.1 dX8_way_80 ?_
            replace hw := hw.2
            refine lv_goto (tgt := 96) hx hb dX8_way_81 (by decide) ?_
            refine zw_iret (S := Int32 × Int32 × (Nat → Int32) × (Nat → Int32) × (Nat → Int32) × (Nat → Int32) × (Nat → Int32)) (post := fun r u => post r u.1 u.2.1 u.2.2.1 u.2.2.2.1 u.2.2.2.2.1 u.2.2.2.2.2.1 u.2.2.2.2.2.2) (i_found, i_walkers, a_counts_2, a_spots_3, a_far, a_row, a_begins) hx hb hr hlocks hK hW hw ?_ dX8_way_96
            rfl
  have hl := lv_entry ([.ref h, .int x1, .int x2, .int x3]) (n := 5) (Nat.le_of_ble_eq_true rfl)
  rw [lg_entry_eq]
  generalize (lg_sl ([.ref h, .int x1, .int x2, .int x3]) ++ List.replicate (5 - (lg_sl ([.ref h, .int x1, .int x2, .int x3])).length) Slot.unset).toArray = ls at hl ⊢
  have hl : lv_has ls 5 [(0, .ref h), (1, .int x1), (2, .int x2), (3, .int x3)] := hl
  refine lv_iload_n hx hb dX8_way_0 rfl (lv_at hl 1 rfl) ?_
  refine zw_Si ⟨hx, hb, hml, hown, hts⟩ hK hN hA hW [.int x1] [] [] [0, 1, 2, 3, 4, 5, 6, 7, 8, 9, 10, 11, 12] [0, 1, 2, 3, 4, 5, 6, 7, 8, 9, 10, 11, 12] (fun _ => (wX8_way cyI cyJ cyZ h h_text h_many h_ones h_others h_kinds h_firsts h_persons h_gone h_at h_fines h_undos h_seenOf h_seenOpen h_path h_told h_counts h_spots h_far h_row h_begins h_ways h_next i_length i_keptMany i_undoMany i_seenMany i_pathMany i_place i_found i_walkers a_many a_ones a_others a_kinds a_persons a_gone a_at a_counts a_spots a_far a_row a_begins)) (mX8_isCourt l dC dI cyI cyJ cyZ _ x1 _ hw) (va_cwS 1 hts gX8_way_X8_isCourt rfl rfl rfl (by decide +kernel) ⟨Nat.le_of_ble_eq_true rfl, Nat.le_of_ble_eq_true rfl⟩) rfl rfl rfl rfl (by decide) rfl (fun _ => rfl) rfl hl.1 rfl (Nat.le_of_ble_eq_true rfl) (Nat.le_of_ble_eq_true rfl) (Nat.le_of_ble_eq_true rfl) dX8_way_1 (fun r_8 u H locs hw hW => ?_)
  obtain ⟨br_8, hw⟩ := hw
  refine lv_if_eq (tgt := 17) hx hb dX8_way_4 (by decide) (fun c_9 => ?_) (fun c_9 => ?_)
  · replace hw := hw.1 c_9
    refine lv_iconst (v := (-1)) hx hb dX8_way_17 (by decide) ?_
    refine zw_iret (S := Int32 × Int32 × (Nat → Int32) × (Nat → Int32) × (Nat → Int32) × (Nat → Int32) × (Nat → Int32)) (post := fun r u => post r u.1 u.2.1 u.2.2.1 u.2.2.2.1 u.2.2.2.2.1 u.2.2.2.2.2.1 u.2.2.2.2.2.2) (i_found, i_walkers, a_counts, a_spots, a_far, a_row, a_begins) hx hb hr hlocks hK hW hw ?_ dX8_way_18
    rfl
  · replace hw := hw.2 c_9
    refine lv_iload_n hx hb dX8_way_7 rfl (lv_at hl 3 rfl) ?_
    refine lv_i2l hx hb dX8_way_8 rfl ?_
    refine lv_lconst (v := 0) hx hb dX8_way_9 (by decide) ?_
    refine lv_lconst (v := 1) hx hb dX8_way_10 (by decide) ?_
    refine zw_Si ⟨hx, hb, hml, hown, hts⟩ hK hN hA hW [.long ((x3).toInt64), .long 0, .long 1] [] [] [0, 1, 2, 3, 4, 5, 6, 7, 8, 9, 10, 11, 12] [0, 1, 2, 3, 4, 5, 6, 7, 8, 9, 10, 11, 12] (fun _ => (wX8_way cyI cyJ cyZ h h_text h_many h_ones h_others h_kinds h_firsts h_persons h_gone h_at h_fines h_undos h_seenOf h_seenOpen h_path h_told h_counts h_spots h_far h_row h_begins h_ways h_next i_length i_keptMany i_undoMany i_seenMany i_pathMany i_place i_found i_walkers a_many a_ones a_others a_kinds a_persons a_gone a_at a_counts a_spots a_far a_row a_begins)) (mX8_in l dC dI cyI cyJ cyZ _ ((x3).toInt64) 0 1 _ hw) (va_cwS 3 hts gX8_way_X8_in rfl rfl rfl (by decide +kernel) ⟨Nat.le_of_ble_eq_true rfl, Nat.le_of_ble_eq_true rfl⟩) rfl rfl rfl rfl (by decide) rfl (fun _ => rfl) rfl hl.1 rfl (Nat.le_of_ble_eq_true rfl) (Nat.le_of_ble_eq_true rfl) (Nat.le_of_ble_eq_true rfl) dX8_way_11 (fun r_10 u H locs hw hW => ?_)
    obtain ⟨br_10, hw⟩ := hw
    refine lv_if_ne (tgt := 19) hx hb dX8_way_14 (by decide) (fun c_11 => ?_) (fun c_11 => ?_)
    · replace hw := hw.2 c_11
      refine lv_aload_n hx hb dX8_way_19 rfl (lv_at hl 0 rfl) ?_
      refine zw_Vv ⟨hx, hb, hml, hown, hts⟩ hK hN hA hW 0 rfl (T := TX8) (N := 30) rfl [] [] [0, 6, 7, 8, 9] [1, 2, 3, 4, 5, 10, 11, 12] [8, 0, 1, 2, 3, 4, 9, 10, 11, 12, 5, 6, 7] (fun u => (wX8_way cyI cyJ cyZ h h_text h_many h_ones h_others h_kinds h_firsts h_persons h_gone h_at h_fines h_undos h_seenOf h_seenOpen h_path h_told h_counts h_spots h_far h_row h_begins h_ways h_next i_length i_keptMany i_undoMany i_seenMany i_pathMany i_place i_found i_walkers a_many a_ones a_others a_kinds a_persons a_gone a_at (u.1) (u.2) a_far a_row a_begins)) (mX8_layNow l dC dI cyI cyJ cyZ h h_text h_many h_ones h_others h_kinds h_firsts h_persons h_gone h_at h_fines h_undos h_seenOf h_seenOpen h_path h_told h_counts h_spots h_far h_row h_begins h_ways h_next _ i_length i_keptMany i_undoMany i_seenMany i_pathMany i_place i_found i_walkers a_gone a_at a_counts a_spots _ hw) (cwV 0 hts gX8_way_X8_layNow rfl rfl rfl (by decide +kernel) ⟨Nat.le_of_ble_eq_true rfl, Nat.le_of_ble_eq_true rfl⟩) rfl rfl rfl rfl (by decide) rfl (fun _ => rfl) rfl hl.1 rfl (Nat.le_of_ble_eq_true rfl) (Nat.le_of_ble_eq_true rfl) (Nat.le_of_ble_eq_true rfl) dX8_way_20 (fun u H locs hw hW => ?_)
      obtain ⟨a_counts_12, a_spots_13⟩ := u
      try dsimp only at hw
      replace hW : Wd (dC, dI) A s.heap (wX8_way cyI cyJ cyZ h h_text h_many h_ones h_others h_kinds h_firsts h_persons h_gone h_at h_fines h_undos h_seenOf h_seenOpen h_path h_told h_counts h_spots h_far h_row h_begins h_ways h_next i_length i_keptMany i_undoMany i_seenMany i_pathMany i_place i_found i_walkers a_many a_ones a_others a_kinds a_persons a_gone a_at a_counts_12 a_spots_13 a_far a_row a_begins) H locs := hW
      refine lv_aload_n hx hb dX8_way_23 rfl (lv_at hl 0 rfl) ?_
      refine lv_aload_n hx hb dX8_way_24 rfl (lv_at hl 0 rfl) ?_
      refine zw_get (ci := 8) (C := RX8) (T := TX8) (N := 30) (v := .ref h_persons) hx hb hts hiX8 hown hK hW 0 rfl rfl 7 (by decide) rfl k_4 dX8_way_25 ?_
      refine lv_iconst (v := 0) hx hb dX8_way_28 (by decide) ?_
      refine zw_iald hx hb hK hW 5 rfl rfl hw.1 dX8_way_29 ?_
      replace hw := hw.2
      refine zw_Vv ⟨hx, hb, hml, hown, hts⟩ hK hN hA hW 0 rfl (T := TX8) (N := 30) rfl [.int (a_persons (0 : Int32).toNatClampNeg)] [] [0, 1, 2, 3, 4, 8, 9, 10, 11, 12] [5, 6, 7] [3, 4, 5, 6, 7, 0, 1, 2, 8, 9, 10, 11, 12] (fun u => (wX8_way cyI cyJ cyZ h h_text h_many h_ones h_others h_kinds h_firsts h_persons h_gone h_at h_fines h_undos h_seenOf h_seenOpen h_path h_told h_counts h_spots h_far h_row h_begins h_ways h_next i_length i_keptMany i_undoMany i_seenMany i_pathMany i_place (u.1) (u.2.1) a_many a_ones a_others a_kinds a_persons a_gone a_at (u.2.2.1) (u.2.2.2.1) (u.2.2.2.2.1) (u.2.2.2.2.2.1) (u.2.2.2.2.2.2))) (mX8_search l dC dI cyI cyJ cyZ h h_text h_many h_ones h_others h_kinds h_firsts h_persons h_gone h_at h_fines h_undos h_seenOf h_seenOpen h_path h_told h_counts h_spots h_far h_row h_begins h_ways h_next _ i_length i_keptMany i_undoMany i_seenMany i_pathMany i_place i_found i_walkers a_many a_ones a_others a_kinds a_counts_12 a_spots_13 a_far a_row a_begins (a_persons (0 : Int32).toNatClampNeg) _ hw) (cwV 1 hts gX8_way_X8_search rfl rfl rfl (by decide +kernel) ⟨Nat.le_of_ble_eq_true rfl, Nat.le_of_ble_eq_true rfl⟩) rfl rfl rfl rfl (by decide) rfl (fun _ => rfl) rfl hl.1 rfl (Nat.le_of_ble_eq_true rfl) (Nat.le_of_ble_eq_true rfl) (Nat.le_of_ble_eq_true rfl) dX8_way_30 (fun u H locs hw hW => ?_)
      obtain ⟨i_found_14, i_walkers_15, a_counts_16, a_spots_17, a_far_18, a_row_19, a_begins_20⟩ := u
      try dsimp only at hw
      replace hW : Wd (dC, dI) A s.heap (wX8_way cyI cyJ cyZ h h_text h_many h_ones h_others h_kinds h_firsts h_persons h_gone h_at h_fines h_undos h_seenOf h_seenOpen h_path h_told h_counts h_spots h_far h_row h_begins h_ways h_next i_length i_keptMany i_undoMany i_seenMany i_pathMany i_place i_found_14 i_walkers_15 a_many a_ones a_others a_kinds a_persons a_gone a_at a_counts_16 a_spots_17 a_far_18 a_row_19 a_begins_20) H locs := hW
      refine lv_iconst (v := 0) hx hb dX8_way_33 (by decide) ?_
      refine lv_istore (lv' := [(4, .int 0), (0, .ref h), (1, .int x1), (2, .int x2), (3, .int x3)]) hx hb dX8_way_34 hl (by decide) rfl (fun ls hl => ?_)
      obtain ⟨n_36, hw⟩ := hw
      exact W_36 i_found_14 i_walkers_15 a_far_18 a_row_19 a_begins_20 n_36 0 a_counts_16 a_spots_17 _ _ _ hW (lv_sub hl [1, 2, 3, 4, 0] rfl) hw
    · replace hw := hw.1 c_11
      refine lv_iconst (v := (-1)) hx hb dX8_way_17 (by decide) ?_
      refine zw_iret (S := Int32 × Int32 × (Nat → Int32) × (Nat → Int32) × (Nat → Int32) × (Nat → Int32) × (Nat → Int32)) (post := fun r u => post r u.1 u.2.1 u.2.2.1 u.2.2.2.1 u.2.2.2.2.1 u.2.2.2.2.2.1 u.2.2.2.2.2.2) (i_found, i_walkers, a_counts, a_spots, a_far, a_row, a_begins) hx hb hr hlocks hK hW hw ?_ dX8_way_18
      rfl
abbrev wX8_layAtFirst (cyI cyJ cyZ : ClassId) (h h_text h_many h_ones h_others h_kinds h_firsts h_persons h_gone h_at h_fines h_undos h_seenOf h_seenOpen h_path h_told h_counts h_spots h_far h_row h_begins h_ways h_next : Nat) (i_length : Int32) (i_keptMany : Int32) (i_undoMany : Int32) (i_seenMany : Int32) (i_pathMany : Int32) (i_place : Int32) (i_found : Int32) (i_walkers : Int32) (a_gone : Nat → Int32) (a_counts : Nat → Int32) (a_spots : Nat → Int32) : va_W := [(h, .inr (8, [.int i_length, .ref h_text, .ref h_many, .ref h_ones, .ref h_others, .ref h_kinds, .ref h_firsts, .ref h_persons, .ref h_gone, .ref h_at, .ref h_fines, .int i_keptMany, .int i_undoMany, .ref h_undos, .int i_seenMany, .ref h_seenOf, .ref h_seenOpen, .int i_pathMany, .ref h_path, .int i_place, .ref h_told, .ref h_counts, .ref h_spots, .ref h_far, .ref h_row, .ref h_begins, .int i_found, .int i_walkers, .ref h_ways, .ref h_next])), (h_gone, .inl (cyI, 15, .inl a_gone)), (h_counts, .inl (cyI, 5, .inl a_counts)), (h_spots, .inl (cyI, 3, .inl a_spots))]
abbrev qX8_layAtFirst (dC : Nat → ClassId) (dI : Nat → Nat → Nat) (cyI cyJ cyZ : ClassId) (h h_text h_many h_ones h_others h_kinds h_firsts h_persons h_gone h_at h_fines h_undos h_seenOf h_seenOpen h_path h_told h_counts h_spots h_far h_row h_begins h_ways h_next : Nat) (i_length : Int32) (i_keptMany : Int32) (i_undoMany : Int32) (i_seenMany : Int32) (i_pathMany : Int32) (i_place : Int32) (i_found : Int32) (i_walkers : Int32) (a_gone : Nat → Int32) (a_counts : Nat → Int32) (a_spots : Nat → Int32) (post : (Nat → Int32) → (Nat → Int32) → Prop) (A : Nat → Prop) : Array Value → State → Outcome → State → Prop := (va_Qv (fun (u : (Nat → Int32) × (Nat → Int32)) => post u.1 u.2) (bW (dC, dI) (tyG cyI cyJ cyZ) A (fun u : (Nat → Int32) × (Nat → Int32) => (wX8_layAtFirst cyI cyJ cyZ h h_text h_many h_ones h_others h_kinds h_firsts h_persons h_gone h_at h_fines h_undos h_seenOf h_seenOpen h_path h_told h_counts h_spots h_far h_row h_begins h_ways h_next i_length i_keptMany i_undoMany i_seenMany i_pathMany i_place i_found i_walkers a_gone (u.1) (u.2)))) A)
set_option maxHeartbeats 4000000 in
set_option maxRecDepth 100000 in
theorem mX8_layAtFirst (l : Launch) (dC : Nat → ClassId) (dI : Nat → Nat → Nat) (cyI cyJ cyZ : ClassId) (h h_text h_many h_ones h_others h_kinds h_firsts h_persons h_gone h_at h_fines h_undos h_seenOf h_seenOpen h_path h_told h_counts h_spots h_far h_row h_begins h_ways h_next : Nat) (sz : Nat) (i_length : Int32) (i_keptMany : Int32) (i_undoMany : Int32) (i_seenMany : Int32) (i_pathMany : Int32) (i_place : Int32) (i_found : Int32) (i_walkers : Int32) (a_gone : Nat → Int32) (a_counts : Nat → Int32) (a_spots : Nat → Int32) (post : (Nat → Int32) → (Nat → Int32) → Prop) (hwp : PX8_layAtFirst a_gone a_counts a_spots post) : Met l yX8_layAtFirst wsX8_layAtFirst ({ frames := 1, cells := 0, slots := 0, locals := 21 } : Room) (va_Pc [.ref h] (pcW (dC, dI) sz (wX8_layAtFirst cyI cyJ cyZ h h_text h_many h_ones h_others h_kinds h_firsts h_persons h_gone h_at h_fines h_undos h_seenOf h_seenOpen h_path h_told h_counts h_spots h_far h_row h_begins h_ways h_next i_length i_keptMany i_undoMany i_seenMany i_pathMany i_place i_found i_walkers a_gone a_counts a_spots) (tyG cyI cyJ cyZ))) (qX8_layAtFirst dC dI cyI cyJ cyZ h h_text h_many h_ones h_others h_kinds h_firsts h_persons h_gone h_at h_fines h_undos h_seenOf h_seenOpen h_path h_told h_counts h_spots h_far h_row h_begins h_ways h_next i_length i_keptMany i_undoMany i_seenMany i_pathMany i_place i_found i_walkers a_gone a_counts a_spots post (va_A (wX8_layAtFirst cyI cyJ cyZ h h_text h_many h_ones h_others h_kinds h_firsts h_persons h_gone h_at h_fines h_undos h_seenOf h_seenOpen h_path h_told h_counts h_spots h_far h_row h_begins h_ways h_next i_length i_keptMany i_undoMany i_seenMany i_pathMany i_place i_found i_walkers a_gone a_counts a_spots) sz)) 0 0 (va_A (wX8_layAtFirst cyI cyJ cyZ h h_text h_many h_ones h_others h_kinds h_firsts h_persons h_gone h_at h_fines h_undos h_seenOf h_seenOpen h_path h_told h_counts h_spots h_far h_row h_begins h_ways h_next i_length i_keptMany i_undoMany i_seenMany i_pathMany i_place i_found i_walkers a_gone a_counts a_spots) sz) := by
  refine Met.ofW (cc := cX8_layAtFirst) (maxL := 2) (ret := none) (by decide) rfl ?_
  intro p e s m args below meth c s₁ B hml hv
  obtain ⟨rfl, hsz, hP, hK, hD0, hN⟩ := hv
  have hx := B.exec
  have hb := B.bytes
  have hr := B.returns
  have hts := atoms_spec (ws := wsX8_layAtFirst) B.pre
  have hown : s.vm.findClass RX8 = some m.cls := findClass_of_methodNamed B.named
  have hlocks := B.notSynchronized
  subst hsz
  have hD := hD0.self (sz := s.heap.size)
  generalize hAe : va_A (wX8_layAtFirst cyI cyJ cyZ h h_text h_many h_ones h_others h_kinds h_firsts h_persons h_gone h_at h_fines h_undos h_seenOf h_seenOpen h_path h_told h_counts h_spots h_far h_row h_begins h_ways h_next i_length i_keptMany i_undoMany i_seenMany i_pathMany i_place i_found i_walkers a_gone a_counts a_spots) s.heap.size = A at hD ⊢
  have hA : ∀ q : Nat, s.heap.size ≤ q → A q := fun q h => by rw [← hAe]; exact Or.inr h
  have hW : Wd (dC, dI) A s.heap (wX8_layAtFirst cyI cyJ cyZ h h_text h_many h_ones h_others h_kinds h_firsts h_persons h_gone h_at h_fines h_undos h_seenOf h_seenOpen h_path h_told h_counts h_spots h_far h_row h_begins h_ways h_next i_length i_keptMany i_undoMany i_seenMany i_pathMany i_place i_found i_walkers a_gone a_counts a_spots) s.heap [] := ⟨hP, hD, va_S.rf⟩
  have hw := hwp
  have hiX8 : ∀ w ∈ u_ws RX8 TX8 30, w ∈ wsX8_layAtFirst := fun _ h => List.mem_cons_of_mem _ (List.mem_append_right _ h)
  have k_0 := hts (.fieldLink RX8 58 "OddLetsInModel" "spots" "[I") (List.mem_of_getElem? (i := 1) rfl)
  have W_6 : ∀ (a_counts : Nat → Int32) (n_6 : Nat) (x1 : Int32) (a_spots : Nat → Int32) (H : Heap) (locs : List Loc) (ls : Array Slot), Wd (dC, dI) A s.heap (wX8_layAtFirst cyI cyJ cyZ h h_text h_many h_ones h_others h_kinds h_firsts h_persons h_gone h_at h_fines h_undos h_seenOf h_seenOpen h_path h_told h_counts h_spots h_far h_row h_begins h_ways h_next i_length i_keptMany i_undoMany i_seenMany i_pathMany i_place i_found i_walkers a_gone a_counts a_spots) H locs → lv_has ls 2 [(0, .ref h), (1, .int x1)] → PX8_layAtFirst_6 post a_counts n_6 x1 a_spots → W p l e (({ frames := 1, cells := 0, slots := 0, locals := 21 } : Room)) s m (([.ref h] : List Value).toArray) below meth c H locs 0 0 (MQ below (qX8_layAtFirst dC dI cyI cyJ cyZ h h_text h_many h_ones h_others h_kinds h_firsts h_persons h_gone h_at h_fines h_undos h_seenOf h_seenOpen h_path h_told h_counts h_spots h_far h_row h_begins h_ways h_next i_length i_keptMany i_undoMany i_seenMany i_pathMany i_place i_found i_walkers a_gone a_counts a_spots post A) (([.ref h] : List Value).toArray) s 0 0 A) (F0 m 6 ls []) := by
    intro a_counts n_6
    induction n_6 with
    | zero =>
      intro x1 a_spots H locs ls hW hl hw
      exact False.elim hw
    | succ n_6 ih_6 =>
      intro x1 a_spots H locs ls hW hl hw
      refine lv_iload_n hx hb dX8_layAtFirst_6 rfl (lv_at hl 1 rfl) ?_
      refine lv_iconst (v := 3) hx hb dX8_layAtFirst_7 (by decide) ?_
      refine lv_icmp_ge (tgt := 24) hx hb dX8_layAtFirst_8 (by decide) (fun c_1 => ?_) (fun c_1 => ?_)
      · replace hw := hw.1 c_1
        refine zw_vret (S := (Nat → Int32) × (Nat → Int32)) (post := fun u => post u.1 u.2) (a_counts, a_spots) hx hb hr hlocks hK hW hw ?_ dX8_layAtFirst_24
        rfl
      · replace hw := hw.2 c_1
        refine lv_aload_n hx hb dX8_layAtFirst_11 rfl (lv_at hl 0 rfl) ?_
        refine zw_get (ci := 8) (C := RX8) (T := TX8) (N := 30) (v := .ref h_spots) hx hb hts hiX8 hown hK hW 0 rfl rfl 22 (by decide) rfl k_0 dX8_layAtFirst_12 ?_
        refine lv_iload_n hx hb dX8_layAtFirst_15 rfl (lv_at hl 1 rfl) ?_
        refine lv_iconst (v := 0) hx hb dX8_layAtFirst_16 (by decide) ?_
        refine zw_iast hx hb hK hW 3 rfl rfl hw.1 (w2 := fun a_spots_2 => (wX8_layAtFirst cyI cyJ cyZ h h_text h_many h_ones h_others h_kinds h_firsts h_persons h_gone h_at h_fines h_undos h_seenOf h_seenOpen h_path h_told h_counts h_spots h_far h_row h_begins h_ways h_next i_length i_keptMany i_undoMany i_seenMany i_pathMany i_place i_found i_walkers a_gone a_counts a_spots_2)) (fun _ => rfl) dX8_layAtFirst_17 (fun a_spots_2 H locs ea_spots_2 hW => ?_)
        replace hw := hw.2 a_spots_2 ea_spots_2
        obtain ⟨x1_3, ex1_3⟩ : ∃ y : Int32, y = x1 + 1 := ⟨_, rfl⟩
        replace hw := hw x1_3 ex1_3
        refine lv_iinc (v := x1_3) (lv' := [(1, .int x1_3), (0, .ref h)]) hx hb dX8_layAtFirst_18 hl (k := 1) rfl (by rw [ex1_3]; rfl) (by decide) rfl (fun ls hl => ?_)
        refine lv_goto (tgt := 6) hx hb dX8_layAtFirst_21 (by decide) ?_
        exact ih_6 x1_3 a_spots_2 _ _ _ hW (lv_sub hl [1, 0] rfl) hw
  have hl := lv_entry ([.ref h]) (n := 2) (Nat.le_of_ble_eq_true rfl)
  rw [lg_entry_eq]
  generalize (lg_sl ([.ref h]) ++ List.replicate (2 - (lg_sl ([.ref h])).length) Slot.unset).toArray = ls at hl ⊢
  have hl : lv_has ls 2 [(0, .ref h)] := hl
  refine lv_aload_n hx hb dX8_layAtFirst_0 rfl (lv_at hl 0 rfl) ?_
  refine zw_Vv ⟨hx, hb, hml, hown, hts⟩ hK hN hA hW 0 rfl (T := TX8) (N := 30) rfl [] [] [0, 1, 2] [3] [1, 2, 3, 0] (fun u => (wX8_layAtFirst cyI cyJ cyZ h h_text h_many h_ones h_others h_kinds h_firsts h_persons h_gone h_at h_fines h_undos h_seenOf h_seenOpen h_path h_told h_counts h_spots h_far h_row h_begins h_ways h_next i_length i_keptMany i_undoMany i_seenMany i_pathMany i_place i_found i_walkers a_gone u a_spots)) (mX8_layCounts l dC dI cyI cyJ cyZ h h_text h_many h_ones h_others h_kinds h_firsts h_persons h_gone h_at h_fines h_undos h_seenOf h_seenOpen h_path h_told h_counts h_spots h_far h_row h_begins h_ways h_next _ i_length i_keptMany i_undoMany i_seenMany i_pathMany i_place i_found i_walkers a_gone a_counts _ hw) (cwV 0 hts gX8_layAtFirst_X8_layCounts rfl rfl rfl (by decide +kernel) ⟨Nat.le_of_ble_eq_true rfl, Nat.le_of_ble_eq_true rfl⟩) rfl rfl rfl rfl (by decide) rfl (fun _ => rfl) rfl hl.1 rfl (Nat.le_of_ble_eq_true rfl) (Nat.le_of_ble_eq_true rfl) (Nat.le_of_ble_eq_true rfl) dX8_layAtFirst_1 (fun u H locs hw hW => ?_)
  obtain ⟨a_counts_4, rfl⟩ : ∃ z, z = u := ⟨_, rfl⟩
  replace hW : Wd (dC, dI) A s.heap (wX8_layAtFirst cyI cyJ cyZ h h_text h_many h_ones h_others h_kinds h_firsts h_persons h_gone h_at h_fines h_undos h_seenOf h_seenOpen h_path h_told h_counts h_spots h_far h_row h_begins h_ways h_next i_length i_keptMany i_undoMany i_seenMany i_pathMany i_place i_found i_walkers a_gone a_counts_4 a_spots) H locs := hW
  refine lv_iconst (v := 0) hx hb dX8_layAtFirst_4 (by decide) ?_
  refine lv_istore_n (lv' := [(1, .int 0), (0, .ref h)]) hx hb dX8_layAtFirst_5 rfl hl (by decide) rfl (fun ls hl => ?_)
  obtain ⟨n_6, hw⟩ := hw
  exact W_6 a_counts_4 n_6 0 a_spots _ _ _ hW (lv_sub hl [1, 0] rfl) hw
abbrev wX8_smallest (cyI cyJ cyZ : ClassId) (h h_text h_many h_ones h_others h_kinds h_firsts h_persons h_gone h_at h_fines h_undos h_seenOf h_seenOpen h_path h_told h_counts h_spots h_far h_row h_begins h_ways h_next : Nat) (i_length : Int32) (i_keptMany : Int32) (i_undoMany : Int32) (i_seenMany : Int32) (i_pathMany : Int32) (i_place : Int32) (i_found : Int32) (i_walkers : Int32) (a_many : Nat → Int32) (a_ones : Nat → Int32) (a_others : Nat → Int32) (a_kinds : Nat → Int32) (a_gone : Nat → Int32) (a_counts : Nat → Int32) (a_spots : Nat → Int32) (a_far : Nat → Int32) (a_row : Nat → Int32) (a_begins : Nat → Int32) : va_W := [(h, .inr (8, [.int i_length, .ref h_text, .ref h_many, .ref h_ones, .ref h_others, .ref h_kinds, .ref h_firsts, .ref h_persons, .ref h_gone, .ref h_at, .ref h_fines, .int i_keptMany, .int i_undoMany, .ref h_undos, .int i_seenMany, .ref h_seenOf, .ref h_seenOpen, .int i_pathMany, .ref h_path, .int i_place, .ref h_told, .ref h_counts, .ref h_spots, .ref h_far, .ref h_row, .ref h_begins, .int i_found, .int i_walkers, .ref h_ways, .ref h_next])), (h_many, .inl (cyI, 2, .inl a_many)), (h_ones, .inl (cyI, 10, .inl a_ones)), (h_others, .inl (cyI, 10, .inl a_others)), (h_kinds, .inl (cyI, 10, .inl a_kinds)), (h_gone, .inl (cyI, 15, .inl a_gone)), (h_counts, .inl (cyI, 5, .inl a_counts)), (h_spots, .inl (cyI, 3, .inl a_spots)), (h_far, .inl (cyI, 30400, .inl a_far)), (h_row, .inl (cyI, 30400, .inl a_row)), (h_begins, .inl (cyI, 30400, .inl a_begins))]
abbrev qX8_smallest (dC : Nat → ClassId) (dI : Nat → Nat → Nat) (cyI cyJ cyZ : ClassId) (h h_text h_many h_ones h_others h_kinds h_firsts h_persons h_gone h_at h_fines h_undos h_seenOf h_seenOpen h_path h_told h_counts h_spots h_far h_row h_begins h_ways h_next : Nat) (i_length : Int32) (i_keptMany : Int32) (i_undoMany : Int32) (i_seenMany : Int32) (i_pathMany : Int32) (i_place : Int32) (i_found : Int32) (i_walkers : Int32) (a_many : Nat → Int32) (a_ones : Nat → Int32) (a_others : Nat → Int32) (a_kinds : Nat → Int32) (a_gone : Nat → Int32) (a_counts : Nat → Int32) (a_spots : Nat → Int32) (a_far : Nat → Int32) (a_row : Nat → Int32) (a_begins : Nat → Int32) (post : Int32 → Int32 → Int32 → (Nat → Int32) → (Nat → Int32) → (Nat → Int32) → (Nat → Int32) → (Nat → Int32) → Prop) (A : Nat → Prop) : Array Value → State → Outcome → State → Prop := (va_Qi (fun (r : Int32) (u : Int32 × Int32 × (Nat → Int32) × (Nat → Int32) × (Nat → Int32) × (Nat → Int32) × (Nat → Int32)) => post r u.1 u.2.1 u.2.2.1 u.2.2.2.1 u.2.2.2.2.1 u.2.2.2.2.2.1 u.2.2.2.2.2.2) (bW (dC, dI) (tyG cyI cyJ cyZ) A (fun u : Int32 × Int32 × (Nat → Int32) × (Nat → Int32) × (Nat → Int32) × (Nat → Int32) × (Nat → Int32) => (wX8_smallest cyI cyJ cyZ h h_text h_many h_ones h_others h_kinds h_firsts h_persons h_gone h_at h_fines h_undos h_seenOf h_seenOpen h_path h_told h_counts h_spots h_far h_row h_begins h_ways h_next i_length i_keptMany i_undoMany i_seenMany i_pathMany i_place (u.1) (u.2.1) a_many a_ones a_others a_kinds a_gone (u.2.2.1) (u.2.2.2.1) (u.2.2.2.2.1) (u.2.2.2.2.2.1) (u.2.2.2.2.2.2)))) A)
set_option maxHeartbeats 4000000 in
set_option maxRecDepth 100000 in
theorem mX8_smallest (l : Launch) (dC : Nat → ClassId) (dI : Nat → Nat → Nat) (cyI cyJ cyZ : ClassId) (h h_text h_many h_ones h_others h_kinds h_firsts h_persons h_gone h_at h_fines h_undos h_seenOf h_seenOpen h_path h_told h_counts h_spots h_far h_row h_begins h_ways h_next : Nat) (sz : Nat) (i_length : Int32) (i_keptMany : Int32) (i_undoMany : Int32) (i_seenMany : Int32) (i_pathMany : Int32) (i_place : Int32) (i_found : Int32) (i_walkers : Int32) (a_many : Nat → Int32) (a_ones : Nat → Int32) (a_others : Nat → Int32) (a_kinds : Nat → Int32) (a_gone : Nat → Int32) (a_counts : Nat → Int32) (a_spots : Nat → Int32) (a_far : Nat → Int32) (a_row : Nat → Int32) (a_begins : Nat → Int32) (x1 : Int32) (post : Int32 → Int32 → Int32 → (Nat → Int32) → (Nat → Int32) → (Nat → Int32) → (Nat → Int32) → (Nat → Int32) → Prop) (hwp : PX8_smallest x1 i_found i_walkers a_many a_ones a_others a_kinds a_gone a_counts a_spots a_far a_row a_begins post) : Met l yX8_smallest wsX8_smallest ({ frames := 3, cells := 0, slots := 0, locals := 73 } : Room) (va_Pc [.ref h, .int x1] (pcW (dC, dI) sz (wX8_smallest cyI cyJ cyZ h h_text h_many h_ones h_others h_kinds h_firsts h_persons h_gone h_at h_fines h_undos h_seenOf h_seenOpen h_path h_told h_counts h_spots h_far h_row h_begins h_ways h_next i_length i_keptMany i_undoMany i_seenMany i_pathMany i_place i_found i_walkers a_many a_ones a_others a_kinds a_gone a_counts a_spots a_far a_row a_begins) (tyG cyI cyJ cyZ))) (qX8_smallest dC dI cyI cyJ cyZ h h_text h_many h_ones h_others h_kinds h_firsts h_persons h_gone h_at h_fines h_undos h_seenOf h_seenOpen h_path h_told h_counts h_spots h_far h_row h_begins h_ways h_next i_length i_keptMany i_undoMany i_seenMany i_pathMany i_place i_found i_walkers a_many a_ones a_others a_kinds a_gone a_counts a_spots a_far a_row a_begins post (va_A (wX8_smallest cyI cyJ cyZ h h_text h_many h_ones h_others h_kinds h_firsts h_persons h_gone h_at h_fines h_undos h_seenOf h_seenOpen h_path h_told h_counts h_spots h_far h_row h_begins h_ways h_next i_length i_keptMany i_undoMany i_seenMany i_pathMany i_place i_found i_walkers a_many a_ones a_others a_kinds a_gone a_counts a_spots a_far a_row a_begins) sz)) 0 0 (va_A (wX8_smallest cyI cyJ cyZ h h_text h_many h_ones h_others h_kinds h_firsts h_persons h_gone h_at h_fines h_undos h_seenOf h_seenOpen h_path h_told h_counts h_spots h_far h_row h_begins h_ways h_next i_length i_keptMany i_undoMany i_seenMany i_pathMany i_place i_found i_walkers a_many a_ones a_others a_kinds a_gone a_counts a_spots a_far a_row a_begins) sz) := by
  refine Met.ofW (cc := cX8_smallest) (maxL := 4) (ret := some .int) (by decide) rfl ?_
  intro p e s m args below meth c s₁ B hml hv
  obtain ⟨rfl, hsz, hP, hK, hD0, hN⟩ := hv
  have hx := B.exec
  have hb := B.bytes
  have hr := B.returns
  have hts := atoms_spec (ws := wsX8_smallest) B.pre
  have hown : s.vm.findClass RX8 = some m.cls := findClass_of_methodNamed B.named
  have hlocks := B.notSynchronized
  subst hsz
  have hD := hD0.self (sz := s.heap.size)
  generalize hAe : va_A (wX8_smallest cyI cyJ cyZ h h_text h_many h_ones h_others h_kinds h_firsts h_persons h_gone h_at h_fines h_undos h_seenOf h_seenOpen h_path h_told h_counts h_spots h_far h_row h_begins h_ways h_next i_length i_keptMany i_undoMany i_seenMany i_pathMany i_place i_found i_walkers a_many a_ones a_others a_kinds a_gone a_counts a_spots a_far a_row a_begins) s.heap.size = A at hD ⊢
  have hA : ∀ q : Nat, s.heap.size ≤ q → A q := fun q h => by rw [← hAe]; exact Or.inr h
  have hW : Wd (dC, dI) A s.heap (wX8_smallest cyI cyJ cyZ h h_text h_many h_ones h_others h_kinds h_firsts h_persons h_gone h_at h_fines h_undos h_seenOf h_seenOpen h_path h_told h_counts h_spots h_far h_row h_begins h_ways h_next i_length i_keptMany i_undoMany i_seenMany i_pathMany i_place i_found i_walkers a_many a_ones a_others a_kinds a_gone a_counts a_spots a_far a_row a_begins) s.heap [] := ⟨hP, hD, va_S.rf⟩
  have hw := hwp
  have hiX8 : ∀ w ∈ u_ws RX8 TX8 30, w ∈ wsX8_smallest := fun _ h => List.mem_cons_of_mem _ (List.mem_append_right _ h)
  have k_0 := hts (.fieldLink RX8 175 "OddLetsInModel" "found" "I") (List.mem_of_getElem? (i := 1) rfl)
  have k_1 := hts (.fieldLink RX8 64 "OddLetsInModel" "row" "[I") (List.mem_of_getElem? (i := 2) rfl)
  have W_11 : ∀ (n_11 : Nat) (x2 : Int32) (i_found : Int32) (i_walkers : Int32) (a_counts : Nat → Int32) (a_spots : Nat → Int32) (a_far : Nat → Int32) (a_row : Nat → Int32) (a_begins : Nat → Int32) (H : Heap) (locs : List Loc) (ls : Array Slot), Wd (dC, dI) A s.heap (wX8_smallest cyI cyJ cyZ h h_text h_many h_ones h_others h_kinds h_firsts h_persons h_gone h_at h_fines h_undos h_seenOf h_seenOpen h_path h_told h_counts h_spots h_far h_row h_begins h_ways h_next i_length i_keptMany i_undoMany i_seenMany i_pathMany i_place i_found i_walkers a_many a_ones a_others a_kinds a_gone a_counts a_spots a_far a_row a_begins) H locs → lv_has ls 4 [(0, .ref h), (1, .int x1), (2, .int x2)] → PX8_smallest_11 post x1 a_many a_ones a_others a_kinds a_gone n_11 x2 i_found i_walkers a_counts a_spots a_far a_row a_begins → W p l e (({ frames := 3, cells := 0, slots := 0, locals := 73 } : Room)) s m (([.ref h, .int x1] : List Value).toArray) below meth c H locs 0 0 (MQ below (qX8_smallest dC dI cyI cyJ cyZ h h_text h_many h_ones h_others h_kinds h_firsts h_persons h_gone h_at h_fines h_undos h_seenOf h_seenOpen h_path h_told h_counts h_spots h_far h_row h_begins h_ways h_next i_length i_keptMany i_undoMany i_seenMany i_pathMany i_place i_found i_walkers a_many a_ones a_others a_kinds a_gone a_counts a_spots a_far a_row a_begins post A) (([.ref h, .int x1] : List Value).toArray) s 0 0 A) (F0 m 11 ls []) := by
    intro n_11
    induction n_11 with
    | zero =>
      intro x2 i_found i_walkers a_counts a_spots a_far a_row a_begins H locs ls hW hl hw
      exact False.elim hw
    | succ n_11 ih_11 =>
      have W_27 : ∀ (x2 : Int32) (i_found : Int32) (i_walkers : Int32) (a_far : Nat → Int32) (a_row : Nat → Int32) (a_begins : Nat → Int32) (n_27 : Nat) (x3 : Int32) (a_counts : Nat → Int32) (a_spots : Nat → Int32) (H : Heap) (locs : List Loc) (ls : Array Slot), Wd (dC, dI) A s.heap (wX8_smallest cyI cyJ cyZ h h_text h_many h_ones h_others h_kinds h_firsts h_persons h_gone h_at h_fines h_undos h_seenOf h_seenOpen h_path h_told h_counts h_spots h_far h_row h_begins h_ways h_next i_length i_keptMany i_undoMany i_seenMany i_pathMany i_place i_found i_walkers a_many a_ones a_others a_kinds a_gone a_counts a_spots a_far a_row a_begins) H locs → lv_has ls 4 [(0, .ref h), (1, .int x1), (2, .int x2), (3, .int x3)] → PX8_smallest_27 post x1 a_many a_kinds (PX8_smallest_11 post x1 a_many a_ones a_others a_kinds a_gone n_11) x2 i_found i_walkers a_far a_row a_begins n_27 x3 a_counts a_spots → W p l e (({ frames := 3, cells := 0, slots := 0, locals := 73 } : Room)) s m (([.ref h, .int x1] : List Value).toArray) below meth c H locs 0 0 (MQ below (qX8_smallest dC dI cyI cyJ cyZ h h_text h_many h_ones h_others h_kinds h_firsts h_persons h_gone h_at h_fines h_undos h_seenOf h_seenOpen h_path h_told h_counts h_spots h_far h_row h_begins h_ways h_next i_length i_keptMany i_undoMany i_seenMany i_pathMany i_place i_found i_walkers a_many a_ones a_others a_kinds a_gone a_counts a_spots a_far a_row a_begins post A) (([.ref h, .int x1] : List Value).toArray) s 0 0 A) (F0 m 27 ls []) := by
        intro x2 i_found i_walkers a_far a_row a_begins n_27
        induction n_27 with
        | zero =>
          intro x3 a_counts a_spots H locs ls hW hl hw
          exact False.elim hw
        | succ n_27 ih_27 =>
          intro x3 a_counts a_spots H locs ls hW hl hw
          refine lv_iload_n hx hb dX8_smallest_27 rfl (lv_at hl 3 rfl) ?_
          refine lv_aload_n hx hb dX8_smallest_28 rfl (lv_at hl 0 rfl) ?_
          refine zw_get (ci := 8) (C := RX8) (T := TX8) (N := 30) (v := .int i_found) hx hb hts hiX8 hown hK hW 0 rfl rfl 26 (by decide) rfl k_0 dX8_smallest_29 ?_
          refine lv_icmp_ge (tgt := 62) hx hb dX8_smallest_32 (by decide) (fun c_1 => ?_) (fun c_1 => ?_)
          · replace hw := hw.1 c_1
            obtain ⟨x2_2, ex2_2⟩ : ∃ y : Int32, y = x2 + 1 := ⟨_, rfl⟩
            replace hw := hw x2_2 ex2_2
            refine lv_iinc (v := x2_2) (lv' := [(2, .int x2_2), (0, .ref h), (1, .int x1), (3, .int x3)]) hx hb dX8_smallest_62 hl (k := 2) rfl (by rw [ex2_2]; rfl) (by decide) rfl (fun ls hl => ?_)
            refine lv_goto (tgt := 11) hx hb dX8_smallest_65 (by decide) ?_
            exact ih_11 x2_2 i_found i_walkers a_counts a_spots a_far a_row a_begins _ _ _ hW (lv_sub hl [1, 2, 0] rfl) hw
          · replace hw := hw.2 c_1
            refine lv_aload_n hx hb dX8_smallest_35 rfl (lv_at hl 0 rfl) ?_
            refine lv_aload_n hx hb dX8_smallest_36 rfl (lv_at hl 0 rfl) ?_
            refine zw_get (ci := 8) (C := RX8) (T := TX8) (N := 30) (v := .ref h_row) hx hb hts hiX8 hown hK hW 0 rfl rfl 24 (by decide) rfl k_1 dX8_smallest_37 ?_
            refine lv_iload_n hx hb dX8_smallest_40 rfl (lv_at hl 3 rfl) ?_
            refine zw_iald hx hb hK hW 9 rfl rfl hw.1 dX8_smallest_41 ?_
            replace hw := hw.2
            refine zw_Vv ⟨hx, hb, hml, hown, hts⟩ hK hN hA hW 0 rfl (T := TX8) (N := 30) rfl [.int (a_row (x3).toNatClampNeg)] [] [0, 1, 4, 6, 7] [2, 3, 5, 8, 9, 10] [6, 7, 0, 1, 8, 2, 9, 10, 3, 4, 5] (fun u => (wX8_smallest cyI cyJ cyZ h h_text h_many h_ones h_others h_kinds h_firsts h_persons h_gone h_at h_fines h_undos h_seenOf h_seenOpen h_path h_told h_counts h_spots h_far h_row h_begins h_ways h_next i_length i_keptMany i_undoMany i_seenMany i_pathMany i_place i_found i_walkers a_many a_ones a_others a_kinds a_gone (u.1) (u.2) a_far a_row a_begins)) (mX8_take l dC dI cyI cyJ cyZ h h_text h_many h_ones h_others h_kinds h_firsts h_persons h_gone h_at h_fines h_undos h_seenOf h_seenOpen h_path h_told h_counts h_spots h_far h_row h_begins h_ways h_next _ i_length i_keptMany i_undoMany i_seenMany i_pathMany i_place i_found i_walkers a_many a_kinds a_counts a_spots (a_row (x3).toNatClampNeg) _ hw) (cwV 1 hts gX8_smallest_X8_take rfl rfl rfl (by decide +kernel) ⟨Nat.le_of_ble_eq_true rfl, Nat.le_of_ble_eq_true rfl⟩) rfl rfl rfl rfl (by decide) rfl (fun _ => rfl) rfl hl.1 rfl (Nat.le_of_ble_eq_true rfl) (Nat.le_of_ble_eq_true rfl) (Nat.le_of_ble_eq_true rfl) dX8_smallest_42 (fun u H locs hw hW => ?_)
            obtain ⟨a_counts_3, a_spots_4⟩ := u
            try dsimp only at hw
            replace hW : Wd (dC, dI) A s.heap (wX8_smallest cyI cyJ cyZ h h_text h_many h_ones h_others h_kinds h_firsts h_persons h_gone h_at h_fines h_undos h_seenOf h_seenOpen h_path h_told h_counts h_spots h_far h_row h_begins h_ways h_next i_length i_keptMany i_undoMany i_seenMany i_pathMany i_place i_found i_walkers a_many a_ones a_others a_kinds a_gone a_counts_3 a_spots_4 a_far a_row a_begins) H locs := hW
            refine lv_aload_n hx hb dX8_smallest_45 rfl (lv_at hl 0 rfl) ?_
            refine lv_iload_n hx hb dX8_smallest_46 rfl (lv_at hl 1 rfl) ?_
            refine lv_iconst (v := 0) hx hb dX8_smallest_47 (by decide) ?_
            refine zw_Vi ⟨hx, hb, hml, hown, hts⟩ hK hN hA hW 0 rfl (T := TX8) (N := 30) rfl [.int x1, .int 0] [] [0, 7] [1, 2, 3, 4, 5, 6, 8, 9, 10] [9, 0, 1, 2, 3, 4, 5, 10, 6, 7, 8] (fun _ => (wX8_smallest cyI cyJ cyZ h h_text h_many h_ones h_others h_kinds h_firsts h_persons h_gone h_at h_fines h_undos h_seenOf h_seenOpen h_path h_told h_counts h_spots h_far h_row h_begins h_ways h_next i_length i_keptMany i_undoMany i_seenMany i_pathMany i_place i_found i_walkers a_many a_ones a_others a_kinds a_gone a_counts_3 a_spots_4 a_far a_row a_begins)) (mX8_areThere l dC dI cyI cyJ cyZ h h_text h_many h_ones h_others h_kinds h_firsts h_persons h_gone h_at h_fines h_undos h_seenOf h_seenOpen h_path h_told h_counts h_spots h_far h_row h_begins h_ways h_next _ i_length i_keptMany i_undoMany i_seenMany i_pathMany i_place i_found i_walkers a_spots_4 x1 0 _ hw) (cwV 2 hts gX8_smallest_X8_areThere rfl rfl rfl (by decide +kernel) ⟨Nat.le_of_ble_eq_true rfl, Nat.le_of_ble_eq_true rfl⟩) rfl rfl rfl rfl (by decide) rfl (fun _ => rfl) rfl hl.1 rfl (Nat.le_of_ble_eq_true rfl) (Nat.le_of_ble_eq_true rfl) (Nat.le_of_ble_eq_true rfl) dX8_smallest_48 (fun r_5 u H locs hw hW => ?_)
            obtain ⟨br_5, hw⟩ := hw
            refine lv_if_eq (tgt := 56) hx hb dX8_smallest_51 (by decide) (fun c_6 => ?_) (fun c_6 => ?_)
            · replace hw := hw.1 c_6
              obtain ⟨x3_7, ex3_7⟩ : ∃ y : Int32, y = x3 + 1 := ⟨_, rfl⟩
              replace hw := hw x3_7 ex3_7
              refine lv_iinc (v := x3_7) (lv' := [(3, .int x3_7), (0, .ref h), (1, .int x1), (2, .int x2)]) hx hb dX8_smallest_56 hl (k := 3) rfl (by rw [ex3_7]; rfl) (by decide) rfl (fun ls hl => ?_)
              refine lv_goto (tgt := 27) hx hb dX8_smallest_59 (by decide) ?_
              exact ih_27 x3_7 a_counts_3 a_spots_4 _ _ _ hW (lv_sub hl [1, 2, 3, 0] rfl) hw
            · replace hw := hw.2 c_6
              refine lv_iload_n hx hb dX8_smallest_54 rfl (lv_at hl 2 rfl) ?_
              refine zw_iret (S := Int32 × Int32 × (Nat → Int32) × (Nat → Int32) × (Nat → Int32) × (Nat → Int32) × (Nat → Int32)) (post := fun r u => post r u.1 u.2.1 u.2.2.1 u.2.2.2.1 u.2.2.2.2.1 u.2.2.2.2.2.1 u.2.2.2.2.2.2) (i_found, i_walkers, a_counts_3, a_spots_4, a_far, a_row, a_begins) hx hb hr hlocks hK hW hw ?_ dX8_smallest_55
              rfl
      intro x2 i_found i_walkers a_counts a_spots a_far a_row a_begins H locs ls hW hl hw
      refine lv_iload_n hx hb dX8_smallest_11 rfl (lv_at hl 2 rfl) ?_
      refine lv_iconst (v := 3) hx hb dX8_smallest_12 (by decide) ?_
      refine lv_icmp_gt (tgt := 68) hx hb dX8_smallest_13 (by decide) (fun c_8 => ?_) (fun c_8 => ?_)
      · replace hw := hw.1 c_8
        refine lv_bipush (v := (-4)) hx hb dX8_smallest_68 (by decide) ?_
        refine zw_iret (S := Int32 × Int32 × (Nat → Int32) × (Nat → Int32) × (Nat → Int32) × (Nat → Int32) × (Nat → Int32)) (post := fun r u => post r u.1 u.2.1 u.2.2.1 u.2.2.2.1 u.2.2.2.2.1 u.2.2.2.2.2.1 u.2.2.2.2.2.2) (i_found, i_walkers, a_counts, a_spots, a_far, a_row, a_begins) hx hb hr hlocks hK hW hw ?_ dX8_smallest_70
        rfl
      · replace hw := hw.2 c_8
        refine lv_aload_n hx hb dX8_smallest_16 rfl (lv_at hl 0 rfl) ?_
        refine zw_Vv ⟨hx, hb, hml, hown, hts⟩ hK hN hA hW 0 rfl (T := TX8) (N := 30) rfl [] [] [0, 5, 6, 7] [1, 2, 3, 4, 8, 9, 10] [7, 0, 1, 2, 3, 8, 9, 10, 4, 5, 6] (fun u => (wX8_smallest cyI cyJ cyZ h h_text h_many h_ones h_others h_kinds h_firsts h_persons h_gone h_at h_fines h_undos h_seenOf h_seenOpen h_path h_told h_counts h_spots h_far h_row h_begins h_ways h_next i_length i_keptMany i_undoMany i_seenMany i_pathMany i_place i_found i_walkers a_many a_ones a_others a_kinds a_gone (u.1) (u.2) a_far a_row a_begins)) (mX8_layAtFirst l dC dI cyI cyJ cyZ h h_text h_many h_ones h_others h_kinds h_firsts h_persons h_gone h_at h_fines h_undos h_seenOf h_seenOpen h_path h_told h_counts h_spots h_far h_row h_begins h_ways h_next _ i_length i_keptMany i_undoMany i_seenMany i_pathMany i_place i_found i_walkers a_gone a_counts a_spots _ hw) (cwV 0 hts gX8_smallest_X8_layAtFirst rfl rfl rfl (by decide +kernel) ⟨Nat.le_of_ble_eq_true rfl, Nat.le_of_ble_eq_true rfl⟩) rfl rfl rfl rfl (by decide) rfl (fun _ => rfl) rfl hl.1 rfl (Nat.le_of_ble_eq_true rfl) (Nat.le_of_ble_eq_true rfl) (Nat.le_of_ble_eq_true rfl) dX8_smallest_17 (fun u H locs hw hW => ?_)
        obtain ⟨a_counts_9, a_spots_10⟩ := u
        try dsimp only at hw
        replace hW : Wd (dC, dI) A s.heap (wX8_smallest cyI cyJ cyZ h h_text h_many h_ones h_others h_kinds h_firsts h_persons h_gone h_at h_fines h_undos h_seenOf h_seenOpen h_path h_told h_counts h_spots h_far h_row h_begins h_ways h_next i_length i_keptMany i_undoMany i_seenMany i_pathMany i_place i_found i_walkers a_many a_ones a_others a_kinds a_gone a_counts_9 a_spots_10 a_far a_row a_begins) H locs := hW
        refine lv_aload_n hx hb dX8_smallest_20 rfl (lv_at hl 0 rfl) ?_
        refine lv_iload_n hx hb dX8_smallest_21 rfl (lv_at hl 2 rfl) ?_
        refine zw_Vv ⟨hx, hb, hml, hown, hts⟩ hK hN hA hW 0 rfl (T := TX8) (N := 30) rfl [.int x2] [] [0, 1, 2, 3, 4, 6, 7, 8, 9, 10] [5] [1, 2, 3, 4, 5, 0, 6, 7, 8, 9, 10] (fun u => (wX8_smallest cyI cyJ cyZ h h_text h_many h_ones h_others h_kinds h_firsts h_persons h_gone h_at h_fines h_undos h_seenOf h_seenOpen h_path h_told h_counts h_spots h_far h_row h_begins h_ways h_next i_length i_keptMany i_undoMany i_seenMany i_pathMany i_place (u.1) (u.2.1) a_many a_ones a_others a_kinds a_gone (u.2.2.1) (u.2.2.2.1) (u.2.2.2.2.1) (u.2.2.2.2.2.1) (u.2.2.2.2.2.2))) (mX8_search l dC dI cyI cyJ cyZ h h_text h_many h_ones h_others h_kinds h_firsts h_persons h_gone h_at h_fines h_undos h_seenOf h_seenOpen h_path h_told h_counts h_spots h_far h_row h_begins h_ways h_next _ i_length i_keptMany i_undoMany i_seenMany i_pathMany i_place i_found i_walkers a_many a_ones a_others a_kinds a_counts_9 a_spots_10 a_far a_row a_begins x2 _ hw) (cwV 1 hts gX8_smallest_X8_search rfl rfl rfl (by decide +kernel) ⟨Nat.le_of_ble_eq_true rfl, Nat.le_of_ble_eq_true rfl⟩) rfl rfl rfl rfl (by decide) rfl (fun _ => rfl) rfl hl.1 rfl (Nat.le_of_ble_eq_true rfl) (Nat.le_of_ble_eq_true rfl) (Nat.le_of_ble_eq_true rfl) dX8_smallest_22 (fun u H locs hw hW => ?_)
        obtain ⟨i_found_11, i_walkers_12, a_counts_13, a_spots_14, a_far_15, a_row_16, a_begins_17⟩ := u
        try dsimp only at hw
        replace hW : Wd (dC, dI) A s.heap (wX8_smallest cyI cyJ cyZ h h_text h_many h_ones h_others h_kinds h_firsts h_persons h_gone h_at h_fines h_undos h_seenOf h_seenOpen h_path h_told h_counts h_spots h_far h_row h_begins h_ways h_next i_length i_keptMany i_undoMany i_seenMany i_pathMany i_place i_found_11 i_walkers_12 a_many a_ones a_others a_kinds a_gone a_counts_13 a_spots_14 a_far_15 a_row_16 a_begins_17) H locs := hW
        refine lv_iconst (v := 0) hx hb dX8_smallest_25 (by decide) ?_
        refine lv_istore_n (lv' := [(3, .int 0), (0, .ref h), (1, .int x1), (2, .int x2)]) hx hb dX8_smallest_26 rfl hl (by decide) rfl (fun ls hl => ?_)
        obtain ⟨n_27, hw⟩ := hw
        exact W_27 x2 i_found_11 i_walkers_12 a_far_15 a_row_16 a_begins_17 n_27 0 a_counts_13 a_spots_14 _ _ _ hW (lv_sub hl [1, 2, 3, 0] rfl) hw
  have hl := lv_entry ([.ref h, .int x1]) (n := 4) (Nat.le_of_ble_eq_true rfl)
  rw [lg_entry_eq]
  generalize (lg_sl ([.ref h, .int x1]) ++ List.replicate (4 - (lg_sl ([.ref h, .int x1])).length) Slot.unset).toArray = ls at hl ⊢
  have hl : lv_has ls 4 [(0, .ref h), (1, .int x1)] := hl
  refine lv_iload_n hx hb dX8_smallest_0 rfl (lv_at hl 1 rfl) ?_
  refine zw_Si ⟨hx, hb, hml, hown, hts⟩ hK hN hA hW [.int x1] [] [] [0, 1, 2, 3, 4, 5, 6, 7, 8, 9, 10] [0, 1, 2, 3, 4, 5, 6, 7, 8, 9, 10] (fun _ => (wX8_smallest cyI cyJ cyZ h h_text h_many h_ones h_others h_kinds h_firsts h_persons h_gone h_at h_fines h_undos h_seenOf h_seenOpen h_path h_told h_counts h_spots h_far h_row h_begins h_ways h_next i_length i_keptMany i_undoMany i_seenMany i_pathMany i_place i_found i_walkers a_many a_ones a_others a_kinds a_gone a_counts a_spots a_far a_row a_begins)) (mX8_isCourt l dC dI cyI cyJ cyZ _ x1 _ hw) (va_cwS 1 hts gX8_smallest_X8_isCourt rfl rfl rfl (by decide +kernel) ⟨Nat.le_of_ble_eq_true rfl, Nat.le_of_ble_eq_true rfl⟩) rfl rfl rfl rfl (by decide) rfl (fun _ => rfl) rfl hl.1 rfl (Nat.le_of_ble_eq_true rfl) (Nat.le_of_ble_eq_true rfl) (Nat.le_of_ble_eq_true rfl) dX8_smallest_1 (fun r_18 u H locs hw hW => ?_)
  obtain ⟨br_18, hw⟩ := hw
  refine lv_if_ne (tgt := 9) hx hb dX8_smallest_4 (by decide) (fun c_19 => ?_) (fun c_19 => ?_)
  · replace hw := hw.2 c_19
    refine lv_iconst (v := 1) hx hb dX8_smallest_9 (by decide) ?_
    refine lv_istore_n (lv' := [(2, .int 1), (0, .ref h), (1, .int x1)]) hx hb dX8_smallest_10 rfl hl (by decide) rfl (fun ls hl => ?_)
    obtain ⟨n_11, hw⟩ := hw
    exact W_11  n_11 1 i_found i_walkers a_counts a_spots a_far a_row a_begins _ _ _ hW (lv_sub hl [1, 2, 0] rfl) hw
  · replace hw := hw.1 c_19
    refine lv_iconst (v := (-1)) hx hb dX8_smallest_7 (by decide) ?_
    refine zw_iret (S := Int32 × Int32 × (Nat → Int32) × (Nat → Int32) × (Nat → Int32) × (Nat → Int32) × (Nat → Int32)) (post := fun r u => post r u.1 u.2.1 u.2.2.1 u.2.2.2.1 u.2.2.2.2.1 u.2.2.2.2.2.1 u.2.2.2.2.2.2) (i_found, i_walkers, a_counts, a_spots, a_far, a_row, a_begins) hx hb hr hlocks hK hW hw ?_ dX8_smallest_8
    rfl
abbrev wX8_isSet (cyI cyJ cyZ : ClassId) (h h_text h_many h_ones h_others h_kinds h_firsts h_persons h_gone h_at h_fines h_undos h_seenOf h_seenOpen h_path h_told h_counts h_spots h_far h_row h_begins h_ways h_next : Nat) (i_length : Int32) (i_keptMany : Int32) (i_undoMany : Int32) (i_seenMany : Int32) (i_pathMany : Int32) (i_place : Int32) (i_found : Int32) (i_walkers : Int32) (a_many : Nat → Int32) : va_W := [(h, .inr (8, [.int i_length, .ref h_text, .ref h_many, .ref h_ones, .ref h_others, .ref h_kinds, .ref h_firsts, .ref h_persons, .ref h_gone, .ref h_at, .ref h_fines, .int i_keptMany, .int i_undoMany, .ref h_undos, .int i_seenMany, .ref h_seenOf, .ref h_seenOpen, .int i_pathMany, .ref h_path, .int i_place, .ref h_told, .ref h_counts, .ref h_spots, .ref h_far, .ref h_row, .ref h_begins, .int i_found, .int i_walkers, .ref h_ways, .ref h_next])), (h_many, .inl (cyI, 2, .inl a_many))]
abbrev qX8_isSet (dC : Nat → ClassId) (dI : Nat → Nat → Nat) (cyI cyJ cyZ : ClassId) (h h_text h_many h_ones h_others h_kinds h_firsts h_persons h_gone h_at h_fines h_undos h_seenOf h_seenOpen h_path h_told h_counts h_spots h_far h_row h_begins h_ways h_next : Nat) (i_length : Int32) (i_keptMany : Int32) (i_undoMany : Int32) (i_seenMany : Int32) (i_pathMany : Int32) (i_place : Int32) (i_found : Int32) (i_walkers : Int32) (a_many : Nat → Int32) (post : Int32 → Prop) (A : Nat → Prop) : Array Value → State → Outcome → State → Prop := (va_Qi (fun (r : Int32) (u : Unit) => (r = 0 ∨ r = 1) ∧ post r) (bW (dC, dI) (tyG cyI cyJ cyZ) A (fun _ : Unit => (wX8_isSet cyI cyJ cyZ h h_text h_many h_ones h_others h_kinds h_firsts h_persons h_gone h_at h_fines h_undos h_seenOf h_seenOpen h_path h_told h_counts h_spots h_far h_row h_begins h_ways h_next i_length i_keptMany i_undoMany i_seenMany i_pathMany i_place i_found i_walkers a_many))) A)
set_option maxHeartbeats 4000000 in
set_option maxRecDepth 100000 in
theorem mX8_isSet (l : Launch) (dC : Nat → ClassId) (dI : Nat → Nat → Nat) (cyI cyJ cyZ : ClassId) (h h_text h_many h_ones h_others h_kinds h_firsts h_persons h_gone h_at h_fines h_undos h_seenOf h_seenOpen h_path h_told h_counts h_spots h_far h_row h_begins h_ways h_next : Nat) (sz : Nat) (i_length : Int32) (i_keptMany : Int32) (i_undoMany : Int32) (i_seenMany : Int32) (i_pathMany : Int32) (i_place : Int32) (i_found : Int32) (i_walkers : Int32) (a_many : Nat → Int32) (x1 : Int32) (post : Int32 → Prop) (hwp : PX8_isSet x1 a_many post) : Met l yX8_isSet wsX8_isSet ({ frames := 1, cells := 0, slots := 0, locals := 25 } : Room) (va_Pc [.ref h, .int x1] (pcW (dC, dI) sz (wX8_isSet cyI cyJ cyZ h h_text h_many h_ones h_others h_kinds h_firsts h_persons h_gone h_at h_fines h_undos h_seenOf h_seenOpen h_path h_told h_counts h_spots h_far h_row h_begins h_ways h_next i_length i_keptMany i_undoMany i_seenMany i_pathMany i_place i_found i_walkers a_many) (tyG cyI cyJ cyZ))) (qX8_isSet dC dI cyI cyJ cyZ h h_text h_many h_ones h_others h_kinds h_firsts h_persons h_gone h_at h_fines h_undos h_seenOf h_seenOpen h_path h_told h_counts h_spots h_far h_row h_begins h_ways h_next i_length i_keptMany i_undoMany i_seenMany i_pathMany i_place i_found i_walkers a_many post (va_A (wX8_isSet cyI cyJ cyZ h h_text h_many h_ones h_others h_kinds h_firsts h_persons h_gone h_at h_fines h_undos h_seenOf h_seenOpen h_path h_told h_counts h_spots h_far h_row h_begins h_ways h_next i_length i_keptMany i_undoMany i_seenMany i_pathMany i_place i_found i_walkers a_many) sz)) 0 0 (va_A (wX8_isSet cyI cyJ cyZ h h_text h_many h_ones h_others h_kinds h_firsts h_persons h_gone h_at h_fines h_undos h_seenOf h_seenOpen h_path h_told h_counts h_spots h_far h_row h_begins h_ways h_next i_length i_keptMany i_undoMany i_seenMany i_pathMany i_place i_found i_walkers a_many) sz) := by
  refine Met.ofW (cc := cX8_isSet) (maxL := 2) (ret := some .boolean) (by decide) rfl ?_
  intro p e s m args below meth c s₁ B hml hv
  obtain ⟨rfl, hsz, hP, hK, hD0, hN⟩ := hv
  have hx := B.exec
  have hb := B.bytes
  have hr := B.returns
  have hts := atoms_spec (ws := wsX8_isSet) B.pre
  have hown : s.vm.findClass RX8 = some m.cls := findClass_of_methodNamed B.named
  have hlocks := B.notSynchronized
  subst hsz
  have hD := hD0.self (sz := s.heap.size)
  generalize hAe : va_A (wX8_isSet cyI cyJ cyZ h h_text h_many h_ones h_others h_kinds h_firsts h_persons h_gone h_at h_fines h_undos h_seenOf h_seenOpen h_path h_told h_counts h_spots h_far h_row h_begins h_ways h_next i_length i_keptMany i_undoMany i_seenMany i_pathMany i_place i_found i_walkers a_many) s.heap.size = A at hD ⊢
  have hA : ∀ q : Nat, s.heap.size ≤ q → A q := fun q h => by rw [← hAe]; exact Or.inr h
  have hW : Wd (dC, dI) A s.heap (wX8_isSet cyI cyJ cyZ h h_text h_many h_ones h_others h_kinds h_firsts h_persons h_gone h_at h_fines h_undos h_seenOf h_seenOpen h_path h_told h_counts h_spots h_far h_row h_begins h_ways h_next i_length i_keptMany i_undoMany i_seenMany i_pathMany i_place i_found i_walkers a_many) s.heap [] := ⟨hP, hD, va_S.rf⟩
  have hw := hwp
  have hiX8 : ∀ w ∈ u_ws RX8 TX8 30, w ∈ wsX8_isSet := fun _ h => List.mem_cons_of_mem _ (List.mem_append_right _ h)
  have k_0 := hts (.fieldLink RX8 13 "OddLetsInModel" "many" "[I") (List.mem_of_getElem? (i := 1) rfl)
  have hl := lv_entry ([.ref h, .int x1]) (n := 2) (Nat.le_of_ble_eq_true rfl)
  rw [lg_entry_eq]
  generalize (lg_sl ([.ref h, .int x1]) ++ List.replicate (2 - (lg_sl ([.ref h, .int x1])).length) Slot.unset).toArray = ls at hl ⊢
  have hl : lv_has ls 2 [(0, .ref h), (1, .int x1)] := hl
  refine lv_iload_n hx hb dX8_isSet_0 rfl (lv_at hl 1 rfl) ?_
  refine lv_i2l hx hb dX8_isSet_1 rfl ?_
  refine lv_lconst (v := 0) hx hb dX8_isSet_2 (by decide) ?_
  refine lv_iconst (v := 1) hx hb dX8_isSet_3 (by decide) ?_
  refine lv_aload_n hx hb dX8_isSet_4 rfl (lv_at hl 0 rfl) ?_
  refine zw_get (ci := 8) (C := RX8) (T := TX8) (N := 30) (v := .ref h_many) hx hb hts hiX8 hown hK hW 0 rfl rfl 2 (by decide) rfl k_0 dX8_isSet_5 ?_
  refine lv_iconst (v := 0) hx hb dX8_isSet_8 (by decide) ?_
  refine zw_iald hx hb hK hW 1 rfl rfl hw.1 dX8_isSet_9 ?_
  replace hw := hw.2
  refine lv_ishl hx hb dX8_isSet_10 ?_
  refine lv_iconst (v := 1) hx hb dX8_isSet_11 (by decide) ?_
  refine lv_isub hx hb dX8_isSet_12 ?_
  refine lv_i2l hx hb dX8_isSet_13 rfl ?_
  refine zw_Si ⟨hx, hb, hml, hown, hts⟩ hK hN hA hW [.long ((x1).toInt64), .long 0, .long ((((1 <<< ((a_many (0 : Int32).toNatClampNeg) &&& 31)) - 1)).toInt64)] [] [] [0, 1] [0, 1] (fun _ => (wX8_isSet cyI cyJ cyZ h h_text h_many h_ones h_others h_kinds h_firsts h_persons h_gone h_at h_fines h_undos h_seenOf h_seenOpen h_path h_told h_counts h_spots h_far h_row h_begins h_ways h_next i_length i_keptMany i_undoMany i_seenMany i_pathMany i_place i_found i_walkers a_many)) (mX8_in l dC dI cyI cyJ cyZ _ ((x1).toInt64) 0 ((((1 <<< ((a_many (0 : Int32).toNatClampNeg) &&& 31)) - 1)).toInt64) _ hw) (va_cwS 3 hts gX8_isSet_X8_in rfl rfl rfl (by decide +kernel) ⟨Nat.le_of_ble_eq_true rfl, Nat.le_of_ble_eq_true rfl⟩) rfl rfl rfl rfl (by decide) rfl (fun _ => rfl) rfl hl.1 rfl (Nat.le_of_ble_eq_true rfl) (Nat.le_of_ble_eq_true rfl) (Nat.le_of_ble_eq_true rfl) dX8_isSet_14 (fun r_1 u H locs hw hW => ?_)
  obtain ⟨br_1, hw⟩ := hw
  refine zw_zret (S := Unit) (post := fun r u => post r) () hx hb hr hlocks hK hW br_1 hw ?_ dX8_isSet_17
  rfl
abbrev wX8_mend (cyI cyJ cyZ : ClassId) (h h_text h_many h_ones h_others h_kinds h_firsts h_persons h_gone h_at h_fines h_undos h_seenOf h_seenOpen h_path h_told h_counts h_spots h_far h_row h_begins h_ways h_next : Nat) (i_length : Int32) (i_keptMany : Int32) (i_undoMany : Int32) (i_seenMany : Int32) (i_pathMany : Int32) (i_place : Int32) (i_found : Int32) (i_walkers : Int32) (a_many : Nat → Int32) (a_ones : Nat → Int32) (a_others : Nat → Int32) (a_kinds : Nat → Int32) (a_gone : Nat → Int32) (a_counts : Nat → Int32) (a_spots : Nat → Int32) (a_far : Nat → Int32) (a_row : Nat → Int32) (a_begins : Nat → Int32) : va_W := [(h, .inr (8, [.int i_length, .ref h_text, .ref h_many, .ref h_ones, .ref h_others, .ref h_kinds, .ref h_firsts, .ref h_persons, .ref h_gone, .ref h_at, .ref h_fines, .int i_keptMany, .int i_undoMany, .ref h_undos, .int i_seenMany, .ref h_seenOf, .ref h_seenOpen, .int i_pathMany, .ref h_path, .int i_place, .ref h_told, .ref h_counts, .ref h_spots, .ref h_far, .ref h_row, .ref h_begins, .int i_found, .int i_walkers, .ref h_ways, .ref h_next])), (h_many, .inl (cyI, 2, .inl a_many)), (h_ones, .inl (cyI, 10, .inl a_ones)), (h_others, .inl (cyI, 10, .inl a_others)), (h_kinds, .inl (cyI, 10, .inl a_kinds)), (h_gone, .inl (cyI, 15, .inl a_gone)), (h_counts, .inl (cyI, 5, .inl a_counts)), (h_spots, .inl (cyI, 3, .inl a_spots)), (h_far, .inl (cyI, 30400, .inl a_far)), (h_row, .inl (cyI, 30400, .inl a_row)), (h_begins, .inl (cyI, 30400, .inl a_begins))]
abbrev qX8_mend (dC : Nat → ClassId) (dI : Nat → Nat → Nat) (cyI cyJ cyZ : ClassId) (h h_text h_many h_ones h_others h_kinds h_firsts h_persons h_gone h_at h_fines h_undos h_seenOf h_seenOpen h_path h_told h_counts h_spots h_far h_row h_begins h_ways h_next : Nat) (i_length : Int32) (i_keptMany : Int32) (i_undoMany : Int32) (i_seenMany : Int32) (i_pathMany : Int32) (i_place : Int32) (i_found : Int32) (i_walkers : Int32) (a_many : Nat → Int32) (a_ones : Nat → Int32) (a_others : Nat → Int32) (a_kinds : Nat → Int32) (a_gone : Nat → Int32) (a_counts : Nat → Int32) (a_spots : Nat → Int32) (a_far : Nat → Int32) (a_row : Nat → Int32) (a_begins : Nat → Int32) (post : Int32 → Int32 → Int32 → (Nat → Int32) → (Nat → Int32) → (Nat → Int32) → (Nat → Int32) → (Nat → Int32) → Prop) (A : Nat → Prop) : Array Value → State → Outcome → State → Prop := (va_Qi (fun (r : Int32) (u : Int32 × Int32 × (Nat → Int32) × (Nat → Int32) × (Nat → Int32) × (Nat → Int32) × (Nat → Int32)) => post r u.1 u.2.1 u.2.2.1 u.2.2.2.1 u.2.2.2.2.1 u.2.2.2.2.2.1 u.2.2.2.2.2.2) (bW (dC, dI) (tyG cyI cyJ cyZ) A (fun u : Int32 × Int32 × (Nat → Int32) × (Nat → Int32) × (Nat → Int32) × (Nat → Int32) × (Nat → Int32) => (wX8_mend cyI cyJ cyZ h h_text h_many h_ones h_others h_kinds h_firsts h_persons h_gone h_at h_fines h_undos h_seenOf h_seenOpen h_path h_told h_counts h_spots h_far h_row h_begins h_ways h_next i_length i_keptMany i_undoMany i_seenMany i_pathMany i_place (u.1) (u.2.1) a_many a_ones a_others a_kinds a_gone (u.2.2.1) (u.2.2.2.1) (u.2.2.2.2.1) (u.2.2.2.2.2.1) (u.2.2.2.2.2.2)))) A)
set_option maxHeartbeats 4000000 in
set_option maxRecDepth 100000 in
theorem mX8_mend (l : Launch) (dC : Nat → ClassId) (dI : Nat → Nat → Nat) (cyI cyJ cyZ : ClassId) (h h_text h_many h_ones h_others h_kinds h_firsts h_persons h_gone h_at h_fines h_undos h_seenOf h_seenOpen h_path h_told h_counts h_spots h_far h_row h_begins h_ways h_next : Nat) (sz : Nat) (i_length : Int32) (i_keptMany : Int32) (i_undoMany : Int32) (i_seenMany : Int32) (i_pathMany : Int32) (i_place : Int32) (i_found : Int32) (i_walkers : Int32) (a_many : Nat → Int32) (a_ones : Nat → Int32) (a_others : Nat → Int32) (a_kinds : Nat → Int32) (a_gone : Nat → Int32) (a_counts : Nat → Int32) (a_spots : Nat → Int32) (a_far : Nat → Int32) (a_row : Nat → Int32) (a_begins : Nat → Int32) (x1 : Int32) (x2 : Int32) (post : Int32 → Int32 → Int32 → (Nat → Int32) → (Nat → Int32) → (Nat → Int32) → (Nat → Int32) → (Nat → Int32) → Prop) (hwp : PX8_mend x1 x2 i_found i_walkers a_many a_ones a_others a_kinds a_gone a_counts a_spots a_far a_row a_begins post) : Met l yX8_mend wsX8_mend ({ frames := 3, cells := 0, slots := 0, locals := 73 } : Room) (va_Pc [.ref h, .int x1, .int x2] (pcW (dC, dI) sz (wX8_mend cyI cyJ cyZ h h_text h_many h_ones h_others h_kinds h_firsts h_persons h_gone h_at h_fines h_undos h_seenOf h_seenOpen h_path h_told h_counts h_spots h_far h_row h_begins h_ways h_next i_length i_keptMany i_undoMany i_seenMany i_pathMany i_place i_found i_walkers a_many a_ones a_others a_kinds a_gone a_counts a_spots a_far a_row a_begins) (tyG cyI cyJ cyZ))) (qX8_mend dC dI cyI cyJ cyZ h h_text h_many h_ones h_others h_kinds h_firsts h_persons h_gone h_at h_fines h_undos h_seenOf h_seenOpen h_path h_told h_counts h_spots h_far h_row h_begins h_ways h_next i_length i_keptMany i_undoMany i_seenMany i_pathMany i_place i_found i_walkers a_many a_ones a_others a_kinds a_gone a_counts a_spots a_far a_row a_begins post (va_A (wX8_mend cyI cyJ cyZ h h_text h_many h_ones h_others h_kinds h_firsts h_persons h_gone h_at h_fines h_undos h_seenOf h_seenOpen h_path h_told h_counts h_spots h_far h_row h_begins h_ways h_next i_length i_keptMany i_undoMany i_seenMany i_pathMany i_place i_found i_walkers a_many a_ones a_others a_kinds a_gone a_counts a_spots a_far a_row a_begins) sz)) 0 0 (va_A (wX8_mend cyI cyJ cyZ h h_text h_many h_ones h_others h_kinds h_firsts h_persons h_gone h_at h_fines h_undos h_seenOf h_seenOpen h_path h_told h_counts h_spots h_far h_row h_begins h_ways h_next i_length i_keptMany i_undoMany i_seenMany i_pathMany i_place i_found i_walkers a_many a_ones a_others a_kinds a_gone a_counts a_spots a_far a_row a_begins) sz) := by
  refine Met.ofW (cc := cX8_mend) (maxL := 4) (ret := some .int) (by decide) rfl ?_
  intro p e s m args below meth c s₁ B hml hv
  obtain ⟨rfl, hsz, hP, hK, hD0, hN⟩ := hv
  have hx := B.exec
  have hb := B.bytes
  have hr := B.returns
  have hts := atoms_spec (ws := wsX8_mend) B.pre
  have hown : s.vm.findClass RX8 = some m.cls := findClass_of_methodNamed B.named
  have hlocks := B.notSynchronized
  subst hsz
  have hD := hD0.self (sz := s.heap.size)
  generalize hAe : va_A (wX8_mend cyI cyJ cyZ h h_text h_many h_ones h_others h_kinds h_firsts h_persons h_gone h_at h_fines h_undos h_seenOf h_seenOpen h_path h_told h_counts h_spots h_far h_row h_begins h_ways h_next i_length i_keptMany i_undoMany i_seenMany i_pathMany i_place i_found i_walkers a_many a_ones a_others a_kinds a_gone a_counts a_spots a_far a_row a_begins) s.heap.size = A at hD ⊢
  have hA : ∀ q : Nat, s.heap.size ≤ q → A q := fun q h => by rw [← hAe]; exact Or.inr h
  have hW : Wd (dC, dI) A s.heap (wX8_mend cyI cyJ cyZ h h_text h_many h_ones h_others h_kinds h_firsts h_persons h_gone h_at h_fines h_undos h_seenOf h_seenOpen h_path h_told h_counts h_spots h_far h_row h_begins h_ways h_next i_length i_keptMany i_undoMany i_seenMany i_pathMany i_place i_found i_walkers a_many a_ones a_others a_kinds a_gone a_counts a_spots a_far a_row a_begins) s.heap [] := ⟨hP, hD, va_S.rf⟩
  have hw := hwp
  have hiX8 : ∀ w ∈ u_ws RX8 TX8 30, w ∈ wsX8_mend := fun _ h => List.mem_cons_of_mem _ (List.mem_append_right _ h)
  have k_0 := hts (.fieldLink RX8 175 "OddLetsInModel" "found" "I") (List.mem_of_getElem? (i := 1) rfl)
  have k_1 := hts (.fieldLink RX8 64 "OddLetsInModel" "row" "[I") (List.mem_of_getElem? (i := 2) rfl)
  have k_2 := hts (.fieldLink RX8 67 "OddLetsInModel" "begins" "[I") (List.mem_of_getElem? (i := 4) rfl)
  have k_3 := hts (.fieldLink RX8 61 "OddLetsInModel" "far" "[I") (List.mem_of_getElem? (i := 3) rfl)
  have W_31 : ∀ (i_found : Int32) (i_walkers : Int32) (a_far : Nat → Int32) (a_row : Nat → Int32) (a_begins : Nat → Int32) (n_31 : Nat) (x3 : Int32) (a_counts : Nat → Int32) (a_spots : Nat → Int32) (H : Heap) (locs : List Loc) (ls : Array Slot), Wd (dC, dI) A s.heap (wX8_mend cyI cyJ cyZ h h_text h_many h_ones h_others h_kinds h_firsts h_persons h_gone h_at h_fines h_undos h_seenOf h_seenOpen h_path h_told h_counts h_spots h_far h_row h_begins h_ways h_next i_length i_keptMany i_undoMany i_seenMany i_pathMany i_place i_found i_walkers a_many a_ones a_others a_kinds a_gone a_counts a_spots a_far a_row a_begins) H locs → lv_has ls 4 [(0, .ref h), (1, .int x1), (2, .int x2), (3, .int x3)] → PX8_mend_31 post x1 x2 a_many a_kinds i_found i_walkers a_far a_row a_begins n_31 x3 a_counts a_spots → W p l e (({ frames := 3, cells := 0, slots := 0, locals := 73 } : Room)) s m (([.ref h, .int x1, .int x2] : List Value).toArray) below meth c H locs 0 0 (MQ below (qX8_mend dC dI cyI cyJ cyZ h h_text h_many h_ones h_others h_kinds h_firsts h_persons h_gone h_at h_fines h_undos h_seenOf h_seenOpen h_path h_told h_counts h_spots h_far h_row h_begins h_ways h_next i_length i_keptMany i_undoMany i_seenMany i_pathMany i_place i_found i_walkers a_many a_ones a_others a_kinds a_gone a_counts a_spots a_far a_row a_begins post A) (([.ref h, .int x1, .int x2] : List Value).toArray) s 0 0 A) (F0 m 31 ls []) := by
    intro i_found i_walkers a_far a_row a_begins n_31
    induction n_31 with
    | zero =>
      intro x3 a_counts a_spots H locs ls hW hl hw
      exact False.elim hw
    | succ n_31 ih_31 =>
      intro x3 a_counts a_spots H locs ls hW hl hw
      refine lv_iload_n hx hb dX8_mend_31 rfl (lv_at hl 3 rfl) ?_
      refine lv_aload_n hx hb dX8_mend_32 rfl (lv_at hl 0 rfl) ?_
      refine zw_get (ci := 8) (C := RX8) (T := TX8) (N := 30) (v := .int i_found) hx hb hts hiX8 hown hK hW 0 rfl rfl 26 (by decide) rfl k_0 dX8_mend_33 ?_
      refine lv_icmp_ge (tgt := 93) hx hb dX8_mend_36 (by decide) (fun c_1 => ?_) (fun c_1 => ?_)
      · replace hw := hw.1 c_1
        refine lv_bipush (v := (-4)) hx hb dX8_mend_93 (by decide) ?_
        refine zw_iret (S := Int32 × Int32 × (Nat → Int32) × (Nat → Int32) × (Nat → Int32) × (Nat → Int32) × (Nat → Int32)) (post := fun r u => post r u.1 u.2.1 u.2.2.1 u.2.2.2.1 u.2.2.2.2.1 u.2.2.2.2.2.1 u.2.2.2.2.2.2) (i_found, i_walkers, a_counts, a_spots, a_far, a_row, a_begins) hx hb hr hlocks hK hW hw ?_ dX8_mend_95
        rfl
      · replace hw := hw.2 c_1
        refine lv_aload_n hx hb dX8_mend_39 rfl (lv_at hl 0 rfl) ?_
        refine lv_aload_n hx hb dX8_mend_40 rfl (lv_at hl 0 rfl) ?_
        refine zw_get (ci := 8) (C := RX8) (T := TX8) (N := 30) (v := .ref h_row) hx hb hts hiX8 hown hK hW 0 rfl rfl 24 (by decide) rfl k_1 dX8_mend_41 ?_
        refine lv_iload_n hx hb dX8_mend_44 rfl (lv_at hl 3 rfl) ?_
        refine zw_iald hx hb hK hW 9 rfl rfl hw.1 dX8_mend_45 ?_
        replace hw := hw.2
        refine zw_Vv ⟨hx, hb, hml, hown, hts⟩ hK hN hA hW 0 rfl (T := TX8) (N := 30) rfl [.int (a_row (x3).toNatClampNeg)] [] [0, 1, 4, 6, 7] [2, 3, 5, 8, 9, 10] [6, 7, 0, 1, 8, 2, 9, 10, 3, 4, 5] (fun u => (wX8_mend cyI cyJ cyZ h h_text h_many h_ones h_others h_kinds h_firsts h_persons h_gone h_at h_fines h_undos h_seenOf h_seenOpen h_path h_told h_counts h_spots h_far h_row h_begins h_ways h_next i_length i_keptMany i_undoMany i_seenMany i_pathMany i_place i_found i_walkers a_many a_ones a_others a_kinds a_gone (u.1) (u.2) a_far a_row a_begins)) (mX8_take l dC dI cyI cyJ cyZ h h_text h_many h_ones h_others h_kinds h_firsts h_persons h_gone h_at h_fines h_undos h_seenOf h_seenOpen h_path h_told h_counts h_spots h_far h_row h_begins h_ways h_next _ i_length i_keptMany i_undoMany i_seenMany i_pathMany i_place i_found i_walkers a_many a_kinds a_counts a_spots (a_row (x3).toNatClampNeg) _ hw) (cwV 1 hts gX8_mend_X8_take rfl rfl rfl (by decide +kernel) ⟨Nat.le_of_ble_eq_true rfl, Nat.le_of_ble_eq_true rfl⟩) rfl rfl rfl rfl (by decide) rfl (fun _ => rfl) rfl hl.1 rfl (Nat.le_of_ble_eq_true rfl) (Nat.le_of_ble_eq_true rfl) (Nat.le_of_ble_eq_true rfl) dX8_mend_46 (fun u H locs hw hW => ?_)
        obtain ⟨a_counts_2, a_spots_3⟩ := u
        try dsimp only at hw
        replace hW : Wd (dC, dI) A s.heap (wX8_mend cyI cyJ cyZ h h_text h_many h_ones h_others h_kinds h_firsts h_persons h_gone h_at h_fines h_undos h_seenOf h_seenOpen h_path h_told h_counts h_spots h_far h_row h_begins h_ways h_next i_length i_keptMany i_undoMany i_seenMany i_pathMany i_place i_found i_walkers a_many a_ones a_others a_kinds a_gone a_counts_2 a_spots_3 a_far a_row a_begins) H locs := hW
        refine lv_aload_n hx hb dX8_mend_49 rfl (lv_at hl 0 rfl) ?_
        refine zw_Vi ⟨hx, hb, hml, hown, hts⟩ hK hN hA hW 0 rfl (T := TX8) (N := 30) rfl [] [] [0, 1, 4, 6] [2, 3, 5, 7, 8, 9, 10] [7, 8, 0, 1, 9, 2, 10, 3, 4, 5, 6] (fun _ => (wX8_mend cyI cyJ cyZ h h_text h_many h_ones h_others h_kinds h_firsts h_persons h_gone h_at h_fines h_undos h_seenOf h_seenOpen h_path h_told h_counts h_spots h_far h_row h_begins h_ways h_next i_length i_keptMany i_undoMany i_seenMany i_pathMany i_place i_found i_walkers a_many a_ones a_others a_kinds a_gone a_counts_2 a_spots_3 a_far a_row a_begins)) (mX8_openSet l dC dI cyI cyJ cyZ h h_text h_many h_ones h_others h_kinds h_firsts h_persons h_gone h_at h_fines h_undos h_seenOf h_seenOpen h_path h_told h_counts h_spots h_far h_row h_begins h_ways h_next _ i_length i_keptMany i_undoMany i_seenMany i_pathMany i_place i_found i_walkers a_many a_kinds a_counts_2 _ hw) (cwV 0 hts gX8_mend_X8_openSet rfl rfl rfl (by decide +kernel) ⟨Nat.le_of_ble_eq_true rfl, Nat.le_of_ble_eq_true rfl⟩) rfl rfl rfl rfl (by decide) rfl (fun _ => rfl) rfl hl.1 rfl (Nat.le_of_ble_eq_true rfl) (Nat.le_of_ble_eq_true rfl) (Nat.le_of_ble_eq_true rfl) dX8_mend_50 (fun r_4 u H locs hw hW => ?_)
        refine lv_iload_n hx hb dX8_mend_53 rfl (lv_at hl 1 rfl) ?_
        refine lv_icmp_ne (tgt := 87) hx hb dX8_mend_54 (by decide) (fun c_5 => ?_) (fun c_5 => ?_)
        · replace hw := hw.2 c_5
          obtain ⟨x3_6, ex3_6⟩ : ∃ y : Int32, y = x3 + 1 := ⟨_, rfl⟩
          replace hw := hw x3_6 ex3_6
          refine lv_iinc (v := x3_6) (lv' := [(3, .int x3_6), (0, .ref h), (1, .int x1), (2, .int x2)]) hx hb dX8_mend_87 hl (k := 3) rfl (by rw [ex3_6]; rfl) (by decide) rfl (fun ls hl => ?_)
          refine lv_goto (tgt := 31) hx hb dX8_mend_90 (by decide) ?_
          exact ih_31 x3_6 a_counts_2 a_spots_3 _ _ _ hW (lv_sub hl [1, 2, 3, 0] rfl) hw
        · replace hw := hw.1 c_5
          refine lv_iload_n hx hb dX8_mend_57 rfl (lv_at hl 2 rfl) ?_
          refine lv_if_ne (tgt := 75) hx hb dX8_mend_58 (by decide) (fun c_7 => ?_) (fun c_7 => ?_)
          · replace hw := hw.2 c_7
            refine lv_aload_n hx hb dX8_mend_75 rfl (lv_at hl 0 rfl) ?_
            refine zw_get (ci := 8) (C := RX8) (T := TX8) (N := 30) (v := .ref h_begins) hx hb hts hiX8 hown hK hW 0 rfl rfl 25 (by decide) rfl k_2 dX8_mend_76 ?_
            refine lv_aload_n hx hb dX8_mend_79 rfl (lv_at hl 0 rfl) ?_
            refine zw_get (ci := 8) (C := RX8) (T := TX8) (N := 30) (v := .ref h_row) hx hb hts hiX8 hown hK hW 0 rfl rfl 24 (by decide) rfl k_1 dX8_mend_80 ?_
            refine lv_iload_n hx hb dX8_mend_83 rfl (lv_at hl 3 rfl) ?_
            refine zw_iald hx hb hK hW 9 rfl rfl hw.1 dX8_mend_84 ?_
            replace hw := hw.2
            refine zw_iald hx hb hK hW 10 rfl rfl hw.1 dX8_mend_85 ?_
            replace hw := hw.2
            refine zw_iret (S := Int32 × Int32 × (Nat → Int32) × (Nat → Int32) × (Nat → Int32) × (Nat → Int32) × (Nat → Int32)) (post := fun r u => post r u.1 u.2.1 u.2.2.1 u.2.2.2.1 u.2.2.2.2.1 u.2.2.2.2.2.1 u.2.2.2.2.2.2) (i_found, i_walkers, a_counts_2, a_spots_3, a_far, a_row, a_begins) hx hb hr hlocks hK hW hw ?_ dX8_mend_86
            rfl
          · replace hw := hw.1 c_7
            refine lv_aload_n hx hb dX8_mend_61 rfl (lv_at hl 0 rfl) ?_
            refine zw_get (ci := 8) (C := RX8) (T := TX8) (N := 30) (v := .ref h_far) hx hb hts hiX8 hown hK hW 0 rfl rfl 23 (by decide) rfl k_3 dX8_mend_62 ?_
            refine lv_aload_n hx hb dX8_mend_65 rfl (lv_at hl 0 rfl) ?_
            refine zw_get (ci := 8) (C := RX8) (T := TX8) (N := 30) (v := .ref h_row) hx hb hts hiX8 hown hK hW 0 rfl rfl 24 (by decide) rfl k_1 dX8_mend_66 ?_
            refine lv_iload_n hx hb dX8_mend_69 rfl (lv_at hl 3 rfl) ?_
            refine zw_iald hx hb hK hW 9 rfl rfl hw.1 dX8_mend_70 ?_
            replace hw := hw.2
            refine zw_iald hx hb hK hW 8 rfl rfl hw.1 dX8_mend_71 ?_
            replace hw := hw.2
            refine lv_goto (tgt := 86) hx hb dX8_mend_72 (by decide) ?_
            refine zw_iret (S := Int32 × Int32 × (Nat → Int32) × (Nat → Int32) × (Nat → Int32) × (Nat → Int32) × (Nat → Int32)) (post := fun r u => post r u.1 u.2.1 u.2.2.1 u.2.2.2.1 u.2.2.2.2.1 u.2.2.2.2.2.1 u.2.2.2.2.2.2) (i_found, i_walkers, a_counts_2, a_spots_3, a_far, a_row, a_begins) hx hb hr hlocks hK hW hw ?_ dX8_mend_86
            rfl
  have hl := lv_entry ([.ref h, .int x1, .int x2]) (n := 4) (Nat.le_of_ble_eq_true rfl)
  rw [lg_entry_eq]
  generalize (lg_sl ([.ref h, .int x1, .int x2]) ++ List.replicate (4 - (lg_sl ([.ref h, .int x1, .int x2])).length) Slot.unset).toArray = ls at hl ⊢
  have hl : lv_has ls 4 [(0, .ref h), (1, .int x1), (2, .int x2)] := hl
  refine lv_aload_n hx hb dX8_mend_0 rfl (lv_at hl 0 rfl) ?_
  refine lv_iload_n hx hb dX8_mend_1 rfl (lv_at hl 1 rfl) ?_
  refine zw_Vi ⟨hx, hb, hml, hown, hts⟩ hK hN hA hW 0 rfl (T := TX8) (N := 30) rfl [.int x1] [] [0, 1] [2, 3, 4, 5, 6, 7, 8, 9, 10] [9, 10, 0, 1, 2, 3, 4, 5, 6, 7, 8] (fun _ => (wX8_mend cyI cyJ cyZ h h_text h_many h_ones h_others h_kinds h_firsts h_persons h_gone h_at h_fines h_undos h_seenOf h_seenOpen h_path h_told h_counts h_spots h_far h_row h_begins h_ways h_next i_length i_keptMany i_undoMany i_seenMany i_pathMany i_place i_found i_walkers a_many a_ones a_others a_kinds a_gone a_counts a_spots a_far a_row a_begins)) (mX8_isSet l dC dI cyI cyJ cyZ h h_text h_many h_ones h_others h_kinds h_firsts h_persons h_gone h_at h_fines h_undos h_seenOf h_seenOpen h_path h_told h_counts h_spots h_far h_row h_begins h_ways h_next _ i_length i_keptMany i_undoMany i_seenMany i_pathMany i_place i_found i_walkers a_many x1 _ hw) (cwV 1 hts gX8_mend_X8_isSet rfl rfl rfl (by decide +kernel) ⟨Nat.le_of_ble_eq_true rfl, Nat.le_of_ble_eq_true rfl⟩) rfl rfl rfl rfl (by decide) rfl (fun _ => rfl) rfl hl.1 rfl (Nat.le_of_ble_eq_true rfl) (Nat.le_of_ble_eq_true rfl) (Nat.le_of_ble_eq_true rfl) dX8_mend_2 (fun r_8 u H locs hw hW => ?_)
  obtain ⟨br_8, hw⟩ := hw
  refine lv_if_eq (tgt := 18) hx hb dX8_mend_5 (by decide) (fun c_9 => ?_) (fun c_9 => ?_)
  · replace hw := hw.1 c_9
    refine lv_iconst (v := (-1)) hx hb dX8_mend_18 (by decide) ?_
    refine zw_iret (S := Int32 × Int32 × (Nat → Int32) × (Nat → Int32) × (Nat → Int32) × (Nat → Int32) × (Nat → Int32)) (post := fun r u => post r u.1 u.2.1 u.2.2.1 u.2.2.2.1 u.2.2.2.2.1 u.2.2.2.2.2.1 u.2.2.2.2.2.2) (i_found, i_walkers, a_counts, a_spots, a_far, a_row, a_begins) hx hb hr hlocks hK hW hw ?_ dX8_mend_19
    rfl
  · replace hw := hw.2 c_9
    refine lv_iload_n hx hb dX8_mend_8 rfl (lv_at hl 2 rfl) ?_
    refine lv_i2l hx hb dX8_mend_9 rfl ?_
    refine lv_lconst (v := 0) hx hb dX8_mend_10 (by decide) ?_
    refine lv_lconst (v := 1) hx hb dX8_mend_11 (by decide) ?_
    refine zw_Si ⟨hx, hb, hml, hown, hts⟩ hK hN hA hW [.long ((x2).toInt64), .long 0, .long 1] [] [] [0, 1, 2, 3, 4, 5, 6, 7, 8, 9, 10] [0, 1, 2, 3, 4, 5, 6, 7, 8, 9, 10] (fun _ => (wX8_mend cyI cyJ cyZ h h_text h_many h_ones h_others h_kinds h_firsts h_persons h_gone h_at h_fines h_undos h_seenOf h_seenOpen h_path h_told h_counts h_spots h_far h_row h_begins h_ways h_next i_length i_keptMany i_undoMany i_seenMany i_pathMany i_place i_found i_walkers a_many a_ones a_others a_kinds a_gone a_counts a_spots a_far a_row a_begins)) (mX8_in l dC dI cyI cyJ cyZ _ ((x2).toInt64) 0 1 _ hw) (va_cwS 3 hts gX8_mend_X8_in rfl rfl rfl (by decide +kernel) ⟨Nat.le_of_ble_eq_true rfl, Nat.le_of_ble_eq_true rfl⟩) rfl rfl rfl rfl (by decide) rfl (fun _ => rfl) rfl hl.1 rfl (Nat.le_of_ble_eq_true rfl) (Nat.le_of_ble_eq_true rfl) (Nat.le_of_ble_eq_true rfl) dX8_mend_12 (fun r_10 u H locs hw hW => ?_)
    obtain ⟨br_10, hw⟩ := hw
    refine lv_if_ne (tgt := 20) hx hb dX8_mend_15 (by decide) (fun c_11 => ?_) (fun c_11 => ?_)
    · replace hw := hw.2 c_11
      refine lv_aload_n hx hb dX8_mend_20 rfl (lv_at hl 0 rfl) ?_
      refine zw_Vv ⟨hx, hb, hml, hown, hts⟩ hK hN hA hW 0 rfl (T := TX8) (N := 30) rfl [] [] [0, 5, 6, 7] [1, 2, 3, 4, 8, 9, 10] [7, 0, 1, 2, 3, 8, 9, 10, 4, 5, 6] (fun u => (wX8_mend cyI cyJ cyZ h h_text h_many h_ones h_others h_kinds h_firsts h_persons h_gone h_at h_fines h_undos h_seenOf h_seenOpen h_path h_told h_counts h_spots h_far h_row h_begins h_ways h_next i_length i_keptMany i_undoMany i_seenMany i_pathMany i_place i_found i_walkers a_many a_ones a_others a_kinds a_gone (u.1) (u.2) a_far a_row a_begins)) (mX8_layAtFirst l dC dI cyI cyJ cyZ h h_text h_many h_ones h_others h_kinds h_firsts h_persons h_gone h_at h_fines h_undos h_seenOf h_seenOpen h_path h_told h_counts h_spots h_far h_row h_begins h_ways h_next _ i_length i_keptMany i_undoMany i_seenMany i_pathMany i_place i_found i_walkers a_gone a_counts a_spots _ hw) (cwV 0 hts gX8_mend_X8_layAtFirst rfl rfl rfl (by decide +kernel) ⟨Nat.le_of_ble_eq_true rfl, Nat.le_of_ble_eq_true rfl⟩) rfl rfl rfl rfl (by decide) rfl (fun _ => rfl) rfl hl.1 rfl (Nat.le_of_ble_eq_true rfl) (Nat.le_of_ble_eq_true rfl) (Nat.le_of_ble_eq_true rfl) dX8_mend_21 (fun u H locs hw hW => ?_)
      obtain ⟨a_counts_12, a_spots_13⟩ := u
      try dsimp only at hw
      replace hW : Wd (dC, dI) A s.heap (wX8_mend cyI cyJ cyZ h h_text h_many h_ones h_others h_kinds h_firsts h_persons h_gone h_at h_fines h_undos h_seenOf h_seenOpen h_path h_told h_counts h_spots h_far h_row h_begins h_ways h_next i_length i_keptMany i_undoMany i_seenMany i_pathMany i_place i_found i_walkers a_many a_ones a_others a_kinds a_gone a_counts_12 a_spots_13 a_far a_row a_begins) H locs := hW
      refine lv_aload_n hx hb dX8_mend_24 rfl (lv_at hl 0 rfl) ?_
      refine lv_iconst (v := 1) hx hb dX8_mend_25 (by decide) ?_
      refine zw_Vv ⟨hx, hb, hml, hown, hts⟩ hK hN hA hW 0 rfl (T := TX8) (N := 30) rfl [.int 1] [] [0, 1, 2, 3, 4, 6, 7, 8, 9, 10] [5] [1, 2, 3, 4, 5, 0, 6, 7, 8, 9, 10] (fun u => (wX8_mend cyI cyJ cyZ h h_text h_many h_ones h_others h_kinds h_firsts h_persons h_gone h_at h_fines h_undos h_seenOf h_seenOpen h_path h_told h_counts h_spots h_far h_row h_begins h_ways h_next i_length i_keptMany i_undoMany i_seenMany i_pathMany i_place (u.1) (u.2.1) a_many a_ones a_others a_kinds a_gone (u.2.2.1) (u.2.2.2.1) (u.2.2.2.2.1) (u.2.2.2.2.2.1) (u.2.2.2.2.2.2))) (mX8_search l dC dI cyI cyJ cyZ h h_text h_many h_ones h_others h_kinds h_firsts h_persons h_gone h_at h_fines h_undos h_seenOf h_seenOpen h_path h_told h_counts h_spots h_far h_row h_begins h_ways h_next _ i_length i_keptMany i_undoMany i_seenMany i_pathMany i_place i_found i_walkers a_many a_ones a_others a_kinds a_counts_12 a_spots_13 a_far a_row a_begins 1 _ hw) (cwV 1 hts gX8_mend_X8_search rfl rfl rfl (by decide +kernel) ⟨Nat.le_of_ble_eq_true rfl, Nat.le_of_ble_eq_true rfl⟩) rfl rfl rfl rfl (by decide) rfl (fun _ => rfl) rfl hl.1 rfl (Nat.le_of_ble_eq_true rfl) (Nat.le_of_ble_eq_true rfl) (Nat.le_of_ble_eq_true rfl) dX8_mend_26 (fun u H locs hw hW => ?_)
      obtain ⟨i_found_14, i_walkers_15, a_counts_16, a_spots_17, a_far_18, a_row_19, a_begins_20⟩ := u
      try dsimp only at hw
      replace hW : Wd (dC, dI) A s.heap (wX8_mend cyI cyJ cyZ h h_text h_many h_ones h_others h_kinds h_firsts h_persons h_gone h_at h_fines h_undos h_seenOf h_seenOpen h_path h_told h_counts h_spots h_far h_row h_begins h_ways h_next i_length i_keptMany i_undoMany i_seenMany i_pathMany i_place i_found_14 i_walkers_15 a_many a_ones a_others a_kinds a_gone a_counts_16 a_spots_17 a_far_18 a_row_19 a_begins_20) H locs := hW
      refine lv_iconst (v := 0) hx hb dX8_mend_29 (by decide) ?_
      refine lv_istore_n (lv' := [(3, .int 0), (0, .ref h), (1, .int x1), (2, .int x2)]) hx hb dX8_mend_30 rfl hl (by decide) rfl (fun ls hl => ?_)
      obtain ⟨n_31, hw⟩ := hw
      exact W_31 i_found_14 i_walkers_15 a_far_18 a_row_19 a_begins_20 n_31 0 a_counts_16 a_spots_17 _ _ _ hW (lv_sub hl [1, 2, 3, 0] rfl) hw
    · replace hw := hw.1 c_11
      refine lv_iconst (v := (-1)) hx hb dX8_mend_18 (by decide) ?_
      refine zw_iret (S := Int32 × Int32 × (Nat → Int32) × (Nat → Int32) × (Nat → Int32) × (Nat → Int32) × (Nat → Int32)) (post := fun r u => post r u.1 u.2.1 u.2.2.1 u.2.2.2.1 u.2.2.2.2.1 u.2.2.2.2.2.1 u.2.2.2.2.2.2) (i_found, i_walkers, a_counts, a_spots, a_far, a_row, a_begins) hx hb hr hlocks hK hW hw ?_ dX8_mend_19
      rfl
abbrev wX8_seen (cyI cyJ cyZ : ClassId) (h h_text h_many h_ones h_others h_kinds h_firsts h_persons h_gone h_at h_fines h_undos h_seenOf h_seenOpen h_path h_told h_counts h_spots h_far h_row h_begins h_ways h_next : Nat) (i_length : Int32) (i_keptMany : Int32) (i_undoMany : Int32) (i_seenMany : Int32) (i_pathMany : Int32) (i_place : Int32) (i_found : Int32) (i_walkers : Int32) (a_many : Nat → Int32) (a_seenOf : Nat → Int32) (a_seenOpen : Nat → Int32) : va_W := [(h, .inr (8, [.int i_length, .ref h_text, .ref h_many, .ref h_ones, .ref h_others, .ref h_kinds, .ref h_firsts, .ref h_persons, .ref h_gone, .ref h_at, .ref h_fines, .int i_keptMany, .int i_undoMany, .ref h_undos, .int i_seenMany, .ref h_seenOf, .ref h_seenOpen, .int i_pathMany, .ref h_path, .int i_place, .ref h_told, .ref h_counts, .ref h_spots, .ref h_far, .ref h_row, .ref h_begins, .int i_found, .int i_walkers, .ref h_ways, .ref h_next])), (h_many, .inl (cyI, 2, .inl a_many)), (h_seenOf, .inl (cyI, 10, .inl a_seenOf)), (h_seenOpen, .inl (cyI, 10, .inl a_seenOpen))]
abbrev qX8_seen (dC : Nat → ClassId) (dI : Nat → Nat → Nat) (cyI cyJ cyZ : ClassId) (h h_text h_many h_ones h_others h_kinds h_firsts h_persons h_gone h_at h_fines h_undos h_seenOf h_seenOpen h_path h_told h_counts h_spots h_far h_row h_begins h_ways h_next : Nat) (i_length : Int32) (i_keptMany : Int32) (i_undoMany : Int32) (i_seenMany : Int32) (i_pathMany : Int32) (i_place : Int32) (i_found : Int32) (i_walkers : Int32) (a_many : Nat → Int32) (a_seenOf : Nat → Int32) (a_seenOpen : Nat → Int32) (post : Int32 → Int32 → (Nat → Int32) → (Nat → Int32) → Prop) (A : Nat → Prop) : Array Value → State → Outcome → State → Prop := (va_Qi (fun (r : Int32) (u : Int32 × (Nat → Int32) × (Nat → Int32)) => post r u.1 u.2.1 u.2.2) (bW (dC, dI) (tyG cyI cyJ cyZ) A (fun u : Int32 × (Nat → Int32) × (Nat → Int32) => (wX8_seen cyI cyJ cyZ h h_text h_many h_ones h_others h_kinds h_firsts h_persons h_gone h_at h_fines h_undos h_seenOf h_seenOpen h_path h_told h_counts h_spots h_far h_row h_begins h_ways h_next i_length i_keptMany i_undoMany (u.1) i_pathMany i_place i_found i_walkers a_many (u.2.1) (u.2.2)))) A)
set_option maxHeartbeats 4000000 in
set_option maxRecDepth 100000 in
theorem mX8_seen (l : Launch) (dC : Nat → ClassId) (dI : Nat → Nat → Nat) (cyI cyJ cyZ : ClassId) (h h_text h_many h_ones h_others h_kinds h_firsts h_persons h_gone h_at h_fines h_undos h_seenOf h_seenOpen h_path h_told h_counts h_spots h_far h_row h_begins h_ways h_next : Nat) (sz : Nat) (i_length : Int32) (i_keptMany : Int32) (i_undoMany : Int32) (i_seenMany : Int32) (i_pathMany : Int32) (i_place : Int32) (i_found : Int32) (i_walkers : Int32) (a_many : Nat → Int32) (a_seenOf : Nat → Int32) (a_seenOpen : Nat → Int32) (x1 : Int32) (x2 : Int32) (post : Int32 → Int32 → (Nat → Int32) → (Nat → Int32) → Prop) (hwp : PX8_seen x1 x2 i_seenMany a_many a_seenOf a_seenOpen post) : Met l yX8_seen wsX8_seen ({ frames := 2, cells := 0, slots := 0, locals := 46 } : Room) (va_Pc [.ref h, .int x1, .int x2] (pcW (dC, dI) sz (wX8_seen cyI cyJ cyZ h h_text h_many h_ones h_others h_kinds h_firsts h_persons h_gone h_at h_fines h_undos h_seenOf h_seenOpen h_path h_told h_counts h_spots h_far h_row h_begins h_ways h_next i_length i_keptMany i_undoMany i_seenMany i_pathMany i_place i_found i_walkers a_many a_seenOf a_seenOpen) (tyG cyI cyJ cyZ))) (qX8_seen dC dI cyI cyJ cyZ h h_text h_many h_ones h_others h_kinds h_firsts h_persons h_gone h_at h_fines h_undos h_seenOf h_seenOpen h_path h_told h_counts h_spots h_far h_row h_begins h_ways h_next i_length i_keptMany i_undoMany i_seenMany i_pathMany i_place i_found i_walkers a_many a_seenOf a_seenOpen post (va_A (wX8_seen cyI cyJ cyZ h h_text h_many h_ones h_others h_kinds h_firsts h_persons h_gone h_at h_fines h_undos h_seenOf h_seenOpen h_path h_told h_counts h_spots h_far h_row h_begins h_ways h_next i_length i_keptMany i_undoMany i_seenMany i_pathMany i_place i_found i_walkers a_many a_seenOf a_seenOpen) sz)) 0 0 (va_A (wX8_seen cyI cyJ cyZ h h_text h_many h_ones h_others h_kinds h_firsts h_persons h_gone h_at h_fines h_undos h_seenOf h_seenOpen h_path h_told h_counts h_spots h_far h_row h_begins h_ways h_next i_length i_keptMany i_undoMany i_seenMany i_pathMany i_place i_found i_walkers a_many a_seenOf a_seenOpen) sz) := by
  refine Met.ofW (cc := cX8_seen) (maxL := 3) (ret := some .int) (by decide) rfl ?_
  intro p e s m args below meth c s₁ B hml hv
  obtain ⟨rfl, hsz, hP, hK, hD0, hN⟩ := hv
  have hx := B.exec
  have hb := B.bytes
  have hr := B.returns
  have hts := atoms_spec (ws := wsX8_seen) B.pre
  have hown : s.vm.findClass RX8 = some m.cls := findClass_of_methodNamed B.named
  have hlocks := B.notSynchronized
  subst hsz
  have hD := hD0.self (sz := s.heap.size)
  generalize hAe : va_A (wX8_seen cyI cyJ cyZ h h_text h_many h_ones h_others h_kinds h_firsts h_persons h_gone h_at h_fines h_undos h_seenOf h_seenOpen h_path h_told h_counts h_spots h_far h_row h_begins h_ways h_next i_length i_keptMany i_undoMany i_seenMany i_pathMany i_place i_found i_walkers a_many a_seenOf a_seenOpen) s.heap.size = A at hD ⊢
  have hA : ∀ q : Nat, s.heap.size ≤ q → A q := fun q h => by rw [← hAe]; exact Or.inr h
  have hW : Wd (dC, dI) A s.heap (wX8_seen cyI cyJ cyZ h h_text h_many h_ones h_others h_kinds h_firsts h_persons h_gone h_at h_fines h_undos h_seenOf h_seenOpen h_path h_told h_counts h_spots h_far h_row h_begins h_ways h_next i_length i_keptMany i_undoMany i_seenMany i_pathMany i_place i_found i_walkers a_many a_seenOf a_seenOpen) s.heap [] := ⟨hP, hD, va_S.rf⟩
  have hw := hwp
  have hiX8 : ∀ w ∈ u_ws RX8 TX8 30, w ∈ wsX8_seen := fun _ h => List.mem_cons_of_mem _ (List.mem_append_right _ h)
  have k_0 := hts (.fieldLink RX8 125 "OddLetsInModel" "seenMany" "I") (List.mem_of_getElem? (i := 1) rfl)
  have k_1 := hts (.fieldLink RX8 43 "OddLetsInModel" "seenOf" "[I") (List.mem_of_getElem? (i := 2) rfl)
  have k_2 := hts (.fieldLink RX8 46 "OddLetsInModel" "seenOpen" "[I") (List.mem_of_getElem? (i := 3) rfl)
  have hl := lv_entry ([.ref h, .int x1, .int x2]) (n := 3) (Nat.le_of_ble_eq_true rfl)
  rw [lg_entry_eq]
  generalize (lg_sl ([.ref h, .int x1, .int x2]) ++ List.replicate (3 - (lg_sl ([.ref h, .int x1, .int x2])).length) Slot.unset).toArray = ls at hl ⊢
  have hl : lv_has ls 3 [(0, .ref h), (1, .int x1), (2, .int x2)] := hl
  refine lv_aload_n hx hb dX8_seen_0 rfl (lv_at hl 0 rfl) ?_
  refine lv_iload_n hx hb dX8_seen_1 rfl (lv_at hl 1 rfl) ?_
  refine zw_Vi ⟨hx, hb, hml, hown, hts⟩ hK hN hA hW 0 rfl (T := TX8) (N := 30) rfl [.int x1] [] [0, 1] [2, 3] [2, 3, 0, 1] (fun _ => (wX8_seen cyI cyJ cyZ h h_text h_many h_ones h_others h_kinds h_firsts h_persons h_gone h_at h_fines h_undos h_seenOf h_seenOpen h_path h_told h_counts h_spots h_far h_row h_begins h_ways h_next i_length i_keptMany i_undoMany i_seenMany i_pathMany i_place i_found i_walkers a_many a_seenOf a_seenOpen)) (mX8_isGate l dC dI cyI cyJ cyZ h h_text h_many h_ones h_others h_kinds h_firsts h_persons h_gone h_at h_fines h_undos h_seenOf h_seenOpen h_path h_told h_counts h_spots h_far h_row h_begins h_ways h_next _ i_length i_keptMany i_undoMany i_seenMany i_pathMany i_place i_found i_walkers a_many x1 _ hw) (cwV 1 hts gX8_seen_X8_isGate rfl rfl rfl (by decide +kernel) ⟨Nat.le_of_ble_eq_true rfl, Nat.le_of_ble_eq_true rfl⟩) rfl rfl rfl rfl (by decide) rfl (fun _ => rfl) rfl hl.1 rfl (Nat.le_of_ble_eq_true rfl) (Nat.le_of_ble_eq_true rfl) (Nat.le_of_ble_eq_true rfl) dX8_seen_2 (fun r_1 u H locs hw hW => ?_)
  obtain ⟨br_1, hw⟩ := hw
  refine lv_if_ne (tgt := 10) hx hb dX8_seen_5 (by decide) (fun c_2 => ?_) (fun c_2 => ?_)
  · replace hw := hw.2 c_2
    refine lv_aload_n hx hb dX8_seen_10 rfl (lv_at hl 0 rfl) ?_
    refine zw_get (ci := 8) (C := RX8) (T := TX8) (N := 30) (v := .int i_seenMany) hx hb hts hiX8 hown hK hW 0 rfl rfl 14 (by decide) rfl k_0 dX8_seen_11 ?_
    refine lv_bipush (v := 10) hx hb dX8_seen_14 (by decide) ?_
    refine lv_icmp_ne (tgt := 22) hx hb dX8_seen_16 (by decide) (fun c_3 => ?_) (fun c_3 => ?_)
    · replace hw := hw.2 c_3
      refine lv_aload_n hx hb dX8_seen_22 rfl (lv_at hl 0 rfl) ?_
      refine zw_get (ci := 8) (C := RX8) (T := TX8) (N := 30) (v := .ref h_seenOf) hx hb hts hiX8 hown hK hW 0 rfl rfl 15 (by decide) rfl k_1 dX8_seen_23 ?_
      refine lv_aload_n hx hb dX8_seen_26 rfl (lv_at hl 0 rfl) ?_
      refine zw_get (ci := 8) (C := RX8) (T := TX8) (N := 30) (v := .int i_seenMany) hx hb hts hiX8 hown hK hW 0 rfl rfl 14 (by decide) rfl k_0 dX8_seen_27 ?_
      refine lv_iload_n hx hb dX8_seen_30 rfl (lv_at hl 1 rfl) ?_
      refine zw_iast hx hb hK hW 2 rfl rfl hw.1 (w2 := fun a_seenOf_4 => (wX8_seen cyI cyJ cyZ h h_text h_many h_ones h_others h_kinds h_firsts h_persons h_gone h_at h_fines h_undos h_seenOf h_seenOpen h_path h_told h_counts h_spots h_far h_row h_begins h_ways h_next i_length i_keptMany i_undoMany i_seenMany i_pathMany i_place i_found i_walkers a_many a_seenOf_4 a_seenOpen)) (fun _ => rfl) dX8_seen_31 (fun a_seenOf_4 H locs ea_seenOf_4 hW => ?_)
      replace hw := hw.2 a_seenOf_4 ea_seenOf_4
      refine lv_aload_n hx hb dX8_seen_32 rfl (lv_at hl 0 rfl) ?_
      refine zw_get (ci := 8) (C := RX8) (T := TX8) (N := 30) (v := .ref h_seenOpen) hx hb hts hiX8 hown hK hW 0 rfl rfl 16 (by decide) rfl k_2 dX8_seen_33 ?_
      refine lv_aload_n hx hb dX8_seen_36 rfl (lv_at hl 0 rfl) ?_
      refine zw_get (ci := 8) (C := RX8) (T := TX8) (N := 30) (v := .int i_seenMany) hx hb hts hiX8 hown hK hW 0 rfl rfl 14 (by decide) rfl k_0 dX8_seen_37 ?_
      refine lv_iload_n hx hb dX8_seen_40 rfl (lv_at hl 2 rfl) ?_
      refine lv_if_eq (tgt := 48) hx hb dX8_seen_41 (by decide) (fun c_5 => ?_) (fun c_5 => ?_)
      · replace hw := hw.1 c_5
        refine lv_iconst (v := 0) hx hb dX8_seen_48 (by decide) ?_
        refine zw_iast hx hb hK hW 3 rfl rfl hw.1 (w2 := fun a_seenOpen_6 => (wX8_seen cyI cyJ cyZ h h_text h_many h_ones h_others h_kinds h_firsts h_persons h_gone h_at h_fines h_undos h_seenOf h_seenOpen h_path h_told h_counts h_spots h_far h_row h_begins h_ways h_next i_length i_keptMany i_undoMany i_seenMany i_pathMany i_place i_found i_walkers a_many a_seenOf_4 a_seenOpen_6)) (fun _ => rfl) dX8_seen_49 (fun a_seenOpen_6 H locs ea_seenOpen_6 hW => ?_)
        replace hw := hw.2 a_seenOpen_6 ea_seenOpen_6
        refine lv_aload_n hx hb dX8_seen_50 rfl (lv_at hl 0 rfl) ?_
        refine lv_dup hx hb dX8_seen_51 rfl ?_
        refine zw_get (ci := 8) (C := RX8) (T := TX8) (N := 30) (v := .int i_seenMany) hx hb hts hiX8 hown hK hW 0 rfl rfl 14 (by decide) rfl k_0 dX8_seen_52 ?_
        refine lv_iconst (v := 1) hx hb dX8_seen_55 (by decide) ?_
        refine lv_iadd hx hb dX8_seen_56 ?_
        refine lv_topi (fun i_7 ei_7 => ?_)
        replace hw := hw i_7 ei_7
        refine zw_put (ci := 8) (C := RX8) (T := TX8) (N := 30) (w2 := (wX8_seen cyI cyJ cyZ h h_text h_many h_ones h_others h_kinds h_firsts h_persons h_gone h_at h_fines h_undos h_seenOf h_seenOpen h_path h_told h_counts h_spots h_far h_row h_begins h_ways h_next i_length i_keptMany i_undoMany i_7 i_pathMany i_place i_found i_walkers a_many a_seenOf_4 a_seenOpen_6)) hx hb hts hiX8 tyX8 tyX8_ok nmX8 hown hK hW 0 rfl rfl 14 (by decide) (by decide +kernel) rfl (Nat.le_of_ble_eq_true rfl) rfl k_0 dX8_seen_57 (fun H locs hW => ?_)
        refine lv_aload_n hx hb dX8_seen_60 rfl (lv_at hl 0 rfl) ?_
        refine zw_get (ci := 8) (C := RX8) (T := TX8) (N := 30) (v := .int i_7) hx hb hts hiX8 hown hK hW 0 rfl rfl 14 (by decide) rfl k_0 dX8_seen_61 ?_
        refine zw_iret (S := Int32 × (Nat → Int32) × (Nat → Int32)) (post := fun r u => post r u.1 u.2.1 u.2.2) (i_7, a_seenOf_4, a_seenOpen_6) hx hb hr hlocks hK hW hw ?_ dX8_seen_64
        rfl
      · replace hw := hw.2 c_5
        refine lv_iconst (v := 1) hx hb dX8_seen_44 (by decide) ?_
        refine lv_goto (tgt := 49) hx hb dX8_seen_45 (by decide) ?_
        refine zw_iast hx hb hK hW 3 rfl rfl hw.1 (w2 := fun a_seenOpen_8 => (wX8_seen cyI cyJ cyZ h h_text h_many h_ones h_others h_kinds h_firsts h_persons h_gone h_at h_fines h_undos h_seenOf h_seenOpen h_path h_told h_counts h_spots h_far h_row h_begins h_ways h_next i_length i_keptMany i_undoMany i_seenMany i_pathMany i_place i_found i_walkers a_many a_seenOf_4 a_seenOpen_8)) (fun _ => rfl) dX8_seen_49 (fun a_seenOpen_8 H locs ea_seenOpen_8 hW => ?_)
        replace hw := hw.2 a_seenOpen_8 ea_seenOpen_8
        refine lv_aload_n hx hb dX8_seen_50 rfl (lv_at hl 0 rfl) ?_
        refine lv_dup hx hb dX8_seen_51 rfl ?_
        refine zw_get (ci := 8) (C := RX8) (T := TX8) (N := 30) (v := .int i_seenMany) hx hb hts hiX8 hown hK hW 0 rfl rfl 14 (by decide) rfl k_0 dX8_seen_52 ?_
        refine lv_iconst (v := 1) hx hb dX8_seen_55 (by decide) ?_
        refine lv_iadd hx hb dX8_seen_56 ?_
        refine lv_topi (fun i_9 ei_9 => ?_)
        replace hw := hw i_9 ei_9
        refine zw_put (ci := 8) (C := RX8) (T := TX8) (N := 30) (w2 := (wX8_seen cyI cyJ cyZ h h_text h_many h_ones h_others h_kinds h_firsts h_persons h_gone h_at h_fines h_undos h_seenOf h_seenOpen h_path h_told h_counts h_spots h_far h_row h_begins h_ways h_next i_length i_keptMany i_undoMany i_9 i_pathMany i_place i_found i_walkers a_many a_seenOf_4 a_seenOpen_8)) hx hb hts hiX8 tyX8 tyX8_ok nmX8 hown hK hW 0 rfl rfl 14 (by decide) (by decide +kernel) rfl (Nat.le_of_ble_eq_true rfl) rfl k_0 dX8_seen_57 (fun H locs hW => ?_)
        refine lv_aload_n hx hb dX8_seen_60 rfl (lv_at hl 0 rfl) ?_
        refine zw_get (ci := 8) (C := RX8) (T := TX8) (N := 30) (v := .int i_9) hx hb hts hiX8 hown hK hW 0 rfl rfl 14 (by decide) rfl k_0 dX8_seen_61 ?_
        refine zw_iret (S := Int32 × (Nat → Int32) × (Nat → Int32)) (post := fun r u => post r u.1 u.2.1 u.2.2) (i_9, a_seenOf_4, a_seenOpen_8) hx hb hr hlocks hK hW hw ?_ dX8_seen_64
        rfl
    · replace hw := hw.1 c_3
      refine lv_bipush (v := (-3)) hx hb dX8_seen_19 (by decide) ?_
      refine zw_iret (S := Int32 × (Nat → Int32) × (Nat → Int32)) (post := fun r u => post r u.1 u.2.1 u.2.2) (i_seenMany, a_seenOf, a_seenOpen) hx hb hr hlocks hK hW hw ?_ dX8_seen_21
      rfl
  · replace hw := hw.1 c_2
    refine lv_iconst (v := (-1)) hx hb dX8_seen_8 (by decide) ?_
    refine zw_iret (S := Int32 × (Nat → Int32) × (Nat → Int32)) (post := fun r u => post r u.1 u.2.1 u.2.2) (i_seenMany, a_seenOf, a_seenOpen) hx hb hr hlocks hK hW hw ?_ dX8_seen_9
    rfl
abbrev wX8_forget (cyI cyJ cyZ : ClassId) (h h_text h_many h_ones h_others h_kinds h_firsts h_persons h_gone h_at h_fines h_undos h_seenOf h_seenOpen h_path h_told h_counts h_spots h_far h_row h_begins h_ways h_next : Nat) (i_length : Int32) (i_keptMany : Int32) (i_undoMany : Int32) (i_seenMany : Int32) (i_pathMany : Int32) (i_place : Int32) (i_found : Int32) (i_walkers : Int32) : va_W := [(h, .inr (8, [.int i_length, .ref h_text, .ref h_many, .ref h_ones, .ref h_others, .ref h_kinds, .ref h_firsts, .ref h_persons, .ref h_gone, .ref h_at, .ref h_fines, .int i_keptMany, .int i_undoMany, .ref h_undos, .int i_seenMany, .ref h_seenOf, .ref h_seenOpen, .int i_pathMany, .ref h_path, .int i_place, .ref h_told, .ref h_counts, .ref h_spots, .ref h_far, .ref h_row, .ref h_begins, .int i_found, .int i_walkers, .ref h_ways, .ref h_next]))]
abbrev qX8_forget (dC : Nat → ClassId) (dI : Nat → Nat → Nat) (cyI cyJ cyZ : ClassId) (h h_text h_many h_ones h_others h_kinds h_firsts h_persons h_gone h_at h_fines h_undos h_seenOf h_seenOpen h_path h_told h_counts h_spots h_far h_row h_begins h_ways h_next : Nat) (i_length : Int32) (i_keptMany : Int32) (i_undoMany : Int32) (i_seenMany : Int32) (i_pathMany : Int32) (i_place : Int32) (i_found : Int32) (i_walkers : Int32) (post : Int32 → Int32 → Prop) (A : Nat → Prop) : Array Value → State → Outcome → State → Prop := (va_Qi (fun (r : Int32) (u : Int32) => post r u) (bW (dC, dI) (tyG cyI cyJ cyZ) A (fun u : Int32 => (wX8_forget cyI cyJ cyZ h h_text h_many h_ones h_others h_kinds h_firsts h_persons h_gone h_at h_fines h_undos h_seenOf h_seenOpen h_path h_told h_counts h_spots h_far h_row h_begins h_ways h_next i_length i_keptMany i_undoMany u i_pathMany i_place i_found i_walkers))) A)
set_option maxHeartbeats 4000000 in
set_option maxRecDepth 100000 in
theorem mX8_forget (l : Launch) (dC : Nat → ClassId) (dI : Nat → Nat → Nat) (cyI cyJ cyZ : ClassId) (h h_text h_many h_ones h_others h_kinds h_firsts h_persons h_gone h_at h_fines h_undos h_seenOf h_seenOpen h_path h_told h_counts h_spots h_far h_row h_begins h_ways h_next : Nat) (sz : Nat) (i_length : Int32) (i_keptMany : Int32) (i_undoMany : Int32) (i_seenMany : Int32) (i_pathMany : Int32) (i_place : Int32) (i_found : Int32) (i_walkers : Int32) (post : Int32 → Int32 → Prop) (hwp : PX8_forget i_seenMany post) : Met l yX8_forget wsX8_forget ({ frames := 0, cells := 0, slots := 0, locals := 0 } : Room) (va_Pc [.ref h] (pcW (dC, dI) sz (wX8_forget cyI cyJ cyZ h h_text h_many h_ones h_others h_kinds h_firsts h_persons h_gone h_at h_fines h_undos h_seenOf h_seenOpen h_path h_told h_counts h_spots h_far h_row h_begins h_ways h_next i_length i_keptMany i_undoMany i_seenMany i_pathMany i_place i_found i_walkers) (tyG cyI cyJ cyZ))) (qX8_forget dC dI cyI cyJ cyZ h h_text h_many h_ones h_others h_kinds h_firsts h_persons h_gone h_at h_fines h_undos h_seenOf h_seenOpen h_path h_told h_counts h_spots h_far h_row h_begins h_ways h_next i_length i_keptMany i_undoMany i_seenMany i_pathMany i_place i_found i_walkers post (va_A (wX8_forget cyI cyJ cyZ h h_text h_many h_ones h_others h_kinds h_firsts h_persons h_gone h_at h_fines h_undos h_seenOf h_seenOpen h_path h_told h_counts h_spots h_far h_row h_begins h_ways h_next i_length i_keptMany i_undoMany i_seenMany i_pathMany i_place i_found i_walkers) sz)) 0 0 (va_A (wX8_forget cyI cyJ cyZ h h_text h_many h_ones h_others h_kinds h_firsts h_persons h_gone h_at h_fines h_undos h_seenOf h_seenOpen h_path h_told h_counts h_spots h_far h_row h_begins h_ways h_next i_length i_keptMany i_undoMany i_seenMany i_pathMany i_place i_found i_walkers) sz) := by
  refine Met.ofW (cc := cX8_forget) (maxL := 2) (ret := some .int) (by decide) rfl ?_
  intro p e s m args below meth c s₁ B hml hv
  obtain ⟨rfl, hsz, hP, hK, hD0, hN⟩ := hv
  have hx := B.exec
  have hb := B.bytes
  have hr := B.returns
  have hts := atoms_spec (ws := wsX8_forget) B.pre
  have hown : s.vm.findClass RX8 = some m.cls := findClass_of_methodNamed B.named
  have hlocks := B.notSynchronized
  subst hsz
  have hD := hD0.self (sz := s.heap.size)
  generalize hAe : va_A (wX8_forget cyI cyJ cyZ h h_text h_many h_ones h_others h_kinds h_firsts h_persons h_gone h_at h_fines h_undos h_seenOf h_seenOpen h_path h_told h_counts h_spots h_far h_row h_begins h_ways h_next i_length i_keptMany i_undoMany i_seenMany i_pathMany i_place i_found i_walkers) s.heap.size = A at hD ⊢
  have hA : ∀ q : Nat, s.heap.size ≤ q → A q := fun q h => by rw [← hAe]; exact Or.inr h
  have hW : Wd (dC, dI) A s.heap (wX8_forget cyI cyJ cyZ h h_text h_many h_ones h_others h_kinds h_firsts h_persons h_gone h_at h_fines h_undos h_seenOf h_seenOpen h_path h_told h_counts h_spots h_far h_row h_begins h_ways h_next i_length i_keptMany i_undoMany i_seenMany i_pathMany i_place i_found i_walkers) s.heap [] := ⟨hP, hD, va_S.rf⟩
  have hw := hwp
  have hiX8 : ∀ w ∈ u_ws RX8 TX8 30, w ∈ wsX8_forget := fun _ h => List.mem_cons_of_mem _ (List.mem_append_right _ h)
  have k_0 := hts (.fieldLink RX8 125 "OddLetsInModel" "seenMany" "I") (List.mem_of_getElem? (i := 1) rfl)
  have hl := lv_entry ([.ref h]) (n := 2) (Nat.le_of_ble_eq_true rfl)
  rw [lg_entry_eq]
  generalize (lg_sl ([.ref h]) ++ List.replicate (2 - (lg_sl ([.ref h])).length) Slot.unset).toArray = ls at hl ⊢
  have hl : lv_has ls 2 [(0, .ref h)] := hl
  refine lv_aload_n hx hb dX8_forget_0 rfl (lv_at hl 0 rfl) ?_
  refine zw_get (ci := 8) (C := RX8) (T := TX8) (N := 30) (v := .int i_seenMany) hx hb hts hiX8 hown hK hW 0 rfl rfl 14 (by decide) rfl k_0 dX8_forget_1 ?_
  refine lv_istore_n (lv' := [(1, .int i_seenMany), (0, .ref h)]) hx hb dX8_forget_4 rfl hl (by decide) rfl (fun ls hl => ?_)
  refine lv_aload_n hx hb dX8_forget_5 rfl (lv_at hl 1 rfl) ?_
  refine lv_iconst (v := 0) hx hb dX8_forget_6 (by decide) ?_
  refine zw_put (ci := 8) (C := RX8) (T := TX8) (N := 30) (w2 := (wX8_forget cyI cyJ cyZ h h_text h_many h_ones h_others h_kinds h_firsts h_persons h_gone h_at h_fines h_undos h_seenOf h_seenOpen h_path h_told h_counts h_spots h_far h_row h_begins h_ways h_next i_length i_keptMany i_undoMany 0 i_pathMany i_place i_found i_walkers)) hx hb hts hiX8 tyX8 tyX8_ok nmX8 hown hK hW 0 rfl rfl 14 (by decide) (by decide +kernel) rfl (Nat.le_of_ble_eq_true rfl) rfl k_0 dX8_forget_7 (fun H locs hW => ?_)
  refine lv_iload_n hx hb dX8_forget_10 rfl (lv_at hl 0 rfl) ?_
  refine zw_iret (S := Int32) (post := fun r u => post r u) 0 hx hb hr hlocks hK hW hw ?_ dX8_forget_11
  rfl
abbrev wX8_isSeenSo (cyI cyJ cyZ : ClassId) (h h_text h_many h_ones h_others h_kinds h_firsts h_persons h_gone h_at h_fines h_undos h_seenOf h_seenOpen h_path h_told h_counts h_spots h_far h_row h_begins h_ways h_next : Nat) (i_length : Int32) (i_keptMany : Int32) (i_undoMany : Int32) (i_seenMany : Int32) (i_pathMany : Int32) (i_place : Int32) (i_found : Int32) (i_walkers : Int32) (a_many : Nat → Int32) (a_kinds : Nat → Int32) (a_seenOf : Nat → Int32) (a_seenOpen : Nat → Int32) (a_counts : Nat → Int32) : va_W := [(h, .inr (8, [.int i_length, .ref h_text, .ref h_many, .ref h_ones, .ref h_others, .ref h_kinds, .ref h_firsts, .ref h_persons, .ref h_gone, .ref h_at, .ref h_fines, .int i_keptMany, .int i_undoMany, .ref h_undos, .int i_seenMany, .ref h_seenOf, .ref h_seenOpen, .int i_pathMany, .ref h_path, .int i_place, .ref h_told, .ref h_counts, .ref h_spots, .ref h_far, .ref h_row, .ref h_begins, .int i_found, .int i_walkers, .ref h_ways, .ref h_next])), (h_many, .inl (cyI, 2, .inl a_many)), (h_kinds, .inl (cyI, 10, .inl a_kinds)), (h_seenOf, .inl (cyI, 10, .inl a_seenOf)), (h_seenOpen, .inl (cyI, 10, .inl a_seenOpen)), (h_counts, .inl (cyI, 5, .inl a_counts))]
abbrev qX8_isSeenSo (dC : Nat → ClassId) (dI : Nat → Nat → Nat) (cyI cyJ cyZ : ClassId) (h h_text h_many h_ones h_others h_kinds h_firsts h_persons h_gone h_at h_fines h_undos h_seenOf h_seenOpen h_path h_told h_counts h_spots h_far h_row h_begins h_ways h_next : Nat) (i_length : Int32) (i_keptMany : Int32) (i_undoMany : Int32) (i_seenMany : Int32) (i_pathMany : Int32) (i_place : Int32) (i_found : Int32) (i_walkers : Int32) (a_many : Nat → Int32) (a_kinds : Nat → Int32) (a_seenOf : Nat → Int32) (a_seenOpen : Nat → Int32) (a_counts : Nat → Int32) (post : Int32 → Prop) (A : Nat → Prop) : Array Value → State → Outcome → State → Prop := (va_Qi (fun (r : Int32) (u : Unit) => (r = 0 ∨ r = 1) ∧ post r) (bW (dC, dI) (tyG cyI cyJ cyZ) A (fun _ : Unit => (wX8_isSeenSo cyI cyJ cyZ h h_text h_many h_ones h_others h_kinds h_firsts h_persons h_gone h_at h_fines h_undos h_seenOf h_seenOpen h_path h_told h_counts h_spots h_far h_row h_begins h_ways h_next i_length i_keptMany i_undoMany i_seenMany i_pathMany i_place i_found i_walkers a_many a_kinds a_seenOf a_seenOpen a_counts))) A)
set_option maxHeartbeats 4000000 in
set_option maxRecDepth 100000 in
theorem mX8_isSeenSo (l : Launch) (dC : Nat → ClassId) (dI : Nat → Nat → Nat) (cyI cyJ cyZ : ClassId) (h h_text h_many h_ones h_others h_kinds h_firsts h_persons h_gone h_at h_fines h_undos h_seenOf h_seenOpen h_path h_told h_counts h_spots h_far h_row h_begins h_ways h_next : Nat) (sz : Nat) (i_length : Int32) (i_keptMany : Int32) (i_undoMany : Int32) (i_seenMany : Int32) (i_pathMany : Int32) (i_place : Int32) (i_found : Int32) (i_walkers : Int32) (a_many : Nat → Int32) (a_kinds : Nat → Int32) (a_seenOf : Nat → Int32) (a_seenOpen : Nat → Int32) (a_counts : Nat → Int32) (post : Int32 → Prop) (hwp : PX8_isSeenSo i_seenMany a_many a_kinds a_seenOf a_seenOpen a_counts post) : Met l yX8_isSeenSo wsX8_isSeenSo ({ frames := 2, cells := 0, slots := 0, locals := 45 } : Room) (va_Pc [.ref h] (pcW (dC, dI) sz (wX8_isSeenSo cyI cyJ cyZ h h_text h_many h_ones h_others h_kinds h_firsts h_persons h_gone h_at h_fines h_undos h_seenOf h_seenOpen h_path h_told h_counts h_spots h_far h_row h_begins h_ways h_next i_length i_keptMany i_undoMany i_seenMany i_pathMany i_place i_found i_walkers a_many a_kinds a_seenOf a_seenOpen a_counts) (tyG cyI cyJ cyZ))) (qX8_isSeenSo dC dI cyI cyJ cyZ h h_text h_many h_ones h_others h_kinds h_firsts h_persons h_gone h_at h_fines h_undos h_seenOf h_seenOpen h_path h_told h_counts h_spots h_far h_row h_begins h_ways h_next i_length i_keptMany i_undoMany i_seenMany i_pathMany i_place i_found i_walkers a_many a_kinds a_seenOf a_seenOpen a_counts post (va_A (wX8_isSeenSo cyI cyJ cyZ h h_text h_many h_ones h_others h_kinds h_firsts h_persons h_gone h_at h_fines h_undos h_seenOf h_seenOpen h_path h_told h_counts h_spots h_far h_row h_begins h_ways h_next i_length i_keptMany i_undoMany i_seenMany i_pathMany i_place i_found i_walkers a_many a_kinds a_seenOf a_seenOpen a_counts) sz)) 0 0 (va_A (wX8_isSeenSo cyI cyJ cyZ h h_text h_many h_ones h_others h_kinds h_firsts h_persons h_gone h_at h_fines h_undos h_seenOf h_seenOpen h_path h_told h_counts h_spots h_far h_row h_begins h_ways h_next i_length i_keptMany i_undoMany i_seenMany i_pathMany i_place i_found i_walkers a_many a_kinds a_seenOf a_seenOpen a_counts) sz) := by
  refine Met.ofW (cc := cX8_isSeenSo) (maxL := 4) (ret := some .boolean) (by decide) rfl ?_
  intro p e s m args below meth c s₁ B hml hv
  obtain ⟨rfl, hsz, hP, hK, hD0, hN⟩ := hv
  have hx := B.exec
  have hb := B.bytes
  have hr := B.returns
  have hts := atoms_spec (ws := wsX8_isSeenSo) B.pre
  have hown : s.vm.findClass RX8 = some m.cls := findClass_of_methodNamed B.named
  have hlocks := B.notSynchronized
  subst hsz
  have hD := hD0.self (sz := s.heap.size)
  generalize hAe : va_A (wX8_isSeenSo cyI cyJ cyZ h h_text h_many h_ones h_others h_kinds h_firsts h_persons h_gone h_at h_fines h_undos h_seenOf h_seenOpen h_path h_told h_counts h_spots h_far h_row h_begins h_ways h_next i_length i_keptMany i_undoMany i_seenMany i_pathMany i_place i_found i_walkers a_many a_kinds a_seenOf a_seenOpen a_counts) s.heap.size = A at hD ⊢
  have hA : ∀ q : Nat, s.heap.size ≤ q → A q := fun q h => by rw [← hAe]; exact Or.inr h
  have hW : Wd (dC, dI) A s.heap (wX8_isSeenSo cyI cyJ cyZ h h_text h_many h_ones h_others h_kinds h_firsts h_persons h_gone h_at h_fines h_undos h_seenOf h_seenOpen h_path h_told h_counts h_spots h_far h_row h_begins h_ways h_next i_length i_keptMany i_undoMany i_seenMany i_pathMany i_place i_found i_walkers a_many a_kinds a_seenOf a_seenOpen a_counts) s.heap [] := ⟨hP, hD, va_S.rf⟩
  have hw := hwp
  have hiX8 : ∀ w ∈ u_ws RX8 TX8 30, w ∈ wsX8_isSeenSo := fun _ h => List.mem_cons_of_mem _ (List.mem_append_right _ h)
  have k_0 := hts (.fieldLink RX8 125 "OddLetsInModel" "seenMany" "I") (List.mem_of_getElem? (i := 1) rfl)
  have k_1 := hts (.fieldLink RX8 43 "OddLetsInModel" "seenOf" "[I") (List.mem_of_getElem? (i := 2) rfl)
  have k_2 := hts (.fieldLink RX8 46 "OddLetsInModel" "seenOpen" "[I") (List.mem_of_getElem? (i := 3) rfl)
  have W_9 : ∀ (x1 : Int32) (n_9 : Nat) (x2 : Int32) (x3 : Int32) (H : Heap) (locs : List Loc) (ls : Array Slot), Wd (dC, dI) A s.heap (wX8_isSeenSo cyI cyJ cyZ h h_text h_many h_ones h_others h_kinds h_firsts h_persons h_gone h_at h_fines h_undos h_seenOf h_seenOpen h_path h_told h_counts h_spots h_far h_row h_begins h_ways h_next i_length i_keptMany i_undoMany i_seenMany i_pathMany i_place i_found i_walkers a_many a_kinds a_seenOf a_seenOpen a_counts) H locs → lv_has ls 4 [(0, .ref h), (1, .int x1), (2, .int x2), (3, .int x3)] → PX8_isSeenSo_9 post i_seenMany a_seenOf a_seenOpen x1 n_9 x2 x3 → W p l e (({ frames := 2, cells := 0, slots := 0, locals := 45 } : Room)) s m (([.ref h] : List Value).toArray) below meth c H locs 0 0 (MQ below (qX8_isSeenSo dC dI cyI cyJ cyZ h h_text h_many h_ones h_others h_kinds h_firsts h_persons h_gone h_at h_fines h_undos h_seenOf h_seenOpen h_path h_told h_counts h_spots h_far h_row h_begins h_ways h_next i_length i_keptMany i_undoMany i_seenMany i_pathMany i_place i_found i_walkers a_many a_kinds a_seenOf a_seenOpen a_counts post A) (([.ref h] : List Value).toArray) s 0 0 A) (F0 m 9 ls []) := by
    intro x1 n_9
    induction n_9 with
    | zero =>
      intro x2 x3 H locs ls hW hl hw
      exact False.elim hw
    | succ n_9 ih_9 =>
      intro x2 x3 H locs ls hW hl hw
      refine lv_iload_n hx hb dX8_isSeenSo_9 rfl (lv_at hl 3 rfl) ?_
      refine lv_aload_n hx hb dX8_isSeenSo_10 rfl (lv_at hl 0 rfl) ?_
      refine zw_get (ci := 8) (C := RX8) (T := TX8) (N := 30) (v := .int i_seenMany) hx hb hts hiX8 hown hK hW 0 rfl rfl 14 (by decide) rfl k_0 dX8_isSeenSo_11 ?_
      refine lv_icmp_ge (tgt := 52) hx hb dX8_isSeenSo_14 (by decide) (fun c_1 => ?_) (fun c_1 => ?_)
      · replace hw := hw.1 c_1
        refine lv_iload_n hx hb dX8_isSeenSo_52 rfl (lv_at hl 2 rfl) ?_
        refine zw_zret (S := Unit) (post := fun r u => post r) () hx hb hr hlocks hK hW hw.1 hw.2 ?_ dX8_isSeenSo_53
        rfl
      · replace hw := hw.2 c_1
        refine lv_iload_n hx hb dX8_isSeenSo_17 rfl (lv_at hl 2 rfl) ?_
        refine lv_if_eq (tgt := 44) hx hb dX8_isSeenSo_18 (by decide) (fun c_2 => ?_) (fun c_2 => ?_)
        · replace hw := hw.1 c_2
          refine lv_iconst (v := 0) hx hb dX8_isSeenSo_44 (by decide) ?_
          refine lv_istore_n (lv' := [(2, .int 0), (0, .ref h), (1, .int x1), (3, .int x3)]) hx hb dX8_isSeenSo_45 rfl hl (by decide) rfl (fun ls hl => ?_)
          obtain ⟨x3_3, ex3_3⟩ : ∃ y : Int32, y = x3 + 1 := ⟨_, rfl⟩
          replace hw := hw x3_3 ex3_3
          refine lv_iinc (v := x3_3) (lv' := [(3, .int x3_3), (2, .int 0), (0, .ref h), (1, .int x1)]) hx hb dX8_isSeenSo_46 hl (k := 3) rfl (by rw [ex3_3]; rfl) (by decide) rfl (fun ls hl => ?_)
          refine lv_goto (tgt := 9) hx hb dX8_isSeenSo_49 (by decide) ?_
          exact ih_9 0 x3_3 _ _ _ hW (lv_sub hl [2, 3, 1, 0] rfl) hw
        · replace hw := hw.2 c_2
          refine lv_iload_n hx hb dX8_isSeenSo_21 rfl (lv_at hl 1 rfl) ?_
          refine lv_aload_n hx hb dX8_isSeenSo_22 rfl (lv_at hl 0 rfl) ?_
          refine zw_get (ci := 8) (C := RX8) (T := TX8) (N := 30) (v := .ref h_seenOf) hx hb hts hiX8 hown hK hW 0 rfl rfl 15 (by decide) rfl k_1 dX8_isSeenSo_23 ?_
          refine lv_iload_n hx hb dX8_isSeenSo_26 rfl (lv_at hl 3 rfl) ?_
          refine zw_iald hx hb hK hW 3 rfl rfl hw.1 dX8_isSeenSo_27 ?_
          replace hw := hw.2
          refine lv_ishr hx hb dX8_isSeenSo_28 ?_
          refine lv_iconst (v := 1) hx hb dX8_isSeenSo_29 (by decide) ?_
          refine lv_iand hx hb dX8_isSeenSo_30 ?_
          refine lv_aload_n hx hb dX8_isSeenSo_31 rfl (lv_at hl 0 rfl) ?_
          refine zw_get (ci := 8) (C := RX8) (T := TX8) (N := 30) (v := .ref h_seenOpen) hx hb hts hiX8 hown hK hW 0 rfl rfl 16 (by decide) rfl k_2 dX8_isSeenSo_32 ?_
          refine lv_iload_n hx hb dX8_isSeenSo_35 rfl (lv_at hl 3 rfl) ?_
          refine zw_iald hx hb hK hW 4 rfl rfl hw.1 dX8_isSeenSo_36 ?_
          replace hw := hw.2
          refine lv_icmp_ne (tgt := 44) hx hb dX8_isSeenSo_37 (by decide) (fun c_4 => ?_) (fun c_4 => ?_)
          · replace hw := hw.2 c_4
            refine lv_iconst (v := 0) hx hb dX8_isSeenSo_44 (by decide) ?_
            refine lv_istore_n (lv' := [(2, .int 0), (0, .ref h), (1, .int x1), (3, .int x3)]) hx hb dX8_isSeenSo_45 rfl hl (by decide) rfl (fun ls hl => ?_)
            obtain ⟨x3_5, ex3_5⟩ : ∃ y : Int32, y = x3 + 1 := ⟨_, rfl⟩
            replace hw := hw x3_5 ex3_5
            refine lv_iinc (v := x3_5) (lv' := [(3, .int x3_5), (2, .int 0), (0, .ref h), (1, .int x1)]) hx hb dX8_isSeenSo_46 hl (k := 3) rfl (by rw [ex3_5]; rfl) (by decide) rfl (fun ls hl => ?_)
            refine lv_goto (tgt := 9) hx hb dX8_isSeenSo_49 (by decide) ?_
            exact ih_9 0 x3_5 _ _ _ hW (lv_sub hl [2, 3, 1, 0] rfl) hw
          · replace hw := hw.1 c_4
            refine lv_iconst (v := 1) hx hb dX8_isSeenSo_40 (by decide) ?_
            refine lv_goto (tgt := 45) hx hb dX8_isSeenSo_41 (by decide) ?_
            refine lv_istore_n (lv' := [(2, .int 1), (0, .ref h), (1, .int x1), (3, .int x3)]) hx hb dX8_isSeenSo_45 rfl hl (by decide) rfl (fun ls hl => ?_)
            obtain ⟨x3_6, ex3_6⟩ : ∃ y : Int32, y = x3 + 1 := ⟨_, rfl⟩
            replace hw := hw x3_6 ex3_6
            refine lv_iinc (v := x3_6) (lv' := [(3, .int x3_6), (2, .int 1), (0, .ref h), (1, .int x1)]) hx hb dX8_isSeenSo_46 hl (k := 3) rfl (by rw [ex3_6]; rfl) (by decide) rfl (fun ls hl => ?_)
            refine lv_goto (tgt := 9) hx hb dX8_isSeenSo_49 (by decide) ?_
            exact ih_9 1 x3_6 _ _ _ hW (lv_sub hl [2, 3, 1, 0] rfl) hw
  have hl := lv_entry ([.ref h]) (n := 4) (Nat.le_of_ble_eq_true rfl)
  rw [lg_entry_eq]
  generalize (lg_sl ([.ref h]) ++ List.replicate (4 - (lg_sl ([.ref h])).length) Slot.unset).toArray = ls at hl ⊢
  have hl : lv_has ls 4 [(0, .ref h)] := hl
  refine lv_aload_n hx hb dX8_isSeenSo_0 rfl (lv_at hl 0 rfl) ?_
  refine zw_Vi ⟨hx, hb, hml, hown, hts⟩ hK hN hA hW 0 rfl (T := TX8) (N := 30) rfl [] [] [0, 1, 2, 5] [3, 4] [2, 3, 4, 0, 1, 5] (fun _ => (wX8_isSeenSo cyI cyJ cyZ h h_text h_many h_ones h_others h_kinds h_firsts h_persons h_gone h_at h_fines h_undos h_seenOf h_seenOpen h_path h_told h_counts h_spots h_far h_row h_begins h_ways h_next i_length i_keptMany i_undoMany i_seenMany i_pathMany i_place i_found i_walkers a_many a_kinds a_seenOf a_seenOpen a_counts)) (mX8_openSet l dC dI cyI cyJ cyZ h h_text h_many h_ones h_others h_kinds h_firsts h_persons h_gone h_at h_fines h_undos h_seenOf h_seenOpen h_path h_told h_counts h_spots h_far h_row h_begins h_ways h_next _ i_length i_keptMany i_undoMany i_seenMany i_pathMany i_place i_found i_walkers a_many a_kinds a_counts _ hw) (cwV 0 hts gX8_isSeenSo_X8_openSet rfl rfl rfl (by decide +kernel) ⟨Nat.le_of_ble_eq_true rfl, Nat.le_of_ble_eq_true rfl⟩) rfl rfl rfl rfl (by decide) rfl (fun _ => rfl) rfl hl.1 rfl (Nat.le_of_ble_eq_true rfl) (Nat.le_of_ble_eq_true rfl) (Nat.le_of_ble_eq_true rfl) dX8_isSeenSo_1 (fun r_7 u H locs hw hW => ?_)
  refine lv_istore_n (lv' := [(1, .int r_7), (0, .ref h)]) hx hb dX8_isSeenSo_4 rfl hl (by decide) rfl (fun ls hl => ?_)
  refine lv_iconst (v := 1) hx hb dX8_isSeenSo_5 (by decide) ?_
  refine lv_istore_n (lv' := [(2, .int 1), (1, .int r_7), (0, .ref h)]) hx hb dX8_isSeenSo_6 rfl hl (by decide) rfl (fun ls hl => ?_)
  refine lv_iconst (v := 0) hx hb dX8_isSeenSo_7 (by decide) ?_
  refine lv_istore_n (lv' := [(3, .int 0), (2, .int 1), (1, .int r_7), (0, .ref h)]) hx hb dX8_isSeenSo_8 rfl hl (by decide) rfl (fun ls hl => ?_)
  obtain ⟨n_9, hw⟩ := hw
  exact W_9 r_7 n_9 1 0 _ _ _ hW (lv_sub hl [3, 2, 1, 0] rfl) hw
abbrev wX8_wrong (cyI cyJ cyZ : ClassId) (h h_text h_many h_ones h_others h_kinds h_firsts h_persons h_gone h_at h_fines h_undos h_seenOf h_seenOpen h_path h_told h_counts h_spots h_far h_row h_begins h_ways h_next : Nat) (i_length : Int32) (i_keptMany : Int32) (i_undoMany : Int32) (i_seenMany : Int32) (i_pathMany : Int32) (i_place : Int32) (i_found : Int32) (i_walkers : Int32) (a_many : Nat → Int32) (a_kinds : Nat → Int32) (a_gone : Nat → Int32) (a_at : Nat → Int32) (a_seenOf : Nat → Int32) (a_seenOpen : Nat → Int32) (a_counts : Nat → Int32) (a_spots : Nat → Int32) : va_W := [(h, .inr (8, [.int i_length, .ref h_text, .ref h_many, .ref h_ones, .ref h_others, .ref h_kinds, .ref h_firsts, .ref h_persons, .ref h_gone, .ref h_at, .ref h_fines, .int i_keptMany, .int i_undoMany, .ref h_undos, .int i_seenMany, .ref h_seenOf, .ref h_seenOpen, .int i_pathMany, .ref h_path, .int i_place, .ref h_told, .ref h_counts, .ref h_spots, .ref h_far, .ref h_row, .ref h_begins, .int i_found, .int i_walkers, .ref h_ways, .ref h_next])), (h_many, .inl (cyI, 2, .inl a_many)), (h_kinds, .inl (cyI, 10, .inl a_kinds)), (h_gone, .inl (cyI, 15, .inl a_gone)), (h_at, .inl (cyI, 9, .inl a_at)), (h_seenOf, .inl (cyI, 10, .inl a_seenOf)), (h_seenOpen, .inl (cyI, 10, .inl a_seenOpen)), (h_counts, .inl (cyI, 5, .inl a_counts)), (h_spots, .inl (cyI, 3, .inl a_spots))]
abbrev qX8_wrong (dC : Nat → ClassId) (dI : Nat → Nat → Nat) (cyI cyJ cyZ : ClassId) (h h_text h_many h_ones h_others h_kinds h_firsts h_persons h_gone h_at h_fines h_undos h_seenOf h_seenOpen h_path h_told h_counts h_spots h_far h_row h_begins h_ways h_next : Nat) (i_length : Int32) (i_keptMany : Int32) (i_undoMany : Int32) (i_seenMany : Int32) (i_pathMany : Int32) (i_place : Int32) (i_found : Int32) (i_walkers : Int32) (a_many : Nat → Int32) (a_kinds : Nat → Int32) (a_gone : Nat → Int32) (a_at : Nat → Int32) (a_seenOf : Nat → Int32) (a_seenOpen : Nat → Int32) (a_counts : Nat → Int32) (a_spots : Nat → Int32) (post : Int32 → (Nat → Int32) → (Nat → Int32) → Prop) (A : Nat → Prop) : Array Value → State → Outcome → State → Prop := (va_Qi (fun (r : Int32) (u : (Nat → Int32) × (Nat → Int32)) => post r u.1 u.2) (bW (dC, dI) (tyG cyI cyJ cyZ) A (fun u : (Nat → Int32) × (Nat → Int32) => (wX8_wrong cyI cyJ cyZ h h_text h_many h_ones h_others h_kinds h_firsts h_persons h_gone h_at h_fines h_undos h_seenOf h_seenOpen h_path h_told h_counts h_spots h_far h_row h_begins h_ways h_next i_length i_keptMany i_undoMany i_seenMany i_pathMany i_place i_found i_walkers a_many a_kinds a_gone a_at a_seenOf a_seenOpen (u.1) (u.2)))) A)
set_option maxHeartbeats 4000000 in
set_option maxRecDepth 100000 in
theorem mX8_wrong (l : Launch) (dC : Nat → ClassId) (dI : Nat → Nat → Nat) (cyI cyJ cyZ : ClassId) (h h_text h_many h_ones h_others h_kinds h_firsts h_persons h_gone h_at h_fines h_undos h_seenOf h_seenOpen h_path h_told h_counts h_spots h_far h_row h_begins h_ways h_next : Nat) (sz : Nat) (i_length : Int32) (i_keptMany : Int32) (i_undoMany : Int32) (i_seenMany : Int32) (i_pathMany : Int32) (i_place : Int32) (i_found : Int32) (i_walkers : Int32) (a_many : Nat → Int32) (a_kinds : Nat → Int32) (a_gone : Nat → Int32) (a_at : Nat → Int32) (a_seenOf : Nat → Int32) (a_seenOpen : Nat → Int32) (a_counts : Nat → Int32) (a_spots : Nat → Int32) (post : Int32 → (Nat → Int32) → (Nat → Int32) → Prop) (hwp : PX8_wrong i_seenMany a_many a_kinds a_gone a_at a_seenOf a_seenOpen a_counts a_spots post) : Met l yX8_wrong wsX8_wrong ({ frames := 3, cells := 0, slots := 0, locals := 68 } : Room) (va_Pc [.ref h] (pcW (dC, dI) sz (wX8_wrong cyI cyJ cyZ h h_text h_many h_ones h_others h_kinds h_firsts h_persons h_gone h_at h_fines h_undos h_seenOf h_seenOpen h_path h_told h_counts h_spots h_far h_row h_begins h_ways h_next i_length i_keptMany i_undoMany i_seenMany i_pathMany i_place i_found i_walkers a_many a_kinds a_gone a_at a_seenOf a_seenOpen a_counts a_spots) (tyG cyI cyJ cyZ))) (qX8_wrong dC dI cyI cyJ cyZ h h_text h_many h_ones h_others h_kinds h_firsts h_persons h_gone h_at h_fines h_undos h_seenOf h_seenOpen h_path h_told h_counts h_spots h_far h_row h_begins h_ways h_next i_length i_keptMany i_undoMany i_seenMany i_pathMany i_place i_found i_walkers a_many a_kinds a_gone a_at a_seenOf a_seenOpen a_counts a_spots post (va_A (wX8_wrong cyI cyJ cyZ h h_text h_many h_ones h_others h_kinds h_firsts h_persons h_gone h_at h_fines h_undos h_seenOf h_seenOpen h_path h_told h_counts h_spots h_far h_row h_begins h_ways h_next i_length i_keptMany i_undoMany i_seenMany i_pathMany i_place i_found i_walkers a_many a_kinds a_gone a_at a_seenOf a_seenOpen a_counts a_spots) sz)) 0 0 (va_A (wX8_wrong cyI cyJ cyZ h h_text h_many h_ones h_others h_kinds h_firsts h_persons h_gone h_at h_fines h_undos h_seenOf h_seenOpen h_path h_told h_counts h_spots h_far h_row h_begins h_ways h_next i_length i_keptMany i_undoMany i_seenMany i_pathMany i_place i_found i_walkers a_many a_kinds a_gone a_at a_seenOf a_seenOpen a_counts a_spots) sz) := by
  refine Met.ofW (cc := cX8_wrong) (maxL := 3) (ret := some .int) (by decide) rfl ?_
  intro p e s m args below meth c s₁ B hml hv
  obtain ⟨rfl, hsz, hP, hK, hD0, hN⟩ := hv
  have hx := B.exec
  have hb := B.bytes
  have hr := B.returns
  have hts := atoms_spec (ws := wsX8_wrong) B.pre
  have hown : s.vm.findClass RX8 = some m.cls := findClass_of_methodNamed B.named
  have hlocks := B.notSynchronized
  subst hsz
  have hD := hD0.self (sz := s.heap.size)
  generalize hAe : va_A (wX8_wrong cyI cyJ cyZ h h_text h_many h_ones h_others h_kinds h_firsts h_persons h_gone h_at h_fines h_undos h_seenOf h_seenOpen h_path h_told h_counts h_spots h_far h_row h_begins h_ways h_next i_length i_keptMany i_undoMany i_seenMany i_pathMany i_place i_found i_walkers a_many a_kinds a_gone a_at a_seenOf a_seenOpen a_counts a_spots) s.heap.size = A at hD ⊢
  have hA : ∀ q : Nat, s.heap.size ≤ q → A q := fun q h => by rw [← hAe]; exact Or.inr h
  have hW : Wd (dC, dI) A s.heap (wX8_wrong cyI cyJ cyZ h h_text h_many h_ones h_others h_kinds h_firsts h_persons h_gone h_at h_fines h_undos h_seenOf h_seenOpen h_path h_told h_counts h_spots h_far h_row h_begins h_ways h_next i_length i_keptMany i_undoMany i_seenMany i_pathMany i_place i_found i_walkers a_many a_kinds a_gone a_at a_seenOf a_seenOpen a_counts a_spots) s.heap [] := ⟨hP, hD, va_S.rf⟩
  have hw := hwp
  have hiX8 : ∀ w ∈ u_ws RX8 TX8 30, w ∈ wsX8_wrong := fun _ h => List.mem_cons_of_mem _ (List.mem_append_right _ h)
  have k_0 := hts (.fieldLink RX8 13 "OddLetsInModel" "many" "[I") (List.mem_of_getElem? (i := 1) rfl)
  have k_1 := hts (.fieldLink RX8 55 "OddLetsInModel" "counts" "[I") (List.mem_of_getElem? (i := 2) rfl)
  have W_20 : ∀ (a_spots : Nat → Int32) (n_20 : Nat) (x1 : Int32) (x2 : Int32) (a_counts : Nat → Int32) (H : Heap) (locs : List Loc) (ls : Array Slot), Wd (dC, dI) A s.heap (wX8_wrong cyI cyJ cyZ h h_text h_many h_ones h_others h_kinds h_firsts h_persons h_gone h_at h_fines h_undos h_seenOf h_seenOpen h_path h_told h_counts h_spots h_far h_row h_begins h_ways h_next i_length i_keptMany i_undoMany i_seenMany i_pathMany i_place i_found i_walkers a_many a_kinds a_gone a_at a_seenOf a_seenOpen a_counts a_spots) H locs → lv_has ls 3 [(0, .ref h), (1, .int x1), (2, .int x2)] → PX8_wrong_20 post i_seenMany a_many a_kinds a_seenOf a_seenOpen a_spots n_20 x1 x2 a_counts → W p l e (({ frames := 3, cells := 0, slots := 0, locals := 68 } : Room)) s m (([.ref h] : List Value).toArray) below meth c H locs 0 0 (MQ below (qX8_wrong dC dI cyI cyJ cyZ h h_text h_many h_ones h_others h_kinds h_firsts h_persons h_gone h_at h_fines h_undos h_seenOf h_seenOpen h_path h_told h_counts h_spots h_far h_row h_begins h_ways h_next i_length i_keptMany i_undoMany i_seenMany i_pathMany i_place i_found i_walkers a_many a_kinds a_gone a_at a_seenOf a_seenOpen a_counts a_spots post A) (([.ref h] : List Value).toArray) s 0 0 A) (F0 m 20 ls []) := by
    intro a_spots n_20
    induction n_20 with
    | zero =>
      intro x1 x2 a_counts H locs ls hW hl hw
      exact False.elim hw
    | succ n_20 ih_20 =>
      intro x1 x2 a_counts H locs ls hW hl hw
      refine lv_iload_n hx hb dX8_wrong_20 rfl (lv_at hl 2 rfl) ?_
      refine lv_aload_n hx hb dX8_wrong_21 rfl (lv_at hl 0 rfl) ?_
      refine zw_get (ci := 8) (C := RX8) (T := TX8) (N := 30) (v := .ref h_many) hx hb hts hiX8 hown hK hW 0 rfl rfl 2 (by decide) rfl k_0 dX8_wrong_22 ?_
      refine lv_iconst (v := 0) hx hb dX8_wrong_25 (by decide) ?_
      refine zw_iald hx hb hK hW 1 rfl rfl hw.1 dX8_wrong_26 ?_
      replace hw := hw.2
      refine lv_icmp_ge (tgt := 73) hx hb dX8_wrong_27 (by decide) (fun c_1 => ?_) (fun c_1 => ?_)
      · replace hw := hw.1 c_1
        refine lv_iload_n hx hb dX8_wrong_73 rfl (lv_at hl 1 rfl) ?_
        refine zw_iret (S := (Nat → Int32) × (Nat → Int32)) (post := fun r u => post r u.1 u.2) (a_counts, a_spots) hx hb hr hlocks hK hW hw ?_ dX8_wrong_74
        rfl
      · replace hw := hw.2 c_1
        refine lv_aload_n hx hb dX8_wrong_30 rfl (lv_at hl 0 rfl) ?_
        refine zw_get (ci := 8) (C := RX8) (T := TX8) (N := 30) (v := .ref h_counts) hx hb hts hiX8 hown hK hW 0 rfl rfl 21 (by decide) rfl k_1 dX8_wrong_31 ?_
        refine lv_iload_n hx hb dX8_wrong_34 rfl (lv_at hl 2 rfl) ?_
        refine lv_dup2_11 hx hb dX8_wrong_35 rfl rfl ?_
        refine zw_iald hx hb hK hW 7 rfl rfl hw.1 dX8_wrong_36 ?_
        replace hw := hw.2
        refine lv_iconst (v := 1) hx hb dX8_wrong_37 (by decide) ?_
        refine lv_iadd hx hb dX8_wrong_38 ?_
        refine lv_topi (fun t_2 et_2 => ?_)
        replace hw := hw t_2 et_2
        refine zw_iast hx hb hK hW 7 rfl rfl hw.1 (w2 := fun a_counts_3 => (wX8_wrong cyI cyJ cyZ h h_text h_many h_ones h_others h_kinds h_firsts h_persons h_gone h_at h_fines h_undos h_seenOf h_seenOpen h_path h_told h_counts h_spots h_far h_row h_begins h_ways h_next i_length i_keptMany i_undoMany i_seenMany i_pathMany i_place i_found i_walkers a_many a_kinds a_gone a_at a_seenOf a_seenOpen a_counts_3 a_spots)) (fun _ => rfl) dX8_wrong_39 (fun a_counts_3 H locs ea_counts_3 hW => ?_)
        replace hw := hw.2 a_counts_3 ea_counts_3
        refine lv_iload_n hx hb dX8_wrong_40 rfl (lv_at hl 1 rfl) ?_
        refine lv_aload_n hx hb dX8_wrong_41 rfl (lv_at hl 0 rfl) ?_
        refine zw_Vi ⟨hx, hb, hml, hown, hts⟩ hK hN hA hW 0 rfl (T := TX8) (N := 30) rfl [] [.int x1] [0, 1, 2, 5, 6, 7] [3, 4, 8] [3, 4, 5, 0, 1, 6, 7, 8, 2] (fun _ => (wX8_wrong cyI cyJ cyZ h h_text h_many h_ones h_others h_kinds h_firsts h_persons h_gone h_at h_fines h_undos h_seenOf h_seenOpen h_path h_told h_counts h_spots h_far h_row h_begins h_ways h_next i_length i_keptMany i_undoMany i_seenMany i_pathMany i_place i_found i_walkers a_many a_kinds a_gone a_at a_seenOf a_seenOpen a_counts_3 a_spots)) (mX8_isSeenSo l dC dI cyI cyJ cyZ h h_text h_many h_ones h_others h_kinds h_firsts h_persons h_gone h_at h_fines h_undos h_seenOf h_seenOpen h_path h_told h_counts h_spots h_far h_row h_begins h_ways h_next _ i_length i_keptMany i_undoMany i_seenMany i_pathMany i_place i_found i_walkers a_many a_kinds a_seenOf a_seenOpen a_counts_3 _ hw) (cwV 0 hts gX8_wrong_X8_isSeenSo rfl rfl rfl (by decide +kernel) ⟨Nat.le_of_ble_eq_true rfl, Nat.le_of_ble_eq_true rfl⟩) rfl rfl rfl rfl (by decide) rfl (fun _ => rfl) rfl hl.1 rfl (Nat.le_of_ble_eq_true rfl) (Nat.le_of_ble_eq_true rfl) (Nat.le_of_ble_eq_true rfl) dX8_wrong_42 (fun r_4 u H locs hw hW => ?_)
        obtain ⟨br_4, hw⟩ := hw
        refine lv_if_eq (tgt := 54) hx hb dX8_wrong_45 (by decide) (fun c_5 => ?_) (fun c_5 => ?_)
        · replace hw := hw.1 c_5
          refine lv_iconst (v := 0) hx hb dX8_wrong_54 (by decide) ?_
          refine lv_ior hx hb dX8_wrong_55 ?_
          refine lv_topi (fun x1_6 ex1_6 => ?_)
          replace hw := hw x1_6 ex1_6
          refine lv_istore_n (lv' := [(1, .int x1_6), (0, .ref h), (2, .int x2)]) hx hb dX8_wrong_56 rfl hl (by decide) rfl (fun ls hl => ?_)
          refine lv_aload_n hx hb dX8_wrong_57 rfl (lv_at hl 1 rfl) ?_
          refine zw_get (ci := 8) (C := RX8) (T := TX8) (N := 30) (v := .ref h_counts) hx hb hts hiX8 hown hK hW 0 rfl rfl 21 (by decide) rfl k_1 dX8_wrong_58 ?_
          refine lv_iload_n hx hb dX8_wrong_61 rfl (lv_at hl 2 rfl) ?_
          refine lv_dup2_11 hx hb dX8_wrong_62 rfl rfl ?_
          refine zw_iald hx hb hK hW 7 rfl rfl hw.1 dX8_wrong_63 ?_
          replace hw := hw.2
          refine lv_iconst (v := 1) hx hb dX8_wrong_64 (by decide) ?_
          refine lv_isub hx hb dX8_wrong_65 ?_
          refine lv_topi (fun t_7 et_7 => ?_)
          replace hw := hw t_7 et_7
          refine zw_iast hx hb hK hW 7 rfl rfl hw.1 (w2 := fun a_counts_8 => (wX8_wrong cyI cyJ cyZ h h_text h_many h_ones h_others h_kinds h_firsts h_persons h_gone h_at h_fines h_undos h_seenOf h_seenOpen h_path h_told h_counts h_spots h_far h_row h_begins h_ways h_next i_length i_keptMany i_undoMany i_seenMany i_pathMany i_place i_found i_walkers a_many a_kinds a_gone a_at a_seenOf a_seenOpen a_counts_8 a_spots)) (fun _ => rfl) dX8_wrong_66 (fun a_counts_8 H locs ea_counts_8 hW => ?_)
          replace hw := hw.2 a_counts_8 ea_counts_8
          obtain ⟨x2_9, ex2_9⟩ : ∃ y : Int32, y = x2 + 1 := ⟨_, rfl⟩
          replace hw := hw x2_9 ex2_9
          refine lv_iinc (v := x2_9) (lv' := [(2, .int x2_9), (1, .int x1_6), (0, .ref h)]) hx hb dX8_wrong_67 hl (k := 2) rfl (by rw [ex2_9]; rfl) (by decide) rfl (fun ls hl => ?_)
          refine lv_goto (tgt := 20) hx hb dX8_wrong_70 (by decide) ?_
          exact ih_20 x1_6 x2_9 a_counts_8 _ _ _ hW (lv_sub hl [2, 1, 0] rfl) hw
        · replace hw := hw.2 c_5
          refine lv_iconst (v := 1) hx hb dX8_wrong_48 (by decide) ?_
          refine lv_iload_n hx hb dX8_wrong_49 rfl (lv_at hl 2 rfl) ?_
          refine lv_ishl hx hb dX8_wrong_50 ?_
          refine lv_goto (tgt := 55) hx hb dX8_wrong_51 (by decide) ?_
          refine lv_ior hx hb dX8_wrong_55 ?_
          refine lv_topi (fun x1_10 ex1_10 => ?_)
          replace hw := hw x1_10 ex1_10
          refine lv_istore_n (lv' := [(1, .int x1_10), (0, .ref h), (2, .int x2)]) hx hb dX8_wrong_56 rfl hl (by decide) rfl (fun ls hl => ?_)
          refine lv_aload_n hx hb dX8_wrong_57 rfl (lv_at hl 1 rfl) ?_
          refine zw_get (ci := 8) (C := RX8) (T := TX8) (N := 30) (v := .ref h_counts) hx hb hts hiX8 hown hK hW 0 rfl rfl 21 (by decide) rfl k_1 dX8_wrong_58 ?_
          refine lv_iload_n hx hb dX8_wrong_61 rfl (lv_at hl 2 rfl) ?_
          refine lv_dup2_11 hx hb dX8_wrong_62 rfl rfl ?_
          refine zw_iald hx hb hK hW 7 rfl rfl hw.1 dX8_wrong_63 ?_
          replace hw := hw.2
          refine lv_iconst (v := 1) hx hb dX8_wrong_64 (by decide) ?_
          refine lv_isub hx hb dX8_wrong_65 ?_
          refine lv_topi (fun t_11 et_11 => ?_)
          replace hw := hw t_11 et_11
          refine zw_iast hx hb hK hW 7 rfl rfl hw.1 (w2 := fun a_counts_12 => (wX8_wrong cyI cyJ cyZ h h_text h_many h_ones h_others h_kinds h_firsts h_persons h_gone h_at h_fines h_undos h_seenOf h_seenOpen h_path h_told h_counts h_spots h_far h_row h_begins h_ways h_next i_length i_keptMany i_undoMany i_seenMany i_pathMany i_place i_found i_walkers a_many a_kinds a_gone a_at a_seenOf a_seenOpen a_counts_12 a_spots)) (fun _ => rfl) dX8_wrong_66 (fun a_counts_12 H locs ea_counts_12 hW => ?_)
          replace hw := hw.2 a_counts_12 ea_counts_12
          obtain ⟨x2_13, ex2_13⟩ : ∃ y : Int32, y = x2 + 1 := ⟨_, rfl⟩
          replace hw := hw x2_13 ex2_13
          refine lv_iinc (v := x2_13) (lv' := [(2, .int x2_13), (1, .int x1_10), (0, .ref h)]) hx hb dX8_wrong_67 hl (k := 2) rfl (by rw [ex2_13]; rfl) (by decide) rfl (fun ls hl => ?_)
          refine lv_goto (tgt := 20) hx hb dX8_wrong_70 (by decide) ?_
          exact ih_20 x1_10 x2_13 a_counts_12 _ _ _ hW (lv_sub hl [2, 1, 0] rfl) hw
  have hl := lv_entry ([.ref h]) (n := 3) (Nat.le_of_ble_eq_true rfl)
  rw [lg_entry_eq]
  generalize (lg_sl ([.ref h]) ++ List.replicate (3 - (lg_sl ([.ref h])).length) Slot.unset).toArray = ls at hl ⊢
  have hl : lv_has ls 3 [(0, .ref h)] := hl
  refine lv_aload_n hx hb dX8_wrong_0 rfl (lv_at hl 0 rfl) ?_
  refine zw_Vv ⟨hx, hb, hml, hown, hts⟩ hK hN hA hW 0 rfl (T := TX8) (N := 30) rfl [] [] [0, 3, 4, 7, 8] [1, 2, 5, 6] [4, 0, 1, 5, 6, 2, 3, 7, 8] (fun u => (wX8_wrong cyI cyJ cyZ h h_text h_many h_ones h_others h_kinds h_firsts h_persons h_gone h_at h_fines h_undos h_seenOf h_seenOpen h_path h_told h_counts h_spots h_far h_row h_begins h_ways h_next i_length i_keptMany i_undoMany i_seenMany i_pathMany i_place i_found i_walkers a_many a_kinds a_gone a_at a_seenOf a_seenOpen (u.1) (u.2))) (mX8_layNow l dC dI cyI cyJ cyZ h h_text h_many h_ones h_others h_kinds h_firsts h_persons h_gone h_at h_fines h_undos h_seenOf h_seenOpen h_path h_told h_counts h_spots h_far h_row h_begins h_ways h_next _ i_length i_keptMany i_undoMany i_seenMany i_pathMany i_place i_found i_walkers a_gone a_at a_counts a_spots _ hw) (cwV 0 hts gX8_wrong_X8_layNow rfl rfl rfl (by decide +kernel) ⟨Nat.le_of_ble_eq_true rfl, Nat.le_of_ble_eq_true rfl⟩) rfl rfl rfl rfl (by decide) rfl (fun _ => rfl) rfl hl.1 rfl (Nat.le_of_ble_eq_true rfl) (Nat.le_of_ble_eq_true rfl) (Nat.le_of_ble_eq_true rfl) dX8_wrong_1 (fun u H locs hw hW => ?_)
  obtain ⟨a_counts_14, a_spots_15⟩ := u
  try dsimp only at hw
  replace hW : Wd (dC, dI) A s.heap (wX8_wrong cyI cyJ cyZ h h_text h_many h_ones h_others h_kinds h_firsts h_persons h_gone h_at h_fines h_undos h_seenOf h_seenOpen h_path h_told h_counts h_spots h_far h_row h_begins h_ways h_next i_length i_keptMany i_undoMany i_seenMany i_pathMany i_place i_found i_walkers a_many a_kinds a_gone a_at a_seenOf a_seenOpen a_counts_14 a_spots_15) H locs := hW
  refine lv_aload_n hx hb dX8_wrong_4 rfl (lv_at hl 0 rfl) ?_
  refine zw_Vi ⟨hx, hb, hml, hown, hts⟩ hK hN hA hW 0 rfl (T := TX8) (N := 30) rfl [] [] [0, 1, 2, 5, 6, 7] [3, 4, 8] [3, 4, 5, 0, 1, 6, 7, 8, 2] (fun _ => (wX8_wrong cyI cyJ cyZ h h_text h_many h_ones h_others h_kinds h_firsts h_persons h_gone h_at h_fines h_undos h_seenOf h_seenOpen h_path h_told h_counts h_spots h_far h_row h_begins h_ways h_next i_length i_keptMany i_undoMany i_seenMany i_pathMany i_place i_found i_walkers a_many a_kinds a_gone a_at a_seenOf a_seenOpen a_counts_14 a_spots_15)) (mX8_isSeenSo l dC dI cyI cyJ cyZ h h_text h_many h_ones h_others h_kinds h_firsts h_persons h_gone h_at h_fines h_undos h_seenOf h_seenOpen h_path h_told h_counts h_spots h_far h_row h_begins h_ways h_next _ i_length i_keptMany i_undoMany i_seenMany i_pathMany i_place i_found i_walkers a_many a_kinds a_seenOf a_seenOpen a_counts_14 _ hw) (cwV 0 hts gX8_wrong_X8_isSeenSo rfl rfl rfl (by decide +kernel) ⟨Nat.le_of_ble_eq_true rfl, Nat.le_of_ble_eq_true rfl⟩) rfl rfl rfl rfl (by decide) rfl (fun _ => rfl) rfl hl.1 rfl (Nat.le_of_ble_eq_true rfl) (Nat.le_of_ble_eq_true rfl) (Nat.le_of_ble_eq_true rfl) dX8_wrong_5 (fun r_16 u H locs hw hW => ?_)
  obtain ⟨br_16, hw⟩ := hw
  refine lv_if_eq (tgt := 16) hx hb dX8_wrong_8 (by decide) (fun c_17 => ?_) (fun c_17 => ?_)
  · replace hw := hw.1 c_17
    refine lv_iconst (v := 0) hx hb dX8_wrong_16 (by decide) ?_
    refine lv_istore_n (lv' := [(1, .int 0), (0, .ref h)]) hx hb dX8_wrong_17 rfl hl (by decide) rfl (fun ls hl => ?_)
    refine lv_iconst (v := 0) hx hb dX8_wrong_18 (by decide) ?_
    refine lv_istore_n (lv' := [(2, .int 0), (1, .int 0), (0, .ref h)]) hx hb dX8_wrong_19 rfl hl (by decide) rfl (fun ls hl => ?_)
    obtain ⟨n_20, hw⟩ := hw
    exact W_20 a_spots_15 n_20 0 0 a_counts_14 _ _ _ hW (lv_sub hl [2, 1, 0] rfl) hw
  · replace hw := hw.2 c_17
    refine lv_bipush (v := 32) hx hb dX8_wrong_11 (by decide) ?_
    refine lv_goto (tgt := 17) hx hb dX8_wrong_13 (by decide) ?_
    refine lv_istore_n (lv' := [(1, .int 32), (0, .ref h)]) hx hb dX8_wrong_17 rfl hl (by decide) rfl (fun ls hl => ?_)
    refine lv_iconst (v := 0) hx hb dX8_wrong_18 (by decide) ?_
    refine lv_istore_n (lv' := [(2, .int 0), (1, .int 32), (0, .ref h)]) hx hb dX8_wrong_19 rfl hl (by decide) rfl (fun ls hl => ?_)
    obtain ⟨n_20, hw⟩ := hw
    exact W_20 a_spots_15 n_20 32 0 a_counts_14 _ _ _ hW (lv_sub hl [2, 1, 0] rfl) hw
abbrev wX8_path (cyI cyJ cyZ : ClassId) (h h_text h_many h_ones h_others h_kinds h_firsts h_persons h_gone h_at h_fines h_undos h_seenOf h_seenOpen h_path h_told h_counts h_spots h_far h_row h_begins h_ways h_next : Nat) (i_length : Int32) (i_keptMany : Int32) (i_undoMany : Int32) (i_seenMany : Int32) (i_pathMany : Int32) (i_place : Int32) (i_found : Int32) (i_walkers : Int32) (a_many : Nat → Int32) (a_path : Nat → Int32) : va_W := [(h, .inr (8, [.int i_length, .ref h_text, .ref h_many, .ref h_ones, .ref h_others, .ref h_kinds, .ref h_firsts, .ref h_persons, .ref h_gone, .ref h_at, .ref h_fines, .int i_keptMany, .int i_undoMany, .ref h_undos, .int i_seenMany, .ref h_seenOf, .ref h_seenOpen, .int i_pathMany, .ref h_path, .int i_place, .ref h_told, .ref h_counts, .ref h_spots, .ref h_far, .ref h_row, .ref h_begins, .int i_found, .int i_walkers, .ref h_ways, .ref h_next])), (h_many, .inl (cyI, 2, .inl a_many)), (h_path, .inl (cyI, 8, .inl a_path))]
abbrev qX8_path (dC : Nat → ClassId) (dI : Nat → Nat → Nat) (cyI cyJ cyZ : ClassId) (h h_text h_many h_ones h_others h_kinds h_firsts h_persons h_gone h_at h_fines h_undos h_seenOf h_seenOpen h_path h_told h_counts h_spots h_far h_row h_begins h_ways h_next : Nat) (i_length : Int32) (i_keptMany : Int32) (i_undoMany : Int32) (i_seenMany : Int32) (i_pathMany : Int32) (i_place : Int32) (i_found : Int32) (i_walkers : Int32) (a_many : Nat → Int32) (a_path : Nat → Int32) (post : Int32 → Int32 → (Nat → Int32) → Prop) (A : Nat → Prop) : Array Value → State → Outcome → State → Prop := (va_Qi (fun (r : Int32) (u : Int32 × (Nat → Int32)) => post r u.1 u.2) (bW (dC, dI) (tyG cyI cyJ cyZ) A (fun u : Int32 × (Nat → Int32) => (wX8_path cyI cyJ cyZ h h_text h_many h_ones h_others h_kinds h_firsts h_persons h_gone h_at h_fines h_undos h_seenOf h_seenOpen h_path h_told h_counts h_spots h_far h_row h_begins h_ways h_next i_length i_keptMany i_undoMany i_seenMany (u.1) i_place i_found i_walkers a_many (u.2)))) A)
set_option maxHeartbeats 4000000 in
set_option maxRecDepth 100000 in
theorem mX8_path (l : Launch) (dC : Nat → ClassId) (dI : Nat → Nat → Nat) (cyI cyJ cyZ : ClassId) (h h_text h_many h_ones h_others h_kinds h_firsts h_persons h_gone h_at h_fines h_undos h_seenOf h_seenOpen h_path h_told h_counts h_spots h_far h_row h_begins h_ways h_next : Nat) (sz : Nat) (i_length : Int32) (i_keptMany : Int32) (i_undoMany : Int32) (i_seenMany : Int32) (i_pathMany : Int32) (i_place : Int32) (i_found : Int32) (i_walkers : Int32) (a_many : Nat → Int32) (a_path : Nat → Int32) (x1 : Int32) (post : Int32 → Int32 → (Nat → Int32) → Prop) (hwp : PX8_path x1 i_pathMany a_many a_path post) : Met l yX8_path wsX8_path ({ frames := 2, cells := 0, slots := 0, locals := 46 } : Room) (va_Pc [.ref h, .int x1] (pcW (dC, dI) sz (wX8_path cyI cyJ cyZ h h_text h_many h_ones h_others h_kinds h_firsts h_persons h_gone h_at h_fines h_undos h_seenOf h_seenOpen h_path h_told h_counts h_spots h_far h_row h_begins h_ways h_next i_length i_keptMany i_undoMany i_seenMany i_pathMany i_place i_found i_walkers a_many a_path) (tyG cyI cyJ cyZ))) (qX8_path dC dI cyI cyJ cyZ h h_text h_many h_ones h_others h_kinds h_firsts h_persons h_gone h_at h_fines h_undos h_seenOf h_seenOpen h_path h_told h_counts h_spots h_far h_row h_begins h_ways h_next i_length i_keptMany i_undoMany i_seenMany i_pathMany i_place i_found i_walkers a_many a_path post (va_A (wX8_path cyI cyJ cyZ h h_text h_many h_ones h_others h_kinds h_firsts h_persons h_gone h_at h_fines h_undos h_seenOf h_seenOpen h_path h_told h_counts h_spots h_far h_row h_begins h_ways h_next i_length i_keptMany i_undoMany i_seenMany i_pathMany i_place i_found i_walkers a_many a_path) sz)) 0 0 (va_A (wX8_path cyI cyJ cyZ h h_text h_many h_ones h_others h_kinds h_firsts h_persons h_gone h_at h_fines h_undos h_seenOf h_seenOpen h_path h_told h_counts h_spots h_far h_row h_begins h_ways h_next i_length i_keptMany i_undoMany i_seenMany i_pathMany i_place i_found i_walkers a_many a_path) sz) := by
  refine Met.ofW (cc := cX8_path) (maxL := 2) (ret := some .int) (by decide) rfl ?_
  intro p e s m args below meth c s₁ B hml hv
  obtain ⟨rfl, hsz, hP, hK, hD0, hN⟩ := hv
  have hx := B.exec
  have hb := B.bytes
  have hr := B.returns
  have hts := atoms_spec (ws := wsX8_path) B.pre
  have hown : s.vm.findClass RX8 = some m.cls := findClass_of_methodNamed B.named
  have hlocks := B.notSynchronized
  subst hsz
  have hD := hD0.self (sz := s.heap.size)
  generalize hAe : va_A (wX8_path cyI cyJ cyZ h h_text h_many h_ones h_others h_kinds h_firsts h_persons h_gone h_at h_fines h_undos h_seenOf h_seenOpen h_path h_told h_counts h_spots h_far h_row h_begins h_ways h_next i_length i_keptMany i_undoMany i_seenMany i_pathMany i_place i_found i_walkers a_many a_path) s.heap.size = A at hD ⊢
  have hA : ∀ q : Nat, s.heap.size ≤ q → A q := fun q h => by rw [← hAe]; exact Or.inr h
  have hW : Wd (dC, dI) A s.heap (wX8_path cyI cyJ cyZ h h_text h_many h_ones h_others h_kinds h_firsts h_persons h_gone h_at h_fines h_undos h_seenOf h_seenOpen h_path h_told h_counts h_spots h_far h_row h_begins h_ways h_next i_length i_keptMany i_undoMany i_seenMany i_pathMany i_place i_found i_walkers a_many a_path) s.heap [] := ⟨hP, hD, va_S.rf⟩
  have hw := hwp
  have hiX8 : ∀ w ∈ u_ws RX8 TX8 30, w ∈ wsX8_path := fun _ h => List.mem_cons_of_mem _ (List.mem_append_right _ h)
  have k_0 := hts (.fieldLink RX8 128 "OddLetsInModel" "pathMany" "I") (List.mem_of_getElem? (i := 1) rfl)
  have k_1 := hts (.fieldLink RX8 49 "OddLetsInModel" "path" "[I") (List.mem_of_getElem? (i := 2) rfl)
  have hl := lv_entry ([.ref h, .int x1]) (n := 2) (Nat.le_of_ble_eq_true rfl)
  rw [lg_entry_eq]
  generalize (lg_sl ([.ref h, .int x1]) ++ List.replicate (2 - (lg_sl ([.ref h, .int x1])).length) Slot.unset).toArray = ls at hl ⊢
  have hl : lv_has ls 2 [(0, .ref h), (1, .int x1)] := hl
  refine lv_aload_n hx hb dX8_path_0 rfl (lv_at hl 0 rfl) ?_
  refine lv_iload_n hx hb dX8_path_1 rfl (lv_at hl 1 rfl) ?_
  refine zw_Vi ⟨hx, hb, hml, hown, hts⟩ hK hN hA hW 0 rfl (T := TX8) (N := 30) rfl [.int x1] [] [0, 1] [2] [1, 2, 0] (fun _ => (wX8_path cyI cyJ cyZ h h_text h_many h_ones h_others h_kinds h_firsts h_persons h_gone h_at h_fines h_undos h_seenOf h_seenOpen h_path h_told h_counts h_spots h_far h_row h_begins h_ways h_next i_length i_keptMany i_undoMany i_seenMany i_pathMany i_place i_found i_walkers a_many a_path)) (mX8_isGate l dC dI cyI cyJ cyZ h h_text h_many h_ones h_others h_kinds h_firsts h_persons h_gone h_at h_fines h_undos h_seenOf h_seenOpen h_path h_told h_counts h_spots h_far h_row h_begins h_ways h_next _ i_length i_keptMany i_undoMany i_seenMany i_pathMany i_place i_found i_walkers a_many x1 _ hw) (cwV 1 hts gX8_path_X8_isGate rfl rfl rfl (by decide +kernel) ⟨Nat.le_of_ble_eq_true rfl, Nat.le_of_ble_eq_true rfl⟩) rfl rfl rfl rfl (by decide) rfl (fun _ => rfl) rfl hl.1 rfl (Nat.le_of_ble_eq_true rfl) (Nat.le_of_ble_eq_true rfl) (Nat.le_of_ble_eq_true rfl) dX8_path_2 (fun r_1 u H locs hw hW => ?_)
  obtain ⟨br_1, hw⟩ := hw
  refine lv_if_ne (tgt := 10) hx hb dX8_path_5 (by decide) (fun c_2 => ?_) (fun c_2 => ?_)
  · replace hw := hw.2 c_2
    refine lv_aload_n hx hb dX8_path_10 rfl (lv_at hl 0 rfl) ?_
    refine zw_get (ci := 8) (C := RX8) (T := TX8) (N := 30) (v := .int i_pathMany) hx hb hts hiX8 hown hK hW 0 rfl rfl 17 (by decide) rfl k_0 dX8_path_11 ?_
    refine lv_bipush (v := 8) hx hb dX8_path_14 (by decide) ?_
    refine lv_icmp_ne (tgt := 22) hx hb dX8_path_16 (by decide) (fun c_3 => ?_) (fun c_3 => ?_)
    · replace hw := hw.2 c_3
      refine lv_aload_n hx hb dX8_path_22 rfl (lv_at hl 0 rfl) ?_
      refine zw_get (ci := 8) (C := RX8) (T := TX8) (N := 30) (v := .ref h_path) hx hb hts hiX8 hown hK hW 0 rfl rfl 18 (by decide) rfl k_1 dX8_path_23 ?_
      refine lv_aload_n hx hb dX8_path_26 rfl (lv_at hl 0 rfl) ?_
      refine zw_get (ci := 8) (C := RX8) (T := TX8) (N := 30) (v := .int i_pathMany) hx hb hts hiX8 hown hK hW 0 rfl rfl 17 (by decide) rfl k_0 dX8_path_27 ?_
      refine lv_iload_n hx hb dX8_path_30 rfl (lv_at hl 1 rfl) ?_
      refine zw_iast hx hb hK hW 2 rfl rfl hw.1 (w2 := fun a_path_4 => (wX8_path cyI cyJ cyZ h h_text h_many h_ones h_others h_kinds h_firsts h_persons h_gone h_at h_fines h_undos h_seenOf h_seenOpen h_path h_told h_counts h_spots h_far h_row h_begins h_ways h_next i_length i_keptMany i_undoMany i_seenMany i_pathMany i_place i_found i_walkers a_many a_path_4)) (fun _ => rfl) dX8_path_31 (fun a_path_4 H locs ea_path_4 hW => ?_)
      replace hw := hw.2 a_path_4 ea_path_4
      refine lv_aload_n hx hb dX8_path_32 rfl (lv_at hl 0 rfl) ?_
      refine lv_dup hx hb dX8_path_33 rfl ?_
      refine zw_get (ci := 8) (C := RX8) (T := TX8) (N := 30) (v := .int i_pathMany) hx hb hts hiX8 hown hK hW 0 rfl rfl 17 (by decide) rfl k_0 dX8_path_34 ?_
      refine lv_iconst (v := 1) hx hb dX8_path_37 (by decide) ?_
      refine lv_iadd hx hb dX8_path_38 ?_
      refine lv_topi (fun i_5 ei_5 => ?_)
      replace hw := hw i_5 ei_5
      refine zw_put (ci := 8) (C := RX8) (T := TX8) (N := 30) (w2 := (wX8_path cyI cyJ cyZ h h_text h_many h_ones h_others h_kinds h_firsts h_persons h_gone h_at h_fines h_undos h_seenOf h_seenOpen h_path h_told h_counts h_spots h_far h_row h_begins h_ways h_next i_length i_keptMany i_undoMany i_seenMany i_5 i_place i_found i_walkers a_many a_path_4)) hx hb hts hiX8 tyX8 tyX8_ok nmX8 hown hK hW 0 rfl rfl 17 (by decide) (by decide +kernel) rfl (Nat.le_of_ble_eq_true rfl) rfl k_0 dX8_path_39 (fun H locs hW => ?_)
      refine lv_aload_n hx hb dX8_path_42 rfl (lv_at hl 0 rfl) ?_
      refine zw_get (ci := 8) (C := RX8) (T := TX8) (N := 30) (v := .int i_5) hx hb hts hiX8 hown hK hW 0 rfl rfl 17 (by decide) rfl k_0 dX8_path_43 ?_
      refine zw_iret (S := Int32 × (Nat → Int32)) (post := fun r u => post r u.1 u.2) (i_5, a_path_4) hx hb hr hlocks hK hW hw ?_ dX8_path_46
      rfl
    · replace hw := hw.1 c_3
      refine lv_bipush (v := (-3)) hx hb dX8_path_19 (by decide) ?_
      refine zw_iret (S := Int32 × (Nat → Int32)) (post := fun r u => post r u.1 u.2) (i_pathMany, a_path) hx hb hr hlocks hK hW hw ?_ dX8_path_21
      rfl
  · replace hw := hw.1 c_2
    refine lv_iconst (v := (-1)) hx hb dX8_path_8 (by decide) ?_
    refine zw_iret (S := Int32 × (Nat → Int32)) (post := fun r u => post r u.1 u.2) (i_pathMany, a_path) hx hb hr hlocks hK hW hw ?_ dX8_path_9
    rfl
abbrev wX8_noPath (cyI cyJ cyZ : ClassId) (h h_text h_many h_ones h_others h_kinds h_firsts h_persons h_gone h_at h_fines h_undos h_seenOf h_seenOpen h_path h_told h_counts h_spots h_far h_row h_begins h_ways h_next : Nat) (i_length : Int32) (i_keptMany : Int32) (i_undoMany : Int32) (i_seenMany : Int32) (i_pathMany : Int32) (i_place : Int32) (i_found : Int32) (i_walkers : Int32) : va_W := [(h, .inr (8, [.int i_length, .ref h_text, .ref h_many, .ref h_ones, .ref h_others, .ref h_kinds, .ref h_firsts, .ref h_persons, .ref h_gone, .ref h_at, .ref h_fines, .int i_keptMany, .int i_undoMany, .ref h_undos, .int i_seenMany, .ref h_seenOf, .ref h_seenOpen, .int i_pathMany, .ref h_path, .int i_place, .ref h_told, .ref h_counts, .ref h_spots, .ref h_far, .ref h_row, .ref h_begins, .int i_found, .int i_walkers, .ref h_ways, .ref h_next]))]
abbrev qX8_noPath (dC : Nat → ClassId) (dI : Nat → Nat → Nat) (cyI cyJ cyZ : ClassId) (h h_text h_many h_ones h_others h_kinds h_firsts h_persons h_gone h_at h_fines h_undos h_seenOf h_seenOpen h_path h_told h_counts h_spots h_far h_row h_begins h_ways h_next : Nat) (i_length : Int32) (i_keptMany : Int32) (i_undoMany : Int32) (i_seenMany : Int32) (i_pathMany : Int32) (i_place : Int32) (i_found : Int32) (i_walkers : Int32) (post : Int32 → Int32 → Prop) (A : Nat → Prop) : Array Value → State → Outcome → State → Prop := (va_Qi (fun (r : Int32) (u : Int32) => post r u) (bW (dC, dI) (tyG cyI cyJ cyZ) A (fun u : Int32 => (wX8_noPath cyI cyJ cyZ h h_text h_many h_ones h_others h_kinds h_firsts h_persons h_gone h_at h_fines h_undos h_seenOf h_seenOpen h_path h_told h_counts h_spots h_far h_row h_begins h_ways h_next i_length i_keptMany i_undoMany i_seenMany u i_place i_found i_walkers))) A)
set_option maxHeartbeats 4000000 in
set_option maxRecDepth 100000 in
theorem mX8_noPath (l : Launch) (dC : Nat → ClassId) (dI : Nat → Nat → Nat) (cyI cyJ cyZ : ClassId) (h h_text h_many h_ones h_others h_kinds h_firsts h_persons h_gone h_at h_fines h_undos h_seenOf h_seenOpen h_path h_told h_counts h_spots h_far h_row h_begins h_ways h_next : Nat) (sz : Nat) (i_length : Int32) (i_keptMany : Int32) (i_undoMany : Int32) (i_seenMany : Int32) (i_pathMany : Int32) (i_place : Int32) (i_found : Int32) (i_walkers : Int32) (post : Int32 → Int32 → Prop) (hwp : PX8_noPath i_pathMany post) : Met l yX8_noPath wsX8_noPath ({ frames := 0, cells := 0, slots := 0, locals := 0 } : Room) (va_Pc [.ref h] (pcW (dC, dI) sz (wX8_noPath cyI cyJ cyZ h h_text h_many h_ones h_others h_kinds h_firsts h_persons h_gone h_at h_fines h_undos h_seenOf h_seenOpen h_path h_told h_counts h_spots h_far h_row h_begins h_ways h_next i_length i_keptMany i_undoMany i_seenMany i_pathMany i_place i_found i_walkers) (tyG cyI cyJ cyZ))) (qX8_noPath dC dI cyI cyJ cyZ h h_text h_many h_ones h_others h_kinds h_firsts h_persons h_gone h_at h_fines h_undos h_seenOf h_seenOpen h_path h_told h_counts h_spots h_far h_row h_begins h_ways h_next i_length i_keptMany i_undoMany i_seenMany i_pathMany i_place i_found i_walkers post (va_A (wX8_noPath cyI cyJ cyZ h h_text h_many h_ones h_others h_kinds h_firsts h_persons h_gone h_at h_fines h_undos h_seenOf h_seenOpen h_path h_told h_counts h_spots h_far h_row h_begins h_ways h_next i_length i_keptMany i_undoMany i_seenMany i_pathMany i_place i_found i_walkers) sz)) 0 0 (va_A (wX8_noPath cyI cyJ cyZ h h_text h_many h_ones h_others h_kinds h_firsts h_persons h_gone h_at h_fines h_undos h_seenOf h_seenOpen h_path h_told h_counts h_spots h_far h_row h_begins h_ways h_next i_length i_keptMany i_undoMany i_seenMany i_pathMany i_place i_found i_walkers) sz) := by
  refine Met.ofW (cc := cX8_noPath) (maxL := 2) (ret := some .int) (by decide) rfl ?_
  intro p e s m args below meth c s₁ B hml hv
  obtain ⟨rfl, hsz, hP, hK, hD0, hN⟩ := hv
  have hx := B.exec
  have hb := B.bytes
  have hr := B.returns
  have hts := atoms_spec (ws := wsX8_noPath) B.pre
  have hown : s.vm.findClass RX8 = some m.cls := findClass_of_methodNamed B.named
  have hlocks := B.notSynchronized
  subst hsz
  have hD := hD0.self (sz := s.heap.size)
  generalize hAe : va_A (wX8_noPath cyI cyJ cyZ h h_text h_many h_ones h_others h_kinds h_firsts h_persons h_gone h_at h_fines h_undos h_seenOf h_seenOpen h_path h_told h_counts h_spots h_far h_row h_begins h_ways h_next i_length i_keptMany i_undoMany i_seenMany i_pathMany i_place i_found i_walkers) s.heap.size = A at hD ⊢
  have hA : ∀ q : Nat, s.heap.size ≤ q → A q := fun q h => by rw [← hAe]; exact Or.inr h
  have hW : Wd (dC, dI) A s.heap (wX8_noPath cyI cyJ cyZ h h_text h_many h_ones h_others h_kinds h_firsts h_persons h_gone h_at h_fines h_undos h_seenOf h_seenOpen h_path h_told h_counts h_spots h_far h_row h_begins h_ways h_next i_length i_keptMany i_undoMany i_seenMany i_pathMany i_place i_found i_walkers) s.heap [] := ⟨hP, hD, va_S.rf⟩
  have hw := hwp
  have hiX8 : ∀ w ∈ u_ws RX8 TX8 30, w ∈ wsX8_noPath := fun _ h => List.mem_cons_of_mem _ (List.mem_append_right _ h)
  have k_0 := hts (.fieldLink RX8 128 "OddLetsInModel" "pathMany" "I") (List.mem_of_getElem? (i := 1) rfl)
  have hl := lv_entry ([.ref h]) (n := 2) (Nat.le_of_ble_eq_true rfl)
  rw [lg_entry_eq]
  generalize (lg_sl ([.ref h]) ++ List.replicate (2 - (lg_sl ([.ref h])).length) Slot.unset).toArray = ls at hl ⊢
  have hl : lv_has ls 2 [(0, .ref h)] := hl
  refine lv_aload_n hx hb dX8_noPath_0 rfl (lv_at hl 0 rfl) ?_
  refine zw_get (ci := 8) (C := RX8) (T := TX8) (N := 30) (v := .int i_pathMany) hx hb hts hiX8 hown hK hW 0 rfl rfl 17 (by decide) rfl k_0 dX8_noPath_1 ?_
  refine lv_istore_n (lv' := [(1, .int i_pathMany), (0, .ref h)]) hx hb dX8_noPath_4 rfl hl (by decide) rfl (fun ls hl => ?_)
  refine lv_aload_n hx hb dX8_noPath_5 rfl (lv_at hl 1 rfl) ?_
  refine lv_iconst (v := 0) hx hb dX8_noPath_6 (by decide) ?_
  refine zw_put (ci := 8) (C := RX8) (T := TX8) (N := 30) (w2 := (wX8_noPath cyI cyJ cyZ h h_text h_many h_ones h_others h_kinds h_firsts h_persons h_gone h_at h_fines h_undos h_seenOf h_seenOpen h_path h_told h_counts h_spots h_far h_row h_begins h_ways h_next i_length i_keptMany i_undoMany i_seenMany 0 i_place i_found i_walkers)) hx hb hts hiX8 tyX8 tyX8_ok nmX8 hown hK hW 0 rfl rfl 17 (by decide) (by decide +kernel) rfl (Nat.le_of_ble_eq_true rfl) rfl k_0 dX8_noPath_7 (fun H locs hW => ?_)
  refine lv_iload_n hx hb dX8_noPath_10 rfl (lv_at hl 0 rfl) ?_
  refine zw_iret (S := Int32) (post := fun r u => post r u) 0 hx hb hr hlocks hK hW hw ?_ dX8_noPath_11
  rfl
abbrev wX8_goGuest (cyI cyJ cyZ : ClassId) (h h_text h_many h_ones h_others h_kinds h_firsts h_persons h_gone h_at h_fines h_undos h_seenOf h_seenOpen h_path h_told h_counts h_spots h_far h_row h_begins h_ways h_next : Nat) (i_length : Int32) (i_keptMany : Int32) (i_undoMany : Int32) (i_seenMany : Int32) (i_pathMany : Int32) (i_place : Int32) (i_found : Int32) (i_walkers : Int32) (a_ones : Nat → Int32) (a_others : Nat → Int32) (a_kinds : Nat → Int32) (a_path : Nat → Int32) (a_counts : Nat → Int32) : va_W := [(h, .inr (8, [.int i_length, .ref h_text, .ref h_many, .ref h_ones, .ref h_others, .ref h_kinds, .ref h_firsts, .ref h_persons, .ref h_gone, .ref h_at, .ref h_fines, .int i_keptMany, .int i_undoMany, .ref h_undos, .int i_seenMany, .ref h_seenOf, .ref h_seenOpen, .int i_pathMany, .ref h_path, .int i_place, .ref h_told, .ref h_counts, .ref h_spots, .ref h_far, .ref h_row, .ref h_begins, .int i_found, .int i_walkers, .ref h_ways, .ref h_next])), (h_ones, .inl (cyI, 10, .inl a_ones)), (h_others, .inl (cyI, 10, .inl a_others)), (h_kinds, .inl (cyI, 10, .inl a_kinds)), (h_path, .inl (cyI, 8, .inl a_path)), (h_counts, .inl (cyI, 5, .inl a_counts))]
abbrev qX8_goGuest (dC : Nat → ClassId) (dI : Nat → Nat → Nat) (cyI cyJ cyZ : ClassId) (h h_text h_many h_ones h_others h_kinds h_firsts h_persons h_gone h_at h_fines h_undos h_seenOf h_seenOpen h_path h_told h_counts h_spots h_far h_row h_begins h_ways h_next : Nat) (i_length : Int32) (i_keptMany : Int32) (i_undoMany : Int32) (i_seenMany : Int32) (i_pathMany : Int32) (i_place : Int32) (i_found : Int32) (i_walkers : Int32) (a_ones : Nat → Int32) (a_others : Nat → Int32) (a_kinds : Nat → Int32) (a_path : Nat → Int32) (a_counts : Nat → Int32) (post : (Nat → Int32) → Prop) (A : Nat → Prop) : Array Value → State → Outcome → State → Prop := (va_Qv (fun (u : (Nat → Int32)) => post u) (bW (dC, dI) (tyG cyI cyJ cyZ) A (fun u : (Nat → Int32) => (wX8_goGuest cyI cyJ cyZ h h_text h_many h_ones h_others h_kinds h_firsts h_persons h_gone h_at h_fines h_undos h_seenOf h_seenOpen h_path h_told h_counts h_spots h_far h_row h_begins h_ways h_next i_length i_keptMany i_undoMany i_seenMany i_pathMany i_place i_found i_walkers a_ones a_others a_kinds a_path u))) A)
set_option maxHeartbeats 4000000 in
set_option maxRecDepth 100000 in
theorem mX8_goGuest (l : Launch) (dC : Nat → ClassId) (dI : Nat → Nat → Nat) (cyI cyJ cyZ : ClassId) (h h_text h_many h_ones h_others h_kinds h_firsts h_persons h_gone h_at h_fines h_undos h_seenOf h_seenOpen h_path h_told h_counts h_spots h_far h_row h_begins h_ways h_next : Nat) (sz : Nat) (i_length : Int32) (i_keptMany : Int32) (i_undoMany : Int32) (i_seenMany : Int32) (i_pathMany : Int32) (i_place : Int32) (i_found : Int32) (i_walkers : Int32) (a_ones : Nat → Int32) (a_others : Nat → Int32) (a_kinds : Nat → Int32) (a_path : Nat → Int32) (a_counts : Nat → Int32) (post : (Nat → Int32) → Prop) (hwp : PX8_goGuest i_pathMany a_ones a_others a_kinds a_path a_counts post) : Met l yX8_goGuest wsX8_goGuest ({ frames := 2, cells := 0, slots := 0, locals := 46 } : Room) (va_Pc [.ref h] (pcW (dC, dI) sz (wX8_goGuest cyI cyJ cyZ h h_text h_many h_ones h_others h_kinds h_firsts h_persons h_gone h_at h_fines h_undos h_seenOf h_seenOpen h_path h_told h_counts h_spots h_far h_row h_begins h_ways h_next i_length i_keptMany i_undoMany i_seenMany i_pathMany i_place i_found i_walkers a_ones a_others a_kinds a_path a_counts) (tyG cyI cyJ cyZ))) (qX8_goGuest dC dI cyI cyJ cyZ h h_text h_many h_ones h_others h_kinds h_firsts h_persons h_gone h_at h_fines h_undos h_seenOf h_seenOpen h_path h_told h_counts h_spots h_far h_row h_begins h_ways h_next i_length i_keptMany i_undoMany i_seenMany i_pathMany i_place i_found i_walkers a_ones a_others a_kinds a_path a_counts post (va_A (wX8_goGuest cyI cyJ cyZ h h_text h_many h_ones h_others h_kinds h_firsts h_persons h_gone h_at h_fines h_undos h_seenOf h_seenOpen h_path h_told h_counts h_spots h_far h_row h_begins h_ways h_next i_length i_keptMany i_undoMany i_seenMany i_pathMany i_place i_found i_walkers a_ones a_others a_kinds a_path a_counts) sz)) 0 0 (va_A (wX8_goGuest cyI cyJ cyZ h h_text h_many h_ones h_others h_kinds h_firsts h_persons h_gone h_at h_fines h_undos h_seenOf h_seenOpen h_path h_told h_counts h_spots h_far h_row h_begins h_ways h_next i_length i_keptMany i_undoMany i_seenMany i_pathMany i_place i_found i_walkers a_ones a_others a_kinds a_path a_counts) sz) := by
  refine Met.ofW (cc := cX8_goGuest) (maxL := 4) (ret := none) (by decide) rfl ?_
  intro p e s m args below meth c s₁ B hml hv
  obtain ⟨rfl, hsz, hP, hK, hD0, hN⟩ := hv
  have hx := B.exec
  have hb := B.bytes
  have hr := B.returns
  have hts := atoms_spec (ws := wsX8_goGuest) B.pre
  have hown : s.vm.findClass RX8 = some m.cls := findClass_of_methodNamed B.named
  have hlocks := B.notSynchronized
  subst hsz
  have hD := hD0.self (sz := s.heap.size)
  generalize hAe : va_A (wX8_goGuest cyI cyJ cyZ h h_text h_many h_ones h_others h_kinds h_firsts h_persons h_gone h_at h_fines h_undos h_seenOf h_seenOpen h_path h_told h_counts h_spots h_far h_row h_begins h_ways h_next i_length i_keptMany i_undoMany i_seenMany i_pathMany i_place i_found i_walkers a_ones a_others a_kinds a_path a_counts) s.heap.size = A at hD ⊢
  have hA : ∀ q : Nat, s.heap.size ≤ q → A q := fun q h => by rw [← hAe]; exact Or.inr h
  have hW : Wd (dC, dI) A s.heap (wX8_goGuest cyI cyJ cyZ h h_text h_many h_ones h_others h_kinds h_firsts h_persons h_gone h_at h_fines h_undos h_seenOf h_seenOpen h_path h_told h_counts h_spots h_far h_row h_begins h_ways h_next i_length i_keptMany i_undoMany i_seenMany i_pathMany i_place i_found i_walkers a_ones a_others a_kinds a_path a_counts) s.heap [] := ⟨hP, hD, va_S.rf⟩
  have hw := hwp
  have hiX8 : ∀ w ∈ u_ws RX8 TX8 30, w ∈ wsX8_goGuest := fun _ h => List.mem_cons_of_mem _ (List.mem_append_right _ h)
  have k_0 := hts (.fieldLink RX8 128 "OddLetsInModel" "pathMany" "I") (List.mem_of_getElem? (i := 1) rfl)
  have k_1 := hts (.fieldLink RX8 49 "OddLetsInModel" "path" "[I") (List.mem_of_getElem? (i := 2) rfl)
  have k_2 := hts (.fieldLink RX8 55 "OddLetsInModel" "counts" "[I") (List.mem_of_getElem? (i := 3) rfl)
  have W_4 : ∀ (n_4 : Nat) (x1 : Int32) (x2 : Int32) (a_counts : Nat → Int32) (H : Heap) (locs : List Loc) (ls : Array Slot), Wd (dC, dI) A s.heap (wX8_goGuest cyI cyJ cyZ h h_text h_many h_ones h_others h_kinds h_firsts h_persons h_gone h_at h_fines h_undos h_seenOf h_seenOpen h_path h_told h_counts h_spots h_far h_row h_begins h_ways h_next i_length i_keptMany i_undoMany i_seenMany i_pathMany i_place i_found i_walkers a_ones a_others a_kinds a_path a_counts) H locs → lv_has ls 4 [(0, .ref h), (1, .int x1), (2, .int x2)] → PX8_goGuest_4 post i_pathMany a_ones a_others a_kinds a_path n_4 x1 x2 a_counts → W p l e (({ frames := 2, cells := 0, slots := 0, locals := 46 } : Room)) s m (([.ref h] : List Value).toArray) below meth c H locs 0 0 (MQ below (qX8_goGuest dC dI cyI cyJ cyZ h h_text h_many h_ones h_others h_kinds h_firsts h_persons h_gone h_at h_fines h_undos h_seenOf h_seenOpen h_path h_told h_counts h_spots h_far h_row h_begins h_ways h_next i_length i_keptMany i_undoMany i_seenMany i_pathMany i_place i_found i_walkers a_ones a_others a_kinds a_path a_counts post A) (([.ref h] : List Value).toArray) s 0 0 A) (F0 m 4 ls []) := by
    intro n_4
    induction n_4 with
    | zero =>
      intro x1 x2 a_counts H locs ls hW hl hw
      exact False.elim hw
    | succ n_4 ih_4 =>
      intro x1 x2 a_counts H locs ls hW hl hw
      refine lv_iload_n hx hb dX8_goGuest_4 rfl (lv_at hl 2 rfl) ?_
      refine lv_aload_n hx hb dX8_goGuest_5 rfl (lv_at hl 0 rfl) ?_
      refine zw_get (ci := 8) (C := RX8) (T := TX8) (N := 30) (v := .int i_pathMany) hx hb hts hiX8 hown hK hW 0 rfl rfl 17 (by decide) rfl k_0 dX8_goGuest_6 ?_
      refine lv_icmp_ge (tgt := 52) hx hb dX8_goGuest_9 (by decide) (fun c_1 => ?_) (fun c_1 => ?_)
      · replace hw := hw.1 c_1
        refine zw_vret (S := (Nat → Int32)) (post := fun u => post u) a_counts hx hb hr hlocks hK hW hw ?_ dX8_goGuest_52
        rfl
      · replace hw := hw.2 c_1
        refine lv_aload_n hx hb dX8_goGuest_12 rfl (lv_at hl 0 rfl) ?_
        refine zw_get (ci := 8) (C := RX8) (T := TX8) (N := 30) (v := .ref h_path) hx hb hts hiX8 hown hK hW 0 rfl rfl 18 (by decide) rfl k_1 dX8_goGuest_13 ?_
        refine lv_iload_n hx hb dX8_goGuest_16 rfl (lv_at hl 2 rfl) ?_
        refine zw_iald hx hb hK hW 4 rfl rfl hw.1 dX8_goGuest_17 ?_
        replace hw := hw.2
        refine lv_topi (fun x3_2 ex3_2 => ?_)
        replace hw := hw x3_2 ex3_2
        refine lv_istore_n (lv' := [(3, .int x3_2), (0, .ref h), (1, .int x1), (2, .int x2)]) hx hb dX8_goGuest_18 rfl hl (by decide) rfl (fun ls hl => ?_)
        refine lv_aload_n hx hb dX8_goGuest_19 rfl (lv_at hl 1 rfl) ?_
        refine lv_iload_n hx hb dX8_goGuest_20 rfl (lv_at hl 2 rfl) ?_
        refine lv_iload_n hx hb dX8_goGuest_21 rfl (lv_at hl 0 rfl) ?_
        refine zw_Vi ⟨hx, hb, hml, hown, hts⟩ hK hN hA hW 0 rfl (T := TX8) (N := 30) rfl [.int x1, .int x3_2] [] [0, 1, 2, 3, 5] [4] [1, 2, 3, 4, 0, 5] (fun _ => (wX8_goGuest cyI cyJ cyZ h h_text h_many h_ones h_others h_kinds h_firsts h_persons h_gone h_at h_fines h_undos h_seenOf h_seenOpen h_path h_told h_counts h_spots h_far h_row h_begins h_ways h_next i_length i_keptMany i_undoMany i_seenMany i_pathMany i_place i_found i_walkers a_ones a_others a_kinds a_path a_counts)) (mX8_canPass l dC dI cyI cyJ cyZ h h_text h_many h_ones h_others h_kinds h_firsts h_persons h_gone h_at h_fines h_undos h_seenOf h_seenOpen h_path h_told h_counts h_spots h_far h_row h_begins h_ways h_next _ i_length i_keptMany i_undoMany i_seenMany i_pathMany i_place i_found i_walkers a_ones a_others a_kinds a_counts x1 x3_2 _ hw) (cwV 2 hts gX8_goGuest_X8_canPass rfl rfl rfl (by decide +kernel) ⟨Nat.le_of_ble_eq_true rfl, Nat.le_of_ble_eq_true rfl⟩) rfl rfl rfl rfl (by decide) rfl (fun _ => rfl) rfl hl.1 rfl (Nat.le_of_ble_eq_true rfl) (Nat.le_of_ble_eq_true rfl) (Nat.le_of_ble_eq_true rfl) dX8_goGuest_22 (fun r_3 u H locs hw hW => ?_)
        obtain ⟨br_3, hw⟩ := hw
        refine lv_if_ne (tgt := 29) hx hb dX8_goGuest_25 (by decide) (fun c_4 => ?_) (fun c_4 => ?_)
        · replace hw := hw.2 c_4
          refine lv_aload_n hx hb dX8_goGuest_29 rfl (lv_at hl 1 rfl) ?_
          refine zw_get (ci := 8) (C := RX8) (T := TX8) (N := 30) (v := .ref h_counts) hx hb hts hiX8 hown hK hW 0 rfl rfl 21 (by decide) rfl k_2 dX8_goGuest_30 ?_
          refine lv_iload_n hx hb dX8_goGuest_33 rfl (lv_at hl 0 rfl) ?_
          refine lv_dup2_11 hx hb dX8_goGuest_34 rfl rfl ?_
          refine zw_iald hx hb hK hW 5 rfl rfl hw.1 dX8_goGuest_35 ?_
          replace hw := hw.2
          refine lv_iconst (v := 1) hx hb dX8_goGuest_36 (by decide) ?_
          refine lv_iadd hx hb dX8_goGuest_37 ?_
          refine lv_topi (fun t_5 et_5 => ?_)
          replace hw := hw t_5 et_5
          refine zw_iast hx hb hK hW 5 rfl rfl hw.1 (w2 := fun a_counts_6 => (wX8_goGuest cyI cyJ cyZ h h_text h_many h_ones h_others h_kinds h_firsts h_persons h_gone h_at h_fines h_undos h_seenOf h_seenOpen h_path h_told h_counts h_spots h_far h_row h_begins h_ways h_next i_length i_keptMany i_undoMany i_seenMany i_pathMany i_place i_found i_walkers a_ones a_others a_kinds a_path a_counts_6)) (fun _ => rfl) dX8_goGuest_38 (fun a_counts_6 H locs ea_counts_6 hW => ?_)
          replace hw := hw.2 a_counts_6 ea_counts_6
          refine lv_aload_n hx hb dX8_goGuest_39 rfl (lv_at hl 1 rfl) ?_
          refine lv_iload_n hx hb dX8_goGuest_40 rfl (lv_at hl 0 rfl) ?_
          refine lv_iload_n hx hb dX8_goGuest_41 rfl (lv_at hl 2 rfl) ?_
          refine zw_Vi ⟨hx, hb, hml, hown, hts⟩ hK hN hA hW 0 rfl (T := TX8) (N := 30) rfl [.int x3_2, .int x1] [] [0, 1, 2] [3, 4, 5] [3, 4, 5, 0, 1, 2] (fun _ => (wX8_goGuest cyI cyJ cyZ h h_text h_many h_ones h_others h_kinds h_firsts h_persons h_gone h_at h_fines h_undos h_seenOf h_seenOpen h_path h_told h_counts h_spots h_far h_row h_begins h_ways h_next i_length i_keptMany i_undoMany i_seenMany i_pathMany i_place i_found i_walkers a_ones a_others a_kinds a_path a_counts_6)) (mX8_beyond l dC dI cyI cyJ cyZ h h_text h_many h_ones h_others h_kinds h_firsts h_persons h_gone h_at h_fines h_undos h_seenOf h_seenOpen h_path h_told h_counts h_spots h_far h_row h_begins h_ways h_next _ i_length i_keptMany i_undoMany i_seenMany i_pathMany i_place i_found i_walkers a_ones a_others x3_2 x1 _ hw) (cwV 2 hts gX8_goGuest_X8_beyond rfl rfl rfl (by decide +kernel) ⟨Nat.le_of_ble_eq_true rfl, Nat.le_of_ble_eq_true rfl⟩) rfl rfl rfl rfl (by decide) rfl (fun _ => rfl) rfl hl.1 rfl (Nat.le_of_ble_eq_true rfl) (Nat.le_of_ble_eq_true rfl) (Nat.le_of_ble_eq_true rfl) dX8_goGuest_42 (fun r_7 u H locs hw hW => ?_)
          refine lv_istore_n (lv' := [(1, .int r_7), (3, .int x3_2), (0, .ref h), (2, .int x2)]) hx hb dX8_goGuest_45 rfl hl (by decide) rfl (fun ls hl => ?_)
          obtain ⟨x2_8, ex2_8⟩ : ∃ y : Int32, y = x2 + 1 := ⟨_, rfl⟩
          replace hw := hw x2_8 ex2_8
          refine lv_iinc (v := x2_8) (lv' := [(2, .int x2_8), (1, .int r_7), (3, .int x3_2), (0, .ref h)]) hx hb dX8_goGuest_46 hl (k := 3) rfl (by rw [ex2_8]; rfl) (by decide) rfl (fun ls hl => ?_)
          refine lv_goto (tgt := 4) hx hb dX8_goGuest_49 (by decide) ?_
          exact ih_4 r_7 x2_8 a_counts_6 _ _ _ hW (lv_sub hl [3, 1, 0] rfl) hw
        · replace hw := hw.1 c_4
          refine zw_vret (S := (Nat → Int32)) (post := fun u => post u) a_counts hx hb hr hlocks hK hW hw ?_ dX8_goGuest_28
          rfl
  have hl := lv_entry ([.ref h]) (n := 4) (Nat.le_of_ble_eq_true rfl)
  rw [lg_entry_eq]
  generalize (lg_sl ([.ref h]) ++ List.replicate (4 - (lg_sl ([.ref h])).length) Slot.unset).toArray = ls at hl ⊢
  have hl : lv_has ls 4 [(0, .ref h)] := hl
  refine lv_iconst (v := 0) hx hb dX8_goGuest_0 (by decide) ?_
  refine lv_istore_n (lv' := [(1, .int 0), (0, .ref h)]) hx hb dX8_goGuest_1 rfl hl (by decide) rfl (fun ls hl => ?_)
  refine lv_iconst (v := 0) hx hb dX8_goGuest_2 (by decide) ?_
  refine lv_istore_n (lv' := [(2, .int 0), (1, .int 0), (0, .ref h)]) hx hb dX8_goGuest_3 rfl hl (by decide) rfl (fun ls hl => ?_)
  obtain ⟨n_4, hw⟩ := hw
  exact W_4  n_4 0 0 a_counts _ _ _ hW (lv_sub hl [2, 1, 0] rfl) hw
abbrev wX8_guests (cyI cyJ cyZ : ClassId) (h h_text h_many h_ones h_others h_kinds h_firsts h_persons h_gone h_at h_fines h_undos h_seenOf h_seenOpen h_path h_told h_counts h_spots h_far h_row h_begins h_ways h_next : Nat) (i_length : Int32) (i_keptMany : Int32) (i_undoMany : Int32) (i_seenMany : Int32) (i_pathMany : Int32) (i_place : Int32) (i_found : Int32) (i_walkers : Int32) (a_many : Nat → Int32) (a_ones : Nat → Int32) (a_others : Nat → Int32) (a_kinds : Nat → Int32) (a_gone : Nat → Int32) (a_at : Nat → Int32) (a_path : Nat → Int32) (a_counts : Nat → Int32) (a_spots : Nat → Int32) : va_W := [(h, .inr (8, [.int i_length, .ref h_text, .ref h_many, .ref h_ones, .ref h_others, .ref h_kinds, .ref h_firsts, .ref h_persons, .ref h_gone, .ref h_at, .ref h_fines, .int i_keptMany, .int i_undoMany, .ref h_undos, .int i_seenMany, .ref h_seenOf, .ref h_seenOpen, .int i_pathMany, .ref h_path, .int i_place, .ref h_told, .ref h_counts, .ref h_spots, .ref h_far, .ref h_row, .ref h_begins, .int i_found, .int i_walkers, .ref h_ways, .ref h_next])), (h_many, .inl (cyI, 2, .inl a_many)), (h_ones, .inl (cyI, 10, .inl a_ones)), (h_others, .inl (cyI, 10, .inl a_others)), (h_kinds, .inl (cyI, 10, .inl a_kinds)), (h_gone, .inl (cyI, 15, .inl a_gone)), (h_at, .inl (cyI, 9, .inl a_at)), (h_path, .inl (cyI, 8, .inl a_path)), (h_counts, .inl (cyI, 5, .inl a_counts)), (h_spots, .inl (cyI, 3, .inl a_spots))]
abbrev qX8_guests (dC : Nat → ClassId) (dI : Nat → Nat → Nat) (cyI cyJ cyZ : ClassId) (h h_text h_many h_ones h_others h_kinds h_firsts h_persons h_gone h_at h_fines h_undos h_seenOf h_seenOpen h_path h_told h_counts h_spots h_far h_row h_begins h_ways h_next : Nat) (i_length : Int32) (i_keptMany : Int32) (i_undoMany : Int32) (i_seenMany : Int32) (i_pathMany : Int32) (i_place : Int32) (i_found : Int32) (i_walkers : Int32) (a_many : Nat → Int32) (a_ones : Nat → Int32) (a_others : Nat → Int32) (a_kinds : Nat → Int32) (a_gone : Nat → Int32) (a_at : Nat → Int32) (a_path : Nat → Int32) (a_counts : Nat → Int32) (a_spots : Nat → Int32) (post : Int32 → (Nat → Int32) → (Nat → Int32) → Prop) (A : Nat → Prop) : Array Value → State → Outcome → State → Prop := (va_Qi (fun (r : Int32) (u : (Nat → Int32) × (Nat → Int32)) => post r u.1 u.2) (bW (dC, dI) (tyG cyI cyJ cyZ) A (fun u : (Nat → Int32) × (Nat → Int32) => (wX8_guests cyI cyJ cyZ h h_text h_many h_ones h_others h_kinds h_firsts h_persons h_gone h_at h_fines h_undos h_seenOf h_seenOpen h_path h_told h_counts h_spots h_far h_row h_begins h_ways h_next i_length i_keptMany i_undoMany i_seenMany i_pathMany i_place i_found i_walkers a_many a_ones a_others a_kinds a_gone a_at a_path (u.1) (u.2)))) A)
set_option maxHeartbeats 4000000 in
set_option maxRecDepth 100000 in
theorem mX8_guests (l : Launch) (dC : Nat → ClassId) (dI : Nat → Nat → Nat) (cyI cyJ cyZ : ClassId) (h h_text h_many h_ones h_others h_kinds h_firsts h_persons h_gone h_at h_fines h_undos h_seenOf h_seenOpen h_path h_told h_counts h_spots h_far h_row h_begins h_ways h_next : Nat) (sz : Nat) (i_length : Int32) (i_keptMany : Int32) (i_undoMany : Int32) (i_seenMany : Int32) (i_pathMany : Int32) (i_place : Int32) (i_found : Int32) (i_walkers : Int32) (a_many : Nat → Int32) (a_ones : Nat → Int32) (a_others : Nat → Int32) (a_kinds : Nat → Int32) (a_gone : Nat → Int32) (a_at : Nat → Int32) (a_path : Nat → Int32) (a_counts : Nat → Int32) (a_spots : Nat → Int32) (x1 : Int32) (x2 : Int32) (post : Int32 → (Nat → Int32) → (Nat → Int32) → Prop) (hwp : PX8_guests x1 x2 i_pathMany a_many a_ones a_others a_kinds a_gone a_at a_path a_counts a_spots post) : Met l yX8_guests wsX8_guests ({ frames := 3, cells := 0, slots := 0, locals := 69 } : Room) (va_Pc [.ref h, .int x1, .int x2] (pcW (dC, dI) sz (wX8_guests cyI cyJ cyZ h h_text h_many h_ones h_others h_kinds h_firsts h_persons h_gone h_at h_fines h_undos h_seenOf h_seenOpen h_path h_told h_counts h_spots h_far h_row h_begins h_ways h_next i_length i_keptMany i_undoMany i_seenMany i_pathMany i_place i_found i_walkers a_many a_ones a_others a_kinds a_gone a_at a_path a_counts a_spots) (tyG cyI cyJ cyZ))) (qX8_guests dC dI cyI cyJ cyZ h h_text h_many h_ones h_others h_kinds h_firsts h_persons h_gone h_at h_fines h_undos h_seenOf h_seenOpen h_path h_told h_counts h_spots h_far h_row h_begins h_ways h_next i_length i_keptMany i_undoMany i_seenMany i_pathMany i_place i_found i_walkers a_many a_ones a_others a_kinds a_gone a_at a_path a_counts a_spots post (va_A (wX8_guests cyI cyJ cyZ h h_text h_many h_ones h_others h_kinds h_firsts h_persons h_gone h_at h_fines h_undos h_seenOf h_seenOpen h_path h_told h_counts h_spots h_far h_row h_begins h_ways h_next i_length i_keptMany i_undoMany i_seenMany i_pathMany i_place i_found i_walkers a_many a_ones a_others a_kinds a_gone a_at a_path a_counts a_spots) sz)) 0 0 (va_A (wX8_guests cyI cyJ cyZ h h_text h_many h_ones h_others h_kinds h_firsts h_persons h_gone h_at h_fines h_undos h_seenOf h_seenOpen h_path h_told h_counts h_spots h_far h_row h_begins h_ways h_next i_length i_keptMany i_undoMany i_seenMany i_pathMany i_place i_found i_walkers a_many a_ones a_others a_kinds a_gone a_at a_path a_counts a_spots) sz) := by
  refine Met.ofW (cc := cX8_guests) (maxL := 6) (ret := some .int) (by decide) rfl ?_
  intro p e s m args below meth c s₁ B hml hv
  obtain ⟨rfl, hsz, hP, hK, hD0, hN⟩ := hv
  have hx := B.exec
  have hb := B.bytes
  have hr := B.returns
  have hts := atoms_spec (ws := wsX8_guests) B.pre
  have hown : s.vm.findClass RX8 = some m.cls := findClass_of_methodNamed B.named
  have hlocks := B.notSynchronized
  subst hsz
  have hD := hD0.self (sz := s.heap.size)
  generalize hAe : va_A (wX8_guests cyI cyJ cyZ h h_text h_many h_ones h_others h_kinds h_firsts h_persons h_gone h_at h_fines h_undos h_seenOf h_seenOpen h_path h_told h_counts h_spots h_far h_row h_begins h_ways h_next i_length i_keptMany i_undoMany i_seenMany i_pathMany i_place i_found i_walkers a_many a_ones a_others a_kinds a_gone a_at a_path a_counts a_spots) s.heap.size = A at hD ⊢
  have hA : ∀ q : Nat, s.heap.size ≤ q → A q := fun q h => by rw [← hAe]; exact Or.inr h
  have hW : Wd (dC, dI) A s.heap (wX8_guests cyI cyJ cyZ h h_text h_many h_ones h_others h_kinds h_firsts h_persons h_gone h_at h_fines h_undos h_seenOf h_seenOpen h_path h_told h_counts h_spots h_far h_row h_begins h_ways h_next i_length i_keptMany i_undoMany i_seenMany i_pathMany i_place i_found i_walkers a_many a_ones a_others a_kinds a_gone a_at a_path a_counts a_spots) s.heap [] := ⟨hP, hD, va_S.rf⟩
  have hw := hwp
  have W_33 : ∀ (a_spots : Nat → Int32) (n_33 : Nat) (x3 : Int32) (x4 : Int32) (x5 : Int32) (a_counts : Nat → Int32) (H : Heap) (locs : List Loc) (ls : Array Slot), Wd (dC, dI) A s.heap (wX8_guests cyI cyJ cyZ h h_text h_many h_ones h_others h_kinds h_firsts h_persons h_gone h_at h_fines h_undos h_seenOf h_seenOpen h_path h_told h_counts h_spots h_far h_row h_begins h_ways h_next i_length i_keptMany i_undoMany i_seenMany i_pathMany i_place i_found i_walkers a_many a_ones a_others a_kinds a_gone a_at a_path a_counts a_spots) H locs → lv_has ls 6 [(0, .ref h), (1, .int x1), (2, .int x2), (3, .int x3), (4, .int x4), (5, .int x5)] → PX8_guests_33 post x1 x2 i_pathMany a_many a_ones a_others a_kinds a_path a_spots n_33 x3 x4 x5 a_counts → W p l e (({ frames := 3, cells := 0, slots := 0, locals := 69 } : Room)) s m (([.ref h, .int x1, .int x2] : List Value).toArray) below meth c H locs 0 0 (MQ below (qX8_guests dC dI cyI cyJ cyZ h h_text h_many h_ones h_others h_kinds h_firsts h_persons h_gone h_at h_fines h_undos h_seenOf h_seenOpen h_path h_told h_counts h_spots h_far h_row h_begins h_ways h_next i_length i_keptMany i_undoMany i_seenMany i_pathMany i_place i_found i_walkers a_many a_ones a_others a_kinds a_gone a_at a_path a_counts a_spots post A) (([.ref h, .int x1, .int x2] : List Value).toArray) s 0 0 A) (F0 m 33 ls []) := by
    intro a_spots n_33
    induction n_33 with
    | zero =>
      intro x3 x4 x5 a_counts H locs ls hW hl hw
      exact False.elim hw
    | succ n_33 ih_33 =>
      intro x3 x4 x5 a_counts H locs ls hW hl hw
      refine lv_iload hx hb dX8_guests_33 (lv_at hl 5 rfl) ?_
      refine lv_bipush (v := 60) hx hb dX8_guests_35 (by decide) ?_
      refine lv_icmp_gt (tgt := 74) hx hb dX8_guests_37 (by decide) (fun c_1 => ?_) (fun c_1 => ?_)
      · replace hw := hw.1 c_1
        refine lv_iload_n hx hb dX8_guests_74 rfl (lv_at hl 2 rfl) ?_
        refine lv_if_ne (tgt := 82) hx hb dX8_guests_75 (by decide) (fun c_2 => ?_) (fun c_2 => ?_)
        · replace hw := hw.2 c_2
          refine lv_iload hx hb dX8_guests_82 (lv_at hl 4 rfl) ?_
          refine zw_iret (S := (Nat → Int32) × (Nat → Int32)) (post := fun r u => post r u.1 u.2) (a_counts, a_spots) hx hb hr hlocks hK hW hw ?_ dX8_guests_84
          rfl
        · replace hw := hw.1 c_2
          refine lv_iload_n hx hb dX8_guests_78 rfl (lv_at hl 3 rfl) ?_
          refine lv_goto (tgt := 84) hx hb dX8_guests_79 (by decide) ?_
          refine zw_iret (S := (Nat → Int32) × (Nat → Int32)) (post := fun r u => post r u.1 u.2) (a_counts, a_spots) hx hb hr hlocks hK hW hw ?_ dX8_guests_84
          rfl
      · replace hw := hw.2 c_1
        refine lv_aload_n hx hb dX8_guests_40 rfl (lv_at hl 0 rfl) ?_
        refine zw_Vv ⟨hx, hb, hml, hown, hts⟩ hK hN hA hW 0 rfl (T := TX8) (N := 30) rfl [] [] [0, 2, 3, 4, 7, 8] [1, 5, 6, 9] [4, 0, 5, 6, 7, 1, 2, 8, 9, 3] (fun u => (wX8_guests cyI cyJ cyZ h h_text h_many h_ones h_others h_kinds h_firsts h_persons h_gone h_at h_fines h_undos h_seenOf h_seenOpen h_path h_told h_counts h_spots h_far h_row h_begins h_ways h_next i_length i_keptMany i_undoMany i_seenMany i_pathMany i_place i_found i_walkers a_many a_ones a_others a_kinds a_gone a_at a_path u a_spots)) (mX8_goGuest l dC dI cyI cyJ cyZ h h_text h_many h_ones h_others h_kinds h_firsts h_persons h_gone h_at h_fines h_undos h_seenOf h_seenOpen h_path h_told h_counts h_spots h_far h_row h_begins h_ways h_next _ i_length i_keptMany i_undoMany i_seenMany i_pathMany i_place i_found i_walkers a_ones a_others a_kinds a_path a_counts _ hw) (cwV 0 hts gX8_guests_X8_goGuest rfl rfl rfl (by decide +kernel) ⟨Nat.le_of_ble_eq_true rfl, Nat.le_of_ble_eq_true rfl⟩) rfl rfl rfl rfl (by decide) rfl (fun _ => rfl) rfl hl.1 rfl (Nat.le_of_ble_eq_true rfl) (Nat.le_of_ble_eq_true rfl) (Nat.le_of_ble_eq_true rfl) dX8_guests_41 (fun u H locs hw hW => ?_)
        obtain ⟨a_counts_3, rfl⟩ : ∃ z, z = u := ⟨_, rfl⟩
        replace hW : Wd (dC, dI) A s.heap (wX8_guests cyI cyJ cyZ h h_text h_many h_ones h_others h_kinds h_firsts h_persons h_gone h_at h_fines h_undos h_seenOf h_seenOpen h_path h_told h_counts h_spots h_far h_row h_begins h_ways h_next i_length i_keptMany i_undoMany i_seenMany i_pathMany i_place i_found i_walkers a_many a_ones a_others a_kinds a_gone a_at a_path a_counts_3 a_spots) H locs := hW
        refine lv_aload_n hx hb dX8_guests_44 rfl (lv_at hl 0 rfl) ?_
        refine zw_Vi ⟨hx, hb, hml, hown, hts⟩ hK hN hA hW 0 rfl (T := TX8) (N := 30) rfl [] [] [0, 1, 4, 8] [2, 3, 5, 6, 7, 9] [6, 7, 0, 1, 8, 2, 3, 4, 9, 5] (fun _ => (wX8_guests cyI cyJ cyZ h h_text h_many h_ones h_others h_kinds h_firsts h_persons h_gone h_at h_fines h_undos h_seenOf h_seenOpen h_path h_told h_counts h_spots h_far h_row h_begins h_ways h_next i_length i_keptMany i_undoMany i_seenMany i_pathMany i_place i_found i_walkers a_many a_ones a_others a_kinds a_gone a_at a_path a_counts_3 a_spots)) (mX8_openSet l dC dI cyI cyJ cyZ h h_text h_many h_ones h_others h_kinds h_firsts h_persons h_gone h_at h_fines h_undos h_seenOf h_seenOpen h_path h_told h_counts h_spots h_far h_row h_begins h_ways h_next _ i_length i_keptMany i_undoMany i_seenMany i_pathMany i_place i_found i_walkers a_many a_kinds a_counts_3 _ hw) (cwV 0 hts gX8_guests_X8_openSet rfl rfl rfl (by decide +kernel) ⟨Nat.le_of_ble_eq_true rfl, Nat.le_of_ble_eq_true rfl⟩) rfl rfl rfl rfl (by decide) rfl (fun _ => rfl) rfl hl.1 rfl (Nat.le_of_ble_eq_true rfl) (Nat.le_of_ble_eq_true rfl) (Nat.le_of_ble_eq_true rfl) dX8_guests_45 (fun r_4 u H locs hw hW => ?_)
        refine lv_iload_n hx hb dX8_guests_48 rfl (lv_at hl 1 rfl) ?_
        refine lv_icmp_ne (tgt := 68) hx hb dX8_guests_49 (by decide) (fun c_5 => ?_) (fun c_5 => ?_)
        · replace hw := hw.2 c_5
          obtain ⟨x5_6, ex5_6⟩ : ∃ y : Int32, y = x5 + 1 := ⟨_, rfl⟩
          replace hw := hw x5_6 ex5_6
          refine lv_iinc (v := x5_6) (lv' := [(5, .int x5_6), (0, .ref h), (1, .int x1), (2, .int x2), (3, .int x3), (4, .int x4)]) hx hb dX8_guests_68 hl (k := 5) rfl (by rw [ex5_6]; rfl) (by decide) rfl (fun ls hl => ?_)
          refine lv_goto (tgt := 33) hx hb dX8_guests_71 (by decide) ?_
          exact ih_33 x3 x4 x5_6 a_counts_3 _ _ _ hW (lv_sub hl [1, 2, 3, 4, 5, 0] rfl) hw
        · replace hw := hw.1 c_5
          refine lv_iload_n hx hb dX8_guests_52 rfl (lv_at hl 3 rfl) ?_
          refine lv_if_ne (tgt := 61) hx hb dX8_guests_53 (by decide) (fun c_7 => ?_) (fun c_7 => ?_)
          · replace hw := hw.2 c_7
            refine lv_iload hx hb dX8_guests_61 (lv_at hl 4 rfl) ?_
            refine lv_istore (lv' := [(4, .int x4), (0, .ref h), (1, .int x1), (2, .int x2), (3, .int x3), (5, .int x5)]) hx hb dX8_guests_63 hl (by decide) rfl (fun ls hl => ?_)
            obtain ⟨x3_8, ex3_8⟩ : ∃ y : Int32, y = x3 + 1 := ⟨_, rfl⟩
            replace hw := hw x3_8 ex3_8
            refine lv_iinc (v := x3_8) (lv' := [(3, .int x3_8), (4, .int x4), (0, .ref h), (1, .int x1), (2, .int x2), (5, .int x5)]) hx hb dX8_guests_65 hl (k := 4) rfl (by rw [ex3_8]; rfl) (by decide) rfl (fun ls hl => ?_)
            obtain ⟨x5_9, ex5_9⟩ : ∃ y : Int32, y = x5 + 1 := ⟨_, rfl⟩
            replace hw := hw x5_9 ex5_9
            refine lv_iinc (v := x5_9) (lv' := [(5, .int x5_9), (3, .int x3_8), (4, .int x4), (0, .ref h), (1, .int x1), (2, .int x2)]) hx hb dX8_guests_68 hl (k := 5) rfl (by rw [ex5_9]; rfl) (by decide) rfl (fun ls hl => ?_)
            refine lv_goto (tgt := 33) hx hb dX8_guests_71 (by decide) ?_
            exact ih_33 x3_8 x4 x5_9 a_counts_3 _ _ _ hW (lv_sub hl [3, 4, 5, 1, 2, 0] rfl) hw
          · replace hw := hw.1 c_7
            refine lv_iload hx hb dX8_guests_56 (lv_at hl 5 rfl) ?_
            refine lv_goto (tgt := 63) hx hb dX8_guests_58 (by decide) ?_
            refine lv_istore (lv' := [(4, .int x5), (0, .ref h), (1, .int x1), (2, .int x2), (3, .int x3), (5, .int x5)]) hx hb dX8_guests_63 hl (by decide) rfl (fun ls hl => ?_)
            obtain ⟨x3_10, ex3_10⟩ : ∃ y : Int32, y = x3 + 1 := ⟨_, rfl⟩
            replace hw := hw x3_10 ex3_10
            refine lv_iinc (v := x3_10) (lv' := [(3, .int x3_10), (4, .int x5), (0, .ref h), (1, .int x1), (2, .int x2), (5, .int x5)]) hx hb dX8_guests_65 hl (k := 4) rfl (by rw [ex3_10]; rfl) (by decide) rfl (fun ls hl => ?_)
            obtain ⟨x5_11, ex5_11⟩ : ∃ y : Int32, y = x5 + 1 := ⟨_, rfl⟩
            replace hw := hw x5_11 ex5_11
            refine lv_iinc (v := x5_11) (lv' := [(5, .int x5_11), (3, .int x3_10), (4, .int x5), (0, .ref h), (1, .int x1), (2, .int x2)]) hx hb dX8_guests_68 hl (k := 5) rfl (by rw [ex5_11]; rfl) (by decide) rfl (fun ls hl => ?_)
            refine lv_goto (tgt := 33) hx hb dX8_guests_71 (by decide) ?_
            exact ih_33 x3_10 x5 x5_11 a_counts_3 _ _ _ hW (lv_sub hl [3, 4, 5, 1, 2, 0] rfl) hw
  have hl := lv_entry ([.ref h, .int x1, .int x2]) (n := 6) (Nat.le_of_ble_eq_true rfl)
  rw [lg_entry_eq]
  generalize (lg_sl ([.ref h, .int x1, .int x2]) ++ List.replicate (6 - (lg_sl ([.ref h, .int x1, .int x2])).length) Slot.unset).toArray = ls at hl ⊢
  have hl : lv_has ls 6 [(0, .ref h), (1, .int x1), (2, .int x2)] := hl
  refine lv_aload_n hx hb dX8_guests_0 rfl (lv_at hl 0 rfl) ?_
  refine lv_iload_n hx hb dX8_guests_1 rfl (lv_at hl 1 rfl) ?_
  refine zw_Vi ⟨hx, hb, hml, hown, hts⟩ hK hN hA hW 0 rfl (T := TX8) (N := 30) rfl [.int x1] [] [0, 1] [2, 3, 4, 5, 6, 7, 8, 9] [8, 9, 0, 1, 2, 3, 4, 5, 6, 7] (fun _ => (wX8_guests cyI cyJ cyZ h h_text h_many h_ones h_others h_kinds h_firsts h_persons h_gone h_at h_fines h_undos h_seenOf h_seenOpen h_path h_told h_counts h_spots h_far h_row h_begins h_ways h_next i_length i_keptMany i_undoMany i_seenMany i_pathMany i_place i_found i_walkers a_many a_ones a_others a_kinds a_gone a_at a_path a_counts a_spots)) (mX8_isSet l dC dI cyI cyJ cyZ h h_text h_many h_ones h_others h_kinds h_firsts h_persons h_gone h_at h_fines h_undos h_seenOf h_seenOpen h_path h_told h_counts h_spots h_far h_row h_begins h_ways h_next _ i_length i_keptMany i_undoMany i_seenMany i_pathMany i_place i_found i_walkers a_many x1 _ hw) (cwV 1 hts gX8_guests_X8_isSet rfl rfl rfl (by decide +kernel) ⟨Nat.le_of_ble_eq_true rfl, Nat.le_of_ble_eq_true rfl⟩) rfl rfl rfl rfl (by decide) rfl (fun _ => rfl) rfl hl.1 rfl (Nat.le_of_ble_eq_true rfl) (Nat.le_of_ble_eq_true rfl) (Nat.le_of_ble_eq_true rfl) dX8_guests_2 (fun r_12 u H locs hw hW => ?_)
  obtain ⟨br_12, hw⟩ := hw
  refine lv_if_eq (tgt := 18) hx hb dX8_guests_5 (by decide) (fun c_13 => ?_) (fun c_13 => ?_)
  · replace hw := hw.1 c_13
    refine lv_iconst (v := (-1)) hx hb dX8_guests_18 (by decide) ?_
    refine zw_iret (S := (Nat → Int32) × (Nat → Int32)) (post := fun r u => post r u.1 u.2) (a_counts, a_spots) hx hb hr hlocks hK hW hw ?_ dX8_guests_19
    rfl
  · replace hw := hw.2 c_13
    refine lv_iload_n hx hb dX8_guests_8 rfl (lv_at hl 2 rfl) ?_
    refine lv_i2l hx hb dX8_guests_9 rfl ?_
    refine lv_lconst (v := 0) hx hb dX8_guests_10 (by decide) ?_
    refine lv_lconst (v := 1) hx hb dX8_guests_11 (by decide) ?_
    refine zw_Si ⟨hx, hb, hml, hown, hts⟩ hK hN hA hW [.long ((x2).toInt64), .long 0, .long 1] [] [] [0, 1, 2, 3, 4, 5, 6, 7, 8, 9] [0, 1, 2, 3, 4, 5, 6, 7, 8, 9] (fun _ => (wX8_guests cyI cyJ cyZ h h_text h_many h_ones h_others h_kinds h_firsts h_persons h_gone h_at h_fines h_undos h_seenOf h_seenOpen h_path h_told h_counts h_spots h_far h_row h_begins h_ways h_next i_length i_keptMany i_undoMany i_seenMany i_pathMany i_place i_found i_walkers a_many a_ones a_others a_kinds a_gone a_at a_path a_counts a_spots)) (mX8_in l dC dI cyI cyJ cyZ _ ((x2).toInt64) 0 1 _ hw) (va_cwS 3 hts gX8_guests_X8_in rfl rfl rfl (by decide +kernel) ⟨Nat.le_of_ble_eq_true rfl, Nat.le_of_ble_eq_true rfl⟩) rfl rfl rfl rfl (by decide) rfl (fun _ => rfl) rfl hl.1 rfl (Nat.le_of_ble_eq_true rfl) (Nat.le_of_ble_eq_true rfl) (Nat.le_of_ble_eq_true rfl) dX8_guests_12 (fun r_14 u H locs hw hW => ?_)
    obtain ⟨br_14, hw⟩ := hw
    refine lv_if_ne (tgt := 20) hx hb dX8_guests_15 (by decide) (fun c_15 => ?_) (fun c_15 => ?_)
    · replace hw := hw.2 c_15
      refine lv_aload_n hx hb dX8_guests_20 rfl (lv_at hl 0 rfl) ?_
      refine zw_Vv ⟨hx, hb, hml, hown, hts⟩ hK hN hA hW 0 rfl (T := TX8) (N := 30) rfl [] [] [0, 5, 6, 8, 9] [1, 2, 3, 4, 7] [5, 0, 1, 2, 3, 6, 7, 4, 8, 9] (fun u => (wX8_guests cyI cyJ cyZ h h_text h_many h_ones h_others h_kinds h_firsts h_persons h_gone h_at h_fines h_undos h_seenOf h_seenOpen h_path h_told h_counts h_spots h_far h_row h_begins h_ways h_next i_length i_keptMany i_undoMany i_seenMany i_pathMany i_place i_found i_walkers a_many a_ones a_others a_kinds a_gone a_at a_path (u.1) (u.2))) (mX8_layNow l dC dI cyI cyJ cyZ h h_text h_many h_ones h_others h_kinds h_firsts h_persons h_gone h_at h_fines h_undos h_seenOf h_seenOpen h_path h_told h_counts h_spots h_far h_row h_begins h_ways h_next _ i_length i_keptMany i_undoMany i_seenMany i_pathMany i_place i_found i_walkers a_gone a_at a_counts a_spots _ hw) (cwV 0 hts gX8_guests_X8_layNow rfl rfl rfl (by decide +kernel) ⟨Nat.le_of_ble_eq_true rfl, Nat.le_of_ble_eq_true rfl⟩) rfl rfl rfl rfl (by decide) rfl (fun _ => rfl) rfl hl.1 rfl (Nat.le_of_ble_eq_true rfl) (Nat.le_of_ble_eq_true rfl) (Nat.le_of_ble_eq_true rfl) dX8_guests_21 (fun u H locs hw hW => ?_)
      obtain ⟨a_counts_16, a_spots_17⟩ := u
      try dsimp only at hw
      replace hW : Wd (dC, dI) A s.heap (wX8_guests cyI cyJ cyZ h h_text h_many h_ones h_others h_kinds h_firsts h_persons h_gone h_at h_fines h_undos h_seenOf h_seenOpen h_path h_told h_counts h_spots h_far h_row h_begins h_ways h_next i_length i_keptMany i_undoMany i_seenMany i_pathMany i_place i_found i_walkers a_many a_ones a_others a_kinds a_gone a_at a_path a_counts_16 a_spots_17) H locs := hW
      refine lv_iconst (v := 0) hx hb dX8_guests_24 (by decide) ?_
      refine lv_istore_n (lv' := [(3, .int 0), (0, .ref h), (1, .int x1), (2, .int x2)]) hx hb dX8_guests_25 rfl hl (by decide) rfl (fun ls hl => ?_)
      refine lv_bipush (v := (-4)) hx hb dX8_guests_26 (by decide) ?_
      refine lv_istore (lv' := [(4, .int (-4)), (3, .int 0), (0, .ref h), (1, .int x1), (2, .int x2)]) hx hb dX8_guests_28 hl (by decide) rfl (fun ls hl => ?_)
      refine lv_iconst (v := 1) hx hb dX8_guests_30 (by decide) ?_
      refine lv_istore (lv' := [(5, .int 1), (4, .int (-4)), (3, .int 0), (0, .ref h), (1, .int x1), (2, .int x2)]) hx hb dX8_guests_31 hl (by decide) rfl (fun ls hl => ?_)
      obtain ⟨n_33, hw⟩ := hw
      exact W_33 a_spots_17 n_33 0 (-4) 1 a_counts_16 _ _ _ hW (lv_sub hl [3, 4, 5, 2, 1, 0] rfl) hw
    · replace hw := hw.1 c_15
      refine lv_iconst (v := (-1)) hx hb dX8_guests_18 (by decide) ?_
      refine zw_iret (S := (Nat → Int32) × (Nat → Int32)) (post := fun r u => post r u.1 u.2) (a_counts, a_spots) hx hb hr hlocks hK hW hw ?_ dX8_guests_19
      rfl
abbrev wX8_odds (cyI cyJ cyZ : ClassId) (h h_text h_many h_ones h_others h_kinds h_firsts h_persons h_gone h_at h_fines h_undos h_seenOf h_seenOpen h_path h_told h_counts h_spots h_far h_row h_begins h_ways h_next : Nat) (i_length : Int32) (i_keptMany : Int32) (i_undoMany : Int32) (i_seenMany : Int32) (i_pathMany : Int32) (i_place : Int32) (i_found : Int32) (i_walkers : Int32) (a_many : Nat → Int32) (a_kinds : Nat → Int32) (a_gone : Nat → Int32) (a_at : Nat → Int32) (a_counts : Nat → Int32) (a_spots : Nat → Int32) (a_ways : Nat → Int64) (a_next : Nat → Int64) : va_W := [(h, .inr (8, [.int i_length, .ref h_text, .ref h_many, .ref h_ones, .ref h_others, .ref h_kinds, .ref h_firsts, .ref h_persons, .ref h_gone, .ref h_at, .ref h_fines, .int i_keptMany, .int i_undoMany, .ref h_undos, .int i_seenMany, .ref h_seenOf, .ref h_seenOpen, .int i_pathMany, .ref h_path, .int i_place, .ref h_told, .ref h_counts, .ref h_spots, .ref h_far, .ref h_row, .ref h_begins, .int i_found, .int i_walkers, .ref h_ways, .ref h_next])), (h_many, .inl (cyI, 2, .inl a_many)), (h_kinds, .inl (cyI, 10, .inl a_kinds)), (h_gone, .inl (cyI, 15, .inl a_gone)), (h_at, .inl (cyI, 9, .inl a_at)), (h_counts, .inl (cyI, 5, .inl a_counts)), (h_spots, .inl (cyI, 3, .inl a_spots)), (h_ways, .inl (cyJ, 6, .inr (.inl a_ways))), (h_next, .inl (cyJ, 6, .inr (.inl a_next)))]
abbrev qX8_odds (dC : Nat → ClassId) (dI : Nat → Nat → Nat) (cyI cyJ cyZ : ClassId) (h h_text h_many h_ones h_others h_kinds h_firsts h_persons h_gone h_at h_fines h_undos h_seenOf h_seenOpen h_path h_told h_counts h_spots h_far h_row h_begins h_ways h_next : Nat) (i_length : Int32) (i_keptMany : Int32) (i_undoMany : Int32) (i_seenMany : Int32) (i_pathMany : Int32) (i_place : Int32) (i_found : Int32) (i_walkers : Int32) (a_many : Nat → Int32) (a_kinds : Nat → Int32) (a_gone : Nat → Int32) (a_at : Nat → Int32) (a_counts : Nat → Int32) (a_spots : Nat → Int32) (a_ways : Nat → Int64) (a_next : Nat → Int64) (post : Int32 → (Nat → Int32) → (Nat → Int32) → (Nat → Int64) → (Nat → Int64) → Prop) (A : Nat → Prop) : Array Value → State → Outcome → State → Prop := (va_Qi (fun (r : Int32) (u : (Nat → Int32) × (Nat → Int32) × (Nat → Int64) × (Nat → Int64)) => post r u.1 u.2.1 u.2.2.1 u.2.2.2) (bW (dC, dI) (tyG cyI cyJ cyZ) A (fun u : (Nat → Int32) × (Nat → Int32) × (Nat → Int64) × (Nat → Int64) => (wX8_odds cyI cyJ cyZ h h_text h_many h_ones h_others h_kinds h_firsts h_persons h_gone h_at h_fines h_undos h_seenOf h_seenOpen h_path h_told h_counts h_spots h_far h_row h_begins h_ways h_next i_length i_keptMany i_undoMany i_seenMany i_pathMany i_place i_found i_walkers a_many a_kinds a_gone a_at (u.1) (u.2.1) (u.2.2.1) (u.2.2.2)))) A)
set_option maxHeartbeats 4000000 in
set_option maxRecDepth 100000 in
theorem mX8_odds (l : Launch) (dC : Nat → ClassId) (dI : Nat → Nat → Nat) (cyI cyJ cyZ : ClassId) (h h_text h_many h_ones h_others h_kinds h_firsts h_persons h_gone h_at h_fines h_undos h_seenOf h_seenOpen h_path h_told h_counts h_spots h_far h_row h_begins h_ways h_next : Nat) (sz : Nat) (i_length : Int32) (i_keptMany : Int32) (i_undoMany : Int32) (i_seenMany : Int32) (i_pathMany : Int32) (i_place : Int32) (i_found : Int32) (i_walkers : Int32) (a_many : Nat → Int32) (a_kinds : Nat → Int32) (a_gone : Nat → Int32) (a_at : Nat → Int32) (a_counts : Nat → Int32) (a_spots : Nat → Int32) (a_ways : Nat → Int64) (a_next : Nat → Int64) (x1 : Int32) (x2 : Int32) (x3 : Int32) (x4 : Int32) (post : Int32 → (Nat → Int32) → (Nat → Int32) → (Nat → Int64) → (Nat → Int64) → Prop) (hwp : PX8_odds x1 x2 x3 x4 a_many a_kinds a_gone a_at a_counts a_spots a_ways a_next post) : Met l yX8_odds wsX8_odds ({ frames := 2, cells := 0, slots := 0, locals := 46 } : Room) (va_Pc [.ref h, .int x1, .int x2, .int x3, .int x4] (pcW (dC, dI) sz (wX8_odds cyI cyJ cyZ h h_text h_many h_ones h_others h_kinds h_firsts h_persons h_gone h_at h_fines h_undos h_seenOf h_seenOpen h_path h_told h_counts h_spots h_far h_row h_begins h_ways h_next i_length i_keptMany i_undoMany i_seenMany i_pathMany i_place i_found i_walkers a_many a_kinds a_gone a_at a_counts a_spots a_ways a_next) (tyG cyI cyJ cyZ))) (qX8_odds dC dI cyI cyJ cyZ h h_text h_many h_ones h_others h_kinds h_firsts h_persons h_gone h_at h_fines h_undos h_seenOf h_seenOpen h_path h_told h_counts h_spots h_far h_row h_begins h_ways h_next i_length i_keptMany i_undoMany i_seenMany i_pathMany i_place i_found i_walkers a_many a_kinds a_gone a_at a_counts a_spots a_ways a_next post (va_A (wX8_odds cyI cyJ cyZ h h_text h_many h_ones h_others h_kinds h_firsts h_persons h_gone h_at h_fines h_undos h_seenOf h_seenOpen h_path h_told h_counts h_spots h_far h_row h_begins h_ways h_next i_length i_keptMany i_undoMany i_seenMany i_pathMany i_place i_found i_walkers a_many a_kinds a_gone a_at a_counts a_spots a_ways a_next) sz)) 0 0 (va_A (wX8_odds cyI cyJ cyZ h h_text h_many h_ones h_others h_kinds h_firsts h_persons h_gone h_at h_fines h_undos h_seenOf h_seenOpen h_path h_told h_counts h_spots h_far h_row h_begins h_ways h_next i_length i_keptMany i_undoMany i_seenMany i_pathMany i_place i_found i_walkers a_many a_kinds a_gone a_at a_counts a_spots a_ways a_next) sz) := by
  refine Met.ofW (cc := cX8_odds) (maxL := 15) (ret := some .int) (by decide) rfl ?_
  intro p e s m args below meth c s₁ B hml hv
  obtain ⟨rfl, hsz, hP, hK, hD0, hN⟩ := hv
  have hx := B.exec
  have hb := B.bytes
  have hr := B.returns
  have hts := atoms_spec (ws := wsX8_odds) B.pre
  have hown : s.vm.findClass RX8 = some m.cls := findClass_of_methodNamed B.named
  have hlocks := B.notSynchronized
  subst hsz
  have hD := hD0.self (sz := s.heap.size)
  generalize hAe : va_A (wX8_odds cyI cyJ cyZ h h_text h_many h_ones h_others h_kinds h_firsts h_persons h_gone h_at h_fines h_undos h_seenOf h_seenOpen h_path h_told h_counts h_spots h_far h_row h_begins h_ways h_next i_length i_keptMany i_undoMany i_seenMany i_pathMany i_place i_found i_walkers a_many a_kinds a_gone a_at a_counts a_spots a_ways a_next) s.heap.size = A at hD ⊢
  have hA : ∀ q : Nat, s.heap.size ≤ q → A q := fun q h => by rw [← hAe]; exact Or.inr h
  have hW : Wd (dC, dI) A s.heap (wX8_odds cyI cyJ cyZ h h_text h_many h_ones h_others h_kinds h_firsts h_persons h_gone h_at h_fines h_undos h_seenOf h_seenOpen h_path h_told h_counts h_spots h_far h_row h_begins h_ways h_next i_length i_keptMany i_undoMany i_seenMany i_pathMany i_place i_found i_walkers a_many a_kinds a_gone a_at a_counts a_spots a_ways a_next) s.heap [] := ⟨hP, hD, va_S.rf⟩
  have hw := hwp
  have hiX8 : ∀ w ∈ u_ws RX8 TX8 30, w ∈ wsX8_odds := fun _ h => List.mem_cons_of_mem _ (List.mem_append_right _ h)
  have k_0 := hts (.fieldLink RX8 55 "OddLetsInModel" "counts" "[I") (List.mem_of_getElem? (i := 6) rfl)
  have k_1 := hts (.fieldLink RX8 70 "OddLetsInModel" "ways" "[J") (List.mem_of_getElem? (i := 3) rfl)
  have k_2 := hts (.constantLong RX8 209 (10)) (List.mem_of_getElem? (i := 2) rfl)
  have k_3 := hts (.fieldLink RX8 74 "OddLetsInModel" "next" "[J") (List.mem_of_getElem? (i := 5) rfl)
  have k_4 := hts (.fieldLink RX8 31 "OddLetsInModel" "gone" "[I") (List.mem_of_getElem? (i := 4) rfl)
  have k_5 := hts (.constantLong RX8 80 (8)) (List.mem_of_getElem? (i := 1) rfl)
  have W_317 : ∀ (x5 : Int64) (x7 : Int64) (a_counts : Nat → Int32) (a_spots : Nat → Int32) (a_ways : Nat → Int64) (a_next : Nat → Int64) (n_317 : Nat) (x9 : Int64) (x11 : Int64) (H : Heap) (locs : List Loc) (ls : Array Slot), Wd (dC, dI) A s.heap (wX8_odds cyI cyJ cyZ h h_text h_many h_ones h_others h_kinds h_firsts h_persons h_gone h_at h_fines h_undos h_seenOf h_seenOpen h_path h_told h_counts h_spots h_far h_row h_begins h_ways h_next i_length i_keptMany i_undoMany i_seenMany i_pathMany i_place i_found i_walkers a_many a_kinds a_gone a_at a_counts a_spots a_ways a_next) H locs → lv_has ls 15 [(4, .int x4), (5, .long x5), (7, .long x7), (9, .long x9), (11, .long x11)] → PX8_odds_317 post x4 x5 x7 a_counts a_spots a_ways a_next n_317 x9 x11 → W p l e (({ frames := 2, cells := 0, slots := 0, locals := 46 } : Room)) s m (([.ref h, .int x1, .int x2, .int x3, .int x4] : List Value).toArray) below meth c H locs 0 0 (MQ below (qX8_odds dC dI cyI cyJ cyZ h h_text h_many h_ones h_others h_kinds h_firsts h_persons h_gone h_at h_fines h_undos h_seenOf h_seenOpen h_path h_told h_counts h_spots h_far h_row h_begins h_ways h_next i_length i_keptMany i_undoMany i_seenMany i_pathMany i_place i_found i_walkers a_many a_kinds a_gone a_at a_counts a_spots a_ways a_next post A) (([.ref h, .int x1, .int x2, .int x3, .int x4] : List Value).toArray) s 0 0 A) (F0 m 317 ls []) := by
    intro x5 x7 a_counts a_spots a_ways a_next n_317
    induction n_317 with
    | zero =>
      intro x9 x11 H locs ls hW hl hw
      exact False.elim hw
    | succ n_317 ih_317 =>
      intro x9 x11 H locs ls hW hl hw
      refine lv_lload hx hb dX8_odds_317 (lv_at hl 4 rfl) ?_
      refine lv_lconst (v := 0) hx hb dX8_odds_319 (by decide) ?_
      refine W.lcmp hx hb dX8_odds_320 ?_
      refine lv_if_eq (tgt := 342) hx hb dX8_odds_321 (by decide) (fun c_1 => ?_) (fun c_1 => ?_)
      · replace hw := hw.1 c_1
        refine lv_iload hx hb dX8_odds_342 (lv_at hl 0 rfl) ?_
        refine lv_if_ne (tgt := 355) hx hb dX8_odds_344 (by decide) (fun c_2 => ?_) (fun c_2 => ?_)
        · replace hw := hw.2 c_2
          refine lv_lload hx hb dX8_odds_355 (lv_at hl 1 rfl) ?_
          refine lv_lload hx hb dX8_odds_357 (lv_at hl 3 rfl) ?_
          refine lv_ldiv hx hb dX8_odds_359 hw.1 ?_
          replace hw := hw.2
          refine lv_l2i hx hb dX8_odds_360 rfl ?_
          refine zw_iret (S := (Nat → Int32) × (Nat → Int32) × (Nat → Int64) × (Nat → Int64)) (post := fun r u => post r u.1 u.2.1 u.2.2.1 u.2.2.2) (a_counts, a_spots, a_ways, a_next) hx hb hr hlocks hK hW hw ?_ dX8_odds_361
          rfl
        · replace hw := hw.1 c_2
          refine lv_lload hx hb dX8_odds_347 (lv_at hl 2 rfl) ?_
          refine lv_lload hx hb dX8_odds_349 (lv_at hl 3 rfl) ?_
          refine lv_ldiv hx hb dX8_odds_351 hw.1 ?_
          replace hw := hw.2
          refine lv_goto (tgt := 360) hx hb dX8_odds_352 (by decide) ?_
          refine lv_l2i hx hb dX8_odds_360 rfl ?_
          refine zw_iret (S := (Nat → Int32) × (Nat → Int32) × (Nat → Int64) × (Nat → Int64)) (post := fun r u => post r u.1 u.2.1 u.2.2.1 u.2.2.2) (a_counts, a_spots, a_ways, a_next) hx hb hr hlocks hK hW hw ?_ dX8_odds_361
          rfl
      · replace hw := hw.2 c_1
        refine lv_lload hx hb dX8_odds_324 (lv_at hl 3 rfl) ?_
        refine lv_lload hx hb dX8_odds_326 (lv_at hl 4 rfl) ?_
        refine lv_lrem hx hb dX8_odds_328 hw.1 ?_
        replace hw := hw.2
        refine lv_topl (fun x13_3 ex13_3 => ?_)
        replace hw := hw x13_3 ex13_3
        refine lv_lstore (lv' := [(13, .long x13_3), (4, .int x4), (5, .long x5), (7, .long x7), (9, .long x9), (11, .long x11)]) hx hb dX8_odds_329 hl (by decide) rfl (fun ls hl => ?_)
        refine lv_lload hx hb dX8_odds_331 (lv_at hl 5 rfl) ?_
        refine lv_lstore (lv' := [(9, .long x11), (13, .long x13_3), (4, .int x4), (5, .long x5), (7, .long x7), (11, .long x11)]) hx hb dX8_odds_333 hl (by decide) rfl (fun ls hl => ?_)
        refine lv_lload hx hb dX8_odds_335 (lv_at hl 1 rfl) ?_
        refine lv_lstore (lv' := [(11, .long x13_3), (9, .long x11), (13, .long x13_3), (4, .int x4), (5, .long x5), (7, .long x7)]) hx hb dX8_odds_337 hl (by decide) rfl (fun ls hl => ?_)
        refine lv_goto (tgt := 317) hx hb dX8_odds_339 (by decide) ?_
        exact ih_317 x11 x13_3 _ _ _ hW (lv_sub hl [3, 4, 5, 1, 0] rfl) hw
  have W_263 : ∀ (x5 : Int64) (a_spots : Nat → Int32) (a_ways : Nat → Int64) (a_next : Nat → Int64) (n_263 : Nat) (x7 : Int64) (x9 : Int32) (a_counts : Nat → Int32) (H : Heap) (locs : List Loc) (ls : Array Slot), Wd (dC, dI) A s.heap (wX8_odds cyI cyJ cyZ h h_text h_many h_ones h_others h_kinds h_firsts h_persons h_gone h_at h_fines h_undos h_seenOf h_seenOpen h_path h_told h_counts h_spots h_far h_row h_begins h_ways h_next i_length i_keptMany i_undoMany i_seenMany i_pathMany i_place i_found i_walkers a_many a_kinds a_gone a_at a_counts a_spots a_ways a_next) H locs → lv_has ls 15 [(0, .ref h), (1, .int x1), (4, .int x4), (5, .long x5), (7, .long x7), (9, .int x9)] → PX8_odds_263 post x1 x4 a_kinds x5 a_spots a_ways a_next n_263 x7 x9 a_counts → W p l e (({ frames := 2, cells := 0, slots := 0, locals := 46 } : Room)) s m (([.ref h, .int x1, .int x2, .int x3, .int x4] : List Value).toArray) below meth c H locs 0 0 (MQ below (qX8_odds dC dI cyI cyJ cyZ h h_text h_many h_ones h_others h_kinds h_firsts h_persons h_gone h_at h_fines h_undos h_seenOf h_seenOpen h_path h_told h_counts h_spots h_far h_row h_begins h_ways h_next i_length i_keptMany i_undoMany i_seenMany i_pathMany i_place i_found i_walkers a_many a_kinds a_gone a_at a_counts a_spots a_ways a_next post A) (([.ref h, .int x1, .int x2, .int x3, .int x4] : List Value).toArray) s 0 0 A) (F0 m 263 ls []) := by
    intro x5 a_spots a_ways a_next n_263
    induction n_263 with
    | zero =>
      intro x7 x9 a_counts H locs ls hW hl hw
      exact False.elim hw
    | succ n_263 ih_263 =>
      intro x7 x9 a_counts H locs ls hW hl hw
      refine lv_iload hx hb dX8_odds_263 (lv_at hl 5 rfl) ?_
      refine lv_bipush (v := 6) hx hb dX8_odds_265 (by decide) ?_
      refine lv_icmp_ge (tgt := 309) hx hb dX8_odds_267 (by decide) (fun c_4 => ?_) (fun c_4 => ?_)
      · replace hw := hw.1 c_4
        refine lv_lload hx hb dX8_odds_309 (lv_at hl 4 rfl) ?_
        refine lv_lstore (lv' := [(9, .long x7), (0, .ref h), (1, .int x1), (4, .int x4), (5, .long x5), (7, .long x7)]) hx hb dX8_odds_311 hl (by decide) rfl (fun ls hl => ?_)
        refine lv_lload hx hb dX8_odds_313 (lv_at hl 4 rfl) ?_
        refine lv_lstore (lv' := [(11, .long x5), (9, .long x7), (0, .ref h), (1, .int x1), (4, .int x4), (5, .long x5), (7, .long x7)]) hx hb dX8_odds_315 hl (by decide) rfl (fun ls hl => ?_)
        obtain ⟨n_317, hw⟩ := hw
        exact W_317 x5 x7 a_counts a_spots a_ways a_next n_317 x7 x5 _ _ _ hW (lv_sub hl [4, 5, 6, 1, 0] rfl) hw
      · replace hw := hw.2 c_4
        refine lv_aload_n hx hb dX8_odds_270 rfl (lv_at hl 0 rfl) ?_
        refine zw_get (ci := 8) (C := RX8) (T := TX8) (N := 30) (v := .ref h_counts) hx hb hts hiX8 hown hK hW 0 rfl rfl 21 (by decide) rfl k_0 dX8_odds_271 ?_
        refine lv_iload_n hx hb dX8_odds_274 rfl (lv_at hl 1 rfl) ?_
        refine lv_iload hx hb dX8_odds_275 (lv_at hl 5 rfl) ?_
        refine zw_iast hx hb hK hW 5 rfl rfl hw.1 (w2 := fun a_counts_5 => (wX8_odds cyI cyJ cyZ h h_text h_many h_ones h_others h_kinds h_firsts h_persons h_gone h_at h_fines h_undos h_seenOf h_seenOpen h_path h_told h_counts h_spots h_far h_row h_begins h_ways h_next i_length i_keptMany i_undoMany i_seenMany i_pathMany i_place i_found i_walkers a_many a_kinds a_gone a_at a_counts_5 a_spots a_ways a_next)) (fun _ => rfl) dX8_odds_277 (fun a_counts_5 H locs ea_counts_5 hW => ?_)
        replace hw := hw.2 a_counts_5 ea_counts_5
        refine lv_lload hx hb dX8_odds_278 (lv_at hl 4 rfl) ?_
        refine lv_aload_n hx hb dX8_odds_280 rfl (lv_at hl 0 rfl) ?_
        refine lv_iload_n hx hb dX8_odds_281 rfl (lv_at hl 1 rfl) ?_
        refine lv_iconst (v := 0) hx hb dX8_odds_282 (by decide) ?_
        refine zw_Vi ⟨hx, hb, hml, hown, hts⟩ hK hN hA hW 0 rfl (T := TX8) (N := 30) rfl [.int x1, .int 0] [.long x7] [0, 2, 5] [1, 3, 4, 6, 7, 8] [6, 0, 7, 1, 2, 8, 3, 4, 5] (fun _ => (wX8_odds cyI cyJ cyZ h h_text h_many h_ones h_others h_kinds h_firsts h_persons h_gone h_at h_fines h_undos h_seenOf h_seenOpen h_path h_told h_counts h_spots h_far h_row h_begins h_ways h_next i_length i_keptMany i_undoMany i_seenMany i_pathMany i_place i_found i_walkers a_many a_kinds a_gone a_at a_counts_5 a_spots a_ways a_next)) (mX8_isOpen l dC dI cyI cyJ cyZ h h_text h_many h_ones h_others h_kinds h_firsts h_persons h_gone h_at h_fines h_undos h_seenOf h_seenOpen h_path h_told h_counts h_spots h_far h_row h_begins h_ways h_next _ i_length i_keptMany i_undoMany i_seenMany i_pathMany i_place i_found i_walkers a_kinds a_counts_5 x1 0 _ hw) (cwV 2 hts gX8_odds_X8_isOpen rfl rfl rfl (by decide +kernel) ⟨Nat.le_of_ble_eq_true rfl, Nat.le_of_ble_eq_true rfl⟩) rfl rfl rfl rfl (by decide) rfl (fun _ => rfl) rfl hl.1 rfl (Nat.le_of_ble_eq_true rfl) (Nat.le_of_ble_eq_true rfl) (Nat.le_of_ble_eq_true rfl) dX8_odds_283 (fun r_6 u H locs hw hW => ?_)
        obtain ⟨br_6, hw⟩ := hw
        refine lv_if_eq (tgt := 299) hx hb dX8_odds_286 (by decide) (fun c_7 => ?_) (fun c_7 => ?_)
        · replace hw := hw.1 c_7
          refine lv_lconst (v := 0) hx hb dX8_odds_299 (by decide) ?_
          refine lv_ladd hx hb dX8_odds_300 ?_
          refine lv_topl (fun x7_8 ex7_8 => ?_)
          replace hw := hw x7_8 ex7_8
          refine lv_lstore (lv' := [(7, .long x7_8), (0, .ref h), (1, .int x1), (4, .int x4), (5, .long x5), (9, .int x9)]) hx hb dX8_odds_301 hl (by decide) rfl (fun ls hl => ?_)
          obtain ⟨x9_9, ex9_9⟩ : ∃ y : Int32, y = x9 + 1 := ⟨_, rfl⟩
          replace hw := hw x9_9 ex9_9
          refine lv_iinc (v := x9_9) (lv' := [(9, .int x9_9), (7, .long x7_8), (0, .ref h), (1, .int x1), (4, .int x4), (5, .long x5)]) hx hb dX8_odds_303 hl (k := 5) rfl (by rw [ex9_9]; rfl) (by decide) rfl (fun ls hl => ?_)
          refine lv_goto (tgt := 263) hx hb dX8_odds_306 (by decide) ?_
          exact ih_263 x7_8 x9_9 a_counts_5 _ _ _ hW (lv_sub hl [2, 3, 4, 5, 1, 0] rfl) hw
        · replace hw := hw.2 c_7
          refine lv_aload_n hx hb dX8_odds_289 rfl (lv_at hl 0 rfl) ?_
          refine zw_get (ci := 8) (C := RX8) (T := TX8) (N := 30) (v := .ref h_ways) hx hb hts hiX8 hown hK hW 0 rfl rfl 28 (by decide) rfl k_1 dX8_odds_290 ?_
          refine lv_iload hx hb dX8_odds_293 (lv_at hl 5 rfl) ?_
          refine zw_lald hx hb hK hW 7 rfl rfl hw.1 dX8_odds_295 ?_
          replace hw := hw.2
          refine lv_goto (tgt := 300) hx hb dX8_odds_296 (by decide) ?_
          refine lv_ladd hx hb dX8_odds_300 ?_
          refine lv_topl (fun x7_10 ex7_10 => ?_)
          replace hw := hw x7_10 ex7_10
          refine lv_lstore (lv' := [(7, .long x7_10), (0, .ref h), (1, .int x1), (4, .int x4), (5, .long x5), (9, .int x9)]) hx hb dX8_odds_301 hl (by decide) rfl (fun ls hl => ?_)
          obtain ⟨x9_11, ex9_11⟩ : ∃ y : Int32, y = x9 + 1 := ⟨_, rfl⟩
          replace hw := hw x9_11 ex9_11
          refine lv_iinc (v := x9_11) (lv' := [(9, .int x9_11), (7, .long x7_10), (0, .ref h), (1, .int x1), (4, .int x4), (5, .long x5)]) hx hb dX8_odds_303 hl (k := 5) rfl (by rw [ex9_11]; rfl) (by decide) rfl (fun ls hl => ?_)
          refine lv_goto (tgt := 263) hx hb dX8_odds_306 (by decide) ?_
          exact ih_263 x7_10 x9_11 a_counts_5 _ _ _ hW (lv_sub hl [2, 3, 4, 5, 1, 0] rfl) hw
  have W_97 : ∀ (a_spots : Nat → Int32) (n_97 : Nat) (x5 : Int64) (x7 : Int32) (a_counts : Nat → Int32) (a_ways : Nat → Int64) (a_next : Nat → Int64) (H : Heap) (locs : List Loc) (ls : Array Slot), Wd (dC, dI) A s.heap (wX8_odds cyI cyJ cyZ h h_text h_many h_ones h_others h_kinds h_firsts h_persons h_gone h_at h_fines h_undos h_seenOf h_seenOpen h_path h_told h_counts h_spots h_far h_row h_begins h_ways h_next i_length i_keptMany i_undoMany i_seenMany i_pathMany i_place i_found i_walkers a_many a_kinds a_gone a_at a_counts a_spots a_ways a_next) H locs → lv_has ls 15 [(0, .ref h), (1, .int x1), (2, .int x2), (3, .int x3), (4, .int x4), (5, .long x5), (7, .int x7)] → PX8_odds_97 post x1 x2 x3 x4 a_kinds a_spots n_97 x5 x7 a_counts a_ways a_next → W p l e (({ frames := 2, cells := 0, slots := 0, locals := 46 } : Room)) s m (([.ref h, .int x1, .int x2, .int x3, .int x4] : List Value).toArray) below meth c H locs 0 0 (MQ below (qX8_odds dC dI cyI cyJ cyZ h h_text h_many h_ones h_others h_kinds h_firsts h_persons h_gone h_at h_fines h_undos h_seenOf h_seenOpen h_path h_told h_counts h_spots h_far h_row h_begins h_ways h_next i_length i_keptMany i_undoMany i_seenMany i_pathMany i_place i_found i_walkers a_many a_kinds a_gone a_at a_counts a_spots a_ways a_next post A) (([.ref h, .int x1, .int x2, .int x3, .int x4] : List Value).toArray) s 0 0 A) (F0 m 97 ls []) := by
    intro a_spots n_97
    induction n_97 with
    | zero =>
      intro x5 x7 a_counts a_ways a_next H locs ls hW hl hw
      exact False.elim hw
    | succ n_97 ih_97 =>
      have W_216 : ∀ (x5 : Int64) (x7 : Int32) (a_counts : Nat → Int32) (a_next : Nat → Int64) (n_216 : Nat) (x8 : Int32) (a_ways : Nat → Int64) (H : Heap) (locs : List Loc) (ls : Array Slot), Wd (dC, dI) A s.heap (wX8_odds cyI cyJ cyZ h h_text h_many h_ones h_others h_kinds h_firsts h_persons h_gone h_at h_fines h_undos h_seenOf h_seenOpen h_path h_told h_counts h_spots h_far h_row h_begins h_ways h_next i_length i_keptMany i_undoMany i_seenMany i_pathMany i_place i_found i_walkers a_many a_kinds a_gone a_at a_counts a_spots a_ways a_next) H locs → lv_has ls 15 [(0, .ref h), (1, .int x1), (2, .int x2), (3, .int x3), (4, .int x4), (5, .long x5), (7, .int x7), (8, .int x8)] → PX8_odds_216 post (PX8_odds_97 post x1 x2 x3 x4 a_kinds a_spots n_97) x5 x7 a_counts a_next n_216 x8 a_ways → W p l e (({ frames := 2, cells := 0, slots := 0, locals := 46 } : Room)) s m (([.ref h, .int x1, .int x2, .int x3, .int x4] : List Value).toArray) below meth c H locs 0 0 (MQ below (qX8_odds dC dI cyI cyJ cyZ h h_text h_many h_ones h_others h_kinds h_firsts h_persons h_gone h_at h_fines h_undos h_seenOf h_seenOpen h_path h_told h_counts h_spots h_far h_row h_begins h_ways h_next i_length i_keptMany i_undoMany i_seenMany i_pathMany i_place i_found i_walkers a_many a_kinds a_gone a_at a_counts a_spots a_ways a_next post A) (([.ref h, .int x1, .int x2, .int x3, .int x4] : List Value).toArray) s 0 0 A) (F0 m 216 ls []) := by
        intro x5 x7 a_counts a_next n_216
        induction n_216 with
        | zero =>
          intro x8 a_ways H locs ls hW hl hw
          exact False.elim hw
        | succ n_216 ih_216 =>
          intro x8 a_ways H locs ls hW hl hw
          refine lv_iload hx hb dX8_odds_216 (lv_at hl 7 rfl) ?_
          refine lv_bipush (v := 6) hx hb dX8_odds_218 (by decide) ?_
          refine lv_icmp_ge (tgt := 243) hx hb dX8_odds_220 (by decide) (fun c_12 => ?_) (fun c_12 => ?_)
          · replace hw := hw.1 c_12
            refine lv_lload hx hb dX8_odds_243 (lv_at hl 5 rfl) ?_
            refine lv_ldc2 hx hb hown k_2 dX8_odds_245 ?_
            refine lv_lmul hx hb dX8_odds_248 ?_
            refine lv_topl (fun x5_13 ex5_13 => ?_)
            replace hw := hw x5_13 ex5_13
            refine lv_lstore (lv' := [(5, .long x5_13), (0, .ref h), (1, .int x1), (2, .int x2), (3, .int x3), (4, .int x4), (7, .int x7), (8, .int x8)]) hx hb dX8_odds_249 hl (by decide) rfl (fun ls hl => ?_)
            obtain ⟨x7_14, ex7_14⟩ : ∃ y : Int32, y = x7 + 1 := ⟨_, rfl⟩
            replace hw := hw x7_14 ex7_14
            refine lv_iinc (v := x7_14) (lv' := [(7, .int x7_14), (5, .long x5_13), (0, .ref h), (1, .int x1), (2, .int x2), (3, .int x3), (4, .int x4), (8, .int x8)]) hx hb dX8_odds_251 hl (k := 6) rfl (by rw [ex7_14]; rfl) (by decide) rfl (fun ls hl => ?_)
            refine lv_goto (tgt := 97) hx hb dX8_odds_254 (by decide) ?_
            exact ih_97 x5_13 x7_14 a_counts a_ways a_next _ _ _ hW (lv_sub hl [2, 3, 4, 5, 6, 1, 0] rfl) hw
          · replace hw := hw.2 c_12
            refine lv_aload_n hx hb dX8_odds_223 rfl (lv_at hl 0 rfl) ?_
            refine zw_get (ci := 8) (C := RX8) (T := TX8) (N := 30) (v := .ref h_ways) hx hb hts hiX8 hown hK hW 0 rfl rfl 28 (by decide) rfl k_1 dX8_odds_224 ?_
            refine lv_iload hx hb dX8_odds_227 (lv_at hl 7 rfl) ?_
            refine lv_aload_n hx hb dX8_odds_229 rfl (lv_at hl 0 rfl) ?_
            refine zw_get (ci := 8) (C := RX8) (T := TX8) (N := 30) (v := .ref h_next) hx hb hts hiX8 hown hK hW 0 rfl rfl 29 (by decide) rfl k_3 dX8_odds_230 ?_
            refine lv_iload hx hb dX8_odds_233 (lv_at hl 7 rfl) ?_
            refine zw_lald hx hb hK hW 8 rfl rfl hw.1 dX8_odds_235 ?_
            replace hw := hw.2
            refine lv_topl (fun t_15 et_15 => ?_)
            replace hw := hw t_15 et_15
            refine zw_last hx hb hK hW 7 rfl rfl hw.1 (w2 := fun a_ways_16 => (wX8_odds cyI cyJ cyZ h h_text h_many h_ones h_others h_kinds h_firsts h_persons h_gone h_at h_fines h_undos h_seenOf h_seenOpen h_path h_told h_counts h_spots h_far h_row h_begins h_ways h_next i_length i_keptMany i_undoMany i_seenMany i_pathMany i_place i_found i_walkers a_many a_kinds a_gone a_at a_counts a_spots a_ways_16 a_next)) (fun _ => rfl) dX8_odds_236 (fun a_ways_16 H locs ea_ways_16 hW => ?_)
            replace hw := hw.2 a_ways_16 ea_ways_16
            obtain ⟨x8_17, ex8_17⟩ : ∃ y : Int32, y = x8 + 1 := ⟨_, rfl⟩
            replace hw := hw x8_17 ex8_17
            refine lv_iinc (v := x8_17) (lv' := [(8, .int x8_17), (0, .ref h), (1, .int x1), (2, .int x2), (3, .int x3), (4, .int x4), (5, .long x5), (7, .int x7)]) hx hb dX8_odds_237 hl (k := 7) rfl (by rw [ex8_17]; rfl) (by decide) rfl (fun ls hl => ?_)
            refine lv_goto (tgt := 216) hx hb dX8_odds_240 (by decide) ?_
            exact ih_216 x8_17 a_ways_16 _ _ _ hW (lv_sub hl [1, 2, 3, 4, 5, 6, 7, 0] rfl) hw
      have W_130 : ∀ (x5 : Int64) (x7 : Int32) (a_ways : Nat → Int64) (n_130 : Nat) (x8 : Int32) (a_counts : Nat → Int32) (a_next : Nat → Int64) (H : Heap) (locs : List Loc) (ls : Array Slot), Wd (dC, dI) A s.heap (wX8_odds cyI cyJ cyZ h h_text h_many h_ones h_others h_kinds h_firsts h_persons h_gone h_at h_fines h_undos h_seenOf h_seenOpen h_path h_told h_counts h_spots h_far h_row h_begins h_ways h_next i_length i_keptMany i_undoMany i_seenMany i_pathMany i_place i_found i_walkers a_many a_kinds a_gone a_at a_counts a_spots a_ways a_next) H locs → lv_has ls 15 [(0, .ref h), (1, .int x1), (2, .int x2), (3, .int x3), (4, .int x4), (5, .long x5), (7, .int x7), (8, .int x8)] → PX8_odds_130 post x1 x3 a_kinds (PX8_odds_97 post x1 x2 x3 x4 a_kinds a_spots n_97) x5 x7 a_ways n_130 x8 a_counts a_next → W p l e (({ frames := 2, cells := 0, slots := 0, locals := 46 } : Room)) s m (([.ref h, .int x1, .int x2, .int x3, .int x4] : List Value).toArray) below meth c H locs 0 0 (MQ below (qX8_odds dC dI cyI cyJ cyZ h h_text h_many h_ones h_others h_kinds h_firsts h_persons h_gone h_at h_fines h_undos h_seenOf h_seenOpen h_path h_told h_counts h_spots h_far h_row h_begins h_ways h_next i_length i_keptMany i_undoMany i_seenMany i_pathMany i_place i_found i_walkers a_many a_kinds a_gone a_at a_counts a_spots a_ways a_next post A) (([.ref h, .int x1, .int x2, .int x3, .int x4] : List Value).toArray) s 0 0 A) (F0 m 130 ls []) := by
        intro x5 x7 a_ways n_130
        induction n_130 with
        | zero =>
          intro x8 a_counts a_next H locs ls hW hl hw
          exact False.elim hw
        | succ n_130 ih_130 =>
          intro x8 a_counts a_next H locs ls hW hl hw
          refine lv_iload hx hb dX8_odds_130 (lv_at hl 7 rfl) ?_
          refine lv_bipush (v := 6) hx hb dX8_odds_132 (by decide) ?_
          refine lv_icmp_ge (tgt := 213) hx hb dX8_odds_134 (by decide) (fun c_18 => ?_) (fun c_18 => ?_)
          · replace hw := hw.1 c_18
            refine lv_iconst (v := 0) hx hb dX8_odds_213 (by decide) ?_
            refine lv_istore (lv' := [(8, .int 0), (0, .ref h), (1, .int x1), (2, .int x2), (3, .int x3), (4, .int x4), (5, .long x5), (7, .int x7)]) hx hb dX8_odds_214 hl (by decide) rfl (fun ls hl => ?_)
            obtain ⟨n_216, hw⟩ := hw
            exact W_216 x5 x7 a_counts a_next n_216 0 a_ways _ _ _ hW (lv_sub hl [1, 2, 3, 4, 5, 6, 7, 0] rfl) hw
          · replace hw := hw.2 c_18
            refine lv_aload_n hx hb dX8_odds_137 rfl (lv_at hl 0 rfl) ?_
            refine zw_get (ci := 8) (C := RX8) (T := TX8) (N := 30) (v := .ref h_counts) hx hb hts hiX8 hown hK hW 0 rfl rfl 21 (by decide) rfl k_0 dX8_odds_138 ?_
            refine lv_iload_n hx hb dX8_odds_141 rfl (lv_at hl 1 rfl) ?_
            refine lv_iload hx hb dX8_odds_142 (lv_at hl 7 rfl) ?_
            refine zw_iast hx hb hK hW 5 rfl rfl hw.1 (w2 := fun a_counts_19 => (wX8_odds cyI cyJ cyZ h h_text h_many h_ones h_others h_kinds h_firsts h_persons h_gone h_at h_fines h_undos h_seenOf h_seenOpen h_path h_told h_counts h_spots h_far h_row h_begins h_ways h_next i_length i_keptMany i_undoMany i_seenMany i_pathMany i_place i_found i_walkers a_many a_kinds a_gone a_at a_counts_19 a_spots a_ways a_next)) (fun _ => rfl) dX8_odds_144 (fun a_counts_19 H locs ea_counts_19 hW => ?_)
            replace hw := hw.2 a_counts_19 ea_counts_19
            refine lv_aload_n hx hb dX8_odds_145 rfl (lv_at hl 0 rfl) ?_
            refine zw_get (ci := 8) (C := RX8) (T := TX8) (N := 30) (v := .ref h_next) hx hb hts hiX8 hown hK hW 0 rfl rfl 29 (by decide) rfl k_3 dX8_odds_146 ?_
            refine lv_iload hx hb dX8_odds_149 (lv_at hl 7 rfl) ?_
            refine lv_dup2_11 hx hb dX8_odds_151 rfl rfl ?_
            refine zw_lald hx hb hK hW 8 rfl rfl hw.1 dX8_odds_152 ?_
            replace hw := hw.2
            refine lv_aload_n hx hb dX8_odds_153 rfl (lv_at hl 0 rfl) ?_
            refine zw_get (ci := 8) (C := RX8) (T := TX8) (N := 30) (v := .ref h_ways) hx hb hts hiX8 hown hK hW 0 rfl rfl 28 (by decide) rfl k_1 dX8_odds_154 ?_
            refine lv_iload hx hb dX8_odds_157 (lv_at hl 7 rfl) ?_
            refine zw_lald hx hb hK hW 7 rfl rfl hw.1 dX8_odds_159 ?_
            replace hw := hw.2
            refine lv_bipush (v := 10) hx hb dX8_odds_160 (by decide) ?_
            refine lv_iload_n hx hb dX8_odds_162 rfl (lv_at hl 3 rfl) ?_
            refine lv_isub hx hb dX8_odds_163 ?_
            refine lv_i2l hx hb dX8_odds_164 rfl ?_
            refine lv_lmul hx hb dX8_odds_165 ?_
            refine lv_ladd hx hb dX8_odds_166 ?_
            refine lv_topl (fun t_20 et_20 => ?_)
            replace hw := hw t_20 et_20
            refine zw_last hx hb hK hW 8 rfl rfl hw.1 (w2 := fun a_next_21 => (wX8_odds cyI cyJ cyZ h h_text h_many h_ones h_others h_kinds h_firsts h_persons h_gone h_at h_fines h_undos h_seenOf h_seenOpen h_path h_told h_counts h_spots h_far h_row h_begins h_ways h_next i_length i_keptMany i_undoMany i_seenMany i_pathMany i_place i_found i_walkers a_many a_kinds a_gone a_at a_counts_19 a_spots a_ways a_next_21)) (fun _ => rfl) dX8_odds_167 (fun a_next_21 H locs ea_next_21 hW => ?_)
            replace hw := hw.2 a_next_21 ea_next_21
            refine lv_aload_n hx hb dX8_odds_168 rfl (lv_at hl 0 rfl) ?_
            refine zw_get (ci := 8) (C := RX8) (T := TX8) (N := 30) (v := .ref h_next) hx hb hts hiX8 hown hK hW 0 rfl rfl 29 (by decide) rfl k_3 dX8_odds_169 ?_
            refine lv_aload_n hx hb dX8_odds_172 rfl (lv_at hl 0 rfl) ?_
            refine lv_iload_n hx hb dX8_odds_173 rfl (lv_at hl 1 rfl) ?_
            refine lv_iconst (v := 0) hx hb dX8_odds_174 (by decide) ?_
            refine zw_Vi ⟨hx, hb, hml, hown, hts⟩ hK hN hA hW 0 rfl (T := TX8) (N := 30) rfl [.int x1, .int 0] [.ref h_next] [0, 2, 5] [1, 3, 4, 6, 7, 8] [6, 0, 7, 1, 2, 8, 3, 4, 5] (fun _ => (wX8_odds cyI cyJ cyZ h h_text h_many h_ones h_others h_kinds h_firsts h_persons h_gone h_at h_fines h_undos h_seenOf h_seenOpen h_path h_told h_counts h_spots h_far h_row h_begins h_ways h_next i_length i_keptMany i_undoMany i_seenMany i_pathMany i_place i_found i_walkers a_many a_kinds a_gone a_at a_counts_19 a_spots a_ways a_next_21)) (mX8_isOpen l dC dI cyI cyJ cyZ h h_text h_many h_ones h_others h_kinds h_firsts h_persons h_gone h_at h_fines h_undos h_seenOf h_seenOpen h_path h_told h_counts h_spots h_far h_row h_begins h_ways h_next _ i_length i_keptMany i_undoMany i_seenMany i_pathMany i_place i_found i_walkers a_kinds a_counts_19 x1 0 _ hw) (cwV 2 hts gX8_odds_X8_isOpen rfl rfl rfl (by decide +kernel) ⟨Nat.le_of_ble_eq_true rfl, Nat.le_of_ble_eq_true rfl⟩) rfl rfl rfl rfl (by decide) rfl (fun _ => rfl) rfl hl.1 rfl (Nat.le_of_ble_eq_true rfl) (Nat.le_of_ble_eq_true rfl) (Nat.le_of_ble_eq_true rfl) dX8_odds_175 (fun r_22 u H locs hw hW => ?_)
            obtain ⟨br_22, hw⟩ := hw
            refine lv_if_eq (tgt := 191) hx hb dX8_odds_178 (by decide) (fun c_23 => ?_) (fun c_23 => ?_)
            · replace hw := hw.1 c_23
              refine lv_iload hx hb dX8_odds_191 (lv_at hl 7 rfl) ?_
              refine lv_dup2_11 hx hb dX8_odds_193 rfl rfl ?_
              refine zw_lald hx hb hK hW 8 rfl rfl hw.1 dX8_odds_194 ?_
              replace hw := hw.2
              refine lv_aload_n hx hb dX8_odds_195 rfl (lv_at hl 0 rfl) ?_
              refine zw_get (ci := 8) (C := RX8) (T := TX8) (N := 30) (v := .ref h_ways) hx hb hts hiX8 hown hK hW 0 rfl rfl 28 (by decide) rfl k_1 dX8_odds_196 ?_
              refine lv_iload hx hb dX8_odds_199 (lv_at hl 7 rfl) ?_
              refine zw_lald hx hb hK hW 7 rfl rfl hw.1 dX8_odds_201 ?_
              replace hw := hw.2
              refine lv_iload_n hx hb dX8_odds_202 rfl (lv_at hl 3 rfl) ?_
              refine lv_i2l hx hb dX8_odds_203 rfl ?_
              refine lv_lmul hx hb dX8_odds_204 ?_
              refine lv_ladd hx hb dX8_odds_205 ?_
              refine lv_topl (fun t_24 et_24 => ?_)
              replace hw := hw t_24 et_24
              refine zw_last hx hb hK hW 8 rfl rfl hw.1 (w2 := fun a_next_25 => (wX8_odds cyI cyJ cyZ h h_text h_many h_ones h_others h_kinds h_firsts h_persons h_gone h_at h_fines h_undos h_seenOf h_seenOpen h_path h_told h_counts h_spots h_far h_row h_begins h_ways h_next i_length i_keptMany i_undoMany i_seenMany i_pathMany i_place i_found i_walkers a_many a_kinds a_gone a_at a_counts_19 a_spots a_ways a_next_25)) (fun _ => rfl) dX8_odds_206 (fun a_next_25 H locs ea_next_25 hW => ?_)
              replace hw := hw.2 a_next_25 ea_next_25
              obtain ⟨x8_26, ex8_26⟩ : ∃ y : Int32, y = x8 + 1 := ⟨_, rfl⟩
              replace hw := hw x8_26 ex8_26
              refine lv_iinc (v := x8_26) (lv' := [(8, .int x8_26), (0, .ref h), (1, .int x1), (2, .int x2), (3, .int x3), (4, .int x4), (5, .long x5), (7, .int x7)]) hx hb dX8_odds_207 hl (k := 7) rfl (by rw [ex8_26]; rfl) (by decide) rfl (fun ls hl => ?_)
              refine lv_goto (tgt := 130) hx hb dX8_odds_210 (by decide) ?_
              exact ih_130 x8_26 a_counts_19 a_next_25 _ _ _ hW (lv_sub hl [1, 2, 3, 4, 5, 6, 7, 0] rfl) hw
            · replace hw := hw.2 c_23
              refine lv_iload hx hb dX8_odds_181 (lv_at hl 7 rfl) ?_
              refine lv_iconst (v := 1) hx hb dX8_odds_183 (by decide) ?_
              refine lv_iadd hx hb dX8_odds_184 ?_
              refine lv_bipush (v := 6) hx hb dX8_odds_185 (by decide) ?_
              refine lv_irem hx hb dX8_odds_187 (by decide) ?_
              refine lv_goto (tgt := 193) hx hb dX8_odds_188 (by decide) ?_
              refine lv_dup2_11 hx hb dX8_odds_193 rfl rfl ?_
              refine zw_lald hx hb hK hW 8 rfl rfl hw.1 dX8_odds_194 ?_
              replace hw := hw.2
              refine lv_aload_n hx hb dX8_odds_195 rfl (lv_at hl 0 rfl) ?_
              refine zw_get (ci := 8) (C := RX8) (T := TX8) (N := 30) (v := .ref h_ways) hx hb hts hiX8 hown hK hW 0 rfl rfl 28 (by decide) rfl k_1 dX8_odds_196 ?_
              refine lv_iload hx hb dX8_odds_199 (lv_at hl 7 rfl) ?_
              refine zw_lald hx hb hK hW 7 rfl rfl hw.1 dX8_odds_201 ?_
              replace hw := hw.2
              refine lv_iload_n hx hb dX8_odds_202 rfl (lv_at hl 3 rfl) ?_
              refine lv_i2l hx hb dX8_odds_203 rfl ?_
              refine lv_lmul hx hb dX8_odds_204 ?_
              refine lv_ladd hx hb dX8_odds_205 ?_
              refine lv_topl (fun t_27 et_27 => ?_)
              replace hw := hw t_27 et_27
              refine zw_last hx hb hK hW 8 rfl rfl hw.1 (w2 := fun a_next_28 => (wX8_odds cyI cyJ cyZ h h_text h_many h_ones h_others h_kinds h_firsts h_persons h_gone h_at h_fines h_undos h_seenOf h_seenOpen h_path h_told h_counts h_spots h_far h_row h_begins h_ways h_next i_length i_keptMany i_undoMany i_seenMany i_pathMany i_place i_found i_walkers a_many a_kinds a_gone a_at a_counts_19 a_spots a_ways a_next_28)) (fun _ => rfl) dX8_odds_206 (fun a_next_28 H locs ea_next_28 hW => ?_)
              replace hw := hw.2 a_next_28 ea_next_28
              obtain ⟨x8_29, ex8_29⟩ : ∃ y : Int32, y = x8 + 1 := ⟨_, rfl⟩
              replace hw := hw x8_29 ex8_29
              refine lv_iinc (v := x8_29) (lv' := [(8, .int x8_29), (0, .ref h), (1, .int x1), (2, .int x2), (3, .int x3), (4, .int x4), (5, .long x5), (7, .int x7)]) hx hb dX8_odds_207 hl (k := 7) rfl (by rw [ex8_29]; rfl) (by decide) rfl (fun ls hl => ?_)
              refine lv_goto (tgt := 130) hx hb dX8_odds_210 (by decide) ?_
              exact ih_130 x8_29 a_counts_19 a_next_28 _ _ _ hW (lv_sub hl [1, 2, 3, 4, 5, 6, 7, 0] rfl) hw
      have W_106 : ∀ (x5 : Int64) (x7 : Int32) (a_counts : Nat → Int32) (a_ways : Nat → Int64) (n_106 : Nat) (x8 : Int32) (a_next : Nat → Int64) (H : Heap) (locs : List Loc) (ls : Array Slot), Wd (dC, dI) A s.heap (wX8_odds cyI cyJ cyZ h h_text h_many h_ones h_others h_kinds h_firsts h_persons h_gone h_at h_fines h_undos h_seenOf h_seenOpen h_path h_told h_counts h_spots h_far h_row h_begins h_ways h_next i_length i_keptMany i_undoMany i_seenMany i_pathMany i_place i_found i_walkers a_many a_kinds a_gone a_at a_counts a_spots a_ways a_next) H locs → lv_has ls 15 [(0, .ref h), (1, .int x1), (2, .int x2), (3, .int x3), (4, .int x4), (5, .long x5), (7, .int x7), (8, .int x8)] → PX8_odds_106 post x1 x3 a_kinds (PX8_odds_97 post x1 x2 x3 x4 a_kinds a_spots n_97) x5 x7 a_counts a_ways n_106 x8 a_next → W p l e (({ frames := 2, cells := 0, slots := 0, locals := 46 } : Room)) s m (([.ref h, .int x1, .int x2, .int x3, .int x4] : List Value).toArray) below meth c H locs 0 0 (MQ below (qX8_odds dC dI cyI cyJ cyZ h h_text h_many h_ones h_others h_kinds h_firsts h_persons h_gone h_at h_fines h_undos h_seenOf h_seenOpen h_path h_told h_counts h_spots h_far h_row h_begins h_ways h_next i_length i_keptMany i_undoMany i_seenMany i_pathMany i_place i_found i_walkers a_many a_kinds a_gone a_at a_counts a_spots a_ways a_next post A) (([.ref h, .int x1, .int x2, .int x3, .int x4] : List Value).toArray) s 0 0 A) (F0 m 106 ls []) := by
        intro x5 x7 a_counts a_ways n_106
        induction n_106 with
        | zero =>
          intro x8 a_next H locs ls hW hl hw
          exact False.elim hw
        | succ n_106 ih_106 =>
          intro x8 a_next H locs ls hW hl hw
          refine lv_iload hx hb dX8_odds_106 (lv_at hl 7 rfl) ?_
          refine lv_bipush (v := 6) hx hb dX8_odds_108 (by decide) ?_
          refine lv_icmp_ge (tgt := 127) hx hb dX8_odds_110 (by decide) (fun c_30 => ?_) (fun c_30 => ?_)
          · replace hw := hw.1 c_30
            refine lv_iconst (v := 0) hx hb dX8_odds_127 (by decide) ?_
            refine lv_istore (lv' := [(8, .int 0), (0, .ref h), (1, .int x1), (2, .int x2), (3, .int x3), (4, .int x4), (5, .long x5), (7, .int x7)]) hx hb dX8_odds_128 hl (by decide) rfl (fun ls hl => ?_)
            obtain ⟨n_130, hw⟩ := hw
            exact W_130 x5 x7 a_ways n_130 0 a_counts a_next _ _ _ hW (lv_sub hl [1, 2, 3, 4, 5, 6, 7, 0] rfl) hw
          · replace hw := hw.2 c_30
            refine lv_aload_n hx hb dX8_odds_113 rfl (lv_at hl 0 rfl) ?_
            refine zw_get (ci := 8) (C := RX8) (T := TX8) (N := 30) (v := .ref h_next) hx hb hts hiX8 hown hK hW 0 rfl rfl 29 (by decide) rfl k_3 dX8_odds_114 ?_
            refine lv_iload hx hb dX8_odds_117 (lv_at hl 7 rfl) ?_
            refine lv_lconst (v := 0) hx hb dX8_odds_119 (by decide) ?_
            refine zw_last hx hb hK hW 8 rfl rfl hw.1 (w2 := fun a_next_31 => (wX8_odds cyI cyJ cyZ h h_text h_many h_ones h_others h_kinds h_firsts h_persons h_gone h_at h_fines h_undos h_seenOf h_seenOpen h_path h_told h_counts h_spots h_far h_row h_begins h_ways h_next i_length i_keptMany i_undoMany i_seenMany i_pathMany i_place i_found i_walkers a_many a_kinds a_gone a_at a_counts a_spots a_ways a_next_31)) (fun _ => rfl) dX8_odds_120 (fun a_next_31 H locs ea_next_31 hW => ?_)
            replace hw := hw.2 a_next_31 ea_next_31
            obtain ⟨x8_32, ex8_32⟩ : ∃ y : Int32, y = x8 + 1 := ⟨_, rfl⟩
            replace hw := hw x8_32 ex8_32
            refine lv_iinc (v := x8_32) (lv' := [(8, .int x8_32), (0, .ref h), (1, .int x1), (2, .int x2), (3, .int x3), (4, .int x4), (5, .long x5), (7, .int x7)]) hx hb dX8_odds_121 hl (k := 7) rfl (by rw [ex8_32]; rfl) (by decide) rfl (fun ls hl => ?_)
            refine lv_goto (tgt := 106) hx hb dX8_odds_124 (by decide) ?_
            exact ih_106 x8_32 a_next_31 _ _ _ hW (lv_sub hl [1, 2, 3, 4, 5, 6, 7, 0] rfl) hw
      intro x5 x7 a_counts a_ways a_next H locs ls hW hl hw
      refine lv_iload hx hb dX8_odds_97 (lv_at hl 6 rfl) ?_
      refine lv_iload_n hx hb dX8_odds_99 rfl (lv_at hl 2 rfl) ?_
      refine lv_icmp_ge (tgt := 257) hx hb dX8_odds_100 (by decide) (fun c_33 => ?_) (fun c_33 => ?_)
      · replace hw := hw.1 c_33
        refine lv_lconst (v := 0) hx hb dX8_odds_257 (by decide) ?_
        refine lv_lstore (lv' := [(7, .long 0), (0, .ref h), (1, .int x1), (2, .int x2), (3, .int x3), (4, .int x4), (5, .long x5)]) hx hb dX8_odds_258 hl (by decide) rfl (fun ls hl => ?_)
        refine lv_iconst (v := 0) hx hb dX8_odds_260 (by decide) ?_
        refine lv_istore (lv' := [(9, .int 0), (7, .long 0), (0, .ref h), (1, .int x1), (2, .int x2), (3, .int x3), (4, .int x4), (5, .long x5)]) hx hb dX8_odds_261 hl (by decide) rfl (fun ls hl => ?_)
        obtain ⟨n_263, hw⟩ := hw
        exact W_263 x5 a_spots a_ways a_next n_263 0 0 a_counts _ _ _ hW (lv_sub hl [2, 3, 6, 7, 1, 0] rfl) hw
      · replace hw := hw.2 c_33
        refine lv_iconst (v := 0) hx hb dX8_odds_103 (by decide) ?_
        refine lv_istore (lv' := [(8, .int 0), (0, .ref h), (1, .int x1), (2, .int x2), (3, .int x3), (4, .int x4), (5, .long x5), (7, .int x7)]) hx hb dX8_odds_104 hl (by decide) rfl (fun ls hl => ?_)
        obtain ⟨n_106, hw⟩ := hw
        exact W_106 x5 x7 a_counts a_ways n_106 0 a_next _ _ _ hW (lv_sub hl [1, 2, 3, 4, 5, 6, 7, 0] rfl) hw
  have W_52 : ∀ (a_counts : Nat → Int32) (a_spots : Nat → Int32) (a_next : Nat → Int64) (n_52 : Nat) (x5 : Int32) (a_ways : Nat → Int64) (H : Heap) (locs : List Loc) (ls : Array Slot), Wd (dC, dI) A s.heap (wX8_odds cyI cyJ cyZ h h_text h_many h_ones h_others h_kinds h_firsts h_persons h_gone h_at h_fines h_undos h_seenOf h_seenOpen h_path h_told h_counts h_spots h_far h_row h_begins h_ways h_next i_length i_keptMany i_undoMany i_seenMany i_pathMany i_place i_found i_walkers a_many a_kinds a_gone a_at a_counts a_spots a_ways a_next) H locs → lv_has ls 15 [(0, .ref h), (1, .int x1), (2, .int x2), (3, .int x3), (4, .int x4), (5, .int x5)] → PX8_odds_52 post x1 x2 x3 x4 a_kinds a_gone a_counts a_spots a_next n_52 x5 a_ways → W p l e (({ frames := 2, cells := 0, slots := 0, locals := 46 } : Room)) s m (([.ref h, .int x1, .int x2, .int x3, .int x4] : List Value).toArray) below meth c H locs 0 0 (MQ below (qX8_odds dC dI cyI cyJ cyZ h h_text h_many h_ones h_others h_kinds h_firsts h_persons h_gone h_at h_fines h_undos h_seenOf h_seenOpen h_path h_told h_counts h_spots h_far h_row h_begins h_ways h_next i_length i_keptMany i_undoMany i_seenMany i_pathMany i_place i_found i_walkers a_many a_kinds a_gone a_at a_counts a_spots a_ways a_next post A) (([.ref h, .int x1, .int x2, .int x3, .int x4] : List Value).toArray) s 0 0 A) (F0 m 52 ls []) := by
    intro a_counts a_spots a_next n_52
    induction n_52 with
    | zero =>
      intro x5 a_ways H locs ls hW hl hw
      exact False.elim hw
    | succ n_52 ih_52 =>
      intro x5 a_ways H locs ls hW hl hw
      refine lv_iload hx hb dX8_odds_52 (lv_at hl 5 rfl) ?_
      refine lv_bipush (v := 6) hx hb dX8_odds_54 (by decide) ?_
      refine lv_icmp_ge (tgt := 91) hx hb dX8_odds_56 (by decide) (fun c_34 => ?_) (fun c_34 => ?_)
      · replace hw := hw.1 c_34
        refine lv_lconst (v := 1) hx hb dX8_odds_91 (by decide) ?_
        refine lv_lstore (lv' := [(5, .long 1), (0, .ref h), (1, .int x1), (2, .int x2), (3, .int x3), (4, .int x4)]) hx hb dX8_odds_92 hl (by decide) rfl (fun ls hl => ?_)
        refine lv_iconst (v := 0) hx hb dX8_odds_94 (by decide) ?_
        refine lv_istore (lv' := [(7, .int 0), (5, .long 1), (0, .ref h), (1, .int x1), (2, .int x2), (3, .int x3), (4, .int x4)]) hx hb dX8_odds_95 hl (by decide) rfl (fun ls hl => ?_)
        obtain ⟨n_97, hw⟩ := hw
        exact W_97 a_spots n_97 1 0 a_counts a_ways a_next _ _ _ hW (lv_sub hl [2, 3, 4, 5, 6, 1, 0] rfl) hw
      · replace hw := hw.2 c_34
        refine lv_aload_n hx hb dX8_odds_59 rfl (lv_at hl 0 rfl) ?_
        refine zw_get (ci := 8) (C := RX8) (T := TX8) (N := 30) (v := .ref h_ways) hx hb hts hiX8 hown hK hW 0 rfl rfl 28 (by decide) rfl k_1 dX8_odds_60 ?_
        refine lv_iload hx hb dX8_odds_63 (lv_at hl 5 rfl) ?_
        refine lv_iload hx hb dX8_odds_65 (lv_at hl 5 rfl) ?_
        refine lv_aload_n hx hb dX8_odds_67 rfl (lv_at hl 0 rfl) ?_
        refine zw_get (ci := 8) (C := RX8) (T := TX8) (N := 30) (v := .ref h_gone) hx hb hts hiX8 hown hK hW 0 rfl rfl 8 (by decide) rfl k_4 dX8_odds_68 ?_
        refine lv_iload_n hx hb dX8_odds_71 rfl (lv_at hl 1 rfl) ?_
        refine zw_iald hx hb hK hW 3 rfl rfl hw.1 dX8_odds_72 ?_
        replace hw := hw.2
        refine lv_bipush (v := 6) hx hb dX8_odds_73 (by decide) ?_
        refine lv_irem hx hb dX8_odds_75 (by decide) ?_
        refine lv_icmp_ne (tgt := 83) hx hb dX8_odds_76 (by decide) (fun c_35 => ?_) (fun c_35 => ?_)
        · replace hw := hw.2 c_35
          refine lv_lconst (v := 0) hx hb dX8_odds_83 (by decide) ?_
          refine zw_last hx hb hK hW 7 rfl rfl hw.1 (w2 := fun a_ways_36 => (wX8_odds cyI cyJ cyZ h h_text h_many h_ones h_others h_kinds h_firsts h_persons h_gone h_at h_fines h_undos h_seenOf h_seenOpen h_path h_told h_counts h_spots h_far h_row h_begins h_ways h_next i_length i_keptMany i_undoMany i_seenMany i_pathMany i_place i_found i_walkers a_many a_kinds a_gone a_at a_counts a_spots a_ways_36 a_next)) (fun _ => rfl) dX8_odds_84 (fun a_ways_36 H locs ea_ways_36 hW => ?_)
          replace hw := hw.2 a_ways_36 ea_ways_36
          obtain ⟨x5_37, ex5_37⟩ : ∃ y : Int32, y = x5 + 1 := ⟨_, rfl⟩
          replace hw := hw x5_37 ex5_37
          refine lv_iinc (v := x5_37) (lv' := [(5, .int x5_37), (0, .ref h), (1, .int x1), (2, .int x2), (3, .int x3), (4, .int x4)]) hx hb dX8_odds_85 hl (k := 5) rfl (by rw [ex5_37]; rfl) (by decide) rfl (fun ls hl => ?_)
          refine lv_goto (tgt := 52) hx hb dX8_odds_88 (by decide) ?_
          exact ih_52 x5_37 a_ways_36 _ _ _ hW (lv_sub hl [1, 2, 3, 4, 5, 0] rfl) hw
        · replace hw := hw.1 c_35
          refine lv_lconst (v := 1) hx hb dX8_odds_79 (by decide) ?_
          refine lv_goto (tgt := 84) hx hb dX8_odds_80 (by decide) ?_
          refine zw_last hx hb hK hW 7 rfl rfl hw.1 (w2 := fun a_ways_38 => (wX8_odds cyI cyJ cyZ h h_text h_many h_ones h_others h_kinds h_firsts h_persons h_gone h_at h_fines h_undos h_seenOf h_seenOpen h_path h_told h_counts h_spots h_far h_row h_begins h_ways h_next i_length i_keptMany i_undoMany i_seenMany i_pathMany i_place i_found i_walkers a_many a_kinds a_gone a_at a_counts a_spots a_ways_38 a_next)) (fun _ => rfl) dX8_odds_84 (fun a_ways_38 H locs ea_ways_38 hW => ?_)
          replace hw := hw.2 a_ways_38 ea_ways_38
          obtain ⟨x5_39, ex5_39⟩ : ∃ y : Int32, y = x5 + 1 := ⟨_, rfl⟩
          replace hw := hw x5_39 ex5_39
          refine lv_iinc (v := x5_39) (lv' := [(5, .int x5_39), (0, .ref h), (1, .int x1), (2, .int x2), (3, .int x3), (4, .int x4)]) hx hb dX8_odds_85 hl (k := 5) rfl (by rw [ex5_39]; rfl) (by decide) rfl (fun ls hl => ?_)
          refine lv_goto (tgt := 52) hx hb dX8_odds_88 (by decide) ?_
          exact ih_52 x5_39 a_ways_38 _ _ _ hW (lv_sub hl [1, 2, 3, 4, 5, 0] rfl) hw
  have hl := lv_entry ([.ref h, .int x1, .int x2, .int x3, .int x4]) (n := 15) (Nat.le_of_ble_eq_true rfl)
  rw [lg_entry_eq]
  generalize (lg_sl ([.ref h, .int x1, .int x2, .int x3, .int x4]) ++ List.replicate (15 - (lg_sl ([.ref h, .int x1, .int x2, .int x3, .int x4])).length) Slot.unset).toArray = ls at hl ⊢
  have hl : lv_has ls 15 [(0, .ref h), (1, .int x1), (2, .int x2), (3, .int x3), (4, .int x4)] := hl
  refine lv_aload_n hx hb dX8_odds_0 rfl (lv_at hl 0 rfl) ?_
  refine lv_iload_n hx hb dX8_odds_1 rfl (lv_at hl 1 rfl) ?_
  refine zw_Vi ⟨hx, hb, hml, hown, hts⟩ hK hN hA hW 0 rfl (T := TX8) (N := 30) rfl [.int x1] [] [0, 1] [2, 3, 4, 5, 6, 7, 8] [7, 8, 0, 1, 2, 3, 4, 5, 6] (fun _ => (wX8_odds cyI cyJ cyZ h h_text h_many h_ones h_others h_kinds h_firsts h_persons h_gone h_at h_fines h_undos h_seenOf h_seenOpen h_path h_told h_counts h_spots h_far h_row h_begins h_ways h_next i_length i_keptMany i_undoMany i_seenMany i_pathMany i_place i_found i_walkers a_many a_kinds a_gone a_at a_counts a_spots a_ways a_next)) (mX8_isGate l dC dI cyI cyJ cyZ h h_text h_many h_ones h_others h_kinds h_firsts h_persons h_gone h_at h_fines h_undos h_seenOf h_seenOpen h_path h_told h_counts h_spots h_far h_row h_begins h_ways h_next _ i_length i_keptMany i_undoMany i_seenMany i_pathMany i_place i_found i_walkers a_many x1 _ hw) (cwV 1 hts gX8_odds_X8_isGate rfl rfl rfl (by decide +kernel) ⟨Nat.le_of_ble_eq_true rfl, Nat.le_of_ble_eq_true rfl⟩) rfl rfl rfl rfl (by decide) rfl (fun _ => rfl) rfl hl.1 rfl (Nat.le_of_ble_eq_true rfl) (Nat.le_of_ble_eq_true rfl) (Nat.le_of_ble_eq_true rfl) dX8_odds_2 (fun r_40 u H locs hw hW => ?_)
  obtain ⟨br_40, hw⟩ := hw
  refine lv_if_eq (tgt := 43) hx hb dX8_odds_5 (by decide) (fun c_41 => ?_) (fun c_41 => ?_)
  · replace hw := hw.1 c_41
    refine lv_iconst (v := (-1)) hx hb dX8_odds_43 (by decide) ?_
    refine zw_iret (S := (Nat → Int32) × (Nat → Int32) × (Nat → Int64) × (Nat → Int64)) (post := fun r u => post r u.1 u.2.1 u.2.2.1 u.2.2.2) (a_counts, a_spots, a_ways, a_next) hx hb hr hlocks hK hW hw ?_ dX8_odds_44
    rfl
  · replace hw := hw.2 c_41
    refine lv_iload_n hx hb dX8_odds_8 rfl (lv_at hl 2 rfl) ?_
    refine lv_i2l hx hb dX8_odds_9 rfl ?_
    refine lv_lconst (v := 1) hx hb dX8_odds_10 (by decide) ?_
    refine lv_ldc2 hx hb hown k_5 dX8_odds_11 ?_
    refine zw_Si ⟨hx, hb, hml, hown, hts⟩ hK hN hA hW [.long ((x2).toInt64), .long 1, .long 8] [] [] [0, 1, 2, 3, 4, 5, 6, 7, 8] [0, 1, 2, 3, 4, 5, 6, 7, 8] (fun _ => (wX8_odds cyI cyJ cyZ h h_text h_many h_ones h_others h_kinds h_firsts h_persons h_gone h_at h_fines h_undos h_seenOf h_seenOpen h_path h_told h_counts h_spots h_far h_row h_begins h_ways h_next i_length i_keptMany i_undoMany i_seenMany i_pathMany i_place i_found i_walkers a_many a_kinds a_gone a_at a_counts a_spots a_ways a_next)) (mX8_in l dC dI cyI cyJ cyZ _ ((x2).toInt64) 1 8 _ hw) (va_cwS 3 hts gX8_odds_X8_in rfl rfl rfl (by decide +kernel) ⟨Nat.le_of_ble_eq_true rfl, Nat.le_of_ble_eq_true rfl⟩) rfl rfl rfl rfl (by decide) rfl (fun _ => rfl) rfl hl.1 rfl (Nat.le_of_ble_eq_true rfl) (Nat.le_of_ble_eq_true rfl) (Nat.le_of_ble_eq_true rfl) dX8_odds_14 (fun r_42 u H locs hw hW => ?_)
    obtain ⟨br_42, hw⟩ := hw
    refine lv_if_eq (tgt := 43) hx hb dX8_odds_17 (by decide) (fun c_43 => ?_) (fun c_43 => ?_)
    · replace hw := hw.1 c_43
      refine lv_iconst (v := (-1)) hx hb dX8_odds_43 (by decide) ?_
      refine zw_iret (S := (Nat → Int32) × (Nat → Int32) × (Nat → Int64) × (Nat → Int64)) (post := fun r u => post r u.1 u.2.1 u.2.2.1 u.2.2.2) (a_counts, a_spots, a_ways, a_next) hx hb hr hlocks hK hW hw ?_ dX8_odds_44
      rfl
    · replace hw := hw.2 c_43
      refine lv_iload_n hx hb dX8_odds_20 rfl (lv_at hl 3 rfl) ?_
      refine lv_i2l hx hb dX8_odds_21 rfl ?_
      refine lv_lconst (v := 0) hx hb dX8_odds_22 (by decide) ?_
      refine lv_ldc2 hx hb hown k_2 dX8_odds_23 ?_
      refine zw_Si ⟨hx, hb, hml, hown, hts⟩ hK hN hA hW [.long ((x3).toInt64), .long 0, .long 10] [] [] [0, 1, 2, 3, 4, 5, 6, 7, 8] [0, 1, 2, 3, 4, 5, 6, 7, 8] (fun _ => (wX8_odds cyI cyJ cyZ h h_text h_many h_ones h_others h_kinds h_firsts h_persons h_gone h_at h_fines h_undos h_seenOf h_seenOpen h_path h_told h_counts h_spots h_far h_row h_begins h_ways h_next i_length i_keptMany i_undoMany i_seenMany i_pathMany i_place i_found i_walkers a_many a_kinds a_gone a_at a_counts a_spots a_ways a_next)) (mX8_in l dC dI cyI cyJ cyZ _ ((x3).toInt64) 0 10 _ hw) (va_cwS 3 hts gX8_odds_X8_in rfl rfl rfl (by decide +kernel) ⟨Nat.le_of_ble_eq_true rfl, Nat.le_of_ble_eq_true rfl⟩) rfl rfl rfl rfl (by decide) rfl (fun _ => rfl) rfl hl.1 rfl (Nat.le_of_ble_eq_true rfl) (Nat.le_of_ble_eq_true rfl) (Nat.le_of_ble_eq_true rfl) dX8_odds_26 (fun r_44 u H locs hw hW => ?_)
      obtain ⟨br_44, hw⟩ := hw
      refine lv_if_eq (tgt := 43) hx hb dX8_odds_29 (by decide) (fun c_45 => ?_) (fun c_45 => ?_)
      · replace hw := hw.1 c_45
        refine lv_iconst (v := (-1)) hx hb dX8_odds_43 (by decide) ?_
        refine zw_iret (S := (Nat → Int32) × (Nat → Int32) × (Nat → Int64) × (Nat → Int64)) (post := fun r u => post r u.1 u.2.1 u.2.2.1 u.2.2.2) (a_counts, a_spots, a_ways, a_next) hx hb hr hlocks hK hW hw ?_ dX8_odds_44
        rfl
      · replace hw := hw.2 c_45
        refine lv_iload hx hb dX8_odds_32 (lv_at hl 4 rfl) ?_
        refine lv_i2l hx hb dX8_odds_34 rfl ?_
        refine lv_lconst (v := 0) hx hb dX8_odds_35 (by decide) ?_
        refine lv_lconst (v := 1) hx hb dX8_odds_36 (by decide) ?_
        refine zw_Si ⟨hx, hb, hml, hown, hts⟩ hK hN hA hW [.long ((x4).toInt64), .long 0, .long 1] [] [] [0, 1, 2, 3, 4, 5, 6, 7, 8] [0, 1, 2, 3, 4, 5, 6, 7, 8] (fun _ => (wX8_odds cyI cyJ cyZ h h_text h_many h_ones h_others h_kinds h_firsts h_persons h_gone h_at h_fines h_undos h_seenOf h_seenOpen h_path h_told h_counts h_spots h_far h_row h_begins h_ways h_next i_length i_keptMany i_undoMany i_seenMany i_pathMany i_place i_found i_walkers a_many a_kinds a_gone a_at a_counts a_spots a_ways a_next)) (mX8_in l dC dI cyI cyJ cyZ _ ((x4).toInt64) 0 1 _ hw) (va_cwS 3 hts gX8_odds_X8_in rfl rfl rfl (by decide +kernel) ⟨Nat.le_of_ble_eq_true rfl, Nat.le_of_ble_eq_true rfl⟩) rfl rfl rfl rfl (by decide) rfl (fun _ => rfl) rfl hl.1 rfl (Nat.le_of_ble_eq_true rfl) (Nat.le_of_ble_eq_true rfl) (Nat.le_of_ble_eq_true rfl) dX8_odds_37 (fun r_46 u H locs hw hW => ?_)
        obtain ⟨br_46, hw⟩ := hw
        refine lv_if_ne (tgt := 45) hx hb dX8_odds_40 (by decide) (fun c_47 => ?_) (fun c_47 => ?_)
        · replace hw := hw.2 c_47
          refine lv_aload_n hx hb dX8_odds_45 rfl (lv_at hl 0 rfl) ?_
          refine zw_Vv ⟨hx, hb, hml, hown, hts⟩ hK hN hA hW 0 rfl (T := TX8) (N := 30) rfl [] [] [0, 3, 4, 5, 6] [1, 2, 7, 8] [4, 0, 1, 5, 6, 7, 8, 2, 3] (fun u => (wX8_odds cyI cyJ cyZ h h_text h_many h_ones h_others h_kinds h_firsts h_persons h_gone h_at h_fines h_undos h_seenOf h_seenOpen h_path h_told h_counts h_spots h_far h_row h_begins h_ways h_next i_length i_keptMany i_undoMany i_seenMany i_pathMany i_place i_found i_walkers a_many a_kinds a_gone a_at (u.1) (u.2) a_ways a_next)) (mX8_layNow l dC dI cyI cyJ cyZ h h_text h_many h_ones h_others h_kinds h_firsts h_persons h_gone h_at h_fines h_undos h_seenOf h_seenOpen h_path h_told h_counts h_spots h_far h_row h_begins h_ways h_next _ i_length i_keptMany i_undoMany i_seenMany i_pathMany i_place i_found i_walkers a_gone a_at a_counts a_spots _ hw) (cwV 0 hts gX8_odds_X8_layNow rfl rfl rfl (by decide +kernel) ⟨Nat.le_of_ble_eq_true rfl, Nat.le_of_ble_eq_true rfl⟩) rfl rfl rfl rfl (by decide) rfl (fun _ => rfl) rfl hl.1 rfl (Nat.le_of_ble_eq_true rfl) (Nat.le_of_ble_eq_true rfl) (Nat.le_of_ble_eq_true rfl) dX8_odds_46 (fun u H locs hw hW => ?_)
          obtain ⟨a_counts_48, a_spots_49⟩ := u
          try dsimp only at hw
          replace hW : Wd (dC, dI) A s.heap (wX8_odds cyI cyJ cyZ h h_text h_many h_ones h_others h_kinds h_firsts h_persons h_gone h_at h_fines h_undos h_seenOf h_seenOpen h_path h_told h_counts h_spots h_far h_row h_begins h_ways h_next i_length i_keptMany i_undoMany i_seenMany i_pathMany i_place i_found i_walkers a_many a_kinds a_gone a_at a_counts_48 a_spots_49 a_ways a_next) H locs := hW
          refine lv_iconst (v := 0) hx hb dX8_odds_49 (by decide) ?_
          refine lv_istore (lv' := [(5, .int 0), (0, .ref h), (1, .int x1), (2, .int x2), (3, .int x3), (4, .int x4)]) hx hb dX8_odds_50 hl (by decide) rfl (fun ls hl => ?_)
          obtain ⟨n_52, hw⟩ := hw
          exact W_52 a_counts_48 a_spots_49 a_next n_52 0 a_ways _ _ _ hW (lv_sub hl [1, 2, 3, 4, 5, 0] rfl) hw
        · replace hw := hw.1 c_47
          refine lv_iconst (v := (-1)) hx hb dX8_odds_43 (by decide) ?_
          refine zw_iret (S := (Nat → Int32) × (Nat → Int32) × (Nat → Int64) × (Nat → Int64)) (post := fun r u => post r u.1 u.2.1 u.2.2.1 u.2.2.2) (a_counts, a_spots, a_ways, a_next) hx hb hr hlocks hK hW hw ?_ dX8_odds_44
          rfl
abbrev wX8_day (cyI cyJ cyZ : ClassId) (h h_text h_many h_ones h_others h_kinds h_firsts h_persons h_gone h_at h_fines h_undos h_seenOf h_seenOpen h_path h_told h_counts h_spots h_far h_row h_begins h_ways h_next : Nat) (i_length : Int32) (i_keptMany : Int32) (i_undoMany : Int32) (i_seenMany : Int32) (i_pathMany : Int32) (i_place : Int32) (i_found : Int32) (i_walkers : Int32) (a_many : Nat → Int32) (a_ones : Nat → Int32) (a_others : Nat → Int32) (a_kinds : Nat → Int32) (a_persons : Nat → Int32) (a_gone : Nat → Int32) (a_at : Nat → Int32) (a_counts : Nat → Int32) (a_spots : Nat → Int32) : va_W := [(h, .inr (8, [.int i_length, .ref h_text, .ref h_many, .ref h_ones, .ref h_others, .ref h_kinds, .ref h_firsts, .ref h_persons, .ref h_gone, .ref h_at, .ref h_fines, .int i_keptMany, .int i_undoMany, .ref h_undos, .int i_seenMany, .ref h_seenOf, .ref h_seenOpen, .int i_pathMany, .ref h_path, .int i_place, .ref h_told, .ref h_counts, .ref h_spots, .ref h_far, .ref h_row, .ref h_begins, .int i_found, .int i_walkers, .ref h_ways, .ref h_next])), (h_many, .inl (cyI, 2, .inl a_many)), (h_ones, .inl (cyI, 10, .inl a_ones)), (h_others, .inl (cyI, 10, .inl a_others)), (h_kinds, .inl (cyI, 10, .inl a_kinds)), (h_persons, .inl (cyI, 2, .inl a_persons)), (h_gone, .inl (cyI, 15, .inl a_gone)), (h_at, .inl (cyI, 9, .inl a_at)), (h_counts, .inl (cyI, 5, .inl a_counts)), (h_spots, .inl (cyI, 3, .inl a_spots))]
abbrev qX8_day (dC : Nat → ClassId) (dI : Nat → Nat → Nat) (cyI cyJ cyZ : ClassId) (h h_text h_many h_ones h_others h_kinds h_firsts h_persons h_gone h_at h_fines h_undos h_seenOf h_seenOpen h_path h_told h_counts h_spots h_far h_row h_begins h_ways h_next : Nat) (i_length : Int32) (i_keptMany : Int32) (i_undoMany : Int32) (i_seenMany : Int32) (i_pathMany : Int32) (i_place : Int32) (i_found : Int32) (i_walkers : Int32) (a_many : Nat → Int32) (a_ones : Nat → Int32) (a_others : Nat → Int32) (a_kinds : Nat → Int32) (a_persons : Nat → Int32) (a_gone : Nat → Int32) (a_at : Nat → Int32) (a_counts : Nat → Int32) (a_spots : Nat → Int32) (post : Int32 → (Nat → Int32) → (Nat → Int32) → Prop) (A : Nat → Prop) : Array Value → State → Outcome → State → Prop := (va_Qi (fun (r : Int32) (u : (Nat → Int32) × (Nat → Int32)) => post r u.1 u.2) (bW (dC, dI) (tyG cyI cyJ cyZ) A (fun u : (Nat → Int32) × (Nat → Int32) => (wX8_day cyI cyJ cyZ h h_text h_many h_ones h_others h_kinds h_firsts h_persons h_gone h_at h_fines h_undos h_seenOf h_seenOpen h_path h_told h_counts h_spots h_far h_row h_begins h_ways h_next i_length i_keptMany i_undoMany i_seenMany i_pathMany i_place i_found i_walkers a_many a_ones a_others a_kinds a_persons a_gone a_at (u.1) (u.2)))) A)
set_option maxHeartbeats 4000000 in
set_option maxRecDepth 100000 in
theorem mX8_day (l : Launch) (dC : Nat → ClassId) (dI : Nat → Nat → Nat) (cyI cyJ cyZ : ClassId) (h h_text h_many h_ones h_others h_kinds h_firsts h_persons h_gone h_at h_fines h_undos h_seenOf h_seenOpen h_path h_told h_counts h_spots h_far h_row h_begins h_ways h_next : Nat) (sz : Nat) (i_length : Int32) (i_keptMany : Int32) (i_undoMany : Int32) (i_seenMany : Int32) (i_pathMany : Int32) (i_place : Int32) (i_found : Int32) (i_walkers : Int32) (a_many : Nat → Int32) (a_ones : Nat → Int32) (a_others : Nat → Int32) (a_kinds : Nat → Int32) (a_persons : Nat → Int32) (a_gone : Nat → Int32) (a_at : Nat → Int32) (a_counts : Nat → Int32) (a_spots : Nat → Int32) (x1 : Int32) (x2 : Int32) (x3 : Int32) (post : Int32 → (Nat → Int32) → (Nat → Int32) → Prop) (hwp : PX8_day x1 x2 x3 a_many a_ones a_others a_kinds a_persons a_gone a_at a_counts a_spots post) : Met l yX8_day wsX8_day ({ frames := 2, cells := 0, slots := 0, locals := 46 } : Room) (va_Pc [.ref h, .int x1, .int x2, .int x3] (pcW (dC, dI) sz (wX8_day cyI cyJ cyZ h h_text h_many h_ones h_others h_kinds h_firsts h_persons h_gone h_at h_fines h_undos h_seenOf h_seenOpen h_path h_told h_counts h_spots h_far h_row h_begins h_ways h_next i_length i_keptMany i_undoMany i_seenMany i_pathMany i_place i_found i_walkers a_many a_ones a_others a_kinds a_persons a_gone a_at a_counts a_spots) (tyG cyI cyJ cyZ))) (qX8_day dC dI cyI cyJ cyZ h h_text h_many h_ones h_others h_kinds h_firsts h_persons h_gone h_at h_fines h_undos h_seenOf h_seenOpen h_path h_told h_counts h_spots h_far h_row h_begins h_ways h_next i_length i_keptMany i_undoMany i_seenMany i_pathMany i_place i_found i_walkers a_many a_ones a_others a_kinds a_persons a_gone a_at a_counts a_spots post (va_A (wX8_day cyI cyJ cyZ h h_text h_many h_ones h_others h_kinds h_firsts h_persons h_gone h_at h_fines h_undos h_seenOf h_seenOpen h_path h_told h_counts h_spots h_far h_row h_begins h_ways h_next i_length i_keptMany i_undoMany i_seenMany i_pathMany i_place i_found i_walkers a_many a_ones a_others a_kinds a_persons a_gone a_at a_counts a_spots) sz)) 0 0 (va_A (wX8_day cyI cyJ cyZ h h_text h_many h_ones h_others h_kinds h_firsts h_persons h_gone h_at h_fines h_undos h_seenOf h_seenOpen h_path h_told h_counts h_spots h_far h_row h_begins h_ways h_next i_length i_keptMany i_undoMany i_seenMany i_pathMany i_place i_found i_walkers a_many a_ones a_others a_kinds a_persons a_gone a_at a_counts a_spots) sz) := by
  refine Met.ofW (cc := cX8_day) (maxL := 11) (ret := some .int) (by decide) rfl ?_
  intro p e s m args below meth c s₁ B hml hv
  obtain ⟨rfl, hsz, hP, hK, hD0, hN⟩ := hv
  have hx := B.exec
  have hb := B.bytes
  have hr := B.returns
  have hts := atoms_spec (ws := wsX8_day) B.pre
  have hown : s.vm.findClass RX8 = some m.cls := findClass_of_methodNamed B.named
  have hlocks := B.notSynchronized
  subst hsz
  have hD := hD0.self (sz := s.heap.size)
  generalize hAe : va_A (wX8_day cyI cyJ cyZ h h_text h_many h_ones h_others h_kinds h_firsts h_persons h_gone h_at h_fines h_undos h_seenOf h_seenOpen h_path h_told h_counts h_spots h_far h_row h_begins h_ways h_next i_length i_keptMany i_undoMany i_seenMany i_pathMany i_place i_found i_walkers a_many a_ones a_others a_kinds a_persons a_gone a_at a_counts a_spots) s.heap.size = A at hD ⊢
  have hA : ∀ q : Nat, s.heap.size ≤ q → A q := fun q h => by rw [← hAe]; exact Or.inr h
  have hW : Wd (dC, dI) A s.heap (wX8_day cyI cyJ cyZ h h_text h_many h_ones h_others h_kinds h_firsts h_persons h_gone h_at h_fines h_undos h_seenOf h_seenOpen h_path h_told h_counts h_spots h_far h_row h_begins h_ways h_next i_length i_keptMany i_undoMany i_seenMany i_pathMany i_place i_found i_walkers a_many a_ones a_others a_kinds a_persons a_gone a_at a_counts a_spots) s.heap [] := ⟨hP, hD, va_S.rf⟩
  have hw := hwp
  have hiX8 : ∀ w ∈ u_ws RX8 TX8 30, w ∈ wsX8_day := fun _ h => List.mem_cons_of_mem _ (List.mem_append_right _ h)
  have k_0 := hts (.fieldLink RX8 58 "OddLetsInModel" "spots" "[I") (List.mem_of_getElem? (i := 8) rfl)
  have k_1 := hts (.constantLong RX8 215 (7919)) (List.mem_of_getElem? (i := 3) rfl)
  have k_2 := hts (.constantLong RX8 217 (6151)) (List.mem_of_getElem? (i := 4) rfl)
  have k_3 := hts (.constantLong RX8 219 (65521)) (List.mem_of_getElem? (i := 5) rfl)
  have k_4 := hts (.fieldLink RX8 28 "OddLetsInModel" "persons" "[I") (List.mem_of_getElem? (i := 6) rfl)
  have k_5 := hts (.fieldLink RX8 13 "OddLetsInModel" "many" "[I") (List.mem_of_getElem? (i := 7) rfl)
  have k_6 := hts (.fieldLink RX8 55 "OddLetsInModel" "counts" "[I") (List.mem_of_getElem? (i := 9) rfl)
  have k_7 := hts (.constantLong RX8 211 (9999)) (List.mem_of_getElem? (i := 1) rfl)
  have k_8 := hts (.constantLong RX8 213 (99)) (List.mem_of_getElem? (i := 2) rfl)
  have W_49 : ∀ (n_49 : Nat) (x4 : Int32) (x5 : Int32) (a_counts : Nat → Int32) (a_spots : Nat → Int32) (H : Heap) (locs : List Loc) (ls : Array Slot), Wd (dC, dI) A s.heap (wX8_day cyI cyJ cyZ h h_text h_many h_ones h_others h_kinds h_firsts h_persons h_gone h_at h_fines h_undos h_seenOf h_seenOpen h_path h_told h_counts h_spots h_far h_row h_begins h_ways h_next i_length i_keptMany i_undoMany i_seenMany i_pathMany i_place i_found i_walkers a_many a_ones a_others a_kinds a_persons a_gone a_at a_counts a_spots) H locs → lv_has ls 11 [(0, .ref h), (1, .int x1), (2, .int x2), (3, .int x3), (4, .int x4), (5, .int x5)] → PX8_day_49 post x1 x2 x3 a_many a_ones a_others a_kinds a_persons n_49 x4 x5 a_counts a_spots → W p l e (({ frames := 2, cells := 0, slots := 0, locals := 46 } : Room)) s m (([.ref h, .int x1, .int x2, .int x3] : List Value).toArray) below meth c H locs 0 0 (MQ below (qX8_day dC dI cyI cyJ cyZ h h_text h_many h_ones h_others h_kinds h_firsts h_persons h_gone h_at h_fines h_undos h_seenOf h_seenOpen h_path h_told h_counts h_spots h_far h_row h_begins h_ways h_next i_length i_keptMany i_undoMany i_seenMany i_pathMany i_place i_found i_walkers a_many a_ones a_others a_kinds a_persons a_gone a_at a_counts a_spots post A) (([.ref h, .int x1, .int x2, .int x3] : List Value).toArray) s 0 0 A) (F0 m 49 ls []) := by
    intro n_49
    induction n_49 with
    | zero =>
      intro x4 x5 a_counts a_spots H locs ls hW hl hw
      exact False.elim hw
    | succ n_49 ih_49 =>
      intro x4 x5 a_counts a_spots H locs ls hW hl hw
      refine lv_iload hx hb dX8_day_49 (lv_at hl 5 rfl) ?_
      refine lv_iload_n hx hb dX8_day_51 rfl (lv_at hl 2 rfl) ?_
      refine lv_icmp_ge (tgt := 166) hx hb dX8_day_52 (by decide) (fun c_1 => ?_) (fun c_1 => ?_)
      · replace hw := hw.1 c_1
        refine lv_iload_n hx hb dX8_day_166 rfl (lv_at hl 3 rfl) ?_
        refine lv_if_ge (tgt := 175) hx hb dX8_day_167 (by decide) (fun c_2 => ?_) (fun c_2 => ?_)
        · replace hw := hw.1 c_2
          refine lv_aload_n hx hb dX8_day_175 rfl (lv_at hl 0 rfl) ?_
          refine zw_get (ci := 8) (C := RX8) (T := TX8) (N := 30) (v := .ref h_spots) hx hb hts hiX8 hown hK hW 0 rfl rfl 22 (by decide) rfl k_0 dX8_day_176 ?_
          refine lv_iload_n hx hb dX8_day_179 rfl (lv_at hl 3 rfl) ?_
          refine zw_iald hx hb hK hW 9 rfl rfl hw.1 dX8_day_180 ?_
          replace hw := hw.2
          refine zw_iret (S := (Nat → Int32) × (Nat → Int32)) (post := fun r u => post r u.1 u.2) (a_counts, a_spots) hx hb hr hlocks hK hW hw ?_ dX8_day_181
          rfl
        · replace hw := hw.2 c_2
          refine lv_iload hx hb dX8_day_170 (lv_at hl 4 rfl) ?_
          refine lv_goto (tgt := 181) hx hb dX8_day_172 (by decide) ?_
          refine zw_iret (S := (Nat → Int32) × (Nat → Int32)) (post := fun r u => post r u.1 u.2) (a_counts, a_spots) hx hb hr hlocks hK hW hw ?_ dX8_day_181
          rfl
      · replace hw := hw.2 c_1
        refine lv_ldc2 hx hb hown k_1 dX8_day_55 ?_
        refine lv_iload_n hx hb dX8_day_58 rfl (lv_at hl 1 rfl) ?_
        refine lv_i2l hx hb dX8_day_59 rfl ?_
        refine lv_lmul hx hb dX8_day_60 ?_
        refine lv_ldc2 hx hb hown k_2 dX8_day_61 ?_
        refine lv_iload hx hb dX8_day_64 (lv_at hl 5 rfl) ?_
        refine lv_i2l hx hb dX8_day_66 rfl ?_
        refine lv_lmul hx hb dX8_day_67 ?_
        refine lv_ladd hx hb dX8_day_68 ?_
        refine lv_lconst (v := 1) hx hb dX8_day_69 (by decide) ?_
        refine lv_ladd hx hb dX8_day_70 ?_
        refine lv_topl (fun x6_3 ex6_3 => ?_)
        replace hw := hw x6_3 ex6_3
        refine lv_lstore (lv' := [(6, .long x6_3), (0, .ref h), (1, .int x1), (2, .int x2), (3, .int x3), (4, .int x4), (5, .int x5)]) hx hb dX8_day_71 hl (by decide) rfl (fun ls hl => ?_)
        refine lv_lload hx hb dX8_day_73 (lv_at hl 0 rfl) ?_
        refine lv_lload hx hb dX8_day_75 (lv_at hl 0 rfl) ?_
        refine lv_lmul hx hb dX8_day_77 ?_
        refine lv_ldc2 hx hb hown k_3 dX8_day_78 ?_
        refine lv_lrem hx hb dX8_day_81 (by decide) ?_
        refine lv_l2i hx hb dX8_day_82 rfl ?_
        refine lv_topi (fun x8_4 ex8_4 => ?_)
        replace hw := hw x8_4 ex8_4
        refine lv_istore (lv' := [(8, .int x8_4), (6, .long x6_3), (0, .ref h), (1, .int x1), (2, .int x2), (3, .int x3), (4, .int x4), (5, .int x5)]) hx hb dX8_day_83 hl (by decide) rfl (fun ls hl => ?_)
        refine lv_iload hx hb dX8_day_85 (lv_at hl 0 rfl) ?_
        refine lv_aload_n hx hb dX8_day_87 rfl (lv_at hl 2 rfl) ?_
        refine zw_get (ci := 8) (C := RX8) (T := TX8) (N := 30) (v := .ref h_persons) hx hb hts hiX8 hown hK hW 0 rfl rfl 7 (by decide) rfl k_4 dX8_day_88 ?_
        refine lv_iconst (v := 0) hx hb dX8_day_91 (by decide) ?_
        refine zw_iald hx hb hK hW 5 rfl rfl hw.1 dX8_day_92 ?_
        replace hw := hw.2
        refine lv_irem hx hb dX8_day_93 hw.1 ?_
        replace hw := hw.2
        refine lv_topi (fun x9_5 ex9_5 => ?_)
        replace hw := hw x9_5 ex9_5
        refine lv_istore (lv' := [(9, .int x9_5), (8, .int x8_4), (6, .long x6_3), (0, .ref h), (1, .int x1), (2, .int x2), (3, .int x3), (4, .int x4), (5, .int x5)]) hx hb dX8_day_94 hl (by decide) rfl (fun ls hl => ?_)
        refine lv_iload hx hb dX8_day_96 (lv_at hl 1 rfl) ?_
        refine lv_bipush (v := 8) hx hb dX8_day_98 (by decide) ?_
        refine lv_idiv hx hb dX8_day_100 (by decide) ?_
        refine lv_aload_n hx hb dX8_day_101 rfl (lv_at hl 3 rfl) ?_
        refine zw_get (ci := 8) (C := RX8) (T := TX8) (N := 30) (v := .ref h_many) hx hb hts hiX8 hown hK hW 0 rfl rfl 2 (by decide) rfl k_5 dX8_day_102 ?_
        refine lv_iconst (v := 0) hx hb dX8_day_105 (by decide) ?_
        refine zw_iald hx hb hK hW 1 rfl rfl hw.1 dX8_day_106 ?_
        replace hw := hw.2
        refine lv_irem hx hb dX8_day_107 hw.1 ?_
        replace hw := hw.2
        refine lv_topi (fun x10_6 ex10_6 => ?_)
        replace hw := hw x10_6 ex10_6
        refine lv_istore (lv' := [(10, .int x10_6), (9, .int x9_5), (8, .int x8_4), (6, .long x6_3), (0, .ref h), (1, .int x1), (2, .int x2), (3, .int x3), (4, .int x4), (5, .int x5)]) hx hb dX8_day_108 hl (by decide) rfl (fun ls hl => ?_)
        refine lv_aload_n hx hb dX8_day_110 rfl (lv_at hl 4 rfl) ?_
        refine lv_aload_n hx hb dX8_day_111 rfl (lv_at hl 4 rfl) ?_
        refine zw_get (ci := 8) (C := RX8) (T := TX8) (N := 30) (v := .ref h_spots) hx hb hts hiX8 hown hK hW 0 rfl rfl 22 (by decide) rfl k_0 dX8_day_112 ?_
        refine lv_iload hx hb dX8_day_115 (lv_at hl 1 rfl) ?_
        refine zw_iald hx hb hK hW 9 rfl rfl hw.1 dX8_day_117 ?_
        replace hw := hw.2
        refine lv_iload hx hb dX8_day_118 (lv_at hl 0 rfl) ?_
        refine zw_Vi ⟨hx, hb, hml, hown, hts⟩ hK hN hA hW 0 rfl (T := TX8) (N := 30) rfl [.int (a_spots (x9_5).toNatClampNeg), .int x10_6] [] [0, 2, 3, 4, 8] [1, 5, 6, 7, 9] [5, 0, 6, 7, 8, 1, 2, 3, 9, 4] (fun _ => (wX8_day cyI cyJ cyZ h h_text h_many h_ones h_others h_kinds h_firsts h_persons h_gone h_at h_fines h_undos h_seenOf h_seenOpen h_path h_told h_counts h_spots h_far h_row h_begins h_ways h_next i_length i_keptMany i_undoMany i_seenMany i_pathMany i_place i_found i_walkers a_many a_ones a_others a_kinds a_persons a_gone a_at a_counts a_spots)) (mX8_canPass l dC dI cyI cyJ cyZ h h_text h_many h_ones h_others h_kinds h_firsts h_persons h_gone h_at h_fines h_undos h_seenOf h_seenOpen h_path h_told h_counts h_spots h_far h_row h_begins h_ways h_next _ i_length i_keptMany i_undoMany i_seenMany i_pathMany i_place i_found i_walkers a_ones a_others a_kinds a_counts (a_spots (x9_5).toNatClampNeg) x10_6 _ hw) (cwV 2 hts gX8_day_X8_canPass rfl rfl rfl (by decide +kernel) ⟨Nat.le_of_ble_eq_true rfl, Nat.le_of_ble_eq_true rfl⟩) rfl rfl rfl rfl (by decide) rfl (fun _ => rfl) rfl hl.1 rfl (Nat.le_of_ble_eq_true rfl) (Nat.le_of_ble_eq_true rfl) (Nat.le_of_ble_eq_true rfl) dX8_day_120 (fun r_7 u H locs hw hW => ?_)
        obtain ⟨br_7, hw⟩ := hw
        refine lv_if_eq (tgt := 160) hx hb dX8_day_123 (by decide) (fun c_8 => ?_) (fun c_8 => ?_)
        · replace hw := hw.1 c_8
          obtain ⟨x5_9, ex5_9⟩ : ∃ y : Int32, y = x5 + 1 := ⟨_, rfl⟩
          replace hw := hw x5_9 ex5_9
          refine lv_iinc (v := x5_9) (lv' := [(5, .int x5_9), (10, .int x10_6), (9, .int x9_5), (8, .int x8_4), (6, .long x6_3), (0, .ref h), (1, .int x1), (2, .int x2), (3, .int x3), (4, .int x4)]) hx hb dX8_day_160 hl (k := 9) rfl (by rw [ex5_9]; rfl) (by decide) rfl (fun ls hl => ?_)
          refine lv_goto (tgt := 49) hx hb dX8_day_163 (by decide) ?_
          exact ih_49 x4 x5_9 a_counts a_spots _ _ _ hW (lv_sub hl [5, 6, 7, 8, 9, 0] rfl) hw
        · replace hw := hw.2 c_8
          refine lv_aload_n hx hb dX8_day_126 rfl (lv_at hl 4 rfl) ?_
          refine zw_get (ci := 8) (C := RX8) (T := TX8) (N := 30) (v := .ref h_counts) hx hb hts hiX8 hown hK hW 0 rfl rfl 21 (by decide) rfl k_6 dX8_day_127 ?_
          refine lv_iload hx hb dX8_day_130 (lv_at hl 0 rfl) ?_
          refine lv_dup2_11 hx hb dX8_day_132 rfl rfl ?_
          refine zw_iald hx hb hK hW 8 rfl rfl hw.1 dX8_day_133 ?_
          replace hw := hw.2
          refine lv_iconst (v := 1) hx hb dX8_day_134 (by decide) ?_
          refine lv_iadd hx hb dX8_day_135 ?_
          refine lv_topi (fun t_10 et_10 => ?_)
          replace hw := hw t_10 et_10
          refine zw_iast hx hb hK hW 8 rfl rfl hw.1 (w2 := fun a_counts_11 => (wX8_day cyI cyJ cyZ h h_text h_many h_ones h_others h_kinds h_firsts h_persons h_gone h_at h_fines h_undos h_seenOf h_seenOpen h_path h_told h_counts h_spots h_far h_row h_begins h_ways h_next i_length i_keptMany i_undoMany i_seenMany i_pathMany i_place i_found i_walkers a_many a_ones a_others a_kinds a_persons a_gone a_at a_counts_11 a_spots)) (fun _ => rfl) dX8_day_136 (fun a_counts_11 H locs ea_counts_11 hW => ?_)
          replace hw := hw.2 a_counts_11 ea_counts_11
          refine lv_aload_n hx hb dX8_day_137 rfl (lv_at hl 4 rfl) ?_
          refine zw_get (ci := 8) (C := RX8) (T := TX8) (N := 30) (v := .ref h_spots) hx hb hts hiX8 hown hK hW 0 rfl rfl 22 (by decide) rfl k_0 dX8_day_138 ?_
          refine lv_iload hx hb dX8_day_141 (lv_at hl 1 rfl) ?_
          refine lv_aload_n hx hb dX8_day_143 rfl (lv_at hl 4 rfl) ?_
          refine lv_iload hx hb dX8_day_144 (lv_at hl 0 rfl) ?_
          refine lv_aload_n hx hb dX8_day_146 rfl (lv_at hl 4 rfl) ?_
          refine zw_get (ci := 8) (C := RX8) (T := TX8) (N := 30) (v := .ref h_spots) hx hb hts hiX8 hown hK hW 0 rfl rfl 22 (by decide) rfl k_0 dX8_day_147 ?_
          refine lv_iload hx hb dX8_day_150 (lv_at hl 1 rfl) ?_
          refine zw_iald hx hb hK hW 9 rfl rfl hw.1 dX8_day_152 ?_
          replace hw := hw.2
          refine zw_Vi ⟨hx, hb, hml, hown, hts⟩ hK hN hA hW 0 rfl (T := TX8) (N := 30) rfl [.int x10_6, .int (a_spots (x9_5).toNatClampNeg)] [.int x9_5, .ref h_spots] [0, 2, 3] [1, 4, 5, 6, 7, 8, 9] [7, 0, 8, 9, 1, 2, 3, 4, 5, 6] (fun _ => (wX8_day cyI cyJ cyZ h h_text h_many h_ones h_others h_kinds h_firsts h_persons h_gone h_at h_fines h_undos h_seenOf h_seenOpen h_path h_told h_counts h_spots h_far h_row h_begins h_ways h_next i_length i_keptMany i_undoMany i_seenMany i_pathMany i_place i_found i_walkers a_many a_ones a_others a_kinds a_persons a_gone a_at a_counts_11 a_spots)) (mX8_beyond l dC dI cyI cyJ cyZ h h_text h_many h_ones h_others h_kinds h_firsts h_persons h_gone h_at h_fines h_undos h_seenOf h_seenOpen h_path h_told h_counts h_spots h_far h_row h_begins h_ways h_next _ i_length i_keptMany i_undoMany i_seenMany i_pathMany i_place i_found i_walkers a_ones a_others x10_6 (a_spots (x9_5).toNatClampNeg) _ hw) (cwV 2 hts gX8_day_X8_beyond rfl rfl rfl (by decide +kernel) ⟨Nat.le_of_ble_eq_true rfl, Nat.le_of_ble_eq_true rfl⟩) rfl rfl rfl rfl (by decide) rfl (fun _ => rfl) rfl hl.1 rfl (Nat.le_of_ble_eq_true rfl) (Nat.le_of_ble_eq_true rfl) (Nat.le_of_ble_eq_true rfl) dX8_day_153 (fun r_12 u H locs hw hW => ?_)
          refine zw_iast hx hb hK hW 9 rfl rfl hw.1 (w2 := fun a_spots_13 => (wX8_day cyI cyJ cyZ h h_text h_many h_ones h_others h_kinds h_firsts h_persons h_gone h_at h_fines h_undos h_seenOf h_seenOpen h_path h_told h_counts h_spots h_far h_row h_begins h_ways h_next i_length i_keptMany i_undoMany i_seenMany i_pathMany i_place i_found i_walkers a_many a_ones a_others a_kinds a_persons a_gone a_at a_counts_11 a_spots_13)) (fun _ => rfl) dX8_day_156 (fun a_spots_13 H locs ea_spots_13 hW => ?_)
          replace hw := hw.2 a_spots_13 ea_spots_13
          obtain ⟨x4_14, ex4_14⟩ : ∃ y : Int32, y = x4 + 1 := ⟨_, rfl⟩
          replace hw := hw x4_14 ex4_14
          refine lv_iinc (v := x4_14) (lv' := [(4, .int x4_14), (10, .int x10_6), (9, .int x9_5), (8, .int x8_4), (6, .long x6_3), (0, .ref h), (1, .int x1), (2, .int x2), (3, .int x3), (5, .int x5)]) hx hb dX8_day_157 hl (k := 8) rfl (by rw [ex4_14]; rfl) (by decide) rfl (fun ls hl => ?_)
          obtain ⟨x5_15, ex5_15⟩ : ∃ y : Int32, y = x5 + 1 := ⟨_, rfl⟩
          replace hw := hw x5_15 ex5_15
          refine lv_iinc (v := x5_15) (lv' := [(5, .int x5_15), (4, .int x4_14), (10, .int x10_6), (9, .int x9_5), (8, .int x8_4), (6, .long x6_3), (0, .ref h), (1, .int x1), (2, .int x2), (3, .int x3)]) hx hb dX8_day_160 hl (k := 9) rfl (by rw [ex5_15]; rfl) (by decide) rfl (fun ls hl => ?_)
          refine lv_goto (tgt := 49) hx hb dX8_day_163 (by decide) ?_
          exact ih_49 x4_14 x5_15 a_counts_11 a_spots_13 _ _ _ hW (lv_sub hl [6, 7, 8, 9, 1, 0] rfl) hw
  have hl := lv_entry ([.ref h, .int x1, .int x2, .int x3]) (n := 11) (Nat.le_of_ble_eq_true rfl)
  rw [lg_entry_eq]
  generalize (lg_sl ([.ref h, .int x1, .int x2, .int x3]) ++ List.replicate (11 - (lg_sl ([.ref h, .int x1, .int x2, .int x3])).length) Slot.unset).toArray = ls at hl ⊢
  have hl : lv_has ls 11 [(0, .ref h), (1, .int x1), (2, .int x2), (3, .int x3)] := hl
  refine lv_iload_n hx hb dX8_day_0 rfl (lv_at hl 1 rfl) ?_
  refine lv_i2l hx hb dX8_day_1 rfl ?_
  refine lv_lconst (v := 0) hx hb dX8_day_2 (by decide) ?_
  refine lv_ldc2 hx hb hown k_7 dX8_day_3 ?_
  refine zw_Si ⟨hx, hb, hml, hown, hts⟩ hK hN hA hW [.long ((x1).toInt64), .long 0, .long 9999] [] [] [0, 1, 2, 3, 4, 5, 6, 7, 8, 9] [0, 1, 2, 3, 4, 5, 6, 7, 8, 9] (fun _ => (wX8_day cyI cyJ cyZ h h_text h_many h_ones h_others h_kinds h_firsts h_persons h_gone h_at h_fines h_undos h_seenOf h_seenOpen h_path h_told h_counts h_spots h_far h_row h_begins h_ways h_next i_length i_keptMany i_undoMany i_seenMany i_pathMany i_place i_found i_walkers a_many a_ones a_others a_kinds a_persons a_gone a_at a_counts a_spots)) (mX8_in l dC dI cyI cyJ cyZ _ ((x1).toInt64) 0 9999 _ hw) (va_cwS 3 hts gX8_day_X8_in rfl rfl rfl (by decide +kernel) ⟨Nat.le_of_ble_eq_true rfl, Nat.le_of_ble_eq_true rfl⟩) rfl rfl rfl rfl (by decide) rfl (fun _ => rfl) rfl hl.1 rfl (Nat.le_of_ble_eq_true rfl) (Nat.le_of_ble_eq_true rfl) (Nat.le_of_ble_eq_true rfl) dX8_day_6 (fun r_16 u H locs hw hW => ?_)
  obtain ⟨br_16, hw⟩ := hw
  refine lv_if_eq (tgt := 37) hx hb dX8_day_9 (by decide) (fun c_17 => ?_) (fun c_17 => ?_)
  · replace hw := hw.1 c_17
    refine lv_iconst (v := (-1)) hx hb dX8_day_37 (by decide) ?_
    refine zw_iret (S := (Nat → Int32) × (Nat → Int32)) (post := fun r u => post r u.1 u.2) (a_counts, a_spots) hx hb hr hlocks hK hW hw ?_ dX8_day_38
    rfl
  · replace hw := hw.2 c_17
    refine lv_iload_n hx hb dX8_day_12 rfl (lv_at hl 2 rfl) ?_
    refine lv_i2l hx hb dX8_day_13 rfl ?_
    refine lv_lconst (v := 1) hx hb dX8_day_14 (by decide) ?_
    refine lv_ldc2 hx hb hown k_8 dX8_day_15 ?_
    refine zw_Si ⟨hx, hb, hml, hown, hts⟩ hK hN hA hW [.long ((x2).toInt64), .long 1, .long 99] [] [] [0, 1, 2, 3, 4, 5, 6, 7, 8, 9] [0, 1, 2, 3, 4, 5, 6, 7, 8, 9] (fun _ => (wX8_day cyI cyJ cyZ h h_text h_many h_ones h_others h_kinds h_firsts h_persons h_gone h_at h_fines h_undos h_seenOf h_seenOpen h_path h_told h_counts h_spots h_far h_row h_begins h_ways h_next i_length i_keptMany i_undoMany i_seenMany i_pathMany i_place i_found i_walkers a_many a_ones a_others a_kinds a_persons a_gone a_at a_counts a_spots)) (mX8_in l dC dI cyI cyJ cyZ _ ((x2).toInt64) 1 99 _ hw) (va_cwS 3 hts gX8_day_X8_in rfl rfl rfl (by decide +kernel) ⟨Nat.le_of_ble_eq_true rfl, Nat.le_of_ble_eq_true rfl⟩) rfl rfl rfl rfl (by decide) rfl (fun _ => rfl) rfl hl.1 rfl (Nat.le_of_ble_eq_true rfl) (Nat.le_of_ble_eq_true rfl) (Nat.le_of_ble_eq_true rfl) dX8_day_18 (fun r_18 u H locs hw hW => ?_)
    obtain ⟨br_18, hw⟩ := hw
    refine lv_if_eq (tgt := 37) hx hb dX8_day_21 (by decide) (fun c_19 => ?_) (fun c_19 => ?_)
    · replace hw := hw.1 c_19
      refine lv_iconst (v := (-1)) hx hb dX8_day_37 (by decide) ?_
      refine zw_iret (S := (Nat → Int32) × (Nat → Int32)) (post := fun r u => post r u.1 u.2) (a_counts, a_spots) hx hb hr hlocks hK hW hw ?_ dX8_day_38
      rfl
    · replace hw := hw.2 c_19
      refine lv_iload_n hx hb dX8_day_24 rfl (lv_at hl 3 rfl) ?_
      refine lv_iconst (v := (-1)) hx hb dX8_day_25 (by decide) ?_
      refine lv_icmp_eq (tgt := 39) hx hb dX8_day_26 (by decide) (fun c_20 => ?_) (fun c_20 => ?_)
      · replace hw := hw.1 c_20
        refine lv_aload_n hx hb dX8_day_39 rfl (lv_at hl 0 rfl) ?_
        refine zw_Vv ⟨hx, hb, hml, hown, hts⟩ hK hN hA hW 0 rfl (T := TX8) (N := 30) rfl [] [] [0, 6, 7, 8, 9] [1, 2, 3, 4, 5] [5, 0, 1, 2, 3, 4, 6, 7, 8, 9] (fun u => (wX8_day cyI cyJ cyZ h h_text h_many h_ones h_others h_kinds h_firsts h_persons h_gone h_at h_fines h_undos h_seenOf h_seenOpen h_path h_told h_counts h_spots h_far h_row h_begins h_ways h_next i_length i_keptMany i_undoMany i_seenMany i_pathMany i_place i_found i_walkers a_many a_ones a_others a_kinds a_persons a_gone a_at (u.1) (u.2))) (mX8_layNow l dC dI cyI cyJ cyZ h h_text h_many h_ones h_others h_kinds h_firsts h_persons h_gone h_at h_fines h_undos h_seenOf h_seenOpen h_path h_told h_counts h_spots h_far h_row h_begins h_ways h_next _ i_length i_keptMany i_undoMany i_seenMany i_pathMany i_place i_found i_walkers a_gone a_at a_counts a_spots _ hw) (cwV 0 hts gX8_day_X8_layNow rfl rfl rfl (by decide +kernel) ⟨Nat.le_of_ble_eq_true rfl, Nat.le_of_ble_eq_true rfl⟩) rfl rfl rfl rfl (by decide) rfl (fun _ => rfl) rfl hl.1 rfl (Nat.le_of_ble_eq_true rfl) (Nat.le_of_ble_eq_true rfl) (Nat.le_of_ble_eq_true rfl) dX8_day_40 (fun u H locs hw hW => ?_)
        obtain ⟨a_counts_21, a_spots_22⟩ := u
        try dsimp only at hw
        replace hW : Wd (dC, dI) A s.heap (wX8_day cyI cyJ cyZ h h_text h_many h_ones h_others h_kinds h_firsts h_persons h_gone h_at h_fines h_undos h_seenOf h_seenOpen h_path h_told h_counts h_spots h_far h_row h_begins h_ways h_next i_length i_keptMany i_undoMany i_seenMany i_pathMany i_place i_found i_walkers a_many a_ones a_others a_kinds a_persons a_gone a_at a_counts_21 a_spots_22) H locs := hW
        refine lv_iconst (v := 0) hx hb dX8_day_43 (by decide) ?_
        refine lv_istore (lv' := [(4, .int 0), (0, .ref h), (1, .int x1), (2, .int x2), (3, .int x3)]) hx hb dX8_day_44 hl (by decide) rfl (fun ls hl => ?_)
        refine lv_iconst (v := 0) hx hb dX8_day_46 (by decide) ?_
        refine lv_istore (lv' := [(5, .int 0), (4, .int 0), (0, .ref h), (1, .int x1), (2, .int x2), (3, .int x3)]) hx hb dX8_day_47 hl (by decide) rfl (fun ls hl => ?_)
        obtain ⟨n_49, hw⟩ := hw
        exact W_49  n_49 0 0 a_counts_21 a_spots_22 _ _ _ hW (lv_sub hl [2, 3, 4, 5, 1, 0] rfl) hw
      · replace hw := hw.2 c_20
        refine lv_aload_n hx hb dX8_day_29 rfl (lv_at hl 0 rfl) ?_
        refine lv_iload_n hx hb dX8_day_30 rfl (lv_at hl 3 rfl) ?_
        refine zw_Vi ⟨hx, hb, hml, hown, hts⟩ hK hN hA hW 0 rfl (T := TX8) (N := 30) rfl [.int x3] [] [0, 5] [1, 2, 3, 4, 6, 7, 8, 9] [8, 0, 1, 2, 3, 9, 4, 5, 6, 7] (fun _ => (wX8_day cyI cyJ cyZ h h_text h_many h_ones h_others h_kinds h_firsts h_persons h_gone h_at h_fines h_undos h_seenOf h_seenOpen h_path h_told h_counts h_spots h_far h_row h_begins h_ways h_next i_length i_keptMany i_undoMany i_seenMany i_pathMany i_place i_found i_walkers a_many a_ones a_others a_kinds a_persons a_gone a_at a_counts a_spots)) (mX8_isPerson l dC dI cyI cyJ cyZ h h_text h_many h_ones h_others h_kinds h_firsts h_persons h_gone h_at h_fines h_undos h_seenOf h_seenOpen h_path h_told h_counts h_spots h_far h_row h_begins h_ways h_next _ i_length i_keptMany i_undoMany i_seenMany i_pathMany i_place i_found i_walkers a_persons x3 _ hw) (cwV 1 hts gX8_day_X8_isPerson rfl rfl rfl (by decide +kernel) ⟨Nat.le_of_ble_eq_true rfl, Nat.le_of_ble_eq_true rfl⟩) rfl rfl rfl rfl (by decide) rfl (fun _ => rfl) rfl hl.1 rfl (Nat.le_of_ble_eq_true rfl) (Nat.le_of_ble_eq_true rfl) (Nat.le_of_ble_eq_true rfl) dX8_day_31 (fun r_23 u H locs hw hW => ?_)
        obtain ⟨br_23, hw⟩ := hw
        refine lv_if_ne (tgt := 39) hx hb dX8_day_34 (by decide) (fun c_24 => ?_) (fun c_24 => ?_)
        · replace hw := hw.2 c_24
          refine lv_aload_n hx hb dX8_day_39 rfl (lv_at hl 0 rfl) ?_
          refine zw_Vv ⟨hx, hb, hml, hown, hts⟩ hK hN hA hW 0 rfl (T := TX8) (N := 30) rfl [] [] [0, 6, 7, 8, 9] [1, 2, 3, 4, 5] [5, 0, 1, 2, 3, 4, 6, 7, 8, 9] (fun u => (wX8_day cyI cyJ cyZ h h_text h_many h_ones h_others h_kinds h_firsts h_persons h_gone h_at h_fines h_undos h_seenOf h_seenOpen h_path h_told h_counts h_spots h_far h_row h_begins h_ways h_next i_length i_keptMany i_undoMany i_seenMany i_pathMany i_place i_found i_walkers a_many a_ones a_others a_kinds a_persons a_gone a_at (u.1) (u.2))) (mX8_layNow l dC dI cyI cyJ cyZ h h_text h_many h_ones h_others h_kinds h_firsts h_persons h_gone h_at h_fines h_undos h_seenOf h_seenOpen h_path h_told h_counts h_spots h_far h_row h_begins h_ways h_next _ i_length i_keptMany i_undoMany i_seenMany i_pathMany i_place i_found i_walkers a_gone a_at a_counts a_spots _ hw) (cwV 0 hts gX8_day_X8_layNow rfl rfl rfl (by decide +kernel) ⟨Nat.le_of_ble_eq_true rfl, Nat.le_of_ble_eq_true rfl⟩) rfl rfl rfl rfl (by decide) rfl (fun _ => rfl) rfl hl.1 rfl (Nat.le_of_ble_eq_true rfl) (Nat.le_of_ble_eq_true rfl) (Nat.le_of_ble_eq_true rfl) dX8_day_40 (fun u H locs hw hW => ?_)
          obtain ⟨a_counts_25, a_spots_26⟩ := u
          try dsimp only at hw
          replace hW : Wd (dC, dI) A s.heap (wX8_day cyI cyJ cyZ h h_text h_many h_ones h_others h_kinds h_firsts h_persons h_gone h_at h_fines h_undos h_seenOf h_seenOpen h_path h_told h_counts h_spots h_far h_row h_begins h_ways h_next i_length i_keptMany i_undoMany i_seenMany i_pathMany i_place i_found i_walkers a_many a_ones a_others a_kinds a_persons a_gone a_at a_counts_25 a_spots_26) H locs := hW
          refine lv_iconst (v := 0) hx hb dX8_day_43 (by decide) ?_
          refine lv_istore (lv' := [(4, .int 0), (0, .ref h), (1, .int x1), (2, .int x2), (3, .int x3)]) hx hb dX8_day_44 hl (by decide) rfl (fun ls hl => ?_)
          refine lv_iconst (v := 0) hx hb dX8_day_46 (by decide) ?_
          refine lv_istore (lv' := [(5, .int 0), (4, .int 0), (0, .ref h), (1, .int x1), (2, .int x2), (3, .int x3)]) hx hb dX8_day_47 hl (by decide) rfl (fun ls hl => ?_)
          obtain ⟨n_49, hw⟩ := hw
          exact W_49  n_49 0 0 a_counts_25 a_spots_26 _ _ _ hW (lv_sub hl [2, 3, 4, 5, 1, 0] rfl) hw
        · replace hw := hw.1 c_24
          refine lv_iconst (v := (-1)) hx hb dX8_day_37 (by decide) ?_
          refine zw_iret (S := (Nat → Int32) × (Nat → Int32)) (post := fun r u => post r u.1 u.2) (a_counts, a_spots) hx hb hr hlocks hK hW hw ?_ dX8_day_38
          rfl
abbrev wX8_copy (cyI cyJ cyZ : ClassId) (h h_text h_many h_ones h_others h_kinds h_firsts h_persons h_gone h_at h_fines h_undos h_seenOf h_seenOpen h_path h_told h_counts h_spots h_far h_row h_begins h_ways h_next : Nat) (i_length : Int32) (i_keptMany : Int32) (i_undoMany : Int32) (i_seenMany : Int32) (i_pathMany : Int32) (i_place : Int32) (i_found : Int32) (i_walkers : Int32) (a_gone : Nat → Int32) (a_at : Nat → Int32) (a_fines : Nat → Int32) : va_W := [(h, .inr (8, [.int i_length, .ref h_text, .ref h_many, .ref h_ones, .ref h_others, .ref h_kinds, .ref h_firsts, .ref h_persons, .ref h_gone, .ref h_at, .ref h_fines, .int i_keptMany, .int i_undoMany, .ref h_undos, .int i_seenMany, .ref h_seenOf, .ref h_seenOpen, .int i_pathMany, .ref h_path, .int i_place, .ref h_told, .ref h_counts, .ref h_spots, .ref h_far, .ref h_row, .ref h_begins, .int i_found, .int i_walkers, .ref h_ways, .ref h_next])), (h_gone, .inl (cyI, 15, .inl a_gone)), (h_at, .inl (cyI, 9, .inl a_at)), (h_fines, .inl (cyI, 3, .inl a_fines))]
abbrev qX8_copy (dC : Nat → ClassId) (dI : Nat → Nat → Nat) (cyI cyJ cyZ : ClassId) (h h_text h_many h_ones h_others h_kinds h_firsts h_persons h_gone h_at h_fines h_undos h_seenOf h_seenOpen h_path h_told h_counts h_spots h_far h_row h_begins h_ways h_next : Nat) (i_length : Int32) (i_keptMany : Int32) (i_undoMany : Int32) (i_seenMany : Int32) (i_pathMany : Int32) (i_place : Int32) (i_found : Int32) (i_walkers : Int32) (a_gone : Nat → Int32) (a_at : Nat → Int32) (a_fines : Nat → Int32) (post : (Nat → Int32) → (Nat → Int32) → (Nat → Int32) → Prop) (A : Nat → Prop) : Array Value → State → Outcome → State → Prop := (va_Qv (fun (u : (Nat → Int32) × (Nat → Int32) × (Nat → Int32)) => post u.1 u.2.1 u.2.2) (bW (dC, dI) (tyG cyI cyJ cyZ) A (fun u : (Nat → Int32) × (Nat → Int32) × (Nat → Int32) => (wX8_copy cyI cyJ cyZ h h_text h_many h_ones h_others h_kinds h_firsts h_persons h_gone h_at h_fines h_undos h_seenOf h_seenOpen h_path h_told h_counts h_spots h_far h_row h_begins h_ways h_next i_length i_keptMany i_undoMany i_seenMany i_pathMany i_place i_found i_walkers (u.1) (u.2.1) (u.2.2)))) A)
set_option maxHeartbeats 4000000 in
set_option maxRecDepth 100000 in
theorem mX8_copy (l : Launch) (dC : Nat → ClassId) (dI : Nat → Nat → Nat) (cyI cyJ cyZ : ClassId) (h h_text h_many h_ones h_others h_kinds h_firsts h_persons h_gone h_at h_fines h_undos h_seenOf h_seenOpen h_path h_told h_counts h_spots h_far h_row h_begins h_ways h_next : Nat) (sz : Nat) (i_length : Int32) (i_keptMany : Int32) (i_undoMany : Int32) (i_seenMany : Int32) (i_pathMany : Int32) (i_place : Int32) (i_found : Int32) (i_walkers : Int32) (a_gone : Nat → Int32) (a_at : Nat → Int32) (a_fines : Nat → Int32) (x1 : Int32) (x2 : Int32) (post : (Nat → Int32) → (Nat → Int32) → (Nat → Int32) → Prop) (hwp : PX8_copy x1 x2 a_gone a_at a_fines post) : Met l yX8_copy wsX8_copy ({ frames := 0, cells := 0, slots := 0, locals := 0 } : Room) (va_Pc [.ref h, .int x1, .int x2] (pcW (dC, dI) sz (wX8_copy cyI cyJ cyZ h h_text h_many h_ones h_others h_kinds h_firsts h_persons h_gone h_at h_fines h_undos h_seenOf h_seenOpen h_path h_told h_counts h_spots h_far h_row h_begins h_ways h_next i_length i_keptMany i_undoMany i_seenMany i_pathMany i_place i_found i_walkers a_gone a_at a_fines) (tyG cyI cyJ cyZ))) (qX8_copy dC dI cyI cyJ cyZ h h_text h_many h_ones h_others h_kinds h_firsts h_persons h_gone h_at h_fines h_undos h_seenOf h_seenOpen h_path h_told h_counts h_spots h_far h_row h_begins h_ways h_next i_length i_keptMany i_undoMany i_seenMany i_pathMany i_place i_found i_walkers a_gone a_at a_fines post (va_A (wX8_copy cyI cyJ cyZ h h_text h_many h_ones h_others h_kinds h_firsts h_persons h_gone h_at h_fines h_undos h_seenOf h_seenOpen h_path h_told h_counts h_spots h_far h_row h_begins h_ways h_next i_length i_keptMany i_undoMany i_seenMany i_pathMany i_place i_found i_walkers a_gone a_at a_fines) sz)) 0 0 (va_A (wX8_copy cyI cyJ cyZ h h_text h_many h_ones h_others h_kinds h_firsts h_persons h_gone h_at h_fines h_undos h_seenOf h_seenOpen h_path h_told h_counts h_spots h_far h_row h_begins h_ways h_next i_length i_keptMany i_undoMany i_seenMany i_pathMany i_place i_found i_walkers a_gone a_at a_fines) sz) := by
  refine Met.ofW (cc := cX8_copy) (maxL := 4) (ret := none) (by decide) rfl ?_
  intro p e s m args below meth c s₁ B hml hv
  obtain ⟨rfl, hsz, hP, hK, hD0, hN⟩ := hv
  have hx := B.exec
  have hb := B.bytes
  have hr := B.returns
  have hts := atoms_spec (ws := wsX8_copy) B.pre
  have hown : s.vm.findClass RX8 = some m.cls := findClass_of_methodNamed B.named
  have hlocks := B.notSynchronized
  subst hsz
  have hD := hD0.self (sz := s.heap.size)
  generalize hAe : va_A (wX8_copy cyI cyJ cyZ h h_text h_many h_ones h_others h_kinds h_firsts h_persons h_gone h_at h_fines h_undos h_seenOf h_seenOpen h_path h_told h_counts h_spots h_far h_row h_begins h_ways h_next i_length i_keptMany i_undoMany i_seenMany i_pathMany i_place i_found i_walkers a_gone a_at a_fines) s.heap.size = A at hD ⊢
  have hA : ∀ q : Nat, s.heap.size ≤ q → A q := fun q h => by rw [← hAe]; exact Or.inr h
  have hW : Wd (dC, dI) A s.heap (wX8_copy cyI cyJ cyZ h h_text h_many h_ones h_others h_kinds h_firsts h_persons h_gone h_at h_fines h_undos h_seenOf h_seenOpen h_path h_told h_counts h_spots h_far h_row h_begins h_ways h_next i_length i_keptMany i_undoMany i_seenMany i_pathMany i_place i_found i_walkers a_gone a_at a_fines) s.heap [] := ⟨hP, hD, va_S.rf⟩
  have hw := hwp
  have hiX8 : ∀ w ∈ u_ws RX8 TX8 30, w ∈ wsX8_copy := fun _ h => List.mem_cons_of_mem _ (List.mem_append_right _ h)
  have k_0 := hts (.fieldLink RX8 37 "OddLetsInModel" "fines" "[I") (List.mem_of_getElem? (i := 3) rfl)
  have k_1 := hts (.fieldLink RX8 34 "OddLetsInModel" "at" "[I") (List.mem_of_getElem? (i := 2) rfl)
  have k_2 := hts (.fieldLink RX8 31 "OddLetsInModel" "gone" "[I") (List.mem_of_getElem? (i := 1) rfl)
  have W_35 : ∀ (a_gone : Nat → Int32) (a_fines : Nat → Int32) (n_35 : Nat) (x3 : Int32) (a_at : Nat → Int32) (H : Heap) (locs : List Loc) (ls : Array Slot), Wd (dC, dI) A s.heap (wX8_copy cyI cyJ cyZ h h_text h_many h_ones h_others h_kinds h_firsts h_persons h_gone h_at h_fines h_undos h_seenOf h_seenOpen h_path h_told h_counts h_spots h_far h_row h_begins h_ways h_next i_length i_keptMany i_undoMany i_seenMany i_pathMany i_place i_found i_walkers a_gone a_at a_fines) H locs → lv_has ls 4 [(0, .ref h), (1, .int x1), (2, .int x2), (3, .int x3)] → PX8_copy_35 post x1 x2 a_gone a_fines n_35 x3 a_at → W p l e (({ frames := 0, cells := 0, slots := 0, locals := 0 } : Room)) s m (([.ref h, .int x1, .int x2] : List Value).toArray) below meth c H locs 0 0 (MQ below (qX8_copy dC dI cyI cyJ cyZ h h_text h_many h_ones h_others h_kinds h_firsts h_persons h_gone h_at h_fines h_undos h_seenOf h_seenOpen h_path h_told h_counts h_spots h_far h_row h_begins h_ways h_next i_length i_keptMany i_undoMany i_seenMany i_pathMany i_place i_found i_walkers a_gone a_at a_fines post A) (([.ref h, .int x1, .int x2] : List Value).toArray) s 0 0 A) (F0 m 35 ls []) := by
    intro a_gone a_fines n_35
    induction n_35 with
    | zero =>
      intro x3 a_at H locs ls hW hl hw
      exact False.elim hw
    | succ n_35 ih_35 =>
      intro x3 a_at H locs ls hW hl hw
      refine lv_iload_n hx hb dX8_copy_35 rfl (lv_at hl 3 rfl) ?_
      refine lv_iconst (v := 3) hx hb dX8_copy_36 (by decide) ?_
      refine lv_icmp_ge (tgt := 66) hx hb dX8_copy_37 (by decide) (fun c_1 => ?_) (fun c_1 => ?_)
      · replace hw := hw.1 c_1
        refine lv_aload_n hx hb dX8_copy_66 rfl (lv_at hl 0 rfl) ?_
        refine zw_get (ci := 8) (C := RX8) (T := TX8) (N := 30) (v := .ref h_fines) hx hb hts hiX8 hown hK hW 0 rfl rfl 10 (by decide) rfl k_0 dX8_copy_67 ?_
        refine lv_iload_n hx hb dX8_copy_70 rfl (lv_at hl 2 rfl) ?_
        refine lv_aload_n hx hb dX8_copy_71 rfl (lv_at hl 0 rfl) ?_
        refine zw_get (ci := 8) (C := RX8) (T := TX8) (N := 30) (v := .ref h_fines) hx hb hts hiX8 hown hK hW 0 rfl rfl 10 (by decide) rfl k_0 dX8_copy_72 ?_
        refine lv_iload_n hx hb dX8_copy_75 rfl (lv_at hl 1 rfl) ?_
        refine zw_iald hx hb hK hW 3 rfl rfl hw.1 dX8_copy_76 ?_
        replace hw := hw.2
        refine lv_topi (fun t_2 et_2 => ?_)
        replace hw := hw t_2 et_2
        refine zw_iast hx hb hK hW 3 rfl rfl hw.1 (w2 := fun a_fines_3 => (wX8_copy cyI cyJ cyZ h h_text h_many h_ones h_others h_kinds h_firsts h_persons h_gone h_at h_fines h_undos h_seenOf h_seenOpen h_path h_told h_counts h_spots h_far h_row h_begins h_ways h_next i_length i_keptMany i_undoMany i_seenMany i_pathMany i_place i_found i_walkers a_gone a_at a_fines_3)) (fun _ => rfl) dX8_copy_77 (fun a_fines_3 H locs ea_fines_3 hW => ?_)
        replace hw := hw.2 a_fines_3 ea_fines_3
        refine zw_vret (S := (Nat → Int32) × (Nat → Int32) × (Nat → Int32)) (post := fun u => post u.1 u.2.1 u.2.2) (a_gone, a_at, a_fines_3) hx hb hr hlocks hK hW hw ?_ dX8_copy_78
        rfl
      · replace hw := hw.2 c_1
        refine lv_aload_n hx hb dX8_copy_40 rfl (lv_at hl 0 rfl) ?_
        refine zw_get (ci := 8) (C := RX8) (T := TX8) (N := 30) (v := .ref h_at) hx hb hts hiX8 hown hK hW 0 rfl rfl 9 (by decide) rfl k_1 dX8_copy_41 ?_
        refine lv_iconst (v := 3) hx hb dX8_copy_44 (by decide) ?_
        refine lv_iload_n hx hb dX8_copy_45 rfl (lv_at hl 2 rfl) ?_
        refine lv_imul hx hb dX8_copy_46 ?_
        refine lv_iload_n hx hb dX8_copy_47 rfl (lv_at hl 3 rfl) ?_
        refine lv_iadd hx hb dX8_copy_48 ?_
        refine lv_aload_n hx hb dX8_copy_49 rfl (lv_at hl 0 rfl) ?_
        refine zw_get (ci := 8) (C := RX8) (T := TX8) (N := 30) (v := .ref h_at) hx hb hts hiX8 hown hK hW 0 rfl rfl 9 (by decide) rfl k_1 dX8_copy_50 ?_
        refine lv_iconst (v := 3) hx hb dX8_copy_53 (by decide) ?_
        refine lv_iload_n hx hb dX8_copy_54 rfl (lv_at hl 1 rfl) ?_
        refine lv_imul hx hb dX8_copy_55 ?_
        refine lv_iload_n hx hb dX8_copy_56 rfl (lv_at hl 3 rfl) ?_
        refine lv_iadd hx hb dX8_copy_57 ?_
        refine zw_iald hx hb hK hW 2 rfl rfl hw.1 dX8_copy_58 ?_
        replace hw := hw.2
        refine lv_topi (fun t_4 et_4 => ?_)
        replace hw := hw t_4 et_4
        refine zw_iast hx hb hK hW 2 rfl rfl hw.1 (w2 := fun a_at_5 => (wX8_copy cyI cyJ cyZ h h_text h_many h_ones h_others h_kinds h_firsts h_persons h_gone h_at h_fines h_undos h_seenOf h_seenOpen h_path h_told h_counts h_spots h_far h_row h_begins h_ways h_next i_length i_keptMany i_undoMany i_seenMany i_pathMany i_place i_found i_walkers a_gone a_at_5 a_fines)) (fun _ => rfl) dX8_copy_59 (fun a_at_5 H locs ea_at_5 hW => ?_)
        replace hw := hw.2 a_at_5 ea_at_5
        obtain ⟨x3_6, ex3_6⟩ : ∃ y : Int32, y = x3 + 1 := ⟨_, rfl⟩
        replace hw := hw x3_6 ex3_6
        refine lv_iinc (v := x3_6) (lv' := [(3, .int x3_6), (0, .ref h), (1, .int x1), (2, .int x2)]) hx hb dX8_copy_60 hl (k := 3) rfl (by rw [ex3_6]; rfl) (by decide) rfl (fun ls hl => ?_)
        refine lv_goto (tgt := 35) hx hb dX8_copy_63 (by decide) ?_
        exact ih_35 x3_6 a_at_5 _ _ _ hW (lv_sub hl [1, 2, 3, 0] rfl) hw
  have W_2 : ∀ (a_at : Nat → Int32) (a_fines : Nat → Int32) (n_2 : Nat) (x3 : Int32) (a_gone : Nat → Int32) (H : Heap) (locs : List Loc) (ls : Array Slot), Wd (dC, dI) A s.heap (wX8_copy cyI cyJ cyZ h h_text h_many h_ones h_others h_kinds h_firsts h_persons h_gone h_at h_fines h_undos h_seenOf h_seenOpen h_path h_told h_counts h_spots h_far h_row h_begins h_ways h_next i_length i_keptMany i_undoMany i_seenMany i_pathMany i_place i_found i_walkers a_gone a_at a_fines) H locs → lv_has ls 4 [(0, .ref h), (1, .int x1), (2, .int x2), (3, .int x3)] → PX8_copy_2 post x1 x2 a_at a_fines n_2 x3 a_gone → W p l e (({ frames := 0, cells := 0, slots := 0, locals := 0 } : Room)) s m (([.ref h, .int x1, .int x2] : List Value).toArray) below meth c H locs 0 0 (MQ below (qX8_copy dC dI cyI cyJ cyZ h h_text h_many h_ones h_others h_kinds h_firsts h_persons h_gone h_at h_fines h_undos h_seenOf h_seenOpen h_path h_told h_counts h_spots h_far h_row h_begins h_ways h_next i_length i_keptMany i_undoMany i_seenMany i_pathMany i_place i_found i_walkers a_gone a_at a_fines post A) (([.ref h, .int x1, .int x2] : List Value).toArray) s 0 0 A) (F0 m 2 ls []) := by
    intro a_at a_fines n_2
    induction n_2 with
    | zero =>
      intro x3 a_gone H locs ls hW hl hw
      exact False.elim hw
    | succ n_2 ih_2 =>
      intro x3 a_gone H locs ls hW hl hw
      refine lv_iload_n hx hb dX8_copy_2 rfl (lv_at hl 3 rfl) ?_
      refine lv_iconst (v := 5) hx hb dX8_copy_3 (by decide) ?_
      refine lv_icmp_ge (tgt := 33) hx hb dX8_copy_4 (by decide) (fun c_7 => ?_) (fun c_7 => ?_)
      · replace hw := hw.1 c_7
        refine lv_iconst (v := 0) hx hb dX8_copy_33 (by decide) ?_
        refine lv_istore_n (lv' := [(3, .int 0), (0, .ref h), (1, .int x1), (2, .int x2)]) hx hb dX8_copy_34 rfl hl (by decide) rfl (fun ls hl => ?_)
        obtain ⟨n_35, hw⟩ := hw
        exact W_35 a_gone a_fines n_35 0 a_at _ _ _ hW (lv_sub hl [1, 2, 3, 0] rfl) hw
      · replace hw := hw.2 c_7
        refine lv_aload_n hx hb dX8_copy_7 rfl (lv_at hl 0 rfl) ?_
        refine zw_get (ci := 8) (C := RX8) (T := TX8) (N := 30) (v := .ref h_gone) hx hb hts hiX8 hown hK hW 0 rfl rfl 8 (by decide) rfl k_2 dX8_copy_8 ?_
        refine lv_iconst (v := 5) hx hb dX8_copy_11 (by decide) ?_
        refine lv_iload_n hx hb dX8_copy_12 rfl (lv_at hl 2 rfl) ?_
        refine lv_imul hx hb dX8_copy_13 ?_
        refine lv_iload_n hx hb dX8_copy_14 rfl (lv_at hl 3 rfl) ?_
        refine lv_iadd hx hb dX8_copy_15 ?_
        refine lv_aload_n hx hb dX8_copy_16 rfl (lv_at hl 0 rfl) ?_
        refine zw_get (ci := 8) (C := RX8) (T := TX8) (N := 30) (v := .ref h_gone) hx hb hts hiX8 hown hK hW 0 rfl rfl 8 (by decide) rfl k_2 dX8_copy_17 ?_
        refine lv_iconst (v := 5) hx hb dX8_copy_20 (by decide) ?_
        refine lv_iload_n hx hb dX8_copy_21 rfl (lv_at hl 1 rfl) ?_
        refine lv_imul hx hb dX8_copy_22 ?_
        refine lv_iload_n hx hb dX8_copy_23 rfl (lv_at hl 3 rfl) ?_
        refine lv_iadd hx hb dX8_copy_24 ?_
        refine zw_iald hx hb hK hW 1 rfl rfl hw.1 dX8_copy_25 ?_
        replace hw := hw.2
        refine lv_topi (fun t_8 et_8 => ?_)
        replace hw := hw t_8 et_8
        refine zw_iast hx hb hK hW 1 rfl rfl hw.1 (w2 := fun a_gone_9 => (wX8_copy cyI cyJ cyZ h h_text h_many h_ones h_others h_kinds h_firsts h_persons h_gone h_at h_fines h_undos h_seenOf h_seenOpen h_path h_told h_counts h_spots h_far h_row h_begins h_ways h_next i_length i_keptMany i_undoMany i_seenMany i_pathMany i_place i_found i_walkers a_gone_9 a_at a_fines)) (fun _ => rfl) dX8_copy_26 (fun a_gone_9 H locs ea_gone_9 hW => ?_)
        replace hw := hw.2 a_gone_9 ea_gone_9
        obtain ⟨x3_10, ex3_10⟩ : ∃ y : Int32, y = x3 + 1 := ⟨_, rfl⟩
        replace hw := hw x3_10 ex3_10
        refine lv_iinc (v := x3_10) (lv' := [(3, .int x3_10), (0, .ref h), (1, .int x1), (2, .int x2)]) hx hb dX8_copy_27 hl (k := 3) rfl (by rw [ex3_10]; rfl) (by decide) rfl (fun ls hl => ?_)
        refine lv_goto (tgt := 2) hx hb dX8_copy_30 (by decide) ?_
        exact ih_2 x3_10 a_gone_9 _ _ _ hW (lv_sub hl [1, 2, 3, 0] rfl) hw
  have hl := lv_entry ([.ref h, .int x1, .int x2]) (n := 4) (Nat.le_of_ble_eq_true rfl)
  rw [lg_entry_eq]
  generalize (lg_sl ([.ref h, .int x1, .int x2]) ++ List.replicate (4 - (lg_sl ([.ref h, .int x1, .int x2])).length) Slot.unset).toArray = ls at hl ⊢
  have hl : lv_has ls 4 [(0, .ref h), (1, .int x1), (2, .int x2)] := hl
  refine lv_iconst (v := 0) hx hb dX8_copy_0 (by decide) ?_
  refine lv_istore_n (lv' := [(3, .int 0), (0, .ref h), (1, .int x1), (2, .int x2)]) hx hb dX8_copy_1 rfl hl (by decide) rfl (fun ls hl => ?_)
  obtain ⟨n_2, hw⟩ := hw
  exact W_2 a_at a_fines n_2 0 a_gone _ _ _ hW (lv_sub hl [1, 2, 3, 0] rfl) hw
abbrev wX8_keep (cyI cyJ cyZ : ClassId) (h h_text h_many h_ones h_others h_kinds h_firsts h_persons h_gone h_at h_fines h_undos h_seenOf h_seenOpen h_path h_told h_counts h_spots h_far h_row h_begins h_ways h_next : Nat) (i_length : Int32) (i_keptMany : Int32) (i_undoMany : Int32) (i_seenMany : Int32) (i_pathMany : Int32) (i_place : Int32) (i_found : Int32) (i_walkers : Int32) (a_gone : Nat → Int32) (a_at : Nat → Int32) (a_fines : Nat → Int32) : va_W := [(h, .inr (8, [.int i_length, .ref h_text, .ref h_many, .ref h_ones, .ref h_others, .ref h_kinds, .ref h_firsts, .ref h_persons, .ref h_gone, .ref h_at, .ref h_fines, .int i_keptMany, .int i_undoMany, .ref h_undos, .int i_seenMany, .ref h_seenOf, .ref h_seenOpen, .int i_pathMany, .ref h_path, .int i_place, .ref h_told, .ref h_counts, .ref h_spots, .ref h_far, .ref h_row, .ref h_begins, .int i_found, .int i_walkers, .ref h_ways, .ref h_next])), (h_gone, .inl (cyI, 15, .inl a_gone)), (h_at, .inl (cyI, 9, .inl a_at)), (h_fines, .inl (cyI, 3, .inl a_fines))]
abbrev qX8_keep (dC : Nat → ClassId) (dI : Nat → Nat → Nat) (cyI cyJ cyZ : ClassId) (h h_text h_many h_ones h_others h_kinds h_firsts h_persons h_gone h_at h_fines h_undos h_seenOf h_seenOpen h_path h_told h_counts h_spots h_far h_row h_begins h_ways h_next : Nat) (i_length : Int32) (i_keptMany : Int32) (i_undoMany : Int32) (i_seenMany : Int32) (i_pathMany : Int32) (i_place : Int32) (i_found : Int32) (i_walkers : Int32) (a_gone : Nat → Int32) (a_at : Nat → Int32) (a_fines : Nat → Int32) (post : Int32 → Int32 → (Nat → Int32) → (Nat → Int32) → (Nat → Int32) → Prop) (A : Nat → Prop) : Array Value → State → Outcome → State → Prop := (va_Qi (fun (r : Int32) (u : Int32 × (Nat → Int32) × (Nat → Int32) × (Nat → Int32)) => post r u.1 u.2.1 u.2.2.1 u.2.2.2) (bW (dC, dI) (tyG cyI cyJ cyZ) A (fun u : Int32 × (Nat → Int32) × (Nat → Int32) × (Nat → Int32) => (wX8_keep cyI cyJ cyZ h h_text h_many h_ones h_others h_kinds h_firsts h_persons h_gone h_at h_fines h_undos h_seenOf h_seenOpen h_path h_told h_counts h_spots h_far h_row h_begins h_ways h_next i_length (u.1) i_undoMany i_seenMany i_pathMany i_place i_found i_walkers (u.2.1) (u.2.2.1) (u.2.2.2)))) A)
set_option maxHeartbeats 4000000 in
set_option maxRecDepth 100000 in
theorem mX8_keep (l : Launch) (dC : Nat → ClassId) (dI : Nat → Nat → Nat) (cyI cyJ cyZ : ClassId) (h h_text h_many h_ones h_others h_kinds h_firsts h_persons h_gone h_at h_fines h_undos h_seenOf h_seenOpen h_path h_told h_counts h_spots h_far h_row h_begins h_ways h_next : Nat) (sz : Nat) (i_length : Int32) (i_keptMany : Int32) (i_undoMany : Int32) (i_seenMany : Int32) (i_pathMany : Int32) (i_place : Int32) (i_found : Int32) (i_walkers : Int32) (a_gone : Nat → Int32) (a_at : Nat → Int32) (a_fines : Nat → Int32) (post : Int32 → Int32 → (Nat → Int32) → (Nat → Int32) → (Nat → Int32) → Prop) (hwp : PX8_keep i_keptMany a_gone a_at a_fines post) : Met l yX8_keep wsX8_keep ({ frames := 1, cells := 0, slots := 0, locals := 23 } : Room) (va_Pc [.ref h] (pcW (dC, dI) sz (wX8_keep cyI cyJ cyZ h h_text h_many h_ones h_others h_kinds h_firsts h_persons h_gone h_at h_fines h_undos h_seenOf h_seenOpen h_path h_told h_counts h_spots h_far h_row h_begins h_ways h_next i_length i_keptMany i_undoMany i_seenMany i_pathMany i_place i_found i_walkers a_gone a_at a_fines) (tyG cyI cyJ cyZ))) (qX8_keep dC dI cyI cyJ cyZ h h_text h_many h_ones h_others h_kinds h_firsts h_persons h_gone h_at h_fines h_undos h_seenOf h_seenOpen h_path h_told h_counts h_spots h_far h_row h_begins h_ways h_next i_length i_keptMany i_undoMany i_seenMany i_pathMany i_place i_found i_walkers a_gone a_at a_fines post (va_A (wX8_keep cyI cyJ cyZ h h_text h_many h_ones h_others h_kinds h_firsts h_persons h_gone h_at h_fines h_undos h_seenOf h_seenOpen h_path h_told h_counts h_spots h_far h_row h_begins h_ways h_next i_length i_keptMany i_undoMany i_seenMany i_pathMany i_place i_found i_walkers a_gone a_at a_fines) sz)) 0 0 (va_A (wX8_keep cyI cyJ cyZ h h_text h_many h_ones h_others h_kinds h_firsts h_persons h_gone h_at h_fines h_undos h_seenOf h_seenOpen h_path h_told h_counts h_spots h_far h_row h_begins h_ways h_next i_length i_keptMany i_undoMany i_seenMany i_pathMany i_place i_found i_walkers a_gone a_at a_fines) sz) := by
  refine Met.ofW (cc := cX8_keep) (maxL := 1) (ret := some .int) (by decide) rfl ?_
  intro p e s m args below meth c s₁ B hml hv
  obtain ⟨rfl, hsz, hP, hK, hD0, hN⟩ := hv
  have hx := B.exec
  have hb := B.bytes
  have hr := B.returns
  have hts := atoms_spec (ws := wsX8_keep) B.pre
  have hown : s.vm.findClass RX8 = some m.cls := findClass_of_methodNamed B.named
  have hlocks := B.notSynchronized
  subst hsz
  have hD := hD0.self (sz := s.heap.size)
  generalize hAe : va_A (wX8_keep cyI cyJ cyZ h h_text h_many h_ones h_others h_kinds h_firsts h_persons h_gone h_at h_fines h_undos h_seenOf h_seenOpen h_path h_told h_counts h_spots h_far h_row h_begins h_ways h_next i_length i_keptMany i_undoMany i_seenMany i_pathMany i_place i_found i_walkers a_gone a_at a_fines) s.heap.size = A at hD ⊢
  have hA : ∀ q : Nat, s.heap.size ≤ q → A q := fun q h => by rw [← hAe]; exact Or.inr h
  have hW : Wd (dC, dI) A s.heap (wX8_keep cyI cyJ cyZ h h_text h_many h_ones h_others h_kinds h_firsts h_persons h_gone h_at h_fines h_undos h_seenOf h_seenOpen h_path h_told h_counts h_spots h_far h_row h_begins h_ways h_next i_length i_keptMany i_undoMany i_seenMany i_pathMany i_place i_found i_walkers a_gone a_at a_fines) s.heap [] := ⟨hP, hD, va_S.rf⟩
  have hw := hwp
  have hiX8 : ∀ w ∈ u_ws RX8 TX8 30, w ∈ wsX8_keep := fun _ h => List.mem_cons_of_mem _ (List.mem_append_right _ h)
  have k_0 := hts (.fieldLink RX8 119 "OddLetsInModel" "keptMany" "I") (List.mem_of_getElem? (i := 1) rfl)
  have hl := lv_entry ([.ref h]) (n := 1) (Nat.le_of_ble_eq_true rfl)
  rw [lg_entry_eq]
  generalize (lg_sl ([.ref h]) ++ List.replicate (1 - (lg_sl ([.ref h])).length) Slot.unset).toArray = ls at hl ⊢
  have hl : lv_has ls 1 [(0, .ref h)] := hl
  refine lv_aload_n hx hb dX8_keep_0 rfl (lv_at hl 0 rfl) ?_
  refine zw_get (ci := 8) (C := RX8) (T := TX8) (N := 30) (v := .int i_keptMany) hx hb hts hiX8 hown hK hW 0 rfl rfl 11 (by decide) rfl k_0 dX8_keep_1 ?_
  refine lv_iconst (v := 2) hx hb dX8_keep_4 (by decide) ?_
  refine lv_icmp_ne (tgt := 11) hx hb dX8_keep_5 (by decide) (fun c_1 => ?_) (fun c_1 => ?_)
  · replace hw := hw.2 c_1
    refine lv_aload_n hx hb dX8_keep_11 rfl (lv_at hl 0 rfl) ?_
    refine lv_dup hx hb dX8_keep_12 rfl ?_
    refine zw_get (ci := 8) (C := RX8) (T := TX8) (N := 30) (v := .int i_keptMany) hx hb hts hiX8 hown hK hW 0 rfl rfl 11 (by decide) rfl k_0 dX8_keep_13 ?_
    refine lv_iconst (v := 1) hx hb dX8_keep_16 (by decide) ?_
    refine lv_iadd hx hb dX8_keep_17 ?_
    refine lv_topi (fun i_2 ei_2 => ?_)
    replace hw := hw i_2 ei_2
    refine zw_put (ci := 8) (C := RX8) (T := TX8) (N := 30) (w2 := (wX8_keep cyI cyJ cyZ h h_text h_many h_ones h_others h_kinds h_firsts h_persons h_gone h_at h_fines h_undos h_seenOf h_seenOpen h_path h_told h_counts h_spots h_far h_row h_begins h_ways h_next i_length i_2 i_undoMany i_seenMany i_pathMany i_place i_found i_walkers a_gone a_at a_fines)) hx hb hts hiX8 tyX8 tyX8_ok nmX8 hown hK hW 0 rfl rfl 11 (by decide) (by decide +kernel) rfl (Nat.le_of_ble_eq_true rfl) rfl k_0 dX8_keep_18 (fun H locs hW => ?_)
    refine lv_aload_n hx hb dX8_keep_21 rfl (lv_at hl 0 rfl) ?_
    refine lv_iconst (v := 0) hx hb dX8_keep_22 (by decide) ?_
    refine lv_aload_n hx hb dX8_keep_23 rfl (lv_at hl 0 rfl) ?_
    refine zw_get (ci := 8) (C := RX8) (T := TX8) (N := 30) (v := .int i_2) hx hb hts hiX8 hown hK hW 0 rfl rfl 11 (by decide) rfl k_0 dX8_keep_24 ?_
    refine zw_Vv ⟨hx, hb, hml, hown, hts⟩ hK hN hA hW 0 rfl (T := TX8) (N := 30) rfl [.int 0, .int i_2] [] [0, 1, 2, 3] [] [0, 1, 2, 3] (fun u => (wX8_keep cyI cyJ cyZ h h_text h_many h_ones h_others h_kinds h_firsts h_persons h_gone h_at h_fines h_undos h_seenOf h_seenOpen h_path h_told h_counts h_spots h_far h_row h_begins h_ways h_next i_length i_2 i_undoMany i_seenMany i_pathMany i_place i_found i_walkers (u.1) (u.2.1) (u.2.2))) (mX8_copy l dC dI cyI cyJ cyZ h h_text h_many h_ones h_others h_kinds h_firsts h_persons h_gone h_at h_fines h_undos h_seenOf h_seenOpen h_path h_told h_counts h_spots h_far h_row h_begins h_ways h_next _ i_length i_2 i_undoMany i_seenMany i_pathMany i_place i_found i_walkers a_gone a_at a_fines 0 i_2 _ hw) (cwV 2 hts gX8_keep_X8_copy rfl rfl rfl (by decide +kernel) ⟨Nat.le_of_ble_eq_true rfl, Nat.le_of_ble_eq_true rfl⟩) rfl rfl rfl rfl (by decide) rfl (fun _ => rfl) rfl hl.1 rfl (Nat.le_of_ble_eq_true rfl) (Nat.le_of_ble_eq_true rfl) (Nat.le_of_ble_eq_true rfl) dX8_keep_27 (fun u H locs hw hW => ?_)
    obtain ⟨a_gone_3, a_at_4, a_fines_5⟩ := u
    try dsimp only at hw
    replace hW : Wd (dC, dI) A s.heap (wX8_keep cyI cyJ cyZ h h_text h_many h_ones h_others h_kinds h_firsts h_persons h_gone h_at h_fines h_undos h_seenOf h_seenOpen h_path h_told h_counts h_spots h_far h_row h_begins h_ways h_next i_length i_2 i_undoMany i_seenMany i_pathMany i_place i_found i_walkers a_gone_3 a_at_4 a_fines_5) H locs := hW
    refine lv_aload_n hx hb dX8_keep_30 rfl (lv_at hl 0 rfl) ?_
    refine zw_get (ci := 8) (C := RX8) (T := TX8) (N := 30) (v := .int i_2) hx hb hts hiX8 hown hK hW 0 rfl rfl 11 (by decide) rfl k_0 dX8_keep_31 ?_
    refine zw_iret (S := Int32 × (Nat → Int32) × (Nat → Int32) × (Nat → Int32)) (post := fun r u => post r u.1 u.2.1 u.2.2.1 u.2.2.2) (i_2, a_gone_3, a_at_4, a_fines_5) hx hb hr hlocks hK hW hw ?_ dX8_keep_34
    rfl
  · replace hw := hw.1 c_1
    refine lv_bipush (v := (-3)) hx hb dX8_keep_8 (by decide) ?_
    refine zw_iret (S := Int32 × (Nat → Int32) × (Nat → Int32) × (Nat → Int32)) (post := fun r u => post r u.1 u.2.1 u.2.2.1 u.2.2.2) (i_keptMany, a_gone, a_at, a_fines) hx hb hr hlocks hK hW hw ?_ dX8_keep_10
    rfl
abbrev wX8_back (cyI cyJ cyZ : ClassId) (h h_text h_many h_ones h_others h_kinds h_firsts h_persons h_gone h_at h_fines h_undos h_seenOf h_seenOpen h_path h_told h_counts h_spots h_far h_row h_begins h_ways h_next : Nat) (i_length : Int32) (i_keptMany : Int32) (i_undoMany : Int32) (i_seenMany : Int32) (i_pathMany : Int32) (i_place : Int32) (i_found : Int32) (i_walkers : Int32) (a_gone : Nat → Int32) (a_at : Nat → Int32) (a_fines : Nat → Int32) : va_W := [(h, .inr (8, [.int i_length, .ref h_text, .ref h_many, .ref h_ones, .ref h_others, .ref h_kinds, .ref h_firsts, .ref h_persons, .ref h_gone, .ref h_at, .ref h_fines, .int i_keptMany, .int i_undoMany, .ref h_undos, .int i_seenMany, .ref h_seenOf, .ref h_seenOpen, .int i_pathMany, .ref h_path, .int i_place, .ref h_told, .ref h_counts, .ref h_spots, .ref h_far, .ref h_row, .ref h_begins, .int i_found, .int i_walkers, .ref h_ways, .ref h_next])), (h_gone, .inl (cyI, 15, .inl a_gone)), (h_at, .inl (cyI, 9, .inl a_at)), (h_fines, .inl (cyI, 3, .inl a_fines))]
abbrev qX8_back (dC : Nat → ClassId) (dI : Nat → Nat → Nat) (cyI cyJ cyZ : ClassId) (h h_text h_many h_ones h_others h_kinds h_firsts h_persons h_gone h_at h_fines h_undos h_seenOf h_seenOpen h_path h_told h_counts h_spots h_far h_row h_begins h_ways h_next : Nat) (i_length : Int32) (i_keptMany : Int32) (i_undoMany : Int32) (i_seenMany : Int32) (i_pathMany : Int32) (i_place : Int32) (i_found : Int32) (i_walkers : Int32) (a_gone : Nat → Int32) (a_at : Nat → Int32) (a_fines : Nat → Int32) (post : Int32 → Int32 → Int32 → (Nat → Int32) → (Nat → Int32) → (Nat → Int32) → Prop) (A : Nat → Prop) : Array Value → State → Outcome → State → Prop := (va_Qi (fun (r : Int32) (u : Int32 × Int32 × (Nat → Int32) × (Nat → Int32) × (Nat → Int32)) => post r u.1 u.2.1 u.2.2.1 u.2.2.2.1 u.2.2.2.2) (bW (dC, dI) (tyG cyI cyJ cyZ) A (fun u : Int32 × Int32 × (Nat → Int32) × (Nat → Int32) × (Nat → Int32) => (wX8_back cyI cyJ cyZ h h_text h_many h_ones h_others h_kinds h_firsts h_persons h_gone h_at h_fines h_undos h_seenOf h_seenOpen h_path h_told h_counts h_spots h_far h_row h_begins h_ways h_next i_length (u.1) (u.2.1) i_seenMany i_pathMany i_place i_found i_walkers (u.2.2.1) (u.2.2.2.1) (u.2.2.2.2)))) A)
set_option maxHeartbeats 4000000 in
set_option maxRecDepth 100000 in
theorem mX8_back (l : Launch) (dC : Nat → ClassId) (dI : Nat → Nat → Nat) (cyI cyJ cyZ : ClassId) (h h_text h_many h_ones h_others h_kinds h_firsts h_persons h_gone h_at h_fines h_undos h_seenOf h_seenOpen h_path h_told h_counts h_spots h_far h_row h_begins h_ways h_next : Nat) (sz : Nat) (i_length : Int32) (i_keptMany : Int32) (i_undoMany : Int32) (i_seenMany : Int32) (i_pathMany : Int32) (i_place : Int32) (i_found : Int32) (i_walkers : Int32) (a_gone : Nat → Int32) (a_at : Nat → Int32) (a_fines : Nat → Int32) (post : Int32 → Int32 → Int32 → (Nat → Int32) → (Nat → Int32) → (Nat → Int32) → Prop) (hwp : PX8_back i_keptMany i_undoMany a_gone a_at a_fines post) : Met l yX8_back wsX8_back ({ frames := 1, cells := 0, slots := 0, locals := 23 } : Room) (va_Pc [.ref h] (pcW (dC, dI) sz (wX8_back cyI cyJ cyZ h h_text h_many h_ones h_others h_kinds h_firsts h_persons h_gone h_at h_fines h_undos h_seenOf h_seenOpen h_path h_told h_counts h_spots h_far h_row h_begins h_ways h_next i_length i_keptMany i_undoMany i_seenMany i_pathMany i_place i_found i_walkers a_gone a_at a_fines) (tyG cyI cyJ cyZ))) (qX8_back dC dI cyI cyJ cyZ h h_text h_many h_ones h_others h_kinds h_firsts h_persons h_gone h_at h_fines h_undos h_seenOf h_seenOpen h_path h_told h_counts h_spots h_far h_row h_begins h_ways h_next i_length i_keptMany i_undoMany i_seenMany i_pathMany i_place i_found i_walkers a_gone a_at a_fines post (va_A (wX8_back cyI cyJ cyZ h h_text h_many h_ones h_others h_kinds h_firsts h_persons h_gone h_at h_fines h_undos h_seenOf h_seenOpen h_path h_told h_counts h_spots h_far h_row h_begins h_ways h_next i_length i_keptMany i_undoMany i_seenMany i_pathMany i_place i_found i_walkers a_gone a_at a_fines) sz)) 0 0 (va_A (wX8_back cyI cyJ cyZ h h_text h_many h_ones h_others h_kinds h_firsts h_persons h_gone h_at h_fines h_undos h_seenOf h_seenOpen h_path h_told h_counts h_spots h_far h_row h_begins h_ways h_next i_length i_keptMany i_undoMany i_seenMany i_pathMany i_place i_found i_walkers a_gone a_at a_fines) sz) := by
  refine Met.ofW (cc := cX8_back) (maxL := 1) (ret := some .int) (by decide) rfl ?_
  intro p e s m args below meth c s₁ B hml hv
  obtain ⟨rfl, hsz, hP, hK, hD0, hN⟩ := hv
  have hx := B.exec
  have hb := B.bytes
  have hr := B.returns
  have hts := atoms_spec (ws := wsX8_back) B.pre
  have hown : s.vm.findClass RX8 = some m.cls := findClass_of_methodNamed B.named
  have hlocks := B.notSynchronized
  subst hsz
  have hD := hD0.self (sz := s.heap.size)
  generalize hAe : va_A (wX8_back cyI cyJ cyZ h h_text h_many h_ones h_others h_kinds h_firsts h_persons h_gone h_at h_fines h_undos h_seenOf h_seenOpen h_path h_told h_counts h_spots h_far h_row h_begins h_ways h_next i_length i_keptMany i_undoMany i_seenMany i_pathMany i_place i_found i_walkers a_gone a_at a_fines) s.heap.size = A at hD ⊢
  have hA : ∀ q : Nat, s.heap.size ≤ q → A q := fun q h => by rw [← hAe]; exact Or.inr h
  have hW : Wd (dC, dI) A s.heap (wX8_back cyI cyJ cyZ h h_text h_many h_ones h_others h_kinds h_firsts h_persons h_gone h_at h_fines h_undos h_seenOf h_seenOpen h_path h_told h_counts h_spots h_far h_row h_begins h_ways h_next i_length i_keptMany i_undoMany i_seenMany i_pathMany i_place i_found i_walkers a_gone a_at a_fines) s.heap [] := ⟨hP, hD, va_S.rf⟩
  have hw := hwp
  have hiX8 : ∀ w ∈ u_ws RX8 TX8 30, w ∈ wsX8_back := fun _ h => List.mem_cons_of_mem _ (List.mem_append_right _ h)
  have k_0 := hts (.fieldLink RX8 119 "OddLetsInModel" "keptMany" "I") (List.mem_of_getElem? (i := 1) rfl)
  have k_1 := hts (.fieldLink RX8 122 "OddLetsInModel" "undoMany" "I") (List.mem_of_getElem? (i := 2) rfl)
  have hl := lv_entry ([.ref h]) (n := 1) (Nat.le_of_ble_eq_true rfl)
  rw [lg_entry_eq]
  generalize (lg_sl ([.ref h]) ++ List.replicate (1 - (lg_sl ([.ref h])).length) Slot.unset).toArray = ls at hl ⊢
  have hl : lv_has ls 1 [(0, .ref h)] := hl
  refine lv_aload_n hx hb dX8_back_0 rfl (lv_at hl 0 rfl) ?_
  refine zw_get (ci := 8) (C := RX8) (T := TX8) (N := 30) (v := .int i_keptMany) hx hb hts hiX8 hown hK hW 0 rfl rfl 11 (by decide) rfl k_0 dX8_back_1 ?_
  refine lv_if_ne (tgt := 10) hx hb dX8_back_4 (by decide) (fun c_1 => ?_) (fun c_1 => ?_)
  · replace hw := hw.2 c_1
    refine lv_aload_n hx hb dX8_back_10 rfl (lv_at hl 0 rfl) ?_
    refine lv_aload_n hx hb dX8_back_11 rfl (lv_at hl 0 rfl) ?_
    refine zw_get (ci := 8) (C := RX8) (T := TX8) (N := 30) (v := .int i_keptMany) hx hb hts hiX8 hown hK hW 0 rfl rfl 11 (by decide) rfl k_0 dX8_back_12 ?_
    refine lv_iconst (v := 0) hx hb dX8_back_15 (by decide) ?_
    refine zw_Vv ⟨hx, hb, hml, hown, hts⟩ hK hN hA hW 0 rfl (T := TX8) (N := 30) rfl [.int i_keptMany, .int 0] [] [0, 1, 2, 3] [] [0, 1, 2, 3] (fun u => (wX8_back cyI cyJ cyZ h h_text h_many h_ones h_others h_kinds h_firsts h_persons h_gone h_at h_fines h_undos h_seenOf h_seenOpen h_path h_told h_counts h_spots h_far h_row h_begins h_ways h_next i_length i_keptMany i_undoMany i_seenMany i_pathMany i_place i_found i_walkers (u.1) (u.2.1) (u.2.2))) (mX8_copy l dC dI cyI cyJ cyZ h h_text h_many h_ones h_others h_kinds h_firsts h_persons h_gone h_at h_fines h_undos h_seenOf h_seenOpen h_path h_told h_counts h_spots h_far h_row h_begins h_ways h_next _ i_length i_keptMany i_undoMany i_seenMany i_pathMany i_place i_found i_walkers a_gone a_at a_fines i_keptMany 0 _ hw) (cwV 2 hts gX8_back_X8_copy rfl rfl rfl (by decide +kernel) ⟨Nat.le_of_ble_eq_true rfl, Nat.le_of_ble_eq_true rfl⟩) rfl rfl rfl rfl (by decide) rfl (fun _ => rfl) rfl hl.1 rfl (Nat.le_of_ble_eq_true rfl) (Nat.le_of_ble_eq_true rfl) (Nat.le_of_ble_eq_true rfl) dX8_back_16 (fun u H locs hw hW => ?_)
    obtain ⟨a_gone_2, a_at_3, a_fines_4⟩ := u
    try dsimp only at hw
    replace hW : Wd (dC, dI) A s.heap (wX8_back cyI cyJ cyZ h h_text h_many h_ones h_others h_kinds h_firsts h_persons h_gone h_at h_fines h_undos h_seenOf h_seenOpen h_path h_told h_counts h_spots h_far h_row h_begins h_ways h_next i_length i_keptMany i_undoMany i_seenMany i_pathMany i_place i_found i_walkers a_gone_2 a_at_3 a_fines_4) H locs := hW
    refine lv_aload_n hx hb dX8_back_19 rfl (lv_at hl 0 rfl) ?_
    refine lv_dup hx hb dX8_back_20 rfl ?_
    refine zw_get (ci := 8) (C := RX8) (T := TX8) (N := 30) (v := .int i_keptMany) hx hb hts hiX8 hown hK hW 0 rfl rfl 11 (by decide) rfl k_0 dX8_back_21 ?_
    refine lv_iconst (v := 1) hx hb dX8_back_24 (by decide) ?_
    refine lv_isub hx hb dX8_back_25 ?_
    refine lv_topi (fun i_5 ei_5 => ?_)
    replace hw := hw i_5 ei_5
    refine zw_put (ci := 8) (C := RX8) (T := TX8) (N := 30) (w2 := (wX8_back cyI cyJ cyZ h h_text h_many h_ones h_others h_kinds h_firsts h_persons h_gone h_at h_fines h_undos h_seenOf h_seenOpen h_path h_told h_counts h_spots h_far h_row h_begins h_ways h_next i_length i_5 i_undoMany i_seenMany i_pathMany i_place i_found i_walkers a_gone_2 a_at_3 a_fines_4)) hx hb hts hiX8 tyX8 tyX8_ok nmX8 hown hK hW 0 rfl rfl 11 (by decide) (by decide +kernel) rfl (Nat.le_of_ble_eq_true rfl) rfl k_0 dX8_back_26 (fun H locs hW => ?_)
    refine lv_aload_n hx hb dX8_back_29 rfl (lv_at hl 0 rfl) ?_
    refine lv_iconst (v := 0) hx hb dX8_back_30 (by decide) ?_
    refine zw_put (ci := 8) (C := RX8) (T := TX8) (N := 30) (w2 := (wX8_back cyI cyJ cyZ h h_text h_many h_ones h_others h_kinds h_firsts h_persons h_gone h_at h_fines h_undos h_seenOf h_seenOpen h_path h_told h_counts h_spots h_far h_row h_begins h_ways h_next i_length i_5 0 i_seenMany i_pathMany i_place i_found i_walkers a_gone_2 a_at_3 a_fines_4)) hx hb hts hiX8 tyX8 tyX8_ok nmX8 hown hK hW 0 rfl rfl 12 (by decide) (by decide +kernel) rfl (Nat.le_of_ble_eq_true rfl) rfl k_1 dX8_back_31 (fun H locs hW => ?_)
    refine lv_aload_n hx hb dX8_back_34 rfl (lv_at hl 0 rfl) ?_
    refine zw_get (ci := 8) (C := RX8) (T := TX8) (N := 30) (v := .int i_5) hx hb hts hiX8 hown hK hW 0 rfl rfl 11 (by decide) rfl k_0 dX8_back_35 ?_
    refine zw_iret (S := Int32 × Int32 × (Nat → Int32) × (Nat → Int32) × (Nat → Int32)) (post := fun r u => post r u.1 u.2.1 u.2.2.1 u.2.2.2.1 u.2.2.2.2) (i_5, 0, a_gone_2, a_at_3, a_fines_4) hx hb hr hlocks hK hW hw ?_ dX8_back_38
    rfl
  · replace hw := hw.1 c_1
    refine lv_bipush (v := (-2)) hx hb dX8_back_7 (by decide) ?_
    refine zw_iret (S := Int32 × Int32 × (Nat → Int32) × (Nat → Int32) × (Nat → Int32)) (post := fun r u => post r u.1 u.2.1 u.2.2.1 u.2.2.2.1 u.2.2.2.2) (i_keptMany, i_undoMany, a_gone, a_at, a_fines) hx hb hr hlocks hK hW hw ?_ dX8_back_9
    rfl
abbrev wX8_openMany (cyI cyJ cyZ : ClassId) (h h_text h_many h_ones h_others h_kinds h_firsts h_persons h_gone h_at h_fines h_undos h_seenOf h_seenOpen h_path h_told h_counts h_spots h_far h_row h_begins h_ways h_next : Nat) (i_length : Int32) (i_keptMany : Int32) (i_undoMany : Int32) (i_seenMany : Int32) (i_pathMany : Int32) (i_place : Int32) (i_found : Int32) (i_walkers : Int32) (a_many : Nat → Int32) (a_kinds : Nat → Int32) (a_gone : Nat → Int32) (a_at : Nat → Int32) (a_counts : Nat → Int32) (a_spots : Nat → Int32) : va_W := [(h, .inr (8, [.int i_length, .ref h_text, .ref h_many, .ref h_ones, .ref h_others, .ref h_kinds, .ref h_firsts, .ref h_persons, .ref h_gone, .ref h_at, .ref h_fines, .int i_keptMany, .int i_undoMany, .ref h_undos, .int i_seenMany, .ref h_seenOf, .ref h_seenOpen, .int i_pathMany, .ref h_path, .int i_place, .ref h_told, .ref h_counts, .ref h_spots, .ref h_far, .ref h_row, .ref h_begins, .int i_found, .int i_walkers, .ref h_ways, .ref h_next])), (h_many, .inl (cyI, 2, .inl a_many)), (h_kinds, .inl (cyI, 10, .inl a_kinds)), (h_gone, .inl (cyI, 15, .inl a_gone)), (h_at, .inl (cyI, 9, .inl a_at)), (h_counts, .inl (cyI, 5, .inl a_counts)), (h_spots, .inl (cyI, 3, .inl a_spots))]
abbrev qX8_openMany (dC : Nat → ClassId) (dI : Nat → Nat → Nat) (cyI cyJ cyZ : ClassId) (h h_text h_many h_ones h_others h_kinds h_firsts h_persons h_gone h_at h_fines h_undos h_seenOf h_seenOpen h_path h_told h_counts h_spots h_far h_row h_begins h_ways h_next : Nat) (i_length : Int32) (i_keptMany : Int32) (i_undoMany : Int32) (i_seenMany : Int32) (i_pathMany : Int32) (i_place : Int32) (i_found : Int32) (i_walkers : Int32) (a_many : Nat → Int32) (a_kinds : Nat → Int32) (a_gone : Nat → Int32) (a_at : Nat → Int32) (a_counts : Nat → Int32) (a_spots : Nat → Int32) (post : Int32 → (Nat → Int32) → (Nat → Int32) → Prop) (A : Nat → Prop) : Array Value → State → Outcome → State → Prop := (va_Qi (fun (r : Int32) (u : (Nat → Int32) × (Nat → Int32)) => post r u.1 u.2) (bW (dC, dI) (tyG cyI cyJ cyZ) A (fun u : (Nat → Int32) × (Nat → Int32) => (wX8_openMany cyI cyJ cyZ h h_text h_many h_ones h_others h_kinds h_firsts h_persons h_gone h_at h_fines h_undos h_seenOf h_seenOpen h_path h_told h_counts h_spots h_far h_row h_begins h_ways h_next i_length i_keptMany i_undoMany i_seenMany i_pathMany i_place i_found i_walkers a_many a_kinds a_gone a_at (u.1) (u.2)))) A)
set_option maxHeartbeats 4000000 in
set_option maxRecDepth 100000 in
theorem mX8_openMany (l : Launch) (dC : Nat → ClassId) (dI : Nat → Nat → Nat) (cyI cyJ cyZ : ClassId) (h h_text h_many h_ones h_others h_kinds h_firsts h_persons h_gone h_at h_fines h_undos h_seenOf h_seenOpen h_path h_told h_counts h_spots h_far h_row h_begins h_ways h_next : Nat) (sz : Nat) (i_length : Int32) (i_keptMany : Int32) (i_undoMany : Int32) (i_seenMany : Int32) (i_pathMany : Int32) (i_place : Int32) (i_found : Int32) (i_walkers : Int32) (a_many : Nat → Int32) (a_kinds : Nat → Int32) (a_gone : Nat → Int32) (a_at : Nat → Int32) (a_counts : Nat → Int32) (a_spots : Nat → Int32) (post : Int32 → (Nat → Int32) → (Nat → Int32) → Prop) (hwp : PX8_openMany a_many a_kinds a_gone a_at a_counts a_spots post) : Met l yX8_openMany wsX8_openMany ({ frames := 2, cells := 0, slots := 0, locals := 45 } : Room) (va_Pc [.ref h] (pcW (dC, dI) sz (wX8_openMany cyI cyJ cyZ h h_text h_many h_ones h_others h_kinds h_firsts h_persons h_gone h_at h_fines h_undos h_seenOf h_seenOpen h_path h_told h_counts h_spots h_far h_row h_begins h_ways h_next i_length i_keptMany i_undoMany i_seenMany i_pathMany i_place i_found i_walkers a_many a_kinds a_gone a_at a_counts a_spots) (tyG cyI cyJ cyZ))) (qX8_openMany dC dI cyI cyJ cyZ h h_text h_many h_ones h_others h_kinds h_firsts h_persons h_gone h_at h_fines h_undos h_seenOf h_seenOpen h_path h_told h_counts h_spots h_far h_row h_begins h_ways h_next i_length i_keptMany i_undoMany i_seenMany i_pathMany i_place i_found i_walkers a_many a_kinds a_gone a_at a_counts a_spots post (va_A (wX8_openMany cyI cyJ cyZ h h_text h_many h_ones h_others h_kinds h_firsts h_persons h_gone h_at h_fines h_undos h_seenOf h_seenOpen h_path h_told h_counts h_spots h_far h_row h_begins h_ways h_next i_length i_keptMany i_undoMany i_seenMany i_pathMany i_place i_found i_walkers a_many a_kinds a_gone a_at a_counts a_spots) sz)) 0 0 (va_A (wX8_openMany cyI cyJ cyZ h h_text h_many h_ones h_others h_kinds h_firsts h_persons h_gone h_at h_fines h_undos h_seenOf h_seenOpen h_path h_told h_counts h_spots h_far h_row h_begins h_ways h_next i_length i_keptMany i_undoMany i_seenMany i_pathMany i_place i_found i_walkers a_many a_kinds a_gone a_at a_counts a_spots) sz) := by
  refine Met.ofW (cc := cX8_openMany) (maxL := 3) (ret := some .int) (by decide) rfl ?_
  intro p e s m args below meth c s₁ B hml hv
  obtain ⟨rfl, hsz, hP, hK, hD0, hN⟩ := hv
  have hx := B.exec
  have hb := B.bytes
  have hr := B.returns
  have hts := atoms_spec (ws := wsX8_openMany) B.pre
  have hown : s.vm.findClass RX8 = some m.cls := findClass_of_methodNamed B.named
  have hlocks := B.notSynchronized
  subst hsz
  have hD := hD0.self (sz := s.heap.size)
  generalize hAe : va_A (wX8_openMany cyI cyJ cyZ h h_text h_many h_ones h_others h_kinds h_firsts h_persons h_gone h_at h_fines h_undos h_seenOf h_seenOpen h_path h_told h_counts h_spots h_far h_row h_begins h_ways h_next i_length i_keptMany i_undoMany i_seenMany i_pathMany i_place i_found i_walkers a_many a_kinds a_gone a_at a_counts a_spots) s.heap.size = A at hD ⊢
  have hA : ∀ q : Nat, s.heap.size ≤ q → A q := fun q h => by rw [← hAe]; exact Or.inr h
  have hW : Wd (dC, dI) A s.heap (wX8_openMany cyI cyJ cyZ h h_text h_many h_ones h_others h_kinds h_firsts h_persons h_gone h_at h_fines h_undos h_seenOf h_seenOpen h_path h_told h_counts h_spots h_far h_row h_begins h_ways h_next i_length i_keptMany i_undoMany i_seenMany i_pathMany i_place i_found i_walkers a_many a_kinds a_gone a_at a_counts a_spots) s.heap [] := ⟨hP, hD, va_S.rf⟩
  have hw := hwp
  have W_11 : ∀ (a_counts : Nat → Int32) (a_spots : Nat → Int32) (n_11 : Nat) (x1 : Int32) (x2 : Int32) (H : Heap) (locs : List Loc) (ls : Array Slot), Wd (dC, dI) A s.heap (wX8_openMany cyI cyJ cyZ h h_text h_many h_ones h_others h_kinds h_firsts h_persons h_gone h_at h_fines h_undos h_seenOf h_seenOpen h_path h_told h_counts h_spots h_far h_row h_begins h_ways h_next i_length i_keptMany i_undoMany i_seenMany i_pathMany i_place i_found i_walkers a_many a_kinds a_gone a_at a_counts a_spots) H locs → lv_has ls 3 [(1, .int x1), (2, .int x2)] → PX8_openMany_11 post a_counts a_spots n_11 x1 x2 → W p l e (({ frames := 2, cells := 0, slots := 0, locals := 45 } : Room)) s m (([.ref h] : List Value).toArray) below meth c H locs 0 0 (MQ below (qX8_openMany dC dI cyI cyJ cyZ h h_text h_many h_ones h_others h_kinds h_firsts h_persons h_gone h_at h_fines h_undos h_seenOf h_seenOpen h_path h_told h_counts h_spots h_far h_row h_begins h_ways h_next i_length i_keptMany i_undoMany i_seenMany i_pathMany i_place i_found i_walkers a_many a_kinds a_gone a_at a_counts a_spots post A) (([.ref h] : List Value).toArray) s 0 0 A) (F0 m 11 ls []) := by
    intro a_counts a_spots n_11
    induction n_11 with
    | zero =>
      intro x1 x2 H locs ls hW hl hw
      exact False.elim hw
    | succ n_11 ih_11 =>
      intro x1 x2 H locs ls hW hl hw
      refine lv_iload_n hx hb dX8_openMany_11 rfl (lv_at hl 1 rfl) ?_
      refine lv_if_eq (tgt := 27) hx hb dX8_openMany_12 (by decide) (fun c_1 => ?_) (fun c_1 => ?_)
      · replace hw := hw.1 c_1
        refine lv_iload_n hx hb dX8_openMany_27 rfl (lv_at hl 0 rfl) ?_
        refine zw_iret (S := (Nat → Int32) × (Nat → Int32)) (post := fun r u => post r u.1 u.2) (a_counts, a_spots) hx hb hr hlocks hK hW hw ?_ dX8_openMany_28
        rfl
      · replace hw := hw.2 c_1
        obtain ⟨x1_2, ex1_2⟩ : ∃ y : Int32, y = x1 + 1 := ⟨_, rfl⟩
        replace hw := hw x1_2 ex1_2
        refine lv_iinc (v := x1_2) (lv' := [(1, .int x1_2), (2, .int x2)]) hx hb dX8_openMany_15 hl (k := 0) rfl (by rw [ex1_2]; rfl) (by decide) rfl (fun ls hl => ?_)
        refine lv_iload_n hx hb dX8_openMany_18 rfl (lv_at hl 1 rfl) ?_
        refine lv_iload_n hx hb dX8_openMany_19 rfl (lv_at hl 1 rfl) ?_
        refine lv_iconst (v := 1) hx hb dX8_openMany_20 (by decide) ?_
        refine lv_isub hx hb dX8_openMany_21 ?_
        refine lv_iand hx hb dX8_openMany_22 ?_
        refine lv_topi (fun x2_3 ex2_3 => ?_)
        replace hw := hw x2_3 ex2_3
        refine lv_istore_n (lv' := [(2, .int x2_3), (1, .int x1_2)]) hx hb dX8_openMany_23 rfl hl (by decide) rfl (fun ls hl => ?_)
        refine lv_goto (tgt := 11) hx hb dX8_openMany_24 (by decide) ?_
        exact ih_11 x1_2 x2_3 _ _ _ hW (lv_sub hl [1, 0] rfl) hw
  have hl := lv_entry ([.ref h]) (n := 3) (Nat.le_of_ble_eq_true rfl)
  rw [lg_entry_eq]
  generalize (lg_sl ([.ref h]) ++ List.replicate (3 - (lg_sl ([.ref h])).length) Slot.unset).toArray = ls at hl ⊢
  have hl : lv_has ls 3 [(0, .ref h)] := hl
  refine lv_aload_n hx hb dX8_openMany_0 rfl (lv_at hl 0 rfl) ?_
  refine zw_Vv ⟨hx, hb, hml, hown, hts⟩ hK hN hA hW 0 rfl (T := TX8) (N := 30) rfl [] [] [0, 3, 4, 5, 6] [1, 2] [2, 0, 1, 3, 4, 5, 6] (fun u => (wX8_openMany cyI cyJ cyZ h h_text h_many h_ones h_others h_kinds h_firsts h_persons h_gone h_at h_fines h_undos h_seenOf h_seenOpen h_path h_told h_counts h_spots h_far h_row h_begins h_ways h_next i_length i_keptMany i_undoMany i_seenMany i_pathMany i_place i_found i_walkers a_many a_kinds a_gone a_at (u.1) (u.2))) (mX8_layNow l dC dI cyI cyJ cyZ h h_text h_many h_ones h_others h_kinds h_firsts h_persons h_gone h_at h_fines h_undos h_seenOf h_seenOpen h_path h_told h_counts h_spots h_far h_row h_begins h_ways h_next _ i_length i_keptMany i_undoMany i_seenMany i_pathMany i_place i_found i_walkers a_gone a_at a_counts a_spots _ hw) (cwV 0 hts gX8_openMany_X8_layNow rfl rfl rfl (by decide +kernel) ⟨Nat.le_of_ble_eq_true rfl, Nat.le_of_ble_eq_true rfl⟩) rfl rfl rfl rfl (by decide) rfl (fun _ => rfl) rfl hl.1 rfl (Nat.le_of_ble_eq_true rfl) (Nat.le_of_ble_eq_true rfl) (Nat.le_of_ble_eq_true rfl) dX8_openMany_1 (fun u H locs hw hW => ?_)
  obtain ⟨a_counts_4, a_spots_5⟩ := u
  try dsimp only at hw
  replace hW : Wd (dC, dI) A s.heap (wX8_openMany cyI cyJ cyZ h h_text h_many h_ones h_others h_kinds h_firsts h_persons h_gone h_at h_fines h_undos h_seenOf h_seenOpen h_path h_told h_counts h_spots h_far h_row h_begins h_ways h_next i_length i_keptMany i_undoMany i_seenMany i_pathMany i_place i_found i_walkers a_many a_kinds a_gone a_at a_counts_4 a_spots_5) H locs := hW
  refine lv_iconst (v := 0) hx hb dX8_openMany_4 (by decide) ?_
  refine lv_istore_n (lv' := [(1, .int 0), (0, .ref h)]) hx hb dX8_openMany_5 rfl hl (by decide) rfl (fun ls hl => ?_)
  refine lv_aload_n hx hb dX8_openMany_6 rfl (lv_at hl 1 rfl) ?_
  refine zw_Vi ⟨hx, hb, hml, hown, hts⟩ hK hN hA hW 0 rfl (T := TX8) (N := 30) rfl [] [] [0, 1, 2, 5] [3, 4, 6] [3, 4, 5, 0, 1, 6, 2] (fun _ => (wX8_openMany cyI cyJ cyZ h h_text h_many h_ones h_others h_kinds h_firsts h_persons h_gone h_at h_fines h_undos h_seenOf h_seenOpen h_path h_told h_counts h_spots h_far h_row h_begins h_ways h_next i_length i_keptMany i_undoMany i_seenMany i_pathMany i_place i_found i_walkers a_many a_kinds a_gone a_at a_counts_4 a_spots_5)) (mX8_openSet l dC dI cyI cyJ cyZ h h_text h_many h_ones h_others h_kinds h_firsts h_persons h_gone h_at h_fines h_undos h_seenOf h_seenOpen h_path h_told h_counts h_spots h_far h_row h_begins h_ways h_next _ i_length i_keptMany i_undoMany i_seenMany i_pathMany i_place i_found i_walkers a_many a_kinds a_counts_4 _ hw) (cwV 0 hts gX8_openMany_X8_openSet rfl rfl rfl (by decide +kernel) ⟨Nat.le_of_ble_eq_true rfl, Nat.le_of_ble_eq_true rfl⟩) rfl rfl rfl rfl (by decide) rfl (fun _ => rfl) rfl hl.1 rfl (Nat.le_of_ble_eq_true rfl) (Nat.le_of_ble_eq_true rfl) (Nat.le_of_ble_eq_true rfl) dX8_openMany_7 (fun r_6 u H locs hw hW => ?_)
  refine lv_istore_n (lv' := [(2, .int r_6), (1, .int 0), (0, .ref h)]) hx hb dX8_openMany_10 rfl hl (by decide) rfl (fun ls hl => ?_)
  obtain ⟨n_11, hw⟩ := hw
  exact W_11 a_counts_4 a_spots_5 n_11 0 r_6 _ _ _ hW (lv_sub hl [1, 0] rfl) hw
abbrev wX8_count (cyI cyJ cyZ : ClassId) (h h_text h_many h_ones h_others h_kinds h_firsts h_persons h_gone h_at h_fines h_undos h_seenOf h_seenOpen h_path h_told h_counts h_spots h_far h_row h_begins h_ways h_next : Nat) (i_length : Int32) (i_keptMany : Int32) (i_undoMany : Int32) (i_seenMany : Int32) (i_pathMany : Int32) (i_place : Int32) (i_found : Int32) (i_walkers : Int32) (a_many : Nat → Int32) (a_kinds : Nat → Int32) (a_persons : Nat → Int32) (a_gone : Nat → Int32) (a_at : Nat → Int32) (a_fines : Nat → Int32) (a_counts : Nat → Int32) (a_spots : Nat → Int32) : va_W := [(h, .inr (8, [.int i_length, .ref h_text, .ref h_many, .ref h_ones, .ref h_others, .ref h_kinds, .ref h_firsts, .ref h_persons, .ref h_gone, .ref h_at, .ref h_fines, .int i_keptMany, .int i_undoMany, .ref h_undos, .int i_seenMany, .ref h_seenOf, .ref h_seenOpen, .int i_pathMany, .ref h_path, .int i_place, .ref h_told, .ref h_counts, .ref h_spots, .ref h_far, .ref h_row, .ref h_begins, .int i_found, .int i_walkers, .ref h_ways, .ref h_next])), (h_many, .inl (cyI, 2, .inl a_many)), (h_kinds, .inl (cyI, 10, .inl a_kinds)), (h_persons, .inl (cyI, 2, .inl a_persons)), (h_gone, .inl (cyI, 15, .inl a_gone)), (h_at, .inl (cyI, 9, .inl a_at)), (h_fines, .inl (cyI, 3, .inl a_fines)), (h_counts, .inl (cyI, 5, .inl a_counts)), (h_spots, .inl (cyI, 3, .inl a_spots))]
abbrev qX8_count (dC : Nat → ClassId) (dI : Nat → Nat → Nat) (cyI cyJ cyZ : ClassId) (h h_text h_many h_ones h_others h_kinds h_firsts h_persons h_gone h_at h_fines h_undos h_seenOf h_seenOpen h_path h_told h_counts h_spots h_far h_row h_begins h_ways h_next : Nat) (i_length : Int32) (i_keptMany : Int32) (i_undoMany : Int32) (i_seenMany : Int32) (i_pathMany : Int32) (i_place : Int32) (i_found : Int32) (i_walkers : Int32) (a_many : Nat → Int32) (a_kinds : Nat → Int32) (a_persons : Nat → Int32) (a_gone : Nat → Int32) (a_at : Nat → Int32) (a_fines : Nat → Int32) (a_counts : Nat → Int32) (a_spots : Nat → Int32) (post : Int32 → (Nat → Int32) → (Nat → Int32) → Prop) (A : Nat → Prop) : Array Value → State → Outcome → State → Prop := (va_Qi (fun (r : Int32) (u : (Nat → Int32) × (Nat → Int32)) => post r u.1 u.2) (bW (dC, dI) (tyG cyI cyJ cyZ) A (fun u : (Nat → Int32) × (Nat → Int32) => (wX8_count cyI cyJ cyZ h h_text h_many h_ones h_others h_kinds h_firsts h_persons h_gone h_at h_fines h_undos h_seenOf h_seenOpen h_path h_told h_counts h_spots h_far h_row h_begins h_ways h_next i_length i_keptMany i_undoMany i_seenMany i_pathMany i_place i_found i_walkers a_many a_kinds a_persons a_gone a_at a_fines (u.1) (u.2)))) A)
set_option maxHeartbeats 4000000 in
set_option maxRecDepth 100000 in
theorem mX8_count (l : Launch) (dC : Nat → ClassId) (dI : Nat → Nat → Nat) (cyI cyJ cyZ : ClassId) (h h_text h_many h_ones h_others h_kinds h_firsts h_persons h_gone h_at h_fines h_undos h_seenOf h_seenOpen h_path h_told h_counts h_spots h_far h_row h_begins h_ways h_next : Nat) (sz : Nat) (i_length : Int32) (i_keptMany : Int32) (i_undoMany : Int32) (i_seenMany : Int32) (i_pathMany : Int32) (i_place : Int32) (i_found : Int32) (i_walkers : Int32) (a_many : Nat → Int32) (a_kinds : Nat → Int32) (a_persons : Nat → Int32) (a_gone : Nat → Int32) (a_at : Nat → Int32) (a_fines : Nat → Int32) (a_counts : Nat → Int32) (a_spots : Nat → Int32) (x1 : Int32) (post : Int32 → (Nat → Int32) → (Nat → Int32) → Prop) (hwp : PX8_count x1 i_length i_keptMany i_undoMany i_seenMany i_pathMany a_many a_kinds a_persons a_gone a_at a_fines a_counts a_spots post) : Met l yX8_count wsX8_count ({ frames := 3, cells := 0, slots := 0, locals := 67 } : Room) (va_Pc [.ref h, .int x1] (pcW (dC, dI) sz (wX8_count cyI cyJ cyZ h h_text h_many h_ones h_others h_kinds h_firsts h_persons h_gone h_at h_fines h_undos h_seenOf h_seenOpen h_path h_told h_counts h_spots h_far h_row h_begins h_ways h_next i_length i_keptMany i_undoMany i_seenMany i_pathMany i_place i_found i_walkers a_many a_kinds a_persons a_gone a_at a_fines a_counts a_spots) (tyG cyI cyJ cyZ))) (qX8_count dC dI cyI cyJ cyZ h h_text h_many h_ones h_others h_kinds h_firsts h_persons h_gone h_at h_fines h_undos h_seenOf h_seenOpen h_path h_told h_counts h_spots h_far h_row h_begins h_ways h_next i_length i_keptMany i_undoMany i_seenMany i_pathMany i_place i_found i_walkers a_many a_kinds a_persons a_gone a_at a_fines a_counts a_spots post (va_A (wX8_count cyI cyJ cyZ h h_text h_many h_ones h_others h_kinds h_firsts h_persons h_gone h_at h_fines h_undos h_seenOf h_seenOpen h_path h_told h_counts h_spots h_far h_row h_begins h_ways h_next i_length i_keptMany i_undoMany i_seenMany i_pathMany i_place i_found i_walkers a_many a_kinds a_persons a_gone a_at a_fines a_counts a_spots) sz)) 0 0 (va_A (wX8_count cyI cyJ cyZ h h_text h_many h_ones h_others h_kinds h_firsts h_persons h_gone h_at h_fines h_undos h_seenOf h_seenOpen h_path h_told h_counts h_spots h_far h_row h_begins h_ways h_next i_length i_keptMany i_undoMany i_seenMany i_pathMany i_place i_found i_walkers a_many a_kinds a_persons a_gone a_at a_fines a_counts a_spots) sz) := by
  refine Met.ofW (cc := cX8_count) (maxL := 2) (ret := some .int) (by decide) rfl ?_
  intro p e s m args below meth c s₁ B hml hv
  obtain ⟨rfl, hsz, hP, hK, hD0, hN⟩ := hv
  have hx := B.exec
  have hb := B.bytes
  have hr := B.returns
  have hts := atoms_spec (ws := wsX8_count) B.pre
  have hown : s.vm.findClass RX8 = some m.cls := findClass_of_methodNamed B.named
  have hlocks := B.notSynchronized
  subst hsz
  have hD := hD0.self (sz := s.heap.size)
  generalize hAe : va_A (wX8_count cyI cyJ cyZ h h_text h_many h_ones h_others h_kinds h_firsts h_persons h_gone h_at h_fines h_undos h_seenOf h_seenOpen h_path h_told h_counts h_spots h_far h_row h_begins h_ways h_next i_length i_keptMany i_undoMany i_seenMany i_pathMany i_place i_found i_walkers a_many a_kinds a_persons a_gone a_at a_fines a_counts a_spots) s.heap.size = A at hD ⊢
  have hA : ∀ q : Nat, s.heap.size ≤ q → A q := fun q h => by rw [← hAe]; exact Or.inr h
  have hW : Wd (dC, dI) A s.heap (wX8_count cyI cyJ cyZ h h_text h_many h_ones h_others h_kinds h_firsts h_persons h_gone h_at h_fines h_undos h_seenOf h_seenOpen h_path h_told h_counts h_spots h_far h_row h_begins h_ways h_next i_length i_keptMany i_undoMany i_seenMany i_pathMany i_place i_found i_walkers a_many a_kinds a_persons a_gone a_at a_fines a_counts a_spots) s.heap [] := ⟨hP, hD, va_S.rf⟩
  have hw := hwp
  have hiX8 : ∀ w ∈ u_ws RX8 TX8 30, w ∈ wsX8_count := fun _ h => List.mem_cons_of_mem _ (List.mem_append_right _ h)
  have k_0 := hts (.fieldLink RX8 13 "OddLetsInModel" "many" "[I") (List.mem_of_getElem? (i := 1) rfl)
  have k_1 := hts (.fieldLink RX8 28 "OddLetsInModel" "persons" "[I") (List.mem_of_getElem? (i := 2) rfl)
  have k_2 := hts (.fieldLink RX8 37 "OddLetsInModel" "fines" "[I") (List.mem_of_getElem? (i := 3) rfl)
  have k_3 := hts (.fieldLink RX8 125 "OddLetsInModel" "seenMany" "I") (List.mem_of_getElem? (i := 4) rfl)
  have k_4 := hts (.fieldLink RX8 128 "OddLetsInModel" "pathMany" "I") (List.mem_of_getElem? (i := 5) rfl)
  have k_5 := hts (.fieldLink RX8 122 "OddLetsInModel" "undoMany" "I") (List.mem_of_getElem? (i := 6) rfl)
  have k_6 := hts (.fieldLink RX8 119 "OddLetsInModel" "keptMany" "I") (List.mem_of_getElem? (i := 7) rfl)
  have k_7 := hts (.fieldLink RX8 86 "OddLetsInModel" "length" "I") (List.mem_of_getElem? (i := 8) rfl)
  have hl := lv_entry ([.ref h, .int x1]) (n := 2) (Nat.le_of_ble_eq_true rfl)
  rw [lg_entry_eq]
  generalize (lg_sl ([.ref h, .int x1]) ++ List.replicate (2 - (lg_sl ([.ref h, .int x1])).length) Slot.unset).toArray = ls at hl ⊢
  have hl : lv_has ls 2 [(0, .ref h), (1, .int x1)] := hl
  refine lv_iload_n hx hb dX8_count_0 rfl (lv_at hl 1 rfl) ?_
  refine lv_topi (fun t_1 et_1 => ?_)
  replace hw := hw t_1 et_1
  by_cases c_2 : t_1 = 0
  · replace hw := hw.1 c_2
    refine lv_tableIn (off := 51) (tgt := 52) hx hb dX8_count_1 (by rw [c_2]; decide) (by rw [c_2]; decide) (by rw [c_2]; decide) (by decide) ?_
    refine lv_aload_n hx hb dX8_count_52 rfl (lv_at hl 0 rfl) ?_
    refine zw_get (ci := 8) (C := RX8) (T := TX8) (N := 30) (v := .ref h_many) hx hb hts hiX8 hown hK hW 0 rfl rfl 2 (by decide) rfl k_0 dX8_count_53 ?_
    refine lv_iconst (v := 0) hx hb dX8_count_56 (by decide) ?_
    refine zw_iald hx hb hK hW 1 rfl rfl hw.1 dX8_count_57 ?_
    replace hw := hw.2
    refine zw_iret (S := (Nat → Int32) × (Nat → Int32)) (post := fun r u => post r u.1 u.2) (a_counts, a_spots) hx hb hr hlocks hK hW hw ?_ dX8_count_58
    rfl
  · replace hw := hw.2 c_2
    by_cases c_3 : t_1 = 1
    · replace hw := hw.1 c_3
      refine lv_tableIn (off := 58) (tgt := 59) hx hb dX8_count_1 (by rw [c_3]; decide) (by rw [c_3]; decide) (by rw [c_3]; decide) (by decide) ?_
      refine lv_aload_n hx hb dX8_count_59 rfl (lv_at hl 0 rfl) ?_
      refine zw_get (ci := 8) (C := RX8) (T := TX8) (N := 30) (v := .ref h_persons) hx hb hts hiX8 hown hK hW 0 rfl rfl 7 (by decide) rfl k_1 dX8_count_60 ?_
      refine lv_iconst (v := 0) hx hb dX8_count_63 (by decide) ?_
      refine zw_iald hx hb hK hW 3 rfl rfl hw.1 dX8_count_64 ?_
      replace hw := hw.2
      refine zw_iret (S := (Nat → Int32) × (Nat → Int32)) (post := fun r u => post r u.1 u.2) (a_counts, a_spots) hx hb hr hlocks hK hW hw ?_ dX8_count_65
      rfl
    · replace hw := hw.2 c_3
      by_cases c_4 : t_1 = 2
      · replace hw := hw.1 c_4
        refine lv_tableIn (off := 65) (tgt := 66) hx hb dX8_count_1 (by rw [c_4]; decide) (by rw [c_4]; decide) (by rw [c_4]; decide) (by decide) ?_
        refine lv_aload_n hx hb dX8_count_66 rfl (lv_at hl 0 rfl) ?_
        refine zw_get (ci := 8) (C := RX8) (T := TX8) (N := 30) (v := .ref h_fines) hx hb hts hiX8 hown hK hW 0 rfl rfl 10 (by decide) rfl k_2 dX8_count_67 ?_
        refine lv_iconst (v := 0) hx hb dX8_count_70 (by decide) ?_
        refine zw_iald hx hb hK hW 6 rfl rfl hw.1 dX8_count_71 ?_
        replace hw := hw.2
        refine zw_iret (S := (Nat → Int32) × (Nat → Int32)) (post := fun r u => post r u.1 u.2) (a_counts, a_spots) hx hb hr hlocks hK hW hw ?_ dX8_count_72
        rfl
      · replace hw := hw.2 c_4
        by_cases c_5 : t_1 = 3
        · replace hw := hw.1 c_5
          refine lv_tableIn (off := 72) (tgt := 73) hx hb dX8_count_1 (by rw [c_5]; decide) (by rw [c_5]; decide) (by rw [c_5]; decide) (by decide) ?_
          refine lv_aload_n hx hb dX8_count_73 rfl (lv_at hl 0 rfl) ?_
          refine zw_Vi ⟨hx, hb, hml, hown, hts⟩ hK hN hA hW 0 rfl (T := TX8) (N := 30) rfl [] [] [0, 1, 2, 4, 5, 7, 8] [3, 6] [2, 3, 4, 0, 5, 6, 1, 7, 8] (fun u => (wX8_count cyI cyJ cyZ h h_text h_many h_ones h_others h_kinds h_firsts h_persons h_gone h_at h_fines h_undos h_seenOf h_seenOpen h_path h_told h_counts h_spots h_far h_row h_begins h_ways h_next i_length i_keptMany i_undoMany i_seenMany i_pathMany i_place i_found i_walkers a_many a_kinds a_persons a_gone a_at a_fines (u.1) (u.2))) (mX8_openMany l dC dI cyI cyJ cyZ h h_text h_many h_ones h_others h_kinds h_firsts h_persons h_gone h_at h_fines h_undos h_seenOf h_seenOpen h_path h_told h_counts h_spots h_far h_row h_begins h_ways h_next _ i_length i_keptMany i_undoMany i_seenMany i_pathMany i_place i_found i_walkers a_many a_kinds a_gone a_at a_counts a_spots _ hw) (cwV 0 hts gX8_count_X8_openMany rfl rfl rfl (by decide +kernel) ⟨Nat.le_of_ble_eq_true rfl, Nat.le_of_ble_eq_true rfl⟩) rfl rfl rfl rfl (by decide) rfl (fun _ => rfl) rfl hl.1 rfl (Nat.le_of_ble_eq_true rfl) (Nat.le_of_ble_eq_true rfl) (Nat.le_of_ble_eq_true rfl) dX8_count_74 (fun r_8 u H locs hw hW => ?_)
          obtain ⟨a_counts_6, a_spots_7⟩ := u
          try dsimp only at hw
          replace hW : Wd (dC, dI) A s.heap (wX8_count cyI cyJ cyZ h h_text h_many h_ones h_others h_kinds h_firsts h_persons h_gone h_at h_fines h_undos h_seenOf h_seenOpen h_path h_told h_counts h_spots h_far h_row h_begins h_ways h_next i_length i_keptMany i_undoMany i_seenMany i_pathMany i_place i_found i_walkers a_many a_kinds a_persons a_gone a_at a_fines a_counts_6 a_spots_7) H locs := hW
          refine zw_iret (S := (Nat → Int32) × (Nat → Int32)) (post := fun r u => post r u.1 u.2) (a_counts_6, a_spots_7) hx hb hr hlocks hK hW hw ?_ dX8_count_77
          rfl
        · replace hw := hw.2 c_5
          by_cases c_9 : t_1 = 4
          · replace hw := hw.1 c_9
            refine lv_tableIn (off := 77) (tgt := 78) hx hb dX8_count_1 (by rw [c_9]; decide) (by rw [c_9]; decide) (by rw [c_9]; decide) (by decide) ?_
            refine lv_aload_n hx hb dX8_count_78 rfl (lv_at hl 0 rfl) ?_
            refine zw_get (ci := 8) (C := RX8) (T := TX8) (N := 30) (v := .int i_seenMany) hx hb hts hiX8 hown hK hW 0 rfl rfl 14 (by decide) rfl k_3 dX8_count_79 ?_
            refine zw_iret (S := (Nat → Int32) × (Nat → Int32)) (post := fun r u => post r u.1 u.2) (a_counts, a_spots) hx hb hr hlocks hK hW hw ?_ dX8_count_82
            rfl
          · replace hw := hw.2 c_9
            by_cases c_10 : t_1 = 5
            · replace hw := hw.1 c_10
              refine lv_tableIn (off := 82) (tgt := 83) hx hb dX8_count_1 (by rw [c_10]; decide) (by rw [c_10]; decide) (by rw [c_10]; decide) (by decide) ?_
              refine lv_aload_n hx hb dX8_count_83 rfl (lv_at hl 0 rfl) ?_
              refine zw_get (ci := 8) (C := RX8) (T := TX8) (N := 30) (v := .int i_pathMany) hx hb hts hiX8 hown hK hW 0 rfl rfl 17 (by decide) rfl k_4 dX8_count_84 ?_
              refine zw_iret (S := (Nat → Int32) × (Nat → Int32)) (post := fun r u => post r u.1 u.2) (a_counts, a_spots) hx hb hr hlocks hK hW hw ?_ dX8_count_87
              rfl
            · replace hw := hw.2 c_10
              by_cases c_11 : t_1 = 6
              · replace hw := hw.1 c_11
                refine lv_tableIn (off := 87) (tgt := 88) hx hb dX8_count_1 (by rw [c_11]; decide) (by rw [c_11]; decide) (by rw [c_11]; decide) (by decide) ?_
                refine lv_aload_n hx hb dX8_count_88 rfl (lv_at hl 0 rfl) ?_
                refine zw_get (ci := 8) (C := RX8) (T := TX8) (N := 30) (v := .int i_undoMany) hx hb hts hiX8 hown hK hW 0 rfl rfl 12 (by decide) rfl k_5 dX8_count_89 ?_
                refine zw_iret (S := (Nat → Int32) × (Nat → Int32)) (post := fun r u => post r u.1 u.2) (a_counts, a_spots) hx hb hr hlocks hK hW hw ?_ dX8_count_92
                rfl
              · replace hw := hw.2 c_11
                by_cases c_12 : t_1 = 7
                · replace hw := hw.1 c_12
                  refine lv_tableIn (off := 92) (tgt := 93) hx hb dX8_count_1 (by rw [c_12]; decide) (by rw [c_12]; decide) (by rw [c_12]; decide) (by decide) ?_
                  refine lv_aload_n hx hb dX8_count_93 rfl (lv_at hl 0 rfl) ?_
                  refine zw_get (ci := 8) (C := RX8) (T := TX8) (N := 30) (v := .int i_keptMany) hx hb hts hiX8 hown hK hW 0 rfl rfl 11 (by decide) rfl k_6 dX8_count_94 ?_
                  refine zw_iret (S := (Nat → Int32) × (Nat → Int32)) (post := fun r u => post r u.1 u.2) (a_counts, a_spots) hx hb hr hlocks hK hW hw ?_ dX8_count_97
                  rfl
                · replace hw := hw.2 c_12
                  by_cases c_13 : t_1 = 8
                  · replace hw := hw.1 c_13
                    refine lv_tableIn (off := 97) (tgt := 98) hx hb dX8_count_1 (by rw [c_13]; decide) (by rw [c_13]; decide) (by rw [c_13]; decide) (by decide) ?_
                    refine lv_aload_n hx hb dX8_count_98 rfl (lv_at hl 0 rfl) ?_
                    refine zw_get (ci := 8) (C := RX8) (T := TX8) (N := 30) (v := .int i_length) hx hb hts hiX8 hown hK hW 0 rfl rfl 0 (by decide) rfl k_7 dX8_count_99 ?_
                    refine zw_iret (S := (Nat → Int32) × (Nat → Int32)) (post := fun r u => post r u.1 u.2) (a_counts, a_spots) hx hb hr hlocks hK hW hw ?_ dX8_count_102
                    rfl
                  · replace hw := hw.2 c_13
                    refine lv_tableOut (tgt := 103) hx hb dX8_count_1 (zb_ts 8 (fun k hk => by rcases (show k = 0 ∨ k = 1 ∨ k = 2 ∨ k = 3 ∨ k = 4 ∨ k = 5 ∨ k = 6 ∨ k = 7 ∨ k = 8 by omega) with rfl | rfl | rfl | rfl | rfl | rfl | rfl | rfl | rfl <;> assumption) (by decide)) (by decide) ?_
                    refine lv_iconst (v := (-1)) hx hb dX8_count_103 (by decide) ?_
                    refine zw_iret (S := (Nat → Int32) × (Nat → Int32)) (post := fun r u => post r u.1 u.2) (a_counts, a_spots) hx hb hr hlocks hK hW hw ?_ dX8_count_104
                    rfl
