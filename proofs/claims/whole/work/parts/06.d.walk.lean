set_option maxHeartbeats 4000000 in
set_option maxRecDepth 100000 in
theorem mX6_init (l : Launch) (dC : Nat → ClassId) (dI : Nat → Nat → Nat) (cyI cyJ cyZ : ClassId) (h sz : Nat) : Met l yX6_init wsX6_init ({ frames := 2, cells := 10, slots := 4297, locals := 40 } : Room) (va_Pc [.ref h] (pcW (dC, dI) sz [(h, .inr (6, [.int 0, .int 0, .null, .int 0, .int 0, .int 0, .null, .null, .null, .int 0, .null]))] (tyG cyI cyJ cyZ))) (va_Qv (fun _ : Nat × Nat × Nat × Nat × Nat × Nat × Nat × Nat × Nat × Nat => True) (bW (dC, dI) (tyG cyI cyJ cyZ) (va_A [(h, .inr (6, [.int 0, .int 0, .null, .int 0, .int 0, .int 0, .null, .null, .null, .int 0, .null]))] sz) (fun u : Nat × Nat × Nat × Nat × Nat × Nat × Nat × Nat × Nat × Nat => ([(h, .inr (6, [.int (-4), .int (-4), .ref (u.1), .int 0, .int 0, .int 0, .ref (u.2.2.2.2.2.2.1), .ref (u.2.2.2.2.2.2.2.1), .ref (u.2.2.2.2.2.2.2.2.1), .int 0, .ref (u.2.2.2.2.2.2.2.2.2)])), ((u.1), .inr (2, [.ref (u.2.1), .ref (u.2.2.1), .ref (u.2.2.2.1), .ref (u.2.2.2.2.1), .int 0, .ref (u.2.2.2.2.2.1), .int 2, .int 0])), ((u.2.1), .inl (cyI, 5, .inl (fun _ => 0))), ((u.2.2.1), .inl (cyI, 5, .inl (fun _ => 0))), ((u.2.2.2.1), .inl (cyI, 5, .inl (fun _ => 0))), ((u.2.2.2.2.1), .inl (cyI, 5, .inl (fun _ => 0))), ((u.2.2.2.2.2.1), .inl (cyI, 3, .inl (fun _ => 0))), ((u.2.2.2.2.2.2.1), .inl (cyI, 5, .inl (fun _ => 0))), ((u.2.2.2.2.2.2.2.1), .inl (cyI, 5, .inl (fun _ => 0))), ((u.2.2.2.2.2.2.2.2.1), .inl (cyI, 4000, .inl (fun _ => 0))), ((u.2.2.2.2.2.2.2.2.2), .inl (cyJ, 256, .inr (.inl (fun _ => 0))))] : va_W))) (va_A [(h, .inr (6, [.int 0, .int 0, .null, .int 0, .int 0, .int 0, .null, .null, .null, .int 0, .null]))] sz)) 10 4297 (va_A [(h, .inr (6, [.int 0, .int 0, .null, .int 0, .int 0, .int 0, .null, .null, .null, .int 0, .null]))] sz) := by
  refine Met.ofW (cc := cX6_init) (maxL := 1) (ret := none) (by decide) rfl ?_
  intro p e s m args below meth c s₁ B hml hv
  obtain ⟨rfl, hsz, hP, hK, hD0, hN⟩ := hv
  have hx := B.exec
  have hb := B.bytes
  have hr := B.returns
  have hts := atoms_spec (ws := wsX6_init) B.pre
  have hown : s.vm.findClass RX6 = some m.cls := findClass_of_methodNamed B.named
  have hlocks := B.notSynchronized
  have hin : meth.name = "<init>" := (name_of_methodNamed B.named B.method).1
  subst hsz
  have hD := hD0.self (sz := s.heap.size)
  generalize hAe : va_A [(h, .inr (6, [.int 0, .int 0, .null, .int 0, .int 0, .int 0, .null, .null, .null, .int 0, .null]))] s.heap.size = A at hD ⊢
  have hA : ∀ q : Nat, s.heap.size ≤ q → A q := fun q h => by rw [← hAe]; exact Or.inr h
  have hW : Wd (dC, dI) A s.heap ([(h, .inr (6, [.int 0, .int 0, .null, .int 0, .int 0, .int 0, .null, .null, .null, .int 0, .null]))] : va_W) s.heap [] := ⟨hP, hD, va_S.rf⟩
  have hw := trivial
  have hiX6 : ∀ w ∈ u_ws RX6 TX6 11, w ∈ wsX6_init := fun _ h => List.mem_cons_of_mem _ (List.mem_append_left _ (List.mem_append_right _ h))
  have hiX2 : ∀ w ∈ u_ws RX2 TX2 8, w ∈ wsX6_init := fun _ h => List.mem_cons_of_mem _ (List.mem_append_right _ h)
  have k_0 := hts (.methodLink RX6 5 objectInit) (List.mem_of_getElem? (i := 1) rfl)
  have k_1 := hts (.instanceMethod objectInit) (List.mem_of_getElem? (i := 2) rfl)
  have k_2 := hts (.code objectInit ⟨#[0xb1]⟩ 1 none) (List.mem_of_getElem? (i := 3) rfl)
  have k_3 := hts (.fieldLink RX6 11 "OddLetsIn$Walk" "fewest" "I") (List.mem_of_getElem? (i := 4) rfl)
  have k_4 := hts (.fieldLink RX6 15 "OddLetsIn$Walk" "first" "I") (List.mem_of_getElem? (i := 5) rfl)
  have k_5 := hts (.classLink RX6 18 RX2) (List.mem_of_getElem? (i := 6) rfl)
  have k_6 := hts (.instantiable RX2 8) (List.mem_of_getElem? (i := 7) rfl)
  have k_7 := hts (.initialized RX2) (List.mem_of_getElem? (i := 8) rfl)
  have k_8 := hts (.instanceMethod yX2_init) (List.mem_of_getElem? (i := 20) rfl)
  have k_9 := hts (.fieldLink RX6 21 "OddLetsIn$Walk" "garden" "LOddLetsIn$Garden;") (List.mem_of_getElem? (i := 9) rfl)
  have k_10 := hts (.fieldLink RX6 25 "OddLetsIn$Walk" "openFromA" "I") (List.mem_of_getElem? (i := 10) rfl)
  have k_11 := hts (.fieldLink RX6 28 "OddLetsIn$Walk" "goalKind" "I") (List.mem_of_getElem? (i := 11) rfl)
  have k_12 := hts (.fieldLink RX6 31 "OddLetsIn$Walk" "goal" "I") (List.mem_of_getElem? (i := 12) rfl)
  have k_13 := hts (.arrayClass .int) (List.mem_of_getElem? (i := 13) rfl)
  have k_14 := hts (.fieldLink RX6 34 "OddLetsIn$Walk" "leaving" "[I") (List.mem_of_getElem? (i := 14) rfl)
  have k_15 := hts (.fieldLink RX6 38 "OddLetsIn$Walk" "shutBehind" "[I") (List.mem_of_getElem? (i := 15) rfl)
  have k_16 := hts (.fieldLink RX6 41 "OddLetsIn$Walk" "queue" "[I") (List.mem_of_getElem? (i := 16) rfl)
  have k_17 := hts (.fieldLink RX6 44 "OddLetsIn$Walk" "queued" "I") (List.mem_of_getElem? (i := 17) rfl)
  have k_18 := hts (.arrayClass .long) (List.mem_of_getElem? (i := 18) rfl)
  have k_19 := hts (.fieldLink RX6 47 "OddLetsIn$Walk" "reached" "[J") (List.mem_of_getElem? (i := 19) rfl)
  have hl := lv_entry ([.ref h]) (n := 1) (Nat.le_of_ble_eq_true rfl)
  rw [lg_entry_eq]
  generalize (lg_sl ([.ref h]) ++ List.replicate (1 - (lg_sl ([.ref h])).length) Slot.unset).toArray = ls at hl ⊢
  have hl : lv_has ls 1 [(0, .ref h)] := hl
  refine lv_aload_n hx hb dX6_init_0 rfl (lv_at hl 0 rfl) ?_
  refine W.objInit hx hb hown k_0 k_1 k_2 rfl (by rw [hml]; exact hl.1) rfl dX6_init_1 (Nat.le_of_ble_eq_true rfl) (Nat.le_of_ble_eq_true rfl) ?_
  refine W.eq (g2 := F0 m 4 ls []) rfl ?_
  refine lv_aload_n hx hb dX6_init_4 rfl (lv_at hl 0 rfl) ?_
  refine lv_bipush (v := (-4)) hx hb dX6_init_5 (by decide) ?_
  refine zw_put (ci := 6) (C := RX6) (T := TX6) (N := 11) (w2 := [(h, .inr (6, [.int (-4), .int 0, .null, .int 0, .int 0, .int 0, .null, .null, .null, .int 0, .null]))]) hx hb hts hiX6 tyX6 tyX6_ok nmX6 hown hK hW 0 rfl rfl 0 (by decide) (by decide +kernel) rfl (Nat.le_of_ble_eq_true rfl) rfl k_3 dX6_init_7 (fun H locs hW => ?_)
  refine lv_aload_n hx hb dX6_init_10 rfl (lv_at hl 0 rfl) ?_
  refine lv_bipush (v := (-4)) hx hb dX6_init_11 (by decide) ?_
  refine zw_put (ci := 6) (C := RX6) (T := TX6) (N := 11) (w2 := [(h, .inr (6, [.int (-4), .int (-4), .null, .int 0, .int 0, .int 0, .null, .null, .null, .int 0, .null]))]) hx hb hts hiX6 tyX6 tyX6_ok nmX6 hown hK hW 0 rfl rfl 1 (by decide) (by decide +kernel) rfl (Nat.le_of_ble_eq_true rfl) rfl k_4 dX6_init_13 (fun H locs hW => ?_)
  refine lv_aload_n hx hb dX6_init_16 rfl (lv_at hl 0 rfl) ?_
  refine zw_newo (ci := 2) (C := RX2) (T := TX2) (N := 8) hx hb hts hiX2 tyX2 tyX2_ok hown k_5 k_6 k_7 hK hA hW rfl [.null, .null, .null, .null, .int 0, .null, .int 0, .int 0] (fun j hj => by rcases (show j = 0 ∨ j = 1 ∨ j = 2 ∨ j = 3 ∨ j = 4 ∨ j = 5 ∨ j = 6 ∨ j = 7 by omega) with rfl | rfl | rfl | rfl | rfl | rfl | rfl | rfl <;> rfl) (Nat.le_of_ble_eq_true rfl) (Nat.le_of_ble_eq_true rfl) dX6_init_17 (fun h_garden H hW => ?_)
  replace hW : Wd (dC, dI) A s.heap ([(h, .inr (6, [.int (-4), .int (-4), .null, .int 0, .int 0, .int 0, .null, .null, .null, .int 0, .null])), (h_garden, .inr (2, [.null, .null, .null, .null, .int 0, .null, .int 0, .int 0]))] : va_W) H _ := hW
  refine lv_dup hx hb dX6_init_20 rfl ?_
  refine zw_INv ⟨hx, hb, hml, hown, hts⟩ hK hN hA hW h_garden [] [.ref h_garden, .ref h] [1] [0] [0, 1, 2, 3, 4, 5, 6] (fun u => ([(h, .inr (6, [.int (-4), .int (-4), .null, .int 0, .int 0, .int 0, .null, .null, .null, .int 0, .null])), (h_garden, .inr (2, [.ref (u.1), .ref (u.2.1), .ref (u.2.2.1), .ref (u.2.2.2.1), .int 0, .ref (u.2.2.2.2), .int 2, .int 0])), ((u.1), .inl (cyI, 5, .inl (fun _ => 0))), ((u.2.1), .inl (cyI, 5, .inl (fun _ => 0))), ((u.2.2.1), .inl (cyI, 5, .inl (fun _ => 0))), ((u.2.2.2.1), .inl (cyI, 5, .inl (fun _ => 0))), ((u.2.2.2.2), .inl (cyI, 3, .inl (fun _ => 0)))] : va_W)) (mX2_init l dC dI cyI cyJ cyZ h_garden _) ⟨va_cnB 0 hts gX6_init_X2_init_n20 rfl rfl rfl hN.2.2.2.2.2.2.2.1 k_7 (by decide +kernel) ⟨Nat.le_of_ble_eq_true rfl, Nat.le_of_ble_eq_true rfl⟩, rfl, k_8⟩ rfl rfl rfl rfl (by decide) rfl (fun _ => rfl) rfl hl.1 rfl (Nat.le_of_ble_eq_true rfl) (Nat.le_of_ble_eq_true rfl) (Nat.le_of_ble_eq_true rfl) dX6_init_21 (fun u H locs _ hW => ?_)
  obtain ⟨h_garden_courtA, h_garden_courtB, h_garden_kind, h_garden_gone, h_garden_court⟩ := u
  replace hW : Wd (dC, dI) A s.heap ([(h, .inr (6, [.int (-4), .int (-4), .null, .int 0, .int 0, .int 0, .null, .null, .null, .int 0, .null])), (h_garden, .inr (2, [.ref h_garden_courtA, .ref h_garden_courtB, .ref h_garden_kind, .ref h_garden_gone, .int 0, .ref h_garden_court, .int 2, .int 0])), (h_garden_courtA, .inl (cyI, 5, .inl (fun _ => 0))), (h_garden_courtB, .inl (cyI, 5, .inl (fun _ => 0))), (h_garden_kind, .inl (cyI, 5, .inl (fun _ => 0))), (h_garden_gone, .inl (cyI, 5, .inl (fun _ => 0))), (h_garden_court, .inl (cyI, 3, .inl (fun _ => 0)))] : va_W) H _ := hW
  refine zw_putF (ci := 6) (C := RX6) (T := TX6) (N := 11) (ty := .object "OddLetsIn$Garden") (w2 := [(h, .inr (6, [.int (-4), .int (-4), .ref h_garden, .int 0, .int 0, .int 0, .null, .null, .null, .int 0, .null])), (h_garden, .inr (2, [.ref h_garden_courtA, .ref h_garden_courtB, .ref h_garden_kind, .ref h_garden_gone, .int 0, .ref h_garden_court, .int 2, .int 0])), (h_garden_courtA, .inl (cyI, 5, .inl (fun _ => 0))), (h_garden_courtB, .inl (cyI, 5, .inl (fun _ => 0))), (h_garden_kind, .inl (cyI, 5, .inl (fun _ => 0))), (h_garden_gone, .inl (cyI, 5, .inl (fun _ => 0))), (h_garden_court, .inl (cyI, 3, .inl (fun _ => 0)))]) hx hb hts hiX6 tyX6 tyX6_ok nmX6 hown hK hW 0 rfl rfl 2 (by decide) (by decide +kernel) rfl rfl rfl hin rfl (Nat.le_of_ble_eq_true rfl) rfl k_9 dX6_init_24 (fun H locs hW => ?_)
  refine lv_aload_n hx hb dX6_init_27 rfl (lv_at hl 0 rfl) ?_
  refine lv_iconst (v := 0) hx hb dX6_init_28 (by decide) ?_
  refine zw_put (ci := 6) (C := RX6) (T := TX6) (N := 11) (w2 := [(h, .inr (6, [.int (-4), .int (-4), .ref h_garden, .int 0, .int 0, .int 0, .null, .null, .null, .int 0, .null])), (h_garden, .inr (2, [.ref h_garden_courtA, .ref h_garden_courtB, .ref h_garden_kind, .ref h_garden_gone, .int 0, .ref h_garden_court, .int 2, .int 0])), (h_garden_courtA, .inl (cyI, 5, .inl (fun _ => 0))), (h_garden_courtB, .inl (cyI, 5, .inl (fun _ => 0))), (h_garden_kind, .inl (cyI, 5, .inl (fun _ => 0))), (h_garden_gone, .inl (cyI, 5, .inl (fun _ => 0))), (h_garden_court, .inl (cyI, 3, .inl (fun _ => 0)))]) hx hb hts hiX6 tyX6 tyX6_ok nmX6 hown hK hW 0 rfl rfl 3 (by decide) (by decide +kernel) rfl (Nat.le_of_ble_eq_true rfl) rfl k_10 dX6_init_29 (fun H locs hW => ?_)
  refine lv_aload_n hx hb dX6_init_32 rfl (lv_at hl 0 rfl) ?_
  refine lv_iconst (v := 0) hx hb dX6_init_33 (by decide) ?_
  refine zw_put (ci := 6) (C := RX6) (T := TX6) (N := 11) (w2 := [(h, .inr (6, [.int (-4), .int (-4), .ref h_garden, .int 0, .int 0, .int 0, .null, .null, .null, .int 0, .null])), (h_garden, .inr (2, [.ref h_garden_courtA, .ref h_garden_courtB, .ref h_garden_kind, .ref h_garden_gone, .int 0, .ref h_garden_court, .int 2, .int 0])), (h_garden_courtA, .inl (cyI, 5, .inl (fun _ => 0))), (h_garden_courtB, .inl (cyI, 5, .inl (fun _ => 0))), (h_garden_kind, .inl (cyI, 5, .inl (fun _ => 0))), (h_garden_gone, .inl (cyI, 5, .inl (fun _ => 0))), (h_garden_court, .inl (cyI, 3, .inl (fun _ => 0)))]) hx hb hts hiX6 tyX6 tyX6_ok nmX6 hown hK hW 0 rfl rfl 4 (by decide) (by decide +kernel) rfl (Nat.le_of_ble_eq_true rfl) rfl k_11 dX6_init_34 (fun H locs hW => ?_)
  refine lv_aload_n hx hb dX6_init_37 rfl (lv_at hl 0 rfl) ?_
  refine lv_iconst (v := 0) hx hb dX6_init_38 (by decide) ?_
  refine zw_put (ci := 6) (C := RX6) (T := TX6) (N := 11) (w2 := [(h, .inr (6, [.int (-4), .int (-4), .ref h_garden, .int 0, .int 0, .int 0, .null, .null, .null, .int 0, .null])), (h_garden, .inr (2, [.ref h_garden_courtA, .ref h_garden_courtB, .ref h_garden_kind, .ref h_garden_gone, .int 0, .ref h_garden_court, .int 2, .int 0])), (h_garden_courtA, .inl (cyI, 5, .inl (fun _ => 0))), (h_garden_courtB, .inl (cyI, 5, .inl (fun _ => 0))), (h_garden_kind, .inl (cyI, 5, .inl (fun _ => 0))), (h_garden_gone, .inl (cyI, 5, .inl (fun _ => 0))), (h_garden_court, .inl (cyI, 3, .inl (fun _ => 0)))]) hx hb hts hiX6 tyX6 tyX6_ok nmX6 hown hK hW 0 rfl rfl 5 (by decide) (by decide +kernel) rfl (Nat.le_of_ble_eq_true rfl) rfl k_12 dX6_init_39 (fun H locs hW => ?_)
  refine lv_aload_n hx hb dX6_init_42 rfl (lv_at hl 0 rfl) ?_
  refine lv_iconst (v := 5) hx hb dX6_init_43 (by decide) ?_
  refine zw_newi hx hb k_13 hK hA hW 5 (by decide) (by decide) (Nat.le_of_ble_eq_true rfl) (Nat.le_of_ble_eq_true rfl) (Nat.le_of_ble_eq_true rfl) dX6_init_44 (fun h_leaving H hW => ?_)
  replace hW : Wd (dC, dI) A s.heap ([(h, .inr (6, [.int (-4), .int (-4), .ref h_garden, .int 0, .int 0, .int 0, .null, .null, .null, .int 0, .null])), (h_garden, .inr (2, [.ref h_garden_courtA, .ref h_garden_courtB, .ref h_garden_kind, .ref h_garden_gone, .int 0, .ref h_garden_court, .int 2, .int 0])), (h_garden_courtA, .inl (cyI, 5, .inl (fun _ => 0))), (h_garden_courtB, .inl (cyI, 5, .inl (fun _ => 0))), (h_garden_kind, .inl (cyI, 5, .inl (fun _ => 0))), (h_garden_gone, .inl (cyI, 5, .inl (fun _ => 0))), (h_garden_court, .inl (cyI, 3, .inl (fun _ => 0))), (h_leaving, .inl (cyI, 5, .inl (fun _ => 0)))] : va_W) H _ := hW
  refine zw_putF (ci := 6) (C := RX6) (T := TX6) (N := 11) (ty := .array .int) (w2 := [(h, .inr (6, [.int (-4), .int (-4), .ref h_garden, .int 0, .int 0, .int 0, .ref h_leaving, .null, .null, .int 0, .null])), (h_garden, .inr (2, [.ref h_garden_courtA, .ref h_garden_courtB, .ref h_garden_kind, .ref h_garden_gone, .int 0, .ref h_garden_court, .int 2, .int 0])), (h_garden_courtA, .inl (cyI, 5, .inl (fun _ => 0))), (h_garden_courtB, .inl (cyI, 5, .inl (fun _ => 0))), (h_garden_kind, .inl (cyI, 5, .inl (fun _ => 0))), (h_garden_gone, .inl (cyI, 5, .inl (fun _ => 0))), (h_garden_court, .inl (cyI, 3, .inl (fun _ => 0))), (h_leaving, .inl (cyI, 5, .inl (fun _ => 0)))]) hx hb hts hiX6 tyX6 tyX6_ok nmX6 hown hK hW 0 rfl rfl 6 (by decide) (by decide +kernel) rfl rfl rfl hin rfl (Nat.le_of_ble_eq_true rfl) rfl k_14 dX6_init_46 (fun H locs hW => ?_)
  refine lv_aload_n hx hb dX6_init_49 rfl (lv_at hl 0 rfl) ?_
  refine lv_iconst (v := 5) hx hb dX6_init_50 (by decide) ?_
  refine zw_newi hx hb k_13 hK hA hW 5 (by decide) (by decide) (Nat.le_of_ble_eq_true rfl) (Nat.le_of_ble_eq_true rfl) (Nat.le_of_ble_eq_true rfl) dX6_init_51 (fun h_shutBehind H hW => ?_)
  replace hW : Wd (dC, dI) A s.heap ([(h, .inr (6, [.int (-4), .int (-4), .ref h_garden, .int 0, .int 0, .int 0, .ref h_leaving, .null, .null, .int 0, .null])), (h_garden, .inr (2, [.ref h_garden_courtA, .ref h_garden_courtB, .ref h_garden_kind, .ref h_garden_gone, .int 0, .ref h_garden_court, .int 2, .int 0])), (h_garden_courtA, .inl (cyI, 5, .inl (fun _ => 0))), (h_garden_courtB, .inl (cyI, 5, .inl (fun _ => 0))), (h_garden_kind, .inl (cyI, 5, .inl (fun _ => 0))), (h_garden_gone, .inl (cyI, 5, .inl (fun _ => 0))), (h_garden_court, .inl (cyI, 3, .inl (fun _ => 0))), (h_leaving, .inl (cyI, 5, .inl (fun _ => 0))), (h_shutBehind, .inl (cyI, 5, .inl (fun _ => 0)))] : va_W) H _ := hW
  refine zw_putF (ci := 6) (C := RX6) (T := TX6) (N := 11) (ty := .array .int) (w2 := [(h, .inr (6, [.int (-4), .int (-4), .ref h_garden, .int 0, .int 0, .int 0, .ref h_leaving, .ref h_shutBehind, .null, .int 0, .null])), (h_garden, .inr (2, [.ref h_garden_courtA, .ref h_garden_courtB, .ref h_garden_kind, .ref h_garden_gone, .int 0, .ref h_garden_court, .int 2, .int 0])), (h_garden_courtA, .inl (cyI, 5, .inl (fun _ => 0))), (h_garden_courtB, .inl (cyI, 5, .inl (fun _ => 0))), (h_garden_kind, .inl (cyI, 5, .inl (fun _ => 0))), (h_garden_gone, .inl (cyI, 5, .inl (fun _ => 0))), (h_garden_court, .inl (cyI, 3, .inl (fun _ => 0))), (h_leaving, .inl (cyI, 5, .inl (fun _ => 0))), (h_shutBehind, .inl (cyI, 5, .inl (fun _ => 0)))]) hx hb hts hiX6 tyX6 tyX6_ok nmX6 hown hK hW 0 rfl rfl 7 (by decide) (by decide +kernel) rfl rfl rfl hin rfl (Nat.le_of_ble_eq_true rfl) rfl k_15 dX6_init_53 (fun H locs hW => ?_)
  refine lv_aload_n hx hb dX6_init_56 rfl (lv_at hl 0 rfl) ?_
  refine lv_sipush (v := 4000) hx hb dX6_init_57 (by decide) ?_
  refine zw_newi hx hb k_13 hK hA hW 4000 (by decide) (by decide) (Nat.le_of_ble_eq_true rfl) (Nat.le_of_ble_eq_true rfl) (Nat.le_of_ble_eq_true rfl) dX6_init_60 (fun h_queue H hW => ?_)
  replace hW : Wd (dC, dI) A s.heap ([(h, .inr (6, [.int (-4), .int (-4), .ref h_garden, .int 0, .int 0, .int 0, .ref h_leaving, .ref h_shutBehind, .null, .int 0, .null])), (h_garden, .inr (2, [.ref h_garden_courtA, .ref h_garden_courtB, .ref h_garden_kind, .ref h_garden_gone, .int 0, .ref h_garden_court, .int 2, .int 0])), (h_garden_courtA, .inl (cyI, 5, .inl (fun _ => 0))), (h_garden_courtB, .inl (cyI, 5, .inl (fun _ => 0))), (h_garden_kind, .inl (cyI, 5, .inl (fun _ => 0))), (h_garden_gone, .inl (cyI, 5, .inl (fun _ => 0))), (h_garden_court, .inl (cyI, 3, .inl (fun _ => 0))), (h_leaving, .inl (cyI, 5, .inl (fun _ => 0))), (h_shutBehind, .inl (cyI, 5, .inl (fun _ => 0))), (h_queue, .inl (cyI, 4000, .inl (fun _ => 0)))] : va_W) H _ := hW
  refine zw_putF (ci := 6) (C := RX6) (T := TX6) (N := 11) (ty := .array .int) (w2 := [(h, .inr (6, [.int (-4), .int (-4), .ref h_garden, .int 0, .int 0, .int 0, .ref h_leaving, .ref h_shutBehind, .ref h_queue, .int 0, .null])), (h_garden, .inr (2, [.ref h_garden_courtA, .ref h_garden_courtB, .ref h_garden_kind, .ref h_garden_gone, .int 0, .ref h_garden_court, .int 2, .int 0])), (h_garden_courtA, .inl (cyI, 5, .inl (fun _ => 0))), (h_garden_courtB, .inl (cyI, 5, .inl (fun _ => 0))), (h_garden_kind, .inl (cyI, 5, .inl (fun _ => 0))), (h_garden_gone, .inl (cyI, 5, .inl (fun _ => 0))), (h_garden_court, .inl (cyI, 3, .inl (fun _ => 0))), (h_leaving, .inl (cyI, 5, .inl (fun _ => 0))), (h_shutBehind, .inl (cyI, 5, .inl (fun _ => 0))), (h_queue, .inl (cyI, 4000, .inl (fun _ => 0)))]) hx hb hts hiX6 tyX6 tyX6_ok nmX6 hown hK hW 0 rfl rfl 8 (by decide) (by decide +kernel) rfl rfl rfl hin rfl (Nat.le_of_ble_eq_true rfl) rfl k_16 dX6_init_62 (fun H locs hW => ?_)
  refine lv_aload_n hx hb dX6_init_65 rfl (lv_at hl 0 rfl) ?_
  refine lv_iconst (v := 0) hx hb dX6_init_66 (by decide) ?_
  refine zw_put (ci := 6) (C := RX6) (T := TX6) (N := 11) (w2 := [(h, .inr (6, [.int (-4), .int (-4), .ref h_garden, .int 0, .int 0, .int 0, .ref h_leaving, .ref h_shutBehind, .ref h_queue, .int 0, .null])), (h_garden, .inr (2, [.ref h_garden_courtA, .ref h_garden_courtB, .ref h_garden_kind, .ref h_garden_gone, .int 0, .ref h_garden_court, .int 2, .int 0])), (h_garden_courtA, .inl (cyI, 5, .inl (fun _ => 0))), (h_garden_courtB, .inl (cyI, 5, .inl (fun _ => 0))), (h_garden_kind, .inl (cyI, 5, .inl (fun _ => 0))), (h_garden_gone, .inl (cyI, 5, .inl (fun _ => 0))), (h_garden_court, .inl (cyI, 3, .inl (fun _ => 0))), (h_leaving, .inl (cyI, 5, .inl (fun _ => 0))), (h_shutBehind, .inl (cyI, 5, .inl (fun _ => 0))), (h_queue, .inl (cyI, 4000, .inl (fun _ => 0)))]) hx hb hts hiX6 tyX6 tyX6_ok nmX6 hown hK hW 0 rfl rfl 9 (by decide) (by decide +kernel) rfl (Nat.le_of_ble_eq_true rfl) rfl k_17 dX6_init_67 (fun H locs hW => ?_)
  refine lv_aload_n hx hb dX6_init_70 rfl (lv_at hl 0 rfl) ?_
  refine lv_sipush (v := 256) hx hb dX6_init_71 (by decide) ?_
  refine zw_newl hx hb k_18 hK hA hW 256 (by decide) (by decide) (Nat.le_of_ble_eq_true rfl) (Nat.le_of_ble_eq_true rfl) (Nat.le_of_ble_eq_true rfl) dX6_init_74 (fun h_reached H hW => ?_)
  replace hW : Wd (dC, dI) A s.heap ([(h, .inr (6, [.int (-4), .int (-4), .ref h_garden, .int 0, .int 0, .int 0, .ref h_leaving, .ref h_shutBehind, .ref h_queue, .int 0, .null])), (h_garden, .inr (2, [.ref h_garden_courtA, .ref h_garden_courtB, .ref h_garden_kind, .ref h_garden_gone, .int 0, .ref h_garden_court, .int 2, .int 0])), (h_garden_courtA, .inl (cyI, 5, .inl (fun _ => 0))), (h_garden_courtB, .inl (cyI, 5, .inl (fun _ => 0))), (h_garden_kind, .inl (cyI, 5, .inl (fun _ => 0))), (h_garden_gone, .inl (cyI, 5, .inl (fun _ => 0))), (h_garden_court, .inl (cyI, 3, .inl (fun _ => 0))), (h_leaving, .inl (cyI, 5, .inl (fun _ => 0))), (h_shutBehind, .inl (cyI, 5, .inl (fun _ => 0))), (h_queue, .inl (cyI, 4000, .inl (fun _ => 0))), (h_reached, .inl (cyJ, 256, .inr (.inl (fun _ => 0))))] : va_W) H _ := hW
  refine zw_putF (ci := 6) (C := RX6) (T := TX6) (N := 11) (ty := .array .long) (w2 := [(h, .inr (6, [.int (-4), .int (-4), .ref h_garden, .int 0, .int 0, .int 0, .ref h_leaving, .ref h_shutBehind, .ref h_queue, .int 0, .ref h_reached])), (h_garden, .inr (2, [.ref h_garden_courtA, .ref h_garden_courtB, .ref h_garden_kind, .ref h_garden_gone, .int 0, .ref h_garden_court, .int 2, .int 0])), (h_garden_courtA, .inl (cyI, 5, .inl (fun _ => 0))), (h_garden_courtB, .inl (cyI, 5, .inl (fun _ => 0))), (h_garden_kind, .inl (cyI, 5, .inl (fun _ => 0))), (h_garden_gone, .inl (cyI, 5, .inl (fun _ => 0))), (h_garden_court, .inl (cyI, 3, .inl (fun _ => 0))), (h_leaving, .inl (cyI, 5, .inl (fun _ => 0))), (h_shutBehind, .inl (cyI, 5, .inl (fun _ => 0))), (h_queue, .inl (cyI, 4000, .inl (fun _ => 0))), (h_reached, .inl (cyJ, 256, .inr (.inl (fun _ => 0))))]) hx hb hts hiX6 tyX6 tyX6_ok nmX6 hown hK hW 0 rfl rfl 10 (by decide) (by decide +kernel) rfl rfl rfl hin rfl (Nat.le_of_ble_eq_true rfl) rfl k_19 dX6_init_76 (fun H locs hW => ?_)
  replace hW : Wd (dC, dI) A s.heap ([(h, .inr (6, [.int (-4), .int (-4), .ref h_garden, .int 0, .int 0, .int 0, .ref h_leaving, .ref h_shutBehind, .ref h_queue, .int 0, .ref h_reached])), (h_garden, .inr (2, [.ref h_garden_courtA, .ref h_garden_courtB, .ref h_garden_kind, .ref h_garden_gone, .int 0, .ref h_garden_court, .int 2, .int 0])), (h_garden_courtA, .inl (cyI, 5, .inl (fun _ => 0))), (h_garden_courtB, .inl (cyI, 5, .inl (fun _ => 0))), (h_garden_kind, .inl (cyI, 5, .inl (fun _ => 0))), (h_garden_gone, .inl (cyI, 5, .inl (fun _ => 0))), (h_garden_court, .inl (cyI, 3, .inl (fun _ => 0))), (h_leaving, .inl (cyI, 5, .inl (fun _ => 0))), (h_shutBehind, .inl (cyI, 5, .inl (fun _ => 0))), (h_queue, .inl (cyI, 4000, .inl (fun _ => 0))), (h_reached, .inl (cyJ, 256, .inr (.inl (fun _ => 0))))] : va_W) H _ := zw_perm hW [0, 1, 2, 3, 4, 5, 6, 7, 8, 9, 10] rfl rfl
  refine zw_vret (S := Nat × Nat × Nat × Nat × Nat × Nat × Nat × Nat × Nat × Nat) (post := fun _ => True) (h_garden, h_garden_courtA, h_garden_courtB, h_garden_kind, h_garden_gone, h_garden_court, h_leaving, h_shutBehind, h_queue, h_reached) hx hb hr hlocks hK hW hw ?_ dX6_init_79
  rfl
abbrev wX6_prepareGates (cyI cyJ cyZ : ClassId) (h h_garden h_garden_courtA h_garden_courtB h_garden_kind h_garden_gone h_garden_court h_leaving h_shutBehind h_queue h_reached : Nat) (i_fewest : Int32) (i_first : Int32) (i_openFromA : Int32) (i_goalKind : Int32) (i_goal : Int32) (i_queued : Int32) (i_garden_gates : Int32) (i_garden_persons : Int32) (i_garden_fines : Int32) (a_garden_courtA : Nat → Int32) (a_garden_courtB : Nat → Int32) (a_garden_kind : Nat → Int32) (a_garden_gone : Nat → Int32) (a_leaving : Nat → Int32) (a_shutBehind : Nat → Int32) : va_W := [(h, .inr (6, [.int i_fewest, .int i_first, .ref h_garden, .int i_openFromA, .int i_goalKind, .int i_goal, .ref h_leaving, .ref h_shutBehind, .ref h_queue, .int i_queued, .ref h_reached])), (h_garden, .inr (2, [.ref h_garden_courtA, .ref h_garden_courtB, .ref h_garden_kind, .ref h_garden_gone, .int i_garden_gates, .ref h_garden_court, .int i_garden_persons, .int i_garden_fines])), (h_garden_courtA, .inl (cyI, 5, .inl a_garden_courtA)), (h_garden_courtB, .inl (cyI, 5, .inl a_garden_courtB)), (h_garden_kind, .inl (cyI, 5, .inl a_garden_kind)), (h_garden_gone, .inl (cyI, 5, .inl a_garden_gone)), (h_leaving, .inl (cyI, 5, .inl a_leaving)), (h_shutBehind, .inl (cyI, 5, .inl a_shutBehind))]
abbrev qX6_prepareGates (dC : Nat → ClassId) (dI : Nat → Nat → Nat) (cyI cyJ cyZ : ClassId) (h h_garden h_garden_courtA h_garden_courtB h_garden_kind h_garden_gone h_garden_court h_leaving h_shutBehind h_queue h_reached : Nat) (i_fewest : Int32) (i_first : Int32) (i_openFromA : Int32) (i_goalKind : Int32) (i_goal : Int32) (i_queued : Int32) (i_garden_gates : Int32) (i_garden_persons : Int32) (i_garden_fines : Int32) (a_garden_courtA : Nat → Int32) (a_garden_courtB : Nat → Int32) (a_garden_kind : Nat → Int32) (a_garden_gone : Nat → Int32) (a_leaving : Nat → Int32) (a_shutBehind : Nat → Int32) (post : Int32 → (Nat → Int32) → (Nat → Int32) → Prop) (A : Nat → Prop) : Array Value → State → Outcome → State → Prop := (va_Qv (fun (u : Int32 × (Nat → Int32) × (Nat → Int32)) => post u.1 u.2.1 u.2.2) (bW (dC, dI) (tyG cyI cyJ cyZ) A (fun u : Int32 × (Nat → Int32) × (Nat → Int32) => (wX6_prepareGates cyI cyJ cyZ h h_garden h_garden_courtA h_garden_courtB h_garden_kind h_garden_gone h_garden_court h_leaving h_shutBehind h_queue h_reached i_fewest i_first (u.1) i_goalKind i_goal i_queued i_garden_gates i_garden_persons i_garden_fines a_garden_courtA a_garden_courtB a_garden_kind a_garden_gone (u.2.1) (u.2.2)))) A)
set_option maxHeartbeats 4000000 in
set_option maxRecDepth 100000 in
theorem mX6_prepareGates (l : Launch) (dC : Nat → ClassId) (dI : Nat → Nat → Nat) (cyI cyJ cyZ : ClassId) (h h_garden h_garden_courtA h_garden_courtB h_garden_kind h_garden_gone h_garden_court h_leaving h_shutBehind h_queue h_reached : Nat) (sz : Nat) (i_fewest : Int32) (i_first : Int32) (i_openFromA : Int32) (i_goalKind : Int32) (i_goal : Int32) (i_queued : Int32) (i_garden_gates : Int32) (i_garden_persons : Int32) (i_garden_fines : Int32) (a_garden_courtA : Nat → Int32) (a_garden_courtB : Nat → Int32) (a_garden_kind : Nat → Int32) (a_garden_gone : Nat → Int32) (a_leaving : Nat → Int32) (a_shutBehind : Nat → Int32) (post : Int32 → (Nat → Int32) → (Nat → Int32) → Prop) (hwp : PX6_prepareGates i_openFromA i_garden_gates a_garden_courtA a_garden_courtB a_garden_kind a_garden_gone a_leaving a_shutBehind post) : Met l yX6_prepareGates wsX6_prepareGates ({ frames := 4, cells := 0, slots := 0, locals := 89 } : Room) (va_Pc [.ref h] (pcW (dC, dI) sz (wX6_prepareGates cyI cyJ cyZ h h_garden h_garden_courtA h_garden_courtB h_garden_kind h_garden_gone h_garden_court h_leaving h_shutBehind h_queue h_reached i_fewest i_first i_openFromA i_goalKind i_goal i_queued i_garden_gates i_garden_persons i_garden_fines a_garden_courtA a_garden_courtB a_garden_kind a_garden_gone a_leaving a_shutBehind) (tyG cyI cyJ cyZ))) (qX6_prepareGates dC dI cyI cyJ cyZ h h_garden h_garden_courtA h_garden_courtB h_garden_kind h_garden_gone h_garden_court h_leaving h_shutBehind h_queue h_reached i_fewest i_first i_openFromA i_goalKind i_goal i_queued i_garden_gates i_garden_persons i_garden_fines a_garden_courtA a_garden_courtB a_garden_kind a_garden_gone a_leaving a_shutBehind post (va_A (wX6_prepareGates cyI cyJ cyZ h h_garden h_garden_courtA h_garden_courtB h_garden_kind h_garden_gone h_garden_court h_leaving h_shutBehind h_queue h_reached i_fewest i_first i_openFromA i_goalKind i_goal i_queued i_garden_gates i_garden_persons i_garden_fines a_garden_courtA a_garden_courtB a_garden_kind a_garden_gone a_leaving a_shutBehind) sz)) 0 0 (va_A (wX6_prepareGates cyI cyJ cyZ h h_garden h_garden_courtA h_garden_courtB h_garden_kind h_garden_gone h_garden_court h_leaving h_shutBehind h_queue h_reached i_fewest i_first i_openFromA i_goalKind i_goal i_queued i_garden_gates i_garden_persons i_garden_fines a_garden_courtA a_garden_courtB a_garden_kind a_garden_gone a_leaving a_shutBehind) sz) := by
  refine Met.ofW (cc := cX6_prepareGates) (maxL := 3) (ret := none) (by decide) rfl ?_
  intro p e s m args below meth c s₁ B hml hv
  obtain ⟨rfl, hsz, hP, hK, hD0, hN⟩ := hv
  have hx := B.exec
  have hb := B.bytes
  have hr := B.returns
  have hts := atoms_spec (ws := wsX6_prepareGates) B.pre
  have hown : s.vm.findClass RX6 = some m.cls := findClass_of_methodNamed B.named
  have hlocks := B.notSynchronized
  subst hsz
  have hD := hD0.self (sz := s.heap.size)
  generalize hAe : va_A (wX6_prepareGates cyI cyJ cyZ h h_garden h_garden_courtA h_garden_courtB h_garden_kind h_garden_gone h_garden_court h_leaving h_shutBehind h_queue h_reached i_fewest i_first i_openFromA i_goalKind i_goal i_queued i_garden_gates i_garden_persons i_garden_fines a_garden_courtA a_garden_courtB a_garden_kind a_garden_gone a_leaving a_shutBehind) s.heap.size = A at hD ⊢
  have hA : ∀ q : Nat, s.heap.size ≤ q → A q := fun q h => by rw [← hAe]; exact Or.inr h
  have hW : Wd (dC, dI) A s.heap (wX6_prepareGates cyI cyJ cyZ h h_garden h_garden_courtA h_garden_courtB h_garden_kind h_garden_gone h_garden_court h_leaving h_shutBehind h_queue h_reached i_fewest i_first i_openFromA i_goalKind i_goal i_queued i_garden_gates i_garden_persons i_garden_fines a_garden_courtA a_garden_courtB a_garden_kind a_garden_gone a_leaving a_shutBehind) s.heap [] := ⟨hP, hD, va_S.rf⟩
  have hw := hwp
  have hiX6 : ∀ w ∈ u_ws RX6 TX6 11, w ∈ wsX6_prepareGates := fun _ h => List.mem_cons_of_mem _ (List.mem_append_left _ (List.mem_append_right _ h))
  have hiX2 : ∀ w ∈ u_ws RX2 TX2 8, w ∈ wsX6_prepareGates := fun _ h => List.mem_cons_of_mem _ (List.mem_append_right _ h)
  have k_0 := hts (.fieldLink RX6 21 "OddLetsIn$Walk" "garden" "LOddLetsIn$Garden;") (List.mem_of_getElem? (i := 1) rfl)
  have k_1 := hts (.fieldLink RX6 77 "OddLetsIn$Garden" "gates" "I") (List.mem_of_getElem? (i := 4) rfl)
  have k_2 := hts (.fieldLink RX6 38 "OddLetsIn$Walk" "shutBehind" "[I") (List.mem_of_getElem? (i := 5) rfl)
  have k_3 := hts (.fieldLink RX6 34 "OddLetsIn$Walk" "leaving" "[I") (List.mem_of_getElem? (i := 3) rfl)
  have k_4 := hts (.fieldLink RX6 25 "OddLetsIn$Walk" "openFromA" "I") (List.mem_of_getElem? (i := 2) rfl)
  have W_88 : ∀ (i_openFromA : Int32) (a_leaving : Nat → Int32) (n_88 : Nat) (x1 : Int32) (a_shutBehind : Nat → Int32) (H : Heap) (locs : List Loc) (ls : Array Slot), Wd (dC, dI) A s.heap (wX6_prepareGates cyI cyJ cyZ h h_garden h_garden_courtA h_garden_courtB h_garden_kind h_garden_gone h_garden_court h_leaving h_shutBehind h_queue h_reached i_fewest i_first i_openFromA i_goalKind i_goal i_queued i_garden_gates i_garden_persons i_garden_fines a_garden_courtA a_garden_courtB a_garden_kind a_garden_gone a_leaving a_shutBehind) H locs → lv_has ls 3 [(0, .ref h), (1, .int x1)] → PX6_prepareGates_88 post i_garden_gates a_garden_kind i_openFromA a_leaving n_88 x1 a_shutBehind → W p l e (({ frames := 4, cells := 0, slots := 0, locals := 89 } : Room)) s m (([.ref h] : List Value).toArray) below meth c H locs 0 0 (MQ below (qX6_prepareGates dC dI cyI cyJ cyZ h h_garden h_garden_courtA h_garden_courtB h_garden_kind h_garden_gone h_garden_court h_leaving h_shutBehind h_queue h_reached i_fewest i_first i_openFromA i_goalKind i_goal i_queued i_garden_gates i_garden_persons i_garden_fines a_garden_courtA a_garden_courtB a_garden_kind a_garden_gone a_leaving a_shutBehind post A) (([.ref h] : List Value).toArray) s 0 0 A) (F0 m 88 ls []) := by
    intro i_openFromA a_leaving n_88
    induction n_88 with
    | zero =>
      intro x1 a_shutBehind H locs ls hW hl hw
      exact False.elim hw
    | succ n_88 ih_88 =>
      intro x1 a_shutBehind H locs ls hW hl hw
      refine lv_iload_n hx hb dX6_prepareGates_88 rfl (lv_at hl 1 rfl) ?_
      refine lv_aload_n hx hb dX6_prepareGates_89 rfl (lv_at hl 0 rfl) ?_
      refine zw_get (ci := 6) (C := RX6) (T := TX6) (N := 11) (v := .ref h_garden) hx hb hts hiX6 hown hK hW 0 rfl rfl 2 (by decide) rfl k_0 dX6_prepareGates_90 ?_
      refine zw_get (ci := 2) (C := RX2) (T := TX2) (N := 8) (v := .int i_garden_gates) hx hb hts hiX2 hown hK hW 1 rfl rfl 4 (by decide) rfl k_1 dX6_prepareGates_93 ?_
      refine lv_icmp_ge (tgt := 135) hx hb dX6_prepareGates_96 (by decide) (fun c_1 => ?_) (fun c_1 => ?_)
      · replace hw := hw.1 c_1
        refine zw_vret (S := Int32 × (Nat → Int32) × (Nat → Int32)) (post := fun u => post u.1 u.2.1 u.2.2) (i_openFromA, a_leaving, a_shutBehind) hx hb hr hlocks hK hW hw ?_ dX6_prepareGates_135
        rfl
      · replace hw := hw.2 c_1
        refine lv_aload_n hx hb dX6_prepareGates_99 rfl (lv_at hl 0 rfl) ?_
        refine zw_get (ci := 6) (C := RX6) (T := TX6) (N := 11) (v := .ref h_garden) hx hb hts hiX6 hown hK hW 0 rfl rfl 2 (by decide) rfl k_0 dX6_prepareGates_100 ?_
        refine lv_iload_n hx hb dX6_prepareGates_103 rfl (lv_at hl 1 rfl) ?_
        refine zw_Vi ⟨hx, hb, hml, hown, hts⟩ hK hN hA hW 1 rfl (T := TX2) (N := 8) rfl [.int x1] [] [1, 4] [0, 2, 3, 5, 6, 7] [0, 6, 1, 2, 7, 3, 4, 5] (fun _ => (wX6_prepareGates cyI cyJ cyZ h h_garden h_garden_courtA h_garden_courtB h_garden_kind h_garden_gone h_garden_court h_leaving h_shutBehind h_queue h_reached i_fewest i_first i_openFromA i_goalKind i_goal i_queued i_garden_gates i_garden_persons i_garden_fines a_garden_courtA a_garden_courtB a_garden_kind a_garden_gone a_leaving a_shutBehind)) (mX2_ruler l dC dI cyI cyJ cyZ h_garden h_garden_courtA h_garden_courtB h_garden_kind h_garden_gone h_garden_court _ i_garden_gates i_garden_persons i_garden_fines a_garden_kind x1 _ hw) (cwV 1 hts gX6_prepareGates_X2_ruler rfl rfl rfl (by decide +kernel) ⟨Nat.le_of_ble_eq_true rfl, Nat.le_of_ble_eq_true rfl⟩) rfl rfl rfl rfl (by decide) rfl (fun _ => rfl) rfl hl.1 rfl (Nat.le_of_ble_eq_true rfl) (Nat.le_of_ble_eq_true rfl) (Nat.le_of_ble_eq_true rfl) dX6_prepareGates_104 (fun r_2 u H locs hw hW => ?_)
        refine lv_istore_n (lv' := [(2, .int r_2), (0, .ref h), (1, .int x1)]) hx hb dX6_prepareGates_107 rfl hl (by decide) rfl (fun ls hl => ?_)
        refine lv_iload_n hx hb dX6_prepareGates_108 rfl (lv_at hl 0 rfl) ?_
        refine lv_if_lt (tgt := 129) hx hb dX6_prepareGates_109 (by decide) (fun c_3 => ?_) (fun c_3 => ?_)
        · replace hw := hw.1 c_3
          obtain ⟨x1_4, ex1_4⟩ : ∃ y : Int32, y = x1 + 1 := ⟨_, rfl⟩
          replace hw := hw x1_4 ex1_4
          refine lv_iinc (v := x1_4) (lv' := [(1, .int x1_4), (2, .int r_2), (0, .ref h)]) hx hb dX6_prepareGates_129 hl (k := 2) rfl (by rw [ex1_4]; rfl) (by decide) rfl (fun ls hl => ?_)
          refine lv_goto (tgt := 88) hx hb dX6_prepareGates_132 (by decide) ?_
          exact ih_88 x1_4 a_shutBehind _ _ _ hW (lv_sub hl [2, 0] rfl) hw
        · replace hw := hw.2 c_3
          refine lv_iload_n hx hb dX6_prepareGates_112 rfl (lv_at hl 0 rfl) ?_
          refine lv_iconst (v := 5) hx hb dX6_prepareGates_113 (by decide) ?_
          refine lv_icmp_ge (tgt := 129) hx hb dX6_prepareGates_114 (by decide) (fun c_5 => ?_) (fun c_5 => ?_)
          · replace hw := hw.1 c_5
            obtain ⟨x1_6, ex1_6⟩ : ∃ y : Int32, y = x1 + 1 := ⟨_, rfl⟩
            replace hw := hw x1_6 ex1_6
            refine lv_iinc (v := x1_6) (lv' := [(1, .int x1_6), (2, .int r_2), (0, .ref h)]) hx hb dX6_prepareGates_129 hl (k := 2) rfl (by rw [ex1_6]; rfl) (by decide) rfl (fun ls hl => ?_)
            refine lv_goto (tgt := 88) hx hb dX6_prepareGates_132 (by decide) ?_
            exact ih_88 x1_6 a_shutBehind _ _ _ hW (lv_sub hl [2, 0] rfl) hw
          · replace hw := hw.2 c_5
            refine lv_aload_n hx hb dX6_prepareGates_117 rfl (lv_at hl 1 rfl) ?_
            refine zw_get (ci := 6) (C := RX6) (T := TX6) (N := 11) (v := .ref h_shutBehind) hx hb hts hiX6 hown hK hW 0 rfl rfl 7 (by decide) rfl k_2 dX6_prepareGates_118 ?_
            refine lv_iload_n hx hb dX6_prepareGates_121 rfl (lv_at hl 0 rfl) ?_
            refine lv_dup2_11 hx hb dX6_prepareGates_122 rfl rfl ?_
            refine zw_iald hx hb hK hW 7 rfl rfl hw.1 dX6_prepareGates_123 ?_
            replace hw := hw.2
            refine lv_iconst (v := 1) hx hb dX6_prepareGates_124 (by decide) ?_
            refine lv_iload_n hx hb dX6_prepareGates_125 rfl (lv_at hl 2 rfl) ?_
            refine lv_ishl hx hb dX6_prepareGates_126 ?_
            refine lv_ior hx hb dX6_prepareGates_127 ?_
            refine lv_topi (fun t_7 et_7 => ?_)
            replace hw := hw t_7 et_7
            refine zw_iast hx hb hK hW 7 rfl rfl hw.1 (w2 := fun a_shutBehind_8 => (wX6_prepareGates cyI cyJ cyZ h h_garden h_garden_courtA h_garden_courtB h_garden_kind h_garden_gone h_garden_court h_leaving h_shutBehind h_queue h_reached i_fewest i_first i_openFromA i_goalKind i_goal i_queued i_garden_gates i_garden_persons i_garden_fines a_garden_courtA a_garden_courtB a_garden_kind a_garden_gone a_leaving a_shutBehind_8)) (fun _ => rfl) dX6_prepareGates_128 (fun a_shutBehind_8 H locs ea_shutBehind_8 hW => ?_)
            replace hw := hw.2 a_shutBehind_8 ea_shutBehind_8
            obtain ⟨x1_9, ex1_9⟩ : ∃ y : Int32, y = x1 + 1 := ⟨_, rfl⟩
            replace hw := hw x1_9 ex1_9
            refine lv_iinc (v := x1_9) (lv' := [(1, .int x1_9), (2, .int r_2), (0, .ref h)]) hx hb dX6_prepareGates_129 hl (k := 2) rfl (by rw [ex1_9]; rfl) (by decide) rfl (fun ls hl => ?_)
            refine lv_goto (tgt := 88) hx hb dX6_prepareGates_132 (by decide) ?_
            exact ih_88 x1_9 a_shutBehind_8 _ _ _ hW (lv_sub hl [2, 0] rfl) hw
  have W_13 : ∀ (i_openFromA : Int32) (a_shutBehind : Nat → Int32) (n_13 : Nat) (x1 : Int32) (a_leaving : Nat → Int32) (H : Heap) (locs : List Loc) (ls : Array Slot), Wd (dC, dI) A s.heap (wX6_prepareGates cyI cyJ cyZ h h_garden h_garden_courtA h_garden_courtB h_garden_kind h_garden_gone h_garden_court h_leaving h_shutBehind h_queue h_reached i_fewest i_first i_openFromA i_goalKind i_goal i_queued i_garden_gates i_garden_persons i_garden_fines a_garden_courtA a_garden_courtB a_garden_kind a_garden_gone a_leaving a_shutBehind) H locs → lv_has ls 3 [(0, .ref h), (1, .int x1)] → PX6_prepareGates_13 post i_garden_gates a_garden_courtA a_garden_courtB a_garden_kind a_garden_gone i_openFromA a_shutBehind n_13 x1 a_leaving → W p l e (({ frames := 4, cells := 0, slots := 0, locals := 89 } : Room)) s m (([.ref h] : List Value).toArray) below meth c H locs 0 0 (MQ below (qX6_prepareGates dC dI cyI cyJ cyZ h h_garden h_garden_courtA h_garden_courtB h_garden_kind h_garden_gone h_garden_court h_leaving h_shutBehind h_queue h_reached i_fewest i_first i_openFromA i_goalKind i_goal i_queued i_garden_gates i_garden_persons i_garden_fines a_garden_courtA a_garden_courtB a_garden_kind a_garden_gone a_leaving a_shutBehind post A) (([.ref h] : List Value).toArray) s 0 0 A) (F0 m 13 ls []) := by
    intro i_openFromA a_shutBehind n_13
    induction n_13 with
    | zero =>
      intro x1 a_leaving H locs ls hW hl hw
      exact False.elim hw
    | succ n_13 ih_13 =>
      have W_27 : ∀ (x1 : Int32) (n_27 : Nat) (x2 : Int32) (a_leaving : Nat → Int32) (H : Heap) (locs : List Loc) (ls : Array Slot), Wd (dC, dI) A s.heap (wX6_prepareGates cyI cyJ cyZ h h_garden h_garden_courtA h_garden_courtB h_garden_kind h_garden_gone h_garden_court h_leaving h_shutBehind h_queue h_reached i_fewest i_first i_openFromA i_goalKind i_goal i_queued i_garden_gates i_garden_persons i_garden_fines a_garden_courtA a_garden_courtB a_garden_kind a_garden_gone a_leaving a_shutBehind) H locs → lv_has ls 3 [(0, .ref h), (1, .int x1), (2, .int x2)] → PX6_prepareGates_27 post i_garden_gates a_garden_courtA a_garden_courtB a_garden_kind a_garden_gone (PX6_prepareGates_13 post i_garden_gates a_garden_courtA a_garden_courtB a_garden_kind a_garden_gone i_openFromA a_shutBehind n_13) x1 n_27 x2 a_leaving → W p l e (({ frames := 4, cells := 0, slots := 0, locals := 89 } : Room)) s m (([.ref h] : List Value).toArray) below meth c H locs 0 0 (MQ below (qX6_prepareGates dC dI cyI cyJ cyZ h h_garden h_garden_courtA h_garden_courtB h_garden_kind h_garden_gone h_garden_court h_leaving h_shutBehind h_queue h_reached i_fewest i_first i_openFromA i_goalKind i_goal i_queued i_garden_gates i_garden_persons i_garden_fines a_garden_courtA a_garden_courtB a_garden_kind a_garden_gone a_leaving a_shutBehind post A) (([.ref h] : List Value).toArray) s 0 0 A) (F0 m 27 ls []) := by
        intro x1 n_27
        induction n_27 with
        | zero =>
          intro x2 a_leaving H locs ls hW hl hw
          exact False.elim hw
        | succ n_27 ih_27 =>
          intro x2 a_leaving H locs ls hW hl hw
          refine lv_iload_n hx hb dX6_prepareGates_27 rfl (lv_at hl 2 rfl) ?_
          refine lv_aload_n hx hb dX6_prepareGates_28 rfl (lv_at hl 0 rfl) ?_
          refine zw_get (ci := 6) (C := RX6) (T := TX6) (N := 11) (v := .ref h_garden) hx hb hts hiX6 hown hK hW 0 rfl rfl 2 (by decide) rfl k_0 dX6_prepareGates_29 ?_
          refine zw_get (ci := 2) (C := RX2) (T := TX2) (N := 8) (v := .int i_garden_gates) hx hb hts hiX2 hown hK hW 1 rfl rfl 4 (by decide) rfl k_1 dX6_prepareGates_32 ?_
          refine lv_icmp_ge (tgt := 72) hx hb dX6_prepareGates_35 (by decide) (fun c_10 => ?_) (fun c_10 => ?_)
          · replace hw := hw.1 c_10
            obtain ⟨x1_11, ex1_11⟩ : ∃ y : Int32, y = x1 + 1 := ⟨_, rfl⟩
            replace hw := hw x1_11 ex1_11
            refine lv_iinc (v := x1_11) (lv' := [(1, .int x1_11), (0, .ref h), (2, .int x2)]) hx hb dX6_prepareGates_72 hl (k := 1) rfl (by rw [ex1_11]; rfl) (by decide) rfl (fun ls hl => ?_)
            refine lv_goto (tgt := 13) hx hb dX6_prepareGates_75 (by decide) ?_
            exact ih_13 x1_11 a_leaving _ _ _ hW (lv_sub hl [1, 0] rfl) hw
          · replace hw := hw.2 c_10
            refine lv_aload_n hx hb dX6_prepareGates_38 rfl (lv_at hl 0 rfl) ?_
            refine zw_get (ci := 6) (C := RX6) (T := TX6) (N := 11) (v := .ref h_leaving) hx hb hts hiX6 hown hK hW 0 rfl rfl 6 (by decide) rfl k_3 dX6_prepareGates_39 ?_
            refine lv_iload_n hx hb dX6_prepareGates_42 rfl (lv_at hl 1 rfl) ?_
            refine lv_dup2_11 hx hb dX6_prepareGates_43 rfl rfl ?_
            refine zw_iald hx hb hK hW 6 rfl rfl hw.1 dX6_prepareGates_44 ?_
            replace hw := hw.2
            refine lv_aload_n hx hb dX6_prepareGates_45 rfl (lv_at hl 0 rfl) ?_
            refine zw_get (ci := 6) (C := RX6) (T := TX6) (N := 11) (v := .ref h_garden) hx hb hts hiX6 hown hK hW 0 rfl rfl 2 (by decide) rfl k_0 dX6_prepareGates_46 ?_
            refine lv_iload_n hx hb dX6_prepareGates_49 rfl (lv_at hl 1 rfl) ?_
            refine lv_iload_n hx hb dX6_prepareGates_50 rfl (lv_at hl 2 rfl) ?_
            refine zw_Vi ⟨hx, hb, hml, hown, hts⟩ hK hN hA hW 1 rfl (T := TX2) (N := 8) rfl [.int x1, .int x2] [.int (a_leaving (x1).toNatClampNeg), .int x1, .ref h_leaving] [1, 2, 3, 4, 5] [0, 6, 7] [0, 3, 4, 5, 6, 7, 1, 2] (fun _ => (wX6_prepareGates cyI cyJ cyZ h h_garden h_garden_courtA h_garden_courtB h_garden_kind h_garden_gone h_garden_court h_leaving h_shutBehind h_queue h_reached i_fewest i_first i_openFromA i_goalKind i_goal i_queued i_garden_gates i_garden_persons i_garden_fines a_garden_courtA a_garden_courtB a_garden_kind a_garden_gone a_leaving a_shutBehind)) (mX2_isOpenFrom l dC dI cyI cyJ cyZ h_garden h_garden_courtA h_garden_courtB h_garden_kind h_garden_gone h_garden_court _ i_garden_gates i_garden_persons i_garden_fines a_garden_courtA a_garden_courtB a_garden_kind a_garden_gone x1 x2 _ hw) (cwV 2 hts gX6_prepareGates_X2_isOpenFrom rfl rfl rfl (by decide +kernel) ⟨Nat.le_of_ble_eq_true rfl, Nat.le_of_ble_eq_true rfl⟩) rfl rfl rfl rfl (by decide) rfl (fun _ => rfl) rfl hl.1 rfl (Nat.le_of_ble_eq_true rfl) (Nat.le_of_ble_eq_true rfl) (Nat.le_of_ble_eq_true rfl) dX6_prepareGates_51 (fun r_12 u H locs hw hW => ?_)
            obtain ⟨br_12, hw⟩ := hw
            refine lv_if_eq (tgt := 63) hx hb dX6_prepareGates_54 (by decide) (fun c_13 => ?_) (fun c_13 => ?_)
            · replace hw := hw.1 c_13
              refine lv_iconst (v := 0) hx hb dX6_prepareGates_63 (by decide) ?_
              refine lv_ior hx hb dX6_prepareGates_64 ?_
              refine lv_topi (fun t_14 et_14 => ?_)
              replace hw := hw t_14 et_14
              refine zw_iast hx hb hK hW 6 rfl rfl hw.1 (w2 := fun a_leaving_15 => (wX6_prepareGates cyI cyJ cyZ h h_garden h_garden_courtA h_garden_courtB h_garden_kind h_garden_gone h_garden_court h_leaving h_shutBehind h_queue h_reached i_fewest i_first i_openFromA i_goalKind i_goal i_queued i_garden_gates i_garden_persons i_garden_fines a_garden_courtA a_garden_courtB a_garden_kind a_garden_gone a_leaving_15 a_shutBehind)) (fun _ => rfl) dX6_prepareGates_65 (fun a_leaving_15 H locs ea_leaving_15 hW => ?_)
              replace hw := hw.2 a_leaving_15 ea_leaving_15
              obtain ⟨x2_16, ex2_16⟩ : ∃ y : Int32, y = x2 + 1 := ⟨_, rfl⟩
              replace hw := hw x2_16 ex2_16
              refine lv_iinc (v := x2_16) (lv' := [(2, .int x2_16), (0, .ref h), (1, .int x1)]) hx hb dX6_prepareGates_66 hl (k := 2) rfl (by rw [ex2_16]; rfl) (by decide) rfl (fun ls hl => ?_)
              refine lv_goto (tgt := 27) hx hb dX6_prepareGates_69 (by decide) ?_
              exact ih_27 x2_16 a_leaving_15 _ _ _ hW (lv_sub hl [1, 2, 0] rfl) hw
            · replace hw := hw.2 c_13
              refine lv_iconst (v := 1) hx hb dX6_prepareGates_57 (by decide) ?_
              refine lv_iload_n hx hb dX6_prepareGates_58 rfl (lv_at hl 2 rfl) ?_
              refine lv_ishl hx hb dX6_prepareGates_59 ?_
              refine lv_goto (tgt := 64) hx hb dX6_prepareGates_60 (by decide) ?_
              refine lv_ior hx hb dX6_prepareGates_64 ?_
              refine lv_topi (fun t_17 et_17 => ?_)
              replace hw := hw t_17 et_17
              refine zw_iast hx hb hK hW 6 rfl rfl hw.1 (w2 := fun a_leaving_18 => (wX6_prepareGates cyI cyJ cyZ h h_garden h_garden_courtA h_garden_courtB h_garden_kind h_garden_gone h_garden_court h_leaving h_shutBehind h_queue h_reached i_fewest i_first i_openFromA i_goalKind i_goal i_queued i_garden_gates i_garden_persons i_garden_fines a_garden_courtA a_garden_courtB a_garden_kind a_garden_gone a_leaving_18 a_shutBehind)) (fun _ => rfl) dX6_prepareGates_65 (fun a_leaving_18 H locs ea_leaving_18 hW => ?_)
              replace hw := hw.2 a_leaving_18 ea_leaving_18
              obtain ⟨x2_19, ex2_19⟩ : ∃ y : Int32, y = x2 + 1 := ⟨_, rfl⟩
              replace hw := hw x2_19 ex2_19
              refine lv_iinc (v := x2_19) (lv' := [(2, .int x2_19), (0, .ref h), (1, .int x1)]) hx hb dX6_prepareGates_66 hl (k := 2) rfl (by rw [ex2_19]; rfl) (by decide) rfl (fun ls hl => ?_)
              refine lv_goto (tgt := 27) hx hb dX6_prepareGates_69 (by decide) ?_
              exact ih_27 x2_19 a_leaving_18 _ _ _ hW (lv_sub hl [1, 2, 0] rfl) hw
      intro x1 a_leaving H locs ls hW hl hw
      refine lv_iload_n hx hb dX6_prepareGates_13 rfl (lv_at hl 1 rfl) ?_
      refine lv_iconst (v := 5) hx hb dX6_prepareGates_14 (by decide) ?_
      refine lv_icmp_ge (tgt := 78) hx hb dX6_prepareGates_15 (by decide) (fun c_20 => ?_) (fun c_20 => ?_)
      · replace hw := hw.1 c_20
        refine lv_aload_n hx hb dX6_prepareGates_78 rfl (lv_at hl 0 rfl) ?_
        refine zw_get (ci := 6) (C := RX6) (T := TX6) (N := 11) (v := .ref h_shutBehind) hx hb hts hiX6 hown hK hW 0 rfl rfl 7 (by decide) rfl k_2 dX6_prepareGates_79 ?_
        refine lv_iconst (v := 0) hx hb dX6_prepareGates_82 (by decide) ?_
        refine zw_Sv ⟨hx, hb, hml, hown, hts⟩ hK hN hA hW [.ref h_shutBehind, .int 0] [] [7] [0, 1, 2, 3, 4, 5, 6] [0, 1, 2, 3, 4, 5, 6, 7] (fun u => (wX6_prepareGates cyI cyJ cyZ h h_garden h_garden_courtA h_garden_courtB h_garden_kind h_garden_gone h_garden_court h_leaving h_shutBehind h_queue h_reached i_fewest i_first i_openFromA i_goalKind i_goal i_queued i_garden_gates i_garden_persons i_garden_fines a_garden_courtA a_garden_courtB a_garden_kind a_garden_gone a_leaving u)) (mJ7_fill_53178 l dC dI cyI cyJ cyZ h_shutBehind 5 _ a_shutBehind 0 _ hw) (va_cwS 2 hts gX6_prepareGates_J7_fill_53178 rfl rfl rfl (by decide +kernel) ⟨Nat.le_of_ble_eq_true rfl, Nat.le_of_ble_eq_true rfl⟩) rfl rfl rfl rfl (by decide) rfl (fun _ => rfl) rfl hl.1 rfl (Nat.le_of_ble_eq_true rfl) (Nat.le_of_ble_eq_true rfl) (Nat.le_of_ble_eq_true rfl) dX6_prepareGates_83 (fun u H locs hw hW => ?_)
        obtain ⟨a_shutBehind_21, rfl⟩ : ∃ z, z = u := ⟨_, rfl⟩
        replace hW : Wd (dC, dI) A s.heap (wX6_prepareGates cyI cyJ cyZ h h_garden h_garden_courtA h_garden_courtB h_garden_kind h_garden_gone h_garden_court h_leaving h_shutBehind h_queue h_reached i_fewest i_first i_openFromA i_goalKind i_goal i_queued i_garden_gates i_garden_persons i_garden_fines a_garden_courtA a_garden_courtB a_garden_kind a_garden_gone a_leaving a_shutBehind_21) H locs := hW
        refine lv_iconst (v := 0) hx hb dX6_prepareGates_86 (by decide) ?_
        refine lv_istore_n (lv' := [(1, .int 0), (0, .ref h)]) hx hb dX6_prepareGates_87 rfl hl (by decide) rfl (fun ls hl => ?_)
        obtain ⟨n_88, hw⟩ := hw
        exact W_88 i_openFromA a_leaving n_88 0 a_shutBehind_21 _ _ _ hW (lv_sub hl [1, 0] rfl) hw
      · replace hw := hw.2 c_20
        refine lv_aload_n hx hb dX6_prepareGates_18 rfl (lv_at hl 0 rfl) ?_
        refine zw_get (ci := 6) (C := RX6) (T := TX6) (N := 11) (v := .ref h_leaving) hx hb hts hiX6 hown hK hW 0 rfl rfl 6 (by decide) rfl k_3 dX6_prepareGates_19 ?_
        refine lv_iload_n hx hb dX6_prepareGates_22 rfl (lv_at hl 1 rfl) ?_
        refine lv_iconst (v := 0) hx hb dX6_prepareGates_23 (by decide) ?_
        refine zw_iast hx hb hK hW 6 rfl rfl hw.1 (w2 := fun a_leaving_22 => (wX6_prepareGates cyI cyJ cyZ h h_garden h_garden_courtA h_garden_courtB h_garden_kind h_garden_gone h_garden_court h_leaving h_shutBehind h_queue h_reached i_fewest i_first i_openFromA i_goalKind i_goal i_queued i_garden_gates i_garden_persons i_garden_fines a_garden_courtA a_garden_courtB a_garden_kind a_garden_gone a_leaving_22 a_shutBehind)) (fun _ => rfl) dX6_prepareGates_24 (fun a_leaving_22 H locs ea_leaving_22 hW => ?_)
        replace hw := hw.2 a_leaving_22 ea_leaving_22
        refine lv_iconst (v := 0) hx hb dX6_prepareGates_25 (by decide) ?_
        refine lv_istore_n (lv' := [(2, .int 0), (0, .ref h), (1, .int x1)]) hx hb dX6_prepareGates_26 rfl hl (by decide) rfl (fun ls hl => ?_)
        obtain ⟨n_27, hw⟩ := hw
        exact W_27 x1 n_27 0 a_leaving_22 _ _ _ hW (lv_sub hl [1, 2, 0] rfl) hw
  have hl := lv_entry ([.ref h]) (n := 3) (Nat.le_of_ble_eq_true rfl)
  rw [lg_entry_eq]
  generalize (lg_sl ([.ref h]) ++ List.replicate (3 - (lg_sl ([.ref h])).length) Slot.unset).toArray = ls at hl ⊢
  have hl : lv_has ls 3 [(0, .ref h)] := hl
  refine lv_aload_n hx hb dX6_prepareGates_0 rfl (lv_at hl 0 rfl) ?_
  refine lv_aload_n hx hb dX6_prepareGates_1 rfl (lv_at hl 0 rfl) ?_
  refine zw_get (ci := 6) (C := RX6) (T := TX6) (N := 11) (v := .ref h_garden) hx hb hts hiX6 hown hK hW 0 rfl rfl 2 (by decide) rfl k_0 dX6_prepareGates_2 ?_
  refine zw_Vi ⟨hx, hb, hml, hown, hts⟩ hK hN hA hW 1 rfl (T := TX2) (N := 8) rfl [] [.ref h] [1, 4, 5] [0, 2, 3, 6, 7] [0, 5, 1, 2, 6, 7, 3, 4] (fun _ => (wX6_prepareGates cyI cyJ cyZ h h_garden h_garden_courtA h_garden_courtB h_garden_kind h_garden_gone h_garden_court h_leaving h_shutBehind h_queue h_reached i_fewest i_first i_openFromA i_goalKind i_goal i_queued i_garden_gates i_garden_persons i_garden_fines a_garden_courtA a_garden_courtB a_garden_kind a_garden_gone a_leaving a_shutBehind)) (mX2_openFromA l dC dI cyI cyJ cyZ h_garden h_garden_courtA h_garden_courtB h_garden_kind h_garden_gone h_garden_court _ i_garden_gates i_garden_persons i_garden_fines a_garden_kind a_garden_gone _ hw) (cwV 0 hts gX6_prepareGates_X2_openFromA rfl rfl rfl (by decide +kernel) ⟨Nat.le_of_ble_eq_true rfl, Nat.le_of_ble_eq_true rfl⟩) rfl rfl rfl rfl (by decide) rfl (fun _ => rfl) rfl hl.1 rfl (Nat.le_of_ble_eq_true rfl) (Nat.le_of_ble_eq_true rfl) (Nat.le_of_ble_eq_true rfl) dX6_prepareGates_5 (fun r_23 u H locs hw hW => ?_)
  refine zw_put (ci := 6) (C := RX6) (T := TX6) (N := 11) (w2 := (wX6_prepareGates cyI cyJ cyZ h h_garden h_garden_courtA h_garden_courtB h_garden_kind h_garden_gone h_garden_court h_leaving h_shutBehind h_queue h_reached i_fewest i_first r_23 i_goalKind i_goal i_queued i_garden_gates i_garden_persons i_garden_fines a_garden_courtA a_garden_courtB a_garden_kind a_garden_gone a_leaving a_shutBehind)) hx hb hts hiX6 tyX6 tyX6_ok nmX6 hown hK hW 0 rfl rfl 3 (by decide) (by decide +kernel) rfl (Nat.le_of_ble_eq_true rfl) rfl k_4 dX6_prepareGates_8 (fun H locs hW => ?_)
  refine lv_iconst (v := 0) hx hb dX6_prepareGates_11 (by decide) ?_
  refine lv_istore_n (lv' := [(1, .int 0), (0, .ref h)]) hx hb dX6_prepareGates_12 rfl hl (by decide) rfl (fun ls hl => ?_)
  obtain ⟨n_13, hw⟩ := hw
  exact W_13 r_23 a_shutBehind n_13 0 a_leaving _ _ _ hW (lv_sub hl [1, 0] rfl) hw
abbrev wX6_courtShift (cyI cyJ cyZ : ClassId) : va_W := []
abbrev qX6_courtShift (dC : Nat → ClassId) (dI : Nat → Nat → Nat) (cyI cyJ cyZ : ClassId) (post : Int32 → Prop) (A : Nat → Prop) : Array Value → State → Outcome → State → Prop := (va_Qi (fun (r : Int32) (u : Unit) => post r) (bW (dC, dI) (tyG cyI cyJ cyZ) A (fun _ : Unit => (wX6_courtShift cyI cyJ cyZ))) A)
set_option maxHeartbeats 4000000 in
set_option maxRecDepth 100000 in
theorem mX6_courtShift (l : Launch) (dC : Nat → ClassId) (dI : Nat → Nat → Nat) (cyI cyJ cyZ : ClassId) (sz : Nat) (x0 : Int32) (post : Int32 → Prop) (hwp : PX6_courtShift x0 post) : Met l yX6_courtShift wsX6_courtShift ({ frames := 0, cells := 0, slots := 0, locals := 0 } : Room) (va_Pc [.int x0] (pcW (dC, dI) sz (wX6_courtShift cyI cyJ cyZ) (tyG cyI cyJ cyZ))) (qX6_courtShift dC dI cyI cyJ cyZ post (va_A (wX6_courtShift cyI cyJ cyZ) sz)) 0 0 (va_A (wX6_courtShift cyI cyJ cyZ) sz) := by
  refine Met.ofW (cc := cX6_courtShift) (maxL := 1) (ret := some .int) (by decide) rfl ?_
  intro p e s m args below meth c s₁ B hml hv
  obtain ⟨rfl, hsz, hP, hK, hD0, hN⟩ := hv
  have hx := B.exec
  have hb := B.bytes
  have hr := B.returns
  have hts := atoms_spec (ws := wsX6_courtShift) B.pre
  have hown : s.vm.findClass RX6 = some m.cls := findClass_of_methodNamed B.named
  have hlocks := B.notSynchronized
  subst hsz
  have hD := hD0.self (sz := s.heap.size)
  generalize hAe : va_A (wX6_courtShift cyI cyJ cyZ) s.heap.size = A at hD ⊢
  have hA : ∀ q : Nat, s.heap.size ≤ q → A q := fun q h => by rw [← hAe]; exact Or.inr h
  have hW : Wd (dC, dI) A s.heap (wX6_courtShift cyI cyJ cyZ) s.heap [] := ⟨hP, hD, va_S.rf⟩
  have hw := hwp
  have hl := lv_entry ([.int x0]) (n := 1) (Nat.le_of_ble_eq_true rfl)
  rw [lg_entry_eq]
  generalize (lg_sl ([.int x0]) ++ List.replicate (1 - (lg_sl ([.int x0])).length) Slot.unset).toArray = ls at hl ⊢
  have hl : lv_has ls 1 [(0, .int x0)] := hl
  refine lv_iconst (v := 5) hx hb dX6_courtShift_0 (by decide) ?_
  refine lv_iconst (v := 3) hx hb dX6_courtShift_1 (by decide) ?_
  refine lv_iload_n hx hb dX6_courtShift_2 rfl (lv_at hl 0 rfl) ?_
  refine lv_imul hx hb dX6_courtShift_3 ?_
  refine lv_iadd hx hb dX6_courtShift_4 ?_
  refine zw_iret (S := Unit) (post := fun r u => post r) () hx hb hr hlocks hK hW hw ?_ dX6_courtShift_5
  rfl
abbrev wX6_startState (cyI cyJ cyZ : ClassId) (h h_garden h_garden_courtA h_garden_courtB h_garden_kind h_garden_gone h_garden_court h_leaving h_shutBehind h_queue h_reached : Nat) (i_fewest : Int32) (i_first : Int32) (i_openFromA : Int32) (i_goalKind : Int32) (i_goal : Int32) (i_queued : Int32) (i_garden_gates : Int32) (i_garden_persons : Int32) (i_garden_fines : Int32) (a_garden_court : Nat → Int32) : va_W := [(h, .inr (6, [.int i_fewest, .int i_first, .ref h_garden, .int i_openFromA, .int i_goalKind, .int i_goal, .ref h_leaving, .ref h_shutBehind, .ref h_queue, .int i_queued, .ref h_reached])), (h_garden, .inr (2, [.ref h_garden_courtA, .ref h_garden_courtB, .ref h_garden_kind, .ref h_garden_gone, .int i_garden_gates, .ref h_garden_court, .int i_garden_persons, .int i_garden_fines])), (h_garden_court, .inl (cyI, 3, .inl a_garden_court))]
abbrev qX6_startState (dC : Nat → ClassId) (dI : Nat → Nat → Nat) (cyI cyJ cyZ : ClassId) (h h_garden h_garden_courtA h_garden_courtB h_garden_kind h_garden_gone h_garden_court h_leaving h_shutBehind h_queue h_reached : Nat) (i_fewest : Int32) (i_first : Int32) (i_openFromA : Int32) (i_goalKind : Int32) (i_goal : Int32) (i_queued : Int32) (i_garden_gates : Int32) (i_garden_persons : Int32) (i_garden_fines : Int32) (a_garden_court : Nat → Int32) (post : Int32 → Prop) (A : Nat → Prop) : Array Value → State → Outcome → State → Prop := (va_Qi (fun (r : Int32) (u : Unit) => post r) (bW (dC, dI) (tyG cyI cyJ cyZ) A (fun _ : Unit => (wX6_startState cyI cyJ cyZ h h_garden h_garden_courtA h_garden_courtB h_garden_kind h_garden_gone h_garden_court h_leaving h_shutBehind h_queue h_reached i_fewest i_first i_openFromA i_goalKind i_goal i_queued i_garden_gates i_garden_persons i_garden_fines a_garden_court))) A)
set_option maxHeartbeats 4000000 in
set_option maxRecDepth 100000 in
theorem mX6_startState (l : Launch) (dC : Nat → ClassId) (dI : Nat → Nat → Nat) (cyI cyJ cyZ : ClassId) (h h_garden h_garden_courtA h_garden_courtB h_garden_kind h_garden_gone h_garden_court h_leaving h_shutBehind h_queue h_reached : Nat) (sz : Nat) (i_fewest : Int32) (i_first : Int32) (i_openFromA : Int32) (i_goalKind : Int32) (i_goal : Int32) (i_queued : Int32) (i_garden_gates : Int32) (i_garden_persons : Int32) (i_garden_fines : Int32) (a_garden_court : Nat → Int32) (post : Int32 → Prop) (hwp : PX6_startState i_garden_persons a_garden_court post) : Met l yX6_startState wsX6_startState ({ frames := 1, cells := 0, slots := 0, locals := 20 } : Room) (va_Pc [.ref h] (pcW (dC, dI) sz (wX6_startState cyI cyJ cyZ h h_garden h_garden_courtA h_garden_courtB h_garden_kind h_garden_gone h_garden_court h_leaving h_shutBehind h_queue h_reached i_fewest i_first i_openFromA i_goalKind i_goal i_queued i_garden_gates i_garden_persons i_garden_fines a_garden_court) (tyG cyI cyJ cyZ))) (qX6_startState dC dI cyI cyJ cyZ h h_garden h_garden_courtA h_garden_courtB h_garden_kind h_garden_gone h_garden_court h_leaving h_shutBehind h_queue h_reached i_fewest i_first i_openFromA i_goalKind i_goal i_queued i_garden_gates i_garden_persons i_garden_fines a_garden_court post (va_A (wX6_startState cyI cyJ cyZ h h_garden h_garden_courtA h_garden_courtB h_garden_kind h_garden_gone h_garden_court h_leaving h_shutBehind h_queue h_reached i_fewest i_first i_openFromA i_goalKind i_goal i_queued i_garden_gates i_garden_persons i_garden_fines a_garden_court) sz)) 0 0 (va_A (wX6_startState cyI cyJ cyZ h h_garden h_garden_courtA h_garden_courtB h_garden_kind h_garden_gone h_garden_court h_leaving h_shutBehind h_queue h_reached i_fewest i_first i_openFromA i_goalKind i_goal i_queued i_garden_gates i_garden_persons i_garden_fines a_garden_court) sz) := by
  refine Met.ofW (cc := cX6_startState) (maxL := 3) (ret := some .int) (by decide) rfl ?_
  intro p e s m args below meth c s₁ B hml hv
  obtain ⟨rfl, hsz, hP, hK, hD0, hN⟩ := hv
  have hx := B.exec
  have hb := B.bytes
  have hr := B.returns
  have hts := atoms_spec (ws := wsX6_startState) B.pre
  have hown : s.vm.findClass RX6 = some m.cls := findClass_of_methodNamed B.named
  have hlocks := B.notSynchronized
  subst hsz
  have hD := hD0.self (sz := s.heap.size)
  generalize hAe : va_A (wX6_startState cyI cyJ cyZ h h_garden h_garden_courtA h_garden_courtB h_garden_kind h_garden_gone h_garden_court h_leaving h_shutBehind h_queue h_reached i_fewest i_first i_openFromA i_goalKind i_goal i_queued i_garden_gates i_garden_persons i_garden_fines a_garden_court) s.heap.size = A at hD ⊢
  have hA : ∀ q : Nat, s.heap.size ≤ q → A q := fun q h => by rw [← hAe]; exact Or.inr h
  have hW : Wd (dC, dI) A s.heap (wX6_startState cyI cyJ cyZ h h_garden h_garden_courtA h_garden_courtB h_garden_kind h_garden_gone h_garden_court h_leaving h_shutBehind h_queue h_reached i_fewest i_first i_openFromA i_goalKind i_goal i_queued i_garden_gates i_garden_persons i_garden_fines a_garden_court) s.heap [] := ⟨hP, hD, va_S.rf⟩
  have hw := hwp
  have hiX6 : ∀ w ∈ u_ws RX6 TX6 11, w ∈ wsX6_startState := fun _ h => List.mem_cons_of_mem _ (List.mem_append_left _ (List.mem_append_right _ h))
  have hiX2 : ∀ w ∈ u_ws RX2 TX2 8, w ∈ wsX6_startState := fun _ h => List.mem_cons_of_mem _ (List.mem_append_right _ h)
  have k_0 := hts (.fieldLink RX6 21 "OddLetsIn$Walk" "garden" "LOddLetsIn$Garden;") (List.mem_of_getElem? (i := 1) rfl)
  have k_1 := hts (.fieldLink RX6 91 "OddLetsIn$Garden" "persons" "I") (List.mem_of_getElem? (i := 2) rfl)
  have k_2 := hts (.fieldLink RX6 94 "OddLetsIn$Garden" "court" "[I") (List.mem_of_getElem? (i := 3) rfl)
  have W_4 : ∀ (n_4 : Nat) (x1 : Int32) (x2 : Int32) (H : Heap) (locs : List Loc) (ls : Array Slot), Wd (dC, dI) A s.heap (wX6_startState cyI cyJ cyZ h h_garden h_garden_courtA h_garden_courtB h_garden_kind h_garden_gone h_garden_court h_leaving h_shutBehind h_queue h_reached i_fewest i_first i_openFromA i_goalKind i_goal i_queued i_garden_gates i_garden_persons i_garden_fines a_garden_court) H locs → lv_has ls 3 [(0, .ref h), (1, .int x1), (2, .int x2)] → PX6_startState_4 post i_garden_persons a_garden_court n_4 x1 x2 → W p l e (({ frames := 1, cells := 0, slots := 0, locals := 20 } : Room)) s m (([.ref h] : List Value).toArray) below meth c H locs 0 0 (MQ below (qX6_startState dC dI cyI cyJ cyZ h h_garden h_garden_courtA h_garden_courtB h_garden_kind h_garden_gone h_garden_court h_leaving h_shutBehind h_queue h_reached i_fewest i_first i_openFromA i_goalKind i_goal i_queued i_garden_gates i_garden_persons i_garden_fines a_garden_court post A) (([.ref h] : List Value).toArray) s 0 0 A) (F0 m 4 ls []) := by
    intro n_4
    induction n_4 with
    | zero =>
      intro x1 x2 H locs ls hW hl hw
      exact False.elim hw
    | succ n_4 ih_4 =>
      intro x1 x2 H locs ls hW hl hw
      refine lv_iload_n hx hb dX6_startState_4 rfl (lv_at hl 2 rfl) ?_
      refine lv_iconst (v := 3) hx hb dX6_startState_5 (by decide) ?_
      refine lv_icmp_ge (tgt := 43) hx hb dX6_startState_6 (by decide) (fun c_1 => ?_) (fun c_1 => ?_)
      · replace hw := hw.1 c_1
        refine lv_iload_n hx hb dX6_startState_43 rfl (lv_at hl 1 rfl) ?_
        refine zw_iret (S := Unit) (post := fun r u => post r) () hx hb hr hlocks hK hW hw ?_ dX6_startState_44
        rfl
      · replace hw := hw.2 c_1
        refine lv_iload_n hx hb dX6_startState_9 rfl (lv_at hl 2 rfl) ?_
        refine lv_aload_n hx hb dX6_startState_10 rfl (lv_at hl 0 rfl) ?_
        refine zw_get (ci := 6) (C := RX6) (T := TX6) (N := 11) (v := .ref h_garden) hx hb hts hiX6 hown hK hW 0 rfl rfl 2 (by decide) rfl k_0 dX6_startState_11 ?_
        refine zw_get (ci := 2) (C := RX2) (T := TX2) (N := 8) (v := .int i_garden_persons) hx hb hts hiX2 hown hK hW 1 rfl rfl 6 (by decide) rfl k_1 dX6_startState_14 ?_
        refine lv_icmp_ge (tgt := 43) hx hb dX6_startState_17 (by decide) (fun c_2 => ?_) (fun c_2 => ?_)
        · replace hw := hw.1 c_2
          refine lv_iload_n hx hb dX6_startState_43 rfl (lv_at hl 1 rfl) ?_
          refine zw_iret (S := Unit) (post := fun r u => post r) () hx hb hr hlocks hK hW hw ?_ dX6_startState_44
          rfl
        · replace hw := hw.2 c_2
          refine lv_iload_n hx hb dX6_startState_20 rfl (lv_at hl 1 rfl) ?_
          refine lv_aload_n hx hb dX6_startState_21 rfl (lv_at hl 0 rfl) ?_
          refine zw_get (ci := 6) (C := RX6) (T := TX6) (N := 11) (v := .ref h_garden) hx hb hts hiX6 hown hK hW 0 rfl rfl 2 (by decide) rfl k_0 dX6_startState_22 ?_
          refine zw_get (ci := 2) (C := RX2) (T := TX2) (N := 8) (v := .ref h_garden_court) hx hb hts hiX2 hown hK hW 1 rfl rfl 5 (by decide) rfl k_2 dX6_startState_25 ?_
          refine lv_iload_n hx hb dX6_startState_28 rfl (lv_at hl 2 rfl) ?_
          refine zw_iald hx hb hK hW 2 rfl rfl hw.1 dX6_startState_29 ?_
          replace hw := hw.2
          refine lv_iload_n hx hb dX6_startState_30 rfl (lv_at hl 2 rfl) ?_
          refine zw_Si ⟨hx, hb, hml, hown, hts⟩ hK hN hA hW [.int x2] [.int (a_garden_court (x2).toNatClampNeg), .int x1] [] [0, 1, 2] [0, 1, 2] (fun _ => (wX6_startState cyI cyJ cyZ h h_garden h_garden_courtA h_garden_courtB h_garden_kind h_garden_gone h_garden_court h_leaving h_shutBehind h_queue h_reached i_fewest i_first i_openFromA i_goalKind i_goal i_queued i_garden_gates i_garden_persons i_garden_fines a_garden_court)) (mX6_courtShift l dC dI cyI cyJ cyZ _ x2 _ hw) (va_cwS 1 hts gX6_startState_X6_courtShift rfl rfl rfl (by decide +kernel) ⟨Nat.le_of_ble_eq_true rfl, Nat.le_of_ble_eq_true rfl⟩) rfl rfl rfl rfl (by decide) rfl (fun _ => rfl) rfl hl.1 rfl (Nat.le_of_ble_eq_true rfl) (Nat.le_of_ble_eq_true rfl) (Nat.le_of_ble_eq_true rfl) dX6_startState_31 (fun r_3 u H locs hw hW => ?_)
          refine lv_ishl hx hb dX6_startState_34 ?_
          refine lv_ior hx hb dX6_startState_35 ?_
          refine lv_topi (fun x1_4 ex1_4 => ?_)
          replace hw := hw x1_4 ex1_4
          refine lv_istore_n (lv' := [(1, .int x1_4), (0, .ref h), (2, .int x2)]) hx hb dX6_startState_36 rfl hl (by decide) rfl (fun ls hl => ?_)
          obtain ⟨x2_5, ex2_5⟩ : ∃ y : Int32, y = x2 + 1 := ⟨_, rfl⟩
          replace hw := hw x2_5 ex2_5
          refine lv_iinc (v := x2_5) (lv' := [(2, .int x2_5), (1, .int x1_4), (0, .ref h)]) hx hb dX6_startState_37 hl (k := 2) rfl (by rw [ex2_5]; rfl) (by decide) rfl (fun ls hl => ?_)
          refine lv_goto (tgt := 4) hx hb dX6_startState_40 (by decide) ?_
          exact ih_4 x1_4 x2_5 _ _ _ hW (lv_sub hl [2, 1, 0] rfl) hw
  have hl := lv_entry ([.ref h]) (n := 3) (Nat.le_of_ble_eq_true rfl)
  rw [lg_entry_eq]
  generalize (lg_sl ([.ref h]) ++ List.replicate (3 - (lg_sl ([.ref h])).length) Slot.unset).toArray = ls at hl ⊢
  have hl : lv_has ls 3 [(0, .ref h)] := hl
  refine lv_iconst (v := 0) hx hb dX6_startState_0 (by decide) ?_
  refine lv_istore_n (lv' := [(1, .int 0), (0, .ref h)]) hx hb dX6_startState_1 rfl hl (by decide) rfl (fun ls hl => ?_)
  refine lv_iconst (v := 0) hx hb dX6_startState_2 (by decide) ?_
  refine lv_istore_n (lv' := [(2, .int 0), (1, .int 0), (0, .ref h)]) hx hb dX6_startState_3 rfl hl (by decide) rfl (fun ls hl => ?_)
  obtain ⟨n_4, hw⟩ := hw
  exact W_4  n_4 0 0 _ _ _ hW (lv_sub hl [2, 1, 0] rfl) hw
abbrev wX6_enqueue (cyI cyJ cyZ : ClassId) (h h_garden h_leaving h_shutBehind h_queue h_reached : Nat) (i_fewest : Int32) (i_first : Int32) (i_openFromA : Int32) (i_goalKind : Int32) (i_goal : Int32) (i_queued : Int32) (a_queue : Nat → Int32) (a_reached : Nat → Int64) : va_W := [(h, .inr (6, [.int i_fewest, .int i_first, .ref h_garden, .int i_openFromA, .int i_goalKind, .int i_goal, .ref h_leaving, .ref h_shutBehind, .ref h_queue, .int i_queued, .ref h_reached])), (h_queue, .inl (cyI, 4000, .inl a_queue)), (h_reached, .inl (cyJ, 256, .inr (.inl a_reached)))]
abbrev qX6_enqueue (dC : Nat → ClassId) (dI : Nat → Nat → Nat) (cyI cyJ cyZ : ClassId) (h h_garden h_leaving h_shutBehind h_queue h_reached : Nat) (i_fewest : Int32) (i_first : Int32) (i_openFromA : Int32) (i_goalKind : Int32) (i_goal : Int32) (i_queued : Int32) (a_queue : Nat → Int32) (a_reached : Nat → Int64) (post : Int32 → (Nat → Int32) → (Nat → Int64) → Prop) (A : Nat → Prop) : Array Value → State → Outcome → State → Prop := (va_Qv (fun (u : Int32 × (Nat → Int32) × (Nat → Int64)) => post u.1 u.2.1 u.2.2) (bW (dC, dI) (tyG cyI cyJ cyZ) A (fun u : Int32 × (Nat → Int32) × (Nat → Int64) => (wX6_enqueue cyI cyJ cyZ h h_garden h_leaving h_shutBehind h_queue h_reached i_fewest i_first i_openFromA i_goalKind i_goal (u.1) (u.2.1) (u.2.2)))) A)
set_option maxHeartbeats 4000000 in
set_option maxRecDepth 100000 in
theorem mX6_enqueue (l : Launch) (dC : Nat → ClassId) (dI : Nat → Nat → Nat) (cyI cyJ cyZ : ClassId) (h h_garden h_leaving h_shutBehind h_queue h_reached : Nat) (sz : Nat) (i_fewest : Int32) (i_first : Int32) (i_openFromA : Int32) (i_goalKind : Int32) (i_goal : Int32) (i_queued : Int32) (a_queue : Nat → Int32) (a_reached : Nat → Int64) (x1 : Int32) (x2 : Int32) (post : Int32 → (Nat → Int32) → (Nat → Int64) → Prop) (hwp : PX6_enqueue x1 x2 i_queued a_queue a_reached post) : Met l yX6_enqueue wsX6_enqueue ({ frames := 0, cells := 0, slots := 0, locals := 0 } : Room) (va_Pc [.ref h, .int x1, .int x2] (pcW (dC, dI) sz (wX6_enqueue cyI cyJ cyZ h h_garden h_leaving h_shutBehind h_queue h_reached i_fewest i_first i_openFromA i_goalKind i_goal i_queued a_queue a_reached) (tyG cyI cyJ cyZ))) (qX6_enqueue dC dI cyI cyJ cyZ h h_garden h_leaving h_shutBehind h_queue h_reached i_fewest i_first i_openFromA i_goalKind i_goal i_queued a_queue a_reached post (va_A (wX6_enqueue cyI cyJ cyZ h h_garden h_leaving h_shutBehind h_queue h_reached i_fewest i_first i_openFromA i_goalKind i_goal i_queued a_queue a_reached) sz)) 0 0 (va_A (wX6_enqueue cyI cyJ cyZ h h_garden h_leaving h_shutBehind h_queue h_reached i_fewest i_first i_openFromA i_goalKind i_goal i_queued a_queue a_reached) sz) := by
  refine Met.ofW (cc := cX6_enqueue) (maxL := 6) (ret := none) (by decide) rfl ?_
  intro p e s m args below meth c s₁ B hml hv
  obtain ⟨rfl, hsz, hP, hK, hD0, hN⟩ := hv
  have hx := B.exec
  have hb := B.bytes
  have hr := B.returns
  have hts := atoms_spec (ws := wsX6_enqueue) B.pre
  have hown : s.vm.findClass RX6 = some m.cls := findClass_of_methodNamed B.named
  have hlocks := B.notSynchronized
  subst hsz
  have hD := hD0.self (sz := s.heap.size)
  generalize hAe : va_A (wX6_enqueue cyI cyJ cyZ h h_garden h_leaving h_shutBehind h_queue h_reached i_fewest i_first i_openFromA i_goalKind i_goal i_queued a_queue a_reached) s.heap.size = A at hD ⊢
  have hA : ∀ q : Nat, s.heap.size ≤ q → A q := fun q h => by rw [← hAe]; exact Or.inr h
  have hW : Wd (dC, dI) A s.heap (wX6_enqueue cyI cyJ cyZ h h_garden h_leaving h_shutBehind h_queue h_reached i_fewest i_first i_openFromA i_goalKind i_goal i_queued a_queue a_reached) s.heap [] := ⟨hP, hD, va_S.rf⟩
  have hw := hwp
  have hiX6 : ∀ w ∈ u_ws RX6 TX6 11, w ∈ wsX6_enqueue := fun _ h => List.mem_cons_of_mem _ (List.mem_append_right _ h)
  have k_0 := hts (.fieldLink RX6 47 "OddLetsIn$Walk" "reached" "[J") (List.mem_of_getElem? (i := 1) rfl)
  have k_1 := hts (.fieldLink RX6 44 "OddLetsIn$Walk" "queued" "I") (List.mem_of_getElem? (i := 2) rfl)
  have k_2 := hts (.fieldLink RX6 41 "OddLetsIn$Walk" "queue" "[I") (List.mem_of_getElem? (i := 3) rfl)
  have hl := lv_entry ([.ref h, .int x1, .int x2]) (n := 6) (Nat.le_of_ble_eq_true rfl)
  rw [lg_entry_eq]
  generalize (lg_sl ([.ref h, .int x1, .int x2]) ++ List.replicate (6 - (lg_sl ([.ref h, .int x1, .int x2])).length) Slot.unset).toArray = ls at hl ⊢
  have hl : lv_has ls 6 [(0, .ref h), (1, .int x1), (2, .int x2)] := hl
  refine lv_iload_n hx hb dX6_enqueue_0 rfl (lv_at hl 1 rfl) ?_
  refine lv_bipush (v := 6) hx hb dX6_enqueue_1 (by decide) ?_
  refine lv_ishr hx hb dX6_enqueue_3 ?_
  refine lv_topi (fun x3_1 ex3_1 => ?_)
  replace hw := hw x3_1 ex3_1
  refine lv_istore_n (lv' := [(3, .int x3_1), (0, .ref h), (1, .int x1), (2, .int x2)]) hx hb dX6_enqueue_4 rfl hl (by decide) rfl (fun ls hl => ?_)
  refine lv_iload_n hx hb dX6_enqueue_5 rfl (lv_at hl 0 rfl) ?_
  refine lv_if_lt (tgt := 28) hx hb dX6_enqueue_6 (by decide) (fun c_2 => ?_) (fun c_2 => ?_)
  · replace hw := hw.1 c_2
    refine zw_vret (S := Int32 × (Nat → Int32) × (Nat → Int64)) (post := fun u => post u.1 u.2.1 u.2.2) (i_queued, a_queue, a_reached) hx hb hr hlocks hK hW hw ?_ dX6_enqueue_28
    rfl
  · replace hw := hw.2 c_2
    refine lv_iload_n hx hb dX6_enqueue_9 rfl (lv_at hl 0 rfl) ?_
    refine lv_aload_n hx hb dX6_enqueue_10 rfl (lv_at hl 1 rfl) ?_
    refine zw_get (ci := 6) (C := RX6) (T := TX6) (N := 11) (v := .ref h_reached) hx hb hts hiX6 hown hK hW 0 rfl rfl 10 (by decide) rfl k_0 dX6_enqueue_11 ?_
    refine zw_alen (v := 256) hx hb hK hW 2 1 rfl rfl (show nI 256 = 256 by decide) dX6_enqueue_14 ?_
    refine lv_icmp_ge (tgt := 28) hx hb dX6_enqueue_15 (by decide) (fun c_3 => ?_) (fun c_3 => ?_)
    · replace hw := hw.1 c_3
      refine zw_vret (S := Int32 × (Nat → Int32) × (Nat → Int64)) (post := fun u => post u.1 u.2.1 u.2.2) (i_queued, a_queue, a_reached) hx hb hr hlocks hK hW hw ?_ dX6_enqueue_28
      rfl
    · replace hw := hw.2 c_3
      refine lv_aload_n hx hb dX6_enqueue_18 rfl (lv_at hl 1 rfl) ?_
      refine zw_get (ci := 6) (C := RX6) (T := TX6) (N := 11) (v := .int i_queued) hx hb hts hiX6 hown hK hW 0 rfl rfl 9 (by decide) rfl k_1 dX6_enqueue_19 ?_
      refine lv_sipush (v := 4000) hx hb dX6_enqueue_22 (by decide) ?_
      refine lv_icmp_lt (tgt := 29) hx hb dX6_enqueue_25 (by decide) (fun c_4 => ?_) (fun c_4 => ?_)
      · replace hw := hw.1 c_4
        refine lv_lconst (v := 1) hx hb dX6_enqueue_29 (by decide) ?_
        refine lv_iload_n hx hb dX6_enqueue_30 rfl (lv_at hl 2 rfl) ?_
        refine lv_bipush (v := 63) hx hb dX6_enqueue_31 (by decide) ?_
        refine lv_iand hx hb dX6_enqueue_33 ?_
        refine lv_lshl hx hb dX6_enqueue_34 rfl ?_
        refine lv_topl (fun x4_5 ex4_5 => ?_)
        replace hw := hw x4_5 ex4_5
        refine lv_lstore (lv' := [(4, .long x4_5), (3, .int x3_1), (0, .ref h), (1, .int x1), (2, .int x2)]) hx hb dX6_enqueue_35 hl (by decide) rfl (fun ls hl => ?_)
        refine lv_aload_n hx hb dX6_enqueue_37 rfl (lv_at hl 2 rfl) ?_
        refine zw_get (ci := 6) (C := RX6) (T := TX6) (N := 11) (v := .ref h_reached) hx hb hts hiX6 hown hK hW 0 rfl rfl 10 (by decide) rfl k_0 dX6_enqueue_38 ?_
        refine lv_iload_n hx hb dX6_enqueue_41 rfl (lv_at hl 1 rfl) ?_
        refine zw_lald hx hb hK hW 2 rfl rfl hw.1 dX6_enqueue_42 ?_
        replace hw := hw.2
        refine lv_lload hx hb dX6_enqueue_43 (lv_at hl 0 rfl) ?_
        refine lv_land hx hb dX6_enqueue_45 ?_
        refine lv_lconst (v := 0) hx hb dX6_enqueue_46 (by decide) ?_
        refine W.lcmp hx hb dX6_enqueue_47 ?_
        refine lv_if_ne (tgt := 87) hx hb dX6_enqueue_48 (by decide) (fun c_6 => ?_) (fun c_6 => ?_)
        · replace hw := hw.2 c_6
          refine zw_vret (S := Int32 × (Nat → Int32) × (Nat → Int64)) (post := fun u => post u.1 u.2.1 u.2.2) (i_queued, a_queue, a_reached) hx hb hr hlocks hK hW hw ?_ dX6_enqueue_87
          rfl
        · replace hw := hw.1 c_6
          refine lv_aload_n hx hb dX6_enqueue_51 rfl (lv_at hl 2 rfl) ?_
          refine zw_get (ci := 6) (C := RX6) (T := TX6) (N := 11) (v := .ref h_reached) hx hb hts hiX6 hown hK hW 0 rfl rfl 10 (by decide) rfl k_0 dX6_enqueue_52 ?_
          refine lv_iload_n hx hb dX6_enqueue_55 rfl (lv_at hl 1 rfl) ?_
          refine lv_dup2_11 hx hb dX6_enqueue_56 rfl rfl ?_
          refine zw_lald hx hb hK hW 2 rfl rfl hw.1 dX6_enqueue_57 ?_
          replace hw := hw.2
          refine lv_lload hx hb dX6_enqueue_58 (lv_at hl 0 rfl) ?_
          refine lv_lor hx hb dX6_enqueue_60 ?_
          refine lv_topl (fun t_7 et_7 => ?_)
          replace hw := hw t_7 et_7
          refine zw_last hx hb hK hW 2 rfl rfl hw.1 (w2 := fun a_reached_8 => (wX6_enqueue cyI cyJ cyZ h h_garden h_leaving h_shutBehind h_queue h_reached i_fewest i_first i_openFromA i_goalKind i_goal i_queued a_queue a_reached_8)) (fun _ => rfl) dX6_enqueue_61 (fun a_reached_8 H locs ea_reached_8 hW => ?_)
          replace hw := hw.2 a_reached_8 ea_reached_8
          refine lv_aload_n hx hb dX6_enqueue_62 rfl (lv_at hl 2 rfl) ?_
          refine zw_get (ci := 6) (C := RX6) (T := TX6) (N := 11) (v := .ref h_queue) hx hb hts hiX6 hown hK hW 0 rfl rfl 8 (by decide) rfl k_2 dX6_enqueue_63 ?_
          refine lv_aload_n hx hb dX6_enqueue_66 rfl (lv_at hl 2 rfl) ?_
          refine zw_get (ci := 6) (C := RX6) (T := TX6) (N := 11) (v := .int i_queued) hx hb hts hiX6 hown hK hW 0 rfl rfl 9 (by decide) rfl k_1 dX6_enqueue_67 ?_
          refine lv_iload_n hx hb dX6_enqueue_70 rfl (lv_at hl 4 rfl) ?_
          refine lv_bipush (v := 14) hx hb dX6_enqueue_71 (by decide) ?_
          refine lv_ishl hx hb dX6_enqueue_73 ?_
          refine lv_iload_n hx hb dX6_enqueue_74 rfl (lv_at hl 3 rfl) ?_
          refine lv_ior hx hb dX6_enqueue_75 ?_
          refine lv_topi (fun t_9 et_9 => ?_)
          replace hw := hw t_9 et_9
          refine zw_iast hx hb hK hW 1 rfl rfl hw.1 (w2 := fun a_queue_10 => (wX6_enqueue cyI cyJ cyZ h h_garden h_leaving h_shutBehind h_queue h_reached i_fewest i_first i_openFromA i_goalKind i_goal i_queued a_queue_10 a_reached_8)) (fun _ => rfl) dX6_enqueue_76 (fun a_queue_10 H locs ea_queue_10 hW => ?_)
          replace hw := hw.2 a_queue_10 ea_queue_10
          refine lv_aload_n hx hb dX6_enqueue_77 rfl (lv_at hl 2 rfl) ?_
          refine lv_dup hx hb dX6_enqueue_78 rfl ?_
          refine zw_get (ci := 6) (C := RX6) (T := TX6) (N := 11) (v := .int i_queued) hx hb hts hiX6 hown hK hW 0 rfl rfl 9 (by decide) rfl k_1 dX6_enqueue_79 ?_
          refine lv_iconst (v := 1) hx hb dX6_enqueue_82 (by decide) ?_
          refine lv_iadd hx hb dX6_enqueue_83 ?_
          refine lv_topi (fun i_11 ei_11 => ?_)
          replace hw := hw i_11 ei_11
          refine zw_put (ci := 6) (C := RX6) (T := TX6) (N := 11) (w2 := (wX6_enqueue cyI cyJ cyZ h h_garden h_leaving h_shutBehind h_queue h_reached i_fewest i_first i_openFromA i_goalKind i_goal i_11 a_queue_10 a_reached_8)) hx hb hts hiX6 tyX6 tyX6_ok nmX6 hown hK hW 0 rfl rfl 9 (by decide) (by decide +kernel) rfl (Nat.le_of_ble_eq_true rfl) rfl k_1 dX6_enqueue_84 (fun H locs hW => ?_)
          refine zw_vret (S := Int32 × (Nat → Int32) × (Nat → Int64)) (post := fun u => post u.1 u.2.1 u.2.2) (i_11, a_queue_10, a_reached_8) hx hb hr hlocks hK hW hw ?_ dX6_enqueue_87
          rfl
      · replace hw := hw.2 c_4
        refine zw_vret (S := Int32 × (Nat → Int32) × (Nat → Int64)) (post := fun u => post u.1 u.2.1 u.2.2) (i_queued, a_queue, a_reached) hx hb hr hlocks hK hW hw ?_ dX6_enqueue_28
        rfl
abbrev wX6_courtIn (cyI cyJ cyZ : ClassId) : va_W := []
abbrev qX6_courtIn (dC : Nat → ClassId) (dI : Nat → Nat → Nat) (cyI cyJ cyZ : ClassId) (post : Int32 → Prop) (A : Nat → Prop) : Array Value → State → Outcome → State → Prop := (va_Qi (fun (r : Int32) (u : Unit) => post r) (bW (dC, dI) (tyG cyI cyJ cyZ) A (fun _ : Unit => (wX6_courtIn cyI cyJ cyZ))) A)
set_option maxHeartbeats 4000000 in
set_option maxRecDepth 100000 in
theorem mX6_courtIn (l : Launch) (dC : Nat → ClassId) (dI : Nat → Nat → Nat) (cyI cyJ cyZ : ClassId) (sz : Nat) (x0 : Int32) (x1 : Int32) (post : Int32 → Prop) (hwp : PX6_courtIn x0 x1 post) : Met l yX6_courtIn wsX6_courtIn ({ frames := 1, cells := 0, slots := 0, locals := 20 } : Room) (va_Pc [.int x0, .int x1] (pcW (dC, dI) sz (wX6_courtIn cyI cyJ cyZ) (tyG cyI cyJ cyZ))) (qX6_courtIn dC dI cyI cyJ cyZ post (va_A (wX6_courtIn cyI cyJ cyZ) sz)) 0 0 (va_A (wX6_courtIn cyI cyJ cyZ) sz) := by
  refine Met.ofW (cc := cX6_courtIn) (maxL := 2) (ret := some .int) (by decide) rfl ?_
  intro p e s m args below meth c s₁ B hml hv
  obtain ⟨rfl, hsz, hP, hK, hD0, hN⟩ := hv
  have hx := B.exec
  have hb := B.bytes
  have hr := B.returns
  have hts := atoms_spec (ws := wsX6_courtIn) B.pre
  have hown : s.vm.findClass RX6 = some m.cls := findClass_of_methodNamed B.named
  have hlocks := B.notSynchronized
  subst hsz
  have hD := hD0.self (sz := s.heap.size)
  generalize hAe : va_A (wX6_courtIn cyI cyJ cyZ) s.heap.size = A at hD ⊢
  have hA : ∀ q : Nat, s.heap.size ≤ q → A q := fun q h => by rw [← hAe]; exact Or.inr h
  have hW : Wd (dC, dI) A s.heap (wX6_courtIn cyI cyJ cyZ) s.heap [] := ⟨hP, hD, va_S.rf⟩
  have hw := hwp
  have hl := lv_entry ([.int x0, .int x1]) (n := 2) (Nat.le_of_ble_eq_true rfl)
  rw [lg_entry_eq]
  generalize (lg_sl ([.int x0, .int x1]) ++ List.replicate (2 - (lg_sl ([.int x0, .int x1])).length) Slot.unset).toArray = ls at hl ⊢
  have hl : lv_has ls 2 [(0, .int x0), (1, .int x1)] := hl
  refine lv_iload_n hx hb dX6_courtIn_0 rfl (lv_at hl 0 rfl) ?_
  refine lv_iload_n hx hb dX6_courtIn_1 rfl (lv_at hl 1 rfl) ?_
  refine zw_Si ⟨hx, hb, hml, hown, hts⟩ hK hN hA hW [.int x1] [.int x0] [] [] [] (fun _ => (wX6_courtIn cyI cyJ cyZ)) (mX6_courtShift l dC dI cyI cyJ cyZ _ x1 _ hw) (va_cwS 1 hts gX6_courtIn_X6_courtShift rfl rfl rfl (by decide +kernel) ⟨Nat.le_of_ble_eq_true rfl, Nat.le_of_ble_eq_true rfl⟩) rfl rfl rfl rfl (by decide) rfl (fun _ => rfl) rfl hl.1 rfl (Nat.le_of_ble_eq_true rfl) (Nat.le_of_ble_eq_true rfl) (Nat.le_of_ble_eq_true rfl) dX6_courtIn_2 (fun r_1 u H locs hw hW => ?_)
  refine lv_ishr hx hb dX6_courtIn_5 ?_
  refine lv_bipush (v := 7) hx hb dX6_courtIn_6 (by decide) ?_
  refine lv_iand hx hb dX6_courtIn_8 ?_
  refine zw_iret (S := Unit) (post := fun r u => post r) () hx hb hr hlocks hK hW hw ?_ dX6_courtIn_9
  rfl
abbrev wX6_isGoal (cyI cyJ cyZ : ClassId) (h h_garden h_garden_courtA h_garden_courtB h_garden_kind h_garden_gone h_garden_court h_leaving h_shutBehind h_queue h_reached : Nat) (i_fewest : Int32) (i_first : Int32) (i_openFromA : Int32) (i_goalKind : Int32) (i_goal : Int32) (i_queued : Int32) (i_garden_gates : Int32) (i_garden_persons : Int32) (i_garden_fines : Int32) : va_W := [(h, .inr (6, [.int i_fewest, .int i_first, .ref h_garden, .int i_openFromA, .int i_goalKind, .int i_goal, .ref h_leaving, .ref h_shutBehind, .ref h_queue, .int i_queued, .ref h_reached])), (h_garden, .inr (2, [.ref h_garden_courtA, .ref h_garden_courtB, .ref h_garden_kind, .ref h_garden_gone, .int i_garden_gates, .ref h_garden_court, .int i_garden_persons, .int i_garden_fines]))]
abbrev qX6_isGoal (dC : Nat → ClassId) (dI : Nat → Nat → Nat) (cyI cyJ cyZ : ClassId) (h h_garden h_garden_courtA h_garden_courtB h_garden_kind h_garden_gone h_garden_court h_leaving h_shutBehind h_queue h_reached : Nat) (i_fewest : Int32) (i_first : Int32) (i_openFromA : Int32) (i_goalKind : Int32) (i_goal : Int32) (i_queued : Int32) (i_garden_gates : Int32) (i_garden_persons : Int32) (i_garden_fines : Int32) (post : Int32 → Prop) (A : Nat → Prop) : Array Value → State → Outcome → State → Prop := (va_Qi (fun (r : Int32) (u : Unit) => (r = 0 ∨ r = 1) ∧ post r) (bW (dC, dI) (tyG cyI cyJ cyZ) A (fun _ : Unit => (wX6_isGoal cyI cyJ cyZ h h_garden h_garden_courtA h_garden_courtB h_garden_kind h_garden_gone h_garden_court h_leaving h_shutBehind h_queue h_reached i_fewest i_first i_openFromA i_goalKind i_goal i_queued i_garden_gates i_garden_persons i_garden_fines))) A)
set_option maxHeartbeats 4000000 in
set_option maxRecDepth 100000 in
theorem mX6_isGoal (l : Launch) (dC : Nat → ClassId) (dI : Nat → Nat → Nat) (cyI cyJ cyZ : ClassId) (h h_garden h_garden_courtA h_garden_courtB h_garden_kind h_garden_gone h_garden_court h_leaving h_shutBehind h_queue h_reached : Nat) (sz : Nat) (i_fewest : Int32) (i_first : Int32) (i_openFromA : Int32) (i_goalKind : Int32) (i_goal : Int32) (i_queued : Int32) (i_garden_gates : Int32) (i_garden_persons : Int32) (i_garden_fines : Int32) (x1 : Int32) (post : Int32 → Prop) (hwp : PX6_isGoal x1 i_openFromA i_goalKind i_goal i_garden_persons post) : Met l yX6_isGoal wsX6_isGoal ({ frames := 2, cells := 0, slots := 0, locals := 41 } : Room) (va_Pc [.ref h, .int x1] (pcW (dC, dI) sz (wX6_isGoal cyI cyJ cyZ h h_garden h_garden_courtA h_garden_courtB h_garden_kind h_garden_gone h_garden_court h_leaving h_shutBehind h_queue h_reached i_fewest i_first i_openFromA i_goalKind i_goal i_queued i_garden_gates i_garden_persons i_garden_fines) (tyG cyI cyJ cyZ))) (qX6_isGoal dC dI cyI cyJ cyZ h h_garden h_garden_courtA h_garden_courtB h_garden_kind h_garden_gone h_garden_court h_leaving h_shutBehind h_queue h_reached i_fewest i_first i_openFromA i_goalKind i_goal i_queued i_garden_gates i_garden_persons i_garden_fines post (va_A (wX6_isGoal cyI cyJ cyZ h h_garden h_garden_courtA h_garden_courtB h_garden_kind h_garden_gone h_garden_court h_leaving h_shutBehind h_queue h_reached i_fewest i_first i_openFromA i_goalKind i_goal i_queued i_garden_gates i_garden_persons i_garden_fines) sz)) 0 0 (va_A (wX6_isGoal cyI cyJ cyZ h h_garden h_garden_courtA h_garden_courtB h_garden_kind h_garden_gone h_garden_court h_leaving h_shutBehind h_queue h_reached i_fewest i_first i_openFromA i_goalKind i_goal i_queued i_garden_gates i_garden_persons i_garden_fines) sz) := by
  refine Met.ofW (cc := cX6_isGoal) (maxL := 4) (ret := some .boolean) (by decide) rfl ?_
  intro p e s m args below meth c s₁ B hml hv
  obtain ⟨rfl, hsz, hP, hK, hD0, hN⟩ := hv
  have hx := B.exec
  have hb := B.bytes
  have hr := B.returns
  have hts := atoms_spec (ws := wsX6_isGoal) B.pre
  have hown : s.vm.findClass RX6 = some m.cls := findClass_of_methodNamed B.named
  have hlocks := B.notSynchronized
  subst hsz
  have hD := hD0.self (sz := s.heap.size)
  generalize hAe : va_A (wX6_isGoal cyI cyJ cyZ h h_garden h_garden_courtA h_garden_courtB h_garden_kind h_garden_gone h_garden_court h_leaving h_shutBehind h_queue h_reached i_fewest i_first i_openFromA i_goalKind i_goal i_queued i_garden_gates i_garden_persons i_garden_fines) s.heap.size = A at hD ⊢
  have hA : ∀ q : Nat, s.heap.size ≤ q → A q := fun q h => by rw [← hAe]; exact Or.inr h
  have hW : Wd (dC, dI) A s.heap (wX6_isGoal cyI cyJ cyZ h h_garden h_garden_courtA h_garden_courtB h_garden_kind h_garden_gone h_garden_court h_leaving h_shutBehind h_queue h_reached i_fewest i_first i_openFromA i_goalKind i_goal i_queued i_garden_gates i_garden_persons i_garden_fines) s.heap [] := ⟨hP, hD, va_S.rf⟩
  have hw := hwp
  have hiX6 : ∀ w ∈ u_ws RX6 TX6 11, w ∈ wsX6_isGoal := fun _ h => List.mem_cons_of_mem _ (List.mem_append_left _ (List.mem_append_right _ h))
  have hiX2 : ∀ w ∈ u_ws RX2 TX2 8, w ∈ wsX6_isGoal := fun _ h => List.mem_cons_of_mem _ (List.mem_append_right _ h)
  have k_0 := hts (.fieldLink RX6 28 "OddLetsIn$Walk" "goalKind" "I") (List.mem_of_getElem? (i := 1) rfl)
  have k_1 := hts (.fieldLink RX6 21 "OddLetsIn$Walk" "garden" "LOddLetsIn$Garden;") (List.mem_of_getElem? (i := 4) rfl)
  have k_2 := hts (.fieldLink RX6 91 "OddLetsIn$Garden" "persons" "I") (List.mem_of_getElem? (i := 5) rfl)
  have k_3 := hts (.fieldLink RX6 31 "OddLetsIn$Walk" "goal" "I") (List.mem_of_getElem? (i := 3) rfl)
  have k_4 := hts (.fieldLink RX6 25 "OddLetsIn$Walk" "openFromA" "I") (List.mem_of_getElem? (i := 2) rfl)
  have W_75 : ∀ (x2 : Int32) (H : Heap) (locs : List Loc) (ls : Array Slot), Wd (dC, dI) A s.heap (wX6_isGoal cyI cyJ cyZ h h_garden h_garden_courtA h_garden_courtB h_garden_kind h_garden_gone h_garden_court h_leaving h_shutBehind h_queue h_reached i_fewest i_first i_openFromA i_goalKind i_goal i_queued i_garden_gates i_garden_persons i_garden_fines) H locs → lv_has ls 4 [(0, .ref h), (2, .int x2)] → PX6_isGoal_75 post i_goalKind i_garden_persons x2 → W p l e (({ frames := 2, cells := 0, slots := 0, locals := 41 } : Room)) s m (([.ref h, .int x1] : List Value).toArray) below meth c H locs 0 0 (MQ below (qX6_isGoal dC dI cyI cyJ cyZ h h_garden h_garden_courtA h_garden_courtB h_garden_kind h_garden_gone h_garden_court h_leaving h_shutBehind h_queue h_reached i_fewest i_first i_openFromA i_goalKind i_goal i_queued i_garden_gates i_garden_persons i_garden_fines post A) (([.ref h, .int x1] : List Value).toArray) s 0 0 A) (F0 m 75 ls []) := by
    intro x2 H locs ls hW hl hw
    refine lv_aload_n hx hb dX6_isGoal_75 rfl (lv_at hl 0 rfl) ?_
    refine zw_get (ci := 6) (C := RX6) (T := TX6) (N := 11) (v := .int i_goalKind) hx hb hts hiX6 hown hK hW 0 rfl rfl 4 (by decide) rfl k_0 dX6_isGoal_76 ?_
    refine lv_iconst (v := 1) hx hb dX6_isGoal_79 (by decide) ?_
    refine lv_icmp_ne (tgt := 95) hx hb dX6_isGoal_80 (by decide) (fun c_1 => ?_) (fun c_1 => ?_)
    · replace hw := hw.2 c_1
      refine lv_iload_n hx hb dX6_isGoal_95 rfl (lv_at hl 1 rfl) ?_
      refine lv_aload_n hx hb dX6_isGoal_96 rfl (lv_at hl 0 rfl) ?_
      refine zw_get (ci := 6) (C := RX6) (T := TX6) (N := 11) (v := .ref h_garden) hx hb hts hiX6 hown hK hW 0 rfl rfl 2 (by decide) rfl k_1 dX6_isGoal_97 ?_
      refine zw_get (ci := 2) (C := RX2) (T := TX2) (N := 8) (v := .int i_garden_persons) hx hb hts hiX2 hown hK hW 1 rfl rfl 6 (by decide) rfl k_2 dX6_isGoal_100 ?_
      refine lv_icmp_ne (tgt := 110) hx hb dX6_isGoal_103 (by decide) (fun c_2 => ?_) (fun c_2 => ?_)
      · replace hw := hw.2 c_2
        refine lv_iconst (v := 0) hx hb dX6_isGoal_110 (by decide) ?_
        refine zw_zret (S := Unit) (post := fun r u => post r) () hx hb hr hlocks hK hW (Or.inl rfl) hw ?_ dX6_isGoal_111
        rfl
      · replace hw := hw.1 c_2
        refine lv_iconst (v := 1) hx hb dX6_isGoal_106 (by decide) ?_
        refine lv_goto (tgt := 111) hx hb dX6_isGoal_107 (by decide) ?_
        refine zw_zret (S := Unit) (post := fun r u => post r) () hx hb hr hlocks hK hW (Or.inr rfl) hw ?_ dX6_isGoal_111
        rfl
    · replace hw := hw.1 c_1
      refine lv_iload_n hx hb dX6_isGoal_83 rfl (lv_at hl 1 rfl) ?_
      refine lv_if_le (tgt := 91) hx hb dX6_isGoal_84 (by decide) (fun c_3 => ?_) (fun c_3 => ?_)
      · replace hw := hw.1 c_3
        refine lv_iconst (v := 0) hx hb dX6_isGoal_91 (by decide) ?_
        refine lv_goto (tgt := 111) hx hb dX6_isGoal_92 (by decide) ?_
        refine zw_zret (S := Unit) (post := fun r u => post r) () hx hb hr hlocks hK hW (Or.inl rfl) hw ?_ dX6_isGoal_111
        rfl
      · replace hw := hw.2 c_3
        refine lv_iconst (v := 1) hx hb dX6_isGoal_87 (by decide) ?_
        refine lv_goto (tgt := 111) hx hb dX6_isGoal_88 (by decide) ?_
        refine zw_zret (S := Unit) (post := fun r u => post r) () hx hb hr hlocks hK hW (Or.inr rfl) hw ?_ dX6_isGoal_111
        rfl
  have W_33 : ∀ (n_33 : Nat) (x2 : Int32) (x3 : Int32) (H : Heap) (locs : List Loc) (ls : Array Slot), Wd (dC, dI) A s.heap (wX6_isGoal cyI cyJ cyZ h h_garden h_garden_courtA h_garden_courtB h_garden_kind h_garden_gone h_garden_court h_leaving h_shutBehind h_queue h_reached i_fewest i_first i_openFromA i_goalKind i_goal i_queued i_garden_gates i_garden_persons i_garden_fines) H locs → lv_has ls 4 [(0, .ref h), (1, .int x1), (2, .int x2), (3, .int x3)] → PX6_isGoal_33 post x1 i_goalKind i_goal i_garden_persons n_33 x2 x3 → W p l e (({ frames := 2, cells := 0, slots := 0, locals := 41 } : Room)) s m (([.ref h, .int x1] : List Value).toArray) below meth c H locs 0 0 (MQ below (qX6_isGoal dC dI cyI cyJ cyZ h h_garden h_garden_courtA h_garden_courtB h_garden_kind h_garden_gone h_garden_court h_leaving h_shutBehind h_queue h_reached i_fewest i_first i_openFromA i_goalKind i_goal i_queued i_garden_gates i_garden_persons i_garden_fines post A) (([.ref h, .int x1] : List Value).toArray) s 0 0 A) (F0 m 33 ls []) := by
    intro n_33
    induction n_33 with
    | zero =>
      intro x2 x3 H locs ls hW hl hw
      exact False.elim hw
    | succ n_33 ih_33 =>
      intro x2 x3 H locs ls hW hl hw
      refine lv_iload_n hx hb dX6_isGoal_33 rfl (lv_at hl 3 rfl) ?_
      refine lv_iconst (v := 3) hx hb dX6_isGoal_34 (by decide) ?_
      refine lv_icmp_ge (tgt := 75) hx hb dX6_isGoal_35 (by decide) (fun c_4 => ?_) (fun c_4 => ?_)
      · replace hw := hw.1 c_4
        exact W_75 x2 _ _ _ hW (lv_sub hl [0, 2] rfl) hw
      · replace hw := hw.2 c_4
        refine lv_iload_n hx hb dX6_isGoal_38 rfl (lv_at hl 3 rfl) ?_
        refine lv_aload_n hx hb dX6_isGoal_39 rfl (lv_at hl 0 rfl) ?_
        refine zw_get (ci := 6) (C := RX6) (T := TX6) (N := 11) (v := .ref h_garden) hx hb hts hiX6 hown hK hW 0 rfl rfl 2 (by decide) rfl k_1 dX6_isGoal_40 ?_
        refine zw_get (ci := 2) (C := RX2) (T := TX2) (N := 8) (v := .int i_garden_persons) hx hb hts hiX2 hown hK hW 1 rfl rfl 6 (by decide) rfl k_2 dX6_isGoal_43 ?_
        refine lv_icmp_ge (tgt := 75) hx hb dX6_isGoal_46 (by decide) (fun c_5 => ?_) (fun c_5 => ?_)
        · replace hw := hw.1 c_5
          exact W_75 x2 _ _ _ hW (lv_sub hl [0, 2] rfl) hw
        · replace hw := hw.2 c_5
          refine lv_iload_n hx hb dX6_isGoal_49 rfl (lv_at hl 2 rfl) ?_
          refine lv_iload_n hx hb dX6_isGoal_50 rfl (lv_at hl 1 rfl) ?_
          refine lv_iload_n hx hb dX6_isGoal_51 rfl (lv_at hl 3 rfl) ?_
          refine zw_Si ⟨hx, hb, hml, hown, hts⟩ hK hN hA hW [.int x1, .int x3] [.int x2] [] [0, 1] [0, 1] (fun _ => (wX6_isGoal cyI cyJ cyZ h h_garden h_garden_courtA h_garden_courtB h_garden_kind h_garden_gone h_garden_court h_leaving h_shutBehind h_queue h_reached i_fewest i_first i_openFromA i_goalKind i_goal i_queued i_garden_gates i_garden_persons i_garden_fines)) (mX6_courtIn l dC dI cyI cyJ cyZ _ x1 x3 _ hw) (va_cwS 2 hts gX6_isGoal_X6_courtIn rfl rfl rfl (by decide +kernel) ⟨Nat.le_of_ble_eq_true rfl, Nat.le_of_ble_eq_true rfl⟩) rfl rfl rfl rfl (by decide) rfl (fun _ => rfl) rfl hl.1 rfl (Nat.le_of_ble_eq_true rfl) (Nat.le_of_ble_eq_true rfl) (Nat.le_of_ble_eq_true rfl) dX6_isGoal_52 (fun r_6 u H locs hw hW => ?_)
          refine lv_aload_n hx hb dX6_isGoal_55 rfl (lv_at hl 0 rfl) ?_
          refine zw_get (ci := 6) (C := RX6) (T := TX6) (N := 11) (v := .int i_goal) hx hb hts hiX6 hown hK hW 0 rfl rfl 5 (by decide) rfl k_3 dX6_isGoal_56 ?_
          refine lv_icmp_ne (tgt := 66) hx hb dX6_isGoal_59 (by decide) (fun c_7 => ?_) (fun c_7 => ?_)
          · replace hw := hw.2 c_7
            refine lv_iconst (v := 0) hx hb dX6_isGoal_66 (by decide) ?_
            refine lv_iadd hx hb dX6_isGoal_67 ?_
            refine lv_topi (fun x2_8 ex2_8 => ?_)
            replace hw := hw x2_8 ex2_8
            refine lv_istore_n (lv' := [(2, .int x2_8), (0, .ref h), (1, .int x1), (3, .int x3)]) hx hb dX6_isGoal_68 rfl hl (by decide) rfl (fun ls hl => ?_)
            obtain ⟨x3_9, ex3_9⟩ : ∃ y : Int32, y = x3 + 1 := ⟨_, rfl⟩
            replace hw := hw x3_9 ex3_9
            refine lv_iinc (v := x3_9) (lv' := [(3, .int x3_9), (2, .int x2_8), (0, .ref h), (1, .int x1)]) hx hb dX6_isGoal_69 hl (k := 3) rfl (by rw [ex3_9]; rfl) (by decide) rfl (fun ls hl => ?_)
            refine lv_goto (tgt := 33) hx hb dX6_isGoal_72 (by decide) ?_
            exact ih_33 x2_8 x3_9 _ _ _ hW (lv_sub hl [2, 3, 1, 0] rfl) hw
          · replace hw := hw.1 c_7
            refine lv_iconst (v := 1) hx hb dX6_isGoal_62 (by decide) ?_
            refine lv_goto (tgt := 67) hx hb dX6_isGoal_63 (by decide) ?_
            refine lv_iadd hx hb dX6_isGoal_67 ?_
            refine lv_topi (fun x2_10 ex2_10 => ?_)
            replace hw := hw x2_10 ex2_10
            refine lv_istore_n (lv' := [(2, .int x2_10), (0, .ref h), (1, .int x1), (3, .int x3)]) hx hb dX6_isGoal_68 rfl hl (by decide) rfl (fun ls hl => ?_)
            obtain ⟨x3_11, ex3_11⟩ : ∃ y : Int32, y = x3 + 1 := ⟨_, rfl⟩
            replace hw := hw x3_11 ex3_11
            refine lv_iinc (v := x3_11) (lv' := [(3, .int x3_11), (2, .int x2_10), (0, .ref h), (1, .int x1)]) hx hb dX6_isGoal_69 hl (k := 3) rfl (by rw [ex3_11]; rfl) (by decide) rfl (fun ls hl => ?_)
            refine lv_goto (tgt := 33) hx hb dX6_isGoal_72 (by decide) ?_
            exact ih_33 x2_10 x3_11 _ _ _ hW (lv_sub hl [2, 3, 1, 0] rfl) hw
  have hl := lv_entry ([.ref h, .int x1]) (n := 4) (Nat.le_of_ble_eq_true rfl)
  rw [lg_entry_eq]
  generalize (lg_sl ([.ref h, .int x1]) ++ List.replicate (4 - (lg_sl ([.ref h, .int x1])).length) Slot.unset).toArray = ls at hl ⊢
  have hl : lv_has ls 4 [(0, .ref h), (1, .int x1)] := hl
  refine lv_aload_n hx hb dX6_isGoal_0 rfl (lv_at hl 0 rfl) ?_
  refine zw_get (ci := 6) (C := RX6) (T := TX6) (N := 11) (v := .int i_goalKind) hx hb hts hiX6 hown hK hW 0 rfl rfl 4 (by decide) rfl k_0 dX6_isGoal_1 ?_
  refine lv_iconst (v := 2) hx hb dX6_isGoal_4 (by decide) ?_
  refine lv_icmp_ne (tgt := 29) hx hb dX6_isGoal_5 (by decide) (fun c_12 => ?_) (fun c_12 => ?_)
  · replace hw := hw.2 c_12
    refine lv_iconst (v := 0) hx hb dX6_isGoal_29 (by decide) ?_
    refine lv_istore_n (lv' := [(2, .int 0), (0, .ref h), (1, .int x1)]) hx hb dX6_isGoal_30 rfl hl (by decide) rfl (fun ls hl => ?_)
    refine lv_iconst (v := 0) hx hb dX6_isGoal_31 (by decide) ?_
    refine lv_istore_n (lv' := [(3, .int 0), (2, .int 0), (0, .ref h), (1, .int x1)]) hx hb dX6_isGoal_32 rfl hl (by decide) rfl (fun ls hl => ?_)
    obtain ⟨n_33, hw⟩ := hw
    exact W_33  n_33 0 0 _ _ _ hW (lv_sub hl [2, 3, 1, 0] rfl) hw
  · replace hw := hw.1 c_12
    refine lv_aload_n hx hb dX6_isGoal_8 rfl (lv_at hl 0 rfl) ?_
    refine zw_get (ci := 6) (C := RX6) (T := TX6) (N := 11) (v := .int i_openFromA) hx hb hts hiX6 hown hK hW 0 rfl rfl 3 (by decide) rfl k_4 dX6_isGoal_9 ?_
    refine lv_iload_n hx hb dX6_isGoal_12 rfl (lv_at hl 1 rfl) ?_
    refine lv_iconst (v := (-1)) hx hb dX6_isGoal_13 (by decide) ?_
    refine lv_ixor hx hb dX6_isGoal_14 ?_
    refine lv_iand hx hb dX6_isGoal_15 ?_
    refine lv_aload_n hx hb dX6_isGoal_16 rfl (lv_at hl 0 rfl) ?_
    refine zw_get (ci := 6) (C := RX6) (T := TX6) (N := 11) (v := .int i_goal) hx hb hts hiX6 hown hK hW 0 rfl rfl 5 (by decide) rfl k_3 dX6_isGoal_17 ?_
    refine lv_icmp_ne (tgt := 27) hx hb dX6_isGoal_20 (by decide) (fun c_13 => ?_) (fun c_13 => ?_)
    · replace hw := hw.2 c_13
      refine lv_iconst (v := 0) hx hb dX6_isGoal_27 (by decide) ?_
      refine zw_zret (S := Unit) (post := fun r u => post r) () hx hb hr hlocks hK hW (Or.inl rfl) hw ?_ dX6_isGoal_28
      rfl
    · replace hw := hw.1 c_13
      refine lv_iconst (v := 1) hx hb dX6_isGoal_23 (by decide) ?_
      refine lv_goto (tgt := 28) hx hb dX6_isGoal_24 (by decide) ?_
      refine zw_zret (S := Unit) (post := fun r u => post r) () hx hb hr hlocks hK hW (Or.inr rfl) hw ?_ dX6_isGoal_28
      rfl
abbrev wX6_enqueueNext (cyI cyJ cyZ : ClassId) (h h_garden h_garden_courtA h_garden_courtB h_garden_kind h_garden_gone h_garden_court h_leaving h_shutBehind h_queue h_reached : Nat) (i_fewest : Int32) (i_first : Int32) (i_openFromA : Int32) (i_goalKind : Int32) (i_goal : Int32) (i_queued : Int32) (i_garden_gates : Int32) (i_garden_persons : Int32) (i_garden_fines : Int32) (a_garden_courtA : Nat → Int32) (a_garden_courtB : Nat → Int32) (a_leaving : Nat → Int32) (a_shutBehind : Nat → Int32) (a_queue : Nat → Int32) (a_reached : Nat → Int64) : va_W := [(h, .inr (6, [.int i_fewest, .int i_first, .ref h_garden, .int i_openFromA, .int i_goalKind, .int i_goal, .ref h_leaving, .ref h_shutBehind, .ref h_queue, .int i_queued, .ref h_reached])), (h_garden, .inr (2, [.ref h_garden_courtA, .ref h_garden_courtB, .ref h_garden_kind, .ref h_garden_gone, .int i_garden_gates, .ref h_garden_court, .int i_garden_persons, .int i_garden_fines])), (h_garden_courtA, .inl (cyI, 5, .inl a_garden_courtA)), (h_garden_courtB, .inl (cyI, 5, .inl a_garden_courtB)), (h_leaving, .inl (cyI, 5, .inl a_leaving)), (h_shutBehind, .inl (cyI, 5, .inl a_shutBehind)), (h_queue, .inl (cyI, 4000, .inl a_queue)), (h_reached, .inl (cyJ, 256, .inr (.inl a_reached)))]
abbrev qX6_enqueueNext (dC : Nat → ClassId) (dI : Nat → Nat → Nat) (cyI cyJ cyZ : ClassId) (h h_garden h_garden_courtA h_garden_courtB h_garden_kind h_garden_gone h_garden_court h_leaving h_shutBehind h_queue h_reached : Nat) (i_fewest : Int32) (i_first : Int32) (i_openFromA : Int32) (i_goalKind : Int32) (i_goal : Int32) (i_queued : Int32) (i_garden_gates : Int32) (i_garden_persons : Int32) (i_garden_fines : Int32) (a_garden_courtA : Nat → Int32) (a_garden_courtB : Nat → Int32) (a_leaving : Nat → Int32) (a_shutBehind : Nat → Int32) (a_queue : Nat → Int32) (a_reached : Nat → Int64) (post : Int32 → (Nat → Int32) → (Nat → Int64) → Prop) (A : Nat → Prop) : Array Value → State → Outcome → State → Prop := (va_Qv (fun (u : Int32 × (Nat → Int32) × (Nat → Int64)) => post u.1 u.2.1 u.2.2) (bW (dC, dI) (tyG cyI cyJ cyZ) A (fun u : Int32 × (Nat → Int32) × (Nat → Int64) => (wX6_enqueueNext cyI cyJ cyZ h h_garden h_garden_courtA h_garden_courtB h_garden_kind h_garden_gone h_garden_court h_leaving h_shutBehind h_queue h_reached i_fewest i_first i_openFromA i_goalKind i_goal (u.1) i_garden_gates i_garden_persons i_garden_fines a_garden_courtA a_garden_courtB a_leaving a_shutBehind (u.2.1) (u.2.2)))) A)
set_option maxHeartbeats 4000000 in
set_option maxRecDepth 100000 in
theorem mX6_enqueueNext (l : Launch) (dC : Nat → ClassId) (dI : Nat → Nat → Nat) (cyI cyJ cyZ : ClassId) (h h_garden h_garden_courtA h_garden_courtB h_garden_kind h_garden_gone h_garden_court h_leaving h_shutBehind h_queue h_reached : Nat) (sz : Nat) (i_fewest : Int32) (i_first : Int32) (i_openFromA : Int32) (i_goalKind : Int32) (i_goal : Int32) (i_queued : Int32) (i_garden_gates : Int32) (i_garden_persons : Int32) (i_garden_fines : Int32) (a_garden_courtA : Nat → Int32) (a_garden_courtB : Nat → Int32) (a_leaving : Nat → Int32) (a_shutBehind : Nat → Int32) (a_queue : Nat → Int32) (a_reached : Nat → Int64) (x1 : Int32) (x2 : Int32) (x3 : Int32) (post : Int32 → (Nat → Int32) → (Nat → Int64) → Prop) (hwp : PX6_enqueueNext x1 x2 x3 i_queued i_garden_gates i_garden_persons a_garden_courtA a_garden_courtB a_leaving a_shutBehind a_queue a_reached post) : Met l yX6_enqueueNext wsX6_enqueueNext ({ frames := 2, cells := 0, slots := 0, locals := 43 } : Room) (va_Pc [.ref h, .int x1, .int x2, .int x3] (pcW (dC, dI) sz (wX6_enqueueNext cyI cyJ cyZ h h_garden h_garden_courtA h_garden_courtB h_garden_kind h_garden_gone h_garden_court h_leaving h_shutBehind h_queue h_reached i_fewest i_first i_openFromA i_goalKind i_goal i_queued i_garden_gates i_garden_persons i_garden_fines a_garden_courtA a_garden_courtB a_leaving a_shutBehind a_queue a_reached) (tyG cyI cyJ cyZ))) (qX6_enqueueNext dC dI cyI cyJ cyZ h h_garden h_garden_courtA h_garden_courtB h_garden_kind h_garden_gone h_garden_court h_leaving h_shutBehind h_queue h_reached i_fewest i_first i_openFromA i_goalKind i_goal i_queued i_garden_gates i_garden_persons i_garden_fines a_garden_courtA a_garden_courtB a_leaving a_shutBehind a_queue a_reached post (va_A (wX6_enqueueNext cyI cyJ cyZ h h_garden h_garden_courtA h_garden_courtB h_garden_kind h_garden_gone h_garden_court h_leaving h_shutBehind h_queue h_reached i_fewest i_first i_openFromA i_goalKind i_goal i_queued i_garden_gates i_garden_persons i_garden_fines a_garden_courtA a_garden_courtB a_leaving a_shutBehind a_queue a_reached) sz)) 0 0 (va_A (wX6_enqueueNext cyI cyJ cyZ h h_garden h_garden_courtA h_garden_courtB h_garden_kind h_garden_gone h_garden_court h_leaving h_shutBehind h_queue h_reached i_fewest i_first i_openFromA i_goalKind i_goal i_queued i_garden_gates i_garden_persons i_garden_fines a_garden_courtA a_garden_courtB a_leaving a_shutBehind a_queue a_reached) sz) := by
  refine Met.ofW (cc := cX6_enqueueNext) (maxL := 9) (ret := none) (by decide) rfl ?_
  intro p e s m args below meth c s₁ B hml hv
  obtain ⟨rfl, hsz, hP, hK, hD0, hN⟩ := hv
  have hx := B.exec
  have hb := B.bytes
  have hr := B.returns
  have hts := atoms_spec (ws := wsX6_enqueueNext) B.pre
  have hown : s.vm.findClass RX6 = some m.cls := findClass_of_methodNamed B.named
  have hlocks := B.notSynchronized
  subst hsz
  have hD := hD0.self (sz := s.heap.size)
  generalize hAe : va_A (wX6_enqueueNext cyI cyJ cyZ h h_garden h_garden_courtA h_garden_courtB h_garden_kind h_garden_gone h_garden_court h_leaving h_shutBehind h_queue h_reached i_fewest i_first i_openFromA i_goalKind i_goal i_queued i_garden_gates i_garden_persons i_garden_fines a_garden_courtA a_garden_courtB a_leaving a_shutBehind a_queue a_reached) s.heap.size = A at hD ⊢
  have hA : ∀ q : Nat, s.heap.size ≤ q → A q := fun q h => by rw [← hAe]; exact Or.inr h
  have hW : Wd (dC, dI) A s.heap (wX6_enqueueNext cyI cyJ cyZ h h_garden h_garden_courtA h_garden_courtB h_garden_kind h_garden_gone h_garden_court h_leaving h_shutBehind h_queue h_reached i_fewest i_first i_openFromA i_goalKind i_goal i_queued i_garden_gates i_garden_persons i_garden_fines a_garden_courtA a_garden_courtB a_leaving a_shutBehind a_queue a_reached) s.heap [] := ⟨hP, hD, va_S.rf⟩
  have hw := hwp
  have hiX6 : ∀ w ∈ u_ws RX6 TX6 11, w ∈ wsX6_enqueueNext := fun _ h => List.mem_cons_of_mem _ (List.mem_append_left _ (List.mem_append_right _ h))
  have hiX2 : ∀ w ∈ u_ws RX2 TX2 8, w ∈ wsX6_enqueueNext := fun _ h => List.mem_cons_of_mem _ (List.mem_append_right _ h)
  have k_0 := hts (.fieldLink RX6 38 "OddLetsIn$Walk" "shutBehind" "[I") (List.mem_of_getElem? (i := 4) rfl)
  have k_1 := hts (.fieldLink RX6 21 "OddLetsIn$Walk" "garden" "LOddLetsIn$Garden;") (List.mem_of_getElem? (i := 1) rfl)
  have k_2 := hts (.fieldLink RX6 91 "OddLetsIn$Garden" "persons" "I") (List.mem_of_getElem? (i := 2) rfl)
  have k_3 := hts (.fieldLink RX6 34 "OddLetsIn$Walk" "leaving" "[I") (List.mem_of_getElem? (i := 3) rfl)
  have W_3 : ∀ (n_3 : Nat) (x4 : Int32) (i_queued : Int32) (a_queue : Nat → Int32) (a_reached : Nat → Int64) (H : Heap) (locs : List Loc) (ls : Array Slot), Wd (dC, dI) A s.heap (wX6_enqueueNext cyI cyJ cyZ h h_garden h_garden_courtA h_garden_courtB h_garden_kind h_garden_gone h_garden_court h_leaving h_shutBehind h_queue h_reached i_fewest i_first i_openFromA i_goalKind i_goal i_queued i_garden_gates i_garden_persons i_garden_fines a_garden_courtA a_garden_courtB a_leaving a_shutBehind a_queue a_reached) H locs → lv_has ls 9 [(0, .ref h), (1, .int x1), (2, .int x2), (3, .int x3), (4, .int x4)] → PX6_enqueueNext_3 post x1 x2 x3 i_garden_gates i_garden_persons a_garden_courtA a_garden_courtB a_leaving a_shutBehind n_3 x4 i_queued a_queue a_reached → W p l e (({ frames := 2, cells := 0, slots := 0, locals := 43 } : Room)) s m (([.ref h, .int x1, .int x2, .int x3] : List Value).toArray) below meth c H locs 0 0 (MQ below (qX6_enqueueNext dC dI cyI cyJ cyZ h h_garden h_garden_courtA h_garden_courtB h_garden_kind h_garden_gone h_garden_court h_leaving h_shutBehind h_queue h_reached i_fewest i_first i_openFromA i_goalKind i_goal i_queued i_garden_gates i_garden_persons i_garden_fines a_garden_courtA a_garden_courtB a_leaving a_shutBehind a_queue a_reached post A) (([.ref h, .int x1, .int x2, .int x3] : List Value).toArray) s 0 0 A) (F0 m 3 ls []) := by
    intro n_3
    induction n_3 with
    | zero =>
      intro x4 i_queued a_queue a_reached H locs ls hW hl hw
      exact False.elim hw
    | succ n_3 ih_3 =>
      have W_55 : ∀ (x4 : Int32) (x5 : Int32) (x6 : Int32) (n_55 : Nat) (x7 : Int32) (i_queued : Int32) (a_queue : Nat → Int32) (a_reached : Nat → Int64) (H : Heap) (locs : List Loc) (ls : Array Slot), Wd (dC, dI) A s.heap (wX6_enqueueNext cyI cyJ cyZ h h_garden h_garden_courtA h_garden_courtB h_garden_kind h_garden_gone h_garden_court h_leaving h_shutBehind h_queue h_reached i_fewest i_first i_openFromA i_goalKind i_goal i_queued i_garden_gates i_garden_persons i_garden_fines a_garden_courtA a_garden_courtB a_leaving a_shutBehind a_queue a_reached) H locs → lv_has ls 9 [(0, .ref h), (1, .int x1), (2, .int x2), (3, .int x3), (4, .int x4), (5, .int x5), (6, .int x6), (7, .int x7)] → PX6_enqueueNext_55 post x1 x2 x3 i_garden_gates a_garden_courtA a_garden_courtB a_shutBehind (PX6_enqueueNext_3 post x1 x2 x3 i_garden_gates i_garden_persons a_garden_courtA a_garden_courtB a_leaving a_shutBehind n_3) x4 x5 x6 n_55 x7 i_queued a_queue a_reached → W p l e (({ frames := 2, cells := 0, slots := 0, locals := 43 } : Room)) s m (([.ref h, .int x1, .int x2, .int x3] : List Value).toArray) below meth c H locs 0 0 (MQ below (qX6_enqueueNext dC dI cyI cyJ cyZ h h_garden h_garden_courtA h_garden_courtB h_garden_kind h_garden_gone h_garden_court h_leaving h_shutBehind h_queue h_reached i_fewest i_first i_openFromA i_goalKind i_goal i_queued i_garden_gates i_garden_persons i_garden_fines a_garden_courtA a_garden_courtB a_leaving a_shutBehind a_queue a_reached post A) (([.ref h, .int x1, .int x2, .int x3] : List Value).toArray) s 0 0 A) (F0 m 55 ls []) := by
        intro x4 x5 x6 n_55
        induction n_55 with
        | zero =>
          intro x7 i_queued a_queue a_reached H locs ls hW hl hw
          exact False.elim hw
        | succ n_55 ih_55 =>
          intro x7 i_queued a_queue a_reached H locs ls hW hl hw
          refine lv_iload hx hb dX6_enqueueNext_55 (lv_at hl 7 rfl) ?_
          refine lv_iconst (v := 5) hx hb dX6_enqueueNext_57 (by decide) ?_
          refine lv_icmp_ge (tgt := 143) hx hb dX6_enqueueNext_58 (by decide) (fun c_1 => ?_) (fun c_1 => ?_)
          · replace hw := hw.1 c_1
            obtain ⟨x4_2, ex4_2⟩ : ∃ y : Int32, y = x4 + 1 := ⟨_, rfl⟩
            replace hw := hw x4_2 ex4_2
            refine lv_iinc (v := x4_2) (lv' := [(4, .int x4_2), (0, .ref h), (1, .int x1), (2, .int x2), (3, .int x3), (5, .int x5), (6, .int x6), (7, .int x7)]) hx hb dX6_enqueueNext_143 hl (k := 4) rfl (by rw [ex4_2]; rfl) (by decide) rfl (fun ls hl => ?_)
            refine lv_goto (tgt := 3) hx hb dX6_enqueueNext_146 (by decide) ?_
            exact ih_3 x4_2 i_queued a_queue a_reached _ _ _ hW (lv_sub hl [1, 2, 3, 4, 0] rfl) hw
          · replace hw := hw.2 c_1
            refine lv_iload hx hb dX6_enqueueNext_61 (lv_at hl 6 rfl) ?_
            refine lv_iload hx hb dX6_enqueueNext_63 (lv_at hl 7 rfl) ?_
            refine lv_ishr hx hb dX6_enqueueNext_65 ?_
            refine lv_if_eq (tgt := 143) hx hb dX6_enqueueNext_66 (by decide) (fun c_3 => ?_) (fun c_3 => ?_)
            · replace hw := hw.1 c_3
              obtain ⟨x4_4, ex4_4⟩ : ∃ y : Int32, y = x4 + 1 := ⟨_, rfl⟩
              replace hw := hw x4_4 ex4_4
              refine lv_iinc (v := x4_4) (lv' := [(4, .int x4_4), (0, .ref h), (1, .int x1), (2, .int x2), (3, .int x3), (5, .int x5), (6, .int x6), (7, .int x7)]) hx hb dX6_enqueueNext_143 hl (k := 4) rfl (by rw [ex4_4]; rfl) (by decide) rfl (fun ls hl => ?_)
              refine lv_goto (tgt := 3) hx hb dX6_enqueueNext_146 (by decide) ?_
              exact ih_3 x4_4 i_queued a_queue a_reached _ _ _ hW (lv_sub hl [1, 2, 3, 4, 0] rfl) hw
            · replace hw := hw.2 c_3
              refine lv_iload hx hb dX6_enqueueNext_69 (lv_at hl 6 rfl) ?_
              refine lv_iload hx hb dX6_enqueueNext_71 (lv_at hl 7 rfl) ?_
              refine lv_ishr hx hb dX6_enqueueNext_73 ?_
              refine lv_iconst (v := 1) hx hb dX6_enqueueNext_74 (by decide) ?_
              refine lv_iand hx hb dX6_enqueueNext_75 ?_
              refine lv_if_eq (tgt := 137) hx hb dX6_enqueueNext_76 (by decide) (fun c_5 => ?_) (fun c_5 => ?_)
              · replace hw := hw.1 c_5
                obtain ⟨x7_6, ex7_6⟩ : ∃ y : Int32, y = x7 + 1 := ⟨_, rfl⟩
                replace hw := hw x7_6 ex7_6
                refine lv_iinc (v := x7_6) (lv' := [(7, .int x7_6), (0, .ref h), (1, .int x1), (2, .int x2), (3, .int x3), (4, .int x4), (5, .int x5), (6, .int x6)]) hx hb dX6_enqueueNext_137 hl (k := 7) rfl (by rw [ex7_6]; rfl) (by decide) rfl (fun ls hl => ?_)
                refine lv_goto (tgt := 55) hx hb dX6_enqueueNext_140 (by decide) ?_
                exact ih_55 x7_6 i_queued a_queue a_reached _ _ _ hW (lv_sub hl [1, 2, 3, 4, 5, 6, 7, 0] rfl) hw
              · replace hw := hw.2 c_5
                refine lv_iload_n hx hb dX6_enqueueNext_79 rfl (lv_at hl 1 rfl) ?_
                refine lv_aload_n hx hb dX6_enqueueNext_80 rfl (lv_at hl 0 rfl) ?_
                refine zw_get (ci := 6) (C := RX6) (T := TX6) (N := 11) (v := .ref h_shutBehind) hx hb hts hiX6 hown hK hW 0 rfl rfl 7 (by decide) rfl k_0 dX6_enqueueNext_81 ?_
                refine lv_iload hx hb dX6_enqueueNext_84 (lv_at hl 7 rfl) ?_
                refine zw_iald hx hb hK hW 5 rfl rfl hw.1 dX6_enqueueNext_86 ?_
                replace hw := hw.2
                refine lv_ior hx hb dX6_enqueueNext_87 ?_
                refine lv_topi (fun x8_7 ex8_7 => ?_)
                replace hw := hw x8_7 ex8_7
                refine lv_istore (lv' := [(8, .int x8_7), (0, .ref h), (1, .int x1), (2, .int x2), (3, .int x3), (4, .int x4), (5, .int x5), (6, .int x6), (7, .int x7)]) hx hb dX6_enqueueNext_88 hl (by decide) rfl (fun ls hl => ?_)
                refine lv_iload hx hb dX6_enqueueNext_90 (lv_at hl 0 rfl) ?_
                refine lv_iload hx hb dX6_enqueueNext_92 (lv_at hl 6 rfl) ?_
                refine lv_aload_n hx hb dX6_enqueueNext_94 rfl (lv_at hl 1 rfl) ?_
                refine zw_get (ci := 6) (C := RX6) (T := TX6) (N := 11) (v := .ref h_garden) hx hb hts hiX6 hown hK hW 0 rfl rfl 2 (by decide) rfl k_1 dX6_enqueueNext_95 ?_
                refine lv_iload hx hb dX6_enqueueNext_98 (lv_at hl 6 rfl) ?_
                refine lv_iload hx hb dX6_enqueueNext_100 (lv_at hl 8 rfl) ?_
                refine zw_Vi ⟨hx, hb, hml, hown, hts⟩ hK hN hA hW 1 rfl (T := TX2) (N := 8) rfl [.int x5, .int x7] [.int x5, .int x8_7] [1, 2, 3] [0, 4, 5, 6, 7] [0, 5, 6, 7, 1, 2, 3, 4] (fun _ => (wX6_enqueueNext cyI cyJ cyZ h h_garden h_garden_courtA h_garden_courtB h_garden_kind h_garden_gone h_garden_court h_leaving h_shutBehind h_queue h_reached i_fewest i_first i_openFromA i_goalKind i_goal i_queued i_garden_gates i_garden_persons i_garden_fines a_garden_courtA a_garden_courtB a_leaving a_shutBehind a_queue a_reached)) (mX2_beyond l dC dI cyI cyJ cyZ h_garden h_garden_courtA h_garden_courtB h_garden_kind h_garden_gone h_garden_court _ i_garden_gates i_garden_persons i_garden_fines a_garden_courtA a_garden_courtB x5 x7 _ hw) (cwV 2 hts gX6_enqueueNext_X2_beyond rfl rfl rfl (by decide +kernel) ⟨Nat.le_of_ble_eq_true rfl, Nat.le_of_ble_eq_true rfl⟩) rfl rfl rfl rfl (by decide) rfl (fun _ => rfl) rfl hl.1 rfl (Nat.le_of_ble_eq_true rfl) (Nat.le_of_ble_eq_true rfl) (Nat.le_of_ble_eq_true rfl) dX6_enqueueNext_102 (fun r_8 u H locs hw hW => ?_)
                refine lv_ixor hx hb dX6_enqueueNext_105 ?_
                refine lv_iload hx hb dX6_enqueueNext_106 (lv_at hl 5 rfl) ?_
                refine zw_Si ⟨hx, hb, hml, hown, hts⟩ hK hN hA hW [.int x4] [.int (x5 ^^^ r_8), .int x8_7] [] [0, 1, 2, 3, 4, 5, 6, 7] [0, 1, 2, 3, 4, 5, 6, 7] (fun _ => (wX6_enqueueNext cyI cyJ cyZ h h_garden h_garden_courtA h_garden_courtB h_garden_kind h_garden_gone h_garden_court h_leaving h_shutBehind h_queue h_reached i_fewest i_first i_openFromA i_goalKind i_goal i_queued i_garden_gates i_garden_persons i_garden_fines a_garden_courtA a_garden_courtB a_leaving a_shutBehind a_queue a_reached)) (mX6_courtShift l dC dI cyI cyJ cyZ _ x4 _ hw) (va_cwS 1 hts gX6_enqueueNext_X6_courtShift rfl rfl rfl (by decide +kernel) ⟨Nat.le_of_ble_eq_true rfl, Nat.le_of_ble_eq_true rfl⟩) rfl rfl rfl rfl (by decide) rfl (fun _ => rfl) rfl hl.1 rfl (Nat.le_of_ble_eq_true rfl) (Nat.le_of_ble_eq_true rfl) (Nat.le_of_ble_eq_true rfl) dX6_enqueueNext_108 (fun r_9 u H locs hw hW => ?_)
                refine lv_ishl hx hb dX6_enqueueNext_111 ?_
                refine lv_ixor hx hb dX6_enqueueNext_112 ?_
                refine lv_topi (fun x8_10 ex8_10 => ?_)
                replace hw := hw x8_10 ex8_10
                refine lv_istore (lv' := [(8, .int x8_10), (0, .ref h), (1, .int x1), (2, .int x2), (3, .int x3), (4, .int x4), (5, .int x5), (6, .int x6), (7, .int x7)]) hx hb dX6_enqueueNext_113 hl (by decide) rfl (fun ls hl => ?_)
                refine lv_aload_n hx hb dX6_enqueueNext_115 rfl (lv_at hl 1 rfl) ?_
                refine lv_iload hx hb dX6_enqueueNext_116 (lv_at hl 0 rfl) ?_
                refine lv_iload_n hx hb dX6_enqueueNext_118 rfl (lv_at hl 3 rfl) ?_
                refine lv_if_eq (tgt := 133) hx hb dX6_enqueueNext_119 (by decide) (fun c_11 => ?_) (fun c_11 => ?_)
                · replace hw := hw.1 c_11
                  refine lv_iload_n hx hb dX6_enqueueNext_133 rfl (lv_at hl 4 rfl) ?_
                  refine zw_Vv ⟨hx, hb, hml, hown, hts⟩ hK hN hA hW 0 rfl (T := TX6) (N := 11) rfl [.int x8_10, .int x3] [] [0, 6, 7] [1, 2, 3, 4, 5] [5, 0, 1, 2, 3, 4, 6, 7] (fun u => (wX6_enqueueNext cyI cyJ cyZ h h_garden h_garden_courtA h_garden_courtB h_garden_kind h_garden_gone h_garden_court h_leaving h_shutBehind h_queue h_reached i_fewest i_first i_openFromA i_goalKind i_goal (u.1) i_garden_gates i_garden_persons i_garden_fines a_garden_courtA a_garden_courtB a_leaving a_shutBehind (u.2.1) (u.2.2))) (mX6_enqueue l dC dI cyI cyJ cyZ h h_garden h_leaving h_shutBehind h_queue h_reached _ i_fewest i_first i_openFromA i_goalKind i_goal i_queued a_queue a_reached x8_10 x3 _ hw) (cwV 2 hts gX6_enqueueNext_X6_enqueue rfl rfl rfl (by decide +kernel) ⟨Nat.le_of_ble_eq_true rfl, Nat.le_of_ble_eq_true rfl⟩) rfl rfl rfl rfl (by decide) rfl (fun _ => rfl) rfl hl.1 rfl (Nat.le_of_ble_eq_true rfl) (Nat.le_of_ble_eq_true rfl) (Nat.le_of_ble_eq_true rfl) dX6_enqueueNext_134 (fun u H locs hw hW => ?_)
                  obtain ⟨i_queued_12, a_queue_13, a_reached_14⟩ := u
                  try dsimp only at hw
                  replace hW : Wd (dC, dI) A s.heap (wX6_enqueueNext cyI cyJ cyZ h h_garden h_garden_courtA h_garden_courtB h_garden_kind h_garden_gone h_garden_court h_leaving h_shutBehind h_queue h_reached i_fewest i_first i_openFromA i_goalKind i_goal i_queued_12 i_garden_gates i_garden_persons i_garden_fines a_garden_courtA a_garden_courtB a_leaving a_shutBehind a_queue_13 a_reached_14) H locs := hW
                  obtain ⟨x7_15, ex7_15⟩ : ∃ y : Int32, y = x7 + 1 := ⟨_, rfl⟩
                  replace hw := hw x7_15 ex7_15
                  refine lv_iinc (v := x7_15) (lv' := [(7, .int x7_15), (8, .int x8_10), (0, .ref h), (1, .int x1), (2, .int x2), (3, .int x3), (4, .int x4), (5, .int x5), (6, .int x6)]) hx hb dX6_enqueueNext_137 hl (k := 8) rfl (by rw [ex7_15]; rfl) (by decide) rfl (fun ls hl => ?_)
                  refine lv_goto (tgt := 55) hx hb dX6_enqueueNext_140 (by decide) ?_
                  exact ih_55 x7_15 i_queued_12 a_queue_13 a_reached_14 _ _ _ hW (lv_sub hl [2, 3, 4, 5, 6, 7, 8, 0] rfl) hw
                · replace hw := hw.2 c_11
                  refine lv_bipush (v := 10) hx hb dX6_enqueueNext_122 (by decide) ?_
                  refine lv_iload hx hb dX6_enqueueNext_124 (lv_at hl 5 rfl) ?_
                  refine lv_imul hx hb dX6_enqueueNext_126 ?_
                  refine lv_iload hx hb dX6_enqueueNext_127 (lv_at hl 8 rfl) ?_
                  refine lv_iadd hx hb dX6_enqueueNext_129 ?_
                  refine lv_goto (tgt := 134) hx hb dX6_enqueueNext_130 (by decide) ?_
                  refine zw_Vv ⟨hx, hb, hml, hown, hts⟩ hK hN hA hW 0 rfl (T := TX6) (N := 11) rfl [.int x8_10, .int ((10 * x4) + x7)] [] [0, 6, 7] [1, 2, 3, 4, 5] [5, 0, 1, 2, 3, 4, 6, 7] (fun u => (wX6_enqueueNext cyI cyJ cyZ h h_garden h_garden_courtA h_garden_courtB h_garden_kind h_garden_gone h_garden_court h_leaving h_shutBehind h_queue h_reached i_fewest i_first i_openFromA i_goalKind i_goal (u.1) i_garden_gates i_garden_persons i_garden_fines a_garden_courtA a_garden_courtB a_leaving a_shutBehind (u.2.1) (u.2.2))) (mX6_enqueue l dC dI cyI cyJ cyZ h h_garden h_leaving h_shutBehind h_queue h_reached _ i_fewest i_first i_openFromA i_goalKind i_goal i_queued a_queue a_reached x8_10 ((10 * x4) + x7) _ hw) (cwV 2 hts gX6_enqueueNext_X6_enqueue rfl rfl rfl (by decide +kernel) ⟨Nat.le_of_ble_eq_true rfl, Nat.le_of_ble_eq_true rfl⟩) rfl rfl rfl rfl (by decide) rfl (fun _ => rfl) rfl hl.1 rfl (Nat.le_of_ble_eq_true rfl) (Nat.le_of_ble_eq_true rfl) (Nat.le_of_ble_eq_true rfl) dX6_enqueueNext_134 (fun u H locs hw hW => ?_)
                  obtain ⟨i_queued_16, a_queue_17, a_reached_18⟩ := u
                  try dsimp only at hw
                  replace hW : Wd (dC, dI) A s.heap (wX6_enqueueNext cyI cyJ cyZ h h_garden h_garden_courtA h_garden_courtB h_garden_kind h_garden_gone h_garden_court h_leaving h_shutBehind h_queue h_reached i_fewest i_first i_openFromA i_goalKind i_goal i_queued_16 i_garden_gates i_garden_persons i_garden_fines a_garden_courtA a_garden_courtB a_leaving a_shutBehind a_queue_17 a_reached_18) H locs := hW
                  obtain ⟨x7_19, ex7_19⟩ : ∃ y : Int32, y = x7 + 1 := ⟨_, rfl⟩
                  replace hw := hw x7_19 ex7_19
                  refine lv_iinc (v := x7_19) (lv' := [(7, .int x7_19), (8, .int x8_10), (0, .ref h), (1, .int x1), (2, .int x2), (3, .int x3), (4, .int x4), (5, .int x5), (6, .int x6)]) hx hb dX6_enqueueNext_137 hl (k := 8) rfl (by rw [ex7_19]; rfl) (by decide) rfl (fun ls hl => ?_)
                  refine lv_goto (tgt := 55) hx hb dX6_enqueueNext_140 (by decide) ?_
                  exact ih_55 x7_19 i_queued_16 a_queue_17 a_reached_18 _ _ _ hW (lv_sub hl [2, 3, 4, 5, 6, 7, 8, 0] rfl) hw
      intro x4 i_queued a_queue a_reached H locs ls hW hl hw
      refine lv_iload hx hb dX6_enqueueNext_3 (lv_at hl 4 rfl) ?_
      refine lv_iconst (v := 3) hx hb dX6_enqueueNext_5 (by decide) ?_
      refine lv_icmp_ge (tgt := 149) hx hb dX6_enqueueNext_6 (by decide) (fun c_20 => ?_) (fun c_20 => ?_)
      · replace hw := hw.1 c_20
        refine zw_vret (S := Int32 × (Nat → Int32) × (Nat → Int64)) (post := fun u => post u.1 u.2.1 u.2.2) (i_queued, a_queue, a_reached) hx hb hr hlocks hK hW hw ?_ dX6_enqueueNext_149
        rfl
      · replace hw := hw.2 c_20
        refine lv_iload hx hb dX6_enqueueNext_9 (lv_at hl 4 rfl) ?_
        refine lv_aload_n hx hb dX6_enqueueNext_11 rfl (lv_at hl 0 rfl) ?_
        refine zw_get (ci := 6) (C := RX6) (T := TX6) (N := 11) (v := .ref h_garden) hx hb hts hiX6 hown hK hW 0 rfl rfl 2 (by decide) rfl k_1 dX6_enqueueNext_12 ?_
        refine zw_get (ci := 2) (C := RX2) (T := TX2) (N := 8) (v := .int i_garden_persons) hx hb hts hiX2 hown hK hW 1 rfl rfl 6 (by decide) rfl k_2 dX6_enqueueNext_15 ?_
        refine lv_icmp_ge (tgt := 149) hx hb dX6_enqueueNext_18 (by decide) (fun c_21 => ?_) (fun c_21 => ?_)
        · replace hw := hw.1 c_21
          refine zw_vret (S := Int32 × (Nat → Int32) × (Nat → Int64)) (post := fun u => post u.1 u.2.1 u.2.2) (i_queued, a_queue, a_reached) hx hb hr hlocks hK hW hw ?_ dX6_enqueueNext_149
          rfl
        · replace hw := hw.2 c_21
          refine lv_iload_n hx hb dX6_enqueueNext_21 rfl (lv_at hl 1 rfl) ?_
          refine lv_iload hx hb dX6_enqueueNext_22 (lv_at hl 4 rfl) ?_
          refine zw_Si ⟨hx, hb, hml, hown, hts⟩ hK hN hA hW [.int x1, .int x4] [] [] [0, 1, 2, 3, 4, 5, 6, 7] [0, 1, 2, 3, 4, 5, 6, 7] (fun _ => (wX6_enqueueNext cyI cyJ cyZ h h_garden h_garden_courtA h_garden_courtB h_garden_kind h_garden_gone h_garden_court h_leaving h_shutBehind h_queue h_reached i_fewest i_first i_openFromA i_goalKind i_goal i_queued i_garden_gates i_garden_persons i_garden_fines a_garden_courtA a_garden_courtB a_leaving a_shutBehind a_queue a_reached)) (mX6_courtIn l dC dI cyI cyJ cyZ _ x1 x4 _ hw) (va_cwS 2 hts gX6_enqueueNext_X6_courtIn rfl rfl rfl (by decide +kernel) ⟨Nat.le_of_ble_eq_true rfl, Nat.le_of_ble_eq_true rfl⟩) rfl rfl rfl rfl (by decide) rfl (fun _ => rfl) rfl hl.1 rfl (Nat.le_of_ble_eq_true rfl) (Nat.le_of_ble_eq_true rfl) (Nat.le_of_ble_eq_true rfl) dX6_enqueueNext_24 (fun r_22 u H locs hw hW => ?_)
          refine lv_istore (lv' := [(5, .int r_22), (0, .ref h), (1, .int x1), (2, .int x2), (3, .int x3), (4, .int x4)]) hx hb dX6_enqueueNext_27 hl (by decide) rfl (fun ls hl => ?_)
          refine lv_iload hx hb dX6_enqueueNext_29 (lv_at hl 0 rfl) ?_
          refine lv_iconst (v := 5) hx hb dX6_enqueueNext_31 (by decide) ?_
          refine lv_icmp_ge (tgt := 49) hx hb dX6_enqueueNext_32 (by decide) (fun c_23 => ?_) (fun c_23 => ?_)
          · replace hw := hw.1 c_23
            refine lv_iconst (v := 0) hx hb dX6_enqueueNext_49 (by decide) ?_
            refine lv_istore (lv' := [(6, .int 0), (5, .int r_22), (0, .ref h), (1, .int x1), (2, .int x2), (3, .int x3), (4, .int x4)]) hx hb dX6_enqueueNext_50 hl (by decide) rfl (fun ls hl => ?_)
            refine lv_iconst (v := 0) hx hb dX6_enqueueNext_52 (by decide) ?_
            refine lv_istore (lv' := [(7, .int 0), (6, .int 0), (5, .int r_22), (0, .ref h), (1, .int x1), (2, .int x2), (3, .int x3), (4, .int x4)]) hx hb dX6_enqueueNext_53 hl (by decide) rfl (fun ls hl => ?_)
            obtain ⟨n_55, hw⟩ := hw
            exact W_55 x4 r_22 0 n_55 0 i_queued a_queue a_reached _ _ _ hW (lv_sub hl [3, 4, 5, 6, 7, 2, 1, 0] rfl) hw
          · replace hw := hw.2 c_23
            refine lv_aload_n hx hb dX6_enqueueNext_35 rfl (lv_at hl 1 rfl) ?_
            refine zw_get (ci := 6) (C := RX6) (T := TX6) (N := 11) (v := .ref h_leaving) hx hb hts hiX6 hown hK hW 0 rfl rfl 6 (by decide) rfl k_3 dX6_enqueueNext_36 ?_
            refine lv_iload hx hb dX6_enqueueNext_39 (lv_at hl 0 rfl) ?_
            refine zw_iald hx hb hK hW 4 rfl rfl hw.1 dX6_enqueueNext_41 ?_
            replace hw := hw.2
            refine lv_iload_n hx hb dX6_enqueueNext_42 rfl (lv_at hl 2 rfl) ?_
            refine lv_iconst (v := (-1)) hx hb dX6_enqueueNext_43 (by decide) ?_
            refine lv_ixor hx hb dX6_enqueueNext_44 ?_
            refine lv_iand hx hb dX6_enqueueNext_45 ?_
            refine lv_goto (tgt := 50) hx hb dX6_enqueueNext_46 (by decide) ?_
            refine lv_topi (fun x6_24 ex6_24 => ?_)
            replace hw := hw x6_24 ex6_24
            refine lv_istore (lv' := [(6, .int x6_24), (5, .int r_22), (0, .ref h), (1, .int x1), (2, .int x2), (3, .int x3), (4, .int x4)]) hx hb dX6_enqueueNext_50 hl (by decide) rfl (fun ls hl => ?_)
            refine lv_iconst (v := 0) hx hb dX6_enqueueNext_52 (by decide) ?_
            refine lv_istore (lv' := [(7, .int 0), (6, .int x6_24), (5, .int r_22), (0, .ref h), (1, .int x1), (2, .int x2), (3, .int x3), (4, .int x4)]) hx hb dX6_enqueueNext_53 hl (by decide) rfl (fun ls hl => ?_)
            obtain ⟨n_55, hw⟩ := hw
            exact W_55 x4 r_22 x6_24 n_55 0 i_queued a_queue a_reached _ _ _ hW (lv_sub hl [3, 4, 5, 6, 7, 2, 1, 0] rfl) hw
  have hl := lv_entry ([.ref h, .int x1, .int x2, .int x3]) (n := 9) (Nat.le_of_ble_eq_true rfl)
  rw [lg_entry_eq]
  generalize (lg_sl ([.ref h, .int x1, .int x2, .int x3]) ++ List.replicate (9 - (lg_sl ([.ref h, .int x1, .int x2, .int x3])).length) Slot.unset).toArray = ls at hl ⊢
  have hl : lv_has ls 9 [(0, .ref h), (1, .int x1), (2, .int x2), (3, .int x3)] := hl
  refine lv_iconst (v := 0) hx hb dX6_enqueueNext_0 (by decide) ?_
  refine lv_istore (lv' := [(4, .int 0), (0, .ref h), (1, .int x1), (2, .int x2), (3, .int x3)]) hx hb dX6_enqueueNext_1 hl (by decide) rfl (fun ls hl => ?_)
  obtain ⟨n_3, hw⟩ := hw
  exact W_3  n_3 0 i_queued a_queue a_reached _ _ _ hW (lv_sub hl [1, 2, 3, 4, 0] rfl) hw
abbrev wX6_spread (cyI cyJ cyZ : ClassId) (h h_garden h_garden_courtA h_garden_courtB h_garden_kind h_garden_gone h_garden_court h_leaving h_shutBehind h_queue h_reached : Nat) (i_fewest : Int32) (i_first : Int32) (i_openFromA : Int32) (i_goalKind : Int32) (i_goal : Int32) (i_queued : Int32) (i_garden_gates : Int32) (i_garden_persons : Int32) (i_garden_fines : Int32) (a_garden_courtA : Nat → Int32) (a_garden_courtB : Nat → Int32) (a_leaving : Nat → Int32) (a_shutBehind : Nat → Int32) (a_queue : Nat → Int32) (a_reached : Nat → Int64) : va_W := [(h, .inr (6, [.int i_fewest, .int i_first, .ref h_garden, .int i_openFromA, .int i_goalKind, .int i_goal, .ref h_leaving, .ref h_shutBehind, .ref h_queue, .int i_queued, .ref h_reached])), (h_garden, .inr (2, [.ref h_garden_courtA, .ref h_garden_courtB, .ref h_garden_kind, .ref h_garden_gone, .int i_garden_gates, .ref h_garden_court, .int i_garden_persons, .int i_garden_fines])), (h_garden_courtA, .inl (cyI, 5, .inl a_garden_courtA)), (h_garden_courtB, .inl (cyI, 5, .inl a_garden_courtB)), (h_leaving, .inl (cyI, 5, .inl a_leaving)), (h_shutBehind, .inl (cyI, 5, .inl a_shutBehind)), (h_queue, .inl (cyI, 4000, .inl a_queue)), (h_reached, .inl (cyJ, 256, .inr (.inl a_reached)))]
abbrev qX6_spread (dC : Nat → ClassId) (dI : Nat → Nat → Nat) (cyI cyJ cyZ : ClassId) (h h_garden h_garden_courtA h_garden_courtB h_garden_kind h_garden_gone h_garden_court h_leaving h_shutBehind h_queue h_reached : Nat) (i_fewest : Int32) (i_first : Int32) (i_openFromA : Int32) (i_goalKind : Int32) (i_goal : Int32) (i_queued : Int32) (i_garden_gates : Int32) (i_garden_persons : Int32) (i_garden_fines : Int32) (a_garden_courtA : Nat → Int32) (a_garden_courtB : Nat → Int32) (a_leaving : Nat → Int32) (a_shutBehind : Nat → Int32) (a_queue : Nat → Int32) (a_reached : Nat → Int64) (post : Int32 → Int32 → Int32 → (Nat → Int32) → (Nat → Int64) → Prop) (A : Nat → Prop) : Array Value → State → Outcome → State → Prop := (va_Qv (fun (u : Int32 × Int32 × Int32 × (Nat → Int32) × (Nat → Int64)) => post u.1 u.2.1 u.2.2.1 u.2.2.2.1 u.2.2.2.2) (bW (dC, dI) (tyG cyI cyJ cyZ) A (fun u : Int32 × Int32 × Int32 × (Nat → Int32) × (Nat → Int64) => (wX6_spread cyI cyJ cyZ h h_garden h_garden_courtA h_garden_courtB h_garden_kind h_garden_gone h_garden_court h_leaving h_shutBehind h_queue h_reached (u.1) (u.2.1) i_openFromA i_goalKind i_goal (u.2.2.1) i_garden_gates i_garden_persons i_garden_fines a_garden_courtA a_garden_courtB a_leaving a_shutBehind (u.2.2.2.1) (u.2.2.2.2)))) A)
set_option maxHeartbeats 4000000 in
set_option maxRecDepth 100000 in
theorem mX6_spread (l : Launch) (dC : Nat → ClassId) (dI : Nat → Nat → Nat) (cyI cyJ cyZ : ClassId) (h h_garden h_garden_courtA h_garden_courtB h_garden_kind h_garden_gone h_garden_court h_leaving h_shutBehind h_queue h_reached : Nat) (sz : Nat) (i_fewest : Int32) (i_first : Int32) (i_openFromA : Int32) (i_goalKind : Int32) (i_goal : Int32) (i_queued : Int32) (i_garden_gates : Int32) (i_garden_persons : Int32) (i_garden_fines : Int32) (a_garden_courtA : Nat → Int32) (a_garden_courtB : Nat → Int32) (a_leaving : Nat → Int32) (a_shutBehind : Nat → Int32) (a_queue : Nat → Int32) (a_reached : Nat → Int64) (post : Int32 → Int32 → Int32 → (Nat → Int32) → (Nat → Int64) → Prop) (hwp : PX6_spread i_fewest i_first i_openFromA i_goalKind i_goal i_queued i_garden_gates i_garden_persons a_garden_courtA a_garden_courtB a_leaving a_shutBehind a_queue a_reached post) : Met l yX6_spread wsX6_spread ({ frames := 3, cells := 0, slots := 0, locals := 71 } : Room) (va_Pc [.ref h] (pcW (dC, dI) sz (wX6_spread cyI cyJ cyZ h h_garden h_garden_courtA h_garden_courtB h_garden_kind h_garden_gone h_garden_court h_leaving h_shutBehind h_queue h_reached i_fewest i_first i_openFromA i_goalKind i_goal i_queued i_garden_gates i_garden_persons i_garden_fines a_garden_courtA a_garden_courtB a_leaving a_shutBehind a_queue a_reached) (tyG cyI cyJ cyZ))) (qX6_spread dC dI cyI cyJ cyZ h h_garden h_garden_courtA h_garden_courtB h_garden_kind h_garden_gone h_garden_court h_leaving h_shutBehind h_queue h_reached i_fewest i_first i_openFromA i_goalKind i_goal i_queued i_garden_gates i_garden_persons i_garden_fines a_garden_courtA a_garden_courtB a_leaving a_shutBehind a_queue a_reached post (va_A (wX6_spread cyI cyJ cyZ h h_garden h_garden_courtA h_garden_courtB h_garden_kind h_garden_gone h_garden_court h_leaving h_shutBehind h_queue h_reached i_fewest i_first i_openFromA i_goalKind i_goal i_queued i_garden_gates i_garden_persons i_garden_fines a_garden_courtA a_garden_courtB a_leaving a_shutBehind a_queue a_reached) sz)) 0 0 (va_A (wX6_spread cyI cyJ cyZ h h_garden h_garden_courtA h_garden_courtB h_garden_kind h_garden_gone h_garden_court h_leaving h_shutBehind h_queue h_reached i_fewest i_first i_openFromA i_goalKind i_goal i_queued i_garden_gates i_garden_persons i_garden_fines a_garden_courtA a_garden_courtB a_leaving a_shutBehind a_queue a_reached) sz) := by
  refine Met.ofW (cc := cX6_spread) (maxL := 6) (ret := none) (by decide) rfl ?_
  intro p e s m args below meth c s₁ B hml hv
  obtain ⟨rfl, hsz, hP, hK, hD0, hN⟩ := hv
  have hx := B.exec
  have hb := B.bytes
  have hr := B.returns
  have hts := atoms_spec (ws := wsX6_spread) B.pre
  have hown : s.vm.findClass RX6 = some m.cls := findClass_of_methodNamed B.named
  have hlocks := B.notSynchronized
  subst hsz
  have hD := hD0.self (sz := s.heap.size)
  generalize hAe : va_A (wX6_spread cyI cyJ cyZ h h_garden h_garden_courtA h_garden_courtB h_garden_kind h_garden_gone h_garden_court h_leaving h_shutBehind h_queue h_reached i_fewest i_first i_openFromA i_goalKind i_goal i_queued i_garden_gates i_garden_persons i_garden_fines a_garden_courtA a_garden_courtB a_leaving a_shutBehind a_queue a_reached) s.heap.size = A at hD ⊢
  have hA : ∀ q : Nat, s.heap.size ≤ q → A q := fun q h => by rw [← hAe]; exact Or.inr h
  have hW : Wd (dC, dI) A s.heap (wX6_spread cyI cyJ cyZ h h_garden h_garden_courtA h_garden_courtB h_garden_kind h_garden_gone h_garden_court h_leaving h_shutBehind h_queue h_reached i_fewest i_first i_openFromA i_goalKind i_goal i_queued i_garden_gates i_garden_persons i_garden_fines a_garden_courtA a_garden_courtB a_leaving a_shutBehind a_queue a_reached) s.heap [] := ⟨hP, hD, va_S.rf⟩
  have hw := hwp
  have hiX6 : ∀ w ∈ u_ws RX6 TX6 11, w ∈ wsX6_spread := fun _ h => List.mem_cons_of_mem _ (List.mem_append_left _ (List.mem_append_right _ h))
  have k_0 := hts (.fieldLink RX6 41 "OddLetsIn$Walk" "queue" "[I") (List.mem_of_getElem? (i := 6) rfl)
  have k_1 := hts (.fieldLink RX6 11 "OddLetsIn$Walk" "fewest" "I") (List.mem_of_getElem? (i := 7) rfl)
  have k_2 := hts (.fieldLink RX6 15 "OddLetsIn$Walk" "first" "I") (List.mem_of_getElem? (i := 8) rfl)
  have k_3 := hts (.fieldLink RX6 44 "OddLetsIn$Walk" "queued" "I") (List.mem_of_getElem? (i := 1) rfl)
  have k_4 := hts (.methodLink RX6 100 Lib.Math.min.name) (List.mem_of_getElem? (i := 2) rfl)
  have k_5 := hts (.static Lib.Math.min.name) (List.mem_of_getElem? (i := 3) rfl)
  have k_6 := hts (.initialized "java/lang/Math") (List.mem_of_getElem? (i := 4) rfl)
  have k_7 := hts (.code Lib.Math.min.name Lib.Math.min.code 2 (some .int)) (List.mem_of_getElem? (i := 5) rfl)
  have W_4 : ∀ (n_4 : Nat) (x1 : Int32) (x2 : Int32) (i_fewest : Int32) (i_first : Int32) (i_queued : Int32) (a_queue : Nat → Int32) (a_reached : Nat → Int64) (H : Heap) (locs : List Loc) (ls : Array Slot), Wd (dC, dI) A s.heap (wX6_spread cyI cyJ cyZ h h_garden h_garden_courtA h_garden_courtB h_garden_kind h_garden_gone h_garden_court h_leaving h_shutBehind h_queue h_reached i_fewest i_first i_openFromA i_goalKind i_goal i_queued i_garden_gates i_garden_persons i_garden_fines a_garden_courtA a_garden_courtB a_leaving a_shutBehind a_queue a_reached) H locs → lv_has ls 6 [(0, .ref h), (1, .int x1), (2, .int x2)] → PX6_spread_4 post i_openFromA i_goalKind i_goal i_garden_gates i_garden_persons a_garden_courtA a_garden_courtB a_leaving a_shutBehind n_4 x1 x2 i_fewest i_first i_queued a_queue a_reached → W p l e (({ frames := 3, cells := 0, slots := 0, locals := 71 } : Room)) s m (([.ref h] : List Value).toArray) below meth c H locs 0 0 (MQ below (qX6_spread dC dI cyI cyJ cyZ h h_garden h_garden_courtA h_garden_courtB h_garden_kind h_garden_gone h_garden_court h_leaving h_shutBehind h_queue h_reached i_fewest i_first i_openFromA i_goalKind i_goal i_queued i_garden_gates i_garden_persons i_garden_fines a_garden_courtA a_garden_courtB a_leaving a_shutBehind a_queue a_reached post A) (([.ref h] : List Value).toArray) s 0 0 A) (F0 m 4 ls []) := by
    intro n_4
    induction n_4 with
    | zero =>
      intro x1 x2 i_fewest i_first i_queued a_queue a_reached H locs ls hW hl hw
      exact False.elim hw
    | succ n_4 ih_4 =>
      have W_30 : ∀ (x2 : Int32) (x3 : Int32) (n_30 : Nat) (x1 : Int32) (i_fewest : Int32) (i_first : Int32) (i_queued : Int32) (a_queue : Nat → Int32) (a_reached : Nat → Int64) (H : Heap) (locs : List Loc) (ls : Array Slot), Wd (dC, dI) A s.heap (wX6_spread cyI cyJ cyZ h h_garden h_garden_courtA h_garden_courtB h_garden_kind h_garden_gone h_garden_court h_leaving h_shutBehind h_queue h_reached i_fewest i_first i_openFromA i_goalKind i_goal i_queued i_garden_gates i_garden_persons i_garden_fines a_garden_courtA a_garden_courtB a_leaving a_shutBehind a_queue a_reached) H locs → lv_has ls 6 [(0, .ref h), (1, .int x1), (2, .int x2), (3, .int x3)] → PX6_spread_30 post i_openFromA i_goalKind i_goal i_garden_gates i_garden_persons a_garden_courtA a_garden_courtB a_leaving a_shutBehind (PX6_spread_4 post i_openFromA i_goalKind i_goal i_garden_gates i_garden_persons a_garden_courtA a_garden_courtB a_leaving a_shutBehind n_4) x2 x3 n_30 x1 i_fewest i_first i_queued a_queue a_reached → W p l e (({ frames := 3, cells := 0, slots := 0, locals := 71 } : Room)) s m (([.ref h] : List Value).toArray) below meth c H locs 0 0 (MQ below (qX6_spread dC dI cyI cyJ cyZ h h_garden h_garden_courtA h_garden_courtB h_garden_kind h_garden_gone h_garden_court h_leaving h_shutBehind h_queue h_reached i_fewest i_first i_openFromA i_goalKind i_goal i_queued i_garden_gates i_garden_persons i_garden_fines a_garden_courtA a_garden_courtB a_leaving a_shutBehind a_queue a_reached post A) (([.ref h] : List Value).toArray) s 0 0 A) (F0 m 30 ls []) := by
        intro x2 x3 n_30
        induction n_30 with
        | zero =>
          intro x1 i_fewest i_first i_queued a_queue a_reached H locs ls hW hl hw
          exact False.elim hw
        | succ n_30 ih_30 =>
          intro x1 i_fewest i_first i_queued a_queue a_reached H locs ls hW hl hw
          refine lv_iload_n hx hb dX6_spread_30 rfl (lv_at hl 1 rfl) ?_
          refine lv_iload_n hx hb dX6_spread_31 rfl (lv_at hl 3 rfl) ?_
          refine lv_icmp_ge (tgt := 111) hx hb dX6_spread_32 (by decide) (fun c_1 => ?_) (fun c_1 => ?_)
          · replace hw := hw.1 c_1
            obtain ⟨x2_2, ex2_2⟩ : ∃ y : Int32, y = x2 + 1 := ⟨_, rfl⟩
            replace hw := hw x2_2 ex2_2
            refine lv_iinc (v := x2_2) (lv' := [(2, .int x2_2), (0, .ref h), (1, .int x1), (3, .int x3)]) hx hb dX6_spread_111 hl (k := 2) rfl (by rw [ex2_2]; rfl) (by decide) rfl (fun ls hl => ?_)
            refine lv_goto (tgt := 4) hx hb dX6_spread_114 (by decide) ?_
            exact ih_4 x1 x2_2 i_fewest i_first i_queued a_queue a_reached _ _ _ hW (lv_sub hl [1, 2, 0] rfl) hw
          · replace hw := hw.2 c_1
            refine lv_aload_n hx hb dX6_spread_35 rfl (lv_at hl 0 rfl) ?_
            refine zw_get (ci := 6) (C := RX6) (T := TX6) (N := 11) (v := .ref h_queue) hx hb hts hiX6 hown hK hW 0 rfl rfl 8 (by decide) rfl k_0 dX6_spread_36 ?_
            refine lv_iload_n hx hb dX6_spread_39 rfl (lv_at hl 1 rfl) ?_
            refine zw_iald hx hb hK hW 6 rfl rfl hw.1 dX6_spread_40 ?_
            replace hw := hw.2
            refine lv_sipush (v := 16383) hx hb dX6_spread_41 (by decide) ?_
            refine lv_iand hx hb dX6_spread_44 ?_
            refine lv_topi (fun x4_3 ex4_3 => ?_)
            replace hw := hw x4_3 ex4_3
            refine lv_istore (lv' := [(4, .int x4_3), (0, .ref h), (1, .int x1), (2, .int x2), (3, .int x3)]) hx hb dX6_spread_45 hl (by decide) rfl (fun ls hl => ?_)
            refine lv_aload_n hx hb dX6_spread_47 rfl (lv_at hl 1 rfl) ?_
            refine zw_get (ci := 6) (C := RX6) (T := TX6) (N := 11) (v := .ref h_queue) hx hb hts hiX6 hown hK hW 0 rfl rfl 8 (by decide) rfl k_0 dX6_spread_48 ?_
            refine lv_iload_n hx hb dX6_spread_51 rfl (lv_at hl 2 rfl) ?_
            refine zw_iald hx hb hK hW 6 rfl rfl hw.1 dX6_spread_52 ?_
            replace hw := hw.2
            refine lv_bipush (v := 14) hx hb dX6_spread_53 (by decide) ?_
            refine lv_ishr hx hb dX6_spread_55 ?_
            refine lv_topi (fun x5_4 ex5_4 => ?_)
            replace hw := hw x5_4 ex5_4
            refine lv_istore (lv' := [(5, .int x5_4), (4, .int x4_3), (0, .ref h), (1, .int x1), (2, .int x2), (3, .int x3)]) hx hb dX6_spread_56 hl (by decide) rfl (fun ls hl => ?_)
            refine lv_aload_n hx hb dX6_spread_58 rfl (lv_at hl 2 rfl) ?_
            refine lv_iload hx hb dX6_spread_59 (lv_at hl 1 rfl) ?_
            refine zw_Vi ⟨hx, hb, hml, hown, hts⟩ hK hN hA hW 0 rfl (T := TX6) (N := 11) rfl [.int x4_3] [] [0, 1] [2, 3, 4, 5, 6, 7] [6, 7, 0, 1, 2, 3, 4, 5] (fun _ => (wX6_spread cyI cyJ cyZ h h_garden h_garden_courtA h_garden_courtB h_garden_kind h_garden_gone h_garden_court h_leaving h_shutBehind h_queue h_reached i_fewest i_first i_openFromA i_goalKind i_goal i_queued i_garden_gates i_garden_persons i_garden_fines a_garden_courtA a_garden_courtB a_leaving a_shutBehind a_queue a_reached)) (mX6_isGoal l dC dI cyI cyJ cyZ h h_garden h_garden_courtA h_garden_courtB h_garden_kind h_garden_gone h_garden_court h_leaving h_shutBehind h_queue h_reached _ i_fewest i_first i_openFromA i_goalKind i_goal i_queued i_garden_gates i_garden_persons i_garden_fines x4_3 _ hw) (cwV 1 hts gX6_spread_X6_isGoal rfl rfl rfl (by decide +kernel) ⟨Nat.le_of_ble_eq_true rfl, Nat.le_of_ble_eq_true rfl⟩) rfl rfl rfl rfl (by decide) rfl (fun _ => rfl) rfl hl.1 rfl (Nat.le_of_ble_eq_true rfl) (Nat.le_of_ble_eq_true rfl) (Nat.le_of_ble_eq_true rfl) dX6_spread_61 (fun r_5 u H locs hw hW => ?_)
            obtain ⟨br_5, hw⟩ := hw
            refine lv_if_eq (tgt := 88) hx hb dX6_spread_64 (by decide) (fun c_6 => ?_) (fun c_6 => ?_)
            · replace hw := hw.1 c_6
              refine lv_aload_n hx hb dX6_spread_88 rfl (lv_at hl 2 rfl) ?_
              refine lv_iload hx hb dX6_spread_89 (lv_at hl 1 rfl) ?_
              refine lv_iload_n hx hb dX6_spread_91 rfl (lv_at hl 4 rfl) ?_
              refine lv_if_ne (tgt := 99) hx hb dX6_spread_92 (by decide) (fun c_7 => ?_) (fun c_7 => ?_)
              · replace hw := hw.2 c_7
                refine lv_iconst (v := 0) hx hb dX6_spread_99 (by decide) ?_
                refine lv_iload hx hb dX6_spread_100 (lv_at hl 0 rfl) ?_
                refine zw_Vv ⟨hx, hb, hml, hown, hts⟩ hK hN hA hW 0 rfl (T := TX6) (N := 11) rfl [.int x4_3, .int 0, .int x5_4] [] [0, 1, 2, 3, 4, 5, 6, 7] [] [0, 1, 2, 3, 4, 5, 6, 7] (fun u => (wX6_spread cyI cyJ cyZ h h_garden h_garden_courtA h_garden_courtB h_garden_kind h_garden_gone h_garden_court h_leaving h_shutBehind h_queue h_reached i_fewest i_first i_openFromA i_goalKind i_goal (u.1) i_garden_gates i_garden_persons i_garden_fines a_garden_courtA a_garden_courtB a_leaving a_shutBehind (u.2.1) (u.2.2))) (mX6_enqueueNext l dC dI cyI cyJ cyZ h h_garden h_garden_courtA h_garden_courtB h_garden_kind h_garden_gone h_garden_court h_leaving h_shutBehind h_queue h_reached _ i_fewest i_first i_openFromA i_goalKind i_goal i_queued i_garden_gates i_garden_persons i_garden_fines a_garden_courtA a_garden_courtB a_leaving a_shutBehind a_queue a_reached x4_3 0 x5_4 _ hw) (cwV 3 hts gX6_spread_X6_enqueueNext rfl rfl rfl (by decide +kernel) ⟨Nat.le_of_ble_eq_true rfl, Nat.le_of_ble_eq_true rfl⟩) rfl rfl rfl rfl (by decide) rfl (fun _ => rfl) rfl hl.1 rfl (Nat.le_of_ble_eq_true rfl) (Nat.le_of_ble_eq_true rfl) (Nat.le_of_ble_eq_true rfl) dX6_spread_102 (fun u H locs hw hW => ?_)
                obtain ⟨i_queued_8, a_queue_9, a_reached_10⟩ := u
                try dsimp only at hw
                replace hW : Wd (dC, dI) A s.heap (wX6_spread cyI cyJ cyZ h h_garden h_garden_courtA h_garden_courtB h_garden_kind h_garden_gone h_garden_court h_leaving h_shutBehind h_queue h_reached i_fewest i_first i_openFromA i_goalKind i_goal i_queued_8 i_garden_gates i_garden_persons i_garden_fines a_garden_courtA a_garden_courtB a_leaving a_shutBehind a_queue_9 a_reached_10) H locs := hW
                obtain ⟨x1_11, ex1_11⟩ : ∃ y : Int32, y = x1 + 1 := ⟨_, rfl⟩
                replace hw := hw x1_11 ex1_11
                refine lv_iinc (v := x1_11) (lv' := [(1, .int x1_11), (5, .int x5_4), (4, .int x4_3), (0, .ref h), (2, .int x2), (3, .int x3)]) hx hb dX6_spread_105 hl (k := 3) rfl (by rw [ex1_11]; rfl) (by decide) rfl (fun ls hl => ?_)
                refine lv_goto (tgt := 30) hx hb dX6_spread_108 (by decide) ?_
                exact ih_30 x1_11 i_fewest i_first i_queued_8 a_queue_9 a_reached_10 _ _ _ hW (lv_sub hl [3, 0, 4, 5] rfl) hw
              · replace hw := hw.1 c_7
                refine lv_iconst (v := 1) hx hb dX6_spread_95 (by decide) ?_
                refine lv_goto (tgt := 100) hx hb dX6_spread_96 (by decide) ?_
                refine lv_iload hx hb dX6_spread_100 (lv_at hl 0 rfl) ?_
                refine zw_Vv ⟨hx, hb, hml, hown, hts⟩ hK hN hA hW 0 rfl (T := TX6) (N := 11) rfl [.int x4_3, .int 1, .int x5_4] [] [0, 1, 2, 3, 4, 5, 6, 7] [] [0, 1, 2, 3, 4, 5, 6, 7] (fun u => (wX6_spread cyI cyJ cyZ h h_garden h_garden_courtA h_garden_courtB h_garden_kind h_garden_gone h_garden_court h_leaving h_shutBehind h_queue h_reached i_fewest i_first i_openFromA i_goalKind i_goal (u.1) i_garden_gates i_garden_persons i_garden_fines a_garden_courtA a_garden_courtB a_leaving a_shutBehind (u.2.1) (u.2.2))) (mX6_enqueueNext l dC dI cyI cyJ cyZ h h_garden h_garden_courtA h_garden_courtB h_garden_kind h_garden_gone h_garden_court h_leaving h_shutBehind h_queue h_reached _ i_fewest i_first i_openFromA i_goalKind i_goal i_queued i_garden_gates i_garden_persons i_garden_fines a_garden_courtA a_garden_courtB a_leaving a_shutBehind a_queue a_reached x4_3 1 x5_4 _ hw) (cwV 3 hts gX6_spread_X6_enqueueNext rfl rfl rfl (by decide +kernel) ⟨Nat.le_of_ble_eq_true rfl, Nat.le_of_ble_eq_true rfl⟩) rfl rfl rfl rfl (by decide) rfl (fun _ => rfl) rfl hl.1 rfl (Nat.le_of_ble_eq_true rfl) (Nat.le_of_ble_eq_true rfl) (Nat.le_of_ble_eq_true rfl) dX6_spread_102 (fun u H locs hw hW => ?_)
                obtain ⟨i_queued_12, a_queue_13, a_reached_14⟩ := u
                try dsimp only at hw
                replace hW : Wd (dC, dI) A s.heap (wX6_spread cyI cyJ cyZ h h_garden h_garden_courtA h_garden_courtB h_garden_kind h_garden_gone h_garden_court h_leaving h_shutBehind h_queue h_reached i_fewest i_first i_openFromA i_goalKind i_goal i_queued_12 i_garden_gates i_garden_persons i_garden_fines a_garden_courtA a_garden_courtB a_leaving a_shutBehind a_queue_13 a_reached_14) H locs := hW
                obtain ⟨x1_15, ex1_15⟩ : ∃ y : Int32, y = x1 + 1 := ⟨_, rfl⟩
                replace hw := hw x1_15 ex1_15
                refine lv_iinc (v := x1_15) (lv' := [(1, .int x1_15), (5, .int x5_4), (4, .int x4_3), (0, .ref h), (2, .int x2), (3, .int x3)]) hx hb dX6_spread_105 hl (k := 3) rfl (by rw [ex1_15]; rfl) (by decide) rfl (fun ls hl => ?_)
                refine lv_goto (tgt := 30) hx hb dX6_spread_108 (by decide) ?_
                exact ih_30 x1_15 i_fewest i_first i_queued_12 a_queue_13 a_reached_14 _ _ _ hW (lv_sub hl [3, 0, 4, 5] rfl) hw
            · replace hw := hw.2 c_6
              refine lv_aload_n hx hb dX6_spread_67 rfl (lv_at hl 2 rfl) ?_
              refine lv_iload_n hx hb dX6_spread_68 rfl (lv_at hl 4 rfl) ?_
              refine zw_put (ci := 6) (C := RX6) (T := TX6) (N := 11) (w2 := (wX6_spread cyI cyJ cyZ h h_garden h_garden_courtA h_garden_courtB h_garden_kind h_garden_gone h_garden_court h_leaving h_shutBehind h_queue h_reached x2 i_first i_openFromA i_goalKind i_goal i_queued i_garden_gates i_garden_persons i_garden_fines a_garden_courtA a_garden_courtB a_leaving a_shutBehind a_queue a_reached)) hx hb hts hiX6 tyX6 tyX6_ok nmX6 hown hK hW 0 rfl rfl 0 (by decide) (by decide +kernel) rfl (Nat.le_of_ble_eq_true rfl) rfl k_1 dX6_spread_69 (fun H locs hW => ?_)
              refine lv_aload_n hx hb dX6_spread_72 rfl (lv_at hl 2 rfl) ?_
              refine lv_iload_n hx hb dX6_spread_73 rfl (lv_at hl 4 rfl) ?_
              refine lv_if_ne (tgt := 82) hx hb dX6_spread_74 (by decide) (fun c_16 => ?_) (fun c_16 => ?_)
              · replace hw := hw.2 c_16
                refine lv_iload hx hb dX6_spread_82 (lv_at hl 0 rfl) ?_
                refine zw_put (ci := 6) (C := RX6) (T := TX6) (N := 11) (w2 := (wX6_spread cyI cyJ cyZ h h_garden h_garden_courtA h_garden_courtB h_garden_kind h_garden_gone h_garden_court h_leaving h_shutBehind h_queue h_reached x2 x5_4 i_openFromA i_goalKind i_goal i_queued i_garden_gates i_garden_persons i_garden_fines a_garden_courtA a_garden_courtB a_leaving a_shutBehind a_queue a_reached)) hx hb hts hiX6 tyX6 tyX6_ok nmX6 hown hK hW 0 rfl rfl 1 (by decide) (by decide +kernel) rfl (Nat.le_of_ble_eq_true rfl) rfl k_2 dX6_spread_84 (fun H locs hW => ?_)
                refine zw_vret (S := Int32 × Int32 × Int32 × (Nat → Int32) × (Nat → Int64)) (post := fun u => post u.1 u.2.1 u.2.2.1 u.2.2.2.1 u.2.2.2.2) (x2, x5_4, i_queued, a_queue, a_reached) hx hb hr hlocks hK hW hw ?_ dX6_spread_87
                rfl
              · replace hw := hw.1 c_16
                refine lv_bipush (v := (-4)) hx hb dX6_spread_77 (by decide) ?_
                refine lv_goto (tgt := 84) hx hb dX6_spread_79 (by decide) ?_
                refine zw_put (ci := 6) (C := RX6) (T := TX6) (N := 11) (w2 := (wX6_spread cyI cyJ cyZ h h_garden h_garden_courtA h_garden_courtB h_garden_kind h_garden_gone h_garden_court h_leaving h_shutBehind h_queue h_reached x2 (-4) i_openFromA i_goalKind i_goal i_queued i_garden_gates i_garden_persons i_garden_fines a_garden_courtA a_garden_courtB a_leaving a_shutBehind a_queue a_reached)) hx hb hts hiX6 tyX6 tyX6_ok nmX6 hown hK hW 0 rfl rfl 1 (by decide) (by decide +kernel) rfl (Nat.le_of_ble_eq_true rfl) rfl k_2 dX6_spread_84 (fun H locs hW => ?_)
                refine zw_vret (S := Int32 × Int32 × Int32 × (Nat → Int32) × (Nat → Int64)) (post := fun u => post u.1 u.2.1 u.2.2.1 u.2.2.2.1 u.2.2.2.2) (x2, (-4), i_queued, a_queue, a_reached) hx hb hr hlocks hK hW hw ?_ dX6_spread_87
                rfl
      intro x1 x2 i_fewest i_first i_queued a_queue a_reached H locs ls hW hl hw
      refine lv_iload_n hx hb dX6_spread_4 rfl (lv_at hl 2 rfl) ?_
      refine lv_sipush (v := 4000) hx hb dX6_spread_5 (by decide) ?_
      refine lv_icmp_ge (tgt := 117) hx hb dX6_spread_8 (by decide) (fun c_17 => ?_) (fun c_17 => ?_)
      · replace hw := hw.1 c_17
        refine zw_vret (S := Int32 × Int32 × Int32 × (Nat → Int32) × (Nat → Int64)) (post := fun u => post u.1 u.2.1 u.2.2.1 u.2.2.2.1 u.2.2.2.2) (i_fewest, i_first, i_queued, a_queue, a_reached) hx hb hr hlocks hK hW hw ?_ dX6_spread_117
        rfl
      · replace hw := hw.2 c_17
        refine lv_iload_n hx hb dX6_spread_11 rfl (lv_at hl 1 rfl) ?_
        refine lv_aload_n hx hb dX6_spread_12 rfl (lv_at hl 0 rfl) ?_
        refine zw_get (ci := 6) (C := RX6) (T := TX6) (N := 11) (v := .int i_queued) hx hb hts hiX6 hown hK hW 0 rfl rfl 9 (by decide) rfl k_3 dX6_spread_13 ?_
        refine lv_icmp_ge (tgt := 117) hx hb dX6_spread_16 (by decide) (fun c_18 => ?_) (fun c_18 => ?_)
        · replace hw := hw.1 c_18
          refine zw_vret (S := Int32 × Int32 × Int32 × (Nat → Int32) × (Nat → Int64)) (post := fun u => post u.1 u.2.1 u.2.2.1 u.2.2.2.1 u.2.2.2.2) (i_fewest, i_first, i_queued, a_queue, a_reached) hx hb hr hlocks hK hW hw ?_ dX6_spread_117
          rfl
        · replace hw := hw.2 c_18
          refine lv_aload_n hx hb dX6_spread_19 rfl (lv_at hl 0 rfl) ?_
          refine zw_get (ci := 6) (C := RX6) (T := TX6) (N := 11) (v := .int i_queued) hx hb hts hiX6 hown hK hW 0 rfl rfl 9 (by decide) rfl k_3 dX6_spread_20 ?_
          refine lv_sipush (v := 4000) hx hb dX6_spread_23 (by decide) ?_
          refine va_mmin hx hb (hml.trans hl.1.symm) hown k_4 k_5 k_6 k_7 (Nat.le_of_ble_eq_true rfl) (Nat.le_of_ble_eq_true rfl) (Nat.zero_le _) (Nat.zero_le _) dX6_spread_26 ?_
          refine lv_topi (fun x3_19 ex3_19 => ?_)
          replace hw := hw x3_19 ex3_19
          refine lv_istore_n (lv' := [(3, .int x3_19), (0, .ref h), (1, .int x1), (2, .int x2)]) hx hb dX6_spread_29 rfl hl (by decide) rfl (fun ls hl => ?_)
          obtain ⟨n_30, hw⟩ := hw
          exact W_30 x2 x3_19 n_30 x1 i_fewest i_first i_queued a_queue a_reached _ _ _ hW (lv_sub hl [1, 2, 3, 0] rfl) hw
  have hl := lv_entry ([.ref h]) (n := 6) (Nat.le_of_ble_eq_true rfl)
  rw [lg_entry_eq]
  generalize (lg_sl ([.ref h]) ++ List.replicate (6 - (lg_sl ([.ref h])).length) Slot.unset).toArray = ls at hl ⊢
  have hl : lv_has ls 6 [(0, .ref h)] := hl
  refine lv_iconst (v := 0) hx hb dX6_spread_0 (by decide) ?_
  refine lv_istore_n (lv' := [(1, .int 0), (0, .ref h)]) hx hb dX6_spread_1 rfl hl (by decide) rfl (fun ls hl => ?_)
  refine lv_iconst (v := 0) hx hb dX6_spread_2 (by decide) ?_
  refine lv_istore_n (lv' := [(2, .int 0), (1, .int 0), (0, .ref h)]) hx hb dX6_spread_3 rfl hl (by decide) rfl (fun ls hl => ?_)
  obtain ⟨n_4, hw⟩ := hw
  exact W_4  n_4 0 0 i_fewest i_first i_queued a_queue a_reached _ _ _ hW (lv_sub hl [2, 1, 0] rfl) hw
abbrev wX6_search (cyI cyJ cyZ : ClassId) (h h_garden h_garden_courtA h_garden_courtB h_garden_kind h_garden_gone h_garden_court h_leaving h_shutBehind h_queue h_reached ho ho_courtA ho_courtB ho_kind ho_gone ho_court : Nat) (i_fewest : Int32) (i_first : Int32) (i_openFromA : Int32) (i_goalKind : Int32) (i_goal : Int32) (i_queued : Int32) (i_garden_gates : Int32) (i_garden_persons : Int32) (i_garden_fines : Int32) (a_garden_courtA : Nat → Int32) (a_garden_courtB : Nat → Int32) (a_garden_kind : Nat → Int32) (a_garden_gone : Nat → Int32) (a_garden_court : Nat → Int32) (a_leaving : Nat → Int32) (a_shutBehind : Nat → Int32) (a_queue : Nat → Int32) (a_reached : Nat → Int64) (io_gates : Int32) (io_persons : Int32) (io_fines : Int32) (ao_courtA : Nat → Int32) (ao_courtB : Nat → Int32) (ao_kind : Nat → Int32) (ao_gone : Nat → Int32) (ao_court : Nat → Int32) : va_W := [(h, .inr (6, [.int i_fewest, .int i_first, .ref h_garden, .int i_openFromA, .int i_goalKind, .int i_goal, .ref h_leaving, .ref h_shutBehind, .ref h_queue, .int i_queued, .ref h_reached])), (h_garden, .inr (2, [.ref h_garden_courtA, .ref h_garden_courtB, .ref h_garden_kind, .ref h_garden_gone, .int i_garden_gates, .ref h_garden_court, .int i_garden_persons, .int i_garden_fines])), (h_garden_courtA, .inl (cyI, 5, .inl a_garden_courtA)), (h_garden_courtB, .inl (cyI, 5, .inl a_garden_courtB)), (h_garden_kind, .inl (cyI, 5, .inl a_garden_kind)), (h_garden_gone, .inl (cyI, 5, .inl a_garden_gone)), (h_garden_court, .inl (cyI, 3, .inl a_garden_court)), (h_leaving, .inl (cyI, 5, .inl a_leaving)), (h_shutBehind, .inl (cyI, 5, .inl a_shutBehind)), (h_queue, .inl (cyI, 4000, .inl a_queue)), (h_reached, .inl (cyJ, 256, .inr (.inl a_reached))), (ho, .inr (2, [.ref ho_courtA, .ref ho_courtB, .ref ho_kind, .ref ho_gone, .int io_gates, .ref ho_court, .int io_persons, .int io_fines])), (ho_courtA, .inl (cyI, 5, .inl ao_courtA)), (ho_courtB, .inl (cyI, 5, .inl ao_courtB)), (ho_kind, .inl (cyI, 5, .inl ao_kind)), (ho_gone, .inl (cyI, 5, .inl ao_gone)), (ho_court, .inl (cyI, 3, .inl ao_court))]
abbrev qX6_search (dC : Nat → ClassId) (dI : Nat → Nat → Nat) (cyI cyJ cyZ : ClassId) (h h_garden h_garden_courtA h_garden_courtB h_garden_kind h_garden_gone h_garden_court h_leaving h_shutBehind h_queue h_reached ho ho_courtA ho_courtB ho_kind ho_gone ho_court : Nat) (i_fewest : Int32) (i_first : Int32) (i_openFromA : Int32) (i_goalKind : Int32) (i_goal : Int32) (i_queued : Int32) (i_garden_gates : Int32) (i_garden_persons : Int32) (i_garden_fines : Int32) (a_garden_courtA : Nat → Int32) (a_garden_courtB : Nat → Int32) (a_garden_kind : Nat → Int32) (a_garden_gone : Nat → Int32) (a_garden_court : Nat → Int32) (a_leaving : Nat → Int32) (a_shutBehind : Nat → Int32) (a_queue : Nat → Int32) (a_reached : Nat → Int64) (io_gates : Int32) (io_persons : Int32) (io_fines : Int32) (ao_courtA : Nat → Int32) (ao_courtB : Nat → Int32) (ao_kind : Nat → Int32) (ao_gone : Nat → Int32) (ao_court : Nat → Int32) (post : Int32 → Int32 → Int32 → Int32 → Int32 → Int32 → Int32 → Int32 → Int32 → (Nat → Int32) → (Nat → Int32) → (Nat → Int32) → (Nat → Int32) → (Nat → Int32) → (Nat → Int32) → (Nat → Int32) → (Nat → Int32) → (Nat → Int64) → Prop) (A : Nat → Prop) : Array Value → State → Outcome → State → Prop := (va_Qv (fun (u : Int32 × Int32 × Int32 × Int32 × Int32 × Int32 × Int32 × Int32 × Int32 × (Nat → Int32) × (Nat → Int32) × (Nat → Int32) × (Nat → Int32) × (Nat → Int32) × (Nat → Int32) × (Nat → Int32) × (Nat → Int32) × (Nat → Int64)) => post u.1 u.2.1 u.2.2.1 u.2.2.2.1 u.2.2.2.2.1 u.2.2.2.2.2.1 u.2.2.2.2.2.2.1 u.2.2.2.2.2.2.2.1 u.2.2.2.2.2.2.2.2.1 u.2.2.2.2.2.2.2.2.2.1 u.2.2.2.2.2.2.2.2.2.2.1 u.2.2.2.2.2.2.2.2.2.2.2.1 u.2.2.2.2.2.2.2.2.2.2.2.2.1 u.2.2.2.2.2.2.2.2.2.2.2.2.2.1 u.2.2.2.2.2.2.2.2.2.2.2.2.2.2.1 u.2.2.2.2.2.2.2.2.2.2.2.2.2.2.2.1 u.2.2.2.2.2.2.2.2.2.2.2.2.2.2.2.2.1 u.2.2.2.2.2.2.2.2.2.2.2.2.2.2.2.2.2) (bW (dC, dI) (tyG cyI cyJ cyZ) A (fun u : Int32 × Int32 × Int32 × Int32 × Int32 × Int32 × Int32 × Int32 × Int32 × (Nat → Int32) × (Nat → Int32) × (Nat → Int32) × (Nat → Int32) × (Nat → Int32) × (Nat → Int32) × (Nat → Int32) × (Nat → Int32) × (Nat → Int64) => (wX6_search cyI cyJ cyZ h h_garden h_garden_courtA h_garden_courtB h_garden_kind h_garden_gone h_garden_court h_leaving h_shutBehind h_queue h_reached ho ho_courtA ho_courtB ho_kind ho_gone ho_court (u.1) (u.2.1) (u.2.2.1) (u.2.2.2.1) (u.2.2.2.2.1) (u.2.2.2.2.2.1) (u.2.2.2.2.2.2.1) (u.2.2.2.2.2.2.2.1) (u.2.2.2.2.2.2.2.2.1) (u.2.2.2.2.2.2.2.2.2.1) (u.2.2.2.2.2.2.2.2.2.2.1) (u.2.2.2.2.2.2.2.2.2.2.2.1) (u.2.2.2.2.2.2.2.2.2.2.2.2.1) (u.2.2.2.2.2.2.2.2.2.2.2.2.2.1) (u.2.2.2.2.2.2.2.2.2.2.2.2.2.2.1) (u.2.2.2.2.2.2.2.2.2.2.2.2.2.2.2.1) (u.2.2.2.2.2.2.2.2.2.2.2.2.2.2.2.2.1) (u.2.2.2.2.2.2.2.2.2.2.2.2.2.2.2.2.2) io_gates io_persons io_fines ao_courtA ao_courtB ao_kind ao_gone ao_court))) A)
set_option maxHeartbeats 4000000 in
set_option maxRecDepth 100000 in
theorem mX6_search (l : Launch) (dC : Nat → ClassId) (dI : Nat → Nat → Nat) (cyI cyJ cyZ : ClassId) (h h_garden h_garden_courtA h_garden_courtB h_garden_kind h_garden_gone h_garden_court h_leaving h_shutBehind h_queue h_reached ho ho_courtA ho_courtB ho_kind ho_gone ho_court : Nat) (sz : Nat) (i_fewest : Int32) (i_first : Int32) (i_openFromA : Int32) (i_goalKind : Int32) (i_goal : Int32) (i_queued : Int32) (i_garden_gates : Int32) (i_garden_persons : Int32) (i_garden_fines : Int32) (a_garden_courtA : Nat → Int32) (a_garden_courtB : Nat → Int32) (a_garden_kind : Nat → Int32) (a_garden_gone : Nat → Int32) (a_garden_court : Nat → Int32) (a_leaving : Nat → Int32) (a_shutBehind : Nat → Int32) (a_queue : Nat → Int32) (a_reached : Nat → Int64) (io_gates : Int32) (io_persons : Int32) (io_fines : Int32) (ao_courtA : Nat → Int32) (ao_courtB : Nat → Int32) (ao_kind : Nat → Int32) (ao_gone : Nat → Int32) (ao_court : Nat → Int32) (x2 : Int32) (x3 : Int32) (post : Int32 → Int32 → Int32 → Int32 → Int32 → Int32 → Int32 → Int32 → Int32 → (Nat → Int32) → (Nat → Int32) → (Nat → Int32) → (Nat → Int32) → (Nat → Int32) → (Nat → Int32) → (Nat → Int32) → (Nat → Int32) → (Nat → Int64) → Prop) (hwp : PX6_search x2 x3 i_fewest i_first i_openFromA i_goalKind i_goal i_queued i_garden_gates i_garden_persons i_garden_fines a_garden_courtA a_garden_courtB a_garden_kind a_garden_gone a_garden_court a_leaving a_shutBehind a_queue a_reached io_gates io_persons io_fines ao_courtA ao_courtB ao_kind ao_gone ao_court post) : Met l yX6_search wsX6_search ({ frames := 5, cells := 0, slots := 0, locals := 111 } : Room) (va_Pc [.ref h, .ref ho, .int x2, .int x3] (pcW (dC, dI) sz (wX6_search cyI cyJ cyZ h h_garden h_garden_courtA h_garden_courtB h_garden_kind h_garden_gone h_garden_court h_leaving h_shutBehind h_queue h_reached ho ho_courtA ho_courtB ho_kind ho_gone ho_court i_fewest i_first i_openFromA i_goalKind i_goal i_queued i_garden_gates i_garden_persons i_garden_fines a_garden_courtA a_garden_courtB a_garden_kind a_garden_gone a_garden_court a_leaving a_shutBehind a_queue a_reached io_gates io_persons io_fines ao_courtA ao_courtB ao_kind ao_gone ao_court) (tyG cyI cyJ cyZ))) (qX6_search dC dI cyI cyJ cyZ h h_garden h_garden_courtA h_garden_courtB h_garden_kind h_garden_gone h_garden_court h_leaving h_shutBehind h_queue h_reached ho ho_courtA ho_courtB ho_kind ho_gone ho_court i_fewest i_first i_openFromA i_goalKind i_goal i_queued i_garden_gates i_garden_persons i_garden_fines a_garden_courtA a_garden_courtB a_garden_kind a_garden_gone a_garden_court a_leaving a_shutBehind a_queue a_reached io_gates io_persons io_fines ao_courtA ao_courtB ao_kind ao_gone ao_court post (va_A (wX6_search cyI cyJ cyZ h h_garden h_garden_courtA h_garden_courtB h_garden_kind h_garden_gone h_garden_court h_leaving h_shutBehind h_queue h_reached ho ho_courtA ho_courtB ho_kind ho_gone ho_court i_fewest i_first i_openFromA i_goalKind i_goal i_queued i_garden_gates i_garden_persons i_garden_fines a_garden_courtA a_garden_courtB a_garden_kind a_garden_gone a_garden_court a_leaving a_shutBehind a_queue a_reached io_gates io_persons io_fines ao_courtA ao_courtB ao_kind ao_gone ao_court) sz)) 0 0 (va_A (wX6_search cyI cyJ cyZ h h_garden h_garden_courtA h_garden_courtB h_garden_kind h_garden_gone h_garden_court h_leaving h_shutBehind h_queue h_reached ho ho_courtA ho_courtB ho_kind ho_gone ho_court i_fewest i_first i_openFromA i_goalKind i_goal i_queued i_garden_gates i_garden_persons i_garden_fines a_garden_courtA a_garden_courtB a_garden_kind a_garden_gone a_garden_court a_leaving a_shutBehind a_queue a_reached io_gates io_persons io_fines ao_courtA ao_courtB ao_kind ao_gone ao_court) sz) := by
  refine Met.ofW (cc := cX6_search) (maxL := 4) (ret := none) (by decide) rfl ?_
  intro p e s m args below meth c s₁ B hml hv
  obtain ⟨rfl, hsz, hP, hK, hD0, hN⟩ := hv
  have hx := B.exec
  have hb := B.bytes
  have hr := B.returns
  have hts := atoms_spec (ws := wsX6_search) B.pre
  have hown : s.vm.findClass RX6 = some m.cls := findClass_of_methodNamed B.named
  have hlocks := B.notSynchronized
  subst hsz
  have hD := hD0.self (sz := s.heap.size)
  generalize hAe : va_A (wX6_search cyI cyJ cyZ h h_garden h_garden_courtA h_garden_courtB h_garden_kind h_garden_gone h_garden_court h_leaving h_shutBehind h_queue h_reached ho ho_courtA ho_courtB ho_kind ho_gone ho_court i_fewest i_first i_openFromA i_goalKind i_goal i_queued i_garden_gates i_garden_persons i_garden_fines a_garden_courtA a_garden_courtB a_garden_kind a_garden_gone a_garden_court a_leaving a_shutBehind a_queue a_reached io_gates io_persons io_fines ao_courtA ao_courtB ao_kind ao_gone ao_court) s.heap.size = A at hD ⊢
  have hA : ∀ q : Nat, s.heap.size ≤ q → A q := fun q h => by rw [← hAe]; exact Or.inr h
  have hW : Wd (dC, dI) A s.heap (wX6_search cyI cyJ cyZ h h_garden h_garden_courtA h_garden_courtB h_garden_kind h_garden_gone h_garden_court h_leaving h_shutBehind h_queue h_reached ho ho_courtA ho_courtB ho_kind ho_gone ho_court i_fewest i_first i_openFromA i_goalKind i_goal i_queued i_garden_gates i_garden_persons i_garden_fines a_garden_courtA a_garden_courtB a_garden_kind a_garden_gone a_garden_court a_leaving a_shutBehind a_queue a_reached io_gates io_persons io_fines ao_courtA ao_courtB ao_kind ao_gone ao_court) s.heap [] := ⟨hP, hD, va_S.rf⟩
  have hw := hwp
  have hiX6 : ∀ w ∈ u_ws RX6 TX6 11, w ∈ wsX6_search := fun _ h => List.mem_cons_of_mem _ (List.mem_append_left _ (List.mem_append_right _ h))
  have k_0 := hts (.fieldLink RX6 21 "OddLetsIn$Walk" "garden" "LOddLetsIn$Garden;") (List.mem_of_getElem? (i := 1) rfl)
  have k_1 := hts (.fieldLink RX6 28 "OddLetsIn$Walk" "goalKind" "I") (List.mem_of_getElem? (i := 2) rfl)
  have k_2 := hts (.fieldLink RX6 31 "OddLetsIn$Walk" "goal" "I") (List.mem_of_getElem? (i := 3) rfl)
  have k_3 := hts (.fieldLink RX6 11 "OddLetsIn$Walk" "fewest" "I") (List.mem_of_getElem? (i := 4) rfl)
  have k_4 := hts (.fieldLink RX6 15 "OddLetsIn$Walk" "first" "I") (List.mem_of_getElem? (i := 5) rfl)
  have k_5 := hts (.fieldLink RX6 47 "OddLetsIn$Walk" "reached" "[J") (List.mem_of_getElem? (i := 6) rfl)
  have k_6 := hts (.fieldLink RX6 44 "OddLetsIn$Walk" "queued" "I") (List.mem_of_getElem? (i := 7) rfl)
  have hl := lv_entry ([.ref h, .ref ho, .int x2, .int x3]) (n := 4) (Nat.le_of_ble_eq_true rfl)
  rw [lg_entry_eq]
  generalize (lg_sl ([.ref h, .ref ho, .int x2, .int x3]) ++ List.replicate (4 - (lg_sl ([.ref h, .ref ho, .int x2, .int x3])).length) Slot.unset).toArray = ls at hl ⊢
  have hl : lv_has ls 4 [(0, .ref h), (1, .ref ho), (2, .int x2), (3, .int x3)] := hl
  refine lv_aload_n hx hb dX6_search_0 rfl (lv_at hl 0 rfl) ?_
  refine zw_get (ci := 6) (C := RX6) (T := TX6) (N := 11) (v := .ref h_garden) hx hb hts hiX6 hown hK hW 0 rfl rfl 2 (by decide) rfl k_0 dX6_search_1 ?_
  refine lv_aload_n hx hb dX6_search_4 rfl (lv_at hl 1 rfl) ?_
  refine zw_Vv ⟨hx, hb, hml, hown, hts⟩ hK hN hA hW 1 rfl (T := TX2) (N := 8) rfl [.ref ho] [] [1, 2, 3, 4, 5, 6, 11, 12, 13, 14, 15, 16] [0, 7, 8, 9, 10] [0, 5, 6, 7, 8, 9, 10, 1, 2, 3, 4, 11, 12, 13, 14, 15, 16] (fun u => (wX6_search cyI cyJ cyZ h h_garden h_garden_courtA h_garden_courtB h_garden_kind h_garden_gone h_garden_court h_leaving h_shutBehind h_queue h_reached ho ho_courtA ho_courtB ho_kind ho_gone ho_court i_fewest i_first i_openFromA i_goalKind i_goal i_queued (u.1) (u.2.1) (u.2.2.1) (u.2.2.2.1) (u.2.2.2.2.1) (u.2.2.2.2.2.1) (u.2.2.2.2.2.2.1) (u.2.2.2.2.2.2.2) a_leaving a_shutBehind a_queue a_reached io_gates io_persons io_fines ao_courtA ao_courtB ao_kind ao_gone ao_court)) (mX2_copyFrom l dC dI cyI cyJ cyZ h_garden h_garden_courtA h_garden_courtB h_garden_kind h_garden_gone h_garden_court ho ho_courtA ho_courtB ho_kind ho_gone ho_court _ i_garden_gates i_garden_persons i_garden_fines a_garden_courtA a_garden_courtB a_garden_kind a_garden_gone a_garden_court io_gates io_persons io_fines ao_courtA ao_courtB ao_kind ao_gone ao_court _ hw) (cwV 1 hts gX6_search_X2_copyFrom rfl rfl rfl (by decide +kernel) ⟨Nat.le_of_ble_eq_true rfl, Nat.le_of_ble_eq_true rfl⟩) rfl rfl rfl rfl (by decide) rfl (fun _ => rfl) rfl hl.1 rfl (Nat.le_of_ble_eq_true rfl) (Nat.le_of_ble_eq_true rfl) (Nat.le_of_ble_eq_true rfl) dX6_search_5 (fun u H locs hw hW => ?_)
  obtain ⟨i_garden_gates_1, i_garden_persons_2, i_garden_fines_3, a_garden_courtA_4, a_garden_courtB_5, a_garden_kind_6, a_garden_gone_7, a_garden_court_8⟩ := u
  try dsimp only at hw
  replace hW : Wd (dC, dI) A s.heap (wX6_search cyI cyJ cyZ h h_garden h_garden_courtA h_garden_courtB h_garden_kind h_garden_gone h_garden_court h_leaving h_shutBehind h_queue h_reached ho ho_courtA ho_courtB ho_kind ho_gone ho_court i_fewest i_first i_openFromA i_goalKind i_goal i_queued i_garden_gates_1 i_garden_persons_2 i_garden_fines_3 a_garden_courtA_4 a_garden_courtB_5 a_garden_kind_6 a_garden_gone_7 a_garden_court_8 a_leaving a_shutBehind a_queue a_reached io_gates io_persons io_fines ao_courtA ao_courtB ao_kind ao_gone ao_court) H locs := hW
  refine lv_aload_n hx hb dX6_search_8 rfl (lv_at hl 0 rfl) ?_
  refine lv_iload_n hx hb dX6_search_9 rfl (lv_at hl 2 rfl) ?_
  refine zw_put (ci := 6) (C := RX6) (T := TX6) (N := 11) (w2 := (wX6_search cyI cyJ cyZ h h_garden h_garden_courtA h_garden_courtB h_garden_kind h_garden_gone h_garden_court h_leaving h_shutBehind h_queue h_reached ho ho_courtA ho_courtB ho_kind ho_gone ho_court i_fewest i_first i_openFromA x2 i_goal i_queued i_garden_gates_1 i_garden_persons_2 i_garden_fines_3 a_garden_courtA_4 a_garden_courtB_5 a_garden_kind_6 a_garden_gone_7 a_garden_court_8 a_leaving a_shutBehind a_queue a_reached io_gates io_persons io_fines ao_courtA ao_courtB ao_kind ao_gone ao_court)) hx hb hts hiX6 tyX6 tyX6_ok nmX6 hown hK hW 0 rfl rfl 4 (by decide) (by decide +kernel) rfl (Nat.le_of_ble_eq_true rfl) rfl k_1 dX6_search_10 (fun H locs hW => ?_)
  refine lv_aload_n hx hb dX6_search_13 rfl (lv_at hl 0 rfl) ?_
  refine lv_iload_n hx hb dX6_search_14 rfl (lv_at hl 3 rfl) ?_
  refine zw_put (ci := 6) (C := RX6) (T := TX6) (N := 11) (w2 := (wX6_search cyI cyJ cyZ h h_garden h_garden_courtA h_garden_courtB h_garden_kind h_garden_gone h_garden_court h_leaving h_shutBehind h_queue h_reached ho ho_courtA ho_courtB ho_kind ho_gone ho_court i_fewest i_first i_openFromA x2 x3 i_queued i_garden_gates_1 i_garden_persons_2 i_garden_fines_3 a_garden_courtA_4 a_garden_courtB_5 a_garden_kind_6 a_garden_gone_7 a_garden_court_8 a_leaving a_shutBehind a_queue a_reached io_gates io_persons io_fines ao_courtA ao_courtB ao_kind ao_gone ao_court)) hx hb hts hiX6 tyX6 tyX6_ok nmX6 hown hK hW 0 rfl rfl 5 (by decide) (by decide +kernel) rfl (Nat.le_of_ble_eq_true rfl) rfl k_2 dX6_search_15 (fun H locs hW => ?_)
  refine lv_aload_n hx hb dX6_search_18 rfl (lv_at hl 0 rfl) ?_
  refine lv_bipush (v := (-4)) hx hb dX6_search_19 (by decide) ?_
  refine zw_put (ci := 6) (C := RX6) (T := TX6) (N := 11) (w2 := (wX6_search cyI cyJ cyZ h h_garden h_garden_courtA h_garden_courtB h_garden_kind h_garden_gone h_garden_court h_leaving h_shutBehind h_queue h_reached ho ho_courtA ho_courtB ho_kind ho_gone ho_court (-4) i_first i_openFromA x2 x3 i_queued i_garden_gates_1 i_garden_persons_2 i_garden_fines_3 a_garden_courtA_4 a_garden_courtB_5 a_garden_kind_6 a_garden_gone_7 a_garden_court_8 a_leaving a_shutBehind a_queue a_reached io_gates io_persons io_fines ao_courtA ao_courtB ao_kind ao_gone ao_court)) hx hb hts hiX6 tyX6 tyX6_ok nmX6 hown hK hW 0 rfl rfl 0 (by decide) (by decide +kernel) rfl (Nat.le_of_ble_eq_true rfl) rfl k_3 dX6_search_21 (fun H locs hW => ?_)
  refine lv_aload_n hx hb dX6_search_24 rfl (lv_at hl 0 rfl) ?_
  refine lv_bipush (v := (-4)) hx hb dX6_search_25 (by decide) ?_
  refine zw_put (ci := 6) (C := RX6) (T := TX6) (N := 11) (w2 := (wX6_search cyI cyJ cyZ h h_garden h_garden_courtA h_garden_courtB h_garden_kind h_garden_gone h_garden_court h_leaving h_shutBehind h_queue h_reached ho ho_courtA ho_courtB ho_kind ho_gone ho_court (-4) (-4) i_openFromA x2 x3 i_queued i_garden_gates_1 i_garden_persons_2 i_garden_fines_3 a_garden_courtA_4 a_garden_courtB_5 a_garden_kind_6 a_garden_gone_7 a_garden_court_8 a_leaving a_shutBehind a_queue a_reached io_gates io_persons io_fines ao_courtA ao_courtB ao_kind ao_gone ao_court)) hx hb hts hiX6 tyX6 tyX6_ok nmX6 hown hK hW 0 rfl rfl 1 (by decide) (by decide +kernel) rfl (Nat.le_of_ble_eq_true rfl) rfl k_4 dX6_search_27 (fun H locs hW => ?_)
  refine lv_aload_n hx hb dX6_search_30 rfl (lv_at hl 0 rfl) ?_
  refine zw_Vv ⟨hx, hb, hml, hown, hts⟩ hK hN hA hW 0 rfl (T := TX6) (N := 11) rfl [] [] [0, 1, 2, 3, 4, 5, 7, 8] [6, 9, 10, 11, 12, 13, 14, 15, 16] [9, 10, 11, 12, 13, 14, 0, 15, 16, 1, 2, 3, 4, 5, 6, 7, 8] (fun u => (wX6_search cyI cyJ cyZ h h_garden h_garden_courtA h_garden_courtB h_garden_kind h_garden_gone h_garden_court h_leaving h_shutBehind h_queue h_reached ho ho_courtA ho_courtB ho_kind ho_gone ho_court (-4) (-4) (u.1) x2 x3 i_queued i_garden_gates_1 i_garden_persons_2 i_garden_fines_3 a_garden_courtA_4 a_garden_courtB_5 a_garden_kind_6 a_garden_gone_7 a_garden_court_8 (u.2.1) (u.2.2) a_queue a_reached io_gates io_persons io_fines ao_courtA ao_courtB ao_kind ao_gone ao_court)) (mX6_prepareGates l dC dI cyI cyJ cyZ h h_garden h_garden_courtA h_garden_courtB h_garden_kind h_garden_gone h_garden_court h_leaving h_shutBehind h_queue h_reached _ (-4) (-4) i_openFromA x2 x3 i_queued i_garden_gates_1 i_garden_persons_2 i_garden_fines_3 a_garden_courtA_4 a_garden_courtB_5 a_garden_kind_6 a_garden_gone_7 a_leaving a_shutBehind _ hw) (cwV 0 hts gX6_search_X6_prepareGates rfl rfl rfl (by decide +kernel) ⟨Nat.le_of_ble_eq_true rfl, Nat.le_of_ble_eq_true rfl⟩) rfl rfl rfl rfl (by decide) rfl (fun _ => rfl) rfl hl.1 rfl (Nat.le_of_ble_eq_true rfl) (Nat.le_of_ble_eq_true rfl) (Nat.le_of_ble_eq_true rfl) dX6_search_31 (fun u H locs hw hW => ?_)
  obtain ⟨i_openFromA_9, a_leaving_10, a_shutBehind_11⟩ := u
  try dsimp only at hw
  replace hW : Wd (dC, dI) A s.heap (wX6_search cyI cyJ cyZ h h_garden h_garden_courtA h_garden_courtB h_garden_kind h_garden_gone h_garden_court h_leaving h_shutBehind h_queue h_reached ho ho_courtA ho_courtB ho_kind ho_gone ho_court (-4) (-4) i_openFromA_9 x2 x3 i_queued i_garden_gates_1 i_garden_persons_2 i_garden_fines_3 a_garden_courtA_4 a_garden_courtB_5 a_garden_kind_6 a_garden_gone_7 a_garden_court_8 a_leaving_10 a_shutBehind_11 a_queue a_reached io_gates io_persons io_fines ao_courtA ao_courtB ao_kind ao_gone ao_court) H locs := hW
  refine lv_aload_n hx hb dX6_search_34 rfl (lv_at hl 0 rfl) ?_
  refine zw_get (ci := 6) (C := RX6) (T := TX6) (N := 11) (v := .ref h_reached) hx hb hts hiX6 hown hK hW 0 rfl rfl 10 (by decide) rfl k_5 dX6_search_35 ?_
  refine lv_lconst (v := 0) hx hb dX6_search_38 (by decide) ?_
  refine zw_Sv ⟨hx, hb, hml, hown, hts⟩ hK hN hA hW [.ref h_reached, .long 0] [] [10] [0, 1, 2, 3, 4, 5, 6, 7, 8, 9, 11, 12, 13, 14, 15, 16] [0, 1, 2, 3, 4, 5, 6, 7, 8, 9, 16, 10, 11, 12, 13, 14, 15] (fun u => (wX6_search cyI cyJ cyZ h h_garden h_garden_courtA h_garden_courtB h_garden_kind h_garden_gone h_garden_court h_leaving h_shutBehind h_queue h_reached ho ho_courtA ho_courtB ho_kind ho_gone ho_court (-4) (-4) i_openFromA_9 x2 x3 i_queued i_garden_gates_1 i_garden_persons_2 i_garden_fines_3 a_garden_courtA_4 a_garden_courtB_5 a_garden_kind_6 a_garden_gone_7 a_garden_court_8 a_leaving_10 a_shutBehind_11 a_queue u io_gates io_persons io_fines ao_courtA ao_courtB ao_kind ao_gone ao_court)) (mJ7_fill_d0a16 l dC dI cyI cyJ cyZ h_reached 256 _ a_reached 0 _ hw) (va_cwS 2 hts gX6_search_J7_fill_d0a16 rfl rfl rfl (by decide +kernel) ⟨Nat.le_of_ble_eq_true rfl, Nat.le_of_ble_eq_true rfl⟩) rfl rfl rfl rfl (by decide) rfl (fun _ => rfl) rfl hl.1 rfl (Nat.le_of_ble_eq_true rfl) (Nat.le_of_ble_eq_true rfl) (Nat.le_of_ble_eq_true rfl) dX6_search_39 (fun u H locs hw hW => ?_)
  obtain ⟨a_reached_12, rfl⟩ : ∃ z, z = u := ⟨_, rfl⟩
  replace hW : Wd (dC, dI) A s.heap (wX6_search cyI cyJ cyZ h h_garden h_garden_courtA h_garden_courtB h_garden_kind h_garden_gone h_garden_court h_leaving h_shutBehind h_queue h_reached ho ho_courtA ho_courtB ho_kind ho_gone ho_court (-4) (-4) i_openFromA_9 x2 x3 i_queued i_garden_gates_1 i_garden_persons_2 i_garden_fines_3 a_garden_courtA_4 a_garden_courtB_5 a_garden_kind_6 a_garden_gone_7 a_garden_court_8 a_leaving_10 a_shutBehind_11 a_queue a_reached_12 io_gates io_persons io_fines ao_courtA ao_courtB ao_kind ao_gone ao_court) H locs := hW
  refine lv_aload_n hx hb dX6_search_42 rfl (lv_at hl 0 rfl) ?_
  refine lv_iconst (v := 0) hx hb dX6_search_43 (by decide) ?_
  refine zw_put (ci := 6) (C := RX6) (T := TX6) (N := 11) (w2 := (wX6_search cyI cyJ cyZ h h_garden h_garden_courtA h_garden_courtB h_garden_kind h_garden_gone h_garden_court h_leaving h_shutBehind h_queue h_reached ho ho_courtA ho_courtB ho_kind ho_gone ho_court (-4) (-4) i_openFromA_9 x2 x3 0 i_garden_gates_1 i_garden_persons_2 i_garden_fines_3 a_garden_courtA_4 a_garden_courtB_5 a_garden_kind_6 a_garden_gone_7 a_garden_court_8 a_leaving_10 a_shutBehind_11 a_queue a_reached_12 io_gates io_persons io_fines ao_courtA ao_courtB ao_kind ao_gone ao_court)) hx hb hts hiX6 tyX6 tyX6_ok nmX6 hown hK hW 0 rfl rfl 9 (by decide) (by decide +kernel) rfl (Nat.le_of_ble_eq_true rfl) rfl k_6 dX6_search_44 (fun H locs hW => ?_)
  refine lv_aload_n hx hb dX6_search_47 rfl (lv_at hl 0 rfl) ?_
  refine lv_aload_n hx hb dX6_search_48 rfl (lv_at hl 0 rfl) ?_
  refine zw_Vi ⟨hx, hb, hml, hown, hts⟩ hK hN hA hW 0 rfl (T := TX6) (N := 11) rfl [] [.ref h] [0, 1, 6] [2, 3, 4, 5, 7, 8, 9, 10, 11, 12, 13, 14, 15, 16] [14, 15, 0, 1, 2, 3, 16, 4, 5, 6, 7, 8, 9, 10, 11, 12, 13] (fun _ => (wX6_search cyI cyJ cyZ h h_garden h_garden_courtA h_garden_courtB h_garden_kind h_garden_gone h_garden_court h_leaving h_shutBehind h_queue h_reached ho ho_courtA ho_courtB ho_kind ho_gone ho_court (-4) (-4) i_openFromA_9 x2 x3 0 i_garden_gates_1 i_garden_persons_2 i_garden_fines_3 a_garden_courtA_4 a_garden_courtB_5 a_garden_kind_6 a_garden_gone_7 a_garden_court_8 a_leaving_10 a_shutBehind_11 a_queue a_reached_12 io_gates io_persons io_fines ao_courtA ao_courtB ao_kind ao_gone ao_court)) (mX6_startState l dC dI cyI cyJ cyZ h h_garden h_garden_courtA h_garden_courtB h_garden_kind h_garden_gone h_garden_court h_leaving h_shutBehind h_queue h_reached _ (-4) (-4) i_openFromA_9 x2 x3 0 i_garden_gates_1 i_garden_persons_2 i_garden_fines_3 a_garden_court_8 _ hw) (cwV 0 hts gX6_search_X6_startState rfl rfl rfl (by decide +kernel) ⟨Nat.le_of_ble_eq_true rfl, Nat.le_of_ble_eq_true rfl⟩) rfl rfl rfl rfl (by decide) rfl (fun _ => rfl) rfl hl.1 rfl (Nat.le_of_ble_eq_true rfl) (Nat.le_of_ble_eq_true rfl) (Nat.le_of_ble_eq_true rfl) dX6_search_49 (fun r_13 u H locs hw hW => ?_)
  refine lv_iconst (v := 0) hx hb dX6_search_52 (by decide) ?_
  refine zw_Vv ⟨hx, hb, hml, hown, hts⟩ hK hN hA hW 0 rfl (T := TX6) (N := 11) rfl [.int r_13, .int 0] [] [0, 9, 10] [1, 2, 3, 4, 5, 6, 7, 8, 11, 12, 13, 14, 15, 16] [14, 0, 1, 2, 3, 4, 5, 6, 7, 15, 16, 8, 9, 10, 11, 12, 13] (fun u => (wX6_search cyI cyJ cyZ h h_garden h_garden_courtA h_garden_courtB h_garden_kind h_garden_gone h_garden_court h_leaving h_shutBehind h_queue h_reached ho ho_courtA ho_courtB ho_kind ho_gone ho_court (-4) (-4) i_openFromA_9 x2 x3 (u.1) i_garden_gates_1 i_garden_persons_2 i_garden_fines_3 a_garden_courtA_4 a_garden_courtB_5 a_garden_kind_6 a_garden_gone_7 a_garden_court_8 a_leaving_10 a_shutBehind_11 (u.2.1) (u.2.2) io_gates io_persons io_fines ao_courtA ao_courtB ao_kind ao_gone ao_court)) (mX6_enqueue l dC dI cyI cyJ cyZ h h_garden h_leaving h_shutBehind h_queue h_reached _ (-4) (-4) i_openFromA_9 x2 x3 0 a_queue a_reached_12 r_13 0 _ hw) (cwV 2 hts gX6_search_X6_enqueue rfl rfl rfl (by decide +kernel) ⟨Nat.le_of_ble_eq_true rfl, Nat.le_of_ble_eq_true rfl⟩) rfl rfl rfl rfl (by decide) rfl (fun _ => rfl) rfl hl.1 rfl (Nat.le_of_ble_eq_true rfl) (Nat.le_of_ble_eq_true rfl) (Nat.le_of_ble_eq_true rfl) dX6_search_53 (fun u H locs hw hW => ?_)
  obtain ⟨i_queued_14, a_queue_15, a_reached_16⟩ := u
  try dsimp only at hw
  replace hW : Wd (dC, dI) A s.heap (wX6_search cyI cyJ cyZ h h_garden h_garden_courtA h_garden_courtB h_garden_kind h_garden_gone h_garden_court h_leaving h_shutBehind h_queue h_reached ho ho_courtA ho_courtB ho_kind ho_gone ho_court (-4) (-4) i_openFromA_9 x2 x3 i_queued_14 i_garden_gates_1 i_garden_persons_2 i_garden_fines_3 a_garden_courtA_4 a_garden_courtB_5 a_garden_kind_6 a_garden_gone_7 a_garden_court_8 a_leaving_10 a_shutBehind_11 a_queue_15 a_reached_16 io_gates io_persons io_fines ao_courtA ao_courtB ao_kind ao_gone ao_court) H locs := hW
  refine lv_aload_n hx hb dX6_search_56 rfl (lv_at hl 0 rfl) ?_
  refine zw_Vv ⟨hx, hb, hml, hown, hts⟩ hK hN hA hW 0 rfl (T := TX6) (N := 11) rfl [] [] [0, 1, 2, 3, 7, 8, 9, 10] [4, 5, 6, 11, 12, 13, 14, 15, 16] [9, 10, 11, 12, 0, 1, 2, 13, 14, 15, 16, 3, 4, 5, 6, 7, 8] (fun u => (wX6_search cyI cyJ cyZ h h_garden h_garden_courtA h_garden_courtB h_garden_kind h_garden_gone h_garden_court h_leaving h_shutBehind h_queue h_reached ho ho_courtA ho_courtB ho_kind ho_gone ho_court (u.1) (u.2.1) i_openFromA_9 x2 x3 (u.2.2.1) i_garden_gates_1 i_garden_persons_2 i_garden_fines_3 a_garden_courtA_4 a_garden_courtB_5 a_garden_kind_6 a_garden_gone_7 a_garden_court_8 a_leaving_10 a_shutBehind_11 (u.2.2.2.1) (u.2.2.2.2) io_gates io_persons io_fines ao_courtA ao_courtB ao_kind ao_gone ao_court)) (mX6_spread l dC dI cyI cyJ cyZ h h_garden h_garden_courtA h_garden_courtB h_garden_kind h_garden_gone h_garden_court h_leaving h_shutBehind h_queue h_reached _ (-4) (-4) i_openFromA_9 x2 x3 i_queued_14 i_garden_gates_1 i_garden_persons_2 i_garden_fines_3 a_garden_courtA_4 a_garden_courtB_5 a_leaving_10 a_shutBehind_11 a_queue_15 a_reached_16 _ hw) (cwV 0 hts gX6_search_X6_spread rfl rfl rfl (by decide +kernel) ⟨Nat.le_of_ble_eq_true rfl, Nat.le_of_ble_eq_true rfl⟩) rfl rfl rfl rfl (by decide) rfl (fun _ => rfl) rfl hl.1 rfl (Nat.le_of_ble_eq_true rfl) (Nat.le_of_ble_eq_true rfl) (Nat.le_of_ble_eq_true rfl) dX6_search_57 (fun u H locs hw hW => ?_)
  obtain ⟨i_fewest_17, i_first_18, i_queued_19, a_queue_20, a_reached_21⟩ := u
  try dsimp only at hw
  replace hW : Wd (dC, dI) A s.heap (wX6_search cyI cyJ cyZ h h_garden h_garden_courtA h_garden_courtB h_garden_kind h_garden_gone h_garden_court h_leaving h_shutBehind h_queue h_reached ho ho_courtA ho_courtB ho_kind ho_gone ho_court i_fewest_17 i_first_18 i_openFromA_9 x2 x3 i_queued_19 i_garden_gates_1 i_garden_persons_2 i_garden_fines_3 a_garden_courtA_4 a_garden_courtB_5 a_garden_kind_6 a_garden_gone_7 a_garden_court_8 a_leaving_10 a_shutBehind_11 a_queue_20 a_reached_21 io_gates io_persons io_fines ao_courtA ao_courtB ao_kind ao_gone ao_court) H locs := hW
  refine zw_vret (S := Int32 × Int32 × Int32 × Int32 × Int32 × Int32 × Int32 × Int32 × Int32 × (Nat → Int32) × (Nat → Int32) × (Nat → Int32) × (Nat → Int32) × (Nat → Int32) × (Nat → Int32) × (Nat → Int32) × (Nat → Int32) × (Nat → Int64)) (post := fun u => post u.1 u.2.1 u.2.2.1 u.2.2.2.1 u.2.2.2.2.1 u.2.2.2.2.2.1 u.2.2.2.2.2.2.1 u.2.2.2.2.2.2.2.1 u.2.2.2.2.2.2.2.2.1 u.2.2.2.2.2.2.2.2.2.1 u.2.2.2.2.2.2.2.2.2.2.1 u.2.2.2.2.2.2.2.2.2.2.2.1 u.2.2.2.2.2.2.2.2.2.2.2.2.1 u.2.2.2.2.2.2.2.2.2.2.2.2.2.1 u.2.2.2.2.2.2.2.2.2.2.2.2.2.2.1 u.2.2.2.2.2.2.2.2.2.2.2.2.2.2.2.1 u.2.2.2.2.2.2.2.2.2.2.2.2.2.2.2.2.1 u.2.2.2.2.2.2.2.2.2.2.2.2.2.2.2.2.2) (i_fewest_17, i_first_18, i_openFromA_9, x2, x3, i_queued_19, i_garden_gates_1, i_garden_persons_2, i_garden_fines_3, a_garden_courtA_4, a_garden_courtB_5, a_garden_kind_6, a_garden_gone_7, a_garden_court_8, a_leaving_10, a_shutBehind_11, a_queue_20, a_reached_21) hx hb hr hlocks hK hW hw ?_ dX6_search_60
  rfl
