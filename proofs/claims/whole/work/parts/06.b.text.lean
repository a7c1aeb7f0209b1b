set_option maxHeartbeats 4000000 in
set_option maxRecDepth 100000 in
theorem mX5_init (l : Launch) (dC : Nat → ClassId) (dI : Nat → Nat → Nat) (cyI cyJ cyZ : ClassId) (h sz : Nat) : Met l yX5_init wsX5_init ({ frames := 1, cells := 1, slots := 200, locals := 20 } : Room) (va_Pc [.ref h] (pcW (dC, dI) sz [(h, .inr (5, [.null, .int 0, .int 0]))] (tyG cyI cyJ cyZ))) (va_Qv (fun _ : Nat => True) (bW (dC, dI) (tyG cyI cyJ cyZ) (va_A [(h, .inr (5, [.null, .int 0, .int 0]))] sz) (fun u : Nat => ([(h, .inr (5, [.ref u, .int 0, .int 0])), (u, .inl (cyI, 200, .inl (fun _ => 0)))] : va_W))) (va_A [(h, .inr (5, [.null, .int 0, .int 0]))] sz)) 1 200 (va_A [(h, .inr (5, [.null, .int 0, .int 0]))] sz) := by
  refine Met.ofW (cc := cX5_init) (maxL := 1) (ret := none) (by decide) rfl ?_
  intro p e s m args below meth c s₁ B hml hv
  obtain ⟨rfl, hsz, hP, hK, hD0, hN⟩ := hv
  have hx := B.exec
  have hb := B.bytes
  have hr := B.returns
  have hts := atoms_spec (ws := wsX5_init) B.pre
  have hown : s.vm.findClass RX5 = some m.cls := findClass_of_methodNamed B.named
  have hlocks := B.notSynchronized
  have hin : meth.name = "<init>" := (name_of_methodNamed B.named B.method).1
  subst hsz
  have hD := hD0.self (sz := s.heap.size)
  generalize hAe : va_A [(h, .inr (5, [.null, .int 0, .int 0]))] s.heap.size = A at hD ⊢
  have hA : ∀ q : Nat, s.heap.size ≤ q → A q := fun q h => by rw [← hAe]; exact Or.inr h
  have hW : Wd (dC, dI) A s.heap ([(h, .inr (5, [.null, .int 0, .int 0]))] : va_W) s.heap [] := ⟨hP, hD, va_S.rf⟩
  have hw := trivial
  have hiX5 : ∀ w ∈ u_ws RX5 TX5 3, w ∈ wsX5_init := fun _ h => List.mem_cons_of_mem _ (List.mem_append_right _ h)
  have k_0 := hts (.methodLink RX5 3 objectInit) (List.mem_of_getElem? (i := 1) rfl)
  have k_1 := hts (.instanceMethod objectInit) (List.mem_of_getElem? (i := 2) rfl)
  have k_2 := hts (.code objectInit ⟨#[0xb1]⟩ 1 none) (List.mem_of_getElem? (i := 3) rfl)
  have k_3 := hts (.arrayClass .int) (List.mem_of_getElem? (i := 4) rfl)
  have k_4 := hts (.fieldLink RX5 11 "OddLetsIn$Text" "signs" "[I") (List.mem_of_getElem? (i := 5) rfl)
  have k_5 := hts (.fieldLink RX5 15 "OddLetsIn$Text" "length" "I") (List.mem_of_getElem? (i := 6) rfl)
  have k_6 := hts (.fieldLink RX5 19 "OddLetsIn$Text" "at" "I") (List.mem_of_getElem? (i := 7) rfl)
  have hl := lv_entry ([.ref h]) (n := 1) (Nat.le_of_ble_eq_true rfl)
  rw [lg_entry_eq]
  generalize (lg_sl ([.ref h]) ++ List.replicate (1 - (lg_sl ([.ref h])).length) Slot.unset).toArray = ls at hl ⊢
  have hl : lv_has ls 1 [(0, .ref h)] := hl
  refine lv_aload_n hx hb dX5_init_0 rfl (lv_at hl 0 rfl) ?_
  refine W.objInit hx hb hown k_0 k_1 k_2 rfl (by rw [hml]; exact hl.1) rfl dX5_init_1 (Nat.le_of_ble_eq_true rfl) (Nat.le_of_ble_eq_true rfl) ?_
  refine W.eq (g2 := F0 m 4 ls []) rfl ?_
  refine lv_aload_n hx hb dX5_init_4 rfl (lv_at hl 0 rfl) ?_
  refine lv_sipush (v := 200) hx hb dX5_init_5 (by decide) ?_
  refine zw_newi hx hb k_3 hK hA hW 200 (by decide) (by decide) (Nat.le_of_ble_eq_true rfl) (Nat.le_of_ble_eq_true rfl) (Nat.le_of_ble_eq_true rfl) dX5_init_8 (fun h_signs H hW => ?_)
  replace hW : Wd (dC, dI) A s.heap ([(h, .inr (5, [.null, .int 0, .int 0])), (h_signs, .inl (cyI, 200, .inl (fun _ => 0)))] : va_W) H _ := hW
  refine zw_putF (ci := 5) (C := RX5) (T := TX5) (N := 3) (ty := .array .int) (w2 := [(h, .inr (5, [.ref h_signs, .int 0, .int 0])), (h_signs, .inl (cyI, 200, .inl (fun _ => 0)))]) hx hb hts hiX5 tyX5 tyX5_ok nmX5 hown hK hW 0 rfl rfl 0 (by decide) (by decide +kernel) rfl rfl rfl hin rfl (Nat.le_of_ble_eq_true rfl) rfl k_4 dX5_init_10 (fun H locs hW => ?_)
  refine lv_aload_n hx hb dX5_init_13 rfl (lv_at hl 0 rfl) ?_
  refine lv_iconst (v := 0) hx hb dX5_init_14 (by decide) ?_
  refine zw_put (ci := 5) (C := RX5) (T := TX5) (N := 3) (w2 := [(h, .inr (5, [.ref h_signs, .int 0, .int 0])), (h_signs, .inl (cyI, 200, .inl (fun _ => 0)))]) hx hb hts hiX5 tyX5 tyX5_ok nmX5 hown hK hW 0 rfl rfl 1 (by decide) (by decide +kernel) rfl (Nat.le_of_ble_eq_true rfl) rfl k_5 dX5_init_15 (fun H locs hW => ?_)
  refine lv_aload_n hx hb dX5_init_18 rfl (lv_at hl 0 rfl) ?_
  refine lv_iconst (v := 0) hx hb dX5_init_19 (by decide) ?_
  refine zw_put (ci := 5) (C := RX5) (T := TX5) (N := 3) (w2 := [(h, .inr (5, [.ref h_signs, .int 0, .int 0])), (h_signs, .inl (cyI, 200, .inl (fun _ => 0)))]) hx hb hts hiX5 tyX5 tyX5_ok nmX5 hown hK hW 0 rfl rfl 2 (by decide) (by decide +kernel) rfl (Nat.le_of_ble_eq_true rfl) rfl k_6 dX5_init_20 (fun H locs hW => ?_)
  replace hW : Wd (dC, dI) A s.heap ([(h, .inr (5, [.ref h_signs, .int 0, .int 0])), (h_signs, .inl (cyI, 200, .inl (fun _ => 0)))] : va_W) H _ := zw_perm hW [0, 1] rfl rfl
  refine zw_vret (S := Nat) (post := fun _ => True) h_signs hx hb hr hlocks hK hW hw ?_ dX5_init_23
  rfl
abbrev wX5_hasRoom (cyI cyJ cyZ : ClassId) (h h_signs : Nat) (i_length : Int32) (i_at : Int32) : va_W := [(h, .inr (5, [.ref h_signs, .int i_length, .int i_at]))]
abbrev qX5_hasRoom (dC : Nat → ClassId) (dI : Nat → Nat → Nat) (cyI cyJ cyZ : ClassId) (h h_signs : Nat) (i_length : Int32) (i_at : Int32) (post : Int32 → Prop) (A : Nat → Prop) : Array Value → State → Outcome → State → Prop := (va_Qi (fun (r : Int32) (u : Unit) => (r = 0 ∨ r = 1) ∧ post r) (bW (dC, dI) (tyG cyI cyJ cyZ) A (fun _ : Unit => (wX5_hasRoom cyI cyJ cyZ h h_signs i_length i_at))) A)
set_option maxHeartbeats 4000000 in
set_option maxRecDepth 100000 in
theorem mX5_hasRoom (l : Launch) (dC : Nat → ClassId) (dI : Nat → Nat → Nat) (cyI cyJ cyZ : ClassId) (h h_signs : Nat) (sz : Nat) (i_length : Int32) (i_at : Int32) (x1 : Int32) (post : Int32 → Prop) (hwp : PX5_hasRoom x1 i_length post) : Met l yX5_hasRoom wsX5_hasRoom ({ frames := 0, cells := 0, slots := 0, locals := 0 } : Room) (va_Pc [.ref h, .int x1] (pcW (dC, dI) sz (wX5_hasRoom cyI cyJ cyZ h h_signs i_length i_at) (tyG cyI cyJ cyZ))) (qX5_hasRoom dC dI cyI cyJ cyZ h h_signs i_length i_at post (va_A (wX5_hasRoom cyI cyJ cyZ h h_signs i_length i_at) sz)) 0 0 (va_A (wX5_hasRoom cyI cyJ cyZ h h_signs i_length i_at) sz) := by
  refine Met.ofW (cc := cX5_hasRoom) (maxL := 2) (ret := some .boolean) (by decide) rfl ?_
  intro p e s m args below meth c s₁ B hml hv
  obtain ⟨rfl, hsz, hP, hK, hD0, hN⟩ := hv
  have hx := B.exec
  have hb := B.bytes
  have hr := B.returns
  have hts := atoms_spec (ws := wsX5_hasRoom) B.pre
  have hown : s.vm.findClass RX5 = some m.cls := findClass_of_methodNamed B.named
  have hlocks := B.notSynchronized
  subst hsz
  have hD := hD0.self (sz := s.heap.size)
  generalize hAe : va_A (wX5_hasRoom cyI cyJ cyZ h h_signs i_length i_at) s.heap.size = A at hD ⊢
  have hA : ∀ q : Nat, s.heap.size ≤ q → A q := fun q h => by rw [← hAe]; exact Or.inr h
  have hW : Wd (dC, dI) A s.heap (wX5_hasRoom cyI cyJ cyZ h h_signs i_length i_at) s.heap [] := ⟨hP, hD, va_S.rf⟩
  have hw := hwp
  have hiX5 : ∀ w ∈ u_ws RX5 TX5 3, w ∈ wsX5_hasRoom := fun _ h => List.mem_cons_of_mem _ (List.mem_append_right _ h)
  have k_0 := hts (.fieldLink RX5 15 "OddLetsIn$Text" "length" "I") (List.mem_of_getElem? (i := 1) rfl)
  have hl := lv_entry ([.ref h, .int x1]) (n := 2) (Nat.le_of_ble_eq_true rfl)
  rw [lg_entry_eq]
  generalize (lg_sl ([.ref h, .int x1]) ++ List.replicate (2 - (lg_sl ([.ref h, .int x1])).length) Slot.unset).toArray = ls at hl ⊢
  have hl : lv_has ls 2 [(0, .ref h), (1, .int x1)] := hl
  refine lv_iload_n hx hb dX5_hasRoom_0 rfl (lv_at hl 1 rfl) ?_
  refine lv_sipush (v := 200) hx hb dX5_hasRoom_1 (by decide) ?_
  refine lv_aload_n hx hb dX5_hasRoom_4 rfl (lv_at hl 0 rfl) ?_
  refine zw_get (ci := 5) (C := RX5) (T := TX5) (N := 3) (v := .int i_length) hx hb hts hiX5 hown hK hW 0 rfl rfl 1 (by decide) rfl k_0 dX5_hasRoom_5 ?_
  refine lv_isub hx hb dX5_hasRoom_8 ?_
  refine lv_icmp_gt (tgt := 16) hx hb dX5_hasRoom_9 (by decide) (fun c_1 => ?_) (fun c_1 => ?_)
  · replace hw := hw.1 c_1
    refine lv_iconst (v := 0) hx hb dX5_hasRoom_16 (by decide) ?_
    refine zw_zret (S := Unit) (post := fun r u => post r) () hx hb hr hlocks hK hW (Or.inl rfl) hw ?_ dX5_hasRoom_17
    rfl
  · replace hw := hw.2 c_1
    refine lv_iconst (v := 1) hx hb dX5_hasRoom_12 (by decide) ?_
    refine lv_goto (tgt := 17) hx hb dX5_hasRoom_13 (by decide) ?_
    refine zw_zret (S := Unit) (post := fun r u => post r) () hx hb hr hlocks hK hW (Or.inr rfl) hw ?_ dX5_hasRoom_17
    rfl
abbrev wX5_append (cyI cyJ cyZ : ClassId) (h h_signs : Nat) (i_length : Int32) (i_at : Int32) (a_signs : Nat → Int32) : va_W := [(h, .inr (5, [.ref h_signs, .int i_length, .int i_at])), (h_signs, .inl (cyI, 200, .inl a_signs))]
abbrev qX5_append (dC : Nat → ClassId) (dI : Nat → Nat → Nat) (cyI cyJ cyZ : ClassId) (h h_signs : Nat) (i_length : Int32) (i_at : Int32) (a_signs : Nat → Int32) (post : Int32 → (Nat → Int32) → Prop) (A : Nat → Prop) : Array Value → State → Outcome → State → Prop := (va_Qv (fun (u : Int32 × (Nat → Int32)) => post u.1 u.2) (bW (dC, dI) (tyG cyI cyJ cyZ) A (fun u : Int32 × (Nat → Int32) => (wX5_append cyI cyJ cyZ h h_signs (u.1) i_at (u.2)))) A)
set_option maxHeartbeats 4000000 in
set_option maxRecDepth 100000 in
theorem mX5_append (l : Launch) (dC : Nat → ClassId) (dI : Nat → Nat → Nat) (cyI cyJ cyZ : ClassId) (h h_signs : Nat) (sz : Nat) (i_length : Int32) (i_at : Int32) (a_signs : Nat → Int32) (x1 : Int32) (x2 : Int64) (post : Int32 → (Nat → Int32) → Prop) (hwp : PX5_append x1 x2 i_length a_signs post) : Met l yX5_append wsX5_append ({ frames := 0, cells := 0, slots := 0, locals := 0 } : Room) (va_Pc [.ref h, .int x1, .long x2] (pcW (dC, dI) sz (wX5_append cyI cyJ cyZ h h_signs i_length i_at a_signs) (tyG cyI cyJ cyZ))) (qX5_append dC dI cyI cyJ cyZ h h_signs i_length i_at a_signs post (va_A (wX5_append cyI cyJ cyZ h h_signs i_length i_at a_signs) sz)) 0 0 (va_A (wX5_append cyI cyJ cyZ h h_signs i_length i_at a_signs) sz) := by
  refine Met.ofW (cc := cX5_append) (maxL := 5) (ret := none) (by decide) rfl ?_
  intro p e s m args below meth c s₁ B hml hv
  obtain ⟨rfl, hsz, hP, hK, hD0, hN⟩ := hv
  have hx := B.exec
  have hb := B.bytes
  have hr := B.returns
  have hts := atoms_spec (ws := wsX5_append) B.pre
  have hown : s.vm.findClass RX5 = some m.cls := findClass_of_methodNamed B.named
  have hlocks := B.notSynchronized
  subst hsz
  have hD := hD0.self (sz := s.heap.size)
  generalize hAe : va_A (wX5_append cyI cyJ cyZ h h_signs i_length i_at a_signs) s.heap.size = A at hD ⊢
  have hA : ∀ q : Nat, s.heap.size ≤ q → A q := fun q h => by rw [← hAe]; exact Or.inr h
  have hW : Wd (dC, dI) A s.heap (wX5_append cyI cyJ cyZ h h_signs i_length i_at a_signs) s.heap [] := ⟨hP, hD, va_S.rf⟩
  have hw := hwp
  have hiX5 : ∀ w ∈ u_ws RX5 TX5 3, w ∈ wsX5_append := fun _ h => List.mem_cons_of_mem _ (List.mem_append_right _ h)
  have k_0 := hts (.fieldLink RX5 15 "OddLetsIn$Text" "length" "I") (List.mem_of_getElem? (i := 1) rfl)
  have k_1 := hts (.fieldLink RX5 11 "OddLetsIn$Text" "signs" "[I") (List.mem_of_getElem? (i := 2) rfl)
  have W_5 : ∀ (n_5 : Nat) (x4 : Int32) (i_length : Int32) (a_signs : Nat → Int32) (H : Heap) (locs : List Loc) (ls : Array Slot), Wd (dC, dI) A s.heap (wX5_append cyI cyJ cyZ h h_signs i_length i_at a_signs) H locs → lv_has ls 5 [(0, .ref h), (2, .long x2), (4, .int x4)] → PX5_append_5 post x2 n_5 x4 i_length a_signs → W p l e (({ frames := 0, cells := 0, slots := 0, locals := 0 } : Room)) s m (([.ref h, .int x1, .long x2] : List Value).toArray) below meth c H locs 0 0 (MQ below (qX5_append dC dI cyI cyJ cyZ h h_signs i_length i_at a_signs post A) (([.ref h, .int x1, .long x2] : List Value).toArray) s 0 0 A) (F0 m 5 ls []) := by
    intro n_5
    induction n_5 with
    | zero =>
      intro x4 i_length a_signs H locs ls hW hl hw
      exact False.elim hw
    | succ n_5 ih_5 =>
      intro x4 i_length a_signs H locs ls hW hl hw
      refine lv_iload hx hb dX5_append_5 (lv_at hl 2 rfl) ?_
      refine lv_if_lt (tgt := 57) hx hb dX5_append_7 (by decide) (fun c_1 => ?_) (fun c_1 => ?_)
      · replace hw := hw.1 c_1
        refine zw_vret (S := Int32 × (Nat → Int32)) (post := fun u => post u.1 u.2) (i_length, a_signs) hx hb hr hlocks hK hW hw ?_ dX5_append_57
        rfl
      · replace hw := hw.2 c_1
        refine lv_aload_n hx hb dX5_append_10 rfl (lv_at hl 0 rfl) ?_
        refine zw_get (ci := 5) (C := RX5) (T := TX5) (N := 3) (v := .int i_length) hx hb hts hiX5 hown hK hW 0 rfl rfl 1 (by decide) rfl k_0 dX5_append_11 ?_
        refine lv_sipush (v := 200) hx hb dX5_append_14 (by decide) ?_
        refine lv_icmp_ge (tgt := 57) hx hb dX5_append_17 (by decide) (fun c_2 => ?_) (fun c_2 => ?_)
        · replace hw := hw.1 c_2
          refine zw_vret (S := Int32 × (Nat → Int32)) (post := fun u => post u.1 u.2) (i_length, a_signs) hx hb hr hlocks hK hW hw ?_ dX5_append_57
          rfl
        · replace hw := hw.2 c_2
          refine lv_aload_n hx hb dX5_append_20 rfl (lv_at hl 0 rfl) ?_
          refine zw_get (ci := 5) (C := RX5) (T := TX5) (N := 3) (v := .ref h_signs) hx hb hts hiX5 hown hK hW 0 rfl rfl 0 (by decide) rfl k_1 dX5_append_21 ?_
          refine lv_aload_n hx hb dX5_append_24 rfl (lv_at hl 0 rfl) ?_
          refine zw_get (ci := 5) (C := RX5) (T := TX5) (N := 3) (v := .int i_length) hx hb hts hiX5 hown hK hW 0 rfl rfl 1 (by decide) rfl k_0 dX5_append_25 ?_
          refine lv_lload_n hx hb dX5_append_28 rfl (lv_at hl 1 rfl) ?_
          refine lv_bipush (v := 8) hx hb dX5_append_29 (by decide) ?_
          refine lv_iload hx hb dX5_append_31 (lv_at hl 2 rfl) ?_
          refine lv_imul hx hb dX5_append_33 ?_
          refine lv_lushr hx hb dX5_append_34 rfl ?_
          refine lv_l2i hx hb dX5_append_35 rfl ?_
          refine lv_sipush (v := 255) hx hb dX5_append_36 (by decide) ?_
          refine lv_iand hx hb dX5_append_39 ?_
          refine lv_topi (fun t_3 et_3 => ?_)
          replace hw := hw t_3 et_3
          refine zw_iast hx hb hK hW 1 rfl rfl hw.1 (w2 := fun a_signs_4 => (wX5_append cyI cyJ cyZ h h_signs i_length i_at a_signs_4)) (fun _ => rfl) dX5_append_40 (fun a_signs_4 H locs ea_signs_4 hW => ?_)
          replace hw := hw.2 a_signs_4 ea_signs_4
          refine lv_aload_n hx hb dX5_append_41 rfl (lv_at hl 0 rfl) ?_
          refine lv_dup hx hb dX5_append_42 rfl ?_
          refine zw_get (ci := 5) (C := RX5) (T := TX5) (N := 3) (v := .int i_length) hx hb hts hiX5 hown hK hW 0 rfl rfl 1 (by decide) rfl k_0 dX5_append_43 ?_
          refine lv_iconst (v := 1) hx hb dX5_append_46 (by decide) ?_
          refine lv_iadd hx hb dX5_append_47 ?_
          refine lv_topi (fun i_5 ei_5 => ?_)
          replace hw := hw i_5 ei_5
          refine zw_put (ci := 5) (C := RX5) (T := TX5) (N := 3) (w2 := (wX5_append cyI cyJ cyZ h h_signs i_5 i_at a_signs_4)) hx hb hts hiX5 tyX5 tyX5_ok nmX5 hown hK hW 0 rfl rfl 1 (by decide) (by decide +kernel) rfl (Nat.le_of_ble_eq_true rfl) rfl k_0 dX5_append_48 (fun H locs hW => ?_)
          obtain ⟨x4_6, ex4_6⟩ : ∃ y : Int32, y = x4 + (-1) := ⟨_, rfl⟩
          replace hw := hw x4_6 ex4_6
          refine lv_iinc (v := x4_6) (lv' := [(4, .int x4_6), (0, .ref h), (2, .long x2)]) hx hb dX5_append_51 hl (k := 2) rfl (by rw [ex4_6]; rfl) (by decide) rfl (fun ls hl => ?_)
          refine lv_goto (tgt := 5) hx hb dX5_append_54 (by decide) ?_
          exact ih_5 x4_6 i_5 a_signs_4 _ _ _ hW (lv_sub hl [1, 2, 0] rfl) hw
  have hl := lv_entry ([.ref h, .int x1, .long x2]) (n := 5) (Nat.le_of_ble_eq_true rfl)
  rw [lg_entry_eq]
  generalize (lg_sl ([.ref h, .int x1, .long x2]) ++ List.replicate (5 - (lg_sl ([.ref h, .int x1, .long x2])).length) Slot.unset).toArray = ls at hl ⊢
  have hl : lv_has ls 5 [(0, .ref h), (1, .int x1), (2, .long x2)] := hl
  refine lv_iload_n hx hb dX5_append_0 rfl (lv_at hl 1 rfl) ?_
  refine lv_iconst (v := 1) hx hb dX5_append_1 (by decide) ?_
  refine lv_isub hx hb dX5_append_2 ?_
  refine lv_topi (fun x4_7 ex4_7 => ?_)
  replace hw := hw x4_7 ex4_7
  refine lv_istore (lv' := [(4, .int x4_7), (0, .ref h), (1, .int x1), (2, .long x2)]) hx hb dX5_append_3 hl (by decide) rfl (fun ls hl => ?_)
  obtain ⟨n_5, hw⟩ := hw
  exact W_5  n_5 x4_7 i_length a_signs _ _ _ hW (lv_sub hl [1, 3, 0] rfl) hw
abbrev wX5_signHere (cyI cyJ cyZ : ClassId) (h h_signs : Nat) (i_length : Int32) (i_at : Int32) (a_signs : Nat → Int32) : va_W := [(h, .inr (5, [.ref h_signs, .int i_length, .int i_at])), (h_signs, .inl (cyI, 200, .inl a_signs))]
abbrev qX5_signHere (dC : Nat → ClassId) (dI : Nat → Nat → Nat) (cyI cyJ cyZ : ClassId) (h h_signs : Nat) (i_length : Int32) (i_at : Int32) (a_signs : Nat → Int32) (post : Int32 → Prop) (A : Nat → Prop) : Array Value → State → Outcome → State → Prop := (va_Qi (fun (r : Int32) (u : Unit) => post r) (bW (dC, dI) (tyG cyI cyJ cyZ) A (fun _ : Unit => (wX5_signHere cyI cyJ cyZ h h_signs i_length i_at a_signs))) A)
set_option maxHeartbeats 4000000 in
set_option maxRecDepth 100000 in
theorem mX5_signHere (l : Launch) (dC : Nat → ClassId) (dI : Nat → Nat → Nat) (cyI cyJ cyZ : ClassId) (h h_signs : Nat) (sz : Nat) (i_length : Int32) (i_at : Int32) (a_signs : Nat → Int32) (post : Int32 → Prop) (hwp : PX5_signHere i_length i_at a_signs post) : Met l yX5_signHere wsX5_signHere ({ frames := 0, cells := 0, slots := 0, locals := 0 } : Room) (va_Pc [.ref h] (pcW (dC, dI) sz (wX5_signHere cyI cyJ cyZ h h_signs i_length i_at a_signs) (tyG cyI cyJ cyZ))) (qX5_signHere dC dI cyI cyJ cyZ h h_signs i_length i_at a_signs post (va_A (wX5_signHere cyI cyJ cyZ h h_signs i_length i_at a_signs) sz)) 0 0 (va_A (wX5_signHere cyI cyJ cyZ h h_signs i_length i_at a_signs) sz) := by
  refine Met.ofW (cc := cX5_signHere) (maxL := 1) (ret := some .int) (by decide) rfl ?_
  intro p e s m args below meth c s₁ B hml hv
  obtain ⟨rfl, hsz, hP, hK, hD0, hN⟩ := hv
  have hx := B.exec
  have hb := B.bytes
  have hr := B.returns
  have hts := atoms_spec (ws := wsX5_signHere) B.pre
  have hown : s.vm.findClass RX5 = some m.cls := findClass_of_methodNamed B.named
  have hlocks := B.notSynchronized
  subst hsz
  have hD := hD0.self (sz := s.heap.size)
  generalize hAe : va_A (wX5_signHere cyI cyJ cyZ h h_signs i_length i_at a_signs) s.heap.size = A at hD ⊢
  have hA : ∀ q : Nat, s.heap.size ≤ q → A q := fun q h => by rw [← hAe]; exact Or.inr h
  have hW : Wd (dC, dI) A s.heap (wX5_signHere cyI cyJ cyZ h h_signs i_length i_at a_signs) s.heap [] := ⟨hP, hD, va_S.rf⟩
  have hw := hwp
  have hiX5 : ∀ w ∈ u_ws RX5 TX5 3, w ∈ wsX5_signHere := fun _ h => List.mem_cons_of_mem _ (List.mem_append_right _ h)
  have k_0 := hts (.fieldLink RX5 19 "OddLetsIn$Text" "at" "I") (List.mem_of_getElem? (i := 1) rfl)
  have k_1 := hts (.fieldLink RX5 15 "OddLetsIn$Text" "length" "I") (List.mem_of_getElem? (i := 2) rfl)
  have k_2 := hts (.fieldLink RX5 11 "OddLetsIn$Text" "signs" "[I") (List.mem_of_getElem? (i := 3) rfl)
  have hl := lv_entry ([.ref h]) (n := 1) (Nat.le_of_ble_eq_true rfl)
  rw [lg_entry_eq]
  generalize (lg_sl ([.ref h]) ++ List.replicate (1 - (lg_sl ([.ref h])).length) Slot.unset).toArray = ls at hl ⊢
  have hl : lv_has ls 1 [(0, .ref h)] := hl
  refine lv_aload_n hx hb dX5_signHere_0 rfl (lv_at hl 0 rfl) ?_
  refine zw_get (ci := 5) (C := RX5) (T := TX5) (N := 3) (v := .int i_at) hx hb hts hiX5 hown hK hW 0 rfl rfl 2 (by decide) rfl k_0 dX5_signHere_1 ?_
  refine lv_if_lt (tgt := 40) hx hb dX5_signHere_4 (by decide) (fun c_1 => ?_) (fun c_1 => ?_)
  · replace hw := hw.1 c_1
    refine lv_iconst (v := (-1)) hx hb dX5_signHere_40 (by decide) ?_
    refine zw_iret (S := Unit) (post := fun r u => post r) () hx hb hr hlocks hK hW hw ?_ dX5_signHere_41
    rfl
  · replace hw := hw.2 c_1
    refine lv_aload_n hx hb dX5_signHere_7 rfl (lv_at hl 0 rfl) ?_
    refine zw_get (ci := 5) (C := RX5) (T := TX5) (N := 3) (v := .int i_at) hx hb hts hiX5 hown hK hW 0 rfl rfl 2 (by decide) rfl k_0 dX5_signHere_8 ?_
    refine lv_aload_n hx hb dX5_signHere_11 rfl (lv_at hl 0 rfl) ?_
    refine zw_get (ci := 5) (C := RX5) (T := TX5) (N := 3) (v := .int i_length) hx hb hts hiX5 hown hK hW 0 rfl rfl 1 (by decide) rfl k_1 dX5_signHere_12 ?_
    refine lv_icmp_ge (tgt := 40) hx hb dX5_signHere_15 (by decide) (fun c_2 => ?_) (fun c_2 => ?_)
    · replace hw := hw.1 c_2
      refine lv_iconst (v := (-1)) hx hb dX5_signHere_40 (by decide) ?_
      refine zw_iret (S := Unit) (post := fun r u => post r) () hx hb hr hlocks hK hW hw ?_ dX5_signHere_41
      rfl
    · replace hw := hw.2 c_2
      refine lv_aload_n hx hb dX5_signHere_18 rfl (lv_at hl 0 rfl) ?_
      refine zw_get (ci := 5) (C := RX5) (T := TX5) (N := 3) (v := .int i_at) hx hb hts hiX5 hown hK hW 0 rfl rfl 2 (by decide) rfl k_0 dX5_signHere_19 ?_
      refine lv_sipush (v := 200) hx hb dX5_signHere_22 (by decide) ?_
      refine lv_icmp_ge (tgt := 40) hx hb dX5_signHere_25 (by decide) (fun c_3 => ?_) (fun c_3 => ?_)
      · replace hw := hw.1 c_3
        refine lv_iconst (v := (-1)) hx hb dX5_signHere_40 (by decide) ?_
        refine zw_iret (S := Unit) (post := fun r u => post r) () hx hb hr hlocks hK hW hw ?_ dX5_signHere_41
        rfl
      · replace hw := hw.2 c_3
        refine lv_aload_n hx hb dX5_signHere_28 rfl (lv_at hl 0 rfl) ?_
        refine zw_get (ci := 5) (C := RX5) (T := TX5) (N := 3) (v := .ref h_signs) hx hb hts hiX5 hown hK hW 0 rfl rfl 0 (by decide) rfl k_2 dX5_signHere_29 ?_
        refine lv_aload_n hx hb dX5_signHere_32 rfl (lv_at hl 0 rfl) ?_
        refine zw_get (ci := 5) (C := RX5) (T := TX5) (N := 3) (v := .int i_at) hx hb hts hiX5 hown hK hW 0 rfl rfl 2 (by decide) rfl k_0 dX5_signHere_33 ?_
        refine zw_iald hx hb hK hW 1 rfl rfl hw.1 dX5_signHere_36 ?_
        replace hw := hw.2
        refine lv_goto (tgt := 41) hx hb dX5_signHere_37 (by decide) ?_
        refine zw_iret (S := Unit) (post := fun r u => post r) () hx hb hr hlocks hK hW hw ?_ dX5_signHere_41
        rfl
abbrev wX5_takes (cyI cyJ cyZ : ClassId) (h h_signs : Nat) (i_length : Int32) (i_at : Int32) (a_signs : Nat → Int32) : va_W := [(h, .inr (5, [.ref h_signs, .int i_length, .int i_at])), (h_signs, .inl (cyI, 200, .inl a_signs))]
abbrev qX5_takes (dC : Nat → ClassId) (dI : Nat → Nat → Nat) (cyI cyJ cyZ : ClassId) (h h_signs : Nat) (i_length : Int32) (i_at : Int32) (a_signs : Nat → Int32) (post : Int32 → Int32 → Prop) (A : Nat → Prop) : Array Value → State → Outcome → State → Prop := (va_Qi (fun (r : Int32) (u : Int32) => (r = 0 ∨ r = 1) ∧ post r u) (bW (dC, dI) (tyG cyI cyJ cyZ) A (fun u : Int32 => (wX5_takes cyI cyJ cyZ h h_signs i_length u a_signs))) A)
set_option maxHeartbeats 4000000 in
set_option maxRecDepth 100000 in
theorem mX5_takes (l : Launch) (dC : Nat → ClassId) (dI : Nat → Nat → Nat) (cyI cyJ cyZ : ClassId) (h h_signs : Nat) (sz : Nat) (i_length : Int32) (i_at : Int32) (a_signs : Nat → Int32) (x1 : Int32) (post : Int32 → Int32 → Prop) (hwp : PX5_takes x1 i_length i_at a_signs post) : Met l yX5_takes wsX5_takes ({ frames := 1, cells := 0, slots := 0, locals := 20 } : Room) (va_Pc [.ref h, .int x1] (pcW (dC, dI) sz (wX5_takes cyI cyJ cyZ h h_signs i_length i_at a_signs) (tyG cyI cyJ cyZ))) (qX5_takes dC dI cyI cyJ cyZ h h_signs i_length i_at a_signs post (va_A (wX5_takes cyI cyJ cyZ h h_signs i_length i_at a_signs) sz)) 0 0 (va_A (wX5_takes cyI cyJ cyZ h h_signs i_length i_at a_signs) sz) := by
  refine Met.ofW (cc := cX5_takes) (maxL := 2) (ret := some .boolean) (by decide) rfl ?_
  intro p e s m args below meth c s₁ B hml hv
  obtain ⟨rfl, hsz, hP, hK, hD0, hN⟩ := hv
  have hx := B.exec
  have hb := B.bytes
  have hr := B.returns
  have hts := atoms_spec (ws := wsX5_takes) B.pre
  have hown : s.vm.findClass RX5 = some m.cls := findClass_of_methodNamed B.named
  have hlocks := B.notSynchronized
  subst hsz
  have hD := hD0.self (sz := s.heap.size)
  generalize hAe : va_A (wX5_takes cyI cyJ cyZ h h_signs i_length i_at a_signs) s.heap.size = A at hD ⊢
  have hA : ∀ q : Nat, s.heap.size ≤ q → A q := fun q h => by rw [← hAe]; exact Or.inr h
  have hW : Wd (dC, dI) A s.heap (wX5_takes cyI cyJ cyZ h h_signs i_length i_at a_signs) s.heap [] := ⟨hP, hD, va_S.rf⟩
  have hw := hwp
  have hiX5 : ∀ w ∈ u_ws RX5 TX5 3, w ∈ wsX5_takes := fun _ h => List.mem_cons_of_mem _ (List.mem_append_right _ h)
  have k_0 := hts (.fieldLink RX5 19 "OddLetsIn$Text" "at" "I") (List.mem_of_getElem? (i := 1) rfl)
  have hl := lv_entry ([.ref h, .int x1]) (n := 2) (Nat.le_of_ble_eq_true rfl)
  rw [lg_entry_eq]
  generalize (lg_sl ([.ref h, .int x1]) ++ List.replicate (2 - (lg_sl ([.ref h, .int x1])).length) Slot.unset).toArray = ls at hl ⊢
  have hl : lv_has ls 2 [(0, .ref h), (1, .int x1)] := hl
  refine lv_aload_n hx hb dX5_takes_0 rfl (lv_at hl 0 rfl) ?_
  refine zw_Vi ⟨hx, hb, hml, hown, hts⟩ hK hN hA hW 0 rfl (T := TX5) (N := 3) rfl [] [] [0, 1] [] [0, 1] (fun _ => (wX5_takes cyI cyJ cyZ h h_signs i_length i_at a_signs)) (mX5_signHere l dC dI cyI cyJ cyZ h h_signs _ i_length i_at a_signs _ hw) (cwV 0 hts gX5_takes_X5_signHere rfl rfl rfl (by decide +kernel) ⟨Nat.le_of_ble_eq_true rfl, Nat.le_of_ble_eq_true rfl⟩) rfl rfl rfl rfl (by decide) rfl (fun _ => rfl) rfl hl.1 rfl (Nat.le_of_ble_eq_true rfl) (Nat.le_of_ble_eq_true rfl) (Nat.le_of_ble_eq_true rfl) dX5_takes_1 (fun r_1 u H locs hw hW => ?_)
  refine lv_iload_n hx hb dX5_takes_4 rfl (lv_at hl 1 rfl) ?_
  refine lv_icmp_eq (tgt := 10) hx hb dX5_takes_5 (by decide) (fun c_2 => ?_) (fun c_2 => ?_)
  · replace hw := hw.1 c_2
    refine lv_aload_n hx hb dX5_takes_10 rfl (lv_at hl 0 rfl) ?_
    refine lv_dup hx hb dX5_takes_11 rfl ?_
    refine zw_get (ci := 5) (C := RX5) (T := TX5) (N := 3) (v := .int i_at) hx hb hts hiX5 hown hK hW 0 rfl rfl 2 (by decide) rfl k_0 dX5_takes_12 ?_
    refine lv_iconst (v := 1) hx hb dX5_takes_15 (by decide) ?_
    refine lv_iadd hx hb dX5_takes_16 ?_
    refine lv_topi (fun i_3 ei_3 => ?_)
    replace hw := hw i_3 ei_3
    refine zw_put (ci := 5) (C := RX5) (T := TX5) (N := 3) (w2 := (wX5_takes cyI cyJ cyZ h h_signs i_length i_3 a_signs)) hx hb hts hiX5 tyX5 tyX5_ok nmX5 hown hK hW 0 rfl rfl 2 (by decide) (by decide +kernel) rfl (Nat.le_of_ble_eq_true rfl) rfl k_0 dX5_takes_17 (fun H locs hW => ?_)
    refine lv_iconst (v := 1) hx hb dX5_takes_20 (by decide) ?_
    refine zw_zret (S := Int32) (post := fun r u => post r u) i_3 hx hb hr hlocks hK hW (Or.inr rfl) hw ?_ dX5_takes_21
    rfl
  · replace hw := hw.2 c_2
    refine lv_iconst (v := 0) hx hb dX5_takes_8 (by decide) ?_
    refine zw_zret (S := Int32) (post := fun r u => post r u) i_at hx hb hr hlocks hK hW (Or.inl rfl) hw ?_ dX5_takes_9
    rfl
abbrev wX5_figure (cyI cyJ cyZ : ClassId) (h h_signs : Nat) (i_length : Int32) (i_at : Int32) (a_signs : Nat → Int32) : va_W := [(h, .inr (5, [.ref h_signs, .int i_length, .int i_at])), (h_signs, .inl (cyI, 200, .inl a_signs))]
abbrev qX5_figure (dC : Nat → ClassId) (dI : Nat → Nat → Nat) (cyI cyJ cyZ : ClassId) (h h_signs : Nat) (i_length : Int32) (i_at : Int32) (a_signs : Nat → Int32) (post : Int32 → Int32 → Prop) (A : Nat → Prop) : Array Value → State → Outcome → State → Prop := (va_Qi (fun (r : Int32) (u : Int32) => post r u) (bW (dC, dI) (tyG cyI cyJ cyZ) A (fun u : Int32 => (wX5_figure cyI cyJ cyZ h h_signs i_length u a_signs))) A)
set_option maxHeartbeats 4000000 in
set_option maxRecDepth 100000 in
theorem mX5_figure (l : Launch) (dC : Nat → ClassId) (dI : Nat → Nat → Nat) (cyI cyJ cyZ : ClassId) (h h_signs : Nat) (sz : Nat) (i_length : Int32) (i_at : Int32) (a_signs : Nat → Int32) (post : Int32 → Int32 → Prop) (hwp : PX5_figure i_length i_at a_signs post) : Met l yX5_figure wsX5_figure ({ frames := 1, cells := 0, slots := 0, locals := 20 } : Room) (va_Pc [.ref h] (pcW (dC, dI) sz (wX5_figure cyI cyJ cyZ h h_signs i_length i_at a_signs) (tyG cyI cyJ cyZ))) (qX5_figure dC dI cyI cyJ cyZ h h_signs i_length i_at a_signs post (va_A (wX5_figure cyI cyJ cyZ h h_signs i_length i_at a_signs) sz)) 0 0 (va_A (wX5_figure cyI cyJ cyZ h h_signs i_length i_at a_signs) sz) := by
  refine Met.ofW (cc := cX5_figure) (maxL := 2) (ret := some .int) (by decide) rfl ?_
  intro p e s m args below meth c s₁ B hml hv
  obtain ⟨rfl, hsz, hP, hK, hD0, hN⟩ := hv
  have hx := B.exec
  have hb := B.bytes
  have hr := B.returns
  have hts := atoms_spec (ws := wsX5_figure) B.pre
  have hown : s.vm.findClass RX5 = some m.cls := findClass_of_methodNamed B.named
  have hlocks := B.notSynchronized
  subst hsz
  have hD := hD0.self (sz := s.heap.size)
  generalize hAe : va_A (wX5_figure cyI cyJ cyZ h h_signs i_length i_at a_signs) s.heap.size = A at hD ⊢
  have hA : ∀ q : Nat, s.heap.size ≤ q → A q := fun q h => by rw [← hAe]; exact Or.inr h
  have hW : Wd (dC, dI) A s.heap (wX5_figure cyI cyJ cyZ h h_signs i_length i_at a_signs) s.heap [] := ⟨hP, hD, va_S.rf⟩
  have hw := hwp
  have hiX5 : ∀ w ∈ u_ws RX5 TX5 3, w ∈ wsX5_figure := fun _ h => List.mem_cons_of_mem _ (List.mem_append_right _ h)
  have k_0 := hts (.fieldLink RX5 19 "OddLetsIn$Text" "at" "I") (List.mem_of_getElem? (i := 1) rfl)
  have hl := lv_entry ([.ref h]) (n := 2) (Nat.le_of_ble_eq_true rfl)
  rw [lg_entry_eq]
  generalize (lg_sl ([.ref h]) ++ List.replicate (2 - (lg_sl ([.ref h])).length) Slot.unset).toArray = ls at hl ⊢
  have hl : lv_has ls 2 [(0, .ref h)] := hl
  refine lv_aload_n hx hb dX5_figure_0 rfl (lv_at hl 0 rfl) ?_
  refine zw_Vi ⟨hx, hb, hml, hown, hts⟩ hK hN hA hW 0 rfl (T := TX5) (N := 3) rfl [] [] [0, 1] [] [0, 1] (fun _ => (wX5_figure cyI cyJ cyZ h h_signs i_length i_at a_signs)) (mX5_signHere l dC dI cyI cyJ cyZ h h_signs _ i_length i_at a_signs _ hw) (cwV 0 hts gX5_figure_X5_signHere rfl rfl rfl (by decide +kernel) ⟨Nat.le_of_ble_eq_true rfl, Nat.le_of_ble_eq_true rfl⟩) rfl rfl rfl rfl (by decide) rfl (fun _ => rfl) rfl hl.1 rfl (Nat.le_of_ble_eq_true rfl) (Nat.le_of_ble_eq_true rfl) (Nat.le_of_ble_eq_true rfl) dX5_figure_1 (fun r_1 u H locs hw hW => ?_)
  refine lv_istore_n (lv' := [(1, .int r_1), (0, .ref h)]) hx hb dX5_figure_4 rfl hl (by decide) rfl (fun ls hl => ?_)
  refine lv_iload_n hx hb dX5_figure_5 rfl (lv_at hl 0 rfl) ?_
  refine lv_bipush (v := 48) hx hb dX5_figure_6 (by decide) ?_
  refine lv_icmp_lt (tgt := 17) hx hb dX5_figure_8 (by decide) (fun c_2 => ?_) (fun c_2 => ?_)
  · replace hw := hw.1 c_2
    refine lv_iconst (v := (-1)) hx hb dX5_figure_17 (by decide) ?_
    refine zw_iret (S := Int32) (post := fun r u => post r u) i_at hx hb hr hlocks hK hW hw ?_ dX5_figure_18
    rfl
  · replace hw := hw.2 c_2
    refine lv_iload_n hx hb dX5_figure_11 rfl (lv_at hl 0 rfl) ?_
    refine lv_bipush (v := 57) hx hb dX5_figure_12 (by decide) ?_
    refine lv_icmp_le (tgt := 19) hx hb dX5_figure_14 (by decide) (fun c_3 => ?_) (fun c_3 => ?_)
    · replace hw := hw.1 c_3
      refine lv_aload_n hx hb dX5_figure_19 rfl (lv_at hl 1 rfl) ?_
      refine lv_dup hx hb dX5_figure_20 rfl ?_
      refine zw_get (ci := 5) (C := RX5) (T := TX5) (N := 3) (v := .int i_at) hx hb hts hiX5 hown hK hW 0 rfl rfl 2 (by decide) rfl k_0 dX5_figure_21 ?_
      refine lv_iconst (v := 1) hx hb dX5_figure_24 (by decide) ?_
      refine lv_iadd hx hb dX5_figure_25 ?_
      refine lv_topi (fun i_4 ei_4 => ?_)
      replace hw := hw i_4 ei_4
      refine zw_put (ci := 5) (C := RX5) (T := TX5) (N := 3) (w2 := (wX5_figure cyI cyJ cyZ h h_signs i_length i_4 a_signs)) hx hb hts hiX5 tyX5 tyX5_ok nmX5 hown hK hW 0 rfl rfl 2 (by decide) (by decide +kernel) rfl (Nat.le_of_ble_eq_true rfl) rfl k_0 dX5_figure_26 (fun H locs hW => ?_)
      refine lv_iload_n hx hb dX5_figure_29 rfl (lv_at hl 0 rfl) ?_
      refine lv_bipush (v := 48) hx hb dX5_figure_30 (by decide) ?_
      refine lv_isub hx hb dX5_figure_32 ?_
      refine zw_iret (S := Int32) (post := fun r u => post r u) i_4 hx hb hr hlocks hK hW hw ?_ dX5_figure_33
      rfl
    · replace hw := hw.2 c_3
      refine lv_iconst (v := (-1)) hx hb dX5_figure_17 (by decide) ?_
      refine zw_iret (S := Int32) (post := fun r u => post r u) i_at hx hb hr hlocks hK hW hw ?_ dX5_figure_18
      rfl
abbrev wX5_number (cyI cyJ cyZ : ClassId) (h h_signs : Nat) (i_length : Int32) (i_at : Int32) (a_signs : Nat → Int32) : va_W := [(h, .inr (5, [.ref h_signs, .int i_length, .int i_at])), (h_signs, .inl (cyI, 200, .inl a_signs))]
abbrev qX5_number (dC : Nat → ClassId) (dI : Nat → Nat → Nat) (cyI cyJ cyZ : ClassId) (h h_signs : Nat) (i_length : Int32) (i_at : Int32) (a_signs : Nat → Int32) (post : Int32 → Int32 → Prop) (A : Nat → Prop) : Array Value → State → Outcome → State → Prop := (va_Qi (fun (r : Int32) (u : Int32) => post r u) (bW (dC, dI) (tyG cyI cyJ cyZ) A (fun u : Int32 => (wX5_number cyI cyJ cyZ h h_signs i_length u a_signs))) A)
set_option maxHeartbeats 4000000 in
set_option maxRecDepth 100000 in
theorem mX5_number (l : Launch) (dC : Nat → ClassId) (dI : Nat → Nat → Nat) (cyI cyJ cyZ : ClassId) (h h_signs : Nat) (sz : Nat) (i_length : Int32) (i_at : Int32) (a_signs : Nat → Int32) (x1 : Int32) (post : Int32 → Int32 → Prop) (hwp : PX5_number x1 i_length i_at a_signs post) : Met l yX5_number wsX5_number ({ frames := 2, cells := 0, slots := 0, locals := 41 } : Room) (va_Pc [.ref h, .int x1] (pcW (dC, dI) sz (wX5_number cyI cyJ cyZ h h_signs i_length i_at a_signs) (tyG cyI cyJ cyZ))) (qX5_number dC dI cyI cyJ cyZ h h_signs i_length i_at a_signs post (va_A (wX5_number cyI cyJ cyZ h h_signs i_length i_at a_signs) sz)) 0 0 (va_A (wX5_number cyI cyJ cyZ h h_signs i_length i_at a_signs) sz) := by
  refine Met.ofW (cc := cX5_number) (maxL := 4) (ret := some .int) (by decide) rfl ?_
  intro p e s m args below meth c s₁ B hml hv
  obtain ⟨rfl, hsz, hP, hK, hD0, hN⟩ := hv
  have hx := B.exec
  have hb := B.bytes
  have hr := B.returns
  have hts := atoms_spec (ws := wsX5_number) B.pre
  have hown : s.vm.findClass RX5 = some m.cls := findClass_of_methodNamed B.named
  have hlocks := B.notSynchronized
  subst hsz
  have hD := hD0.self (sz := s.heap.size)
  generalize hAe : va_A (wX5_number cyI cyJ cyZ h h_signs i_length i_at a_signs) s.heap.size = A at hD ⊢
  have hA : ∀ q : Nat, s.heap.size ≤ q → A q := fun q h => by rw [← hAe]; exact Or.inr h
  have hW : Wd (dC, dI) A s.heap (wX5_number cyI cyJ cyZ h h_signs i_length i_at a_signs) s.heap [] := ⟨hP, hD, va_S.rf⟩
  have hw := hwp
  have hl := lv_entry ([.ref h, .int x1]) (n := 4) (Nat.le_of_ble_eq_true rfl)
  rw [lg_entry_eq]
  generalize (lg_sl ([.ref h, .int x1]) ++ List.replicate (4 - (lg_sl ([.ref h, .int x1])).length) Slot.unset).toArray = ls at hl ⊢
  have hl : lv_has ls 4 [(0, .ref h), (1, .int x1)] := hl
  refine lv_aload_n hx hb dX5_number_0 rfl (lv_at hl 0 rfl) ?_
  refine zw_Vi ⟨hx, hb, hml, hown, hts⟩ hK hN hA hW 0 rfl (T := TX5) (N := 3) rfl [] [] [0, 1] [] [0, 1] (fun u => (wX5_number cyI cyJ cyZ h h_signs i_length u a_signs)) (mX5_figure l dC dI cyI cyJ cyZ h h_signs _ i_length i_at a_signs _ hw) (cwV 0 hts gX5_number_X5_figure rfl rfl rfl (by decide +kernel) ⟨Nat.le_of_ble_eq_true rfl, Nat.le_of_ble_eq_true rfl⟩) rfl rfl rfl rfl (by decide) rfl (fun _ => rfl) rfl hl.1 rfl (Nat.le_of_ble_eq_true rfl) (Nat.le_of_ble_eq_true rfl) (Nat.le_of_ble_eq_true rfl) dX5_number_1 (fun r_2 u H locs hw hW => ?_)
  obtain ⟨i_at_1, rfl⟩ : ∃ z, z = u := ⟨_, rfl⟩
  replace hW : Wd (dC, dI) A s.heap (wX5_number cyI cyJ cyZ h h_signs i_length i_at_1 a_signs) H locs := hW
  refine lv_istore_n (lv' := [(2, .int r_2), (0, .ref h), (1, .int x1)]) hx hb dX5_number_4 rfl hl (by decide) rfl (fun ls hl => ?_)
  refine lv_iload_n hx hb dX5_number_5 rfl (lv_at hl 0 rfl) ?_
  refine lv_iconst (v := (-1)) hx hb dX5_number_6 (by decide) ?_
  refine lv_icmp_ne (tgt := 12) hx hb dX5_number_7 (by decide) (fun c_3 => ?_) (fun c_3 => ?_)
  · replace hw := hw.2 c_3
    refine lv_aload_n hx hb dX5_number_12 rfl (lv_at hl 1 rfl) ?_
    refine zw_Vi ⟨hx, hb, hml, hown, hts⟩ hK hN hA hW 0 rfl (T := TX5) (N := 3) rfl [] [] [0, 1] [] [0, 1] (fun u => (wX5_number cyI cyJ cyZ h h_signs i_length u a_signs)) (mX5_figure l dC dI cyI cyJ cyZ h h_signs _ i_length i_at_1 a_signs _ hw) (cwV 0 hts gX5_number_X5_figure rfl rfl rfl (by decide +kernel) ⟨Nat.le_of_ble_eq_true rfl, Nat.le_of_ble_eq_true rfl⟩) rfl rfl rfl rfl (by decide) rfl (fun _ => rfl) rfl hl.1 rfl (Nat.le_of_ble_eq_true rfl) (Nat.le_of_ble_eq_true rfl) (Nat.le_of_ble_eq_true rfl) dX5_number_13 (fun r_5 u H locs hw hW => ?_)
    obtain ⟨i_at_4, rfl⟩ : ∃ z, z = u := ⟨_, rfl⟩
    replace hW : Wd (dC, dI) A s.heap (wX5_number cyI cyJ cyZ h h_signs i_length i_at_4 a_signs) H locs := hW
    refine lv_istore_n (lv' := [(3, .int r_5), (2, .int r_2), (0, .ref h), (1, .int x1)]) hx hb dX5_number_16 rfl hl (by decide) rfl (fun ls hl => ?_)
    refine lv_iload_n hx hb dX5_number_17 rfl (lv_at hl 0 rfl) ?_
    refine lv_iconst (v := (-1)) hx hb dX5_number_18 (by decide) ?_
    refine lv_icmp_eq (tgt := 29) hx hb dX5_number_19 (by decide) (fun c_6 => ?_) (fun c_6 => ?_)
    · replace hw := hw.1 c_6
      refine lv_aload_n hx hb dX5_number_29 rfl (lv_at hl 2 rfl) ?_
      refine lv_iload_n hx hb dX5_number_30 rfl (lv_at hl 3 rfl) ?_
      refine zw_Vi ⟨hx, hb, hml, hown, hts⟩ hK hN hA hW 0 rfl (T := TX5) (N := 3) rfl [.int x1] [] [0, 1] [] [0, 1] (fun u => (wX5_number cyI cyJ cyZ h h_signs i_length u a_signs)) (mX5_takes l dC dI cyI cyJ cyZ h h_signs _ i_length i_at_4 a_signs x1 _ hw) (cwV 1 hts gX5_number_X5_takes rfl rfl rfl (by decide +kernel) ⟨Nat.le_of_ble_eq_true rfl, Nat.le_of_ble_eq_true rfl⟩) rfl rfl rfl rfl (by decide) rfl (fun _ => rfl) rfl hl.1 rfl (Nat.le_of_ble_eq_true rfl) (Nat.le_of_ble_eq_true rfl) (Nat.le_of_ble_eq_true rfl) dX5_number_31 (fun r_8 u H locs hw hW => ?_)
      obtain ⟨i_at_7, rfl⟩ : ∃ z, z = u := ⟨_, rfl⟩
      replace hW : Wd (dC, dI) A s.heap (wX5_number cyI cyJ cyZ h h_signs i_length i_at_7 a_signs) H locs := hW
      obtain ⟨br_8, hw⟩ := hw
      refine lv_if_eq (tgt := 41) hx hb dX5_number_34 (by decide) (fun c_9 => ?_) (fun c_9 => ?_)
      · replace hw := hw.1 c_9
        refine lv_iconst (v := (-1)) hx hb dX5_number_41 (by decide) ?_
        refine zw_iret (S := Int32) (post := fun r u => post r u) i_at_7 hx hb hr hlocks hK hW hw ?_ dX5_number_42
        rfl
      · replace hw := hw.2 c_9
        refine lv_iload_n hx hb dX5_number_37 rfl (lv_at hl 1 rfl) ?_
        refine lv_goto (tgt := 42) hx hb dX5_number_38 (by decide) ?_
        refine zw_iret (S := Int32) (post := fun r u => post r u) i_at_7 hx hb hr hlocks hK hW hw ?_ dX5_number_42
        rfl
    · replace hw := hw.2 c_6
      refine lv_bipush (v := 10) hx hb dX5_number_22 (by decide) ?_
      refine lv_iload_n hx hb dX5_number_24 rfl (lv_at hl 1 rfl) ?_
      refine lv_imul hx hb dX5_number_25 ?_
      refine lv_iload_n hx hb dX5_number_26 rfl (lv_at hl 0 rfl) ?_
      refine lv_iadd hx hb dX5_number_27 ?_
      refine lv_topi (fun x2_10 ex2_10 => ?_)
      replace hw := hw x2_10 ex2_10
      refine lv_istore_n (lv' := [(2, .int x2_10), (3, .int r_5), (0, .ref h), (1, .int x1)]) hx hb dX5_number_28 rfl hl (by decide) rfl (fun ls hl => ?_)
      refine lv_aload_n hx hb dX5_number_29 rfl (lv_at hl 2 rfl) ?_
      refine lv_iload_n hx hb dX5_number_30 rfl (lv_at hl 3 rfl) ?_
      refine zw_Vi ⟨hx, hb, hml, hown, hts⟩ hK hN hA hW 0 rfl (T := TX5) (N := 3) rfl [.int x1] [] [0, 1] [] [0, 1] (fun u => (wX5_number cyI cyJ cyZ h h_signs i_length u a_signs)) (mX5_takes l dC dI cyI cyJ cyZ h h_signs _ i_length i_at_4 a_signs x1 _ hw) (cwV 1 hts gX5_number_X5_takes rfl rfl rfl (by decide +kernel) ⟨Nat.le_of_ble_eq_true rfl, Nat.le_of_ble_eq_true rfl⟩) rfl rfl rfl rfl (by decide) rfl (fun _ => rfl) rfl hl.1 rfl (Nat.le_of_ble_eq_true rfl) (Nat.le_of_ble_eq_true rfl) (Nat.le_of_ble_eq_true rfl) dX5_number_31 (fun r_12 u H locs hw hW => ?_)
      obtain ⟨i_at_11, rfl⟩ : ∃ z, z = u := ⟨_, rfl⟩
      replace hW : Wd (dC, dI) A s.heap (wX5_number cyI cyJ cyZ h h_signs i_length i_at_11 a_signs) H locs := hW
      obtain ⟨br_12, hw⟩ := hw
      refine lv_if_eq (tgt := 41) hx hb dX5_number_34 (by decide) (fun c_13 => ?_) (fun c_13 => ?_)
      · replace hw := hw.1 c_13
        refine lv_iconst (v := (-1)) hx hb dX5_number_41 (by decide) ?_
        refine zw_iret (S := Int32) (post := fun r u => post r u) i_at_11 hx hb hr hlocks hK hW hw ?_ dX5_number_42
        rfl
      · replace hw := hw.2 c_13
        refine lv_iload_n hx hb dX5_number_37 rfl (lv_at hl 0 rfl) ?_
        refine lv_goto (tgt := 42) hx hb dX5_number_38 (by decide) ?_
        refine zw_iret (S := Int32) (post := fun r u => post r u) i_at_11 hx hb hr hlocks hK hW hw ?_ dX5_number_42
        rfl
  · replace hw := hw.1 c_3
    refine lv_iconst (v := (-1)) hx hb dX5_number_10 (by decide) ?_
    refine zw_iret (S := Int32) (post := fun r u => post r u) i_at_1 hx hb hr hlocks hK hW hw ?_ dX5_number_11
    rfl
abbrev wX5_readGate (cyI cyJ cyZ : ClassId) (h h_signs ho ho_courtA ho_courtB ho_kind ho_gone ho_court : Nat) (i_length : Int32) (i_at : Int32) (a_signs : Nat → Int32) (io_gates : Int32) (io_persons : Int32) (io_fines : Int32) (ao_courtA : Nat → Int32) (ao_courtB : Nat → Int32) (ao_kind : Nat → Int32) (ao_gone : Nat → Int32) : va_W := [(h, .inr (5, [.ref h_signs, .int i_length, .int i_at])), (h_signs, .inl (cyI, 200, .inl a_signs)), (ho, .inr (2, [.ref ho_courtA, .ref ho_courtB, .ref ho_kind, .ref ho_gone, .int io_gates, .ref ho_court, .int io_persons, .int io_fines])), (ho_courtA, .inl (cyI, 5, .inl ao_courtA)), (ho_courtB, .inl (cyI, 5, .inl ao_courtB)), (ho_kind, .inl (cyI, 5, .inl ao_kind)), (ho_gone, .inl (cyI, 5, .inl ao_gone))]
abbrev qX5_readGate (dC : Nat → ClassId) (dI : Nat → Nat → Nat) (cyI cyJ cyZ : ClassId) (h h_signs ho ho_courtA ho_courtB ho_kind ho_gone ho_court : Nat) (i_length : Int32) (i_at : Int32) (a_signs : Nat → Int32) (io_gates : Int32) (io_persons : Int32) (io_fines : Int32) (ao_courtA : Nat → Int32) (ao_courtB : Nat → Int32) (ao_kind : Nat → Int32) (ao_gone : Nat → Int32) (post : Int32 → Int32 → Int32 → (Nat → Int32) → (Nat → Int32) → (Nat → Int32) → (Nat → Int32) → Prop) (A : Nat → Prop) : Array Value → State → Outcome → State → Prop := (va_Qi (fun (r : Int32) (u : Int32 × Int32 × (Nat → Int32) × (Nat → Int32) × (Nat → Int32) × (Nat → Int32)) => (r = 0 ∨ r = 1) ∧ post r u.1 u.2.1 u.2.2.1 u.2.2.2.1 u.2.2.2.2.1 u.2.2.2.2.2) (bW (dC, dI) (tyG cyI cyJ cyZ) A (fun u : Int32 × Int32 × (Nat → Int32) × (Nat → Int32) × (Nat → Int32) × (Nat → Int32) => (wX5_readGate cyI cyJ cyZ h h_signs ho ho_courtA ho_courtB ho_kind ho_gone ho_court i_length (u.1) a_signs (u.2.1) io_persons io_fines (u.2.2.1) (u.2.2.2.1) (u.2.2.2.2.1) (u.2.2.2.2.2)))) A)
set_option maxHeartbeats 4000000 in
set_option maxRecDepth 100000 in
theorem mX5_readGate (l : Launch) (dC : Nat → ClassId) (dI : Nat → Nat → Nat) (cyI cyJ cyZ : ClassId) (h h_signs ho ho_courtA ho_courtB ho_kind ho_gone ho_court : Nat) (sz : Nat) (i_length : Int32) (i_at : Int32) (a_signs : Nat → Int32) (io_gates : Int32) (io_persons : Int32) (io_fines : Int32) (ao_courtA : Nat → Int32) (ao_courtB : Nat → Int32) (ao_kind : Nat → Int32) (ao_gone : Nat → Int32) (post : Int32 → Int32 → Int32 → (Nat → Int32) → (Nat → Int32) → (Nat → Int32) → (Nat → Int32) → Prop) (hwp : PX5_readGate i_length i_at a_signs io_gates ao_courtA ao_courtB ao_kind ao_gone post) : Met l yX5_readGate wsX5_readGate ({ frames := 3, cells := 0, slots := 0, locals := 64 } : Room) (va_Pc [.ref h, .ref ho] (pcW (dC, dI) sz (wX5_readGate cyI cyJ cyZ h h_signs ho ho_courtA ho_courtB ho_kind ho_gone ho_court i_length i_at a_signs io_gates io_persons io_fines ao_courtA ao_courtB ao_kind ao_gone) (tyG cyI cyJ cyZ))) (qX5_readGate dC dI cyI cyJ cyZ h h_signs ho ho_courtA ho_courtB ho_kind ho_gone ho_court i_length i_at a_signs io_gates io_persons io_fines ao_courtA ao_courtB ao_kind ao_gone post (va_A (wX5_readGate cyI cyJ cyZ h h_signs ho ho_courtA ho_courtB ho_kind ho_gone ho_court i_length i_at a_signs io_gates io_persons io_fines ao_courtA ao_courtB ao_kind ao_gone) sz)) 0 0 (va_A (wX5_readGate cyI cyJ cyZ h h_signs ho ho_courtA ho_courtB ho_kind ho_gone ho_court i_length i_at a_signs io_gates io_persons io_fines ao_courtA ao_courtB ao_kind ao_gone) sz) := by
  refine Met.ofW (cc := cX5_readGate) (maxL := 6) (ret := some .boolean) (by decide) rfl ?_
  intro p e s m args below meth c s₁ B hml hv
  obtain ⟨rfl, hsz, hP, hK, hD0, hN⟩ := hv
  have hx := B.exec
  have hb := B.bytes
  have hr := B.returns
  have hts := atoms_spec (ws := wsX5_readGate) B.pre
  have hown : s.vm.findClass RX5 = some m.cls := findClass_of_methodNamed B.named
  have hlocks := B.notSynchronized
  subst hsz
  have hD := hD0.self (sz := s.heap.size)
  generalize hAe : va_A (wX5_readGate cyI cyJ cyZ h h_signs ho ho_courtA ho_courtB ho_kind ho_gone ho_court i_length i_at a_signs io_gates io_persons io_fines ao_courtA ao_courtB ao_kind ao_gone) s.heap.size = A at hD ⊢
  have hA : ∀ q : Nat, s.heap.size ≤ q → A q := fun q h => by rw [← hAe]; exact Or.inr h
  have hW : Wd (dC, dI) A s.heap (wX5_readGate cyI cyJ cyZ h h_signs ho ho_courtA ho_courtB ho_kind ho_gone ho_court i_length i_at a_signs io_gates io_persons io_fines ao_courtA ao_courtB ao_kind ao_gone) s.heap [] := ⟨hP, hD, va_S.rf⟩
  have hw := hwp
  have hl := lv_entry ([.ref h, .ref ho]) (n := 6) (Nat.le_of_ble_eq_true rfl)
  rw [lg_entry_eq]
  generalize (lg_sl ([.ref h, .ref ho]) ++ List.replicate (6 - (lg_sl ([.ref h, .ref ho])).length) Slot.unset).toArray = ls at hl ⊢
  have hl : lv_has ls 6 [(0, .ref h), (1, .ref ho)] := hl
  refine lv_aload_n hx hb dX5_readGate_0 rfl (lv_at hl 0 rfl) ?_
  refine lv_bipush (v := 44) hx hb dX5_readGate_1 (by decide) ?_
  refine zw_Vi ⟨hx, hb, hml, hown, hts⟩ hK hN hA hW 0 rfl (T := TX5) (N := 3) rfl [.int 44] [] [0, 1] [2, 3, 4, 5, 6] [5, 6, 0, 1, 2, 3, 4] (fun u => (wX5_readGate cyI cyJ cyZ h h_signs ho ho_courtA ho_courtB ho_kind ho_gone ho_court i_length u a_signs io_gates io_persons io_fines ao_courtA ao_courtB ao_kind ao_gone)) (mX5_number l dC dI cyI cyJ cyZ h h_signs _ i_length i_at a_signs 44 _ hw) (cwV 1 hts gX5_readGate_X5_number rfl rfl rfl (by decide +kernel) ⟨Nat.le_of_ble_eq_true rfl, Nat.le_of_ble_eq_true rfl⟩) rfl rfl rfl rfl (by decide) rfl (fun _ => rfl) rfl hl.1 rfl (Nat.le_of_ble_eq_true rfl) (Nat.le_of_ble_eq_true rfl) (Nat.le_of_ble_eq_true rfl) dX5_readGate_3 (fun r_2 u H locs hw hW => ?_)
  obtain ⟨i_at_1, rfl⟩ : ∃ z, z = u := ⟨_, rfl⟩
  replace hW : Wd (dC, dI) A s.heap (wX5_readGate cyI cyJ cyZ h h_signs ho ho_courtA ho_courtB ho_kind ho_gone ho_court i_length i_at_1 a_signs io_gates io_persons io_fines ao_courtA ao_courtB ao_kind ao_gone) H locs := hW
  refine lv_istore_n (lv' := [(2, .int r_2), (0, .ref h), (1, .ref ho)]) hx hb dX5_readGate_6 rfl hl (by decide) rfl (fun ls hl => ?_)
  refine lv_aload_n hx hb dX5_readGate_7 rfl (lv_at hl 1 rfl) ?_
  refine lv_bipush (v := 44) hx hb dX5_readGate_8 (by decide) ?_
  refine zw_Vi ⟨hx, hb, hml, hown, hts⟩ hK hN hA hW 0 rfl (T := TX5) (N := 3) rfl [.int 44] [] [0, 1] [2, 3, 4, 5, 6] [5, 6, 0, 1, 2, 3, 4] (fun u => (wX5_readGate cyI cyJ cyZ h h_signs ho ho_courtA ho_courtB ho_kind ho_gone ho_court i_length u a_signs io_gates io_persons io_fines ao_courtA ao_courtB ao_kind ao_gone)) (mX5_number l dC dI cyI cyJ cyZ h h_signs _ i_length i_at_1 a_signs 44 _ hw) (cwV 1 hts gX5_readGate_X5_number rfl rfl rfl (by decide +kernel) ⟨Nat.le_of_ble_eq_true rfl, Nat.le_of_ble_eq_true rfl⟩) rfl rfl rfl rfl (by decide) rfl (fun _ => rfl) rfl hl.1 rfl (Nat.le_of_ble_eq_true rfl) (Nat.le_of_ble_eq_true rfl) (Nat.le_of_ble_eq_true rfl) dX5_readGate_10 (fun r_4 u H locs hw hW => ?_)
  obtain ⟨i_at_3, rfl⟩ : ∃ z, z = u := ⟨_, rfl⟩
  replace hW : Wd (dC, dI) A s.heap (wX5_readGate cyI cyJ cyZ h h_signs ho ho_courtA ho_courtB ho_kind ho_gone ho_court i_length i_at_3 a_signs io_gates io_persons io_fines ao_courtA ao_courtB ao_kind ao_gone) H locs := hW
  refine lv_istore_n (lv' := [(3, .int r_4), (2, .int r_2), (0, .ref h), (1, .ref ho)]) hx hb dX5_readGate_13 rfl hl (by decide) rfl (fun ls hl => ?_)
  refine lv_aload_n hx hb dX5_readGate_14 rfl (lv_at hl 2 rfl) ?_
  refine lv_bipush (v := 44) hx hb dX5_readGate_15 (by decide) ?_
  refine zw_Vi ⟨hx, hb, hml, hown, hts⟩ hK hN hA hW 0 rfl (T := TX5) (N := 3) rfl [.int 44] [] [0, 1] [2, 3, 4, 5, 6] [5, 6, 0, 1, 2, 3, 4] (fun u => (wX5_readGate cyI cyJ cyZ h h_signs ho ho_courtA ho_courtB ho_kind ho_gone ho_court i_length u a_signs io_gates io_persons io_fines ao_courtA ao_courtB ao_kind ao_gone)) (mX5_number l dC dI cyI cyJ cyZ h h_signs _ i_length i_at_3 a_signs 44 _ hw) (cwV 1 hts gX5_readGate_X5_number rfl rfl rfl (by decide +kernel) ⟨Nat.le_of_ble_eq_true rfl, Nat.le_of_ble_eq_true rfl⟩) rfl rfl rfl rfl (by decide) rfl (fun _ => rfl) rfl hl.1 rfl (Nat.le_of_ble_eq_true rfl) (Nat.le_of_ble_eq_true rfl) (Nat.le_of_ble_eq_true rfl) dX5_readGate_17 (fun r_6 u H locs hw hW => ?_)
  obtain ⟨i_at_5, rfl⟩ : ∃ z, z = u := ⟨_, rfl⟩
  replace hW : Wd (dC, dI) A s.heap (wX5_readGate cyI cyJ cyZ h h_signs ho ho_courtA ho_courtB ho_kind ho_gone ho_court i_length i_at_5 a_signs io_gates io_persons io_fines ao_courtA ao_courtB ao_kind ao_gone) H locs := hW
  refine lv_istore (lv' := [(4, .int r_6), (3, .int r_4), (2, .int r_2), (0, .ref h), (1, .ref ho)]) hx hb dX5_readGate_20 hl (by decide) rfl (fun ls hl => ?_)
  refine lv_aload_n hx hb dX5_readGate_22 rfl (lv_at hl 3 rfl) ?_
  refine lv_bipush (v := 59) hx hb dX5_readGate_23 (by decide) ?_
  refine zw_Vi ⟨hx, hb, hml, hown, hts⟩ hK hN hA hW 0 rfl (T := TX5) (N := 3) rfl [.int 59] [] [0, 1] [2, 3, 4, 5, 6] [5, 6, 0, 1, 2, 3, 4] (fun u => (wX5_readGate cyI cyJ cyZ h h_signs ho ho_courtA ho_courtB ho_kind ho_gone ho_court i_length u a_signs io_gates io_persons io_fines ao_courtA ao_courtB ao_kind ao_gone)) (mX5_number l dC dI cyI cyJ cyZ h h_signs _ i_length i_at_5 a_signs 59 _ hw) (cwV 1 hts gX5_readGate_X5_number rfl rfl rfl (by decide +kernel) ⟨Nat.le_of_ble_eq_true rfl, Nat.le_of_ble_eq_true rfl⟩) rfl rfl rfl rfl (by decide) rfl (fun _ => rfl) rfl hl.1 rfl (Nat.le_of_ble_eq_true rfl) (Nat.le_of_ble_eq_true rfl) (Nat.le_of_ble_eq_true rfl) dX5_readGate_25 (fun r_8 u H locs hw hW => ?_)
  obtain ⟨i_at_7, rfl⟩ : ∃ z, z = u := ⟨_, rfl⟩
  replace hW : Wd (dC, dI) A s.heap (wX5_readGate cyI cyJ cyZ h h_signs ho ho_courtA ho_courtB ho_kind ho_gone ho_court i_length i_at_7 a_signs io_gates io_persons io_fines ao_courtA ao_courtB ao_kind ao_gone) H locs := hW
  refine lv_istore (lv' := [(5, .int r_8), (4, .int r_6), (3, .int r_4), (2, .int r_2), (0, .ref h), (1, .ref ho)]) hx hb dX5_readGate_28 hl (by decide) rfl (fun ls hl => ?_)
  refine lv_aload_n hx hb dX5_readGate_30 rfl (lv_at hl 5 rfl) ?_
  refine lv_iload_n hx hb dX5_readGate_31 rfl (lv_at hl 3 rfl) ?_
  refine lv_iload_n hx hb dX5_readGate_32 rfl (lv_at hl 2 rfl) ?_
  refine lv_iload hx hb dX5_readGate_33 (lv_at hl 1 rfl) ?_
  refine lv_iload hx hb dX5_readGate_35 (lv_at hl 0 rfl) ?_
  refine zw_Vi ⟨hx, hb, hml, hown, hts⟩ hK hN hA hW 2 rfl (T := TX2) (N := 8) rfl [.int r_2, .int r_4, .int r_6, .int r_8] [] [2, 3, 4, 5, 6] [0, 1] [0, 1, 2, 3, 4, 5, 6] (fun u => (wX5_readGate cyI cyJ cyZ h h_signs ho ho_courtA ho_courtB ho_kind ho_gone ho_court i_length i_at_7 a_signs (u.1) io_persons io_fines (u.2.1) (u.2.2.1) (u.2.2.2.1) (u.2.2.2.2))) (mX2_addGate l dC dI cyI cyJ cyZ ho ho_courtA ho_courtB ho_kind ho_gone ho_court _ io_gates io_persons io_fines ao_courtA ao_courtB ao_kind ao_gone r_2 r_4 r_6 r_8 _ hw) (cwV 4 hts gX5_readGate_X2_addGate rfl rfl rfl (by decide +kernel) ⟨Nat.le_of_ble_eq_true rfl, Nat.le_of_ble_eq_true rfl⟩) rfl rfl rfl rfl (by decide) rfl (fun _ => rfl) rfl hl.1 rfl (Nat.le_of_ble_eq_true rfl) (Nat.le_of_ble_eq_true rfl) (Nat.le_of_ble_eq_true rfl) dX5_readGate_37 (fun r_14 u H locs hw hW => ?_)
  obtain ⟨io_gates_9, ao_courtA_10, ao_courtB_11, ao_kind_12, ao_gone_13⟩ := u
  try dsimp only at hw
  replace hW : Wd (dC, dI) A s.heap (wX5_readGate cyI cyJ cyZ h h_signs ho ho_courtA ho_courtB ho_kind ho_gone ho_court i_length i_at_7 a_signs io_gates_9 io_persons io_fines ao_courtA_10 ao_courtB_11 ao_kind_12 ao_gone_13) H locs := hW
  obtain ⟨br_14, hw⟩ := hw
  refine zw_zret (S := Int32 × Int32 × (Nat → Int32) × (Nat → Int32) × (Nat → Int32) × (Nat → Int32)) (post := fun r u => post r u.1 u.2.1 u.2.2.1 u.2.2.2.1 u.2.2.2.2.1 u.2.2.2.2.2) (i_at_7, io_gates_9, ao_courtA_10, ao_courtB_11, ao_kind_12, ao_gone_13) hx hb hr hlocks hK hW br_14 hw ?_ dX5_readGate_40
  rfl
abbrev wX5_readPersons (cyI cyJ cyZ : ClassId) (h h_signs ho ho_courtA ho_courtB ho_kind ho_gone ho_court : Nat) (i_length : Int32) (i_at : Int32) (a_signs : Nat → Int32) (io_gates : Int32) (io_persons : Int32) (io_fines : Int32) (ao_court : Nat → Int32) : va_W := [(h, .inr (5, [.ref h_signs, .int i_length, .int i_at])), (h_signs, .inl (cyI, 200, .inl a_signs)), (ho, .inr (2, [.ref ho_courtA, .ref ho_courtB, .ref ho_kind, .ref ho_gone, .int io_gates, .ref ho_court, .int io_persons, .int io_fines])), (ho_court, .inl (cyI, 3, .inl ao_court))]
abbrev qX5_readPersons (dC : Nat → ClassId) (dI : Nat → Nat → Nat) (cyI cyJ cyZ : ClassId) (h h_signs ho ho_courtA ho_courtB ho_kind ho_gone ho_court : Nat) (i_length : Int32) (i_at : Int32) (a_signs : Nat → Int32) (io_gates : Int32) (io_persons : Int32) (io_fines : Int32) (ao_court : Nat → Int32) (post : Int32 → Int32 → Int32 → (Nat → Int32) → Prop) (A : Nat → Prop) : Array Value → State → Outcome → State → Prop := (va_Qi (fun (r : Int32) (u : Int32 × Int32 × (Nat → Int32)) => (r = 0 ∨ r = 1) ∧ post r u.1 u.2.1 u.2.2) (bW (dC, dI) (tyG cyI cyJ cyZ) A (fun u : Int32 × Int32 × (Nat → Int32) => (wX5_readPersons cyI cyJ cyZ h h_signs ho ho_courtA ho_courtB ho_kind ho_gone ho_court i_length (u.1) a_signs io_gates (u.2.1) io_fines (u.2.2)))) A)
set_option maxHeartbeats 4000000 in
set_option maxRecDepth 100000 in
theorem mX5_readPersons (l : Launch) (dC : Nat → ClassId) (dI : Nat → Nat → Nat) (cyI cyJ cyZ : ClassId) (h h_signs ho ho_courtA ho_courtB ho_kind ho_gone ho_court : Nat) (sz : Nat) (i_length : Int32) (i_at : Int32) (a_signs : Nat → Int32) (io_gates : Int32) (io_persons : Int32) (io_fines : Int32) (ao_court : Nat → Int32) (post : Int32 → Int32 → Int32 → (Nat → Int32) → Prop) (hwp : PX5_readPersons i_length i_at a_signs io_persons ao_court post) : Met l yX5_readPersons wsX5_readPersons ({ frames := 3, cells := 0, slots := 0, locals := 64 } : Room) (va_Pc [.ref h, .ref ho] (pcW (dC, dI) sz (wX5_readPersons cyI cyJ cyZ h h_signs ho ho_courtA ho_courtB ho_kind ho_gone ho_court i_length i_at a_signs io_gates io_persons io_fines ao_court) (tyG cyI cyJ cyZ))) (qX5_readPersons dC dI cyI cyJ cyZ h h_signs ho ho_courtA ho_courtB ho_kind ho_gone ho_court i_length i_at a_signs io_gates io_persons io_fines ao_court post (va_A (wX5_readPersons cyI cyJ cyZ h h_signs ho ho_courtA ho_courtB ho_kind ho_gone ho_court i_length i_at a_signs io_gates io_persons io_fines ao_court) sz)) 0 0 (va_A (wX5_readPersons cyI cyJ cyZ h h_signs ho ho_courtA ho_courtB ho_kind ho_gone ho_court i_length i_at a_signs io_gates io_persons io_fines ao_court) sz) := by
  refine Met.ofW (cc := cX5_readPersons) (maxL := 3) (ret := some .boolean) (by decide) rfl ?_
  intro p e s m args below meth c s₁ B hml hv
  obtain ⟨rfl, hsz, hP, hK, hD0, hN⟩ := hv
  have hx := B.exec
  have hb := B.bytes
  have hr := B.returns
  have hts := atoms_spec (ws := wsX5_readPersons) B.pre
  have hown : s.vm.findClass RX5 = some m.cls := findClass_of_methodNamed B.named
  have hlocks := B.notSynchronized
  subst hsz
  have hD := hD0.self (sz := s.heap.size)
  generalize hAe : va_A (wX5_readPersons cyI cyJ cyZ h h_signs ho ho_courtA ho_courtB ho_kind ho_gone ho_court i_length i_at a_signs io_gates io_persons io_fines ao_court) s.heap.size = A at hD ⊢
  have hA : ∀ q : Nat, s.heap.size ≤ q → A q := fun q h => by rw [← hAe]; exact Or.inr h
  have hW : Wd (dC, dI) A s.heap (wX5_readPersons cyI cyJ cyZ h h_signs ho ho_courtA ho_courtB ho_kind ho_gone ho_court i_length i_at a_signs io_gates io_persons io_fines ao_court) s.heap [] := ⟨hP, hD, va_S.rf⟩
  have hw := hwp
  have hl := lv_entry ([.ref h, .ref ho]) (n := 3) (Nat.le_of_ble_eq_true rfl)
  rw [lg_entry_eq]
  generalize (lg_sl ([.ref h, .ref ho]) ++ List.replicate (3 - (lg_sl ([.ref h, .ref ho])).length) Slot.unset).toArray = ls at hl ⊢
  have hl : lv_has ls 3 [(0, .ref h), (1, .ref ho)] := hl
  refine lv_aload_n hx hb dX5_readPersons_0 rfl (lv_at hl 0 rfl) ?_
  refine lv_bipush (v := 59) hx hb dX5_readPersons_1 (by decide) ?_
  refine zw_Vi ⟨hx, hb, hml, hown, hts⟩ hK hN hA hW 0 rfl (T := TX5) (N := 3) rfl [.int 59] [] [0, 1] [2, 3] [2, 3, 0, 1] (fun u => (wX5_readPersons cyI cyJ cyZ h h_signs ho ho_courtA ho_courtB ho_kind ho_gone ho_court i_length u a_signs io_gates io_persons io_fines ao_court)) (mX5_number l dC dI cyI cyJ cyZ h h_signs _ i_length i_at a_signs 59 _ hw) (cwV 1 hts gX5_readPersons_X5_number rfl rfl rfl (by decide +kernel) ⟨Nat.le_of_ble_eq_true rfl, Nat.le_of_ble_eq_true rfl⟩) rfl rfl rfl rfl (by decide) rfl (fun _ => rfl) rfl hl.1 rfl (Nat.le_of_ble_eq_true rfl) (Nat.le_of_ble_eq_true rfl) (Nat.le_of_ble_eq_true rfl) dX5_readPersons_3 (fun r_2 u H locs hw hW => ?_)
  obtain ⟨i_at_1, rfl⟩ : ∃ z, z = u := ⟨_, rfl⟩
  replace hW : Wd (dC, dI) A s.heap (wX5_readPersons cyI cyJ cyZ h h_signs ho ho_courtA ho_courtB ho_kind ho_gone ho_court i_length i_at_1 a_signs io_gates io_persons io_fines ao_court) H locs := hW
  refine lv_istore_n (lv' := [(2, .int r_2), (0, .ref h), (1, .ref ho)]) hx hb dX5_readPersons_6 rfl hl (by decide) rfl (fun ls hl => ?_)
  refine lv_iload_n hx hb dX5_readPersons_7 rfl (lv_at hl 0 rfl) ?_
  refine lv_iconst (v := 1) hx hb dX5_readPersons_8 (by decide) ?_
  refine lv_icmp_lt (tgt := 17) hx hb dX5_readPersons_9 (by decide) (fun c_3 => ?_) (fun c_3 => ?_)
  · replace hw := hw.1 c_3
    refine lv_iconst (v := 0) hx hb dX5_readPersons_17 (by decide) ?_
    refine zw_zret (S := Int32 × Int32 × (Nat → Int32)) (post := fun r u => post r u.1 u.2.1 u.2.2) (i_at_1, io_persons, ao_court) hx hb hr hlocks hK hW (Or.inl rfl) hw ?_ dX5_readPersons_18
    rfl
  · replace hw := hw.2 c_3
    refine lv_iload_n hx hb dX5_readPersons_12 rfl (lv_at hl 0 rfl) ?_
    refine lv_iconst (v := 3) hx hb dX5_readPersons_13 (by decide) ?_
    refine lv_icmp_le (tgt := 19) hx hb dX5_readPersons_14 (by decide) (fun c_4 => ?_) (fun c_4 => ?_)
    · replace hw := hw.1 c_4
      refine lv_aload_n hx hb dX5_readPersons_19 rfl (lv_at hl 2 rfl) ?_
      refine lv_iload_n hx hb dX5_readPersons_20 rfl (lv_at hl 0 rfl) ?_
      refine zw_Vv ⟨hx, hb, hml, hown, hts⟩ hK hN hA hW 2 rfl (T := TX2) (N := 8) rfl [.int r_2] [] [2, 3] [0, 1] [0, 1, 2, 3] (fun u => (wX5_readPersons cyI cyJ cyZ h h_signs ho ho_courtA ho_courtB ho_kind ho_gone ho_court i_length i_at_1 a_signs io_gates (u.1) io_fines (u.2))) (mX2_gather l dC dI cyI cyJ cyZ ho ho_courtA ho_courtB ho_kind ho_gone ho_court _ io_gates io_persons io_fines ao_court r_2 _ hw) (cwV 1 hts gX5_readPersons_X2_gather rfl rfl rfl (by decide +kernel) ⟨Nat.le_of_ble_eq_true rfl, Nat.le_of_ble_eq_true rfl⟩) rfl rfl rfl rfl (by decide) rfl (fun _ => rfl) rfl hl.1 rfl (Nat.le_of_ble_eq_true rfl) (Nat.le_of_ble_eq_true rfl) (Nat.le_of_ble_eq_true rfl) dX5_readPersons_21 (fun u H locs hw hW => ?_)
      obtain ⟨io_persons_5, ao_court_6⟩ := u
      try dsimp only at hw
      replace hW : Wd (dC, dI) A s.heap (wX5_readPersons cyI cyJ cyZ h h_signs ho ho_courtA ho_courtB ho_kind ho_gone ho_court i_length i_at_1 a_signs io_gates io_persons_5 io_fines ao_court_6) H locs := hW
      refine lv_iconst (v := 1) hx hb dX5_readPersons_24 (by decide) ?_
      refine zw_zret (S := Int32 × Int32 × (Nat → Int32)) (post := fun r u => post r u.1 u.2.1 u.2.2) (i_at_1, io_persons_5, ao_court_6) hx hb hr hlocks hK hW (Or.inr rfl) hw ?_ dX5_readPersons_25
      rfl
    · replace hw := hw.2 c_4
      refine lv_iconst (v := 0) hx hb dX5_readPersons_17 (by decide) ?_
      refine zw_zret (S := Int32 × Int32 × (Nat → Int32)) (post := fun r u => post r u.1 u.2.1 u.2.2) (i_at_1, io_persons, ao_court) hx hb hr hlocks hK hW (Or.inl rfl) hw ?_ dX5_readPersons_18
      rfl
abbrev wX5_readItem (cyI cyJ cyZ : ClassId) (h h_signs ho ho_courtA ho_courtB ho_kind ho_gone ho_court : Nat) (i_length : Int32) (i_at : Int32) (a_signs : Nat → Int32) (io_gates : Int32) (io_persons : Int32) (io_fines : Int32) (ao_courtA : Nat → Int32) (ao_courtB : Nat → Int32) (ao_kind : Nat → Int32) (ao_gone : Nat → Int32) (ao_court : Nat → Int32) : va_W := [(h, .inr (5, [.ref h_signs, .int i_length, .int i_at])), (h_signs, .inl (cyI, 200, .inl a_signs)), (ho, .inr (2, [.ref ho_courtA, .ref ho_courtB, .ref ho_kind, .ref ho_gone, .int io_gates, .ref ho_court, .int io_persons, .int io_fines])), (ho_courtA, .inl (cyI, 5, .inl ao_courtA)), (ho_courtB, .inl (cyI, 5, .inl ao_courtB)), (ho_kind, .inl (cyI, 5, .inl ao_kind)), (ho_gone, .inl (cyI, 5, .inl ao_gone)), (ho_court, .inl (cyI, 3, .inl ao_court))]
abbrev qX5_readItem (dC : Nat → ClassId) (dI : Nat → Nat → Nat) (cyI cyJ cyZ : ClassId) (h h_signs ho ho_courtA ho_courtB ho_kind ho_gone ho_court : Nat) (i_length : Int32) (i_at : Int32) (a_signs : Nat → Int32) (io_gates : Int32) (io_persons : Int32) (io_fines : Int32) (ao_courtA : Nat → Int32) (ao_courtB : Nat → Int32) (ao_kind : Nat → Int32) (ao_gone : Nat → Int32) (ao_court : Nat → Int32) (post : Int32 → Int32 → Int32 → Int32 → (Nat → Int32) → (Nat → Int32) → (Nat → Int32) → (Nat → Int32) → (Nat → Int32) → Prop) (A : Nat → Prop) : Array Value → State → Outcome → State → Prop := (va_Qi (fun (r : Int32) (u : Int32 × Int32 × Int32 × (Nat → Int32) × (Nat → Int32) × (Nat → Int32) × (Nat → Int32) × (Nat → Int32)) => (r = 0 ∨ r = 1) ∧ post r u.1 u.2.1 u.2.2.1 u.2.2.2.1 u.2.2.2.2.1 u.2.2.2.2.2.1 u.2.2.2.2.2.2.1 u.2.2.2.2.2.2.2) (bW (dC, dI) (tyG cyI cyJ cyZ) A (fun u : Int32 × Int32 × Int32 × (Nat → Int32) × (Nat → Int32) × (Nat → Int32) × (Nat → Int32) × (Nat → Int32) => (wX5_readItem cyI cyJ cyZ h h_signs ho ho_courtA ho_courtB ho_kind ho_gone ho_court i_length (u.1) a_signs (u.2.1) (u.2.2.1) io_fines (u.2.2.2.1) (u.2.2.2.2.1) (u.2.2.2.2.2.1) (u.2.2.2.2.2.2.1) (u.2.2.2.2.2.2.2)))) A)
set_option maxHeartbeats 4000000 in
set_option maxRecDepth 100000 in
theorem mX5_readItem (l : Launch) (dC : Nat → ClassId) (dI : Nat → Nat → Nat) (cyI cyJ cyZ : ClassId) (h h_signs ho ho_courtA ho_courtB ho_kind ho_gone ho_court : Nat) (sz : Nat) (i_length : Int32) (i_at : Int32) (a_signs : Nat → Int32) (io_gates : Int32) (io_persons : Int32) (io_fines : Int32) (ao_courtA : Nat → Int32) (ao_courtB : Nat → Int32) (ao_kind : Nat → Int32) (ao_gone : Nat → Int32) (ao_court : Nat → Int32) (post : Int32 → Int32 → Int32 → Int32 → (Nat → Int32) → (Nat → Int32) → (Nat → Int32) → (Nat → Int32) → (Nat → Int32) → Prop) (hwp : PX5_readItem i_length i_at a_signs io_gates io_persons ao_courtA ao_courtB ao_kind ao_gone ao_court post) : Met l yX5_readItem wsX5_readItem ({ frames := 4, cells := 0, slots := 0, locals := 89 } : Room) (va_Pc [.ref h, .ref ho] (pcW (dC, dI) sz (wX5_readItem cyI cyJ cyZ h h_signs ho ho_courtA ho_courtB ho_kind ho_gone ho_court i_length i_at a_signs io_gates io_persons io_fines ao_courtA ao_courtB ao_kind ao_gone ao_court) (tyG cyI cyJ cyZ))) (qX5_readItem dC dI cyI cyJ cyZ h h_signs ho ho_courtA ho_courtB ho_kind ho_gone ho_court i_length i_at a_signs io_gates io_persons io_fines ao_courtA ao_courtB ao_kind ao_gone ao_court post (va_A (wX5_readItem cyI cyJ cyZ h h_signs ho ho_courtA ho_courtB ho_kind ho_gone ho_court i_length i_at a_signs io_gates io_persons io_fines ao_courtA ao_courtB ao_kind ao_gone ao_court) sz)) 0 0 (va_A (wX5_readItem cyI cyJ cyZ h h_signs ho ho_courtA ho_courtB ho_kind ho_gone ho_court i_length i_at a_signs io_gates io_persons io_fines ao_courtA ao_courtB ao_kind ao_gone ao_court) sz) := by
  refine Met.ofW (cc := cX5_readItem) (maxL := 2) (ret := some .boolean) (by decide) rfl ?_
  intro p e s m args below meth c s₁ B hml hv
  obtain ⟨rfl, hsz, hP, hK, hD0, hN⟩ := hv
  have hx := B.exec
  have hb := B.bytes
  have hr := B.returns
  have hts := atoms_spec (ws := wsX5_readItem) B.pre
  have hown : s.vm.findClass RX5 = some m.cls := findClass_of_methodNamed B.named
  have hlocks := B.notSynchronized
  subst hsz
  have hD := hD0.self (sz := s.heap.size)
  generalize hAe : va_A (wX5_readItem cyI cyJ cyZ h h_signs ho ho_courtA ho_courtB ho_kind ho_gone ho_court i_length i_at a_signs io_gates io_persons io_fines ao_courtA ao_courtB ao_kind ao_gone ao_court) s.heap.size = A at hD ⊢
  have hA : ∀ q : Nat, s.heap.size ≤ q → A q := fun q h => by rw [← hAe]; exact Or.inr h
  have hW : Wd (dC, dI) A s.heap (wX5_readItem cyI cyJ cyZ h h_signs ho ho_courtA ho_courtB ho_kind ho_gone ho_court i_length i_at a_signs io_gates io_persons io_fines ao_courtA ao_courtB ao_kind ao_gone ao_court) s.heap [] := ⟨hP, hD, va_S.rf⟩
  have hw := hwp
  have hl := lv_entry ([.ref h, .ref ho]) (n := 2) (Nat.le_of_ble_eq_true rfl)
  rw [lg_entry_eq]
  generalize (lg_sl ([.ref h, .ref ho]) ++ List.replicate (2 - (lg_sl ([.ref h, .ref ho])).length) Slot.unset).toArray = ls at hl ⊢
  have hl : lv_has ls 2 [(0, .ref h), (1, .ref ho)] := hl
  refine lv_aload_n hx hb dX5_readItem_0 rfl (lv_at hl 0 rfl) ?_
  refine lv_bipush (v := 103) hx hb dX5_readItem_1 (by decide) ?_
  refine zw_Vi ⟨hx, hb, hml, hown, hts⟩ hK hN hA hW 0 rfl (T := TX5) (N := 3) rfl [.int 103] [] [0, 1] [2, 3, 4, 5, 6, 7] [6, 7, 0, 1, 2, 3, 4, 5] (fun u => (wX5_readItem cyI cyJ cyZ h h_signs ho ho_courtA ho_courtB ho_kind ho_gone ho_court i_length u a_signs io_gates io_persons io_fines ao_courtA ao_courtB ao_kind ao_gone ao_court)) (mX5_takes l dC dI cyI cyJ cyZ h h_signs _ i_length i_at a_signs 103 _ hw) (cwV 1 hts gX5_readItem_X5_takes rfl rfl rfl (by decide +kernel) ⟨Nat.le_of_ble_eq_true rfl, Nat.le_of_ble_eq_true rfl⟩) rfl rfl rfl rfl (by decide) rfl (fun _ => rfl) rfl hl.1 rfl (Nat.le_of_ble_eq_true rfl) (Nat.le_of_ble_eq_true rfl) (Nat.le_of_ble_eq_true rfl) dX5_readItem_3 (fun r_2 u H locs hw hW => ?_)
  obtain ⟨i_at_1, rfl⟩ : ∃ z, z = u := ⟨_, rfl⟩
  replace hW : Wd (dC, dI) A s.heap (wX5_readItem cyI cyJ cyZ h h_signs ho ho_courtA ho_courtB ho_kind ho_gone ho_court i_length i_at_1 a_signs io_gates io_persons io_fines ao_courtA ao_courtB ao_kind ao_gone ao_court) H locs := hW
  obtain ⟨br_2, hw⟩ := hw
  refine lv_if_eq (tgt := 15) hx hb dX5_readItem_6 (by decide) (fun c_3 => ?_) (fun c_3 => ?_)
  · replace hw := hw.1 c_3
    refine lv_aload_n hx hb dX5_readItem_15 rfl (lv_at hl 0 rfl) ?_
    refine lv_bipush (v := 110) hx hb dX5_readItem_16 (by decide) ?_
    refine zw_Vi ⟨hx, hb, hml, hown, hts⟩ hK hN hA hW 0 rfl (T := TX5) (N := 3) rfl [.int 110] [] [0, 1] [2, 3, 4, 5, 6, 7] [6, 7, 0, 1, 2, 3, 4, 5] (fun u => (wX5_readItem cyI cyJ cyZ h h_signs ho ho_courtA ho_courtB ho_kind ho_gone ho_court i_length u a_signs io_gates io_persons io_fines ao_courtA ao_courtB ao_kind ao_gone ao_court)) (mX5_takes l dC dI cyI cyJ cyZ h h_signs _ i_length i_at_1 a_signs 110 _ hw) (cwV 1 hts gX5_readItem_X5_takes rfl rfl rfl (by decide +kernel) ⟨Nat.le_of_ble_eq_true rfl, Nat.le_of_ble_eq_true rfl⟩) rfl rfl rfl rfl (by decide) rfl (fun _ => rfl) rfl hl.1 rfl (Nat.le_of_ble_eq_true rfl) (Nat.le_of_ble_eq_true rfl) (Nat.le_of_ble_eq_true rfl) dX5_readItem_18 (fun r_5 u H locs hw hW => ?_)
    obtain ⟨i_at_4, rfl⟩ : ∃ z, z = u := ⟨_, rfl⟩
    replace hW : Wd (dC, dI) A s.heap (wX5_readItem cyI cyJ cyZ h h_signs ho ho_courtA ho_courtB ho_kind ho_gone ho_court i_length i_at_4 a_signs io_gates io_persons io_fines ao_courtA ao_courtB ao_kind ao_gone ao_court) H locs := hW
    obtain ⟨br_5, hw⟩ := hw
    refine lv_if_eq (tgt := 36) hx hb dX5_readItem_21 (by decide) (fun c_6 => ?_) (fun c_6 => ?_)
    · replace hw := hw.1 c_6
      refine lv_iconst (v := 0) hx hb dX5_readItem_36 (by decide) ?_
      refine zw_zret (S := Int32 × Int32 × Int32 × (Nat → Int32) × (Nat → Int32) × (Nat → Int32) × (Nat → Int32) × (Nat → Int32)) (post := fun r u => post r u.1 u.2.1 u.2.2.1 u.2.2.2.1 u.2.2.2.2.1 u.2.2.2.2.2.1 u.2.2.2.2.2.2.1 u.2.2.2.2.2.2.2) (i_at_4, io_gates, io_persons, ao_courtA, ao_courtB, ao_kind, ao_gone, ao_court) hx hb hr hlocks hK hW (Or.inl rfl) hw ?_ dX5_readItem_37
      rfl
    · replace hw := hw.2 c_6
      refine lv_aload_n hx hb dX5_readItem_24 rfl (lv_at hl 0 rfl) ?_
      refine lv_aload_n hx hb dX5_readItem_25 rfl (lv_at hl 1 rfl) ?_
      refine zw_Vi ⟨hx, hb, hml, hown, hts⟩ hK hN hA hW 0 rfl (T := TX5) (N := 3) rfl [.ref ho] [] [0, 1, 2, 7] [3, 4, 5, 6] [4, 5, 6, 0, 1, 2, 3, 7] (fun u => (wX5_readItem cyI cyJ cyZ h h_signs ho ho_courtA ho_courtB ho_kind ho_gone ho_court i_length (u.1) a_signs io_gates (u.2.1) io_fines ao_courtA ao_courtB ao_kind ao_gone (u.2.2))) (mX5_readPersons l dC dI cyI cyJ cyZ h h_signs ho ho_courtA ho_courtB ho_kind ho_gone ho_court _ i_length i_at_4 a_signs io_gates io_persons io_fines ao_court _ hw) (cwV 1 hts gX5_readItem_X5_readPersons rfl rfl rfl (by decide +kernel) ⟨Nat.le_of_ble_eq_true rfl, Nat.le_of_ble_eq_true rfl⟩) rfl rfl rfl rfl (by decide) rfl (fun _ => rfl) rfl hl.1 rfl (Nat.le_of_ble_eq_true rfl) (Nat.le_of_ble_eq_true rfl) (Nat.le_of_ble_eq_true rfl) dX5_readItem_26 (fun r_10 u H locs hw hW => ?_)
      obtain ⟨i_at_7, io_persons_8, ao_court_9⟩ := u
      try dsimp only at hw
      replace hW : Wd (dC, dI) A s.heap (wX5_readItem cyI cyJ cyZ h h_signs ho ho_courtA ho_courtB ho_kind ho_gone ho_court i_length i_at_7 a_signs io_gates io_persons_8 io_fines ao_courtA ao_courtB ao_kind ao_gone ao_court_9) H locs := hW
      obtain ⟨br_10, hw⟩ := hw
      refine lv_if_eq (tgt := 36) hx hb dX5_readItem_29 (by decide) (fun c_11 => ?_) (fun c_11 => ?_)
      · replace hw := hw.1 c_11
        refine lv_iconst (v := 0) hx hb dX5_readItem_36 (by decide) ?_
        refine zw_zret (S := Int32 × Int32 × Int32 × (Nat → Int32) × (Nat → Int32) × (Nat → Int32) × (Nat → Int32) × (Nat → Int32)) (post := fun r u => post r u.1 u.2.1 u.2.2.1 u.2.2.2.1 u.2.2.2.2.1 u.2.2.2.2.2.1 u.2.2.2.2.2.2.1 u.2.2.2.2.2.2.2) (i_at_7, io_gates, io_persons_8, ao_courtA, ao_courtB, ao_kind, ao_gone, ao_court_9) hx hb hr hlocks hK hW (Or.inl rfl) hw ?_ dX5_readItem_37
        rfl
      · replace hw := hw.2 c_11
        refine lv_iconst (v := 1) hx hb dX5_readItem_32 (by decide) ?_
        refine lv_goto (tgt := 37) hx hb dX5_readItem_33 (by decide) ?_
        refine zw_zret (S := Int32 × Int32 × Int32 × (Nat → Int32) × (Nat → Int32) × (Nat → Int32) × (Nat → Int32) × (Nat → Int32)) (post := fun r u => post r u.1 u.2.1 u.2.2.1 u.2.2.2.1 u.2.2.2.2.1 u.2.2.2.2.2.1 u.2.2.2.2.2.2.1 u.2.2.2.2.2.2.2) (i_at_7, io_gates, io_persons_8, ao_courtA, ao_courtB, ao_kind, ao_gone, ao_court_9) hx hb hr hlocks hK hW (Or.inr rfl) hw ?_ dX5_readItem_37
        rfl
  · replace hw := hw.2 c_3
    refine lv_aload_n hx hb dX5_readItem_9 rfl (lv_at hl 0 rfl) ?_
    refine lv_aload_n hx hb dX5_readItem_10 rfl (lv_at hl 1 rfl) ?_
    refine zw_Vi ⟨hx, hb, hml, hown, hts⟩ hK hN hA hW 0 rfl (T := TX5) (N := 3) rfl [.ref ho] [] [0, 1, 2, 3, 4, 5, 6] [7] [1, 2, 3, 4, 5, 6, 7, 0] (fun u => (wX5_readItem cyI cyJ cyZ h h_signs ho ho_courtA ho_courtB ho_kind ho_gone ho_court i_length (u.1) a_signs (u.2.1) io_persons io_fines (u.2.2.1) (u.2.2.2.1) (u.2.2.2.2.1) (u.2.2.2.2.2) ao_court)) (mX5_readGate l dC dI cyI cyJ cyZ h h_signs ho ho_courtA ho_courtB ho_kind ho_gone ho_court _ i_length i_at_1 a_signs io_gates io_persons io_fines ao_courtA ao_courtB ao_kind ao_gone _ hw) (cwV 1 hts gX5_readItem_X5_readGate rfl rfl rfl (by decide +kernel) ⟨Nat.le_of_ble_eq_true rfl, Nat.le_of_ble_eq_true rfl⟩) rfl rfl rfl rfl (by decide) rfl (fun _ => rfl) rfl hl.1 rfl (Nat.le_of_ble_eq_true rfl) (Nat.le_of_ble_eq_true rfl) (Nat.le_of_ble_eq_true rfl) dX5_readItem_11 (fun r_18 u H locs hw hW => ?_)
    obtain ⟨i_at_12, io_gates_13, ao_courtA_14, ao_courtB_15, ao_kind_16, ao_gone_17⟩ := u
    try dsimp only at hw
    replace hW : Wd (dC, dI) A s.heap (wX5_readItem cyI cyJ cyZ h h_signs ho ho_courtA ho_courtB ho_kind ho_gone ho_court i_length i_at_12 a_signs io_gates_13 io_persons io_fines ao_courtA_14 ao_courtB_15 ao_kind_16 ao_gone_17 ao_court) H locs := hW
    obtain ⟨br_18, hw⟩ := hw
    refine zw_zret (S := Int32 × Int32 × Int32 × (Nat → Int32) × (Nat → Int32) × (Nat → Int32) × (Nat → Int32) × (Nat → Int32)) (post := fun r u => post r u.1 u.2.1 u.2.2.1 u.2.2.2.1 u.2.2.2.2.1 u.2.2.2.2.2.1 u.2.2.2.2.2.2.1 u.2.2.2.2.2.2.2) (i_at_12, io_gates_13, io_persons, ao_courtA_14, ao_courtB_15, ao_kind_16, ao_gone_17, ao_court) hx hb hr hlocks hK hW br_18 hw ?_ dX5_readItem_14
    rfl
abbrev wX5_readInto (cyI cyJ cyZ : ClassId) (h h_signs ho ho_courtA ho_courtB ho_kind ho_gone ho_court : Nat) (i_length : Int32) (i_at : Int32) (a_signs : Nat → Int32) (io_gates : Int32) (io_persons : Int32) (io_fines : Int32) (ao_courtA : Nat → Int32) (ao_courtB : Nat → Int32) (ao_kind : Nat → Int32) (ao_gone : Nat → Int32) (ao_court : Nat → Int32) : va_W := [(h, .inr (5, [.ref h_signs, .int i_length, .int i_at])), (h_signs, .inl (cyI, 200, .inl a_signs)), (ho, .inr (2, [.ref ho_courtA, .ref ho_courtB, .ref ho_kind, .ref ho_gone, .int io_gates, .ref ho_court, .int io_persons, .int io_fines])), (ho_courtA, .inl (cyI, 5, .inl ao_courtA)), (ho_courtB, .inl (cyI, 5, .inl ao_courtB)), (ho_kind, .inl (cyI, 5, .inl ao_kind)), (ho_gone, .inl (cyI, 5, .inl ao_gone)), (ho_court, .inl (cyI, 3, .inl ao_court))]
abbrev qX5_readInto (dC : Nat → ClassId) (dI : Nat → Nat → Nat) (cyI cyJ cyZ : ClassId) (h h_signs ho ho_courtA ho_courtB ho_kind ho_gone ho_court : Nat) (i_length : Int32) (i_at : Int32) (a_signs : Nat → Int32) (io_gates : Int32) (io_persons : Int32) (io_fines : Int32) (ao_courtA : Nat → Int32) (ao_courtB : Nat → Int32) (ao_kind : Nat → Int32) (ao_gone : Nat → Int32) (ao_court : Nat → Int32) (post : Int32 → Int32 → Int32 → Int32 → Int32 → (Nat → Int32) → (Nat → Int32) → (Nat → Int32) → (Nat → Int32) → (Nat → Int32) → Prop) (A : Nat → Prop) : Array Value → State → Outcome → State → Prop := (va_Qi (fun (r : Int32) (u : Int32 × Int32 × Int32 × Int32 × (Nat → Int32) × (Nat → Int32) × (Nat → Int32) × (Nat → Int32) × (Nat → Int32)) => post r u.1 u.2.1 u.2.2.1 u.2.2.2.1 u.2.2.2.2.1 u.2.2.2.2.2.1 u.2.2.2.2.2.2.1 u.2.2.2.2.2.2.2.1 u.2.2.2.2.2.2.2.2) (bW (dC, dI) (tyG cyI cyJ cyZ) A (fun u : Int32 × Int32 × Int32 × Int32 × (Nat → Int32) × (Nat → Int32) × (Nat → Int32) × (Nat → Int32) × (Nat → Int32) => (wX5_readInto cyI cyJ cyZ h h_signs ho ho_courtA ho_courtB ho_kind ho_gone ho_court i_length (u.1) a_signs (u.2.1) (u.2.2.1) (u.2.2.2.1) (u.2.2.2.2.1) (u.2.2.2.2.2.1) (u.2.2.2.2.2.2.1) (u.2.2.2.2.2.2.2.1) (u.2.2.2.2.2.2.2.2)))) A)
set_option maxHeartbeats 4000000 in
set_option maxRecDepth 100000 in
theorem mX5_readInto (l : Launch) (dC : Nat → ClassId) (dI : Nat → Nat → Nat) (cyI cyJ cyZ : ClassId) (h h_signs ho ho_courtA ho_courtB ho_kind ho_gone ho_court : Nat) (sz : Nat) (i_length : Int32) (i_at : Int32) (a_signs : Nat → Int32) (io_gates : Int32) (io_persons : Int32) (io_fines : Int32) (ao_courtA : Nat → Int32) (ao_courtB : Nat → Int32) (ao_kind : Nat → Int32) (ao_gone : Nat → Int32) (ao_court : Nat → Int32) (post : Int32 → Int32 → Int32 → Int32 → Int32 → (Nat → Int32) → (Nat → Int32) → (Nat → Int32) → (Nat → Int32) → (Nat → Int32) → Prop) (hwp : PX5_readInto i_length i_at a_signs io_gates io_persons io_fines ao_courtA ao_courtB ao_kind ao_gone ao_court post) : Met l yX5_readInto wsX5_readInto ({ frames := 5, cells := 0, slots := 0, locals := 110 } : Room) (va_Pc [.ref h, .ref ho] (pcW (dC, dI) sz (wX5_readInto cyI cyJ cyZ h h_signs ho ho_courtA ho_courtB ho_kind ho_gone ho_court i_length i_at a_signs io_gates io_persons io_fines ao_courtA ao_courtB ao_kind ao_gone ao_court) (tyG cyI cyJ cyZ))) (qX5_readInto dC dI cyI cyJ cyZ h h_signs ho ho_courtA ho_courtB ho_kind ho_gone ho_court i_length i_at a_signs io_gates io_persons io_fines ao_courtA ao_courtB ao_kind ao_gone ao_court post (va_A (wX5_readInto cyI cyJ cyZ h h_signs ho ho_courtA ho_courtB ho_kind ho_gone ho_court i_length i_at a_signs io_gates io_persons io_fines ao_courtA ao_courtB ao_kind ao_gone ao_court) sz)) 0 0 (va_A (wX5_readInto cyI cyJ cyZ h h_signs ho ho_courtA ho_courtB ho_kind ho_gone ho_court i_length i_at a_signs io_gates io_persons io_fines ao_courtA ao_courtB ao_kind ao_gone ao_court) sz) := by
  refine Met.ofW (cc := cX5_readInto) (maxL := 4) (ret := some .int) (by decide) rfl ?_
  intro p e s m args below meth c s₁ B hml hv
  obtain ⟨rfl, hsz, hP, hK, hD0, hN⟩ := hv
  have hx := B.exec
  have hb := B.bytes
  have hr := B.returns
  have hts := atoms_spec (ws := wsX5_readInto) B.pre
  have hown : s.vm.findClass RX5 = some m.cls := findClass_of_methodNamed B.named
  have hlocks := B.notSynchronized
  subst hsz
  have hD := hD0.self (sz := s.heap.size)
  generalize hAe : va_A (wX5_readInto cyI cyJ cyZ h h_signs ho ho_courtA ho_courtB ho_kind ho_gone ho_court i_length i_at a_signs io_gates io_persons io_fines ao_courtA ao_courtB ao_kind ao_gone ao_court) s.heap.size = A at hD ⊢
  have hA : ∀ q : Nat, s.heap.size ≤ q → A q := fun q h => by rw [← hAe]; exact Or.inr h
  have hW : Wd (dC, dI) A s.heap (wX5_readInto cyI cyJ cyZ h h_signs ho ho_courtA ho_courtB ho_kind ho_gone ho_court i_length i_at a_signs io_gates io_persons io_fines ao_courtA ao_courtB ao_kind ao_gone ao_court) s.heap [] := ⟨hP, hD, va_S.rf⟩
  have hw := hwp
  have hiX5 : ∀ w ∈ u_ws RX5 TX5 3, w ∈ wsX5_readInto := fun _ h => List.mem_cons_of_mem _ (List.mem_append_left _ (List.mem_append_right _ h))
  have k_0 := hts (.fieldLink RX5 19 "OddLetsIn$Text" "at" "I") (List.mem_of_getElem? (i := 1) rfl)
  have k_1 := hts (.fieldLink RX5 15 "OddLetsIn$Text" "length" "I") (List.mem_of_getElem? (i := 2) rfl)
  have W_11 : ∀ (io_fines : Int32) (n_11 : Nat) (x2 : Int32) (i_at : Int32) (io_gates : Int32) (io_persons : Int32) (ao_courtA : Nat → Int32) (ao_courtB : Nat → Int32) (ao_kind : Nat → Int32) (ao_gone : Nat → Int32) (ao_court : Nat → Int32) (H : Heap) (locs : List Loc) (ls : Array Slot), Wd (dC, dI) A s.heap (wX5_readInto cyI cyJ cyZ h h_signs ho ho_courtA ho_courtB ho_kind ho_gone ho_court i_length i_at a_signs io_gates io_persons io_fines ao_courtA ao_courtB ao_kind ao_gone ao_court) H locs → lv_has ls 4 [(0, .ref h), (1, .ref ho), (2, .int x2)] → PX5_readInto_11 post i_length a_signs io_fines n_11 x2 i_at io_gates io_persons ao_courtA ao_courtB ao_kind ao_gone ao_court → W p l e (({ frames := 5, cells := 0, slots := 0, locals := 110 } : Room)) s m (([.ref h, .ref ho] : List Value).toArray) below meth c H locs 0 0 (MQ below (qX5_readInto dC dI cyI cyJ cyZ h h_signs ho ho_courtA ho_courtB ho_kind ho_gone ho_court i_length i_at a_signs io_gates io_persons io_fines ao_courtA ao_courtB ao_kind ao_gone ao_court post A) (([.ref h, .ref ho] : List Value).toArray) s 0 0 A) (F0 m 11 ls []) := by
    intro io_fines n_11
    induction n_11 with
    | zero =>
      intro x2 i_at io_gates io_persons ao_courtA ao_courtB ao_kind ao_gone ao_court H locs ls hW hl hw
      exact False.elim hw
    | succ n_11 ih_11 =>
      intro x2 i_at io_gates io_persons ao_courtA ao_courtB ao_kind ao_gone ao_court H locs ls hW hl hw
      refine lv_iload_n hx hb dX5_readInto_11 rfl (lv_at hl 2 rfl) ?_
      refine lv_sipush (v := 200) hx hb dX5_readInto_12 (by decide) ?_
      refine lv_icmp_ge (tgt := 50) hx hb dX5_readInto_15 (by decide) (fun c_1 => ?_) (fun c_1 => ?_)
      · replace hw := hw.1 c_1
        refine lv_bipush (v := (-4)) hx hb dX5_readInto_50 (by decide) ?_
        refine zw_iret (S := Int32 × Int32 × Int32 × Int32 × (Nat → Int32) × (Nat → Int32) × (Nat → Int32) × (Nat → Int32) × (Nat → Int32)) (post := fun r u => post r u.1 u.2.1 u.2.2.1 u.2.2.2.1 u.2.2.2.2.1 u.2.2.2.2.2.1 u.2.2.2.2.2.2.1 u.2.2.2.2.2.2.2.1 u.2.2.2.2.2.2.2.2) (i_at, io_gates, io_persons, io_fines, ao_courtA, ao_courtB, ao_kind, ao_gone, ao_court) hx hb hr hlocks hK hW hw ?_ dX5_readInto_52
        rfl
      · replace hw := hw.2 c_1
        refine lv_aload_n hx hb dX5_readInto_18 rfl (lv_at hl 0 rfl) ?_
        refine zw_get (ci := 5) (C := RX5) (T := TX5) (N := 3) (v := .int i_at) hx hb hts hiX5 hown hK hW 0 rfl rfl 2 (by decide) rfl k_0 dX5_readInto_19 ?_
        refine lv_aload_n hx hb dX5_readInto_22 rfl (lv_at hl 0 rfl) ?_
        refine zw_get (ci := 5) (C := RX5) (T := TX5) (N := 3) (v := .int i_length) hx hb hts hiX5 hown hK hW 0 rfl rfl 1 (by decide) rfl k_1 dX5_readInto_23 ?_
        refine lv_icmp_ge (tgt := 50) hx hb dX5_readInto_26 (by decide) (fun c_2 => ?_) (fun c_2 => ?_)
        · replace hw := hw.1 c_2
          refine lv_bipush (v := (-4)) hx hb dX5_readInto_50 (by decide) ?_
          refine zw_iret (S := Int32 × Int32 × Int32 × Int32 × (Nat → Int32) × (Nat → Int32) × (Nat → Int32) × (Nat → Int32) × (Nat → Int32)) (post := fun r u => post r u.1 u.2.1 u.2.2.1 u.2.2.2.1 u.2.2.2.2.1 u.2.2.2.2.2.1 u.2.2.2.2.2.2.1 u.2.2.2.2.2.2.2.1 u.2.2.2.2.2.2.2.2) (i_at, io_gates, io_persons, io_fines, ao_courtA, ao_courtB, ao_kind, ao_gone, ao_court) hx hb hr hlocks hK hW hw ?_ dX5_readInto_52
          rfl
        · replace hw := hw.2 c_2
          refine lv_aload_n hx hb dX5_readInto_29 rfl (lv_at hl 0 rfl) ?_
          refine zw_get (ci := 5) (C := RX5) (T := TX5) (N := 3) (v := .int i_at) hx hb hts hiX5 hown hK hW 0 rfl rfl 2 (by decide) rfl k_0 dX5_readInto_30 ?_
          refine lv_istore_n (lv' := [(3, .int i_at), (0, .ref h), (1, .ref ho), (2, .int x2)]) hx hb dX5_readInto_33 rfl hl (by decide) rfl (fun ls hl => ?_)
          refine lv_aload_n hx hb dX5_readInto_34 rfl (lv_at hl 1 rfl) ?_
          refine lv_aload_n hx hb dX5_readInto_35 rfl (lv_at hl 2 rfl) ?_
          refine zw_Vi ⟨hx, hb, hml, hown, hts⟩ hK hN hA hW 0 rfl (T := TX5) (N := 3) rfl [.ref ho] [] [0, 1, 2, 3, 4, 5, 6, 7] [] [0, 1, 2, 3, 4, 5, 6, 7] (fun u => (wX5_readInto cyI cyJ cyZ h h_signs ho ho_courtA ho_courtB ho_kind ho_gone ho_court i_length (u.1) a_signs (u.2.1) (u.2.2.1) io_fines (u.2.2.2.1) (u.2.2.2.2.1) (u.2.2.2.2.2.1) (u.2.2.2.2.2.2.1) (u.2.2.2.2.2.2.2))) (mX5_readItem l dC dI cyI cyJ cyZ h h_signs ho ho_courtA ho_courtB ho_kind ho_gone ho_court _ i_length i_at a_signs io_gates io_persons io_fines ao_courtA ao_courtB ao_kind ao_gone ao_court _ hw) (cwV 1 hts gX5_readInto_X5_readItem rfl rfl rfl (by decide +kernel) ⟨Nat.le_of_ble_eq_true rfl, Nat.le_of_ble_eq_true rfl⟩) rfl rfl rfl rfl (by decide) rfl (fun _ => rfl) rfl hl.1 rfl (Nat.le_of_ble_eq_true rfl) (Nat.le_of_ble_eq_true rfl) (Nat.le_of_ble_eq_true rfl) dX5_readInto_36 (fun r_11 u H locs hw hW => ?_)
          obtain ⟨i_at_3, io_gates_4, io_persons_5, ao_courtA_6, ao_courtB_7, ao_kind_8, ao_gone_9, ao_court_10⟩ := u
          try dsimp only at hw
          replace hW : Wd (dC, dI) A s.heap (wX5_readInto cyI cyJ cyZ h h_signs ho ho_courtA ho_courtB ho_kind ho_gone ho_court i_length i_at_3 a_signs io_gates_4 io_persons_5 io_fines ao_courtA_6 ao_courtB_7 ao_kind_8 ao_gone_9 ao_court_10) H locs := hW
          obtain ⟨br_11, hw⟩ := hw
          refine lv_if_ne (tgt := 44) hx hb dX5_readInto_39 (by decide) (fun c_12 => ?_) (fun c_12 => ?_)
          · replace hw := hw.2 c_12
            obtain ⟨x2_13, ex2_13⟩ : ∃ y : Int32, y = x2 + 1 := ⟨_, rfl⟩
            replace hw := hw x2_13 ex2_13
            refine lv_iinc (v := x2_13) (lv' := [(2, .int x2_13), (3, .int i_at), (0, .ref h), (1, .ref ho)]) hx hb dX5_readInto_44 hl (k := 3) rfl (by rw [ex2_13]; rfl) (by decide) rfl (fun ls hl => ?_)
            refine lv_goto (tgt := 11) hx hb dX5_readInto_47 (by decide) ?_
            exact ih_11 x2_13 i_at_3 io_gates_4 io_persons_5 ao_courtA_6 ao_courtB_7 ao_kind_8 ao_gone_9 ao_court_10 _ _ _ hW (lv_sub hl [2, 3, 0] rfl) hw
          · replace hw := hw.1 c_12
            refine lv_iload_n hx hb dX5_readInto_42 rfl (lv_at hl 0 rfl) ?_
            refine zw_iret (S := Int32 × Int32 × Int32 × Int32 × (Nat → Int32) × (Nat → Int32) × (Nat → Int32) × (Nat → Int32) × (Nat → Int32)) (post := fun r u => post r u.1 u.2.1 u.2.2.1 u.2.2.2.1 u.2.2.2.2.1 u.2.2.2.2.2.1 u.2.2.2.2.2.2.1 u.2.2.2.2.2.2.2.1 u.2.2.2.2.2.2.2.2) (i_at_3, io_gates_4, io_persons_5, io_fines, ao_courtA_6, ao_courtB_7, ao_kind_8, ao_gone_9, ao_court_10) hx hb hr hlocks hK hW hw ?_ dX5_readInto_43
            rfl
  have hl := lv_entry ([.ref h, .ref ho]) (n := 4) (Nat.le_of_ble_eq_true rfl)
  rw [lg_entry_eq]
  generalize (lg_sl ([.ref h, .ref ho]) ++ List.replicate (4 - (lg_sl ([.ref h, .ref ho])).length) Slot.unset).toArray = ls at hl ⊢
  have hl : lv_has ls 4 [(0, .ref h), (1, .ref ho)] := hl
  refine lv_aload_n hx hb dX5_readInto_0 rfl (lv_at hl 1 rfl) ?_
  refine zw_Vv ⟨hx, hb, hml, hown, hts⟩ hK hN hA hW 2 rfl (T := TX2) (N := 8) rfl [] [] [2, 7] [0, 1, 3, 4, 5, 6] [0, 1, 6, 2, 3, 4, 5, 7] (fun u => (wX5_readInto cyI cyJ cyZ h h_signs ho ho_courtA ho_courtB ho_kind ho_gone ho_court i_length i_at a_signs (u.1) (u.2.1) (u.2.2.1) ao_courtA ao_courtB ao_kind ao_gone (u.2.2.2))) (mX2_clear l dC dI cyI cyJ cyZ ho ho_courtA ho_courtB ho_kind ho_gone ho_court _ io_gates io_persons io_fines ao_court _ hw) (cwV 0 hts gX5_readInto_X2_clear rfl rfl rfl (by decide +kernel) ⟨Nat.le_of_ble_eq_true rfl, Nat.le_of_ble_eq_true rfl⟩) rfl rfl rfl rfl (by decide) rfl (fun _ => rfl) rfl hl.1 rfl (Nat.le_of_ble_eq_true rfl) (Nat.le_of_ble_eq_true rfl) (Nat.le_of_ble_eq_true rfl) dX5_readInto_1 (fun u H locs hw hW => ?_)
  obtain ⟨io_gates_14, io_persons_15, io_fines_16, ao_court_17⟩ := u
  try dsimp only at hw
  replace hW : Wd (dC, dI) A s.heap (wX5_readInto cyI cyJ cyZ h h_signs ho ho_courtA ho_courtB ho_kind ho_gone ho_court i_length i_at a_signs io_gates_14 io_persons_15 io_fines_16 ao_courtA ao_courtB ao_kind ao_gone ao_court_17) H locs := hW
  refine lv_aload_n hx hb dX5_readInto_4 rfl (lv_at hl 0 rfl) ?_
  refine lv_iconst (v := 0) hx hb dX5_readInto_5 (by decide) ?_
  refine zw_put (ci := 5) (C := RX5) (T := TX5) (N := 3) (w2 := (wX5_readInto cyI cyJ cyZ h h_signs ho ho_courtA ho_courtB ho_kind ho_gone ho_court i_length 0 a_signs io_gates_14 io_persons_15 io_fines_16 ao_courtA ao_courtB ao_kind ao_gone ao_court_17)) hx hb hts hiX5 tyX5 tyX5_ok nmX5 hown hK hW 0 rfl rfl 2 (by decide) (by decide +kernel) rfl (Nat.le_of_ble_eq_true rfl) rfl k_0 dX5_readInto_6 (fun H locs hW => ?_)
  refine lv_iconst (v := 0) hx hb dX5_readInto_9 (by decide) ?_
  refine lv_istore_n (lv' := [(2, .int 0), (0, .ref h), (1, .ref ho)]) hx hb dX5_readInto_10 rfl hl (by decide) rfl (fun ls hl => ?_)
  obtain ⟨n_11, hw⟩ := hw
  exact W_11 io_fines_16 n_11 0 0 io_gates_14 io_persons_15 ao_courtA ao_courtB ao_kind ao_gone ao_court_17 _ _ _ hW (lv_sub hl [1, 2, 0] rfl) hw
