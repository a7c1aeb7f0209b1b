set_option maxHeartbeats 4000000 in
set_option maxRecDepth 100000 in
theorem mX0_init (l : Launch) (dC : Nat → ClassId) (dI : Nat → Nat → Nat) (cyI cyJ cyZ : ClassId) (h sz : Nat) : Met l yX0_init wsX0_init ({ frames := 1, cells := 1, slots := 9, locals := 20 } : Room) (va_Pc [.ref h] (pcW (dC, dI) sz [(h, .inr (0, [.null, .int 0, .int 0]))] (tyG cyI cyJ cyZ))) (va_Qv (fun _ : Nat => True) (bW (dC, dI) (tyG cyI cyJ cyZ) (va_A [(h, .inr (0, [.null, .int 0, .int 0]))] sz) (fun u : Nat => ([(h, .inr (0, [.ref u, .int 0, .int 1])), (u, .inl (cyI, 9, .inl (fun _ => 0)))] : va_W))) (va_A [(h, .inr (0, [.null, .int 0, .int 0]))] sz)) 1 9 (va_A [(h, .inr (0, [.null, .int 0, .int 0]))] sz) := by
  refine Met.ofW (cc := cX0_init) (maxL := 1) (ret := none) (by decide) rfl ?_
  intro p e s m args below meth c s₁ B hml hv
  obtain ⟨rfl, hsz, hP, hK, hD0, hN⟩ := hv
  have hx := B.exec
  have hb := B.bytes
  have hr := B.returns
  have hts := atoms_spec (ws := wsX0_init) B.pre
  have hown : s.vm.findClass RX0 = some m.cls := findClass_of_methodNamed B.named
  have hlocks := B.notSynchronized
  have hin : meth.name = "<init>" := (name_of_methodNamed B.named B.method).1
  subst hsz
  have hD := hD0.self (sz := s.heap.size)
  generalize hAe : va_A [(h, .inr (0, [.null, .int 0, .int 0]))] s.heap.size = A at hD ⊢
  have hA : ∀ q : Nat, s.heap.size ≤ q → A q := fun q h => by rw [← hAe]; exact Or.inr h
  have hW : Wd (dC, dI) A s.heap ([(h, .inr (0, [.null, .int 0, .int 0]))] : va_W) s.heap [] := ⟨hP, hD, va_S.rf⟩
  have hw := trivial
  have hiX0 : ∀ w ∈ u_ws RX0 TX0 3, w ∈ wsX0_init := fun _ h => List.mem_cons_of_mem _ (List.mem_append_right _ h)
  have k_0 := hts (.methodLink RX0 3 objectInit) (List.mem_of_getElem? (i := 1) rfl)
  have k_1 := hts (.instanceMethod objectInit) (List.mem_of_getElem? (i := 2) rfl)
  have k_2 := hts (.code objectInit ⟨#[0xb1]⟩ 1 none) (List.mem_of_getElem? (i := 3) rfl)
  have k_3 := hts (.arrayClass .int) (List.mem_of_getElem? (i := 4) rfl)
  have k_4 := hts (.fieldLink RX0 9 "OddLetsIn$Chance" "weight" "[I") (List.mem_of_getElem? (i := 5) rfl)
  have k_5 := hts (.fieldLink RX0 15 "OddLetsIn$Chance" "above" "I") (List.mem_of_getElem? (i := 6) rfl)
  have k_6 := hts (.fieldLink RX0 19 "OddLetsIn$Chance" "below" "I") (List.mem_of_getElem? (i := 7) rfl)
  have hl := lv_entry ([.ref h]) (n := 1) (Nat.le_of_ble_eq_true rfl)
  rw [lg_entry_eq]
  generalize (lg_sl ([.ref h]) ++ List.replicate (1 - (lg_sl ([.ref h])).length) Slot.unset).toArray = ls at hl ⊢
  have hl : lv_has ls 1 [(0, .ref h)] := hl
  refine lv_aload_n hx hb dX0_init_0 rfl (lv_at hl 0 rfl) ?_
  refine W.objInit hx hb hown k_0 k_1 k_2 rfl (by rw [hml]; exact hl.1) rfl dX0_init_1 (Nat.le_of_ble_eq_true rfl) (Nat.le_of_ble_eq_true rfl) ?_
  refine W.eq (g2 := F0 m 4 ls []) rfl ?_
  refine lv_aload_n hx hb dX0_init_4 rfl (lv_at hl 0 rfl) ?_
  refine lv_bipush (v := 9) hx hb dX0_init_5 (by decide) ?_
  refine zw_newi hx hb k_3 hK hA hW 9 (by decide) (by decide) (Nat.le_of_ble_eq_true rfl) (Nat.le_of_ble_eq_true rfl) (Nat.le_of_ble_eq_true rfl) dX0_init_7 (fun h_weight H hW => ?_)
  replace hW : Wd (dC, dI) A s.heap ([(h, .inr (0, [.null, .int 0, .int 0])), (h_weight, .inl (cyI, 9, .inl (fun _ => 0)))] : va_W) H _ := hW
  refine zw_putF (ci := 0) (C := RX0) (T := TX0) (N := 3) (ty := .array .int) (w2 := [(h, .inr (0, [.ref h_weight, .int 0, .int 0])), (h_weight, .inl (cyI, 9, .inl (fun _ => 0)))]) hx hb hts hiX0 tyX0 tyX0_ok nmX0 hown hK hW 0 rfl rfl 0 (by decide) (by decide +kernel) rfl rfl rfl hin rfl (Nat.le_of_ble_eq_true rfl) rfl k_4 dX0_init_9 (fun H locs hW => ?_)
  refine lv_aload_n hx hb dX0_init_12 rfl (lv_at hl 0 rfl) ?_
  refine lv_iconst (v := 0) hx hb dX0_init_13 (by decide) ?_
  refine zw_put (ci := 0) (C := RX0) (T := TX0) (N := 3) (w2 := [(h, .inr (0, [.ref h_weight, .int 0, .int 0])), (h_weight, .inl (cyI, 9, .inl (fun _ => 0)))]) hx hb hts hiX0 tyX0 tyX0_ok nmX0 hown hK hW 0 rfl rfl 1 (by decide) (by decide +kernel) rfl (Nat.le_of_ble_eq_true rfl) rfl k_5 dX0_init_14 (fun H locs hW => ?_)
  refine lv_aload_n hx hb dX0_init_17 rfl (lv_at hl 0 rfl) ?_
  refine lv_iconst (v := 1) hx hb dX0_init_18 (by decide) ?_
  refine zw_put (ci := 0) (C := RX0) (T := TX0) (N := 3) (w2 := [(h, .inr (0, [.ref h_weight, .int 0, .int 1])), (h_weight, .inl (cyI, 9, .inl (fun _ => 0)))]) hx hb hts hiX0 tyX0 tyX0_ok nmX0 hown hK hW 0 rfl rfl 2 (by decide) (by decide +kernel) rfl (Nat.le_of_ble_eq_true rfl) rfl k_6 dX0_init_19 (fun H locs hW => ?_)
  replace hW : Wd (dC, dI) A s.heap ([(h, .inr (0, [.ref h_weight, .int 0, .int 1])), (h_weight, .inl (cyI, 9, .inl (fun _ => 0)))] : va_W) H _ := zw_perm hW [0, 1] rfl rfl
  refine zw_vret (S := Nat) (post := fun _ => True) h_weight hx hb hr hlocks hK hW hw ?_ dX0_init_22
  rfl
abbrev wX0_openByMoreGone (cyI cyJ cyZ : ClassId) (h ho ho_courtA ho_courtB ho_kind ho_gone ho_court : Nat) (io_gates : Int32) (io_persons : Int32) (io_fines : Int32) (ao_kind : Nat → Int32) (ao_gone : Nat → Int32) : va_W := [(ho, .inr (2, [.ref ho_courtA, .ref ho_courtB, .ref ho_kind, .ref ho_gone, .int io_gates, .ref ho_court, .int io_persons, .int io_fines])), (ho_kind, .inl (cyI, 5, .inl ao_kind)), (ho_gone, .inl (cyI, 5, .inl ao_gone))]
abbrev qX0_openByMoreGone (dC : Nat → ClassId) (dI : Nat → Nat → Nat) (cyI cyJ cyZ : ClassId) (h ho ho_courtA ho_courtB ho_kind ho_gone ho_court : Nat) (io_gates : Int32) (io_persons : Int32) (io_fines : Int32) (ao_kind : Nat → Int32) (ao_gone : Nat → Int32) (post : Int32 → (Nat → Int32) → Prop) (A : Nat → Prop) : Array Value → State → Outcome → State → Prop := (va_Qi (fun (r : Int32) (u : (Nat → Int32)) => post r u) (bW (dC, dI) (tyG cyI cyJ cyZ) A (fun u : (Nat → Int32) => (wX0_openByMoreGone cyI cyJ cyZ h ho ho_courtA ho_courtB ho_kind ho_gone ho_court io_gates io_persons io_fines ao_kind u))) A)
set_option maxHeartbeats 4000000 in
set_option maxRecDepth 100000 in
theorem mX0_openByMoreGone (l : Launch) (dC : Nat → ClassId) (dI : Nat → Nat → Nat) (cyI cyJ cyZ : ClassId) (h ho ho_courtA ho_courtB ho_kind ho_gone ho_court : Nat) (sz : Nat) (io_gates : Int32) (io_persons : Int32) (io_fines : Int32) (ao_kind : Nat → Int32) (ao_gone : Nat → Int32) (x2 : Int32) (post : Int32 → (Nat → Int32) → Prop) (hwp : PX0_openByMoreGone x2 io_gates ao_kind ao_gone post) : Met l yX0_openByMoreGone wsX0_openByMoreGone ({ frames := 3, cells := 0, slots := 0, locals := 67 } : Room) (va_Pc [.ref h, .ref ho, .int x2] (pcW (dC, dI) sz (wX0_openByMoreGone cyI cyJ cyZ h ho ho_courtA ho_courtB ho_kind ho_gone ho_court io_gates io_persons io_fines ao_kind ao_gone) (tyG cyI cyJ cyZ))) (qX0_openByMoreGone dC dI cyI cyJ cyZ h ho ho_courtA ho_courtB ho_kind ho_gone ho_court io_gates io_persons io_fines ao_kind ao_gone post (va_A (wX0_openByMoreGone cyI cyJ cyZ h ho ho_courtA ho_courtB ho_kind ho_gone ho_court io_gates io_persons io_fines ao_kind ao_gone) sz)) 0 0 (va_A (wX0_openByMoreGone cyI cyJ cyZ h ho ho_courtA ho_courtB ho_kind ho_gone ho_court io_gates io_persons io_fines ao_kind ao_gone) sz) := by
  refine Met.ofW (cc := cX0_openByMoreGone) (maxL := 5) (ret := some .int) (by decide) rfl ?_
  intro p e s m args below meth c s₁ B hml hv
  obtain ⟨rfl, hsz, hP, hK, hD0, hN⟩ := hv
  have hx := B.exec
  have hb := B.bytes
  have hr := B.returns
  have hts := atoms_spec (ws := wsX0_openByMoreGone) B.pre
  have hown : s.vm.findClass RX0 = some m.cls := findClass_of_methodNamed B.named
  have hlocks := B.notSynchronized
  subst hsz
  have hD := hD0.self (sz := s.heap.size)
  generalize hAe : va_A (wX0_openByMoreGone cyI cyJ cyZ h ho ho_courtA ho_courtB ho_kind ho_gone ho_court io_gates io_persons io_fines ao_kind ao_gone) s.heap.size = A at hD ⊢
  have hA : ∀ q : Nat, s.heap.size ≤ q → A q := fun q h => by rw [← hAe]; exact Or.inr h
  have hW : Wd (dC, dI) A s.heap (wX0_openByMoreGone cyI cyJ cyZ h ho ho_courtA ho_courtB ho_kind ho_gone ho_court io_gates io_persons io_fines ao_kind ao_gone) s.heap [] := ⟨hP, hD, va_S.rf⟩
  have hw := hwp
  have hiX2 : ∀ w ∈ u_ws RX2 TX2 8, w ∈ wsX0_openByMoreGone := fun _ h => List.mem_cons_of_mem _ (List.mem_append_right _ h)
  have k_0 := hts (.fieldLink RX0 49 "OddLetsIn$Garden" "gone" "[I") (List.mem_of_getElem? (i := 1) rfl)
  have W_5 : ∀ (n_5 : Nat) (x3 : Int32) (x4 : Int32) (ao_gone : Nat → Int32) (H : Heap) (locs : List Loc) (ls : Array Slot), Wd (dC, dI) A s.heap (wX0_openByMoreGone cyI cyJ cyZ h ho ho_courtA ho_courtB ho_kind ho_gone ho_court io_gates io_persons io_fines ao_kind ao_gone) H locs → lv_has ls 5 [(1, .ref ho), (2, .int x2), (3, .int x3), (4, .int x4)] → PX0_openByMoreGone_5 post x2 io_gates ao_kind n_5 x3 x4 ao_gone → W p l e (({ frames := 3, cells := 0, slots := 0, locals := 67 } : Room)) s m (([.ref h, .ref ho, .int x2] : List Value).toArray) below meth c H locs 0 0 (MQ below (qX0_openByMoreGone dC dI cyI cyJ cyZ h ho ho_courtA ho_courtB ho_kind ho_gone ho_court io_gates io_persons io_fines ao_kind ao_gone post A) (([.ref h, .ref ho, .int x2] : List Value).toArray) s 0 0 A) (F0 m 5 ls []) := by
    intro n_5
    induction n_5 with
    | zero =>
      intro x3 x4 ao_gone H locs ls hW hl hw
      exact False.elim hw
    | succ n_5 ih_5 =>
      intro x3 x4 ao_gone H locs ls hW hl hw
      refine lv_iload hx hb dX0_openByMoreGone_5 (lv_at hl 3 rfl) ?_
      refine lv_bipush (v := 8) hx hb dX0_openByMoreGone_7 (by decide) ?_
      refine lv_icmp_gt (tgt := 56) hx hb dX0_openByMoreGone_9 (by decide) (fun c_1 => ?_) (fun c_1 => ?_)
      · replace hw := hw.1 c_1
        refine lv_iload_n hx hb dX0_openByMoreGone_56 rfl (lv_at hl 2 rfl) ?_
        refine zw_iret (S := (Nat → Int32)) (post := fun r u => post r u) ao_gone hx hb hr hlocks hK hW hw ?_ dX0_openByMoreGone_57
        rfl
      · replace hw := hw.2 c_1
        refine lv_aload_n hx hb dX0_openByMoreGone_12 rfl (lv_at hl 0 rfl) ?_
        refine lv_iload_n hx hb dX0_openByMoreGone_13 rfl (lv_at hl 1 rfl) ?_
        refine zw_Vi ⟨hx, hb, hml, hown, hts⟩ hK hN hA hW 0 rfl (T := TX2) (N := 8) rfl [.int x2] [] [0] [1, 2] [2, 0, 1] (fun _ => (wX0_openByMoreGone cyI cyJ cyZ h ho ho_courtA ho_courtB ho_kind ho_gone ho_court io_gates io_persons io_fines ao_kind ao_gone)) (mX2_hasGate l dC dI cyI cyJ cyZ ho ho_courtA ho_courtB ho_kind ho_gone ho_court _ io_gates io_persons io_fines x2 _ hw) (cwV 1 hts gX0_openByMoreGone_X2_hasGate rfl rfl rfl (by decide +kernel) ⟨Nat.le_of_ble_eq_true rfl, Nat.le_of_ble_eq_true rfl⟩) rfl rfl rfl rfl (by decide) rfl (fun _ => rfl) rfl hl.1 rfl (Nat.le_of_ble_eq_true rfl) (Nat.le_of_ble_eq_true rfl) (Nat.le_of_ble_eq_true rfl) dX0_openByMoreGone_14 (fun r_2 u H locs hw hW => ?_)
        obtain ⟨br_2, hw⟩ := hw
        refine lv_if_eq (tgt := 56) hx hb dX0_openByMoreGone_17 (by decide) (fun c_3 => ?_) (fun c_3 => ?_)
        · replace hw := hw.1 c_3
          refine lv_iload_n hx hb dX0_openByMoreGone_56 rfl (lv_at hl 2 rfl) ?_
          refine zw_iret (S := (Nat → Int32)) (post := fun r u => post r u) ao_gone hx hb hr hlocks hK hW hw ?_ dX0_openByMoreGone_57
          rfl
        · replace hw := hw.2 c_3
          refine lv_iload_n hx hb dX0_openByMoreGone_20 rfl (lv_at hl 2 rfl) ?_
          refine lv_aload_n hx hb dX0_openByMoreGone_21 rfl (lv_at hl 0 rfl) ?_
          refine lv_iload_n hx hb dX0_openByMoreGone_22 rfl (lv_at hl 1 rfl) ?_
          refine lv_iconst (v := 0) hx hb dX0_openByMoreGone_23 (by decide) ?_
          refine zw_Vi ⟨hx, hb, hml, hown, hts⟩ hK hN hA hW 0 rfl (T := TX2) (N := 8) rfl [.int x2, .int 0] [.int x3] [0, 1, 2] [] [0, 1, 2] (fun _ => (wX0_openByMoreGone cyI cyJ cyZ h ho ho_courtA ho_courtB ho_kind ho_gone ho_court io_gates io_persons io_fines ao_kind ao_gone)) (mX2_isOpen l dC dI cyI cyJ cyZ ho ho_courtA ho_courtB ho_kind ho_gone ho_court _ io_gates io_persons io_fines ao_kind ao_gone x2 0 _ hw) (cwV 2 hts gX0_openByMoreGone_X2_isOpen rfl rfl rfl (by decide +kernel) ⟨Nat.le_of_ble_eq_true rfl, Nat.le_of_ble_eq_true rfl⟩) rfl rfl rfl rfl (by decide) rfl (fun _ => rfl) rfl hl.1 rfl (Nat.le_of_ble_eq_true rfl) (Nat.le_of_ble_eq_true rfl) (Nat.le_of_ble_eq_true rfl) dX0_openByMoreGone_24 (fun r_4 u H locs hw hW => ?_)
          obtain ⟨br_4, hw⟩ := hw
          refine lv_if_eq (tgt := 37) hx hb dX0_openByMoreGone_27 (by decide) (fun c_5 => ?_) (fun c_5 => ?_)
          · replace hw := hw.1 c_5
            refine lv_iconst (v := 0) hx hb dX0_openByMoreGone_37 (by decide) ?_
            refine lv_ior hx hb dX0_openByMoreGone_38 ?_
            refine lv_topi (fun x3_6 ex3_6 => ?_)
            replace hw := hw x3_6 ex3_6
            refine lv_istore_n (lv' := [(3, .int x3_6), (1, .ref ho), (2, .int x2), (4, .int x4)]) hx hb dX0_openByMoreGone_39 rfl hl (by decide) rfl (fun ls hl => ?_)
            refine lv_aload_n hx hb dX0_openByMoreGone_40 rfl (lv_at hl 1 rfl) ?_
            refine zw_get (ci := 2) (C := RX2) (T := TX2) (N := 8) (v := .ref ho_gone) hx hb hts hiX2 hown hK hW 0 rfl rfl 3 (by decide) rfl k_0 dX0_openByMoreGone_41 ?_
            refine lv_iload_n hx hb dX0_openByMoreGone_44 rfl (lv_at hl 2 rfl) ?_
            refine lv_dup2_11 hx hb dX0_openByMoreGone_45 rfl rfl ?_
            refine zw_iald hx hb hK hW 2 rfl rfl hw.1 dX0_openByMoreGone_46 ?_
            replace hw := hw.2
            refine lv_iconst (v := 1) hx hb dX0_openByMoreGone_47 (by decide) ?_
            refine lv_iadd hx hb dX0_openByMoreGone_48 ?_
            refine lv_topi (fun t_7 et_7 => ?_)
            replace hw := hw t_7 et_7
            refine zw_iast hx hb hK hW 2 rfl rfl hw.1 (w2 := fun ao_gone_8 => (wX0_openByMoreGone cyI cyJ cyZ h ho ho_courtA ho_courtB ho_kind ho_gone ho_court io_gates io_persons io_fines ao_kind ao_gone_8)) (fun _ => rfl) dX0_openByMoreGone_49 (fun ao_gone_8 H locs eao_gone_8 hW => ?_)
            replace hw := hw.2 ao_gone_8 eao_gone_8
            obtain ⟨x4_9, ex4_9⟩ : ∃ y : Int32, y = x4 + 1 := ⟨_, rfl⟩
            replace hw := hw x4_9 ex4_9
            refine lv_iinc (v := x4_9) (lv' := [(4, .int x4_9), (3, .int x3_6), (1, .ref ho), (2, .int x2)]) hx hb dX0_openByMoreGone_50 hl (k := 3) rfl (by rw [ex4_9]; rfl) (by decide) rfl (fun ls hl => ?_)
            refine lv_goto (tgt := 5) hx hb dX0_openByMoreGone_53 (by decide) ?_
            exact ih_5 x3_6 x4_9 ao_gone_8 _ _ _ hW (lv_sub hl [2, 3, 1, 0] rfl) hw
          · replace hw := hw.2 c_5
            refine lv_iconst (v := 1) hx hb dX0_openByMoreGone_30 (by decide) ?_
            refine lv_iload hx hb dX0_openByMoreGone_31 (lv_at hl 3 rfl) ?_
            refine lv_ishl hx hb dX0_openByMoreGone_33 ?_
            refine lv_goto (tgt := 38) hx hb dX0_openByMoreGone_34 (by decide) ?_
            refine lv_ior hx hb dX0_openByMoreGone_38 ?_
            refine lv_topi (fun x3_10 ex3_10 => ?_)
            replace hw := hw x3_10 ex3_10
            refine lv_istore_n (lv' := [(3, .int x3_10), (1, .ref ho), (2, .int x2), (4, .int x4)]) hx hb dX0_openByMoreGone_39 rfl hl (by decide) rfl (fun ls hl => ?_)
            refine lv_aload_n hx hb dX0_openByMoreGone_40 rfl (lv_at hl 1 rfl) ?_
            refine zw_get (ci := 2) (C := RX2) (T := TX2) (N := 8) (v := .ref ho_gone) hx hb hts hiX2 hown hK hW 0 rfl rfl 3 (by decide) rfl k_0 dX0_openByMoreGone_41 ?_
            refine lv_iload_n hx hb dX0_openByMoreGone_44 rfl (lv_at hl 2 rfl) ?_
            refine lv_dup2_11 hx hb dX0_openByMoreGone_45 rfl rfl ?_
            refine zw_iald hx hb hK hW 2 rfl rfl hw.1 dX0_openByMoreGone_46 ?_
            replace hw := hw.2
            refine lv_iconst (v := 1) hx hb dX0_openByMoreGone_47 (by decide) ?_
            refine lv_iadd hx hb dX0_openByMoreGone_48 ?_
            refine lv_topi (fun t_11 et_11 => ?_)
            replace hw := hw t_11 et_11
            refine zw_iast hx hb hK hW 2 rfl rfl hw.1 (w2 := fun ao_gone_12 => (wX0_openByMoreGone cyI cyJ cyZ h ho ho_courtA ho_courtB ho_kind ho_gone ho_court io_gates io_persons io_fines ao_kind ao_gone_12)) (fun _ => rfl) dX0_openByMoreGone_49 (fun ao_gone_12 H locs eao_gone_12 hW => ?_)
            replace hw := hw.2 ao_gone_12 eao_gone_12
            obtain ⟨x4_13, ex4_13⟩ : ∃ y : Int32, y = x4 + 1 := ⟨_, rfl⟩
            replace hw := hw x4_13 ex4_13
            refine lv_iinc (v := x4_13) (lv' := [(4, .int x4_13), (3, .int x3_10), (1, .ref ho), (2, .int x2)]) hx hb dX0_openByMoreGone_50 hl (k := 3) rfl (by rw [ex4_13]; rfl) (by decide) rfl (fun ls hl => ?_)
            refine lv_goto (tgt := 5) hx hb dX0_openByMoreGone_53 (by decide) ?_
            exact ih_5 x3_10 x4_13 ao_gone_12 _ _ _ hW (lv_sub hl [2, 3, 1, 0] rfl) hw
  have hl := lv_entry ([.ref h, .ref ho, .int x2]) (n := 5) (Nat.le_of_ble_eq_true rfl)
  rw [lg_entry_eq]
  generalize (lg_sl ([.ref h, .ref ho, .int x2]) ++ List.replicate (5 - (lg_sl ([.ref h, .ref ho, .int x2])).length) Slot.unset).toArray = ls at hl ⊢
  have hl : lv_has ls 5 [(0, .ref h), (1, .ref ho), (2, .int x2)] := hl
  refine lv_iconst (v := 0) hx hb dX0_openByMoreGone_0 (by decide) ?_
  refine lv_istore_n (lv' := [(3, .int 0), (0, .ref h), (1, .ref ho), (2, .int x2)]) hx hb dX0_openByMoreGone_1 rfl hl (by decide) rfl (fun ls hl => ?_)
  refine lv_iconst (v := 0) hx hb dX0_openByMoreGone_2 (by decide) ?_
  refine lv_istore (lv' := [(4, .int 0), (3, .int 0), (0, .ref h), (1, .ref ho), (2, .int x2)]) hx hb dX0_openByMoreGone_3 hl (by decide) rfl (fun ls hl => ?_)
  obtain ⟨n_5, hw⟩ := hw
  exact W_5  n_5 0 0 ao_gone _ _ _ hW (lv_sub hl [3, 4, 1, 0] rfl) hw
abbrev wX0_comeOne (cyI cyJ cyZ : ClassId) (h h_weight : Nat) (i_above : Int32) (i_below : Int32) (a_weight : Nat → Int32) : va_W := [(h, .inr (0, [.ref h_weight, .int i_above, .int i_below])), (h_weight, .inl (cyI, 9, .inl a_weight))]
abbrev qX0_comeOne (dC : Nat → ClassId) (dI : Nat → Nat → Nat) (cyI cyJ cyZ : ClassId) (h h_weight : Nat) (i_above : Int32) (i_below : Int32) (a_weight : Nat → Int32) (post : (Nat → Int32) → Prop) (A : Nat → Prop) : Array Value → State → Outcome → State → Prop := (va_Qv (fun (u : (Nat → Int32)) => post u) (bW (dC, dI) (tyG cyI cyJ cyZ) A (fun u : (Nat → Int32) => (wX0_comeOne cyI cyJ cyZ h h_weight i_above i_below u))) A)
set_option maxHeartbeats 4000000 in
set_option maxRecDepth 100000 in
theorem mX0_comeOne (l : Launch) (dC : Nat → ClassId) (dI : Nat → Nat → Nat) (cyI cyJ cyZ : ClassId) (h h_weight : Nat) (sz : Nat) (i_above : Int32) (i_below : Int32) (a_weight : Nat → Int32) (x1 : Int32) (x2 : Int32) (post : (Nat → Int32) → Prop) (hwp : PX0_comeOne x1 x2 a_weight post) : Met l yX0_comeOne wsX0_comeOne ({ frames := 0, cells := 0, slots := 0, locals := 0 } : Room) (va_Pc [.ref h, .int x1, .int x2] (pcW (dC, dI) sz (wX0_comeOne cyI cyJ cyZ h h_weight i_above i_below a_weight) (tyG cyI cyJ cyZ))) (qX0_comeOne dC dI cyI cyJ cyZ h h_weight i_above i_below a_weight post (va_A (wX0_comeOne cyI cyJ cyZ h h_weight i_above i_below a_weight) sz)) 0 0 (va_A (wX0_comeOne cyI cyJ cyZ h h_weight i_above i_below a_weight) sz) := by
  refine Met.ofW (cc := cX0_comeOne) (maxL := 6) (ret := none) (by decide) rfl ?_
  intro p e s m args below meth c s₁ B hml hv
  obtain ⟨rfl, hsz, hP, hK, hD0, hN⟩ := hv
  have hx := B.exec
  have hb := B.bytes
  have hr := B.returns
  have hts := atoms_spec (ws := wsX0_comeOne) B.pre
  have hown : s.vm.findClass RX0 = some m.cls := findClass_of_methodNamed B.named
  have hlocks := B.notSynchronized
  subst hsz
  have hD := hD0.self (sz := s.heap.size)
  generalize hAe : va_A (wX0_comeOne cyI cyJ cyZ h h_weight i_above i_below a_weight) s.heap.size = A at hD ⊢
  have hA : ∀ q : Nat, s.heap.size ≤ q → A q := fun q h => by rw [← hAe]; exact Or.inr h
  have hW : Wd (dC, dI) A s.heap (wX0_comeOne cyI cyJ cyZ h h_weight i_above i_below a_weight) s.heap [] := ⟨hP, hD, va_S.rf⟩
  have hw := hwp
  have hiX0 : ∀ w ∈ u_ws RX0 TX0 3, w ∈ wsX0_comeOne := fun _ h => List.mem_cons_of_mem _ (List.mem_append_right _ h)
  have k_0 := hts (.fieldLink RX0 9 "OddLetsIn$Chance" "weight" "[I") (List.mem_of_getElem? (i := 1) rfl)
  have W_3 : ∀ (n_3 : Nat) (x3 : Int32) (a_weight : Nat → Int32) (H : Heap) (locs : List Loc) (ls : Array Slot), Wd (dC, dI) A s.heap (wX0_comeOne cyI cyJ cyZ h h_weight i_above i_below a_weight) H locs → lv_has ls 6 [(0, .ref h), (1, .int x1), (2, .int x2), (3, .int x3)] → PX0_comeOne_3 post x1 x2 n_3 x3 a_weight → W p l e (({ frames := 0, cells := 0, slots := 0, locals := 0 } : Room)) s m (([.ref h, .int x1, .int x2] : List Value).toArray) below meth c H locs 0 0 (MQ below (qX0_comeOne dC dI cyI cyJ cyZ h h_weight i_above i_below a_weight post A) (([.ref h, .int x1, .int x2] : List Value).toArray) s 0 0 A) (F0 m 3 ls []) := by
    intro n_3
    induction n_3 with
    | zero =>
      intro x3 a_weight H locs ls hW hl hw
      exact False.elim hw
    | succ n_3 ih_3 =>
      have W_60 : ∀ (x3 : Int32) (x5 : Int32) (a_weight : Nat → Int32) (H : Heap) (locs : List Loc) (ls : Array Slot), Wd (dC, dI) A s.heap (wX0_comeOne cyI cyJ cyZ h h_weight i_above i_below a_weight) H locs → lv_has ls 6 [(0, .ref h), (1, .int x1), (2, .int x2), (3, .int x3), (5, .int x5)] → PX0_comeOne_60 post (PX0_comeOne_3 post x1 x2 n_3) x3 x5 a_weight → W p l e (({ frames := 0, cells := 0, slots := 0, locals := 0 } : Room)) s m (([.ref h, .int x1, .int x2] : List Value).toArray) below meth c H locs 0 0 (MQ below (qX0_comeOne dC dI cyI cyJ cyZ h h_weight i_above i_below a_weight post A) (([.ref h, .int x1, .int x2] : List Value).toArray) s 0 0 A) (F0 m 60 ls []) := by
        intro x3 x5 a_weight H locs ls hW hl hw
        refine lv_aload_n hx hb dX0_comeOne_60 rfl (lv_at hl 0 rfl) ?_
        refine zw_get (ci := 0) (C := RX0) (T := TX0) (N := 3) (v := .ref h_weight) hx hb hts hiX0 hown hK hW 0 rfl rfl 0 (by decide) rfl k_0 dX0_comeOne_61 ?_
        refine lv_iload_n hx hb dX0_comeOne_64 rfl (lv_at hl 3 rfl) ?_
        refine lv_dup2_11 hx hb dX0_comeOne_65 rfl rfl ?_
        refine zw_iald hx hb hK hW 1 rfl rfl hw.1 dX0_comeOne_66 ?_
        replace hw := hw.2
        refine lv_bipush (v := 10) hx hb dX0_comeOne_67 (by decide) ?_
        refine lv_iload hx hb dX0_comeOne_69 (lv_at hl 4 rfl) ?_
        refine lv_isub hx hb dX0_comeOne_71 ?_
        refine lv_imul hx hb dX0_comeOne_72 ?_
        refine lv_topi (fun t_1 et_1 => ?_)
        replace hw := hw t_1 et_1
        refine zw_iast hx hb hK hW 1 rfl rfl hw.1 (w2 := fun a_weight_2 => (wX0_comeOne cyI cyJ cyZ h h_weight i_above i_below a_weight_2)) (fun _ => rfl) dX0_comeOne_73 (fun a_weight_2 H locs ea_weight_2 hW => ?_)
        replace hw := hw.2 a_weight_2 ea_weight_2
        obtain ⟨x3_3, ex3_3⟩ : ∃ y : Int32, y = x3 + (-1) := ⟨_, rfl⟩
        replace hw := hw x3_3 ex3_3
        refine lv_iinc (v := x3_3) (lv' := [(3, .int x3_3), (0, .ref h), (1, .int x1), (2, .int x2), (5, .int x5)]) hx hb dX0_comeOne_74 hl (k := 3) rfl (by rw [ex3_3]; rfl) (by decide) rfl (fun ls hl => ?_)
        refine lv_goto (tgt := 3) hx hb dX0_comeOne_77 (by decide) ?_
        exact ih_3 x3_3 a_weight_2 _ _ _ hW (lv_sub hl [1, 2, 3, 0] rfl) hw
      intro x3 a_weight H locs ls hW hl hw
      refine lv_iload_n hx hb dX0_comeOne_3 rfl (lv_at hl 3 rfl) ?_
      refine lv_if_lt (tgt := 80) hx hb dX0_comeOne_4 (by decide) (fun c_4 => ?_) (fun c_4 => ?_)
      · replace hw := hw.1 c_4
        refine zw_vret (S := (Nat → Int32)) (post := fun u => post u) a_weight hx hb hr hlocks hK hW hw ?_ dX0_comeOne_80
        rfl
      · replace hw := hw.2 c_4
        refine lv_iload_n hx hb dX0_comeOne_7 rfl (lv_at hl 1 rfl) ?_
        refine lv_iload_n hx hb dX0_comeOne_8 rfl (lv_at hl 3 rfl) ?_
        refine lv_ishr hx hb dX0_comeOne_9 ?_
        refine lv_iconst (v := 1) hx hb dX0_comeOne_10 (by decide) ?_
        refine lv_iand hx hb dX0_comeOne_11 ?_
        refine lv_if_eq (tgt := 19) hx hb dX0_comeOne_12 (by decide) (fun c_5 => ?_) (fun c_5 => ?_)
        · replace hw := hw.1 c_5
          refine lv_iconst (v := 0) hx hb dX0_comeOne_19 (by decide) ?_
          refine lv_istore (lv' := [(4, .int 0), (0, .ref h), (1, .int x1), (2, .int x2), (3, .int x3)]) hx hb dX0_comeOne_20 hl (by decide) rfl (fun ls hl => ?_)
          refine lv_iload hx hb dX0_comeOne_22 (lv_at hl 0 rfl) ?_
          refine lv_if_eq (tgt := 31) hx hb dX0_comeOne_24 (by decide) (fun c_6 => ?_) (fun c_6 => ?_)
          · replace hw := hw.1 c_6
            refine lv_iconst (v := 0) hx hb dX0_comeOne_31 (by decide) ?_
            refine lv_istore (lv' := [(5, .int 0), (4, .int 0), (0, .ref h), (1, .int x1), (2, .int x2), (3, .int x3)]) hx hb dX0_comeOne_32 hl (by decide) rfl (fun ls hl => ?_)
            refine lv_iload_n hx hb dX0_comeOne_34 rfl (lv_at hl 5 rfl) ?_
            refine lv_bipush (v := 8) hx hb dX0_comeOne_35 (by decide) ?_
            refine lv_icmp_ge (tgt := 60) hx hb dX0_comeOne_37 (by decide) (fun c_7 => ?_) (fun c_7 => ?_)
            · replace hw := hw.1 c_7
              exact W_60 x3 0 a_weight _ _ _ hW (lv_sub hl [2, 3, 4, 5, 0] rfl) hw
            · replace hw := hw.2 c_7
              refine lv_aload_n hx hb dX0_comeOne_40 rfl (lv_at hl 2 rfl) ?_
              refine zw_get (ci := 0) (C := RX0) (T := TX0) (N := 3) (v := .ref h_weight) hx hb hts hiX0 hown hK hW 0 rfl rfl 0 (by decide) rfl k_0 dX0_comeOne_41 ?_
              refine lv_iload_n hx hb dX0_comeOne_44 rfl (lv_at hl 5 rfl) ?_
              refine lv_iconst (v := 1) hx hb dX0_comeOne_45 (by decide) ?_
              refine lv_iadd hx hb dX0_comeOne_46 ?_
              refine lv_dup2_11 hx hb dX0_comeOne_47 rfl rfl ?_
              refine zw_iald hx hb hK hW 1 rfl rfl hw.1 dX0_comeOne_48 ?_
              replace hw := hw.2
              refine lv_aload_n hx hb dX0_comeOne_49 rfl (lv_at hl 2 rfl) ?_
              refine zw_get (ci := 0) (C := RX0) (T := TX0) (N := 3) (v := .ref h_weight) hx hb hts hiX0 hown hK hW 0 rfl rfl 0 (by decide) rfl k_0 dX0_comeOne_50 ?_
              refine lv_iload_n hx hb dX0_comeOne_53 rfl (lv_at hl 5 rfl) ?_
              refine zw_iald hx hb hK hW 1 rfl rfl hw.1 dX0_comeOne_54 ?_
              replace hw := hw.2
              refine lv_iload hx hb dX0_comeOne_55 (lv_at hl 0 rfl) ?_
              refine lv_imul hx hb dX0_comeOne_57 ?_
              refine lv_iadd hx hb dX0_comeOne_58 ?_
              refine lv_topi (fun t_8 et_8 => ?_)
              replace hw := hw t_8 et_8
              refine zw_iast hx hb hK hW 1 rfl rfl hw.1 (w2 := fun a_weight_9 => (wX0_comeOne cyI cyJ cyZ h h_weight i_above i_below a_weight_9)) (fun _ => rfl) dX0_comeOne_59 (fun a_weight_9 H locs ea_weight_9 hW => ?_)
              replace hw := hw.2 a_weight_9 ea_weight_9
              exact W_60 x3 0 a_weight_9 _ _ _ hW (lv_sub hl [2, 3, 4, 5, 0] rfl) hw
          · replace hw := hw.2 c_6
            refine lv_iload_n hx hb dX0_comeOne_27 rfl (lv_at hl 3 rfl) ?_
            refine lv_goto (tgt := 32) hx hb dX0_comeOne_28 (by decide) ?_
            refine lv_istore (lv' := [(5, .int x2), (4, .int 0), (0, .ref h), (1, .int x1), (2, .int x2), (3, .int x3)]) hx hb dX0_comeOne_32 hl (by decide) rfl (fun ls hl => ?_)
            refine lv_iload_n hx hb dX0_comeOne_34 rfl (lv_at hl 5 rfl) ?_
            refine lv_bipush (v := 8) hx hb dX0_comeOne_35 (by decide) ?_
            refine lv_icmp_ge (tgt := 60) hx hb dX0_comeOne_37 (by decide) (fun c_10 => ?_) (fun c_10 => ?_)
            · replace hw := hw.1 c_10
              exact W_60 x3 x2 a_weight _ _ _ hW (lv_sub hl [2, 3, 4, 5, 0] rfl) hw
            · replace hw := hw.2 c_10
              refine lv_aload_n hx hb dX0_comeOne_40 rfl (lv_at hl 2 rfl) ?_
              refine zw_get (ci := 0) (C := RX0) (T := TX0) (N := 3) (v := .ref h_weight) hx hb hts hiX0 hown hK hW 0 rfl rfl 0 (by decide) rfl k_0 dX0_comeOne_41 ?_
              refine lv_iload_n hx hb dX0_comeOne_44 rfl (lv_at hl 5 rfl) ?_
              refine lv_iconst (v := 1) hx hb dX0_comeOne_45 (by decide) ?_
              refine lv_iadd hx hb dX0_comeOne_46 ?_
              refine lv_dup2_11 hx hb dX0_comeOne_47 rfl rfl ?_
              refine zw_iald hx hb hK hW 1 rfl rfl hw.1 dX0_comeOne_48 ?_
              replace hw := hw.2
              refine lv_aload_n hx hb dX0_comeOne_49 rfl (lv_at hl 2 rfl) ?_
              refine zw_get (ci := 0) (C := RX0) (T := TX0) (N := 3) (v := .ref h_weight) hx hb hts hiX0 hown hK hW 0 rfl rfl 0 (by decide) rfl k_0 dX0_comeOne_50 ?_
              refine lv_iload_n hx hb dX0_comeOne_53 rfl (lv_at hl 5 rfl) ?_
              refine zw_iald hx hb hK hW 1 rfl rfl hw.1 dX0_comeOne_54 ?_
              replace hw := hw.2
              refine lv_iload hx hb dX0_comeOne_55 (lv_at hl 0 rfl) ?_
              refine lv_imul hx hb dX0_comeOne_57 ?_
              refine lv_iadd hx hb dX0_comeOne_58 ?_
              refine lv_topi (fun t_11 et_11 => ?_)
              replace hw := hw t_11 et_11
              refine zw_iast hx hb hK hW 1 rfl rfl hw.1 (w2 := fun a_weight_12 => (wX0_comeOne cyI cyJ cyZ h h_weight i_above i_below a_weight_12)) (fun _ => rfl) dX0_comeOne_59 (fun a_weight_12 H locs ea_weight_12 hW => ?_)
              replace hw := hw.2 a_weight_12 ea_weight_12
              exact W_60 x3 x2 a_weight_12 _ _ _ hW (lv_sub hl [2, 3, 4, 5, 0] rfl) hw
        · replace hw := hw.2 c_5
          refine lv_iconst (v := 1) hx hb dX0_comeOne_15 (by decide) ?_
          refine lv_goto (tgt := 20) hx hb dX0_comeOne_16 (by decide) ?_
          refine lv_istore (lv' := [(4, .int 1), (0, .ref h), (1, .int x1), (2, .int x2), (3, .int x3)]) hx hb dX0_comeOne_20 hl (by decide) rfl (fun ls hl => ?_)
          refine lv_iload hx hb dX0_comeOne_22 (lv_at hl 0 rfl) ?_
          refine lv_if_eq (tgt := 31) hx hb dX0_comeOne_24 (by decide) (fun c_13 => ?_) (fun c_13 => ?_)
          · replace hw := hw.1 c_13
            refine lv_iconst (v := 0) hx hb dX0_comeOne_31 (by decide) ?_
            refine lv_istore (lv' := [(5, .int 0), (4, .int 1), (0, .ref h), (1, .int x1), (2, .int x2), (3, .int x3)]) hx hb dX0_comeOne_32 hl (by decide) rfl (fun ls hl => ?_)
            refine lv_iload_n hx hb dX0_comeOne_34 rfl (lv_at hl 5 rfl) ?_
            refine lv_bipush (v := 8) hx hb dX0_comeOne_35 (by decide) ?_
            refine lv_icmp_ge (tgt := 60) hx hb dX0_comeOne_37 (by decide) (fun c_14 => ?_) (fun c_14 => ?_)
            · replace hw := hw.1 c_14
              exact W_60 x3 0 a_weight _ _ _ hW (lv_sub hl [2, 3, 4, 5, 0] rfl) hw
            · replace hw := hw.2 c_14
              refine lv_aload_n hx hb dX0_comeOne_40 rfl (lv_at hl 2 rfl) ?_
              refine zw_get (ci := 0) (C := RX0) (T := TX0) (N := 3) (v := .ref h_weight) hx hb hts hiX0 hown hK hW 0 rfl rfl 0 (by decide) rfl k_0 dX0_comeOne_41 ?_
              refine lv_iload_n hx hb dX0_comeOne_44 rfl (lv_at hl 5 rfl) ?_
              refine lv_iconst (v := 1) hx hb dX0_comeOne_45 (by decide) ?_
              refine lv_iadd hx hb dX0_comeOne_46 ?_
              refine lv_dup2_11 hx hb dX0_comeOne_47 rfl rfl ?_
              refine zw_iald hx hb hK hW 1 rfl rfl hw.1 dX0_comeOne_48 ?_
              replace hw := hw.2
              refine lv_aload_n hx hb dX0_comeOne_49 rfl (lv_at hl 2 rfl) ?_
              refine zw_get (ci := 0) (C := RX0) (T := TX0) (N := 3) (v := .ref h_weight) hx hb hts hiX0 hown hK hW 0 rfl rfl 0 (by decide) rfl k_0 dX0_comeOne_50 ?_
              refine lv_iload_n hx hb dX0_comeOne_53 rfl (lv_at hl 5 rfl) ?_
              refine zw_iald hx hb hK hW 1 rfl rfl hw.1 dX0_comeOne_54 ?_
              replace hw := hw.2
              refine lv_iload hx hb dX0_comeOne_55 (lv_at hl 0 rfl) ?_
              refine lv_imul hx hb dX0_comeOne_57 ?_
              refine lv_iadd hx hb dX0_comeOne_58 ?_
              refine lv_topi (fun t_15 et_15 => ?_)
              replace hw := hw t_15 et_15
              refine zw_iast hx hb hK hW 1 rfl rfl hw.1 (w2 := fun a_weight_16 => (wX0_comeOne cyI cyJ cyZ h h_weight i_above i_below a_weight_16)) (fun _ => rfl) dX0_comeOne_59 (fun a_weight_16 H locs ea_weight_16 hW => ?_)
              replace hw := hw.2 a_weight_16 ea_weight_16
              exact W_60 x3 0 a_weight_16 _ _ _ hW (lv_sub hl [2, 3, 4, 5, 0] rfl) hw
          · replace hw := hw.2 c_13
            refine lv_iload_n hx hb dX0_comeOne_27 rfl (lv_at hl 3 rfl) ?_
            refine lv_goto (tgt := 32) hx hb dX0_comeOne_28 (by decide) ?_
            refine lv_istore (lv' := [(5, .int x2), (4, .int 1), (0, .ref h), (1, .int x1), (2, .int x2), (3, .int x3)]) hx hb dX0_comeOne_32 hl (by decide) rfl (fun ls hl => ?_)
            refine lv_iload_n hx hb dX0_comeOne_34 rfl (lv_at hl 5 rfl) ?_
            refine lv_bipush (v := 8) hx hb dX0_comeOne_35 (by decide) ?_
            refine lv_icmp_ge (tgt := 60) hx hb dX0_comeOne_37 (by decide) (fun c_17 => ?_) (fun c_17 => ?_)
            · replace hw := hw.1 c_17
              exact W_60 x3 x2 a_weight _ _ _ hW (lv_sub hl [2, 3, 4, 5, 0] rfl) hw
            · replace hw := hw.2 c_17
              refine lv_aload_n hx hb dX0_comeOne_40 rfl (lv_at hl 2 rfl) ?_
              refine zw_get (ci := 0) (C := RX0) (T := TX0) (N := 3) (v := .ref h_weight) hx hb hts hiX0 hown hK hW 0 rfl rfl 0 (by decide) rfl k_0 dX0_comeOne_41 ?_
              refine lv_iload_n hx hb dX0_comeOne_44 rfl (lv_at hl 5 rfl) ?_
              refine lv_iconst (v := 1) hx hb dX0_comeOne_45 (by decide) ?_
              refine lv_iadd hx hb dX0_comeOne_46 ?_
              refine lv_dup2_11 hx hb dX0_comeOne_47 rfl rfl ?_
              refine zw_iald hx hb hK hW 1 rfl rfl hw.1 dX0_comeOne_48 ?_
              replace hw := hw.2
              refine lv_aload_n hx hb dX0_comeOne_49 rfl (lv_at hl 2 rfl) ?_
              refine zw_get (ci := 0) (C := RX0) (T := TX0) (N := 3) (v := .ref h_weight) hx hb hts hiX0 hown hK hW 0 rfl rfl 0 (by decide) rfl k_0 dX0_comeOne_50 ?_
              refine lv_iload_n hx hb dX0_comeOne_53 rfl (lv_at hl 5 rfl) ?_
              refine zw_iald hx hb hK hW 1 rfl rfl hw.1 dX0_comeOne_54 ?_
              replace hw := hw.2
              refine lv_iload hx hb dX0_comeOne_55 (lv_at hl 0 rfl) ?_
              refine lv_imul hx hb dX0_comeOne_57 ?_
              refine lv_iadd hx hb dX0_comeOne_58 ?_
              refine lv_topi (fun t_18 et_18 => ?_)
              replace hw := hw t_18 et_18
              refine zw_iast hx hb hK hW 1 rfl rfl hw.1 (w2 := fun a_weight_19 => (wX0_comeOne cyI cyJ cyZ h h_weight i_above i_below a_weight_19)) (fun _ => rfl) dX0_comeOne_59 (fun a_weight_19 H locs ea_weight_19 hW => ?_)
              replace hw := hw.2 a_weight_19 ea_weight_19
              exact W_60 x3 x2 a_weight_19 _ _ _ hW (lv_sub hl [2, 3, 4, 5, 0] rfl) hw
  have hl := lv_entry ([.ref h, .int x1, .int x2]) (n := 6) (Nat.le_of_ble_eq_true rfl)
  rw [lg_entry_eq]
  generalize (lg_sl ([.ref h, .int x1, .int x2]) ++ List.replicate (6 - (lg_sl ([.ref h, .int x1, .int x2])).length) Slot.unset).toArray = ls at hl ⊢
  have hl : lv_has ls 6 [(0, .ref h), (1, .int x1), (2, .int x2)] := hl
  refine lv_bipush (v := 8) hx hb dX0_comeOne_0 (by decide) ?_
  refine lv_istore_n (lv' := [(3, .int 8), (0, .ref h), (1, .int x1), (2, .int x2)]) hx hb dX0_comeOne_2 rfl hl (by decide) rfl (fun ls hl => ?_)
  obtain ⟨n_3, hw⟩ := hw
  exact W_3  n_3 8 a_weight _ _ _ hW (lv_sub hl [1, 2, 3, 0] rfl) hw
abbrev wX0_commonDivisor (cyI cyJ cyZ : ClassId) : va_W := []
abbrev qX0_commonDivisor (dC : Nat → ClassId) (dI : Nat → Nat → Nat) (cyI cyJ cyZ : ClassId) (post : Int32 → Prop) (A : Nat → Prop) : Array Value → State → Outcome → State → Prop := (va_Qi (fun (r : Int32) (u : Unit) => post r) (bW (dC, dI) (tyG cyI cyJ cyZ) A (fun _ : Unit => (wX0_commonDivisor cyI cyJ cyZ))) A)
set_option maxHeartbeats 4000000 in
set_option maxRecDepth 100000 in
theorem mX0_commonDivisor (l : Launch) (dC : Nat → ClassId) (dI : Nat → Nat → Nat) (cyI cyJ cyZ : ClassId) (sz : Nat) (x0 : Int32) (x1 : Int32) (post : Int32 → Prop) (hwp : PX0_commonDivisor x0 x1 post) : Met l yX0_commonDivisor wsX0_commonDivisor ({ frames := 0, cells := 0, slots := 0, locals := 0 } : Room) (va_Pc [.int x0, .int x1] (pcW (dC, dI) sz (wX0_commonDivisor cyI cyJ cyZ) (tyG cyI cyJ cyZ))) (qX0_commonDivisor dC dI cyI cyJ cyZ post (va_A (wX0_commonDivisor cyI cyJ cyZ) sz)) 0 0 (va_A (wX0_commonDivisor cyI cyJ cyZ) sz) := by
  refine Met.ofW (cc := cX0_commonDivisor) (maxL := 6) (ret := some .int) (by decide) rfl ?_
  intro p e s m args below meth c s₁ B hml hv
  obtain ⟨rfl, hsz, hP, hK, hD0, hN⟩ := hv
  have hx := B.exec
  have hb := B.bytes
  have hr := B.returns
  have hts := atoms_spec (ws := wsX0_commonDivisor) B.pre
  have hown : s.vm.findClass RX0 = some m.cls := findClass_of_methodNamed B.named
  have hlocks := B.notSynchronized
  subst hsz
  have hD := hD0.self (sz := s.heap.size)
  generalize hAe : va_A (wX0_commonDivisor cyI cyJ cyZ) s.heap.size = A at hD ⊢
  have hA : ∀ q : Nat, s.heap.size ≤ q → A q := fun q h => by rw [← hAe]; exact Or.inr h
  have hW : Wd (dC, dI) A s.heap (wX0_commonDivisor cyI cyJ cyZ) s.heap [] := ⟨hP, hD, va_S.rf⟩
  have hw := hwp
  have W_7 : ∀ (n_7 : Nat) (x2 : Int32) (x3 : Int32) (x4 : Int32) (H : Heap) (locs : List Loc) (ls : Array Slot), Wd (dC, dI) A s.heap (wX0_commonDivisor cyI cyJ cyZ) H locs → lv_has ls 6 [(2, .int x2), (3, .int x3), (4, .int x4)] → PX0_commonDivisor_7 post n_7 x2 x3 x4 → W p l e (({ frames := 0, cells := 0, slots := 0, locals := 0 } : Room)) s m (([.int x0, .int x1] : List Value).toArray) below meth c H locs 0 0 (MQ below (qX0_commonDivisor dC dI cyI cyJ cyZ post A) (([.int x0, .int x1] : List Value).toArray) s 0 0 A) (F0 m 7 ls []) := by
    intro n_7
    induction n_7 with
    | zero =>
      intro x2 x3 x4 H locs ls hW hl hw
      exact False.elim hw
    | succ n_7 ih_7 =>
      intro x2 x3 x4 H locs ls hW hl hw
      refine lv_iload hx hb dX0_commonDivisor_7 (lv_at hl 2 rfl) ?_
      refine lv_bipush (v := 100) hx hb dX0_commonDivisor_9 (by decide) ?_
      refine lv_icmp_ge (tgt := 34) hx hb dX0_commonDivisor_11 (by decide) (fun c_1 => ?_) (fun c_1 => ?_)
      · replace hw := hw.1 c_1
        refine lv_iload_n hx hb dX0_commonDivisor_34 rfl (lv_at hl 0 rfl) ?_
        refine zw_iret (S := Unit) (post := fun r u => post r) () hx hb hr hlocks hK hW hw ?_ dX0_commonDivisor_35
        rfl
      · replace hw := hw.2 c_1
        refine lv_iload_n hx hb dX0_commonDivisor_14 rfl (lv_at hl 1 rfl) ?_
        refine lv_if_eq (tgt := 34) hx hb dX0_commonDivisor_15 (by decide) (fun c_2 => ?_) (fun c_2 => ?_)
        · replace hw := hw.1 c_2
          refine lv_iload_n hx hb dX0_commonDivisor_34 rfl (lv_at hl 0 rfl) ?_
          refine zw_iret (S := Unit) (post := fun r u => post r) () hx hb hr hlocks hK hW hw ?_ dX0_commonDivisor_35
          rfl
        · replace hw := hw.2 c_2
          refine lv_iload_n hx hb dX0_commonDivisor_18 rfl (lv_at hl 0 rfl) ?_
          refine lv_iload_n hx hb dX0_commonDivisor_19 rfl (lv_at hl 1 rfl) ?_
          refine lv_irem hx hb dX0_commonDivisor_20 hw.1 ?_
          replace hw := hw.2
          refine lv_topi (fun x5_3 ex5_3 => ?_)
          replace hw := hw x5_3 ex5_3
          refine lv_istore (lv' := [(5, .int x5_3), (2, .int x2), (3, .int x3), (4, .int x4)]) hx hb dX0_commonDivisor_21 hl (by decide) rfl (fun ls hl => ?_)
          refine lv_iload_n hx hb dX0_commonDivisor_23 rfl (lv_at hl 2 rfl) ?_
          refine lv_istore_n (lv' := [(2, .int x3), (5, .int x5_3), (3, .int x3), (4, .int x4)]) hx hb dX0_commonDivisor_24 rfl hl (by decide) rfl (fun ls hl => ?_)
          refine lv_iload hx hb dX0_commonDivisor_25 (lv_at hl 1 rfl) ?_
          refine lv_istore_n (lv' := [(3, .int x5_3), (2, .int x3), (5, .int x5_3), (4, .int x4)]) hx hb dX0_commonDivisor_27 rfl hl (by decide) rfl (fun ls hl => ?_)
          obtain ⟨x4_4, ex4_4⟩ : ∃ y : Int32, y = x4 + 1 := ⟨_, rfl⟩
          replace hw := hw x4_4 ex4_4
          refine lv_iinc (v := x4_4) (lv' := [(4, .int x4_4), (3, .int x5_3), (2, .int x3), (5, .int x5_3)]) hx hb dX0_commonDivisor_28 hl (k := 3) rfl (by rw [ex4_4]; rfl) (by decide) rfl (fun ls hl => ?_)
          refine lv_goto (tgt := 7) hx hb dX0_commonDivisor_31 (by decide) ?_
          exact ih_7 x3 x5_3 x4_4 _ _ _ hW (lv_sub hl [2, 1, 0] rfl) hw
  have hl := lv_entry ([.int x0, .int x1]) (n := 6) (Nat.le_of_ble_eq_true rfl)
  rw [lg_entry_eq]
  generalize (lg_sl ([.int x0, .int x1]) ++ List.replicate (6 - (lg_sl ([.int x0, .int x1])).length) Slot.unset).toArray = ls at hl ⊢
  have hl : lv_has ls 6 [(0, .int x0), (1, .int x1)] := hl
  refine lv_iload_n hx hb dX0_commonDivisor_0 rfl (lv_at hl 0 rfl) ?_
  refine lv_istore_n (lv' := [(2, .int x0), (0, .int x0), (1, .int x1)]) hx hb dX0_commonDivisor_1 rfl hl (by decide) rfl (fun ls hl => ?_)
  refine lv_iload_n hx hb dX0_commonDivisor_2 rfl (lv_at hl 2 rfl) ?_
  refine lv_istore_n (lv' := [(3, .int x1), (2, .int x0), (0, .int x0), (1, .int x1)]) hx hb dX0_commonDivisor_3 rfl hl (by decide) rfl (fun ls hl => ?_)
  refine lv_iconst (v := 0) hx hb dX0_commonDivisor_4 (by decide) ?_
  refine lv_istore (lv' := [(4, .int 0), (3, .int x1), (2, .int x0), (0, .int x0), (1, .int x1)]) hx hb dX0_commonDivisor_5 hl (by decide) rfl (fun ls hl => ?_)
  obtain ⟨n_7, hw⟩ := hw
  exact W_7  n_7 x0 x1 0 _ _ _ hW (lv_sub hl [2, 1, 0] rfl) hw
abbrev wX0_reduce (cyI cyJ cyZ : ClassId) (h h_weight : Nat) (i_above : Int32) (i_below : Int32) : va_W := [(h, .inr (0, [.ref h_weight, .int i_above, .int i_below]))]
abbrev qX0_reduce (dC : Nat → ClassId) (dI : Nat → Nat → Nat) (cyI cyJ cyZ : ClassId) (h h_weight : Nat) (i_above : Int32) (i_below : Int32) (post : Int32 → Int32 → Prop) (A : Nat → Prop) : Array Value → State → Outcome → State → Prop := (va_Qv (fun (u : Int32 × Int32) => post u.1 u.2) (bW (dC, dI) (tyG cyI cyJ cyZ) A (fun u : Int32 × Int32 => (wX0_reduce cyI cyJ cyZ h h_weight (u.1) (u.2)))) A)
set_option maxHeartbeats 4000000 in
set_option maxRecDepth 100000 in
theorem mX0_reduce (l : Launch) (dC : Nat → ClassId) (dI : Nat → Nat → Nat) (cyI cyJ cyZ : ClassId) (h h_weight : Nat) (sz : Nat) (i_above : Int32) (i_below : Int32) (post : Int32 → Int32 → Prop) (hwp : PX0_reduce i_above i_below post) : Met l yX0_reduce wsX0_reduce ({ frames := 1, cells := 0, slots := 0, locals := 25 } : Room) (va_Pc [.ref h] (pcW (dC, dI) sz (wX0_reduce cyI cyJ cyZ h h_weight i_above i_below) (tyG cyI cyJ cyZ))) (qX0_reduce dC dI cyI cyJ cyZ h h_weight i_above i_below post (va_A (wX0_reduce cyI cyJ cyZ h h_weight i_above i_below) sz)) 0 0 (va_A (wX0_reduce cyI cyJ cyZ h h_weight i_above i_below) sz) := by
  refine Met.ofW (cc := cX0_reduce) (maxL := 2) (ret := none) (by decide) rfl ?_
  intro p e s m args below meth c s₁ B hml hv
  obtain ⟨rfl, hsz, hP, hK, hD0, hN⟩ := hv
  have hx := B.exec
  have hb := B.bytes
  have hr := B.returns
  have hts := atoms_spec (ws := wsX0_reduce) B.pre
  have hown : s.vm.findClass RX0 = some m.cls := findClass_of_methodNamed B.named
  have hlocks := B.notSynchronized
  subst hsz
  have hD := hD0.self (sz := s.heap.size)
  generalize hAe : va_A (wX0_reduce cyI cyJ cyZ h h_weight i_above i_below) s.heap.size = A at hD ⊢
  have hA : ∀ q : Nat, s.heap.size ≤ q → A q := fun q h => by rw [← hAe]; exact Or.inr h
  have hW : Wd (dC, dI) A s.heap (wX0_reduce cyI cyJ cyZ h h_weight i_above i_below) s.heap [] := ⟨hP, hD, va_S.rf⟩
  have hw := hwp
  have hiX0 : ∀ w ∈ u_ws RX0 TX0 3, w ∈ wsX0_reduce := fun _ h => List.mem_cons_of_mem _ (List.mem_append_right _ h)
  have k_0 := hts (.fieldLink RX0 19 "OddLetsIn$Chance" "below" "I") (List.mem_of_getElem? (i := 1) rfl)
  have k_1 := hts (.fieldLink RX0 15 "OddLetsIn$Chance" "above" "I") (List.mem_of_getElem? (i := 2) rfl)
  have hl := lv_entry ([.ref h]) (n := 2) (Nat.le_of_ble_eq_true rfl)
  rw [lg_entry_eq]
  generalize (lg_sl ([.ref h]) ++ List.replicate (2 - (lg_sl ([.ref h])).length) Slot.unset).toArray = ls at hl ⊢
  have hl : lv_has ls 2 [(0, .ref h)] := hl
  refine lv_aload_n hx hb dX0_reduce_0 rfl (lv_at hl 0 rfl) ?_
  refine zw_get (ci := 0) (C := RX0) (T := TX0) (N := 3) (v := .int i_below) hx hb hts hiX0 hown hK hW 0 rfl rfl 2 (by decide) rfl k_0 dX0_reduce_1 ?_
  refine lv_aload_n hx hb dX0_reduce_4 rfl (lv_at hl 0 rfl) ?_
  refine zw_get (ci := 0) (C := RX0) (T := TX0) (N := 3) (v := .int i_above) hx hb hts hiX0 hown hK hW 0 rfl rfl 1 (by decide) rfl k_1 dX0_reduce_5 ?_
  refine zw_Si ⟨hx, hb, hml, hown, hts⟩ hK hN hA hW [.int i_below, .int i_above] [] [] [0] [0] (fun _ => (wX0_reduce cyI cyJ cyZ h h_weight i_above i_below)) (mX0_commonDivisor l dC dI cyI cyJ cyZ _ i_below i_above _ hw) (va_cwS 2 hts gX0_reduce_X0_commonDivisor rfl rfl rfl (by decide +kernel) ⟨Nat.le_of_ble_eq_true rfl, Nat.le_of_ble_eq_true rfl⟩) rfl rfl rfl rfl (by decide) rfl (fun _ => rfl) rfl hl.1 rfl (Nat.le_of_ble_eq_true rfl) (Nat.le_of_ble_eq_true rfl) (Nat.le_of_ble_eq_true rfl) dX0_reduce_8 (fun r_1 u H locs hw hW => ?_)
  refine lv_istore_n (lv' := [(1, .int r_1), (0, .ref h)]) hx hb dX0_reduce_11 rfl hl (by decide) rfl (fun ls hl => ?_)
  refine lv_iload_n hx hb dX0_reduce_12 rfl (lv_at hl 0 rfl) ?_
  refine lv_if_le (tgt := 36) hx hb dX0_reduce_13 (by decide) (fun c_2 => ?_) (fun c_2 => ?_)
  · replace hw := hw.1 c_2
    refine zw_vret (S := Int32 × Int32) (post := fun u => post u.1 u.2) (i_above, i_below) hx hb hr hlocks hK hW hw ?_ dX0_reduce_36
    rfl
  · replace hw := hw.2 c_2
    refine lv_aload_n hx hb dX0_reduce_16 rfl (lv_at hl 1 rfl) ?_
    refine lv_dup hx hb dX0_reduce_17 rfl ?_
    refine zw_get (ci := 0) (C := RX0) (T := TX0) (N := 3) (v := .int i_above) hx hb hts hiX0 hown hK hW 0 rfl rfl 1 (by decide) rfl k_1 dX0_reduce_18 ?_
    refine lv_iload_n hx hb dX0_reduce_21 rfl (lv_at hl 0 rfl) ?_
    refine lv_idiv hx hb dX0_reduce_22 hw.1 ?_
    replace hw := hw.2
    refine lv_topi (fun i_3 ei_3 => ?_)
    replace hw := hw i_3 ei_3
    refine zw_put (ci := 0) (C := RX0) (T := TX0) (N := 3) (w2 := (wX0_reduce cyI cyJ cyZ h h_weight i_3 i_below)) hx hb hts hiX0 tyX0 tyX0_ok nmX0 hown hK hW 0 rfl rfl 1 (by decide) (by decide +kernel) rfl (Nat.le_of_ble_eq_true rfl) rfl k_1 dX0_reduce_23 (fun H locs hW => ?_)
    refine lv_aload_n hx hb dX0_reduce_26 rfl (lv_at hl 1 rfl) ?_
    refine lv_dup hx hb dX0_reduce_27 rfl ?_
    refine zw_get (ci := 0) (C := RX0) (T := TX0) (N := 3) (v := .int i_below) hx hb hts hiX0 hown hK hW 0 rfl rfl 2 (by decide) rfl k_0 dX0_reduce_28 ?_
    refine lv_iload_n hx hb dX0_reduce_31 rfl (lv_at hl 0 rfl) ?_
    refine lv_idiv hx hb dX0_reduce_32 hw.1 ?_
    replace hw := hw.2
    refine lv_topi (fun i_4 ei_4 => ?_)
    replace hw := hw i_4 ei_4
    refine zw_put (ci := 0) (C := RX0) (T := TX0) (N := 3) (w2 := (wX0_reduce cyI cyJ cyZ h h_weight i_3 i_4)) hx hb hts hiX0 tyX0 tyX0_ok nmX0 hown hK hW 0 rfl rfl 2 (by decide) (by decide +kernel) rfl (Nat.le_of_ble_eq_true rfl) rfl k_0 dX0_reduce_33 (fun H locs hW => ?_)
    refine zw_vret (S := Int32 × Int32) (post := fun u => post u.1 u.2) (i_3, i_4) hx hb hr hlocks hK hW hw ?_ dX0_reduce_36
    rfl
abbrev wX0_reckon (cyI cyJ cyZ : ClassId) (h h_weight ho ho_courtA ho_courtB ho_kind ho_gone ho_court : Nat) (i_above : Int32) (i_below : Int32) (a_weight : Nat → Int32) (io_gates : Int32) (io_persons : Int32) (io_fines : Int32) (ao_kind : Nat → Int32) (ao_gone : Nat → Int32) : va_W := [(h, .inr (0, [.ref h_weight, .int i_above, .int i_below])), (h_weight, .inl (cyI, 9, .inl a_weight)), (ho, .inr (2, [.ref ho_courtA, .ref ho_courtB, .ref ho_kind, .ref ho_gone, .int io_gates, .ref ho_court, .int io_persons, .int io_fines])), (ho_kind, .inl (cyI, 5, .inl ao_kind)), (ho_gone, .inl (cyI, 5, .inl ao_gone))]
abbrev qX0_reckon (dC : Nat → ClassId) (dI : Nat → Nat → Nat) (cyI cyJ cyZ : ClassId) (h h_weight ho ho_courtA ho_courtB ho_kind ho_gone ho_court : Nat) (i_above : Int32) (i_below : Int32) (a_weight : Nat → Int32) (io_gates : Int32) (io_persons : Int32) (io_fines : Int32) (ao_kind : Nat → Int32) (ao_gone : Nat → Int32) (post : Int32 → Int32 → (Nat → Int32) → (Nat → Int32) → Prop) (A : Nat → Prop) : Array Value → State → Outcome → State → Prop := (va_Qv (fun (u : Int32 × Int32 × (Nat → Int32) × (Nat → Int32)) => post u.1 u.2.1 u.2.2.1 u.2.2.2) (bW (dC, dI) (tyG cyI cyJ cyZ) A (fun u : Int32 × Int32 × (Nat → Int32) × (Nat → Int32) => (wX0_reckon cyI cyJ cyZ h h_weight ho ho_courtA ho_courtB ho_kind ho_gone ho_court (u.1) (u.2.1) (u.2.2.1) io_gates io_persons io_fines ao_kind (u.2.2.2)))) A)
set_option maxHeartbeats 4000000 in
set_option maxRecDepth 100000 in
theorem mX0_reckon (l : Launch) (dC : Nat → ClassId) (dI : Nat → Nat → Nat) (cyI cyJ cyZ : ClassId) (h h_weight ho ho_courtA ho_courtB ho_kind ho_gone ho_court : Nat) (sz : Nat) (i_above : Int32) (i_below : Int32) (a_weight : Nat → Int32) (io_gates : Int32) (io_persons : Int32) (io_fines : Int32) (ao_kind : Nat → Int32) (ao_gone : Nat → Int32) (x2 : Int32) (x3 : Int32) (x4 : Int32) (post : Int32 → Int32 → (Nat → Int32) → (Nat → Int32) → Prop) (hwp : PX0_reckon x2 x3 x4 i_above i_below a_weight io_gates ao_kind ao_gone post) : Met l yX0_reckon wsX0_reckon ({ frames := 4, cells := 0, slots := 0, locals := 91 } : Room) (va_Pc [.ref h, .ref ho, .int x2, .int x3, .int x4] (pcW (dC, dI) sz (wX0_reckon cyI cyJ cyZ h h_weight ho ho_courtA ho_courtB ho_kind ho_gone ho_court i_above i_below a_weight io_gates io_persons io_fines ao_kind ao_gone) (tyG cyI cyJ cyZ))) (qX0_reckon dC dI cyI cyJ cyZ h h_weight ho ho_courtA ho_courtB ho_kind ho_gone ho_court i_above i_below a_weight io_gates io_persons io_fines ao_kind ao_gone post (va_A (wX0_reckon cyI cyJ cyZ h h_weight ho ho_courtA ho_courtB ho_kind ho_gone ho_court i_above i_below a_weight io_gates io_persons io_fines ao_kind ao_gone) sz)) 0 0 (va_A (wX0_reckon cyI cyJ cyZ h h_weight ho ho_courtA ho_courtB ho_kind ho_gone ho_court i_above i_below a_weight io_gates io_persons io_fines ao_kind ao_gone) sz) := by
  refine Met.ofW (cc := cX0_reckon) (maxL := 7) (ret := none) (by decide) rfl ?_
  intro p e s m args below meth c s₁ B hml hv
  obtain ⟨rfl, hsz, hP, hK, hD0, hN⟩ := hv
  have hx := B.exec
  have hb := B.bytes
  have hr := B.returns
  have hts := atoms_spec (ws := wsX0_reckon) B.pre
  have hown : s.vm.findClass RX0 = some m.cls := findClass_of_methodNamed B.named
  have hlocks := B.notSynchronized
  subst hsz
  have hD := hD0.self (sz := s.heap.size)
  generalize hAe : va_A (wX0_reckon cyI cyJ cyZ h h_weight ho ho_courtA ho_courtB ho_kind ho_gone ho_court i_above i_below a_weight io_gates io_persons io_fines ao_kind ao_gone) s.heap.size = A at hD ⊢
  have hA : ∀ q : Nat, s.heap.size ≤ q → A q := fun q h => by rw [← hAe]; exact Or.inr h
  have hW : Wd (dC, dI) A s.heap (wX0_reckon cyI cyJ cyZ h h_weight ho ho_courtA ho_courtB ho_kind ho_gone ho_court i_above i_below a_weight io_gates io_persons io_fines ao_kind ao_gone) s.heap [] := ⟨hP, hD, va_S.rf⟩
  have hw := hwp
  have hiX0 : ∀ w ∈ u_ws RX0 TX0 3, w ∈ wsX0_reckon := fun _ h => List.mem_cons_of_mem _ (List.mem_append_left _ (List.mem_append_right _ h))
  have k_0 := hts (.fieldLink RX0 15 "OddLetsIn$Chance" "above" "I") (List.mem_of_getElem? (i := 2) rfl)
  have k_1 := hts (.fieldLink RX0 9 "OddLetsIn$Chance" "weight" "[I") (List.mem_of_getElem? (i := 1) rfl)
  have k_2 := hts (.fieldLink RX0 19 "OddLetsIn$Chance" "below" "I") (List.mem_of_getElem? (i := 3) rfl)
  have W_77 : ∀ (x5 : Int32) (i_below : Int32) (a_weight : Nat → Int32) (ao_gone : Nat → Int32) (n_77 : Nat) (x6 : Int32) (i_above : Int32) (H : Heap) (locs : List Loc) (ls : Array Slot), Wd (dC, dI) A s.heap (wX0_reckon cyI cyJ cyZ h h_weight ho ho_courtA ho_courtB ho_kind ho_gone ho_court i_above i_below a_weight io_gates io_persons io_fines ao_kind ao_gone) H locs → lv_has ls 7 [(0, .ref h), (5, .int x5), (6, .int x6)] → PX0_reckon_77 post x5 i_below a_weight ao_gone n_77 x6 i_above → W p l e (({ frames := 4, cells := 0, slots := 0, locals := 91 } : Room)) s m (([.ref h, .ref ho, .int x2, .int x3, .int x4] : List Value).toArray) below meth c H locs 0 0 (MQ below (qX0_reckon dC dI cyI cyJ cyZ h h_weight ho ho_courtA ho_courtB ho_kind ho_gone ho_court i_above i_below a_weight io_gates io_persons io_fines ao_kind ao_gone post A) (([.ref h, .ref ho, .int x2, .int x3, .int x4] : List Value).toArray) s 0 0 A) (F0 m 77 ls []) := by
    intro x5 i_below a_weight ao_gone n_77
    induction n_77 with
    | zero =>
      intro x6 i_above H locs ls hW hl hw
      exact False.elim hw
    | succ n_77 ih_77 =>
      intro x6 i_above H locs ls hW hl hw
      refine lv_iload hx hb dX0_reckon_77 (lv_at hl 2 rfl) ?_
      refine lv_bipush (v := 8) hx hb dX0_reckon_79 (by decide) ?_
      refine lv_icmp_gt (tgt := 114) hx hb dX0_reckon_81 (by decide) (fun c_1 => ?_) (fun c_1 => ?_)
      · replace hw := hw.1 c_1
        refine lv_aload_n hx hb dX0_reckon_114 rfl (lv_at hl 0 rfl) ?_
        refine zw_Vv ⟨hx, hb, hml, hown, hts⟩ hK hN hA hW 0 rfl (T := TX0) (N := 3) rfl [] [] [0] [1, 2, 3, 4] [4, 0, 1, 2, 3] (fun u => (wX0_reckon cyI cyJ cyZ h h_weight ho ho_courtA ho_courtB ho_kind ho_gone ho_court (u.1) (u.2) a_weight io_gates io_persons io_fines ao_kind ao_gone)) (mX0_reduce l dC dI cyI cyJ cyZ h h_weight _ i_above i_below _ hw) (cwV 0 hts gX0_reckon_X0_reduce rfl rfl rfl (by decide +kernel) ⟨Nat.le_of_ble_eq_true rfl, Nat.le_of_ble_eq_true rfl⟩) rfl rfl rfl rfl (by decide) rfl (fun _ => rfl) rfl hl.1 rfl (Nat.le_of_ble_eq_true rfl) (Nat.le_of_ble_eq_true rfl) (Nat.le_of_ble_eq_true rfl) dX0_reckon_115 (fun u H locs hw hW => ?_)
        obtain ⟨i_above_2, i_below_3⟩ := u
        try dsimp only at hw
        replace hW : Wd (dC, dI) A s.heap (wX0_reckon cyI cyJ cyZ h h_weight ho ho_courtA ho_courtB ho_kind ho_gone ho_court i_above_2 i_below_3 a_weight io_gates io_persons io_fines ao_kind ao_gone) H locs := hW
        refine zw_vret (S := Int32 × Int32 × (Nat → Int32) × (Nat → Int32)) (post := fun u => post u.1 u.2.1 u.2.2.1 u.2.2.2) (i_above_2, i_below_3, a_weight, ao_gone) hx hb hr hlocks hK hW hw ?_ dX0_reckon_118
        rfl
      · replace hw := hw.2 c_1
        refine lv_aload_n hx hb dX0_reckon_84 rfl (lv_at hl 0 rfl) ?_
        refine lv_dup hx hb dX0_reckon_85 rfl ?_
        refine zw_get (ci := 0) (C := RX0) (T := TX0) (N := 3) (v := .int i_above) hx hb hts hiX0 hown hK hW 0 rfl rfl 1 (by decide) rfl k_0 dX0_reckon_86 ?_
        refine lv_iload hx hb dX0_reckon_89 (lv_at hl 1 rfl) ?_
        refine lv_iload hx hb dX0_reckon_91 (lv_at hl 2 rfl) ?_
        refine lv_ishr hx hb dX0_reckon_93 ?_
        refine lv_iconst (v := 1) hx hb dX0_reckon_94 (by decide) ?_
        refine lv_iand hx hb dX0_reckon_95 ?_
        refine lv_aload_n hx hb dX0_reckon_96 rfl (lv_at hl 0 rfl) ?_
        refine zw_get (ci := 0) (C := RX0) (T := TX0) (N := 3) (v := .ref h_weight) hx hb hts hiX0 hown hK hW 0 rfl rfl 0 (by decide) rfl k_1 dX0_reckon_97 ?_
        refine lv_iload hx hb dX0_reckon_100 (lv_at hl 2 rfl) ?_
        refine zw_iald hx hb hK hW 1 rfl rfl hw.1 dX0_reckon_102 ?_
        replace hw := hw.2
        refine lv_imul hx hb dX0_reckon_103 ?_
        refine lv_iadd hx hb dX0_reckon_104 ?_
        refine lv_topi (fun i_4 ei_4 => ?_)
        replace hw := hw i_4 ei_4
        refine zw_put (ci := 0) (C := RX0) (T := TX0) (N := 3) (w2 := (wX0_reckon cyI cyJ cyZ h h_weight ho ho_courtA ho_courtB ho_kind ho_gone ho_court i_4 i_below a_weight io_gates io_persons io_fines ao_kind ao_gone)) hx hb hts hiX0 tyX0 tyX0_ok nmX0 hown hK hW 0 rfl rfl 1 (by decide) (by decide +kernel) rfl (Nat.le_of_ble_eq_true rfl) rfl k_0 dX0_reckon_105 (fun H locs hW => ?_)
        obtain ⟨x6_5, ex6_5⟩ : ∃ y : Int32, y = x6 + 1 := ⟨_, rfl⟩
        replace hw := hw x6_5 ex6_5
        refine lv_iinc (v := x6_5) (lv' := [(6, .int x6_5), (0, .ref h), (5, .int x5)]) hx hb dX0_reckon_108 hl (k := 2) rfl (by rw [ex6_5]; rfl) (by decide) rfl (fun ls hl => ?_)
        refine lv_goto (tgt := 77) hx hb dX0_reckon_111 (by decide) ?_
        exact ih_77 x6_5 i_4 _ _ _ hW (lv_sub hl [1, 2, 0] rfl) hw
  have W_36 : ∀ (x5 : Int32) (i_above : Int32) (ao_gone : Nat → Int32) (n_36 : Nat) (x6 : Int32) (i_below : Int32) (a_weight : Nat → Int32) (H : Heap) (locs : List Loc) (ls : Array Slot), Wd (dC, dI) A s.heap (wX0_reckon cyI cyJ cyZ h h_weight ho ho_courtA ho_courtB ho_kind ho_gone ho_court i_above i_below a_weight io_gates io_persons io_fines ao_kind ao_gone) H locs → lv_has ls 7 [(0, .ref h), (3, .int x3), (4, .int x4), (5, .int x5), (6, .int x6)] → PX0_reckon_36 post x3 x4 x5 i_above ao_gone n_36 x6 i_below a_weight → W p l e (({ frames := 4, cells := 0, slots := 0, locals := 91 } : Room)) s m (([.ref h, .ref ho, .int x2, .int x3, .int x4] : List Value).toArray) below meth c H locs 0 0 (MQ below (qX0_reckon dC dI cyI cyJ cyZ h h_weight ho ho_courtA ho_courtB ho_kind ho_gone ho_court i_above i_below a_weight io_gates io_persons io_fines ao_kind ao_gone post A) (([.ref h, .ref ho, .int x2, .int x3, .int x4] : List Value).toArray) s 0 0 A) (F0 m 36 ls []) := by
    intro x5 i_above ao_gone n_36
    induction n_36 with
    | zero =>
      intro x6 i_below a_weight H locs ls hW hl hw
      exact False.elim hw
    | succ n_36 ih_36 =>
      intro x6 i_below a_weight H locs ls hW hl hw
      refine lv_iload hx hb dX0_reckon_36 (lv_at hl 4 rfl) ?_
      refine lv_iload_n hx hb dX0_reckon_38 rfl (lv_at hl 1 rfl) ?_
      refine lv_icmp_ge (tgt := 74) hx hb dX0_reckon_39 (by decide) (fun c_6 => ?_) (fun c_6 => ?_)
      · replace hw := hw.1 c_6
        refine lv_iconst (v := 0) hx hb dX0_reckon_74 (by decide) ?_
        refine lv_istore (lv' := [(6, .int 0), (0, .ref h), (3, .int x3), (4, .int x4), (5, .int x5)]) hx hb dX0_reckon_75 hl (by decide) rfl (fun ls hl => ?_)
        obtain ⟨n_77, hw⟩ := hw
        exact W_77 x5 i_below a_weight ao_gone n_77 0 i_above _ _ _ hW (lv_sub hl [1, 4, 0] rfl) hw
      · replace hw := hw.2 c_6
        refine lv_iload hx hb dX0_reckon_42 (lv_at hl 4 rfl) ?_
        refine lv_bipush (v := 8) hx hb dX0_reckon_44 (by decide) ?_
        refine lv_icmp_ge (tgt := 74) hx hb dX0_reckon_46 (by decide) (fun c_7 => ?_) (fun c_7 => ?_)
        · replace hw := hw.1 c_7
          refine lv_iconst (v := 0) hx hb dX0_reckon_74 (by decide) ?_
          refine lv_istore (lv' := [(6, .int 0), (0, .ref h), (3, .int x3), (4, .int x4), (5, .int x5)]) hx hb dX0_reckon_75 hl (by decide) rfl (fun ls hl => ?_)
          obtain ⟨n_77, hw⟩ := hw
          exact W_77 x5 i_below a_weight ao_gone n_77 0 i_above _ _ _ hW (lv_sub hl [1, 4, 0] rfl) hw
        · replace hw := hw.2 c_7
          refine lv_aload_n hx hb dX0_reckon_49 rfl (lv_at hl 0 rfl) ?_
          refine lv_iload hx hb dX0_reckon_50 (lv_at hl 3 rfl) ?_
          refine lv_iload hx hb dX0_reckon_52 (lv_at hl 2 rfl) ?_
          refine zw_Vv ⟨hx, hb, hml, hown, hts⟩ hK hN hA hW 0 rfl (T := TX0) (N := 3) rfl [.int x5, .int x4] [] [0, 1] [2, 3, 4] [3, 4, 0, 1, 2] (fun u => (wX0_reckon cyI cyJ cyZ h h_weight ho ho_courtA ho_courtB ho_kind ho_gone ho_court i_above i_below u io_gates io_persons io_fines ao_kind ao_gone)) (mX0_comeOne l dC dI cyI cyJ cyZ h h_weight _ i_above i_below a_weight x5 x4 _ hw) (cwV 2 hts gX0_reckon_X0_comeOne rfl rfl rfl (by decide +kernel) ⟨Nat.le_of_ble_eq_true rfl, Nat.le_of_ble_eq_true rfl⟩) rfl rfl rfl rfl (by decide) rfl (fun _ => rfl) rfl hl.1 rfl (Nat.le_of_ble_eq_true rfl) (Nat.le_of_ble_eq_true rfl) (Nat.le_of_ble_eq_true rfl) dX0_reckon_54 (fun u H locs hw hW => ?_)
          obtain ⟨a_weight_8, rfl⟩ : ∃ z, z = u := ⟨_, rfl⟩
          replace hW : Wd (dC, dI) A s.heap (wX0_reckon cyI cyJ cyZ h h_weight ho ho_courtA ho_courtB ho_kind ho_gone ho_court i_above i_below a_weight_8 io_gates io_persons io_fines ao_kind ao_gone) H locs := hW
          refine lv_aload_n hx hb dX0_reckon_57 rfl (lv_at hl 0 rfl) ?_
          refine lv_dup hx hb dX0_reckon_58 rfl ?_
          refine zw_get (ci := 0) (C := RX0) (T := TX0) (N := 3) (v := .int i_below) hx hb hts hiX0 hown hK hW 0 rfl rfl 2 (by decide) rfl k_2 dX0_reckon_59 ?_
          refine lv_bipush (v := 10) hx hb dX0_reckon_62 (by decide) ?_
          refine lv_imul hx hb dX0_reckon_64 ?_
          refine lv_topi (fun i_9 ei_9 => ?_)
          replace hw := hw i_9 ei_9
          refine zw_put (ci := 0) (C := RX0) (T := TX0) (N := 3) (w2 := (wX0_reckon cyI cyJ cyZ h h_weight ho ho_courtA ho_courtB ho_kind ho_gone ho_court i_above i_9 a_weight_8 io_gates io_persons io_fines ao_kind ao_gone)) hx hb hts hiX0 tyX0 tyX0_ok nmX0 hown hK hW 0 rfl rfl 2 (by decide) (by decide +kernel) rfl (Nat.le_of_ble_eq_true rfl) rfl k_2 dX0_reckon_65 (fun H locs hW => ?_)
          obtain ⟨x6_10, ex6_10⟩ : ∃ y : Int32, y = x6 + 1 := ⟨_, rfl⟩
          replace hw := hw x6_10 ex6_10
          refine lv_iinc (v := x6_10) (lv' := [(6, .int x6_10), (0, .ref h), (3, .int x3), (4, .int x4), (5, .int x5)]) hx hb dX0_reckon_68 hl (k := 4) rfl (by rw [ex6_10]; rfl) (by decide) rfl (fun ls hl => ?_)
          refine lv_goto (tgt := 36) hx hb dX0_reckon_71 (by decide) ?_
          exact ih_36 x6_10 i_9 a_weight_8 _ _ _ hW (lv_sub hl [1, 2, 3, 4, 0] rfl) hw
  have hl := lv_entry ([.ref h, .ref ho, .int x2, .int x3, .int x4]) (n := 7) (Nat.le_of_ble_eq_true rfl)
  rw [lg_entry_eq]
  generalize (lg_sl ([.ref h, .ref ho, .int x2, .int x3, .int x4]) ++ List.replicate (7 - (lg_sl ([.ref h, .ref ho, .int x2, .int x3, .int x4])).length) Slot.unset).toArray = ls at hl ⊢
  have hl : lv_has ls 7 [(0, .ref h), (1, .ref ho), (2, .int x2), (3, .int x3), (4, .int x4)] := hl
  refine lv_aload_n hx hb dX0_reckon_0 rfl (lv_at hl 0 rfl) ?_
  refine lv_aload_n hx hb dX0_reckon_1 rfl (lv_at hl 1 rfl) ?_
  refine lv_iload_n hx hb dX0_reckon_2 rfl (lv_at hl 2 rfl) ?_
  refine zw_Vi ⟨hx, hb, hml, hown, hts⟩ hK hN hA hW 0 rfl (T := TX0) (N := 3) rfl [.ref ho, .int x2] [] [2, 3, 4] [0, 1] [0, 1, 2, 3, 4] (fun u => (wX0_reckon cyI cyJ cyZ h h_weight ho ho_courtA ho_courtB ho_kind ho_gone ho_court i_above i_below a_weight io_gates io_persons io_fines ao_kind u)) (mX0_openByMoreGone l dC dI cyI cyJ cyZ h ho ho_courtA ho_courtB ho_kind ho_gone ho_court _ io_gates io_persons io_fines ao_kind ao_gone x2 _ hw) (cwV 2 hts gX0_reckon_X0_openByMoreGone rfl rfl rfl (by decide +kernel) ⟨Nat.le_of_ble_eq_true rfl, Nat.le_of_ble_eq_true rfl⟩) rfl rfl rfl rfl (by decide) rfl (fun _ => rfl) rfl hl.1 rfl (Nat.le_of_ble_eq_true rfl) (Nat.le_of_ble_eq_true rfl) (Nat.le_of_ble_eq_true rfl) dX0_reckon_3 (fun r_12 u H locs hw hW => ?_)
  obtain ⟨ao_gone_11, rfl⟩ : ∃ z, z = u := ⟨_, rfl⟩
  replace hW : Wd (dC, dI) A s.heap (wX0_reckon cyI cyJ cyZ h h_weight ho ho_courtA ho_courtB ho_kind ho_gone ho_court i_above i_below a_weight io_gates io_persons io_fines ao_kind ao_gone_11) H locs := hW
  refine lv_istore (lv' := [(5, .int r_12), (0, .ref h), (1, .ref ho), (2, .int x2), (3, .int x3), (4, .int x4)]) hx hb dX0_reckon_6 hl (by decide) rfl (fun ls hl => ?_)
  refine lv_aload_n hx hb dX0_reckon_8 rfl (lv_at hl 1 rfl) ?_
  refine zw_get (ci := 0) (C := RX0) (T := TX0) (N := 3) (v := .ref h_weight) hx hb hts hiX0 hown hK hW 0 rfl rfl 0 (by decide) rfl k_1 dX0_reckon_9 ?_
  refine lv_iconst (v := 0) hx hb dX0_reckon_12 (by decide) ?_
  refine zw_Sv ⟨hx, hb, hml, hown, hts⟩ hK hN hA hW [.ref h_weight, .int 0] [] [1] [0, 2, 3, 4] [0, 4, 1, 2, 3] (fun u => (wX0_reckon cyI cyJ cyZ h h_weight ho ho_courtA ho_courtB ho_kind ho_gone ho_court i_above i_below u io_gates io_persons io_fines ao_kind ao_gone_11)) (mJ7_fill_53178 l dC dI cyI cyJ cyZ h_weight 9 _ a_weight 0 _ hw) (va_cwS 2 hts gX0_reckon_J7_fill_53178 rfl rfl rfl (by decide +kernel) ⟨Nat.le_of_ble_eq_true rfl, Nat.le_of_ble_eq_true rfl⟩) rfl rfl rfl rfl (by decide) rfl (fun _ => rfl) rfl hl.1 rfl (Nat.le_of_ble_eq_true rfl) (Nat.le_of_ble_eq_true rfl) (Nat.le_of_ble_eq_true rfl) dX0_reckon_13 (fun u H locs hw hW => ?_)
  obtain ⟨a_weight_13, rfl⟩ : ∃ z, z = u := ⟨_, rfl⟩
  replace hW : Wd (dC, dI) A s.heap (wX0_reckon cyI cyJ cyZ h h_weight ho ho_courtA ho_courtB ho_kind ho_gone ho_court i_above i_below a_weight_13 io_gates io_persons io_fines ao_kind ao_gone_11) H locs := hW
  refine lv_aload_n hx hb dX0_reckon_16 rfl (lv_at hl 1 rfl) ?_
  refine zw_get (ci := 0) (C := RX0) (T := TX0) (N := 3) (v := .ref h_weight) hx hb hts hiX0 hown hK hW 0 rfl rfl 0 (by decide) rfl k_1 dX0_reckon_17 ?_
  refine lv_iconst (v := 0) hx hb dX0_reckon_20 (by decide) ?_
  refine lv_iconst (v := 1) hx hb dX0_reckon_21 (by decide) ?_
  refine zw_iast hx hb hK hW 1 rfl rfl hw.1 (w2 := fun a_weight_14 => (wX0_reckon cyI cyJ cyZ h h_weight ho ho_courtA ho_courtB ho_kind ho_gone ho_court i_above i_below a_weight_14 io_gates io_persons io_fines ao_kind ao_gone_11)) (fun _ => rfl) dX0_reckon_22 (fun a_weight_14 H locs ea_weight_14 hW => ?_)
  replace hw := hw.2 a_weight_14 ea_weight_14
  refine lv_aload_n hx hb dX0_reckon_23 rfl (lv_at hl 1 rfl) ?_
  refine lv_iconst (v := 0) hx hb dX0_reckon_24 (by decide) ?_
  refine zw_put (ci := 0) (C := RX0) (T := TX0) (N := 3) (w2 := (wX0_reckon cyI cyJ cyZ h h_weight ho ho_courtA ho_courtB ho_kind ho_gone ho_court 0 i_below a_weight_14 io_gates io_persons io_fines ao_kind ao_gone_11)) hx hb hts hiX0 tyX0 tyX0_ok nmX0 hown hK hW 0 rfl rfl 1 (by decide) (by decide +kernel) rfl (Nat.le_of_ble_eq_true rfl) rfl k_0 dX0_reckon_25 (fun H locs hW => ?_)
  refine lv_aload_n hx hb dX0_reckon_28 rfl (lv_at hl 1 rfl) ?_
  refine lv_iconst (v := 1) hx hb dX0_reckon_29 (by decide) ?_
  refine zw_put (ci := 0) (C := RX0) (T := TX0) (N := 3) (w2 := (wX0_reckon cyI cyJ cyZ h h_weight ho ho_courtA ho_courtB ho_kind ho_gone ho_court 0 1 a_weight_14 io_gates io_persons io_fines ao_kind ao_gone_11)) hx hb hts hiX0 tyX0 tyX0_ok nmX0 hown hK hW 0 rfl rfl 2 (by decide) (by decide +kernel) rfl (Nat.le_of_ble_eq_true rfl) rfl k_2 dX0_reckon_30 (fun H locs hW => ?_)
  refine lv_iconst (v := 0) hx hb dX0_reckon_33 (by decide) ?_
  refine lv_istore (lv' := [(6, .int 0), (5, .int r_12), (0, .ref h), (1, .ref ho), (2, .int x2), (3, .int x3), (4, .int x4)]) hx hb dX0_reckon_34 hl (by decide) rfl (fun ls hl => ?_)
  obtain ⟨n_36, hw⟩ := hw
  exact W_36 r_12 0 ao_gone_11 n_36 0 1 a_weight_14 _ _ _ hW (lv_sub hl [2, 5, 6, 1, 0] rfl) hw
set_option maxHeartbeats 4000000 in
set_option maxRecDepth 100000 in
theorem mX1_init (l : Launch) (dC : Nat → ClassId) (dI : Nat → Nat → Nat) (cyI cyJ cyZ : ClassId) (h sz : Nat) : Met l yX1_init wsX1_init ({ frames := 1, cells := 4, slots := 32, locals := 20 } : Room) (va_Pc [.ref h] (pcW (dC, dI) sz [(h, .inr (1, [.null, .null, .null, .null, .int 0]))] (tyG cyI cyJ cyZ))) (va_Qv (fun _ : Nat × Nat × Nat × Nat => True) (bW (dC, dI) (tyG cyI cyJ cyZ) (va_A [(h, .inr (1, [.null, .null, .null, .null, .int 0]))] sz) (fun u : Nat × Nat × Nat × Nat => ([(h, .inr (1, [.ref (u.1), .ref (u.2.1), .ref (u.2.2.1), .ref (u.2.2.2), .int 0])), ((u.1), .inl (cyI, 8, .inl (fun _ => 0))), ((u.2.1), .inl (cyI, 8, .inl (fun _ => 0))), ((u.2.2.1), .inl (cyI, 8, .inl (fun _ => 0))), ((u.2.2.2), .inl (cyI, 8, .inl (fun _ => 0)))] : va_W))) (va_A [(h, .inr (1, [.null, .null, .null, .null, .int 0]))] sz)) 4 32 (va_A [(h, .inr (1, [.null, .null, .null, .null, .int 0]))] sz) := by
  refine Met.ofW (cc := cX1_init) (maxL := 1) (ret := none) (by decide) rfl ?_
  intro p e s m args below meth c s₁ B hml hv
  obtain ⟨rfl, hsz, hP, hK, hD0, hN⟩ := hv
  have hx := B.exec
  have hb := B.bytes
  have hr := B.returns
  have hts := atoms_spec (ws := wsX1_init) B.pre
  have hown : s.vm.findClass RX1 = some m.cls := findClass_of_methodNamed B.named
  have hlocks := B.notSynchronized
  have hin : meth.name = "<init>" := (name_of_methodNamed B.named B.method).1
  subst hsz
  have hD := hD0.self (sz := s.heap.size)
  generalize hAe : va_A [(h, .inr (1, [.null, .null, .null, .null, .int 0]))] s.heap.size = A at hD ⊢
  have hA : ∀ q : Nat, s.heap.size ≤ q → A q := fun q h => by rw [← hAe]; exact Or.inr h
  have hW : Wd (dC, dI) A s.heap ([(h, .inr (1, [.null, .null, .null, .null, .int 0]))] : va_W) s.heap [] := ⟨hP, hD, va_S.rf⟩
  have hw := trivial
  have hiX1 : ∀ w ∈ u_ws RX1 TX1 5, w ∈ wsX1_init := fun _ h => List.mem_cons_of_mem _ (List.mem_append_right _ h)
  have k_0 := hts (.methodLink RX1 1 objectInit) (List.mem_of_getElem? (i := 1) rfl)
  have k_1 := hts (.instanceMethod objectInit) (List.mem_of_getElem? (i := 2) rfl)
  have k_2 := hts (.code objectInit ⟨#[0xb1]⟩ 1 none) (List.mem_of_getElem? (i := 3) rfl)
  have k_3 := hts (.arrayClass .int) (List.mem_of_getElem? (i := 4) rfl)
  have k_4 := hts (.fieldLink RX1 9 "OddLetsIn$Deeds" "person" "[I") (List.mem_of_getElem? (i := 5) rfl)
  have k_5 := hts (.fieldLink RX1 13 "OddLetsIn$Deeds" "gate" "[I") (List.mem_of_getElem? (i := 6) rfl)
  have k_6 := hts (.fieldLink RX1 16 "OddLetsIn$Deeds" "from" "[I") (List.mem_of_getElem? (i := 7) rfl)
  have k_7 := hts (.fieldLink RX1 19 "OddLetsIn$Deeds" "fine" "[I") (List.mem_of_getElem? (i := 8) rfl)
  have k_8 := hts (.fieldLink RX1 22 "OddLetsIn$Deeds" "many" "I") (List.mem_of_getElem? (i := 9) rfl)
  have hl := lv_entry ([.ref h]) (n := 1) (Nat.le_of_ble_eq_true rfl)
  rw [lg_entry_eq]
  generalize (lg_sl ([.ref h]) ++ List.replicate (1 - (lg_sl ([.ref h])).length) Slot.unset).toArray = ls at hl ⊢
  have hl : lv_has ls 1 [(0, .ref h)] := hl
  refine lv_aload_n hx hb dX1_init_0 rfl (lv_at hl 0 rfl) ?_
  refine W.objInit hx hb hown k_0 k_1 k_2 rfl (by rw [hml]; exact hl.1) rfl dX1_init_1 (Nat.le_of_ble_eq_true rfl) (Nat.le_of_ble_eq_true rfl) ?_
  refine W.eq (g2 := F0 m 4 ls []) rfl ?_
  refine lv_aload_n hx hb dX1_init_4 rfl (lv_at hl 0 rfl) ?_
  refine lv_bipush (v := 8) hx hb dX1_init_5 (by decide) ?_
  refine zw_newi hx hb k_3 hK hA hW 8 (by decide) (by decide) (Nat.le_of_ble_eq_true rfl) (Nat.le_of_ble_eq_true rfl) (Nat.le_of_ble_eq_true rfl) dX1_init_7 (fun h_person H hW => ?_)
  replace hW : Wd (dC, dI) A s.heap ([(h, .inr (1, [.null, .null, .null, .null, .int 0])), (h_person, .inl (cyI, 8, .inl (fun _ => 0)))] : va_W) H _ := hW
  refine zw_putF (ci := 1) (C := RX1) (T := TX1) (N := 5) (ty := .array .int) (w2 := [(h, .inr (1, [.ref h_person, .null, .null, .null, .int 0])), (h_person, .inl (cyI, 8, .inl (fun _ => 0)))]) hx hb hts hiX1 tyX1 tyX1_ok nmX1 hown hK hW 0 rfl rfl 0 (by decide) (by decide +kernel) rfl rfl rfl hin rfl (Nat.le_of_ble_eq_true rfl) rfl k_4 dX1_init_9 (fun H locs hW => ?_)
  refine lv_aload_n hx hb dX1_init_12 rfl (lv_at hl 0 rfl) ?_
  refine lv_bipush (v := 8) hx hb dX1_init_13 (by decide) ?_
  refine zw_newi hx hb k_3 hK hA hW 8 (by decide) (by decide) (Nat.le_of_ble_eq_true rfl) (Nat.le_of_ble_eq_true rfl) (Nat.le_of_ble_eq_true rfl) dX1_init_15 (fun h_gate H hW => ?_)
  replace hW : Wd (dC, dI) A s.heap ([(h, .inr (1, [.ref h_person, .null, .null, .null, .int 0])), (h_person, .inl (cyI, 8, .inl (fun _ => 0))), (h_gate, .inl (cyI, 8, .inl (fun _ => 0)))] : va_W) H _ := hW
  refine zw_putF (ci := 1) (C := RX1) (T := TX1) (N := 5) (ty := .array .int) (w2 := [(h, .inr (1, [.ref h_person, .ref h_gate, .null, .null, .int 0])), (h_person, .inl (cyI, 8, .inl (fun _ => 0))), (h_gate, .inl (cyI, 8, .inl (fun _ => 0)))]) hx hb hts hiX1 tyX1 tyX1_ok nmX1 hown hK hW 0 rfl rfl 1 (by decide) (by decide +kernel) rfl rfl rfl hin rfl (Nat.le_of_ble_eq_true rfl) rfl k_5 dX1_init_17 (fun H locs hW => ?_)
  refine lv_aload_n hx hb dX1_init_20 rfl (lv_at hl 0 rfl) ?_
  refine lv_bipush (v := 8) hx hb dX1_init_21 (by decide) ?_
  refine zw_newi hx hb k_3 hK hA hW 8 (by decide) (by decide) (Nat.le_of_ble_eq_true rfl) (Nat.le_of_ble_eq_true rfl) (Nat.le_of_ble_eq_true rfl) dX1_init_23 (fun h_from H hW => ?_)
  replace hW : Wd (dC, dI) A s.heap ([(h, .inr (1, [.ref h_person, .ref h_gate, .null, .null, .int 0])), (h_person, .inl (cyI, 8, .inl (fun _ => 0))), (h_gate, .inl (cyI, 8, .inl (fun _ => 0))), (h_from, .inl (cyI, 8, .inl (fun _ => 0)))] : va_W) H _ := hW
  refine zw_putF (ci := 1) (C := RX1) (T := TX1) (N := 5) (ty := .array .int) (w2 := [(h, .inr (1, [.ref h_person, .ref h_gate, .ref h_from, .null, .int 0])), (h_person, .inl (cyI, 8, .inl (fun _ => 0))), (h_gate, .inl (cyI, 8, .inl (fun _ => 0))), (h_from, .inl (cyI, 8, .inl (fun _ => 0)))]) hx hb hts hiX1 tyX1 tyX1_ok nmX1 hown hK hW 0 rfl rfl 2 (by decide) (by decide +kernel) rfl rfl rfl hin rfl (Nat.le_of_ble_eq_true rfl) rfl k_6 dX1_init_25 (fun H locs hW => ?_)
  refine lv_aload_n hx hb dX1_init_28 rfl (lv_at hl 0 rfl) ?_
  refine lv_bipush (v := 8) hx hb dX1_init_29 (by decide) ?_
  refine zw_newi hx hb k_3 hK hA hW 8 (by decide) (by decide) (Nat.le_of_ble_eq_true rfl) (Nat.le_of_ble_eq_true rfl) (Nat.le_of_ble_eq_true rfl) dX1_init_31 (fun h_fine H hW => ?_)
  replace hW : Wd (dC, dI) A s.heap ([(h, .inr (1, [.ref h_person, .ref h_gate, .ref h_from, .null, .int 0])), (h_person, .inl (cyI, 8, .inl (fun _ => 0))), (h_gate, .inl (cyI, 8, .inl (fun _ => 0))), (h_from, .inl (cyI, 8, .inl (fun _ => 0))), (h_fine, .inl (cyI, 8, .inl (fun _ => 0)))] : va_W) H _ := hW
  refine zw_putF (ci := 1) (C := RX1) (T := TX1) (N := 5) (ty := .array .int) (w2 := [(h, .inr (1, [.ref h_person, .ref h_gate, .ref h_from, .ref h_fine, .int 0])), (h_person, .inl (cyI, 8, .inl (fun _ => 0))), (h_gate, .inl (cyI, 8, .inl (fun _ => 0))), (h_from, .inl (cyI, 8, .inl (fun _ => 0))), (h_fine, .inl (cyI, 8, .inl (fun _ => 0)))]) hx hb hts hiX1 tyX1 tyX1_ok nmX1 hown hK hW 0 rfl rfl 3 (by decide) (by decide +kernel) rfl rfl rfl hin rfl (Nat.le_of_ble_eq_true rfl) rfl k_7 dX1_init_33 (fun H locs hW => ?_)
  refine lv_aload_n hx hb dX1_init_36 rfl (lv_at hl 0 rfl) ?_
  refine lv_iconst (v := 0) hx hb dX1_init_37 (by decide) ?_
  refine zw_put (ci := 1) (C := RX1) (T := TX1) (N := 5) (w2 := [(h, .inr (1, [.ref h_person, .ref h_gate, .ref h_from, .ref h_fine, .int 0])), (h_person, .inl (cyI, 8, .inl (fun _ => 0))), (h_gate, .inl (cyI, 8, .inl (fun _ => 0))), (h_from, .inl (cyI, 8, .inl (fun _ => 0))), (h_fine, .inl (cyI, 8, .inl (fun _ => 0)))]) hx hb hts hiX1 tyX1 tyX1_ok nmX1 hown hK hW 0 rfl rfl 4 (by decide) (by decide +kernel) rfl (Nat.le_of_ble_eq_true rfl) rfl k_8 dX1_init_38 (fun H locs hW => ?_)
  replace hW : Wd (dC, dI) A s.heap ([(h, .inr (1, [.ref h_person, .ref h_gate, .ref h_from, .ref h_fine, .int 0])), (h_person, .inl (cyI, 8, .inl (fun _ => 0))), (h_gate, .inl (cyI, 8, .inl (fun _ => 0))), (h_from, .inl (cyI, 8, .inl (fun _ => 0))), (h_fine, .inl (cyI, 8, .inl (fun _ => 0)))] : va_W) H _ := zw_perm hW [0, 1, 2, 3, 4] rfl rfl
  refine zw_vret (S := Nat × Nat × Nat × Nat) (post := fun _ => True) (h_person, h_gate, h_from, h_fine) hx hb hr hlocks hK hW hw ?_ dX1_init_41
  rfl
abbrev wX1_shiftDown (cyI cyJ cyZ : ClassId) (hq : Nat) (aw : Nat → Int32) : va_W := [(hq, .inl (cyI, 8, .inl aw))]
abbrev qX1_shiftDown (dC : Nat → ClassId) (dI : Nat → Nat → Nat) (cyI cyJ cyZ : ClassId) (hq : Nat) (aw : Nat → Int32) (post : (Nat → Int32) → Prop) (A : Nat → Prop) : Array Value → State → Outcome → State → Prop := (va_Qv (fun (u : (Nat → Int32)) => post u) (bW (dC, dI) (tyG cyI cyJ cyZ) A (fun u : (Nat → Int32) => (wX1_shiftDown cyI cyJ cyZ hq u))) A)
set_option maxHeartbeats 4000000 in
set_option maxRecDepth 100000 in
theorem mX1_shiftDown (l : Launch) (dC : Nat → ClassId) (dI : Nat → Nat → Nat) (cyI cyJ cyZ : ClassId) (hq : Nat) (sz : Nat) (aw : Nat → Int32) (post : (Nat → Int32) → Prop) (hwp : PX1_shiftDown aw post) : Met l yX1_shiftDown wsX1_shiftDown ({ frames := 1, cells := 0, slots := 0, locals := 26 } : Room) (va_Pc [.ref hq] (pcW (dC, dI) sz (wX1_shiftDown cyI cyJ cyZ hq aw) (tyG cyI cyJ cyZ))) (qX1_shiftDown dC dI cyI cyJ cyZ hq aw post (va_A (wX1_shiftDown cyI cyJ cyZ hq aw) sz)) 0 0 (va_A (wX1_shiftDown cyI cyJ cyZ hq aw) sz) := by
  refine Met.ofW (cc := cX1_shiftDown) (maxL := 1) (ret := none) (by decide) rfl ?_
  intro p e s m args below meth c s₁ B hml hv
  obtain ⟨rfl, hsz, hP, hK, hD0, hN⟩ := hv
  have hx := B.exec
  have hb := B.bytes
  have hr := B.returns
  have hts := atoms_spec (ws := wsX1_shiftDown) B.pre
  have hown : s.vm.findClass RX1 = some m.cls := findClass_of_methodNamed B.named
  have hlocks := B.notSynchronized
  subst hsz
  have hD := hD0.self (sz := s.heap.size)
  generalize hAe : va_A (wX1_shiftDown cyI cyJ cyZ hq aw) s.heap.size = A at hD ⊢
  have hA : ∀ q : Nat, s.heap.size ≤ q → A q := fun q h => by rw [← hAe]; exact Or.inr h
  have hW : Wd (dC, dI) A s.heap (wX1_shiftDown cyI cyJ cyZ hq aw) s.heap [] := ⟨hP, hD, va_S.rf⟩
  have hw := hwp
  have k_0 := hts (.methodLink RX1 51 arraycopyName) (List.mem_of_getElem? (i := 1) rfl)
  have k_1 := hts (.native arraycopyName) (List.mem_of_getElem? (i := 2) rfl)
  have k_2 := hts (.static arraycopyName) (List.mem_of_getElem? (i := 3) rfl)
  have k_3 := hts (.initialized "java/lang/System") (List.mem_of_getElem? (i := 4) rfl)
  have hl := lv_entry ([.ref hq]) (n := 1) (Nat.le_of_ble_eq_true rfl)
  rw [lg_entry_eq]
  generalize (lg_sl ([.ref hq]) ++ List.replicate (1 - (lg_sl ([.ref hq])).length) Slot.unset).toArray = ls at hl ⊢
  have hl : lv_has ls 1 [(0, .ref hq)] := hl
  refine lv_aload_n hx hb dX1_shiftDown_0 rfl (lv_at hl 0 rfl) ?_
  refine lv_iconst (v := 1) hx hb dX1_shiftDown_1 (by decide) ?_
  refine lv_aload_n hx hb dX1_shiftDown_2 rfl (lv_at hl 0 rfl) ?_
  refine lv_iconst (v := 0) hx hb dX1_shiftDown_3 (by decide) ?_
  refine lv_bipush (v := 7) hx hb dX1_shiftDown_4 (by decide) ?_
  refine zw_copyi hx hb (hml.trans hl.1.symm) hown k_0 k_1 k_2 k_3 hK hW 0 0 rfl rfl rfl rfl (by decide) (by decide) (by decide) (by decide) (by decide) (Nat.le_of_ble_eq_true rfl) (Nat.le_of_ble_eq_true rfl) (w2 := fun aw_1 => (wX1_shiftDown cyI cyJ cyZ hq aw_1)) (fun _ => rfl) dX1_shiftDown_6 (fun aw_1 H locs eaw_1 hW => ?_)
  replace hw := hw aw_1 eaw_1
  refine zw_vret (S := (Nat → Int32)) (post := fun u => post u) aw_1 hx hb hr hlocks hK hW hw ?_ dX1_shiftDown_9
  rfl
abbrev wX1_dropOldest (cyI cyJ cyZ : ClassId) (h h_person h_gate h_from h_fine : Nat) (i_many : Int32) (a_person : Nat → Int32) (a_gate : Nat → Int32) (a_from : Nat → Int32) (a_fine : Nat → Int32) : va_W := [(h, .inr (1, [.ref h_person, .ref h_gate, .ref h_from, .ref h_fine, .int i_many])), (h_person, .inl (cyI, 8, .inl a_person)), (h_gate, .inl (cyI, 8, .inl a_gate)), (h_from, .inl (cyI, 8, .inl a_from)), (h_fine, .inl (cyI, 8, .inl a_fine))]
abbrev qX1_dropOldest (dC : Nat → ClassId) (dI : Nat → Nat → Nat) (cyI cyJ cyZ : ClassId) (h h_person h_gate h_from h_fine : Nat) (i_many : Int32) (a_person : Nat → Int32) (a_gate : Nat → Int32) (a_from : Nat → Int32) (a_fine : Nat → Int32) (post : Int32 → (Nat → Int32) → (Nat → Int32) → (Nat → Int32) → (Nat → Int32) → Prop) (A : Nat → Prop) : Array Value → State → Outcome → State → Prop := (va_Qv (fun (u : Int32 × (Nat → Int32) × (Nat → Int32) × (Nat → Int32) × (Nat → Int32)) => post u.1 u.2.1 u.2.2.1 u.2.2.2.1 u.2.2.2.2) (bW (dC, dI) (tyG cyI cyJ cyZ) A (fun u : Int32 × (Nat → Int32) × (Nat → Int32) × (Nat → Int32) × (Nat → Int32) => (wX1_dropOldest cyI cyJ cyZ h h_person h_gate h_from h_fine (u.1) (u.2.1) (u.2.2.1) (u.2.2.2.1) (u.2.2.2.2)))) A)
set_option maxHeartbeats 4000000 in
set_option maxRecDepth 100000 in
theorem mX1_dropOldest (l : Launch) (dC : Nat → ClassId) (dI : Nat → Nat → Nat) (cyI cyJ cyZ : ClassId) (h h_person h_gate h_from h_fine : Nat) (sz : Nat) (i_many : Int32) (a_person : Nat → Int32) (a_gate : Nat → Int32) (a_from : Nat → Int32) (a_fine : Nat → Int32) (post : Int32 → (Nat → Int32) → (Nat → Int32) → (Nat → Int32) → (Nat → Int32) → Prop) (hwp : PX1_dropOldest i_many a_person a_gate a_from a_fine post) : Met l yX1_dropOldest wsX1_dropOldest ({ frames := 2, cells := 0, slots := 0, locals := 46 } : Room) (va_Pc [.ref h] (pcW (dC, dI) sz (wX1_dropOldest cyI cyJ cyZ h h_person h_gate h_from h_fine i_many a_person a_gate a_from a_fine) (tyG cyI cyJ cyZ))) (qX1_dropOldest dC dI cyI cyJ cyZ h h_person h_gate h_from h_fine i_many a_person a_gate a_from a_fine post (va_A (wX1_dropOldest cyI cyJ cyZ h h_person h_gate h_from h_fine i_many a_person a_gate a_from a_fine) sz)) 0 0 (va_A (wX1_dropOldest cyI cyJ cyZ h h_person h_gate h_from h_fine i_many a_person a_gate a_from a_fine) sz) := by
  refine Met.ofW (cc := cX1_dropOldest) (maxL := 1) (ret := none) (by decide) rfl ?_
  intro p e s m args below meth c s₁ B hml hv
  obtain ⟨rfl, hsz, hP, hK, hD0, hN⟩ := hv
  have hx := B.exec
  have hb := B.bytes
  have hr := B.returns
  have hts := atoms_spec (ws := wsX1_dropOldest) B.pre
  have hown : s.vm.findClass RX1 = some m.cls := findClass_of_methodNamed B.named
  have hlocks := B.notSynchronized
  subst hsz
  have hD := hD0.self (sz := s.heap.size)
  generalize hAe : va_A (wX1_dropOldest cyI cyJ cyZ h h_person h_gate h_from h_fine i_many a_person a_gate a_from a_fine) s.heap.size = A at hD ⊢
  have hA : ∀ q : Nat, s.heap.size ≤ q → A q := fun q h => by rw [← hAe]; exact Or.inr h
  have hW : Wd (dC, dI) A s.heap (wX1_dropOldest cyI cyJ cyZ h h_person h_gate h_from h_fine i_many a_person a_gate a_from a_fine) s.heap [] := ⟨hP, hD, va_S.rf⟩
  have hw := hwp
  have hiX1 : ∀ w ∈ u_ws RX1 TX1 5, w ∈ wsX1_dropOldest := fun _ h => List.mem_cons_of_mem _ (List.mem_append_right _ h)
  have k_0 := hts (.fieldLink RX1 9 "OddLetsIn$Deeds" "person" "[I") (List.mem_of_getElem? (i := 1) rfl)
  have k_1 := hts (.fieldLink RX1 13 "OddLetsIn$Deeds" "gate" "[I") (List.mem_of_getElem? (i := 2) rfl)
  have k_2 := hts (.fieldLink RX1 16 "OddLetsIn$Deeds" "from" "[I") (List.mem_of_getElem? (i := 3) rfl)
  have k_3 := hts (.fieldLink RX1 19 "OddLetsIn$Deeds" "fine" "[I") (List.mem_of_getElem? (i := 4) rfl)
  have k_4 := hts (.fieldLink RX1 22 "OddLetsIn$Deeds" "many" "I") (List.mem_of_getElem? (i := 5) rfl)
  have hl := lv_entry ([.ref h]) (n := 1) (Nat.le_of_ble_eq_true rfl)
  rw [lg_entry_eq]
  generalize (lg_sl ([.ref h]) ++ List.replicate (1 - (lg_sl ([.ref h])).length) Slot.unset).toArray = ls at hl ⊢
  have hl : lv_has ls 1 [(0, .ref h)] := hl
  refine lv_aload_n hx hb dX1_dropOldest_0 rfl (lv_at hl 0 rfl) ?_
  refine zw_get (ci := 1) (C := RX1) (T := TX1) (N := 5) (v := .ref h_person) hx hb hts hiX1 hown hK hW 0 rfl rfl 0 (by decide) rfl k_0 dX1_dropOldest_1 ?_
  refine zw_Sv ⟨hx, hb, hml, hown, hts⟩ hK hN hA hW [.ref h_person] [] [1] [0, 2, 3, 4] [0, 4, 1, 2, 3] (fun u => (wX1_dropOldest cyI cyJ cyZ h h_person h_gate h_from h_fine i_many u a_gate a_from a_fine)) (mX1_shiftDown l dC dI cyI cyJ cyZ h_person _ a_person _ hw) (va_cwS 1 hts gX1_dropOldest_X1_shiftDown rfl rfl rfl (by decide +kernel) ⟨Nat.le_of_ble_eq_true rfl, Nat.le_of_ble_eq_true rfl⟩) rfl rfl rfl rfl (by decide) rfl (fun _ => rfl) rfl hl.1 rfl (Nat.le_of_ble_eq_true rfl) (Nat.le_of_ble_eq_true rfl) (Nat.le_of_ble_eq_true rfl) dX1_dropOldest_4 (fun u H locs hw hW => ?_)
  obtain ⟨a_person_1, rfl⟩ : ∃ z, z = u := ⟨_, rfl⟩
  replace hW : Wd (dC, dI) A s.heap (wX1_dropOldest cyI cyJ cyZ h h_person h_gate h_from h_fine i_many a_person_1 a_gate a_from a_fine) H locs := hW
  refine lv_aload_n hx hb dX1_dropOldest_7 rfl (lv_at hl 0 rfl) ?_
  refine zw_get (ci := 1) (C := RX1) (T := TX1) (N := 5) (v := .ref h_gate) hx hb hts hiX1 hown hK hW 0 rfl rfl 1 (by decide) rfl k_1 dX1_dropOldest_8 ?_
  refine zw_Sv ⟨hx, hb, hml, hown, hts⟩ hK hN hA hW [.ref h_gate] [] [2] [0, 1, 3, 4] [0, 1, 4, 2, 3] (fun u => (wX1_dropOldest cyI cyJ cyZ h h_person h_gate h_from h_fine i_many a_person_1 u a_from a_fine)) (mX1_shiftDown l dC dI cyI cyJ cyZ h_gate _ a_gate _ hw) (va_cwS 1 hts gX1_dropOldest_X1_shiftDown rfl rfl rfl (by decide +kernel) ⟨Nat.le_of_ble_eq_true rfl, Nat.le_of_ble_eq_true rfl⟩) rfl rfl rfl rfl (by decide) rfl (fun _ => rfl) rfl hl.1 rfl (Nat.le_of_ble_eq_true rfl) (Nat.le_of_ble_eq_true rfl) (Nat.le_of_ble_eq_true rfl) dX1_dropOldest_11 (fun u H locs hw hW => ?_)
  obtain ⟨a_gate_2, rfl⟩ : ∃ z, z = u := ⟨_, rfl⟩
  replace hW : Wd (dC, dI) A s.heap (wX1_dropOldest cyI cyJ cyZ h h_person h_gate h_from h_fine i_many a_person_1 a_gate_2 a_from a_fine) H locs := hW
  refine lv_aload_n hx hb dX1_dropOldest_14 rfl (lv_at hl 0 rfl) ?_
  refine zw_get (ci := 1) (C := RX1) (T := TX1) (N := 5) (v := .ref h_from) hx hb hts hiX1 hown hK hW 0 rfl rfl 2 (by decide) rfl k_2 dX1_dropOldest_15 ?_
  refine zw_Sv ⟨hx, hb, hml, hown, hts⟩ hK hN hA hW [.ref h_from] [] [3] [0, 1, 2, 4] [0, 1, 2, 4, 3] (fun u => (wX1_dropOldest cyI cyJ cyZ h h_person h_gate h_from h_fine i_many a_person_1 a_gate_2 u a_fine)) (mX1_shiftDown l dC dI cyI cyJ cyZ h_from _ a_from _ hw) (va_cwS 1 hts gX1_dropOldest_X1_shiftDown rfl rfl rfl (by decide +kernel) ⟨Nat.le_of_ble_eq_true rfl, Nat.le_of_ble_eq_true rfl⟩) rfl rfl rfl rfl (by decide) rfl (fun _ => rfl) rfl hl.1 rfl (Nat.le_of_ble_eq_true rfl) (Nat.le_of_ble_eq_true rfl) (Nat.le_of_ble_eq_true rfl) dX1_dropOldest_18 (fun u H locs hw hW => ?_)
  obtain ⟨a_from_3, rfl⟩ : ∃ z, z = u := ⟨_, rfl⟩
  replace hW : Wd (dC, dI) A s.heap (wX1_dropOldest cyI cyJ cyZ h h_person h_gate h_from h_fine i_many a_person_1 a_gate_2 a_from_3 a_fine) H locs := hW
  refine lv_aload_n hx hb dX1_dropOldest_21 rfl (lv_at hl 0 rfl) ?_
  refine zw_get (ci := 1) (C := RX1) (T := TX1) (N := 5) (v := .ref h_fine) hx hb hts hiX1 hown hK hW 0 rfl rfl 3 (by decide) rfl k_3 dX1_dropOldest_22 ?_
  refine zw_Sv ⟨hx, hb, hml, hown, hts⟩ hK hN hA hW [.ref h_fine] [] [4] [0, 1, 2, 3] [0, 1, 2, 3, 4] (fun u => (wX1_dropOldest cyI cyJ cyZ h h_person h_gate h_from h_fine i_many a_person_1 a_gate_2 a_from_3 u)) (mX1_shiftDown l dC dI cyI cyJ cyZ h_fine _ a_fine _ hw) (va_cwS 1 hts gX1_dropOldest_X1_shiftDown rfl rfl rfl (by decide +kernel) ⟨Nat.le_of_ble_eq_true rfl, Nat.le_of_ble_eq_true rfl⟩) rfl rfl rfl rfl (by decide) rfl (fun _ => rfl) rfl hl.1 rfl (Nat.le_of_ble_eq_true rfl) (Nat.le_of_ble_eq_true rfl) (Nat.le_of_ble_eq_true rfl) dX1_dropOldest_25 (fun u H locs hw hW => ?_)
  obtain ⟨a_fine_4, rfl⟩ : ∃ z, z = u := ⟨_, rfl⟩
  replace hW : Wd (dC, dI) A s.heap (wX1_dropOldest cyI cyJ cyZ h h_person h_gate h_from h_fine i_many a_person_1 a_gate_2 a_from_3 a_fine_4) H locs := hW
  refine lv_aload_n hx hb dX1_dropOldest_28 rfl (lv_at hl 0 rfl) ?_
  refine lv_bipush (v := 7) hx hb dX1_dropOldest_29 (by decide) ?_
  refine zw_put (ci := 1) (C := RX1) (T := TX1) (N := 5) (w2 := (wX1_dropOldest cyI cyJ cyZ h h_person h_gate h_from h_fine 7 a_person_1 a_gate_2 a_from_3 a_fine_4)) hx hb hts hiX1 tyX1 tyX1_ok nmX1 hown hK hW 0 rfl rfl 4 (by decide) (by decide +kernel) rfl (Nat.le_of_ble_eq_true rfl) rfl k_4 dX1_dropOldest_31 (fun H locs hW => ?_)
  refine zw_vret (S := Int32 × (Nat → Int32) × (Nat → Int32) × (Nat → Int32) × (Nat → Int32)) (post := fun u => post u.1 u.2.1 u.2.2.1 u.2.2.2.1 u.2.2.2.2) (7, a_person_1, a_gate_2, a_from_3, a_fine_4) hx hb hr hlocks hK hW hw ?_ dX1_dropOldest_34
  rfl
abbrev wX1_note (cyI cyJ cyZ : ClassId) (h h_person h_gate h_from h_fine : Nat) (i_many : Int32) (a_person : Nat → Int32) (a_gate : Nat → Int32) (a_from : Nat → Int32) (a_fine : Nat → Int32) : va_W := [(h, .inr (1, [.ref h_person, .ref h_gate, .ref h_from, .ref h_fine, .int i_many])), (h_person, .inl (cyI, 8, .inl a_person)), (h_gate, .inl (cyI, 8, .inl a_gate)), (h_from, .inl (cyI, 8, .inl a_from)), (h_fine, .inl (cyI, 8, .inl a_fine))]
abbrev qX1_note (dC : Nat → ClassId) (dI : Nat → Nat → Nat) (cyI cyJ cyZ : ClassId) (h h_person h_gate h_from h_fine : Nat) (i_many : Int32) (a_person : Nat → Int32) (a_gate : Nat → Int32) (a_from : Nat → Int32) (a_fine : Nat → Int32) (post : Int32 → (Nat → Int32) → (Nat → Int32) → (Nat → Int32) → (Nat → Int32) → Prop) (A : Nat → Prop) : Array Value → State → Outcome → State → Prop := (va_Qv (fun (u : Int32 × (Nat → Int32) × (Nat → Int32) × (Nat → Int32) × (Nat → Int32)) => post u.1 u.2.1 u.2.2.1 u.2.2.2.1 u.2.2.2.2) (bW (dC, dI) (tyG cyI cyJ cyZ) A (fun u : Int32 × (Nat → Int32) × (Nat → Int32) × (Nat → Int32) × (Nat → Int32) => (wX1_note cyI cyJ cyZ h h_person h_gate h_from h_fine (u.1) (u.2.1) (u.2.2.1) (u.2.2.2.1) (u.2.2.2.2)))) A)
set_option maxHeartbeats 4000000 in
set_option maxRecDepth 100000 in
theorem mX1_note (l : Launch) (dC : Nat → ClassId) (dI : Nat → Nat → Nat) (cyI cyJ cyZ : ClassId) (h h_person h_gate h_from h_fine : Nat) (sz : Nat) (i_many : Int32) (a_person : Nat → Int32) (a_gate : Nat → Int32) (a_from : Nat → Int32) (a_fine : Nat → Int32) (x1 : Int32) (x2 : Int32) (x3 : Int32) (x4 : Int32) (post : Int32 → (Nat → Int32) → (Nat → Int32) → (Nat → Int32) → (Nat → Int32) → Prop) (hwp : PX1_note x1 x2 x3 x4 i_many a_person a_gate a_from a_fine post) : Met l yX1_note wsX1_note ({ frames := 3, cells := 0, slots := 0, locals := 66 } : Room) (va_Pc [.ref h, .int x1, .int x2, .int x3, .int x4] (pcW (dC, dI) sz (wX1_note cyI cyJ cyZ h h_person h_gate h_from h_fine i_many a_person a_gate a_from a_fine) (tyG cyI cyJ cyZ))) (qX1_note dC dI cyI cyJ cyZ h h_person h_gate h_from h_fine i_many a_person a_gate a_from a_fine post (va_A (wX1_note cyI cyJ cyZ h h_person h_gate h_from h_fine i_many a_person a_gate a_from a_fine) sz)) 0 0 (va_A (wX1_note cyI cyJ cyZ h h_person h_gate h_from h_fine i_many a_person a_gate a_from a_fine) sz) := by
  refine Met.ofW (cc := cX1_note) (maxL := 5) (ret := none) (by decide) rfl ?_
  intro p e s m args below meth c s₁ B hml hv
  obtain ⟨rfl, hsz, hP, hK, hD0, hN⟩ := hv
  have hx := B.exec
  have hb := B.bytes
  have hr := B.returns
  have hts := atoms_spec (ws := wsX1_note) B.pre
  have hown : s.vm.findClass RX1 = some m.cls := findClass_of_methodNamed B.named
  have hlocks := B.notSynchronized
  subst hsz
  have hD := hD0.self (sz := s.heap.size)
  generalize hAe : va_A (wX1_note cyI cyJ cyZ h h_person h_gate h_from h_fine i_many a_person a_gate a_from a_fine) s.heap.size = A at hD ⊢
  have hA : ∀ q : Nat, s.heap.size ≤ q → A q := fun q h => by rw [← hAe]; exact Or.inr h
  have hW : Wd (dC, dI) A s.heap (wX1_note cyI cyJ cyZ h h_person h_gate h_from h_fine i_many a_person a_gate a_from a_fine) s.heap [] := ⟨hP, hD, va_S.rf⟩
  have hw := hwp
  have hiX1 : ∀ w ∈ u_ws RX1 TX1 5, w ∈ wsX1_note := fun _ h => List.mem_cons_of_mem _ (List.mem_append_right _ h)
  have k_0 := hts (.fieldLink RX1 22 "OddLetsIn$Deeds" "many" "I") (List.mem_of_getElem? (i := 1) rfl)
  have k_1 := hts (.fieldLink RX1 9 "OddLetsIn$Deeds" "person" "[I") (List.mem_of_getElem? (i := 2) rfl)
  have k_2 := hts (.fieldLink RX1 13 "OddLetsIn$Deeds" "gate" "[I") (List.mem_of_getElem? (i := 3) rfl)
  have k_3 := hts (.fieldLink RX1 16 "OddLetsIn$Deeds" "from" "[I") (List.mem_of_getElem? (i := 4) rfl)
  have k_4 := hts (.fieldLink RX1 19 "OddLetsIn$Deeds" "fine" "[I") (List.mem_of_getElem? (i := 5) rfl)
  have W_13 : ∀ (i_many : Int32) (a_person : Nat → Int32) (a_gate : Nat → Int32) (a_from : Nat → Int32) (a_fine : Nat → Int32) (H : Heap) (locs : List Loc) (ls : Array Slot), Wd (dC, dI) A s.heap (wX1_note cyI cyJ cyZ h h_person h_gate h_from h_fine i_many a_person a_gate a_from a_fine) H locs → lv_has ls 5 [(0, .ref h), (1, .int x1), (2, .int x2), (3, .int x3), (4, .int x4)] → PX1_note_13 post x1 x2 x3 x4 i_many a_person a_gate a_from a_fine → W p l e (({ frames := 3, cells := 0, slots := 0, locals := 66 } : Room)) s m (([.ref h, .int x1, .int x2, .int x3, .int x4] : List Value).toArray) below meth c H locs 0 0 (MQ below (qX1_note dC dI cyI cyJ cyZ h h_person h_gate h_from h_fine i_many a_person a_gate a_from a_fine post A) (([.ref h, .int x1, .int x2, .int x3, .int x4] : List Value).toArray) s 0 0 A) (F0 m 13 ls []) := by
    intro i_many a_person a_gate a_from a_fine H locs ls hW hl hw
    refine lv_aload_n hx hb dX1_note_13 rfl (lv_at hl 0 rfl) ?_
    refine zw_get (ci := 1) (C := RX1) (T := TX1) (N := 5) (v := .int i_many) hx hb hts hiX1 hown hK hW 0 rfl rfl 4 (by decide) rfl k_0 dX1_note_14 ?_
    refine lv_if_lt (tgt := 29) hx hb dX1_note_17 (by decide) (fun c_1 => ?_) (fun c_1 => ?_)
    · replace hw := hw.1 c_1
      refine zw_vret (S := Int32 × (Nat → Int32) × (Nat → Int32) × (Nat → Int32) × (Nat → Int32)) (post := fun u => post u.1 u.2.1 u.2.2.1 u.2.2.2.1 u.2.2.2.2) (i_many, a_person, a_gate, a_from, a_fine) hx hb hr hlocks hK hW hw ?_ dX1_note_29
      rfl
    · replace hw := hw.2 c_1
      refine lv_aload_n hx hb dX1_note_20 rfl (lv_at hl 0 rfl) ?_
      refine zw_get (ci := 1) (C := RX1) (T := TX1) (N := 5) (v := .int i_many) hx hb hts hiX1 hown hK hW 0 rfl rfl 4 (by decide) rfl k_0 dX1_note_21 ?_
      refine lv_bipush (v := 8) hx hb dX1_note_24 (by decide) ?_
      refine lv_icmp_lt (tgt := 30) hx hb dX1_note_26 (by decide) (fun c_2 => ?_) (fun c_2 => ?_)
      · replace hw := hw.1 c_2
        refine lv_aload_n hx hb dX1_note_30 rfl (lv_at hl 0 rfl) ?_
        refine zw_get (ci := 1) (C := RX1) (T := TX1) (N := 5) (v := .ref h_person) hx hb hts hiX1 hown hK hW 0 rfl rfl 0 (by decide) rfl k_1 dX1_note_31 ?_
        refine lv_aload_n hx hb dX1_note_34 rfl (lv_at hl 0 rfl) ?_
        refine zw_get (ci := 1) (C := RX1) (T := TX1) (N := 5) (v := .int i_many) hx hb hts hiX1 hown hK hW 0 rfl rfl 4 (by decide) rfl k_0 dX1_note_35 ?_
        refine lv_iload_n hx hb dX1_note_38 rfl (lv_at hl 1 rfl) ?_
        refine zw_iast hx hb hK hW 1 rfl rfl hw.1 (w2 := fun a_person_3 => (wX1_note cyI cyJ cyZ h h_person h_gate h_from h_fine i_many a_person_3 a_gate a_from a_fine)) (fun _ => rfl) dX1_note_39 (fun a_person_3 H locs ea_person_3 hW => ?_)
        replace hw := hw.2 a_person_3 ea_person_3
        refine lv_aload_n hx hb dX1_note_40 rfl (lv_at hl 0 rfl) ?_
        refine zw_get (ci := 1) (C := RX1) (T := TX1) (N := 5) (v := .ref h_gate) hx hb hts hiX1 hown hK hW 0 rfl rfl 1 (by decide) rfl k_2 dX1_note_41 ?_
        refine lv_aload_n hx hb dX1_note_44 rfl (lv_at hl 0 rfl) ?_
        refine zw_get (ci := 1) (C := RX1) (T := TX1) (N := 5) (v := .int i_many) hx hb hts hiX1 hown hK hW 0 rfl rfl 4 (by decide) rfl k_0 dX1_note_45 ?_
        refine lv_iload_n hx hb dX1_note_48 rfl (lv_at hl 2 rfl) ?_
        refine zw_iast hx hb hK hW 2 rfl rfl hw.1 (w2 := fun a_gate_4 => (wX1_note cyI cyJ cyZ h h_person h_gate h_from h_fine i_many a_person_3 a_gate_4 a_from a_fine)) (fun _ => rfl) dX1_note_49 (fun a_gate_4 H locs ea_gate_4 hW => ?_)
        replace hw := hw.2 a_gate_4 ea_gate_4
        refine lv_aload_n hx hb dX1_note_50 rfl (lv_at hl 0 rfl) ?_
        refine zw_get (ci := 1) (C := RX1) (T := TX1) (N := 5) (v := .ref h_from) hx hb hts hiX1 hown hK hW 0 rfl rfl 2 (by decide) rfl k_3 dX1_note_51 ?_
        refine lv_aload_n hx hb dX1_note_54 rfl (lv_at hl 0 rfl) ?_
        refine zw_get (ci := 1) (C := RX1) (T := TX1) (N := 5) (v := .int i_many) hx hb hts hiX1 hown hK hW 0 rfl rfl 4 (by decide) rfl k_0 dX1_note_55 ?_
        refine lv_iload_n hx hb dX1_note_58 rfl (lv_at hl 3 rfl) ?_
        refine zw_iast hx hb hK hW 3 rfl rfl hw.1 (w2 := fun a_from_5 => (wX1_note cyI cyJ cyZ h h_person h_gate h_from h_fine i_many a_person_3 a_gate_4 a_from_5 a_fine)) (fun _ => rfl) dX1_note_59 (fun a_from_5 H locs ea_from_5 hW => ?_)
        replace hw := hw.2 a_from_5 ea_from_5
        refine lv_aload_n hx hb dX1_note_60 rfl (lv_at hl 0 rfl) ?_
        refine zw_get (ci := 1) (C := RX1) (T := TX1) (N := 5) (v := .ref h_fine) hx hb hts hiX1 hown hK hW 0 rfl rfl 3 (by decide) rfl k_4 dX1_note_61 ?_
        refine lv_aload_n hx hb dX1_note_64 rfl (lv_at hl 0 rfl) ?_
        refine zw_get (ci := 1) (C := RX1) (T := TX1) (N := 5) (v := .int i_many) hx hb hts hiX1 hown hK hW 0 rfl rfl 4 (by decide) rfl k_0 dX1_note_65 ?_
        refine lv_iload hx hb dX1_note_68 (lv_at hl 4 rfl) ?_
        refine zw_iast hx hb hK hW 4 rfl rfl hw.1 (w2 := fun a_fine_6 => (wX1_note cyI cyJ cyZ h h_person h_gate h_from h_fine i_many a_person_3 a_gate_4 a_from_5 a_fine_6)) (fun _ => rfl) dX1_note_70 (fun a_fine_6 H locs ea_fine_6 hW => ?_)
        replace hw := hw.2 a_fine_6 ea_fine_6
        refine lv_aload_n hx hb dX1_note_71 rfl (lv_at hl 0 rfl) ?_
        refine lv_dup hx hb dX1_note_72 rfl ?_
        refine zw_get (ci := 1) (C := RX1) (T := TX1) (N := 5) (v := .int i_many) hx hb hts hiX1 hown hK hW 0 rfl rfl 4 (by decide) rfl k_0 dX1_note_73 ?_
        refine lv_iconst (v := 1) hx hb dX1_note_76 (by decide) ?_
        refine lv_iadd hx hb dX1_note_77 ?_
        refine lv_topi (fun i_7 ei_7 => ?_)
        replace hw := hw i_7 ei_7
        refine zw_put (ci := 1) (C := RX1) (T := TX1) (N := 5) (w2 := (wX1_note cyI cyJ cyZ h h_person h_gate h_from h_fine i_7 a_person_3 a_gate_4 a_from_5 a_fine_6)) hx hb hts hiX1 tyX1 tyX1_ok nmX1 hown hK hW 0 rfl rfl 4 (by decide) (by decide +kernel) rfl (Nat.le_of_ble_eq_true rfl) rfl k_0 dX1_note_78 (fun H locs hW => ?_)
        refine zw_vret (S := Int32 × (Nat → Int32) × (Nat → Int32) × (Nat → Int32) × (Nat → Int32)) (post := fun u => post u.1 u.2.1 u.2.2.1 u.2.2.2.1 u.2.2.2.2) (i_7, a_person_3, a_gate_4, a_from_5, a_fine_6) hx hb hr hlocks hK hW hw ?_ dX1_note_81
        rfl
      · replace hw := hw.2 c_2
        refine zw_vret (S := Int32 × (Nat → Int32) × (Nat → Int32) × (Nat → Int32) × (Nat → Int32)) (post := fun u => post u.1 u.2.1 u.2.2.1 u.2.2.2.1 u.2.2.2.2) (i_many, a_person, a_gate, a_from, a_fine) hx hb hr hlocks hK hW hw ?_ dX1_note_29
        rfl
  have hl := lv_entry ([.ref h, .int x1, .int x2, .int x3, .int x4]) (n := 5) (Nat.le_of_ble_eq_true rfl)
  rw [lg_entry_eq]
  generalize (lg_sl ([.ref h, .int x1, .int x2, .int x3, .int x4]) ++ List.replicate (5 - (lg_sl ([.ref h, .int x1, .int x2, .int x3, .int x4])).length) Slot.unset).toArray = ls at hl ⊢
  have hl : lv_has ls 5 [(0, .ref h), (1, .int x1), (2, .int x2), (3, .int x3), (4, .int x4)] := hl
  refine lv_aload_n hx hb dX1_note_0 rfl (lv_at hl 0 rfl) ?_
  refine zw_get (ci := 1) (C := RX1) (T := TX1) (N := 5) (v := .int i_many) hx hb hts hiX1 hown hK hW 0 rfl rfl 4 (by decide) rfl k_0 dX1_note_1 ?_
  refine lv_bipush (v := 8) hx hb dX1_note_4 (by decide) ?_
  refine lv_icmp_lt (tgt := 13) hx hb dX1_note_6 (by decide) (fun c_8 => ?_) (fun c_8 => ?_)
  · replace hw := hw.1 c_8
    exact W_13 i_many a_person a_gate a_from a_fine _ _ _ hW (lv_sub hl [0, 1, 2, 3, 4] rfl) hw
  · replace hw := hw.2 c_8
    refine lv_aload_n hx hb dX1_note_9 rfl (lv_at hl 0 rfl) ?_
    refine zw_Vv ⟨hx, hb, hml, hown, hts⟩ hK hN hA hW 0 rfl (T := TX1) (N := 5) rfl [] [] [0, 1, 2, 3, 4] [] [0, 1, 2, 3, 4] (fun u => (wX1_note cyI cyJ cyZ h h_person h_gate h_from h_fine (u.1) (u.2.1) (u.2.2.1) (u.2.2.2.1) (u.2.2.2.2))) (mX1_dropOldest l dC dI cyI cyJ cyZ h h_person h_gate h_from h_fine _ i_many a_person a_gate a_from a_fine _ hw) (cwV 0 hts gX1_note_X1_dropOldest rfl rfl rfl (by decide +kernel) ⟨Nat.le_of_ble_eq_true rfl, Nat.le_of_ble_eq_true rfl⟩) rfl rfl rfl rfl (by decide) rfl (fun _ => rfl) rfl hl.1 rfl (Nat.le_of_ble_eq_true rfl) (Nat.le_of_ble_eq_true rfl) (Nat.le_of_ble_eq_true rfl) dX1_note_10 (fun u H locs hw hW => ?_)
    obtain ⟨i_many_9, a_person_10, a_gate_11, a_from_12, a_fine_13⟩ := u
    try dsimp only at hw
    replace hW : Wd (dC, dI) A s.heap (wX1_note cyI cyJ cyZ h h_person h_gate h_from h_fine i_many_9 a_person_10 a_gate_11 a_from_12 a_fine_13) H locs := hW
    exact W_13 i_many_9 a_person_10 a_gate_11 a_from_12 a_fine_13 _ _ _ hW (lv_sub hl [0, 1, 2, 3, 4] rfl) hw
abbrev wX1_takeBackIn (cyI cyJ cyZ : ClassId) (h h_person h_gate h_from h_fine ho ho_courtA ho_courtB ho_kind ho_gone ho_court : Nat) (i_many : Int32) (a_person : Nat → Int32) (a_gate : Nat → Int32) (a_from : Nat → Int32) (a_fine : Nat → Int32) (io_gates : Int32) (io_persons : Int32) (io_fines : Int32) (ao_gone : Nat → Int32) (ao_court : Nat → Int32) : va_W := [(h, .inr (1, [.ref h_person, .ref h_gate, .ref h_from, .ref h_fine, .int i_many])), (h_person, .inl (cyI, 8, .inl a_person)), (h_gate, .inl (cyI, 8, .inl a_gate)), (h_from, .inl (cyI, 8, .inl a_from)), (h_fine, .inl (cyI, 8, .inl a_fine)), (ho, .inr (2, [.ref ho_courtA, .ref ho_courtB, .ref ho_kind, .ref ho_gone, .int io_gates, .ref ho_court, .int io_persons, .int io_fines])), (ho_gone, .inl (cyI, 5, .inl ao_gone)), (ho_court, .inl (cyI, 3, .inl ao_court))]
abbrev qX1_takeBackIn (dC : Nat → ClassId) (dI : Nat → Nat → Nat) (cyI cyJ cyZ : ClassId) (h h_person h_gate h_from h_fine ho ho_courtA ho_courtB ho_kind ho_gone ho_court : Nat) (i_many : Int32) (a_person : Nat → Int32) (a_gate : Nat → Int32) (a_from : Nat → Int32) (a_fine : Nat → Int32) (io_gates : Int32) (io_persons : Int32) (io_fines : Int32) (ao_gone : Nat → Int32) (ao_court : Nat → Int32) (post : Int32 → Int32 → (Nat → Int32) → (Nat → Int32) → Prop) (A : Nat → Prop) : Array Value → State → Outcome → State → Prop := (va_Qv (fun (u : Int32 × Int32 × (Nat → Int32) × (Nat → Int32)) => post u.1 u.2.1 u.2.2.1 u.2.2.2) (bW (dC, dI) (tyG cyI cyJ cyZ) A (fun u : Int32 × Int32 × (Nat → Int32) × (Nat → Int32) => (wX1_takeBackIn cyI cyJ cyZ h h_person h_gate h_from h_fine ho ho_courtA ho_courtB ho_kind ho_gone ho_court (u.1) a_person a_gate a_from a_fine io_gates io_persons (u.2.1) (u.2.2.1) (u.2.2.2)))) A)
set_option maxHeartbeats 4000000 in
set_option maxRecDepth 100000 in
theorem mX1_takeBackIn (l : Launch) (dC : Nat → ClassId) (dI : Nat → Nat → Nat) (cyI cyJ cyZ : ClassId) (h h_person h_gate h_from h_fine ho ho_courtA ho_courtB ho_kind ho_gone ho_court : Nat) (sz : Nat) (i_many : Int32) (a_person : Nat → Int32) (a_gate : Nat → Int32) (a_from : Nat → Int32) (a_fine : Nat → Int32) (io_gates : Int32) (io_persons : Int32) (io_fines : Int32) (ao_gone : Nat → Int32) (ao_court : Nat → Int32) (post : Int32 → Int32 → (Nat → Int32) → (Nat → Int32) → Prop) (hwp : PX1_takeBackIn i_many a_person a_gate a_from a_fine io_gates io_persons io_fines ao_gone ao_court post) : Met l yX1_takeBackIn wsX1_takeBackIn ({ frames := 1, cells := 0, slots := 0, locals := 21 } : Room) (va_Pc [.ref h, .ref ho] (pcW (dC, dI) sz (wX1_takeBackIn cyI cyJ cyZ h h_person h_gate h_from h_fine ho ho_courtA ho_courtB ho_kind ho_gone ho_court i_many a_person a_gate a_from a_fine io_gates io_persons io_fines ao_gone ao_court) (tyG cyI cyJ cyZ))) (qX1_takeBackIn dC dI cyI cyJ cyZ h h_person h_gate h_from h_fine ho ho_courtA ho_courtB ho_kind ho_gone ho_court i_many a_person a_gate a_from a_fine io_gates io_persons io_fines ao_gone ao_court post (va_A (wX1_takeBackIn cyI cyJ cyZ h h_person h_gate h_from h_fine ho ho_courtA ho_courtB ho_kind ho_gone ho_court i_many a_person a_gate a_from a_fine io_gates io_persons io_fines ao_gone ao_court) sz)) 0 0 (va_A (wX1_takeBackIn cyI cyJ cyZ h h_person h_gate h_from h_fine ho ho_courtA ho_courtB ho_kind ho_gone ho_court i_many a_person a_gate a_from a_fine io_gates io_persons io_fines ao_gone ao_court) sz) := by
  refine Met.ofW (cc := cX1_takeBackIn) (maxL := 4) (ret := none) (by decide) rfl ?_
  intro p e s m args below meth c s₁ B hml hv
  obtain ⟨rfl, hsz, hP, hK, hD0, hN⟩ := hv
  have hx := B.exec
  have hb := B.bytes
  have hr := B.returns
  have hts := atoms_spec (ws := wsX1_takeBackIn) B.pre
  have hown : s.vm.findClass RX1 = some m.cls := findClass_of_methodNamed B.named
  have hlocks := B.notSynchronized
  subst hsz
  have hD := hD0.self (sz := s.heap.size)
  generalize hAe : va_A (wX1_takeBackIn cyI cyJ cyZ h h_person h_gate h_from h_fine ho ho_courtA ho_courtB ho_kind ho_gone ho_court i_many a_person a_gate a_from a_fine io_gates io_persons io_fines ao_gone ao_court) s.heap.size = A at hD ⊢
  have hA : ∀ q : Nat, s.heap.size ≤ q → A q := fun q h => by rw [← hAe]; exact Or.inr h
  have hW : Wd (dC, dI) A s.heap (wX1_takeBackIn cyI cyJ cyZ h h_person h_gate h_from h_fine ho ho_courtA ho_courtB ho_kind ho_gone ho_court i_many a_person a_gate a_from a_fine io_gates io_persons io_fines ao_gone ao_court) s.heap [] := ⟨hP, hD, va_S.rf⟩
  have hw := hwp
  have hiX1 : ∀ w ∈ u_ws RX1 TX1 5, w ∈ wsX1_takeBackIn := fun _ h => List.mem_cons_of_mem _ (List.mem_append_left _ (List.mem_append_right _ h))
  have hiX2 : ∀ w ∈ u_ws RX2 TX2 8, w ∈ wsX1_takeBackIn := fun _ h => List.mem_cons_of_mem _ (List.mem_append_right _ h)
  have k_0 := hts (.fieldLink RX1 22 "OddLetsIn$Deeds" "many" "I") (List.mem_of_getElem? (i := 1) rfl)
  have k_1 := hts (.fieldLink RX1 9 "OddLetsIn$Deeds" "person" "[I") (List.mem_of_getElem? (i := 2) rfl)
  have k_2 := hts (.fieldLink RX1 13 "OddLetsIn$Deeds" "gate" "[I") (List.mem_of_getElem? (i := 3) rfl)
  have k_3 := hts (.fieldLink RX1 38 "OddLetsIn$Garden" "court" "[I") (List.mem_of_getElem? (i := 4) rfl)
  have k_4 := hts (.fieldLink RX1 16 "OddLetsIn$Deeds" "from" "[I") (List.mem_of_getElem? (i := 5) rfl)
  have k_5 := hts (.fieldLink RX1 41 "OddLetsIn$Garden" "gone" "[I") (List.mem_of_getElem? (i := 6) rfl)
  have k_6 := hts (.fieldLink RX1 44 "OddLetsIn$Garden" "fines" "I") (List.mem_of_getElem? (i := 7) rfl)
  have k_7 := hts (.fieldLink RX1 19 "OddLetsIn$Deeds" "fine" "[I") (List.mem_of_getElem? (i := 8) rfl)
  have hl := lv_entry ([.ref h, .ref ho]) (n := 4) (Nat.le_of_ble_eq_true rfl)
  rw [lg_entry_eq]
  generalize (lg_sl ([.ref h, .ref ho]) ++ List.replicate (4 - (lg_sl ([.ref h, .ref ho])).length) Slot.unset).toArray = ls at hl ⊢
  have hl : lv_has ls 4 [(0, .ref h), (1, .ref ho)] := hl
  refine lv_aload_n hx hb dX1_takeBackIn_0 rfl (lv_at hl 0 rfl) ?_
  refine zw_get (ci := 1) (C := RX1) (T := TX1) (N := 5) (v := .int i_many) hx hb hts hiX1 hown hK hW 0 rfl rfl 4 (by decide) rfl k_0 dX1_takeBackIn_1 ?_
  refine lv_iconst (v := 1) hx hb dX1_takeBackIn_4 (by decide) ?_
  refine lv_icmp_lt (tgt := 17) hx hb dX1_takeBackIn_5 (by decide) (fun c_1 => ?_) (fun c_1 => ?_)
  · replace hw := hw.1 c_1
    refine zw_vret (S := Int32 × Int32 × (Nat → Int32) × (Nat → Int32)) (post := fun u => post u.1 u.2.1 u.2.2.1 u.2.2.2) (i_many, io_fines, ao_gone, ao_court) hx hb hr hlocks hK hW hw ?_ dX1_takeBackIn_17
    rfl
  · replace hw := hw.2 c_1
    refine lv_aload_n hx hb dX1_takeBackIn_8 rfl (lv_at hl 0 rfl) ?_
    refine zw_get (ci := 1) (C := RX1) (T := TX1) (N := 5) (v := .int i_many) hx hb hts hiX1 hown hK hW 0 rfl rfl 4 (by decide) rfl k_0 dX1_takeBackIn_9 ?_
    refine lv_bipush (v := 8) hx hb dX1_takeBackIn_12 (by decide) ?_
    refine lv_icmp_le (tgt := 18) hx hb dX1_takeBackIn_14 (by decide) (fun c_2 => ?_) (fun c_2 => ?_)
    · replace hw := hw.1 c_2
      refine lv_aload_n hx hb dX1_takeBackIn_18 rfl (lv_at hl 0 rfl) ?_
      refine lv_dup hx hb dX1_takeBackIn_19 rfl ?_
      refine zw_get (ci := 1) (C := RX1) (T := TX1) (N := 5) (v := .int i_many) hx hb hts hiX1 hown hK hW 0 rfl rfl 4 (by decide) rfl k_0 dX1_takeBackIn_20 ?_
      refine lv_iconst (v := 1) hx hb dX1_takeBackIn_23 (by decide) ?_
      refine lv_isub hx hb dX1_takeBackIn_24 ?_
      refine lv_topi (fun i_3 ei_3 => ?_)
      replace hw := hw i_3 ei_3
      refine zw_put (ci := 1) (C := RX1) (T := TX1) (N := 5) (w2 := (wX1_takeBackIn cyI cyJ cyZ h h_person h_gate h_from h_fine ho ho_courtA ho_courtB ho_kind ho_gone ho_court i_3 a_person a_gate a_from a_fine io_gates io_persons io_fines ao_gone ao_court)) hx hb hts hiX1 tyX1 tyX1_ok nmX1 hown hK hW 0 rfl rfl 4 (by decide) (by decide +kernel) rfl (Nat.le_of_ble_eq_true rfl) rfl k_0 dX1_takeBackIn_25 (fun H locs hW => ?_)
      refine lv_aload_n hx hb dX1_takeBackIn_28 rfl (lv_at hl 0 rfl) ?_
      refine zw_get (ci := 1) (C := RX1) (T := TX1) (N := 5) (v := .ref h_person) hx hb hts hiX1 hown hK hW 0 rfl rfl 0 (by decide) rfl k_1 dX1_takeBackIn_29 ?_
      refine lv_aload_n hx hb dX1_takeBackIn_32 rfl (lv_at hl 0 rfl) ?_
      refine zw_get (ci := 1) (C := RX1) (T := TX1) (N := 5) (v := .int i_3) hx hb hts hiX1 hown hK hW 0 rfl rfl 4 (by decide) rfl k_0 dX1_takeBackIn_33 ?_
      refine zw_iald hx hb hK hW 1 rfl rfl hw.1 dX1_takeBackIn_36 ?_
      replace hw := hw.2
      refine lv_topi (fun x2_4 ex2_4 => ?_)
      replace hw := hw x2_4 ex2_4
      refine lv_istore_n (lv' := [(2, .int x2_4), (0, .ref h), (1, .ref ho)]) hx hb dX1_takeBackIn_37 rfl hl (by decide) rfl (fun ls hl => ?_)
      refine lv_aload_n hx hb dX1_takeBackIn_38 rfl (lv_at hl 1 rfl) ?_
      refine zw_get (ci := 1) (C := RX1) (T := TX1) (N := 5) (v := .ref h_gate) hx hb hts hiX1 hown hK hW 0 rfl rfl 1 (by decide) rfl k_2 dX1_takeBackIn_39 ?_
      refine lv_aload_n hx hb dX1_takeBackIn_42 rfl (lv_at hl 1 rfl) ?_
      refine zw_get (ci := 1) (C := RX1) (T := TX1) (N := 5) (v := .int i_3) hx hb hts hiX1 hown hK hW 0 rfl rfl 4 (by decide) rfl k_0 dX1_takeBackIn_43 ?_
      refine zw_iald hx hb hK hW 2 rfl rfl hw.1 dX1_takeBackIn_46 ?_
      replace hw := hw.2
      refine lv_topi (fun x3_5 ex3_5 => ?_)
      replace hw := hw x3_5 ex3_5
      refine lv_istore_n (lv' := [(3, .int x3_5), (2, .int x2_4), (0, .ref h), (1, .ref ho)]) hx hb dX1_takeBackIn_47 rfl hl (by decide) rfl (fun ls hl => ?_)
      refine lv_aload_n hx hb dX1_takeBackIn_48 rfl (lv_at hl 3 rfl) ?_
      refine lv_iload_n hx hb dX1_takeBackIn_49 rfl (lv_at hl 1 rfl) ?_
      refine zw_Vi ⟨hx, hb, hml, hown, hts⟩ hK hN hA hW 5 rfl (T := TX2) (N := 8) rfl [.int x2_4] [] [5] [0, 1, 2, 3, 4, 6, 7] [0, 1, 2, 3, 4, 7, 5, 6] (fun _ => (wX1_takeBackIn cyI cyJ cyZ h h_person h_gate h_from h_fine ho ho_courtA ho_courtB ho_kind ho_gone ho_court i_3 a_person a_gate a_from a_fine io_gates io_persons io_fines ao_gone ao_court)) (mX2_hasPerson l dC dI cyI cyJ cyZ ho ho_courtA ho_courtB ho_kind ho_gone ho_court _ io_gates io_persons io_fines x2_4 _ hw) (cwV 1 hts gX1_takeBackIn_X2_hasPerson rfl rfl rfl (by decide +kernel) ⟨Nat.le_of_ble_eq_true rfl, Nat.le_of_ble_eq_true rfl⟩) rfl rfl rfl rfl (by decide) rfl (fun _ => rfl) rfl hl.1 rfl (Nat.le_of_ble_eq_true rfl) (Nat.le_of_ble_eq_true rfl) (Nat.le_of_ble_eq_true rfl) dX1_takeBackIn_50 (fun r_6 u H locs hw hW => ?_)
      obtain ⟨br_6, hw⟩ := hw
      refine lv_if_eq (tgt := 107) hx hb dX1_takeBackIn_53 (by decide) (fun c_7 => ?_) (fun c_7 => ?_)
      · replace hw := hw.1 c_7
        refine zw_vret (S := Int32 × Int32 × (Nat → Int32) × (Nat → Int32)) (post := fun u => post u.1 u.2.1 u.2.2.1 u.2.2.2) (i_3, io_fines, ao_gone, ao_court) hx hb hr hlocks hK hW hw ?_ dX1_takeBackIn_107
        rfl
      · replace hw := hw.2 c_7
        refine lv_aload_n hx hb dX1_takeBackIn_56 rfl (lv_at hl 3 rfl) ?_
        refine lv_iload_n hx hb dX1_takeBackIn_57 rfl (lv_at hl 0 rfl) ?_
        refine zw_Vi ⟨hx, hb, hml, hown, hts⟩ hK hN hA hW 5 rfl (T := TX2) (N := 8) rfl [.int x3_5] [] [5] [0, 1, 2, 3, 4, 6, 7] [0, 1, 2, 3, 4, 7, 5, 6] (fun _ => (wX1_takeBackIn cyI cyJ cyZ h h_person h_gate h_from h_fine ho ho_courtA ho_courtB ho_kind ho_gone ho_court i_3 a_person a_gate a_from a_fine io_gates io_persons io_fines ao_gone ao_court)) (mX2_hasGate l dC dI cyI cyJ cyZ ho ho_courtA ho_courtB ho_kind ho_gone ho_court _ io_gates io_persons io_fines x3_5 _ hw) (cwV 1 hts gX1_takeBackIn_X2_hasGate rfl rfl rfl (by decide +kernel) ⟨Nat.le_of_ble_eq_true rfl, Nat.le_of_ble_eq_true rfl⟩) rfl rfl rfl rfl (by decide) rfl (fun _ => rfl) rfl hl.1 rfl (Nat.le_of_ble_eq_true rfl) (Nat.le_of_ble_eq_true rfl) (Nat.le_of_ble_eq_true rfl) dX1_takeBackIn_58 (fun r_8 u H locs hw hW => ?_)
        obtain ⟨br_8, hw⟩ := hw
        refine lv_if_eq (tgt := 107) hx hb dX1_takeBackIn_61 (by decide) (fun c_9 => ?_) (fun c_9 => ?_)
        · replace hw := hw.1 c_9
          refine zw_vret (S := Int32 × Int32 × (Nat → Int32) × (Nat → Int32)) (post := fun u => post u.1 u.2.1 u.2.2.1 u.2.2.2) (i_3, io_fines, ao_gone, ao_court) hx hb hr hlocks hK hW hw ?_ dX1_takeBackIn_107
          rfl
        · replace hw := hw.2 c_9
          refine lv_aload_n hx hb dX1_takeBackIn_64 rfl (lv_at hl 3 rfl) ?_
          refine zw_get (ci := 2) (C := RX2) (T := TX2) (N := 8) (v := .ref ho_court) hx hb hts hiX2 hown hK hW 5 rfl rfl 5 (by decide) rfl k_3 dX1_takeBackIn_65 ?_
          refine lv_iload_n hx hb dX1_takeBackIn_68 rfl (lv_at hl 1 rfl) ?_
          refine lv_aload_n hx hb dX1_takeBackIn_69 rfl (lv_at hl 2 rfl) ?_
          refine zw_get (ci := 1) (C := RX1) (T := TX1) (N := 5) (v := .ref h_from) hx hb hts hiX1 hown hK hW 0 rfl rfl 2 (by decide) rfl k_4 dX1_takeBackIn_70 ?_
          refine lv_aload_n hx hb dX1_takeBackIn_73 rfl (lv_at hl 2 rfl) ?_
          refine zw_get (ci := 1) (C := RX1) (T := TX1) (N := 5) (v := .int i_3) hx hb hts hiX1 hown hK hW 0 rfl rfl 4 (by decide) rfl k_0 dX1_takeBackIn_74 ?_
          refine zw_iald hx hb hK hW 3 rfl rfl hw.1 dX1_takeBackIn_77 ?_
          replace hw := hw.2
          refine lv_topi (fun t_10 et_10 => ?_)
          replace hw := hw t_10 et_10
          refine zw_iast hx hb hK hW 7 rfl rfl hw.1 (w2 := fun ao_court_11 => (wX1_takeBackIn cyI cyJ cyZ h h_person h_gate h_from h_fine ho ho_courtA ho_courtB ho_kind ho_gone ho_court i_3 a_person a_gate a_from a_fine io_gates io_persons io_fines ao_gone ao_court_11)) (fun _ => rfl) dX1_takeBackIn_78 (fun ao_court_11 H locs eao_court_11 hW => ?_)
          replace hw := hw.2 ao_court_11 eao_court_11
          refine lv_aload_n hx hb dX1_takeBackIn_79 rfl (lv_at hl 3 rfl) ?_
          refine zw_get (ci := 2) (C := RX2) (T := TX2) (N := 8) (v := .ref ho_gone) hx hb hts hiX2 hown hK hW 5 rfl rfl 3 (by decide) rfl k_5 dX1_takeBackIn_80 ?_
          refine lv_iload_n hx hb dX1_takeBackIn_83 rfl (lv_at hl 0 rfl) ?_
          refine lv_dup2_11 hx hb dX1_takeBackIn_84 rfl rfl ?_
          refine zw_iald hx hb hK hW 6 rfl rfl hw.1 dX1_takeBackIn_85 ?_
          replace hw := hw.2
          refine lv_iconst (v := 1) hx hb dX1_takeBackIn_86 (by decide) ?_
          refine lv_isub hx hb dX1_takeBackIn_87 ?_
          refine lv_topi (fun t_12 et_12 => ?_)
          replace hw := hw t_12 et_12
          refine zw_iast hx hb hK hW 6 rfl rfl hw.1 (w2 := fun ao_gone_13 => (wX1_takeBackIn cyI cyJ cyZ h h_person h_gate h_from h_fine ho ho_courtA ho_courtB ho_kind ho_gone ho_court i_3 a_person a_gate a_from a_fine io_gates io_persons io_fines ao_gone_13 ao_court_11)) (fun _ => rfl) dX1_takeBackIn_88 (fun ao_gone_13 H locs eao_gone_13 hW => ?_)
          replace hw := hw.2 ao_gone_13 eao_gone_13
          refine lv_aload_n hx hb dX1_takeBackIn_89 rfl (lv_at hl 3 rfl) ?_
          refine lv_dup hx hb dX1_takeBackIn_90 rfl ?_
          refine zw_get (ci := 2) (C := RX2) (T := TX2) (N := 8) (v := .int io_fines) hx hb hts hiX2 hown hK hW 5 rfl rfl 7 (by decide) rfl k_6 dX1_takeBackIn_91 ?_
          refine lv_aload_n hx hb dX1_takeBackIn_94 rfl (lv_at hl 2 rfl) ?_
          refine zw_get (ci := 1) (C := RX1) (T := TX1) (N := 5) (v := .ref h_fine) hx hb hts hiX1 hown hK hW 0 rfl rfl 3 (by decide) rfl k_7 dX1_takeBackIn_95 ?_
          refine lv_aload_n hx hb dX1_takeBackIn_98 rfl (lv_at hl 2 rfl) ?_
          refine zw_get (ci := 1) (C := RX1) (T := TX1) (N := 5) (v := .int i_3) hx hb hts hiX1 hown hK hW 0 rfl rfl 4 (by decide) rfl k_0 dX1_takeBackIn_99 ?_
          refine zw_iald hx hb hK hW 4 rfl rfl hw.1 dX1_takeBackIn_102 ?_
          replace hw := hw.2
          refine lv_isub hx hb dX1_takeBackIn_103 ?_
          refine lv_topi (fun i_14 ei_14 => ?_)
          replace hw := hw i_14 ei_14
          refine zw_put (ci := 2) (C := RX2) (T := TX2) (N := 8) (w2 := (wX1_takeBackIn cyI cyJ cyZ h h_person h_gate h_from h_fine ho ho_courtA ho_courtB ho_kind ho_gone ho_court i_3 a_person a_gate a_from a_fine io_gates io_persons i_14 ao_gone_13 ao_court_11)) hx hb hts hiX2 tyX2 tyX2_ok nmX2 hown hK hW 5 rfl rfl 7 (by decide) (by decide +kernel) rfl (Nat.le_of_ble_eq_true rfl) rfl k_6 dX1_takeBackIn_104 (fun H locs hW => ?_)
          refine zw_vret (S := Int32 × Int32 × (Nat → Int32) × (Nat → Int32)) (post := fun u => post u.1 u.2.1 u.2.2.1 u.2.2.2) (i_3, i_14, ao_gone_13, ao_court_11) hx hb hr hlocks hK hW hw ?_ dX1_takeBackIn_107
          rfl
    · replace hw := hw.2 c_2
      refine zw_vret (S := Int32 × Int32 × (Nat → Int32) × (Nat → Int32)) (post := fun u => post u.1 u.2.1 u.2.2.1 u.2.2.2) (i_many, io_fines, ao_gone, ao_court) hx hb hr hlocks hK hW hw ?_ dX1_takeBackIn_17
      rfl
set_option maxHeartbeats 4000000 in
set_option maxRecDepth 100000 in
theorem mX3_init (l : Launch) (dC : Nat → ClassId) (dI : Nat → Nat → Nat) (cyI cyJ cyZ : ClassId) (h sz : Nat) : Met l yX3_init wsX3_init ({ frames := 1, cells := 1, slots := 8, locals := 20 } : Room) (va_Pc [.ref h] (pcW (dC, dI) sz [(h, .inr (3, [.null, .int 0]))] (tyG cyI cyJ cyZ))) (va_Qv (fun _ : Nat => True) (bW (dC, dI) (tyG cyI cyJ cyZ) (va_A [(h, .inr (3, [.null, .int 0]))] sz) (fun u : Nat => ([(h, .inr (3, [.ref u, .int 0])), (u, .inl (cyI, 8, .inl (fun _ => 0)))] : va_W))) (va_A [(h, .inr (3, [.null, .int 0]))] sz)) 1 8 (va_A [(h, .inr (3, [.null, .int 0]))] sz) := by
  refine Met.ofW (cc := cX3_init) (maxL := 1) (ret := none) (by decide) rfl ?_
  intro p e s m args below meth c s₁ B hml hv
  obtain ⟨rfl, hsz, hP, hK, hD0, hN⟩ := hv
  have hx := B.exec
  have hb := B.bytes
  have hr := B.returns
  have hts := atoms_spec (ws := wsX3_init) B.pre
  have hown : s.vm.findClass RX3 = some m.cls := findClass_of_methodNamed B.named
  have hlocks := B.notSynchronized
  have hin : meth.name = "<init>" := (name_of_methodNamed B.named B.method).1
  subst hsz
  have hD := hD0.self (sz := s.heap.size)
  generalize hAe : va_A [(h, .inr (3, [.null, .int 0]))] s.heap.size = A at hD ⊢
  have hA : ∀ q : Nat, s.heap.size ≤ q → A q := fun q h => by rw [← hAe]; exact Or.inr h
  have hW : Wd (dC, dI) A s.heap ([(h, .inr (3, [.null, .int 0]))] : va_W) s.heap [] := ⟨hP, hD, va_S.rf⟩
  have hw := trivial
  have hiX3 : ∀ w ∈ u_ws RX3 TX3 2, w ∈ wsX3_init := fun _ h => List.mem_cons_of_mem _ (List.mem_append_right _ h)
  have k_0 := hts (.methodLink RX3 1 objectInit) (List.mem_of_getElem? (i := 1) rfl)
  have k_1 := hts (.instanceMethod objectInit) (List.mem_of_getElem? (i := 2) rfl)
  have k_2 := hts (.code objectInit ⟨#[0xb1]⟩ 1 none) (List.mem_of_getElem? (i := 3) rfl)
  have k_3 := hts (.arrayClass .int) (List.mem_of_getElem? (i := 4) rfl)
  have k_4 := hts (.fieldLink RX3 9 "OddLetsIn$Route" "gate" "[I") (List.mem_of_getElem? (i := 5) rfl)
  have k_5 := hts (.fieldLink RX3 13 "OddLetsIn$Route" "many" "I") (List.mem_of_getElem? (i := 6) rfl)
  have hl := lv_entry ([.ref h]) (n := 1) (Nat.le_of_ble_eq_true rfl)
  rw [lg_entry_eq]
  generalize (lg_sl ([.ref h]) ++ List.replicate (1 - (lg_sl ([.ref h])).length) Slot.unset).toArray = ls at hl ⊢
  have hl : lv_has ls 1 [(0, .ref h)] := hl
  refine lv_aload_n hx hb dX3_init_0 rfl (lv_at hl 0 rfl) ?_
  refine W.objInit hx hb hown k_0 k_1 k_2 rfl (by rw [hml]; exact hl.1) rfl dX3_init_1 (Nat.le_of_ble_eq_true rfl) (Nat.le_of_ble_eq_true rfl) ?_
  refine W.eq (g2 := F0 m 4 ls []) rfl ?_
  refine lv_aload_n hx hb dX3_init_4 rfl (lv_at hl 0 rfl) ?_
  refine lv_bipush (v := 8) hx hb dX3_init_5 (by decide) ?_
  refine zw_newi hx hb k_3 hK hA hW 8 (by decide) (by decide) (Nat.le_of_ble_eq_true rfl) (Nat.le_of_ble_eq_true rfl) (Nat.le_of_ble_eq_true rfl) dX3_init_7 (fun h_gate H hW => ?_)
  replace hW : Wd (dC, dI) A s.heap ([(h, .inr (3, [.null, .int 0])), (h_gate, .inl (cyI, 8, .inl (fun _ => 0)))] : va_W) H _ := hW
  refine zw_putF (ci := 3) (C := RX3) (T := TX3) (N := 2) (ty := .array .int) (w2 := [(h, .inr (3, [.ref h_gate, .int 0])), (h_gate, .inl (cyI, 8, .inl (fun _ => 0)))]) hx hb hts hiX3 tyX3 tyX3_ok nmX3 hown hK hW 0 rfl rfl 0 (by decide) (by decide +kernel) rfl rfl rfl hin rfl (Nat.le_of_ble_eq_true rfl) rfl k_4 dX3_init_9 (fun H locs hW => ?_)
  refine lv_aload_n hx hb dX3_init_12 rfl (lv_at hl 0 rfl) ?_
  refine lv_iconst (v := 0) hx hb dX3_init_13 (by decide) ?_
  refine zw_put (ci := 3) (C := RX3) (T := TX3) (N := 2) (w2 := [(h, .inr (3, [.ref h_gate, .int 0])), (h_gate, .inl (cyI, 8, .inl (fun _ => 0)))]) hx hb hts hiX3 tyX3 tyX3_ok nmX3 hown hK hW 0 rfl rfl 1 (by decide) (by decide +kernel) rfl (Nat.le_of_ble_eq_true rfl) rfl k_5 dX3_init_14 (fun H locs hW => ?_)
  replace hW : Wd (dC, dI) A s.heap ([(h, .inr (3, [.ref h_gate, .int 0])), (h_gate, .inl (cyI, 8, .inl (fun _ => 0)))] : va_W) H _ := zw_perm hW [0, 1] rfl rfl
  refine zw_vret (S := Nat) (post := fun _ => True) h_gate hx hb hr hlocks hK hW hw ?_ dX3_init_17
  rfl
abbrev wX3_hasRoom (cyI cyJ cyZ : ClassId) (h h_gate : Nat) (i_many : Int32) : va_W := [(h, .inr (3, [.ref h_gate, .int i_many]))]
abbrev qX3_hasRoom (dC : Nat → ClassId) (dI : Nat → Nat → Nat) (cyI cyJ cyZ : ClassId) (h h_gate : Nat) (i_many : Int32) (post : Int32 → Prop) (A : Nat → Prop) : Array Value → State → Outcome → State → Prop := (va_Qi (fun (r : Int32) (u : Unit) => (r = 0 ∨ r = 1) ∧ post r) (bW (dC, dI) (tyG cyI cyJ cyZ) A (fun _ : Unit => (wX3_hasRoom cyI cyJ cyZ h h_gate i_many))) A)
set_option maxHeartbeats 4000000 in
set_option maxRecDepth 100000 in
theorem mX3_hasRoom (l : Launch) (dC : Nat → ClassId) (dI : Nat → Nat → Nat) (cyI cyJ cyZ : ClassId) (h h_gate : Nat) (sz : Nat) (i_many : Int32) (post : Int32 → Prop) (hwp : PX3_hasRoom i_many post) : Met l yX3_hasRoom wsX3_hasRoom ({ frames := 0, cells := 0, slots := 0, locals := 0 } : Room) (va_Pc [.ref h] (pcW (dC, dI) sz (wX3_hasRoom cyI cyJ cyZ h h_gate i_many) (tyG cyI cyJ cyZ))) (qX3_hasRoom dC dI cyI cyJ cyZ h h_gate i_many post (va_A (wX3_hasRoom cyI cyJ cyZ h h_gate i_many) sz)) 0 0 (va_A (wX3_hasRoom cyI cyJ cyZ h h_gate i_many) sz) := by
  refine Met.ofW (cc := cX3_hasRoom) (maxL := 1) (ret := some .boolean) (by decide) rfl ?_
  intro p e s m args below meth c s₁ B hml hv
  obtain ⟨rfl, hsz, hP, hK, hD0, hN⟩ := hv
  have hx := B.exec
  have hb := B.bytes
  have hr := B.returns
  have hts := atoms_spec (ws := wsX3_hasRoom) B.pre
  have hown : s.vm.findClass RX3 = some m.cls := findClass_of_methodNamed B.named
  have hlocks := B.notSynchronized
  subst hsz
  have hD := hD0.self (sz := s.heap.size)
  generalize hAe : va_A (wX3_hasRoom cyI cyJ cyZ h h_gate i_many) s.heap.size = A at hD ⊢
  have hA : ∀ q : Nat, s.heap.size ≤ q → A q := fun q h => by rw [← hAe]; exact Or.inr h
  have hW : Wd (dC, dI) A s.heap (wX3_hasRoom cyI cyJ cyZ h h_gate i_many) s.heap [] := ⟨hP, hD, va_S.rf⟩
  have hw := hwp
  have hiX3 : ∀ w ∈ u_ws RX3 TX3 2, w ∈ wsX3_hasRoom := fun _ h => List.mem_cons_of_mem _ (List.mem_append_right _ h)
  have k_0 := hts (.fieldLink RX3 13 "OddLetsIn$Route" "many" "I") (List.mem_of_getElem? (i := 1) rfl)
  have hl := lv_entry ([.ref h]) (n := 1) (Nat.le_of_ble_eq_true rfl)
  rw [lg_entry_eq]
  generalize (lg_sl ([.ref h]) ++ List.replicate (1 - (lg_sl ([.ref h])).length) Slot.unset).toArray = ls at hl ⊢
  have hl : lv_has ls 1 [(0, .ref h)] := hl
  refine lv_aload_n hx hb dX3_hasRoom_0 rfl (lv_at hl 0 rfl) ?_
  refine zw_get (ci := 3) (C := RX3) (T := TX3) (N := 2) (v := .int i_many) hx hb hts hiX3 hown hK hW 0 rfl rfl 1 (by decide) rfl k_0 dX3_hasRoom_1 ?_
  refine lv_bipush (v := 8) hx hb dX3_hasRoom_4 (by decide) ?_
  refine lv_icmp_ge (tgt := 13) hx hb dX3_hasRoom_6 (by decide) (fun c_1 => ?_) (fun c_1 => ?_)
  · replace hw := hw.1 c_1
    refine lv_iconst (v := 0) hx hb dX3_hasRoom_13 (by decide) ?_
    refine zw_zret (S := Unit) (post := fun r u => post r) () hx hb hr hlocks hK hW (Or.inl rfl) hw ?_ dX3_hasRoom_14
    rfl
  · replace hw := hw.2 c_1
    refine lv_iconst (v := 1) hx hb dX3_hasRoom_9 (by decide) ?_
    refine lv_goto (tgt := 14) hx hb dX3_hasRoom_10 (by decide) ?_
    refine zw_zret (S := Unit) (post := fun r u => post r) () hx hb hr hlocks hK hW (Or.inr rfl) hw ?_ dX3_hasRoom_14
    rfl
abbrev wX3_add (cyI cyJ cyZ : ClassId) (h h_gate : Nat) (i_many : Int32) (a_gate : Nat → Int32) : va_W := [(h, .inr (3, [.ref h_gate, .int i_many])), (h_gate, .inl (cyI, 8, .inl a_gate))]
abbrev qX3_add (dC : Nat → ClassId) (dI : Nat → Nat → Nat) (cyI cyJ cyZ : ClassId) (h h_gate : Nat) (i_many : Int32) (a_gate : Nat → Int32) (post : Int32 → (Nat → Int32) → Prop) (A : Nat → Prop) : Array Value → State → Outcome → State → Prop := (va_Qv (fun (u : Int32 × (Nat → Int32)) => post u.1 u.2) (bW (dC, dI) (tyG cyI cyJ cyZ) A (fun u : Int32 × (Nat → Int32) => (wX3_add cyI cyJ cyZ h h_gate (u.1) (u.2)))) A)
set_option maxHeartbeats 4000000 in
set_option maxRecDepth 100000 in
theorem mX3_add (l : Launch) (dC : Nat → ClassId) (dI : Nat → Nat → Nat) (cyI cyJ cyZ : ClassId) (h h_gate : Nat) (sz : Nat) (i_many : Int32) (a_gate : Nat → Int32) (x1 : Int32) (post : Int32 → (Nat → Int32) → Prop) (hwp : PX3_add x1 i_many a_gate post) : Met l yX3_add wsX3_add ({ frames := 0, cells := 0, slots := 0, locals := 0 } : Room) (va_Pc [.ref h, .int x1] (pcW (dC, dI) sz (wX3_add cyI cyJ cyZ h h_gate i_many a_gate) (tyG cyI cyJ cyZ))) (qX3_add dC dI cyI cyJ cyZ h h_gate i_many a_gate post (va_A (wX3_add cyI cyJ cyZ h h_gate i_many a_gate) sz)) 0 0 (va_A (wX3_add cyI cyJ cyZ h h_gate i_many a_gate) sz) := by
  refine Met.ofW (cc := cX3_add) (maxL := 2) (ret := none) (by decide) rfl ?_
  intro p e s m args below meth c s₁ B hml hv
  obtain ⟨rfl, hsz, hP, hK, hD0, hN⟩ := hv
  have hx := B.exec
  have hb := B.bytes
  have hr := B.returns
  have hts := atoms_spec (ws := wsX3_add) B.pre
  have hown : s.vm.findClass RX3 = some m.cls := findClass_of_methodNamed B.named
  have hlocks := B.notSynchronized
  subst hsz
  have hD := hD0.self (sz := s.heap.size)
  generalize hAe : va_A (wX3_add cyI cyJ cyZ h h_gate i_many a_gate) s.heap.size = A at hD ⊢
  have hA : ∀ q : Nat, s.heap.size ≤ q → A q := fun q h => by rw [← hAe]; exact Or.inr h
  have hW : Wd (dC, dI) A s.heap (wX3_add cyI cyJ cyZ h h_gate i_many a_gate) s.heap [] := ⟨hP, hD, va_S.rf⟩
  have hw := hwp
  have hiX3 : ∀ w ∈ u_ws RX3 TX3 2, w ∈ wsX3_add := fun _ h => List.mem_cons_of_mem _ (List.mem_append_right _ h)
  have k_0 := hts (.fieldLink RX3 13 "OddLetsIn$Route" "many" "I") (List.mem_of_getElem? (i := 1) rfl)
  have k_1 := hts (.fieldLink RX3 9 "OddLetsIn$Route" "gate" "[I") (List.mem_of_getElem? (i := 2) rfl)
  have hl := lv_entry ([.ref h, .int x1]) (n := 2) (Nat.le_of_ble_eq_true rfl)
  rw [lg_entry_eq]
  generalize (lg_sl ([.ref h, .int x1]) ++ List.replicate (2 - (lg_sl ([.ref h, .int x1])).length) Slot.unset).toArray = ls at hl ⊢
  have hl : lv_has ls 2 [(0, .ref h), (1, .int x1)] := hl
  refine lv_aload_n hx hb dX3_add_0 rfl (lv_at hl 0 rfl) ?_
  refine zw_get (ci := 3) (C := RX3) (T := TX3) (N := 2) (v := .int i_many) hx hb hts hiX3 hown hK hW 0 rfl rfl 1 (by decide) rfl k_0 dX3_add_1 ?_
  refine lv_if_lt (tgt := 36) hx hb dX3_add_4 (by decide) (fun c_1 => ?_) (fun c_1 => ?_)
  · replace hw := hw.1 c_1
    refine zw_vret (S := Int32 × (Nat → Int32)) (post := fun u => post u.1 u.2) (i_many, a_gate) hx hb hr hlocks hK hW hw ?_ dX3_add_36
    rfl
  · replace hw := hw.2 c_1
    refine lv_aload_n hx hb dX3_add_7 rfl (lv_at hl 0 rfl) ?_
    refine zw_get (ci := 3) (C := RX3) (T := TX3) (N := 2) (v := .int i_many) hx hb hts hiX3 hown hK hW 0 rfl rfl 1 (by decide) rfl k_0 dX3_add_8 ?_
    refine lv_bipush (v := 8) hx hb dX3_add_11 (by decide) ?_
    refine lv_icmp_ge (tgt := 36) hx hb dX3_add_13 (by decide) (fun c_2 => ?_) (fun c_2 => ?_)
    · replace hw := hw.1 c_2
      refine zw_vret (S := Int32 × (Nat → Int32)) (post := fun u => post u.1 u.2) (i_many, a_gate) hx hb hr hlocks hK hW hw ?_ dX3_add_36
      rfl
    · replace hw := hw.2 c_2
      refine lv_aload_n hx hb dX3_add_16 rfl (lv_at hl 0 rfl) ?_
      refine zw_get (ci := 3) (C := RX3) (T := TX3) (N := 2) (v := .ref h_gate) hx hb hts hiX3 hown hK hW 0 rfl rfl 0 (by decide) rfl k_1 dX3_add_17 ?_
      refine lv_aload_n hx hb dX3_add_20 rfl (lv_at hl 0 rfl) ?_
      refine zw_get (ci := 3) (C := RX3) (T := TX3) (N := 2) (v := .int i_many) hx hb hts hiX3 hown hK hW 0 rfl rfl 1 (by decide) rfl k_0 dX3_add_21 ?_
      refine lv_iload_n hx hb dX3_add_24 rfl (lv_at hl 1 rfl) ?_
      refine zw_iast hx hb hK hW 1 rfl rfl hw.1 (w2 := fun a_gate_3 => (wX3_add cyI cyJ cyZ h h_gate i_many a_gate_3)) (fun _ => rfl) dX3_add_25 (fun a_gate_3 H locs ea_gate_3 hW => ?_)
      replace hw := hw.2 a_gate_3 ea_gate_3
      refine lv_aload_n hx hb dX3_add_26 rfl (lv_at hl 0 rfl) ?_
      refine lv_dup hx hb dX3_add_27 rfl ?_
      refine zw_get (ci := 3) (C := RX3) (T := TX3) (N := 2) (v := .int i_many) hx hb hts hiX3 hown hK hW 0 rfl rfl 1 (by decide) rfl k_0 dX3_add_28 ?_
      refine lv_iconst (v := 1) hx hb dX3_add_31 (by decide) ?_
      refine lv_iadd hx hb dX3_add_32 ?_
      refine lv_topi (fun i_4 ei_4 => ?_)
      replace hw := hw i_4 ei_4
      refine zw_put (ci := 3) (C := RX3) (T := TX3) (N := 2) (w2 := (wX3_add cyI cyJ cyZ h h_gate i_4 a_gate_3)) hx hb hts hiX3 tyX3 tyX3_ok nmX3 hown hK hW 0 rfl rfl 1 (by decide) (by decide +kernel) rfl (Nat.le_of_ble_eq_true rfl) rfl k_0 dX3_add_33 (fun H locs hW => ?_)
      refine zw_vret (S := Int32 × (Nat → Int32)) (post := fun u => post u.1 u.2) (i_4, a_gate_3) hx hb hr hlocks hK hW hw ?_ dX3_add_36
      rfl
abbrev wX3_leadGuest (cyI cyJ cyZ : ClassId) (h h_gate ho ho_courtA ho_courtB ho_kind ho_gone ho_court : Nat) (i_many : Int32) (a_gate : Nat → Int32) (io_gates : Int32) (io_persons : Int32) (io_fines : Int32) (ao_courtA : Nat → Int32) (ao_courtB : Nat → Int32) (ao_kind : Nat → Int32) (ao_gone : Nat → Int32) : va_W := [(h, .inr (3, [.ref h_gate, .int i_many])), (h_gate, .inl (cyI, 8, .inl a_gate)), (ho, .inr (2, [.ref ho_courtA, .ref ho_courtB, .ref ho_kind, .ref ho_gone, .int io_gates, .ref ho_court, .int io_persons, .int io_fines])), (ho_courtA, .inl (cyI, 5, .inl ao_courtA)), (ho_courtB, .inl (cyI, 5, .inl ao_courtB)), (ho_kind, .inl (cyI, 5, .inl ao_kind)), (ho_gone, .inl (cyI, 5, .inl ao_gone))]
abbrev qX3_leadGuest (dC : Nat → ClassId) (dI : Nat → Nat → Nat) (cyI cyJ cyZ : ClassId) (h h_gate ho ho_courtA ho_courtB ho_kind ho_gone ho_court : Nat) (i_many : Int32) (a_gate : Nat → Int32) (io_gates : Int32) (io_persons : Int32) (io_fines : Int32) (ao_courtA : Nat → Int32) (ao_courtB : Nat → Int32) (ao_kind : Nat → Int32) (ao_gone : Nat → Int32) (post : (Nat → Int32) → Prop) (A : Nat → Prop) : Array Value → State → Outcome → State → Prop := (va_Qv (fun (u : (Nat → Int32)) => post u) (bW (dC, dI) (tyG cyI cyJ cyZ) A (fun u : (Nat → Int32) => (wX3_leadGuest cyI cyJ cyZ h h_gate ho ho_courtA ho_courtB ho_kind ho_gone ho_court i_many a_gate io_gates io_persons io_fines ao_courtA ao_courtB ao_kind u))) A)
set_option maxHeartbeats 4000000 in
set_option maxRecDepth 100000 in
theorem mX3_leadGuest (l : Launch) (dC : Nat → ClassId) (dI : Nat → Nat → Nat) (cyI cyJ cyZ : ClassId) (h h_gate ho ho_courtA ho_courtB ho_kind ho_gone ho_court : Nat) (sz : Nat) (i_many : Int32) (a_gate : Nat → Int32) (io_gates : Int32) (io_persons : Int32) (io_fines : Int32) (ao_courtA : Nat → Int32) (ao_courtB : Nat → Int32) (ao_kind : Nat → Int32) (ao_gone : Nat → Int32) (post : (Nat → Int32) → Prop) (hwp : PX3_leadGuest i_many a_gate io_gates ao_courtA ao_courtB ao_kind ao_gone post) : Met l yX3_leadGuest wsX3_leadGuest ({ frames := 4, cells := 0, slots := 0, locals := 89 } : Room) (va_Pc [.ref h, .ref ho] (pcW (dC, dI) sz (wX3_leadGuest cyI cyJ cyZ h h_gate ho ho_courtA ho_courtB ho_kind ho_gone ho_court i_many a_gate io_gates io_persons io_fines ao_courtA ao_courtB ao_kind ao_gone) (tyG cyI cyJ cyZ))) (qX3_leadGuest dC dI cyI cyJ cyZ h h_gate ho ho_courtA ho_courtB ho_kind ho_gone ho_court i_many a_gate io_gates io_persons io_fines ao_courtA ao_courtB ao_kind ao_gone post (va_A (wX3_leadGuest cyI cyJ cyZ h h_gate ho ho_courtA ho_courtB ho_kind ho_gone ho_court i_many a_gate io_gates io_persons io_fines ao_courtA ao_courtB ao_kind ao_gone) sz)) 0 0 (va_A (wX3_leadGuest cyI cyJ cyZ h h_gate ho ho_courtA ho_courtB ho_kind ho_gone ho_court i_many a_gate io_gates io_persons io_fines ao_courtA ao_courtB ao_kind ao_gone) sz) := by
  refine Met.ofW (cc := cX3_leadGuest) (maxL := 5) (ret := none) (by decide) rfl ?_
  intro p e s m args below meth c s₁ B hml hv
  obtain ⟨rfl, hsz, hP, hK, hD0, hN⟩ := hv
  have hx := B.exec
  have hb := B.bytes
  have hr := B.returns
  have hts := atoms_spec (ws := wsX3_leadGuest) B.pre
  have hown : s.vm.findClass RX3 = some m.cls := findClass_of_methodNamed B.named
  have hlocks := B.notSynchronized
  subst hsz
  have hD := hD0.self (sz := s.heap.size)
  generalize hAe : va_A (wX3_leadGuest cyI cyJ cyZ h h_gate ho ho_courtA ho_courtB ho_kind ho_gone ho_court i_many a_gate io_gates io_persons io_fines ao_courtA ao_courtB ao_kind ao_gone) s.heap.size = A at hD ⊢
  have hA : ∀ q : Nat, s.heap.size ≤ q → A q := fun q h => by rw [← hAe]; exact Or.inr h
  have hW : Wd (dC, dI) A s.heap (wX3_leadGuest cyI cyJ cyZ h h_gate ho ho_courtA ho_courtB ho_kind ho_gone ho_court i_many a_gate io_gates io_persons io_fines ao_courtA ao_courtB ao_kind ao_gone) s.heap [] := ⟨hP, hD, va_S.rf⟩
  have hw := hwp
  have hiX3 : ∀ w ∈ u_ws RX3 TX3 2, w ∈ wsX3_leadGuest := fun _ h => List.mem_cons_of_mem _ (List.mem_append_left _ (List.mem_append_right _ h))
  have hiX2 : ∀ w ∈ u_ws RX2 TX2 8, w ∈ wsX3_leadGuest := fun _ h => List.mem_cons_of_mem _ (List.mem_append_right _ h)
  have k_0 := hts (.fieldLink RX3 13 "OddLetsIn$Route" "many" "I") (List.mem_of_getElem? (i := 1) rfl)
  have k_1 := hts (.fieldLink RX3 9 "OddLetsIn$Route" "gate" "[I") (List.mem_of_getElem? (i := 2) rfl)
  have k_2 := hts (.fieldLink RX3 27 "OddLetsIn$Garden" "gone" "[I") (List.mem_of_getElem? (i := 3) rfl)
  have W_4 : ∀ (n_4 : Nat) (x2 : Int32) (x3 : Int32) (ao_gone : Nat → Int32) (H : Heap) (locs : List Loc) (ls : Array Slot), Wd (dC, dI) A s.heap (wX3_leadGuest cyI cyJ cyZ h h_gate ho ho_courtA ho_courtB ho_kind ho_gone ho_court i_many a_gate io_gates io_persons io_fines ao_courtA ao_courtB ao_kind ao_gone) H locs → lv_has ls 5 [(0, .ref h), (1, .ref ho), (2, .int x2), (3, .int x3)] → PX3_leadGuest_4 post i_many a_gate io_gates ao_courtA ao_courtB ao_kind n_4 x2 x3 ao_gone → W p l e (({ frames := 4, cells := 0, slots := 0, locals := 89 } : Room)) s m (([.ref h, .ref ho] : List Value).toArray) below meth c H locs 0 0 (MQ below (qX3_leadGuest dC dI cyI cyJ cyZ h h_gate ho ho_courtA ho_courtB ho_kind ho_gone ho_court i_many a_gate io_gates io_persons io_fines ao_courtA ao_courtB ao_kind ao_gone post A) (([.ref h, .ref ho] : List Value).toArray) s 0 0 A) (F0 m 4 ls []) := by
    intro n_4
    induction n_4 with
    | zero =>
      intro x2 x3 ao_gone H locs ls hW hl hw
      exact False.elim hw
    | succ n_4 ih_4 =>
      intro x2 x3 ao_gone H locs ls hW hl hw
      refine lv_iload_n hx hb dX3_leadGuest_4 rfl (lv_at hl 3 rfl) ?_
      refine lv_aload_n hx hb dX3_leadGuest_5 rfl (lv_at hl 0 rfl) ?_
      refine zw_get (ci := 3) (C := RX3) (T := TX3) (N := 2) (v := .int i_many) hx hb hts hiX3 hown hK hW 0 rfl rfl 1 (by decide) rfl k_0 dX3_leadGuest_6 ?_
      refine lv_icmp_ge (tgt := 71) hx hb dX3_leadGuest_9 (by decide) (fun c_1 => ?_) (fun c_1 => ?_)
      · replace hw := hw.1 c_1
        refine zw_vret (S := (Nat → Int32)) (post := fun u => post u) ao_gone hx hb hr hlocks hK hW hw ?_ dX3_leadGuest_71
        rfl
      · replace hw := hw.2 c_1
        refine lv_iload_n hx hb dX3_leadGuest_12 rfl (lv_at hl 3 rfl) ?_
        refine lv_bipush (v := 8) hx hb dX3_leadGuest_13 (by decide) ?_
        refine lv_icmp_ge (tgt := 71) hx hb dX3_leadGuest_15 (by decide) (fun c_2 => ?_) (fun c_2 => ?_)
        · replace hw := hw.1 c_2
          refine zw_vret (S := (Nat → Int32)) (post := fun u => post u) ao_gone hx hb hr hlocks hK hW hw ?_ dX3_leadGuest_71
          rfl
        · replace hw := hw.2 c_2
          refine lv_aload_n hx hb dX3_leadGuest_18 rfl (lv_at hl 0 rfl) ?_
          refine zw_get (ci := 3) (C := RX3) (T := TX3) (N := 2) (v := .ref h_gate) hx hb hts hiX3 hown hK hW 0 rfl rfl 0 (by decide) rfl k_1 dX3_leadGuest_19 ?_
          refine lv_iload_n hx hb dX3_leadGuest_22 rfl (lv_at hl 3 rfl) ?_
          refine zw_iald hx hb hK hW 1 rfl rfl hw.1 dX3_leadGuest_23 ?_
          replace hw := hw.2
          refine lv_topi (fun x4_3 ex4_3 => ?_)
          replace hw := hw x4_3 ex4_3
          refine lv_istore (lv' := [(4, .int x4_3), (0, .ref h), (1, .ref ho), (2, .int x2), (3, .int x3)]) hx hb dX3_leadGuest_24 hl (by decide) rfl (fun ls hl => ?_)
          refine lv_aload_n hx hb dX3_leadGuest_26 rfl (lv_at hl 2 rfl) ?_
          refine lv_iload hx hb dX3_leadGuest_27 (lv_at hl 0 rfl) ?_
          refine zw_Vi ⟨hx, hb, hml, hown, hts⟩ hK hN hA hW 2 rfl (T := TX2) (N := 8) rfl [.int x4_3] [] [2] [0, 1, 3, 4, 5, 6] [0, 1, 6, 2, 3, 4, 5] (fun _ => (wX3_leadGuest cyI cyJ cyZ h h_gate ho ho_courtA ho_courtB ho_kind ho_gone ho_court i_many a_gate io_gates io_persons io_fines ao_courtA ao_courtB ao_kind ao_gone)) (mX2_hasGate l dC dI cyI cyJ cyZ ho ho_courtA ho_courtB ho_kind ho_gone ho_court _ io_gates io_persons io_fines x4_3 _ hw) (cwV 1 hts gX3_leadGuest_X2_hasGate rfl rfl rfl (by decide +kernel) ⟨Nat.le_of_ble_eq_true rfl, Nat.le_of_ble_eq_true rfl⟩) rfl rfl rfl rfl (by decide) rfl (fun _ => rfl) rfl hl.1 rfl (Nat.le_of_ble_eq_true rfl) (Nat.le_of_ble_eq_true rfl) (Nat.le_of_ble_eq_true rfl) dX3_leadGuest_29 (fun r_4 u H locs hw hW => ?_)
          obtain ⟨br_4, hw⟩ := hw
          refine lv_if_eq (tgt := 45) hx hb dX3_leadGuest_32 (by decide) (fun c_5 => ?_) (fun c_5 => ?_)
          · replace hw := hw.1 c_5
            refine zw_vret (S := (Nat → Int32)) (post := fun u => post u) ao_gone hx hb hr hlocks hK hW hw ?_ dX3_leadGuest_45
            rfl
          · replace hw := hw.2 c_5
            refine lv_aload_n hx hb dX3_leadGuest_35 rfl (lv_at hl 2 rfl) ?_
            refine lv_iload_n hx hb dX3_leadGuest_36 rfl (lv_at hl 3 rfl) ?_
            refine lv_iload hx hb dX3_leadGuest_37 (lv_at hl 0 rfl) ?_
            refine zw_Vi ⟨hx, hb, hml, hown, hts⟩ hK hN hA hW 2 rfl (T := TX2) (N := 8) rfl [.int x2, .int x4_3] [] [2, 3, 4, 5, 6] [0, 1] [0, 1, 2, 3, 4, 5, 6] (fun _ => (wX3_leadGuest cyI cyJ cyZ h h_gate ho ho_courtA ho_courtB ho_kind ho_gone ho_court i_many a_gate io_gates io_persons io_fines ao_courtA ao_courtB ao_kind ao_gone)) (mX2_isOpenFrom l dC dI cyI cyJ cyZ ho ho_courtA ho_courtB ho_kind ho_gone ho_court _ io_gates io_persons io_fines ao_courtA ao_courtB ao_kind ao_gone x2 x4_3 _ hw) (cwV 2 hts gX3_leadGuest_X2_isOpenFrom rfl rfl rfl (by decide +kernel) ⟨Nat.le_of_ble_eq_true rfl, Nat.le_of_ble_eq_true rfl⟩) rfl rfl rfl rfl (by decide) rfl (fun _ => rfl) rfl hl.1 rfl (Nat.le_of_ble_eq_true rfl) (Nat.le_of_ble_eq_true rfl) (Nat.le_of_ble_eq_true rfl) dX3_leadGuest_39 (fun r_6 u H locs hw hW => ?_)
            obtain ⟨br_6, hw⟩ := hw
            refine lv_if_ne (tgt := 46) hx hb dX3_leadGuest_42 (by decide) (fun c_7 => ?_) (fun c_7 => ?_)
            · replace hw := hw.2 c_7
              refine lv_aload_n hx hb dX3_leadGuest_46 rfl (lv_at hl 2 rfl) ?_
              refine zw_get (ci := 2) (C := RX2) (T := TX2) (N := 8) (v := .ref ho_gone) hx hb hts hiX2 hown hK hW 2 rfl rfl 3 (by decide) rfl k_2 dX3_leadGuest_47 ?_
              refine lv_iload hx hb dX3_leadGuest_50 (lv_at hl 0 rfl) ?_
              refine lv_dup2_11 hx hb dX3_leadGuest_52 rfl rfl ?_
              refine zw_iald hx hb hK hW 6 rfl rfl hw.1 dX3_leadGuest_53 ?_
              replace hw := hw.2
              refine lv_iconst (v := 1) hx hb dX3_leadGuest_54 (by decide) ?_
              refine lv_iadd hx hb dX3_leadGuest_55 ?_
              refine lv_topi (fun t_8 et_8 => ?_)
              replace hw := hw t_8 et_8
              refine zw_iast hx hb hK hW 6 rfl rfl hw.1 (w2 := fun ao_gone_9 => (wX3_leadGuest cyI cyJ cyZ h h_gate ho ho_courtA ho_courtB ho_kind ho_gone ho_court i_many a_gate io_gates io_persons io_fines ao_courtA ao_courtB ao_kind ao_gone_9)) (fun _ => rfl) dX3_leadGuest_56 (fun ao_gone_9 H locs eao_gone_9 hW => ?_)
              replace hw := hw.2 ao_gone_9 eao_gone_9
              refine lv_aload_n hx hb dX3_leadGuest_57 rfl (lv_at hl 2 rfl) ?_
              refine lv_iload_n hx hb dX3_leadGuest_58 rfl (lv_at hl 3 rfl) ?_
              refine lv_iload hx hb dX3_leadGuest_59 (lv_at hl 0 rfl) ?_
              refine zw_Vi ⟨hx, hb, hml, hown, hts⟩ hK hN hA hW 2 rfl (T := TX2) (N := 8) rfl [.int x2, .int x4_3] [] [2, 3, 4] [0, 1, 5, 6] [0, 1, 4, 5, 6, 2, 3] (fun _ => (wX3_leadGuest cyI cyJ cyZ h h_gate ho ho_courtA ho_courtB ho_kind ho_gone ho_court i_many a_gate io_gates io_persons io_fines ao_courtA ao_courtB ao_kind ao_gone_9)) (mX2_beyond l dC dI cyI cyJ cyZ ho ho_courtA ho_courtB ho_kind ho_gone ho_court _ io_gates io_persons io_fines ao_courtA ao_courtB x2 x4_3 _ hw) (cwV 2 hts gX3_leadGuest_X2_beyond rfl rfl rfl (by decide +kernel) ⟨Nat.le_of_ble_eq_true rfl, Nat.le_of_ble_eq_true rfl⟩) rfl rfl rfl rfl (by decide) rfl (fun _ => rfl) rfl hl.1 rfl (Nat.le_of_ble_eq_true rfl) (Nat.le_of_ble_eq_true rfl) (Nat.le_of_ble_eq_true rfl) dX3_leadGuest_61 (fun r_10 u H locs hw hW => ?_)
              refine lv_istore_n (lv' := [(2, .int r_10), (4, .int x4_3), (0, .ref h), (1, .ref ho), (3, .int x3)]) hx hb dX3_leadGuest_64 rfl hl (by decide) rfl (fun ls hl => ?_)
              obtain ⟨x3_11, ex3_11⟩ : ∃ y : Int32, y = x3 + 1 := ⟨_, rfl⟩
              replace hw := hw x3_11 ex3_11
              refine lv_iinc (v := x3_11) (lv' := [(3, .int x3_11), (2, .int r_10), (4, .int x4_3), (0, .ref h), (1, .ref ho)]) hx hb dX3_leadGuest_65 hl (k := 4) rfl (by rw [ex3_11]; rfl) (by decide) rfl (fun ls hl => ?_)
              refine lv_goto (tgt := 4) hx hb dX3_leadGuest_68 (by decide) ?_
              exact ih_4 r_10 x3_11 ao_gone_9 _ _ _ hW (lv_sub hl [3, 4, 1, 0] rfl) hw
            · replace hw := hw.1 c_7
              refine zw_vret (S := (Nat → Int32)) (post := fun u => post u) ao_gone hx hb hr hlocks hK hW hw ?_ dX3_leadGuest_45
              rfl
  have hl := lv_entry ([.ref h, .ref ho]) (n := 5) (Nat.le_of_ble_eq_true rfl)
  rw [lg_entry_eq]
  generalize (lg_sl ([.ref h, .ref ho]) ++ List.replicate (5 - (lg_sl ([.ref h, .ref ho])).length) Slot.unset).toArray = ls at hl ⊢
  have hl : lv_has ls 5 [(0, .ref h), (1, .ref ho)] := hl
  refine lv_iconst (v := 0) hx hb dX3_leadGuest_0 (by decide) ?_
  refine lv_istore_n (lv' := [(2, .int 0), (0, .ref h), (1, .ref ho)]) hx hb dX3_leadGuest_1 rfl hl (by decide) rfl (fun ls hl => ?_)
  refine lv_iconst (v := 0) hx hb dX3_leadGuest_2 (by decide) ?_
  refine lv_istore_n (lv' := [(3, .int 0), (2, .int 0), (0, .ref h), (1, .ref ho)]) hx hb dX3_leadGuest_3 rfl hl (by decide) rfl (fun ls hl => ?_)
  obtain ⟨n_4, hw⟩ := hw
  exact W_4  n_4 0 0 ao_gone _ _ _ hW (lv_sub hl [2, 3, 1, 0] rfl) hw
set_option maxHeartbeats 4000000 in
set_option maxRecDepth 100000 in
theorem mX4_init (l : Launch) (dC : Nat → ClassId) (dI : Nat → Nat → Nat) (cyI cyJ cyZ : ClassId) (h sz : Nat) : Met l yX4_init wsX4_init ({ frames := 1, cells := 2, slots := 20, locals := 20 } : Room) (va_Pc [.ref h] (pcW (dC, dI) sz [(h, .inr (4, [.null, .null, .int 0]))] (tyG cyI cyJ cyZ))) (va_Qv (fun _ : Nat × Nat => True) (bW (dC, dI) (tyG cyI cyJ cyZ) (va_A [(h, .inr (4, [.null, .null, .int 0]))] sz) (fun u : Nat × Nat => ([(h, .inr (4, [.ref (u.1), .ref (u.2), .int 0])), ((u.1), .inl (cyI, 10, .inl (fun _ => 0))), ((u.2), .inl (cyZ, 10, .inl (fun _ => 0)))] : va_W))) (va_A [(h, .inr (4, [.null, .null, .int 0]))] sz)) 2 20 (va_A [(h, .inr (4, [.null, .null, .int 0]))] sz) := by
  refine Met.ofW (cc := cX4_init) (maxL := 1) (ret := none) (by decide) rfl ?_
  intro p e s m args below meth c s₁ B hml hv
  obtain ⟨rfl, hsz, hP, hK, hD0, hN⟩ := hv
  have hx := B.exec
  have hb := B.bytes
  have hr := B.returns
  have hts := atoms_spec (ws := wsX4_init) B.pre
  have hown : s.vm.findClass RX4 = some m.cls := findClass_of_methodNamed B.named
  have hlocks := B.notSynchronized
  have hin : meth.name = "<init>" := (name_of_methodNamed B.named B.method).1
  subst hsz
  have hD := hD0.self (sz := s.heap.size)
  generalize hAe : va_A [(h, .inr (4, [.null, .null, .int 0]))] s.heap.size = A at hD ⊢
  have hA : ∀ q : Nat, s.heap.size ≤ q → A q := fun q h => by rw [← hAe]; exact Or.inr h
  have hW : Wd (dC, dI) A s.heap ([(h, .inr (4, [.null, .null, .int 0]))] : va_W) s.heap [] := ⟨hP, hD, va_S.rf⟩
  have hw := trivial
  have hiX4 : ∀ w ∈ u_ws RX4 TX4 3, w ∈ wsX4_init := fun _ h => List.mem_cons_of_mem _ (List.mem_append_right _ h)
  have k_0 := hts (.methodLink RX4 1 objectInit) (List.mem_of_getElem? (i := 1) rfl)
  have k_1 := hts (.instanceMethod objectInit) (List.mem_of_getElem? (i := 2) rfl)
  have k_2 := hts (.code objectInit ⟨#[0xb1]⟩ 1 none) (List.mem_of_getElem? (i := 3) rfl)
  have k_3 := hts (.arrayClass .int) (List.mem_of_getElem? (i := 4) rfl)
  have k_4 := hts (.fieldLink RX4 9 "OddLetsIn$Sights" "gate" "[I") (List.mem_of_getElem? (i := 5) rfl)
  have k_5 := hts (.arrayClass .boolean) (List.mem_of_getElem? (i := 6) rfl)
  have k_6 := hts (.fieldLink RX4 13 "OddLetsIn$Sights" "open" "[Z") (List.mem_of_getElem? (i := 7) rfl)
  have k_7 := hts (.fieldLink RX4 17 "OddLetsIn$Sights" "many" "I") (List.mem_of_getElem? (i := 8) rfl)
  have hl := lv_entry ([.ref h]) (n := 1) (Nat.le_of_ble_eq_true rfl)
  rw [lg_entry_eq]
  generalize (lg_sl ([.ref h]) ++ List.replicate (1 - (lg_sl ([.ref h])).length) Slot.unset).toArray = ls at hl ⊢
  have hl : lv_has ls 1 [(0, .ref h)] := hl
  refine lv_aload_n hx hb dX4_init_0 rfl (lv_at hl 0 rfl) ?_
  refine W.objInit hx hb hown k_0 k_1 k_2 rfl (by rw [hml]; exact hl.1) rfl dX4_init_1 (Nat.le_of_ble_eq_true rfl) (Nat.le_of_ble_eq_true rfl) ?_
  refine W.eq (g2 := F0 m 4 ls []) rfl ?_
  refine lv_aload_n hx hb dX4_init_4 rfl (lv_at hl 0 rfl) ?_
  refine lv_bipush (v := 10) hx hb dX4_init_5 (by decide) ?_
  refine zw_newi hx hb k_3 hK hA hW 10 (by decide) (by decide) (Nat.le_of_ble_eq_true rfl) (Nat.le_of_ble_eq_true rfl) (Nat.le_of_ble_eq_true rfl) dX4_init_7 (fun h_gate H hW => ?_)
  replace hW : Wd (dC, dI) A s.heap ([(h, .inr (4, [.null, .null, .int 0])), (h_gate, .inl (cyI, 10, .inl (fun _ => 0)))] : va_W) H _ := hW
  refine zw_putF (ci := 4) (C := RX4) (T := TX4) (N := 3) (ty := .array .int) (w2 := [(h, .inr (4, [.ref h_gate, .null, .int 0])), (h_gate, .inl (cyI, 10, .inl (fun _ => 0)))]) hx hb hts hiX4 tyX4 tyX4_ok nmX4 hown hK hW 0 rfl rfl 0 (by decide) (by decide +kernel) rfl rfl rfl hin rfl (Nat.le_of_ble_eq_true rfl) rfl k_4 dX4_init_9 (fun H locs hW => ?_)
  refine lv_aload_n hx hb dX4_init_12 rfl (lv_at hl 0 rfl) ?_
  refine lv_bipush (v := 10) hx hb dX4_init_13 (by decide) ?_
  refine zw_newz hx hb k_5 hK hA hW 10 (by decide) (by decide) (Nat.le_of_ble_eq_true rfl) (Nat.le_of_ble_eq_true rfl) (Nat.le_of_ble_eq_true rfl) dX4_init_15 (fun h_open H hW => ?_)
  replace hW : Wd (dC, dI) A s.heap ([(h, .inr (4, [.ref h_gate, .null, .int 0])), (h_gate, .inl (cyI, 10, .inl (fun _ => 0))), (h_open, .inl (cyZ, 10, .inl (fun _ => 0)))] : va_W) H _ := hW
  refine zw_putF (ci := 4) (C := RX4) (T := TX4) (N := 3) (ty := .array .boolean) (w2 := [(h, .inr (4, [.ref h_gate, .ref h_open, .int 0])), (h_gate, .inl (cyI, 10, .inl (fun _ => 0))), (h_open, .inl (cyZ, 10, .inl (fun _ => 0)))]) hx hb hts hiX4 tyX4 tyX4_ok nmX4 hown hK hW 0 rfl rfl 1 (by decide) (by decide +kernel) rfl rfl rfl hin rfl (Nat.le_of_ble_eq_true rfl) rfl k_6 dX4_init_17 (fun H locs hW => ?_)
  refine lv_aload_n hx hb dX4_init_20 rfl (lv_at hl 0 rfl) ?_
  refine lv_iconst (v := 0) hx hb dX4_init_21 (by decide) ?_
  refine zw_put (ci := 4) (C := RX4) (T := TX4) (N := 3) (w2 := [(h, .inr (4, [.ref h_gate, .ref h_open, .int 0])), (h_gate, .inl (cyI, 10, .inl (fun _ => 0))), (h_open, .inl (cyZ, 10, .inl (fun _ => 0)))]) hx hb hts hiX4 tyX4 tyX4_ok nmX4 hown hK hW 0 rfl rfl 2 (by decide) (by decide +kernel) rfl (Nat.le_of_ble_eq_true rfl) rfl k_7 dX4_init_22 (fun H locs hW => ?_)
  replace hW : Wd (dC, dI) A s.heap ([(h, .inr (4, [.ref h_gate, .ref h_open, .int 0])), (h_gate, .inl (cyI, 10, .inl (fun _ => 0))), (h_open, .inl (cyZ, 10, .inl (fun _ => 0)))] : va_W) H _ := zw_perm hW [0, 1, 2] rfl rfl
  refine zw_vret (S := Nat × Nat) (post := fun _ => True) (h_gate, h_open) hx hb hr hlocks hK hW hw ?_ dX4_init_25
  rfl
abbrev wX4_hasRoom (cyI cyJ cyZ : ClassId) (h h_gate h_open : Nat) (i_many : Int32) : va_W := [(h, .inr (4, [.ref h_gate, .ref h_open, .int i_many]))]
abbrev qX4_hasRoom (dC : Nat → ClassId) (dI : Nat → Nat → Nat) (cyI cyJ cyZ : ClassId) (h h_gate h_open : Nat) (i_many : Int32) (post : Int32 → Prop) (A : Nat → Prop) : Array Value → State → Outcome → State → Prop := (va_Qi (fun (r : Int32) (u : Unit) => (r = 0 ∨ r = 1) ∧ post r) (bW (dC, dI) (tyG cyI cyJ cyZ) A (fun _ : Unit => (wX4_hasRoom cyI cyJ cyZ h h_gate h_open i_many))) A)
set_option maxHeartbeats 4000000 in
set_option maxRecDepth 100000 in
theorem mX4_hasRoom (l : Launch) (dC : Nat → ClassId) (dI : Nat → Nat → Nat) (cyI cyJ cyZ : ClassId) (h h_gate h_open : Nat) (sz : Nat) (i_many : Int32) (post : Int32 → Prop) (hwp : PX4_hasRoom i_many post) : Met l yX4_hasRoom wsX4_hasRoom ({ frames := 0, cells := 0, slots := 0, locals := 0 } : Room) (va_Pc [.ref h] (pcW (dC, dI) sz (wX4_hasRoom cyI cyJ cyZ h h_gate h_open i_many) (tyG cyI cyJ cyZ))) (qX4_hasRoom dC dI cyI cyJ cyZ h h_gate h_open i_many post (va_A (wX4_hasRoom cyI cyJ cyZ h h_gate h_open i_many) sz)) 0 0 (va_A (wX4_hasRoom cyI cyJ cyZ h h_gate h_open i_many) sz) := by
  refine Met.ofW (cc := cX4_hasRoom) (maxL := 1) (ret := some .boolean) (by decide) rfl ?_
  intro p e s m args below meth c s₁ B hml hv
  obtain ⟨rfl, hsz, hP, hK, hD0, hN⟩ := hv
  have hx := B.exec
  have hb := B.bytes
  have hr := B.returns
  have hts := atoms_spec (ws := wsX4_hasRoom) B.pre
  have hown : s.vm.findClass RX4 = some m.cls := findClass_of_methodNamed B.named
  have hlocks := B.notSynchronized
  subst hsz
  have hD := hD0.self (sz := s.heap.size)
  generalize hAe : va_A (wX4_hasRoom cyI cyJ cyZ h h_gate h_open i_many) s.heap.size = A at hD ⊢
  have hA : ∀ q : Nat, s.heap.size ≤ q → A q := fun q h => by rw [← hAe]; exact Or.inr h
  have hW : Wd (dC, dI) A s.heap (wX4_hasRoom cyI cyJ cyZ h h_gate h_open i_many) s.heap [] := ⟨hP, hD, va_S.rf⟩
  have hw := hwp
  have hiX4 : ∀ w ∈ u_ws RX4 TX4 3, w ∈ wsX4_hasRoom := fun _ h => List.mem_cons_of_mem _ (List.mem_append_right _ h)
  have k_0 := hts (.fieldLink RX4 17 "OddLetsIn$Sights" "many" "I") (List.mem_of_getElem? (i := 1) rfl)
  have hl := lv_entry ([.ref h]) (n := 1) (Nat.le_of_ble_eq_true rfl)
  rw [lg_entry_eq]
  generalize (lg_sl ([.ref h]) ++ List.replicate (1 - (lg_sl ([.ref h])).length) Slot.unset).toArray = ls at hl ⊢
  have hl : lv_has ls 1 [(0, .ref h)] := hl
  refine lv_aload_n hx hb dX4_hasRoom_0 rfl (lv_at hl 0 rfl) ?_
  refine zw_get (ci := 4) (C := RX4) (T := TX4) (N := 3) (v := .int i_many) hx hb hts hiX4 hown hK hW 0 rfl rfl 2 (by decide) rfl k_0 dX4_hasRoom_1 ?_
  refine lv_bipush (v := 10) hx hb dX4_hasRoom_4 (by decide) ?_
  refine lv_icmp_ge (tgt := 13) hx hb dX4_hasRoom_6 (by decide) (fun c_1 => ?_) (fun c_1 => ?_)
  · replace hw := hw.1 c_1
    refine lv_iconst (v := 0) hx hb dX4_hasRoom_13 (by decide) ?_
    refine zw_zret (S := Unit) (post := fun r u => post r) () hx hb hr hlocks hK hW (Or.inl rfl) hw ?_ dX4_hasRoom_14
    rfl
  · replace hw := hw.2 c_1
    refine lv_iconst (v := 1) hx hb dX4_hasRoom_9 (by decide) ?_
    refine lv_goto (tgt := 14) hx hb dX4_hasRoom_10 (by decide) ?_
    refine zw_zret (S := Unit) (post := fun r u => post r) () hx hb hr hlocks hK hW (Or.inr rfl) hw ?_ dX4_hasRoom_14
    rfl
abbrev wX4_add (cyI cyJ cyZ : ClassId) (h h_gate h_open : Nat) (i_many : Int32) (a_gate : Nat → Int32) (a_open : Nat → Int32) : va_W := [(h, .inr (4, [.ref h_gate, .ref h_open, .int i_many])), (h_gate, .inl (cyI, 10, .inl a_gate)), (h_open, .inl (cyZ, 10, .inl a_open))]
abbrev qX4_add (dC : Nat → ClassId) (dI : Nat → Nat → Nat) (cyI cyJ cyZ : ClassId) (h h_gate h_open : Nat) (i_many : Int32) (a_gate : Nat → Int32) (a_open : Nat → Int32) (post : Int32 → (Nat → Int32) → (Nat → Int32) → Prop) (A : Nat → Prop) : Array Value → State → Outcome → State → Prop := (va_Qv (fun (u : Int32 × (Nat → Int32) × (Nat → Int32)) => post u.1 u.2.1 u.2.2) (bW (dC, dI) (tyG cyI cyJ cyZ) A (fun u : Int32 × (Nat → Int32) × (Nat → Int32) => (wX4_add cyI cyJ cyZ h h_gate h_open (u.1) (u.2.1) (u.2.2)))) A)
set_option maxHeartbeats 4000000 in
set_option maxRecDepth 100000 in
theorem mX4_add (l : Launch) (dC : Nat → ClassId) (dI : Nat → Nat → Nat) (cyI cyJ cyZ : ClassId) (h h_gate h_open : Nat) (sz : Nat) (i_many : Int32) (a_gate : Nat → Int32) (a_open : Nat → Int32) (x1 : Int32) (x2 : Int32) (post : Int32 → (Nat → Int32) → (Nat → Int32) → Prop) (hwp : PX4_add x1 x2 i_many a_gate a_open post) : Met l yX4_add wsX4_add ({ frames := 0, cells := 0, slots := 0, locals := 0 } : Room) (va_Pc [.ref h, .int x1, .int x2] (pcW (dC, dI) sz (wX4_add cyI cyJ cyZ h h_gate h_open i_many a_gate a_open) (tyG cyI cyJ cyZ))) (qX4_add dC dI cyI cyJ cyZ h h_gate h_open i_many a_gate a_open post (va_A (wX4_add cyI cyJ cyZ h h_gate h_open i_many a_gate a_open) sz)) 0 0 (va_A (wX4_add cyI cyJ cyZ h h_gate h_open i_many a_gate a_open) sz) := by
  refine Met.ofW (cc := cX4_add) (maxL := 3) (ret := none) (by decide) rfl ?_
  intro p e s m args below meth c s₁ B hml hv
  obtain ⟨rfl, hsz, hP, hK, hD0, hN⟩ := hv
  have hx := B.exec
  have hb := B.bytes
  have hr := B.returns
  have hts := atoms_spec (ws := wsX4_add) B.pre
  have hown : s.vm.findClass RX4 = some m.cls := findClass_of_methodNamed B.named
  have hlocks := B.notSynchronized
  subst hsz
  have hD := hD0.self (sz := s.heap.size)
  generalize hAe : va_A (wX4_add cyI cyJ cyZ h h_gate h_open i_many a_gate a_open) s.heap.size = A at hD ⊢
  have hA : ∀ q : Nat, s.heap.size ≤ q → A q := fun q h => by rw [← hAe]; exact Or.inr h
  have hW : Wd (dC, dI) A s.heap (wX4_add cyI cyJ cyZ h h_gate h_open i_many a_gate a_open) s.heap [] := ⟨hP, hD, va_S.rf⟩
  have hw := hwp
  have hiX4 : ∀ w ∈ u_ws RX4 TX4 3, w ∈ wsX4_add := fun _ h => List.mem_cons_of_mem _ (List.mem_append_right _ h)
  have k_0 := hts (.fieldLink RX4 17 "OddLetsIn$Sights" "many" "I") (List.mem_of_getElem? (i := 1) rfl)
  have k_1 := hts (.fieldLink RX4 9 "OddLetsIn$Sights" "gate" "[I") (List.mem_of_getElem? (i := 2) rfl)
  have k_2 := hts (.fieldLink RX4 13 "OddLetsIn$Sights" "open" "[Z") (List.mem_of_getElem? (i := 3) rfl)
  have hl := lv_entry ([.ref h, .int x1, .int x2]) (n := 3) (Nat.le_of_ble_eq_true rfl)
  rw [lg_entry_eq]
  generalize (lg_sl ([.ref h, .int x1, .int x2]) ++ List.replicate (3 - (lg_sl ([.ref h, .int x1, .int x2])).length) Slot.unset).toArray = ls at hl ⊢
  have hl : lv_has ls 3 [(0, .ref h), (1, .int x1), (2, .int x2)] := hl
  refine lv_aload_n hx hb dX4_add_0 rfl (lv_at hl 0 rfl) ?_
  refine zw_get (ci := 4) (C := RX4) (T := TX4) (N := 3) (v := .int i_many) hx hb hts hiX4 hown hK hW 0 rfl rfl 2 (by decide) rfl k_0 dX4_add_1 ?_
  refine lv_if_lt (tgt := 46) hx hb dX4_add_4 (by decide) (fun c_1 => ?_) (fun c_1 => ?_)
  · replace hw := hw.1 c_1
    refine zw_vret (S := Int32 × (Nat → Int32) × (Nat → Int32)) (post := fun u => post u.1 u.2.1 u.2.2) (i_many, a_gate, a_open) hx hb hr hlocks hK hW hw ?_ dX4_add_46
    rfl
  · replace hw := hw.2 c_1
    refine lv_aload_n hx hb dX4_add_7 rfl (lv_at hl 0 rfl) ?_
    refine zw_get (ci := 4) (C := RX4) (T := TX4) (N := 3) (v := .int i_many) hx hb hts hiX4 hown hK hW 0 rfl rfl 2 (by decide) rfl k_0 dX4_add_8 ?_
    refine lv_bipush (v := 10) hx hb dX4_add_11 (by decide) ?_
    refine lv_icmp_ge (tgt := 46) hx hb dX4_add_13 (by decide) (fun c_2 => ?_) (fun c_2 => ?_)
    · replace hw := hw.1 c_2
      refine zw_vret (S := Int32 × (Nat → Int32) × (Nat → Int32)) (post := fun u => post u.1 u.2.1 u.2.2) (i_many, a_gate, a_open) hx hb hr hlocks hK hW hw ?_ dX4_add_46
      rfl
    · replace hw := hw.2 c_2
      refine lv_aload_n hx hb dX4_add_16 rfl (lv_at hl 0 rfl) ?_
      refine zw_get (ci := 4) (C := RX4) (T := TX4) (N := 3) (v := .ref h_gate) hx hb hts hiX4 hown hK hW 0 rfl rfl 0 (by decide) rfl k_1 dX4_add_17 ?_
      refine lv_aload_n hx hb dX4_add_20 rfl (lv_at hl 0 rfl) ?_
      refine zw_get (ci := 4) (C := RX4) (T := TX4) (N := 3) (v := .int i_many) hx hb hts hiX4 hown hK hW 0 rfl rfl 2 (by decide) rfl k_0 dX4_add_21 ?_
      refine lv_iload_n hx hb dX4_add_24 rfl (lv_at hl 1 rfl) ?_
      refine zw_iast hx hb hK hW 1 rfl rfl hw.1 (w2 := fun a_gate_3 => (wX4_add cyI cyJ cyZ h h_gate h_open i_many a_gate_3 a_open)) (fun _ => rfl) dX4_add_25 (fun a_gate_3 H locs ea_gate_3 hW => ?_)
      replace hw := hw.2 a_gate_3 ea_gate_3
      refine lv_aload_n hx hb dX4_add_26 rfl (lv_at hl 0 rfl) ?_
      refine zw_get (ci := 4) (C := RX4) (T := TX4) (N := 3) (v := .ref h_open) hx hb hts hiX4 hown hK hW 0 rfl rfl 1 (by decide) rfl k_2 dX4_add_27 ?_
      refine lv_aload_n hx hb dX4_add_30 rfl (lv_at hl 0 rfl) ?_
      refine zw_get (ci := 4) (C := RX4) (T := TX4) (N := 3) (v := .int i_many) hx hb hts hiX4 hown hK hW 0 rfl rfl 2 (by decide) rfl k_0 dX4_add_31 ?_
      refine lv_iload_n hx hb dX4_add_34 rfl (lv_at hl 2 rfl) ?_
      refine zw_zast hx hb hK hW 2 rfl rfl hw.1 (w2 := fun a_open_4 => (wX4_add cyI cyJ cyZ h h_gate h_open i_many a_gate_3 a_open_4)) (fun _ => rfl) dX4_add_35 (fun a_open_4 H locs ea_open_4 hW => ?_)
      replace hw := hw.2 a_open_4 ea_open_4
      refine lv_aload_n hx hb dX4_add_36 rfl (lv_at hl 0 rfl) ?_
      refine lv_dup hx hb dX4_add_37 rfl ?_
      refine zw_get (ci := 4) (C := RX4) (T := TX4) (N := 3) (v := .int i_many) hx hb hts hiX4 hown hK hW 0 rfl rfl 2 (by decide) rfl k_0 dX4_add_38 ?_
      refine lv_iconst (v := 1) hx hb dX4_add_41 (by decide) ?_
      refine lv_iadd hx hb dX4_add_42 ?_
      refine lv_topi (fun i_5 ei_5 => ?_)
      replace hw := hw i_5 ei_5
      refine zw_put (ci := 4) (C := RX4) (T := TX4) (N := 3) (w2 := (wX4_add cyI cyJ cyZ h h_gate h_open i_5 a_gate_3 a_open_4)) hx hb hts hiX4 tyX4 tyX4_ok nmX4 hown hK hW 0 rfl rfl 2 (by decide) (by decide +kernel) rfl (Nat.le_of_ble_eq_true rfl) rfl k_0 dX4_add_43 (fun H locs hW => ?_)
      refine zw_vret (S := Int32 × (Nat → Int32) × (Nat → Int32)) (post := fun u => post u.1 u.2.1 u.2.2) (i_5, a_gate_3, a_open_4) hx hb hr hlocks hK hW hw ?_ dX4_add_46
      rfl
abbrev wX4_fit (cyI cyJ cyZ : ClassId) (h h_gate h_open : Nat) (i_many : Int32) (a_gate : Nat → Int32) (a_open : Nat → Int32) : va_W := [(h, .inr (4, [.ref h_gate, .ref h_open, .int i_many])), (h_gate, .inl (cyI, 10, .inl a_gate)), (h_open, .inl (cyZ, 10, .inl a_open))]
abbrev qX4_fit (dC : Nat → ClassId) (dI : Nat → Nat → Nat) (cyI cyJ cyZ : ClassId) (h h_gate h_open : Nat) (i_many : Int32) (a_gate : Nat → Int32) (a_open : Nat → Int32) (post : Int32 → Prop) (A : Nat → Prop) : Array Value → State → Outcome → State → Prop := (va_Qi (fun (r : Int32) (u : Unit) => (r = 0 ∨ r = 1) ∧ post r) (bW (dC, dI) (tyG cyI cyJ cyZ) A (fun _ : Unit => (wX4_fit cyI cyJ cyZ h h_gate h_open i_many a_gate a_open))) A)
set_option maxHeartbeats 4000000 in
set_option maxRecDepth 100000 in
theorem mX4_fit (l : Launch) (dC : Nat → ClassId) (dI : Nat → Nat → Nat) (cyI cyJ cyZ : ClassId) (h h_gate h_open : Nat) (sz : Nat) (i_many : Int32) (a_gate : Nat → Int32) (a_open : Nat → Int32) (x1 : Int32) (post : Int32 → Prop) (hwp : PX4_fit x1 i_many a_gate a_open post) : Met l yX4_fit wsX4_fit ({ frames := 0, cells := 0, slots := 0, locals := 0 } : Room) (va_Pc [.ref h, .int x1] (pcW (dC, dI) sz (wX4_fit cyI cyJ cyZ h h_gate h_open i_many a_gate a_open) (tyG cyI cyJ cyZ))) (qX4_fit dC dI cyI cyJ cyZ h h_gate h_open i_many a_gate a_open post (va_A (wX4_fit cyI cyJ cyZ h h_gate h_open i_many a_gate a_open) sz)) 0 0 (va_A (wX4_fit cyI cyJ cyZ h h_gate h_open i_many a_gate a_open) sz) := by
  refine Met.ofW (cc := cX4_fit) (maxL := 4) (ret := some .boolean) (by decide) rfl ?_
  intro p e s m args below meth c s₁ B hml hv
  obtain ⟨rfl, hsz, hP, hK, hD0, hN⟩ := hv
  have hx := B.exec
  have hb := B.bytes
  have hr := B.returns
  have hts := atoms_spec (ws := wsX4_fit) B.pre
  have hown : s.vm.findClass RX4 = some m.cls := findClass_of_methodNamed B.named
  have hlocks := B.notSynchronized
  subst hsz
  have hD := hD0.self (sz := s.heap.size)
  generalize hAe : va_A (wX4_fit cyI cyJ cyZ h h_gate h_open i_many a_gate a_open) s.heap.size = A at hD ⊢
  have hA : ∀ q : Nat, s.heap.size ≤ q → A q := fun q h => by rw [← hAe]; exact Or.inr h
  have hW : Wd (dC, dI) A s.heap (wX4_fit cyI cyJ cyZ h h_gate h_open i_many a_gate a_open) s.heap [] := ⟨hP, hD, va_S.rf⟩
  have hw := hwp
  have hiX4 : ∀ w ∈ u_ws RX4 TX4 3, w ∈ wsX4_fit := fun _ h => List.mem_cons_of_mem _ (List.mem_append_right _ h)
  have k_0 := hts (.fieldLink RX4 17 "OddLetsIn$Sights" "many" "I") (List.mem_of_getElem? (i := 1) rfl)
  have k_1 := hts (.fieldLink RX4 9 "OddLetsIn$Sights" "gate" "[I") (List.mem_of_getElem? (i := 2) rfl)
  have k_2 := hts (.fieldLink RX4 13 "OddLetsIn$Sights" "open" "[Z") (List.mem_of_getElem? (i := 3) rfl)
  have W_2 : ∀ (n_2 : Nat) (x2 : Int32) (H : Heap) (locs : List Loc) (ls : Array Slot), Wd (dC, dI) A s.heap (wX4_fit cyI cyJ cyZ h h_gate h_open i_many a_gate a_open) H locs → lv_has ls 4 [(0, .ref h), (1, .int x1), (2, .int x2)] → PX4_fit_2 post x1 i_many a_gate a_open n_2 x2 → W p l e (({ frames := 0, cells := 0, slots := 0, locals := 0 } : Room)) s m (([.ref h, .int x1] : List Value).toArray) below meth c H locs 0 0 (MQ below (qX4_fit dC dI cyI cyJ cyZ h h_gate h_open i_many a_gate a_open post A) (([.ref h, .int x1] : List Value).toArray) s 0 0 A) (F0 m 2 ls []) := by
    intro n_2
    induction n_2 with
    | zero =>
      intro x2 H locs ls hW hl hw
      exact False.elim hw
    | succ n_2 ih_2 =>
      intro x2 H locs ls hW hl hw
      refine lv_iload_n hx hb dX4_fit_2 rfl (lv_at hl 2 rfl) ?_
      refine lv_aload_n hx hb dX4_fit_3 rfl (lv_at hl 0 rfl) ?_
      refine zw_get (ci := 4) (C := RX4) (T := TX4) (N := 3) (v := .int i_many) hx hb hts hiX4 hown hK hW 0 rfl rfl 2 (by decide) rfl k_0 dX4_fit_4 ?_
      refine lv_icmp_ge (tgt := 53) hx hb dX4_fit_7 (by decide) (fun c_1 => ?_) (fun c_1 => ?_)
      · replace hw := hw.1 c_1
        refine lv_iconst (v := 1) hx hb dX4_fit_53 (by decide) ?_
        refine zw_zret (S := Unit) (post := fun r u => post r) () hx hb hr hlocks hK hW (Or.inr rfl) hw ?_ dX4_fit_54
        rfl
      · replace hw := hw.2 c_1
        refine lv_iload_n hx hb dX4_fit_10 rfl (lv_at hl 2 rfl) ?_
        refine lv_bipush (v := 10) hx hb dX4_fit_11 (by decide) ?_
        refine lv_icmp_ge (tgt := 53) hx hb dX4_fit_13 (by decide) (fun c_2 => ?_) (fun c_2 => ?_)
        · replace hw := hw.1 c_2
          refine lv_iconst (v := 1) hx hb dX4_fit_53 (by decide) ?_
          refine zw_zret (S := Unit) (post := fun r u => post r) () hx hb hr hlocks hK hW (Or.inr rfl) hw ?_ dX4_fit_54
          rfl
        · replace hw := hw.2 c_2
          refine lv_iload_n hx hb dX4_fit_16 rfl (lv_at hl 1 rfl) ?_
          refine lv_aload_n hx hb dX4_fit_17 rfl (lv_at hl 0 rfl) ?_
          refine zw_get (ci := 4) (C := RX4) (T := TX4) (N := 3) (v := .ref h_gate) hx hb hts hiX4 hown hK hW 0 rfl rfl 0 (by decide) rfl k_1 dX4_fit_18 ?_
          refine lv_iload_n hx hb dX4_fit_21 rfl (lv_at hl 2 rfl) ?_
          refine zw_iald hx hb hK hW 1 rfl rfl hw.1 dX4_fit_22 ?_
          replace hw := hw.2
          refine lv_ishr hx hb dX4_fit_23 ?_
          refine lv_iconst (v := 1) hx hb dX4_fit_24 (by decide) ?_
          refine lv_iand hx hb dX4_fit_25 ?_
          refine lv_if_eq (tgt := 33) hx hb dX4_fit_26 (by decide) (fun c_3 => ?_) (fun c_3 => ?_)
          · replace hw := hw.1 c_3
            refine lv_iconst (v := 0) hx hb dX4_fit_33 (by decide) ?_
            refine lv_istore_n (lv' := [(3, .int 0), (0, .ref h), (1, .int x1), (2, .int x2)]) hx hb dX4_fit_34 rfl hl (by decide) rfl (fun ls hl => ?_)
            refine lv_iload_n hx hb dX4_fit_35 rfl (lv_at hl 0 rfl) ?_
            refine lv_aload_n hx hb dX4_fit_36 rfl (lv_at hl 1 rfl) ?_
            refine zw_get (ci := 4) (C := RX4) (T := TX4) (N := 3) (v := .ref h_open) hx hb hts hiX4 hown hK hW 0 rfl rfl 1 (by decide) rfl k_2 dX4_fit_37 ?_
            refine lv_iload_n hx hb dX4_fit_40 rfl (lv_at hl 3 rfl) ?_
            refine zw_zald hx hb hK hW 2 rfl rfl hw.1 dX4_fit_41 ?_
            replace hw := hw.2
            refine lv_icmp_eq (tgt := 47) hx hb dX4_fit_42 (by decide) (fun c_4 => ?_) (fun c_4 => ?_)
            · replace hw := hw.1 c_4
              obtain ⟨x2_5, ex2_5⟩ : ∃ y : Int32, y = x2 + 1 := ⟨_, rfl⟩
              replace hw := hw x2_5 ex2_5
              refine lv_iinc (v := x2_5) (lv' := [(2, .int x2_5), (3, .int 0), (0, .ref h), (1, .int x1)]) hx hb dX4_fit_47 hl (k := 3) rfl (by rw [ex2_5]; rfl) (by decide) rfl (fun ls hl => ?_)
              refine lv_goto (tgt := 2) hx hb dX4_fit_50 (by decide) ?_
              exact ih_2 x2_5 _ _ _ hW (lv_sub hl [2, 3, 0] rfl) hw
            · replace hw := hw.2 c_4
              refine lv_iconst (v := 0) hx hb dX4_fit_45 (by decide) ?_
              refine zw_zret (S := Unit) (post := fun r u => post r) () hx hb hr hlocks hK hW (Or.inl rfl) hw ?_ dX4_fit_46
              rfl
          · replace hw := hw.2 c_3
            refine lv_iconst (v := 1) hx hb dX4_fit_29 (by decide) ?_
            refine lv_goto (tgt := 34) hx hb dX4_fit_30 (by decide) ?_
            refine lv_istore_n (lv' := [(3, .int 1), (0, .ref h), (1, .int x1), (2, .int x2)]) hx hb dX4_fit_34 rfl hl (by decide) rfl (fun ls hl => ?_)
            refine lv_iload_n hx hb dX4_fit_35 rfl (lv_at hl 0 rfl) ?_
            refine lv_aload_n hx hb dX4_fit_36 rfl (lv_at hl 1 rfl) ?_
            refine zw_get (ci := 4) (C := RX4) (T := TX4) (N := 3) (v := .ref h_open) hx hb hts hiX4 hown hK hW 0 rfl rfl 1 (by decide) rfl k_2 dX4_fit_37 ?_
            refine lv_iload_n hx hb dX4_fit_40 rfl (lv_at hl 3 rfl) ?_
            refine zw_zald hx hb hK hW 2 rfl rfl hw.1 dX4_fit_41 ?_
            replace hw := hw.2
            refine lv_icmp_eq (tgt := 47) hx hb dX4_fit_42 (by decide) (fun c_6 => ?_) (fun c_6 => ?_)
            · replace hw := hw.1 c_6
              obtain ⟨x2_7, ex2_7⟩ : ∃ y : Int32, y = x2 + 1 := ⟨_, rfl⟩
              replace hw := hw x2_7 ex2_7
              refine lv_iinc (v := x2_7) (lv' := [(2, .int x2_7), (3, .int 1), (0, .ref h), (1, .int x1)]) hx hb dX4_fit_47 hl (k := 3) rfl (by rw [ex2_7]; rfl) (by decide) rfl (fun ls hl => ?_)
              refine lv_goto (tgt := 2) hx hb dX4_fit_50 (by decide) ?_
              exact ih_2 x2_7 _ _ _ hW (lv_sub hl [2, 3, 0] rfl) hw
            · replace hw := hw.2 c_6
              refine lv_iconst (v := 0) hx hb dX4_fit_45 (by decide) ?_
              refine zw_zret (S := Unit) (post := fun r u => post r) () hx hb hr hlocks hK hW (Or.inl rfl) hw ?_ dX4_fit_46
              rfl
  have hl := lv_entry ([.ref h, .int x1]) (n := 4) (Nat.le_of_ble_eq_true rfl)
  rw [lg_entry_eq]
  generalize (lg_sl ([.ref h, .int x1]) ++ List.replicate (4 - (lg_sl ([.ref h, .int x1])).length) Slot.unset).toArray = ls at hl ⊢
  have hl : lv_has ls 4 [(0, .ref h), (1, .int x1)] := hl
  refine lv_iconst (v := 0) hx hb dX4_fit_0 (by decide) ?_
  refine lv_istore_n (lv' := [(2, .int 0), (0, .ref h), (1, .int x1)]) hx hb dX4_fit_1 rfl hl (by decide) rfl (fun ls hl => ?_)
  obtain ⟨n_2, hw⟩ := hw
  exact W_2  n_2 0 _ _ _ hW (lv_sub hl [1, 2, 0] rfl) hw
