abbrev wX2_hasGate (cyI cyJ cyZ : ClassId) (h h_courtA h_courtB h_kind h_gone h_court : Nat) (i_gates : Int32) (i_persons : Int32) (i_fines : Int32) : va_W := [(h, .inr (2, [.ref h_courtA, .ref h_courtB, .ref h_kind, .ref h_gone, .int i_gates, .ref h_court, .int i_persons, .int i_fines]))]
abbrev qX2_hasGate (dC : Nat → ClassId) (dI : Nat → Nat → Nat) (cyI cyJ cyZ : ClassId) (h h_courtA h_courtB h_kind h_gone h_court : Nat) (i_gates : Int32) (i_persons : Int32) (i_fines : Int32) (post : Int32 → Prop) (A : Nat → Prop) : Array Value → State → Outcome → State → Prop := (va_Qi (fun (r : Int32) (u : Unit) => (r = 0 ∨ r = 1) ∧ post r) (bW (dC, dI) (tyG cyI cyJ cyZ) A (fun _ : Unit => (wX2_hasGate cyI cyJ cyZ h h_courtA h_courtB h_kind h_gone h_court i_gates i_persons i_fines))) A)
set_option maxHeartbeats 4000000 in
set_option maxRecDepth 100000 in
theorem mX2_hasGate (l : Launch) (dC : Nat → ClassId) (dI : Nat → Nat → Nat) (cyI cyJ cyZ : ClassId) (h h_courtA h_courtB h_kind h_gone h_court : Nat) (sz : Nat) (i_gates : Int32) (i_persons : Int32) (i_fines : Int32) (x1 : Int32) (post : Int32 → Prop) (hwp : PX2_hasGate x1 i_gates post) : Met l yX2_hasGate wsX2_hasGate ({ frames := 0, cells := 0, slots := 0, locals := 0 } : Room) (va_Pc [.ref h, .int x1] (pcW (dC, dI) sz (wX2_hasGate cyI cyJ cyZ h h_courtA h_courtB h_kind h_gone h_court i_gates i_persons i_fines) (tyG cyI cyJ cyZ))) (qX2_hasGate dC dI cyI cyJ cyZ h h_courtA h_courtB h_kind h_gone h_court i_gates i_persons i_fines post (va_A (wX2_hasGate cyI cyJ cyZ h h_courtA h_courtB h_kind h_gone h_court i_gates i_persons i_fines) sz)) 0 0 (va_A (wX2_hasGate cyI cyJ cyZ h h_courtA h_courtB h_kind h_gone h_court i_gates i_persons i_fines) sz) := by
  refine Met.ofW (cc := cX2_hasGate) (maxL := 2) (ret := some .boolean) (by decide) rfl ?_
  intro p e s m args below meth c s₁ B hml hv
  obtain ⟨rfl, hsz, hP, hK, hD0, hN⟩ := hv
  have hx := B.exec
  have hb := B.bytes
  have hr := B.returns
  have hts := atoms_spec (ws := wsX2_hasGate) B.pre
  have hown : s.vm.findClass RX2 = some m.cls := findClass_of_methodNamed B.named
  have hlocks := B.notSynchronized
  subst hsz
  have hD := hD0.self (sz := s.heap.size)
  generalize hAe : va_A (wX2_hasGate cyI cyJ cyZ h h_courtA h_courtB h_kind h_gone h_court i_gates i_persons i_fines) s.heap.size = A at hD ⊢
  have hA : ∀ q : Nat, s.heap.size ≤ q → A q := fun q h => by rw [← hAe]; exact Or.inr h
  have hW : Wd (dC, dI) A s.heap (wX2_hasGate cyI cyJ cyZ h h_courtA h_courtB h_kind h_gone h_court i_gates i_persons i_fines) s.heap [] := ⟨hP, hD, va_S.rf⟩
  have hw := hwp
  have hiX2 : ∀ w ∈ u_ws RX2 TX2 8, w ∈ wsX2_hasGate := fun _ h => List.mem_cons_of_mem _ (List.mem_append_right _ h)
  have k_0 := hts (.fieldLink RX2 24 "OddLetsIn$Garden" "gates" "I") (List.mem_of_getElem? (i := 1) rfl)
  have hl := lv_entry ([.ref h, .int x1]) (n := 2) (Nat.le_of_ble_eq_true rfl)
  rw [lg_entry_eq]
  generalize (lg_sl ([.ref h, .int x1]) ++ List.replicate (2 - (lg_sl ([.ref h, .int x1])).length) Slot.unset).toArray = ls at hl ⊢
  have hl : lv_has ls 2 [(0, .ref h), (1, .int x1)] := hl
  refine lv_iload_n hx hb dX2_hasGate_0 rfl (lv_at hl 1 rfl) ?_
  refine lv_if_lt (tgt := 21) hx hb dX2_hasGate_1 (by decide) (fun c_1 => ?_) (fun c_1 => ?_)
  · replace hw := hw.1 c_1
    refine lv_iconst (v := 0) hx hb dX2_hasGate_21 (by decide) ?_
    refine zw_zret (S := Unit) (post := fun r u => post r) () hx hb hr hlocks hK hW (Or.inl rfl) hw ?_ dX2_hasGate_22
    rfl
  · replace hw := hw.2 c_1
    refine lv_iload_n hx hb dX2_hasGate_4 rfl (lv_at hl 1 rfl) ?_
    refine lv_aload_n hx hb dX2_hasGate_5 rfl (lv_at hl 0 rfl) ?_
    refine zw_get (ci := 2) (C := RX2) (T := TX2) (N := 8) (v := .int i_gates) hx hb hts hiX2 hown hK hW 0 rfl rfl 4 (by decide) rfl k_0 dX2_hasGate_6 ?_
    refine lv_icmp_ge (tgt := 21) hx hb dX2_hasGate_9 (by decide) (fun c_2 => ?_) (fun c_2 => ?_)
    · replace hw := hw.1 c_2
      refine lv_iconst (v := 0) hx hb dX2_hasGate_21 (by decide) ?_
      refine zw_zret (S := Unit) (post := fun r u => post r) () hx hb hr hlocks hK hW (Or.inl rfl) hw ?_ dX2_hasGate_22
      rfl
    · replace hw := hw.2 c_2
      refine lv_iload_n hx hb dX2_hasGate_12 rfl (lv_at hl 1 rfl) ?_
      refine lv_iconst (v := 5) hx hb dX2_hasGate_13 (by decide) ?_
      refine lv_icmp_ge (tgt := 21) hx hb dX2_hasGate_14 (by decide) (fun c_3 => ?_) (fun c_3 => ?_)
      · replace hw := hw.1 c_3
        refine lv_iconst (v := 0) hx hb dX2_hasGate_21 (by decide) ?_
        refine zw_zret (S := Unit) (post := fun r u => post r) () hx hb hr hlocks hK hW (Or.inl rfl) hw ?_ dX2_hasGate_22
        rfl
      · replace hw := hw.2 c_3
        refine lv_iconst (v := 1) hx hb dX2_hasGate_17 (by decide) ?_
        refine lv_goto (tgt := 22) hx hb dX2_hasGate_18 (by decide) ?_
        refine zw_zret (S := Unit) (post := fun r u => post r) () hx hb hr hlocks hK hW (Or.inr rfl) hw ?_ dX2_hasGate_22
        rfl
abbrev wX2_ruler (cyI cyJ cyZ : ClassId) (h h_courtA h_courtB h_kind h_gone h_court : Nat) (i_gates : Int32) (i_persons : Int32) (i_fines : Int32) (a_kind : Nat → Int32) : va_W := [(h, .inr (2, [.ref h_courtA, .ref h_courtB, .ref h_kind, .ref h_gone, .int i_gates, .ref h_court, .int i_persons, .int i_fines])), (h_kind, .inl (cyI, 5, .inl a_kind))]
abbrev qX2_ruler (dC : Nat → ClassId) (dI : Nat → Nat → Nat) (cyI cyJ cyZ : ClassId) (h h_courtA h_courtB h_kind h_gone h_court : Nat) (i_gates : Int32) (i_persons : Int32) (i_fines : Int32) (a_kind : Nat → Int32) (post : Int32 → Prop) (A : Nat → Prop) : Array Value → State → Outcome → State → Prop := (va_Qi (fun (r : Int32) (u : Unit) => post r) (bW (dC, dI) (tyG cyI cyJ cyZ) A (fun _ : Unit => (wX2_ruler cyI cyJ cyZ h h_courtA h_courtB h_kind h_gone h_court i_gates i_persons i_fines a_kind))) A)
set_option maxHeartbeats 4000000 in
set_option maxRecDepth 100000 in
theorem mX2_ruler (l : Launch) (dC : Nat → ClassId) (dI : Nat → Nat → Nat) (cyI cyJ cyZ : ClassId) (h h_courtA h_courtB h_kind h_gone h_court : Nat) (sz : Nat) (i_gates : Int32) (i_persons : Int32) (i_fines : Int32) (a_kind : Nat → Int32) (x1 : Int32) (post : Int32 → Prop) (hwp : PX2_ruler x1 i_gates a_kind post) : Met l yX2_ruler wsX2_ruler ({ frames := 1, cells := 0, slots := 0, locals := 21 } : Room) (va_Pc [.ref h, .int x1] (pcW (dC, dI) sz (wX2_ruler cyI cyJ cyZ h h_courtA h_courtB h_kind h_gone h_court i_gates i_persons i_fines a_kind) (tyG cyI cyJ cyZ))) (qX2_ruler dC dI cyI cyJ cyZ h h_courtA h_courtB h_kind h_gone h_court i_gates i_persons i_fines a_kind post (va_A (wX2_ruler cyI cyJ cyZ h h_courtA h_courtB h_kind h_gone h_court i_gates i_persons i_fines a_kind) sz)) 0 0 (va_A (wX2_ruler cyI cyJ cyZ h h_courtA h_courtB h_kind h_gone h_court i_gates i_persons i_fines a_kind) sz) := by
  refine Met.ofW (cc := cX2_ruler) (maxL := 4) (ret := some .int) (by decide) rfl ?_
  intro p e s m args below meth c s₁ B hml hv
  obtain ⟨rfl, hsz, hP, hK, hD0, hN⟩ := hv
  have hx := B.exec
  have hb := B.bytes
  have hr := B.returns
  have hts := atoms_spec (ws := wsX2_ruler) B.pre
  have hown : s.vm.findClass RX2 = some m.cls := findClass_of_methodNamed B.named
  have hlocks := B.notSynchronized
  subst hsz
  have hD := hD0.self (sz := s.heap.size)
  generalize hAe : va_A (wX2_ruler cyI cyJ cyZ h h_courtA h_courtB h_kind h_gone h_court i_gates i_persons i_fines a_kind) s.heap.size = A at hD ⊢
  have hA : ∀ q : Nat, s.heap.size ≤ q → A q := fun q h => by rw [← hAe]; exact Or.inr h
  have hW : Wd (dC, dI) A s.heap (wX2_ruler cyI cyJ cyZ h h_courtA h_courtB h_kind h_gone h_court i_gates i_persons i_fines a_kind) s.heap [] := ⟨hP, hD, va_S.rf⟩
  have hw := hwp
  have hiX2 : ∀ w ∈ u_ws RX2 TX2 8, w ∈ wsX2_ruler := fun _ h => List.mem_cons_of_mem _ (List.mem_append_right _ h)
  have k_0 := hts (.fieldLink RX2 18 "OddLetsIn$Garden" "kind" "[I") (List.mem_of_getElem? (i := 1) rfl)
  have W_4 : ∀ (n_4 : Nat) (x2 : Int32) (x3 : Int32) (H : Heap) (locs : List Loc) (ls : Array Slot), Wd (dC, dI) A s.heap (wX2_ruler cyI cyJ cyZ h h_courtA h_courtB h_kind h_gone h_court i_gates i_persons i_fines a_kind) H locs → lv_has ls 4 [(0, .ref h), (2, .int x2), (3, .int x3)] → PX2_ruler_4 post i_gates a_kind n_4 x2 x3 → W p l e (({ frames := 1, cells := 0, slots := 0, locals := 21 } : Room)) s m (([.ref h, .int x1] : List Value).toArray) below meth c H locs 0 0 (MQ below (qX2_ruler dC dI cyI cyJ cyZ h h_courtA h_courtB h_kind h_gone h_court i_gates i_persons i_fines a_kind post A) (([.ref h, .int x1] : List Value).toArray) s 0 0 A) (F0 m 4 ls []) := by
    intro n_4
    induction n_4 with
    | zero =>
      intro x2 x3 H locs ls hW hl hw
      exact False.elim hw
    | succ n_4 ih_4 =>
      intro x2 x3 H locs ls hW hl hw
      refine lv_iload_n hx hb dX2_ruler_4 rfl (lv_at hl 2 rfl) ?_
      refine lv_iconst (v := 5) hx hb dX2_ruler_5 (by decide) ?_
      refine lv_icmp_ge (tgt := 36) hx hb dX2_ruler_6 (by decide) (fun c_1 => ?_) (fun c_1 => ?_)
      · replace hw := hw.1 c_1
        refine lv_iload_n hx hb dX2_ruler_36 rfl (lv_at hl 1 rfl) ?_
        refine zw_iret (S := Unit) (post := fun r u => post r) () hx hb hr hlocks hK hW hw ?_ dX2_ruler_37
        rfl
      · replace hw := hw.2 c_1
        refine lv_aload_n hx hb dX2_ruler_9 rfl (lv_at hl 0 rfl) ?_
        refine lv_iload_n hx hb dX2_ruler_10 rfl (lv_at hl 1 rfl) ?_
        refine zw_Vi ⟨hx, hb, hml, hown, hts⟩ hK hN hA hW 0 rfl (T := TX2) (N := 8) rfl [.int x2] [] [0] [1] [1, 0] (fun _ => (wX2_ruler cyI cyJ cyZ h h_courtA h_courtB h_kind h_gone h_court i_gates i_persons i_fines a_kind)) (mX2_hasGate l dC dI cyI cyJ cyZ h h_courtA h_courtB h_kind h_gone h_court _ i_gates i_persons i_fines x2 _ hw) (cwV 1 hts gX2_ruler_X2_hasGate rfl rfl rfl (by decide +kernel) ⟨Nat.le_of_ble_eq_true rfl, Nat.le_of_ble_eq_true rfl⟩) rfl rfl rfl rfl (by decide) rfl (fun _ => rfl) rfl hl.1 rfl (Nat.le_of_ble_eq_true rfl) (Nat.le_of_ble_eq_true rfl) (Nat.le_of_ble_eq_true rfl) dX2_ruler_11 (fun r_2 u H locs hw hW => ?_)
        obtain ⟨br_2, hw⟩ := hw
        refine lv_if_eq (tgt := 36) hx hb dX2_ruler_14 (by decide) (fun c_3 => ?_) (fun c_3 => ?_)
        · replace hw := hw.1 c_3
          refine lv_iload_n hx hb dX2_ruler_36 rfl (lv_at hl 1 rfl) ?_
          refine zw_iret (S := Unit) (post := fun r u => post r) () hx hb hr hlocks hK hW hw ?_ dX2_ruler_37
          rfl
        · replace hw := hw.2 c_3
          refine lv_aload_n hx hb dX2_ruler_17 rfl (lv_at hl 0 rfl) ?_
          refine zw_get (ci := 2) (C := RX2) (T := TX2) (N := 8) (v := .ref h_kind) hx hb hts hiX2 hown hK hW 0 rfl rfl 2 (by decide) rfl k_0 dX2_ruler_18 ?_
          refine lv_iload_n hx hb dX2_ruler_21 rfl (lv_at hl 1 rfl) ?_
          refine zw_iald hx hb hK hW 1 rfl rfl hw.1 dX2_ruler_22 ?_
          replace hw := hw.2
          refine lv_iconst (v := 3) hx hb dX2_ruler_23 (by decide) ?_
          refine lv_icmp_ne (tgt := 36) hx hb dX2_ruler_24 (by decide) (fun c_4 => ?_) (fun c_4 => ?_)
          · replace hw := hw.2 c_4
            refine lv_iload_n hx hb dX2_ruler_36 rfl (lv_at hl 1 rfl) ?_
            refine zw_iret (S := Unit) (post := fun r u => post r) () hx hb hr hlocks hK hW hw ?_ dX2_ruler_37
            rfl
          · replace hw := hw.1 c_4
            obtain ⟨x2_5, ex2_5⟩ : ∃ y : Int32, y = x2 + (-1) := ⟨_, rfl⟩
            replace hw := hw x2_5 ex2_5
            refine lv_iinc (v := x2_5) (lv' := [(2, .int x2_5), (0, .ref h), (3, .int x3)]) hx hb dX2_ruler_27 hl (k := 1) rfl (by rw [ex2_5]; rfl) (by decide) rfl (fun ls hl => ?_)
            obtain ⟨x3_6, ex3_6⟩ : ∃ y : Int32, y = x3 + 1 := ⟨_, rfl⟩
            replace hw := hw x3_6 ex3_6
            refine lv_iinc (v := x3_6) (lv' := [(3, .int x3_6), (2, .int x2_5), (0, .ref h)]) hx hb dX2_ruler_30 hl (k := 2) rfl (by rw [ex3_6]; rfl) (by decide) rfl (fun ls hl => ?_)
            refine lv_goto (tgt := 4) hx hb dX2_ruler_33 (by decide) ?_
            exact ih_4 x2_5 x3_6 _ _ _ hW (lv_sub hl [2, 1, 0] rfl) hw
  have hl := lv_entry ([.ref h, .int x1]) (n := 4) (Nat.le_of_ble_eq_true rfl)
  rw [lg_entry_eq]
  generalize (lg_sl ([.ref h, .int x1]) ++ List.replicate (4 - (lg_sl ([.ref h, .int x1])).length) Slot.unset).toArray = ls at hl ⊢
  have hl : lv_has ls 4 [(0, .ref h), (1, .int x1)] := hl
  refine lv_iload_n hx hb dX2_ruler_0 rfl (lv_at hl 1 rfl) ?_
  refine lv_istore_n (lv' := [(2, .int x1), (0, .ref h), (1, .int x1)]) hx hb dX2_ruler_1 rfl hl (by decide) rfl (fun ls hl => ?_)
  refine lv_iconst (v := 0) hx hb dX2_ruler_2 (by decide) ?_
  refine lv_istore_n (lv' := [(3, .int 0), (2, .int x1), (0, .ref h), (1, .int x1)]) hx hb dX2_ruler_3 rfl hl (by decide) rfl (fun ls hl => ?_)
  obtain ⟨n_4, hw⟩ := hw
  exact W_4  n_4 x1 0 _ _ _ hW (lv_sub hl [2, 1, 0] rfl) hw
abbrev wX2_isOpen (cyI cyJ cyZ : ClassId) (h h_courtA h_courtB h_kind h_gone h_court : Nat) (i_gates : Int32) (i_persons : Int32) (i_fines : Int32) (a_kind : Nat → Int32) (a_gone : Nat → Int32) : va_W := [(h, .inr (2, [.ref h_courtA, .ref h_courtB, .ref h_kind, .ref h_gone, .int i_gates, .ref h_court, .int i_persons, .int i_fines])), (h_kind, .inl (cyI, 5, .inl a_kind)), (h_gone, .inl (cyI, 5, .inl a_gone))]
abbrev qX2_isOpen (dC : Nat → ClassId) (dI : Nat → Nat → Nat) (cyI cyJ cyZ : ClassId) (h h_courtA h_courtB h_kind h_gone h_court : Nat) (i_gates : Int32) (i_persons : Int32) (i_fines : Int32) (a_kind : Nat → Int32) (a_gone : Nat → Int32) (post : Int32 → Prop) (A : Nat → Prop) : Array Value → State → Outcome → State → Prop := (va_Qi (fun (r : Int32) (u : Unit) => (r = 0 ∨ r = 1) ∧ post r) (bW (dC, dI) (tyG cyI cyJ cyZ) A (fun _ : Unit => (wX2_isOpen cyI cyJ cyZ h h_courtA h_courtB h_kind h_gone h_court i_gates i_persons i_fines a_kind a_gone))) A)
set_option maxHeartbeats 4000000 in
set_option maxRecDepth 100000 in
theorem mX2_isOpen (l : Launch) (dC : Nat → ClassId) (dI : Nat → Nat → Nat) (cyI cyJ cyZ : ClassId) (h h_courtA h_courtB h_kind h_gone h_court : Nat) (sz : Nat) (i_gates : Int32) (i_persons : Int32) (i_fines : Int32) (a_kind : Nat → Int32) (a_gone : Nat → Int32) (x1 : Int32) (x2 : Int32) (post : Int32 → Prop) (hwp : PX2_isOpen x1 x2 i_gates a_kind a_gone post) : Met l yX2_isOpen wsX2_isOpen ({ frames := 2, cells := 0, slots := 0, locals := 44 } : Room) (va_Pc [.ref h, .int x1, .int x2] (pcW (dC, dI) sz (wX2_isOpen cyI cyJ cyZ h h_courtA h_courtB h_kind h_gone h_court i_gates i_persons i_fines a_kind a_gone) (tyG cyI cyJ cyZ))) (qX2_isOpen dC dI cyI cyJ cyZ h h_courtA h_courtB h_kind h_gone h_court i_gates i_persons i_fines a_kind a_gone post (va_A (wX2_isOpen cyI cyJ cyZ h h_courtA h_courtB h_kind h_gone h_court i_gates i_persons i_fines a_kind a_gone) sz)) 0 0 (va_A (wX2_isOpen cyI cyJ cyZ h h_courtA h_courtB h_kind h_gone h_court i_gates i_persons i_fines a_kind a_gone) sz) := by
  refine Met.ofW (cc := cX2_isOpen) (maxL := 4) (ret := some .boolean) (by decide) rfl ?_
  intro p e s m args below meth c s₁ B hml hv
  obtain ⟨rfl, hsz, hP, hK, hD0, hN⟩ := hv
  have hx := B.exec
  have hb := B.bytes
  have hr := B.returns
  have hts := atoms_spec (ws := wsX2_isOpen) B.pre
  have hown : s.vm.findClass RX2 = some m.cls := findClass_of_methodNamed B.named
  have hlocks := B.notSynchronized
  subst hsz
  have hD := hD0.self (sz := s.heap.size)
  generalize hAe : va_A (wX2_isOpen cyI cyJ cyZ h h_courtA h_courtB h_kind h_gone h_court i_gates i_persons i_fines a_kind a_gone) s.heap.size = A at hD ⊢
  have hA : ∀ q : Nat, s.heap.size ≤ q → A q := fun q h => by rw [← hAe]; exact Or.inr h
  have hW : Wd (dC, dI) A s.heap (wX2_isOpen cyI cyJ cyZ h h_courtA h_courtB h_kind h_gone h_court i_gates i_persons i_fines a_kind a_gone) s.heap [] := ⟨hP, hD, va_S.rf⟩
  have hw := hwp
  have hiX2 : ∀ w ∈ u_ws RX2 TX2 8, w ∈ wsX2_isOpen := fun _ h => List.mem_cons_of_mem _ (List.mem_append_right _ h)
  have k_0 := hts (.fieldLink RX2 18 "OddLetsIn$Garden" "kind" "[I") (List.mem_of_getElem? (i := 1) rfl)
  have k_1 := hts (.fieldLink RX2 21 "OddLetsIn$Garden" "gone" "[I") (List.mem_of_getElem? (i := 2) rfl)
  have hl := lv_entry ([.ref h, .int x1, .int x2]) (n := 4) (Nat.le_of_ble_eq_true rfl)
  rw [lg_entry_eq]
  generalize (lg_sl ([.ref h, .int x1, .int x2]) ++ List.replicate (4 - (lg_sl ([.ref h, .int x1, .int x2])).length) Slot.unset).toArray = ls at hl ⊢
  have hl : lv_has ls 4 [(0, .ref h), (1, .int x1), (2, .int x2)] := hl
  refine lv_aload_n hx hb dX2_isOpen_0 rfl (lv_at hl 0 rfl) ?_
  refine lv_iload_n hx hb dX2_isOpen_1 rfl (lv_at hl 1 rfl) ?_
  refine zw_Vi ⟨hx, hb, hml, hown, hts⟩ hK hN hA hW 0 rfl (T := TX2) (N := 8) rfl [.int x1] [] [0, 1] [2] [1, 2, 0] (fun _ => (wX2_isOpen cyI cyJ cyZ h h_courtA h_courtB h_kind h_gone h_court i_gates i_persons i_fines a_kind a_gone)) (mX2_ruler l dC dI cyI cyJ cyZ h h_courtA h_courtB h_kind h_gone h_court _ i_gates i_persons i_fines a_kind x1 _ hw) (cwV 1 hts gX2_isOpen_X2_ruler rfl rfl rfl (by decide +kernel) ⟨Nat.le_of_ble_eq_true rfl, Nat.le_of_ble_eq_true rfl⟩) rfl rfl rfl rfl (by decide) rfl (fun _ => rfl) rfl hl.1 rfl (Nat.le_of_ble_eq_true rfl) (Nat.le_of_ble_eq_true rfl) (Nat.le_of_ble_eq_true rfl) dX2_isOpen_2 (fun r_1 u H locs hw hW => ?_)
  refine lv_istore_n (lv' := [(3, .int r_1), (0, .ref h), (1, .int x1), (2, .int x2)]) hx hb dX2_isOpen_5 rfl hl (by decide) rfl (fun ls hl => ?_)
  refine lv_aload_n hx hb dX2_isOpen_6 rfl (lv_at hl 1 rfl) ?_
  refine lv_iload_n hx hb dX2_isOpen_7 rfl (lv_at hl 0 rfl) ?_
  refine zw_Vi ⟨hx, hb, hml, hown, hts⟩ hK hN hA hW 0 rfl (T := TX2) (N := 8) rfl [.int r_1] [] [0] [1, 2] [2, 0, 1] (fun _ => (wX2_isOpen cyI cyJ cyZ h h_courtA h_courtB h_kind h_gone h_court i_gates i_persons i_fines a_kind a_gone)) (mX2_hasGate l dC dI cyI cyJ cyZ h h_courtA h_courtB h_kind h_gone h_court _ i_gates i_persons i_fines r_1 _ hw) (cwV 1 hts gX2_isOpen_X2_hasGate rfl rfl rfl (by decide +kernel) ⟨Nat.le_of_ble_eq_true rfl, Nat.le_of_ble_eq_true rfl⟩) rfl rfl rfl rfl (by decide) rfl (fun _ => rfl) rfl hl.1 rfl (Nat.le_of_ble_eq_true rfl) (Nat.le_of_ble_eq_true rfl) (Nat.le_of_ble_eq_true rfl) dX2_isOpen_8 (fun r_2 u H locs hw hW => ?_)
  obtain ⟨br_2, hw⟩ := hw
  refine lv_if_ne (tgt := 16) hx hb dX2_isOpen_11 (by decide) (fun c_3 => ?_) (fun c_3 => ?_)
  · replace hw := hw.2 c_3
    refine lv_aload_n hx hb dX2_isOpen_16 rfl (lv_at hl 1 rfl) ?_
    refine zw_get (ci := 2) (C := RX2) (T := TX2) (N := 8) (v := .ref h_kind) hx hb hts hiX2 hown hK hW 0 rfl rfl 2 (by decide) rfl k_0 dX2_isOpen_17 ?_
    refine lv_iload_n hx hb dX2_isOpen_20 rfl (lv_at hl 0 rfl) ?_
    refine zw_iald hx hb hK hW 1 rfl rfl hw.1 dX2_isOpen_21 ?_
    replace hw := hw.2
    refine lv_topi (fun t_4 et_4 => ?_)
    replace hw := hw t_4 et_4
    by_cases c_5 : t_4 = 0
    · replace hw := hw.1 c_5
      refine lv_tableIn (off := 34) (tgt := 56) hx hb dX2_isOpen_22 (by rw [c_5]; decide) (by rw [c_5]; decide) (by rw [c_5]; decide) (by decide) ?_
      refine lv_aload_n hx hb dX2_isOpen_56 rfl (lv_at hl 1 rfl) ?_
      refine zw_get (ci := 2) (C := RX2) (T := TX2) (N := 8) (v := .ref h_gone) hx hb hts hiX2 hown hK hW 0 rfl rfl 3 (by decide) rfl k_1 dX2_isOpen_57 ?_
      refine lv_iload_n hx hb dX2_isOpen_60 rfl (lv_at hl 0 rfl) ?_
      refine zw_iald hx hb hK hW 2 rfl rfl hw.1 dX2_isOpen_61 ?_
      replace hw := hw.2
      refine lv_iconst (v := 2) hx hb dX2_isOpen_62 (by decide) ?_
      refine lv_irem hx hb dX2_isOpen_63 (by decide) ?_
      refine lv_if_ne (tgt := 71) hx hb dX2_isOpen_64 (by decide) (fun c_6 => ?_) (fun c_6 => ?_)
      · replace hw := hw.2 c_6
        refine lv_iconst (v := 0) hx hb dX2_isOpen_71 (by decide) ?_
        refine zw_zret (S := Unit) (post := fun r u => post r) () hx hb hr hlocks hK hW (Or.inl rfl) hw ?_ dX2_isOpen_72
        rfl
      · replace hw := hw.1 c_6
        refine lv_iconst (v := 1) hx hb dX2_isOpen_67 (by decide) ?_
        refine lv_goto (tgt := 72) hx hb dX2_isOpen_68 (by decide) ?_
        refine zw_zret (S := Unit) (post := fun r u => post r) () hx hb hr hlocks hK hW (Or.inr rfl) hw ?_ dX2_isOpen_72
        rfl
    · replace hw := hw.2 c_5
      by_cases c_7 : t_4 = 1
      · replace hw := hw.1 c_7
        refine lv_tableIn (off := 51) (tgt := 73) hx hb dX2_isOpen_22 (by rw [c_7]; decide) (by rw [c_7]; decide) (by rw [c_7]; decide) (by decide) ?_
        refine lv_aload_n hx hb dX2_isOpen_73 rfl (lv_at hl 1 rfl) ?_
        refine zw_get (ci := 2) (C := RX2) (T := TX2) (N := 8) (v := .ref h_gone) hx hb hts hiX2 hown hK hW 0 rfl rfl 3 (by decide) rfl k_1 dX2_isOpen_74 ?_
        refine lv_iload_n hx hb dX2_isOpen_77 rfl (lv_at hl 0 rfl) ?_
        refine zw_iald hx hb hK hW 2 rfl rfl hw.1 dX2_isOpen_78 ?_
        replace hw := hw.2
        refine lv_iconst (v := 2) hx hb dX2_isOpen_79 (by decide) ?_
        refine lv_irem hx hb dX2_isOpen_80 (by decide) ?_
        refine lv_if_eq (tgt := 88) hx hb dX2_isOpen_81 (by decide) (fun c_8 => ?_) (fun c_8 => ?_)
        · replace hw := hw.1 c_8
          refine lv_iconst (v := 0) hx hb dX2_isOpen_88 (by decide) ?_
          refine zw_zret (S := Unit) (post := fun r u => post r) () hx hb hr hlocks hK hW (Or.inl rfl) hw ?_ dX2_isOpen_89
          rfl
        · replace hw := hw.2 c_8
          refine lv_iconst (v := 1) hx hb dX2_isOpen_84 (by decide) ?_
          refine lv_goto (tgt := 89) hx hb dX2_isOpen_85 (by decide) ?_
          refine zw_zret (S := Unit) (post := fun r u => post r) () hx hb hr hlocks hK hW (Or.inr rfl) hw ?_ dX2_isOpen_89
          rfl
      · replace hw := hw.2 c_7
        by_cases c_9 : t_4 = 2
        · replace hw := hw.1 c_9
          refine lv_tableIn (off := 68) (tgt := 90) hx hb dX2_isOpen_22 (by rw [c_9]; decide) (by rw [c_9]; decide) (by rw [c_9]; decide) (by decide) ?_
          refine lv_aload_n hx hb dX2_isOpen_90 rfl (lv_at hl 1 rfl) ?_
          refine zw_get (ci := 2) (C := RX2) (T := TX2) (N := 8) (v := .ref h_gone) hx hb hts hiX2 hown hK hW 0 rfl rfl 3 (by decide) rfl k_1 dX2_isOpen_91 ?_
          refine lv_iload_n hx hb dX2_isOpen_94 rfl (lv_at hl 0 rfl) ?_
          refine zw_iald hx hb hK hW 2 rfl rfl hw.1 dX2_isOpen_95 ?_
          replace hw := hw.2
          refine lv_iconst (v := 3) hx hb dX2_isOpen_96 (by decide) ?_
          refine lv_irem hx hb dX2_isOpen_97 (by decide) ?_
          refine lv_if_ne (tgt := 105) hx hb dX2_isOpen_98 (by decide) (fun c_10 => ?_) (fun c_10 => ?_)
          · replace hw := hw.2 c_10
            refine lv_iconst (v := 0) hx hb dX2_isOpen_105 (by decide) ?_
            refine zw_zret (S := Unit) (post := fun r u => post r) () hx hb hr hlocks hK hW (Or.inl rfl) hw ?_ dX2_isOpen_106
            rfl
          · replace hw := hw.1 c_10
            refine lv_iconst (v := 1) hx hb dX2_isOpen_101 (by decide) ?_
            refine lv_goto (tgt := 106) hx hb dX2_isOpen_102 (by decide) ?_
            refine zw_zret (S := Unit) (post := fun r u => post r) () hx hb hr hlocks hK hW (Or.inr rfl) hw ?_ dX2_isOpen_106
            rfl
        · replace hw := hw.2 c_9
          by_cases c_11 : t_4 = 3
          · replace hw := hw.1 c_11
            refine lv_tableIn (off := 106) (tgt := 128) hx hb dX2_isOpen_22 (by rw [c_11]; decide) (by rw [c_11]; decide) (by rw [c_11]; decide) (by decide) ?_
            refine lv_iconst (v := 0) hx hb dX2_isOpen_128 (by decide) ?_
            refine zw_zret (S := Unit) (post := fun r u => post r) () hx hb hr hlocks hK hW (Or.inl rfl) hw ?_ dX2_isOpen_129
            rfl
          · replace hw := hw.2 c_11
            by_cases c_12 : t_4 = 4
            · replace hw := hw.1 c_12
              refine lv_tableIn (off := 85) (tgt := 107) hx hb dX2_isOpen_22 (by rw [c_12]; decide) (by rw [c_12]; decide) (by rw [c_12]; decide) (by decide) ?_
              refine lv_iload_n hx hb dX2_isOpen_107 rfl (lv_at hl 3 rfl) ?_
              refine lv_if_ne (tgt := 126) hx hb dX2_isOpen_108 (by decide) (fun c_13 => ?_) (fun c_13 => ?_)
              · replace hw := hw.2 c_13
                refine lv_iconst (v := 0) hx hb dX2_isOpen_126 (by decide) ?_
                refine zw_zret (S := Unit) (post := fun r u => post r) () hx hb hr hlocks hK hW (Or.inl rfl) hw ?_ dX2_isOpen_127
                rfl
              · replace hw := hw.1 c_13
                refine lv_aload_n hx hb dX2_isOpen_111 rfl (lv_at hl 1 rfl) ?_
                refine zw_get (ci := 2) (C := RX2) (T := TX2) (N := 8) (v := .ref h_gone) hx hb hts hiX2 hown hK hW 0 rfl rfl 3 (by decide) rfl k_1 dX2_isOpen_112 ?_
                refine lv_iload_n hx hb dX2_isOpen_115 rfl (lv_at hl 0 rfl) ?_
                refine zw_iald hx hb hK hW 2 rfl rfl hw.1 dX2_isOpen_116 ?_
                replace hw := hw.2
                refine lv_iconst (v := 2) hx hb dX2_isOpen_117 (by decide) ?_
                refine lv_irem hx hb dX2_isOpen_118 (by decide) ?_
                refine lv_if_ne (tgt := 126) hx hb dX2_isOpen_119 (by decide) (fun c_14 => ?_) (fun c_14 => ?_)
                · replace hw := hw.2 c_14
                  refine lv_iconst (v := 0) hx hb dX2_isOpen_126 (by decide) ?_
                  refine zw_zret (S := Unit) (post := fun r u => post r) () hx hb hr hlocks hK hW (Or.inl rfl) hw ?_ dX2_isOpen_127
                  rfl
                · replace hw := hw.1 c_14
                  refine lv_iconst (v := 1) hx hb dX2_isOpen_122 (by decide) ?_
                  refine lv_goto (tgt := 127) hx hb dX2_isOpen_123 (by decide) ?_
                  refine zw_zret (S := Unit) (post := fun r u => post r) () hx hb hr hlocks hK hW (Or.inr rfl) hw ?_ dX2_isOpen_127
                  rfl
            · replace hw := hw.2 c_12
              refine lv_tableOut (tgt := 128) hx hb dX2_isOpen_22 (zb_ts 4 (fun k hk => by rcases (show k = 0 ∨ k = 1 ∨ k = 2 ∨ k = 3 ∨ k = 4 by omega) with rfl | rfl | rfl | rfl | rfl <;> assumption) (by decide)) (by decide) ?_
              refine lv_iconst (v := 0) hx hb dX2_isOpen_128 (by decide) ?_
              refine zw_zret (S := Unit) (post := fun r u => post r) () hx hb hr hlocks hK hW (Or.inl rfl) hw ?_ dX2_isOpen_129
              rfl
  · replace hw := hw.1 c_3
    refine lv_iconst (v := 0) hx hb dX2_isOpen_14 (by decide) ?_
    refine zw_zret (S := Unit) (post := fun r u => post r) () hx hb hr hlocks hK hW (Or.inl rfl) hw ?_ dX2_isOpen_15
    rfl
abbrev wJ7_fill_53178 (cyI cyJ cyZ : ClassId) (hq : Nat) (nw : Nat) (aw : Nat → Int32) : va_W := [(hq, .inl (cyI, nw, .inl aw))]
abbrev qJ7_fill_53178 (dC : Nat → ClassId) (dI : Nat → Nat → Nat) (cyI cyJ cyZ : ClassId) (hq : Nat) (nw : Nat) (aw : Nat → Int32) (post : (Nat → Int32) → Prop) (A : Nat → Prop) : Array Value → State → Outcome → State → Prop := (va_Qv (fun (u : (Nat → Int32)) => post u) (bW (dC, dI) (tyG cyI cyJ cyZ) A (fun u : (Nat → Int32) => (wJ7_fill_53178 cyI cyJ cyZ hq nw u))) A)
set_option maxHeartbeats 4000000 in
set_option maxRecDepth 100000 in
theorem mJ7_fill_53178 (l : Launch) (dC : Nat → ClassId) (dI : Nat → Nat → Nat) (cyI cyJ cyZ : ClassId) (hq : Nat) (nw : Nat) (sz : Nat) (aw : Nat → Int32) (x1 : Int32) (post : (Nat → Int32) → Prop) (hwp : PJ7_fill_53178 nw x1 aw post) : Met l yJ7_fill_53178 wsJ7_fill_53178 ({ frames := 0, cells := 0, slots := 0, locals := 0 } : Room) (va_Pc [.ref hq, .int x1] (pcW (dC, dI) sz (wJ7_fill_53178 cyI cyJ cyZ hq nw aw) (tyG cyI cyJ cyZ))) (qJ7_fill_53178 dC dI cyI cyJ cyZ hq nw aw post (va_A (wJ7_fill_53178 cyI cyJ cyZ hq nw aw) sz)) 0 0 (va_A (wJ7_fill_53178 cyI cyJ cyZ hq nw aw) sz) := by
  refine Met.ofW (cc := cJ7_fill_53178) (maxL := 4) (ret := none) (by decide) rfl ?_
  intro p e s m args below meth c s₁ B hml hv
  obtain ⟨rfl, hsz, hP, hK, hD0, hN⟩ := hv
  have hx := B.exec
  have hb := B.bytes
  have hr := B.returns
  have hts := atoms_spec (ws := wsJ7_fill_53178) B.pre
  have hown : s.vm.findClass RJ7 = some m.cls := findClass_of_methodNamed B.named
  have hlocks := B.notSynchronized
  subst hsz
  have hD := hD0.self (sz := s.heap.size)
  generalize hAe : va_A (wJ7_fill_53178 cyI cyJ cyZ hq nw aw) s.heap.size = A at hD ⊢
  have hA : ∀ q : Nat, s.heap.size ≤ q → A q := fun q h => by rw [← hAe]; exact Or.inr h
  have hW : Wd (dC, dI) A s.heap (wJ7_fill_53178 cyI cyJ cyZ hq nw aw) s.heap [] := ⟨hP, hD, va_S.rf⟩
  have hw := hwp
  have W_5 : ∀ (x3 : Int32) (n_5 : Nat) (x2 : Int32) (aw : Nat → Int32) (H : Heap) (locs : List Loc) (ls : Array Slot), Wd (dC, dI) A s.heap (wJ7_fill_53178 cyI cyJ cyZ hq nw aw) H locs → lv_has ls 4 [(0, .ref hq), (1, .int x1), (2, .int x2), (3, .int x3)] → PJ7_fill_53178_5 nw post x1 x3 n_5 x2 aw → W p l e (({ frames := 0, cells := 0, slots := 0, locals := 0 } : Room)) s m (([.ref hq, .int x1] : List Value).toArray) below meth c H locs 0 0 (MQ below (qJ7_fill_53178 dC dI cyI cyJ cyZ hq nw aw post A) (([.ref hq, .int x1] : List Value).toArray) s 0 0 A) (F0 m 5 ls []) := by
    intro x3 n_5
    induction n_5 with
    | zero =>
      intro x2 aw H locs ls hW hl hw
      exact False.elim hw
    | succ n_5 ih_5 =>
      intro x2 aw H locs ls hW hl hw
      refine lv_iload_n hx hb dJ7_fill_53178_5 rfl (lv_at hl 2 rfl) ?_
      refine lv_iload_n hx hb dJ7_fill_53178_6 rfl (lv_at hl 3 rfl) ?_
      refine lv_icmp_ge (tgt := 20) hx hb dJ7_fill_53178_7 (by decide) (fun c_1 => ?_) (fun c_1 => ?_)
      · replace hw := hw.1 c_1
        refine zw_vret (S := (Nat → Int32)) (post := fun u => post u) aw hx hb hr hlocks hK hW hw ?_ dJ7_fill_53178_20
        rfl
      · replace hw := hw.2 c_1
        refine lv_aload_n hx hb dJ7_fill_53178_10 rfl (lv_at hl 0 rfl) ?_
        refine lv_iload_n hx hb dJ7_fill_53178_11 rfl (lv_at hl 2 rfl) ?_
        refine lv_iload_n hx hb dJ7_fill_53178_12 rfl (lv_at hl 1 rfl) ?_
        refine zw_iast hx hb hK hW 0 rfl rfl hw.1 (w2 := fun aw_2 => (wJ7_fill_53178 cyI cyJ cyZ hq nw aw_2)) (fun _ => rfl) dJ7_fill_53178_13 (fun aw_2 H locs eaw_2 hW => ?_)
        replace hw := hw.2 aw_2 eaw_2
        obtain ⟨x2_3, ex2_3⟩ : ∃ y : Int32, y = x2 + 1 := ⟨_, rfl⟩
        replace hw := hw x2_3 ex2_3
        refine lv_iinc (v := x2_3) (lv' := [(2, .int x2_3), (0, .ref hq), (1, .int x1), (3, .int x3)]) hx hb dJ7_fill_53178_14 hl (k := 2) rfl (by rw [ex2_3]; rfl) (by decide) rfl (fun ls hl => ?_)
        refine lv_goto (tgt := 5) hx hb dJ7_fill_53178_17 (by decide) ?_
        exact ih_5 x2_3 aw_2 _ _ _ hW (lv_sub hl [1, 2, 0, 3] rfl) hw
  have hl := lv_entry ([.ref hq, .int x1]) (n := 4) (Nat.le_of_ble_eq_true rfl)
  rw [lg_entry_eq]
  generalize (lg_sl ([.ref hq, .int x1]) ++ List.replicate (4 - (lg_sl ([.ref hq, .int x1])).length) Slot.unset).toArray = ls at hl ⊢
  have hl : lv_has ls 4 [(0, .ref hq), (1, .int x1)] := hl
  refine lv_iconst (v := 0) hx hb dJ7_fill_53178_0 (by decide) ?_
  refine lv_istore_n (lv' := [(2, .int 0), (0, .ref hq), (1, .int x1)]) hx hb dJ7_fill_53178_1 rfl hl (by decide) rfl (fun ls hl => ?_)
  refine lv_aload_n hx hb dJ7_fill_53178_2 rfl (lv_at hl 1 rfl) ?_
  refine zw_alen (v := (nI nw)) hx hb hK hW 0 0 rfl rfl rfl dJ7_fill_53178_3 ?_
  refine lv_topi (fun x3_4 ex3_4 => ?_)
  replace hw := hw x3_4 ex3_4
  refine lv_istore_n (lv' := [(3, .int x3_4), (2, .int 0), (0, .ref hq), (1, .int x1)]) hx hb dJ7_fill_53178_4 rfl hl (by decide) rfl (fun ls hl => ?_)
  obtain ⟨n_5, hw⟩ := hw
  exact W_5 x3_4 n_5 0 aw _ _ _ hW (lv_sub hl [2, 3, 1, 0] rfl) hw
abbrev wX2_hasPerson (cyI cyJ cyZ : ClassId) (h h_courtA h_courtB h_kind h_gone h_court : Nat) (i_gates : Int32) (i_persons : Int32) (i_fines : Int32) : va_W := [(h, .inr (2, [.ref h_courtA, .ref h_courtB, .ref h_kind, .ref h_gone, .int i_gates, .ref h_court, .int i_persons, .int i_fines]))]
abbrev qX2_hasPerson (dC : Nat → ClassId) (dI : Nat → Nat → Nat) (cyI cyJ cyZ : ClassId) (h h_courtA h_courtB h_kind h_gone h_court : Nat) (i_gates : Int32) (i_persons : Int32) (i_fines : Int32) (post : Int32 → Prop) (A : Nat → Prop) : Array Value → State → Outcome → State → Prop := (va_Qi (fun (r : Int32) (u : Unit) => (r = 0 ∨ r = 1) ∧ post r) (bW (dC, dI) (tyG cyI cyJ cyZ) A (fun _ : Unit => (wX2_hasPerson cyI cyJ cyZ h h_courtA h_courtB h_kind h_gone h_court i_gates i_persons i_fines))) A)
set_option maxHeartbeats 4000000 in
set_option maxRecDepth 100000 in
theorem mX2_hasPerson (l : Launch) (dC : Nat → ClassId) (dI : Nat → Nat → Nat) (cyI cyJ cyZ : ClassId) (h h_courtA h_courtB h_kind h_gone h_court : Nat) (sz : Nat) (i_gates : Int32) (i_persons : Int32) (i_fines : Int32) (x1 : Int32) (post : Int32 → Prop) (hwp : PX2_hasPerson x1 i_persons post) : Met l yX2_hasPerson wsX2_hasPerson ({ frames := 0, cells := 0, slots := 0, locals := 0 } : Room) (va_Pc [.ref h, .int x1] (pcW (dC, dI) sz (wX2_hasPerson cyI cyJ cyZ h h_courtA h_courtB h_kind h_gone h_court i_gates i_persons i_fines) (tyG cyI cyJ cyZ))) (qX2_hasPerson dC dI cyI cyJ cyZ h h_courtA h_courtB h_kind h_gone h_court i_gates i_persons i_fines post (va_A (wX2_hasPerson cyI cyJ cyZ h h_courtA h_courtB h_kind h_gone h_court i_gates i_persons i_fines) sz)) 0 0 (va_A (wX2_hasPerson cyI cyJ cyZ h h_courtA h_courtB h_kind h_gone h_court i_gates i_persons i_fines) sz) := by
  refine Met.ofW (cc := cX2_hasPerson) (maxL := 2) (ret := some .boolean) (by decide) rfl ?_
  intro p e s m args below meth c s₁ B hml hv
  obtain ⟨rfl, hsz, hP, hK, hD0, hN⟩ := hv
  have hx := B.exec
  have hb := B.bytes
  have hr := B.returns
  have hts := atoms_spec (ws := wsX2_hasPerson) B.pre
  have hown : s.vm.findClass RX2 = some m.cls := findClass_of_methodNamed B.named
  have hlocks := B.notSynchronized
  subst hsz
  have hD := hD0.self (sz := s.heap.size)
  generalize hAe : va_A (wX2_hasPerson cyI cyJ cyZ h h_courtA h_courtB h_kind h_gone h_court i_gates i_persons i_fines) s.heap.size = A at hD ⊢
  have hA : ∀ q : Nat, s.heap.size ≤ q → A q := fun q h => by rw [← hAe]; exact Or.inr h
  have hW : Wd (dC, dI) A s.heap (wX2_hasPerson cyI cyJ cyZ h h_courtA h_courtB h_kind h_gone h_court i_gates i_persons i_fines) s.heap [] := ⟨hP, hD, va_S.rf⟩
  have hw := hwp
  have hiX2 : ∀ w ∈ u_ws RX2 TX2 8, w ∈ wsX2_hasPerson := fun _ h => List.mem_cons_of_mem _ (List.mem_append_right _ h)
  have k_0 := hts (.fieldLink RX2 31 "OddLetsIn$Garden" "persons" "I") (List.mem_of_getElem? (i := 1) rfl)
  have hl := lv_entry ([.ref h, .int x1]) (n := 2) (Nat.le_of_ble_eq_true rfl)
  rw [lg_entry_eq]
  generalize (lg_sl ([.ref h, .int x1]) ++ List.replicate (2 - (lg_sl ([.ref h, .int x1])).length) Slot.unset).toArray = ls at hl ⊢
  have hl : lv_has ls 2 [(0, .ref h), (1, .int x1)] := hl
  refine lv_iload_n hx hb dX2_hasPerson_0 rfl (lv_at hl 1 rfl) ?_
  refine lv_if_lt (tgt := 21) hx hb dX2_hasPerson_1 (by decide) (fun c_1 => ?_) (fun c_1 => ?_)
  · replace hw := hw.1 c_1
    refine lv_iconst (v := 0) hx hb dX2_hasPerson_21 (by decide) ?_
    refine zw_zret (S := Unit) (post := fun r u => post r) () hx hb hr hlocks hK hW (Or.inl rfl) hw ?_ dX2_hasPerson_22
    rfl
  · replace hw := hw.2 c_1
    refine lv_iload_n hx hb dX2_hasPerson_4 rfl (lv_at hl 1 rfl) ?_
    refine lv_aload_n hx hb dX2_hasPerson_5 rfl (lv_at hl 0 rfl) ?_
    refine zw_get (ci := 2) (C := RX2) (T := TX2) (N := 8) (v := .int i_persons) hx hb hts hiX2 hown hK hW 0 rfl rfl 6 (by decide) rfl k_0 dX2_hasPerson_6 ?_
    refine lv_icmp_ge (tgt := 21) hx hb dX2_hasPerson_9 (by decide) (fun c_2 => ?_) (fun c_2 => ?_)
    · replace hw := hw.1 c_2
      refine lv_iconst (v := 0) hx hb dX2_hasPerson_21 (by decide) ?_
      refine zw_zret (S := Unit) (post := fun r u => post r) () hx hb hr hlocks hK hW (Or.inl rfl) hw ?_ dX2_hasPerson_22
      rfl
    · replace hw := hw.2 c_2
      refine lv_iload_n hx hb dX2_hasPerson_12 rfl (lv_at hl 1 rfl) ?_
      refine lv_iconst (v := 3) hx hb dX2_hasPerson_13 (by decide) ?_
      refine lv_icmp_ge (tgt := 21) hx hb dX2_hasPerson_14 (by decide) (fun c_3 => ?_) (fun c_3 => ?_)
      · replace hw := hw.1 c_3
        refine lv_iconst (v := 0) hx hb dX2_hasPerson_21 (by decide) ?_
        refine zw_zret (S := Unit) (post := fun r u => post r) () hx hb hr hlocks hK hW (Or.inl rfl) hw ?_ dX2_hasPerson_22
        rfl
      · replace hw := hw.2 c_3
        refine lv_iconst (v := 1) hx hb dX2_hasPerson_17 (by decide) ?_
        refine lv_goto (tgt := 22) hx hb dX2_hasPerson_18 (by decide) ?_
        refine zw_zret (S := Unit) (post := fun r u => post r) () hx hb hr hlocks hK hW (Or.inr rfl) hw ?_ dX2_hasPerson_22
        rfl
set_option maxHeartbeats 4000000 in
set_option maxRecDepth 100000 in
theorem mX2_init (l : Launch) (dC : Nat → ClassId) (dI : Nat → Nat → Nat) (cyI cyJ cyZ : ClassId) (h sz : Nat) : Met l yX2_init wsX2_init ({ frames := 1, cells := 5, slots := 23, locals := 20 } : Room) (va_Pc [.ref h] (pcW (dC, dI) sz [(h, .inr (2, [.null, .null, .null, .null, .int 0, .null, .int 0, .int 0]))] (tyG cyI cyJ cyZ))) (va_Qv (fun _ : Nat × Nat × Nat × Nat × Nat => True) (bW (dC, dI) (tyG cyI cyJ cyZ) (va_A [(h, .inr (2, [.null, .null, .null, .null, .int 0, .null, .int 0, .int 0]))] sz) (fun u : Nat × Nat × Nat × Nat × Nat => ([(h, .inr (2, [.ref (u.1), .ref (u.2.1), .ref (u.2.2.1), .ref (u.2.2.2.1), .int 0, .ref (u.2.2.2.2), .int 2, .int 0])), ((u.1), .inl (cyI, 5, .inl (fun _ => 0))), ((u.2.1), .inl (cyI, 5, .inl (fun _ => 0))), ((u.2.2.1), .inl (cyI, 5, .inl (fun _ => 0))), ((u.2.2.2.1), .inl (cyI, 5, .inl (fun _ => 0))), ((u.2.2.2.2), .inl (cyI, 3, .inl (fun _ => 0)))] : va_W))) (va_A [(h, .inr (2, [.null, .null, .null, .null, .int 0, .null, .int 0, .int 0]))] sz)) 5 23 (va_A [(h, .inr (2, [.null, .null, .null, .null, .int 0, .null, .int 0, .int 0]))] sz) := by
  refine Met.ofW (cc := cX2_init) (maxL := 1) (ret := none) (by decide) rfl ?_
  intro p e s m args below meth c s₁ B hml hv
  obtain ⟨rfl, hsz, hP, hK, hD0, hN⟩ := hv
  have hx := B.exec
  have hb := B.bytes
  have hr := B.returns
  have hts := atoms_spec (ws := wsX2_init) B.pre
  have hown : s.vm.findClass RX2 = some m.cls := findClass_of_methodNamed B.named
  have hlocks := B.notSynchronized
  have hin : meth.name = "<init>" := (name_of_methodNamed B.named B.method).1
  subst hsz
  have hD := hD0.self (sz := s.heap.size)
  generalize hAe : va_A [(h, .inr (2, [.null, .null, .null, .null, .int 0, .null, .int 0, .int 0]))] s.heap.size = A at hD ⊢
  have hA : ∀ q : Nat, s.heap.size ≤ q → A q := fun q h => by rw [← hAe]; exact Or.inr h
  have hW : Wd (dC, dI) A s.heap ([(h, .inr (2, [.null, .null, .null, .null, .int 0, .null, .int 0, .int 0]))] : va_W) s.heap [] := ⟨hP, hD, va_S.rf⟩
  have hw := trivial
  have hiX2 : ∀ w ∈ u_ws RX2 TX2 8, w ∈ wsX2_init := fun _ h => List.mem_cons_of_mem _ (List.mem_append_right _ h)
  have k_0 := hts (.methodLink RX2 3 objectInit) (List.mem_of_getElem? (i := 1) rfl)
  have k_1 := hts (.instanceMethod objectInit) (List.mem_of_getElem? (i := 2) rfl)
  have k_2 := hts (.code objectInit ⟨#[0xb1]⟩ 1 none) (List.mem_of_getElem? (i := 3) rfl)
  have k_3 := hts (.arrayClass .int) (List.mem_of_getElem? (i := 4) rfl)
  have k_4 := hts (.fieldLink RX2 9 "OddLetsIn$Garden" "courtA" "[I") (List.mem_of_getElem? (i := 5) rfl)
  have k_5 := hts (.fieldLink RX2 15 "OddLetsIn$Garden" "courtB" "[I") (List.mem_of_getElem? (i := 6) rfl)
  have k_6 := hts (.fieldLink RX2 18 "OddLetsIn$Garden" "kind" "[I") (List.mem_of_getElem? (i := 7) rfl)
  have k_7 := hts (.fieldLink RX2 21 "OddLetsIn$Garden" "gone" "[I") (List.mem_of_getElem? (i := 8) rfl)
  have k_8 := hts (.fieldLink RX2 24 "OddLetsIn$Garden" "gates" "I") (List.mem_of_getElem? (i := 9) rfl)
  have k_9 := hts (.fieldLink RX2 28 "OddLetsIn$Garden" "court" "[I") (List.mem_of_getElem? (i := 10) rfl)
  have k_10 := hts (.fieldLink RX2 31 "OddLetsIn$Garden" "persons" "I") (List.mem_of_getElem? (i := 11) rfl)
  have k_11 := hts (.fieldLink RX2 34 "OddLetsIn$Garden" "fines" "I") (List.mem_of_getElem? (i := 12) rfl)
  have hl := lv_entry ([.ref h]) (n := 1) (Nat.le_of_ble_eq_true rfl)
  rw [lg_entry_eq]
  generalize (lg_sl ([.ref h]) ++ List.replicate (1 - (lg_sl ([.ref h])).length) Slot.unset).toArray = ls at hl ⊢
  have hl : lv_has ls 1 [(0, .ref h)] := hl
  refine lv_aload_n hx hb dX2_init_0 rfl (lv_at hl 0 rfl) ?_
  refine W.objInit hx hb hown k_0 k_1 k_2 rfl (by rw [hml]; exact hl.1) rfl dX2_init_1 (Nat.le_of_ble_eq_true rfl) (Nat.le_of_ble_eq_true rfl) ?_
  refine W.eq (g2 := F0 m 4 ls []) rfl ?_
  refine lv_aload_n hx hb dX2_init_4 rfl (lv_at hl 0 rfl) ?_
  refine lv_iconst (v := 5) hx hb dX2_init_5 (by decide) ?_
  refine zw_newi hx hb k_3 hK hA hW 5 (by decide) (by decide) (Nat.le_of_ble_eq_true rfl) (Nat.le_of_ble_eq_true rfl) (Nat.le_of_ble_eq_true rfl) dX2_init_6 (fun h_courtA H hW => ?_)
  replace hW : Wd (dC, dI) A s.heap ([(h, .inr (2, [.null, .null, .null, .null, .int 0, .null, .int 0, .int 0])), (h_courtA, .inl (cyI, 5, .inl (fun _ => 0)))] : va_W) H _ := hW
  refine zw_putF (ci := 2) (C := RX2) (T := TX2) (N := 8) (ty := .array .int) (w2 := [(h, .inr (2, [.ref h_courtA, .null, .null, .null, .int 0, .null, .int 0, .int 0])), (h_courtA, .inl (cyI, 5, .inl (fun _ => 0)))]) hx hb hts hiX2 tyX2 tyX2_ok nmX2 hown hK hW 0 rfl rfl 0 (by decide) (by decide +kernel) rfl rfl rfl hin rfl (Nat.le_of_ble_eq_true rfl) rfl k_4 dX2_init_8 (fun H locs hW => ?_)
  refine lv_aload_n hx hb dX2_init_11 rfl (lv_at hl 0 rfl) ?_
  refine lv_iconst (v := 5) hx hb dX2_init_12 (by decide) ?_
  refine zw_newi hx hb k_3 hK hA hW 5 (by decide) (by decide) (Nat.le_of_ble_eq_true rfl) (Nat.le_of_ble_eq_true rfl) (Nat.le_of_ble_eq_true rfl) dX2_init_13 (fun h_courtB H hW => ?_)
  replace hW : Wd (dC, dI) A s.heap ([(h, .inr (2, [.ref h_courtA, .null, .null, .null, .int 0, .null, .int 0, .int 0])), (h_courtA, .inl (cyI, 5, .inl (fun _ => 0))), (h_courtB, .inl (cyI, 5, .inl (fun _ => 0)))] : va_W) H _ := hW
  refine zw_putF (ci := 2) (C := RX2) (T := TX2) (N := 8) (ty := .array .int) (w2 := [(h, .inr (2, [.ref h_courtA, .ref h_courtB, .null, .null, .int 0, .null, .int 0, .int 0])), (h_courtA, .inl (cyI, 5, .inl (fun _ => 0))), (h_courtB, .inl (cyI, 5, .inl (fun _ => 0)))]) hx hb hts hiX2 tyX2 tyX2_ok nmX2 hown hK hW 0 rfl rfl 1 (by decide) (by decide +kernel) rfl rfl rfl hin rfl (Nat.le_of_ble_eq_true rfl) rfl k_5 dX2_init_15 (fun H locs hW => ?_)
  refine lv_aload_n hx hb dX2_init_18 rfl (lv_at hl 0 rfl) ?_
  refine lv_iconst (v := 5) hx hb dX2_init_19 (by decide) ?_
  refine zw_newi hx hb k_3 hK hA hW 5 (by decide) (by decide) (Nat.le_of_ble_eq_true rfl) (Nat.le_of_ble_eq_true rfl) (Nat.le_of_ble_eq_true rfl) dX2_init_20 (fun h_kind H hW => ?_)
  replace hW : Wd (dC, dI) A s.heap ([(h, .inr (2, [.ref h_courtA, .ref h_courtB, .null, .null, .int 0, .null, .int 0, .int 0])), (h_courtA, .inl (cyI, 5, .inl (fun _ => 0))), (h_courtB, .inl (cyI, 5, .inl (fun _ => 0))), (h_kind, .inl (cyI, 5, .inl (fun _ => 0)))] : va_W) H _ := hW
  refine zw_putF (ci := 2) (C := RX2) (T := TX2) (N := 8) (ty := .array .int) (w2 := [(h, .inr (2, [.ref h_courtA, .ref h_courtB, .ref h_kind, .null, .int 0, .null, .int 0, .int 0])), (h_courtA, .inl (cyI, 5, .inl (fun _ => 0))), (h_courtB, .inl (cyI, 5, .inl (fun _ => 0))), (h_kind, .inl (cyI, 5, .inl (fun _ => 0)))]) hx hb hts hiX2 tyX2 tyX2_ok nmX2 hown hK hW 0 rfl rfl 2 (by decide) (by decide +kernel) rfl rfl rfl hin rfl (Nat.le_of_ble_eq_true rfl) rfl k_6 dX2_init_22 (fun H locs hW => ?_)
  refine lv_aload_n hx hb dX2_init_25 rfl (lv_at hl 0 rfl) ?_
  refine lv_iconst (v := 5) hx hb dX2_init_26 (by decide) ?_
  refine zw_newi hx hb k_3 hK hA hW 5 (by decide) (by decide) (Nat.le_of_ble_eq_true rfl) (Nat.le_of_ble_eq_true rfl) (Nat.le_of_ble_eq_true rfl) dX2_init_27 (fun h_gone H hW => ?_)
  replace hW : Wd (dC, dI) A s.heap ([(h, .inr (2, [.ref h_courtA, .ref h_courtB, .ref h_kind, .null, .int 0, .null, .int 0, .int 0])), (h_courtA, .inl (cyI, 5, .inl (fun _ => 0))), (h_courtB, .inl (cyI, 5, .inl (fun _ => 0))), (h_kind, .inl (cyI, 5, .inl (fun _ => 0))), (h_gone, .inl (cyI, 5, .inl (fun _ => 0)))] : va_W) H _ := hW
  refine zw_putF (ci := 2) (C := RX2) (T := TX2) (N := 8) (ty := .array .int) (w2 := [(h, .inr (2, [.ref h_courtA, .ref h_courtB, .ref h_kind, .ref h_gone, .int 0, .null, .int 0, .int 0])), (h_courtA, .inl (cyI, 5, .inl (fun _ => 0))), (h_courtB, .inl (cyI, 5, .inl (fun _ => 0))), (h_kind, .inl (cyI, 5, .inl (fun _ => 0))), (h_gone, .inl (cyI, 5, .inl (fun _ => 0)))]) hx hb hts hiX2 tyX2 tyX2_ok nmX2 hown hK hW 0 rfl rfl 3 (by decide) (by decide +kernel) rfl rfl rfl hin rfl (Nat.le_of_ble_eq_true rfl) rfl k_7 dX2_init_29 (fun H locs hW => ?_)
  refine lv_aload_n hx hb dX2_init_32 rfl (lv_at hl 0 rfl) ?_
  refine lv_iconst (v := 0) hx hb dX2_init_33 (by decide) ?_
  refine zw_put (ci := 2) (C := RX2) (T := TX2) (N := 8) (w2 := [(h, .inr (2, [.ref h_courtA, .ref h_courtB, .ref h_kind, .ref h_gone, .int 0, .null, .int 0, .int 0])), (h_courtA, .inl (cyI, 5, .inl (fun _ => 0))), (h_courtB, .inl (cyI, 5, .inl (fun _ => 0))), (h_kind, .inl (cyI, 5, .inl (fun _ => 0))), (h_gone, .inl (cyI, 5, .inl (fun _ => 0)))]) hx hb hts hiX2 tyX2 tyX2_ok nmX2 hown hK hW 0 rfl rfl 4 (by decide) (by decide +kernel) rfl (Nat.le_of_ble_eq_true rfl) rfl k_8 dX2_init_34 (fun H locs hW => ?_)
  refine lv_aload_n hx hb dX2_init_37 rfl (lv_at hl 0 rfl) ?_
  refine lv_iconst (v := 3) hx hb dX2_init_38 (by decide) ?_
  refine zw_newi hx hb k_3 hK hA hW 3 (by decide) (by decide) (Nat.le_of_ble_eq_true rfl) (Nat.le_of_ble_eq_true rfl) (Nat.le_of_ble_eq_true rfl) dX2_init_39 (fun h_court H hW => ?_)
  replace hW : Wd (dC, dI) A s.heap ([(h, .inr (2, [.ref h_courtA, .ref h_courtB, .ref h_kind, .ref h_gone, .int 0, .null, .int 0, .int 0])), (h_courtA, .inl (cyI, 5, .inl (fun _ => 0))), (h_courtB, .inl (cyI, 5, .inl (fun _ => 0))), (h_kind, .inl (cyI, 5, .inl (fun _ => 0))), (h_gone, .inl (cyI, 5, .inl (fun _ => 0))), (h_court, .inl (cyI, 3, .inl (fun _ => 0)))] : va_W) H _ := hW
  refine zw_putF (ci := 2) (C := RX2) (T := TX2) (N := 8) (ty := .array .int) (w2 := [(h, .inr (2, [.ref h_courtA, .ref h_courtB, .ref h_kind, .ref h_gone, .int 0, .ref h_court, .int 0, .int 0])), (h_courtA, .inl (cyI, 5, .inl (fun _ => 0))), (h_courtB, .inl (cyI, 5, .inl (fun _ => 0))), (h_kind, .inl (cyI, 5, .inl (fun _ => 0))), (h_gone, .inl (cyI, 5, .inl (fun _ => 0))), (h_court, .inl (cyI, 3, .inl (fun _ => 0)))]) hx hb hts hiX2 tyX2 tyX2_ok nmX2 hown hK hW 0 rfl rfl 5 (by decide) (by decide +kernel) rfl rfl rfl hin rfl (Nat.le_of_ble_eq_true rfl) rfl k_9 dX2_init_41 (fun H locs hW => ?_)
  refine lv_aload_n hx hb dX2_init_44 rfl (lv_at hl 0 rfl) ?_
  refine lv_iconst (v := 2) hx hb dX2_init_45 (by decide) ?_
  refine zw_put (ci := 2) (C := RX2) (T := TX2) (N := 8) (w2 := [(h, .inr (2, [.ref h_courtA, .ref h_courtB, .ref h_kind, .ref h_gone, .int 0, .ref h_court, .int 2, .int 0])), (h_courtA, .inl (cyI, 5, .inl (fun _ => 0))), (h_courtB, .inl (cyI, 5, .inl (fun _ => 0))), (h_kind, .inl (cyI, 5, .inl (fun _ => 0))), (h_gone, .inl (cyI, 5, .inl (fun _ => 0))), (h_court, .inl (cyI, 3, .inl (fun _ => 0)))]) hx hb hts hiX2 tyX2 tyX2_ok nmX2 hown hK hW 0 rfl rfl 6 (by decide) (by decide +kernel) rfl (Nat.le_of_ble_eq_true rfl) rfl k_10 dX2_init_46 (fun H locs hW => ?_)
  refine lv_aload_n hx hb dX2_init_49 rfl (lv_at hl 0 rfl) ?_
  refine lv_iconst (v := 0) hx hb dX2_init_50 (by decide) ?_
  refine zw_put (ci := 2) (C := RX2) (T := TX2) (N := 8) (w2 := [(h, .inr (2, [.ref h_courtA, .ref h_courtB, .ref h_kind, .ref h_gone, .int 0, .ref h_court, .int 2, .int 0])), (h_courtA, .inl (cyI, 5, .inl (fun _ => 0))), (h_courtB, .inl (cyI, 5, .inl (fun _ => 0))), (h_kind, .inl (cyI, 5, .inl (fun _ => 0))), (h_gone, .inl (cyI, 5, .inl (fun _ => 0))), (h_court, .inl (cyI, 3, .inl (fun _ => 0)))]) hx hb hts hiX2 tyX2 tyX2_ok nmX2 hown hK hW 0 rfl rfl 7 (by decide) (by decide +kernel) rfl (Nat.le_of_ble_eq_true rfl) rfl k_11 dX2_init_51 (fun H locs hW => ?_)
  replace hW : Wd (dC, dI) A s.heap ([(h, .inr (2, [.ref h_courtA, .ref h_courtB, .ref h_kind, .ref h_gone, .int 0, .ref h_court, .int 2, .int 0])), (h_courtA, .inl (cyI, 5, .inl (fun _ => 0))), (h_courtB, .inl (cyI, 5, .inl (fun _ => 0))), (h_kind, .inl (cyI, 5, .inl (fun _ => 0))), (h_gone, .inl (cyI, 5, .inl (fun _ => 0))), (h_court, .inl (cyI, 3, .inl (fun _ => 0)))] : va_W) H _ := zw_perm hW [0, 1, 2, 3, 4, 5] rfl rfl
  refine zw_vret (S := Nat × Nat × Nat × Nat × Nat) (post := fun _ => True) (h_courtA, h_courtB, h_kind, h_gone, h_court) hx hb hr hlocks hK hW hw ?_ dX2_init_54
  rfl
abbrev wX2_gather (cyI cyJ cyZ : ClassId) (h h_courtA h_courtB h_kind h_gone h_court : Nat) (i_gates : Int32) (i_persons : Int32) (i_fines : Int32) (a_court : Nat → Int32) : va_W := [(h, .inr (2, [.ref h_courtA, .ref h_courtB, .ref h_kind, .ref h_gone, .int i_gates, .ref h_court, .int i_persons, .int i_fines])), (h_court, .inl (cyI, 3, .inl a_court))]
abbrev qX2_gather (dC : Nat → ClassId) (dI : Nat → Nat → Nat) (cyI cyJ cyZ : ClassId) (h h_courtA h_courtB h_kind h_gone h_court : Nat) (i_gates : Int32) (i_persons : Int32) (i_fines : Int32) (a_court : Nat → Int32) (post : Int32 → (Nat → Int32) → Prop) (A : Nat → Prop) : Array Value → State → Outcome → State → Prop := (va_Qv (fun (u : Int32 × (Nat → Int32)) => post u.1 u.2) (bW (dC, dI) (tyG cyI cyJ cyZ) A (fun u : Int32 × (Nat → Int32) => (wX2_gather cyI cyJ cyZ h h_courtA h_courtB h_kind h_gone h_court i_gates (u.1) i_fines (u.2)))) A)
set_option maxHeartbeats 4000000 in
set_option maxRecDepth 100000 in
theorem mX2_gather (l : Launch) (dC : Nat → ClassId) (dI : Nat → Nat → Nat) (cyI cyJ cyZ : ClassId) (h h_courtA h_courtB h_kind h_gone h_court : Nat) (sz : Nat) (i_gates : Int32) (i_persons : Int32) (i_fines : Int32) (a_court : Nat → Int32) (x1 : Int32) (post : Int32 → (Nat → Int32) → Prop) (hwp : PX2_gather x1 i_persons a_court post) : Met l yX2_gather wsX2_gather ({ frames := 1, cells := 0, slots := 0, locals := 23 } : Room) (va_Pc [.ref h, .int x1] (pcW (dC, dI) sz (wX2_gather cyI cyJ cyZ h h_courtA h_courtB h_kind h_gone h_court i_gates i_persons i_fines a_court) (tyG cyI cyJ cyZ))) (qX2_gather dC dI cyI cyJ cyZ h h_courtA h_courtB h_kind h_gone h_court i_gates i_persons i_fines a_court post (va_A (wX2_gather cyI cyJ cyZ h h_courtA h_courtB h_kind h_gone h_court i_gates i_persons i_fines a_court) sz)) 0 0 (va_A (wX2_gather cyI cyJ cyZ h h_courtA h_courtB h_kind h_gone h_court i_gates i_persons i_fines a_court) sz) := by
  refine Met.ofW (cc := cX2_gather) (maxL := 2) (ret := none) (by decide) rfl ?_
  intro p e s m args below meth c s₁ B hml hv
  obtain ⟨rfl, hsz, hP, hK, hD0, hN⟩ := hv
  have hx := B.exec
  have hb := B.bytes
  have hr := B.returns
  have hts := atoms_spec (ws := wsX2_gather) B.pre
  have hown : s.vm.findClass RX2 = some m.cls := findClass_of_methodNamed B.named
  have hlocks := B.notSynchronized
  subst hsz
  have hD := hD0.self (sz := s.heap.size)
  generalize hAe : va_A (wX2_gather cyI cyJ cyZ h h_courtA h_courtB h_kind h_gone h_court i_gates i_persons i_fines a_court) s.heap.size = A at hD ⊢
  have hA : ∀ q : Nat, s.heap.size ≤ q → A q := fun q h => by rw [← hAe]; exact Or.inr h
  have hW : Wd (dC, dI) A s.heap (wX2_gather cyI cyJ cyZ h h_courtA h_courtB h_kind h_gone h_court i_gates i_persons i_fines a_court) s.heap [] := ⟨hP, hD, va_S.rf⟩
  have hw := hwp
  have hiX2 : ∀ w ∈ u_ws RX2 TX2 8, w ∈ wsX2_gather := fun _ h => List.mem_cons_of_mem _ (List.mem_append_right _ h)
  have k_0 := hts (.methodLink RX2 41 Lib.Math.min.name) (List.mem_of_getElem? (i := 1) rfl)
  have k_1 := hts (.static Lib.Math.min.name) (List.mem_of_getElem? (i := 2) rfl)
  have k_2 := hts (.initialized "java/lang/Math") (List.mem_of_getElem? (i := 3) rfl)
  have k_3 := hts (.code Lib.Math.min.name Lib.Math.min.code 2 (some .int)) (List.mem_of_getElem? (i := 4) rfl)
  have k_4 := hts (.methodLink RX2 47 Lib.Math.max.name) (List.mem_of_getElem? (i := 5) rfl)
  have k_5 := hts (.static Lib.Math.max.name) (List.mem_of_getElem? (i := 6) rfl)
  have k_6 := hts (.code Lib.Math.max.name Lib.Math.max.code 2 (some .int)) (List.mem_of_getElem? (i := 7) rfl)
  have k_7 := hts (.fieldLink RX2 31 "OddLetsIn$Garden" "persons" "I") (List.mem_of_getElem? (i := 8) rfl)
  have k_8 := hts (.fieldLink RX2 28 "OddLetsIn$Garden" "court" "[I") (List.mem_of_getElem? (i := 9) rfl)
  have hl := lv_entry ([.ref h, .int x1]) (n := 2) (Nat.le_of_ble_eq_true rfl)
  rw [lg_entry_eq]
  generalize (lg_sl ([.ref h, .int x1]) ++ List.replicate (2 - (lg_sl ([.ref h, .int x1])).length) Slot.unset).toArray = ls at hl ⊢
  have hl : lv_has ls 2 [(0, .ref h), (1, .int x1)] := hl
  refine lv_aload_n hx hb dX2_gather_0 rfl (lv_at hl 0 rfl) ?_
  refine lv_iconst (v := 1) hx hb dX2_gather_1 (by decide) ?_
  refine lv_iload_n hx hb dX2_gather_2 rfl (lv_at hl 1 rfl) ?_
  refine lv_iconst (v := 3) hx hb dX2_gather_3 (by decide) ?_
  refine va_mmin hx hb (hml.trans hl.1.symm) hown k_0 k_1 k_2 k_3 (Nat.le_of_ble_eq_true rfl) (Nat.le_of_ble_eq_true rfl) (Nat.zero_le _) (Nat.zero_le _) dX2_gather_4 ?_
  refine va_mmax hx hb (hml.trans hl.1.symm) hown k_4 k_5 k_2 k_6 (Nat.le_of_ble_eq_true rfl) (Nat.le_of_ble_eq_true rfl) (Nat.zero_le _) (Nat.zero_le _) dX2_gather_7 ?_
  refine lv_topi (fun i_1 ei_1 => ?_)
  replace hw := hw i_1 ei_1
  refine zw_put (ci := 2) (C := RX2) (T := TX2) (N := 8) (w2 := (wX2_gather cyI cyJ cyZ h h_courtA h_courtB h_kind h_gone h_court i_gates i_1 i_fines a_court)) hx hb hts hiX2 tyX2 tyX2_ok nmX2 hown hK hW 0 rfl rfl 6 (by decide) (by decide +kernel) rfl (Nat.le_of_ble_eq_true rfl) rfl k_7 dX2_gather_10 (fun H locs hW => ?_)
  refine lv_aload_n hx hb dX2_gather_13 rfl (lv_at hl 0 rfl) ?_
  refine zw_get (ci := 2) (C := RX2) (T := TX2) (N := 8) (v := .ref h_court) hx hb hts hiX2 hown hK hW 0 rfl rfl 5 (by decide) rfl k_8 dX2_gather_14 ?_
  refine lv_iconst (v := 0) hx hb dX2_gather_17 (by decide) ?_
  refine zw_Sv ⟨hx, hb, hml, hown, hts⟩ hK hN hA hW [.ref h_court, .int 0] [] [1] [0] [0, 1] (fun u => (wX2_gather cyI cyJ cyZ h h_courtA h_courtB h_kind h_gone h_court i_gates i_1 i_fines u)) (mJ7_fill_53178 l dC dI cyI cyJ cyZ h_court 3 _ a_court 0 _ hw) (va_cwS 2 hts gX2_gather_J7_fill_53178 rfl rfl rfl (by decide +kernel) ⟨Nat.le_of_ble_eq_true rfl, Nat.le_of_ble_eq_true rfl⟩) rfl rfl rfl rfl (by decide) rfl (fun _ => rfl) rfl hl.1 rfl (Nat.le_of_ble_eq_true rfl) (Nat.le_of_ble_eq_true rfl) (Nat.le_of_ble_eq_true rfl) dX2_gather_18 (fun u H locs hw hW => ?_)
  obtain ⟨a_court_2, rfl⟩ : ∃ z, z = u := ⟨_, rfl⟩
  replace hW : Wd (dC, dI) A s.heap (wX2_gather cyI cyJ cyZ h h_courtA h_courtB h_kind h_gone h_court i_gates i_1 i_fines a_court_2) H locs := hW
  refine zw_vret (S := Int32 × (Nat → Int32)) (post := fun u => post u.1 u.2) (i_1, a_court_2) hx hb hr hlocks hK hW hw ?_ dX2_gather_21
  rfl
abbrev wX2_clear (cyI cyJ cyZ : ClassId) (h h_courtA h_courtB h_kind h_gone h_court : Nat) (i_gates : Int32) (i_persons : Int32) (i_fines : Int32) (a_court : Nat → Int32) : va_W := [(h, .inr (2, [.ref h_courtA, .ref h_courtB, .ref h_kind, .ref h_gone, .int i_gates, .ref h_court, .int i_persons, .int i_fines])), (h_court, .inl (cyI, 3, .inl a_court))]
abbrev qX2_clear (dC : Nat → ClassId) (dI : Nat → Nat → Nat) (cyI cyJ cyZ : ClassId) (h h_courtA h_courtB h_kind h_gone h_court : Nat) (i_gates : Int32) (i_persons : Int32) (i_fines : Int32) (a_court : Nat → Int32) (post : Int32 → Int32 → Int32 → (Nat → Int32) → Prop) (A : Nat → Prop) : Array Value → State → Outcome → State → Prop := (va_Qv (fun (u : Int32 × Int32 × Int32 × (Nat → Int32)) => post u.1 u.2.1 u.2.2.1 u.2.2.2) (bW (dC, dI) (tyG cyI cyJ cyZ) A (fun u : Int32 × Int32 × Int32 × (Nat → Int32) => (wX2_clear cyI cyJ cyZ h h_courtA h_courtB h_kind h_gone h_court (u.1) (u.2.1) (u.2.2.1) (u.2.2.2)))) A)
set_option maxHeartbeats 4000000 in
set_option maxRecDepth 100000 in
theorem mX2_clear (l : Launch) (dC : Nat → ClassId) (dI : Nat → Nat → Nat) (cyI cyJ cyZ : ClassId) (h h_courtA h_courtB h_kind h_gone h_court : Nat) (sz : Nat) (i_gates : Int32) (i_persons : Int32) (i_fines : Int32) (a_court : Nat → Int32) (post : Int32 → Int32 → Int32 → (Nat → Int32) → Prop) (hwp : PX2_clear i_gates i_persons i_fines a_court post) : Met l yX2_clear wsX2_clear ({ frames := 2, cells := 0, slots := 0, locals := 44 } : Room) (va_Pc [.ref h] (pcW (dC, dI) sz (wX2_clear cyI cyJ cyZ h h_courtA h_courtB h_kind h_gone h_court i_gates i_persons i_fines a_court) (tyG cyI cyJ cyZ))) (qX2_clear dC dI cyI cyJ cyZ h h_courtA h_courtB h_kind h_gone h_court i_gates i_persons i_fines a_court post (va_A (wX2_clear cyI cyJ cyZ h h_courtA h_courtB h_kind h_gone h_court i_gates i_persons i_fines a_court) sz)) 0 0 (va_A (wX2_clear cyI cyJ cyZ h h_courtA h_courtB h_kind h_gone h_court i_gates i_persons i_fines a_court) sz) := by
  refine Met.ofW (cc := cX2_clear) (maxL := 1) (ret := none) (by decide) rfl ?_
  intro p e s m args below meth c s₁ B hml hv
  obtain ⟨rfl, hsz, hP, hK, hD0, hN⟩ := hv
  have hx := B.exec
  have hb := B.bytes
  have hr := B.returns
  have hts := atoms_spec (ws := wsX2_clear) B.pre
  have hown : s.vm.findClass RX2 = some m.cls := findClass_of_methodNamed B.named
  have hlocks := B.notSynchronized
  subst hsz
  have hD := hD0.self (sz := s.heap.size)
  generalize hAe : va_A (wX2_clear cyI cyJ cyZ h h_courtA h_courtB h_kind h_gone h_court i_gates i_persons i_fines a_court) s.heap.size = A at hD ⊢
  have hA : ∀ q : Nat, s.heap.size ≤ q → A q := fun q h => by rw [← hAe]; exact Or.inr h
  have hW : Wd (dC, dI) A s.heap (wX2_clear cyI cyJ cyZ h h_courtA h_courtB h_kind h_gone h_court i_gates i_persons i_fines a_court) s.heap [] := ⟨hP, hD, va_S.rf⟩
  have hw := hwp
  have hiX2 : ∀ w ∈ u_ws RX2 TX2 8, w ∈ wsX2_clear := fun _ h => List.mem_cons_of_mem _ (List.mem_append_right _ h)
  have k_0 := hts (.fieldLink RX2 24 "OddLetsIn$Garden" "gates" "I") (List.mem_of_getElem? (i := 1) rfl)
  have k_1 := hts (.fieldLink RX2 34 "OddLetsIn$Garden" "fines" "I") (List.mem_of_getElem? (i := 2) rfl)
  have hl := lv_entry ([.ref h]) (n := 1) (Nat.le_of_ble_eq_true rfl)
  rw [lg_entry_eq]
  generalize (lg_sl ([.ref h]) ++ List.replicate (1 - (lg_sl ([.ref h])).length) Slot.unset).toArray = ls at hl ⊢
  have hl : lv_has ls 1 [(0, .ref h)] := hl
  refine lv_aload_n hx hb dX2_clear_0 rfl (lv_at hl 0 rfl) ?_
  refine lv_iconst (v := 0) hx hb dX2_clear_1 (by decide) ?_
  refine zw_put (ci := 2) (C := RX2) (T := TX2) (N := 8) (w2 := (wX2_clear cyI cyJ cyZ h h_courtA h_courtB h_kind h_gone h_court 0 i_persons i_fines a_court)) hx hb hts hiX2 tyX2 tyX2_ok nmX2 hown hK hW 0 rfl rfl 4 (by decide) (by decide +kernel) rfl (Nat.le_of_ble_eq_true rfl) rfl k_0 dX2_clear_2 (fun H locs hW => ?_)
  refine lv_aload_n hx hb dX2_clear_5 rfl (lv_at hl 0 rfl) ?_
  refine lv_iconst (v := 0) hx hb dX2_clear_6 (by decide) ?_
  refine zw_put (ci := 2) (C := RX2) (T := TX2) (N := 8) (w2 := (wX2_clear cyI cyJ cyZ h h_courtA h_courtB h_kind h_gone h_court 0 i_persons 0 a_court)) hx hb hts hiX2 tyX2 tyX2_ok nmX2 hown hK hW 0 rfl rfl 7 (by decide) (by decide +kernel) rfl (Nat.le_of_ble_eq_true rfl) rfl k_1 dX2_clear_7 (fun H locs hW => ?_)
  refine lv_aload_n hx hb dX2_clear_10 rfl (lv_at hl 0 rfl) ?_
  refine lv_iconst (v := 2) hx hb dX2_clear_11 (by decide) ?_
  refine zw_Vv ⟨hx, hb, hml, hown, hts⟩ hK hN hA hW 0 rfl (T := TX2) (N := 8) rfl [.int 2] [] [0, 1] [] [0, 1] (fun u => (wX2_clear cyI cyJ cyZ h h_courtA h_courtB h_kind h_gone h_court 0 (u.1) 0 (u.2))) (mX2_gather l dC dI cyI cyJ cyZ h h_courtA h_courtB h_kind h_gone h_court _ 0 i_persons 0 a_court 2 _ hw) (cwV 1 hts gX2_clear_X2_gather rfl rfl rfl (by decide +kernel) ⟨Nat.le_of_ble_eq_true rfl, Nat.le_of_ble_eq_true rfl⟩) rfl rfl rfl rfl (by decide) rfl (fun _ => rfl) rfl hl.1 rfl (Nat.le_of_ble_eq_true rfl) (Nat.le_of_ble_eq_true rfl) (Nat.le_of_ble_eq_true rfl) dX2_clear_12 (fun u H locs hw hW => ?_)
  obtain ⟨i_persons_1, a_court_2⟩ := u
  try dsimp only at hw
  replace hW : Wd (dC, dI) A s.heap (wX2_clear cyI cyJ cyZ h h_courtA h_courtB h_kind h_gone h_court 0 i_persons_1 0 a_court_2) H locs := hW
  refine zw_vret (S := Int32 × Int32 × Int32 × (Nat → Int32)) (post := fun u => post u.1 u.2.1 u.2.2.1 u.2.2.2) (0, i_persons_1, 0, a_court_2) hx hb hr hlocks hK hW hw ?_ dX2_clear_15
  rfl
abbrev wX7_isCourt (cyI cyJ cyZ : ClassId) : va_W := []
abbrev qX7_isCourt (dC : Nat → ClassId) (dI : Nat → Nat → Nat) (cyI cyJ cyZ : ClassId) (post : Int32 → Prop) (A : Nat → Prop) : Array Value → State → Outcome → State → Prop := (va_Qi (fun (r : Int32) (u : Unit) => (r = 0 ∨ r = 1) ∧ post r) (bW (dC, dI) (tyG cyI cyJ cyZ) A (fun _ : Unit => (wX7_isCourt cyI cyJ cyZ))) A)
set_option maxHeartbeats 4000000 in
set_option maxRecDepth 100000 in
theorem mX7_isCourt (l : Launch) (dC : Nat → ClassId) (dI : Nat → Nat → Nat) (cyI cyJ cyZ : ClassId) (sz : Nat) (x0 : Int32) (post : Int32 → Prop) (hwp : PX7_isCourt x0 post) : Met l yX7_isCourt wsX7_isCourt ({ frames := 0, cells := 0, slots := 0, locals := 0 } : Room) (va_Pc [.int x0] (pcW (dC, dI) sz (wX7_isCourt cyI cyJ cyZ) (tyG cyI cyJ cyZ))) (qX7_isCourt dC dI cyI cyJ cyZ post (va_A (wX7_isCourt cyI cyJ cyZ) sz)) 0 0 (va_A (wX7_isCourt cyI cyJ cyZ) sz) := by
  refine Met.ofW (cc := cX7_isCourt) (maxL := 1) (ret := some .boolean) (by decide) rfl ?_
  intro p e s m args below meth c s₁ B hml hv
  obtain ⟨rfl, hsz, hP, hK, hD0, hN⟩ := hv
  have hx := B.exec
  have hb := B.bytes
  have hr := B.returns
  have hts := atoms_spec (ws := wsX7_isCourt) B.pre
  have hown : s.vm.findClass RX7 = some m.cls := findClass_of_methodNamed B.named
  have hlocks := B.notSynchronized
  subst hsz
  have hD := hD0.self (sz := s.heap.size)
  generalize hAe : va_A (wX7_isCourt cyI cyJ cyZ) s.heap.size = A at hD ⊢
  have hA : ∀ q : Nat, s.heap.size ≤ q → A q := fun q h => by rw [← hAe]; exact Or.inr h
  have hW : Wd (dC, dI) A s.heap (wX7_isCourt cyI cyJ cyZ) s.heap [] := ⟨hP, hD, va_S.rf⟩
  have hw := hwp
  have hl := lv_entry ([.int x0]) (n := 1) (Nat.le_of_ble_eq_true rfl)
  rw [lg_entry_eq]
  generalize (lg_sl ([.int x0]) ++ List.replicate (1 - (lg_sl ([.int x0])).length) Slot.unset).toArray = ls at hl ⊢
  have hl : lv_has ls 1 [(0, .int x0)] := hl
  refine lv_iload_n hx hb dX7_isCourt_0 rfl (lv_at hl 0 rfl) ?_
  refine lv_if_lt (tgt := 13) hx hb dX7_isCourt_1 (by decide) (fun c_1 => ?_) (fun c_1 => ?_)
  · replace hw := hw.1 c_1
    refine lv_iconst (v := 0) hx hb dX7_isCourt_13 (by decide) ?_
    refine zw_zret (S := Unit) (post := fun r u => post r) () hx hb hr hlocks hK hW (Or.inl rfl) hw ?_ dX7_isCourt_14
    rfl
  · replace hw := hw.2 c_1
    refine lv_iload_n hx hb dX7_isCourt_4 rfl (lv_at hl 0 rfl) ?_
    refine lv_iconst (v := 5) hx hb dX7_isCourt_5 (by decide) ?_
    refine lv_icmp_ge (tgt := 13) hx hb dX7_isCourt_6 (by decide) (fun c_2 => ?_) (fun c_2 => ?_)
    · replace hw := hw.1 c_2
      refine lv_iconst (v := 0) hx hb dX7_isCourt_13 (by decide) ?_
      refine zw_zret (S := Unit) (post := fun r u => post r) () hx hb hr hlocks hK hW (Or.inl rfl) hw ?_ dX7_isCourt_14
      rfl
    · replace hw := hw.2 c_2
      refine lv_iconst (v := 1) hx hb dX7_isCourt_9 (by decide) ?_
      refine lv_goto (tgt := 14) hx hb dX7_isCourt_10 (by decide) ?_
      refine zw_zret (S := Unit) (post := fun r u => post r) () hx hb hr hlocks hK hW (Or.inr rfl) hw ?_ dX7_isCourt_14
      rfl
abbrev wX2_addGate (cyI cyJ cyZ : ClassId) (h h_courtA h_courtB h_kind h_gone h_court : Nat) (i_gates : Int32) (i_persons : Int32) (i_fines : Int32) (a_courtA : Nat → Int32) (a_courtB : Nat → Int32) (a_kind : Nat → Int32) (a_gone : Nat → Int32) : va_W := [(h, .inr (2, [.ref h_courtA, .ref h_courtB, .ref h_kind, .ref h_gone, .int i_gates, .ref h_court, .int i_persons, .int i_fines])), (h_courtA, .inl (cyI, 5, .inl a_courtA)), (h_courtB, .inl (cyI, 5, .inl a_courtB)), (h_kind, .inl (cyI, 5, .inl a_kind)), (h_gone, .inl (cyI, 5, .inl a_gone))]
abbrev qX2_addGate (dC : Nat → ClassId) (dI : Nat → Nat → Nat) (cyI cyJ cyZ : ClassId) (h h_courtA h_courtB h_kind h_gone h_court : Nat) (i_gates : Int32) (i_persons : Int32) (i_fines : Int32) (a_courtA : Nat → Int32) (a_courtB : Nat → Int32) (a_kind : Nat → Int32) (a_gone : Nat → Int32) (post : Int32 → Int32 → (Nat → Int32) → (Nat → Int32) → (Nat → Int32) → (Nat → Int32) → Prop) (A : Nat → Prop) : Array Value → State → Outcome → State → Prop := (va_Qi (fun (r : Int32) (u : Int32 × (Nat → Int32) × (Nat → Int32) × (Nat → Int32) × (Nat → Int32)) => (r = 0 ∨ r = 1) ∧ post r u.1 u.2.1 u.2.2.1 u.2.2.2.1 u.2.2.2.2) (bW (dC, dI) (tyG cyI cyJ cyZ) A (fun u : Int32 × (Nat → Int32) × (Nat → Int32) × (Nat → Int32) × (Nat → Int32) => (wX2_addGate cyI cyJ cyZ h h_courtA h_courtB h_kind h_gone h_court (u.1) i_persons i_fines (u.2.1) (u.2.2.1) (u.2.2.2.1) (u.2.2.2.2)))) A)
set_option maxHeartbeats 4000000 in
set_option maxRecDepth 100000 in
theorem mX2_addGate (l : Launch) (dC : Nat → ClassId) (dI : Nat → Nat → Nat) (cyI cyJ cyZ : ClassId) (h h_courtA h_courtB h_kind h_gone h_court : Nat) (sz : Nat) (i_gates : Int32) (i_persons : Int32) (i_fines : Int32) (a_courtA : Nat → Int32) (a_courtB : Nat → Int32) (a_kind : Nat → Int32) (a_gone : Nat → Int32) (x1 : Int32) (x2 : Int32) (x3 : Int32) (x4 : Int32) (post : Int32 → Int32 → (Nat → Int32) → (Nat → Int32) → (Nat → Int32) → (Nat → Int32) → Prop) (hwp : PX2_addGate x1 x2 x3 x4 i_gates a_courtA a_courtB a_kind a_gone post) : Met l yX2_addGate wsX2_addGate ({ frames := 1, cells := 0, slots := 0, locals := 20 } : Room) (va_Pc [.ref h, .int x1, .int x2, .int x3, .int x4] (pcW (dC, dI) sz (wX2_addGate cyI cyJ cyZ h h_courtA h_courtB h_kind h_gone h_court i_gates i_persons i_fines a_courtA a_courtB a_kind a_gone) (tyG cyI cyJ cyZ))) (qX2_addGate dC dI cyI cyJ cyZ h h_courtA h_courtB h_kind h_gone h_court i_gates i_persons i_fines a_courtA a_courtB a_kind a_gone post (va_A (wX2_addGate cyI cyJ cyZ h h_courtA h_courtB h_kind h_gone h_court i_gates i_persons i_fines a_courtA a_courtB a_kind a_gone) sz)) 0 0 (va_A (wX2_addGate cyI cyJ cyZ h h_courtA h_courtB h_kind h_gone h_court i_gates i_persons i_fines a_courtA a_courtB a_kind a_gone) sz) := by
  refine Met.ofW (cc := cX2_addGate) (maxL := 5) (ret := some .boolean) (by decide) rfl ?_
  intro p e s m args below meth c s₁ B hml hv
  obtain ⟨rfl, hsz, hP, hK, hD0, hN⟩ := hv
  have hx := B.exec
  have hb := B.bytes
  have hr := B.returns
  have hts := atoms_spec (ws := wsX2_addGate) B.pre
  have hown : s.vm.findClass RX2 = some m.cls := findClass_of_methodNamed B.named
  have hlocks := B.notSynchronized
  subst hsz
  have hD := hD0.self (sz := s.heap.size)
  generalize hAe : va_A (wX2_addGate cyI cyJ cyZ h h_courtA h_courtB h_kind h_gone h_court i_gates i_persons i_fines a_courtA a_courtB a_kind a_gone) s.heap.size = A at hD ⊢
  have hA : ∀ q : Nat, s.heap.size ≤ q → A q := fun q h => by rw [← hAe]; exact Or.inr h
  have hW : Wd (dC, dI) A s.heap (wX2_addGate cyI cyJ cyZ h h_courtA h_courtB h_kind h_gone h_court i_gates i_persons i_fines a_courtA a_courtB a_kind a_gone) s.heap [] := ⟨hP, hD, va_S.rf⟩
  have hw := hwp
  have hiX2 : ∀ w ∈ u_ws RX2 TX2 8, w ∈ wsX2_addGate := fun _ h => List.mem_cons_of_mem _ (List.mem_append_right _ h)
  have k_0 := hts (.fieldLink RX2 9 "OddLetsIn$Garden" "courtA" "[I") (List.mem_of_getElem? (i := 2) rfl)
  have k_1 := hts (.fieldLink RX2 24 "OddLetsIn$Garden" "gates" "I") (List.mem_of_getElem? (i := 1) rfl)
  have k_2 := hts (.fieldLink RX2 15 "OddLetsIn$Garden" "courtB" "[I") (List.mem_of_getElem? (i := 3) rfl)
  have k_3 := hts (.fieldLink RX2 18 "OddLetsIn$Garden" "kind" "[I") (List.mem_of_getElem? (i := 4) rfl)
  have k_4 := hts (.fieldLink RX2 21 "OddLetsIn$Garden" "gone" "[I") (List.mem_of_getElem? (i := 5) rfl)
  have k_5 := hts (.initialized RX7) (List.mem_of_getElem? (i := 7) rfl)
  have k_6 := hts (.static yX7_isCourt) (List.mem_of_getElem? (i := 6) rfl)
  have W_50 : ∀ (i_gates : Int32) (a_courtA : Nat → Int32) (a_courtB : Nat → Int32) (a_kind : Nat → Int32) (a_gone : Nat → Int32) (H : Heap) (locs : List Loc) (ls : Array Slot), Wd (dC, dI) A s.heap (wX2_addGate cyI cyJ cyZ h h_courtA h_courtB h_kind h_gone h_court i_gates i_persons i_fines a_courtA a_courtB a_kind a_gone) H locs → lv_has ls 5 [(0, .ref h), (1, .int x1), (2, .int x2), (3, .int x3), (4, .int x4)] → PX2_addGate_50 post x1 x2 x3 x4 i_gates a_courtA a_courtB a_kind a_gone → W p l e (({ frames := 1, cells := 0, slots := 0, locals := 20 } : Room)) s m (([.ref h, .int x1, .int x2, .int x3, .int x4] : List Value).toArray) below meth c H locs 0 0 (MQ below (qX2_addGate dC dI cyI cyJ cyZ h h_courtA h_courtB h_kind h_gone h_court i_gates i_persons i_fines a_courtA a_courtB a_kind a_gone post A) (([.ref h, .int x1, .int x2, .int x3, .int x4] : List Value).toArray) s 0 0 A) (F0 m 50 ls []) := by
    intro i_gates a_courtA a_courtB a_kind a_gone H locs ls hW hl hw
    refine lv_iload hx hb dX2_addGate_50 (lv_at hl 4 rfl) ?_
    refine lv_if_ge (tgt := 57) hx hb dX2_addGate_52 (by decide) (fun c_1 => ?_) (fun c_1 => ?_)
    · replace hw := hw.1 c_1
      refine lv_aload_n hx hb dX2_addGate_57 rfl (lv_at hl 0 rfl) ?_
      refine zw_get (ci := 2) (C := RX2) (T := TX2) (N := 8) (v := .ref h_courtA) hx hb hts hiX2 hown hK hW 0 rfl rfl 0 (by decide) rfl k_0 dX2_addGate_58 ?_
      refine lv_aload_n hx hb dX2_addGate_61 rfl (lv_at hl 0 rfl) ?_
      refine zw_get (ci := 2) (C := RX2) (T := TX2) (N := 8) (v := .int i_gates) hx hb hts hiX2 hown hK hW 0 rfl rfl 4 (by decide) rfl k_1 dX2_addGate_62 ?_
      refine lv_iload_n hx hb dX2_addGate_65 rfl (lv_at hl 1 rfl) ?_
      refine zw_iast hx hb hK hW 1 rfl rfl hw.1 (w2 := fun a_courtA_2 => (wX2_addGate cyI cyJ cyZ h h_courtA h_courtB h_kind h_gone h_court i_gates i_persons i_fines a_courtA_2 a_courtB a_kind a_gone)) (fun _ => rfl) dX2_addGate_66 (fun a_courtA_2 H locs ea_courtA_2 hW => ?_)
      replace hw := hw.2 a_courtA_2 ea_courtA_2
      refine lv_aload_n hx hb dX2_addGate_67 rfl (lv_at hl 0 rfl) ?_
      refine zw_get (ci := 2) (C := RX2) (T := TX2) (N := 8) (v := .ref h_courtB) hx hb hts hiX2 hown hK hW 0 rfl rfl 1 (by decide) rfl k_2 dX2_addGate_68 ?_
      refine lv_aload_n hx hb dX2_addGate_71 rfl (lv_at hl 0 rfl) ?_
      refine zw_get (ci := 2) (C := RX2) (T := TX2) (N := 8) (v := .int i_gates) hx hb hts hiX2 hown hK hW 0 rfl rfl 4 (by decide) rfl k_1 dX2_addGate_72 ?_
      refine lv_iload_n hx hb dX2_addGate_75 rfl (lv_at hl 2 rfl) ?_
      refine zw_iast hx hb hK hW 2 rfl rfl hw.1 (w2 := fun a_courtB_3 => (wX2_addGate cyI cyJ cyZ h h_courtA h_courtB h_kind h_gone h_court i_gates i_persons i_fines a_courtA_2 a_courtB_3 a_kind a_gone)) (fun _ => rfl) dX2_addGate_76 (fun a_courtB_3 H locs ea_courtB_3 hW => ?_)
      replace hw := hw.2 a_courtB_3 ea_courtB_3
      refine lv_aload_n hx hb dX2_addGate_77 rfl (lv_at hl 0 rfl) ?_
      refine zw_get (ci := 2) (C := RX2) (T := TX2) (N := 8) (v := .ref h_kind) hx hb hts hiX2 hown hK hW 0 rfl rfl 2 (by decide) rfl k_3 dX2_addGate_78 ?_
      refine lv_aload_n hx hb dX2_addGate_81 rfl (lv_at hl 0 rfl) ?_
      refine zw_get (ci := 2) (C := RX2) (T := TX2) (N := 8) (v := .int i_gates) hx hb hts hiX2 hown hK hW 0 rfl rfl 4 (by decide) rfl k_1 dX2_addGate_82 ?_
      refine lv_iload_n hx hb dX2_addGate_85 rfl (lv_at hl 3 rfl) ?_
      refine zw_iast hx hb hK hW 3 rfl rfl hw.1 (w2 := fun a_kind_4 => (wX2_addGate cyI cyJ cyZ h h_courtA h_courtB h_kind h_gone h_court i_gates i_persons i_fines a_courtA_2 a_courtB_3 a_kind_4 a_gone)) (fun _ => rfl) dX2_addGate_86 (fun a_kind_4 H locs ea_kind_4 hW => ?_)
      replace hw := hw.2 a_kind_4 ea_kind_4
      refine lv_aload_n hx hb dX2_addGate_87 rfl (lv_at hl 0 rfl) ?_
      refine zw_get (ci := 2) (C := RX2) (T := TX2) (N := 8) (v := .ref h_gone) hx hb hts hiX2 hown hK hW 0 rfl rfl 3 (by decide) rfl k_4 dX2_addGate_88 ?_
      refine lv_aload_n hx hb dX2_addGate_91 rfl (lv_at hl 0 rfl) ?_
      refine zw_get (ci := 2) (C := RX2) (T := TX2) (N := 8) (v := .int i_gates) hx hb hts hiX2 hown hK hW 0 rfl rfl 4 (by decide) rfl k_1 dX2_addGate_92 ?_
      refine lv_iload hx hb dX2_addGate_95 (lv_at hl 4 rfl) ?_
      refine zw_iast hx hb hK hW 4 rfl rfl hw.1 (w2 := fun a_gone_5 => (wX2_addGate cyI cyJ cyZ h h_courtA h_courtB h_kind h_gone h_court i_gates i_persons i_fines a_courtA_2 a_courtB_3 a_kind_4 a_gone_5)) (fun _ => rfl) dX2_addGate_97 (fun a_gone_5 H locs ea_gone_5 hW => ?_)
      replace hw := hw.2 a_gone_5 ea_gone_5
      refine lv_aload_n hx hb dX2_addGate_98 rfl (lv_at hl 0 rfl) ?_
      refine lv_dup hx hb dX2_addGate_99 rfl ?_
      refine zw_get (ci := 2) (C := RX2) (T := TX2) (N := 8) (v := .int i_gates) hx hb hts hiX2 hown hK hW 0 rfl rfl 4 (by decide) rfl k_1 dX2_addGate_100 ?_
      refine lv_iconst (v := 1) hx hb dX2_addGate_103 (by decide) ?_
      refine lv_iadd hx hb dX2_addGate_104 ?_
      refine lv_topi (fun i_6 ei_6 => ?_)
      replace hw := hw i_6 ei_6
      refine zw_put (ci := 2) (C := RX2) (T := TX2) (N := 8) (w2 := (wX2_addGate cyI cyJ cyZ h h_courtA h_courtB h_kind h_gone h_court i_6 i_persons i_fines a_courtA_2 a_courtB_3 a_kind_4 a_gone_5)) hx hb hts hiX2 tyX2 tyX2_ok nmX2 hown hK hW 0 rfl rfl 4 (by decide) (by decide +kernel) rfl (Nat.le_of_ble_eq_true rfl) rfl k_1 dX2_addGate_105 (fun H locs hW => ?_)
      refine lv_iconst (v := 1) hx hb dX2_addGate_108 (by decide) ?_
      refine zw_zret (S := Int32 × (Nat → Int32) × (Nat → Int32) × (Nat → Int32) × (Nat → Int32)) (post := fun r u => post r u.1 u.2.1 u.2.2.1 u.2.2.2.1 u.2.2.2.2) (i_6, a_courtA_2, a_courtB_3, a_kind_4, a_gone_5) hx hb hr hlocks hK hW (Or.inr rfl) hw ?_ dX2_addGate_109
      rfl
    · replace hw := hw.2 c_1
      refine lv_iconst (v := 0) hx hb dX2_addGate_55 (by decide) ?_
      refine zw_zret (S := Int32 × (Nat → Int32) × (Nat → Int32) × (Nat → Int32) × (Nat → Int32)) (post := fun r u => post r u.1 u.2.1 u.2.2.1 u.2.2.2.1 u.2.2.2.2) (i_gates, a_courtA, a_courtB, a_kind, a_gone) hx hb hr hlocks hK hW (Or.inl rfl) hw ?_ dX2_addGate_56
      rfl
  have hl := lv_entry ([.ref h, .int x1, .int x2, .int x3, .int x4]) (n := 5) (Nat.le_of_ble_eq_true rfl)
  rw [lg_entry_eq]
  generalize (lg_sl ([.ref h, .int x1, .int x2, .int x3, .int x4]) ++ List.replicate (5 - (lg_sl ([.ref h, .int x1, .int x2, .int x3, .int x4])).length) Slot.unset).toArray = ls at hl ⊢
  have hl : lv_has ls 5 [(0, .ref h), (1, .int x1), (2, .int x2), (3, .int x3), (4, .int x4)] := hl
  refine lv_aload_n hx hb dX2_addGate_0 rfl (lv_at hl 0 rfl) ?_
  refine zw_get (ci := 2) (C := RX2) (T := TX2) (N := 8) (v := .int i_gates) hx hb hts hiX2 hown hK hW 0 rfl rfl 4 (by decide) rfl k_1 dX2_addGate_1 ?_
  refine lv_iconst (v := 5) hx hb dX2_addGate_4 (by decide) ?_
  refine lv_icmp_ge (tgt := 27) hx hb dX2_addGate_5 (by decide) (fun c_7 => ?_) (fun c_7 => ?_)
  · replace hw := hw.1 c_7
    refine lv_iconst (v := 0) hx hb dX2_addGate_27 (by decide) ?_
    refine zw_zret (S := Int32 × (Nat → Int32) × (Nat → Int32) × (Nat → Int32) × (Nat → Int32)) (post := fun r u => post r u.1 u.2.1 u.2.2.1 u.2.2.2.1 u.2.2.2.2) (i_gates, a_courtA, a_courtB, a_kind, a_gone) hx hb hr hlocks hK hW (Or.inl rfl) hw ?_ dX2_addGate_28
    rfl
  · replace hw := hw.2 c_7
    refine lv_iload_n hx hb dX2_addGate_8 rfl (lv_at hl 1 rfl) ?_
    refine zw_SNi ⟨hx, hb, hml, hown, hts⟩ hK hN hA hW [.int x1] [] [] [0, 1, 2, 3, 4] [0, 1, 2, 3, 4] (fun _ => (wX2_addGate cyI cyJ cyZ h h_courtA h_courtB h_kind h_gone h_court i_gates i_persons i_fines a_courtA a_courtB a_kind a_gone)) (mX7_isCourt l dC dI cyI cyJ cyZ _ x1 _ hw) ⟨va_cnB 1 hts gX2_addGate_X7_isCourt_n56 rfl rfl rfl hN.2.2.2.2.2.2.2.2 k_5 (by decide +kernel) ⟨Nat.le_of_ble_eq_true rfl, Nat.le_of_ble_eq_true rfl⟩, k_6, trivial⟩ rfl rfl rfl rfl (by decide) rfl (fun _ => rfl) rfl hl.1 rfl (Nat.le_of_ble_eq_true rfl) (Nat.le_of_ble_eq_true rfl) (Nat.le_of_ble_eq_true rfl) dX2_addGate_9 (fun r_8 u H locs hw hW => ?_)
    obtain ⟨br_8, hw⟩ := hw
    refine lv_if_eq (tgt := 27) hx hb dX2_addGate_12 (by decide) (fun c_9 => ?_) (fun c_9 => ?_)
    · replace hw := hw.1 c_9
      refine lv_iconst (v := 0) hx hb dX2_addGate_27 (by decide) ?_
      refine zw_zret (S := Int32 × (Nat → Int32) × (Nat → Int32) × (Nat → Int32) × (Nat → Int32)) (post := fun r u => post r u.1 u.2.1 u.2.2.1 u.2.2.2.1 u.2.2.2.2) (i_gates, a_courtA, a_courtB, a_kind, a_gone) hx hb hr hlocks hK hW (Or.inl rfl) hw ?_ dX2_addGate_28
      rfl
    · replace hw := hw.2 c_9
      refine lv_iload_n hx hb dX2_addGate_15 rfl (lv_at hl 2 rfl) ?_
      refine zw_SNi ⟨hx, hb, hml, hown, hts⟩ hK hN hA hW [.int x2] [] [] [0, 1, 2, 3, 4] [0, 1, 2, 3, 4] (fun _ => (wX2_addGate cyI cyJ cyZ h h_courtA h_courtB h_kind h_gone h_court i_gates i_persons i_fines a_courtA a_courtB a_kind a_gone)) (mX7_isCourt l dC dI cyI cyJ cyZ _ x2 _ hw) ⟨va_cnB 1 hts gX2_addGate_X7_isCourt_n56 rfl rfl rfl hN.2.2.2.2.2.2.2.2 k_5 (by decide +kernel) ⟨Nat.le_of_ble_eq_true rfl, Nat.le_of_ble_eq_true rfl⟩, k_6, trivial⟩ rfl rfl rfl rfl (by decide) rfl (fun _ => rfl) rfl hl.1 rfl (Nat.le_of_ble_eq_true rfl) (Nat.le_of_ble_eq_true rfl) (Nat.le_of_ble_eq_true rfl) dX2_addGate_16 (fun r_10 u H locs hw hW => ?_)
      obtain ⟨br_10, hw⟩ := hw
      refine lv_if_eq (tgt := 27) hx hb dX2_addGate_19 (by decide) (fun c_11 => ?_) (fun c_11 => ?_)
      · replace hw := hw.1 c_11
        refine lv_iconst (v := 0) hx hb dX2_addGate_27 (by decide) ?_
        refine zw_zret (S := Int32 × (Nat → Int32) × (Nat → Int32) × (Nat → Int32) × (Nat → Int32)) (post := fun r u => post r u.1 u.2.1 u.2.2.1 u.2.2.2.1 u.2.2.2.2) (i_gates, a_courtA, a_courtB, a_kind, a_gone) hx hb hr hlocks hK hW (Or.inl rfl) hw ?_ dX2_addGate_28
        rfl
      · replace hw := hw.2 c_11
        refine lv_iload_n hx hb dX2_addGate_22 rfl (lv_at hl 1 rfl) ?_
        refine lv_iload_n hx hb dX2_addGate_23 rfl (lv_at hl 2 rfl) ?_
        refine lv_icmp_ne (tgt := 29) hx hb dX2_addGate_24 (by decide) (fun c_12 => ?_) (fun c_12 => ?_)
        · replace hw := hw.2 c_12
          refine lv_iload_n hx hb dX2_addGate_29 rfl (lv_at hl 3 rfl) ?_
          refine lv_if_lt (tgt := 55) hx hb dX2_addGate_30 (by decide) (fun c_13 => ?_) (fun c_13 => ?_)
          · replace hw := hw.1 c_13
            refine lv_iconst (v := 0) hx hb dX2_addGate_55 (by decide) ?_
            refine zw_zret (S := Int32 × (Nat → Int32) × (Nat → Int32) × (Nat → Int32) × (Nat → Int32)) (post := fun r u => post r u.1 u.2.1 u.2.2.1 u.2.2.2.1 u.2.2.2.2) (i_gates, a_courtA, a_courtB, a_kind, a_gone) hx hb hr hlocks hK hW (Or.inl rfl) hw ?_ dX2_addGate_56
            rfl
          · replace hw := hw.2 c_13
            refine lv_iload_n hx hb dX2_addGate_33 rfl (lv_at hl 3 rfl) ?_
            refine lv_iconst (v := 5) hx hb dX2_addGate_34 (by decide) ?_
            refine lv_icmp_ge (tgt := 55) hx hb dX2_addGate_35 (by decide) (fun c_14 => ?_) (fun c_14 => ?_)
            · replace hw := hw.1 c_14
              refine lv_iconst (v := 0) hx hb dX2_addGate_55 (by decide) ?_
              refine zw_zret (S := Int32 × (Nat → Int32) × (Nat → Int32) × (Nat → Int32) × (Nat → Int32)) (post := fun r u => post r u.1 u.2.1 u.2.2.1 u.2.2.2.1 u.2.2.2.2) (i_gates, a_courtA, a_courtB, a_kind, a_gone) hx hb hr hlocks hK hW (Or.inl rfl) hw ?_ dX2_addGate_56
              rfl
            · replace hw := hw.2 c_14
              refine lv_iload_n hx hb dX2_addGate_38 rfl (lv_at hl 3 rfl) ?_
              refine lv_iconst (v := 3) hx hb dX2_addGate_39 (by decide) ?_
              refine lv_icmp_ne (tgt := 50) hx hb dX2_addGate_40 (by decide) (fun c_15 => ?_) (fun c_15 => ?_)
              · replace hw := hw.2 c_15
                exact W_50 i_gates a_courtA a_courtB a_kind a_gone _ _ _ hW (lv_sub hl [0, 1, 2, 3, 4] rfl) hw
              · replace hw := hw.1 c_15
                refine lv_aload_n hx hb dX2_addGate_43 rfl (lv_at hl 0 rfl) ?_
                refine zw_get (ci := 2) (C := RX2) (T := TX2) (N := 8) (v := .int i_gates) hx hb hts hiX2 hown hK hW 0 rfl rfl 4 (by decide) rfl k_1 dX2_addGate_44 ?_
                refine lv_if_eq (tgt := 55) hx hb dX2_addGate_47 (by decide) (fun c_16 => ?_) (fun c_16 => ?_)
                · replace hw := hw.1 c_16
                  refine lv_iconst (v := 0) hx hb dX2_addGate_55 (by decide) ?_
                  refine zw_zret (S := Int32 × (Nat → Int32) × (Nat → Int32) × (Nat → Int32) × (Nat → Int32)) (post := fun r u => post r u.1 u.2.1 u.2.2.1 u.2.2.2.1 u.2.2.2.2) (i_gates, a_courtA, a_courtB, a_kind, a_gone) hx hb hr hlocks hK hW (Or.inl rfl) hw ?_ dX2_addGate_56
                  rfl
                · replace hw := hw.2 c_16
                  exact W_50 i_gates a_courtA a_courtB a_kind a_gone _ _ _ hW (lv_sub hl [0, 1, 2, 3, 4] rfl) hw
        · replace hw := hw.1 c_12
          refine lv_iconst (v := 0) hx hb dX2_addGate_27 (by decide) ?_
          refine zw_zret (S := Int32 × (Nat → Int32) × (Nat → Int32) × (Nat → Int32) × (Nat → Int32)) (post := fun r u => post r u.1 u.2.1 u.2.2.1 u.2.2.2.1 u.2.2.2.2) (i_gates, a_courtA, a_courtB, a_kind, a_gone) hx hb hr hlocks hK hW (Or.inl rfl) hw ?_ dX2_addGate_28
          rfl
abbrev wX2_copyFrom (cyI cyJ cyZ : ClassId) (h h_courtA h_courtB h_kind h_gone h_court ho ho_courtA ho_courtB ho_kind ho_gone ho_court : Nat) (i_gates : Int32) (i_persons : Int32) (i_fines : Int32) (a_courtA : Nat → Int32) (a_courtB : Nat → Int32) (a_kind : Nat → Int32) (a_gone : Nat → Int32) (a_court : Nat → Int32) (io_gates : Int32) (io_persons : Int32) (io_fines : Int32) (ao_courtA : Nat → Int32) (ao_courtB : Nat → Int32) (ao_kind : Nat → Int32) (ao_gone : Nat → Int32) (ao_court : Nat → Int32) : va_W := [(h, .inr (2, [.ref h_courtA, .ref h_courtB, .ref h_kind, .ref h_gone, .int i_gates, .ref h_court, .int i_persons, .int i_fines])), (h_courtA, .inl (cyI, 5, .inl a_courtA)), (h_courtB, .inl (cyI, 5, .inl a_courtB)), (h_kind, .inl (cyI, 5, .inl a_kind)), (h_gone, .inl (cyI, 5, .inl a_gone)), (h_court, .inl (cyI, 3, .inl a_court)), (ho, .inr (2, [.ref ho_courtA, .ref ho_courtB, .ref ho_kind, .ref ho_gone, .int io_gates, .ref ho_court, .int io_persons, .int io_fines])), (ho_courtA, .inl (cyI, 5, .inl ao_courtA)), (ho_courtB, .inl (cyI, 5, .inl ao_courtB)), (ho_kind, .inl (cyI, 5, .inl ao_kind)), (ho_gone, .inl (cyI, 5, .inl ao_gone)), (ho_court, .inl (cyI, 3, .inl ao_court))]
abbrev qX2_copyFrom (dC : Nat → ClassId) (dI : Nat → Nat → Nat) (cyI cyJ cyZ : ClassId) (h h_courtA h_courtB h_kind h_gone h_court ho ho_courtA ho_courtB ho_kind ho_gone ho_court : Nat) (i_gates : Int32) (i_persons : Int32) (i_fines : Int32) (a_courtA : Nat → Int32) (a_courtB : Nat → Int32) (a_kind : Nat → Int32) (a_gone : Nat → Int32) (a_court : Nat → Int32) (io_gates : Int32) (io_persons : Int32) (io_fines : Int32) (ao_courtA : Nat → Int32) (ao_courtB : Nat → Int32) (ao_kind : Nat → Int32) (ao_gone : Nat → Int32) (ao_court : Nat → Int32) (post : Int32 → Int32 → Int32 → (Nat → Int32) → (Nat → Int32) → (Nat → Int32) → (Nat → Int32) → (Nat → Int32) → Prop) (A : Nat → Prop) : Array Value → State → Outcome → State → Prop := (va_Qv (fun (u : Int32 × Int32 × Int32 × (Nat → Int32) × (Nat → Int32) × (Nat → Int32) × (Nat → Int32) × (Nat → Int32)) => post u.1 u.2.1 u.2.2.1 u.2.2.2.1 u.2.2.2.2.1 u.2.2.2.2.2.1 u.2.2.2.2.2.2.1 u.2.2.2.2.2.2.2) (bW (dC, dI) (tyG cyI cyJ cyZ) A (fun u : Int32 × Int32 × Int32 × (Nat → Int32) × (Nat → Int32) × (Nat → Int32) × (Nat → Int32) × (Nat → Int32) => (wX2_copyFrom cyI cyJ cyZ h h_courtA h_courtB h_kind h_gone h_court ho ho_courtA ho_courtB ho_kind ho_gone ho_court (u.1) (u.2.1) (u.2.2.1) (u.2.2.2.1) (u.2.2.2.2.1) (u.2.2.2.2.2.1) (u.2.2.2.2.2.2.1) (u.2.2.2.2.2.2.2) io_gates io_persons io_fines ao_courtA ao_courtB ao_kind ao_gone ao_court))) A)
set_option maxHeartbeats 4000000 in
set_option maxRecDepth 100000 in
theorem mX2_copyFrom (l : Launch) (dC : Nat → ClassId) (dI : Nat → Nat → Nat) (cyI cyJ cyZ : ClassId) (h h_courtA h_courtB h_kind h_gone h_court ho ho_courtA ho_courtB ho_kind ho_gone ho_court : Nat) (sz : Nat) (i_gates : Int32) (i_persons : Int32) (i_fines : Int32) (a_courtA : Nat → Int32) (a_courtB : Nat → Int32) (a_kind : Nat → Int32) (a_gone : Nat → Int32) (a_court : Nat → Int32) (io_gates : Int32) (io_persons : Int32) (io_fines : Int32) (ao_courtA : Nat → Int32) (ao_courtB : Nat → Int32) (ao_kind : Nat → Int32) (ao_gone : Nat → Int32) (ao_court : Nat → Int32) (post : Int32 → Int32 → Int32 → (Nat → Int32) → (Nat → Int32) → (Nat → Int32) → (Nat → Int32) → (Nat → Int32) → Prop) (hwp : PX2_copyFrom i_gates i_persons i_fines a_courtA a_courtB a_kind a_gone a_court io_gates io_persons io_fines ao_courtA ao_courtB ao_kind ao_gone ao_court post) : Met l yX2_copyFrom wsX2_copyFrom ({ frames := 1, cells := 0, slots := 0, locals := 26 } : Room) (va_Pc [.ref h, .ref ho] (pcW (dC, dI) sz (wX2_copyFrom cyI cyJ cyZ h h_courtA h_courtB h_kind h_gone h_court ho ho_courtA ho_courtB ho_kind ho_gone ho_court i_gates i_persons i_fines a_courtA a_courtB a_kind a_gone a_court io_gates io_persons io_fines ao_courtA ao_courtB ao_kind ao_gone ao_court) (tyG cyI cyJ cyZ))) (qX2_copyFrom dC dI cyI cyJ cyZ h h_courtA h_courtB h_kind h_gone h_court ho ho_courtA ho_courtB ho_kind ho_gone ho_court i_gates i_persons i_fines a_courtA a_courtB a_kind a_gone a_court io_gates io_persons io_fines ao_courtA ao_courtB ao_kind ao_gone ao_court post (va_A (wX2_copyFrom cyI cyJ cyZ h h_courtA h_courtB h_kind h_gone h_court ho ho_courtA ho_courtB ho_kind ho_gone ho_court i_gates i_persons i_fines a_courtA a_courtB a_kind a_gone a_court io_gates io_persons io_fines ao_courtA ao_courtB ao_kind ao_gone ao_court) sz)) 0 0 (va_A (wX2_copyFrom cyI cyJ cyZ h h_courtA h_courtB h_kind h_gone h_court ho ho_courtA ho_courtB ho_kind ho_gone ho_court i_gates i_persons i_fines a_courtA a_courtB a_kind a_gone a_court io_gates io_persons io_fines ao_courtA ao_courtB ao_kind ao_gone ao_court) sz) := by
  refine Met.ofW (cc := cX2_copyFrom) (maxL := 2) (ret := none) (by decide) rfl ?_
  intro p e s m args below meth c s₁ B hml hv
  obtain ⟨rfl, hsz, hP, hK, hD0, hN⟩ := hv
  have hx := B.exec
  have hb := B.bytes
  have hr := B.returns
  have hts := atoms_spec (ws := wsX2_copyFrom) B.pre
  have hown : s.vm.findClass RX2 = some m.cls := findClass_of_methodNamed B.named
  have hlocks := B.notSynchronized
  subst hsz
  have hD := hD0.self (sz := s.heap.size)
  generalize hAe : va_A (wX2_copyFrom cyI cyJ cyZ h h_courtA h_courtB h_kind h_gone h_court ho ho_courtA ho_courtB ho_kind ho_gone ho_court i_gates i_persons i_fines a_courtA a_courtB a_kind a_gone a_court io_gates io_persons io_fines ao_courtA ao_courtB ao_kind ao_gone ao_court) s.heap.size = A at hD ⊢
  have hA : ∀ q : Nat, s.heap.size ≤ q → A q := fun q h => by rw [← hAe]; exact Or.inr h
  have hW : Wd (dC, dI) A s.heap (wX2_copyFrom cyI cyJ cyZ h h_courtA h_courtB h_kind h_gone h_court ho ho_courtA ho_courtB ho_kind ho_gone ho_court i_gates i_persons i_fines a_courtA a_courtB a_kind a_gone a_court io_gates io_persons io_fines ao_courtA ao_courtB ao_kind ao_gone ao_court) s.heap [] := ⟨hP, hD, va_S.rf⟩
  have hw := hwp
  have hiX2 : ∀ w ∈ u_ws RX2 TX2 8, w ∈ wsX2_copyFrom := fun _ h => List.mem_cons_of_mem _ (List.mem_append_right _ h)
  have k_0 := hts (.fieldLink RX2 9 "OddLetsIn$Garden" "courtA" "[I") (List.mem_of_getElem? (i := 1) rfl)
  have k_1 := hts (.methodLink RX2 60 arraycopyName) (List.mem_of_getElem? (i := 2) rfl)
  have k_2 := hts (.native arraycopyName) (List.mem_of_getElem? (i := 3) rfl)
  have k_3 := hts (.static arraycopyName) (List.mem_of_getElem? (i := 4) rfl)
  have k_4 := hts (.initialized "java/lang/System") (List.mem_of_getElem? (i := 5) rfl)
  have k_5 := hts (.fieldLink RX2 15 "OddLetsIn$Garden" "courtB" "[I") (List.mem_of_getElem? (i := 6) rfl)
  have k_6 := hts (.fieldLink RX2 18 "OddLetsIn$Garden" "kind" "[I") (List.mem_of_getElem? (i := 7) rfl)
  have k_7 := hts (.fieldLink RX2 21 "OddLetsIn$Garden" "gone" "[I") (List.mem_of_getElem? (i := 8) rfl)
  have k_8 := hts (.fieldLink RX2 28 "OddLetsIn$Garden" "court" "[I") (List.mem_of_getElem? (i := 9) rfl)
  have k_9 := hts (.fieldLink RX2 24 "OddLetsIn$Garden" "gates" "I") (List.mem_of_getElem? (i := 10) rfl)
  have k_10 := hts (.fieldLink RX2 31 "OddLetsIn$Garden" "persons" "I") (List.mem_of_getElem? (i := 11) rfl)
  have k_11 := hts (.fieldLink RX2 34 "OddLetsIn$Garden" "fines" "I") (List.mem_of_getElem? (i := 12) rfl)
  have hl := lv_entry ([.ref h, .ref ho]) (n := 2) (Nat.le_of_ble_eq_true rfl)
  rw [lg_entry_eq]
  generalize (lg_sl ([.ref h, .ref ho]) ++ List.replicate (2 - (lg_sl ([.ref h, .ref ho])).length) Slot.unset).toArray = ls at hl ⊢
  have hl : lv_has ls 2 [(0, .ref h), (1, .ref ho)] := hl
  refine lv_aload_n hx hb dX2_copyFrom_0 rfl (lv_at hl 1 rfl) ?_
  refine zw_get (ci := 2) (C := RX2) (T := TX2) (N := 8) (v := .ref ho_courtA) hx hb hts hiX2 hown hK hW 6 rfl rfl 0 (by decide) rfl k_0 dX2_copyFrom_1 ?_
  refine lv_iconst (v := 0) hx hb dX2_copyFrom_4 (by decide) ?_
  refine lv_aload_n hx hb dX2_copyFrom_5 rfl (lv_at hl 0 rfl) ?_
  refine zw_get (ci := 2) (C := RX2) (T := TX2) (N := 8) (v := .ref h_courtA) hx hb hts hiX2 hown hK hW 0 rfl rfl 0 (by decide) rfl k_0 dX2_copyFrom_6 ?_
  refine lv_iconst (v := 0) hx hb dX2_copyFrom_9 (by decide) ?_
  refine lv_iconst (v := 5) hx hb dX2_copyFrom_10 (by decide) ?_
  refine zw_copyi hx hb (hml.trans hl.1.symm) hown k_1 k_2 k_3 k_4 hK hW 7 1 rfl rfl rfl rfl (by decide) (by decide) (by decide) (by decide) (by decide) (Nat.le_of_ble_eq_true rfl) (Nat.le_of_ble_eq_true rfl) (w2 := fun a_courtA_1 => (wX2_copyFrom cyI cyJ cyZ h h_courtA h_courtB h_kind h_gone h_court ho ho_courtA ho_courtB ho_kind ho_gone ho_court i_gates i_persons i_fines a_courtA_1 a_courtB a_kind a_gone a_court io_gates io_persons io_fines ao_courtA ao_courtB ao_kind ao_gone ao_court)) (fun _ => rfl) dX2_copyFrom_11 (fun a_courtA_1 H locs ea_courtA_1 hW => ?_)
  replace hw := hw a_courtA_1 ea_courtA_1
  refine lv_aload_n hx hb dX2_copyFrom_14 rfl (lv_at hl 1 rfl) ?_
  refine zw_get (ci := 2) (C := RX2) (T := TX2) (N := 8) (v := .ref ho_courtB) hx hb hts hiX2 hown hK hW 6 rfl rfl 1 (by decide) rfl k_5 dX2_copyFrom_15 ?_
  refine lv_iconst (v := 0) hx hb dX2_copyFrom_18 (by decide) ?_
  refine lv_aload_n hx hb dX2_copyFrom_19 rfl (lv_at hl 0 rfl) ?_
  refine zw_get (ci := 2) (C := RX2) (T := TX2) (N := 8) (v := .ref h_courtB) hx hb hts hiX2 hown hK hW 0 rfl rfl 1 (by decide) rfl k_5 dX2_copyFrom_20 ?_
  refine lv_iconst (v := 0) hx hb dX2_copyFrom_23 (by decide) ?_
  refine lv_iconst (v := 5) hx hb dX2_copyFrom_24 (by decide) ?_
  refine zw_copyi hx hb (hml.trans hl.1.symm) hown k_1 k_2 k_3 k_4 hK hW 8 2 rfl rfl rfl rfl (by decide) (by decide) (by decide) (by decide) (by decide) (Nat.le_of_ble_eq_true rfl) (Nat.le_of_ble_eq_true rfl) (w2 := fun a_courtB_2 => (wX2_copyFrom cyI cyJ cyZ h h_courtA h_courtB h_kind h_gone h_court ho ho_courtA ho_courtB ho_kind ho_gone ho_court i_gates i_persons i_fines a_courtA_1 a_courtB_2 a_kind a_gone a_court io_gates io_persons io_fines ao_courtA ao_courtB ao_kind ao_gone ao_court)) (fun _ => rfl) dX2_copyFrom_25 (fun a_courtB_2 H locs ea_courtB_2 hW => ?_)
  replace hw := hw a_courtB_2 ea_courtB_2
  refine lv_aload_n hx hb dX2_copyFrom_28 rfl (lv_at hl 1 rfl) ?_
  refine zw_get (ci := 2) (C := RX2) (T := TX2) (N := 8) (v := .ref ho_kind) hx hb hts hiX2 hown hK hW 6 rfl rfl 2 (by decide) rfl k_6 dX2_copyFrom_29 ?_
  refine lv_iconst (v := 0) hx hb dX2_copyFrom_32 (by decide) ?_
  refine lv_aload_n hx hb dX2_copyFrom_33 rfl (lv_at hl 0 rfl) ?_
  refine zw_get (ci := 2) (C := RX2) (T := TX2) (N := 8) (v := .ref h_kind) hx hb hts hiX2 hown hK hW 0 rfl rfl 2 (by decide) rfl k_6 dX2_copyFrom_34 ?_
  refine lv_iconst (v := 0) hx hb dX2_copyFrom_37 (by decide) ?_
  refine lv_iconst (v := 5) hx hb dX2_copyFrom_38 (by decide) ?_
  refine zw_copyi hx hb (hml.trans hl.1.symm) hown k_1 k_2 k_3 k_4 hK hW 9 3 rfl rfl rfl rfl (by decide) (by decide) (by decide) (by decide) (by decide) (Nat.le_of_ble_eq_true rfl) (Nat.le_of_ble_eq_true rfl) (w2 := fun a_kind_3 => (wX2_copyFrom cyI cyJ cyZ h h_courtA h_courtB h_kind h_gone h_court ho ho_courtA ho_courtB ho_kind ho_gone ho_court i_gates i_persons i_fines a_courtA_1 a_courtB_2 a_kind_3 a_gone a_court io_gates io_persons io_fines ao_courtA ao_courtB ao_kind ao_gone ao_court)) (fun _ => rfl) dX2_copyFrom_39 (fun a_kind_3 H locs ea_kind_3 hW => ?_)
  replace hw := hw a_kind_3 ea_kind_3
  refine lv_aload_n hx hb dX2_copyFrom_42 rfl (lv_at hl 1 rfl) ?_
  refine zw_get (ci := 2) (C := RX2) (T := TX2) (N := 8) (v := .ref ho_gone) hx hb hts hiX2 hown hK hW 6 rfl rfl 3 (by decide) rfl k_7 dX2_copyFrom_43 ?_
  refine lv_iconst (v := 0) hx hb dX2_copyFrom_46 (by decide) ?_
  refine lv_aload_n hx hb dX2_copyFrom_47 rfl (lv_at hl 0 rfl) ?_
  refine zw_get (ci := 2) (C := RX2) (T := TX2) (N := 8) (v := .ref h_gone) hx hb hts hiX2 hown hK hW 0 rfl rfl 3 (by decide) rfl k_7 dX2_copyFrom_48 ?_
  refine lv_iconst (v := 0) hx hb dX2_copyFrom_51 (by decide) ?_
  refine lv_iconst (v := 5) hx hb dX2_copyFrom_52 (by decide) ?_
  refine zw_copyi hx hb (hml.trans hl.1.symm) hown k_1 k_2 k_3 k_4 hK hW 10 4 rfl rfl rfl rfl (by decide) (by decide) (by decide) (by decide) (by decide) (Nat.le_of_ble_eq_true rfl) (Nat.le_of_ble_eq_true rfl) (w2 := fun a_gone_4 => (wX2_copyFrom cyI cyJ cyZ h h_courtA h_courtB h_kind h_gone h_court ho ho_courtA ho_courtB ho_kind ho_gone ho_court i_gates i_persons i_fines a_courtA_1 a_courtB_2 a_kind_3 a_gone_4 a_court io_gates io_persons io_fines ao_courtA ao_courtB ao_kind ao_gone ao_court)) (fun _ => rfl) dX2_copyFrom_53 (fun a_gone_4 H locs ea_gone_4 hW => ?_)
  replace hw := hw a_gone_4 ea_gone_4
  refine lv_aload_n hx hb dX2_copyFrom_56 rfl (lv_at hl 1 rfl) ?_
  refine zw_get (ci := 2) (C := RX2) (T := TX2) (N := 8) (v := .ref ho_court) hx hb hts hiX2 hown hK hW 6 rfl rfl 5 (by decide) rfl k_8 dX2_copyFrom_57 ?_
  refine lv_iconst (v := 0) hx hb dX2_copyFrom_60 (by decide) ?_
  refine lv_aload_n hx hb dX2_copyFrom_61 rfl (lv_at hl 0 rfl) ?_
  refine zw_get (ci := 2) (C := RX2) (T := TX2) (N := 8) (v := .ref h_court) hx hb hts hiX2 hown hK hW 0 rfl rfl 5 (by decide) rfl k_8 dX2_copyFrom_62 ?_
  refine lv_iconst (v := 0) hx hb dX2_copyFrom_65 (by decide) ?_
  refine lv_iconst (v := 3) hx hb dX2_copyFrom_66 (by decide) ?_
  refine zw_copyi hx hb (hml.trans hl.1.symm) hown k_1 k_2 k_3 k_4 hK hW 11 5 rfl rfl rfl rfl (by decide) (by decide) (by decide) (by decide) (by decide) (Nat.le_of_ble_eq_true rfl) (Nat.le_of_ble_eq_true rfl) (w2 := fun a_court_5 => (wX2_copyFrom cyI cyJ cyZ h h_courtA h_courtB h_kind h_gone h_court ho ho_courtA ho_courtB ho_kind ho_gone ho_court i_gates i_persons i_fines a_courtA_1 a_courtB_2 a_kind_3 a_gone_4 a_court_5 io_gates io_persons io_fines ao_courtA ao_courtB ao_kind ao_gone ao_court)) (fun _ => rfl) dX2_copyFrom_67 (fun a_court_5 H locs ea_court_5 hW => ?_)
  replace hw := hw a_court_5 ea_court_5
  refine lv_aload_n hx hb dX2_copyFrom_70 rfl (lv_at hl 0 rfl) ?_
  refine lv_aload_n hx hb dX2_copyFrom_71 rfl (lv_at hl 1 rfl) ?_
  refine zw_get (ci := 2) (C := RX2) (T := TX2) (N := 8) (v := .int io_gates) hx hb hts hiX2 hown hK hW 6 rfl rfl 4 (by decide) rfl k_9 dX2_copyFrom_72 ?_
  refine zw_put (ci := 2) (C := RX2) (T := TX2) (N := 8) (w2 := (wX2_copyFrom cyI cyJ cyZ h h_courtA h_courtB h_kind h_gone h_court ho ho_courtA ho_courtB ho_kind ho_gone ho_court io_gates i_persons i_fines a_courtA_1 a_courtB_2 a_kind_3 a_gone_4 a_court_5 io_gates io_persons io_fines ao_courtA ao_courtB ao_kind ao_gone ao_court)) hx hb hts hiX2 tyX2 tyX2_ok nmX2 hown hK hW 0 rfl rfl 4 (by decide) (by decide +kernel) rfl (Nat.le_of_ble_eq_true rfl) rfl k_9 dX2_copyFrom_75 (fun H locs hW => ?_)
  refine lv_aload_n hx hb dX2_copyFrom_78 rfl (lv_at hl 0 rfl) ?_
  refine lv_aload_n hx hb dX2_copyFrom_79 rfl (lv_at hl 1 rfl) ?_
  refine zw_get (ci := 2) (C := RX2) (T := TX2) (N := 8) (v := .int io_persons) hx hb hts hiX2 hown hK hW 6 rfl rfl 6 (by decide) rfl k_10 dX2_copyFrom_80 ?_
  refine zw_put (ci := 2) (C := RX2) (T := TX2) (N := 8) (w2 := (wX2_copyFrom cyI cyJ cyZ h h_courtA h_courtB h_kind h_gone h_court ho ho_courtA ho_courtB ho_kind ho_gone ho_court io_gates io_persons i_fines a_courtA_1 a_courtB_2 a_kind_3 a_gone_4 a_court_5 io_gates io_persons io_fines ao_courtA ao_courtB ao_kind ao_gone ao_court)) hx hb hts hiX2 tyX2 tyX2_ok nmX2 hown hK hW 0 rfl rfl 6 (by decide) (by decide +kernel) rfl (Nat.le_of_ble_eq_true rfl) rfl k_10 dX2_copyFrom_83 (fun H locs hW => ?_)
  refine lv_aload_n hx hb dX2_copyFrom_86 rfl (lv_at hl 0 rfl) ?_
  refine lv_aload_n hx hb dX2_copyFrom_87 rfl (lv_at hl 1 rfl) ?_
  refine zw_get (ci := 2) (C := RX2) (T := TX2) (N := 8) (v := .int io_fines) hx hb hts hiX2 hown hK hW 6 rfl rfl 7 (by decide) rfl k_11 dX2_copyFrom_88 ?_
  refine zw_put (ci := 2) (C := RX2) (T := TX2) (N := 8) (w2 := (wX2_copyFrom cyI cyJ cyZ h h_courtA h_courtB h_kind h_gone h_court ho ho_courtA ho_courtB ho_kind ho_gone ho_court io_gates io_persons io_fines a_courtA_1 a_courtB_2 a_kind_3 a_gone_4 a_court_5 io_gates io_persons io_fines ao_courtA ao_courtB ao_kind ao_gone ao_court)) hx hb hts hiX2 tyX2 tyX2_ok nmX2 hown hK hW 0 rfl rfl 7 (by decide) (by decide +kernel) rfl (Nat.le_of_ble_eq_true rfl) rfl k_11 dX2_copyFrom_91 (fun H locs hW => ?_)
  refine zw_vret (S := Int32 × Int32 × Int32 × (Nat → Int32) × (Nat → Int32) × (Nat → Int32) × (Nat → Int32) × (Nat → Int32)) (post := fun u => post u.1 u.2.1 u.2.2.1 u.2.2.2.1 u.2.2.2.2.1 u.2.2.2.2.2.1 u.2.2.2.2.2.2.1 u.2.2.2.2.2.2.2) (io_gates, io_persons, io_fines, a_courtA_1, a_courtB_2, a_kind_3, a_gone_4, a_court_5) hx hb hr hlocks hK hW hw ?_ dX2_copyFrom_94
  rfl
abbrev wX2_hasSet (cyI cyJ cyZ : ClassId) (h h_courtA h_courtB h_kind h_gone h_court : Nat) (i_gates : Int32) (i_persons : Int32) (i_fines : Int32) : va_W := [(h, .inr (2, [.ref h_courtA, .ref h_courtB, .ref h_kind, .ref h_gone, .int i_gates, .ref h_court, .int i_persons, .int i_fines]))]
abbrev qX2_hasSet (dC : Nat → ClassId) (dI : Nat → Nat → Nat) (cyI cyJ cyZ : ClassId) (h h_courtA h_courtB h_kind h_gone h_court : Nat) (i_gates : Int32) (i_persons : Int32) (i_fines : Int32) (post : Int32 → Prop) (A : Nat → Prop) : Array Value → State → Outcome → State → Prop := (va_Qi (fun (r : Int32) (u : Unit) => (r = 0 ∨ r = 1) ∧ post r) (bW (dC, dI) (tyG cyI cyJ cyZ) A (fun _ : Unit => (wX2_hasSet cyI cyJ cyZ h h_courtA h_courtB h_kind h_gone h_court i_gates i_persons i_fines))) A)
set_option maxHeartbeats 4000000 in
set_option maxRecDepth 100000 in
theorem mX2_hasSet (l : Launch) (dC : Nat → ClassId) (dI : Nat → Nat → Nat) (cyI cyJ cyZ : ClassId) (h h_courtA h_courtB h_kind h_gone h_court : Nat) (sz : Nat) (i_gates : Int32) (i_persons : Int32) (i_fines : Int32) (x1 : Int32) (post : Int32 → Prop) (hwp : PX2_hasSet x1 i_gates post) : Met l yX2_hasSet wsX2_hasSet ({ frames := 0, cells := 0, slots := 0, locals := 0 } : Room) (va_Pc [.ref h, .int x1] (pcW (dC, dI) sz (wX2_hasSet cyI cyJ cyZ h h_courtA h_courtB h_kind h_gone h_court i_gates i_persons i_fines) (tyG cyI cyJ cyZ))) (qX2_hasSet dC dI cyI cyJ cyZ h h_courtA h_courtB h_kind h_gone h_court i_gates i_persons i_fines post (va_A (wX2_hasSet cyI cyJ cyZ h h_courtA h_courtB h_kind h_gone h_court i_gates i_persons i_fines) sz)) 0 0 (va_A (wX2_hasSet cyI cyJ cyZ h h_courtA h_courtB h_kind h_gone h_court i_gates i_persons i_fines) sz) := by
  refine Met.ofW (cc := cX2_hasSet) (maxL := 2) (ret := some .boolean) (by decide) rfl ?_
  intro p e s m args below meth c s₁ B hml hv
  obtain ⟨rfl, hsz, hP, hK, hD0, hN⟩ := hv
  have hx := B.exec
  have hb := B.bytes
  have hr := B.returns
  have hts := atoms_spec (ws := wsX2_hasSet) B.pre
  have hown : s.vm.findClass RX2 = some m.cls := findClass_of_methodNamed B.named
  have hlocks := B.notSynchronized
  subst hsz
  have hD := hD0.self (sz := s.heap.size)
  generalize hAe : va_A (wX2_hasSet cyI cyJ cyZ h h_courtA h_courtB h_kind h_gone h_court i_gates i_persons i_fines) s.heap.size = A at hD ⊢
  have hA : ∀ q : Nat, s.heap.size ≤ q → A q := fun q h => by rw [← hAe]; exact Or.inr h
  have hW : Wd (dC, dI) A s.heap (wX2_hasSet cyI cyJ cyZ h h_courtA h_courtB h_kind h_gone h_court i_gates i_persons i_fines) s.heap [] := ⟨hP, hD, va_S.rf⟩
  have hw := hwp
  have hiX2 : ∀ w ∈ u_ws RX2 TX2 8, w ∈ wsX2_hasSet := fun _ h => List.mem_cons_of_mem _ (List.mem_append_right _ h)
  have k_0 := hts (.fieldLink RX2 24 "OddLetsIn$Garden" "gates" "I") (List.mem_of_getElem? (i := 1) rfl)
  have hl := lv_entry ([.ref h, .int x1]) (n := 2) (Nat.le_of_ble_eq_true rfl)
  rw [lg_entry_eq]
  generalize (lg_sl ([.ref h, .int x1]) ++ List.replicate (2 - (lg_sl ([.ref h, .int x1])).length) Slot.unset).toArray = ls at hl ⊢
  have hl : lv_has ls 2 [(0, .ref h), (1, .int x1)] := hl
  refine lv_iload_n hx hb dX2_hasSet_0 rfl (lv_at hl 1 rfl) ?_
  refine lv_if_lt (tgt := 18) hx hb dX2_hasSet_1 (by decide) (fun c_1 => ?_) (fun c_1 => ?_)
  · replace hw := hw.1 c_1
    refine lv_iconst (v := 0) hx hb dX2_hasSet_18 (by decide) ?_
    refine zw_zret (S := Unit) (post := fun r u => post r) () hx hb hr hlocks hK hW (Or.inl rfl) hw ?_ dX2_hasSet_19
    rfl
  · replace hw := hw.2 c_1
    refine lv_iload_n hx hb dX2_hasSet_4 rfl (lv_at hl 1 rfl) ?_
    refine lv_iconst (v := 1) hx hb dX2_hasSet_5 (by decide) ?_
    refine lv_aload_n hx hb dX2_hasSet_6 rfl (lv_at hl 0 rfl) ?_
    refine zw_get (ci := 2) (C := RX2) (T := TX2) (N := 8) (v := .int i_gates) hx hb hts hiX2 hown hK hW 0 rfl rfl 4 (by decide) rfl k_0 dX2_hasSet_7 ?_
    refine lv_ishl hx hb dX2_hasSet_10 ?_
    refine lv_icmp_ge (tgt := 18) hx hb dX2_hasSet_11 (by decide) (fun c_2 => ?_) (fun c_2 => ?_)
    · replace hw := hw.1 c_2
      refine lv_iconst (v := 0) hx hb dX2_hasSet_18 (by decide) ?_
      refine zw_zret (S := Unit) (post := fun r u => post r) () hx hb hr hlocks hK hW (Or.inl rfl) hw ?_ dX2_hasSet_19
      rfl
    · replace hw := hw.2 c_2
      refine lv_iconst (v := 1) hx hb dX2_hasSet_14 (by decide) ?_
      refine lv_goto (tgt := 19) hx hb dX2_hasSet_15 (by decide) ?_
      refine zw_zret (S := Unit) (post := fun r u => post r) () hx hb hr hlocks hK hW (Or.inr rfl) hw ?_ dX2_hasSet_19
      rfl
abbrev wX2_openFromA (cyI cyJ cyZ : ClassId) (h h_courtA h_courtB h_kind h_gone h_court : Nat) (i_gates : Int32) (i_persons : Int32) (i_fines : Int32) (a_kind : Nat → Int32) (a_gone : Nat → Int32) : va_W := [(h, .inr (2, [.ref h_courtA, .ref h_courtB, .ref h_kind, .ref h_gone, .int i_gates, .ref h_court, .int i_persons, .int i_fines])), (h_kind, .inl (cyI, 5, .inl a_kind)), (h_gone, .inl (cyI, 5, .inl a_gone))]
abbrev qX2_openFromA (dC : Nat → ClassId) (dI : Nat → Nat → Nat) (cyI cyJ cyZ : ClassId) (h h_courtA h_courtB h_kind h_gone h_court : Nat) (i_gates : Int32) (i_persons : Int32) (i_fines : Int32) (a_kind : Nat → Int32) (a_gone : Nat → Int32) (post : Int32 → Prop) (A : Nat → Prop) : Array Value → State → Outcome → State → Prop := (va_Qi (fun (r : Int32) (u : Unit) => post r) (bW (dC, dI) (tyG cyI cyJ cyZ) A (fun _ : Unit => (wX2_openFromA cyI cyJ cyZ h h_courtA h_courtB h_kind h_gone h_court i_gates i_persons i_fines a_kind a_gone))) A)
set_option maxHeartbeats 4000000 in
set_option maxRecDepth 100000 in
theorem mX2_openFromA (l : Launch) (dC : Nat → ClassId) (dI : Nat → Nat → Nat) (cyI cyJ cyZ : ClassId) (h h_courtA h_courtB h_kind h_gone h_court : Nat) (sz : Nat) (i_gates : Int32) (i_persons : Int32) (i_fines : Int32) (a_kind : Nat → Int32) (a_gone : Nat → Int32) (post : Int32 → Prop) (hwp : PX2_openFromA i_gates a_kind a_gone post) : Met l yX2_openFromA wsX2_openFromA ({ frames := 3, cells := 0, slots := 0, locals := 67 } : Room) (va_Pc [.ref h] (pcW (dC, dI) sz (wX2_openFromA cyI cyJ cyZ h h_courtA h_courtB h_kind h_gone h_court i_gates i_persons i_fines a_kind a_gone) (tyG cyI cyJ cyZ))) (qX2_openFromA dC dI cyI cyJ cyZ h h_courtA h_courtB h_kind h_gone h_court i_gates i_persons i_fines a_kind a_gone post (va_A (wX2_openFromA cyI cyJ cyZ h h_courtA h_courtB h_kind h_gone h_court i_gates i_persons i_fines a_kind a_gone) sz)) 0 0 (va_A (wX2_openFromA cyI cyJ cyZ h h_courtA h_courtB h_kind h_gone h_court i_gates i_persons i_fines a_kind a_gone) sz) := by
  refine Met.ofW (cc := cX2_openFromA) (maxL := 3) (ret := some .int) (by decide) rfl ?_
  intro p e s m args below meth c s₁ B hml hv
  obtain ⟨rfl, hsz, hP, hK, hD0, hN⟩ := hv
  have hx := B.exec
  have hb := B.bytes
  have hr := B.returns
  have hts := atoms_spec (ws := wsX2_openFromA) B.pre
  have hown : s.vm.findClass RX2 = some m.cls := findClass_of_methodNamed B.named
  have hlocks := B.notSynchronized
  subst hsz
  have hD := hD0.self (sz := s.heap.size)
  generalize hAe : va_A (wX2_openFromA cyI cyJ cyZ h h_courtA h_courtB h_kind h_gone h_court i_gates i_persons i_fines a_kind a_gone) s.heap.size = A at hD ⊢
  have hA : ∀ q : Nat, s.heap.size ≤ q → A q := fun q h => by rw [← hAe]; exact Or.inr h
  have hW : Wd (dC, dI) A s.heap (wX2_openFromA cyI cyJ cyZ h h_courtA h_courtB h_kind h_gone h_court i_gates i_persons i_fines a_kind a_gone) s.heap [] := ⟨hP, hD, va_S.rf⟩
  have hw := hwp
  have hiX2 : ∀ w ∈ u_ws RX2 TX2 8, w ∈ wsX2_openFromA := fun _ h => List.mem_cons_of_mem _ (List.mem_append_right _ h)
  have k_0 := hts (.fieldLink RX2 24 "OddLetsIn$Garden" "gates" "I") (List.mem_of_getElem? (i := 1) rfl)
  have W_4 : ∀ (n_4 : Nat) (x1 : Int32) (x2 : Int32) (H : Heap) (locs : List Loc) (ls : Array Slot), Wd (dC, dI) A s.heap (wX2_openFromA cyI cyJ cyZ h h_courtA h_courtB h_kind h_gone h_court i_gates i_persons i_fines a_kind a_gone) H locs → lv_has ls 3 [(0, .ref h), (1, .int x1), (2, .int x2)] → PX2_openFromA_4 post i_gates a_kind a_gone n_4 x1 x2 → W p l e (({ frames := 3, cells := 0, slots := 0, locals := 67 } : Room)) s m (([.ref h] : List Value).toArray) below meth c H locs 0 0 (MQ below (qX2_openFromA dC dI cyI cyJ cyZ h h_courtA h_courtB h_kind h_gone h_court i_gates i_persons i_fines a_kind a_gone post A) (([.ref h] : List Value).toArray) s 0 0 A) (F0 m 4 ls []) := by
    intro n_4
    induction n_4 with
    | zero =>
      intro x1 x2 H locs ls hW hl hw
      exact False.elim hw
    | succ n_4 ih_4 =>
      intro x1 x2 H locs ls hW hl hw
      refine lv_iload_n hx hb dX2_openFromA_4 rfl (lv_at hl 2 rfl) ?_
      refine lv_aload_n hx hb dX2_openFromA_5 rfl (lv_at hl 0 rfl) ?_
      refine zw_get (ci := 2) (C := RX2) (T := TX2) (N := 8) (v := .int i_gates) hx hb hts hiX2 hown hK hW 0 rfl rfl 4 (by decide) rfl k_0 dX2_openFromA_6 ?_
      refine lv_icmp_ge (tgt := 42) hx hb dX2_openFromA_9 (by decide) (fun c_1 => ?_) (fun c_1 => ?_)
      · replace hw := hw.1 c_1
        refine lv_iload_n hx hb dX2_openFromA_42 rfl (lv_at hl 1 rfl) ?_
        refine zw_iret (S := Unit) (post := fun r u => post r) () hx hb hr hlocks hK hW hw ?_ dX2_openFromA_43
        rfl
      · replace hw := hw.2 c_1
        refine lv_iload_n hx hb dX2_openFromA_12 rfl (lv_at hl 2 rfl) ?_
        refine lv_iconst (v := 5) hx hb dX2_openFromA_13 (by decide) ?_
        refine lv_icmp_ge (tgt := 42) hx hb dX2_openFromA_14 (by decide) (fun c_2 => ?_) (fun c_2 => ?_)
        · replace hw := hw.1 c_2
          refine lv_iload_n hx hb dX2_openFromA_42 rfl (lv_at hl 1 rfl) ?_
          refine zw_iret (S := Unit) (post := fun r u => post r) () hx hb hr hlocks hK hW hw ?_ dX2_openFromA_43
          rfl
        · replace hw := hw.2 c_2
          refine lv_iload_n hx hb dX2_openFromA_17 rfl (lv_at hl 1 rfl) ?_
          refine lv_aload_n hx hb dX2_openFromA_18 rfl (lv_at hl 0 rfl) ?_
          refine lv_iload_n hx hb dX2_openFromA_19 rfl (lv_at hl 2 rfl) ?_
          refine lv_iconst (v := 0) hx hb dX2_openFromA_20 (by decide) ?_
          refine zw_Vi ⟨hx, hb, hml, hown, hts⟩ hK hN hA hW 0 rfl (T := TX2) (N := 8) rfl [.int x2, .int 0] [.int x1] [0, 1, 2] [] [0, 1, 2] (fun _ => (wX2_openFromA cyI cyJ cyZ h h_courtA h_courtB h_kind h_gone h_court i_gates i_persons i_fines a_kind a_gone)) (mX2_isOpen l dC dI cyI cyJ cyZ h h_courtA h_courtB h_kind h_gone h_court _ i_gates i_persons i_fines a_kind a_gone x2 0 _ hw) (cwV 2 hts gX2_openFromA_X2_isOpen rfl rfl rfl (by decide +kernel) ⟨Nat.le_of_ble_eq_true rfl, Nat.le_of_ble_eq_true rfl⟩) rfl rfl rfl rfl (by decide) rfl (fun _ => rfl) rfl hl.1 rfl (Nat.le_of_ble_eq_true rfl) (Nat.le_of_ble_eq_true rfl) (Nat.le_of_ble_eq_true rfl) dX2_openFromA_21 (fun r_3 u H locs hw hW => ?_)
          obtain ⟨br_3, hw⟩ := hw
          refine lv_if_eq (tgt := 33) hx hb dX2_openFromA_24 (by decide) (fun c_4 => ?_) (fun c_4 => ?_)
          · replace hw := hw.1 c_4
            refine lv_iconst (v := 0) hx hb dX2_openFromA_33 (by decide) ?_
            refine lv_ior hx hb dX2_openFromA_34 ?_
            refine lv_topi (fun x1_5 ex1_5 => ?_)
            replace hw := hw x1_5 ex1_5
            refine lv_istore_n (lv' := [(1, .int x1_5), (0, .ref h), (2, .int x2)]) hx hb dX2_openFromA_35 rfl hl (by decide) rfl (fun ls hl => ?_)
            obtain ⟨x2_6, ex2_6⟩ : ∃ y : Int32, y = x2 + 1 := ⟨_, rfl⟩
            replace hw := hw x2_6 ex2_6
            refine lv_iinc (v := x2_6) (lv' := [(2, .int x2_6), (1, .int x1_5), (0, .ref h)]) hx hb dX2_openFromA_36 hl (k := 2) rfl (by rw [ex2_6]; rfl) (by decide) rfl (fun ls hl => ?_)
            refine lv_goto (tgt := 4) hx hb dX2_openFromA_39 (by decide) ?_
            exact ih_4 x1_5 x2_6 _ _ _ hW (lv_sub hl [2, 1, 0] rfl) hw
          · replace hw := hw.2 c_4
            refine lv_iconst (v := 1) hx hb dX2_openFromA_27 (by decide) ?_
            refine lv_iload_n hx hb dX2_openFromA_28 rfl (lv_at hl 2 rfl) ?_
            refine lv_ishl hx hb dX2_openFromA_29 ?_
            refine lv_goto (tgt := 34) hx hb dX2_openFromA_30 (by decide) ?_
            refine lv_ior hx hb dX2_openFromA_34 ?_
            refine lv_topi (fun x1_7 ex1_7 => ?_)
            replace hw := hw x1_7 ex1_7
            refine lv_istore_n (lv' := [(1, .int x1_7), (0, .ref h), (2, .int x2)]) hx hb dX2_openFromA_35 rfl hl (by decide) rfl (fun ls hl => ?_)
            obtain ⟨x2_8, ex2_8⟩ : ∃ y : Int32, y = x2 + 1 := ⟨_, rfl⟩
            replace hw := hw x2_8 ex2_8
            refine lv_iinc (v := x2_8) (lv' := [(2, .int x2_8), (1, .int x1_7), (0, .ref h)]) hx hb dX2_openFromA_36 hl (k := 2) rfl (by rw [ex2_8]; rfl) (by decide) rfl (fun ls hl => ?_)
            refine lv_goto (tgt := 4) hx hb dX2_openFromA_39 (by decide) ?_
            exact ih_4 x1_7 x2_8 _ _ _ hW (lv_sub hl [2, 1, 0] rfl) hw
  have hl := lv_entry ([.ref h]) (n := 3) (Nat.le_of_ble_eq_true rfl)
  rw [lg_entry_eq]
  generalize (lg_sl ([.ref h]) ++ List.replicate (3 - (lg_sl ([.ref h])).length) Slot.unset).toArray = ls at hl ⊢
  have hl : lv_has ls 3 [(0, .ref h)] := hl
  refine lv_iconst (v := 0) hx hb dX2_openFromA_0 (by decide) ?_
  refine lv_istore_n (lv' := [(1, .int 0), (0, .ref h)]) hx hb dX2_openFromA_1 rfl hl (by decide) rfl (fun ls hl => ?_)
  refine lv_iconst (v := 0) hx hb dX2_openFromA_2 (by decide) ?_
  refine lv_istore_n (lv' := [(2, .int 0), (1, .int 0), (0, .ref h)]) hx hb dX2_openFromA_3 rfl hl (by decide) rfl (fun ls hl => ?_)
  obtain ⟨n_4, hw⟩ := hw
  exact W_4  n_4 0 0 _ _ _ hW (lv_sub hl [2, 1, 0] rfl) hw
abbrev wX2_isOpenFrom (cyI cyJ cyZ : ClassId) (h h_courtA h_courtB h_kind h_gone h_court : Nat) (i_gates : Int32) (i_persons : Int32) (i_fines : Int32) (a_courtA : Nat → Int32) (a_courtB : Nat → Int32) (a_kind : Nat → Int32) (a_gone : Nat → Int32) : va_W := [(h, .inr (2, [.ref h_courtA, .ref h_courtB, .ref h_kind, .ref h_gone, .int i_gates, .ref h_court, .int i_persons, .int i_fines])), (h_courtA, .inl (cyI, 5, .inl a_courtA)), (h_courtB, .inl (cyI, 5, .inl a_courtB)), (h_kind, .inl (cyI, 5, .inl a_kind)), (h_gone, .inl (cyI, 5, .inl a_gone))]
abbrev qX2_isOpenFrom (dC : Nat → ClassId) (dI : Nat → Nat → Nat) (cyI cyJ cyZ : ClassId) (h h_courtA h_courtB h_kind h_gone h_court : Nat) (i_gates : Int32) (i_persons : Int32) (i_fines : Int32) (a_courtA : Nat → Int32) (a_courtB : Nat → Int32) (a_kind : Nat → Int32) (a_gone : Nat → Int32) (post : Int32 → Prop) (A : Nat → Prop) : Array Value → State → Outcome → State → Prop := (va_Qi (fun (r : Int32) (u : Unit) => (r = 0 ∨ r = 1) ∧ post r) (bW (dC, dI) (tyG cyI cyJ cyZ) A (fun _ : Unit => (wX2_isOpenFrom cyI cyJ cyZ h h_courtA h_courtB h_kind h_gone h_court i_gates i_persons i_fines a_courtA a_courtB a_kind a_gone))) A)
set_option maxHeartbeats 4000000 in
set_option maxRecDepth 100000 in
theorem mX2_isOpenFrom (l : Launch) (dC : Nat → ClassId) (dI : Nat → Nat → Nat) (cyI cyJ cyZ : ClassId) (h h_courtA h_courtB h_kind h_gone h_court : Nat) (sz : Nat) (i_gates : Int32) (i_persons : Int32) (i_fines : Int32) (a_courtA : Nat → Int32) (a_courtB : Nat → Int32) (a_kind : Nat → Int32) (a_gone : Nat → Int32) (x1 : Int32) (x2 : Int32) (post : Int32 → Prop) (hwp : PX2_isOpenFrom x1 x2 i_gates a_courtA a_courtB a_kind a_gone post) : Met l yX2_isOpenFrom wsX2_isOpenFrom ({ frames := 3, cells := 0, slots := 0, locals := 67 } : Room) (va_Pc [.ref h, .int x1, .int x2] (pcW (dC, dI) sz (wX2_isOpenFrom cyI cyJ cyZ h h_courtA h_courtB h_kind h_gone h_court i_gates i_persons i_fines a_courtA a_courtB a_kind a_gone) (tyG cyI cyJ cyZ))) (qX2_isOpenFrom dC dI cyI cyJ cyZ h h_courtA h_courtB h_kind h_gone h_court i_gates i_persons i_fines a_courtA a_courtB a_kind a_gone post (va_A (wX2_isOpenFrom cyI cyJ cyZ h h_courtA h_courtB h_kind h_gone h_court i_gates i_persons i_fines a_courtA a_courtB a_kind a_gone) sz)) 0 0 (va_A (wX2_isOpenFrom cyI cyJ cyZ h h_courtA h_courtB h_kind h_gone h_court i_gates i_persons i_fines a_courtA a_courtB a_kind a_gone) sz) := by
  refine Met.ofW (cc := cX2_isOpenFrom) (maxL := 3) (ret := some .boolean) (by decide) rfl ?_
  intro p e s m args below meth c s₁ B hml hv
  obtain ⟨rfl, hsz, hP, hK, hD0, hN⟩ := hv
  have hx := B.exec
  have hb := B.bytes
  have hr := B.returns
  have hts := atoms_spec (ws := wsX2_isOpenFrom) B.pre
  have hown : s.vm.findClass RX2 = some m.cls := findClass_of_methodNamed B.named
  have hlocks := B.notSynchronized
  subst hsz
  have hD := hD0.self (sz := s.heap.size)
  generalize hAe : va_A (wX2_isOpenFrom cyI cyJ cyZ h h_courtA h_courtB h_kind h_gone h_court i_gates i_persons i_fines a_courtA a_courtB a_kind a_gone) s.heap.size = A at hD ⊢
  have hA : ∀ q : Nat, s.heap.size ≤ q → A q := fun q h => by rw [← hAe]; exact Or.inr h
  have hW : Wd (dC, dI) A s.heap (wX2_isOpenFrom cyI cyJ cyZ h h_courtA h_courtB h_kind h_gone h_court i_gates i_persons i_fines a_courtA a_courtB a_kind a_gone) s.heap [] := ⟨hP, hD, va_S.rf⟩
  have hw := hwp
  have hiX2 : ∀ w ∈ u_ws RX2 TX2 8, w ∈ wsX2_isOpenFrom := fun _ h => List.mem_cons_of_mem _ (List.mem_append_right _ h)
  have k_0 := hts (.fieldLink RX2 9 "OddLetsIn$Garden" "courtA" "[I") (List.mem_of_getElem? (i := 1) rfl)
  have k_1 := hts (.fieldLink RX2 15 "OddLetsIn$Garden" "courtB" "[I") (List.mem_of_getElem? (i := 2) rfl)
  have hl := lv_entry ([.ref h, .int x1, .int x2]) (n := 3) (Nat.le_of_ble_eq_true rfl)
  rw [lg_entry_eq]
  generalize (lg_sl ([.ref h, .int x1, .int x2]) ++ List.replicate (3 - (lg_sl ([.ref h, .int x1, .int x2])).length) Slot.unset).toArray = ls at hl ⊢
  have hl : lv_has ls 3 [(0, .ref h), (1, .int x1), (2, .int x2)] := hl
  refine lv_aload_n hx hb dX2_isOpenFrom_0 rfl (lv_at hl 0 rfl) ?_
  refine lv_iload_n hx hb dX2_isOpenFrom_1 rfl (lv_at hl 2 rfl) ?_
  refine zw_Vi ⟨hx, hb, hml, hown, hts⟩ hK hN hA hW 0 rfl (T := TX2) (N := 8) rfl [.int x2] [] [0] [1, 2, 3, 4] [4, 0, 1, 2, 3] (fun _ => (wX2_isOpenFrom cyI cyJ cyZ h h_courtA h_courtB h_kind h_gone h_court i_gates i_persons i_fines a_courtA a_courtB a_kind a_gone)) (mX2_hasGate l dC dI cyI cyJ cyZ h h_courtA h_courtB h_kind h_gone h_court _ i_gates i_persons i_fines x2 _ hw) (cwV 1 hts gX2_isOpenFrom_X2_hasGate rfl rfl rfl (by decide +kernel) ⟨Nat.le_of_ble_eq_true rfl, Nat.le_of_ble_eq_true rfl⟩) rfl rfl rfl rfl (by decide) rfl (fun _ => rfl) rfl hl.1 rfl (Nat.le_of_ble_eq_true rfl) (Nat.le_of_ble_eq_true rfl) (Nat.le_of_ble_eq_true rfl) dX2_isOpenFrom_2 (fun r_1 u H locs hw hW => ?_)
  obtain ⟨br_1, hw⟩ := hw
  refine lv_if_ne (tgt := 10) hx hb dX2_isOpenFrom_5 (by decide) (fun c_2 => ?_) (fun c_2 => ?_)
  · replace hw := hw.2 c_2
    refine lv_iload_n hx hb dX2_isOpenFrom_10 rfl (lv_at hl 1 rfl) ?_
    refine lv_aload_n hx hb dX2_isOpenFrom_11 rfl (lv_at hl 0 rfl) ?_
    refine zw_get (ci := 2) (C := RX2) (T := TX2) (N := 8) (v := .ref h_courtA) hx hb hts hiX2 hown hK hW 0 rfl rfl 0 (by decide) rfl k_0 dX2_isOpenFrom_12 ?_
    refine lv_iload_n hx hb dX2_isOpenFrom_15 rfl (lv_at hl 2 rfl) ?_
    refine zw_iald hx hb hK hW 1 rfl rfl hw.1 dX2_isOpenFrom_16 ?_
    replace hw := hw.2
    refine lv_icmp_ne (tgt := 27) hx hb dX2_isOpenFrom_17 (by decide) (fun c_3 => ?_) (fun c_3 => ?_)
    · replace hw := hw.2 c_3
      refine lv_iload_n hx hb dX2_isOpenFrom_27 rfl (lv_at hl 1 rfl) ?_
      refine lv_aload_n hx hb dX2_isOpenFrom_28 rfl (lv_at hl 0 rfl) ?_
      refine zw_get (ci := 2) (C := RX2) (T := TX2) (N := 8) (v := .ref h_courtB) hx hb hts hiX2 hown hK hW 0 rfl rfl 1 (by decide) rfl k_1 dX2_isOpenFrom_29 ?_
      refine lv_iload_n hx hb dX2_isOpenFrom_32 rfl (lv_at hl 2 rfl) ?_
      refine zw_iald hx hb hK hW 2 rfl rfl hw.1 dX2_isOpenFrom_33 ?_
      replace hw := hw.2
      refine lv_icmp_ne (tgt := 50) hx hb dX2_isOpenFrom_34 (by decide) (fun c_4 => ?_) (fun c_4 => ?_)
      · replace hw := hw.2 c_4
        refine lv_iconst (v := 0) hx hb dX2_isOpenFrom_50 (by decide) ?_
        refine zw_zret (S := Unit) (post := fun r u => post r) () hx hb hr hlocks hK hW (Or.inl rfl) hw ?_ dX2_isOpenFrom_51
        rfl
      · replace hw := hw.1 c_4
        refine lv_aload_n hx hb dX2_isOpenFrom_37 rfl (lv_at hl 0 rfl) ?_
        refine lv_iload_n hx hb dX2_isOpenFrom_38 rfl (lv_at hl 2 rfl) ?_
        refine lv_iconst (v := 1) hx hb dX2_isOpenFrom_39 (by decide) ?_
        refine zw_Vi ⟨hx, hb, hml, hown, hts⟩ hK hN hA hW 0 rfl (T := TX2) (N := 8) rfl [.int x2, .int 1] [] [0, 3, 4] [1, 2] [2, 0, 1, 3, 4] (fun _ => (wX2_isOpenFrom cyI cyJ cyZ h h_courtA h_courtB h_kind h_gone h_court i_gates i_persons i_fines a_courtA a_courtB a_kind a_gone)) (mX2_isOpen l dC dI cyI cyJ cyZ h h_courtA h_courtB h_kind h_gone h_court _ i_gates i_persons i_fines a_kind a_gone x2 1 _ hw) (cwV 2 hts gX2_isOpenFrom_X2_isOpen rfl rfl rfl (by decide +kernel) ⟨Nat.le_of_ble_eq_true rfl, Nat.le_of_ble_eq_true rfl⟩) rfl rfl rfl rfl (by decide) rfl (fun _ => rfl) rfl hl.1 rfl (Nat.le_of_ble_eq_true rfl) (Nat.le_of_ble_eq_true rfl) (Nat.le_of_ble_eq_true rfl) dX2_isOpenFrom_40 (fun r_5 u H locs hw hW => ?_)
        obtain ⟨br_5, hw⟩ := hw
        refine lv_if_eq (tgt := 50) hx hb dX2_isOpenFrom_43 (by decide) (fun c_6 => ?_) (fun c_6 => ?_)
        · replace hw := hw.1 c_6
          refine lv_iconst (v := 0) hx hb dX2_isOpenFrom_50 (by decide) ?_
          refine zw_zret (S := Unit) (post := fun r u => post r) () hx hb hr hlocks hK hW (Or.inl rfl) hw ?_ dX2_isOpenFrom_51
          rfl
        · replace hw := hw.2 c_6
          refine lv_iconst (v := 1) hx hb dX2_isOpenFrom_46 (by decide) ?_
          refine lv_goto (tgt := 51) hx hb dX2_isOpenFrom_47 (by decide) ?_
          refine zw_zret (S := Unit) (post := fun r u => post r) () hx hb hr hlocks hK hW (Or.inr rfl) hw ?_ dX2_isOpenFrom_51
          rfl
    · replace hw := hw.1 c_3
      refine lv_aload_n hx hb dX2_isOpenFrom_20 rfl (lv_at hl 0 rfl) ?_
      refine lv_iload_n hx hb dX2_isOpenFrom_21 rfl (lv_at hl 2 rfl) ?_
      refine lv_iconst (v := 0) hx hb dX2_isOpenFrom_22 (by decide) ?_
      refine zw_Vi ⟨hx, hb, hml, hown, hts⟩ hK hN hA hW 0 rfl (T := TX2) (N := 8) rfl [.int x2, .int 0] [] [0, 3, 4] [1, 2] [2, 0, 1, 3, 4] (fun _ => (wX2_isOpenFrom cyI cyJ cyZ h h_courtA h_courtB h_kind h_gone h_court i_gates i_persons i_fines a_courtA a_courtB a_kind a_gone)) (mX2_isOpen l dC dI cyI cyJ cyZ h h_courtA h_courtB h_kind h_gone h_court _ i_gates i_persons i_fines a_kind a_gone x2 0 _ hw) (cwV 2 hts gX2_isOpenFrom_X2_isOpen rfl rfl rfl (by decide +kernel) ⟨Nat.le_of_ble_eq_true rfl, Nat.le_of_ble_eq_true rfl⟩) rfl rfl rfl rfl (by decide) rfl (fun _ => rfl) rfl hl.1 rfl (Nat.le_of_ble_eq_true rfl) (Nat.le_of_ble_eq_true rfl) (Nat.le_of_ble_eq_true rfl) dX2_isOpenFrom_23 (fun r_7 u H locs hw hW => ?_)
      obtain ⟨br_7, hw⟩ := hw
      refine zw_zret (S := Unit) (post := fun r u => post r) () hx hb hr hlocks hK hW br_7 hw ?_ dX2_isOpenFrom_26
      rfl
  · replace hw := hw.1 c_2
    refine lv_iconst (v := 0) hx hb dX2_isOpenFrom_8 (by decide) ?_
    refine zw_zret (S := Unit) (post := fun r u => post r) () hx hb hr hlocks hK hW (Or.inl rfl) hw ?_ dX2_isOpenFrom_9
    rfl
abbrev wX2_beyond (cyI cyJ cyZ : ClassId) (h h_courtA h_courtB h_kind h_gone h_court : Nat) (i_gates : Int32) (i_persons : Int32) (i_fines : Int32) (a_courtA : Nat → Int32) (a_courtB : Nat → Int32) : va_W := [(h, .inr (2, [.ref h_courtA, .ref h_courtB, .ref h_kind, .ref h_gone, .int i_gates, .ref h_court, .int i_persons, .int i_fines])), (h_courtA, .inl (cyI, 5, .inl a_courtA)), (h_courtB, .inl (cyI, 5, .inl a_courtB))]
abbrev qX2_beyond (dC : Nat → ClassId) (dI : Nat → Nat → Nat) (cyI cyJ cyZ : ClassId) (h h_courtA h_courtB h_kind h_gone h_court : Nat) (i_gates : Int32) (i_persons : Int32) (i_fines : Int32) (a_courtA : Nat → Int32) (a_courtB : Nat → Int32) (post : Int32 → Prop) (A : Nat → Prop) : Array Value → State → Outcome → State → Prop := (va_Qi (fun (r : Int32) (u : Unit) => post r) (bW (dC, dI) (tyG cyI cyJ cyZ) A (fun _ : Unit => (wX2_beyond cyI cyJ cyZ h h_courtA h_courtB h_kind h_gone h_court i_gates i_persons i_fines a_courtA a_courtB))) A)
set_option maxHeartbeats 4000000 in
set_option maxRecDepth 100000 in
theorem mX2_beyond (l : Launch) (dC : Nat → ClassId) (dI : Nat → Nat → Nat) (cyI cyJ cyZ : ClassId) (h h_courtA h_courtB h_kind h_gone h_court : Nat) (sz : Nat) (i_gates : Int32) (i_persons : Int32) (i_fines : Int32) (a_courtA : Nat → Int32) (a_courtB : Nat → Int32) (x1 : Int32) (x2 : Int32) (post : Int32 → Prop) (hwp : PX2_beyond x1 x2 i_gates a_courtA a_courtB post) : Met l yX2_beyond wsX2_beyond ({ frames := 1, cells := 0, slots := 0, locals := 21 } : Room) (va_Pc [.ref h, .int x1, .int x2] (pcW (dC, dI) sz (wX2_beyond cyI cyJ cyZ h h_courtA h_courtB h_kind h_gone h_court i_gates i_persons i_fines a_courtA a_courtB) (tyG cyI cyJ cyZ))) (qX2_beyond dC dI cyI cyJ cyZ h h_courtA h_courtB h_kind h_gone h_court i_gates i_persons i_fines a_courtA a_courtB post (va_A (wX2_beyond cyI cyJ cyZ h h_courtA h_courtB h_kind h_gone h_court i_gates i_persons i_fines a_courtA a_courtB) sz)) 0 0 (va_A (wX2_beyond cyI cyJ cyZ h h_courtA h_courtB h_kind h_gone h_court i_gates i_persons i_fines a_courtA a_courtB) sz) := by
  refine Met.ofW (cc := cX2_beyond) (maxL := 3) (ret := some .int) (by decide) rfl ?_
  intro p e s m args below meth c s₁ B hml hv
  obtain ⟨rfl, hsz, hP, hK, hD0, hN⟩ := hv
  have hx := B.exec
  have hb := B.bytes
  have hr := B.returns
  have hts := atoms_spec (ws := wsX2_beyond) B.pre
  have hown : s.vm.findClass RX2 = some m.cls := findClass_of_methodNamed B.named
  have hlocks := B.notSynchronized
  subst hsz
  have hD := hD0.self (sz := s.heap.size)
  generalize hAe : va_A (wX2_beyond cyI cyJ cyZ h h_courtA h_courtB h_kind h_gone h_court i_gates i_persons i_fines a_courtA a_courtB) s.heap.size = A at hD ⊢
  have hA : ∀ q : Nat, s.heap.size ≤ q → A q := fun q h => by rw [← hAe]; exact Or.inr h
  have hW : Wd (dC, dI) A s.heap (wX2_beyond cyI cyJ cyZ h h_courtA h_courtB h_kind h_gone h_court i_gates i_persons i_fines a_courtA a_courtB) s.heap [] := ⟨hP, hD, va_S.rf⟩
  have hw := hwp
  have hiX2 : ∀ w ∈ u_ws RX2 TX2 8, w ∈ wsX2_beyond := fun _ h => List.mem_cons_of_mem _ (List.mem_append_right _ h)
  have k_0 := hts (.fieldLink RX2 9 "OddLetsIn$Garden" "courtA" "[I") (List.mem_of_getElem? (i := 1) rfl)
  have k_1 := hts (.fieldLink RX2 15 "OddLetsIn$Garden" "courtB" "[I") (List.mem_of_getElem? (i := 2) rfl)
  have hl := lv_entry ([.ref h, .int x1, .int x2]) (n := 3) (Nat.le_of_ble_eq_true rfl)
  rw [lg_entry_eq]
  generalize (lg_sl ([.ref h, .int x1, .int x2]) ++ List.replicate (3 - (lg_sl ([.ref h, .int x1, .int x2])).length) Slot.unset).toArray = ls at hl ⊢
  have hl : lv_has ls 3 [(0, .ref h), (1, .int x1), (2, .int x2)] := hl
  refine lv_aload_n hx hb dX2_beyond_0 rfl (lv_at hl 0 rfl) ?_
  refine lv_iload_n hx hb dX2_beyond_1 rfl (lv_at hl 2 rfl) ?_
  refine zw_Vi ⟨hx, hb, hml, hown, hts⟩ hK hN hA hW 0 rfl (T := TX2) (N := 8) rfl [.int x2] [] [0] [1, 2] [2, 0, 1] (fun _ => (wX2_beyond cyI cyJ cyZ h h_courtA h_courtB h_kind h_gone h_court i_gates i_persons i_fines a_courtA a_courtB)) (mX2_hasGate l dC dI cyI cyJ cyZ h h_courtA h_courtB h_kind h_gone h_court _ i_gates i_persons i_fines x2 _ hw) (cwV 1 hts gX2_beyond_X2_hasGate rfl rfl rfl (by decide +kernel) ⟨Nat.le_of_ble_eq_true rfl, Nat.le_of_ble_eq_true rfl⟩) rfl rfl rfl rfl (by decide) rfl (fun _ => rfl) rfl hl.1 rfl (Nat.le_of_ble_eq_true rfl) (Nat.le_of_ble_eq_true rfl) (Nat.le_of_ble_eq_true rfl) dX2_beyond_2 (fun r_1 u H locs hw hW => ?_)
  obtain ⟨br_1, hw⟩ := hw
  refine lv_if_ne (tgt := 10) hx hb dX2_beyond_5 (by decide) (fun c_2 => ?_) (fun c_2 => ?_)
  · replace hw := hw.2 c_2
    refine lv_iload_n hx hb dX2_beyond_10 rfl (lv_at hl 1 rfl) ?_
    refine lv_aload_n hx hb dX2_beyond_11 rfl (lv_at hl 0 rfl) ?_
    refine zw_get (ci := 2) (C := RX2) (T := TX2) (N := 8) (v := .ref h_courtA) hx hb hts hiX2 hown hK hW 0 rfl rfl 0 (by decide) rfl k_0 dX2_beyond_12 ?_
    refine lv_iload_n hx hb dX2_beyond_15 rfl (lv_at hl 2 rfl) ?_
    refine zw_iald hx hb hK hW 1 rfl rfl hw.1 dX2_beyond_16 ?_
    replace hw := hw.2
    refine lv_icmp_ne (tgt := 27) hx hb dX2_beyond_17 (by decide) (fun c_3 => ?_) (fun c_3 => ?_)
    · replace hw := hw.2 c_3
      refine lv_iload_n hx hb dX2_beyond_27 rfl (lv_at hl 1 rfl) ?_
      refine lv_aload_n hx hb dX2_beyond_28 rfl (lv_at hl 0 rfl) ?_
      refine zw_get (ci := 2) (C := RX2) (T := TX2) (N := 8) (v := .ref h_courtB) hx hb hts hiX2 hown hK hW 0 rfl rfl 1 (by decide) rfl k_1 dX2_beyond_29 ?_
      refine lv_iload_n hx hb dX2_beyond_32 rfl (lv_at hl 2 rfl) ?_
      refine zw_iald hx hb hK hW 2 rfl rfl hw.1 dX2_beyond_33 ?_
      replace hw := hw.2
      refine lv_icmp_ne (tgt := 46) hx hb dX2_beyond_34 (by decide) (fun c_4 => ?_) (fun c_4 => ?_)
      · replace hw := hw.2 c_4
        refine lv_iload_n hx hb dX2_beyond_46 rfl (lv_at hl 1 rfl) ?_
        refine zw_iret (S := Unit) (post := fun r u => post r) () hx hb hr hlocks hK hW hw ?_ dX2_beyond_47
        rfl
      · replace hw := hw.1 c_4
        refine lv_aload_n hx hb dX2_beyond_37 rfl (lv_at hl 0 rfl) ?_
        refine zw_get (ci := 2) (C := RX2) (T := TX2) (N := 8) (v := .ref h_courtA) hx hb hts hiX2 hown hK hW 0 rfl rfl 0 (by decide) rfl k_0 dX2_beyond_38 ?_
        refine lv_iload_n hx hb dX2_beyond_41 rfl (lv_at hl 2 rfl) ?_
        refine zw_iald hx hb hK hW 1 rfl rfl hw.1 dX2_beyond_42 ?_
        replace hw := hw.2
        refine lv_goto (tgt := 47) hx hb dX2_beyond_43 (by decide) ?_
        refine zw_iret (S := Unit) (post := fun r u => post r) () hx hb hr hlocks hK hW hw ?_ dX2_beyond_47
        rfl
    · replace hw := hw.1 c_3
      refine lv_aload_n hx hb dX2_beyond_20 rfl (lv_at hl 0 rfl) ?_
      refine zw_get (ci := 2) (C := RX2) (T := TX2) (N := 8) (v := .ref h_courtB) hx hb hts hiX2 hown hK hW 0 rfl rfl 1 (by decide) rfl k_1 dX2_beyond_21 ?_
      refine lv_iload_n hx hb dX2_beyond_24 rfl (lv_at hl 2 rfl) ?_
      refine zw_iald hx hb hK hW 2 rfl rfl hw.1 dX2_beyond_25 ?_
      replace hw := hw.2
      refine zw_iret (S := Unit) (post := fun r u => post r) () hx hb hr hlocks hK hW hw ?_ dX2_beyond_26
      rfl
  · replace hw := hw.1 c_2
    refine lv_iload_n hx hb dX2_beyond_8 rfl (lv_at hl 1 rfl) ?_
    refine zw_iret (S := Unit) (post := fun r u => post r) () hx hb hr hlocks hK hW hw ?_ dX2_beyond_9
    rfl
abbrev wX2_letsIn (cyI cyJ cyZ : ClassId) (h h_courtA h_courtB h_kind h_gone h_court : Nat) (i_gates : Int32) (i_persons : Int32) (i_fines : Int32) (a_courtA : Nat → Int32) (a_courtB : Nat → Int32) (a_kind : Nat → Int32) (a_gone : Nat → Int32) (a_court : Nat → Int32) : va_W := [(h, .inr (2, [.ref h_courtA, .ref h_courtB, .ref h_kind, .ref h_gone, .int i_gates, .ref h_court, .int i_persons, .int i_fines])), (h_courtA, .inl (cyI, 5, .inl a_courtA)), (h_courtB, .inl (cyI, 5, .inl a_courtB)), (h_kind, .inl (cyI, 5, .inl a_kind)), (h_gone, .inl (cyI, 5, .inl a_gone)), (h_court, .inl (cyI, 3, .inl a_court))]
abbrev qX2_letsIn (dC : Nat → ClassId) (dI : Nat → Nat → Nat) (cyI cyJ cyZ : ClassId) (h h_courtA h_courtB h_kind h_gone h_court : Nat) (i_gates : Int32) (i_persons : Int32) (i_fines : Int32) (a_courtA : Nat → Int32) (a_courtB : Nat → Int32) (a_kind : Nat → Int32) (a_gone : Nat → Int32) (a_court : Nat → Int32) (post : Int32 → Prop) (A : Nat → Prop) : Array Value → State → Outcome → State → Prop := (va_Qi (fun (r : Int32) (u : Unit) => (r = 0 ∨ r = 1) ∧ post r) (bW (dC, dI) (tyG cyI cyJ cyZ) A (fun _ : Unit => (wX2_letsIn cyI cyJ cyZ h h_courtA h_courtB h_kind h_gone h_court i_gates i_persons i_fines a_courtA a_courtB a_kind a_gone a_court))) A)
set_option maxHeartbeats 4000000 in
set_option maxRecDepth 100000 in
theorem mX2_letsIn (l : Launch) (dC : Nat → ClassId) (dI : Nat → Nat → Nat) (cyI cyJ cyZ : ClassId) (h h_courtA h_courtB h_kind h_gone h_court : Nat) (sz : Nat) (i_gates : Int32) (i_persons : Int32) (i_fines : Int32) (a_courtA : Nat → Int32) (a_courtB : Nat → Int32) (a_kind : Nat → Int32) (a_gone : Nat → Int32) (a_court : Nat → Int32) (x1 : Int32) (x2 : Int32) (post : Int32 → Prop) (hwp : PX2_letsIn x1 x2 i_gates i_persons a_courtA a_courtB a_kind a_gone a_court post) : Met l yX2_letsIn wsX2_letsIn ({ frames := 4, cells := 0, slots := 0, locals := 89 } : Room) (va_Pc [.ref h, .int x1, .int x2] (pcW (dC, dI) sz (wX2_letsIn cyI cyJ cyZ h h_courtA h_courtB h_kind h_gone h_court i_gates i_persons i_fines a_courtA a_courtB a_kind a_gone a_court) (tyG cyI cyJ cyZ))) (qX2_letsIn dC dI cyI cyJ cyZ h h_courtA h_courtB h_kind h_gone h_court i_gates i_persons i_fines a_courtA a_courtB a_kind a_gone a_court post (va_A (wX2_letsIn cyI cyJ cyZ h h_courtA h_courtB h_kind h_gone h_court i_gates i_persons i_fines a_courtA a_courtB a_kind a_gone a_court) sz)) 0 0 (va_A (wX2_letsIn cyI cyJ cyZ h h_courtA h_courtB h_kind h_gone h_court i_gates i_persons i_fines a_courtA a_courtB a_kind a_gone a_court) sz) := by
  refine Met.ofW (cc := cX2_letsIn) (maxL := 3) (ret := some .boolean) (by decide) rfl ?_
  intro p e s m args below meth c s₁ B hml hv
  obtain ⟨rfl, hsz, hP, hK, hD0, hN⟩ := hv
  have hx := B.exec
  have hb := B.bytes
  have hr := B.returns
  have hts := atoms_spec (ws := wsX2_letsIn) B.pre
  have hown : s.vm.findClass RX2 = some m.cls := findClass_of_methodNamed B.named
  have hlocks := B.notSynchronized
  subst hsz
  have hD := hD0.self (sz := s.heap.size)
  generalize hAe : va_A (wX2_letsIn cyI cyJ cyZ h h_courtA h_courtB h_kind h_gone h_court i_gates i_persons i_fines a_courtA a_courtB a_kind a_gone a_court) s.heap.size = A at hD ⊢
  have hA : ∀ q : Nat, s.heap.size ≤ q → A q := fun q h => by rw [← hAe]; exact Or.inr h
  have hW : Wd (dC, dI) A s.heap (wX2_letsIn cyI cyJ cyZ h h_courtA h_courtB h_kind h_gone h_court i_gates i_persons i_fines a_courtA a_courtB a_kind a_gone a_court) s.heap [] := ⟨hP, hD, va_S.rf⟩
  have hw := hwp
  have hiX2 : ∀ w ∈ u_ws RX2 TX2 8, w ∈ wsX2_letsIn := fun _ h => List.mem_cons_of_mem _ (List.mem_append_right _ h)
  have k_0 := hts (.fieldLink RX2 28 "OddLetsIn$Garden" "court" "[I") (List.mem_of_getElem? (i := 1) rfl)
  have hl := lv_entry ([.ref h, .int x1, .int x2]) (n := 3) (Nat.le_of_ble_eq_true rfl)
  rw [lg_entry_eq]
  generalize (lg_sl ([.ref h, .int x1, .int x2]) ++ List.replicate (3 - (lg_sl ([.ref h, .int x1, .int x2])).length) Slot.unset).toArray = ls at hl ⊢
  have hl : lv_has ls 3 [(0, .ref h), (1, .int x1), (2, .int x2)] := hl
  refine lv_aload_n hx hb dX2_letsIn_0 rfl (lv_at hl 0 rfl) ?_
  refine lv_iload_n hx hb dX2_letsIn_1 rfl (lv_at hl 1 rfl) ?_
  refine zw_Vi ⟨hx, hb, hml, hown, hts⟩ hK hN hA hW 0 rfl (T := TX2) (N := 8) rfl [.int x1] [] [0] [1, 2, 3, 4, 5] [5, 0, 1, 2, 3, 4] (fun _ => (wX2_letsIn cyI cyJ cyZ h h_courtA h_courtB h_kind h_gone h_court i_gates i_persons i_fines a_courtA a_courtB a_kind a_gone a_court)) (mX2_hasPerson l dC dI cyI cyJ cyZ h h_courtA h_courtB h_kind h_gone h_court _ i_gates i_persons i_fines x1 _ hw) (cwV 1 hts gX2_letsIn_X2_hasPerson rfl rfl rfl (by decide +kernel) ⟨Nat.le_of_ble_eq_true rfl, Nat.le_of_ble_eq_true rfl⟩) rfl rfl rfl rfl (by decide) rfl (fun _ => rfl) rfl hl.1 rfl (Nat.le_of_ble_eq_true rfl) (Nat.le_of_ble_eq_true rfl) (Nat.le_of_ble_eq_true rfl) dX2_letsIn_2 (fun r_1 u H locs hw hW => ?_)
  obtain ⟨br_1, hw⟩ := hw
  refine lv_if_eq (tgt := 26) hx hb dX2_letsIn_5 (by decide) (fun c_2 => ?_) (fun c_2 => ?_)
  · replace hw := hw.1 c_2
    refine lv_iconst (v := 0) hx hb dX2_letsIn_26 (by decide) ?_
    refine zw_zret (S := Unit) (post := fun r u => post r) () hx hb hr hlocks hK hW (Or.inl rfl) hw ?_ dX2_letsIn_27
    rfl
  · replace hw := hw.2 c_2
    refine lv_aload_n hx hb dX2_letsIn_8 rfl (lv_at hl 0 rfl) ?_
    refine lv_aload_n hx hb dX2_letsIn_9 rfl (lv_at hl 0 rfl) ?_
    refine zw_get (ci := 2) (C := RX2) (T := TX2) (N := 8) (v := .ref h_court) hx hb hts hiX2 hown hK hW 0 rfl rfl 5 (by decide) rfl k_0 dX2_letsIn_10 ?_
    refine lv_iload_n hx hb dX2_letsIn_13 rfl (lv_at hl 1 rfl) ?_
    refine zw_iald hx hb hK hW 5 rfl rfl hw.1 dX2_letsIn_14 ?_
    replace hw := hw.2
    refine lv_iload_n hx hb dX2_letsIn_15 rfl (lv_at hl 2 rfl) ?_
    refine zw_Vi ⟨hx, hb, hml, hown, hts⟩ hK hN hA hW 0 rfl (T := TX2) (N := 8) rfl [.int (a_court (x1).toNatClampNeg), .int x2] [] [0, 1, 2, 3, 4] [5] [1, 2, 3, 4, 5, 0] (fun _ => (wX2_letsIn cyI cyJ cyZ h h_courtA h_courtB h_kind h_gone h_court i_gates i_persons i_fines a_courtA a_courtB a_kind a_gone a_court)) (mX2_isOpenFrom l dC dI cyI cyJ cyZ h h_courtA h_courtB h_kind h_gone h_court _ i_gates i_persons i_fines a_courtA a_courtB a_kind a_gone (a_court (x1).toNatClampNeg) x2 _ hw) (cwV 2 hts gX2_letsIn_X2_isOpenFrom rfl rfl rfl (by decide +kernel) ⟨Nat.le_of_ble_eq_true rfl, Nat.le_of_ble_eq_true rfl⟩) rfl rfl rfl rfl (by decide) rfl (fun _ => rfl) rfl hl.1 rfl (Nat.le_of_ble_eq_true rfl) (Nat.le_of_ble_eq_true rfl) (Nat.le_of_ble_eq_true rfl) dX2_letsIn_16 (fun r_3 u H locs hw hW => ?_)
    obtain ⟨br_3, hw⟩ := hw
    refine lv_if_eq (tgt := 26) hx hb dX2_letsIn_19 (by decide) (fun c_4 => ?_) (fun c_4 => ?_)
    · replace hw := hw.1 c_4
      refine lv_iconst (v := 0) hx hb dX2_letsIn_26 (by decide) ?_
      refine zw_zret (S := Unit) (post := fun r u => post r) () hx hb hr hlocks hK hW (Or.inl rfl) hw ?_ dX2_letsIn_27
      rfl
    · replace hw := hw.2 c_4
      refine lv_iconst (v := 1) hx hb dX2_letsIn_22 (by decide) ?_
      refine lv_goto (tgt := 27) hx hb dX2_letsIn_23 (by decide) ?_
      refine zw_zret (S := Unit) (post := fun r u => post r) () hx hb hr hlocks hK hW (Or.inr rfl) hw ?_ dX2_letsIn_27
      rfl
abbrev wX2_letThrough (cyI cyJ cyZ : ClassId) (h h_courtA h_courtB h_kind h_gone h_court : Nat) (i_gates : Int32) (i_persons : Int32) (i_fines : Int32) (a_courtA : Nat → Int32) (a_courtB : Nat → Int32) (a_gone : Nat → Int32) (a_court : Nat → Int32) : va_W := [(h, .inr (2, [.ref h_courtA, .ref h_courtB, .ref h_kind, .ref h_gone, .int i_gates, .ref h_court, .int i_persons, .int i_fines])), (h_courtA, .inl (cyI, 5, .inl a_courtA)), (h_courtB, .inl (cyI, 5, .inl a_courtB)), (h_gone, .inl (cyI, 5, .inl a_gone)), (h_court, .inl (cyI, 3, .inl a_court))]
abbrev qX2_letThrough (dC : Nat → ClassId) (dI : Nat → Nat → Nat) (cyI cyJ cyZ : ClassId) (h h_courtA h_courtB h_kind h_gone h_court : Nat) (i_gates : Int32) (i_persons : Int32) (i_fines : Int32) (a_courtA : Nat → Int32) (a_courtB : Nat → Int32) (a_gone : Nat → Int32) (a_court : Nat → Int32) (post : (Nat → Int32) → (Nat → Int32) → Prop) (A : Nat → Prop) : Array Value → State → Outcome → State → Prop := (va_Qv (fun (u : (Nat → Int32) × (Nat → Int32)) => post u.1 u.2) (bW (dC, dI) (tyG cyI cyJ cyZ) A (fun u : (Nat → Int32) × (Nat → Int32) => (wX2_letThrough cyI cyJ cyZ h h_courtA h_courtB h_kind h_gone h_court i_gates i_persons i_fines a_courtA a_courtB (u.1) (u.2)))) A)
set_option maxHeartbeats 4000000 in
set_option maxRecDepth 100000 in
theorem mX2_letThrough (l : Launch) (dC : Nat → ClassId) (dI : Nat → Nat → Nat) (cyI cyJ cyZ : ClassId) (h h_courtA h_courtB h_kind h_gone h_court : Nat) (sz : Nat) (i_gates : Int32) (i_persons : Int32) (i_fines : Int32) (a_courtA : Nat → Int32) (a_courtB : Nat → Int32) (a_gone : Nat → Int32) (a_court : Nat → Int32) (x1 : Int32) (x2 : Int32) (post : (Nat → Int32) → (Nat → Int32) → Prop) (hwp : PX2_letThrough x1 x2 i_gates i_persons a_courtA a_courtB a_gone a_court post) : Met l yX2_letThrough wsX2_letThrough ({ frames := 2, cells := 0, slots := 0, locals := 43 } : Room) (va_Pc [.ref h, .int x1, .int x2] (pcW (dC, dI) sz (wX2_letThrough cyI cyJ cyZ h h_courtA h_courtB h_kind h_gone h_court i_gates i_persons i_fines a_courtA a_courtB a_gone a_court) (tyG cyI cyJ cyZ))) (qX2_letThrough dC dI cyI cyJ cyZ h h_courtA h_courtB h_kind h_gone h_court i_gates i_persons i_fines a_courtA a_courtB a_gone a_court post (va_A (wX2_letThrough cyI cyJ cyZ h h_courtA h_courtB h_kind h_gone h_court i_gates i_persons i_fines a_courtA a_courtB a_gone a_court) sz)) 0 0 (va_A (wX2_letThrough cyI cyJ cyZ h h_courtA h_courtB h_kind h_gone h_court i_gates i_persons i_fines a_courtA a_courtB a_gone a_court) sz) := by
  refine Met.ofW (cc := cX2_letThrough) (maxL := 3) (ret := none) (by decide) rfl ?_
  intro p e s m args below meth c s₁ B hml hv
  obtain ⟨rfl, hsz, hP, hK, hD0, hN⟩ := hv
  have hx := B.exec
  have hb := B.bytes
  have hr := B.returns
  have hts := atoms_spec (ws := wsX2_letThrough) B.pre
  have hown : s.vm.findClass RX2 = some m.cls := findClass_of_methodNamed B.named
  have hlocks := B.notSynchronized
  subst hsz
  have hD := hD0.self (sz := s.heap.size)
  generalize hAe : va_A (wX2_letThrough cyI cyJ cyZ h h_courtA h_courtB h_kind h_gone h_court i_gates i_persons i_fines a_courtA a_courtB a_gone a_court) s.heap.size = A at hD ⊢
  have hA : ∀ q : Nat, s.heap.size ≤ q → A q := fun q h => by rw [← hAe]; exact Or.inr h
  have hW : Wd (dC, dI) A s.heap (wX2_letThrough cyI cyJ cyZ h h_courtA h_courtB h_kind h_gone h_court i_gates i_persons i_fines a_courtA a_courtB a_gone a_court) s.heap [] := ⟨hP, hD, va_S.rf⟩
  have hw := hwp
  have hiX2 : ∀ w ∈ u_ws RX2 TX2 8, w ∈ wsX2_letThrough := fun _ h => List.mem_cons_of_mem _ (List.mem_append_right _ h)
  have k_0 := hts (.fieldLink RX2 28 "OddLetsIn$Garden" "court" "[I") (List.mem_of_getElem? (i := 1) rfl)
  have k_1 := hts (.fieldLink RX2 21 "OddLetsIn$Garden" "gone" "[I") (List.mem_of_getElem? (i := 2) rfl)
  have hl := lv_entry ([.ref h, .int x1, .int x2]) (n := 3) (Nat.le_of_ble_eq_true rfl)
  rw [lg_entry_eq]
  generalize (lg_sl ([.ref h, .int x1, .int x2]) ++ List.replicate (3 - (lg_sl ([.ref h, .int x1, .int x2])).length) Slot.unset).toArray = ls at hl ⊢
  have hl : lv_has ls 3 [(0, .ref h), (1, .int x1), (2, .int x2)] := hl
  refine lv_aload_n hx hb dX2_letThrough_0 rfl (lv_at hl 0 rfl) ?_
  refine lv_iload_n hx hb dX2_letThrough_1 rfl (lv_at hl 1 rfl) ?_
  refine zw_Vi ⟨hx, hb, hml, hown, hts⟩ hK hN hA hW 0 rfl (T := TX2) (N := 8) rfl [.int x1] [] [0] [1, 2, 3, 4] [4, 0, 1, 2, 3] (fun _ => (wX2_letThrough cyI cyJ cyZ h h_courtA h_courtB h_kind h_gone h_court i_gates i_persons i_fines a_courtA a_courtB a_gone a_court)) (mX2_hasPerson l dC dI cyI cyJ cyZ h h_courtA h_courtB h_kind h_gone h_court _ i_gates i_persons i_fines x1 _ hw) (cwV 1 hts gX2_letThrough_X2_hasPerson rfl rfl rfl (by decide +kernel) ⟨Nat.le_of_ble_eq_true rfl, Nat.le_of_ble_eq_true rfl⟩) rfl rfl rfl rfl (by decide) rfl (fun _ => rfl) rfl hl.1 rfl (Nat.le_of_ble_eq_true rfl) (Nat.le_of_ble_eq_true rfl) (Nat.le_of_ble_eq_true rfl) dX2_letThrough_2 (fun r_1 u H locs hw hW => ?_)
  obtain ⟨br_1, hw⟩ := hw
  refine lv_if_eq (tgt := 43) hx hb dX2_letThrough_5 (by decide) (fun c_2 => ?_) (fun c_2 => ?_)
  · replace hw := hw.1 c_2
    refine zw_vret (S := (Nat → Int32) × (Nat → Int32)) (post := fun u => post u.1 u.2) (a_gone, a_court) hx hb hr hlocks hK hW hw ?_ dX2_letThrough_43
    rfl
  · replace hw := hw.2 c_2
    refine lv_aload_n hx hb dX2_letThrough_8 rfl (lv_at hl 0 rfl) ?_
    refine lv_iload_n hx hb dX2_letThrough_9 rfl (lv_at hl 2 rfl) ?_
    refine zw_Vi ⟨hx, hb, hml, hown, hts⟩ hK hN hA hW 0 rfl (T := TX2) (N := 8) rfl [.int x2] [] [0] [1, 2, 3, 4] [4, 0, 1, 2, 3] (fun _ => (wX2_letThrough cyI cyJ cyZ h h_courtA h_courtB h_kind h_gone h_court i_gates i_persons i_fines a_courtA a_courtB a_gone a_court)) (mX2_hasGate l dC dI cyI cyJ cyZ h h_courtA h_courtB h_kind h_gone h_court _ i_gates i_persons i_fines x2 _ hw) (cwV 1 hts gX2_letThrough_X2_hasGate rfl rfl rfl (by decide +kernel) ⟨Nat.le_of_ble_eq_true rfl, Nat.le_of_ble_eq_true rfl⟩) rfl rfl rfl rfl (by decide) rfl (fun _ => rfl) rfl hl.1 rfl (Nat.le_of_ble_eq_true rfl) (Nat.le_of_ble_eq_true rfl) (Nat.le_of_ble_eq_true rfl) dX2_letThrough_10 (fun r_3 u H locs hw hW => ?_)
    obtain ⟨br_3, hw⟩ := hw
    refine lv_if_eq (tgt := 43) hx hb dX2_letThrough_13 (by decide) (fun c_4 => ?_) (fun c_4 => ?_)
    · replace hw := hw.1 c_4
      refine zw_vret (S := (Nat → Int32) × (Nat → Int32)) (post := fun u => post u.1 u.2) (a_gone, a_court) hx hb hr hlocks hK hW hw ?_ dX2_letThrough_43
      rfl
    · replace hw := hw.2 c_4
      refine lv_aload_n hx hb dX2_letThrough_16 rfl (lv_at hl 0 rfl) ?_
      refine zw_get (ci := 2) (C := RX2) (T := TX2) (N := 8) (v := .ref h_court) hx hb hts hiX2 hown hK hW 0 rfl rfl 5 (by decide) rfl k_0 dX2_letThrough_17 ?_
      refine lv_iload_n hx hb dX2_letThrough_20 rfl (lv_at hl 1 rfl) ?_
      refine lv_aload_n hx hb dX2_letThrough_21 rfl (lv_at hl 0 rfl) ?_
      refine lv_aload_n hx hb dX2_letThrough_22 rfl (lv_at hl 0 rfl) ?_
      refine zw_get (ci := 2) (C := RX2) (T := TX2) (N := 8) (v := .ref h_court) hx hb hts hiX2 hown hK hW 0 rfl rfl 5 (by decide) rfl k_0 dX2_letThrough_23 ?_
      refine lv_iload_n hx hb dX2_letThrough_26 rfl (lv_at hl 1 rfl) ?_
      refine zw_iald hx hb hK hW 4 rfl rfl hw.1 dX2_letThrough_27 ?_
      replace hw := hw.2
      refine lv_iload_n hx hb dX2_letThrough_28 rfl (lv_at hl 2 rfl) ?_
      refine zw_Vi ⟨hx, hb, hml, hown, hts⟩ hK hN hA hW 0 rfl (T := TX2) (N := 8) rfl [.int (a_court (x1).toNatClampNeg), .int x2] [.int x1, .ref h_court] [0, 1, 2] [3, 4] [2, 3, 4, 0, 1] (fun _ => (wX2_letThrough cyI cyJ cyZ h h_courtA h_courtB h_kind h_gone h_court i_gates i_persons i_fines a_courtA a_courtB a_gone a_court)) (mX2_beyond l dC dI cyI cyJ cyZ h h_courtA h_courtB h_kind h_gone h_court _ i_gates i_persons i_fines a_courtA a_courtB (a_court (x1).toNatClampNeg) x2 _ hw) (cwV 2 hts gX2_letThrough_X2_beyond rfl rfl rfl (by decide +kernel) ⟨Nat.le_of_ble_eq_true rfl, Nat.le_of_ble_eq_true rfl⟩) rfl rfl rfl rfl (by decide) rfl (fun _ => rfl) rfl hl.1 rfl (Nat.le_of_ble_eq_true rfl) (Nat.le_of_ble_eq_true rfl) (Nat.le_of_ble_eq_true rfl) dX2_letThrough_29 (fun r_5 u H locs hw hW => ?_)
      refine zw_iast hx hb hK hW 4 rfl rfl hw.1 (w2 := fun a_court_6 => (wX2_letThrough cyI cyJ cyZ h h_courtA h_courtB h_kind h_gone h_court i_gates i_persons i_fines a_courtA a_courtB a_gone a_court_6)) (fun _ => rfl) dX2_letThrough_32 (fun a_court_6 H locs ea_court_6 hW => ?_)
      replace hw := hw.2 a_court_6 ea_court_6
      refine lv_aload_n hx hb dX2_letThrough_33 rfl (lv_at hl 0 rfl) ?_
      refine zw_get (ci := 2) (C := RX2) (T := TX2) (N := 8) (v := .ref h_gone) hx hb hts hiX2 hown hK hW 0 rfl rfl 3 (by decide) rfl k_1 dX2_letThrough_34 ?_
      refine lv_iload_n hx hb dX2_letThrough_37 rfl (lv_at hl 2 rfl) ?_
      refine lv_dup2_11 hx hb dX2_letThrough_38 rfl rfl ?_
      refine zw_iald hx hb hK hW 3 rfl rfl hw.1 dX2_letThrough_39 ?_
      replace hw := hw.2
      refine lv_iconst (v := 1) hx hb dX2_letThrough_40 (by decide) ?_
      refine lv_iadd hx hb dX2_letThrough_41 ?_
      refine lv_topi (fun t_7 et_7 => ?_)
      replace hw := hw t_7 et_7
      refine zw_iast hx hb hK hW 3 rfl rfl hw.1 (w2 := fun a_gone_8 => (wX2_letThrough cyI cyJ cyZ h h_courtA h_courtB h_kind h_gone h_court i_gates i_persons i_fines a_courtA a_courtB a_gone_8 a_court_6)) (fun _ => rfl) dX2_letThrough_42 (fun a_gone_8 H locs ea_gone_8 hW => ?_)
      replace hw := hw.2 a_gone_8 ea_gone_8
      refine zw_vret (S := (Nat → Int32) × (Nat → Int32)) (post := fun u => post u.1 u.2) (a_gone_8, a_court_6) hx hb hr hlocks hK hW hw ?_ dX2_letThrough_43
      rfl
abbrev wX2_stepByDraw (cyI cyJ cyZ : ClassId) (h h_courtA h_courtB h_kind h_gone h_court : Nat) (i_gates : Int32) (i_persons : Int32) (i_fines : Int32) (a_courtA : Nat → Int32) (a_courtB : Nat → Int32) (a_kind : Nat → Int32) (a_gone : Nat → Int32) (a_court : Nat → Int32) : va_W := [(h, .inr (2, [.ref h_courtA, .ref h_courtB, .ref h_kind, .ref h_gone, .int i_gates, .ref h_court, .int i_persons, .int i_fines])), (h_courtA, .inl (cyI, 5, .inl a_courtA)), (h_courtB, .inl (cyI, 5, .inl a_courtB)), (h_kind, .inl (cyI, 5, .inl a_kind)), (h_gone, .inl (cyI, 5, .inl a_gone)), (h_court, .inl (cyI, 3, .inl a_court))]
abbrev qX2_stepByDraw (dC : Nat → ClassId) (dI : Nat → Nat → Nat) (cyI cyJ cyZ : ClassId) (h h_courtA h_courtB h_kind h_gone h_court : Nat) (i_gates : Int32) (i_persons : Int32) (i_fines : Int32) (a_courtA : Nat → Int32) (a_courtB : Nat → Int32) (a_kind : Nat → Int32) (a_gone : Nat → Int32) (a_court : Nat → Int32) (post : Int32 → (Nat → Int32) → (Nat → Int32) → Prop) (A : Nat → Prop) : Array Value → State → Outcome → State → Prop := (va_Qi (fun (r : Int32) (u : (Nat → Int32) × (Nat → Int32)) => (r = 0 ∨ r = 1) ∧ post r u.1 u.2) (bW (dC, dI) (tyG cyI cyJ cyZ) A (fun u : (Nat → Int32) × (Nat → Int32) => (wX2_stepByDraw cyI cyJ cyZ h h_courtA h_courtB h_kind h_gone h_court i_gates i_persons i_fines a_courtA a_courtB a_kind (u.1) (u.2)))) A)
set_option maxHeartbeats 4000000 in
set_option maxRecDepth 100000 in
theorem mX2_stepByDraw (l : Launch) (dC : Nat → ClassId) (dI : Nat → Nat → Nat) (cyI cyJ cyZ : ClassId) (h h_courtA h_courtB h_kind h_gone h_court : Nat) (sz : Nat) (i_gates : Int32) (i_persons : Int32) (i_fines : Int32) (a_courtA : Nat → Int32) (a_courtB : Nat → Int32) (a_kind : Nat → Int32) (a_gone : Nat → Int32) (a_court : Nat → Int32) (x1 : Int32) (x2 : Int32) (post : Int32 → (Nat → Int32) → (Nat → Int32) → Prop) (hwp : PX2_stepByDraw x1 x2 i_gates i_persons a_courtA a_courtB a_kind a_gone a_court post) : Met l yX2_stepByDraw wsX2_stepByDraw ({ frames := 5, cells := 0, slots := 0, locals := 111 } : Room) (va_Pc [.ref h, .int x1, .int x2] (pcW (dC, dI) sz (wX2_stepByDraw cyI cyJ cyZ h h_courtA h_courtB h_kind h_gone h_court i_gates i_persons i_fines a_courtA a_courtB a_kind a_gone a_court) (tyG cyI cyJ cyZ))) (qX2_stepByDraw dC dI cyI cyJ cyZ h h_courtA h_courtB h_kind h_gone h_court i_gates i_persons i_fines a_courtA a_courtB a_kind a_gone a_court post (va_A (wX2_stepByDraw cyI cyJ cyZ h h_courtA h_courtB h_kind h_gone h_court i_gates i_persons i_fines a_courtA a_courtB a_kind a_gone a_court) sz)) 0 0 (va_A (wX2_stepByDraw cyI cyJ cyZ h h_courtA h_courtB h_kind h_gone h_court i_gates i_persons i_fines a_courtA a_courtB a_kind a_gone a_court) sz) := by
  refine Met.ofW (cc := cX2_stepByDraw) (maxL := 8) (ret := some .boolean) (by decide) rfl ?_
  intro p e s m args below meth c s₁ B hml hv
  obtain ⟨rfl, hsz, hP, hK, hD0, hN⟩ := hv
  have hx := B.exec
  have hb := B.bytes
  have hr := B.returns
  have hts := atoms_spec (ws := wsX2_stepByDraw) B.pre
  have hown : s.vm.findClass RX2 = some m.cls := findClass_of_methodNamed B.named
  have hlocks := B.notSynchronized
  subst hsz
  have hD := hD0.self (sz := s.heap.size)
  generalize hAe : va_A (wX2_stepByDraw cyI cyJ cyZ h h_courtA h_courtB h_kind h_gone h_court i_gates i_persons i_fines a_courtA a_courtB a_kind a_gone a_court) s.heap.size = A at hD ⊢
  have hA : ∀ q : Nat, s.heap.size ≤ q → A q := fun q h => by rw [← hAe]; exact Or.inr h
  have hW : Wd (dC, dI) A s.heap (wX2_stepByDraw cyI cyJ cyZ h h_courtA h_courtB h_kind h_gone h_court i_gates i_persons i_fines a_courtA a_courtB a_kind a_gone a_court) s.heap [] := ⟨hP, hD, va_S.rf⟩
  have hw := hwp
  have hiX2 : ∀ w ∈ u_ws RX2 TX2 8, w ∈ wsX2_stepByDraw := fun _ h => List.mem_cons_of_mem _ (List.mem_append_right _ h)
  have k_0 := hts (.fieldLink RX2 31 "OddLetsIn$Garden" "persons" "I") (List.mem_of_getElem? (i := 1) rfl)
  have k_1 := hts (.fieldLink RX2 24 "OddLetsIn$Garden" "gates" "I") (List.mem_of_getElem? (i := 2) rfl)
  have k_2 := hts (.constantLong RX2 86 (7919)) (List.mem_of_getElem? (i := 3) rfl)
  have k_3 := hts (.constantLong RX2 88 (6151)) (List.mem_of_getElem? (i := 4) rfl)
  have k_4 := hts (.constantLong RX2 90 (65521)) (List.mem_of_getElem? (i := 5) rfl)
  have hl := lv_entry ([.ref h, .int x1, .int x2]) (n := 8) (Nat.le_of_ble_eq_true rfl)
  rw [lg_entry_eq]
  generalize (lg_sl ([.ref h, .int x1, .int x2]) ++ List.replicate (8 - (lg_sl ([.ref h, .int x1, .int x2])).length) Slot.unset).toArray = ls at hl ⊢
  have hl : lv_has ls 8 [(0, .ref h), (1, .int x1), (2, .int x2)] := hl
  refine lv_aload_n hx hb dX2_stepByDraw_0 rfl (lv_at hl 0 rfl) ?_
  refine zw_get (ci := 2) (C := RX2) (T := TX2) (N := 8) (v := .int i_persons) hx hb hts hiX2 hown hK hW 0 rfl rfl 6 (by decide) rfl k_0 dX2_stepByDraw_1 ?_
  refine lv_iconst (v := 1) hx hb dX2_stepByDraw_4 (by decide) ?_
  refine lv_icmp_lt (tgt := 16) hx hb dX2_stepByDraw_5 (by decide) (fun c_1 => ?_) (fun c_1 => ?_)
  · replace hw := hw.1 c_1
    refine lv_iconst (v := 0) hx hb dX2_stepByDraw_16 (by decide) ?_
    refine zw_zret (S := (Nat → Int32) × (Nat → Int32)) (post := fun r u => post r u.1 u.2) (a_gone, a_court) hx hb hr hlocks hK hW (Or.inl rfl) hw ?_ dX2_stepByDraw_17
    rfl
  · replace hw := hw.2 c_1
    refine lv_aload_n hx hb dX2_stepByDraw_8 rfl (lv_at hl 0 rfl) ?_
    refine zw_get (ci := 2) (C := RX2) (T := TX2) (N := 8) (v := .int i_gates) hx hb hts hiX2 hown hK hW 0 rfl rfl 4 (by decide) rfl k_1 dX2_stepByDraw_9 ?_
    refine lv_iconst (v := 1) hx hb dX2_stepByDraw_12 (by decide) ?_
    refine lv_icmp_ge (tgt := 18) hx hb dX2_stepByDraw_13 (by decide) (fun c_2 => ?_) (fun c_2 => ?_)
    · replace hw := hw.1 c_2
      refine lv_ldc2 hx hb hown k_2 dX2_stepByDraw_18 ?_
      refine lv_iload_n hx hb dX2_stepByDraw_21 rfl (lv_at hl 1 rfl) ?_
      refine lv_i2l hx hb dX2_stepByDraw_22 rfl ?_
      refine lv_lmul hx hb dX2_stepByDraw_23 ?_
      refine lv_ldc2 hx hb hown k_3 dX2_stepByDraw_24 ?_
      refine lv_iload_n hx hb dX2_stepByDraw_27 rfl (lv_at hl 2 rfl) ?_
      refine lv_i2l hx hb dX2_stepByDraw_28 rfl ?_
      refine lv_lmul hx hb dX2_stepByDraw_29 ?_
      refine lv_ladd hx hb dX2_stepByDraw_30 ?_
      refine lv_lconst (v := 1) hx hb dX2_stepByDraw_31 (by decide) ?_
      refine lv_ladd hx hb dX2_stepByDraw_32 ?_
      refine lv_topl (fun x3_3 ex3_3 => ?_)
      replace hw := hw x3_3 ex3_3
      refine lv_lstore_n (lv' := [(3, .long x3_3), (0, .ref h), (1, .int x1), (2, .int x2)]) hx hb dX2_stepByDraw_33 rfl hl (by decide) rfl (fun ls hl => ?_)
      refine lv_lload_n hx hb dX2_stepByDraw_34 rfl (lv_at hl 0 rfl) ?_
      refine lv_lload_n hx hb dX2_stepByDraw_35 rfl (lv_at hl 0 rfl) ?_
      refine lv_lmul hx hb dX2_stepByDraw_36 ?_
      refine lv_ldc2 hx hb hown k_4 dX2_stepByDraw_37 ?_
      refine lv_lrem hx hb dX2_stepByDraw_40 (by decide) ?_
      refine lv_l2i hx hb dX2_stepByDraw_41 rfl ?_
      refine lv_topi (fun x5_4 ex5_4 => ?_)
      replace hw := hw x5_4 ex5_4
      refine lv_istore (lv' := [(5, .int x5_4), (3, .long x3_3), (0, .ref h), (1, .int x1), (2, .int x2)]) hx hb dX2_stepByDraw_42 hl (by decide) rfl (fun ls hl => ?_)
      refine lv_iload hx hb dX2_stepByDraw_44 (lv_at hl 0 rfl) ?_
      refine lv_aload_n hx hb dX2_stepByDraw_46 rfl (lv_at hl 2 rfl) ?_
      refine zw_get (ci := 2) (C := RX2) (T := TX2) (N := 8) (v := .int i_persons) hx hb hts hiX2 hown hK hW 0 rfl rfl 6 (by decide) rfl k_0 dX2_stepByDraw_47 ?_
      refine lv_irem hx hb dX2_stepByDraw_50 hw.1 ?_
      replace hw := hw.2
      refine lv_topi (fun x6_5 ex6_5 => ?_)
      replace hw := hw x6_5 ex6_5
      refine lv_istore (lv' := [(6, .int x6_5), (5, .int x5_4), (3, .long x3_3), (0, .ref h), (1, .int x1), (2, .int x2)]) hx hb dX2_stepByDraw_51 hl (by decide) rfl (fun ls hl => ?_)
      refine lv_iload hx hb dX2_stepByDraw_53 (lv_at hl 1 rfl) ?_
      refine lv_bipush (v := 8) hx hb dX2_stepByDraw_55 (by decide) ?_
      refine lv_idiv hx hb dX2_stepByDraw_57 (by decide) ?_
      refine lv_aload_n hx hb dX2_stepByDraw_58 rfl (lv_at hl 3 rfl) ?_
      refine zw_get (ci := 2) (C := RX2) (T := TX2) (N := 8) (v := .int i_gates) hx hb hts hiX2 hown hK hW 0 rfl rfl 4 (by decide) rfl k_1 dX2_stepByDraw_59 ?_
      refine lv_irem hx hb dX2_stepByDraw_62 hw.1 ?_
      replace hw := hw.2
      refine lv_topi (fun x7_6 ex7_6 => ?_)
      replace hw := hw x7_6 ex7_6
      refine lv_istore (lv' := [(7, .int x7_6), (6, .int x6_5), (5, .int x5_4), (3, .long x3_3), (0, .ref h), (1, .int x1), (2, .int x2)]) hx hb dX2_stepByDraw_63 hl (by decide) rfl (fun ls hl => ?_)
      refine lv_aload_n hx hb dX2_stepByDraw_65 rfl (lv_at hl 4 rfl) ?_
      refine lv_iload hx hb dX2_stepByDraw_66 (lv_at hl 1 rfl) ?_
      refine lv_iload hx hb dX2_stepByDraw_68 (lv_at hl 0 rfl) ?_
      refine zw_Vi ⟨hx, hb, hml, hown, hts⟩ hK hN hA hW 0 rfl (T := TX2) (N := 8) rfl [.int x6_5, .int x7_6] [] [0, 1, 2, 3, 4, 5] [] [0, 1, 2, 3, 4, 5] (fun _ => (wX2_stepByDraw cyI cyJ cyZ h h_courtA h_courtB h_kind h_gone h_court i_gates i_persons i_fines a_courtA a_courtB a_kind a_gone a_court)) (mX2_letsIn l dC dI cyI cyJ cyZ h h_courtA h_courtB h_kind h_gone h_court _ i_gates i_persons i_fines a_courtA a_courtB a_kind a_gone a_court x6_5 x7_6 _ hw) (cwV 2 hts gX2_stepByDraw_X2_letsIn rfl rfl rfl (by decide +kernel) ⟨Nat.le_of_ble_eq_true rfl, Nat.le_of_ble_eq_true rfl⟩) rfl rfl rfl rfl (by decide) rfl (fun _ => rfl) rfl hl.1 rfl (Nat.le_of_ble_eq_true rfl) (Nat.le_of_ble_eq_true rfl) (Nat.le_of_ble_eq_true rfl) dX2_stepByDraw_70 (fun r_7 u H locs hw hW => ?_)
      obtain ⟨br_7, hw⟩ := hw
      refine lv_if_ne (tgt := 78) hx hb dX2_stepByDraw_73 (by decide) (fun c_8 => ?_) (fun c_8 => ?_)
      · replace hw := hw.2 c_8
        refine lv_aload_n hx hb dX2_stepByDraw_78 rfl (lv_at hl 4 rfl) ?_
        refine lv_iload hx hb dX2_stepByDraw_79 (lv_at hl 1 rfl) ?_
        refine lv_iload hx hb dX2_stepByDraw_81 (lv_at hl 0 rfl) ?_
        refine zw_Vv ⟨hx, hb, hml, hown, hts⟩ hK hN hA hW 0 rfl (T := TX2) (N := 8) rfl [.int x6_5, .int x7_6] [] [0, 1, 2, 4, 5] [3] [1, 2, 3, 0, 4, 5] (fun u => (wX2_stepByDraw cyI cyJ cyZ h h_courtA h_courtB h_kind h_gone h_court i_gates i_persons i_fines a_courtA a_courtB a_kind (u.1) (u.2))) (mX2_letThrough l dC dI cyI cyJ cyZ h h_courtA h_courtB h_kind h_gone h_court _ i_gates i_persons i_fines a_courtA a_courtB a_gone a_court x6_5 x7_6 _ hw) (cwV 2 hts gX2_stepByDraw_X2_letThrough rfl rfl rfl (by decide +kernel) ⟨Nat.le_of_ble_eq_true rfl, Nat.le_of_ble_eq_true rfl⟩) rfl rfl rfl rfl (by decide) rfl (fun _ => rfl) rfl hl.1 rfl (Nat.le_of_ble_eq_true rfl) (Nat.le_of_ble_eq_true rfl) (Nat.le_of_ble_eq_true rfl) dX2_stepByDraw_83 (fun u H locs hw hW => ?_)
        obtain ⟨a_gone_9, a_court_10⟩ := u
        try dsimp only at hw
        replace hW : Wd (dC, dI) A s.heap (wX2_stepByDraw cyI cyJ cyZ h h_courtA h_courtB h_kind h_gone h_court i_gates i_persons i_fines a_courtA a_courtB a_kind a_gone_9 a_court_10) H locs := hW
        refine lv_iconst (v := 1) hx hb dX2_stepByDraw_86 (by decide) ?_
        refine zw_zret (S := (Nat → Int32) × (Nat → Int32)) (post := fun r u => post r u.1 u.2) (a_gone_9, a_court_10) hx hb hr hlocks hK hW (Or.inr rfl) hw ?_ dX2_stepByDraw_87
        rfl
      · replace hw := hw.1 c_8
        refine lv_iconst (v := 0) hx hb dX2_stepByDraw_76 (by decide) ?_
        refine zw_zret (S := (Nat → Int32) × (Nat → Int32)) (post := fun r u => post r u.1 u.2) (a_gone, a_court) hx hb hr hlocks hK hW (Or.inl rfl) hw ?_ dX2_stepByDraw_77
        rfl
    · replace hw := hw.2 c_2
      refine lv_iconst (v := 0) hx hb dX2_stepByDraw_16 (by decide) ?_
      refine zw_zret (S := (Nat → Int32) × (Nat → Int32)) (post := fun r u => post r u.1 u.2) (a_gone, a_court) hx hb hr hlocks hK hW (Or.inl rfl) hw ?_ dX2_stepByDraw_17
      rfl
abbrev wJ7_fill_d0a16 (cyI cyJ cyZ : ClassId) (hq : Nat) (nw : Nat) (aw : Nat → Int64) : va_W := [(hq, .inl (cyJ, nw, .inr (.inl aw)))]
abbrev qJ7_fill_d0a16 (dC : Nat → ClassId) (dI : Nat → Nat → Nat) (cyI cyJ cyZ : ClassId) (hq : Nat) (nw : Nat) (aw : Nat → Int64) (post : (Nat → Int64) → Prop) (A : Nat → Prop) : Array Value → State → Outcome → State → Prop := (va_Qv (fun (u : (Nat → Int64)) => post u) (bW (dC, dI) (tyG cyI cyJ cyZ) A (fun u : (Nat → Int64) => (wJ7_fill_d0a16 cyI cyJ cyZ hq nw u))) A)
set_option maxHeartbeats 4000000 in
set_option maxRecDepth 100000 in
theorem mJ7_fill_d0a16 (l : Launch) (dC : Nat → ClassId) (dI : Nat → Nat → Nat) (cyI cyJ cyZ : ClassId) (hq : Nat) (nw : Nat) (sz : Nat) (aw : Nat → Int64) (x1 : Int64) (post : (Nat → Int64) → Prop) (hwp : PJ7_fill_d0a16 nw x1 aw post) : Met l yJ7_fill_d0a16 wsJ7_fill_d0a16 ({ frames := 0, cells := 0, slots := 0, locals := 0 } : Room) (va_Pc [.ref hq, .long x1] (pcW (dC, dI) sz (wJ7_fill_d0a16 cyI cyJ cyZ hq nw aw) (tyG cyI cyJ cyZ))) (qJ7_fill_d0a16 dC dI cyI cyJ cyZ hq nw aw post (va_A (wJ7_fill_d0a16 cyI cyJ cyZ hq nw aw) sz)) 0 0 (va_A (wJ7_fill_d0a16 cyI cyJ cyZ hq nw aw) sz) := by
  refine Met.ofW (cc := cJ7_fill_d0a16) (maxL := 5) (ret := none) (by decide) rfl ?_
  intro p e s m args below meth c s₁ B hml hv
  obtain ⟨rfl, hsz, hP, hK, hD0, hN⟩ := hv
  have hx := B.exec
  have hb := B.bytes
  have hr := B.returns
  have hts := atoms_spec (ws := wsJ7_fill_d0a16) B.pre
  have hown : s.vm.findClass RJ7 = some m.cls := findClass_of_methodNamed B.named
  have hlocks := B.notSynchronized
  subst hsz
  have hD := hD0.self (sz := s.heap.size)
  generalize hAe : va_A (wJ7_fill_d0a16 cyI cyJ cyZ hq nw aw) s.heap.size = A at hD ⊢
  have hA : ∀ q : Nat, s.heap.size ≤ q → A q := fun q h => by rw [← hAe]; exact Or.inr h
  have hW : Wd (dC, dI) A s.heap (wJ7_fill_d0a16 cyI cyJ cyZ hq nw aw) s.heap [] := ⟨hP, hD, va_S.rf⟩
  have hw := hwp
  have W_6 : ∀ (x4 : Int32) (n_6 : Nat) (x3 : Int32) (aw : Nat → Int64) (H : Heap) (locs : List Loc) (ls : Array Slot), Wd (dC, dI) A s.heap (wJ7_fill_d0a16 cyI cyJ cyZ hq nw aw) H locs → lv_has ls 5 [(0, .ref hq), (1, .long x1), (3, .int x3), (4, .int x4)] → PJ7_fill_d0a16_6 nw post x1 x4 n_6 x3 aw → W p l e (({ frames := 0, cells := 0, slots := 0, locals := 0 } : Room)) s m (([.ref hq, .long x1] : List Value).toArray) below meth c H locs 0 0 (MQ below (qJ7_fill_d0a16 dC dI cyI cyJ cyZ hq nw aw post A) (([.ref hq, .long x1] : List Value).toArray) s 0 0 A) (F0 m 6 ls []) := by
    intro x4 n_6
    induction n_6 with
    | zero =>
      intro x3 aw H locs ls hW hl hw
      exact False.elim hw
    | succ n_6 ih_6 =>
      intro x3 aw H locs ls hW hl hw
      refine lv_iload_n hx hb dJ7_fill_d0a16_6 rfl (lv_at hl 2 rfl) ?_
      refine lv_iload hx hb dJ7_fill_d0a16_7 (lv_at hl 3 rfl) ?_
      refine lv_icmp_ge (tgt := 22) hx hb dJ7_fill_d0a16_9 (by decide) (fun c_1 => ?_) (fun c_1 => ?_)
      · replace hw := hw.1 c_1
        refine zw_vret (S := (Nat → Int64)) (post := fun u => post u) aw hx hb hr hlocks hK hW hw ?_ dJ7_fill_d0a16_22
        rfl
      · replace hw := hw.2 c_1
        refine lv_aload_n hx hb dJ7_fill_d0a16_12 rfl (lv_at hl 0 rfl) ?_
        refine lv_iload_n hx hb dJ7_fill_d0a16_13 rfl (lv_at hl 2 rfl) ?_
        refine lv_lload_n hx hb dJ7_fill_d0a16_14 rfl (lv_at hl 1 rfl) ?_
        refine zw_last hx hb hK hW 0 rfl rfl hw.1 (w2 := fun aw_2 => (wJ7_fill_d0a16 cyI cyJ cyZ hq nw aw_2)) (fun _ => rfl) dJ7_fill_d0a16_15 (fun aw_2 H locs eaw_2 hW => ?_)
        replace hw := hw.2 aw_2 eaw_2
        obtain ⟨x3_3, ex3_3⟩ : ∃ y : Int32, y = x3 + 1 := ⟨_, rfl⟩
        replace hw := hw x3_3 ex3_3
        refine lv_iinc (v := x3_3) (lv' := [(3, .int x3_3), (0, .ref hq), (1, .long x1), (4, .int x4)]) hx hb dJ7_fill_d0a16_16 hl (k := 2) rfl (by rw [ex3_3]; rfl) (by decide) rfl (fun ls hl => ?_)
        refine lv_goto (tgt := 6) hx hb dJ7_fill_d0a16_19 (by decide) ?_
        exact ih_6 x3_3 aw_2 _ _ _ hW (lv_sub hl [1, 2, 0, 3] rfl) hw
  have hl := lv_entry ([.ref hq, .long x1]) (n := 5) (Nat.le_of_ble_eq_true rfl)
  rw [lg_entry_eq]
  generalize (lg_sl ([.ref hq, .long x1]) ++ List.replicate (5 - (lg_sl ([.ref hq, .long x1])).length) Slot.unset).toArray = ls at hl ⊢
  have hl : lv_has ls 5 [(0, .ref hq), (1, .long x1)] := hl
  refine lv_iconst (v := 0) hx hb dJ7_fill_d0a16_0 (by decide) ?_
  refine lv_istore_n (lv' := [(3, .int 0), (0, .ref hq), (1, .long x1)]) hx hb dJ7_fill_d0a16_1 rfl hl (by decide) rfl (fun ls hl => ?_)
  refine lv_aload_n hx hb dJ7_fill_d0a16_2 rfl (lv_at hl 1 rfl) ?_
  refine zw_alen (v := (nI nw)) hx hb hK hW 0 1 rfl rfl rfl dJ7_fill_d0a16_3 ?_
  refine lv_topi (fun x4_4 ex4_4 => ?_)
  replace hw := hw x4_4 ex4_4
  refine lv_istore (lv' := [(4, .int x4_4), (3, .int 0), (0, .ref hq), (1, .long x1)]) hx hb dJ7_fill_d0a16_4 hl (by decide) rfl (fun ls hl => ?_)
  obtain ⟨n_6, hw⟩ := hw
  exact W_6 x4_4 n_6 0 aw _ _ _ hW (lv_sub hl [2, 3, 1, 0] rfl) hw
abbrev wJ6_bitCount_0f7a4 (cyI cyJ cyZ : ClassId) : va_W := []
abbrev qJ6_bitCount_0f7a4 (dC : Nat → ClassId) (dI : Nat → Nat → Nat) (cyI cyJ cyZ : ClassId) (post : Int32 → Prop) (A : Nat → Prop) : Array Value → State → Outcome → State → Prop := (va_Qi (fun (r : Int32) (u : Unit) => post r) (bW (dC, dI) (tyG cyI cyJ cyZ) A (fun _ : Unit => (wJ6_bitCount_0f7a4 cyI cyJ cyZ))) A)
set_option maxHeartbeats 4000000 in
set_option maxRecDepth 100000 in
theorem mJ6_bitCount_0f7a4 (l : Launch) (dC : Nat → ClassId) (dI : Nat → Nat → Nat) (cyI cyJ cyZ : ClassId) (sz : Nat) (x0 : Int32) (post : Int32 → Prop) (hwp : PJ6_bitCount_0f7a4 x0 post) : Met l yJ6_bitCount_0f7a4 wsJ6_bitCount_0f7a4 ({ frames := 0, cells := 0, slots := 0, locals := 0 } : Room) (va_Pc [.int x0] (pcW (dC, dI) sz (wJ6_bitCount_0f7a4 cyI cyJ cyZ) (tyG cyI cyJ cyZ))) (qJ6_bitCount_0f7a4 dC dI cyI cyJ cyZ post (va_A (wJ6_bitCount_0f7a4 cyI cyJ cyZ) sz)) 0 0 (va_A (wJ6_bitCount_0f7a4 cyI cyJ cyZ) sz) := by
  refine Met.ofW (cc := cJ6_bitCount_0f7a4) (maxL := 1) (ret := some .int) (by decide) rfl ?_
  intro p e s m args below meth c s₁ B hml hv
  obtain ⟨rfl, hsz, hP, hK, hD0, hN⟩ := hv
  have hx := B.exec
  have hb := B.bytes
  have hr := B.returns
  have hts := atoms_spec (ws := wsJ6_bitCount_0f7a4) B.pre
  have hown : s.vm.findClass RJ6 = some m.cls := findClass_of_methodNamed B.named
  have hlocks := B.notSynchronized
  subst hsz
  have hD := hD0.self (sz := s.heap.size)
  generalize hAe : va_A (wJ6_bitCount_0f7a4 cyI cyJ cyZ) s.heap.size = A at hD ⊢
  have hA : ∀ q : Nat, s.heap.size ≤ q → A q := fun q h => by rw [← hAe]; exact Or.inr h
  have hW : Wd (dC, dI) A s.heap (wJ6_bitCount_0f7a4 cyI cyJ cyZ) s.heap [] := ⟨hP, hD, va_S.rf⟩
  have hw := hwp
  have k_0 := hts (.constant RJ6 265 (1431655765)) (List.mem_of_getElem? (i := 1) rfl)
  have k_1 := hts (.constant RJ6 266 (858993459)) (List.mem_of_getElem? (i := 2) rfl)
  have k_2 := hts (.constant RJ6 267 (252645135)) (List.mem_of_getElem? (i := 3) rfl)
  have hl := lv_entry ([.int x0]) (n := 1) (Nat.le_of_ble_eq_true rfl)
  rw [lg_entry_eq]
  generalize (lg_sl ([.int x0]) ++ List.replicate (1 - (lg_sl ([.int x0])).length) Slot.unset).toArray = ls at hl ⊢
  have hl : lv_has ls 1 [(0, .int x0)] := hl
  refine lv_iload_n hx hb dJ6_bitCount_0f7a4_0 rfl (lv_at hl 0 rfl) ?_
  refine lv_iload_n hx hb dJ6_bitCount_0f7a4_1 rfl (lv_at hl 0 rfl) ?_
  refine lv_iconst (v := 1) hx hb dJ6_bitCount_0f7a4_2 (by decide) ?_
  refine lv_iushr hx hb dJ6_bitCount_0f7a4_3 rfl ?_
  refine lv_ldcw hx hb hown k_0 dJ6_bitCount_0f7a4_4 ?_
  refine lv_iand hx hb dJ6_bitCount_0f7a4_7 ?_
  refine lv_isub hx hb dJ6_bitCount_0f7a4_8 ?_
  refine lv_topi (fun x0_1 ex0_1 => ?_)
  replace hw := hw x0_1 ex0_1
  refine lv_istore_n (lv' := [(0, .int x0_1)]) hx hb dJ6_bitCount_0f7a4_9 rfl hl (by decide) rfl (fun ls hl => ?_)
  refine lv_iload_n hx hb dJ6_bitCount_0f7a4_10 rfl (lv_at hl 0 rfl) ?_
  refine lv_ldcw hx hb hown k_1 dJ6_bitCount_0f7a4_11 ?_
  refine lv_iand hx hb dJ6_bitCount_0f7a4_14 ?_
  refine lv_iload_n hx hb dJ6_bitCount_0f7a4_15 rfl (lv_at hl 0 rfl) ?_
  refine lv_iconst (v := 2) hx hb dJ6_bitCount_0f7a4_16 (by decide) ?_
  refine lv_iushr hx hb dJ6_bitCount_0f7a4_17 rfl ?_
  refine lv_ldcw hx hb hown k_1 dJ6_bitCount_0f7a4_18 ?_
  refine lv_iand hx hb dJ6_bitCount_0f7a4_21 ?_
  refine lv_iadd hx hb dJ6_bitCount_0f7a4_22 ?_
  refine lv_topi (fun x0_2 ex0_2 => ?_)
  replace hw := hw x0_2 ex0_2
  refine lv_istore_n (lv' := [(0, .int x0_2)]) hx hb dJ6_bitCount_0f7a4_23 rfl hl (by decide) rfl (fun ls hl => ?_)
  refine lv_iload_n hx hb dJ6_bitCount_0f7a4_24 rfl (lv_at hl 0 rfl) ?_
  refine lv_iload_n hx hb dJ6_bitCount_0f7a4_25 rfl (lv_at hl 0 rfl) ?_
  refine lv_iconst (v := 4) hx hb dJ6_bitCount_0f7a4_26 (by decide) ?_
  refine lv_iushr hx hb dJ6_bitCount_0f7a4_27 rfl ?_
  refine lv_iadd hx hb dJ6_bitCount_0f7a4_28 ?_
  refine lv_ldcw hx hb hown k_2 dJ6_bitCount_0f7a4_29 ?_
  refine lv_iand hx hb dJ6_bitCount_0f7a4_32 ?_
  refine lv_topi (fun x0_3 ex0_3 => ?_)
  replace hw := hw x0_3 ex0_3
  refine lv_istore_n (lv' := [(0, .int x0_3)]) hx hb dJ6_bitCount_0f7a4_33 rfl hl (by decide) rfl (fun ls hl => ?_)
  refine lv_iload_n hx hb dJ6_bitCount_0f7a4_34 rfl (lv_at hl 0 rfl) ?_
  refine lv_iload_n hx hb dJ6_bitCount_0f7a4_35 rfl (lv_at hl 0 rfl) ?_
  refine lv_bipush (v := 8) hx hb dJ6_bitCount_0f7a4_36 (by decide) ?_
  refine lv_iushr hx hb dJ6_bitCount_0f7a4_38 rfl ?_
  refine lv_iadd hx hb dJ6_bitCount_0f7a4_39 ?_
  refine lv_topi (fun x0_4 ex0_4 => ?_)
  replace hw := hw x0_4 ex0_4
  refine lv_istore_n (lv' := [(0, .int x0_4)]) hx hb dJ6_bitCount_0f7a4_40 rfl hl (by decide) rfl (fun ls hl => ?_)
  refine lv_iload_n hx hb dJ6_bitCount_0f7a4_41 rfl (lv_at hl 0 rfl) ?_
  refine lv_iload_n hx hb dJ6_bitCount_0f7a4_42 rfl (lv_at hl 0 rfl) ?_
  refine lv_bipush (v := 16) hx hb dJ6_bitCount_0f7a4_43 (by decide) ?_
  refine lv_iushr hx hb dJ6_bitCount_0f7a4_45 rfl ?_
  refine lv_iadd hx hb dJ6_bitCount_0f7a4_46 ?_
  refine lv_topi (fun x0_5 ex0_5 => ?_)
  replace hw := hw x0_5 ex0_5
  refine lv_istore_n (lv' := [(0, .int x0_5)]) hx hb dJ6_bitCount_0f7a4_47 rfl hl (by decide) rfl (fun ls hl => ?_)
  refine lv_iload_n hx hb dJ6_bitCount_0f7a4_48 rfl (lv_at hl 0 rfl) ?_
  refine lv_bipush (v := 63) hx hb dJ6_bitCount_0f7a4_49 (by decide) ?_
  refine lv_iand hx hb dJ6_bitCount_0f7a4_51 ?_
  refine zw_iret (S := Unit) (post := fun r u => post r) () hx hb hr hlocks hK hW hw ?_ dJ6_bitCount_0f7a4_52
  rfl
