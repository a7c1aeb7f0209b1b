/-! ===== a call out of a large world: its cells are set, the others stay as they stand ===== -/
def setAll : va_W → List Nat → va_W → va_W
  | ws, i :: is, q :: qs => setAll (ws.set i q) is qs
  | ws, _, _ => ws
theorem setAll_get : ∀ (is : List Nat) (ws qs : va_W), is.length = qs.length → (∀ i ∈ is, i < ws.length) → va_nd is = true → ∀ (k : Nat) (x : Nat × va_E), (setAll ws is qs)[k]? = some x → (k ∉ is ∧ ws[k]? = some x) ∨ ∃ j : Nat, is[j]? = some k ∧ qs[j]? = some x
  | [], ws, qs, _, _, _, k, x, h => by
    refine Or.inl ⟨List.not_mem_nil, ?_⟩
    cases qs <;> exact h
  | i :: is, ws, [], hl, _, _, _, _, _ => by simp at hl
  | i :: is, ws, q :: qs, hl, hb, hn, k, x, h => by
    rw [va_nd, Bool.and_eq_true, decide_eq_true_eq] at hn
    rcases setAll_get is (ws.set i q) qs (by simpa using hl) (fun a ha => by rw [List.length_set]; exact hb a (List.mem_cons_of_mem _ ha)) hn.2 k x h with ⟨h1, h2⟩ | ⟨j, h1, h2⟩
    · by_cases hk : k = i
      · subst hk
        rw [List.getElem?_set_self (hb k List.mem_cons_self)] at h2
        exact Or.inr ⟨0, rfl, h2⟩
      · rw [List.getElem?_set_ne (fun e => hk e.symm)] at h2
        refine Or.inl ⟨fun hm => ?_, h2⟩
        rcases List.mem_cons.mp hm with e | e
        · exact hk e
        · exact h1 e
    · exact Or.inr ⟨j + 1, h1, h2⟩
section ZBIG
variable {p : Program} {l : Launch} {e : Env} {R : Room} {s : State} {m : MethodId} {args : Array Value} {below : List Frame} {meth : Method} {c : Code} {H : Heap} {locs : List Loc} {cells slots : Nat} {Q : State → Prop}
variable {cc : ByteArray} {pc : Nat} {ls : Array Slot} {rest : List Value} {D : va_G} {A : Nat → Prop} {tys : List (ClassId × FieldType)} {ws : va_W} {H0 : Heap} {a : Nat}
theorem zw_after2 {S : Type} {w1 w2 : S → va_W} {wc : va_W} {u : S} {t : State} {H1 : Heap} {locs1 : List Loc} (hW : Wd D A H0 ws H locs) (hB : bW D tys (va_A wc H.size) w1 u t) (ht : t.heap = H1) (isC : List Nat) (hC : isC.map (fun i => ws[i]?) = wc.map some) (hnC : va_nd isC = true) (ha : ∀ u, (w1 u).map (fun q => q.1) = wc.map (fun q => q.1))
    (hk : ∀ q : Nat, q < H.size → ¬ va_A wc H.size q → H1[q]? = H[q]?) (hS : va_S A H0 H1 locs1) (hset : ∀ u, setAll ws isC (w1 u) = w2 u) : Wd D A H0 (w2 u) H1 locs1 := by
  obtain ⟨hP, hD, hS0⟩ := hW
  obtain ⟨hP1, -, hD1⟩ := hB
  rw [ht] at hP1
  have at' : ∀ (j : Nat) (q : Nat × va_E), wc[j]? = some q → ∃ i, isC[j]? = some i ∧ ws[i]? = some q := by
    intro j q hq
    have h1 : (isC.map (fun i => ws[i]?))[j]? = some (some q) := by rw [hC, List.getElem?_map, hq]; rfl
    rw [List.getElem?_map] at h1
    cases hi : isC[j]? with
    | none => rw [hi] at h1; cases h1
    | some i => rw [hi] at h1; exact ⟨i, rfl, Option.some.inj h1⟩
  have hlen : isC.length = wc.length := by
    have h := congrArg List.length hC
    simpa using h
  have hlen1 : isC.length = (w1 u).length := by
    have h := congrArg List.length (ha u)
    simp at h
    omega
  have hb : ∀ i ∈ isC, i < ws.length := by
    intro i hi
    obtain ⟨j, hj⟩ := List.getElem?_of_mem hi
    have hjl : j < wc.length := by rw [← hlen]; exact (List.getElem?_eq_some_iff.mp hj).1
    obtain ⟨i', h1, h2⟩ := at' j _ (List.getElem?_eq_getElem hjl)
    rw [hj] at h1
    cases h1
    exact (List.getElem?_eq_some_iff.mp h2).1
  have key := setAll_get isC ws (w1 u) hlen1 hb hnC
  have adr : ∀ (k : Nat) (x : Nat × va_E), (setAll ws isC (w1 u))[k]? = some x → ∃ y, ws[k]? = some y ∧ y.1 = x.1 := by
    intro k x hx
    rcases key k x hx with ⟨-, h⟩ | ⟨j, h1, h2⟩
    · exact ⟨x, h, rfl⟩
    · have hjl : j < wc.length := by rw [← hlen]; exact (List.getElem?_eq_some_iff.mp h1).1
      obtain ⟨i, h3, h4⟩ := at' j _ (List.getElem?_eq_getElem hjl)
      rw [h1] at h3
      cases h3
      refine ⟨_, h4, ?_⟩
      have h5 := congrArg (fun z => z[j]?) (ha u)
      simp only [List.getElem?_map, h2, List.getElem?_eq_getElem hjl, Option.map_some, Option.some.injEq] at h5
      exact h5.symm
  rw [← hset u]
  refine ⟨fun k x hx => ?_, ⟨fun i j x y hx hy hxy => ?_, fun k x hx => ?_⟩, hS⟩
  · rcases key k x hx with ⟨hn, h⟩ | ⟨j, h1, h2⟩
    · refine (hP k x h).kept (hk x.1 (hP k x h).lt (fun q => ?_))
      rcases q with ⟨k2, e2, q⟩ | q
      · obtain ⟨i2, h3, h4⟩ := at' k2 _ q
        have := hD.1 k i2 x (x.1, e2) h h4 rfl
        subst this
        exact hn (List.mem_of_getElem? h3)
      · have := (hP k x h).lt
        omega
    · exact hP1 j x h2
  · obtain ⟨y1, a1, b1⟩ := adr i x hx
    obtain ⟨y2, a2, b2⟩ := adr j y hy
    exact hD.1 i j y1 y2 a1 a2 (by rw [b1, b2, hxy])
  · obtain ⟨y1, a1, b1⟩ := adr k x hx
    rw [← b1]
    exact hD.2 k y1 a1
variable {S : Type} {y : MethodName} {bytes : ByteArray} {maxL nL n index : Nat} {ret : Option FieldType} {wsy : List Cond} {rm : Room} {Ts : List Cond} {own C : String} {As : List Value} {w1 w2 : S → va_W} {wc : va_W} {st : List Value} {b : Nat}
theorem zw_Bi {post : Int32 → S → Prop} (S0 : CallFix p m c cc nL s args Ts own) (hK : va_K D vwCl tys s) (hN : nwAll s) (hA : ∀ q, H0.size ≤ q → A q) (hW : Wd D A H0 ws H locs) (q0 : Nat) {ci : Nat} {fs : List Value} (he : ws[q0]? = some (b, .inr (ci, fs))) {T : u_T} {N : Nat} (hc : vwCl[ci]? = some (C, T, N)) (As : List Value) (rest : List Value) (isC : List Nat) (w2 : S → va_W)
    (hM : Met l y wsy rm (va_Pc (.ref b :: As) (pcW D H.size wc tys)) (va_Qi post (bW D tys (va_A wc H.size) w1) (va_A wc H.size)) 0 0 (va_A wc H.size)) (cw : CallW R s args own C index y bytes maxL ret wsy rm 0 0 n) (hC : isC.map (fun i => ws[i]?) = wc.map some) (hnC : va_nd isC = true) (ha : ∀ u, (w1 u).map (fun q => q.1) = wc.map (fun q => q.1)) (hset : ∀ u, setAll ws isC (w1 u) = w2 u)
    (hlen : As.length = n) (hsz : ls.size = nL) (hst : st = As.reverse ++ .ref b :: rest) (hroom : (rest.map fun v => v.category).sum ≤ 8) (hcl : cells ≤ R.cells) (hsl : slots ≤ R.slots) (hdg : decode cc pc = .ok (.invokevirtual index, 3))
    (kk : ∀ (r : Int32) (u : S) (H1 : Heap) (locs1 : List Loc), post r u → Wd D A H0 (w2 u) H1 locs1 → W p l e R s m args below meth c H1 locs1 cells slots Q (F0 m (pc + 3) ls (.int r :: rest))) : W p l e R s m args below meth c H locs cells slots Q (F0 m pc ls st) :=
  va_calli (va_runV (As := As) (rest := rest) S0 hM cw ⟨pcW_blind, va_recv hK hW.1 hc he, zw_pre hK hN hW isC hC hnC⟩ rfl hlen hsz hst (lv_room hroom) hdg ⟨hcl, hsl⟩) hW.2.2 (fun q _ h => va_free hW.2.1 hW.2.2 hA isC hC q h) (va_free hW.2.1 hW.2.2 hA isC hC) (fun r u t H1 locs1 ht _ hp hB _ hk hS => kk r u H1 locs1 hp (zw_after2 hW hB ht isC hC hnC ha hk hS hset))
end ZBIG
