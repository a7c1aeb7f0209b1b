/-! ===== the same by a mask: in one go through the world ===== -/
def sel : List Bool → va_W → va_W
  | true :: ms, q :: ws => q :: sel ms ws
  | false :: ms, _ :: ws => sel ms ws
  | _, _ => []
def mrg : List Bool → va_W → va_W → va_W
  | true :: ms, _ :: ws, x :: xs => x :: mrg ms ws xs
  | false :: ms, q :: ws, xs => q :: mrg ms ws xs
  | _, ws, _ => ws
theorem setAll_cons (q : Nat × va_E) : ∀ (is : List Nat) (ws qs : va_W), setAll (q :: ws) (is.map (· + 1)) qs = q :: setAll ws is qs
  | [], ws, qs => by cases qs <;> rfl
  | i :: is, ws, [] => rfl
  | i :: is, ws, x :: qs => by
    show setAll ((q :: ws).set (i + 1) x) (is.map (· + 1)) qs = q :: setAll (ws.set i x) is qs
    rw [List.set_cons_succ]
    exact setAll_cons q is (ws.set i x) qs
theorem va_nd_succ : ∀ (is : List Nat), va_nd is = true → va_nd (is.map (· + 1)) = true
  | [], _ => rfl
  | i :: is, h => by
    rw [va_nd, Bool.and_eq_true, decide_eq_true_eq] at h
    rw [List.map_cons, va_nd, Bool.and_eq_true, decide_eq_true_eq]
    refine ⟨fun hm => ?_, va_nd_succ is h.2⟩
    obtain ⟨j, hj, e⟩ := List.mem_map.mp hm
    exact h.1 (by rw [show i = j by omega]; exact hj)
theorem sel_idx : ∀ (ms : List Bool) (ws : va_W), ∃ is : List Nat, is.map (fun i => ws[i]?) = (sel ms ws).map some ∧ va_nd is = true ∧ ∀ qs : va_W, qs.length = is.length → setAll ws is qs = mrg ms ws qs
  | [], ws => ⟨[], by rfl, rfl, fun qs h => by cases qs with | nil => rfl | cons => simp at h⟩
  | m :: ms, [] => ⟨[], by cases m <;> rfl, rfl, fun qs h => by cases qs with | nil => cases m <;> rfl | cons => simp at h⟩
  | false :: ms, q :: ws => by
    obtain ⟨is, h1, h2, h3⟩ := sel_idx ms ws
    refine ⟨is.map (· + 1), ?_, va_nd_succ is h2, fun qs h => ?_⟩
    · rw [List.map_map]
      exact h1
    · rw [setAll_cons, h3 qs (by simpa using h)]
      rfl
  | true :: ms, q :: ws => by
    obtain ⟨is, h1, h2, h3⟩ := sel_idx ms ws
    refine ⟨0 :: is.map (· + 1), ?_, ?_, fun qs h => ?_⟩
    · rw [List.map_cons, List.map_map]
      exact congrArg (List.cons (some q)) h1
    · rw [va_nd, Bool.and_eq_true, decide_eq_true_eq]
      refine ⟨fun hm => ?_, va_nd_succ is h2⟩
      obtain ⟨j, -, e⟩ := List.mem_map.mp hm
      omega
    · cases qs with
      | nil => simp at h
      | cons x xs =>
        show setAll (x :: ws) (is.map (· + 1)) xs = x :: mrg ms ws xs
        rw [setAll_cons, h3 xs (by simpa using h)]
section ZMASK
variable {p : Program} {l : Launch} {e : Env} {R : Room} {s : State} {m : MethodId} {args : Array Value} {below : List Frame} {meth : Method} {c : Code} {H : Heap} {locs : List Loc} {cells slots : Nat} {Q : State → Prop}
variable {cc : ByteArray} {pc : Nat} {ls : Array Slot} {D : va_G} {A : Nat → Prop} {tys : List (ClassId × FieldType)} {ws : va_W} {H0 : Heap} {a : Nat}
variable {S : Type} {y : MethodName} {bytes : ByteArray} {maxL nL n index : Nat} {ret : Option FieldType} {wsy : List Cond} {rm : Room} {Ts : List Cond} {own C : String} {w1 : S → va_W} {wc : va_W} {st : List Value} {b : Nat}
theorem zw_Mi {post : Int32 → S → Prop} (S0 : CallFix p m c cc nL s args Ts own) (hK : va_K D vwCl tys s) (hN : nwAll s) (hA : ∀ q, H0.size ≤ q → A q) (hW : Wd D A H0 ws H locs) (q0 : Nat) {ci : Nat} {fs : List Value} (he : ws[q0]? = some (b, .inr (ci, fs))) {T : u_T} {N : Nat} (hc : vwCl[ci]? = some (C, T, N)) (As : List Value) (rest : List Value) (ms : List Bool) (w2 : S → va_W)
    (hM : Met l y wsy rm (va_Pc (.ref b :: As) (pcW D H.size wc tys)) (va_Qi post (bW D tys (va_A wc H.size) w1) (va_A wc H.size)) 0 0 (va_A wc H.size)) (cw : CallW R s args own C index y bytes maxL ret wsy rm 0 0 n) (hsel : sel ms ws = wc) (ha : ∀ u, (w1 u).map (fun q => q.1) = wc.map (fun q => q.1)) (hmrg : ∀ u, mrg ms ws (w1 u) = w2 u)
    (hlen : As.length = n) (hsz : ls.size = nL) (hst : st = As.reverse ++ .ref b :: rest) (hroom : (rest.map fun v => v.category).sum ≤ 8) (hcl : cells ≤ R.cells) (hsl : slots ≤ R.slots) (hdg : decode cc pc = .ok (.invokevirtual index, 3))
    (kk : ∀ (r : Int32) (u : S) (H1 : Heap) (locs1 : List Loc), post r u → Wd D A H0 (w2 u) H1 locs1 → W p l e R s m args below meth c H1 locs1 cells slots Q (F0 m (pc + 3) ls (.int r :: rest))) : W p l e R s m args below meth c H locs cells slots Q (F0 m pc ls st) := by
  obtain ⟨is, h1, h2, h3⟩ := sel_idx ms ws
  rw [hsel] at h1
  have hl0 : is.length = wc.length := by
    have h := congrArg List.length h1
    simpa using h
  refine zw_Bi (isC := is) (w2 := w2) S0 hK hN hA hW q0 he hc As rest hM cw h1 h2 ha (fun u => ?_) hlen hsz hst hroom hcl hsl hdg kk
  have hl1 : (w1 u).length = is.length := by
    have h := congrArg List.length (ha u)
    simp at h
    omega
  rw [h3 (w1 u) hl1, hmrg u]
end ZMASK
