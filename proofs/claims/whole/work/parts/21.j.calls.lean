/-! ===== rows for the calls ===== -/
theorem rb1 {X Y : Prop} (h : X) : ((1 : Int32) = 0 → Y) ∧ (¬ (1 : Int32) = 0 → X) := ⟨fun q => absurd q (by decide), fun _ => h⟩
theorem rb0 {X Y : Prop} (h : Y) : ((0 : Int32) = 0 → Y) ∧ (¬ (0 : Int32) = 0 → X) := ⟨fun _ => h, fun q => absurd rfl q⟩
theorem t_hasPerson {x : Int32} {G : Nat} {post : Int32 → Prop} (hG : G ≤ 3) (ht : ∀ g, g < G → x = nI g → post 1) (hf : ¬ vp_in x G → post 0) : PX2_hasPerson x (nI G) post := by
  unfold PX2_hasPerson
  by_cases h : vp_in x G
  · obtain ⟨g, hg, rfl⟩ := vp_in_of h (by omega)
    exact pk_lt g 0 (fun h => absurd h (by omega)) (fun _ => pk_le G g (fun h => absurd h (by omega)) (fun _ => pk_le 3 g (fun h => absurd h (by omega)) (fun _ => ht g hg rfl)))
  · have h0 := hf h
    refine ⟨fun _ => h0, fun c1 => ⟨fun _ => h0, fun c2 => ?_⟩⟩
    exfalso
    apply h
    rintro (q | q)
    · exact c1 q
    · obtain ⟨j, hj, rfl⟩ := nI_of c1
      rw [nI_clamp hj] at q
      exact c2 ((nI_leI (by omega) hj).mpr q)
theorem t_hasPerson' {g G : Nat} {post : Int32 → Prop} (hG : G ≤ 3) (hg : g < G) (h : post 1) : PX2_hasPerson (nI g) (nI G) post :=
  t_hasPerson hG (fun _ _ _ => h) (fun n => absurd (vp_in_nI hg (by omega)) n)
theorem u_isPerson' {g G : Nat} {many : Nat → Int32} {post : Int32 → Prop} (hm : many 0 = nI G) (hG : G < 2 ^ 31) (hg : g < G) (h : post 1) : PX8_isPerson (nI g) many post := ⟨in02, t_inN hm hG hg h⟩
theorem u_isPersonN {x : Int32} {G : Nat} {many : Nat → Int32} {post : Int32 → Prop} (hm : many 0 = nI G) (hG : G < 2 ^ 31) (h1 : 0 < G) (hn : ¬ vp_in x G) (h : post 0) : PX8_isPerson x many post := u_isPerson hm hG h1 (fun g hg e => absurd (by rw [e]; exact vp_in_nI hg hG) hn) (fun _ => h)
theorem u_isGateN {x : Int32} {G : Nat} {many : Nat → Int32} {post : Int32 → Prop} (hm : many 0 = nI G) (hG : G < 2 ^ 31) (h1 : 0 < G) (hn : ¬ vp_in x G) (h : post 0) : PX8_isGate x many post := u_isGate hm hG h1 (fun g hg e => absurd (by rw [e]; exact vp_in_nI hg hG) hn) (fun _ => h)
theorem t_letsIn {A B K N C : Nat → Nat} {cA cB kd gn ct : Nat → Int32} {p g G P : Nat} {post : Int32 → Prop} (hO : GO G A B K) (hA : Rp G cA A) (hB : Rp G cB B) (hK : Rp G kd K) (hN : Rp G gn N) (hS : Sm G N) (hC : Rp 3 ct C) (hC5 : ∀ p, p < 3 → C p < 5) (hP : P ≤ 3) (hp : p < P) (hg : g < G) (h : post (bI (opf A B K N (C p) g))) : PX2_letsIn (nI p) (nI g) (nI G) (nI P) cA cB kd gn ct post := by
  refine t_hasPerson' hP hp (rb1 ⟨vp_in_nI (by omega) (by omega), ?_⟩)
  rw [nI_clamp (by omega), hC p (by omega)]
  refine t_isOpenFrom hO hA hB hK hN hS (hC5 p (by omega)) hg (and_b (fun q => ?_) (fun q => ?_))
  · rw [q] at h; exact h
  · rw [q] at h; exact h
theorem Rp.cpy {n m : Nat} {f g : Nat → Int32} {F : Nat → Nat} (h : Rp n f F) (hm : n ≤ m) : Rp n (cpy1 f g m) F := fun i hi => by
  show (if i < m then f i else g i) = _
  rw [if_pos (by omega)]
  exact h i hi
theorem u_canNow {A B K N C : Nat → Nat} {cA cB kd gn at_ cn sp : Nat → Int32} {p g G : Nat} {post : Int32 → (Nat → Int32) → (Nat → Int32) → Prop} (hO : GO G A B K) (hA : Rp G cA A) (hB : Rp G cB B) (hK : Rp G kd K) (hN : Rp G gn N) (hS : Sm G N) (hC : Rp 3 at_ C) (hC5 : ∀ p, p < 3 → C p < 5) (hp : p < 3) (hg : g < G) (h : post (bI (opf A B K N (C p) g)) (cpy1 gn cn 5) (cpy1 at_ sp 3)) : PX8_canNow (nI p) (nI g) cA cB kd gn at_ cn sp post := by
  refine u_layNow ⟨vp_in_nI (by omega) (by omega), ?_⟩
  rw [nI_clamp (by omega), hC p hp]
  exact u_canPass hO hA hB hK (hN.cpy hO.1) hS (hC5 p hp) hg h
theorem Ign.sm {t G P : Nat} {A B K N C : Nat → Nat} {cG cP : Int32} {cA cB kd gn ct : Nat → Int32} (h : Ign t G P A B K N C cG cP cA cB kd gn ct) (ht : t < 512) : Sm G N := fun g hg => by have := h.2.2.2.2.2.2.2.1 g hg; omega
theorem Imn.gone {G : Nat} {N C : Nat → Nat} {cF : Int32} {gone at_ fines : Nat → Int32} (h : Imn 0 G N C cF gone at_ fines) : Rp G gone N := fun g hg => by have := h.1 g hg; rw [show 5 * 0 + g = g by omega] at this; exact this
theorem Imn.at' {G : Nat} {N C : Nat → Nat} {cF : Int32} {gone at_ fines : Nat → Int32} (h : Imn 0 G N C cF gone at_ fines) : Rp 3 at_ C := fun g hg => by have := h.2.1 g hg; rw [show 3 * 0 + g = g by omega] at this; exact this
abbrev updN := upd
theorem Rp.upd {n : Nat} {f : Nat → Int32} {F : Nat → Nat} (h : Rp n f F) (k x : Nat) : Rp n (upd f k (nI x)) (fun j => if j = k then x else F j) := fun i hi => by
  show (if i = k then nI x else f i) = nI (if i = k then x else F i)
  by_cases q : i = k
  · rw [if_pos q, if_pos q]
  · rw [if_neg q, if_neg q]; exact h i hi
theorem Rp.snoc {n : Nat} {f : Nat → Int32} {F : Nat → Nat} (h : Rp n f F) (x : Nat) : Rp (n + 1) (updN f n (nI x)) (fun j => if j = n then x else F j) := fun i hi => by
  show (if i = n then nI x else f i) = nI (if i = n then x else F i)
  by_cases q : i = n
  · rw [if_pos q, if_pos q]
  · rw [if_neg q, if_neg q]; exact h i (by omega)
