/-! ===== way, smallest, mend ===== -/
theorem t_gather {m : Nat} {P0 : Int32} {ct0 : Nat → Int32} {post : Int32 → (Nat → Int32) → Prop} (h1 : 1 ≤ m) (h3 : m ≤ 3) (hp : ∀ ct, Rp 3 ct (fun _ => 0) → post (nI m) ct) : PX2_gather (nI m) P0 ct0 post := by
  have e : (if (1 : Int32) < (if (3 : Int32) < nI m then 3 else nI m) then (if (3 : Int32) < nI m then 3 else nI m) else 1) = nI m := by
    rcases (show m = 1 ∨ m = 2 ∨ m = 3 by omega) with rfl | rfl | rfl <;> decide
  rintro _ rfl
  rw [e]
  refine t_fill (by omega) (hp _ (fun i hi => ?_))
  unfold fil1
  rw [if_pos hi]; rfl
theorem u_first6 {cn sp0 : Nat → Int32} {post : (Nat → Int32) → (Nat → Int32) → Prop} (hp : ∀ sp, Rp 3 sp (fun _ => 0) → post cn sp) :
    ∀ (d i n : Nat), i + d = 3 → d < n → PX8_layAtFirst_6 post cn n (nI i) (fil1 sp0 0 i) := by
  intro d
  induction d with
  | zero =>
    intro i n hd hn
    obtain ⟨n, rfl⟩ : ∃ k, n = k + 1 := ⟨n - 1, by omega⟩
    obtain rfl : i = 3 := by omega
    refine pk_le 3 3 (fun _ => hp _ (fun j hj => ?_)) (fun h => absurd h (by omega))
    unfold fil1
    rw [if_pos hj]; rfl
  | succ d ih =>
    intro i n hd hn
    obtain ⟨n, rfl⟩ : ∃ k, n = k + 1 := ⟨n - 1, by omega⟩
    refine pk_le 3 i (fun h => absurd h (by omega)) (fun _ => ⟨vp_in_nI (by omega) (by omega), ?_⟩)
    rintro _ rfl _ rfl
    rw [nI_clamp (by omega), fil1_upd, nI_1]
    exact ih (i + 1) n (by omega) (by omega)
theorem u_first {gn cn0 sp0 : Nat → Int32} {post : (Nat → Int32) → (Nat → Int32) → Prop} (hp : ∀ sp, Rp 3 sp (fun _ => 0) → post (cpy1 gn cn0 5) sp) : PX8_layAtFirst gn cn0 sp0 post :=
  u_layCounts ⟨4, by
    have h := u_first6 (sp0 := sp0) hp 3 0 4 (by omega) (by omega)
    rw [fil1_0] at h
    exact h⟩
theorem t_isCourtN {x : Int32} {post : Int32 → Prop} (hn : x.toInt < (0 : Nat) ∨ ((4 : Nat) : Int) < x.toInt) (h : post 0) : PX7_isCourt x post := by
  have t0 : (0 : Int32).toInt = 0 := by decide
  have t5 : (5 : Int32).toInt = 5 := by decide
  refine ⟨fun _ => h, fun h1 => ⟨fun _ => h, fun h2 => ?_⟩⟩
  rw [lt_iff] at h1
  rw [le_iff] at h2
  omega
section
variable {A B K N C : Nat → Nat} {many ones others kinds fa ro be cn sp : Nat → Int32} {G P : Nat}
theorem u_wayF {c i : Nat} {al : Bool} {x2 x3 : Int32} {x : Nat × Nat × Nat} {post : Int32 → Int32 → Int32 → (Nat → Int32) → (Nat → Int32) → (Nat → Int32) → (Nat → Int32) → (Nat → Int32) → Prop} (hO : GO G A B K) (hm : many 0 = nI G) (hK : Rp G kinds K) (hP : P ≤ 3) (hc : c < 5) (hx2 : (x2 = 0 ∧ al = false) ∨ (¬ x2 = 0 ∧ al = true)) {Q : Qu} (hok : OKQ K N G P Q) (hR : RQ K N G P Q fa ro be)
    (hi : Q[i]? = some x) (hg : glC al c P x.1 = true) (hb : ∀ (j : Nat) (y : Nat × Nat × Nat), j < i → Q[j]? = some y → glC al c P y.1 = false) (hp0 : x3 = 0 → ∀ cn sp, post (nI x.2.1) (nI Q.length) (nI P) cn sp fa ro be) (hp1 : ¬ x3 = 0 → ∀ cn sp, post (if i = 0 then -4 else nI x.2.2) (nI Q.length) (nI P) cn sp fa ro be) :
    ∀ (d k n : Nat) (cn sp : Nat → Int32), k + d = i → d < n → PX8_way_36 post (nI c) x2 x3 many kinds (nI Q.length) (nI P) fa ro be n (nI k) cn sp := by
  have hl := hok.len
  have hil := (List.getElem?_eq_some_iff.mp hi).1
  intro d
  induction d with
  | zero =>
    intro k n cn sp hd hn
    obtain ⟨n, rfl⟩ : ∃ k, n = k + 1 := ⟨n - 1, by omega⟩
    obtain rfl : k = i := by omega
    have hV := (hok.1 k x hi).1
    have hcd := cdS_lt hO.1 hP hV
    obtain ⟨r1, r2, r3⟩ := hR.1 k x hi
    refine pk_le Q.length k (fun h => absurd h (by omega)) (fun _ => ⟨vp_in_nI (by omega) (by omega), ?_⟩)
    rw [nI_clamp (show k < 2 ^ 31 by omega), r1]
    refine u_take hO hm hK hP hV (fun cn2 sp2 _ h2 => u_there hP h2 hc x2 hx2 ?_)
    rw [hg, nI_clamp (show cdS G P K N x.1 < 2 ^ 31 by omega), r2, r3]
    refine pk_eq 1 0 (fun h => absurd h (by omega)) (fun _ => ⟨fun e => ⟨vp_in_nI (by omega) (by omega), vp_in_nI hcd (by omega), hp0 e _ _⟩, fun e => ⟨vp_in_nI (by omega) (by omega), vp_in_nI hcd (by omega), hp1 e _ _⟩⟩)
  | succ d ih =>
    intro k n cn sp hd hn
    obtain ⟨n, rfl⟩ : ∃ k, n = k + 1 := ⟨n - 1, by omega⟩
    obtain ⟨y, hy⟩ : ∃ y, Q[k]? = some y := ⟨_, List.getElem?_eq_getElem (show k < Q.length by omega)⟩
    have hV := (hok.1 k y hy).1
    refine pk_le Q.length k (fun h => absurd h (by omega)) (fun _ => ⟨vp_in_nI (by omega) (by omega), ?_⟩)
    rw [nI_clamp (by omega), (hR.1 k y hy).1]
    refine u_take hO hm hK hP hV (fun cn2 sp2 _ h2 => u_there hP h2 hc x2 hx2 ?_)
    rw [hb k y (by omega) hy]
    refine pk_eq 0 0 (fun _ => ?_) (fun h => absurd rfl h)
    rintro _ rfl
    rw [nI_1]
    exact ih (k + 1) n cn2 sp2 (by omega) (by omega)
theorem u_wayN {c : Nat} {al : Bool} {x2 x3 : Int32} {post : Int32 → Int32 → Int32 → (Nat → Int32) → (Nat → Int32) → (Nat → Int32) → (Nat → Int32) → (Nat → Int32) → Prop} (hO : GO G A B K) (hm : many 0 = nI G) (hK : Rp G kinds K) (hP : P ≤ 3) (hc : c < 5) (hx2 : (x2 = 0 ∧ al = false) ∨ (¬ x2 = 0 ∧ al = true)) {Q : Qu} (hok : OKQ K N G P Q) (hR : RQ K N G P Q fa ro be)
    (hb : ∀ (j : Nat) (y : Nat × Nat × Nat), Q[j]? = some y → glC al c P y.1 = false) (hp : ∀ cn sp, post (-4) (nI Q.length) (nI P) cn sp fa ro be) :
    ∀ (d k n : Nat) (cn sp : Nat → Int32), k + d = Q.length → d < n → PX8_way_36 post (nI c) x2 x3 many kinds (nI Q.length) (nI P) fa ro be n (nI k) cn sp := by
  have hl := hok.len
  intro d
  induction d with
  | zero =>
    intro k n cn sp hd hn
    obtain ⟨n, rfl⟩ : ∃ k, n = k + 1 := ⟨n - 1, by omega⟩
    exact pk_le Q.length k (fun _ => hp cn sp) (fun h => absurd h (by omega))
  | succ d ih =>
    intro k n cn sp hd hn
    obtain ⟨n, rfl⟩ : ∃ k, n = k + 1 := ⟨n - 1, by omega⟩
    obtain ⟨y, hy⟩ : ∃ y, Q[k]? = some y := ⟨_, List.getElem?_eq_getElem (show k < Q.length by omega)⟩
    have hV := (hok.1 k y hy).1
    refine pk_le Q.length k (fun h => absurd h (by omega)) (fun _ => ⟨vp_in_nI (by omega) (by omega), ?_⟩)
    rw [nI_clamp (by omega), (hR.1 k y hy).1]
    refine u_take hO hm hK hP hV (fun cn2 sp2 _ h2 => u_there hP h2 hc x2 hx2 ?_)
    rw [hb k y hy]
    refine pk_eq 0 0 (fun _ => ?_) (fun h => absurd rfl h)
    rintro _ rfl
    rw [nI_1]
    exact ih (k + 1) n cn2 sp2 (by omega) (by omega)
theorem u_wayP {i1 i2 x2 x3 : Int32} {gone at0 cn0 sp0 persons : Nat → Int32} {c : Nat} {post : Int32 → Int32 → Int32 → (Nat → Int32) → (Nat → Int32) → (Nat → Int32) → (Nat → Int32) → (Nat → Int32) → Prop} (hO : GO G A B K) (hG : 0 < G) (hm : many 0 = nI G) (hpr : persons 0 = nI P) (hA : Rp G ones A) (hB : Rp G others B) (hK : Rp G kinds K) (h0 : 0 < P) (hP : P ≤ 3) (hN : Rp G gone N) (hS : Sm G N) (hC : Rp 3 at0 C) (hC5 : ∀ p, p < 3 → C p < 5) (hc : c < 5) (h3 : x3 = 0 ∨ x3 = 1)
    (hp : ∀ cn sp fa ro be, OKQ K N G P (Qfl A B K N C G P) → RQ K N G P (Qfl A B K N C G P) fa ro be → ∃ k, PX8_way_36 post (nI c) x2 x3 many kinds (nI (Qfl A B K N C G P).length) (nI P) fa ro be k 0 cn sp) : PX8_way (nI c) x2 x3 i1 i2 many ones others kinds persons gone at0 cn0 sp0 fa ro be post := by
  refine u_inY (a := 0) (b := 4) (by decide) (by decide) (by omega) (by omega) (by omega) (rb1 (u_zoY h3 (rb1 (u_layNow ⟨in02, ?_⟩))))
  rw [z0, hpr]
  exact u_search hO hG hm hA hB hK h0 hP (hN.cpy hO.1) hS ((hC.cpy (Nat.le_refl 3)).sub hP) hC5 (fun cn sp fa ro be h1 h2 => hp cn sp fa ro be h1 h2)
theorem u_menF {S i : Nat} {x2 : Int32} {x : Nat × Nat × Nat} {post : Int32 → Int32 → Int32 → (Nat → Int32) → (Nat → Int32) → (Nat → Int32) → (Nat → Int32) → (Nat → Int32) → Prop} (hO : GO G A B K) (hm : many 0 = nI G) (hK : Rp G kinds K) (hP : P ≤ 3) (hS2 : S < 2 ^ G) {Q : Qu} (hok : OKQ K N G P Q) (hR : RQ K N G P Q fa ro be)
    (hi : Q[i]? = some x) (hg : glS K N G S x.1 = true) (hb : ∀ (j : Nat) (y : Nat × Nat × Nat), j < i → Q[j]? = some y → glS K N G S y.1 = false) (hp0 : x2 = 0 → ∀ cn sp, post (nI x.2.1) (nI Q.length) (nI P) cn sp fa ro be) (hp1 : ¬ x2 = 0 → ∀ cn sp, post (if i = 0 then -4 else nI x.2.2) (nI Q.length) (nI P) cn sp fa ro be) :
    ∀ (d k n : Nat) (cn sp : Nat → Int32), k + d = i → d < n → PX8_mend_31 post (nI S) x2 many kinds (nI Q.length) (nI P) fa ro be n (nI k) cn sp := by
  have hl := hok.len
  have hil := (List.getElem?_eq_some_iff.mp hi).1
  have hle : 2 ^ G ≤ 2 ^ 5 := Nat.pow_le_pow_right (by omega) hO.1
  have ops : ∀ s, VdS K N G P s → osetN K (rcS K N s) G = bitB (fun g => opn K N g 0 && !s.testBit g) G := fun s hV => by
    rw [osetN_B]
    exact bitB_congr G (fun g hg => opn_rc hO hV hg (Or.inl rfl))
  intro d
  induction d with
  | zero =>
    intro k n cn sp hd hn
    obtain ⟨n, rfl⟩ : ∃ k, n = k + 1 := ⟨n - 1, by omega⟩
    obtain rfl : k = i := by omega
    have hV := (hok.1 k x hi).1
    have hcd := cdS_lt hO.1 hP hV
    obtain ⟨r1, r2, r3⟩ := hR.1 k x hi
    refine pk_le Q.length k (fun h => absurd h (by omega)) (fun _ => ⟨vp_in_nI (by omega) (by omega), ?_⟩)
    rw [nI_clamp (show k < 2 ^ 31 by omega), r1]
    have hSm : Sm G (rcS K N x.1) := fun g hg => by have := Sm_rc K N G x.1 g hg; omega
    refine u_take hO hm hK hP hV (fun cn2 sp2 h1 _ => u_openSet hO hm hK h1 hSm ?_)
    rw [ops _ hV, nI_clamp (show cdS G P K N x.1 < 2 ^ 31 by omega), r2, r3]
    refine pk_eq _ S (fun _ => ⟨fun e => ⟨vp_in_nI (by omega) (by omega), vp_in_nI hcd (by omega), hp0 e _ _⟩, fun e => ⟨vp_in_nI (by omega) (by omega), vp_in_nI hcd (by omega), hp1 e _ _⟩⟩) (fun h => absurd (of_decide_eq_true hg) h) rfl rfl (by have := bitB_lt (fun g => opn K N g 0 && !x.1.testBit g) G; omega)
  | succ d ih =>
    intro k n cn sp hd hn
    obtain ⟨n, rfl⟩ : ∃ k, n = k + 1 := ⟨n - 1, by omega⟩
    obtain ⟨y, hy⟩ : ∃ y, Q[k]? = some y := ⟨_, List.getElem?_eq_getElem (show k < Q.length by omega)⟩
    have hV := (hok.1 k y hy).1
    refine pk_le Q.length k (fun h => absurd h (by omega)) (fun _ => ⟨vp_in_nI (by omega) (by omega), ?_⟩)
    rw [nI_clamp (by omega), (hR.1 k y hy).1]
    have hSm : Sm G (rcS K N y.1) := fun g hg => by have := Sm_rc K N G y.1 g hg; omega
    refine u_take hO hm hK hP hV (fun cn2 sp2 h1 _ => u_openSet hO hm hK h1 hSm ?_)
    rw [ops _ hV]
    refine pk_eq _ S (fun h => absurd h (of_decide_eq_false (hb k y (by omega) hy))) (fun _ => ?_) rfl rfl (by have := bitB_lt (fun g => opn K N g 0 && !y.1.testBit g) G; omega)
    rintro _ rfl
    rw [nI_1]
    exact ih (k + 1) n cn2 sp2 (by omega) (by omega)
theorem u_menN {S : Nat} {x2 : Int32} {post : Int32 → Int32 → Int32 → (Nat → Int32) → (Nat → Int32) → (Nat → Int32) → (Nat → Int32) → (Nat → Int32) → Prop} (hO : GO G A B K) (hm : many 0 = nI G) (hK : Rp G kinds K) (hP : P ≤ 3) (hS2 : S < 2 ^ G) {Q : Qu} (hok : OKQ K N G P Q) (hR : RQ K N G P Q fa ro be)
    (hb : ∀ (j : Nat) (y : Nat × Nat × Nat), Q[j]? = some y → glS K N G S y.1 = false) (hp : ∀ cn sp, post (-4) (nI Q.length) (nI P) cn sp fa ro be) :
    ∀ (d k n : Nat) (cn sp : Nat → Int32), k + d = Q.length → d < n → PX8_mend_31 post (nI S) x2 many kinds (nI Q.length) (nI P) fa ro be n (nI k) cn sp := by
  have hl := hok.len
  have hle : 2 ^ G ≤ 2 ^ 5 := Nat.pow_le_pow_right (by omega) hO.1
  have ops : ∀ s, VdS K N G P s → osetN K (rcS K N s) G = bitB (fun g => opn K N g 0 && !s.testBit g) G := fun s hV => by
    rw [osetN_B]
    exact bitB_congr G (fun g hg => opn_rc hO hV hg (Or.inl rfl))
  intro d
  induction d with
  | zero =>
    intro k n cn sp hd hn
    obtain ⟨n, rfl⟩ : ∃ k, n = k + 1 := ⟨n - 1, by omega⟩
    exact pk_le Q.length k (fun _ => hp cn sp) (fun h => absurd h (by omega))
  | succ d ih =>
    intro k n cn sp hd hn
    obtain ⟨n, rfl⟩ : ∃ k, n = k + 1 := ⟨n - 1, by omega⟩
    obtain ⟨y, hy⟩ : ∃ y, Q[k]? = some y := ⟨_, List.getElem?_eq_getElem (show k < Q.length by omega)⟩
    have hV := (hok.1 k y hy).1
    refine pk_le Q.length k (fun h => absurd h (by omega)) (fun _ => ⟨vp_in_nI (by omega) (by omega), ?_⟩)
    rw [nI_clamp (by omega), (hR.1 k y hy).1]
    have hSm : Sm G (rcS K N y.1) := fun g hg => by have := Sm_rc K N G y.1 g hg; omega
    refine u_take hO hm hK hP hV (fun cn2 sp2 h1 _ => u_openSet hO hm hK h1 hSm ?_)
    rw [ops _ hV]
    refine pk_eq _ S (fun h => absurd h (of_decide_eq_false (hb k y hy))) (fun _ => ?_) rfl rfl (by have := bitB_lt (fun g => opn K N g 0 && !y.1.testBit g) G; omega)
    rintro _ rfl
    rw [nI_1]
    exact ih (k + 1) n cn2 sp2 (by omega) (by omega)
/-! smallest: the reference's scan -/
theorem u_smF {c i : Nat} {x2 : Int32} {x : Nat × Nat × Nat} {KK : Int32 → Int32 → Int32 → (Nat → Int32) → (Nat → Int32) → (Nat → Int32) → (Nat → Int32) → (Nat → Int32) → Prop} {post : Int32 → Int32 → Int32 → (Nat → Int32) → (Nat → Int32) → (Nat → Int32) → (Nat → Int32) → (Nat → Int32) → Prop} (hO : GO G A B K) (hm : many 0 = nI G) (hK : Rp G kinds K) (hP : P ≤ 3) (hc : c < 5) {Q : Qu} (hok : OKQ K N G P Q) (hR : RQ K N G P Q fa ro be)
    (hi : Q[i]? = some x) (hg : glC false c P x.1 = true) (hb : ∀ (j : Nat) (y : Nat × Nat × Nat), j < i → Q[j]? = some y → glC false c P y.1 = false) (hp : ∀ cn sp, post x2 (nI Q.length) (nI P) cn sp fa ro be) :
    ∀ (d k n : Nat) (cn sp : Nat → Int32), k + d = i → d < n → PX8_smallest_27 post (nI c) many kinds KK x2 (nI Q.length) (nI P) fa ro be n (nI k) cn sp := by
  have hl := hok.len
  have hil := (List.getElem?_eq_some_iff.mp hi).1
  intro d
  induction d with
  | zero =>
    intro k n cn sp hd hn
    obtain ⟨n, rfl⟩ : ∃ k, n = k + 1 := ⟨n - 1, by omega⟩
    obtain rfl : k = i := by omega
    have hV := (hok.1 k x hi).1
    refine pk_le Q.length k (fun h => absurd h (by omega)) (fun _ => ⟨vp_in_nI (by omega) (by omega), ?_⟩)
    rw [nI_clamp (by omega), (hR.1 k x hi).1]
    refine u_take hO hm hK hP hV (fun cn2 sp2 _ h2 => u_there (al := false) hP h2 hc 0 (Or.inl ⟨rfl, rfl⟩) ?_)
    rw [hg]
    exact pk_eq 1 0 (fun h => absurd h (by omega)) (fun _ => hp _ _)
  | succ d ih =>
    intro k n cn sp hd hn
    obtain ⟨n, rfl⟩ : ∃ k, n = k + 1 := ⟨n - 1, by omega⟩
    obtain ⟨y, hy⟩ : ∃ y, Q[k]? = some y := ⟨_, List.getElem?_eq_getElem (show k < Q.length by omega)⟩
    have hV := (hok.1 k y hy).1
    refine pk_le Q.length k (fun h => absurd h (by omega)) (fun _ => ⟨vp_in_nI (by omega) (by omega), ?_⟩)
    rw [nI_clamp (by omega), (hR.1 k y hy).1]
    refine u_take hO hm hK hP hV (fun cn2 sp2 _ h2 => u_there (al := false) hP h2 hc 0 (Or.inl ⟨rfl, rfl⟩) ?_)
    rw [hb k y (by omega) hy]
    refine pk_eq 0 0 (fun _ => ?_) (fun h => absurd rfl h)
    rintro _ rfl
    rw [nI_1]
    exact ih (k + 1) n cn2 sp2 (by omega) (by omega)
theorem u_smN {c : Nat} {x2 : Int32} {KK : Int32 → Int32 → Int32 → (Nat → Int32) → (Nat → Int32) → (Nat → Int32) → (Nat → Int32) → (Nat → Int32) → Prop} {post : Int32 → Int32 → Int32 → (Nat → Int32) → (Nat → Int32) → (Nat → Int32) → (Nat → Int32) → (Nat → Int32) → Prop} (hO : GO G A B K) (hm : many 0 = nI G) (hK : Rp G kinds K) (hP : P ≤ 3) (hc : c < 5) {Q : Qu} (hok : OKQ K N G P Q) (hR : RQ K N G P Q fa ro be)
    (hb : ∀ (j : Nat) (y : Nat × Nat × Nat), Q[j]? = some y → glC false c P y.1 = false) (hk : ∀ cn sp, KK (x2 + 1) (nI Q.length) (nI P) cn sp fa ro be) :
    ∀ (d k n : Nat) (cn sp : Nat → Int32), k + d = Q.length → d < n → PX8_smallest_27 post (nI c) many kinds KK x2 (nI Q.length) (nI P) fa ro be n (nI k) cn sp := by
  have hl := hok.len
  intro d
  induction d with
  | zero =>
    intro k n cn sp hd hn
    obtain ⟨n, rfl⟩ : ∃ k, n = k + 1 := ⟨n - 1, by omega⟩
    refine pk_le Q.length k (fun _ => ?_) (fun h => absurd h (by omega))
    rintro _ rfl
    exact hk cn sp
  | succ d ih =>
    intro k n cn sp hd hn
    obtain ⟨n, rfl⟩ : ∃ k, n = k + 1 := ⟨n - 1, by omega⟩
    obtain ⟨y, hy⟩ : ∃ y, Q[k]? = some y := ⟨_, List.getElem?_eq_getElem (show k < Q.length by omega)⟩
    have hV := (hok.1 k y hy).1
    refine pk_le Q.length k (fun h => absurd h (by omega)) (fun _ => ⟨vp_in_nI (by omega) (by omega), ?_⟩)
    rw [nI_clamp (by omega), (hR.1 k y hy).1]
    refine u_take hO hm hK hP hV (fun cn2 sp2 _ h2 => u_there (al := false) hP h2 hc 0 (Or.inl ⟨rfl, rfl⟩) ?_)
    rw [hb k y hy]
    refine pk_eq 0 0 (fun _ => ?_) (fun h => absurd rfl h)
    rintro _ rfl
    rw [nI_1]
    exact ih (k + 1) n cn2 sp2 (by omega) (by omega)
/-- the reference's search for m persons, all in court 0; what comes behind it -/
theorem u_smStep {c m n : Nat} {i1 i2 : Int32} {gone cn0 sp0 : Nat → Int32} {post : Int32 → Int32 → Int32 → (Nat → Int32) → (Nat → Int32) → (Nat → Int32) → (Nat → Int32) → (Nat → Int32) → Prop} (hO : GO G A B K) (hG : 0 < G) (hm : many 0 = nI G) (hA : Rp G ones A) (hB : Rp G others B) (hK : Rp G kinds K) (h0 : 0 < m) (h3 : m ≤ 3) (hN : Rp G gone N) (hS : Sm G N)
    (hp : ∀ cn sp fa ro be, OKQ K N G m (Qfl A B K N (fun _ => 0) G m) → RQ K N G m (Qfl A B K N (fun _ => 0) G m) fa ro be → ∃ k, PX8_smallest_27 post (nI c) many kinds (PX8_smallest_11 post (nI c) many ones others kinds gone n) (nI m) (nI (Qfl A B K N (fun _ => 0) G m).length) (nI m) fa ro be k 0 cn sp) : PX8_smallest_11 post (nI c) many ones others kinds gone (n + 1) (nI m) i1 i2 cn0 sp0 fa ro be := by
  refine pk_lt 3 m (fun h => absurd h (by omega)) (fun _ => u_first (fun sp hsp => ?_))
  exact u_search (C := fun _ => 0) hO hG hm hA hB hK h0 h3 (hN.cpy hO.1) hS (hsp.sub h3) (fun p _ => by show 0 < 5; omega) (fun cn sp fa ro be h1 h2 => hp cn sp fa ro be h1 h2)
/-- not found for fewer than m, found for m (or for none) -/
theorem u_smT {c : Nat} {gone : Nat → Int32} {post : Int32 → Int32 → Int32 → (Nat → Int32) → (Nat → Int32) → (Nat → Int32) → (Nat → Int32) → (Nat → Int32) → Prop} (hO : GO G A B K) (hG : 0 < G) (hm : many 0 = nI G) (hA : Rp G ones A) (hB : Rp G others B) (hK : Rp G kinds K) (hN : Rp G gone N) (hS : Sm G N) (hc : c < 5) (M : Nat) (hM : M ≤ 4)
    (hb : ∀ m, 1 ≤ m → m < M → ∀ (j : Nat) (y : Nat × Nat × Nat), (Qfl A B K N (fun _ => 0) G m)[j]? = some y → glC false c m y.1 = false)
    (hf : M ≤ 3 → ∃ (i : Nat) (x : Nat × Nat × Nat), (Qfl A B K N (fun _ => 0) G M)[i]? = some x ∧ glC false c M x.1 = true ∧ ∀ (j : Nat) (y : Nat × Nat × Nat), j < i → (Qfl A B K N (fun _ => 0) G M)[j]? = some y → glC false c M y.1 = false)
    (hp : ∀ r, (M ≤ 3 → r = nI M) → (M = 4 → r = -4) → ∀ a b cn sp fa ro be, post r a b cn sp fa ro be) :
    ∀ (d m n : Nat) (i1 i2 : Int32) (cn0 sp0 fa ro be : Nat → Int32), m + d = M → d < n → 1 ≤ m → PX8_smallest_11 post (nI c) many ones others kinds gone n (nI m) i1 i2 cn0 sp0 fa ro be := by
  intro d
  induction d with
  | zero =>
    intro m n i1 i2 cn0 sp0 fa ro be hd hn h1
    obtain ⟨n, rfl⟩ : ∃ k, n = k + 1 := ⟨n - 1, by omega⟩
    obtain rfl : m = M := by omega
    by_cases h3 : m ≤ 3
    · obtain ⟨i, x, hi, hg, hbf⟩ := hf h3
      exact u_smStep hO hG hm hA hB hK (by omega) h3 hN hS (fun cn sp fa ro be hok hR => ⟨i + 1, u_smF hO hm hK h3 hc hok hR hi hg hbf (fun cn sp => hp _ (fun _ => rfl) (fun h => absurd h (by omega)) _ _ _ _ _ _ _) i 0 (i + 1) cn sp (by omega) (by omega)⟩)
    · exact pk_lt 3 m (fun _ => hp _ (fun h => absurd h h3) (fun _ => rfl) _ _ _ _ _ _ _) (fun h => absurd h (by omega))
  | succ d ih =>
    intro m n i1 i2 cn0 sp0 fa ro be hd hn h1
    obtain ⟨n, rfl⟩ : ∃ k, n = k + 1 := ⟨n - 1, by omega⟩
    refine u_smStep hO hG hm hA hB hK (by omega) (by omega) hN hS (fun cn sp fa ro be hok hR => ⟨(Qfl A B K N (fun _ => 0) G m).length + 1, u_smN hO hm hK (by omega) hc hok hR (hb m h1 (by omega)) (fun cn sp => ?_) (Qfl A B K N (fun _ => 0) G m).length 0 _ cn sp (by omega) (by omega)⟩)
    rw [nI_1]
    exact ih (m + 1) n _ _ _ _ _ _ _ (by omega) (by omega) (by omega)
end
