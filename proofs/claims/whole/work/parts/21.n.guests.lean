/-! ===== guests on the path ===== -/
def leadR (A B K RG : Nat → Nat) : Nat → Nat → Nat → (Nat → Nat) → Nat → Nat
  | 0, _, _, N => N
  | d + 1, i, c, N => if opf A B K N c (RG i) then leadR A B K RG d (i + 1) (byd A B c (RG i)) (plus1 N (RG i)) else N
theorem plus1_le (N : Nat → Nat) (g j : Nat) : plus1 N g j ≤ N j + 1 := by
  unfold plus1
  by_cases q : j = g
  · subst q; rw [if_pos rfl]; omega
  · rw [if_neg q]; omega
theorem leadR_le {A B K RG : Nat → Nat} : ∀ (d i c : Nat) (N : Nat → Nat) (g : Nat), leadR A B K RG d i c N g ≤ N g + d
  | 0, _, _, _, _ => Nat.le_refl _
  | d + 1, i, c, N, g => by
    unfold leadR
    split
    · have h := leadR_le (A := A) (B := B) (K := K) (RG := RG) d (i + 1) (byd A B c (RG i)) (plus1 N (RG i)) g
      have h2 := plus1_le N (RG i) g
      omega
    · omega
theorem t_lead4 {A B K RG : Nat → Nat} {cA cB kd ga : Nat → Int32} {G r : Nat} {post : (Nat → Int32) → Prop} (hO : GO G A B K) (hA : Rp G cA A) (hB : Rp G cB B) (hK : Rp G kd K) (hr : r ≤ 8) (hR : Rp r ga RG) (hRG : ∀ i, i < r → RG i < G) :
    ∀ (d i c n : Nat) (N : Nat → Nat) (gn : Nat → Int32), i + d = r → d < n → c < 5 → (∀ g, g < G → N g + d < 999000) → Rp G gn N → (∀ gn', Rp G gn' (leadR A B K RG d i c N) → post gn') → PX3_leadGuest_4 post (nI r) ga (nI G) cA cB kd n (nI c) (nI i) gn := by
  have hG5 := hO.1
  intro d
  induction d with
  | zero =>
    intro i c n N gn hd hn hc hS hN hp
    obtain ⟨n, rfl⟩ : ∃ k, n = k + 1 := ⟨n - 1, by omega⟩
    exact pk_le r i (fun _ => hp gn hN) (fun h => absurd h (by omega))
  | succ d ih =>
    intro i c n N gn hd hn hc hS hN hp
    obtain ⟨n, rfl⟩ : ∃ k, n = k + 1 := ⟨n - 1, by omega⟩
    have hg := hRG i (by omega)
    have hSm : Sm G N := fun j hj => by have := hS j hj; omega
    refine pk_le r i (fun h => absurd h (by omega)) (fun _ => pk_le 8 i (fun h => absurd h (by omega)) (fun _ => ⟨vp_in_nI (by omega) (by omega), ?_⟩))
    rintro _ rfl
    rw [nI_clamp (by omega), hR i (by omega)]
    refine t_hasGate' hO.1 hg (rb1 (t_isOpenFrom hO hA hB hK hN hSm hc hg (and_b (fun q => ⟨vp_in_nI (by omega) (by omega), ?_⟩) (fun q => ?_))))
    · rintro _ rfl
      refine ⟨vp_in_nI (by omega) (by omega), ?_⟩
      rintro _ rfl
      rw [nI_clamp (by omega), hN _ hg, nI_1]
      refine t_beyond hO hA hB hc hg (opf_beside q) ?_
      rintro _ rfl
      rw [nI_1]
      unfold leadR at hp
      rw [if_pos q] at hp
      exact ih (i + 1) _ n (plus1 N (RG i)) _ (by omega) (by omega) (byd_lt hO hg) (fun j hj => by have h1 := plus1_le N (RG i) j; have h2 := hS j hj; omega) (hN.upd _ _) hp
    · unfold leadR at hp
      rw [if_neg (by rw [q]; decide)] at hp
      exact hp gn hN
theorem t_lead {A B K RG N : Nat → Nat} {cA cB kd ga gn : Nat → Int32} {G r : Nat} {post : (Nat → Int32) → Prop} (hO : GO G A B K) (hA : Rp G cA A) (hB : Rp G cB B) (hK : Rp G kd K) (hr : r ≤ 8) (hR : Rp r ga RG) (hRG : ∀ i, i < r → RG i < G) (hS : ∀ g, g < G → N g + 8 < 999000) (hN : Rp G gn N) (hp : ∀ gn', Rp G gn' (leadR A B K RG r 0 0 N) → post gn') : PX3_leadGuest (nI r) ga (nI G) cA cB kd gn post :=
  ⟨r + 1, t_lead4 hO hA hB hK hr hR hRG r 0 0 (r + 1) N gn (by omega) (by omega) (by omega) (fun g hg => by have := hS g hg; omega) hN hp⟩
theorem u_lead4 {A B K RG : Nat → Nat} {cA cB kd ga : Nat → Int32} {G r : Nat} {post : (Nat → Int32) → Prop} (hO : GO G A B K) (hA : Rp G cA A) (hB : Rp G cB B) (hK : Rp G kd K) (hr : r ≤ 8) (hR : Rp r ga RG) (hRG : ∀ i, i < r → RG i < G) :
    ∀ (d i c n : Nat) (N : Nat → Nat) (gn : Nat → Int32), i + d = r → d < n → c < 5 → (∀ g, g < G → N g + d < 999000) → Rp G gn N → (∀ gn', Rp G gn' (leadR A B K RG d i c N) → post gn') → PX8_goGuest_4 post (nI r) cA cB kd ga n (nI c) (nI i) gn := by
  have hG5 := hO.1
  intro d
  induction d with
  | zero =>
    intro i c n N gn hd hn hc hS hN hp
    obtain ⟨n, rfl⟩ : ∃ k, n = k + 1 := ⟨n - 1, by omega⟩
    exact pk_le r i (fun _ => hp gn hN) (fun h => absurd h (by omega))
  | succ d ih =>
    intro i c n N gn hd hn hc hS hN hp
    obtain ⟨n, rfl⟩ : ∃ k, n = k + 1 := ⟨n - 1, by omega⟩
    have hg := hRG i (by omega)
    have hSm : Sm G N := fun j hj => by have := hS j hj; omega
    refine pk_le r i (fun h => absurd h (by omega)) (fun _ => ⟨vp_in_nI (by omega) (by omega), ?_⟩)
    rintro _ rfl
    rw [nI_clamp (by omega), hR i (by omega)]
    refine u_canPass hO hA hB hK hN hSm hc hg (and_b (fun q => ⟨vp_in_nI (by omega) (by omega), ?_⟩) (fun q => ?_))
    · rintro _ rfl
      refine ⟨vp_in_nI (by omega) (by omega), ?_⟩
      rintro _ rfl
      rw [nI_clamp (by omega), hN _ hg, nI_1]
      refine u_beyond hO hA hB hc hg ?_
      rintro _ rfl
      rw [nI_1]
      unfold leadR at hp
      rw [if_pos q] at hp
      exact ih (i + 1) _ n (plus1 N (RG i)) _ (by omega) (by omega) (byd_lt hO hg) (fun j hj => by have h1 := plus1_le N (RG i) j; have h2 := hS j hj; omega) (hN.upd _ _) hp
    · unfold leadR at hp
      rw [if_neg (by rw [q]; decide)] at hp
      exact hp gn hN
theorem u_lead {A B K RG N : Nat → Nat} {cA cB kd ga gn : Nat → Int32} {G r : Nat} {post : (Nat → Int32) → Prop} (hO : GO G A B K) (hA : Rp G cA A) (hB : Rp G cB B) (hK : Rp G kd K) (hr : r ≤ 8) (hR : Rp r ga RG) (hRG : ∀ i, i < r → RG i < G) (hS : ∀ g, g < G → N g + 8 < 999000) (hN : Rp G gn N) (hp : ∀ gn', Rp G gn' (leadR A B K RG r 0 0 N) → post gn') : PX8_goGuest (nI r) cA cB kd ga gn post :=
  ⟨r + 1, u_lead4 hO hA hB hK hr hR hRG r 0 0 (r + 1) N gn (by omega) (by omega) (by omega) (fun g hg => by have := hS g hg; omega) hN hp⟩
/-- the counts behind k guests; how many of them leave the gates so; the first of them -/
def gsN (A B K RG : Nat → Nat) (r : Nat) (N : Nat → Nat) : Nat → Nat → Nat
  | 0 => N
  | k + 1 => leadR A B K RG r 0 0 (gsN A B K RG r N k)
def gsC (A B K RG : Nat → Nat) (r : Nat) (N : Nat → Nat) (G S : Nat) : Nat → Nat
  | 0 => 0
  | k + 1 => gsC A B K RG r N G S k + if osetN K (gsN A B K RG r N (k + 1)) G = S then 1 else 0
def gsF (A B K RG : Nat → Nat) (r : Nat) (N : Nat → Nat) (G S : Nat) : Nat → Int32
  | 0 => -4
  | k + 1 => if osetN K (gsN A B K RG r N (k + 1)) G = S ∧ gsC A B K RG r N G S k = 0 then nI (k + 1) else gsF A B K RG r N G S k
theorem gsN_le {A B K RG N : Nat → Nat} {r : Nat} (hr : r ≤ 8) (g : Nat) : ∀ k, gsN A B K RG r N k g ≤ N g + 8 * k
  | 0 => Nat.le_refl _
  | k + 1 => by
    have h1 := gsN_le (A := A) (B := B) (K := K) (RG := RG) (N := N) hr g k
    have h2 := leadR_le (A := A) (B := B) (K := K) (RG := RG) r 0 0 (gsN A B K RG r N k) g
    unfold gsN
    omega
theorem gsC_le {A B K RG N : Nat → Nat} {r G S : Nat} : ∀ k, gsC A B K RG r N G S k ≤ k
  | 0 => Nat.le_refl _
  | k + 1 => by
    have h1 := gsC_le (A := A) (B := B) (K := K) (RG := RG) (N := N) (r := r) (G := G) (S := S) k
    unfold gsC
    split <;> omega
theorem nI_ne4 {k : Nat} (h : k < 2 ^ 31) : nI k ≠ -4 := fun e => by
  have h1 := nI_toInt h
  rw [e] at h1
  have h2 : (-4 : Int32).toInt = -4 := by decide
  omega
theorem gsF_ne {A B K RG N : Nat → Nat} {r G S : Nat} : ∀ k, k < 100 → (gsF A B K RG r N G S k = -4 ↔ gsC A B K RG r N G S k = 0)
  | 0, _ => ⟨fun _ => rfl, fun _ => rfl⟩
  | k + 1, hk => by
    have h1 := gsF_ne (A := A) (B := B) (K := K) (RG := RG) (N := N) (r := r) (G := G) (S := S) k (by omega)
    unfold gsC gsF
    by_cases q : osetN K (gsN A B K RG r N (k + 1)) G = S
    · by_cases q2 : gsC A B K RG r N G S k = 0
      · rw [if_pos ⟨q, q2⟩, if_pos q]
        exact ⟨fun h => absurd h (nI_ne4 (by omega)), fun h => absurd h (by omega)⟩
      · rw [if_neg (fun h => q2 h.2), if_pos q]
        exact ⟨fun h => absurd (h1.mp h) q2, fun h => absurd h (by omega)⟩
    · rw [if_neg (fun h => q h.1), if_neg q]
      exact h1
theorem t_guests40 {A B K RG N : Nat → Nat} {cA cB kd ga : Nat → Int32} {x2 tp tf : Int32} {tC : Nat → Int32} {G S r : Nat} {post : Int32 → Int32 → Int32 → Int32 → (Nat → Int32) → (Nat → Int32) → (Nat → Int32) → (Nat → Int32) → (Nat → Int32) → Prop} (hO : GO G A B K) (hA : Rp G cA A) (hB : Rp G cB B) (hK : Rp G kd K) (hr : r ≤ 8) (hR : Rp r ga RG) (hRG : ∀ i, i < r → RG i < G) (hS : ∀ g, g < G → N g < 99000) (hS6 : S < 64)
    (hp0 : x2 = 0 → ∀ gn', post (nI (gsC A B K RG r N G S 60)) (nI G) tp tf cA cB kd gn' tC) (hp1 : ¬ x2 = 0 → ∀ gn', post (gsF A B K RG r N G S 60) (nI G) tp tf cA cB kd gn' tC) :
    ∀ (d k n : Nat) (gn : Nat → Int32), k + d = 60 → d < n → Rp G gn (gsN A B K RG r N k) → PX7_guests_40 post (nI S) x2 (nI r) ga (nI G) tp tf cA cB kd tC n (nI (gsC A B K RG r N G S k)) (gsF A B K RG r N G S k) (nI (k + 1)) gn := by
  have hG5 := hO.1
  intro d
  induction d with
  | zero =>
    intro k n gn hd hn hN
    obtain ⟨n, rfl⟩ : ∃ k, n = k + 1 := ⟨n - 1, by omega⟩
    obtain rfl : k = 60 := by omega
    exact pk_lt 60 (60 + 1) (fun _ => ⟨fun h => hp0 h gn, fun h => hp1 h gn⟩) (fun h => absurd h (by omega))
  | succ d ih =>
    intro k n gn hd hn hN
    obtain ⟨n, rfl⟩ : ∃ k, n = k + 1 := ⟨n - 1, by omega⟩
    refine pk_lt 60 (k + 1) (fun h => absurd h (by omega)) (fun _ => ?_)
    refine t_lead hO hA hB hK hr hR hRG (fun g hg => by have h1 := hS g hg; have h2 := gsN_le (A := A) (B := B) (K := K) (RG := RG) (N := N) hr g k; omega) hN ?_
    intro gn' hN'
    have hSm : Sm G (leadR A B K RG r 0 0 (gsN A B K RG r N k)) := fun g hg => by have h1 := hS g hg; have h2 := gsN_le (A := A) (B := B) (K := K) (RG := RG) (N := N) hr g (k + 1); unfold gsN at h2; omega
    have hlt := osetN_lt K (leadR A B K RG r 0 0 (gsN A B K RG r N k)) G
    have hle : 2 ^ G ≤ 2 ^ 5 := Nat.pow_le_pow_right (by omega) hO.1
    have hf := gsF_ne (A := A) (B := B) (K := K) (RG := RG) (N := N) (r := r) (G := G) (S := S) k (by omega)
    have hcl := gsC_le (A := A) (B := B) (K := K) (RG := RG) (N := N) (r := r) (G := G) (S := S) k
    have nx := ih (k + 1) n gn' (by omega) (by omega) hN'
    unfold gsC gsF gsN at nx
    refine t_openFromA hO hK hN' hSm (pk_eq _ S (fun q => ?_) (fun q => ?_))
    · rw [if_pos q] at nx
      rintro _ rfl
      rw [nI_1, nI_1]
      refine ⟨fun h4 => ?_, fun h4 => ?_⟩
      · rintro _ rfl
        rw [if_pos ⟨q, hf.mp h4⟩] at nx
        exact nx
      · rintro _ rfl
        rw [if_neg (fun h => h4 (hf.mpr h.2))] at nx
        exact nx
    · rw [if_neg q, if_neg (fun h => q h.1)] at nx
      rintro _ rfl
      rw [nI_1]
      exact nx
theorem u_guests33 {A B K RG N : Nat → Nat} {many cA cB kd ga sp : Nat → Int32} {x2 : Int32} {G S r : Nat} {post : Int32 → (Nat → Int32) → (Nat → Int32) → Prop} (hO : GO G A B K) (hm : many 0 = nI G) (hA : Rp G cA A) (hB : Rp G cB B) (hK : Rp G kd K) (hr : r ≤ 8) (hR : Rp r ga RG) (hRG : ∀ i, i < r → RG i < G) (hS : ∀ g, g < G → N g < 99000) (hS6 : S < 64)
    (hp0 : x2 = 0 → ∀ gn', post (nI (gsC A B K RG r N G S 60)) gn' sp) (hp1 : ¬ x2 = 0 → ∀ gn', post (gsF A B K RG r N G S 60) gn' sp) :
    ∀ (d k n : Nat) (gn : Nat → Int32), k + d = 60 → d < n → Rp G gn (gsN A B K RG r N k) → PX8_guests_33 post (nI S) x2 (nI r) many cA cB kd ga sp n (nI (gsC A B K RG r N G S k)) (gsF A B K RG r N G S k) (nI (k + 1)) gn := by
  have hG5 := hO.1
  intro d
  induction d with
  | zero =>
    intro k n gn hd hn hN
    obtain ⟨n, rfl⟩ : ∃ k, n = k + 1 := ⟨n - 1, by omega⟩
    obtain rfl : k = 60 := by omega
    exact pk_lt 60 (60 + 1) (fun _ => ⟨fun h => hp0 h gn, fun h => hp1 h gn⟩) (fun h => absurd h (by omega))
  | succ d ih =>
    intro k n gn hd hn hN
    obtain ⟨n, rfl⟩ : ∃ k, n = k + 1 := ⟨n - 1, by omega⟩
    refine pk_lt 60 (k + 1) (fun h => absurd h (by omega)) (fun _ => ?_)
    refine u_lead hO hA hB hK hr hR hRG (fun g hg => by have h1 := hS g hg; have h2 := gsN_le (A := A) (B := B) (K := K) (RG := RG) (N := N) hr g k; omega) hN ?_
    intro gn' hN'
    have hSm : Sm G (leadR A B K RG r 0 0 (gsN A B K RG r N k)) := fun g hg => by have h1 := hS g hg; have h2 := gsN_le (A := A) (B := B) (K := K) (RG := RG) (N := N) hr g (k + 1); unfold gsN at h2; omega
    have hlt := osetN_lt K (leadR A B K RG r 0 0 (gsN A B K RG r N k)) G
    have hle : 2 ^ G ≤ 2 ^ 5 := Nat.pow_le_pow_right (by omega) hO.1
    have hcl := gsC_le (A := A) (B := B) (K := K) (RG := RG) (N := N) (r := r) (G := G) (S := S) k
    have nx := ih (k + 1) n gn' (by omega) (by omega) hN'
    unfold gsC gsF gsN at nx
    refine u_openSet hO hm hK hN' hSm (pk_eq _ S (fun q => ?_) (fun q => ?_))
    · rw [if_pos q] at nx
      refine pk_eq _ 0 (fun h4 => ?_) (fun h4 => ?_)
      · rintro _ rfl _ rfl
        rw [nI_1, nI_1]
        rw [if_pos ⟨q, h4⟩] at nx
        exact nx
      · rintro _ rfl _ rfl
        rw [nI_1, nI_1]
        rw [if_neg (fun h => h4 h.2)] at nx
        exact nx
    · rw [if_neg q, if_neg (fun h => q h.1)] at nx
      rintro _ rfl
      rw [nI_1]
      exact nx
theorem t_hasSet {x : Int32} {G : Nat} {post : Int32 → Prop} (hG : G ≤ 5) (ht : ∀ S, S < 2 ^ G → x = nI S → post 1) (hf : ¬ vp_in x (2 ^ G) → post 0) : PX2_hasSet x (nI G) post := by
  have hle : 2 ^ G ≤ 2 ^ 5 := Nat.pow_le_pow_right (by omega) hG
  unfold PX2_hasSet
  rw [cn_shl' (by omega)]
  by_cases h : vp_in x (2 ^ G)
  · obtain ⟨g, hg, rfl⟩ := vp_in_of h (by omega)
    exact pk_lt g 0 (fun h => absurd h (by omega)) (fun _ => pk_le (2 ^ G) g (fun h => absurd h (by omega)) (fun _ => ht g hg rfl))
  · have h0 := hf h
    refine ⟨fun _ => h0, fun c1 => ⟨fun _ => h0, fun c2 => ?_⟩⟩
    exfalso
    apply h
    rintro (q | q)
    · exact c1 q
    · obtain ⟨j, hj, rfl⟩ := nI_of c1
      rw [nI_clamp hj] at q
      exact c2 ((nI_leI (by omega) hj).mpr q)
theorem u_isSet {x : Int32} {G : Nat} {many : Nat → Int32} {post : Int32 → Prop} (hm : many 0 = nI G) (hG : G ≤ 5) (ht : ∀ S, S < 2 ^ G → x = nI S → post 1) (hf : ¬ vp_in x (2 ^ G) → post 0) : PX8_isSet x many post := by
  have hle : 2 ^ G ≤ 2 ^ 5 := Nat.pow_le_pow_right (by omega) hG
  refine ⟨in02, ?_⟩
  rw [z0, hm, cn_shl' (by omega)]
  exact t_inG rfl (by omega) (Nat.two_pow_pos _) ht hf
theorem t_zoY {x : Int32} {post : Int32 → Prop} (h : x = 0 ∨ x = 1) (hp : post 1) : PX7_isZeroOrOne x post := by
  rcases h with rfl | rfl
  · exact ⟨fun _ => hp, fun h => absurd rfl h⟩
  · exact ⟨fun _ => hp, fun _ => ⟨fun _ => hp, fun h => absurd rfl h⟩⟩
theorem t_zoN {x : Int32} {post : Int32 → Prop} (h : ¬ (x = 0 ∨ x = 1)) (hp : post 0) : PX7_isZeroOrOne x post :=
  ⟨fun e => absurd (Or.inl e) h, fun _ => ⟨fun e => absurd (Or.inr e) h, fun _ => hp⟩⟩
theorem u_zoY {x : Int32} {post : Int32 → Prop} (h : x = 0 ∨ x = 1) (hp : post 1) : PX8_in x.toInt64 0 1 post := by
  refine t_in (a := 0) (b := 1) (by decide) (by decide) (fun _ _ => hp) (fun q => ?_)
  exfalso
  rcases h with rfl | rfl
  · revert q; decide
  · revert q; decide
theorem u_zoN {x : Int32} {post : Int32 → Prop} (h : ¬ (x = 0 ∨ x = 1)) (hp : post 0) : PX8_in x.toInt64 0 1 post := by
  refine t_in (a := 0) (b := 1) (by decide) (by decide) (fun a b => ?_) (fun _ => hp)
  exfalso
  rw [w32] at a b
  apply h
  rcases (show x.toInt = 0 ∨ x.toInt = 1 by omega) with e | e
  · exact Or.inl (Int32.toInt_inj.mp (by rw [e]; decide))
  · exact Or.inr (Int32.toInt_inj.mp (by rw [e]; decide))
