/-! ===== the reference's code of a state: the counts' rests, the courts ===== -/
def rsk (k : Nat) : Nat := if k = 2 then 3 else if k = 3 then 1 else 2
theorem rsk_or (k : Nat) : rsk k = 3 ∨ rsk k = 1 ∨ rsk k = 2 := by
  unfold rsk
  split
  · exact Or.inl rfl
  · split
    · exact Or.inr (Or.inl rfl)
    · exact Or.inr (Or.inr rfl)
def gcN (K M : Nat → Nat) : Nat → Nat
  | 0 => 0
  | g + 1 => gcN K M g * rsk (K g) + M g % rsk (K g)
def pcN (v : Nat) (C : Nat → Nat) : Nat → Nat
  | 0 => v
  | p + 1 => 5 * pcN v C p + C p
def cdN (G P : Nat) (K M C : Nat → Nat) : Nat := pcN (gcN K M G) C P
theorem gcN_congr {K M M' : Nat → Nat} : ∀ g, (∀ j, j < g → M j % rsk (K j) = M' j % rsk (K j)) → gcN K M g = gcN K M' g
  | 0, _ => rfl
  | g + 1, h => by rw [gcN, gcN, gcN_congr g (fun j hj => h j (by omega)), h g (by omega)]
theorem pcN_congr {v : Nat} {C C' : Nat → Nat} : ∀ p, (∀ j, j < p → C j = C' j) → pcN v C p = pcN v C' p
  | 0, _ => rfl
  | p + 1, h => by rw [pcN, pcN, pcN_congr p (fun j hj => h j (by omega)), h p (by omega)]
theorem gcN_lt (K M : Nat → Nat) : ∀ g, gcN K M g < 3 ^ g
  | 0 => by rw [gcN]; omega
  | g + 1 => by
    have h := gcN_lt K M g
    rw [gcN, Nat.pow_succ]
    rcases rsk_or (K g) with e | e | e <;> rw [e] <;> omega
theorem pcN_lt {v V : Nat} {C : Nat → Nat} (hv : v < V) : ∀ p, (∀ j, j < p → C j < 5) → pcN v C p < V * 5 ^ p
  | 0, _ => by rw [pcN]; omega
  | p + 1, h => by
    have h1 := pcN_lt hv p (fun j hj => h j (by omega))
    have h2 := h p (by omega)
    rw [pcN, Nat.pow_succ, ← Nat.mul_assoc]
    omega
theorem cdN_lt {G P : Nat} {K M C : Nat → Nat} (hG : G ≤ 5) (hP : P ≤ 3) (hC : ∀ j, j < P → C j < 5) : cdN G P K M C < 30400 := by
  have h1 := gcN_lt K M G
  have h2 : 3 ^ G ≤ 3 ^ 5 := Nat.pow_le_pow_right (by omega) hG
  have h3 := pcN_lt (v := gcN K M G) (V := 243) (C := C) (by omega) P hC
  have h4 : 5 ^ P ≤ 5 ^ 3 := Nat.pow_le_pow_right (by omega) hP
  unfold cdN
  omega
theorem pcN_inj {v v' : Nat} {C C' : Nat → Nat} : ∀ p, (∀ j, j < p → C j < 5) → (∀ j, j < p → C' j < 5) → pcN v C p = pcN v' C' p → v = v' ∧ ∀ j, j < p → C j = C' j
  | 0, _, _, e => ⟨e, fun j hj => absurd hj (by omega)⟩
  | p + 1, h, h', e => by
    have a := h p (by omega)
    have b := h' p (by omega)
    rw [pcN, pcN] at e
    obtain ⟨h1, h2⟩ := pcN_inj p (fun j hj => h j (by omega)) (fun j hj => h' j (by omega)) (show pcN v C p = pcN v' C' p by omega)
    refine ⟨h1, fun j hj => ?_⟩
    by_cases q : j = p
    · subst q; omega
    · exact h2 j (by omega)
theorem gcN_inj {K M M' : Nat → Nat} : ∀ g, gcN K M g = gcN K M' g → ∀ j, j < g → M j % rsk (K j) = M' j % rsk (K j)
  | 0, _, j, hj => absurd hj (by omega)
  | g + 1, e, j, hj => by
    rw [gcN, gcN] at e
    have h : gcN K M g = gcN K M' g ∧ M g % rsk (K g) = M' g % rsk (K g) := by
      rcases rsk_or (K g) with q | q | q <;> rw [q] at e ⊢ <;> omega
    by_cases q : j = g
    · subst q; exact h.2
    · exact gcN_inj g h.1 j (by omega)
/-- the counts that belong to a state: each gate shut since the start has been passed once -/
def cnS (N : Nat → Nat) (s g : Nat) : Nat := N g + if s.testBit g then 1 else 0
def rcS (K N : Nat → Nat) (s g : Nat) : Nat := cnS N s g % rsk (K g)
def cdS (G P : Nat) (K N : Nat → Nat) (s : Nat) : Nat := cdN G P K (cnS N s) (ctS s)
theorem rsk_copy {k : Nat} (h : k = 3) : rsk k = 1 := by subst h; rfl
theorem cdS_inj {A B K N : Nat → Nat} {G P s t : Nat} (hO : GO G A B K) (hP : P ≤ 3) (hs : VdS K N G P s) (ht : VdS K N G P t) (e : cdS G P K N s = cdS G P K N t) : s = t := by
  obtain ⟨v1, v2, v3, v4, v5, v6⟩ := hs
  obtain ⟨w1, w2, w3, w4, w5, w6⟩ := ht
  have hG5 := hO.1
  obtain ⟨e1, e2⟩ := pcN_inj P (fun j hj => v2 j (by omega)) (fun j hj => w2 j (by omega)) e
  have e3 := gcN_inj G e1
  have nb : ∀ g, g < G → K g ≠ 3 → s.testBit g = t.testBit g := fun g hg h3 => by
    have h := e3 g hg
    unfold cnS at h
    have hr : rsk (K g) = 3 ∨ rsk (K g) = 2 := by
      unfold rsk
      split
      · exact Or.inl rfl
      · exact Or.inr rfl
    cases q1 : s.testBit g <;> cases q2 : t.testBit g <;> first | rfl | (exfalso; rw [q1, q2] at h; simp only [if_true, if_false, Bool.false_eq_true] at h; rcases hr with r | r <;> rw [r] at h <;> omega)
  refine st_ext v1 w1 (fun i hi => ?_) (fun p hp => ?_)
  · by_cases l : i < G
    · have hr := rul_le K i
      rw [v4 i l, w4 i l]
      exact nb _ (by omega) (rul_ne (hO.2.2 (by omega)) i)
    · rw [v6 i (by omega) hi, w6 i (by omega) hi]
  · by_cases l : p < P
    · exact e2 p l
    · rw [v3 p (by omega) hp, w3 p (by omega) hp]
theorem cdS_lt {K N : Nat → Nat} {G P s : Nat} (hG : G ≤ 5) (hP : P ≤ 3) (hs : VdS K N G P s) : cdS G P K N s < 30400 := cdN_lt hG hP (fun j hj => hs.2.1 j (by omega))
/-- a gate's state by the rests is that of the start, and not shut since -/
theorem opn_rc {A B K N : Nat → Nat} {G P s g side : Nat} (hO : GO G A B K) (hV : VdS K N G P s) (hg : g < G) (hs : side = 0 ∨ side = 1) : opn K (rcS K N s) g side = (opn K N g side && !s.testBit g) := by
  have hr := rul_le K g
  have hk := (hO.2.1 (rul K g) (by omega)).2.2.2
  have h3 := rul_ne (hO.2.2 (by omega)) g
  have e4 := hV.2.2.2.1 g hg
  have e5 := hV.2.2.2.2.1 g hg
  rw [e4] at e5 ⊢
  have rr : rul K (rul K g) = rul K g := rul_rul (hO.2.2 (by omega)) g
  unfold opn at e5 ⊢
  unfold rcS cnS
  generalize rul K g = r at *
  generalize N r = n at *
  rcases (show K r = 0 ∨ K r = 1 ∨ K r = 2 ∨ K r = 4 by omega) with k | k | k | k
  · rw [k] at e5 ⊢
    cases q : s.testBit r
    · simp [rsk, q]
    · have := e5 q
      simp [rsk, q] at this ⊢
      omega
  · rw [k] at e5 ⊢
    cases q : s.testBit r
    · simp [rsk, q]
    · have := e5 q
      simp [rsk, q] at this ⊢
      omega
  · rw [k] at e5 ⊢
    cases q : s.testBit r
    · simp [rsk, q]
    · have := e5 q
      simp [rsk, q] at this ⊢
      omega
  · rw [k] at e5 ⊢
    cases q : s.testBit r
    · simp [rsk, q]
    · have := e5 q
      simp [rsk, q] at this ⊢
      omega
theorem opf_rc {A B K N : Nat → Nat} {G P s c g : Nat} (hO : GO G A B K) (hV : VdS K N G P s) (hg : g < G) : opf A B K (rcS K N s) c g = (opf A B K N c g && !s.testBit g) := by
  unfold opf
  rw [opn_rc hO hV hg (Or.inl rfl), opn_rc hO hV hg (Or.inr rfl)]
  split
  · rfl
  · split
    · rfl
    · rw [Bool.false_and]
theorem rsk_self {K : Nat → Nat} {g j : Nat} (h : rul K g = j) (hne : g ≠ j) : K g = 3 := by
  apply Classical.byContradiction
  intro h3
  rw [rul_self h3] at h
  exact hne h
theorem cdS_nx {A B K N : Nat → Nat} {G P s p g : Nat} (hO : GO G A B K) (hV : VdS K N G P s) (hg : g < G) (hb : s.testBit g = false) : cdN G P K (fun j => if j = g then rcS K N s g + 1 else rcS K N s j) (setN (ctS s) p (byd A B (ctS s p) g)) = cdS G P K N (nxS A B K G s p g) := by
  have hG5 := hO.1
  have hby : byd A B (ctS s p) g < 5 := byd_lt hO hg
  unfold cdS cdN
  have e1 : gcN K (fun j => if j = g then rcS K N s g + 1 else rcS K N s j) G = gcN K (cnS N (nxS A B K G s p g)) G := by
    refine gcN_congr G (fun j hj => ?_)
    show (if j = g then rcS K N s g + 1 else rcS K N s j) % rsk (K j) = cnS N (nxS A B K G s p g) j % rsk (K j)
    unfold rcS cnS
    rw [nx_bit (by omega), shB_tb hj]
    by_cases e : j = g
    · subst e
      rw [if_pos rfl, hb, Bool.false_or]
      by_cases h3 : K j = 3
      · rw [rsk_copy h3]; omega
      · rw [rul_self h3, decide_eq_true rfl]
        rcases rsk_or (K j) with q | q | q <;> rw [q] <;> simp <;> omega
    · rw [if_neg e]
      by_cases h3 : rul K j = g
      · rw [rsk_copy (rsk_self h3 e)]; omega
      · rw [decide_eq_false h3, Bool.or_false]
        exact Nat.mod_mod _ _
  rw [e1]
  refine pcN_congr P (fun j hj => ?_)
  rw [nx_ct hG5 (by omega)]
  rfl
/-! the reference's own: rests, code, take -/
theorem u_rests {k : Nat} {post : Int32 → Prop} (hk : k < 5) (hp : post (nI (rsk k))) : PX8_rests (nI k) post := by
  unfold rsk at hp
  refine pk_eq k 2 (fun e => ?_) (fun e => pk_eq k 3 (fun e2 => ?_) (fun e2 => ?_))
  · rw [if_pos e] at hp; exact hp
  · rw [if_neg e, if_pos e2] at hp; exact hp
  · rw [if_neg e, if_neg e2] at hp; exact hp
theorem rsk_pos (k : Nat) : 0 < rsk k := by rcases rsk_or k with e | e | e <;> omega
theorem rsk_le (k : Nat) : rsk k ≤ 3 := by rcases rsk_or k with e | e | e <;> omega
theorem u_code51 {P v : Nat} {C : Nat → Nat} {sp : Nat → Int32} {post : Int32 → Prop} (hP : P ≤ 3) (hC : Rp P sp C) (hp : post (nI (pcN v C P))) :
    ∀ (d p n : Nat), p + d = P → d < n → PX8_code_51 post (nI P) sp n (nI (pcN v C p)) (nI p) := by
  intro d
  induction d with
  | zero =>
    intro p n hd hn
    obtain ⟨n, rfl⟩ : ∃ k, n = k + 1 := ⟨n - 1, by omega⟩
    obtain rfl : p = P := by omega
    exact pk_le p p (fun _ => hp) (fun h => absurd h (by omega))
  | succ d ih =>
    intro p n hd hn
    obtain ⟨n, rfl⟩ : ∃ k, n = k + 1 := ⟨n - 1, by omega⟩
    refine pk_le P p (fun h => absurd h (by omega)) (fun _ => ⟨vp_in_nI (by omega) (by omega), ?_⟩)
    rintro _ rfl _ rfl
    rw [nI_clamp (by omega), hC p (by omega), nI_5, nI_1]
    exact ih (p + 1) n (by omega) (by omega)
theorem u_code4 {A B K M C : Nat → Nat} {G P : Nat} {many kd cn sp : Nat → Int32} {post : Int32 → Prop} (hO : GO G A B K) (hm : many 0 = nI G) (hK : Rp G kd K) (hP : P ≤ 3) (hN : Rp G cn M) (hS : Sm G M) (hC : Rp P sp C) (hp : post (nI (cdN G P K M C))) :
    ∀ (d g n : Nat), g + d = G → d < n → PX8_code_4 post (nI P) many kd cn sp n (nI (gcN K M g)) (nI g) := by
  have hG5 := hO.1
  intro d
  induction d with
  | zero =>
    intro g n hd hn
    obtain ⟨n, rfl⟩ : ∃ k, n = k + 1 := ⟨n - 1, by omega⟩
    obtain rfl : g = G := by omega
    refine ⟨in02, ?_⟩
    rw [z0, hm]
    exact pk_le g g (fun _ => ⟨P + 1, u_code51 hP hC hp P 0 (P + 1) (by omega) (by omega)⟩) (fun h => absurd h (by omega))
  | succ d ih =>
    intro g n hd hn
    obtain ⟨n, rfl⟩ : ∃ k, n = k + 1 := ⟨n - 1, by omega⟩
    have hk := (hO.2.1 g (by omega)).2.2.2
    have hs := hS g (by omega)
    refine ⟨in02, ?_⟩
    rw [z0, hm]
    refine pk_le G g (fun h => absurd h (by omega)) (fun _ => ⟨vp_in_nI (by omega) (by omega), ?_⟩)
    rw [nI_clamp (by omega), hK g (by omega), hN g (by omega)]
    have h0 := rsk_pos (K g)
    have h3 := rsk_le (K g)
    refine u_rests hk ⟨vp_in_nI (by omega) (by omega), vp_in_nI (by omega) (by omega), u_rests hk ⟨nz h0 (by omega), ?_⟩⟩
    rintro _ rfl _ rfl
    rw [cn_rem h0 (by omega) (by omega), pk_mul, nI_add, nI_1]
    exact ih (g + 1) n (by omega) (by omega)
theorem u_code {A B K M C : Nat → Nat} {G P : Nat} {many kd cn sp : Nat → Int32} {post : Int32 → Prop} (hO : GO G A B K) (hm : many 0 = nI G) (hK : Rp G kd K) (hP : P ≤ 3) (hN : Rp G cn M) (hS : Sm G M) (hC : Rp P sp C) (hp : post (nI (cdN G P K M C))) : PX8_code (nI P) many kd cn sp post :=
  ⟨G + 1, u_code4 hO hm hK hP hN hS hC hp G 0 (G + 1) (by omega) (by omega)⟩
theorem nIm1_lt : nI 0 + (-1) < 0 := by decide
theorem u_take41 {A B K M : Nat → Nat} {G : Nat} {kd sp : Nat → Int32} {post : (Nat → Int32) → (Nat → Int32) → Prop} (hO : GO G A B K) (hK : Rp G kd K) (hp : ∀ cn, Rp G cn (fun g => M g % rsk (K g)) → post cn sp) :
    ∀ (g n : Nat) (x : Int32) (cn : Nat → Int32), g ≤ G → g < n → nI g + (-1) = x → (∀ j, g ≤ j → j < G → cn j = nI (M j % rsk (K j))) → PX8_take_41 post kd sp n (nI (gcN K M g)) x cn := by
  have hG5 := hO.1
  intro g
  induction g with
  | zero =>
    intro n x cn hg hn hx hc
    obtain ⟨n, rfl⟩ : ∃ k, n = k + 1 := ⟨n - 1, by omega⟩
    subst hx
    exact ⟨fun _ => hp cn (fun j hj => hc j (by omega) hj), fun h => absurd nIm1_lt h⟩
  | succ g ih =>
    intro n x cn hg hn hx hc
    obtain ⟨n, rfl⟩ : ∃ k, n = k + 1 := ⟨n - 1, by omega⟩
    rw [pk_m1] at hx
    subst hx
    have hk := (hO.2.1 g (by omega)).2.2.2
    have h0 := rsk_pos (K g)
    have h3 := rsk_le (K g)
    have hl := gcN_lt K M (g + 1)
    have hl2 : 3 ^ (g + 1) ≤ 3 ^ 5 := Nat.pow_le_pow_right (by omega) (by omega)
    have hml := Nat.mod_lt (M g) h0
    have e1 : gcN K M (g + 1) % rsk (K g) = M g % rsk (K g) := by
      rw [gcN, Nat.mul_add_mod_self_right, Nat.mod_mod]
    have e2 : gcN K M (g + 1) / rsk (K g) = gcN K M g := by
      rw [gcN, Nat.mul_comm, Nat.mul_add_div h0, Nat.div_eq_of_lt hml, Nat.add_zero]
    refine pk_lt g 0 (fun h => absurd h (by omega)) (fun _ => ⟨vp_in_nI (by omega) (by omega), ?_⟩)
    rw [nI_clamp (by omega), hK g (by omega)]
    refine u_rests hk ⟨nz h0 (by omega), ?_⟩
    rintro _ rfl
    refine ⟨vp_in_nI (by omega) (by omega), ?_⟩
    rintro _ rfl
    refine ⟨vp_in_nI (by omega) (by omega), u_rests hk ⟨nz h0 (by omega), ?_⟩⟩
    rintro _ rfl x2 hx2
    rw [cn_rem h0 (by omega) (by omega), pk_div (by omega) h0 (by omega), e1, e2]
    refine ih n x2 _ (by omega) (by omega) hx2.symm (fun j h1 h2 => ?_)
    by_cases q : j = g
    · subst q; exact pk_us
    · rw [pk_un q]; exact hc j (by omega) h2
theorem u_take9 {A B K M C : Nat → Nat} {G P : Nat} {many kd cn : Nat → Int32} {post : (Nat → Int32) → (Nat → Int32) → Prop} (hO : GO G A B K) (hm : many 0 = nI G) (hK : Rp G kd K) (hP : P ≤ 3) (hC5 : ∀ j, j < P → C j < 5) (hp : ∀ cn sp, Rp G cn (fun g => M g % rsk (K g)) → Rp P sp C → post cn sp) :
    ∀ (p n : Nat) (x : Int32) (sp : Nat → Int32), p ≤ P → p < n → nI p + (-1) = x → (∀ j, p ≤ j → j < P → sp j = nI (C j)) → PX8_take_9 post many kd cn n (nI (pcN (gcN K M G) C p)) x sp := by
  have hG5 := hO.1
  intro p
  induction p with
  | zero =>
    intro n x sp hp' hn hx hc
    obtain ⟨n, rfl⟩ : ∃ k, n = k + 1 := ⟨n - 1, by omega⟩
    subst hx
    refine ⟨fun _ => ⟨in02, ?_⟩, fun h => absurd nIm1_lt h⟩
    rintro _ rfl
    rw [z0, hm]
    refine ⟨G + 1, u_take41 hO hK (fun cn2 h2 => hp cn2 sp h2 (fun j hj => hc j (by omega) hj)) G (G + 1) _ cn (Nat.le_refl _) (by omega) ?_ (fun j h1 h2 => absurd h1 (by omega))⟩
    rw [Int32.sub_eq_add_neg]
  | succ p ih =>
    intro n x sp hp' hn hx hc
    obtain ⟨n, rfl⟩ : ∃ k, n = k + 1 := ⟨n - 1, by omega⟩
    rw [pk_m1] at hx
    subst hx
    have hl := gcN_lt K M G
    have hl2 : 3 ^ G ≤ 3 ^ 5 := Nat.pow_le_pow_right (by omega) (by omega)
    have hb := pcN_lt (v := gcN K M G) (V := 243) (C := C) (by omega) (p + 1) (fun j hj => hC5 j (by omega))
    have hl4 : 5 ^ (p + 1) ≤ 5 ^ 3 := Nat.pow_le_pow_right (by omega) (by omega)
    have h5 := hC5 p (by omega)
    have e1 : pcN (gcN K M G) C (p + 1) % 5 = C p := by rw [pcN]; omega
    have e2 : pcN (gcN K M G) C (p + 1) / 5 = pcN (gcN K M G) C p := by rw [pcN]; omega
    refine pk_lt p 0 (fun h => absurd h (by omega)) (fun _ => ?_)
    rintro _ rfl
    refine ⟨vp_in_nI (by omega) (by omega), ?_⟩
    rintro _ rfl _ rfl x2 hx2
    rw [l5, cn_rem (by omega) (by omega) (by omega), pk_div (by omega) (by omega) (by omega), e1, e2, nI_clamp (by omega)]
    refine ih n x2 _ (by omega) (by omega) hx2.symm (fun j h1 h2 => ?_)
    by_cases q : j = p
    · subst q; exact pk_us
    · rw [pk_un q]; exact hc j (by omega) h2
theorem u_take {A B K N : Nat → Nat} {G P s : Nat} {many kd cn sp : Nat → Int32} {post : (Nat → Int32) → (Nat → Int32) → Prop} (hO : GO G A B K) (hm : many 0 = nI G) (hK : Rp G kd K) (hP : P ≤ 3) (hV : VdS K N G P s) (hp : ∀ cn sp, Rp G cn (rcS K N s) → Rp P sp (ctS s) → post cn sp) : PX8_take (nI (cdS G P K N s)) (nI P) many kd cn sp post := by
  rintro _ rfl
  refine ⟨P + 1, u_take9 hO hm hK hP (fun j hj => hV.2.1 j (by omega)) (fun cn sp h1 h2 => hp cn sp h1 h2) P (P + 1) _ sp (Nat.le_refl _) (by omega) ?_ (fun j h1 h2 => absurd h1 (by omega))⟩
  rw [Int32.sub_eq_add_neg]
/-! who is there -/
def cnC (C : Nat → Nat) (c : Nat) : Nat → Nat
  | 0 => 0
  | p + 1 => cnC C c p + if C p = c then 1 else 0
theorem cnC_le (C : Nat → Nat) (c : Nat) : ∀ p, cnC C c p ≤ p
  | 0 => Nat.le_refl _
  | p + 1 => by
    have h := cnC_le C c p
    rw [cnC]; split <;> omega
theorem cnC_congr {C D : Nat → Nat} {c : Nat} : ∀ p, (∀ j, j < p → C j = D j) → cnC C c p = cnC D c p
  | 0, _ => rfl
  | p + 1, h => by rw [cnC, cnC, cnC_congr p (fun j hj => h j (by omega)), h p (by omega)]
/-- the goal of all, or of any -/
def glC (al : Bool) (c P s : Nat) : Bool := if al then decide (cnC (ctS s) c P = P) else decide (0 < cnC (ctS s) c P)
theorem u_there5 {c P s : Nat} {al : Bool} {sp : Nat → Int32} {post : Int32 → Prop} (hP : P ≤ 3) (hC : Rp P sp (ctS s)) (hc : c < 5) (x2 : Int32) (hx : (x2 = 0 ∧ al = false) ∨ (¬ x2 = 0 ∧ al = true)) (hp : post (bI (glC al c P s))) :
    ∀ (d p n : Nat), p + d = P → d < n → PX8_areThere_5 post (nI c) x2 (nI P) sp n (nI (cnC (ctS s) c p)) (nI p) := by
  intro d
  induction d with
  | zero =>
    intro p n hd hn
    obtain ⟨n, rfl⟩ : ∃ k, n = k + 1 := ⟨n - 1, by omega⟩
    obtain rfl : p = P := by omega
    have hl := cnC_le (ctS s) c p
    unfold glC at hp
    refine pk_le p p (fun _ => ?_) (fun h => absurd h (by omega))
    rcases hx with ⟨e, rfl⟩ | ⟨e, rfl⟩
    · rw [if_neg (by decide)] at hp
      refine ⟨fun _ => pk_le _ 0 (fun h => ?_) (fun h => ?_), fun h => absurd e h⟩
      · rw [decide_eq_false (by omega)] at hp; exact hp
      · rw [decide_eq_true h] at hp; exact hp
    · rw [if_pos rfl] at hp
      refine ⟨fun h => absurd h e, fun _ => pk_eq _ p (fun h => ?_) (fun h => ?_)⟩
      · rw [decide_eq_true h] at hp; exact hp
      · rw [decide_eq_false h] at hp; exact hp
  | succ d ih =>
    intro p n hd hn
    obtain ⟨n, rfl⟩ : ∃ k, n = k + 1 := ⟨n - 1, by omega⟩
    have nx := ih (p + 1) n (by omega) (by omega)
    rw [cnC] at nx
    have h8 := ctS_lt s p
    refine pk_le P p (fun h => absurd h (by omega)) (fun _ => ⟨vp_in_nI (by omega) (by omega), ?_⟩)
    rw [nI_clamp (by omega), hC p (by omega)]
    refine pk_eq _ c (fun h => ?_) (fun h => ?_)
    · rintro _ rfl _ rfl
      rw [if_pos h] at nx
      rw [nI_1, nI_1]; exact nx
    · rintro _ rfl _ rfl
      rw [if_neg h] at nx
      rw [l0, nI_add, nI_1]; exact nx
theorem u_there {c P s : Nat} {al : Bool} {sp : Nat → Int32} {post : Int32 → Prop} (hP : P ≤ 3) (hC : Rp P sp (ctS s)) (hc : c < 5) (x2 : Int32) (hx : (x2 = 0 ∧ al = false) ∨ (¬ x2 = 0 ∧ al = true)) (hp : post (bI (glC al c P s))) : PX8_areThere (nI c) x2 (nI P) sp post :=
  ⟨P + 1, u_there5 hP hC hc x2 hx hp P 0 (P + 1) (by omega) (by omega)⟩
