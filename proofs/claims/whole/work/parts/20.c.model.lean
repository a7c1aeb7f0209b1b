/-! ===== the reference's garden: the same numbers ===== -/
theorem lt64 (a b : Int64) : a < b ↔ a.toInt < b.toInt := Int64.lt_iff_toInt_lt
theorem le64 (a b : Int64) : a ≤ b ↔ a.toInt ≤ b.toInt := Int64.le_iff_toInt_le
theorem t_in {x lo hi : Int64} {a b : Int} {post : Int32 → Prop} (ha : lo.toInt = a) (hb : hi.toInt = b) (ht : a ≤ x.toInt → x.toInt ≤ b → post 1) (hf : (x.toInt < a ∨ b < x.toInt) → post 0) : PX8_in x lo hi post := by
  unfold PX8_in
  rw [lg_cmp_lt, lg_cmp_gt, lt64, lt64, ha, hb]
  exact ⟨fun h => hf (Or.inl h), fun h => ⟨fun h2 => hf (Or.inr h2), fun h2 => ht (by omega) (by omega)⟩⟩
theorem w32 (x : Int32) : x.toInt64.toInt = x.toInt := Int32.toInt_toInt64 x
theorem t_inG {x : Int32} {G : Nat} {post : Int32 → Prop} {y : Int32} (hy : y = nI G) (hG : G < 2 ^ 31) (h1 : 0 < G) (ht : ∀ g, g < G → x = nI g → post 1) (hf : ¬ vp_in x G → post 0) : PX8_in x.toInt64 0 (y - 1).toInt64 post := by
  have e : (y - 1).toInt = (G : Int) - 1 := by
    rw [hy, l1, pk_sub h1, nI_toInt (by omega)]; omega
  refine t_in (a := 0) (b := (G : Int) - 1) (by decide) (by rw [w32, e]) (fun h h2 => ?_) (fun h => hf (fun q => ?_))
  · rw [w32] at h h2
    obtain ⟨g, hg, rfl⟩ := vp_in_of (x := x) (n := G) (vp_in_iff.mpr ⟨h, by omega⟩) hG
    exact ht g hg rfl
  · rw [w32] at h
    have := vp_in_iff.mp q
    omega
theorem t_inN {g G : Nat} {post : Int32 → Prop} {y : Int32} (hy : y = nI G) (hG : G < 2 ^ 31) (hg : g < G) (h : post 1) : PX8_in (nI g).toInt64 0 (y - 1).toInt64 post :=
  t_inG hy hG (by omega) (fun _ _ _ => h) (fun n => absurd (vp_in_nI hg hG) n)
theorem z0 : (0 : Int32).toNatClampNeg = 0 := rfl
theorem in02 : vp_in 0 2 := vp_in_nI (n := 0) (by omega) (by omega)
theorem u_isGate {x : Int32} {G : Nat} {many : Nat → Int32} {post : Int32 → Prop} (hm : many 0 = nI G) (hG : G < 2 ^ 31) (h1 : 0 < G) (ht : ∀ g, g < G → x = nI g → post 1) (hf : ¬ vp_in x G → post 0) : PX8_isGate x many post := ⟨in02, t_inG hm hG h1 ht hf⟩
theorem u_isPerson {x : Int32} {G : Nat} {many : Nat → Int32} {post : Int32 → Prop} (hm : many 0 = nI G) (hG : G < 2 ^ 31) (h1 : 0 < G) (ht : ∀ g, g < G → x = nI g → post 1) (hf : ¬ vp_in x G → post 0) : PX8_isPerson x many post := ⟨in02, t_inG hm hG h1 ht hf⟩
theorem u_isGate' {g G : Nat} {many : Nat → Int32} {post : Int32 → Prop} (hm : many 0 = nI G) (hG : G < 2 ^ 31) (hg : g < G) (h : post 1) : PX8_isGate (nI g) many post := ⟨in02, t_inN hm hG hg h⟩
/-- the first places, copied one by one -/
def cpy1 (f g : Nat → Int32) (n : Nat) : Nat → Int32 := fun j => if j < n then f j else g j
theorem cpy1_upd (f g : Nat → Int32) (n : Nat) : upd (cpy1 f g n) n (f n) = cpy1 f g (n + 1) := by
  funext j
  unfold upd cpy1
  by_cases h : j = n
  · subst h; rw [if_pos rfl, if_pos (by omega)]
  · rw [if_neg h]
    by_cases h2 : j < n
    · rw [if_pos h2, if_pos (by omega)]
    · rw [if_neg h2, if_neg (by omega)]
theorem cpy1_0 (f g : Nat → Int32) : cpy1 f g 0 = g := by funext j; unfold cpy1; rw [if_neg (by omega)]
theorem u_layCounts2 {gn cn0 : Nat → Int32} {post : (Nat → Int32) → Prop} (hp : post (cpy1 gn cn0 5)) :
    ∀ (d i n : Nat), i + d = 5 → d < n → PX8_layCounts_2 post gn n (nI i) (cpy1 gn cn0 i) := by
  intro d
  induction d with
  | zero =>
    intro i n hd hn
    obtain ⟨n, rfl⟩ : ∃ k, n = k + 1 := ⟨n - 1, by omega⟩
    refine pk_le 5 i (fun _ => ?_) (fun h => absurd h (by omega))
    rw [show i = 5 by omega]; exact hp
  | succ d ih =>
    intro i n hd hn
    obtain ⟨n, rfl⟩ : ∃ k, n = k + 1 := ⟨n - 1, by omega⟩
    refine pk_le 5 i (fun h => absurd h (by omega)) (fun _ => ⟨vp_in_nI (by omega) (by omega), ?_⟩)
    rintro _ rfl
    refine ⟨vp_in_nI (by omega) (by omega), ?_⟩
    rintro _ rfl _ rfl
    rw [nI_clamp (by omega), cpy1_upd, nI_1]
    exact ih (i + 1) n (by omega) (by omega)
theorem u_layCounts {gn cn0 : Nat → Int32} {post : (Nat → Int32) → Prop} (hp : post (cpy1 gn cn0 5)) : PX8_layCounts gn cn0 post :=
  ⟨6, by rw [← cpy1_0 gn cn0]; exact u_layCounts2 (cn0 := cn0) hp 5 0 6 (by omega) (by omega)⟩
theorem u_layNow6 {a c sp0 : Nat → Int32} {post : (Nat → Int32) → (Nat → Int32) → Prop} (hp : post c (cpy1 a sp0 3)) :
    ∀ (d i n : Nat), i + d = 3 → d < n → PX8_layNow_6 post a c n (nI i) (cpy1 a sp0 i) := by
  intro d
  induction d with
  | zero =>
    intro i n hd hn
    obtain ⟨n, rfl⟩ : ∃ k, n = k + 1 := ⟨n - 1, by omega⟩
    refine pk_le 3 i (fun _ => ?_) (fun h => absurd h (by omega))
    rw [show i = 3 by omega]; exact hp
  | succ d ih =>
    intro i n hd hn
    obtain ⟨n, rfl⟩ : ∃ k, n = k + 1 := ⟨n - 1, by omega⟩
    refine pk_le 3 i (fun h => absurd h (by omega)) (fun _ => ⟨vp_in_nI (by omega) (by omega), ?_⟩)
    rintro _ rfl
    refine ⟨vp_in_nI (by omega) (by omega), ?_⟩
    rintro _ rfl _ rfl
    rw [nI_clamp (by omega), cpy1_upd, nI_1]
    exact ih (i + 1) n (by omega) (by omega)
theorem u_layNow {gn a cn0 sp0 : Nat → Int32} {post : (Nat → Int32) → (Nat → Int32) → Prop} (hp : post (cpy1 gn cn0 5) (cpy1 a sp0 3)) : PX8_layNow gn a cn0 sp0 post := by
  unfold PX8_layNow
  exact u_layCounts ⟨4, by
    have h := u_layNow6 (a := a) (sp0 := sp0) (c := cpy1 gn cn0 5) hp 3 0 4 (by omega) (by omega)
    rw [cpy1_0] at h; exact h⟩
theorem u_isOpen2 {A B K N : Nat → Nat} {kd cn : Nat → Int32} {G side : Nat} {post : Int32 → Prop} (hO : GO G A B K) (hK : Rp G kd K) (hN : Rp G cn N) (hS : Sm G N) (hs : side = 0 ∨ side = 1) :
    ∀ (g n : Nat), g < G → g < n → post (bI (opn K N g side)) → PX8_isOpen_2 post (nI side) kd cn n (nI g) := by
  have hG := hO.1
  intro g
  induction g with
  | zero =>
    intro n hg hn hp
    obtain ⟨n, rfl⟩ : ∃ k, n = k + 1 := ⟨n - 1, by omega⟩
    have h3 := hO.2.2 hg
    have hk := (hO.2.1 _ hg).2.2.2
    refine ⟨vp_in_nI (by omega) (by omega), ?_⟩
    rw [nI_clamp (by omega), hK _ hg]
    refine pk_eq (K 0) 3 (fun h => absurd h h3) (fun _ => ⟨vp_in_nI (by omega) (by omega), ?_⟩)
    rintro _ rfl
    rw [hN _ hg]
    have hn := hS _ hg
    unfold opn at hp
    rw [show rul K 0 = 0 from rfl] at hp
    generalize hke : K 0 = k at *
    generalize hne : N 0 = n at *
    have e2 : nI n - nI n / 2 * 2 = nI (n % 2) := pk_rem (d := 2) (by omega) (by omega) (by omega)
    have e3 : nI n - nI n / 3 * 3 = nI (n % 3) := pk_rem (d := 3) (by omega) (by omega) (by omega)
    rw [e2, e3]
    have hin : vp_in (nI 0) 5 := vp_in_nI (by omega) (by omega)
    rcases (show k = 0 ∨ k = 1 ∨ k = 2 ∨ k = 4 by omega) with rfl | rfl | rfl | rfl
    · refine pk_eq 0 0 (fun _ => ⟨hin, pk_eq (n % 2) 0 (fun h => ?_) (fun h => ?_)⟩) (fun h => absurd rfl h)
      · rw [if_pos rfl, decide_eq_true h] at hp; exact hp
      · rw [if_pos rfl, decide_eq_false h] at hp; exact hp
    · refine pk_eq 1 0 (fun h => absurd h (by omega)) (fun _ => pk_eq 1 1 (fun _ => ⟨hin, pk_eq (n % 2) 1 (fun h => ?_) (fun h => ?_)⟩) (fun h => absurd rfl h))
      · rw [if_neg (by omega), if_pos rfl, decide_eq_true (by omega)] at hp; exact hp
      · rw [if_neg (by omega), if_pos rfl, decide_eq_false (by omega)] at hp; exact hp
    · refine pk_eq 2 0 (fun h => absurd h (by omega)) (fun _ => pk_eq 2 1 (fun h => absurd h (by omega)) (fun _ => pk_eq 2 2 (fun _ => ⟨hin, pk_eq (n % 3) 0 (fun h => ?_) (fun h => ?_)⟩) (fun h => absurd rfl h)))
      · rw [if_neg (by omega), if_neg (by omega), if_pos rfl, decide_eq_true h] at hp; exact hp
      · rw [if_neg (by omega), if_neg (by omega), if_pos rfl, decide_eq_false h] at hp; exact hp
    · refine pk_eq 4 0 (fun h => absurd h (by omega)) (fun _ => pk_eq 4 1 (fun h => absurd h (by omega)) (fun _ => pk_eq 4 2 (fun h => absurd h (by omega)) (fun _ => pk_eq side 0 (fun hs0 => ⟨hin, pk_eq (n % 2) 0 (fun h => ?_) (fun h => ?_)⟩) (fun hs0 => ?_))))
      · rw [if_neg (by omega), if_neg (by omega), if_neg (by omega), decide_eq_true h, decide_eq_true hs0] at hp; exact hp
      · rw [if_neg (by omega), if_neg (by omega), if_neg (by omega), decide_eq_false h, Bool.and_false] at hp; exact hp
      · rw [if_neg (by omega), if_neg (by omega), if_neg (by omega), decide_eq_false hs0, Bool.false_and] at hp; exact hp
  | succ g ih =>
    intro n hg hn hp
    obtain ⟨n, rfl⟩ : ∃ k, n = k + 1 := ⟨n - 1, by omega⟩
    have hk := (hO.2.1 _ hg).2.2.2
    refine ⟨vp_in_nI (by omega) (by omega), ?_⟩
    rw [nI_clamp (by omega), hK _ hg]
    refine pk_eq (K (g + 1)) 3 (fun h => ?_) (fun h3 => ⟨vp_in_nI (by omega) (by omega), ?_⟩)
    · rintro _ rfl
      rw [pk_m1]
      refine ih n (by omega) (by omega) ?_
      unfold opn at hp ⊢
      rw [rul_copy h] at hp
      exact hp
    · rintro _ rfl
      rw [hN _ hg]
      have hn := hS _ hg
      unfold opn at hp
      rw [rul_self h3] at hp
      generalize hke : K (g + 1) = k at *
      generalize hne : N (g + 1) = n at *
      have e2 : nI n - nI n / 2 * 2 = nI (n % 2) := pk_rem (d := 2) (by omega) (by omega) (by omega)
      have e3 : nI n - nI n / 3 * 3 = nI (n % 3) := pk_rem (d := 3) (by omega) (by omega) (by omega)
      rw [e2, e3]
      have hin : vp_in (nI (g + 1)) 5 := vp_in_nI (by omega) (by omega)
      rcases (show k = 0 ∨ k = 1 ∨ k = 2 ∨ k = 4 by omega) with rfl | rfl | rfl | rfl
      · refine pk_eq 0 0 (fun _ => ⟨hin, pk_eq (n % 2) 0 (fun h => ?_) (fun h => ?_)⟩) (fun h => absurd rfl h)
        · rw [if_pos rfl, decide_eq_true h] at hp; exact hp
        · rw [if_pos rfl, decide_eq_false h] at hp; exact hp
      · refine pk_eq 1 0 (fun h => absurd h (by omega)) (fun _ => pk_eq 1 1 (fun _ => ⟨hin, pk_eq (n % 2) 1 (fun h => ?_) (fun h => ?_)⟩) (fun h => absurd rfl h))
        · rw [if_neg (by omega), if_pos rfl, decide_eq_true (by omega)] at hp; exact hp
        · rw [if_neg (by omega), if_pos rfl, decide_eq_false (by omega)] at hp; exact hp
      · refine pk_eq 2 0 (fun h => absurd h (by omega)) (fun _ => pk_eq 2 1 (fun h => absurd h (by omega)) (fun _ => pk_eq 2 2 (fun _ => ⟨hin, pk_eq (n % 3) 0 (fun h => ?_) (fun h => ?_)⟩) (fun h => absurd rfl h)))
        · rw [if_neg (by omega), if_neg (by omega), if_pos rfl, decide_eq_true h] at hp; exact hp
        · rw [if_neg (by omega), if_neg (by omega), if_pos rfl, decide_eq_false h] at hp; exact hp
      · refine pk_eq 4 0 (fun h => absurd h (by omega)) (fun _ => pk_eq 4 1 (fun h => absurd h (by omega)) (fun _ => pk_eq 4 2 (fun h => absurd h (by omega)) (fun _ => pk_eq side 0 (fun hs0 => ⟨hin, pk_eq (n % 2) 0 (fun h => ?_) (fun h => ?_)⟩) (fun hs0 => ?_))))
        · rw [if_neg (by omega), if_neg (by omega), if_neg (by omega), decide_eq_true h, decide_eq_true hs0] at hp; exact hp
        · rw [if_neg (by omega), if_neg (by omega), if_neg (by omega), decide_eq_false h, Bool.and_false] at hp; exact hp
        · rw [if_neg (by omega), if_neg (by omega), if_neg (by omega), decide_eq_false hs0, Bool.false_and] at hp; exact hp
theorem u_isOpen {A B K N : Nat → Nat} {kd cn : Nat → Int32} {g G side : Nat} {post : Int32 → Prop} (hO : GO G A B K) (hK : Rp G kd K) (hN : Rp G cn N) (hS : Sm G N) (hg : g < G) (hs : side = 0 ∨ side = 1) (hp : post (bI (opn K N g side))) : PX8_isOpen (nI g) (nI side) kd cn post :=
  ⟨g + 1, u_isOpen2 hO hK hN hS hs g (g + 1) hg (by omega) hp⟩
theorem u_canPass {A B K N : Nat → Nat} {cA cB kd cn : Nat → Int32} {c g G : Nat} {post : Int32 → Prop} (hO : GO G A B K) (hA : Rp G cA A) (hB : Rp G cB B) (hK : Rp G kd K) (hN : Rp G cn N) (hS : Sm G N) (hc : c < 5) (hg : g < G) (hp : post (bI (opf A B K N c g))) : PX8_canPass (nI c) (nI g) cA cB kd cn post := by
  obtain ⟨ha, hb, hab, -⟩ := hO.2.1 g hg
  have hG := hO.1
  refine ⟨vp_in_nI (by omega) (by omega), ?_⟩
  rw [nI_clamp (by omega), hA g hg, hB g hg]
  unfold opf at hp
  refine pk_eq (A g) c (fun h => ?_) (fun h => ⟨vp_in_nI (by omega) (by omega), pk_eq (B g) c (fun h2 => ?_) (fun h2 => ?_)⟩)
  · rw [if_pos h] at hp
    refine ⟨fun h => absurd h (by decide), fun _ => u_isOpen (side := 0) hO hK hN hS hg (Or.inl rfl) (and_b (fun h => ?_) (fun h => ?_))⟩
    · rw [h] at hp; exact hp
    · rw [h] at hp; exact hp
  · rw [if_neg h, if_pos h2] at hp
    refine ⟨fun h => absurd h (by decide), fun _ => u_isOpen (side := 1) hO hK hN hS hg (Or.inr rfl) (and_b (fun h => ?_) (fun h => ?_))⟩
    · rw [h] at hp; exact hp
    · rw [h] at hp; exact hp
  · rw [if_neg h, if_neg h2] at hp
    exact ⟨fun _ => hp, fun h => absurd (by decide) h⟩
theorem u_beyond {A B K : Nat → Nat} {cA cB : Nat → Int32} {c g G : Nat} {post : Int32 → Prop} (hO : GO G A B K) (hA : Rp G cA A) (hB : Rp G cB B) (hc : c < 5) (hg : g < G) (hp : post (nI (byd A B c g))) : PX8_beyond (nI g) (nI c) cA cB post := by
  obtain ⟨ha, hb, hab, -⟩ := hO.2.1 g hg
  have hG := hO.1
  refine ⟨vp_in_nI (by omega) (by omega), ?_⟩
  rw [nI_clamp (by omega), hA g hg, hB g hg]
  unfold byd at hp
  refine pk_eq (A g) c (fun h => ⟨vp_in_nI (by omega) (by omega), ?_⟩) (fun h => ⟨vp_in_nI (by omega) (by omega), ?_⟩)
  · rw [if_pos h] at hp; exact hp
  · rw [if_neg h] at hp; exact hp
theorem u_openSet4 {A B K N : Nat → Nat} {many kd cn : Nat → Int32} {G : Nat} {post : Int32 → Prop} (hO : GO G A B K) (hm : many 0 = nI G) (hK : Rp G kd K) (hN : Rp G cn N) (hS : Sm G N) (hp : post (nI (osetN K N G))) :
    ∀ (d g n : Nat), g + d = G → d < n → PX8_openSet_4 post many kd cn n (nI (osetN K N g)) (nI g) := by
  have hG := hO.1
  intro d
  induction d with
  | zero =>
    intro g n hd hn
    obtain ⟨n, rfl⟩ : ∃ k, n = k + 1 := ⟨n - 1, by omega⟩
    refine ⟨in02, ?_⟩
    rw [z0, hm]
    refine pk_le G g (fun _ => ?_) (fun h => absurd h (by omega))
    rw [show g = G by omega]; exact hp
  | succ d ih =>
    intro g n hd hn
    obtain ⟨n, rfl⟩ : ∃ k, n = k + 1 := ⟨n - 1, by omega⟩
    refine ⟨in02, ?_⟩
    rw [z0, hm]
    refine pk_le G g (fun h => absurd h (by omega)) (fun _ => ?_)
    refine u_isOpen (side := 0) hO hK hN hS (by omega) (Or.inl rfl) (and_b (fun h => ?_) (fun h => ?_))
    · rintro _ rfl _ rfl
      rw [nI_1, cn_shl' (by omega), cn_or]
      have e : osetN K N (g + 1) = osetN K N g ||| 2 ^ g := by show _ ||| (if opn K N g 0 then 2 ^ g else 0) = _; rw [h]; rfl
      rw [← e]
      exact ih (g + 1) n (by omega) (by omega)
    · rintro _ rfl _ rfl
      have e : osetN K N (g + 1) = osetN K N g ||| 0 := by show _ ||| (if opn K N g 0 then 2 ^ g else 0) = _; rw [h]; rfl
      rw [nI_1, l0, cn_or, ← e]
      exact ih (g + 1) n (by omega) (by omega)
theorem u_openSet {A B K N : Nat → Nat} {many kd cn : Nat → Int32} {G : Nat} {post : Int32 → Prop} (hO : GO G A B K) (hm : many 0 = nI G) (hK : Rp G kd K) (hN : Rp G cn N) (hS : Sm G N) (hp : post (nI (osetN K N G))) : PX8_openSet many kd cn post :=
  ⟨G + 1, u_openSet4 hO hm hK hN hS hp G 0 (G + 1) (by omega) (by omega)⟩
