/-! ===== the class's walk: goals, the gates made ready, the start ===== -/
theorem t_goal33 {c P s : Nat} {al : Bool} {gk : Int32} {post : Int32 → Prop} (hs : s < 2 ^ 14) (hP : P ≤ 3) (hc : c < 5) (hgk : gk = bI (!al)) (hp : post (bI (glC al c P s))) :
    ∀ (d p n : Nat), p + d = P → d < n → PX6_isGoal_33 post (nI s) gk (nI c) (nI P) n (nI (cnC (ctS s) c p)) (nI p) := by
  have h75 : PX6_isGoal_75 post gk (nI P) (nI (cnC (ctS s) c P)) := by
    have hl := cnC_le (ctS s) c P
    subst hgk
    unfold glC at hp
    cases al
    · rw [if_neg (by decide)] at hp
      refine pk_eq 1 1 (fun _ => pk_le _ 0 (fun h => ?_) (fun h => ?_)) (fun h => absurd rfl h)
      · rw [decide_eq_false (by omega)] at hp; exact hp
      · rw [decide_eq_true h] at hp; exact hp
    · rw [if_pos rfl] at hp
      refine pk_eq 0 1 (fun h => absurd h (by omega)) (fun _ => pk_eq _ P (fun h => ?_) (fun h => ?_))
      · rw [decide_eq_true h] at hp; exact hp
      · rw [decide_eq_false h] at hp; exact hp
  intro d
  induction d with
  | zero =>
    intro p n hd hn
    obtain ⟨n, rfl⟩ : ∃ k, n = k + 1 := ⟨n - 1, by omega⟩
    obtain rfl : p = P := by omega
    exact pk_le 3 p (fun _ => h75) (fun _ => pk_le p p (fun _ => h75) (fun h => absurd h (by omega)))
  | succ d ih =>
    intro p n hd hn
    obtain ⟨n, rfl⟩ : ∃ k, n = k + 1 := ⟨n - 1, by omega⟩
    have nx := ih (p + 1) n (by omega) (by omega)
    rw [cnC] at nx
    have h8 := ctS_lt s p
    refine pk_le 3 p (fun h => absurd h (by omega)) (fun _ => pk_le P p (fun h => absurd h (by omega)) (fun _ => t_courtIn hs (by omega) (pk_eq (ctS s p) c (fun h => ?_) (fun h => ?_))))
    · rintro _ rfl _ rfl
      rw [if_pos h] at nx
      rw [nI_1, nI_1]; exact nx
    · rintro _ rfl _ rfl
      rw [if_neg h] at nx
      rw [l0, nI_add, nI_1]; exact nx
theorem t_goalC {c P s : Nat} {al : Bool} {oA gk : Int32} {post : Int32 → Prop} (hs : s < 2 ^ 14) (hP : P ≤ 3) (hc : c < 5) (hgk : gk = bI (!al)) (hp : post (bI (glC al c P s))) : PX6_isGoal (nI s) oA gk (nI c) (nI P) post := by
  have h2 : ¬ gk = 2 := by subst hgk; cases al <;> decide
  exact ⟨fun h => absurd h h2, fun _ => ⟨P + 1, t_goal33 hs hP hc hgk hp P 0 (P + 1) (by omega) (by omega)⟩⟩
/-- the goal of a set -/
def glS (K N : Nat → Nat) (G S s : Nat) : Bool := decide (bitB (fun g => opn K N g 0 && !s.testBit g) G = S)
theorem t_goalS {K N : Nat → Nat} {G S P s : Nat} {post : Int32 → Prop} (hG : G ≤ 5) (hS : S < 2 ^ G) (hp : post (bI (glS K N G S s))) : PX6_isGoal (nI s) (nI (osetN K N G)) 2 (nI S) (nI P) post := by
  have hle : 2 ^ G ≤ 2 ^ 5 := Nat.pow_le_pow_right (by omega) hG
  have hlt := bitB_lt (fun g => opn K N g 0 && !s.testBit g) G
  refine ⟨fun _ => ?_, fun h => absurd rfl h⟩
  rw [osetN_B, and_not hG]
  unfold glS at hp
  refine pk_eq _ S (fun h => ?_) (fun h => ?_)
  · rw [decide_eq_true h] at hp; exact hp
  · rw [decide_eq_false h] at hp; exact hp
theorem t_prep88 {A B K : Nat → Nat} {kd lv : Nat → Int32} {oA : Int32} {G : Nat} {post : Int32 → (Nat → Int32) → (Nat → Int32) → Prop} (hO : GO G A B K) (hK : Rp G kd K) (hp : ∀ sh, (∀ r, r < 5 → sh r = nI (shB K G r)) → post oA lv sh) :
    ∀ (d g n : Nat) (sh : Nat → Int32), g + d = G → d < n → (∀ r, r < 5 → sh r = nI (bitB (fun j => decide (rul K j = r)) g)) → PX6_prepareGates_88 post (nI G) kd oA lv n (nI g) sh := by
  have hG5 := hO.1
  intro d
  induction d with
  | zero =>
    intro g n sh hd hn hs
    obtain ⟨n, rfl⟩ : ∃ k, n = k + 1 := ⟨n - 1, by omega⟩
    obtain rfl : g = G := by omega
    exact pk_le g g (fun _ => hp sh hs) (fun h => absurd h (by omega))
  | succ d ih =>
    intro g n sh hd hn hs
    obtain ⟨n, rfl⟩ : ∃ k, n = k + 1 := ⟨n - 1, by omega⟩
    have hr := rul_le K g
    refine pk_le G g (fun h => absurd h (by omega)) (fun _ => t_ruler hO hK (by omega) (pk_lt (rul K g) 0 (fun h => absurd h (by omega)) (fun _ => pk_le 5 (rul K g) (fun h => absurd h (by omega)) (fun _ => ⟨vp_in_nI (by omega) (by omega), ?_⟩))))
    rintro _ rfl
    refine ⟨vp_in_nI (by omega) (by omega), ?_⟩
    rintro _ rfl _ rfl
    rw [nI_clamp (by omega), hs _ (by omega), cn_shl' (by omega), cn_or, nI_1]
    refine ih (g + 1) n _ (by omega) (by omega) (fun r hr5 => ?_)
    rw [bitB]
    by_cases e : r = rul K g
    · subst e; rw [pk_us, decide_eq_true rfl, if_pos rfl]
    · rw [pk_un e, hs r hr5, decide_eq_false (fun q => e q.symm), if_neg (by decide), Nat.or_zero]
theorem t_prep27 {A B K N : Nat → Nat} {cA cB kd gn : Nat → Int32} {G c : Nat} {post : Int32 → (Nat → Int32) → (Nat → Int32) → Prop} {KK : Int32 → (Nat → Int32) → Prop} (hO : GO G A B K) (hA : Rp G cA A) (hB : Rp G cB B) (hK : Rp G kd K) (hN : Rp G gn N) (hS : Sm G N) (hc : c < 5)
    (hk : ∀ lv, (∀ j, j < c + 1 → lv j = nI (bitB (fun g => opf A B K N j g) G)) → KK (nI (c + 1)) lv) :
    ∀ (d g n : Nat) (lv : Nat → Int32), g + d = G → d < n → (∀ j, j < c → lv j = nI (bitB (fun g => opf A B K N j g) G)) → lv c = nI (bitB (fun g => opf A B K N c g) g) → PX6_prepareGates_27 post (nI G) cA cB kd gn KK (nI c) n (nI g) lv := by
  have hG5 := hO.1
  intro d
  induction d with
  | zero =>
    intro g n lv hd hn h1 h2
    obtain ⟨n, rfl⟩ : ∃ k, n = k + 1 := ⟨n - 1, by omega⟩
    obtain rfl : g = G := by omega
    refine pk_le g g (fun _ => ?_) (fun h => absurd h (by omega))
    rintro _ rfl
    rw [nI_1]
    refine hk lv (fun j hj => ?_)
    by_cases e : j = c
    · subst e; exact h2
    · exact h1 j (by omega)
  | succ d ih =>
    intro g n lv hd hn h1 h2
    obtain ⟨n, rfl⟩ : ∃ k, n = k + 1 := ⟨n - 1, by omega⟩
    have go : ∀ x : Nat, x = bitB (fun g => opf A B K N c g) (g + 1) → PX6_prepareGates_27 post (nI G) cA cB kd gn KK (nI c) n (nI (g + 1)) (upd lv c (nI x)) := by
      rintro _ rfl
      refine ih (g + 1) n _ (by omega) (by omega) (fun j hj => ?_) pk_us
      rw [pk_un (by omega)]; exact h1 j hj
    rw [bitB] at go
    refine pk_le G g (fun h => absurd h (by omega)) (fun _ => ⟨vp_in_nI (by omega) (by omega), t_isOpenFrom hO hA hB hK hN hS hc (by omega) (and_b (fun q => ?_) (fun q => ?_))⟩)
    · rintro _ rfl
      refine ⟨vp_in_nI (by omega) (by omega), ?_⟩
      rintro _ rfl _ rfl
      rw [nI_clamp (by omega), h2, cn_shl' (by omega), cn_or, nI_1]
      exact go _ (by rw [q, if_pos rfl])
    · rintro _ rfl
      refine ⟨vp_in_nI (by omega) (by omega), ?_⟩
      rintro _ rfl _ rfl
      rw [nI_clamp (by omega), h2, l0, cn_or, nI_1]
      exact go _ (by rw [q, if_neg (by decide)])
theorem t_prep13 {A B K N : Nat → Nat} {cA cB kd gn sh0 : Nat → Int32} {G : Nat} {oA : Int32} {post : Int32 → (Nat → Int32) → (Nat → Int32) → Prop} (hO : GO G A B K) (hA : Rp G cA A) (hB : Rp G cB B) (hK : Rp G kd K) (hN : Rp G gn N) (hS : Sm G N)
    (hp : ∀ lv sh, (∀ c, c < 5 → lv c = nI (bitB (fun g => opf A B K N c g) G)) → (∀ r, r < 5 → sh r = nI (shB K G r)) → post oA lv sh) :
    ∀ (d c n : Nat) (lv : Nat → Int32), c + d = 5 → d < n → (∀ j, j < c → lv j = nI (bitB (fun g => opf A B K N j g) G)) → PX6_prepareGates_13 post (nI G) cA cB kd gn oA sh0 n (nI c) lv := by
  have hG5 := hO.1
  intro d
  induction d with
  | zero =>
    intro c n lv hd hn h1
    obtain ⟨n, rfl⟩ : ∃ k, n = k + 1 := ⟨n - 1, by omega⟩
    obtain rfl : c = 5 := by omega
    refine pk_le 5 5 (fun _ => t_fill (by omega) ⟨G + 1, t_prep88 hO hK (fun sh h2 => hp lv sh h1 h2) G 0 (G + 1) _ (by omega) (by omega) (fun r hr => ?_)⟩) (fun h => absurd h (by omega))
    unfold fil1
    rw [if_pos hr]; rfl
  | succ d ih =>
    intro c n lv hd hn h1
    obtain ⟨n, rfl⟩ : ∃ k, n = k + 1 := ⟨n - 1, by omega⟩
    refine pk_le 5 c (fun h => absurd h (by omega)) (fun _ => ⟨vp_in_nI (by omega) (by omega), ?_⟩)
    rintro _ rfl
    rw [nI_clamp (by omega)]
    refine ⟨G + 1, t_prep27 hO hA hB hK hN hS (by omega) (fun lv2 h2 => ih (c + 1) n lv2 (by omega) (by omega) h2) G 0 (G + 1) _ (by omega) (by omega) (fun j hj => ?_) ?_⟩
    · rw [pk_un (by omega)]; exact h1 j hj
    · rw [pk_us]; rfl
theorem t_prep {A B K N : Nat → Nat} {cA cB kd gn lv0 sh0 : Nat → Int32} {G : Nat} {oA : Int32} {post : Int32 → (Nat → Int32) → (Nat → Int32) → Prop} (hO : GO G A B K) (hA : Rp G cA A) (hB : Rp G cB B) (hK : Rp G kd K) (hN : Rp G gn N) (hS : Sm G N)
    (hp : ∀ lv sh, (∀ c, c < 5 → lv c = nI (bitB (fun g => opf A B K N c g) G)) → (∀ r, r < 5 → sh r = nI (shB K G r)) → post (nI (osetN K N G)) lv sh) : PX6_prepareGates oA (nI G) cA cB kd gn lv0 sh0 post :=
  t_openFromA hO hK hN hS ⟨6, t_prep13 hO hA hB hK hN hS hp 5 0 6 _ (by omega) (by omega) (fun j hj => absurd hj (by omega))⟩
theorem t_start4 {C : Nat → Nat} {ct : Nat → Int32} {P : Nat} {post : Int32 → Prop} (hP : P ≤ 3) (hC : Rp 3 ct C) (hC5 : ∀ p, p < 3 → C p < 5) (hp : post (nI (st0 C P))) :
    ∀ (d p n : Nat), p + d = P → d < n → PX6_startState_4 post (nI P) ct n (nI (st0 C p)) (nI p) := by
  intro d
  induction d with
  | zero =>
    intro p n hd hn
    obtain ⟨n, rfl⟩ : ∃ k, n = k + 1 := ⟨n - 1, by omega⟩
    obtain rfl : p = P := by omega
    exact pk_le 3 p (fun _ => hp) (fun _ => pk_le p p (fun _ => hp) (fun h => absurd h (by omega)))
  | succ d ih =>
    intro p n hd hn
    obtain ⟨n, rfl⟩ : ∃ k, n = k + 1 := ⟨n - 1, by omega⟩
    have h5 := hC5 p (by omega)
    have hl := st0_lt hC5 p (by omega)
    refine pk_le 3 p (fun h => absurd h (by omega)) (fun _ => pk_le P p (fun h => absurd h (by omega)) (fun _ => ⟨vp_in_nI (by omega) (by omega), ?_⟩))
    rintro _ rfl _ rfl
    rw [nI_clamp (by omega), hC p (by omega), shl_ct (by omega) (by omega), cn_or, nI_1]
    have nx := ih (p + 1) n (by omega) (by omega)
    have e := Nat.two_pow_add_eq_or_of_lt hl (C p)
    rw [Nat.or_comm, Nat.mul_comm, ← e, Nat.mul_comm, Nat.add_comm]
    exact nx
theorem t_fiL {nw : Nat} {post : (Nat → Int64) → Prop} (hw : nw < 2 ^ 31) (hp : ∀ f, (∀ i, i < nw → f i = 0) → post f) :
    ∀ (d i n : Nat) (f : Nat → Int64), i + d = nw → d < n → (∀ j, j < i → f j = 0) → PJ7_fill_d0a16_6 nw post 0 (nI nw) n (nI i) f := by
  intro d
  induction d with
  | zero =>
    intro i n f hd hn hf
    obtain ⟨n, rfl⟩ : ∃ k, n = k + 1 := ⟨n - 1, by omega⟩
    obtain rfl : i = nw := by omega
    exact pk_le i i (fun _ => hp f hf) (fun h => absurd h (by omega))
  | succ d ih =>
    intro i n f hd hn hf
    obtain ⟨n, rfl⟩ : ∃ k, n = k + 1 := ⟨n - 1, by omega⟩
    refine pk_le nw i (fun h => absurd h (by omega)) (fun _ => ⟨vp_in_nI (by omega) (by omega), ?_⟩)
    rintro _ rfl _ rfl
    rw [nI_clamp (by omega), nI_1]
    refine ih (i + 1) n _ (by omega) (by omega) (fun j hj => ?_)
    by_cases e : j = i
    · subst e; exact pk_uLs
    · rw [pk_uLn e]; exact hf j (by omega)
theorem t_fillL {nw : Nat} {f : Nat → Int64} {post : (Nat → Int64) → Prop} (hw : nw < 2 ^ 31) (hp : ∀ f, (∀ i, i < nw → f i = 0) → post f) : PJ7_fill_d0a16 nw 0 f post := by
  rintro _ rfl
  exact ⟨nw + 1, t_fiL hw hp nw 0 (nw + 1) f (by omega) (by omega) (fun j hj => absurd hj (by omega))⟩
theorem t_search {A B K N C : Nat → Nat} {G P : Nat} {gl : Nat → Bool} {x2 x3 j1 j2 j3 j4 j5 j6 j7 j8 j9 F : Int32} {k1 k2 k3 k4 k5 k6 k7 k8 : Nat → Int32} {k9 : Nat → Int64} {cA cB kd gn ct : Nat → Int32} {post : Int32 → Int32 → Int32 → Int32 → Int32 → Int32 → Int32 → Int32 → Int32 → (Nat → Int32) → (Nat → Int32) → (Nat → Int32) → (Nat → Int32) → (Nat → Int32) → (Nat → Int32) → (Nat → Int32) → (Nat → Int32) → (Nat → Int64) → Prop}
    (hO : GO G A B K) (h0 : 0 < P) (hP : P ≤ 3) (hA : Rp G cA A) (hB : Rp G cB B) (hK : Rp G kd K) (hN : Rp G gn N) (hS : Sm G N) (hC : Rp 3 ct C) (hC5 : ∀ p, p < 3 → C p < 5)
    (hgl : ∀ s, VdS K N G P s → ∀ post, post (bI (gl s)) → PX6_isGoal (nI s) (nI (osetN K N G)) x2 x3 (nI P) post)
    (hp1 : ∀ (i : Nat) (x : Nat × Nat × Nat), (Qfl A B K N C G P)[i]? = some x → gl x.1 = true → (∀ (j : Nat) (y : Nat × Nat × Nat), j < i → (Qfl A B K N C G P)[j]? = some y → gl y.1 = false) → ∀ a3 a4 a5 a6 a7 a8 a9 b1 b2 b3 b4 b5 b6 b7 b8 b9, post (nI x.2.1) (if i = 0 then -4 else nI x.2.2) a3 a4 a5 a6 a7 a8 a9 b1 b2 b3 b4 b5 b6 b7 b8 b9)
    (hp0 : (∀ (j : Nat) (y : Nat × Nat × Nat), (Qfl A B K N C G P)[j]? = some y → gl y.1 = false) → ∀ a3 a4 a5 a6 a7 a8 a9 b1 b2 b3 b4 b5 b6 b7 b8 b9, post (-4) (-4) a3 a4 a5 a6 a7 a8 a9 b1 b2 b3 b4 b5 b6 b7 b8 b9) :
    PX6_search x2 x3 j1 j2 j3 j4 j5 j6 j7 j8 j9 k1 k2 k3 k4 k5 k6 k7 k8 k9 (nI G) (nI P) F cA cB kd gn ct post := by
  have hG5 := hO.1
  have hA' := hA.cpy (m := 5) (g := k1) hG5
  have hB' := hB.cpy (m := 5) (g := k2) hG5
  refine t_copyFrom (t_prep hO hA' hB' (hK.cpy hG5) (hN.cpy hG5) hS (fun lv sh hLv hSh => t_fillL (by omega) (fun re0 hre => ⟨P + 1, t_start4 hP (hC.cpy (Nat.le_refl 3)) hC5 ?_ P 0 (P + 1) (by omega) (by omega)⟩)))
  have hV : VdS K N G P (st0 C P) := st0_vd hO hC5 h0 hP
  have hok : OKQ K N G P [(st0 C P, 0, 0)] := st0_ok hO hC5 h0 hP
  have hps : psh [] (st0 C P, 0, 0) = [(st0 C P, 0, 0)] := rfl
  refine t_enq (Q := []) (x := (st0 C P, 0, 0)) ⟨fun i x hx => by simp at hx, fun s hs => ?_⟩ hV.1 (by show 0 < 100; omega) (by rw [hps]; exact hok.len) (fun qu re hCQ => ?_)
  · rw [hre _ (by omega)]
    exact BitVec.getLsbD_zero
  · rw [hps] at hCQ ⊢
    refine ⟨4002, t_sp4 (Qf := Qfl A B K N C G P) (gl := gl) hO hA' hB' hSh hLv hP hgl (fun i x hx hg hf n qu re => hp1 i x hx hg hf _ _ _ _ _ _ _ _ _ _ _ _ _ _ _ _) (fun hf n qu re => hp0 hf _ _ _ _ _ _ _ _ _ _ _ _ _ _ _ _) 4001 0 0 4002 [(st0 C P, 0, 0)] qu re (by omega) (by omega) (by omega) ⟨hok, rfl, fun j y hj => absurd hj (by omega), fun i y _ hi hy => ?_, fun i y hi hy => ?_, Nat.le_refl _, fun _ => rfl, Nat.le_refl _⟩ hCQ⟩
    · have e : i = 0 := by
        have h1 : [(st0 C P, 0, 0)].length = 1 := rfl
        omega
      subst e
      cases hy
      rfl
    · have := (List.getElem?_eq_some_iff.mp hy).1
      omega
