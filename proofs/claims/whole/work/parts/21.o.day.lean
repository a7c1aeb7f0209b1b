/-! ===== days by draws ===== -/
def drw (z k : Nat) : Nat := (7919 * z + 6151 * k + 1) * (7919 * z + 6151 * k + 1) % 65521
theorem drw_lt (z k : Nat) : drw z k < 65521 := Nat.mod_lt _ (by omega)
theorem draw_x {z k : Nat} (hz : z < 10000) (hk : k < 100) : 7919 * (nI z).toInt64 + 6151 * (nI k).toInt64 + 1 = lN (7919 * z + 6151 * k + 1) := by
  rw [nI_l (by omega), nI_l (by omega), show (7919 : Int64) = lN 7919 from rfl, show (6151 : Int64) = lN 6151 from rfl, lN_mul, lN_mul, lN_add, lN_1]
theorem draw_v {z k : Nat} (hz : z < 10000) (hk : k < 100) : (lN (7919 * z + 6151 * k + 1) * lN (7919 * z + 6151 * k + 1) - lN (7919 * z + 6151 * k + 1) * lN (7919 * z + 6151 * k + 1) / 65521 * 65521).toInt32 = nI (drw z k) := by
  have hb : (7919 * z + 6151 * k + 1) * (7919 * z + 6151 * k + 1) ≤ 100000000 * 100000000 := Nat.mul_le_mul (by omega) (by omega)
  rw [lN_mul, show (65521 : Int64) = lN 65521 from rfl, pk_lRem (by omega) (by omega) (by omega), lN_i]
  rfl
theorem nz {P : Nat} (h0 : 0 < P) (h : P < 2 ^ 31) : ¬ nI P = 0 := fun e => by
  have := (nI_eq h (by omega)).mp (e.trans l0)
  omega
def setN (C : Nat → Nat) (p c : Nat) : Nat → Nat := fun j => if j = p then c else C j
/-- the counts, the courts and the passes behind k draws -/
def dyS (A B K N C : Nat → Nat) (z P G : Nat) : Nat → (Nat → Nat) × (Nat → Nat) × Nat
  | 0 => (N, C, 0)
  | k + 1 => if opf A B K (dyS A B K N C z P G k).1 ((dyS A B K N C z P G k).2.1 (drw z k % P)) (drw z k / 8 % G) then (plus1 (dyS A B K N C z P G k).1 (drw z k / 8 % G), setN (dyS A B K N C z P G k).2.1 (drw z k % P) (byd A B ((dyS A B K N C z P G k).2.1 (drw z k % P)) (drw z k / 8 % G)), (dyS A B K N C z P G k).2.2 + 1) else dyS A B K N C z P G k
theorem dyS_succ (A B K N C : Nat → Nat) (z P G k : Nat) : dyS A B K N C z P G (k + 1) = if opf A B K (dyS A B K N C z P G k).1 ((dyS A B K N C z P G k).2.1 (drw z k % P)) (drw z k / 8 % G) then (plus1 (dyS A B K N C z P G k).1 (drw z k / 8 % G), setN (dyS A B K N C z P G k).2.1 (drw z k % P) (byd A B ((dyS A B K N C z P G k).2.1 (drw z k % P)) (drw z k / 8 % G)), (dyS A B K N C z P G k).2.2 + 1) else dyS A B K N C z P G k := rfl
theorem dyS_ok {A B K N C : Nat → Nat} {z P G : Nat} (hO : GO G A B K) (hG : 0 < G) (hC5 : ∀ p, p < 3 → C p < 5) : ∀ k, (∀ g, (dyS A B K N C z P G k).1 g ≤ N g + k) ∧ (∀ p, p < 3 → (dyS A B K N C z P G k).2.1 p < 5) ∧ (dyS A B K N C z P G k).2.2 ≤ k
  | 0 => ⟨fun _ => Nat.le_refl _, hC5, Nat.le_refl _⟩
  | k + 1 => by
    obtain ⟨h1, h2, h3⟩ := dyS_ok (N := N) (z := z) (P := P) hO hG hC5 k
    unfold dyS
    split
    · refine ⟨fun g => ?_, fun p hp => ?_, by show _ + 1 ≤ _; omega⟩
      · have := plus1_le (dyS A B K N C z P G k).1 (drw z k / 8 % G) g
        have := h1 g
        show plus1 _ _ g ≤ _
        omega
      · show (if p = _ then _ else _) < 5
        split
        · exact byd_lt hO (Nat.mod_lt _ hG)
        · exact h2 p hp
    · exact ⟨fun g => by have := h1 g; omega, h2, by omega⟩
theorem t_step {A B K N C : Nat → Nat} {cA cB kd gn ct : Nat → Int32} {z k P G : Nat} {post : Int32 → (Nat → Int32) → (Nat → Int32) → Prop} (hO : GO G A B K) (hG : 0 < G) (hP0 : 0 < P) (hP : P ≤ 3) (hz : z < 10000) (hk : k < 100) (hA : Rp G cA A) (hB : Rp G cB B) (hK : Rp G kd K) (hN : Rp G gn N) (hSm : Sm G N) (hC : Rp 3 ct C) (hC5 : ∀ p, p < 3 → C p < 5)
    (h1 : opf A B K N (C (drw z k % P)) (drw z k / 8 % G) = true → ∀ gn' ct', Rp G gn' (plus1 N (drw z k / 8 % G)) → Rp 3 ct' (setN C (drw z k % P) (byd A B (C (drw z k % P)) (drw z k / 8 % G))) → post 1 gn' ct') (h0 : opf A B K N (C (drw z k % P)) (drw z k / 8 % G) = false → post 0 gn ct) : PX2_stepByDraw (nI z) (nI k) (nI G) (nI P) cA cB kd gn ct post := by
  have hG5 := hO.1
  have hv := drw_lt z k
  have hp := Nat.mod_lt (drw z k) hP0
  have hg := Nat.mod_lt (drw z k / 8) hG
  refine pk_lt P 1 (fun h => absurd h (by omega)) (fun _ => pk_le 1 G (fun _ => ?_) (fun h => absurd h (by omega)))
  rintro _ rfl
  rw [draw_x hz hk]
  rintro _ rfl
  rw [draw_v hz hk]
  refine ⟨nz hP0 (by omega), ?_⟩
  rintro _ rfl
  rw [cn_rem hP0 (by omega) (by omega)]
  refine ⟨nz hG (by omega), ?_⟩
  rintro _ rfl
  rw [l8, pk_div (by omega) (by omega) (by omega), cn_rem hG (by omega) (by omega)]
  refine t_letsIn hO hA hB hK hN hSm hC hC5 hP hp hg (and_b (fun q => ?_) (fun q => h0 q))
  refine t_letThrough hO hA hB hN hC hC5 hP hp hg (opf_beside q) ?_
  exact h1 q _ _ (hN.upd _ _) (hC.upd _ _)
theorem t_day59 {A B K N C : Nat → Nat} {cA cB kd : Nat → Int32} {x3 tf : Int32} {z m P G : Nat} {post : Int32 → Int32 → Int32 → Int32 → (Nat → Int32) → (Nat → Int32) → (Nat → Int32) → (Nat → Int32) → (Nat → Int32) → Prop} (hO : GO G A B K) (hG : 0 < G) (hP0 : 0 < P) (hP : P ≤ 3) (hz : z < 10000) (hm : m < 100) (hA : Rp G cA A) (hB : Rp G cB B) (hK : Rp G kd K) (hS : ∀ g, g < G → N g < 99000) (hC5 : ∀ p, p < 3 → C p < 5)
    (hp : ∀ gn' ct', Rp 3 ct' (dyS A B K N C z P G m).2.1 → (x3 = (-1) → post (nI (dyS A B K N C z P G m).2.2) (nI G) (nI P) tf cA cB kd gn' ct') ∧ (¬ x3 = (-1) → (vp_in x3 3 ∧ post (ct' (x3).toNatClampNeg) (nI G) (nI P) tf cA cB kd gn' ct'))) :
    ∀ (d k n : Nat) (gn ct : Nat → Int32), k + d = m → d < n → Rp G gn (dyS A B K N C z P G k).1 → Rp 3 ct (dyS A B K N C z P G k).2.1 → PX7_day_59 post (nI z) (nI m) x3 (nI G) (nI P) tf cA cB kd n (nI (dyS A B K N C z P G k).2.2) (nI k) gn ct := by
  have hG5 := hO.1
  intro d
  induction d with
  | zero =>
    intro k n gn ct hd hn hN hC
    obtain ⟨n, rfl⟩ : ∃ k, n = k + 1 := ⟨n - 1, by omega⟩
    obtain rfl : k = m := by omega
    exact pk_le k k (fun _ => hp gn ct hC) (fun h => absurd h (by omega))
  | succ d ih =>
    intro k n gn ct hd hn hN hC
    obtain ⟨n, rfl⟩ : ∃ k, n = k + 1 := ⟨n - 1, by omega⟩
    obtain ⟨o1, o2, o3⟩ := dyS_ok (A := A) (B := B) (K := K) (N := N) (z := z) (P := P) hO hG hC5 k
    have hSm : Sm G (dyS A B K N C z P G k).1 := fun g hg => by have h1 := hS g hg; have h2 := o1 g; omega
    refine pk_le m k (fun h => absurd h (by omega)) (fun _ => ?_)
    refine t_step hO hG hP0 hP hz (by omega) hA hB hK hN hSm hC o2 (fun q gn' ct' hN' hC' => rb1 ?_) (fun q => rb0 ?_)
    · rintro _ rfl _ rfl
      rw [nI_1, nI_1]
      have nx := ih (k + 1) n gn' ct' (by omega) (by omega)
      rw [dyS_succ, if_pos q] at nx
      exact nx hN' hC'
    · rintro _ rfl _ rfl
      rw [l0, nI_add, nI_1]
      have nx := ih (k + 1) n gn ct (by omega) (by omega)
      rw [dyS_succ, if_neg (by rw [q]; decide)] at nx
      exact nx hN hC
theorem u_day49 {A B K N C : Nat → Nat} {many persons cA cB kd : Nat → Int32} {x3 : Int32} {z m P G : Nat} {post : Int32 → (Nat → Int32) → (Nat → Int32) → Prop} (hO : GO G A B K) (hmn : many 0 = nI G) (hpr : persons 0 = nI P) (hG : 0 < G) (hP0 : 0 < P) (hP : P ≤ 3) (hz : z < 10000) (hm : m < 100) (hA : Rp G cA A) (hB : Rp G cB B) (hK : Rp G kd K) (hS : ∀ g, g < G → N g < 99000) (hC5 : ∀ p, p < 3 → C p < 5)
    (hp : ∀ gn' ct', Rp 3 ct' (dyS A B K N C z P G m).2.1 → (0 ≤ x3 → (vp_in x3 3 ∧ post (ct' (x3).toNatClampNeg) gn' ct')) ∧ (¬ 0 ≤ x3 → post (nI (dyS A B K N C z P G m).2.2) gn' ct')) :
    ∀ (d k n : Nat) (gn ct : Nat → Int32), k + d = m → d < n → Rp G gn (dyS A B K N C z P G k).1 → Rp 3 ct (dyS A B K N C z P G k).2.1 → PX8_day_49 post (nI z) (nI m) x3 many cA cB kd persons n (nI (dyS A B K N C z P G k).2.2) (nI k) gn ct := by
  have hG5 := hO.1
  intro d
  induction d with
  | zero =>
    intro k n gn ct hd hn hN hC
    obtain ⟨n, rfl⟩ : ∃ k, n = k + 1 := ⟨n - 1, by omega⟩
    obtain rfl : k = m := by omega
    exact pk_le k k (fun _ => hp gn ct hC) (fun h => absurd h (by omega))
  | succ d ih =>
    intro k n gn ct hd hn hN hC
    obtain ⟨n, rfl⟩ : ∃ k, n = k + 1 := ⟨n - 1, by omega⟩
    obtain ⟨o1, o2, o3⟩ := dyS_ok (A := A) (B := B) (K := K) (N := N) (z := z) (P := P) hO hG hC5 k
    have hSm : Sm G (dyS A B K N C z P G k).1 := fun g hg => by have h1 := hS g hg; have h2 := o1 g; omega
    have hv := drw_lt z k
    have hpp := Nat.mod_lt (drw z k) hP0
    have hg := Nat.mod_lt (drw z k / 8) hG
    refine pk_le m k (fun h => absurd h (by omega)) (fun _ => ?_)
    rintro _ rfl
    rw [draw_x hz (by omega)]
    rintro _ rfl
    rw [draw_v hz (by omega)]
    rw [z0, hpr, hmn]
    refine ⟨in02, nz hP0 (by omega), ?_⟩
    rintro _ rfl
    rw [cn_rem hP0 (by omega) (by omega)]
    refine ⟨in02, nz hG (by omega), ?_⟩
    rintro _ rfl
    rw [l8, pk_div (by omega) (by omega) (by omega), cn_rem hG (by omega) (by omega)]
    refine ⟨vp_in_nI (by omega) (by omega), ?_⟩
    rw [nI_clamp (by omega), nI_clamp (by omega), hC _ (by omega)]
    refine u_canPass hO hA hB hK hN hSm (o2 _ (by omega)) hg (and_b (fun q => ⟨vp_in_nI (by omega) (by omega), ?_⟩) (fun q => ?_))
    · rintro _ rfl
      refine ⟨vp_in_nI (by omega) (by omega), ?_⟩
      rintro _ rfl
      refine ⟨vp_in_nI (by omega) (by omega), ?_⟩
      rw [hN _ hg, nI_1]
      refine u_beyond hO hA hB (o2 _ (by omega)) hg ⟨vp_in_nI (by omega) (by omega), ?_⟩
      rintro _ rfl _ rfl _ rfl
      rw [nI_1, nI_1]
      have nx := ih (k + 1) n (upd gn (drw z k / 8 % G) (nI ((dyS A B K N C z P G k).1 (drw z k / 8 % G) + 1))) (upd ct (drw z k % P) (nI (byd A B ((dyS A B K N C z P G k).2.1 (drw z k % P)) (drw z k / 8 % G)))) (by omega) (by omega)
      rw [dyS_succ, if_pos q] at nx
      exact nx (hN.upd _ _) (hC.upd _ _)
    · rintro _ rfl
      rw [nI_1]
      have nx := ih (k + 1) n gn ct (by omega) (by omega)
      rw [dyS_succ, if_neg (by rw [q]; decide)] at nx
      exact nx hN hC
/-- a number in a range given by two written ends: the class's two tests; the reference's one -/
theorem range_or (x : Int32) (a b : Nat) (hb : b < 2 ^ 31) : (∃ k, a ≤ k ∧ k ≤ b ∧ x = nI k) ∨ (x.toInt < a ∨ (b : Int) < x.toInt) := by
  by_cases h : x.toInt < a ∨ (b : Int) < x.toInt
  · exact Or.inr h
  · refine Or.inl ⟨x.toInt.toNat, by omega, by omega, Int32.toInt_inj.mp ?_⟩
    rw [nI_toInt (by omega)]
    omega
theorem u_inY {k a b : Nat} {lo hi : Int64} {post : Int32 → Prop} (hl : lo.toInt = a) (hh : hi.toInt = b) (h1 : a ≤ k) (h2 : k ≤ b) (hb : b < 2 ^ 31) (hp : post 1) : PX8_in (nI k).toInt64 lo hi post :=
  t_in hl hh (fun _ _ => hp) (fun q => by rw [w32, nI_toInt (by omega)] at q; omega)
theorem u_inN {x : Int32} {a b : Nat} {lo hi : Int64} {post : Int32 → Prop} (hl : lo.toInt = a) (hh : hi.toInt = b) (h : x.toInt < a ∨ (b : Int) < x.toInt) (hp : post 0) : PX8_in x.toInt64 lo hi post :=
  t_in hl hh (fun p q => by rw [w32] at p q; omega) (fun _ => hp)
theorem lt_iff (x y : Int32) : x < y ↔ x.toInt < y.toInt := Int32.lt_iff_toInt_lt
theorem le_iff (x y : Int32) : x ≤ y ↔ x.toInt ≤ y.toInt := Int32.le_iff_toInt_le
