/-! ===== odds: bits, weights, ways ===== -/
def bitB (f : Nat → Bool) : Nat → Nat
  | 0 => 0
  | m + 1 => bitB f m ||| (if f m then 2 ^ m else 0)
theorem bitB_lt (f : Nat → Bool) : ∀ m, bitB f m < 2 ^ m
  | 0 => Nat.zero_lt_one
  | m + 1 => by
    unfold bitB
    refine Nat.or_lt_two_pow (Nat.lt_of_lt_of_le (bitB_lt f m) (Nat.pow_le_pow_right (by omega) (by omega))) ?_
    split
    · exact Nat.pow_lt_pow_right (by omega) (by omega)
    · exact Nat.two_pow_pos _
theorem bitB_tb (f : Nat → Bool) : ∀ m j, j < m → (bitB f m).testBit j = f j
  | 0, j, h => absurd h (by omega)
  | m + 1, j, h => by
    unfold bitB
    rw [Nat.testBit_or]
    by_cases q : j = m
    · subst q
      rw [Nat.testBit_lt_two_pow (bitB_lt f j), Bool.false_or]
      cases f j
      · exact Nat.zero_testBit j
      · exact Nat.testBit_two_pow_self
    · rw [bitB_tb f m j (by omega)]
      have e : (if f m = true then 2 ^ m else 0).testBit j = false := by
        split
        · exact Nat.testBit_two_pow_of_ne (fun h => q h.symm)
        · exact Nat.zero_testBit j
      rw [e, Bool.or_false]
theorem bitB_at (f : Nat → Bool) (m j : Nat) (h : j < m) : bitB f m / 2 ^ j % 2 = if f j then 1 else 0 := by
  have h1 := bitB_tb f m j h
  rw [Nat.testBit_eq_decide_div_mod_eq] at h1
  have h2 := Nat.mod_lt (bitB f m / 2 ^ j) (show 0 < 2 by omega)
  cases q : f j
  · rw [q] at h1
    have := of_decide_eq_false h1
    simp; omega
  · rw [q] at h1
    have := of_decide_eq_true h1
    simp; omega
theorem bit9 {S j : Nat} (hS : S < 512) (hj : j < 9) : (nI S >>> (nI j &&& 31)) &&& 1 = nI (S / 2 ^ j % 2) := by
  have h : nI S >>> (nI j &&& 31) = nI (S / 2 ^ j) := by
    rcases (show j = 0 ∨ j = 1 ∨ j = 2 ∨ j = 3 ∨ j = 4 ∨ j = 5 ∨ j = 6 ∨ j = 7 ∨ j = 8 by omega) with rfl | rfl | rfl | rfl | rfl | rfl | rfl | rfl | rfl
    · exact pk_shrN (by omega) _ 0 (by decide)
    · exact pk_shrN (by omega) _ 1 (by decide)
    · exact pk_shrN (by omega) _ 2 (by decide)
    · exact pk_shrN (by omega) _ 3 (by decide)
    · exact pk_shrN (by omega) _ 4 (by decide)
    · exact pk_shrN (by omega) _ 5 (by decide)
    · exact pk_shrN (by omega) _ 6 (by decide)
    · exact pk_shrN (by omega) _ 7 (by decide)
    · exact pk_shrN (by omega) _ 8 (by decide)
  rw [h, l1, cn_and, Nat.and_one_is_mod]
/-- whether the gate is open from A behind j more; by the count's rest -/
def opj (K N : Nat → Nat) (g j : Nat) : Bool := opn K (setN N g (N g + j)) g 0
theorem opn_rest {K N M : Nat → Nat} {g s : Nat} (h : ∀ j, N j % 6 = M j % 6) : opn K N g s = opn K M g s := by
  have h1 := h (rul K g)
  have e2 : N (rul K g) % 2 = M (rul K g) % 2 := by omega
  have e3 : N (rul K g) % 3 = M (rul K g) % 3 := by omega
  unfold opn
  rw [e2, e3]
theorem opj_six (K N : Nat → Nat) (g j : Nat) : opj K N g (j + 6) = opj K N g j := by
  unfold opj
  refine opn_rest (fun i => ?_)
  unfold setN
  split <;> omega
theorem opj_rest (K N : Nat → Nat) (g j k : Nat) (h : k % 6 = (N g + j) % 6) : opn K (setN N g k) g 0 = opj K N g j := by
  unfold opj
  refine opn_rest (fun i => ?_)
  unfold setN
  split <;> omega
theorem setN_self (N : Nat → Nat) (g x : Nat) : setN N g x g = x := by unfold setN; rw [if_pos rfl]
theorem setN_set (N : Nat → Nat) (g x y : Nat) : setN (setN N g x) g y = setN N g y := by
  funext j
  unfold setN
  split <;> rfl
theorem setN_id (N : Nat → Nat) (g : Nat) : setN N g (N g) = N := by
  funext j
  unfold setN
  split
  · rename_i q; rw [q]
  · rfl
theorem t_open5 {A B K N : Nat → Nat} {kd : Nat → Int32} {g G : Nat} {post : Int32 → (Nat → Int32) → Prop} (hO : GO G A B K) (hK : Rp G kd K) (hS : ∀ g, g < G → N g < 999000) (hg : g < G) (hp : ∀ gn', post (nI (bitB (opj K N g) 9)) gn') :
    ∀ (d m n : Nat) (gn : Nat → Int32), m + d = 9 → d < n → Rp G gn (setN N g (N g + m)) → PX0_openByMoreGone_5 post (nI g) (nI G) kd n (nI (bitB (opj K N g) m)) (nI m) gn := by
  have hG5 := hO.1
  intro d
  induction d with
  | zero =>
    intro m n gn hd hn hN
    obtain ⟨n, rfl⟩ : ∃ k, n = k + 1 := ⟨n - 1, by omega⟩
    obtain rfl : m = 9 := by omega
    exact pk_lt 8 9 (fun _ => hp gn) (fun h => absurd h (by omega))
  | succ d ih =>
    intro m n gn hd hn hN
    obtain ⟨n, rfl⟩ : ∃ k, n = k + 1 := ⟨n - 1, by omega⟩
    have hSm : Sm G (setN N g (N g + m)) := fun i hi => by
      have h1 := hS i hi
      have h2 := hS g hg
      unfold setN
      split <;> omega
    have nx := fun gn => ih (m + 1) n gn (by omega) (by omega)
    have go : ∀ x : Int32, x = nI (bitB (opj K N g) (m + 1)) → (vp_in (nI g) 5 ∧ (∀ t_7 : Int32, t_7 = ((gn (nI g).toNatClampNeg) + 1) → (vp_in (nI g) 5 ∧ ∀ ao_gone_8 : Nat → Int32, ao_gone_8 = upd gn (nI g).toNatClampNeg t_7 → (∀ x4_9 : Int32, x4_9 = nI m + 1 → PX0_openByMoreGone_5 post (nI g) (nI G) kd n x x4_9 ao_gone_8)))) := by
      rintro x rfl
      refine ⟨vp_in_nI (by omega) (by omega), ?_⟩
      rintro _ rfl
      refine ⟨vp_in_nI (by omega) (by omega), ?_⟩
      rintro _ rfl _ rfl
      rw [nI_clamp (by omega), hN g hg, setN_self, nI_1, nI_1]
      refine nx _ ?_
      have h := hN.upd g (N g + m + 1)
      have e : (fun j => if j = g then N g + m + 1 else setN N g (N g + m) j) = setN N g (N g + (m + 1)) := setN_set N g (N g + m) (N g + m + 1)
      rw [e] at h
      exact h
    refine pk_lt 8 m (fun h => absurd h (by omega)) (fun _ => t_hasGate' hO.1 hg (rb1 (t_isOpen (side := 0) hO hK hN hSm hg (Or.inl rfl) (and_b (fun q => ?_) (fun q => ?_)))))
    · rintro _ rfl
      refine go _ ?_
      rw [cn_shl' (by omega), cn_or]
      show _ = nI (bitB (opj K N g) m ||| (if opj K N g m then 2 ^ m else 0))
      have q' : opj K N g m = true := q
      rw [q', if_pos rfl]
    · rintro _ rfl
      refine go _ ?_
      rw [l0, cn_or]
      show _ = nI (bitB (opj K N g) m ||| (if opj K N g m then 2 ^ m else 0))
      have q' : opj K N g m = false := q
      rw [q', if_neg (by decide)]
theorem t_openMore {A B K N : Nat → Nat} {kd gn : Nat → Int32} {g G : Nat} {post : Int32 → (Nat → Int32) → Prop} (hO : GO G A B K) (hK : Rp G kd K) (hN : Rp G gn N) (hS : ∀ g, g < G → N g < 999000) (hg : g < G) (hp : ∀ gn', post (nI (bitB (opj K N g) 9)) gn') : PX0_openByMoreGone (nI g) (nI G) kd gn post :=
  ⟨10, t_open5 hO hK hS hg hp 9 0 10 gn (by omega) (by omega) (by rw [Nat.add_zero, setN_id]; exact hN)⟩
/-! the class's weights -/
def gnq (o : Nat → Bool) (q j : Nat) : Nat := if o j then q else 0
theorem gnq_le (o : Nat → Bool) {q : Nat} (hq : q ≤ 10) (j : Nat) : gnq o q j ≤ 10 := by
  unfold gnq; split <;> omega
def wgt (o : Nat → Bool) (q : Nat) : Nat → Nat → Nat
  | 0, 0 => 1
  | 0, _ + 1 => 0
  | c + 1, 0 => wgt o q c 0 * (10 - gnq o q 0)
  | c + 1, j + 1 => wgt o q c (j + 1) * (10 - gnq o q (j + 1)) + wgt o q c j * gnq o q j
theorem wgt_s0 (o : Nat → Bool) (q c : Nat) : wgt o q (c + 1) 0 = wgt o q c 0 * (10 - gnq o q 0) := by rw [wgt]
theorem wgt_ss (o : Nat → Bool) (q c j : Nat) : wgt o q (c + 1) (j + 1) = wgt o q c (j + 1) * (10 - gnq o q (j + 1)) + wgt o q c j * gnq o q j := by rw [wgt]
theorem wgt_0 (o : Nat → Bool) (q : Nat) : ∀ c j, c < j → wgt o q c j = 0
  | 0, 0, h => absurd h (by omega)
  | 0, _ + 1, _ => by rw [wgt]
  | c + 1, 0, h => absurd h (by omega)
  | c + 1, j + 1, h => by rw [wgt_ss, wgt_0 o q c (j + 1) (by omega), wgt_0 o q c j (by omega), Nat.zero_mul, Nat.zero_mul]
def wsum (o : Nat → Bool) (q c : Nat) : Nat → Nat
  | 0 => wgt o q c 0
  | m + 1 => wsum o q c m + wgt o q c (m + 1)
theorem wsum_step (o : Nat → Bool) {q : Nat} (hq : q ≤ 10) (c : Nat) : ∀ m, wsum o q (c + 1) m + wgt o q c m * gnq o q m = wsum o q c m * 10
  | 0 => by
    have h := gnq_le o hq 0
    rw [wsum, wsum, wgt_s0, ← Nat.mul_add, show 10 - gnq o q 0 + gnq o q 0 = 10 by omega]
  | m + 1 => by
    have h := gnq_le o hq (m + 1)
    have ih := wsum_step o hq c m
    rw [wsum, wsum, wgt_ss, Nat.add_mul, ← ih]
    have e : wgt o q c (m + 1) * (10 - gnq o q (m + 1)) + wgt o q c (m + 1) * gnq o q (m + 1) = wgt o q c (m + 1) * 10 := by
      rw [← Nat.mul_add, show 10 - gnq o q (m + 1) + gnq o q (m + 1) = 10 by omega]
    omega
theorem wsum_le (o : Nat → Bool) {q : Nat} (hq : q ≤ 10) (m : Nat) : ∀ c, wsum o q c m ≤ 10 ^ c
  | 0 => by
    have h : ∀ m, wsum o q 0 m = 1 := by
      intro m
      induction m with
      | zero => rw [wsum, wgt]
      | succ m ih => rw [wsum, ih, wgt]
    rw [h]; exact Nat.le_refl _
  | c + 1 => by
    have h1 := wsum_step o hq c m
    have h2 := wsum_le o hq m c
    rw [Nat.pow_succ]
    omega
/-- the chance's upper number: the weights of the counts at which the gate is open -/
def abv (o : Nat → Bool) (q c : Nat) : Nat → Nat
  | 0 => 0
  | m + 1 => abv o q c m + (if o m then 1 else 0) * wgt o q c m
theorem abv_le (o : Nat → Bool) (q c : Nat) : ∀ m, abv o q c (m + 1) ≤ wsum o q c m
  | 0 => by
    rw [abv, abv, wsum]; split <;> omega
  | m + 1 => by
    have h := abv_le o q c m
    rw [abv, wsum]; split <;> omega
theorem t_comeStep {o : Nat → Bool} {q c S : Nat} {post : (Nat → Int32) → Prop} (hS : S < 512) (hb : ∀ j, j < 9 → S / 2 ^ j % 2 = if o j then 1 else 0) (hq : q ≤ 10) (j n : Nat) (aw : Nat → Int32) (hj : j < 9)
    (h1 : ∀ k, k ≤ j → aw k = nI (wgt o q c k)) (h2 : j < 8 → aw (j + 1) = nI (wgt o q c (j + 1) * (10 - gnq o q (j + 1)))) (h3 : ∀ k, j + 1 < k → k < 9 → aw k = nI (wgt o q (c + 1) k))
    (hk : ∀ aw2 : Nat → Int32, (∀ k, k < j → aw2 k = nI (wgt o q c k)) → aw2 j = nI (wgt o q c j * (10 - gnq o q j)) → (∀ k, j < k → k < 9 → aw2 k = nI (wgt o q (c + 1) k)) → ∀ x : Int32, x = nI j + (-1) → PX0_comeOne_3 post (nI S) (nI q) n x aw2) : PX0_comeOne_3 post (nI S) (nI q) (n + 1) (nI j) aw := by
  have hg := gnq_le o hq j
  have k60 : ∀ aw1 : Nat → Int32, (∀ k, k ≤ j → aw1 k = nI (wgt o q c k)) → (∀ k, j < k → k < 9 → aw1 k = nI (wgt o q (c + 1) k)) → PX0_comeOne_60 post (PX0_comeOne_3 post (nI S) (nI q) n) (nI j) (nI (gnq o q j)) aw1 := by
    intro aw1 a1 a2
    refine ⟨vp_in_nI (by omega) (by omega), ?_⟩
    rintro _ rfl
    refine ⟨vp_in_nI (by omega) (by omega), ?_⟩
    rintro _ rfl x hx
    rw [nI_clamp (by omega), a1 j (Nat.le_refl j), l10, pk_sub hg, pk_mul]
    refine hk _ (fun k hk => ?_) ?_ (fun k b1 b2 => ?_) x hx
    · rw [pk_un (by omega)]; exact a1 k (by omega)
    · exact pk_us
    · rw [pk_un (by omega)]; exact a2 k b1 b2
  have go : ∀ g : Nat, g = gnq o q j → ((8 ≤ nI j → PX0_comeOne_60 post (PX0_comeOne_3 post (nI S) (nI q) n) (nI j) (nI g) aw) ∧ (¬ 8 ≤ nI j → (vp_in (nI j + 1) 9 ∧ (vp_in (nI j) 9 ∧ (∀ t_8 : Int32, t_8 = ((aw ((nI j + 1)).toNatClampNeg) + ((aw (nI j).toNatClampNeg) * nI g)) → (vp_in (nI j + 1) 9 ∧ ∀ a_weight_9 : Nat → Int32, a_weight_9 = upd aw ((nI j + 1)).toNatClampNeg t_8 → PX0_comeOne_60 post (PX0_comeOne_3 post (nI S) (nI q) n) (nI j) (nI g) a_weight_9)))))) := by
    rintro _ rfl
    refine pk_le 8 j (fun h => k60 aw h1 (fun k a b => by omega)) (fun h => ?_)
    rw [nI_1, nI_clamp (by omega), nI_clamp (by omega)]
    refine ⟨vp_in_nI (by omega) (by omega), vp_in_nI (by omega) (by omega), ?_⟩
    rintro _ rfl
    refine ⟨vp_in_nI (by omega) (by omega), ?_⟩
    rintro _ rfl
    rw [h1 j (Nat.le_refl j), h2 h, pk_mul, nI_add, ← wgt_ss]
    refine k60 _ (fun k hk => ?_) (fun k a b => ?_)
    · rw [pk_un (by omega)]; exact h1 k hk
    · by_cases e : k = j + 1
      · subst e; exact pk_us
      · rw [pk_un e]; exact h3 k (by omega) b
  refine pk_lt j 0 (fun h => absurd h (by omega)) (fun _ => ?_)
  rw [bit9 hS hj, hb j hj]
  cases ho : o j
  · exact rb0 (rb0 (go 0 (by unfold gnq; rw [ho]; rfl)))
  · exact rb1 (rb1 (go q (by unfold gnq; rw [ho]; rfl)))
theorem t_come3 {o : Nat → Bool} {q c S : Nat} {post : (Nat → Int32) → Prop} (hS : S < 512) (hb : ∀ j, j < 9 → S / 2 ^ j % 2 = if o j then 1 else 0) (hq : q ≤ 10) (hp : ∀ aw, Rp 9 aw (wgt o q (c + 1)) → post aw) :
    ∀ (j n : Nat) (aw : Nat → Int32), j < 9 → j + 1 < n → (∀ k, k ≤ j → aw k = nI (wgt o q c k)) → (j < 8 → aw (j + 1) = nI (wgt o q c (j + 1) * (10 - gnq o q (j + 1)))) → (∀ k, j + 1 < k → k < 9 → aw k = nI (wgt o q (c + 1) k)) → PX0_comeOne_3 post (nI S) (nI q) n (nI j) aw := by
  intro j
  induction j with
  | zero =>
    intro n aw hj hn h1 h2 h3
    obtain ⟨n, rfl⟩ : ∃ k, n = k + 2 := ⟨n - 2, by omega⟩
    refine t_comeStep hS hb hq 0 (n + 1) aw hj h1 h2 h3 (fun aw2 a1 a2 a3 x hx => ?_)
    subst hx
    refine ⟨fun _ => hp aw2 (fun i hi => ?_), fun h => absurd (show nI 0 + (-1) < 0 by decide) h⟩
    by_cases e : i = 0
    · subst e; rw [a2, wgt_s0]
    · exact a3 i (by omega) hi
  | succ j ih =>
    intro n aw hj hn h1 h2 h3
    obtain ⟨n, rfl⟩ : ∃ k, n = k + 1 := ⟨n - 1, by omega⟩
    refine t_comeStep hS hb hq (j + 1) n aw hj h1 h2 h3 (fun aw2 a1 a2 a3 x hx => ?_)
    subst hx
    rw [pk_m1]
    exact ih n aw2 (by omega) (by omega) (fun k hk => a1 k (by omega)) (fun _ => a2) (fun k hk h9 => a3 k hk h9)
theorem t_come {o : Nat → Bool} {q c S : Nat} {aw : Nat → Int32} {post : (Nat → Int32) → Prop} (hS : S < 512) (hb : ∀ j, j < 9 → S / 2 ^ j % 2 = if o j then 1 else 0) (hq : q ≤ 10) (ha : Rp 9 aw (wgt o q c)) (hp : ∀ aw, Rp 9 aw (wgt o q (c + 1)) → post aw) : PX0_comeOne (nI S) (nI q) aw post :=
  ⟨10, t_come3 hS hb hq hp 8 10 aw (by omega) (by omega) (fun k hk => ha k (by omega)) (fun h => absurd h (by omega)) (fun k a b => absurd a (by omega))⟩
/-! the common divisor -/
theorem gcd_s (h l : Nat) : Nat.gcd l (h % l) = Nat.gcd h l := by rw [Nat.gcd_comm, ← Nat.gcd_rec, Nat.gcd_comm]
theorem t_cd7 {post : Int32 → Prop} : ∀ (k h l i n : Nat), l < 2 ^ k → h < 2 ^ 31 → i + 2 * k < 100 → 2 * k < n → (l < 2 ^ 31) → post (nI (Nat.gcd h l)) → PX0_commonDivisor_7 post n (nI h) (nI l) (nI i) := by
  intro k
  induction k with
  | zero =>
    intro h l i n hl hh hi hn hl31 hp
    obtain ⟨n, rfl⟩ : ∃ k, n = k + 1 := ⟨n - 1, by omega⟩
    obtain rfl : l = 0 := by omega
    rw [Nat.gcd_zero_right] at hp
    exact pk_le 100 i (fun h => absurd h (by omega)) (fun _ => pk_eq 0 0 (fun _ => hp) (fun h => absurd rfl h))
  | succ k ih =>
    intro h l i n hl hh hi hn hl31 hp
    obtain ⟨n, rfl⟩ : ∃ k, n = k + 2 := ⟨n - 2, by omega⟩
    refine pk_le 100 i (fun h => absurd h (by omega)) (fun _ => pk_eq l 0 (fun e => ?_) (fun hne => ⟨nz (by omega) hl31, ?_⟩))
    · subst e; rw [Nat.gcd_zero_right] at hp; exact hp
    · rintro _ rfl _ rfl
      rw [cn_rem (by omega) hh hl31, nI_1]
      have hr := Nat.mod_lt h (show 0 < l by omega)
      rw [← gcd_s] at hp
      generalize hR : h % l = r at *
      refine pk_le 100 (i + 1) (fun h => absurd h (by omega)) (fun _ => pk_eq r 0 (fun e => ?_) (fun hne2 => ⟨nz (by omega) (by omega), ?_⟩))
      · subst e; rw [Nat.gcd_zero_right] at hp; exact hp
      · rintro _ rfl _ rfl
        rw [cn_rem (by omega) (by omega) (by omega), nI_1]
        have hr2 := Nat.mod_lt l (show 0 < r by omega)
        have h3 : l % r ≤ l - r := by
          rw [Nat.mod_eq_sub_mod (show r ≤ l by omega)]
          exact Nat.mod_le _ _
        rw [← gcd_s] at hp
        rw [Nat.pow_succ] at hl
        exact ih r (l % r) (i + 1 + 1) n (by omega) (by omega) (by omega) (by omega) (by omega) hp
theorem t_reduce {a b : Nat} {post : Int32 → Int32 → Prop} (ha : a ≤ b) (h0 : 0 < b) (hb : b ≤ 10 ^ 8) (hp : post (nI (a / Nat.gcd a b)) (nI (b / Nat.gcd a b))) : PX0_reduce (nI a) (nI b) post := by
  have hg := Nat.gcd_pos_of_pos_right a h0
  have hl : Nat.gcd a b ≤ b := Nat.gcd_le_right a h0
  refine ⟨60, t_cd7 27 b a 0 60 (by omega) (by omega) (by omega) (by omega) (by omega) ?_⟩
  rw [Nat.gcd_comm b a]
  generalize Nat.gcd a b = d at *
  refine pk_le d 0 (fun h => absurd h (by omega)) (fun _ => ⟨nz hg (by omega), ?_⟩)
  rintro _ rfl
  refine ⟨nz hg (by omega), ?_⟩
  rintro _ rfl
  rw [pk_div (by omega) hg (by omega), pk_div (by omega) hg (by omega)]
  exact hp
theorem t_reckon77 {o : Nat → Bool} {q c S : Nat} {aw gn : Nat → Int32} {post : Int32 → Int32 → (Nat → Int32) → (Nat → Int32) → Prop} (hS : S < 512) (hb : ∀ j, j < 9 → S / 2 ^ j % 2 = if o j then 1 else 0) (hq : q ≤ 10) (hc : c ≤ 8) (ha : Rp 9 aw (wgt o q c)) (hp : post (nI (abv o q c 9 / Nat.gcd (abv o q c 9) (10 ^ c))) (nI (10 ^ c / Nat.gcd (abv o q c 9) (10 ^ c))) aw gn) :
    ∀ (d m n : Nat), m + d = 9 → d < n → PX0_reckon_77 post (nI S) (nI (10 ^ c)) aw gn n (nI m) (nI (abv o q c m)) := by
  intro d
  induction d with
  | zero =>
    intro m n hd hn
    obtain ⟨n, rfl⟩ : ∃ k, n = k + 1 := ⟨n - 1, by omega⟩
    obtain rfl : m = 9 := by omega
    have h1 : abv o q c 9 ≤ wsum o q c 8 := abv_le o q c 8
    have h2 := wsum_le o hq 8 c
    have h3 : 10 ^ c ≤ 10 ^ 8 := Nat.pow_le_pow_right (by omega) hc
    have h4 : 0 < 10 ^ c := Nat.pow_pos (by omega)
    exact pk_lt 8 9 (fun _ => t_reduce (by omega) h4 h3 hp) (fun h => absurd h (by omega))
  | succ d ih =>
    intro m n hd hn
    obtain ⟨n, rfl⟩ : ∃ k, n = k + 1 := ⟨n - 1, by omega⟩
    refine pk_lt 8 m (fun h => absurd h (by omega)) (fun _ => ⟨vp_in_nI (by omega) (by omega), ?_⟩)
    rintro _ rfl _ rfl
    rw [nI_clamp (by omega), ha m (by omega), bit9 hS (by omega), hb m (by omega), pk_mul, nI_add, nI_1]
    exact ih (m + 1) n (by omega) (by omega)
theorem t_reckon36 {o : Nat → Bool} {q N S : Nat} {gn : Nat → Int32} {post : Int32 → Int32 → (Nat → Int32) → (Nat → Int32) → Prop} (hS : S < 512) (hb : ∀ j, j < 9 → S / 2 ^ j % 2 = if o j then 1 else 0) (hq : q ≤ 10) (hN : N ≤ 8) (hp : ∀ aw, post (nI (abv o q N 9 / Nat.gcd (abv o q N 9) (10 ^ N))) (nI (10 ^ N / Nat.gcd (abv o q N 9) (10 ^ N))) aw gn) :
    ∀ (d c n : Nat) (aw : Nat → Int32), c + d = N → d < n → Rp 9 aw (wgt o q c) → PX0_reckon_36 post (nI N) (nI q) (nI S) 0 gn n (nI c) (nI (10 ^ c)) aw := by
  intro d
  induction d with
  | zero =>
    intro c n aw hd hn ha
    obtain ⟨n, rfl⟩ : ∃ k, n = k + 1 := ⟨n - 1, by omega⟩
    obtain rfl : c = N := by omega
    exact pk_le c c (fun _ => ⟨10, t_reckon77 hS hb hq hN ha (hp aw) 9 0 10 (by omega) (by omega)⟩) (fun h => absurd h (by omega))
  | succ d ih =>
    intro c n aw hd hn ha
    obtain ⟨n, rfl⟩ : ∃ k, n = k + 1 := ⟨n - 1, by omega⟩
    refine pk_le N c (fun h => absurd h (by omega)) (fun _ => pk_le 8 c (fun h => absurd h (by omega)) (fun _ => t_come hS hb hq ha (fun aw2 h2 => ?_)))
    rintro _ rfl _ rfl
    rw [l10, pk_mul, nI_1, ← Nat.pow_succ]
    exact ih (c + 1) n aw2 (by omega) (by omega) h2
theorem t_fi {nw : Nat} {x : Int32} {post : (Nat → Int32) → Prop} {f0 : Nat → Int32} (hw : nw < 2 ^ 31) (hp : post (fil1 f0 x nw)) :
    ∀ (d i n : Nat), i + d = nw → d < n → PJ7_fill_53178_5 nw post x (nI nw) n (nI i) (fil1 f0 x i) := by
  intro d
  induction d with
  | zero =>
    intro i n hd hn
    obtain ⟨n, rfl⟩ : ∃ k, n = k + 1 := ⟨n - 1, by omega⟩
    obtain rfl : i = nw := by omega
    exact pk_le i i (fun _ => hp) (fun h => absurd h (by omega))
  | succ d ih =>
    intro i n hd hn
    obtain ⟨n, rfl⟩ : ∃ k, n = k + 1 := ⟨n - 1, by omega⟩
    refine pk_le nw i (fun h => absurd h (by omega)) (fun _ => ⟨vp_in_nI (by omega) (by omega), ?_⟩)
    rintro _ rfl _ rfl
    rw [nI_clamp (by omega), fil1_upd, nI_1]
    exact ih (i + 1) n (by omega) (by omega)
theorem t_fill {nw : Nat} {x : Int32} {post : (Nat → Int32) → Prop} {f0 : Nat → Int32} (hw : nw < 2 ^ 31) (hp : post (fil1 f0 x nw)) : PJ7_fill_53178 nw x f0 post := by
  rintro _ rfl
  refine ⟨nw + 1, ?_⟩
  have h := t_fi (f0 := f0) hw hp nw 0 (nw + 1) (by omega) (by omega)
  rw [fil1_0] at h
  exact h
theorem t_reckon {A B K N : Nat → Nat} {kd gn aw0 : Nat → Int32} {g G q c : Nat} {i1 i2 : Int32} {post : Int32 → Int32 → (Nat → Int32) → (Nat → Int32) → Prop} (hO : GO G A B K) (hK : Rp G kd K) (hN : Rp G gn N) (hS : ∀ g, g < G → N g < 999000) (hg : g < G) (hq : q ≤ 10) (hc : c ≤ 8)
    (hp : ∀ aw gn', post (nI (abv (opj K N g) q c 9 / Nat.gcd (abv (opj K N g) q c 9) (10 ^ c))) (nI (10 ^ c / Nat.gcd (abv (opj K N g) q c 9) (10 ^ c))) aw gn') : PX0_reckon (nI g) (nI c) (nI q) i1 i2 aw0 (nI G) kd gn post := by
  refine t_openMore hO hK hN hS hg (fun gn' => t_fill (by omega) ⟨pk_in 0 9 (by omega), ?_⟩)
  rintro _ rfl
  refine ⟨c + 1, t_reckon36 (o := opj K N g) (bitB_lt _ 9) (fun j hj => bitB_at _ 9 j hj) hq hc (fun aw => hp aw gn') c 0 (c + 1) _ (by omega) (by omega) (fun i hi => ?_)⟩
  by_cases e : i = 0
  · subst e; rw [z0, pk_us, wgt]; rfl
  · rw [z0, pk_un e, wgt_0 _ _ 0 i (by omega)]
    unfold fil1
    rw [if_pos hi]; rfl
/-! the reference's ways, by the count's rest -/
def RpL (n : Nat) (f : Nat → Int64) (F : Nat → Nat) : Prop := ∀ i, i < n → f i = lN (F i)
theorem RpL.addAt {n : Nat} {f : Nat → Int64} {F : Nat → Nat} (h : RpL n f F) (k x : Nat) : RpL n (vp_updL f k (f k + lN x)) (fun j => F j + if j = k then x else 0) := by
  intro i hi
  by_cases e : i = k
  · subst e
    show _ = lN (F i + if i = i then x else 0)
    rw [pk_uLs, h i hi, lN_add, if_pos rfl]
  · show _ = lN (F i + if i = k then x else 0)
    rw [pk_uLn e, if_neg e]
    exact h i hi
def dsw (o : Nat → Bool) (k : Nat) : Nat := if o k then (k + 1) % 6 else k
def nxw (o : Nat → Bool) (q : Nat) (V : Nat → Nat) : Nat → Nat → Nat
  | 0, _ => 0
  | m + 1, i => nxw o q V m i + (if i = m then V m * (10 - q) else 0) + (if i = dsw o m then V m * q else 0)
def wyw (o : Nat → Bool) (q a : Nat) : Nat → Nat → Nat
  | 0, k => if k = a then 1 else 0
  | c + 1, k => nxw o q (wyw o q a c) 6 k
def acw (o : Nat → Bool) (V : Nat → Nat) : Nat → Nat
  | 0 => 0
  | m + 1 => acw o V m + (if o m then V m else 0)
theorem u_w216 {V : Nat → Nat} {K : Int64 → Int32 → (Nat → Int32) → (Nat → Int64) → (Nat → Int64) → Prop} {post : Int32 → (Nat → Int32) → (Nat → Int32) → (Nat → Int64) → (Nat → Int64) → Prop} {x5 : Int64} {x7 : Int32} {cn : Nat → Int32} {nx : Nat → Int64} (hx : RpL 6 nx V) (hp : ∀ aw, RpL 6 aw V → ∀ y5 y7, y5 = x5 * 10 → y7 = x7 + 1 → K y5 y7 cn aw nx) :
    ∀ (d m n : Nat) (aw : Nat → Int64), m + d = 6 → d < n → (∀ i, i < m → aw i = lN (V i)) → PX8_odds_216 post K x5 x7 cn nx n (nI m) aw := by
  intro d
  induction d with
  | zero =>
    intro m n aw hd hn ha
    obtain ⟨n, rfl⟩ : ∃ k, n = k + 1 := ⟨n - 1, by omega⟩
    obtain rfl : m = 6 := by omega
    exact pk_le 6 6 (fun _ y5 h5 y7 h7 => hp aw ha y5 y7 h5 h7) (fun h => absurd h (by omega))
  | succ d ih =>
    intro m n aw hd hn ha
    obtain ⟨n, rfl⟩ : ∃ k, n = k + 1 := ⟨n - 1, by omega⟩
    refine pk_le 6 m (fun h => absurd h (by omega)) (fun _ => ⟨vp_in_nI (by omega) (by omega), ?_⟩)
    rintro _ rfl
    refine ⟨vp_in_nI (by omega) (by omega), ?_⟩
    rintro _ rfl _ rfl
    rw [nI_clamp (by omega), nI_1]
    refine ih (m + 1) n _ (by omega) (by omega) (fun i hi => ?_)
    by_cases e : i = m
    · subst e; rw [pk_uLs]; exact hx i (by omega)
    · rw [pk_uLn e]; exact ha i (by omega)
theorem u_w130 {A B K N V : Nat → Nat} {kd : Nat → Int32} {g G q : Nat} {KK : Int64 → Int32 → (Nat → Int32) → (Nat → Int64) → (Nat → Int64) → Prop} {post : Int32 → (Nat → Int32) → (Nat → Int32) → (Nat → Int64) → (Nat → Int64) → Prop} {x5 : Int64} {x7 : Int32} {aw : Nat → Int64} (hO : GO G A B K) (hK : Rp G kd K) (hS : ∀ g, g < G → N g < 999000) (hg : g < G) (hq : q ≤ 10) (ha : RpL 6 aw V)
    (hp : ∀ cn nx aw2, (∀ j, j < G → j ≠ g → cn j = nI (N j)) → RpL 6 aw2 (nxw (fun k => opn K (setN N g k) g 0) q V 6) → ∀ y5 y7, y5 = x5 * 10 → y7 = x7 + 1 → KK y5 y7 cn aw2 nx) :
    ∀ (d m n : Nat) (cn : Nat → Int32) (nx : Nat → Int64), m + d = 6 → d < n → (∀ j, j < G → j ≠ g → cn j = nI (N j)) → RpL 6 nx (nxw (fun k => opn K (setN N g k) g 0) q V m) → PX8_odds_130 post (nI g) (nI q) kd KK x5 x7 aw n (nI m) cn nx := by
  have hG5 := hO.1
  intro d
  induction d with
  | zero =>
    intro m n cn nx hd hn hc hx
    obtain ⟨n, rfl⟩ : ∃ k, n = k + 1 := ⟨n - 1, by omega⟩
    obtain rfl : m = 6 := by omega
    exact pk_le 6 6 (fun _ => ⟨7, u_w216 hx (fun aw2 h2 => hp cn nx aw2 hc h2) 6 0 7 _ (by omega) (by omega) (fun i hi => absurd hi (by omega))⟩) (fun h => absurd h (by omega))
  | succ d ih =>
    intro m n cn nx hd hn hc hx
    obtain ⟨n, rfl⟩ : ∃ k, n = k + 1 := ⟨n - 1, by omega⟩
    have hN1 : Rp G (upd cn g (nI m)) (setN N g m) := fun i hi => by
      by_cases e : i = g
      · subst e; rw [pk_us, setN_self]
      · rw [pk_un e]
        unfold setN
        rw [if_neg e]
        exact hc i hi e
    have hSm : Sm G (setN N g m) := fun i hi => by
      have h1 := hS i hi
      unfold setN
      split <;> omega
    have hc2 : ∀ j, j < G → j ≠ g → upd cn g (nI m) j = nI (N j) := fun j hj e => by rw [pk_un e]; exact hc j hj e
    refine pk_le 6 m (fun h => absurd h (by omega)) (fun _ => ⟨vp_in_nI (by omega) (by omega), ?_⟩)
    rintro _ rfl
    refine ⟨vp_in_nI (by omega) (by omega), vp_in_nI (by omega) (by omega), ?_⟩
    rintro _ rfl
    refine ⟨vp_in_nI (by omega) (by omega), ?_⟩
    rintro _ rfl
    rw [nI_clamp (show g < 2 ^ 31 by omega), nI_clamp (show m < 2 ^ 31 by omega), ha m (by omega), l10, pk_sub hq, nI_l (by omega), nI_l (by omega), lN_mul, lN_mul]
    have hx1 := hx.addAt m (V m * (10 - q))
    refine u_isOpen (side := 0) hO hK hN1 hSm hg (Or.inl rfl) (and_b (fun t => ?_) (fun t => ?_))
    · have hd1 := Nat.mod_lt (m + 1) (show 0 < 6 by omega)
      rw [nI_1, l6, cn_rem (by omega) (by omega) (by omega), nI_clamp (by omega)]
      refine ⟨vp_in_nI (by omega) (by omega), vp_in_nI (by omega) (by omega), ?_⟩
      rintro _ rfl
      refine ⟨vp_in_nI (by omega) (by omega), ?_⟩
      rintro _ rfl _ rfl
      have hx2 := hx1.addAt ((m + 1) % 6) (V m * q)
      refine ih (m + 1) n _ _ (by omega) (by omega) hc2 ?_
      rw [show nxw (fun k => opn K (setN N g k) g 0) q V (m + 1) = fun j => (nxw (fun k => opn K (setN N g k) g 0) q V m j + if j = m then V m * (10 - q) else 0) + if j = (m + 1) % 6 then V m * q else 0 from funext fun j => by
        rw [nxw]
        have e : dsw (fun k => opn K (setN N g k) g 0) m = (m + 1) % 6 := by
          show (if opn K (setN N g m) g 0 = true then _ else _) = _
          rw [t]; rfl
        rw [e]]
      exact hx2
    · refine ⟨vp_in_nI (by omega) (by omega), vp_in_nI (by omega) (by omega), ?_⟩
      rintro _ rfl
      refine ⟨vp_in_nI (by omega) (by omega), ?_⟩
      rintro _ rfl _ rfl
      rw [nI_1]
      have hx2 := hx1.addAt m (V m * q)
      refine ih (m + 1) n _ _ (by omega) (by omega) hc2 ?_
      rw [show nxw (fun k => opn K (setN N g k) g 0) q V (m + 1) = fun j => (nxw (fun k => opn K (setN N g k) g 0) q V m j + if j = m then V m * (10 - q) else 0) + if j = m then V m * q else 0 from funext fun j => by
        rw [nxw]
        have e : dsw (fun k => opn K (setN N g k) g 0) m = m := by
          show (if opn K (setN N g m) g 0 = true then _ else _) = _
          rw [t]; rfl
        rw [e]]
      exact hx2
theorem u_w106 {A B K N V : Nat → Nat} {kd : Nat → Int32} {g G q : Nat} {KK : Int64 → Int32 → (Nat → Int32) → (Nat → Int64) → (Nat → Int64) → Prop} {post : Int32 → (Nat → Int32) → (Nat → Int32) → (Nat → Int64) → (Nat → Int64) → Prop} {x5 : Int64} {x7 : Int32} {aw : Nat → Int64} {cn : Nat → Int32} (hO : GO G A B K) (hK : Rp G kd K) (hS : ∀ g, g < G → N g < 999000) (hg : g < G) (hq : q ≤ 10) (ha : RpL 6 aw V) (hc : ∀ j, j < G → j ≠ g → cn j = nI (N j))
    (hp : ∀ cn nx aw2, (∀ j, j < G → j ≠ g → cn j = nI (N j)) → RpL 6 aw2 (nxw (fun k => opn K (setN N g k) g 0) q V 6) → ∀ y5 y7, y5 = x5 * 10 → y7 = x7 + 1 → KK y5 y7 cn aw2 nx) :
    ∀ (d m n : Nat) (nx : Nat → Int64), m + d = 6 → d < n → (∀ i, i < m → nx i = lN 0) → PX8_odds_106 post (nI g) (nI q) kd KK x5 x7 cn aw n (nI m) nx := by
  intro d
  induction d with
  | zero =>
    intro m n nx hd hn hx
    obtain ⟨n, rfl⟩ : ∃ k, n = k + 1 := ⟨n - 1, by omega⟩
    obtain rfl : m = 6 := by omega
    exact pk_le 6 6 (fun _ => ⟨7, u_w130 hO hK hS hg hq ha hp 6 0 7 _ _ (by omega) (by omega) hc (fun i hi => hx i hi)⟩) (fun h => absurd h (by omega))
  | succ d ih =>
    intro m n nx hd hn hx
    obtain ⟨n, rfl⟩ : ∃ k, n = k + 1 := ⟨n - 1, by omega⟩
    refine pk_le 6 m (fun h => absurd h (by omega)) (fun _ => ⟨vp_in_nI (by omega) (by omega), ?_⟩)
    rintro _ rfl _ rfl
    rw [nI_clamp (by omega), nI_1]
    refine ih (m + 1) n _ (by omega) (by omega) (fun i hi => ?_)
    by_cases e : i = m
    · subst e; rw [pk_uLs]; rfl
    · rw [pk_uLn e]; exact hx i (by omega)
theorem u_w317 {x4 : Int32} {a b : Nat} {cn sp : Nat → Int32} {aw nx : Nat → Int64} {post : Int32 → (Nat → Int32) → (Nat → Int32) → (Nat → Int64) → (Nat → Int64) → Prop} (ha : a < 2 ^ 62) (h0 : 0 < b) (hb : b < 2 ^ 62) (hp0 : x4 = 0 → post (nI (a / Nat.gcd a b)) cn sp aw nx) (hp1 : ¬ x4 = 0 → post (nI (b / Nat.gcd a b)) cn sp aw nx) :
    ∀ (m x y n : Nat), y ≤ m → y < n → x < 2 ^ 62 → y < 2 ^ 62 → Nat.gcd x y = Nat.gcd a b → PX8_odds_317 post x4 (lN b) (lN a) cn sp aw nx n (lN x) (lN y) := by
  have hg := Nat.gcd_pos_of_pos_right a h0
  have fin : ∀ (x n : Nat), 0 < n → x < 2 ^ 62 → x = Nat.gcd a b → PX8_odds_317 post x4 (lN b) (lN a) cn sp aw nx n (lN x) (lN 0) := by
    rintro x n hn hx rfl
    obtain ⟨n, rfl⟩ : ∃ k, n = k + 1 := ⟨n - 1, by omega⟩
    have ne : ¬ lN (Nat.gcd a b) = 0 := fun e => by
      have := (pk_lEQ (by omega) (show 0 < 2 ^ 63 by omega)).mp e
      omega
    refine ⟨fun _ => ⟨fun e => ⟨ne, ?_⟩, fun e => ⟨ne, ?_⟩⟩, fun h => absurd ((lg_cmp_eq _ _).mpr rfl) h⟩
    · rw [pk_lDiv (by omega) hg (by omega), lN_i]; exact hp0 e
    · rw [pk_lDiv (by omega) hg (by omega), lN_i]; exact hp1 e
  intro m
  induction m with
  | zero =>
    intro x y n hy hn hx hyb he
    obtain rfl : y = 0 := by omega
    rw [Nat.gcd_zero_right] at he
    exact fin x n hn hx he
  | succ m ih =>
    intro x y n hy hn hx hyb he
    by_cases e : y = 0
    · subst e
      rw [Nat.gcd_zero_right] at he
      exact fin x n hn hx he
    · obtain ⟨n, rfl⟩ : ∃ k, n = k + 1 := ⟨n - 1, by omega⟩
      have ne : ¬ lN y = 0 := fun q => by
        have := (pk_lEQ (by omega) (show 0 < 2 ^ 63 by omega)).mp q
        omega
      have hr := Nat.mod_lt x (show 0 < y by omega)
      refine ⟨fun h => absurd ((lg_cmp_eq _ _).mp h) ne, fun _ => ⟨ne, ?_⟩⟩
      rintro _ rfl
      rw [pk_lRem (by omega) (by omega) (by omega)]
      exact ih y (x % y) n (by omega) (by omega) hyb (by omega) (by rw [gcd_s]; exact he)
theorem acw_le {o : Nat → Bool} {V : Nat → Nat} {b : Nat} (h : ∀ k, k < 6 → V k ≤ b) : ∀ m, m ≤ 6 → acw o V m ≤ m * b
  | 0, _ => Nat.zero_le _
  | m + 1, hm => by
    have h1 := acw_le (o := o) h m (by omega)
    have h2 := h m (by omega)
    rw [acw, Nat.add_mul]
    split <;> omega
theorem u_w263 {A B K N V : Nat → Nat} {kd sp : Nat → Int32} {g G b : Nat} {x4 : Int32} {post : Int32 → (Nat → Int32) → (Nat → Int32) → (Nat → Int64) → (Nat → Int64) → Prop} {aw nx : Nat → Int64} (hO : GO G A B K) (hK : Rp G kd K) (hS : ∀ g, g < G → N g < 999000) (hg : g < G) (ha : RpL 6 aw V) (hA : acw (fun k => opn K (setN N g k) g 0) V 6 < 2 ^ 62) (h0 : 0 < b) (hb : b < 2 ^ 62)
    (hp0 : x4 = 0 → ∀ cn, post (nI (acw (fun k => opn K (setN N g k) g 0) V 6 / Nat.gcd (acw (fun k => opn K (setN N g k) g 0) V 6) b)) cn sp aw nx) (hp1 : ¬ x4 = 0 → ∀ cn, post (nI (b / Nat.gcd (acw (fun k => opn K (setN N g k) g 0) V 6) b)) cn sp aw nx) :
    ∀ (d m n : Nat) (cn : Nat → Int32), m + d = 6 → d < n → (∀ j, j < G → j ≠ g → cn j = nI (N j)) → PX8_odds_263 post (nI g) x4 kd (lN b) sp aw nx n (lN (acw (fun k => opn K (setN N g k) g 0) V m)) (nI m) cn := by
  have hG5 := hO.1
  intro d
  induction d with
  | zero =>
    intro m n cn hd hn hc
    obtain ⟨n, rfl⟩ : ∃ k, n = k + 1 := ⟨n - 1, by omega⟩
    obtain rfl : m = 6 := by omega
    exact pk_le 6 6 (fun _ => ⟨b + 1, u_w317 hA h0 hb (fun e => hp0 e cn) (fun e => hp1 e cn) b _ b (b + 1) (Nat.le_refl _) (by omega) hA hb rfl⟩) (fun h => absurd h (by omega))
  | succ d ih =>
    intro m n cn hd hn hc
    obtain ⟨n, rfl⟩ : ∃ k, n = k + 1 := ⟨n - 1, by omega⟩
    have hN1 : Rp G (upd cn g (nI m)) (setN N g m) := fun i hi => by
      by_cases e : i = g
      · subst e; rw [pk_us, setN_self]
      · rw [pk_un e]
        unfold setN
        rw [if_neg e]
        exact hc i hi e
    have hSm : Sm G (setN N g m) := fun i hi => by
      have h1 := hS i hi
      unfold setN
      split <;> omega
    have hc2 : ∀ j, j < G → j ≠ g → upd cn g (nI m) j = nI (N j) := fun j hj e => by rw [pk_un e]; exact hc j hj e
    have nx := ih (m + 1) n (upd cn g (nI m)) (by omega) (by omega) hc2
    rw [acw] at nx
    refine pk_le 6 m (fun h => absurd h (by omega)) (fun _ => ⟨vp_in_nI (by omega) (by omega), ?_⟩)
    rintro _ rfl
    rw [nI_clamp (show g < 2 ^ 31 by omega)]
    refine u_isOpen (side := 0) hO hK hN1 hSm hg (Or.inl rfl) (and_b (fun t => ⟨vp_in_nI (by omega) (by omega), ?_⟩) (fun t => ?_))
    · rintro _ rfl _ rfl
      rw [nI_clamp (by omega), ha m (by omega), lN_add, nI_1]
      rw [if_pos t] at nx
      exact nx
    · rintro _ rfl _ rfl
      rw [if_neg (by rw [t]; decide)] at nx
      rw [nI_1, show (0 : Int64) = lN 0 from rfl, lN_add]
      exact nx
theorem nxw_le {o : Nat → Bool} {q b : Nat} {V : Nat → Nat} (hq : q ≤ 10) (h : ∀ k, k < 6 → V k ≤ b) : ∀ m i, m ≤ 6 → nxw o q V m i ≤ m * (b * 20)
  | 0, _, _ => Nat.zero_le _
  | m + 1, i, hm => by
    have h1 := nxw_le (o := o) hq h m i (by omega)
    have h2 := h m (by omega)
    have h3 : V m * (10 - q) ≤ b * 10 := Nat.mul_le_mul h2 (by omega)
    have h4 : V m * q ≤ b * 10 := Nat.mul_le_mul h2 hq
    rw [nxw, Nat.add_mul]
    split <;> split <;> omega
theorem u_w97 {A B K N : Nat → Nat} {kd sp : Nat → Int32} {g G q a c : Nat} {x4 : Int32} {post : Int32 → (Nat → Int32) → (Nat → Int32) → (Nat → Int64) → (Nat → Int64) → Prop} (hO : GO G A B K) (hK : Rp G kd K) (hS : ∀ g, g < G → N g < 999000) (hg : g < G) (hq : q ≤ 10) (hc8 : c ≤ 8)
    (hA : acw (fun k => opn K (setN N g k) g 0) (wyw (fun k => opn K (setN N g k) g 0) q a c) 6 < 2 ^ 62)
    (hp0 : x4 = 0 → ∀ cn aw nx, post (nI (acw (fun k => opn K (setN N g k) g 0) (wyw (fun k => opn K (setN N g k) g 0) q a c) 6 / Nat.gcd (acw (fun k => opn K (setN N g k) g 0) (wyw (fun k => opn K (setN N g k) g 0) q a c) 6) (10 ^ c))) cn sp aw nx) (hp1 : ¬ x4 = 0 → ∀ cn aw nx, post (nI (10 ^ c / Nat.gcd (acw (fun k => opn K (setN N g k) g 0) (wyw (fun k => opn K (setN N g k) g 0) q a c) 6) (10 ^ c))) cn sp aw nx) :
    ∀ (d m n : Nat) (cn : Nat → Int32) (aw nx : Nat → Int64), m + d = c → d < n → (∀ j, j < G → j ≠ g → cn j = nI (N j)) → RpL 6 aw (wyw (fun k => opn K (setN N g k) g 0) q a m) → PX8_odds_97 post (nI g) (nI c) (nI q) x4 kd sp n (lN (10 ^ m)) (nI m) cn aw nx := by
  intro d
  induction d with
  | zero =>
    intro m n cn aw nx hd hn hc ha
    obtain ⟨n, rfl⟩ : ∃ k, n = k + 1 := ⟨n - 1, by omega⟩
    obtain rfl : m = c := by omega
    have h3 : 10 ^ m ≤ 10 ^ 8 := Nat.pow_le_pow_right (by omega) hc8
    have h4 : 0 < 10 ^ m := Nat.pow_pos (by omega)
    exact pk_le m m (fun _ => ⟨7, u_w263 hO hK hS hg ha hA h4 (by omega) (fun e cn => hp0 e cn aw nx) (fun e cn => hp1 e cn aw nx) 6 0 7 cn (by omega) (by omega) hc⟩) (fun h => absurd h (by omega))
  | succ d ih =>
    intro m n cn aw nx hd hn hc ha
    obtain ⟨n, rfl⟩ : ∃ k, n = k + 1 := ⟨n - 1, by omega⟩
    refine pk_le c m (fun h => absurd h (by omega)) (fun _ => ⟨7, u_w106 hO hK hS hg hq ha hc (fun cn2 nx2 aw2 hc2 ha2 => ?_) 6 0 7 nx (by omega) (by omega) (fun i hi => absurd hi (by omega))⟩)
    rintro _ _ rfl rfl
    rw [show (10 : Int64) = lN 10 from rfl, lN_mul, ← Nat.pow_succ, nI_1]
    exact ih (m + 1) n cn2 aw2 nx2 (by omega) (by omega) hc2 ha2
theorem u_w52 {gn kd cn sp : Nat → Int32} {nx : Nat → Int64} {g N c q : Nat} {x4 : Int32} {post : Int32 → (Nat → Int32) → (Nat → Int32) → (Nat → Int64) → (Nat → Int64) → Prop} (hg : g < 5) (hN : gn g = nI N) (hN6 : N < 999000) (o : Nat → Bool) (hp : ∀ aw, RpL 6 aw (wyw o q (N % 6) 0) → ∃ k, PX8_odds_97 post (nI g) (nI c) (nI q) x4 kd sp k 1 0 cn aw nx) :
    ∀ (d m n : Nat) (aw : Nat → Int64), m + d = 6 → d < n → (∀ i, i < m → aw i = lN (wyw o q (N % 6) 0 i)) → PX8_odds_52 post (nI g) (nI c) (nI q) x4 kd gn cn sp nx n (nI m) aw := by
  intro d
  induction d with
  | zero =>
    intro m n aw hd hn ha
    obtain ⟨n, rfl⟩ : ∃ k, n = k + 1 := ⟨n - 1, by omega⟩
    obtain rfl : m = 6 := by omega
    exact pk_le 6 6 (fun _ => hp aw ha) (fun h => absurd h (by omega))
  | succ d ih =>
    intro m n aw hd hn ha
    obtain ⟨n, rfl⟩ : ∃ k, n = k + 1 := ⟨n - 1, by omega⟩
    have h6 := Nat.mod_lt N (show 0 < 6 by omega)
    have go : ∀ x : Int64, x = lN (wyw o q (N % 6) 0 m) → (vp_in (nI m) 6 ∧ ∀ a_ways_38 : Nat → Int64, a_ways_38 = vp_updL aw (nI m).toNatClampNeg x → (∀ x5_39 : Int32, x5_39 = nI m + 1 → PX8_odds_52 post (nI g) (nI c) (nI q) x4 kd gn cn sp nx n x5_39 a_ways_38)) := by
      rintro _ rfl
      refine ⟨vp_in_nI (by omega) (by omega), ?_⟩
      rintro _ rfl _ rfl
      rw [nI_clamp (by omega), nI_1]
      refine ih (m + 1) n _ (by omega) (by omega) (fun i hi => ?_)
      by_cases e : i = m
      · subst e; rw [pk_uLs]
      · rw [pk_uLn e]; exact ha i (by omega)
    refine pk_le 6 m (fun h => absurd h (by omega)) (fun _ => ⟨vp_in_nI (by omega) (by omega), ?_⟩)
    rw [nI_clamp (show g < 2 ^ 31 by omega), hN, l6, cn_rem (by omega) (by omega) (by omega)]
    exact pk_eq m (N % 6) (fun e => go 1 (by rw [wyw, if_pos e]; rfl)) (fun e => go 0 (by rw [wyw, if_neg e]; rfl))
/-! both are one: the weights by rests -/
theorem nxw_six (o : Nat → Bool) {q : Nat} (hq : q ≤ 10) (V : Nat → Nat) (i : Nat) (hi : i < 6) : nxw o q V 6 i = V i * (10 - gnq o q i) + V ((i + 5) % 6) * gnq o q ((i + 5) % 6) := by
  have key : ∀ k, V k * (10 - q) + V k * q = V k * 10 := fun k => by rw [← Nat.mul_add, show 10 - q + q = 10 by omega]
  rcases (show i = 0 ∨ i = 1 ∨ i = 2 ∨ i = 3 ∨ i = 4 ∨ i = 5 by omega) with rfl | rfl | rfl | rfl | rfl | rfl
  · have k0 := key 0
    cases h0 : o 0 <;> cases h5 : o 5 <;> cases h1 : o 1 <;> cases h2 : o 2 <;> cases h3 : o 3 <;> cases h4 : o 4 <;> simp [nxw, dsw, gnq, h0, h1, h2, h3, h4, h5] <;> omega
  · have k0 := key 1
    cases h0 : o 0 <;> cases h5 : o 5 <;> cases h1 : o 1 <;> cases h2 : o 2 <;> cases h3 : o 3 <;> cases h4 : o 4 <;> simp [nxw, dsw, gnq, h0, h1, h2, h3, h4, h5] <;> omega
  · have k0 := key 2
    cases h0 : o 0 <;> cases h5 : o 5 <;> cases h1 : o 1 <;> cases h2 : o 2 <;> cases h3 : o 3 <;> cases h4 : o 4 <;> simp [nxw, dsw, gnq, h0, h1, h2, h3, h4, h5] <;> omega
  · have k0 := key 3
    cases h0 : o 0 <;> cases h5 : o 5 <;> cases h1 : o 1 <;> cases h2 : o 2 <;> cases h3 : o 3 <;> cases h4 : o 4 <;> simp [nxw, dsw, gnq, h0, h1, h2, h3, h4, h5] <;> omega
  · have k0 := key 4
    cases h0 : o 0 <;> cases h5 : o 5 <;> cases h1 : o 1 <;> cases h2 : o 2 <;> cases h3 : o 3 <;> cases h4 : o 4 <;> simp [nxw, dsw, gnq, h0, h1, h2, h3, h4, h5] <;> omega
  · have k0 := key 5
    cases h0 : o 0 <;> cases h5 : o 5 <;> cases h1 : o 1 <;> cases h2 : o 2 <;> cases h3 : o 3 <;> cases h4 : o 4 <;> simp [nxw, dsw, gnq, h0, h1, h2, h3, h4, h5] <;> omega
theorem wyw_wgt {o p : Nat → Bool} {q a : Nat} (hq : q ≤ 10) (ha : a < 6) (ho : ∀ j, o ((a + j) % 6) = p j) (hp : ∀ j, p (j + 6) = p j) : ∀ c, c ≤ 9 → ∀ j, j < 6 → wyw o q a c ((a + j) % 6) = wgt p q c j + wgt p q c (j + 6)
  | 0, _, j, hj => by
    rw [wyw]
    cases j with
    | zero => rw [if_pos (by omega), wgt, wgt]
    | succ j => rw [if_neg (by omega), wgt, wgt]
  | c + 1, hc, j, hj => by
    have ih := wyw_wgt hq ha ho hp c (by omega)
    have hl := Nat.mod_lt (a + j) (show 0 < 6 by omega)
    have go : ∀ j, gnq o q ((a + j) % 6) = gnq p q j := fun j => by unfold gnq; rw [ho j]
    have gp : ∀ j, gnq p q (j + 6) = gnq p q j := fun j => by unfold gnq; rw [hp j]
    rw [wyw, nxw_six o hq _ _ hl, go, ih j hj]
    cases j with
    | zero =>
      have e : ((a + 0) % 6 + 5) % 6 = (a + 5) % 6 := by omega
      rw [e, go, ih 5 (by omega), wgt_s0, show (0 + 6) = 5 + 1 from rfl, wgt_ss, wgt_0 p q c (5 + 6) (by omega), show 5 + 1 = 0 + 6 from rfl, gp 0, Nat.add_mul]
      simp only [Nat.add_zero]
      omega
    | succ j =>
      have e : ((a + (j + 1)) % 6 + 5) % 6 = (a + j) % 6 := by omega
      rw [e, go, ih j (by omega), wgt_ss, show j + 1 + 6 = (j + 6) + 1 by omega, wgt_ss, gp j, show j + 6 + 1 = (j + 1) + 6 by omega, gp (j + 1), Nat.add_mul, Nat.add_mul]
      omega
theorem acw_abv {o p : Nat → Bool} {q a c : Nat} (hq : q ≤ 10) (ha : a < 6) (ho : ∀ j, o ((a + j) % 6) = p j) (hp : ∀ j, p (j + 6) = p j) (hc : c ≤ 8) : acw o (wyw o q a c) 6 = abv p q c 9 := by
  have h := wyw_wgt hq ha ho hp c (by omega)
  have h9 := wgt_0 p q c 9 (by omega)
  have h10 := wgt_0 p q c 10 (by omega)
  have h11 := wgt_0 p q c 11 (by omega)
  have f : ∀ j, j < 6 → (if o ((a + j) % 6) then wyw o q a c ((a + j) % 6) else 0) = (if p j then 1 else 0) * wgt p q c j + (if p (j + 6) then 1 else 0) * wgt p q c (j + 6) := fun j hj => by
    rw [ho j, hp j, h j hj]
    cases p j
    · simp
    · simp
  have f0 := f 0 (by omega)
  have f1 := f 1 (by omega)
  have f2 := f 2 (by omega)
  have f3 := f 3 (by omega)
  have f4 := f 4 (by omega)
  have f5 := f 5 (by omega)
  have e : acw o (wyw o q a c) 6 = (if o ((a + 0) % 6) then wyw o q a c ((a + 0) % 6) else 0) + (if o ((a + 1) % 6) then wyw o q a c ((a + 1) % 6) else 0) + (if o ((a + 2) % 6) then wyw o q a c ((a + 2) % 6) else 0) + (if o ((a + 3) % 6) then wyw o q a c ((a + 3) % 6) else 0) + (if o ((a + 4) % 6) then wyw o q a c ((a + 4) % 6) else 0) + (if o ((a + 5) % 6) then wyw o q a c ((a + 5) % 6) else 0) := by
    rw [acw, acw, acw, acw, acw, acw, acw]
    generalize wyw o q a c = V
    rcases (show a = 0 ∨ a = 1 ∨ a = 2 ∨ a = 3 ∨ a = 4 ∨ a = 5 by omega) with rfl | rfl | rfl | rfl | rfl | rfl <;> simp only [Nat.zero_add, Nat.reduceAdd, Nat.reduceMod] <;> omega
  rw [e, f0, f1, f2, f3, f4, f5]
  rw [abv, abv, abv, abv, abv, abv, abv, abv, abv, abv]
  simp only [Nat.zero_add, Nat.reduceAdd, h9, h10, h11, Nat.mul_zero]
  omega
theorem u_oddsT {A B K N : Nat → Nat} {kd gn cn sp : Nat → Int32} {aw nx : Nat → Int64} {g G q c : Nat} {x4 : Int32} {post : Int32 → (Nat → Int32) → (Nat → Int32) → (Nat → Int64) → (Nat → Int64) → Prop} (hO : GO G A B K) (hK : Rp G kd K) (hS : ∀ g, g < G → N g < 999000) (hg : g < G) (hq : q ≤ 10) (hc8 : c ≤ 8) (hgn : Rp G gn N) (hcn : ∀ j, j < G → j ≠ g → cn j = nI (N j))
    (hp0 : x4 = 0 → ∀ cn aw nx, post (nI (abv (opj K N g) q c 9 / Nat.gcd (abv (opj K N g) q c 9) (10 ^ c))) cn sp aw nx) (hp1 : ¬ x4 = 0 → ∀ cn aw nx, post (nI (10 ^ c / Nat.gcd (abv (opj K N g) q c 9) (10 ^ c))) cn sp aw nx) : ∃ k_52 : Nat, PX8_odds_52 post (nI g) (nI c) (nI q) x4 kd gn cn sp nx k_52 0 aw := by
  have hG5 := hO.1
  have hE := acw_abv (o := fun k => opn K (setN N g k) g 0) (p := opj K N g) (q := q) (a := N g % 6) (c := c) hq (Nat.mod_lt _ (by omega)) (fun j => opj_rest K N g j _ (by omega)) (fun j => opj_six K N g j) hc8
  have hB1 := abv_le (opj K N g) q c 8
  have hB2 := wsum_le (opj K N g) hq 8 c
  have hB3 : 10 ^ c ≤ 10 ^ 8 := Nat.pow_le_pow_right (by omega) hc8
  rw [← hE] at hp0 hp1 hB1
  exact ⟨7, u_w52 (by omega) (hgn g hg) (hS g hg) (fun k => opn K (setN N g k) g 0) (fun aw2 h2 => ⟨c + 1, u_w97 hO hK hS hg hq hc8 (by omega) hp0 hp1 c 0 (c + 1) _ _ _ (by omega) (by omega) hcn h2⟩) 6 0 7 _ (by omega) (by omega) (fun i hi => absurd hi (by omega))⟩

theorem s_odds {t : Nat} {ic_keptMany : Int32} {ic_text_length : Int32} {ac_text_signs : Nat → Int32} {ic_now_gates : Int32} {ic_now_persons : Int32} {ic_now_fines : Int32} {ac_now_courtA : Nat → Int32} {ac_now_courtB : Nat → Int32} {ac_now_kind : Nat → Int32} {ac_now_gone : Nat → Int32} {ac_now_court : Nat → Int32} {ic_trial_gates : Int32} {ic_trial_persons : Int32} {ic_trial_fines : Int32} {ac_trial_courtA : Nat → Int32} {ac_trial_courtB : Nat → Int32} {ac_trial_kind : Nat → Int32} {ac_trial_gone : Nat → Int32} {ac_trial_court : Nat → Int32} {ic_lowerKept_gates : Int32} {ic_lowerKept_persons : Int32} {ic_lowerKept_fines : Int32} {ac_lowerKept_courtA : Nat → Int32} {ac_lowerKept_courtB : Nat → Int32} {ac_lowerKept_kind : Nat → Int32} {ac_lowerKept_gone : Nat → Int32} {ac_lowerKept_court : Nat → Int32} {ic_upperKept_gates : Int32} {ic_upperKept_persons : Int32} {ic_upperKept_fines : Int32} {ac_upperKept_courtA : Nat → Int32} {ac_upperKept_courtB : Nat → Int32} {ac_upperKept_kind : Nat → Int32} {ac_upperKept_gone : Nat → Int32} {ac_upperKept_court : Nat → Int32} {ic_deeds_many : Int32} {ac_deeds_person : Nat → Int32} {ac_deeds_gate : Nat → Int32} {ac_deeds_from : Nat → Int32} {ac_deeds_fine : Nat → Int32} {ic_sights_many : Int32} {ac_sights_gate : Nat → Int32} {ac_sights_open : Nat → Int32} {ic_route_many : Int32} {ac_route_gate : Nat → Int32} {ic_chance_above : Int32} {ic_chance_below : Int32} {ac_chance_weight : Nat → Int32} {im_length : Int32} {im_keptMany : Int32} {im_undoMany : Int32} {im_seenMany : Int32} {im_pathMany : Int32} {am_text : Nat → Int32} {am_many : Nat → Int32} {am_ones : Nat → Int32} {am_others : Nat → Int32} {am_kinds : Nat → Int32} {am_persons : Nat → Int32} {am_gone : Nat → Int32} {am_at : Nat → Int32} {am_fines : Nat → Int32} {am_undos : Nat → Int32} {am_seenOf : Nat → Int32} {am_seenOpen : Nat → Int32} {am_path : Nat → Int32} {am_counts : Nat → Int32} {am_spots : Nat → Int32} {am_ways : Nat → Int64} {am_next : Nat → Int64} (x1 : Int32) (x2 : Int32) (x3 : Int32) (x4 : Int32) (ht : t < 512) (h : LInv t ic_text_length ac_text_signs ic_now_gates ic_now_persons ic_now_fines ac_now_courtA ac_now_courtB ac_now_kind ac_now_gone ac_now_court ic_lowerKept_gates ic_lowerKept_persons ic_lowerKept_fines ac_lowerKept_courtA ac_lowerKept_courtB ac_lowerKept_kind ac_lowerKept_gone ac_lowerKept_court ic_upperKept_gates ic_upperKept_persons ic_upperKept_fines ac_upperKept_courtA ac_upperKept_courtB ac_upperKept_kind ac_upperKept_gone ac_upperKept_court ic_keptMany ic_deeds_many ac_deeds_person ac_deeds_gate ac_deeds_from ac_deeds_fine ic_sights_many ac_sights_gate ac_sights_open ic_route_many ac_route_gate im_length am_text am_many am_ones am_others am_kinds am_persons am_gone am_at am_fines im_keptMany im_undoMany am_undos im_seenMany am_seenOf am_seenOpen im_pathMany am_path) : PX7_odds x1 x2 x3 x4 ic_now_gates ic_now_persons ic_now_fines ac_now_courtA ac_now_courtB ac_now_kind ac_now_gone ac_now_court ic_trial_gates ic_trial_persons ic_trial_fines ac_trial_courtA ac_trial_courtB ac_trial_kind ac_trial_gone ac_trial_court ic_chance_above ic_chance_below ac_chance_weight (fun r ic_trial_gates' ic_trial_persons' ic_trial_fines' ac_trial_courtA' ac_trial_courtB' ac_trial_kind' ac_trial_gone' ac_trial_court' ic_chance_above' ic_chance_below' ac_chance_weight' => PX8_odds x1 x2 x3 x4 am_many am_kinds am_gone am_at am_counts am_spots am_ways am_next (fun r' am_counts' am_spots' am_ways' am_next' => r = r' ∧ LInv (t + 1) ic_text_length ac_text_signs ic_now_gates ic_now_persons ic_now_fines ac_now_courtA ac_now_courtB ac_now_kind ac_now_gone ac_now_court ic_lowerKept_gates ic_lowerKept_persons ic_lowerKept_fines ac_lowerKept_courtA ac_lowerKept_courtB ac_lowerKept_kind ac_lowerKept_gone ac_lowerKept_court ic_upperKept_gates ic_upperKept_persons ic_upperKept_fines ac_upperKept_courtA ac_upperKept_courtB ac_upperKept_kind ac_upperKept_gone ac_upperKept_court ic_keptMany ic_deeds_many ac_deeds_person ac_deeds_gate ac_deeds_from ac_deeds_fine ic_sights_many ac_sights_gate ac_sights_open ic_route_many ac_route_gate im_length am_text am_many am_ones am_others am_kinds am_persons am_gone am_at am_fines im_keptMany im_undoMany am_undos im_seenMany am_seenOf am_seenOpen im_pathMany am_path)) := by
  have hI := LInv_next h
  obtain ⟨G, P, A, B, K, N, C, ⟨hO, hG, hP0, hP⟩, hT, hC, hM, hS, hk, hD, hs, hr⟩ := h
  obtain ⟨c1, c2, c3, c4, c5, c6, c7, c8, c9⟩ := hC
  have hG5 := hO.1
  have h9 : ∀ g, g < G → N g < 99000 := fun g hg => by have := c8 g hg; omega
  have h99 : ∀ g, g < G → N g < 999000 := fun g hg => by have := c8 g hg; omega
  have t0 : (0 : Int32).toInt = 0 := by decide
  have t1 : (1 : Int32).toInt = 1 := by decide
  have t8 : (8 : Int32).toInt = 8 := by decide
  have t10 : (10 : Int32).toInt = 10 := by decide
  subst c1
  refine t_hasGate hG5 (fun g hg e => rb1 ?_) (fun hn => rb0 (u_isGateN hS.1 (by omega) hG hn (rb0 ⟨rfl, hI⟩)))
  subst e
  have ug : ∀ post : Int32 → Prop, post 1 → PX8_isGate (nI g) am_many post := fun post hp => u_isGate' hS.1 (by omega) hg hp
  rcases range_or x2 1 8 (by omega) with ⟨m, m1, m8, rfl⟩ | hn
  · have um : ∀ post : Int32 → Prop, post 1 → PX8_in (nI m).toInt64 1 8 post := fun post hp => u_inY (a := 1) (b := 8) (by decide) (by decide) (by omega) (by omega) (by omega) hp
    refine ⟨fun h => ?_, fun _ => ⟨fun _ => ?_, fun h => ?_⟩⟩
    · rw [lt_iff, nI_toInt (by omega)] at h; omega
    · rcases range_or x3 0 10 (by omega) with ⟨q, q0, q10, rfl⟩ | hn
      · have uq : ∀ post : Int32 → Prop, post 1 → PX8_in (nI q).toInt64 0 10 post := fun post hp => u_inY (a := 0) (b := 10) (by decide) (by decide) (by omega) (by omega) (by omega) hp
        refine ⟨fun h => ?_, fun _ => ⟨fun h => ?_, fun _ => ?_⟩⟩
        · rw [lt_iff, nI_toInt (by omega)] at h; omega
        · rw [lt_iff, nI_toInt (by omega)] at h; omega
        · by_cases z0' : x4 = 0 ∨ x4 = 1
          · refine t_zoY z0' (rb1 (t_copyFrom (t_reckon hO (c5.cpy hG5) (c6.cpy hG5) h99 hg q10 m8 (fun aw gn' => ?_))))
            refine ⟨fun e => ug _ (rb1 (um _ (rb1 (uq _ (rb1 (u_zoY z0' (rb1 (u_layNow (u_oddsT hO hS.2.2.2.2 h99 hg q10 m8 hM.gone (fun j hj _ => (hM.gone.cpy hG5) j hj) (fun _ cn aw nx => ?_) (fun h => absurd e h)))))))))), fun e => ug _ (rb1 (um _ (rb1 (uq _ (rb1 (u_zoY z0' (rb1 (u_layNow (u_oddsT hO hS.2.2.2.2 h99 hg q10 m8 hM.gone (fun j hj _ => (hM.gone.cpy hG5) j hj) (fun h => absurd h e) (fun _ cn aw nx => ?_)))))))))) ⟩
            · exact ⟨rfl, hI⟩
            · exact ⟨rfl, hI⟩
          · exact t_zoN z0' (rb0 (ug _ (rb1 (um _ (rb1 (uq _ (rb1 (u_zoN z0' (rb0 ⟨rfl, hI⟩)))))))))
      · have un : ∀ post : Int32 → Prop, post 0 → PX8_in x3.toInt64 0 10 post := fun post hp => u_inN (a := 0) (b := 10) (by decide) (by decide) hn hp
        refine ⟨fun h => ug _ (rb1 (um _ (rb1 (un _ (rb0 ⟨rfl, hI⟩))))), fun h1 => ⟨fun h2 => ug _ (rb1 (um _ (rb1 (un _ (rb0 ⟨rfl, hI⟩))))), fun h2 => ?_⟩⟩
        rw [lt_iff] at h1 h2
        omega
    · rw [le_iff, nI_toInt (by omega)] at h; omega
  · have un : ∀ post : Int32 → Prop, post 0 → PX8_in x2.toInt64 1 8 post := fun post hp => u_inN (a := 1) (b := 8) (by decide) (by decide) hn hp
    refine ⟨fun h => ug _ (rb1 (un _ (rb0 ⟨rfl, hI⟩))), fun h1 => ⟨fun h2 => ?_, fun h2 => ug _ (rb1 (un _ (rb0 ⟨rfl, hI⟩)))⟩⟩
    rw [lt_iff] at h1
    rw [le_iff] at h2
    omega
