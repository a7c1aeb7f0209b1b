/-! ===== odds: bits, weights, ways ===== -/
def bitB (f : Nat → Bool) : Nat → Nat
  | 0 => 0
  | m + 1 => bitB f m ||| (if f m then 2 ^ m else 0)
theorem bitB_lt (f : Nat → Bool) : ∀ m, bitB f m < 2 ^ m
  | 0 => Nat.zero_lt_one
  | m + 1 => by
    unfold bitB
    refine Nat.or_lt_two_pow (Nat.lt_of_lt_of_le (bitB_lt f m) (Nat.pow_le_pow_right (by omega) (by omega))) ?_
    split
    · exact Nat.pow_lt_pow_right (by omega) (by omega)
    · exact Nat.two_pow_pos _
theorem bitB_tb (f : Nat → Bool) : ∀ m j, j < m → (bitB f m).testBit j = f j
  | 0, j, h => absurd h (by omega)
  | m + 1, j, h => by
    unfold bitB
    rw [Nat.testBit_or]
    by_cases q : j = m
    · subst q
      rw [Nat.testBit_lt_two_pow (bitB_lt f j), Bool.false_or]
      cases f j
      · exact Nat.zero_testBit j
      · exact Nat.testBit_two_pow_self
    · rw [bitB_tb f m j (by omega)]
      have e : (if f m = true then 2 ^ m else 0).testBit j = false := by
        split
        · exact Nat.testBit_two_pow_of_ne (fun h => q h.symm)
        · exact Nat.zero_testBit j
      rw [e, Bool.or_false]
theorem bitB_at (f : Nat → Bool) (m j : Nat) (h : j < m) : bitB f m / 2 ^ j % 2 = if f j then 1 else 0 := by
  have h1 := bitB_tb f m j h
  rw [Nat.testBit_eq_decide_div_mod_eq] at h1
  have h2 := Nat.mod_lt (bitB f m / 2 ^ j) (show 0 < 2 by omega)
  cases q : f j
  · rw [q] at h1
    have := of_decide_eq_false h1
    simp; omega
  · rw [q] at h1
    have := of_decide_eq_true h1
    simp; omega
theorem bit9 {S j : Nat} (hS : S < 512) (hj : j < 9) : (nI S >>> (nI j &&& 31)) &&& 1 = nI (S / 2 ^ j % 2) := by
  have h : nI S >>> (nI j &&& 31) = nI (S / 2 ^ j) := by
    rcases (show j = 0 ∨ j = 1 ∨ j = 2 ∨ j = 3 ∨ j = 4 ∨ j = 5 ∨ j = 6 ∨ j = 7 ∨ j = 8 by omega) with rfl | rfl | rfl | rfl | rfl | rfl | rfl | rfl | rfl
    · exact pk_shrN (by omega) _ 0 (by decide)
    · exact pk_shrN (by omega) _ 1 (by decide)
    · exact pk_shrN (by omega) _ 2 (by decide)
    · exact pk_shrN (by omega) _ 3 (by decide)
    · exact pk_shrN (by omega) _ 4 (by decide)
    · exact pk_shrN (by omega) _ 5 (by decide)
    · exact pk_shrN (by omega) _ 6 (by decide)
    · exact pk_shrN (by omega) _ 7 (by decide)
    · exact pk_shrN (by omega) _ 8 (by decide)
  rw [h, l1, cn_and, Nat.and_one_is_mod]
/-- whether the gate is open from A behind j more; by the count's rest -/
def opj (K N : Nat → Nat) (g j : Nat) : Bool := opn K (setN N g (N g + j)) g 0
theorem opn_rest {K N M : Nat → Nat} {g s : Nat} (h : ∀ j, N j % 6 = M j % 6) : opn K N g s = opn K M g s := by
  have h1 := h (rul K g)
  have e2 : N (rul K g) % 2 = M (rul K g) % 2 := by omega
  have e3 : N (rul K g) % 3 = M (rul K g) % 3 := by omega
  unfold opn
  rw [e2, e3]
theorem opj_six (K N : Nat → Nat) (g j : Nat) : opj K N g (j + 6) = opj K N g j := by
  unfold opj
  refine opn_rest (fun i => ?_)
  unfold setN
  split <;> omega
theorem opj_rest (K N : Nat → Nat) (g j k : Nat) (h : k % 6 = (N g + j) % 6) : opn K (setN N g k) g 0 = opj K N g j := by
  unfold opj
  refine opn_rest (fun i => ?_)
  unfold setN
  split <;> omega
theorem setN_self (N : Nat → Nat) (g x : Nat) : setN N g x g = x := by unfold setN; rw [if_pos rfl]
theorem setN_set (N : Nat → Nat) (g x y : Nat) : setN (setN N g x) g y = setN N g y := by
  funext j
  unfold setN
  split <;> rfl
theorem setN_id (N : Nat → Nat) (g : Nat) : setN N g (N g) = N := by
  funext j
  unfold setN
  split
  · rename_i q; rw [q]
  · rfl
theorem t_open5 {A B K N : Nat → Nat} {kd : Nat → Int32} {g G : Nat} {post : Int32 → (Nat → Int32) → Prop} (hO : GO G A B K) (hK : Rp G kd K) (hS : ∀ g, g < G → N g < 999000) (hg : g < G) (hp : ∀ gn', post (nI (bitB (opj K N g) 9)) gn') :
    ∀ (d m n : Nat) (gn : Nat → Int32), m + d = 9 → d < n → Rp G gn (setN N g (N g + m)) → PX0_openByMoreGone_5 post (nI g) (nI G) kd n (nI (bitB (opj K N g) m)) (nI m) gn := by
  have hG5 := hO.1
  intro d
  induction d with
  | zero =>
    intro m n gn hd hn hN
    obtain ⟨n, rfl⟩ : ∃ k, n = k + 1 := ⟨n - 1, by omega⟩
    obtain rfl : m = 9 := by omega
    exact pk_lt 8 9 (fun _ => hp gn) (fun h => absurd h (by omega))
  | succ d ih =>
    intro m n gn hd hn hN
    obtain ⟨n, rfl⟩ : ∃ k, n = k + 1 := ⟨n - 1, by omega⟩
    have hSm : Sm G (setN N g (N g + m)) := fun i hi => by
      have h1 := hS i hi
      have h2 := hS g hg
      unfold setN
      split <;> omega
    have nx := fun gn => ih (m + 1) n gn (by omega) (by omega)
    have go : ∀ x : Int32, x = nI (bitB (opj K N g) (m + 1)) → (vp_in (nI g) 5 ∧ (∀ t_7 : Int32, t_7 = ((gn (nI g).toNatClampNeg) + 1) → (vp_in (nI g) 5 ∧ ∀ ao_gone_8 : Nat → Int32, ao_gone_8 = upd gn (nI g).toNatClampNeg t_7 → (∀ x4_9 : Int32, x4_9 = nI m + 1 → PX0_openByMoreGone_5 post (nI g) (nI G) kd n x x4_9 ao_gone_8)))) := by
      rintro x rfl
      refine ⟨vp_in_nI (by omega) (by omega), ?_⟩
      rintro _ rfl
      refine ⟨vp_in_nI (by omega) (by omega), ?_⟩
      rintro _ rfl _ rfl
      rw [nI_clamp (by omega), hN g hg, setN_self, nI_1, nI_1]
      refine nx _ ?_
      have h := hN.upd g (N g + m + 1)
      have e : (fun j => if j = g then N g + m + 1 else setN N g (N g + m) j) = setN N g (N g + (m + 1)) := setN_set N g (N g + m) (N g + m + 1)
      rw [e] at h
      exact h
    refine pk_lt 8 m (fun h => absurd h (by omega)) (fun _ => t_hasGate' hO.1 hg (rb1 (t_isOpen (side := 0) hO hK hN hSm hg (Or.inl rfl) (and_b (fun q => ?_) (fun q => ?_)))))
    · rintro _ rfl
      refine go _ ?_
      rw [cn_shl' (by omega), cn_or]
      show _ = nI (bitB (opj K N g) m ||| (if opj K N g m then 2 ^ m else 0))
      have q' : opj K N g m = true := q
      rw [q', if_pos rfl]
    · rintro _ rfl
      refine go _ ?_
      rw [l0, cn_or]
      show _ = nI (bitB (opj K N g) m ||| (if opj K N g m then 2 ^ m else 0))
      have q' : opj K N g m = false := q
      rw [q', if_neg (by decide)]
theorem t_openMore {A B K N : Nat → Nat} {kd gn : Nat → Int32} {g G : Nat} {post : Int32 → (Nat → Int32) → Prop} (hO : GO G A B K) (hK : Rp G kd K) (hN : Rp G gn N) (hS : ∀ g, g < G → N g < 999000) (hg : g < G) (hp : ∀ gn', post (nI (bitB (opj K N g) 9)) gn') : PX0_openByMoreGone (nI g) (nI G) kd gn post :=
  ⟨10, t_open5 hO hK hS hg hp 9 0 10 gn (by omega) (by omega) (by rw [Nat.add_zero, setN_id]; exact hN)⟩
