/-! ===== the search, purely: a state is the gates shut since the start (5 bits) and the courts (3 bits each) ===== -/
def ctS (s p : Nat) : Nat := s / 2 ^ (5 + 3 * p) % 8
theorem ctS_tb (s p i : Nat) : (ctS s p).testBit i = (decide (i < 3) && s.testBit (5 + 3 * p + i)) := by
  show (s / 2 ^ (5 + 3 * p) % 2 ^ 3).testBit i = _
  rw [Nat.testBit_mod_two_pow, Nat.testBit_div_two_pow, Nat.add_comm i]
theorem ctS_lt (s p : Nat) : ctS s p < 8 := Nat.mod_lt _ (by omega)
def shB (K : Nat → Nat) (G r : Nat) : Nat := bitB (fun g => decide (rul K g = r)) G
def nxS (A B K : Nat → Nat) (G s p g : Nat) : Nat := (s ||| shB K G g) ^^^ ((ctS s p ^^^ byd A B (ctS s p) g) <<< (5 + 3 * p))
theorem bitB_out (f : Nat → Bool) {m i : Nat} (h : m ≤ i) : (bitB f m).testBit i = false :=
  Nat.testBit_lt_two_pow (Nat.lt_of_lt_of_le (bitB_lt f m) (Nat.pow_le_pow_right (by omega) h))
theorem bit_out {x n i : Nat} (h : x < 2 ^ n) (hi : n ≤ i) : x.testBit i = false :=
  Nat.testBit_lt_two_pow (Nat.lt_of_lt_of_le h (Nat.pow_le_pow_right (by omega) hi))
theorem nx_bit {A B K : Nat → Nat} {G s p g i : Nat} (hi : i < 5) : (nxS A B K G s p g).testBit i = (s.testBit i || (shB K G g).testBit i) := by
  unfold nxS
  rw [Nat.testBit_xor, Nat.testBit_or, Nat.testBit_shiftLeft, decide_eq_false (by omega), Bool.false_and, Bool.xor_false]
theorem nx_x8 {A B : Nat → Nat} {s p g : Nat} (hb : byd A B (ctS s p) g < 8) : ctS s p ^^^ byd A B (ctS s p) g < 2 ^ 3 := Nat.xor_lt_two_pow (ctS_lt s p) hb
theorem nx_ct {A B K : Nat → Nat} {G s p g p' : Nat} (hG : G ≤ 5) (hb : byd A B (ctS s p) g < 8) : ctS (nxS A B K G s p g) p' = if p' = p then byd A B (ctS s p) g else ctS s p' := by
  have hx := nx_x8 hb
  apply Nat.eq_of_testBit_eq
  intro i
  rw [ctS_tb]
  by_cases h3 : i < 3
  · rw [decide_eq_true h3, Bool.true_and]
    unfold nxS
    rw [Nat.testBit_xor, Nat.testBit_or, Nat.testBit_shiftLeft, show (shB K G g).testBit (5 + 3 * p' + i) = false from bitB_out _ (by omega), Bool.or_false]
    by_cases e : p' = p
    · subst e
      rw [if_pos rfl, decide_eq_true (by omega), Bool.true_and, show 5 + 3 * p' + i - (5 + 3 * p') = i by omega, Nat.testBit_xor, ctS_tb, decide_eq_true h3, Bool.true_and]
      cases s.testBit (5 + 3 * p' + i) <;> cases (byd A B (ctS s p') g).testBit i <;> rfl
    · rw [if_neg e, ctS_tb, decide_eq_true h3, Bool.true_and]
      by_cases l : p' < p
      · rw [decide_eq_false (by omega), Bool.false_and, Bool.xor_false]
      · rw [bit_out hx (by omega), Bool.and_false, Bool.xor_false]
  · rw [decide_eq_false h3, Bool.false_and]
    split
    · exact (bit_out (n := 3) hb (by omega)).symm
    · rw [ctS_tb, decide_eq_false h3, Bool.false_and]
theorem nx_lt {A B K : Nat → Nat} {G s p g : Nat} (hG : G ≤ 5) (hs : s < 2 ^ 14) (hp : p < 3) (hb : byd A B (ctS s p) g < 8) : nxS A B K G s p g < 2 ^ 14 := by
  have hx := nx_x8 hb
  have hs5 : shB K G g < 2 ^ 14 := Nat.lt_of_lt_of_le (bitB_lt _ G) (Nat.pow_le_pow_right (by omega) (by omega))
  refine Nat.xor_lt_two_pow (Nat.or_lt_two_pow hs hs5) ?_
  rw [Nat.shiftLeft_eq]
  have h1 : (ctS s p ^^^ byd A B (ctS s p) g) * 2 ^ (5 + 3 * p) < 2 ^ 3 * 2 ^ (5 + 3 * p) := Nat.mul_lt_mul_of_pos_right hx (Nat.two_pow_pos _)
  rw [← Nat.pow_add] at h1
  exact Nat.lt_of_lt_of_le h1 (Nat.pow_le_pow_right (by omega) (by omega))
theorem st_ext {s s' : Nat} (h : s < 2 ^ 14) (h' : s' < 2 ^ 14) (hb : ∀ i, i < 5 → s.testBit i = s'.testBit i) (hc : ∀ p, p < 3 → ctS s p = ctS s' p) : s = s' := by
  apply Nat.eq_of_testBit_eq
  intro i
  by_cases h5 : i < 5
  · exact hb i h5
  · by_cases h14 : i < 14
    · have e := hc ((i - 5) / 3) (by omega)
      have e2 := congrArg (fun x => Nat.testBit x ((i - 5) % 3)) e
      simp only [ctS_tb] at e2
      rw [decide_eq_true (by omega), Bool.true_and, Bool.true_and, show 5 + 3 * ((i - 5) / 3) + (i - 5) % 3 = i by omega] at e2
      exact e2
    · rw [bit_out h (by omega), bit_out h' (by omega)]
def VdS (K N : Nat → Nat) (G P s : Nat) : Prop := s < 2 ^ 14 ∧ (∀ p, p < 3 → ctS s p < 5) ∧ (∀ p, P ≤ p → p < 3 → ctS s p = 0) ∧ (∀ g, g < G → s.testBit g = s.testBit (rul K g)) ∧ (∀ g, g < G → s.testBit g = true → opn K N g 0 = true) ∧ (∀ g, G ≤ g → g < 5 → s.testBit g = false)
theorem opn_side {K N : Nat → Nat} {g : Nat} (h : opn K N g 1 = true) : opn K N g 0 = true := by
  unfold opn at h ⊢
  split
  · rename_i q; rw [if_pos q] at h; exact h
  · rename_i q; rw [if_neg q] at h
    split
    · rename_i q; rw [if_pos q] at h; exact h
    · rename_i q; rw [if_neg q] at h
      split
      · rename_i q; rw [if_pos q] at h; exact h
      · rename_i q; rw [if_neg q] at h
        rw [decide_eq_false (show ¬ 1 = 0 by omega), Bool.false_and] at h
        cases h
theorem opf_opn {A B K N : Nat → Nat} {c g : Nat} (h : opf A B K N c g = true) : opn K N g 0 = true := by
  unfold opf at h
  split at h
  · exact h
  · split at h
    · exact opn_side h
    · cases h
theorem rul_rul {K : Nat → Nat} (h0 : K 0 ≠ 3) (g : Nat) : rul K (rul K g) = rul K g := rul_self (rul_ne h0 g)
theorem opn_rul {K N : Nat → Nat} {i g s : Nat} (h : rul K i = rul K g) : opn K N i s = opn K N g s := by unfold opn; rw [h]
theorem shB_tb {K : Nat → Nat} {G r i : Nat} (h : i < G) : (shB K G r).testBit i = decide (rul K i = r) := bitB_tb _ G i h
theorem nx_vd {A B K N : Nat → Nat} {G P s p g : Nat} (hO : GO G A B K) (hV : VdS K N G P s) (hp : p < P) (hP : P ≤ 3) (hg : g < G) (ha : opf A B K N (ctS s p) g = true) : VdS K N G P (nxS A B K G s p g) := by
  obtain ⟨v1, v2, v3, v4, v5, v6⟩ := hV
  have hG5 := hO.1
  have h0 := hO.2.2 (by omega)
  have hb : byd A B (ctS s p) g < 5 := byd_lt hO hg
  refine ⟨nx_lt hG5 v1 (by omega) (by omega), fun p' h' => ?_, fun p' h1 h2 => ?_, fun i hi => ?_, fun i hi ht => ?_, fun i h1 h2 => ?_⟩
  · rw [nx_ct hG5 (by omega)]; split
    · exact hb
    · exact v2 p' h'
  · rw [nx_ct hG5 (by omega), if_neg (by omega)]; exact v3 p' h1 h2
  · have hr := rul_le K i
    rw [nx_bit (by omega), nx_bit (by omega), shB_tb hi, shB_tb (by omega), rul_rul h0, ← v4 i hi]
  · rw [nx_bit (by omega), shB_tb hi] at ht
    cases hs : s.testBit i
    · rw [hs, Bool.false_or] at ht
      have e := of_decide_eq_true ht
      have e2 : rul K g = g := by rw [← e]; exact rul_rul h0 i
      rw [opn_rul (e.trans e2.symm)]
      exact opf_opn ha
    · exact v5 i hi hs
  · rw [nx_bit h2, v6 i h1 h2, show (shB K G g).testBit i = false from bitB_out _ h1]; rfl
/-! the queue: states, how far, the first pass -/
abbrev Qu : Type := List (Nat × Nat × Nat)
def hsQ (Q : Qu) (s : Nat) : Bool := Q.any (fun y => y.1 == s)
theorem hsQ_f {Q : Qu} {s : Nat} (h : hsQ Q s = false) : ∀ y ∈ Q, y.1 ≠ s := by
  intro y hy e
  have h2 := List.any_eq_false.mp h y hy
  rw [e, beq_self_eq_true] at h2
  exact h2 rfl
theorem hsQ_t {Q : Qu} {s : Nat} (h : hsQ Q s = true) : ∃ y ∈ Q, y.1 = s := by
  obtain ⟨y, hy, e⟩ := List.any_eq_true.mp h
  exact ⟨y, hy, beq_iff_eq.mp e⟩
theorem hsQ_app (Q : Qu) (x : Nat × Nat × Nat) (s : Nat) : hsQ (Q ++ [x]) s = (hsQ Q s || x.1 == s) := by
  unfold hsQ
  rw [List.any_append]
  simp
def psh (Q : Qu) (x : Nat × Nat × Nat) : Qu := if hsQ Q x.1 then Q else Q ++ [x]
def pas (A B K N : Nat → Nat) (G s k : Nat) : Bool := opf A B K N (ctS s (k / G)) (k % G) && !s.testBit (k % G)
def exK (A B K N : Nat → Nat) (G s d f : Nat) (st : Bool) (Q : Qu) : Nat → Qu
  | 0 => Q
  | k + 1 => if pas A B K N G s k then psh (exK A B K N G s d f st Q k) (nxS A B K G s (k / G) (k % G), d + 1, if st then 10 * (k / G) + k % G else f) else exK A B K N G s d f st Q k
def bfs (A B K N : Nat → Nat) (G P : Nat) : Nat → Nat → Qu → Qu
  | 0, _, Q => Q
  | n + 1, h, Q => match Q[h]? with
    | none => Q
    | some x => bfs A B K N G P n (h + 1) (exK A B K N G x.1 x.2.1 x.2.2 (h == 0) Q (P * G))
theorem bfs_some {A B K N : Nat → Nat} {G P n h : Nat} {Q : Qu} {x : Nat × Nat × Nat} (hx : Q[h]? = some x) : bfs A B K N G P (n + 1) h Q = bfs A B K N G P n (h + 1) (exK A B K N G x.1 x.2.1 x.2.2 (h == 0) Q (P * G)) := by
  rw [bfs, hx]
theorem bfs_none {A B K N : Nat → Nat} {G P h : Nat} {Q : Qu} (hx : Q.length ≤ h) : ∀ n, bfs A B K N G P n h Q = Q
  | 0 => by rw [bfs]
  | n + 1 => by rw [bfs, List.getElem?_eq_none hx]
theorem app_some {α : Type} {Q t : List α} {i : Nat} {x : α} (h : Q[i]? = some x) : (Q ++ t)[i]? = some x := by
  rw [List.getElem?_append_left (List.getElem?_eq_some_iff.mp h).1]; exact h
theorem app_at {α : Type} (Q : List α) (x : α) : (Q ++ [x])[Q.length]? = some x := by
  rw [List.getElem?_append_right (Nat.le_refl _), Nat.sub_self]; rfl
theorem app_or {α : Type} {Q : List α} {x y : α} {i : Nat} (h : (Q ++ [x])[i]? = some y) : Q[i]? = some y ∨ (i = Q.length ∧ y = x) := by
  by_cases l : i < Q.length
  · rw [List.getElem?_append_left l] at h; exact Or.inl h
  · have hl := (List.getElem?_eq_some_iff.mp h).1
    rw [List.length_append] at hl
    have e : i = Q.length := by
      have : [x].length = 1 := rfl
      omega
    subst e
    rw [app_at] at h
    exact Or.inr ⟨rfl, (Option.some.inj h).symm⟩
def OKQ (K N : Nat → Nat) (G P : Nat) (Q : Qu) : Prop := (∀ (i : Nat) (x : Nat × Nat × Nat), Q[i]? = some x → VdS K N G P x.1 ∧ x.2.1 ≤ i ∧ x.2.2 < 100) ∧ (Q.map (fun x => x.1)).Nodup
theorem psh_ok {K N : Nat → Nat} {G P : Nat} {Q : Qu} {x : Nat × Nat × Nat} (hQ : OKQ K N G P Q) (h1 : VdS K N G P x.1) (h2 : x.2.1 ≤ Q.length) (h3 : x.2.2 < 100) : OKQ K N G P (psh Q x) := by
  unfold psh
  cases h : hsQ Q x.1
  · rw [if_neg (by decide)]
    refine ⟨fun i y hy => ?_, ?_⟩
    · rcases app_or hy with q | ⟨rfl, rfl⟩
      · exact hQ.1 i y q
      · exact ⟨h1, h2, h3⟩
    · rw [List.map_append, List.nodup_append]
      refine ⟨hQ.2, by simp, fun a ha b hb => ?_⟩
      obtain ⟨y, hy, rfl⟩ := List.mem_map.mp ha
      have hb' : b = x.1 := by simpa using hb
      rw [hb']
      exact hsQ_f h y hy
  · rw [if_pos rfl]; exact hQ
theorem nd_len : ∀ (n : Nat) (l : List Nat), l.Nodup → (∀ x ∈ l, x < n) → l.length ≤ n
  | 0, l, _, h => by
    cases l with
    | nil => exact Nat.le_refl _
    | cons a l => exact absurd (h a List.mem_cons_self) (by omega)
  | n + 1, l, hn, h => by
    by_cases hm : n ∈ l
    · have h1 := nd_len n (l.erase n) (hn.erase n) (fun x hx => by
        have h2 := hn.mem_erase_iff.mp hx
        have h3 := h x h2.2
        have h4 := h2.1
        omega)
      rw [List.length_erase_of_mem hm] at h1
      omega
    · have h1 := nd_len n l hn (fun x hx => by
        have h3 := h x hx
        have h4 : x ≠ n := fun e => hm (e ▸ hx)
        omega)
      omega
def cd4 (s : Nat) : Nat := s % 32 + 32 * (s / 32 % 8 + 5 * (s / 256 % 8) + 25 * (s / 2048 % 8))
theorem ctS0 (s : Nat) : ctS s 0 = s / 32 % 8 := rfl
theorem ctS1 (s : Nat) : ctS s 1 = s / 256 % 8 := rfl
theorem ctS2 (s : Nat) : ctS s 2 = s / 2048 % 8 := rfl
theorem cd4_lt {K N : Nat → Nat} {G P s : Nat} (h : VdS K N G P s) : cd4 s < 4000 := by
  have h0 := h.2.1 0 (by omega)
  have h1 := h.2.1 1 (by omega)
  have h2 := h.2.1 2 (by omega)
  rw [ctS0] at h0
  rw [ctS1] at h1
  rw [ctS2] at h2
  unfold cd4
  omega
theorem cd4_inj {K N : Nat → Nat} {G P s t : Nat} (h : VdS K N G P s) (h' : VdS K N G P t) (e : cd4 s = cd4 t) : s = t := by
  have h0 := h.2.1 0 (by omega)
  have h1 := h.2.1 1 (by omega)
  have h2 := h.2.1 2 (by omega)
  have k0 := h'.2.1 0 (by omega)
  have k1 := h'.2.1 1 (by omega)
  have k2 := h'.2.1 2 (by omega)
  have hs := h.1
  have ht := h'.1
  rw [ctS0] at h0 k0
  rw [ctS1] at h1 k1
  rw [ctS2] at h2 k2
  unfold cd4 at e
  omega
theorem OKQ.len {K N : Nat → Nat} {G P : Nat} {Q : Qu} (h : OKQ K N G P Q) : Q.length ≤ 4000 := by
  have hm : ∀ x ∈ Q, VdS K N G P x.1 := fun x hx => by
    obtain ⟨i, hi⟩ := List.mem_iff_getElem?.mp hx
    exact (h.1 i x hi).1
  have h1 := nd_len 4000 (Q.map (fun x => cd4 x.1)) ?_ ?_
  · rw [List.length_map] at h1; exact h1
  · have h2 := h.2
    unfold List.Nodup at h2 ⊢
    rw [List.pairwise_map] at h2 ⊢
    exact h2.imp_of_mem (fun {a b} ha hb hne e => hne (cd4_inj (hm a ha) (hm b hb) e))
  · intro y hy
    obtain ⟨x, hx, rfl⟩ := List.mem_map.mp hy
    exact cd4_lt (hm x hx)
theorem psh_pre (Q : Qu) (x : Nat × Nat × Nat) : ∃ t : Qu, psh Q x = Q ++ t ∧ ∀ y ∈ t, y = x := by
  unfold psh
  split
  · exact ⟨[], (List.append_nil Q).symm, fun y hy => absurd hy List.not_mem_nil⟩
  · exact ⟨[x], rfl, fun y hy => by simpa using hy⟩
theorem exK_pre {A B K N : Nat → Nat} {G s d f : Nat} {st : Bool} {Q : Qu} : ∀ k, ∃ t : Qu, exK A B K N G s d f st Q k = Q ++ t ∧ ∀ y ∈ t, y.2.1 = d + 1
  | 0 => ⟨[], (List.append_nil Q).symm, fun y hy => absurd hy List.not_mem_nil⟩
  | k + 1 => by
    obtain ⟨t, h1, h2⟩ := exK_pre (A := A) (B := B) (K := K) (N := N) (G := G) (s := s) (d := d) (f := f) (st := st) (Q := Q) k
    rw [exK]
    split
    · obtain ⟨t2, h3, h4⟩ := psh_pre (exK A B K N G s d f st Q k) (nxS A B K G s (k / G) (k % G), d + 1, if st then 10 * (k / G) + k % G else f)
      refine ⟨t ++ t2, by rw [h3, h1, List.append_assoc], fun y hy => ?_⟩
      rcases List.mem_append.mp hy with q | q
      · exact h2 y q
      · rw [h4 y q]
    · exact ⟨t, h1, h2⟩
theorem exK_ok {A B K N : Nat → Nat} {G P h : Nat} {st : Bool} {Q : Qu} {x : Nat × Nat × Nat} (hO : GO G A B K) (hP : P ≤ 3) (hQ : OKQ K N G P Q) (hx : Q[h]? = some x) : ∀ k, k ≤ P * G → OKQ K N G P (exK A B K N G x.1 x.2.1 x.2.2 st Q k)
  | 0, _ => hQ
  | k + 1, hk => by
    have ih := exK_ok (st := st) hO hP hQ hx k (by omega)
    obtain ⟨t, h1, h2⟩ := exK_pre (A := A) (B := B) (K := K) (N := N) (G := G) (s := x.1) (d := x.2.1) (f := x.2.2) (st := st) (Q := Q) k
    obtain ⟨q1, q2, q3⟩ := hQ.1 h x hx
    have hl := (List.getElem?_eq_some_iff.mp hx).1
    have hG5 := hO.1
    have hG0 : 0 < G := by
      rcases Nat.eq_zero_or_pos G with e | e
      · rw [e, Nat.mul_zero] at hk; omega
      · exact e
    have hp : k / G < P := Nat.div_lt_of_lt_mul (by rw [Nat.mul_comm]; omega)
    have hg := Nat.mod_lt k hG0
    rw [exK]
    split
    · rename_i hc
      unfold pas at hc
      rw [Bool.and_eq_true] at hc
      refine psh_ok ih (nx_vd hO q1 hp hP hg hc.1) ?_ ?_
      · show x.2.1 + 1 ≤ _
        rw [h1, List.length_append]
        omega
      · show (if st then 10 * (k / G) + k % G else x.2.2) < 100
        split
        · omega
        · exact q3
    · exact ih
theorem exK_skip {A B K N : Nat → Nat} {G s d f : Nat} {st : Bool} {Q : Qu} {k : Nat} : ∀ m, (∀ j, k ≤ j → j < k + m → pas A B K N G s j = false) → exK A B K N G s d f st Q (k + m) = exK A B K N G s d f st Q k
  | 0, _ => rfl
  | m + 1, h => by
    rw [show k + (m + 1) = (k + m) + 1 by omega, exK, h (k + m) (by omega) (by omega), if_neg (by decide)]
    exact exK_skip m (fun j h1 h2 => h j h1 (by omega))
theorem bfs_pre {A B K N : Nat → Nat} {G P : Nat} : ∀ (n h : Nat) (Q : Qu), ∃ t : Qu, bfs A B K N G P n h Q = Q ++ t
  | 0, _, Q => ⟨[], by rw [bfs, List.append_nil]⟩
  | n + 1, h, Q => by
    rw [bfs]
    split
    · exact ⟨[], (List.append_nil Q).symm⟩
    · rename_i x hx
      obtain ⟨t1, h1, -⟩ := exK_pre (A := A) (B := B) (K := K) (N := N) (G := G) (s := x.1) (d := x.2.1) (f := x.2.2) (st := (h == 0)) (Q := Q) (P * G)
      obtain ⟨t2, h2⟩ := bfs_pre (A := A) (B := B) (K := K) (N := N) (G := G) (P := P) n (h + 1) (exK A B K N G x.1 x.2.1 x.2.2 (h == 0) Q (P * G))
      exact ⟨t1 ++ t2, by rw [h2, h1, List.append_assoc]⟩
/-! the first state -/
def st0 (C : Nat → Nat) : Nat → Nat
  | 0 => 0
  | p + 1 => st0 C p + C p * 2 ^ (5 + 3 * p)
theorem st0_lt {C : Nat → Nat} (h : ∀ p, p < 3 → C p < 5) : ∀ p, p ≤ 3 → st0 C p < 2 ^ (5 + 3 * p)
  | 0, _ => by show 0 < _; exact Nat.two_pow_pos _
  | p + 1, hp => by
    have h1 := st0_lt h p (by omega)
    have h2 := h p (by omega)
    rw [st0, show 5 + 3 * (p + 1) = 5 + 3 * p + 3 by omega, Nat.pow_add 2 (5 + 3 * p) 3]
    have h3 : C p * 2 ^ (5 + 3 * p) ≤ 4 * 2 ^ (5 + 3 * p) := Nat.mul_le_mul_right _ (by omega)
    omega
theorem st0_1 (C : Nat → Nat) : st0 C 1 = C 0 * 32 := by rw [st0, st0]; omega
theorem st0_2 (C : Nat → Nat) : st0 C 2 = C 0 * 32 + C 1 * 256 := by rw [st0, st0_1]
theorem st0_3 (C : Nat → Nat) : st0 C 3 = C 0 * 32 + C 1 * 256 + C 2 * 2048 := by rw [st0, st0_2]
theorem st0_ct {C : Nat → Nat} {P : Nat} (h : ∀ p, p < 3 → C p < 5) (h0 : 0 < P) (h3 : P ≤ 3) : (∀ p, p < P → ctS (st0 C P) p = C p) ∧ (∀ p, P ≤ p → p < 3 → ctS (st0 C P) p = 0) ∧ st0 C P % 32 = 0 := by
  have c0 := h 0 (by omega)
  have c1 := h 1 (by omega)
  have c2 := h 2 (by omega)
  rcases (show P = 1 ∨ P = 2 ∨ P = 3 by omega) with rfl | rfl | rfl
  · rw [st0_1]
    refine ⟨fun p hp => ?_, fun p h1 h2 => ?_, by omega⟩
    · obtain rfl : p = 0 := by omega
      rw [ctS0]; omega
    · rcases (show p = 1 ∨ p = 2 by omega) with rfl | rfl
      · rw [ctS1]; omega
      · rw [ctS2]; omega
  · rw [st0_2]
    refine ⟨fun p hp => ?_, fun p h1 h2 => ?_, by omega⟩
    · rcases (show p = 0 ∨ p = 1 by omega) with rfl | rfl
      · rw [ctS0]; omega
      · rw [ctS1]; omega
    · obtain rfl : p = 2 := by omega
      rw [ctS2]; omega
  · rw [st0_3]
    refine ⟨fun p hp => ?_, fun p h1 h2 => by omega, by omega⟩
    rcases (show p = 0 ∨ p = 1 ∨ p = 2 by omega) with rfl | rfl | rfl
    · rw [ctS0]; omega
    · rw [ctS1]; omega
    · rw [ctS2]; omega
theorem st0_bit {C : Nat → Nat} {P : Nat} (h : ∀ p, p < 3 → C p < 5) (h0 : 0 < P) (h3 : P ≤ 3) {i : Nat} (hi : i < 5) : (st0 C P).testBit i = false := by
  have h1 := (st0_ct h h0 h3).2.2
  have h2 : (st0 C P % 2 ^ 5).testBit i = false := by
    rw [show (2 ^ 5 : Nat) = 32 from rfl, h1]; exact Nat.zero_testBit i
  rw [Nat.testBit_mod_two_pow, decide_eq_true hi, Bool.true_and] at h2
  exact h2
theorem st0_vd {A B K N C : Nat → Nat} {G P : Nat} (hO : GO G A B K) (h : ∀ p, p < 3 → C p < 5) (h0 : 0 < P) (h3 : P ≤ 3) : VdS K N G P (st0 C P) := by
  have hG5 := hO.1
  have h14 : st0 C P < 2 ^ 14 := Nat.lt_of_lt_of_le (st0_lt h P h3) (Nat.pow_le_pow_right (by omega) (by omega))
  obtain ⟨a, b, -⟩ := st0_ct h h0 h3
  refine ⟨h14, fun p hp => ?_, b, fun g hg => ?_, fun g hg ht => ?_, fun g _ hg => st0_bit h h0 h3 hg⟩
  · by_cases l : p < P
    · rw [a p l]; exact h p hp
    · rw [b p (by omega) hp]; omega
  · have := rul_le K g
    rw [st0_bit h h0 h3 (by omega), st0_bit h h0 h3 (by omega)]
  · rw [st0_bit h h0 h3 (by omega)] at ht; cases ht
theorem st0_ok {A B K N C : Nat → Nat} {G P : Nat} (hO : GO G A B K) (h : ∀ p, p < 3 → C p < 5) (h0 : 0 < P) (h3 : P ≤ 3) : OKQ K N G P [(st0 C P, 0, 0)] := by
  refine ⟨fun i x hx => ?_, by simp⟩
  cases i with
  | zero =>
    cases hx
    exact ⟨st0_vd hO h h0 h3, Nat.le_refl _, by show (0 : Nat) < 100; omega⟩
  | succ i => cases hx
theorem bfs_ok {A B K N : Nat → Nat} {G P : Nat} (hO : GO G A B K) (hP : P ≤ 3) : ∀ (n h : Nat) (Q : Qu), OKQ K N G P Q → OKQ K N G P (bfs A B K N G P n h Q)
  | 0, _, Q, hQ => by rw [bfs]; exact hQ
  | n + 1, h, Q, hQ => by
    rw [bfs]
    split
    · exact hQ
    · rename_i x hx
      exact bfs_ok hO hP n (h + 1) _ (exK_ok hO hP hQ hx _ (Nat.le_refl _))
