/-! ===== the class's walk ===== -/
theorem cn_xor (a b : Nat) : nI a ^^^ nI b = nI (a ^^^ b) := by
  apply Int32.toBitVec_inj.mp
  show BitVec.ofNat 32 a ^^^ BitVec.ofNat 32 b = BitVec.ofNat 32 (a ^^^ b)
  exact BitVec.ofNat_xor.symm
theorem and_not {f : Nat → Bool} {m s : Nat} (hm : m ≤ 5) : nI (bitB f m) &&& (nI s ^^^ (-1)) = nI (bitB (fun g => f g && !s.testBit g) m) := by
  apply Int32.toBitVec_inj.mp
  show BitVec.ofNat 32 (bitB f m) &&& (BitVec.ofNat 32 s ^^^ BitVec.allOnes 32) = BitVec.ofNat 32 (bitB (fun g => f g && !s.testBit g) m)
  apply BitVec.eq_of_getLsbD_eq
  intro i hi
  rw [BitVec.getLsbD_and, BitVec.getLsbD_xor, BitVec.getLsbD_ofNat, BitVec.getLsbD_ofNat, BitVec.getLsbD_ofNat, BitVec.getLsbD_allOnes]
  have e : decide (i < 32) = true := decide_eq_true hi
  rw [e]
  by_cases h : i < m
  · rw [bitB_tb f m i h, bitB_tb _ m i h]
    cases f i <;> cases s.testBit i <;> rfl
  · rw [bitB_out f (by omega), bitB_out _ (by omega)]
    rfl
theorem shr1 {S g : Nat} (hS : S < 64) (hg : g < 6) : nI S >>> (nI g &&& 31) = nI (S / 2 ^ g) := cn_shr S g hS hg
theorem osetN_B (K N : Nat → Nat) : ∀ G, osetN K N G = bitB (fun g => opn K N g 0) G
  | 0 => rfl
  | G + 1 => by rw [osetN, bitB, osetN_B K N G]
theorem bitB_congr {f g : Nat → Bool} : ∀ m, (∀ j, j < m → f j = g j) → bitB f m = bitB g m
  | 0, _ => rfl
  | m + 1, h => by rw [bitB, bitB, bitB_congr m (fun j hj => h j (by omega)), h m (by omega)]
theorem shl_ct {a p : Nat} (hp : p < 3) (ha : a < 8) : nI a <<< ((5 + (3 * nI p)) &&& 31) = nI (a * 2 ^ (5 + 3 * p)) := by
  rcases (show p = 0 ∨ p = 1 ∨ p = 2 by omega) with rfl | rfl | rfl
  · exact pk_shlN _ 5 (by decide) (by omega)
  · exact pk_shlN _ 8 (by decide) (by omega)
  · exact pk_shlN _ 11 (by decide) (by omega)
theorem ct_i {s p : Nat} (hs : s < 2 ^ 14) (hp : p < 3) : (nI s >>> ((5 + (3 * nI p)) &&& 31)) &&& 7 = nI (ctS s p) := by
  have h : nI s >>> ((5 + (3 * nI p)) &&& 31) = nI (s / 2 ^ (5 + 3 * p)) := by
    rcases (show p = 0 ∨ p = 1 ∨ p = 2 by omega) with rfl | rfl | rfl
    · exact pk_shrN (by omega) _ 5 (by decide)
    · exact pk_shrN (by omega) _ 8 (by decide)
    · exact pk_shrN (by omega) _ 11 (by decide)
  rw [h, pk_andN (Nat.lt_of_le_of_lt (Nat.div_le_self _ _) (by omega)) 3 (by decide)]
  rfl
theorem nx_i {A B K : Nat → Nat} {G s p g : Nat} (hp : p < 3) (hb : byd A B (ctS s p) g < 8) : nI (s ||| shB K G g) ^^^ ((nI (ctS s p) ^^^ nI (byd A B (ctS s p) g)) <<< ((5 + (3 * nI p)) &&& 31)) = nI (nxS A B K G s p g) := by
  have hx := nx_x8 hb
  rw [cn_xor, shl_ct hp hx, cn_xor]
  unfold nxS
  rw [Nat.shiftLeft_eq]
/-! the queue's own: entries, the bits of those reached -/
def CQ (Q : Qu) (qu : Nat → Int32) (re : Nat → Int64) : Prop := (∀ (i : Nat) (x : Nat × Nat × Nat), Q[i]? = some x → qu i = nI (x.2.2 * 16384 + x.1)) ∧ ∀ s, s < 2 ^ 14 → (re (s / 64)).toBitVec.getLsbD (s % 64) = hsQ Q s
theorem oneh0 : ∀ k, k < 64 → ((1 : Int64) <<< (lN k &&& 63)).toBitVec = BitVec.twoPow 64 k := by decide +kernel
theorem oneh {s : Nat} (hs : s < 2 ^ 14) : ((1 : Int64) <<< (((nI s &&& 63)).toInt64 &&& 63)).toBitVec = BitVec.twoPow 64 (s % 64) := by
  rw [pk_andN (show s < 2 ^ 32 by omega) 6 (by decide)]
  have h := Nat.mod_lt s (show 0 < 2 ^ 6 by omega)
  rw [nI_l (by omega)]
  exact oneh0 _ h
theorem bt_t {r y : Int64} {k : Nat} (hy : y.toBitVec = BitVec.twoPow 64 k) (hk : k < 64) : (r &&& y = 0) ↔ r.toBitVec.getLsbD k = false := by
  rw [← Int64.toBitVec_inj, Int64.toBitVec_and, hy, BitVec.and_twoPow]
  cases h : r.toBitVec.getLsbD k
  · simp
  · simp only [if_true]
    constructor
    · intro e
      have e2 := congrArg (fun x => BitVec.getLsbD x k) e
      simp only [BitVec.getLsbD_twoPow, hk, decide_true, Bool.true_and] at e2
      have e3 : (0 : Int64).toBitVec.getLsbD k = false := BitVec.getLsbD_zero
      rw [e3] at e2
      cases e2
    · intro e; cases e
theorem t_enq {Q : Qu} {x : Nat × Nat × Nat} {qu : Nat → Int32} {re : Nat → Int64} {post : Int32 → (Nat → Int32) → (Nat → Int64) → Prop} (hC : CQ Q qu re) (hs : x.1 < 2 ^ 14) (hf : x.2.2 < 100) (hl : (psh Q x).length ≤ 4000) (hp : ∀ qu' re', CQ (psh Q x) qu' re' → post (nI (psh Q x).length) qu' re') : PX6_enqueue (nI x.1) (nI x.2.2) (nI Q.length) qu re post := by
  have e6 : nI x.1 >>> (6 &&& 31) = nI (x.1 / 64) := pk_shrN (by omega) _ 6 (by decide)
  have hw : x.1 / 64 < 256 := by omega
  have hk := Nat.mod_lt x.1 (show 0 < 64 by omega)
  have hy := oneh hs
  rintro _ rfl
  rw [e6]
  refine pk_lt (x.1 / 64) 0 (fun h => absurd h (by omega)) (fun _ => pk_le 256 (x.1 / 64) (fun h => absurd h (by omega)) (fun _ => ?_))
  have hbit := hC.2 x.1 hs
  cases hh : hsQ Q x.1
  · rw [hh] at hbit
    have hps : psh Q x = Q ++ [x] := by unfold psh; rw [hh, if_neg (by decide)]
    have hlen : (Q ++ [x]).length = Q.length + 1 := by rw [List.length_append]; rfl
    rw [hps] at hl hp
    rw [hlen] at hl hp
    refine pk_lt Q.length 4000 (fun _ => ?_) (fun h => absurd h (by omega))
    generalize (1 : Int64) <<< (((nI x.1 &&& 63)).toInt64 &&& 63) = y at *
    rintro _ rfl
    refine ⟨vp_in_nI (by omega) (by omega), fun _ => ⟨vp_in_nI (by omega) (by omega), ?_⟩, fun h => absurd ((lg_cmp_eq _ _).mpr ((bt_t hy hk).mpr (by rw [nI_clamp (by omega)]; exact hbit))) h⟩
    rintro _ rfl
    refine ⟨vp_in_nI (by omega) (by omega), ?_⟩
    rintro _ rfl _ rfl
    refine ⟨vp_in_nI (by omega) (by omega), ?_⟩
    rintro _ rfl _ rfl
    rw [nI_clamp (by omega), nI_clamp (by omega), nI_1]
    refine hp _ _ ⟨fun i z hz => ?_, fun s hs2 => ?_⟩
    · rcases app_or hz with q | ⟨rfl, rfl⟩
      · have := (List.getElem?_eq_some_iff.mp q).1
        rw [pk_un (by omega)]
        exact hC.1 i z q
      · rw [pk_us, pk_shlN (14 &&& 31) 14 (by decide) (by omega), cn_or]
        have e := Nat.two_pow_add_eq_or_of_lt hs z.2.2
        rw [Nat.mul_comm z.2.2, ← e, Nat.mul_comm]
    · rw [hsQ_app]
      by_cases e : s / 64 = x.1 / 64
      · rw [e, pk_uLs, Int64.toBitVec_or, BitVec.getLsbD_or, hy, BitVec.getLsbD_twoPow, decide_eq_true hk, Bool.true_and]
        have h1 := hC.2 s hs2
        rw [e] at h1
        rw [h1]
        congr 1
        by_cases e2 : x.1 = s
        · subst e2; simp
        · rw [decide_eq_false (by omega)]
          exact (beq_eq_false_iff_ne.mpr e2).symm
      · rw [pk_uLn e, hC.2 s hs2, beq_eq_false_iff_ne.mpr (show x.1 ≠ s from fun q => e (by rw [q])), Bool.or_false]
  · rw [hh] at hbit
    have hps : psh Q x = Q := by unfold psh; rw [hh, if_pos rfl]
    rw [hps] at hl hp
    refine pk_lt Q.length 4000 (fun _ => ?_) (fun _ => hp qu re hC)
    generalize (1 : Int64) <<< (((nI x.1 &&& 63)).toInt64 &&& 63) = y at *
    rintro _ rfl
    refine ⟨vp_in_nI (by omega) (by omega), fun h => ?_, fun _ => hp qu re hC⟩
    have h2 := (bt_t hy hk).mp ((lg_cmp_eq _ _).mp h)
    rw [nI_clamp (by omega), hbit] at h2
    cases h2
/-! what follows a state -/
theorem pas_at {A B K N : Nat → Nat} {G s p g : Nat} (hg : g < G) : pas A B K N G s (p * G + g) = (opf A B K N (ctS s p) g && !s.testBit g) := by
  unfold pas
  have e1 : (p * G + g) / G = p := by rw [Nat.mul_comm, Nat.mul_add_div (by omega), Nat.div_eq_of_lt hg, Nat.add_zero]
  have e2 : (p * G + g) % G = g := by rw [Nat.mul_comm, Nat.mul_add_mod, Nat.mod_eq_of_lt hg]
  rw [e1, e2]
theorem exK_yes {A B K N : Nat → Nat} {G s d f p g : Nat} {st : Bool} {Q : Qu} (hg : g < G) (h : (opf A B K N (ctS s p) g && !s.testBit g) = true) : exK A B K N G s d f st Q (p * G + (g + 1)) = psh (exK A B K N G s d f st Q (p * G + g)) (nxS A B K G s p g, d + 1, if st then 10 * p + g else f) := by
  have e1 : (p * G + g) / G = p := by rw [Nat.mul_comm, Nat.mul_add_div (by omega), Nat.div_eq_of_lt hg, Nat.add_zero]
  have e2 : (p * G + g) % G = g := by rw [Nat.mul_comm, Nat.mul_add_mod, Nat.mod_eq_of_lt hg]
  rw [show p * G + (g + 1) = (p * G + g) + 1 from rfl, exK, pas_at hg, if_pos h, e1, e2]
theorem exK_no {A B K N : Nat → Nat} {G s d f p g : Nat} {st : Bool} {Q : Qu} (hg : g < G) (h : (opf A B K N (ctS s p) g && !s.testBit g) = false) : exK A B K N G s d f st Q (p * G + (g + 1)) = exK A B K N G s d f st Q (p * G + g) := by
  rw [show p * G + (g + 1) = (p * G + g) + 1 from rfl, exK, pas_at hg, if_neg (by rw [h]; decide)]
theorem pG_le {p P G : Nat} (h : p < P) : (p + 1) * G ≤ P * G := Nat.mul_le_mul_right G h
theorem t_en55 {A B K N : Nat → Nat} {cA cB sh : Nat → Int32} {G P h p : Nat} {st : Bool} {Q : Qu} {x : Nat × Nat × Nat} {post : Int32 → (Nat → Int32) → (Nat → Int64) → Prop} {KK : Int32 → Int32 → (Nat → Int32) → (Nat → Int64) → Prop} (hO : GO G A B K) (hA : Rp G cA A) (hB : Rp G cB B) (hSh : ∀ r, r < 5 → sh r = nI (shB K G r)) (hP : P ≤ 3) (hQ : OKQ K N G P Q) (hx : Q[h]? = some x) (hp : p < P)
    (hk : ∀ qu re, CQ (exK A B K N G x.1 x.2.1 x.2.2 st Q ((p + 1) * G)) qu re → ∀ y : Int32, y = nI p + 1 → KK y (nI (exK A B K N G x.1 x.2.1 x.2.2 st Q ((p + 1) * G)).length) qu re) :
    ∀ (e g n : Nat) (qu : Nat → Int32) (re : Nat → Int64), g + e = G → e < n → CQ (exK A B K N G x.1 x.2.1 x.2.2 st Q (p * G + g)) qu re → PX6_enqueueNext_55 post (nI x.1) (bI st) (nI x.2.2) (nI G) cA cB sh KK (nI p) (nI (ctS x.1 p)) (nI (bitB (fun g => opf A B K N (ctS x.1 p) g && !x.1.testBit g) G)) n (nI g) (nI (exK A B K N G x.1 x.2.1 x.2.2 st Q (p * G + g)).length) qu re := by
  have hG5 := hO.1
  have hS64 : bitB (fun g => opf A B K N (ctS x.1 p) g && !x.1.testBit g) G < 64 := Nat.lt_of_lt_of_le (bitB_lt _ G) (Nat.le_trans (Nat.pow_le_pow_right (by omega) hG5) (by omega))
  obtain ⟨hV, hd, hf⟩ := hQ.1 h x hx
  have hc5 := hV.2.1 p (by omega)
  intro e
  induction e with
  | zero =>
    intro g n qu re he hn hC
    obtain ⟨n, rfl⟩ : ∃ k, n = k + 1 := ⟨n - 1, by omega⟩
    obtain rfl : g = G := by omega
    rw [← Nat.succ_mul] at hC ⊢
    refine pk_le 5 g (fun _ => hk qu re hC) (fun _ => ?_)
    rw [shr1 hS64 (by omega), Nat.div_eq_of_lt (bitB_lt _ g)]
    exact pk_eq 0 0 (fun _ => hk qu re hC) (fun h => absurd rfl h)
  | succ e ih =>
    intro g n qu re he hn hC
    obtain ⟨n, rfl⟩ : ∃ k, n = k + 1 := ⟨n - 1, by omega⟩
    have hg : g < G := by omega
    refine pk_le 5 g (fun h => absurd h (by omega)) (fun _ => ?_)
    rw [shr1 hS64 (by omega)]
    refine pk_eq (bitB (fun g => opf A B K N (ctS x.1 p) g && !x.1.testBit g) G / 2 ^ g) 0 (fun hz => ?_) (fun _ => ?_) rfl rfl (Nat.lt_of_le_of_lt (Nat.div_le_self _ _) (by omega))
    · have hlt : bitB (fun g => opf A B K N (ctS x.1 p) g && !x.1.testBit g) G < 2 ^ g := by
        rcases Nat.div_eq_zero_iff.mp hz with q | q
        · exact absurd q (Nat.ne_of_gt (Nat.two_pow_pos g))
        · exact q
      have es : exK A B K N G x.1 x.2.1 x.2.2 st Q ((p + 1) * G) = exK A B K N G x.1 x.2.1 x.2.2 st Q (p * G + g) := by
        rw [Nat.succ_mul, show p * G + G = p * G + g + (G - g) by omega]
        refine exK_skip (G - g) (fun j h1 h2 => ?_)
        rw [show j = p * G + (j - p * G) by omega, pas_at (by omega)]
        have hb := bitB_tb (fun g => opf A B K N (ctS x.1 p) g && !x.1.testBit g) G (j - p * G) (by omega)
        rw [bit_out hlt (by omega)] at hb
        exact hb.symm
      rw [es] at hk
      exact hk qu re hC
    · rw [l1, cn_and, Nat.and_one_is_mod, bitB_at _ G g hg]
      have hok := exK_ok (st := st) hO hP hQ hx (p * G + (g + 1)) (by have := pG_le (G := G) hp; rw [Nat.succ_mul] at this; omega)
      cases hb : (opf A B K N (ctS x.1 p) g && !x.1.testBit g)
      · rw [if_neg (by decide)]
        refine pk_eq 0 0 (fun _ => ?_) (fun h => absurd rfl h)
        rintro _ rfl
        have nx := ih (g + 1) n qu re (by omega) (by omega)
        rw [exK_no hg hb] at nx
        rw [nI_add]
        exact nx hC
      · rw [if_pos rfl]
        have hb' := (Bool.and_eq_true _ _ ▸ hb : opf A B K N (ctS x.1 p) g = true ∧ (!x.1.testBit g) = true)
        have hby : byd A B (ctS x.1 p) g < 5 := byd_lt hO hg
        have nx := ih (g + 1) n
        rw [exK_yes hg hb] at nx hok
        refine pk_eq 1 0 (fun h => absurd h (by omega)) (fun _ => ⟨vp_in_nI (by omega) (by omega), ?_⟩)
        rintro _ rfl
        rw [nI_clamp (by omega), hSh g (by omega), cn_or]
        refine t_beyond hO hA hB hc5 hg (opf_beside hb'.1) ?_
        rintro _ rfl
        rw [nx_i (by omega) (by omega)]
        have hlt : nxS A B K G x.1 p g < 2 ^ 14 := nx_lt hG5 hV.1 (by omega) (by omega)
        cases st
        · refine pk_eq 0 0 (fun _ => ?_) (fun h => absurd rfl h)
          refine t_enq (x := (nxS A B K G x.1 p g, x.2.1 + 1, x.2.2)) hC hlt hf hok.len (fun qu' re' h' => ?_)
          rintro _ rfl
          rw [nI_add]
          exact nx qu' re' (by omega) (by omega) h'
        · refine pk_eq 1 0 (fun h => absurd h (by omega)) (fun _ => ?_)
          rw [l10, pk_mul, nI_add]
          refine t_enq (x := (nxS A B K G x.1 p g, x.2.1 + 1, 10 * p + g)) hC hlt (by show 10 * p + g < 100; omega) hok.len (fun qu' re' h' => ?_)
          rintro _ rfl
          rw [nI_add]
          exact nx qu' re' (by omega) (by omega) h'
theorem t_courtIn {s p : Nat} {post : Int32 → Prop} (hs : s < 2 ^ 14) (hp : p < 3) (h : post (nI (ctS s p))) : PX6_courtIn (nI s) (nI p) post := by
  rw [← ct_i hs hp] at h
  exact h
theorem t_en3 {A B K N : Nat → Nat} {cA cB sh lv : Nat → Int32} {G P h : Nat} {st : Bool} {Q : Qu} {x : Nat × Nat × Nat} {post : Int32 → (Nat → Int32) → (Nat → Int64) → Prop} (hO : GO G A B K) (hA : Rp G cA A) (hB : Rp G cB B) (hSh : ∀ r, r < 5 → sh r = nI (shB K G r)) (hLv : ∀ c, c < 5 → lv c = nI (bitB (fun g => opf A B K N c g) G)) (hP : P ≤ 3) (hQ : OKQ K N G P Q) (hx : Q[h]? = some x)
    (hp : ∀ qu re, CQ (exK A B K N G x.1 x.2.1 x.2.2 st Q (P * G)) qu re → post (nI (exK A B K N G x.1 x.2.1 x.2.2 st Q (P * G)).length) qu re) :
    ∀ (e p n : Nat) (qu : Nat → Int32) (re : Nat → Int64), p + e = P → e < n → CQ (exK A B K N G x.1 x.2.1 x.2.2 st Q (p * G)) qu re → PX6_enqueueNext_3 post (nI x.1) (bI st) (nI x.2.2) (nI G) (nI P) cA cB lv sh n (nI p) (nI (exK A B K N G x.1 x.2.1 x.2.2 st Q (p * G)).length) qu re := by
  have hG5 := hO.1
  obtain ⟨hV, hd, hf⟩ := hQ.1 h x hx
  intro e
  induction e with
  | zero =>
    intro p n qu re he hn hC
    obtain ⟨n, rfl⟩ : ∃ k, n = k + 1 := ⟨n - 1, by omega⟩
    obtain rfl : p = P := by omega
    exact pk_le 3 p (fun _ => hp qu re hC) (fun _ => pk_le p p (fun _ => hp qu re hC) (fun h => absurd h (by omega)))
  | succ e ih =>
    intro p n qu re he hn hC
    obtain ⟨n, rfl⟩ : ∃ k, n = k + 1 := ⟨n - 1, by omega⟩
    have hc5 := hV.2.1 p (by omega)
    refine pk_le 3 p (fun h => absurd h (by omega)) (fun _ => pk_le P p (fun h => absurd h (by omega)) (fun _ => t_courtIn hV.1 (by omega) (pk_le 5 (ctS x.1 p) (fun h => absurd h (by omega)) (fun _ => ⟨vp_in_nI (by omega) (by omega), ?_⟩))))
    rintro _ rfl
    rw [nI_clamp (by omega), hLv _ hc5, and_not hG5]
    refine ⟨G + 1, t_en55 hO hA hB hSh hP hQ hx (by omega) (fun qu' re' h' => ?_) G 0 (G + 1) qu re (by omega) (by omega) hC⟩
    rintro _ rfl
    rw [nI_1]
    exact ih (p + 1) n qu' re' (by omega) (by omega) h'
theorem t_enN {A B K N : Nat → Nat} {cA cB sh lv qu : Nat → Int32} {re : Nat → Int64} {G P h : Nat} {st : Bool} {Q : Qu} {x : Nat × Nat × Nat} {post : Int32 → (Nat → Int32) → (Nat → Int64) → Prop} (hO : GO G A B K) (hA : Rp G cA A) (hB : Rp G cB B) (hSh : ∀ r, r < 5 → sh r = nI (shB K G r)) (hLv : ∀ c, c < 5 → lv c = nI (bitB (fun g => opf A B K N c g) G)) (hP : P ≤ 3) (hQ : OKQ K N G P Q) (hx : Q[h]? = some x) (hC : CQ Q qu re)
    (hp : ∀ qu re, CQ (exK A B K N G x.1 x.2.1 x.2.2 st Q (P * G)) qu re → post (nI (exK A B K N G x.1 x.2.1 x.2.2 st Q (P * G)).length) qu re) : PX6_enqueueNext (nI x.1) (bI st) (nI x.2.2) (nI Q.length) (nI G) (nI P) cA cB lv sh qu re post := by
  have h := t_en3 (st := st) hO hA hB hSh hLv hP hQ hx hp P 0 (P + 1) qu re (by omega) (by omega)
  rw [Nat.zero_mul, exK] at h
  exact ⟨P + 1, h hC⟩
/-! level by level -/
def Qfl (A B K N C : Nat → Nat) (G P : Nat) : Qu := bfs A B K N G P 4001 0 [(st0 C P, 0, 0)]
theorem Qfl_ok {A B K N C : Nat → Nat} {G P : Nat} (hO : GO G A B K) (h : ∀ p, p < 3 → C p < 5) (h0 : 0 < P) (h3 : P ≤ 3) : OKQ K N G P (Qfl A B K N C G P) := bfs_ok hO h3 _ _ _ (st0_ok hO h h0 h3)
def SPI (A B K N : Nat → Nat) (G P : Nat) (gl : Nat → Bool) (Qf Q : Qu) (h e L : Nat) : Prop := OKQ K N G P Q ∧ bfs A B K N G P (4001 - h) h Q = Qf ∧ (∀ (j : Nat) (y : Nat × Nat × Nat), j < h → Q[j]? = some y → gl y.1 = false) ∧ (∀ (i : Nat) (y : Nat × Nat × Nat), h ≤ i → i < e → Q[i]? = some y → y.2.1 = L) ∧ (∀ (i : Nat) (y : Nat × Nat × Nat), e ≤ i → Q[i]? = some y → y.2.1 = L + 1) ∧ e ≤ Q.length ∧ (L = 0 → e = 1) ∧ L ≤ h
theorem SPI.next {A B K N : Nat → Nat} {G P : Nat} {gl : Nat → Bool} {Qf Q : Qu} {h e L : Nat} {x : Nat × Nat × Nat} (hO : GO G A B K) (hP : P ≤ 3) (H : SPI A B K N G P gl Qf Q h e L) (hh : h < e) (hx : Q[h]? = some x) (hg : gl x.1 = false) : SPI A B K N G P gl Qf (exK A B K N G x.1 x.2.1 x.2.2 (h == 0) Q (P * G)) (h + 1) e L := by
  obtain ⟨h1, h2, h3, h4, h5, h6, h7, h8⟩ := H
  obtain ⟨t, ht, hd⟩ := exK_pre (A := A) (B := B) (K := K) (N := N) (G := G) (s := x.1) (d := x.2.1) (f := x.2.2) (st := (h == 0)) (Q := Q) (P * G)
  have hl := h1.len
  have back : ∀ {i : Nat} {y : Nat × Nat × Nat}, i < Q.length → (exK A B K N G x.1 x.2.1 x.2.2 (h == 0) Q (P * G))[i]? = some y → Q[i]? = some y := fun hi hy => by
    rw [ht, List.getElem?_append_left hi] at hy; exact hy
  refine ⟨exK_ok hO hP h1 hx _ (Nat.le_refl _), ?_, fun j y hj hy => ?_, fun i y hi1 hi2 hy => ?_, fun i y hi hy => ?_, ?_, h7, by omega⟩
  · rw [show 4001 - h = (4001 - (h + 1)) + 1 by omega, bfs_some hx] at h2
    exact h2
  · have hy' := back (by omega) hy
    by_cases q : j = h
    · subst q
      rw [hx] at hy'
      cases hy'
      exact hg
    · exact h3 j y (by omega) hy'
  · exact h4 i y (by omega) hi2 (back (by omega) hy)
  · by_cases q : i < Q.length
    · exact h5 i y hi (back q hy)
    · rw [ht, List.getElem?_append_right (by omega)] at hy
      rw [hd y (List.mem_of_getElem? hy), h4 h x (Nat.le_refl _) hh hx]
  · rw [ht, List.length_append]; omega
theorem t_sp30 {A B K N : Nat → Nat} {cA cB sh lv : Nat → Int32} {G P : Nat} {oA gk go : Int32} {gl : Nat → Bool} {Qf : Qu} {post : Int32 → Int32 → Int32 → (Nat → Int32) → (Nat → Int64) → Prop} {KK : Int32 → Int32 → Int32 → Int32 → Int32 → (Nat → Int32) → (Nat → Int64) → Prop} (hO : GO G A B K) (hA : Rp G cA A) (hB : Rp G cB B) (hSh : ∀ r, r < 5 → sh r = nI (shB K G r)) (hLv : ∀ c, c < 5 → lv c = nI (bitB (fun g => opf A B K N c g) G)) (hP : P ≤ 3)
    (hgl : ∀ s, VdS K N G P s → ∀ post, post (bI (gl s)) → PX6_isGoal (nI s) oA gk go (nI P) post)
    (hp1 : ∀ (i : Nat) (x : Nat × Nat × Nat), Qf[i]? = some x → gl x.1 = true → (∀ (j : Nat) (y : Nat × Nat × Nat), j < i → Qf[j]? = some y → gl y.1 = false) → ∀ n qu re, post (nI x.2.1) (if i = 0 then -4 else nI x.2.2) n qu re)
    {e L : Nat} (hk : ∀ Q qu re, SPI A B K N G P gl Qf Q e e L → CQ Q qu re → KK (nI e) (nI (L + 1)) (-4) (-4) (nI Q.length) qu re) :
    ∀ (d h n : Nat) (Q : Qu) (qu : Nat → Int32) (re : Nat → Int64), h + d = e → d < n → SPI A B K N G P gl Qf Q h e L → CQ Q qu re → PX6_spread_30 post oA gk go (nI G) (nI P) cA cB lv sh KK (nI L) (nI e) n (nI h) (-4) (-4) (nI Q.length) qu re := by
  intro d
  induction d with
  | zero =>
    intro h n Q qu re hd hn H hC
    obtain ⟨n, rfl⟩ : ∃ k, n = k + 1 := ⟨n - 1, by omega⟩
    obtain rfl : h = e := by omega
    have hl := H.1.len
    have h6 := H.2.2.2.2.2.1
    refine pk_le h h (fun _ => ?_) (fun h => absurd h (by omega))
    rintro _ rfl
    rw [nI_1]
    exact hk Q qu re H hC
  | succ d ih =>
    intro h n Q qu re hd hn H hC
    obtain ⟨n, rfl⟩ : ∃ k, n = k + 1 := ⟨n - 1, by omega⟩
    have H0 := H
    obtain ⟨h1, h2, h3, h4, h5, h6, h7, h8⟩ := H
    have hl := h1.len
    obtain ⟨x, hx⟩ : ∃ x, Q[h]? = some x := ⟨_, List.getElem?_eq_getElem (show h < Q.length by omega)⟩
    obtain ⟨hV, hdx, hf⟩ := h1.1 h x hx
    have hL := h4 h x (Nat.le_refl _) (by omega) hx
    have hs := hV.1
    refine pk_le e h (fun h => absurd h (by omega)) (fun _ => ⟨vp_in_nI (by omega) (by omega), ?_⟩)
    rintro _ rfl
    rw [nI_clamp (by omega), hC.1 h x hx, pk_andN (show x.2.2 * 16384 + x.1 < 2 ^ 32 by omega) 14 (by decide), show (x.2.2 * 16384 + x.1) % 2 ^ 14 = x.1 by omega]
    refine ⟨vp_in_nI (by omega) (by omega), ?_⟩
    rintro _ rfl
    rw [pk_shrN (show x.2.2 * 16384 + x.1 < 2 ^ 31 by omega) (14 &&& 31) 14 (by decide), show (x.2.2 * 16384 + x.1) / 2 ^ 14 = x.2.2 by omega]
    refine hgl x.1 hV _ ?_
    cases hg : gl x.1
    · refine pk_eq 0 0 (fun _ => ?_) (fun h => absurd rfl h)
      have nx := H0.next hO hP (by omega) hx hg
      by_cases hL0 : L = 0
      · have e1 := h7 hL0
        have h0 : h = 0 := by omega
        subst h0
        refine pk_eq L 0 (fun _ => ?_) (fun h => absurd hL0 h)
        refine t_enN (st := true) hO hA hB hSh hLv hP h1 hx hC (fun qu' re' hC' => ?_)
        rintro _ rfl
        rw [nI_1]
        exact ih (0 + 1) n _ qu' re' (by omega) (by omega) nx hC'
      · have h0 : (h == 0) = false := beq_eq_false_iff_ne.mpr (by omega)
        rw [h0] at nx
        refine pk_eq L 0 (fun h => absurd h hL0) (fun _ => ?_)
        refine t_enN (st := false) hO hA hB hSh hLv hP h1 hx hC (fun qu' re' hC' => ?_)
        rintro _ rfl
        rw [nI_1]
        exact ih (h + 1) n _ qu' re' (by omega) (by omega) nx hC'
    · refine pk_eq 1 0 (fun h => absurd h (by omega)) (fun _ => ?_)
      obtain ⟨t, ht⟩ := bfs_pre (A := A) (B := B) (K := K) (N := N) (G := G) (P := P) (4001 - h) h Q
      rw [h2] at ht
      have r := hp1 h x (by rw [ht]; exact app_some hx) hg (fun j y hj hy => by
        rw [ht, List.getElem?_append_left (by omega)] at hy
        exact h3 j y hj hy)
      rw [hL] at r
      refine pk_eq L 0 (fun hL0 => ?_) (fun hL0 => ?_)
      · have e1 := h7 hL0
        rw [if_pos (by omega)] at r
        exact r _ _ _
      · rw [if_neg (by omega)] at r
        exact r _ _ _
theorem t_sp4 {A B K N : Nat → Nat} {cA cB sh lv : Nat → Int32} {G P : Nat} {oA gk go : Int32} {gl : Nat → Bool} {Qf : Qu} {post : Int32 → Int32 → Int32 → (Nat → Int32) → (Nat → Int64) → Prop} (hO : GO G A B K) (hA : Rp G cA A) (hB : Rp G cB B) (hSh : ∀ r, r < 5 → sh r = nI (shB K G r)) (hLv : ∀ c, c < 5 → lv c = nI (bitB (fun g => opf A B K N c g) G)) (hP : P ≤ 3)
    (hgl : ∀ s, VdS K N G P s → ∀ post, post (bI (gl s)) → PX6_isGoal (nI s) oA gk go (nI P) post)
    (hp1 : ∀ (i : Nat) (x : Nat × Nat × Nat), Qf[i]? = some x → gl x.1 = true → (∀ (j : Nat) (y : Nat × Nat × Nat), j < i → Qf[j]? = some y → gl y.1 = false) → ∀ n qu re, post (nI x.2.1) (if i = 0 then -4 else nI x.2.2) n qu re)
    (hp0 : (∀ (j : Nat) (y : Nat × Nat × Nat), Qf[j]? = some y → gl y.1 = false) → ∀ n qu re, post (-4) (-4) n qu re) :
    ∀ (m h L n : Nat) (Q : Qu) (qu : Nat → Int32) (re : Nat → Int64), 4001 ≤ h + m → m < n → h ≤ Q.length → SPI A B K N G P gl Qf Q h Q.length L → CQ Q qu re → PX6_spread_4 post oA gk go (nI G) (nI P) cA cB lv sh n (nI h) (nI L) (-4) (-4) (nI Q.length) qu re := by
  intro m
  induction m with
  | zero =>
    intro h L n Q qu re hm hn hh H hC
    have hl := H.1.len
    exact absurd hm (by omega)
  | succ m ih =>
    intro h L n Q qu re hm hn hh H hC
    obtain ⟨n, rfl⟩ : ∃ k, n = k + 1 := ⟨n - 1, by omega⟩
    have hl := H.1.len
    have h8 := H.2.2.2.2.2.2.2
    have fin : h = Q.length → post (-4) (-4) (nI Q.length) qu re := fun e => by
      have h2 := H.2.1
      rw [bfs_none (by omega)] at h2
      refine hp0 (fun j y hy => ?_) _ _ _
      rw [← h2] at hy
      have := (List.getElem?_eq_some_iff.mp hy).1
      exact H.2.2.1 j y (by omega) hy
    refine pk_le 4000 L (fun h => fin (by omega)) (fun _ => pk_le Q.length h (fun h => fin (by omega)) (fun hlt => ?_))
    have e4 : (if 4000 < nI Q.length then (4000 : Int32) else nI Q.length) = nI Q.length := if_neg (fun q => by
      rw [l4000, nI_ltI (by omega) (by omega)] at q
      omega)
    rintro _ rfl
    rw [e4]
    refine ⟨Q.length - h + 1, t_sp30 hO hA hB hSh hLv hP hgl hp1 (fun Q' qu' re' H' hC' => ?_) (Q.length - h) h _ Q qu re (by omega) (by omega) H hC⟩
    have hq := H'.2.2.2.2.2.1
    obtain ⟨a1, a2, a3, a4, a5, a6, a7, a8⟩ := H'
    exact ih Q.length (L + 1) n Q' qu' re' (by omega) (by omega) hq ⟨a1, a2, a3, fun i y hi1 _ hy => a5 i y hi1 hy, fun i y hi hy => by have := (List.getElem?_eq_some_iff.mp hy).1; omega, Nat.le_refl _, fun h => absurd h (by omega), by omega⟩ hC'
