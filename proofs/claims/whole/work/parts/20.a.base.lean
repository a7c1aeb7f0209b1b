/-! ===== numbers: written ones as nI, comparisons and arithmetic on Nat ===== -/
theorem l0 : (0 : Int32) = nI 0 := rfl
theorem l1 : (1 : Int32) = nI 1 := rfl
theorem l2 : (2 : Int32) = nI 2 := rfl
theorem l3 : (3 : Int32) = nI 3 := rfl
theorem l4 : (4 : Int32) = nI 4 := rfl
theorem l5 : (5 : Int32) = nI 5 := rfl
theorem l6 : (6 : Int32) = nI 6 := rfl
theorem l7 : (7 : Int32) = nI 7 := rfl
theorem l8 : (8 : Int32) = nI 8 := rfl
theorem l9 : (9 : Int32) = nI 9 := rfl
theorem l10 : (10 : Int32) = nI 10 := rfl
theorem l28 : (28 : Int32) = nI 28 := rfl
theorem l32 : (32 : Int32) = nI 32 := rfl
theorem l60 : (60 : Int32) = nI 60 := rfl
theorem l100 : (100 : Int32) = nI 100 := rfl
theorem l200 : (200 : Int32) = nI 200 := rfl
theorem l256 : (256 : Int32) = nI 256 := rfl
theorem l4000 : (4000 : Int32) = nI 4000 := rfl
theorem l30400 : (30400 : Int32) = nI 30400 := rfl
theorem cn_in {a N : Nat} (ha : a < 2 ^ 31) (hN : N < 2 ^ 31) : vp_in (nI a) N ↔ a < N := by
  constructor
  · intro h
    rw [vp_in_iff, nI_toInt ha] at h
    omega
  · exact fun h => vp_in_nI h hN
theorem cn_rem {a d : Nat} (h0 : 0 < d) (ha : a < 2 ^ 31) (hd : d < 2 ^ 31) : nI a - nI a / nI d * nI d = nI (a % d) := pk_rem ha h0 hd
theorem cn_m1 (n : Nat) (h : 0 < n) : nI n + (-1) = nI (n - 1) := sb_m1 h
theorem cn_shl : ∀ g, g < 31 → nI 1 <<< (nI g &&& nI 31) = nI (2 ^ g) := by decide
theorem cn_shl' {g : Nat} (h : g < 31) : (1 : Int32) <<< (nI g &&& 31) = nI (2 ^ g) := cn_shl g h
theorem cn_or (a b : Nat) : nI a ||| nI b = nI (a ||| b) := by
  apply Int32.toBitVec_inj.mp
  show BitVec.ofNat 32 a ||| BitVec.ofNat 32 b = BitVec.ofNat 32 (a ||| b)
  exact BitVec.ofNat_or.symm
theorem cn_and (a b : Nat) : nI a &&& nI b = nI (a &&& b) := by
  apply Int32.toBitVec_inj.mp
  show BitVec.ofNat 32 a &&& BitVec.ofNat 32 b = BitVec.ofNat 32 (a &&& b)
  exact BitVec.ofNat_and.symm
theorem cn_shr : ∀ v g, v < 64 → g < 6 → nI v >>> (nI g &&& nI 31) = nI (v / 2 ^ g) := by
  intro v g hv hg
  rcases (show g = 0 ∨ g = 1 ∨ g = 2 ∨ g = 3 ∨ g = 4 ∨ g = 5 by omega) with rfl | rfl | rfl | rfl | rfl | rfl
  · exact pk_shrN (by omega) _ 0 (by decide)
  · exact pk_shrN (by omega) _ 1 (by decide)
  · exact pk_shrN (by omega) _ 2 (by decide)
  · exact pk_shrN (by omega) _ 3 (by decide)
  · exact pk_shrN (by omega) _ 4 (by decide)
  · exact pk_shrN (by omega) _ 5 (by decide)
def bI (b : Bool) : Int32 := if b then nI 1 else nI 0
theorem bI_0 (b : Bool) : bI b = nI 0 ↔ b = false := by cases b <;> decide
theorem bI_t : bI true = nI 1 := rfl
theorem bI_f : bI false = nI 0 := rfl
theorem and_t {c A B : Prop} (h : c) : ((c → A) ∧ (¬ c → B)) ↔ A := ⟨fun q => q.1 h, fun a => ⟨fun _ => a, fun n => absurd h n⟩⟩
theorem and_f {c A B : Prop} (h : ¬ c) : ((c → A) ∧ (¬ c → B)) ↔ B := ⟨fun q => q.2 h, fun a => ⟨fun c => absurd c h, fun _ => a⟩⟩
/-- a test's two ways, by a Bool -/
theorem and_b {b : Bool} {A B : Prop} (ht : b = true → A) (hf : b = false → B) : (bI b = nI 0 → B) ∧ (¬ bI b = nI 0 → A) := by
  cases b
  · exact ⟨fun _ => hf rfl, fun h => absurd rfl h⟩
  · exact ⟨fun h => absurd ((bI_0 _).mp h) (by simp), fun _ => ht rfl⟩
theorem upd_eq (f : Nat → Int32) (k j : Nat) (x : Int32) : upd f k x j = if j = k then x else f j := rfl
/-- an int's place in a range, as the tests of the face ask it -/
theorem t_hasGate {x : Int32} {G : Nat} {post : Int32 → Prop} (hG : G ≤ 5) (ht : ∀ g, g < G → x = nI g → post 1) (hf : ¬ vp_in x G → post 0) : PX2_hasGate x (nI G) post := by
  unfold PX2_hasGate
  by_cases h : vp_in x G
  · obtain ⟨g, hg, rfl⟩ := vp_in_of h (by omega)
    have := ht g hg rfl
    simp (disch := omega) only [l0, l1, l5, nI_ltI, nI_leI]
    refine ⟨fun _ => ?_, fun _ => ⟨fun _ => ?_, fun _ => ⟨fun _ => ?_, fun _ => this⟩⟩⟩ <;> (exfalso; omega)
  · have h0 := hf h
    refine ⟨fun _ => h0, fun c1 => ⟨fun _ => h0, fun c2 => ?_⟩⟩
    exfalso
    apply h
    rintro (q | q)
    · exact c1 q
    · obtain ⟨j, hj, rfl⟩ := nI_of c1
      rw [nI_clamp hj] at q
      exact c2 ((nI_leI (by omega) hj).mpr q)
