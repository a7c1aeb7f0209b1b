/-! ===== bytes written ===== -/
theorem sh_a : ∀ k, k < 8 → (((8 * nI k).toInt64 &&& 63).toBitVec.smod 64).toNat = 8 * k := by decide
theorem sh_b : ∀ k, k < 8 → (((8 * nI k).toInt64.toUInt64 &&& Int64.toUInt64 63).toBitVec % 64).toNat = 8 * k := by decide
def byt (x : Int64) (k : Nat) : Nat := (((x >>> ((8 * nI k).toInt64 &&& 63)) &&& 255).toInt32).toBitVec.toNat
theorem byt_u (x : Int64) (k : Nat) : ((x >>> ((8 * nI k).toInt64 &&& 63)) &&& 255).toInt32 = nI (byt x k) := by
  apply Int32.toBitVec_inj.mp
  show _ = BitVec.ofNat 32 (byt x k)
  unfold byt
  rw [BitVec.ofNat_toNat, BitVec.setWidth_eq]
theorem byt_lt (x : Int64) (k : Nat) : byt x k < 256 := by
  unfold byt
  show (BitVec.signExtend 32 ((x >>> ((8 * nI k).toInt64 &&& 63)).toBitVec &&& 255#64)).toNat < 256
  generalize (x >>> ((8 * nI k).toInt64 &&& 63)).toBitVec = y
  rw [BitVec.signExtend_eq_setWidth_of_le _ (by omega), BitVec.toNat_setWidth, BitVec.toNat_and]
  have h : y.toNat &&& (255#64).toNat = y.toNat % 256 := Nat.and_two_pow_sub_one_eq_mod y.toNat 8
  rw [h]
  omega
theorem byt_t (x : Int64) (k : Nat) (hk : k < 8) : ((x.toUInt64 >>> ((8 * nI k).toInt64.toUInt64 &&& Int64.toUInt64 63)).toInt64).toInt32 &&& 255 = nI (byt x k) := by
  rw [← byt_u]
  apply Int32.toBitVec_inj.mp
  show BitVec.signExtend 32 (x.toBitVec >>> (((8 * nI k).toInt64.toUInt64 &&& Int64.toUInt64 63).toBitVec % 64).toNat) &&& 255#32 = BitVec.signExtend 32 (BitVec.sshiftRight x.toBitVec (((8 * nI k).toInt64 &&& 63).toBitVec.smod 64).toNat &&& 255#64)
  rw [sh_a k hk, sh_b k hk]
  generalize x.toBitVec = y
  rw [BitVec.signExtend_eq_setWidth_of_le _ (by omega), BitVec.signExtend_eq_setWidth_of_le _ (by omega)]
  apply BitVec.eq_of_getLsbD_eq
  intro i hi
  rw [BitVec.getLsbD_and, BitVec.getLsbD_setWidth, BitVec.getLsbD_setWidth, BitVec.getLsbD_and, BitVec.getLsbD_ushiftRight, BitVec.getLsbD_sshiftRight]
  by_cases h : i < 8
  · rw [decide_eq_true (show i < 32 by omega), decide_eq_false (show ¬ 64 ≤ i by omega), if_pos (show 8 * k + i < 64 by omega)]
    have e : (255#32).getLsbD i = (255#64).getLsbD i := by
      rcases (show i = 0 ∨ i = 1 ∨ i = 2 ∨ i = 3 ∨ i = 4 ∨ i = 5 ∨ i = 6 ∨ i = 7 by omega) with rfl | rfl | rfl | rfl | rfl | rfl | rfl | rfl <;> rfl
    rw [e]
    simp
  · have e1 : (255#32).getLsbD i = false := by
      have : ∀ i, i < 32 → ¬ i < 8 → (255#32).getLsbD i = false := by decide
      exact this i hi h
    have e2 : (255#64).getLsbD i = false := by
      have : ∀ i, i < 32 → ¬ i < 8 → (255#64).getLsbD i = false := by decide
      exact this i hi h
    rw [e1, e2]
    simp
def wrT (x : Int64) : Nat → Nat → (Nat → Nat) → Nat → Nat
  | 0, _, T => T
  | d + 1, L, T => wrT x d (L + 1) (setN T L (byt x d))
theorem wrT_ok {x : Int64} : ∀ (d L : Nat) (T : Nat → Nat), (∀ i, i < L → T i < 256) → ∀ i, i < L + d → wrT x d L T i < 256
  | 0, L, T, h, i, hi => h i hi
  | d + 1, L, T, h, i, hi => by
    refine wrT_ok d (L + 1) (setN T L (byt x d)) (fun j hj => ?_) i (by omega)
    unfold setN
    split
    · exact byt_lt x d
    · exact h j (by omega)
theorem t_append5 {x : Int64} {post : Int32 → (Nat → Int32) → Prop} : ∀ (d L n : Nat) (T : Nat → Nat) (ts : Nat → Int32), d ≤ 8 → L + d ≤ 200 → d < n → Rp L ts T → (∀ ts', Rp (L + d) ts' (wrT x d L T) → post (nI (L + d)) ts') → PX5_append_5 post x n (nI d + (-1)) (nI L) ts := by
  intro d
  induction d with
  | zero =>
    intro L n T ts hd hL hn hT hp
    obtain ⟨n, rfl⟩ : ∃ k, n = k + 1 := ⟨n - 1, by omega⟩
    exact ⟨fun _ => hp ts hT, fun h => absurd (by decide) h⟩
  | succ d ih =>
    intro L n T ts hd hL hn hT hp
    obtain ⟨n, rfl⟩ : ∃ k, n = k + 1 := ⟨n - 1, by omega⟩
    rw [cn_m1 _ (by omega), show d + 1 - 1 = d by omega]
    refine pk_lt d 0 (fun h => absurd h (by omega)) (fun _ => pk_le 200 L (fun h => absurd h (by omega)) (fun _ => ?_))
    rintro _ rfl
    refine ⟨vp_in_nI (by omega) (by omega), ?_⟩
    rw [byt_t x d (by omega), nI_clamp (by omega)]
    rintro _ rfl _ rfl _ rfl
    rw [nI_1]
    refine ih (L + 1) n (setN T L (byt x d)) _ (by omega) (by omega) (by omega) (hT.snoc (byt x d)) ?_
    rw [show L + 1 + d = L + (d + 1) by omega]
    exact hp
theorem u_write34 {x : Int64} {post : Int32 → Int32 → (Nat → Int32) → Prop} : ∀ (d L n : Nat) (T : Nat → Nat) (ts : Nat → Int32), d ≤ 8 → L + d ≤ 200 → d < n → Rp L ts T → (∀ ts', Rp (L + d) ts' (wrT x d L T) → post (nI (L + d)) (nI (L + d)) ts') → PX8_write_34 post x n (nI d + (-1)) (nI L) ts := by
  intro d
  induction d with
  | zero =>
    intro L n T ts hd hL hn hT hp
    obtain ⟨n, rfl⟩ : ∃ k, n = k + 1 := ⟨n - 1, by omega⟩
    exact ⟨fun _ => hp ts hT, fun h => absurd (by decide) h⟩
  | succ d ih =>
    intro L n T ts hd hL hn hT hp
    obtain ⟨n, rfl⟩ : ∃ k, n = k + 1 := ⟨n - 1, by omega⟩
    rw [cn_m1 _ (by omega), show d + 1 - 1 = d by omega]
    refine pk_lt d 0 (fun h => absurd h (by omega)) (fun _ => ?_)
    rintro _ rfl
    refine ⟨vp_in_nI (by omega) (by omega), ?_⟩
    rw [byt_u x d, nI_clamp (by omega)]
    rintro _ rfl _ rfl _ rfl
    rw [nI_1]
    refine ih (L + 1) n (setN T L (byt x d)) _ (by omega) (by omega) (by omega) (hT.snoc (byt x d)) ?_
    rw [show L + 1 + d = L + (d + 1) by omega]
    exact hp
theorem dec_eq (m : Nat) : nI m - 1 = nI m + (-1) := by
  apply Int32.toBitVec_inj.mp
  show BitVec.ofNat 32 m - 1#32 = BitVec.ofNat 32 m + (-1#32)
  rw [BitVec.sub_eq_add_neg]
