/-! ===== copies, counts of bits ===== -/
theorem cpy5 (f g : Nat → Int32) : va_cpy f g (0 : Int32).toNatClampNeg (0 : Int32).toNatClampNeg (5 : Int32).toNatClampNeg = cpy1 f g 5 := by
  funext k
  show (if 0 ≤ k ∧ k < 0 + 5 then f (0 + (k - 0)) else g k) = if k < 5 then f k else g k
  by_cases h : k < 5
  · rw [if_pos (by omega), if_pos h, show 0 + (k - 0) = k by omega]
  · rw [if_neg (by omega), if_neg h]
theorem cpy3 (f g : Nat → Int32) : va_cpy f g (0 : Int32).toNatClampNeg (0 : Int32).toNatClampNeg (3 : Int32).toNatClampNeg = cpy1 f g 3 := by
  funext k
  show (if 0 ≤ k ∧ k < 0 + 3 then f (0 + (k - 0)) else g k) = if k < 3 then f k else g k
  by_cases h : k < 3
  · rw [if_pos (by omega), if_pos h, show 0 + (k - 0) = k by omega]
  · rw [if_neg (by omega), if_neg h]
theorem t_copyFrom {i1 i2 i3 g p f : Int32} {a1 a2 a3 a4 a5 b1 b2 b3 b4 b5 : Nat → Int32} {post : Int32 → Int32 → Int32 → (Nat → Int32) → (Nat → Int32) → (Nat → Int32) → (Nat → Int32) → (Nat → Int32) → Prop} (h : post g p f (cpy1 b1 a1 5) (cpy1 b2 a2 5) (cpy1 b3 a3 5) (cpy1 b4 a4 5) (cpy1 b5 a5 3)) : PX2_copyFrom i1 i2 i3 a1 a2 a3 a4 a5 g p f b1 b2 b3 b4 b5 post := by
  rintro _ rfl _ rfl _ rfl _ rfl _ rfl
  rw [cpy5, cpy5, cpy5, cpy5, cpy3]
  exact h
theorem Ign.cpy {t G P : Nat} {A B K N C : Nat → Nat} {cG cP : Int32} {cA cB kd gn ct : Nat → Int32} (h : Ign t G P A B K N C cG cP cA cB kd gn ct) (hG : G ≤ 5) (a b k n c : Nat → Int32) : Ign t G P A B K N C cG cP (cpy1 cA a 5) (cpy1 cB b 5) (cpy1 kd k 5) (cpy1 gn n 5) (cpy1 ct c 3) :=
  ⟨h.1, h.2.1, h.2.2.1.cpy hG, h.2.2.2.1.cpy hG, h.2.2.2.2.1.cpy hG, h.2.2.2.2.2.1.cpy hG, h.2.2.2.2.2.2.1.cpy (Nat.le_refl 3), h.2.2.2.2.2.2.2⟩
theorem va_cpy_0 (f : Nat → Int32) (s d : Nat) : va_cpy f f s d 0 = f := by
  funext k
  show (if d ≤ k ∧ k < d + 0 then _ else f k) = f k
  rw [if_neg (by omega)]
theorem va_cpy_upd (f : Nat → Int32) {s d w i : Nat} (hw : i < w) (hd : s + w ≤ d ∨ d + w ≤ s) : upd (va_cpy f f s d i) (d + i) (va_cpy f f s d i (s + i)) = va_cpy f f s d (i + 1) := by
  funext k
  show (if k = d + i then (if d ≤ s + i ∧ s + i < d + i then f (s + (s + i - d)) else f (s + i)) else (if d ≤ k ∧ k < d + i then f (s + (k - d)) else f k)) = if d ≤ k ∧ k < d + (i + 1) then f (s + (k - d)) else f k
  by_cases h : k = d + i
  · subst h
    rw [if_pos rfl, if_neg (by omega), if_pos (by omega), show s + (d + i - d) = s + i by omega]
  · rw [if_neg h]
    by_cases h2 : d ≤ k ∧ k < d + i
    · rw [if_pos h2, if_pos (by omega)]
    · rw [if_neg h2, if_neg (by omega)]
theorem nI_5 (a b : Nat) : (5 * nI a) + nI b = nI (5 * a + b) := by rw [l5, pk_mul, nI_add]
theorem nI_3 (a b : Nat) : (3 * nI a) + nI b = nI (3 * a + b) := by rw [l3, pk_mul, nI_add]
theorem u_copy35 {a b : Nat} {gn at0 fi : Nat → Int32} {post : (Nat → Int32) → (Nat → Int32) → (Nat → Int32) → Prop} (ha : a < 3) (hb : b < 3) (hab : a ≠ b) (hp : post gn (va_cpy at0 at0 (3 * a) (3 * b) 3) (upd fi b (fi a))) :
    ∀ (d i n : Nat), i + d = 3 → d < n → PX8_copy_35 post (nI a) (nI b) gn fi n (nI i) (va_cpy at0 at0 (3 * a) (3 * b) i) := by
  intro d
  induction d with
  | zero =>
    intro i n hd hn
    obtain ⟨n, rfl⟩ : ∃ k, n = k + 1 := ⟨n - 1, by omega⟩
    refine pk_le 3 i (fun _ => ⟨vp_in_nI (by omega) (by omega), ?_⟩) (fun h => absurd h (by omega))
    rintro _ rfl
    refine ⟨vp_in_nI (by omega) (by omega), ?_⟩
    rintro _ rfl
    rw [nI_clamp (by omega), nI_clamp (by omega), show i = 3 by omega]; exact hp
  | succ d ih =>
    intro i n hd hn
    obtain ⟨n, rfl⟩ : ∃ k, n = k + 1 := ⟨n - 1, by omega⟩
    refine pk_le 3 i (fun h => absurd h (by omega)) (fun _ => ?_)
    rw [nI_3, nI_3]
    refine ⟨vp_in_nI (by omega) (by omega), ?_⟩
    rintro _ rfl
    refine ⟨vp_in_nI (by omega) (by omega), ?_⟩
    rintro _ rfl _ rfl
    rw [nI_clamp (by omega), nI_clamp (by omega), va_cpy_upd at0 (w := 3) (by omega) (by omega), nI_1]
    exact ih (i + 1) n (by omega) (by omega)
theorem u_copy2 {a b : Nat} {gn0 at0 fi : Nat → Int32} {post : (Nat → Int32) → (Nat → Int32) → (Nat → Int32) → Prop} (ha : a < 3) (hb : b < 3) (hab : a ≠ b) (hp : post (va_cpy gn0 gn0 (5 * a) (5 * b) 5) (va_cpy at0 at0 (3 * a) (3 * b) 3) (upd fi b (fi a))) :
    ∀ (d i n : Nat), i + d = 5 → d < n → PX8_copy_2 post (nI a) (nI b) at0 fi n (nI i) (va_cpy gn0 gn0 (5 * a) (5 * b) i) := by
  intro d
  induction d with
  | zero =>
    intro i n hd hn
    obtain ⟨n, rfl⟩ : ∃ k, n = k + 1 := ⟨n - 1, by omega⟩
    refine pk_le 5 i (fun _ => ⟨4, ?_⟩) (fun h => absurd h (by omega))
    have h := u_copy35 (a := a) (b := b) (gn := va_cpy gn0 gn0 (5 * a) (5 * b) i) (at0 := at0) (fi := fi) (post := post) ha hb hab (by rw [show i = 5 by omega]; exact hp) 3 0 4 (by omega) (by omega)
    rw [va_cpy_0] at h
    exact h
  | succ d ih =>
    intro i n hd hn
    obtain ⟨n, rfl⟩ : ∃ k, n = k + 1 := ⟨n - 1, by omega⟩
    refine pk_le 5 i (fun h => absurd h (by omega)) (fun _ => ?_)
    rw [nI_5, nI_5]
    refine ⟨vp_in_nI (by omega) (by omega), ?_⟩
    rintro _ rfl
    refine ⟨vp_in_nI (by omega) (by omega), ?_⟩
    rintro _ rfl _ rfl
    rw [nI_clamp (by omega), nI_clamp (by omega), va_cpy_upd gn0 (w := 5) (by omega) (by omega), nI_1]
    exact ih (i + 1) n (by omega) (by omega)
theorem u_copy {a b : Nat} {gn0 at0 fi : Nat → Int32} {post : (Nat → Int32) → (Nat → Int32) → (Nat → Int32) → Prop} (ha : a < 3) (hb : b < 3) (hab : a ≠ b) (hp : post (va_cpy gn0 gn0 (5 * a) (5 * b) 5) (va_cpy at0 at0 (3 * a) (3 * b) 3) (upd fi b (fi a))) : PX8_copy (nI a) (nI b) gn0 at0 fi post :=
  ⟨6, by
    have h := u_copy2 ha hb hab hp 5 0 6 (by omega) (by omega)
    rw [va_cpy_0] at h
    exact h⟩
theorem Imn.copied {a b G : Nat} {N C : Nat → Nat} {cF : Int32} {gone at_ fines : Nat → Int32} (hG : G ≤ 5) (h : Imn a G N C cF gone at_ fines) : Imn b G N C cF (va_cpy gone gone (5 * a) (5 * b) 5) (va_cpy at_ at_ (3 * a) (3 * b) 3) (upd fines b (fines a)) := by
  refine ⟨fun g hg => ?_, fun p hp => ?_, ?_⟩
  · show (if 5 * b ≤ 5 * b + g ∧ 5 * b + g < 5 * b + 5 then gone (5 * a + (5 * b + g - 5 * b)) else _) = _
    rw [if_pos (by omega), show 5 * a + (5 * b + g - 5 * b) = 5 * a + g by omega]
    exact h.1 g hg
  · show (if 3 * b ≤ 3 * b + p ∧ 3 * b + p < 3 * b + 3 then at_ (3 * a + (3 * b + p - 3 * b)) else _) = _
    rw [if_pos (by omega), show 3 * a + (3 * b + p - 3 * b) = 3 * a + p by omega]
    exact h.2.1 p hp
  · show (if b = b then fines a else _) = _
    rw [if_pos rfl]
    exact h.2.2
theorem Imn.others {a b j G : Nat} {N C : Nat → Nat} {cF : Int32} {gone at_ fines : Nat → Int32} (hG : G ≤ 5) (hj : j ≠ b) (h : Imn j G N C cF gone at_ fines) : Imn j G N C cF (va_cpy gone gone (5 * a) (5 * b) 5) (va_cpy at_ at_ (3 * a) (3 * b) 3) (upd fines b (fines a)) := by
  refine ⟨fun g hg => ?_, fun p hp => ?_, ?_⟩
  · show (if 5 * b ≤ 5 * j + g ∧ 5 * j + g < 5 * b + 5 then _ else gone (5 * j + g)) = _
    rw [if_neg (by omega)]
    exact h.1 g hg
  · show (if 3 * b ≤ 3 * j + p ∧ 3 * j + p < 3 * b + 3 then _ else at_ (3 * j + p)) = _
    rw [if_neg (by omega)]
    exact h.2.1 p hp
  · show (if j = b then fines a else fines j) = _
    rw [if_neg hj]
    exact h.2.2
def pcn (v : Nat) : Nat := v % 2 + v / 2 % 2 + v / 4 % 2 + v / 8 % 2 + v / 16 % 2
theorem pcn_step : ∀ v, v < 32 → v ≠ 0 → pcn v = pcn (v &&& (v - 1)) + 1 := by decide
theorem and_lt : ∀ v, v < 32 → v ≠ 0 → v &&& (v - 1) < v := by decide
theorem u_openMany11 {cn sp : Nat → Int32} {post : Int32 → (Nat → Int32) → (Nat → Int32) → Prop} : ∀ (k v c n : Nat), v < k → v < 32 → v < n → c + v < 100 → post (nI (c + pcn v)) cn sp → PX8_openMany_11 post cn sp n (nI c) (nI v) := by
  intro k
  induction k with
  | zero => intro v c n h; exact absurd h (by omega)
  | succ k ih =>
    intro v c n hk hv hn hc hp
    obtain ⟨n, rfl⟩ : ∃ k, n = k + 1 := ⟨n - 1, by omega⟩
    refine pk_eq v 0 (fun h => ?_) (fun h => ?_)
    · subst h; exact hp
    · rintro _ rfl _ rfl
      have h1 := and_lt v hv h
      rw [nI_1, l1, pk_sub (by omega), cn_and]
      exact ih _ (c + 1) n (by omega) (by omega) (by omega) (by omega) (by rw [pcn_step v hv h] at hp; rw [show c + 1 + pcn (v &&& (v - 1)) = c + (pcn (v &&& (v - 1)) + 1) by omega]; exact hp)
def bcx (x0 : Int32) : Int32 :=
  let x1 := (x0 - ((((x0).toUInt32 >>> ((1 : Int32).toUInt32 &&& Int32.toUInt32 31)).toInt32) &&& 1431655765))
  let x2 := ((x1 &&& 858993459) + ((((x1).toUInt32 >>> ((2 : Int32).toUInt32 &&& Int32.toUInt32 31)).toInt32) &&& 858993459))
  let x3 := ((x2 + (((x2).toUInt32 >>> ((4 : Int32).toUInt32 &&& Int32.toUInt32 31)).toInt32)) &&& 252645135)
  let x4 := (x3 + (((x3).toUInt32 >>> ((8 : Int32).toUInt32 &&& Int32.toUInt32 31)).toInt32))
  let x5 := (x4 + (((x4).toUInt32 >>> ((16 : Int32).toUInt32 &&& Int32.toUInt32 31)).toInt32))
  x5 &&& 63
theorem bcx_pcn : ∀ v, v < 32 → bcx (nI v) = nI (pcn v) := by decide +kernel
theorem t_bitCount {v : Nat} {post : Int32 → Prop} (hv : v < 32) (hp : post (nI (pcn v))) : PJ6_bitCount_0f7a4 (nI v) post := by
  rintro _ rfl _ rfl _ rfl _ rfl _ rfl
  rw [← bcx_pcn v hv] at hp
  exact hp
