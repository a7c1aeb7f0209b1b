/-! ===== as seen; guests ===== -/
theorem bit1 {S g : Nat} (hS : S < 64) (hg : g < 6) : (nI S >>> (nI g &&& 31)) &&& 1 = nI (S / 2 ^ g % 2) := by
  have h := cn_shr S g hS hg
  rw [← (show (31 : Int32) = nI 31 from rfl)] at h
  rw [h, l1, cn_and, Nat.and_one_is_mod]
def fitN (S : Nat) (SG SO : Nat → Nat) : Nat → Bool
  | 0 => true
  | i + 1 => fitN S SG SO i && decide (S / 2 ^ SG i % 2 = SO i)
theorem fitN_false {S : Nat} {SG SO : Nat → Nat} : ∀ (s i : Nat), i < s → S / 2 ^ SG i % 2 ≠ SO i → fitN S SG SO s = false
  | 0, i, h, _ => absurd h (by omega)
  | s + 1, i, h, hne => by
    unfold fitN
    by_cases q : i = s
    · subst q; rw [decide_eq_false hne, Bool.and_false]
    · rw [fitN_false s i (by omega) hne, Bool.false_and]
theorem t_fit2 {S s : Nat} {SG SO : Nat → Nat} {ga op : Nat → Int32} {post : Int32 → Prop} (hS : S < 64) (hs : s ≤ 10) (h1 : Rp s ga SG) (h2 : Rp s op SO) (h3 : ∀ i, i < s → SG i < 5 ∧ SO i ≤ 1) (hp : post (bI (fitN S SG SO s))) :
    ∀ (d i n : Nat), i + d = s → d < n → fitN S SG SO i = true → PX4_fit_2 post (nI S) (nI s) ga op n (nI i) := by
  intro d
  induction d with
  | zero =>
    intro i n hd hn hf
    obtain ⟨n, rfl⟩ : ∃ k, n = k + 1 := ⟨n - 1, by omega⟩
    refine pk_le s i (fun _ => ?_) (fun h => absurd h (by omega))
    rw [show s = i by omega, hf] at hp; exact hp
  | succ d ih =>
    intro i n hd hn hf
    obtain ⟨n, rfl⟩ : ∃ k, n = k + 1 := ⟨n - 1, by omega⟩
    obtain ⟨g5, o1⟩ := h3 i (by omega)
    refine pk_le s i (fun h => absurd h (by omega)) (fun _ => pk_le 10 i (fun h => absurd h (by omega)) (fun _ => ⟨vp_in_nI (by omega) (by omega), ?_⟩))
    rw [nI_clamp (by omega), h1 i (by omega), h2 i (by omega), bit1 hS (by omega)]
    have hb := Nat.mod_lt (S / 2 ^ SG i) (show 0 < 2 by omega)
    have nxt : S / 2 ^ SG i % 2 = SO i → ∀ x2 : Int32, x2 = nI i + 1 → PX4_fit_2 post (nI S) (nI s) ga op n x2 := by
      rintro he _ rfl
      rw [nI_1]
      exact ih (i + 1) n (by omega) (by omega) (by unfold fitN; rw [hf, decide_eq_true he]; rfl)
    have bad : S / 2 ^ SG i % 2 ≠ SO i → post 0 := fun he => by
      rw [fitN_false s i (by omega) he] at hp; exact hp
    refine pk_eq (S / 2 ^ SG i % 2) 0 (fun hz => ⟨vp_in_nI (by omega) (by omega), pk_eq 0 (SO i) (fun h => nxt (by omega)) (fun h => bad (by omega))⟩) (fun hz => ⟨vp_in_nI (by omega) (by omega), pk_eq 1 (SO i) (fun h => nxt (by omega)) (fun h => bad (by omega))⟩)
theorem t_fit {S s : Nat} {SG SO : Nat → Nat} {ga op : Nat → Int32} {post : Int32 → Prop} (hS : S < 64) (hs : s ≤ 10) (h1 : Rp s ga SG) (h2 : Rp s op SO) (h3 : ∀ i, i < s → SG i < 5 ∧ SO i ≤ 1) (hp : post (bI (fitN S SG SO s))) : PX4_fit (nI S) (nI s) ga op post :=
  ⟨s + 1, t_fit2 hS hs h1 h2 h3 hp s 0 (s + 1) (by omega) (by omega) rfl⟩
theorem u_seenSo9 {S s : Nat} {SG SO : Nat → Nat} {ga op : Nat → Int32} {post : Int32 → Prop} (hS : S < 64) (hs : s ≤ 10) (h1 : Rp s ga SG) (h2 : Rp s op SO) (h3 : ∀ i, i < s → SG i < 5 ∧ SO i ≤ 1) (hp : post (bI (fitN S SG SO s))) :
    ∀ (d i n : Nat), i + d = s → d < n → PX8_isSeenSo_9 post (nI s) ga op (nI S) n (bI (fitN S SG SO i)) (nI i) := by
  intro d
  induction d with
  | zero =>
    intro i n hd hn
    obtain ⟨n, rfl⟩ : ∃ k, n = k + 1 := ⟨n - 1, by omega⟩
    refine pk_le s i (fun _ => ?_) (fun h => absurd h (by omega))
    rw [show s = i by omega] at hp
    refine ⟨?_, hp⟩
    cases fitN S SG SO i
    · exact Or.inl rfl
    · exact Or.inr rfl
  | succ d ih =>
    intro i n hd hn
    obtain ⟨n, rfl⟩ : ∃ k, n = k + 1 := ⟨n - 1, by omega⟩
    obtain ⟨g5, o1⟩ := h3 i (by omega)
    have h := ih (i + 1) n (by omega) (by omega)
    have hb := Nat.mod_lt (S / 2 ^ SG i) (show 0 < 2 by omega)
    refine pk_le s i (fun h => absurd h (by omega)) (fun _ => ?_)
    rw [nI_clamp (by omega), h1 i (by omega), h2 i (by omega), bit1 hS (by omega)]
    unfold fitN at h
    cases hf : fitN S SG SO i
    · rw [hf, Bool.false_and] at h
      refine rb0 ?_
      rintro _ rfl
      rw [nI_1]
      exact h
    · rw [hf, Bool.true_and] at h
      refine rb1 ⟨vp_in_nI (by omega) (by omega), vp_in_nI (by omega) (by omega), pk_eq (S / 2 ^ SG i % 2) (SO i) (fun he => ?_) (fun he => ?_)⟩
      · rintro _ rfl
        rw [decide_eq_true he] at h
        rw [nI_1]
        exact h
      · rintro _ rfl
        rw [decide_eq_false he] at h
        rw [nI_1]
        exact h
theorem u_seenSo {A B K N : Nat → Nat} {many kd cn : Nat → Int32} {G s : Nat} {SG SO : Nat → Nat} {ga op : Nat → Int32} {post : Int32 → Prop} (hO : GO G A B K) (hm : many 0 = nI G) (hK : Rp G kd K) (hN : Rp G cn N) (hSm : Sm G N) (hs : s ≤ 10) (h1 : Rp s ga SG) (h2 : Rp s op SO) (h3 : ∀ i, i < s → SG i < 5 ∧ SO i ≤ 1) (hp : post (bI (fitN (osetN K N G) SG SO s))) : PX8_isSeenSo (nI s) many kd ga op cn post := by
  have hlt := osetN_lt K N G
  have hle : 2 ^ G ≤ 2 ^ 5 := Nat.pow_le_pow_right (by omega) hO.1
  refine u_openSet hO hm hK hN hSm ⟨s + 1, ?_⟩
  exact u_seenSo9 (by omega) hs h1 h2 h3 hp s 0 (s + 1) (by omega) (by omega)
/-- which gates count wrong: the bits, gate by gate -/
def accN (K N : Nat → Nat) (G s : Nat) (SG SO : Nat → Nat) (c0 : Nat) : Nat → Nat
  | 0 => c0
  | g + 1 => accN K N G s SG SO c0 g ||| (if fitN (osetN K (plus1 N g) G) SG SO s then 2 ^ g else 0)
theorem accN_lt {K N : Nat → Nat} {G s : Nat} {SG SO : Nat → Nat} {c0 : Nat} (hc : c0 < 64) : ∀ g, g ≤ 5 → accN K N G s SG SO c0 g < 64
  | 0, _ => hc
  | g + 1, h => by
    unfold accN
    refine Nat.or_lt_two_pow (n := 6) (accN_lt hc g (by omega)) ?_
    split
    · exact Nat.pow_lt_pow_right (by omega) (by omega)
    · omega
theorem plus1_back {N : Nat → Nat} {g : Nat} : (fun j => if j = g then N g else plus1 N g j) = N := by
  funext j
  unfold plus1
  by_cases q : j = g
  · subst q; rw [if_pos rfl]
  · rw [if_neg q, if_neg q]
theorem plus1_self (N : Nat → Nat) (g : Nat) : plus1 N g g = N g + 1 := by unfold plus1; rw [if_pos rfl]
theorem Sm.plus {G g : Nat} {N : Nat → Nat} (h : ∀ g, g < G → N g < 999000) (hg : g < G) : Sm G (plus1 N g) := fun j hj => by
  have h1 := h j hj
  have h2 := h g hg
  unfold plus1; split <;> omega
theorem t_wrong37 {A B K N : Nat → Nat} {kd : Nat → Int32} {G s c0 : Nat} {SG SO : Nat → Nat} {ga op : Nat → Int32} {tp tf : Int32} {tA tB tC : Nat → Int32} {post : Int32 → Int32 → Int32 → Int32 → (Nat → Int32) → (Nat → Int32) → (Nat → Int32) → (Nat → Int32) → (Nat → Int32) → Prop} (hO : GO G A B K) (hK : Rp G kd K) (hS : ∀ g, g < G → N g < 999000) (hs : s ≤ 10) (h1 : Rp s ga SG) (h2 : Rp s op SO) (h3 : ∀ i, i < s → SG i < 5 ∧ SO i ≤ 1) (hp : ∀ gn', post (nI (accN K N G s SG SO c0 G)) (nI G) tp tf tA tB kd gn' tC) :
    ∀ (d g n : Nat) (gn : Nat → Int32), g + d = G → d < n → Rp G gn N → PX7_wrong_37 post (nI s) ga op (nI G) tp tf tA tB kd tC n (nI (accN K N G s SG SO c0 g)) (nI g) gn := by
  have hG5 := hO.1
  intro d
  induction d with
  | zero =>
    intro g n gn hd hn hN
    obtain ⟨n, rfl⟩ : ∃ k, n = k + 1 := ⟨n - 1, by omega⟩
    refine pk_le G g (fun _ => ?_) (fun h => absurd h (by omega))
    rw [show g = G by omega]; exact hp gn
  | succ d ih =>
    intro g n gn hd hn hN
    obtain ⟨n, rfl⟩ : ∃ k, n = k + 1 := ⟨n - 1, by omega⟩
    have hlt := osetN_lt K (plus1 N g) G
    have hle : 2 ^ G ≤ 2 ^ 5 := Nat.pow_le_pow_right (by omega) hO.1
    refine pk_le G g (fun h => absurd h (by omega)) (fun _ => pk_le 5 g (fun h => absurd h (by omega)) (fun _ => ⟨vp_in_nI (by omega) (by omega), ?_⟩))
    rintro _ rfl
    refine ⟨vp_in_nI (by omega) (by omega), ?_⟩
    rintro _ rfl
    rw [nI_clamp (by omega), hN g (by omega), nI_1]
    have hN1 : Rp G (upd gn g (nI (N g + 1))) (plus1 N g) := hN.upd g (N g + 1)
    refine t_openFromA hO hK hN1 (Sm.plus hS (by omega)) (t_fit (by omega) hs h1 h2 h3 ?_)
    have h89 : PX7_wrong_89 post (PX7_wrong_37 post (nI s) ga op (nI G) tp tf tA tB kd tC n) (nI (accN K N G s SG SO c0 (g + 1))) (nI g) (upd gn g (nI (N g + 1))) := by
      refine ⟨vp_in_nI (by omega) (by omega), ?_⟩
      rintro _ rfl
      refine ⟨vp_in_nI (by omega) (by omega), ?_⟩
      rintro _ rfl _ rfl
      rw [nI_clamp (by omega), hN1 g (by omega), plus1_self, nI_pred, nI_1]
      refine ih (g + 1) n _ (by omega) (by omega) ?_
      have h := hN1.upd g (N g)
      rw [plus1_back] at h
      exact h
    unfold accN at h89
    refine and_b (fun q => ?_) (fun q => ?_)
    · rintro _ rfl
      rw [cn_shl' (by omega), cn_or]
      rw [q] at h89
      exact h89
    · rw [q] at h89
      have e : accN K N G s SG SO c0 g ||| (if false = true then 2 ^ g else 0) = accN K N G s SG SO c0 g := by simp
      rw [e] at h89
      exact h89
theorem u_wrong20 {A B K N : Nat → Nat} {many kd : Nat → Int32} {G s c0 : Nat} {SG SO : Nat → Nat} {ga op sp : Nat → Int32} {post : Int32 → (Nat → Int32) → (Nat → Int32) → Prop} (hO : GO G A B K) (hm : many 0 = nI G) (hK : Rp G kd K) (hS : ∀ g, g < G → N g < 999000) (hs : s ≤ 10) (h1 : Rp s ga SG) (h2 : Rp s op SO) (h3 : ∀ i, i < s → SG i < 5 ∧ SO i ≤ 1) (hp : ∀ cn', post (nI (accN K N G s SG SO c0 G)) cn' sp) :
    ∀ (d g n : Nat) (cn : Nat → Int32), g + d = G → d < n → Rp G cn N → PX8_wrong_20 post (nI s) many kd ga op sp n (nI (accN K N G s SG SO c0 g)) (nI g) cn := by
  have hG5 := hO.1
  intro d
  induction d with
  | zero =>
    intro g n cn hd hn hN
    obtain ⟨n, rfl⟩ : ∃ k, n = k + 1 := ⟨n - 1, by omega⟩
    refine ⟨in02, ?_⟩
    rw [z0, hm]
    refine pk_le G g (fun _ => ?_) (fun h => absurd h (by omega))
    rw [show g = G by omega]; exact hp cn
  | succ d ih =>
    intro g n cn hd hn hN
    obtain ⟨n, rfl⟩ : ∃ k, n = k + 1 := ⟨n - 1, by omega⟩
    refine ⟨in02, ?_⟩
    rw [z0, hm]
    refine pk_le G g (fun h => absurd h (by omega)) (fun _ => ⟨vp_in_nI (by omega) (by omega), ?_⟩)
    rintro _ rfl
    refine ⟨vp_in_nI (by omega) (by omega), ?_⟩
    rintro _ rfl
    rw [nI_clamp (by omega), hN g (by omega), nI_1]
    have hN1 : Rp G (upd cn g (nI (N g + 1))) (plus1 N g) := hN.upd g (N g + 1)
    refine u_seenSo hO hm hK hN1 (Sm.plus hS (by omega)) hs h1 h2 h3 ?_
    have back : ∀ x : Int32, x = nI (accN K N G s SG SO c0 (g + 1)) → (vp_in (nI g) 5 ∧ (∀ t_7 : Int32, t_7 = ((upd cn g (nI (N g + 1)) (nI g).toNatClampNeg) - 1) → (vp_in (nI g) 5 ∧ ∀ a_counts_8 : Nat → Int32, a_counts_8 = upd (upd cn g (nI (N g + 1))) (nI g).toNatClampNeg t_7 → (∀ x2_9 : Int32, x2_9 = nI g + 1 → PX8_wrong_20 post (nI s) many kd ga op sp n x x2_9 a_counts_8)))) := by
      rintro x rfl
      refine ⟨vp_in_nI (by omega) (by omega), ?_⟩
      rintro _ rfl
      refine ⟨vp_in_nI (by omega) (by omega), ?_⟩
      rintro _ rfl _ rfl
      rw [nI_clamp (by omega), hN1 g (by omega), plus1_self, nI_pred, nI_1]
      refine ih (g + 1) n _ (by omega) (by omega) ?_
      have h := hN1.upd g (N g)
      rw [plus1_back] at h
      exact h
    rw [nI_clamp (by omega)] at back
    refine and_b (fun q => ?_) (fun q => ?_)
    · rintro _ rfl
      rw [cn_shl' (by omega), cn_or]
      refine back _ ?_
      show _ = nI (accN K N G s SG SO c0 g ||| (if fitN (osetN K (plus1 N g) G) SG SO s then 2 ^ g else 0))
      rw [q]; rfl
    · rintro _ rfl
      rw [l0, cn_or]
      refine back _ ?_
      show _ = nI (accN K N G s SG SO c0 g ||| (if fitN (osetN K (plus1 N g) G) SG SO s then 2 ^ g else 0))
      rw [q]; rfl
