/-! ===== more of both: a gate comes, the first state, copies ===== -/
theorem t_isCourt {a : Nat} {post : Int32 → Prop} (ha : a < 5) (h : post 1) : PX7_isCourt (nI a) post :=
  pk_lt a 0 (fun h => absurd h (by omega)) (fun _ => pk_le 5 a (fun h => absurd h (by omega)) (fun _ => h))
theorem t_addGate {G a b k i : Nat} {cA cB kd gn : Nat → Int32} {post : Int32 → Int32 → (Nat → Int32) → (Nat → Int32) → (Nat → Int32) → (Nat → Int32) → Prop} (hG : G < 5) (ha : a < 5) (hb : b < 5) (hab : a ≠ b) (hk : k < 5) (h3 : k = 3 → G ≠ 0) (hi : i < 2 ^ 31) (hp : post 1 (nI (G + 1)) (upd cA G (nI a)) (upd cB G (nI b)) (upd kd G (nI k)) (upd gn G (nI i))) : PX2_addGate (nI a) (nI b) (nI k) (nI i) (nI G) cA cB kd gn post := by
  have h50 : PX2_addGate_50 post (nI a) (nI b) (nI k) (nI i) (nI G) cA cB kd gn := by
    refine pk_le 0 i (fun _ => ⟨vp_in_nI (by omega) (by omega), ?_⟩) (fun h => absurd h (by omega))
    rintro _ rfl
    refine ⟨vp_in_nI (by omega) (by omega), ?_⟩
    rintro _ rfl
    refine ⟨vp_in_nI (by omega) (by omega), ?_⟩
    rintro _ rfl
    refine ⟨vp_in_nI (by omega) (by omega), ?_⟩
    rintro _ rfl _ rfl
    rw [nI_clamp (by omega), nI_1]
    exact hp
  refine pk_le 5 G (fun h => absurd h (by omega)) (fun _ => t_isCourt ha ⟨fun h => absurd h (by decide), fun _ => t_isCourt hb ⟨fun h => absurd h (by decide), fun _ => pk_eq a b (fun h => absurd h hab) (fun _ => pk_lt k 0 (fun h => absurd h (by omega)) (fun _ => pk_le 5 k (fun h => absurd h (by omega)) (fun _ => pk_eq k 3 (fun h => pk_eq G 0 (fun h0 => absurd h0 (h3 h)) (fun _ => h50)) (fun _ => h50))))⟩⟩)
def fil1 (f : Nat → Int32) (x : Int32) (n : Nat) : Nat → Int32 := fun j => if j < n then x else f j
theorem fil1_upd (f : Nat → Int32) (x : Int32) (n : Nat) : upd (fil1 f x n) n x = fil1 f x (n + 1) := by
  funext j
  unfold upd fil1
  by_cases h : j = n
  · subst h; rw [if_pos rfl, if_pos (by omega)]
  · rw [if_neg h]
    by_cases h2 : j < n
    · rw [if_pos h2, if_pos (by omega)]
    · rw [if_neg h2, if_neg (by omega)]
theorem fil1_0 (f : Nat → Int32) (x : Int32) : fil1 f x 0 = f := by funext j; unfold fil1; rw [if_neg (by omega)]
theorem u_begin27 {k u s p : Int32} {gn at0 fi : Nat → Int32} {post : Int32 → Int32 → Int32 → Int32 → (Nat → Int32) → (Nat → Int32) → (Nat → Int32) → Prop} (hp : post 0 0 0 0 gn (fil1 at0 0 3) (upd fi 0 0)) :
    ∀ (d i n : Nat), i + d = 3 → d < n → PX8_begin_27 post k u s p gn fi n (nI i) (fil1 at0 0 i) := by
  intro d
  induction d with
  | zero =>
    intro i n hd hn
    obtain ⟨n, rfl⟩ : ∃ k, n = k + 1 := ⟨n - 1, by omega⟩
    refine pk_le 3 i (fun _ => ⟨vp_in_nI (n := 0) (by omega) (by omega), ?_⟩) (fun h => absurd h (by omega))
    rintro _ rfl
    rw [show i = 3 by omega]; exact hp
  | succ d ih =>
    intro i n hd hn
    obtain ⟨n, rfl⟩ : ∃ k, n = k + 1 := ⟨n - 1, by omega⟩
    refine pk_le 3 i (fun h => absurd h (by omega)) (fun _ => ⟨vp_in_nI (by omega) (by omega), ?_⟩)
    rintro _ rfl _ rfl
    rw [nI_clamp (by omega), fil1_upd, nI_1]
    exact ih (i + 1) n (by omega) (by omega)
theorem u_begin2 {k u s p : Int32} {fs gn0 at0 fi : Nat → Int32} {post : Int32 → Int32 → Int32 → Int32 → (Nat → Int32) → (Nat → Int32) → (Nat → Int32) → Prop} (hp : post 0 0 0 0 (cpy1 fs gn0 5) (fil1 at0 0 3) (upd fi 0 0)) :
    ∀ (d i n : Nat), i + d = 5 → d < n → PX8_begin_2 post fs k u s p at0 fi n (nI i) (cpy1 fs gn0 i) := by
  intro d
  induction d with
  | zero =>
    intro i n hd hn
    obtain ⟨n, rfl⟩ : ∃ k, n = k + 1 := ⟨n - 1, by omega⟩
    refine pk_le 5 i (fun _ => ⟨4, ?_⟩) (fun h => absurd h (by omega))
    have h := u_begin27 (k := k) (u := u) (s := s) (p := p) (at0 := at0) (fi := fi) (gn := cpy1 fs gn0 i) (post := post) (by rw [show i = 5 by omega]; exact hp) 3 0 4 (by omega) (by omega)
    rw [fil1_0] at h
    exact h
  | succ d ih =>
    intro i n hd hn
    obtain ⟨n, rfl⟩ : ∃ k, n = k + 1 := ⟨n - 1, by omega⟩
    refine pk_le 5 i (fun h => absurd h (by omega)) (fun _ => ⟨vp_in_nI (by omega) (by omega), ?_⟩)
    rintro _ rfl
    refine ⟨vp_in_nI (by omega) (by omega), ?_⟩
    rintro _ rfl _ rfl
    rw [nI_clamp (by omega), cpy1_upd, nI_1]
    exact ih (i + 1) n (by omega) (by omega)
theorem u_begin {k u s p : Int32} {fs gn0 at0 fi : Nat → Int32} {post : Int32 → Int32 → Int32 → Int32 → (Nat → Int32) → (Nat → Int32) → (Nat → Int32) → Prop} (hp : post 0 0 0 0 (cpy1 fs gn0 5) (fil1 at0 0 3) (upd fi 0 0)) : PX8_begin k u s p fs gn0 at0 fi post :=
  ⟨6, by
    have h := u_begin2 (k := k) (u := u) (s := s) (p := p) hp 5 0 6 (by omega) (by omega)
    rw [cpy1_0] at h
    exact h⟩
def IniC (g : Int32) (a b k n : Nat → Int32) : Prop := g = nI 2 ∧ (a 0 = nI 0 ∧ a 1 = nI 1) ∧ (b 0 = nI 1 ∧ b 1 = nI 2) ∧ (k 0 = nI 0 ∧ k 1 = nI 1) ∧ (n 0 = nI 0 ∧ n 1 = nI 1)
def IniM (kM uM sM pM : Int32) (many ones others kinds firsts persons gone at_ fines : Nat → Int32) : Prop := (kM = nI 0 ∧ uM = nI 0 ∧ sM = nI 0 ∧ pM = nI 0) ∧ many 0 = nI 2 ∧ (ones 0 = nI 0 ∧ ones 1 = nI 1) ∧ (others 0 = nI 1 ∧ others 1 = nI 2) ∧ (kinds 0 = nI 0 ∧ kinds 1 = nI 1) ∧ persons 0 = nI 2 ∧ (gone 0 = nI 0 ∧ gone 1 = nI 1) ∧ (∀ p, p < 3 → at_ p = nI 0) ∧ fines 0 = nI 0
theorem p_X7_init : PX7_init IniC := by
  refine t_addGate (G := 0) (a := 0) (b := 1) (k := 0) (i := 0) (by omega) (by omega) (by omega) (by omega) (by omega) (by omega) (by omega) ?_
  refine t_addGate (G := 1) (a := 1) (b := 2) (k := 1) (i := 1) (by omega) (by omega) (by omega) (by omega) (by omega) (by omega) (by omega) ?_
  exact ⟨rfl, ⟨rfl, rfl⟩, ⟨rfl, rfl⟩, ⟨rfl, rfl⟩, ⟨rfl, rfl⟩⟩
theorem p_X8_init : PX8_init IniM := by
  refine ⟨vp_in_nI (n := 0) (by omega) (by omega), ?_⟩
  rintro _ rfl
  refine ⟨vp_in_nI (n := 0) (by omega) (by omega), ?_⟩
  rintro _ rfl
  refine ⟨vp_in_nI (n := 1) (by omega) (by omega), ?_⟩
  rintro _ rfl
  refine ⟨vp_in_nI (n := 1) (by omega) (by omega), ?_⟩
  rintro _ rfl
  refine ⟨vp_in_nI (n := 1) (by omega) (by omega), ?_⟩
  rintro _ rfl
  refine ⟨vp_in_nI (n := 1) (by omega) (by omega), ?_⟩
  rintro _ rfl
  refine ⟨vp_in_nI (n := 0) (by omega) (by omega), ?_⟩
  rintro _ rfl
  refine u_begin ?_
  exact ⟨⟨rfl, rfl, rfl, rfl⟩, rfl, ⟨rfl, rfl⟩, ⟨rfl, rfl⟩, ⟨rfl, rfl⟩, rfl, ⟨rfl, rfl⟩, fun p hp => by show fil1 _ 0 3 p = _; unfold fil1; rw [if_pos hp]; rfl, rfl⟩
