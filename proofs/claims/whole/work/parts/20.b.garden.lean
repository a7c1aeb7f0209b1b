/-! ===== a garden as numbers: ruler, open, beside, beyond, the open set ===== -/
def rul (K : Nat → Nat) : Nat → Nat
  | 0 => 0
  | g + 1 => if K (g + 1) = 3 then rul K g else g + 1
theorem rul_le (K : Nat → Nat) : ∀ g, rul K g ≤ g
  | 0 => Nat.le_refl 0
  | g + 1 => by
    unfold rul
    split
    · exact Nat.le_succ_of_le (rul_le K g)
    · exact Nat.le_refl _
theorem rul_ne {K : Nat → Nat} (h : K 0 ≠ 3) : ∀ g, K (rul K g) ≠ 3
  | 0 => h
  | g + 1 => by
    unfold rul
    split
    · exact rul_ne h g
    · assumption
theorem rul_self {K : Nat → Nat} {g : Nat} (h : K g ≠ 3) : rul K g = g := by
  cases g with
  | zero => rfl
  | succ g => unfold rul; rw [if_neg h]
theorem rul_copy {K : Nat → Nat} {g : Nat} (h : K (g + 1) = 3) : rul K (g + 1) = rul K g := by
  show (if K (g + 1) = 3 then rul K g else g + 1) = _
  rw [if_pos h]
def opn (K N : Nat → Nat) (g side : Nat) : Bool :=
  if K (rul K g) = 0 then decide (N (rul K g) % 2 = 0)
  else if K (rul K g) = 1 then decide (N (rul K g) % 2 = 1)
  else if K (rul K g) = 2 then decide (N (rul K g) % 3 = 0)
  else decide (side = 0) && decide (N (rul K g) % 2 = 0)
def opf (A B K N : Nat → Nat) (c g : Nat) : Bool := if A g = c then opn K N g 0 else if B g = c then opn K N g 1 else false
def byd (A B : Nat → Nat) (c g : Nat) : Nat := if A g = c then B g else A g
def osetN (K N : Nat → Nat) : Nat → Nat
  | 0 => 0
  | g + 1 => osetN K N g ||| (if opn K N g 0 then 2 ^ g else 0)
/-- the gates: so many, their courts and kinds -/
def GO (G : Nat) (A B K : Nat → Nat) : Prop := G ≤ 5 ∧ (∀ g, g < G → A g < 5 ∧ B g < 5 ∧ A g ≠ B g ∧ K g < 5) ∧ (0 < G → K 0 ≠ 3)
def Rp (n : Nat) (f : Nat → Int32) (F : Nat → Nat) : Prop := ∀ i, i < n → f i = nI (F i)
def Sm (n : Nat) (F : Nat → Nat) : Prop := ∀ i, i < n → F i < 1000000
theorem Rp.sub {n m : Nat} {f : Nat → Int32} {F : Nat → Nat} (h : Rp n f F) (hm : m ≤ n) : Rp m f F := fun i hi => h i (by omega)
theorem b2_cases (b : Bool) (side : Nat) (h : side = 0 ∨ side = 1) : True := trivial
theorem t_hasGate' {g G : Nat} {post : Int32 → Prop} (hG : G ≤ 5) (hg : g < G) (h : post 1) : PX2_hasGate (nI g) (nI G) post :=
  t_hasGate hG (fun _ _ _ => h) (fun n => absurd (pk_in g G hg) n)
theorem t_ruler4 {K : Nat → Nat} {kd : Nat → Int32} {G : Nat} {post : Int32 → Prop} (hK : Rp G kd K) (h0 : K 0 ≠ 3) (hK5 : ∀ g, g < G → K g < 5) (hG : G ≤ 5) :
    ∀ (r i n : Nat), r < G → r + i ≤ 4 → r < n → post (nI (rul K r)) → PX2_ruler_4 post (nI G) kd n (nI r) (nI i) := by
  intro r
  induction r with
  | zero =>
    intro i n hr hi hn hp
    obtain ⟨n, rfl⟩ : ∃ k, n = k + 1 := ⟨n - 1, by omega⟩
    refine pk_le 5 i (fun h => absurd h (by omega)) (fun _ => t_hasGate' hG hr ⟨fun h => absurd h (by decide), fun _ => ⟨pk_in 0 5 (by omega), ?_⟩⟩)
    rw [nI_clamp (by omega), hK 0 hr]
    exact pk_eq (K 0) 3 (fun h => absurd h h0) (fun _ => hp) rfl rfl (by have := hK5 0 hr; omega)
  | succ r ih =>
    intro i n hr hi hn hp
    obtain ⟨n, rfl⟩ : ∃ k, n = k + 1 := ⟨n - 1, by omega⟩
    refine pk_le 5 i (fun h => absurd h (by omega)) (fun _ => t_hasGate' hG hr ⟨fun h => absurd h (by decide), fun _ => ⟨pk_in (r + 1) 5 (by omega), ?_⟩⟩)
    rw [nI_clamp (by omega), hK (r + 1) hr]
    refine pk_eq (K (r + 1)) 3 (fun h => ?_) (fun h => ?_) rfl rfl (by have := hK5 _ hr; omega)
    · rintro _ rfl _ rfl
      rw [pk_m1, nI_1]
      exact ih (i + 1) n (by omega) (by omega) (by omega) (by rw [← rul_copy h]; exact hp)
    · rw [← rul_self h]; exact hp
theorem t_ruler {A B K : Nat → Nat} {kd : Nat → Int32} {g G : Nat} {post : Int32 → Prop} (hO : GO G A B K) (hK : Rp G kd K) (hg : g < G) (hp : post (nI (rul K g))) : PX2_ruler (nI g) (nI G) kd post :=
  ⟨g + 1, t_ruler4 hK (hO.2.2 (by omega)) (fun g hg => (hO.2.1 g hg).2.2.2) hO.1 g 0 (g + 1) hg (by have := hO.1; omega) (by omega) hp⟩
theorem t_isOpen {A B K N : Nat → Nat} {kd gn : Nat → Int32} {g G side : Nat} {post : Int32 → Prop} (hO : GO G A B K) (hK : Rp G kd K) (hN : Rp G gn N) (hS : Sm G N) (hg : g < G) (hs : side = 0 ∨ side = 1) (hp : post (bI (opn K N g side))) : PX2_isOpen (nI g) (nI side) (nI G) kd gn post := by
  have hle := rul_le K g
  have hr : rul K g < G := by omega
  have h3 := rul_ne (hO.2.2 (by omega)) g
  have hk := (hO.2.1 _ hr).2.2.2
  have hG := hO.1
  have hn := hS _ hr
  refine t_ruler hO hK hg (t_hasGate' hO.1 hr ⟨fun h => absurd h (by decide), fun _ => ⟨vp_in_nI (by omega) (by omega), ?_⟩⟩)
  rintro t rfl
  rw [nI_clamp (by omega), hK _ hr, hN _ hr]
  unfold opn at hp
  generalize hke : K (rul K g) = k at *
  generalize hne : N (rul K g) = n at *
  have e2 : nI n - nI n / 2 * 2 = nI (n % 2) := pk_rem (d := 2) (by omega) (by omega) (by omega)
  have e3 : nI n - nI n / 3 * 3 = nI (n % 3) := pk_rem (d := 3) (by omega) (by omega) (by omega)
  rw [e2, e3]
  have hin : vp_in (nI (rul K g)) 5 := vp_in_nI (by omega) (by omega)
  rcases (show k = 0 ∨ k = 1 ∨ k = 2 ∨ k = 4 by omega) with rfl | rfl | rfl | rfl
  · refine pk_eq 0 0 (fun _ => ⟨hin, pk_eq (n % 2) 0 (fun h => ?_) (fun h => ?_)⟩) (fun h => absurd rfl h)
    · rw [if_pos rfl, decide_eq_true h] at hp; exact hp
    · rw [if_pos rfl, decide_eq_false h] at hp; exact hp
  · refine pk_eq 1 0 (fun h => absurd h (by omega)) (fun _ => pk_eq 1 1 (fun _ => ⟨hin, pk_eq (n % 2) 0 (fun h => ?_) (fun h => ?_)⟩) (fun h => absurd rfl h))
    · rw [if_neg (by omega), if_pos rfl, decide_eq_false (by omega)] at hp; exact hp
    · rw [if_neg (by omega), if_pos rfl, decide_eq_true (by omega)] at hp; exact hp
  · refine pk_eq 2 0 (fun h => absurd h (by omega)) (fun _ => pk_eq 2 1 (fun h => absurd h (by omega)) (fun _ => pk_eq 2 2 (fun _ => ⟨hin, pk_eq (n % 3) 0 (fun h => ?_) (fun h => ?_)⟩) (fun h => absurd rfl h)))
    · rw [if_neg (by omega), if_neg (by omega), if_pos rfl, decide_eq_true h] at hp; exact hp
    · rw [if_neg (by omega), if_neg (by omega), if_pos rfl, decide_eq_false h] at hp; exact hp
  · refine pk_eq 4 0 (fun h => absurd h (by omega)) (fun _ => pk_eq 4 1 (fun h => absurd h (by omega)) (fun _ => pk_eq 4 2 (fun h => absurd h (by omega)) (fun _ => pk_eq 4 3 (fun h => absurd h (by omega)) (fun _ => pk_eq 4 4 (fun _ => pk_eq side 0 (fun hs0 => ⟨hin, pk_eq (n % 2) 0 (fun h => ?_) (fun h => ?_)⟩) (fun hs0 => ?_)) (fun h => absurd rfl h)))))
    · rw [if_neg (by omega), if_neg (by omega), if_neg (by omega), decide_eq_true h, decide_eq_true hs0] at hp; exact hp
    · rw [if_neg (by omega), if_neg (by omega), if_neg (by omega), decide_eq_false h, Bool.and_false] at hp; exact hp
    · rw [if_neg (by omega), if_neg (by omega), if_neg (by omega), decide_eq_false hs0, Bool.false_and] at hp; exact hp
theorem t_isOpenFrom {A B K N : Nat → Nat} {cA cB kd gn : Nat → Int32} {c g G : Nat} {post : Int32 → Prop} (hO : GO G A B K) (hA : Rp G cA A) (hB : Rp G cB B) (hK : Rp G kd K) (hN : Rp G gn N) (hS : Sm G N) (hc : c < 5) (hg : g < G) (hp : post (bI (opf A B K N c g))) : PX2_isOpenFrom (nI c) (nI g) (nI G) cA cB kd gn post := by
  obtain ⟨ha, hb, hab, -⟩ := hO.2.1 g hg
  have hG := hO.1
  refine t_hasGate' hO.1 hg ⟨fun h => absurd h (by decide), fun _ => ⟨vp_in_nI (by omega) (by omega), ?_⟩⟩
  rw [nI_clamp (by omega), hA g hg, hB g hg]
  unfold opf at hp
  refine pk_eq c (A g) (fun h => ?_) (fun h => ⟨vp_in_nI (by omega) (by omega), pk_eq c (B g) (fun h2 => ?_) (fun h2 => ?_)⟩)
  · rw [if_pos h.symm] at hp
    exact t_isOpen (side := 0) hO hK hN hS hg (Or.inl rfl) hp
  · rw [if_neg (fun q => h q.symm), if_pos h2.symm] at hp
    refine t_isOpen (side := 1) hO hK hN hS hg (Or.inr rfl) (and_b (fun h => ?_) (fun h => ?_))
    · rw [h] at hp; exact hp
    · rw [h] at hp; exact hp
  · rw [if_neg (fun q => h q.symm), if_neg (fun q => h2 q.symm)] at hp
    exact hp
theorem t_beyond {A B K : Nat → Nat} {cA cB : Nat → Int32} {c g G : Nat} {post : Int32 → Prop} (hO : GO G A B K) (hA : Rp G cA A) (hB : Rp G cB B) (hc : c < 5) (hg : g < G) (hbe : A g = c ∨ B g = c) (hp : post (nI (byd A B c g))) : PX2_beyond (nI c) (nI g) (nI G) cA cB post := by
  obtain ⟨ha, hb, hab, -⟩ := hO.2.1 g hg
  have hG := hO.1
  refine t_hasGate' hO.1 hg ⟨fun h => absurd h (by decide), fun _ => ⟨vp_in_nI (by omega) (by omega), ?_⟩⟩
  rw [nI_clamp (by omega), hA g hg, hB g hg]
  unfold byd at hp
  refine pk_eq c (A g) (fun h => ⟨vp_in_nI (by omega) (by omega), ?_⟩) (fun h => ⟨vp_in_nI (by omega) (by omega), pk_eq c (B g) (fun h2 => ⟨vp_in_nI (by omega) (by omega), ?_⟩) (fun h2 => ?_)⟩)
  · rw [if_pos h.symm] at hp; exact hp
  · rw [if_neg (fun q => h q.symm)] at hp; exact hp
  · exfalso; omega
theorem osetN_lt (K N : Nat → Nat) : ∀ g, osetN K N g < 2 ^ g
  | 0 => Nat.zero_lt_one
  | g + 1 => by
    unfold osetN
    refine Nat.or_lt_two_pow (Nat.lt_of_lt_of_le (osetN_lt K N g) (Nat.pow_le_pow_right (by omega) (by omega))) ?_
    split
    · exact Nat.pow_lt_pow_right (by omega) (by omega)
    · exact Nat.two_pow_pos _
theorem t_openFromA4 {A B K N : Nat → Nat} {kd gn : Nat → Int32} {G : Nat} {post : Int32 → Prop} (hO : GO G A B K) (hK : Rp G kd K) (hN : Rp G gn N) (hS : Sm G N) (hp : post (nI (osetN K N G))) :
    ∀ (d g n : Nat), g + d = G → d < n → PX2_openFromA_4 post (nI G) kd gn n (nI (osetN K N g)) (nI g) := by
  have hG := hO.1
  intro d
  induction d with
  | zero =>
    intro g n hd hn
    obtain ⟨n, rfl⟩ : ∃ k, n = k + 1 := ⟨n - 1, by omega⟩
    refine pk_le G g (fun _ => ?_) (fun h => absurd h (by omega))
    rw [show g = G by omega]; exact hp
  | succ d ih =>
    intro g n hd hn
    obtain ⟨n, rfl⟩ : ∃ k, n = k + 1 := ⟨n - 1, by omega⟩
    refine pk_le G g (fun h => absurd h (by omega)) (fun _ => pk_le 5 g (fun h => absurd h (by omega)) (fun _ => ?_))
    refine t_isOpen (side := 0) hO hK hN hS (by omega) (Or.inl rfl) (and_b (fun h => ?_) (fun h => ?_))
    · rintro _ rfl _ rfl
      rw [nI_1, cn_shl' (by omega), cn_or]
      have e : osetN K N (g + 1) = osetN K N g ||| 2 ^ g := by show _ ||| (if opn K N g 0 then 2 ^ g else 0) = _; rw [h]; rfl
      rw [← e]
      exact ih (g + 1) n (by omega) (by omega)
    · rintro _ rfl _ rfl
      have e : osetN K N (g + 1) = osetN K N g ||| 0 := by show _ ||| (if opn K N g 0 then 2 ^ g else 0) = _; rw [h]; rfl
      rw [nI_1, l0, cn_or, ← e]
      exact ih (g + 1) n (by omega) (by omega)
theorem t_openFromA {A B K N : Nat → Nat} {kd gn : Nat → Int32} {G : Nat} {post : Int32 → Prop} (hO : GO G A B K) (hK : Rp G kd K) (hN : Rp G gn N) (hS : Sm G N) (hp : post (nI (osetN K N G))) : PX2_openFromA (nI G) kd gn post :=
  ⟨G + 1, t_openFromA4 hO hK hN hS hp G 0 (G + 1) (by omega) (by omega)⟩
