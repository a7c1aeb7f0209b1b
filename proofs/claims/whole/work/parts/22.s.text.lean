/-! ===== the text's items, purely ===== -/
def bya (T : Nat → Nat) (L a : Nat) : Nat := if a < L then T a else 0
def fig (b : Nat) : Bool := decide (48 ≤ b) && decide (b ≤ 57)
theorem fig_t {b : Nat} (h : fig b = true) : 48 ≤ b ∧ b ≤ 57 := by
  unfold fig at h
  rw [Bool.and_eq_true] at h
  exact ⟨of_decide_eq_true h.1, of_decide_eq_true h.2⟩
theorem fig_f {b : Nat} (h : fig b = false) : b < 48 ∨ 57 < b := by
  unfold fig at h
  by_cases q : 48 ≤ b
  · rw [decide_eq_true q, Bool.true_and] at h
    have := of_decide_eq_false h
    omega
  · omega
theorem bya_lt {T : Nat → Nat} {L a : Nat} (h : bya T L a ≠ 0) : a < L := by
  unfold bya at h
  split at h
  · assumption
  · exact absurd rfl h
theorem bya_fl {T : Nat → Nat} {L a : Nat} (h : fig (bya T L a) = true) : a < L := bya_lt (T := T) (a := a) (fun e => by have := fig_t h; omega)
theorem bya_256 {T : Nat → Nat} {L : Nat} (hT : ∀ i, i < L → T i < 256) (a : Nat) : bya T L a < 256 := by
  unfold bya
  split
  · exact hT a (by assumption)
  · omega
/-- a number of one or two figures, and the sign behind it -/
def nmb (T : Nat → Nat) (L e a : Nat) : Option (Nat × Nat) :=
  if fig (bya T L a) then
    if fig (bya T L (a + 1)) then
      if bya T L (a + 2) = e then some (10 * (bya T L a - 48) + (bya T L (a + 1) - 48), a + 3) else none
    else if bya T L (a + 1) = e then some (bya T L a - 48, a + 2) else none
  else none
theorem nmb_ok {T : Nat → Nat} {L e a v b : Nat} (he : e ≠ 0) (h : nmb T L e a = some (v, b)) : v ≤ 99 ∧ a < b ∧ b ≤ L := by
  unfold nmb at h
  split at h
  · rename_i h1
    have f1 := fig_t h1
    split at h
    · rename_i h2
      have f2 := fig_t h2
      split at h
      · rename_i h3
        have := bya_lt (show bya T L (a + 2) ≠ 0 by omega)
        cases h
        omega
      · cases h
    · split at h
      · rename_i h3
        have := bya_lt (show bya T L (a + 1) ≠ 0 by omega)
        cases h
        omega
      · cases h
  · cases h
def gat (T : Nat → Nat) (L a : Nat) : Option (Nat × Nat × Nat × Nat × Nat) :=
  match nmb T L 44 a with
  | none => none
  | some (x, a1) => match nmb T L 44 a1 with
    | none => none
    | some (y, a2) => match nmb T L 44 a2 with
      | none => none
      | some (k, a3) => match nmb T L 59 a3 with
        | none => none
        | some (i, a4) => some (x, y, k, i, a4)
abbrev GS : Type := Nat × Nat × (Nat → Nat) × (Nat → Nat) × (Nat → Nat) × (Nat → Nat)
def itm (T : Nat → Nat) (L a : Nat) (s : GS) : Option (Nat × GS) :=
  if bya T L a = 103 then
    match gat T L (a + 1) with
    | none => none
    | some (x, y, k, i, a2) => if s.1 < 5 ∧ x < 5 ∧ y < 5 ∧ x ≠ y ∧ k < 5 ∧ (k = 3 → s.1 ≠ 0) then some (a2, (s.1 + 1, s.2.1, setN s.2.2.1 s.1 x, setN s.2.2.2.1 s.1 y, setN s.2.2.2.2.1 s.1 k, setN s.2.2.2.2.2 s.1 i)) else none
  else if bya T L a = 110 then
    match nmb T L 59 (a + 1) with
    | none => none
    | some (m, a2) => if 1 ≤ m ∧ m ≤ 3 then some (a2, (s.1, m, s.2.2.1, s.2.2.2.1, s.2.2.2.2.1, s.2.2.2.2.2)) else none
  else none
def rdA (T : Nat → Nat) (L : Nat) : Nat → Nat → GS → Option Nat × GS
  | 0, _, s => (none, s)
  | f + 1, a, s => if L ≤ a then (none, s) else match itm T L a s with
    | none => (some a, s)
    | some (a2, s2) => rdA T L f a2 s2
theorem rdA_end {T : Nat → Nat} {L a : Nat} {s : GS} (h : L ≤ a) : ∀ f, rdA T L f a s = (none, s)
  | 0 => by rw [rdA]
  | f + 1 => by rw [rdA, if_pos h]
theorem rdA_bad {T : Nat → Nat} {L a f : Nat} {s : GS} (h : a < L) (h1 : itm T L a s = none) : rdA T L (f + 1) a s = (some a, s) := by rw [rdA, if_neg (by omega), h1]
theorem rdA_go {T : Nat → Nat} {L a f a2 : Nat} {s s2 : GS} (h : a < L) (h1 : itm T L a s = some (a2, s2)) : rdA T L (f + 1) a s = rdA T L f a2 s2 := by rw [rdA, if_neg (by omega), h1]
def VGs (s : GS) : Prop := GO s.1 s.2.2.1 s.2.2.2.1 s.2.2.2.2.1 ∧ (1 ≤ s.2.1 ∧ s.2.1 ≤ 3) ∧ ∀ g, g < s.1 → s.2.2.2.2.2 g ≤ 99
theorem gat_ok {T : Nat → Nat} {L a x y k i b : Nat} (h : gat T L a = some (x, y, k, i, b)) : ∃ a1 a2 a3, nmb T L 44 a = some (x, a1) ∧ nmb T L 44 a1 = some (y, a2) ∧ nmb T L 44 a2 = some (k, a3) ∧ nmb T L 59 a3 = some (i, b) := by
  unfold gat at h
  split at h
  · cases h
  · rename_i x1 a1 h1
    split at h
    · cases h
    · rename_i y1 a2 h2
      split at h
      · cases h
      · rename_i k1 a3 h3
        split at h
        · cases h
        · rename_i i1 a4 h4
          cases h
          exact ⟨a1, a2, a3, h1, h2, h3, h4⟩
theorem gat_eq {T : Nat → Nat} {L a x y k i b a1 a2 a3 : Nat} (h1 : nmb T L 44 a = some (x, a1)) (h2 : nmb T L 44 a1 = some (y, a2)) (h3 : nmb T L 44 a2 = some (k, a3)) (h4 : nmb T L 59 a3 = some (i, b)) : gat T L a = some (x, y, k, i, b) := by
  unfold gat
  simp only [h1, h2, h3, h4]
theorem gat_n1 {T : Nat → Nat} {L a : Nat} (h : nmb T L 44 a = none) : gat T L a = none := by
  unfold gat
  simp only [h]
theorem gat_n2 {T : Nat → Nat} {L a x a1 : Nat} (h1 : nmb T L 44 a = some (x, a1)) (h : nmb T L 44 a1 = none) : gat T L a = none := by
  unfold gat
  simp only [h1, h]
theorem gat_n3 {T : Nat → Nat} {L a x y a1 a2 : Nat} (h1 : nmb T L 44 a = some (x, a1)) (h2 : nmb T L 44 a1 = some (y, a2)) (h : nmb T L 44 a2 = none) : gat T L a = none := by
  unfold gat
  simp only [h1, h2, h]
theorem gat_n4 {T : Nat → Nat} {L a x y k a1 a2 a3 : Nat} (h1 : nmb T L 44 a = some (x, a1)) (h2 : nmb T L 44 a1 = some (y, a2)) (h3 : nmb T L 44 a2 = some (k, a3)) (h : nmb T L 59 a3 = none) : gat T L a = none := by
  unfold gat
  simp only [h1, h2, h3, h]
theorem itm_g {T : Nat → Nat} {L a x y k i b : Nat} {s : GS} (h1 : bya T L a = 103) (h2 : gat T L (a + 1) = some (x, y, k, i, b)) (h3 : s.1 < 5 ∧ x < 5 ∧ y < 5 ∧ x ≠ y ∧ k < 5 ∧ (k = 3 → s.1 ≠ 0)) : itm T L a s = some (b, (s.1 + 1, s.2.1, setN s.2.2.1 s.1 x, setN s.2.2.2.1 s.1 y, setN s.2.2.2.2.1 s.1 k, setN s.2.2.2.2.2 s.1 i)) := by
  unfold itm
  rw [if_pos h1, h2]
  simp only
  rw [if_pos h3]
theorem itm_gn {T : Nat → Nat} {L a : Nat} {s : GS} (h1 : bya T L a = 103) (h : ∀ x y k i b, gat T L (a + 1) = some (x, y, k, i, b) → ¬ (s.1 < 5 ∧ x < 5 ∧ y < 5 ∧ x ≠ y ∧ k < 5 ∧ (k = 3 → s.1 ≠ 0))) : itm T L a s = none := by
  unfold itm
  rw [if_pos h1]
  split
  · rfl
  · rename_i x y k i b h2
    rw [if_neg (h x y k i b h2)]
theorem itm_n {T : Nat → Nat} {L a m b : Nat} {s : GS} (h1 : bya T L a = 110) (h2 : nmb T L 59 (a + 1) = some (m, b)) (h3 : 1 ≤ m ∧ m ≤ 3) : itm T L a s = some (b, (s.1, m, s.2.2.1, s.2.2.2.1, s.2.2.2.2.1, s.2.2.2.2.2)) := by
  unfold itm
  rw [if_neg (by omega), if_pos h1, h2]
  simp only
  rw [if_pos h3]
theorem itm_nn {T : Nat → Nat} {L a : Nat} {s : GS} (h1 : bya T L a = 110) (h : ∀ m b, nmb T L 59 (a + 1) = some (m, b) → ¬ (1 ≤ m ∧ m ≤ 3)) : itm T L a s = none := by
  unfold itm
  rw [if_neg (by omega), if_pos h1]
  split
  · rfl
  · rename_i m b h2
    rw [if_neg (h m b h2)]
theorem itm_no {T : Nat → Nat} {L a : Nat} {s : GS} (h1 : bya T L a ≠ 103) (h2 : bya T L a ≠ 110) : itm T L a s = none := by
  unfold itm
  rw [if_neg h1, if_neg h2]
theorem setN_at (C : Nat → Nat) (p c j : Nat) : setN C p c j = if j = p then c else C j := rfl
theorem itm_ok {T : Nat → Nat} {L a b : Nat} {s s2 : GS} (hV : VGs s) (h : itm T L a s = some (b, s2)) : VGs s2 ∧ a < b ∧ b ≤ L := by
  obtain ⟨hO, hP, hN⟩ := hV
  unfold itm at h
  split at h
  · split at h
    · cases h
    · rename_i x y k i a2 h2
      obtain ⟨a1, b1, c1, g1, g2, g3, g4⟩ := gat_ok h2
      have n1 := nmb_ok (by omega) g1
      have n2 := nmb_ok (by omega) g2
      have n3 := nmb_ok (by omega) g3
      have n4 := nmb_ok (by omega) g4
      split at h
      · rename_i hc
        obtain ⟨c1, c2, c3, c4, c5, c6⟩ := hc
        cases h
        refine ⟨⟨⟨by show s.1 + 1 ≤ 5; omega, fun g hg => ?_, fun _ => ?_⟩, hP, fun g hg => ?_⟩, by omega, by omega⟩
        · show setN s.2.2.1 s.1 x g < 5 ∧ setN s.2.2.2.1 s.1 y g < 5 ∧ setN s.2.2.1 s.1 x g ≠ setN s.2.2.2.1 s.1 y g ∧ setN s.2.2.2.2.1 s.1 k g < 5
          rw [setN_at, setN_at, setN_at]
          by_cases e : g = s.1
          · rw [if_pos e, if_pos e, if_pos e]; exact ⟨c2, c3, c4, c5⟩
          · rw [if_neg e, if_neg e, if_neg e]
            have hg' : g < s.1 + 1 := hg
            exact hO.2.1 g (by omega)
        · show setN s.2.2.2.2.1 s.1 k 0 ≠ 3
          rw [setN_at]
          by_cases e : 0 = s.1
          · rw [if_pos e]
            intro e3
            exact c6 e3 e.symm
          · rw [if_neg e]; exact hO.2.2 (by omega)
        · show setN s.2.2.2.2.2 s.1 i g ≤ 99
          rw [setN_at]
          by_cases e : g = s.1
          · rw [if_pos e]; exact n4.1
          · rw [if_neg e]
            have hg' : g < s.1 + 1 := hg
            exact hN g (by omega)
      · cases h
  · split at h
    · split at h
      · cases h
      · rename_i m a2 h2
        have n1 := nmb_ok (by omega) h2
        split at h
        · rename_i hc
          cases h
          exact ⟨⟨hO, hc, hN⟩, by omega, by omega⟩
        · cases h
    · cases h
theorem rdA_ok {T : Nat → Nat} {L : Nat} : ∀ (f a : Nat) (s : GS), VGs s → VGs (rdA T L f a s).2
  | 0, _, s, h => by rw [rdA]; exact h
  | f + 1, a, s, h => by
    rw [rdA]
    split
    · exact h
    · split
      · exact h
      · rename_i a2 s2 h2
        exact rdA_ok f a2 s2 (itm_ok h h2).1
theorem rdA_at {T : Nat → Nat} {L p : Nat} : ∀ (f a : Nat) (s : GS), (rdA T L f a s).1 = some p → p < L
  | 0, _, s, h => by rw [rdA] at h; cases h
  | f + 1, a, s, h => by
    rw [rdA] at h
    split at h
    · cases h
    · split at h
      · cases h; omega
      · exact rdA_at f _ _ h
/-! the class reads -/
def oI : Option Nat → Int32
  | none => -1
  | some v => nI v
theorem nI_nem1 {v : Nat} (h : v < 2 ^ 31) : ¬ nI v = (-1) := fun e => by
  have := congrArg Int32.toInt e
  rw [nI_toInt h] at this
  have h2 : ((-1 : Int32)).toInt = -1 := by decide
  omega
section
variable {T : Nat → Nat} {L a : Nat} {sg : Nat → Int32}
theorem t_sign {post : Int32 → Prop} (hL : L ≤ 200) (hs : Rp L sg T) (ha : a < 2 ^ 30) (h1 : a < L → post (nI (T a))) (h2 : L ≤ a → post (-1)) : PX5_signHere (nI L) (nI a) sg post := by
  refine pk_lt a 0 (fun h => absurd h (by omega)) (fun _ => pk_le L a (fun h => h2 h) (fun h => pk_le 200 a (fun h => absurd h (by omega)) (fun _ => ⟨vp_in_nI (by omega) (by omega), ?_⟩)))
  rw [nI_clamp (by omega), hs a h]
  exact h1 h
theorem t_takes {post : Int32 → Int32 → Prop} (x : Nat) (hx : x ≠ 0) (hx2 : x < 256) (hL : L ≤ 200) (hT : ∀ i, i < L → T i < 256) (hs : Rp L sg T) (ha : a < 2 ^ 30) (h1 : bya T L a = x → post 1 (nI (a + 1))) (h2 : bya T L a ≠ x → post 0 (nI a)) : PX5_takes (nI x) (nI L) (nI a) sg post := by
  refine t_sign hL hs ha (fun h => ?_) (fun h => ?_)
  · have e : bya T L a = T a := if_pos h
    have := hT a h
    rw [e] at h1 h2
    refine pk_eq (T a) x (fun q => ?_) (fun q => h2 q)
    rintro _ rfl
    rw [nI_1]
    exact h1 q
  · have e : bya T L a = 0 := if_neg (by omega)
    refine ⟨fun q => absurd q.symm (nI_nem1 (by omega)), fun _ => h2 (by omega)⟩
theorem t_figure {post : Int32 → Int32 → Prop} (hL : L ≤ 200) (hT : ∀ i, i < L → T i < 256) (hs : Rp L sg T) (ha : a < 2 ^ 30) (h1 : fig (bya T L a) = true → post (nI (bya T L a - 48)) (nI (a + 1))) (h2 : fig (bya T L a) = false → post (-1) (nI a)) : PX5_figure (nI L) (nI a) sg post := by
  refine t_sign hL hs ha (fun h => ?_) (fun h => ?_)
  · have e : bya T L a = T a := if_pos h
    have := hT a h
    rw [e] at h1 h2
    refine pk_lt (T a) 48 (fun q => h2 ?_) (fun q => pk_le (T a) 57 (fun q2 => ?_) (fun q2 => h2 ?_))
    · unfold fig; rw [decide_eq_false (by omega), Bool.false_and]
    · rintro _ rfl
      rw [nI_1, show (48 : Int32) = nI 48 from rfl, pk_sub q]
      exact h1 (by unfold fig; rw [decide_eq_true q, decide_eq_true q2]; rfl)
    · unfold fig; rw [decide_eq_false (show ¬ T a ≤ 57 by omega), Bool.and_false]
  · have e : bya T L a = 0 := if_neg (by omega)
    exact ⟨fun _ => h2 (by rw [e]; rfl), fun q => absurd (by decide) q⟩
theorem t_number {post : Int32 → Int32 → Prop} (x : Nat) (hx : x ≠ 0) (hx2 : x < 256) (hL : L ≤ 200) (hT : ∀ i, i < L → T i < 256) (hs : Rp L sg T) (ha : a < 2 ^ 29) (h : ∀ (o : Option Nat) (b : Nat), (∀ v, o = some v → nmb T L x a = some (v, b) ∧ v ≤ 99) → (o = none → nmb T L x a = none) → b ≤ a + 3 → post (oI o) (nI b)) : PX5_number (nI x) (nI L) (nI a) sg post := by
  refine t_figure hL hT hs (by omega) (fun f1 => ?_) (fun f1 => ⟨fun _ => ?_, fun q => absurd rfl q⟩)
  · have g1 := fig_t f1
    refine ⟨fun q => absurd q (nI_nem1 (by omega)), fun _ => t_figure hL hT hs (by omega) (fun f2 => ?_) (fun f2 => ?_)⟩
    · have g2 := fig_t f2
      refine ⟨fun q => absurd q (nI_nem1 (by omega)), fun _ => ?_⟩
      rintro _ rfl
      rw [l10, pk_mul, nI_add]
      refine t_takes x hx hx2 hL hT hs (by omega) (fun q => rb1 ?_) (fun q => rb0 ?_)
      · have e : nmb T L x a = some (10 * (bya T L a - 48) + (bya T L (a + 1) - 48), a + 3) := by
          unfold nmb
          rw [if_pos f1, if_pos f2, if_pos q]
        exact h (some _) (a + 3) (fun v hv => by cases hv; exact ⟨e, by omega⟩) (fun hn => by cases hn) (Nat.le_refl _)
      · have e : nmb T L x a = none := by
          unfold nmb
          rw [if_pos f1, if_pos f2, if_neg q]
        exact h none (a + 2) (fun v hv => by cases hv) (fun _ => e) (by omega)
    · refine ⟨fun _ => t_takes x hx hx2 hL hT hs (by omega) (fun q => rb1 ?_) (fun q => rb0 ?_), fun q => absurd rfl q⟩
      · have e : nmb T L x a = some (bya T L a - 48, a + 2) := by
          unfold nmb
          rw [if_pos f1, if_neg (by rw [f2]; decide), if_pos q]
        exact h (some _) (a + 2) (fun v hv => by cases hv; exact ⟨e, by omega⟩) (fun hn => by cases hn) (by omega)
      · have e : nmb T L x a = none := by
          unfold nmb
          rw [if_pos f1, if_neg (by rw [f2]; decide), if_neg q]
        exact h none (a + 1) (fun v hv => by cases hv) (fun _ => e) (by omega)
  · have e : nmb T L x a = none := by
      unfold nmb
      rw [if_neg (by rw [f1]; decide)]
    exact h none a (fun v hv => by cases hv) (fun _ => e) (by omega)
end
theorem m1_lt : (-1 : Int32) < 0 := by decide
theorem m1_nle : ¬ (0 : Int32) ≤ -1 := by decide
theorem t_courtO {o : Option Nat} {post : Int32 → Prop} (ho : ∀ v, o = some v → v ≤ 99) (h1 : ∀ v, o = some v → v < 5 → post 1) (h0 : (∀ v, o = some v → 5 ≤ v) → post 0) : PX7_isCourt (oI o) post := by
  cases o with
  | none => exact ⟨fun _ => h0 (fun v hv => by cases hv), fun q => absurd m1_lt q⟩
  | some v =>
    have := ho v rfl
    exact pk_lt v 0 (fun h => absurd h (by omega)) (fun _ => pk_le 5 v (fun h => h0 (fun w hw => by cases hw; exact h)) (fun h => h1 v rfl h))
theorem t_addGateO {G : Nat} {o1 o2 o3 o4 : Option Nat} {cA cB kd gn : Nat → Int32} {post : Int32 → Int32 → (Nat → Int32) → (Nat → Int32) → (Nat → Int32) → (Nat → Int32) → Prop} (hG : G ≤ 5) (b1 : ∀ v, o1 = some v → v ≤ 99) (b2 : ∀ v, o2 = some v → v ≤ 99) (b3 : ∀ v, o3 = some v → v ≤ 99) (b4 : ∀ v, o4 = some v → v ≤ 99)
    (h1 : ∀ x y k i, o1 = some x → o2 = some y → o3 = some k → o4 = some i → (G < 5 ∧ x < 5 ∧ y < 5 ∧ x ≠ y ∧ k < 5 ∧ (k = 3 → G ≠ 0)) → post 1 (nI (G + 1)) (upd cA G (nI x)) (upd cB G (nI y)) (upd kd G (nI k)) (upd gn G (nI i)))
    (h0 : (∀ x y k i, o1 = some x → o2 = some y → o3 = some k → o4 = some i → ¬ (G < 5 ∧ x < 5 ∧ y < 5 ∧ x ≠ y ∧ k < 5 ∧ (k = 3 → G ≠ 0))) → post 0 (nI G) cA cB kd gn) : PX2_addGate (oI o1) (oI o2) (oI o3) (oI o4) (nI G) cA cB kd gn post := by
  refine pk_le 5 G (fun h => h0 (fun _ _ _ _ _ _ _ _ q => absurd q.1 (by omega))) (fun hG5 => t_courtO b1 (fun x e1 hx => rb1 ?_) (fun h => rb0 (h0 (fun x _ _ _ e _ _ _ q => absurd q.2.1 (by have := h x e; omega)))))
  refine t_courtO b2 (fun y e2 hy => rb1 ?_) (fun h => rb0 (h0 (fun _ y _ _ _ e _ _ q => absurd q.2.2.1 (by have := h y e; omega))))
  subst e1 e2
  refine pk_eq x y (fun e => h0 (fun x' y' _ _ e1 e2 _ _ q => ?_)) (fun hxy => ?_)
  · cases e1
    cases e2
    exact q.2.2.2.1 e
  · cases o3 with
    | none => exact ⟨fun _ => h0 (fun _ _ _ _ _ _ e _ _ => by cases e), fun q => absurd m1_lt q⟩
    | some k =>
      have hk := b3 k rfl
      refine pk_lt k 0 (fun h => absurd h (by omega)) (fun _ => pk_le 5 k (fun h => h0 (fun _ _ k' _ _ _ e _ q => ?_)) (fun hk5 => ?_))
      · cases e
        exact absurd q.2.2.2.2.1 (by omega)
      · have h50 : (k = 3 → G ≠ 0) → PX2_addGate_50 post (nI x) (nI y) (nI k) (oI o4) (nI G) cA cB kd gn := fun h3 => by
          cases o4 with
          | none => exact ⟨fun q => absurd q m1_nle, fun _ => h0 (fun _ _ _ _ _ _ _ e _ => by cases e)⟩
          | some i =>
            have hi := b4 i rfl
            refine pk_le 0 i (fun _ => ⟨vp_in_nI (by omega) (by omega), ?_⟩) (fun h => absurd h (by omega))
            rintro _ rfl
            refine ⟨vp_in_nI (by omega) (by omega), ?_⟩
            rintro _ rfl
            refine ⟨vp_in_nI (by omega) (by omega), ?_⟩
            rintro _ rfl
            refine ⟨vp_in_nI (by omega) (by omega), ?_⟩
            rintro _ rfl _ rfl
            rw [nI_clamp (by omega), nI_1]
            exact h1 x y k i rfl rfl rfl rfl ⟨hG5, hx, hy, hxy, hk5, h3⟩
        refine pk_eq k 3 (fun h => pk_eq G 0 (fun hg0 => h0 (fun _ _ k' _ _ _ e _ q => ?_)) (fun hg0 => h50 (fun _ => hg0))) (fun h => h50 (fun e => absurd e h))
        cases e
        exact q.2.2.2.2.2 h hg0
/-- a garden of the class, as far as it is read -/
def CRd (s : GS) (g p : Int32) (cA cB kd gn ct : Nat → Int32) : Prop := g = nI s.1 ∧ p = nI s.2.1 ∧ Rp s.1 cA s.2.2.1 ∧ Rp s.1 cB s.2.2.2.1 ∧ Rp s.1 kd s.2.2.2.2.1 ∧ Rp s.1 gn s.2.2.2.2.2 ∧ Rp 3 ct (fun _ => 0)
theorem Rp_add {n x : Nat} {f : Nat → Int32} {F : Nat → Nat} (h : Rp n f F) : Rp (n + 1) (upd f n (nI x)) (setN F n x) := fun i hi => by
  rw [setN_at]
  by_cases e : i = n
  · subst e; rw [pk_us, if_pos rfl]
  · rw [pk_un e, if_neg e]; exact h i (by omega)
theorem t_item {T : Nat → Nat} {L a : Nat} {sg : Nat → Int32} {s : GS} {g p : Int32} {cA cB kd gn ct : Nat → Int32} {post : Int32 → Int32 → Int32 → Int32 → (Nat → Int32) → (Nat → Int32) → (Nat → Int32) → (Nat → Int32) → (Nat → Int32) → Prop} (hL : L ≤ 200) (hT : ∀ i, i < L → T i < 256) (hs : Rp L sg T) (ha : a < L) (hV : VGs s) (hC : CRd s g p cA cB kd gn ct)
    (h1 : ∀ b s2, itm T L a s = some (b, s2) → ∀ g' p' cA' cB' kd' gn' ct', CRd s2 g' p' cA' cB' kd' gn' ct' → post 1 (nI b) g' p' cA' cB' kd' gn' ct')
    (h0 : itm T L a s = none → ∀ b g' p' cA' cB' kd' gn' ct', post 0 b g' p' cA' cB' kd' gn' ct') : PX5_readItem (nI L) (nI a) sg g p cA cB kd gn ct post := by
  obtain ⟨rfl, rfl, r1, r2, r3, r4, r5⟩ := hC
  have hG := hV.1.1
  refine t_takes 103 (by omega) (by omega) hL hT hs (by omega) (fun e => rb1 ?_) (fun e => rb0 ?_)
  · refine t_number 44 (by omega) (by omega) hL hT hs (by omega) (fun o1 a1 s1 n1 l1' => t_number 44 (by omega) (by omega) hL hT hs (by omega) (fun o2 a2 s2 n2 l2' => t_number 44 (by omega) (by omega) hL hT hs (by omega) (fun o3 a3 s3 n3 l3' => t_number 59 (by omega) (by omega) hL hT hs (by omega) (fun o4 a4 s4 n4 l4' => t_addGateO hG (fun v h => (s1 v h).2) (fun v h => (s2 v h).2) (fun v h => (s3 v h).2) (fun v h => (s4 v h).2) (fun x y k i e1 e2 e3 e4 hc => ?_) (fun hn => h0 (itm_gn e (fun x y k i b hg hc => ?_)) _ _ _ _ _ _ _ _)))))
    · exact h1 _ _ (itm_g e (gat_eq (s1 x e1).1 (s2 y e2).1 (s3 k e3).1 (s4 i e4).1) hc) _ _ _ _ _ _ _ ⟨rfl, rfl, Rp_add r1, Rp_add r2, Rp_add r3, Rp_add r4, r5⟩
    · obtain ⟨c1, c2, c3, g1, g2, g3, g4⟩ := gat_ok hg
      cases o1 with
      | none => rw [n1 rfl] at g1; cases g1
      | some x' =>
        have w1 := (s1 x' rfl).1
        rw [g1] at w1
        cases w1
        cases o2 with
        | none => rw [n2 rfl] at g2; cases g2
        | some y' =>
          have w2 := (s2 y' rfl).1
          rw [g2] at w2
          cases w2
          cases o3 with
          | none => rw [n3 rfl] at g3; cases g3
          | some k' =>
            have w3 := (s3 k' rfl).1
            rw [g3] at w3
            cases w3
            cases o4 with
            | none => rw [n4 rfl] at g4; cases g4
            | some i' =>
              have w4 := (s4 i' rfl).1
              rw [g4] at w4
              cases w4
              exact hn _ _ _ _ rfl rfl rfl rfl hc
  · refine t_takes 110 (by omega) (by omega) hL hT hs (by omega) (fun e2 => rb1 ?_) (fun e2 => rb0 (h0 (itm_no e e2) _ _ _ _ _ _ _ _))
    refine t_number 59 (by omega) (by omega) hL hT hs (by omega) (fun o b s1 n1 _ => ?_)
    cases o with
    | none =>
      refine ⟨fun _ => rb0 (h0 (itm_nn e2 (fun m b h => ?_)) _ _ _ _ _ _ _ _), fun q => absurd (by decide) q⟩
      rw [n1 rfl] at h; cases h
    | some m =>
      obtain ⟨w1, w2⟩ := s1 m rfl
      refine pk_lt m 1 (fun h => rb0 (h0 (itm_nn e2 (fun m' b' h2 => ?_)) _ _ _ _ _ _ _ _)) (fun h1' => pk_le m 3 (fun h3 => t_gather h1' h3 (fun ct2 hct => rb1 ?_)) (fun h3 => rb0 (h0 (itm_nn e2 (fun m' b' h2 => ?_)) _ _ _ _ _ _ _ _)))
      · rw [w1] at h2; cases h2; omega
      · exact h1 _ _ (itm_n e2 w1 ⟨h1', h3⟩) _ _ _ _ _ _ _ ⟨rfl, rfl, r1, r2, r3, r4, hct⟩
      · rw [w1] at h2; cases h2; omega
theorem t_read11 {T : Nat → Nat} {L : Nat} {sg : Nat → Int32} {F : Int32} {post : Int32 → Int32 → Int32 → Int32 → Int32 → (Nat → Int32) → (Nat → Int32) → (Nat → Int32) → (Nat → Int32) → (Nat → Int32) → Prop} (hL : L ≤ 200) (hT : ∀ i, i < L → T i < 256) (hs : Rp L sg T) (R : Option Nat × GS)
    (hb : ∀ q, R.1 = some q → ∀ a' g' p' cA' cB' kd' gn' ct', post (nI q) a' g' p' F cA' cB' kd' gn' ct') (hg : R.1 = none → ∀ a' g' p' cA' cB' kd' gn' ct', CRd R.2 g' p' cA' cB' kd' gn' ct' → post (-4) a' g' p' F cA' cB' kd' gn' ct') :
    ∀ (f c a n : Nat) (s : GS) (g p : Int32) (cA cB kd gn ct : Nat → Int32), f + c = 201 → f < n → c ≤ a → a ≤ L → VGs s → CRd s g p cA cB kd gn ct → rdA T L f a s = R → PX5_readInto_11 post (nI L) sg F n (nI c) (nI a) g p cA cB kd gn ct := by
  intro f
  induction f with
  | zero => intro c a n s g p cA cB kd gn ct hf hn hc ha; exfalso; omega
  | succ f ih =>
    intro c a n s g p cA cB kd gn ct hf hn hc ha hV hC hR
    obtain ⟨n, rfl⟩ : ∃ k, n = k + 1 := ⟨n - 1, by omega⟩
    have fin : L ≤ a → post (-4) (nI a) g p F cA cB kd gn ct := fun h => by
      rw [rdA_end h] at hR
      subst hR
      exact hg rfl _ _ _ _ _ _ _ _ hC
    refine pk_le 200 c (fun h => fin (by omega)) (fun _ => pk_le L a (fun h => fin h) (fun hlt => t_item hL hT hs hlt hV hC (fun b s2 hi g' p' cA' cB' kd' gn' ct' hC2 => rb1 ?_) (fun hi _ _ _ _ _ _ _ _ => rb0 ?_)))
    · obtain ⟨v1, v2, v3⟩ := itm_ok hV hi
      rw [rdA_go hlt hi] at hR
      rintro _ rfl
      rw [nI_1]
      exact ih (c + 1) b n s2 _ _ _ _ _ _ _ (by omega) (by omega) (by omega) v3 v1 hC2 hR
    · rw [rdA_bad hlt hi] at hR
      subst hR
      exact hb a rfl _ _ _ _ _ _ _ _
def gs0 : GS := (0, 2, fun _ => 0, fun _ => 0, fun _ => 0, fun _ => 0)
theorem gs0_ok : VGs gs0 := ⟨⟨by show 0 ≤ 5; omega, fun g hg => absurd hg (Nat.not_lt_zero g), fun h => absurd h (Nat.lt_irrefl 0)⟩, ⟨by show 1 ≤ 2; omega, by show 2 ≤ 3; omega⟩, fun g hg => absurd hg (Nat.not_lt_zero g)⟩
theorem t_readInto {T : Nat → Nat} {L : Nat} {sg : Nat → Int32} {a0 g0 p0 F0 : Int32} {cA cB kd gn ct : Nat → Int32} {post : Int32 → Int32 → Int32 → Int32 → Int32 → (Nat → Int32) → (Nat → Int32) → (Nat → Int32) → (Nat → Int32) → (Nat → Int32) → Prop} (hL : L ≤ 200) (hT : ∀ i, i < L → T i < 256) (hs : Rp L sg T)
    (hb : ∀ q, (rdA T L 201 0 gs0).1 = some q → ∀ a' g' p' cA' cB' kd' gn' ct', post (nI q) a' g' p' 0 cA' cB' kd' gn' ct') (hg : (rdA T L 201 0 gs0).1 = none → ∀ a' g' p' cA' cB' kd' gn' ct', CRd (rdA T L 201 0 gs0).2 g' p' cA' cB' kd' gn' ct' → post (-4) a' g' p' 0 cA' cB' kd' gn' ct') : PX5_readInto (nI L) a0 sg g0 p0 F0 cA cB kd gn ct post := by
  refine t_gather (m := 2) (P0 := p0) (by omega) (by omega) (fun ct2 hct => ⟨202, ?_⟩)
  exact t_read11 hL hT hs (rdA T L 201 0 gs0) hb hg 201 0 0 202 gs0 _ _ _ _ _ _ _ (by omega) (by omega) (by omega) (by omega) gs0_ok ⟨rfl, rfl, fun i hi => absurd hi (Nat.not_lt_zero i), fun i hi => absurd hi (Nat.not_lt_zero i), fun i hi => absurd hi (Nat.not_lt_zero i), fun i hi => absurd hi (Nat.not_lt_zero i), hct⟩ rfl
