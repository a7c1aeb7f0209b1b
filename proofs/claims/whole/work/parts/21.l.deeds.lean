/-! ===== deeds ===== -/
def snN (F : Nat → Nat) (e x : Nat) : Nat → Nat := fun j => if j = e then x else F j
def eD (d : Nat) : Nat := if d < 8 then d else 7
def shD (d : Nat) (F : Nat → Nat) : Nat → Nat := if d < 8 then F else fun i => F (i + 1)
def Und (d : Nat) (mun : Nat → Int32) (DP DG DC DF : Nat → Nat) : Prop := ∀ i, i < d → mun (4 * i) = nI (DP i) ∧ mun (4 * i + 1) = nI (DG i) ∧ mun (4 * i + 2) = nI (DC i) ∧ mun (4 * i + 3) = nI (DF i)
theorem shift7 (f : Nat → Int32) (k : Nat) (h : k < 7) : va_cpy f f (1 : Int32).toNatClampNeg (0 : Int32).toNatClampNeg (7 : Int32).toNatClampNeg k = f (k + 1) := by
  show (if 0 ≤ k ∧ k < 0 + 7 then f (1 + (k - 0)) else f k) = _
  rw [if_pos (by omega), show 1 + (k - 0) = k + 1 by omega]
theorem t_note13 {d p g c f : Nat} {dp dg df dfi : Nat → Int32} {DP DG DC DF : Nat → Nat} {post : Int32 → (Nat → Int32) → (Nat → Int32) → (Nat → Int32) → (Nat → Int32) → Prop} (hd : d < 8) (h1 : Rp d dp DP) (h2 : Rp d dg DG) (h3 : Rp d df DC) (h4 : Rp d dfi DF)
    (hp : ∀ dp' dg' df' dfi', Rp (d + 1) dp' (snN DP d p) → Rp (d + 1) dg' (snN DG d g) → Rp (d + 1) df' (snN DC d c) → Rp (d + 1) dfi' (snN DF d f) → post (nI (d + 1)) dp' dg' df' dfi') : PX1_note_13 post (nI p) (nI g) (nI c) (nI f) (nI d) dp dg df dfi := by
  refine pk_lt d 0 (fun h => absurd h (by omega)) (fun _ => pk_lt d 8 (fun _ => ⟨vp_in_nI (by omega) (by omega), ?_⟩) (fun h => absurd h (by omega)))
  rintro _ rfl
  refine ⟨vp_in_nI (by omega) (by omega), ?_⟩
  rintro _ rfl
  refine ⟨vp_in_nI (by omega) (by omega), ?_⟩
  rintro _ rfl
  refine ⟨vp_in_nI (by omega) (by omega), ?_⟩
  rintro _ rfl _ rfl
  rw [nI_clamp (by omega), nI_1]
  exact hp _ _ _ _ (h1.snoc p) (h2.snoc g) (h3.snoc c) (h4.snoc f)
theorem t_note {d p g c f : Nat} {dp dg df dfi : Nat → Int32} {DP DG DC DF : Nat → Nat} {post : Int32 → (Nat → Int32) → (Nat → Int32) → (Nat → Int32) → (Nat → Int32) → Prop} (hd : d ≤ 8) (h1 : Rp d dp DP) (h2 : Rp d dg DG) (h3 : Rp d df DC) (h4 : Rp d dfi DF)
    (hp : ∀ dp' dg' df' dfi', Rp (eD d + 1) dp' (snN (shD d DP) (eD d) p) → Rp (eD d + 1) dg' (snN (shD d DG) (eD d) g) → Rp (eD d + 1) df' (snN (shD d DC) (eD d) c) → Rp (eD d + 1) dfi' (snN (shD d DF) (eD d) f) → post (nI (eD d + 1)) dp' dg' df' dfi') : PX1_note (nI p) (nI g) (nI c) (nI f) (nI d) dp dg df dfi post := by
  unfold eD shD at hp
  refine pk_lt d 8 (fun h8 => ?_) (fun h8 => ?_)
  · simp only [if_pos h8] at hp
    exact t_note13 h8 h1 h2 h3 h4 hp
  · have h8' : ¬ d < 8 := by omega
    simp only [if_neg h8'] at hp
    rintro _ rfl _ rfl _ rfl _ rfl
    have sh : ∀ {F : Nat → Nat} {a : Nat → Int32}, Rp d a F → Rp 7 (va_cpy a a (1 : Int32).toNatClampNeg (0 : Int32).toNatClampNeg (7 : Int32).toNatClampNeg) (fun i => F (i + 1)) := fun hr i hi => by rw [shift7 _ _ hi]; exact hr (i + 1) (by omega)
    exact t_note13 (d := 7) (by omega) (sh h1) (sh h2) (sh h3) (sh h4) hp
theorem cpy_sh (u : Nat → Int32) (k : Nat) : upd (va_cpy u u 4 0 k) k (va_cpy u u 4 0 k (k + 4)) = va_cpy u u 4 0 (k + 1) := by
  funext j
  show (if j = k then (if 0 ≤ k + 4 ∧ k + 4 < 0 + k then u (4 + (k + 4 - 0)) else u (k + 4)) else (if 0 ≤ j ∧ j < 0 + k then u (4 + (j - 0)) else u j)) = if 0 ≤ j ∧ j < 0 + (k + 1) then u (4 + (j - 0)) else u j
  by_cases h : j = k
  · subst h
    rw [if_pos rfl, if_neg (by omega), if_pos (by omega), show 4 + (j - 0) = j + 4 by omega]
  · rw [if_neg h]
    by_cases h2 : 0 ≤ j ∧ j < 0 + k
    · rw [if_pos h2, if_pos (by omega)]
    · rw [if_neg h2, if_neg (by omega)]
theorem u_note51 {d p g c f : Nat} {N : Nat → Nat} {gone at_ mun : Nat → Int32} {DP DG DC DF : Nat → Nat} {post : Int32 → (Nat → Int32) → (Nat → Int32) → Prop} (hd : d < 8) (hg : g < 5) (hp3 : p < 3) (hgn : gone g = nI (N g)) (hat : at_ p = nI c) (h : Und d mun DP DG DC DF)
    (hp : ∀ mun', Und (d + 1) mun' (snN DP d p) (snN DG d g) (snN DC d c) (snN DF d f) → post (nI (d + 1)) (upd gone g (nI (N g + 1))) mun') : PX8_note_51 post (nI p) (nI g) (nI f) at_ (nI d) gone mun := by
  unfold PX8_note_51
  have e4 : 4 * nI d = nI (4 * d) := by rw [l4, pk_mul]
  rw [e4, l1, l2, l3, nI_add, nI_add, nI_add]
  refine ⟨vp_in_nI (by omega) (by omega), ?_⟩
  rintro _ rfl
  refine ⟨vp_in_nI (by omega) (by omega), ?_⟩
  rintro _ rfl
  refine ⟨vp_in_nI (by omega) (by omega), ?_⟩
  rintro _ rfl
  refine ⟨vp_in_nI (by omega) (by omega), ?_⟩
  rintro _ rfl
  refine ⟨vp_in_nI (by omega) (by omega), ?_⟩
  rintro _ rfl _ rfl
  refine ⟨vp_in_nI (by omega) (by omega), ?_⟩
  rintro _ rfl
  refine ⟨vp_in_nI (by omega) (by omega), ?_⟩
  rintro _ rfl
  rw [nI_clamp (by omega), nI_clamp (by omega), nI_clamp (by omega), nI_clamp (by omega), nI_clamp (by omega), nI_clamp (by omega), hgn, hat, nI_add, nI_add]
  refine hp _ (fun i hi => ?_)
  simp only [upd_eq, snN]
  by_cases q : i = d
  · subst q
    refine ⟨?_, ?_, ?_, ?_⟩
    · rw [if_neg (by omega), if_neg (by omega), if_neg (by omega), if_pos rfl, if_pos rfl]
    · rw [if_neg (by omega), if_neg (by omega), if_pos rfl, if_pos rfl]
    · rw [if_neg (by omega), if_pos rfl, if_pos rfl]
    · rw [if_pos rfl, if_pos rfl]
  · obtain ⟨b1, b2, b3, b4⟩ := h i (by omega)
    refine ⟨?_, ?_, ?_, ?_⟩
    · rw [if_neg (by omega), if_neg (by omega), if_neg (by omega), if_neg (by omega), if_neg q]; exact b1
    · rw [if_neg (by omega), if_neg (by omega), if_neg (by omega), if_neg (by omega), if_neg q]; exact b2
    · rw [if_neg (by omega), if_neg (by omega), if_neg (by omega), if_neg (by omega), if_neg q]; exact b3
    · rw [if_neg (by omega), if_neg (by omega), if_neg (by omega), if_neg (by omega), if_neg q]; exact b4
theorem u_note12 {x1 x2 x3 : Int32} {at_ gone u : Nat → Int32} {post : Int32 → (Nat → Int32) → (Nat → Int32) → Prop} (hp : PX8_note_51 post x1 x2 x3 at_ (nI 7) gone (va_cpy u u 4 0 28)) :
    ∀ (d i n : Nat), i + d = 28 → d < n → PX8_note_12 post x1 x2 x3 at_ (nI 8) gone n (nI i) (va_cpy u u 4 0 i) := by
  intro d
  induction d with
  | zero =>
    intro i n hd hn
    obtain ⟨n, rfl⟩ : ∃ k, n = k + 1 := ⟨n - 1, by omega⟩
    refine pk_le 28 i (fun _ => ?_) (fun h => absurd h (by omega))
    rintro _ rfl
    rw [show i = 28 by omega]; exact hp
  | succ d ih =>
    intro i n hd hn
    obtain ⟨n, rfl⟩ : ∃ k, n = k + 1 := ⟨n - 1, by omega⟩
    refine pk_le 28 i (fun h => absurd h (by omega)) (fun _ => ?_)
    rw [l4, nI_add]
    refine ⟨vp_in_nI (by omega) (by omega), ?_⟩
    rintro _ rfl
    refine ⟨vp_in_nI (by omega) (by omega), ?_⟩
    rintro _ rfl _ rfl
    rw [nI_clamp (by omega), nI_clamp (by omega), cpy_sh, nI_1]
    exact ih (i + 1) n (by omega) (by omega)
theorem u_note {d p g c f : Nat} {N : Nat → Nat} {gone at_ mun : Nat → Int32} {DP DG DC DF : Nat → Nat} {post : Int32 → (Nat → Int32) → (Nat → Int32) → Prop} (hd : d ≤ 8) (hg : g < 5) (hp3 : p < 3) (hgn : gone g = nI (N g)) (hat : at_ p = nI c) (h : Und d mun DP DG DC DF)
    (hp : ∀ mun', Und (eD d + 1) mun' (snN (shD d DP) (eD d) p) (snN (shD d DG) (eD d) g) (snN (shD d DC) (eD d) c) (snN (shD d DF) (eD d) f) → post (nI (eD d + 1)) (upd gone g (nI (N g + 1))) mun') : PX8_note (nI p) (nI g) (nI f) (nI d) gone at_ mun post := by
  unfold eD shD at hp
  refine pk_eq d 8 (fun h8 => ?_) (fun h8 => ?_)
  · have h8' : ¬ d < 8 := by omega
    simp only [if_neg h8'] at hp
    subst h8
    refine ⟨29, ?_⟩
    have hs : PX8_note_51 post (nI p) (nI g) (nI f) at_ (nI 7) gone (va_cpy mun mun 4 0 28) := by
      refine u_note51 (d := 7) (by omega) hg hp3 hgn hat (DP := fun i => DP (i + 1)) (DG := fun i => DG (i + 1)) (DC := fun i => DC (i + 1)) (DF := fun i => DF (i + 1)) (fun i hi => ?_) hp
      have sh : ∀ k, k < 28 → va_cpy mun mun 4 0 28 k = mun (k + 4) := fun k hk => by
        show (if 0 ≤ k ∧ k < 0 + 28 then mun (4 + (k - 0)) else _) = _
        rw [if_pos (by omega), show 4 + (k - 0) = k + 4 by omega]
      rw [sh _ (by omega), sh _ (by omega), sh _ (by omega), sh _ (by omega), show 4 * i + 4 = 4 * (i + 1) by omega, show 4 * i + 1 + 4 = 4 * (i + 1) + 1 by omega, show 4 * i + 2 + 4 = 4 * (i + 1) + 2 by omega, show 4 * i + 3 + 4 = 4 * (i + 1) + 3 by omega]
      exact h (i + 1) (by omega)
    have h0 := u_note12 hs 28 0 29 (by omega) (by omega)
    rw [va_cpy_0] at h0
    exact h0
  · have h8' : d < 8 := by omega
    simp only [if_pos h8'] at hp
    exact u_note51 h8' hg hp3 hgn hat h hp
theorem cntD_cong {D E : Nat → Nat} : ∀ (d g : Nat), (∀ i, i < d → D i = E i) → cntD D d g = cntD E d g
  | 0, _, _ => rfl
  | d + 1, g, h => by unfold cntD; rw [cntD_cong d g (fun i hi => h i (by omega)), h d (by omega)]
theorem cntD_front (D : Nat → Nat) : ∀ (d g : Nat), cntD D (d + 1) g = (if D 0 = g then 1 else 0) + cntD (fun i => D (i + 1)) d g
  | 0, g => by simp [cntD]
  | d + 1, g => by
    rw [cntD, cntD_front D d g, cntD]
    omega
theorem cntD_new {D N : Nat → Nat} {d g G : Nat} (hd : d ≤ 8) (h : ∀ g', g' < G → cntD D d g' ≤ N g') : ∀ g', g' < G → cntD (snN (shD d D) (eD d) g) (eD d + 1) g' ≤ (if g' = g then N g + 1 else N g') := by
  intro g' hg'
  have h1 : cntD (snN (shD d D) (eD d) g) (eD d) g' = cntD (shD d D) (eD d) g' := cntD_cong _ _ (fun i hi => by unfold snN; rw [if_neg (by omega)])
  have h2 : cntD (shD d D) (eD d) g' ≤ cntD D d g' := by
    unfold shD eD
    by_cases q : d < 8
    · rw [if_pos q, if_pos q]; exact Nat.le_refl _
    · rw [if_neg q, if_neg q, show d = 7 + 1 by omega, cntD_front D 7 g']
      omega
  have h3 := h g' hg'
  rw [cntD, h1]
  have h4 : snN (shD d D) (eD d) g (eD d) = g := by unfold snN; rw [if_pos rfl]
  rw [h4]
  by_cases q : g = g'
  · subst q; rw [if_pos rfl, if_pos rfl]; omega
  · rw [if_neg q, if_neg (fun e => q e.symm)]; omega
theorem new_all {d P G p g c f : Nat} {DP DG DC DF : Nat → Nat} (hd : d ≤ 8) (h : ∀ i, i < d → DP i < P ∧ DG i < G ∧ DC i < 5 ∧ DF i ≤ 1) (hp : p < P) (hg : g < G) (hc : c < 5) (hf : f ≤ 1) : ∀ i, i < eD d + 1 → snN (shD d DP) (eD d) p i < P ∧ snN (shD d DG) (eD d) g i < G ∧ snN (shD d DC) (eD d) c i < 5 ∧ snN (shD d DF) (eD d) f i ≤ 1 := by
  intro i hi
  unfold snN
  by_cases q : i = eD d
  · simp only [if_pos q]; exact ⟨hp, hg, hc, hf⟩
  · simp only [if_neg q]
    unfold shD
    by_cases q2 : d < 8
    · simp only [if_pos q2]
      exact h i (by unfold eD at hi q; rw [if_pos q2] at hi q; omega)
    · simp only [if_neg q2]
      exact h (i + 1) (by unfold eD at hi q; rw [if_neg q2] at hi q; omega)
theorem eD_le {d : Nat} (hd : d ≤ 8) : eD d + 1 ≤ 8 := by unfold eD; split <;> omega
theorem opf_beside {A B K N : Nat → Nat} {c g : Nat} (h : opf A B K N c g = true) : A g = c ∨ B g = c := by
  unfold opf at h
  by_cases q : A g = c
  · exact Or.inl q
  · rw [if_neg q] at h
    by_cases q2 : B g = c
    · exact Or.inr q2
    · rw [if_neg q2] at h; cases h
theorem byd_lt {A B K : Nat → Nat} {G c g : Nat} (hO : GO G A B K) (hg : g < G) : byd A B c g < 5 := by
  obtain ⟨ha, hb, -⟩ := hO.2.1 g hg
  unfold byd; split <;> assumption
theorem t_letThrough {A B K N C : Nat → Nat} {cA cB gn ct : Nat → Int32} {p g G P : Nat} {post : (Nat → Int32) → (Nat → Int32) → Prop} (hO : GO G A B K) (hA : Rp G cA A) (hB : Rp G cB B) (hN : Rp G gn N) (hC : Rp 3 ct C) (hC5 : ∀ p, p < 3 → C p < 5) (hP : P ≤ 3) (hp : p < P) (hg : g < G) (hbe : A g = C p ∨ B g = C p) (h : post (upd gn g (nI (N g + 1))) (upd ct p (nI (byd A B (C p) g)))) : PX2_letThrough (nI p) (nI g) (nI G) (nI P) cA cB gn ct post := by
  have hG5 := hO.1
  refine t_hasPerson' hP hp (rb1 (t_hasGate' hO.1 hg (rb1 ⟨vp_in_nI (by omega) (by omega), ?_⟩)))
  rw [nI_clamp (by omega), hC p (by omega)]
  refine t_beyond hO hA hB (hC5 p (by omega)) hg hbe ⟨vp_in_nI (by omega) (by omega), ?_⟩
  rintro _ rfl
  refine ⟨vp_in_nI (by omega) (by omega), ?_⟩
  rintro _ rfl
  refine ⟨vp_in_nI (by omega) (by omega), ?_⟩
  rintro _ rfl
  rw [nI_clamp (by omega), hN g hg, nI_1]
  exact h
def plus1 (N : Nat → Nat) (g : Nat) : Nat → Nat := fun j => if j = g then N g + 1 else N j
theorem Imn.gone_upd {j G g x : Nat} {N C : Nat → Nat} {cF : Int32} {gone at_ fines : Nat → Int32} (hj : 1 ≤ j) (hg : g < 5) (h : Imn j G N C cF gone at_ fines) : Imn j G N C cF (upd gone g (nI x)) at_ fines :=
  ⟨fun g' hg' => by rw [upd_eq, if_neg (by omega)]; exact h.1 g' hg', h.2⟩
theorem Imn.at_upd {j G p x : Nat} {N C : Nat → Nat} {cF : Int32} {gone at_ fines : Nat → Int32} (hj : 1 ≤ j) (hp : p < 3) (h : Imn j G N C cF gone at_ fines) : Imn j G N C cF gone (upd at_ p (nI x)) fines :=
  ⟨h.1, fun g' hg' => by rw [upd_eq, if_neg (by omega)]; exact h.2.1 g' hg', h.2.2⟩
theorem Imn.fi_upd {j G : Nat} {x : Int32} {N C : Nat → Nat} {cF : Int32} {gone at_ fines : Nat → Int32} (hj : 1 ≤ j) (h : Imn j G N C cF gone at_ fines) : Imn j G N C cF gone at_ (upd fines 0 x) :=
  ⟨h.1, h.2.1, by rw [upd_eq, if_neg (by omega)]; exact h.2.2⟩
theorem Ikp.gone_upd {t G P g x : Nat} {A B K : Nat → Nat} {kM lG lP lF : Int32} {lA lB lK lN lC : Nat → Int32} {uG uP uF : Int32} {uA uB uK uN uC : Nat → Int32} {mkM : Int32} {gone at_ fines : Nat → Int32} (hg : g < 5) (h : Ikp t G P A B K kM lG lP lF lA lB lK lN lC uG uP uF uA uB uK uN uC mkM gone at_ fines) : Ikp t G P A B K kM lG lP lF lA lB lK lN lC uG uP uF uA uB uK uN uC mkM (upd gone g (nI x)) at_ fines := by
  obtain ⟨k, h1, h2, h3, h4, h5⟩ := h
  refine ⟨k, h1, h2, h3, fun q => ?_, fun q => ?_⟩
  · obtain ⟨N, C, a, b⟩ := h4 q
    exact ⟨N, C, a, b.gone_upd (by omega) hg⟩
  · obtain ⟨N, C, a, b⟩ := h5 q
    exact ⟨N, C, a, b.gone_upd (by omega) hg⟩
theorem Ikp.at_upd {t G P p x : Nat} {A B K : Nat → Nat} {kM lG lP lF : Int32} {lA lB lK lN lC : Nat → Int32} {uG uP uF : Int32} {uA uB uK uN uC : Nat → Int32} {mkM : Int32} {gone at_ fines : Nat → Int32} (hp : p < 3) (h : Ikp t G P A B K kM lG lP lF lA lB lK lN lC uG uP uF uA uB uK uN uC mkM gone at_ fines) : Ikp t G P A B K kM lG lP lF lA lB lK lN lC uG uP uF uA uB uK uN uC mkM gone (upd at_ p (nI x)) fines := by
  obtain ⟨k, h1, h2, h3, h4, h5⟩ := h
  refine ⟨k, h1, h2, h3, fun q => ?_, fun q => ?_⟩
  · obtain ⟨N, C, a, b⟩ := h4 q
    exact ⟨N, C, a, b.at_upd (by omega) hp⟩
  · obtain ⟨N, C, a, b⟩ := h5 q
    exact ⟨N, C, a, b.at_upd (by omega) hp⟩
theorem Ikp.fi_upd {t G P : Nat} {x : Int32} {A B K : Nat → Nat} {kM lG lP lF : Int32} {lA lB lK lN lC : Nat → Int32} {uG uP uF : Int32} {uA uB uK uN uC : Nat → Int32} {mkM : Int32} {gone at_ fines : Nat → Int32} (h : Ikp t G P A B K kM lG lP lF lA lB lK lN lC uG uP uF uA uB uK uN uC mkM gone at_ fines) : Ikp t G P A B K kM lG lP lF lA lB lK lN lC uG uP uF uA uB uK uN uC mkM gone at_ (upd fines 0 x) := by
  obtain ⟨k, h1, h2, h3, h4, h5⟩ := h
  refine ⟨k, h1, h2, h3, fun q => ?_, fun q => ?_⟩
  · obtain ⟨N, C, a, b⟩ := h4 q
    exact ⟨N, C, a, b.fi_upd (by omega)⟩
  · obtain ⟨N, C, a, b⟩ := h5 q
    exact ⟨N, C, a, b.fi_upd (by omega)⟩
