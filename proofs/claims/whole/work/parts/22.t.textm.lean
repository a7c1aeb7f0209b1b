/-! ===== the reference reads ===== -/
section
variable {T : Nat → Nat} {L a : Nat} {tx : Nat → Int32}
theorem u_byte {post : Int32 → Prop} (hL : L ≤ 200) (hs : Rp L tx T) (ha : a < 2 ^ 30) (hp : post (nI (bya T L a))) : PX8_byteAt (nI a) (nI L) tx post := by
  unfold bya at hp
  refine pk_le L a (fun h => ?_) (fun h => ⟨vp_in_nI (by omega) (by omega), ?_⟩)
  · rw [if_neg (by omega)] at hp; exact hp
  · rw [if_pos h] at hp
    rw [nI_clamp (by omega), hs a h]
    exact hp
theorem u_inB {b lo hi : Nat} {l h : Int64} {post : Int32 → Prop} (hl : l.toInt = lo) (hh : h.toInt = hi) (hb : b < 2 ^ 31) (h1 : lo ≤ b → b ≤ hi → post 1) (h0 : b < lo ∨ hi < b → post 0) : PX8_in (nI b).toInt64 l h post := by
  by_cases q : lo ≤ b ∧ b ≤ hi
  · exact t_in hl hh (fun _ _ => h1 q.1 q.2) (fun r => by rw [w32, nI_toInt hb] at r; omega)
  · exact t_in hl hh (fun r1 r2 => by rw [w32, nI_toInt hb] at r1 r2; omega) (fun _ => h0 (by omega))
/-- the sign behind the number of place k out of n -/
def enS (n k : Nat) : Nat := if n - 1 ≤ k then 59 else 44
theorem u_f73 {n k f v : Nat} {told : Nat → Int32} {post : Int32 → Int32 → (Nat → Int32) → Prop} {K : Int32 → Int32 → (Nat → Int32) → Prop} (hL : L ≤ 200) (hT : ∀ i, i < L → T i < 256) (hs : Rp L tx T) (ha : a < 2 ^ 30) (hn : n = 1 ∨ n = 4) (hk : k < n) (hf : f < 4)
    (h1 : f = 1 ∨ f = 2 → bya T L a = enS n k → K (nI (k + 1)) (nI (a + 1)) (upd told k (nI v))) (h0 : ¬ ((f = 1 ∨ f = 2) ∧ bya T L a = enS n k) → ∀ p, post 0 p told) : PX8_figures_73 post (nI n) (nI L) tx K (nI k) (nI f) (nI v) (nI a) told := by
  have hb := bya_256 hT a
  unfold enS at h1 h0
  refine u_inB (lo := 1) (hi := 2) (by decide) (by decide) (by omega) (fun f1 f2 => rb1 (u_byte hL hs ha ?_)) (fun hf => rb0 (h0 (by omega) _))
  rw [show nI n - 1 = nI (n - 1) by rw [l1, pk_sub (by omega)]]
  refine pk_le (n - 1) k (fun h => ?_) (fun h => ?_)
  · rw [if_pos h] at h1 h0
    refine pk_eq (bya T L a) 59 (fun e => ⟨vp_in_nI (by omega) (by omega), ?_⟩) (fun e => h0 (fun q => e q.2) _)
    rintro _ rfl _ rfl _ rfl
    rw [nI_clamp (by omega), nI_1, nI_1]
    exact h1 (by omega) e
  · rw [if_neg (by omega)] at h1 h0
    refine pk_eq (bya T L a) 44 (fun e => ⟨vp_in_nI (by omega) (by omega), ?_⟩) (fun e => h0 (fun q => e q.2) _)
    rintro _ rfl _ rfl _ rfl
    rw [nI_clamp (by omega), nI_1, nI_1]
    exact h1 (by omega) e
theorem u_f12 {n k f v m : Nat} {told : Nat → Int32} {post : Int32 → Int32 → (Nat → Int32) → Prop} {K : Int32 → Int32 → (Nat → Int32) → Prop} (hL : L ≤ 200) (hT : ∀ i, i < L → T i < 256) (hs : Rp L tx T) (ha : a < 2 ^ 30) (hf : f < 4)
    (h1 : fig (bya T L a) = true → f < 3 → PX8_figures_12 post (nI n) (nI L) tx K (nI k) told m (nI (f + 1)) (nI (10 * v + (bya T L a - 48))) (nI (a + 1)))
    (h0 : fig (bya T L a) = false ∨ f = 3 → PX8_figures_73 post (nI n) (nI L) tx K (nI k) (nI f) (nI v) (nI a) told) : PX8_figures_12 post (nI n) (nI L) tx K (nI k) told (m + 1) (nI f) (nI v) (nI a) := by
  have hb := bya_256 hT a
  unfold PX8_figures_12
  refine u_byte hL hs ha ?_
  refine u_inB (lo := 48) (hi := 57) (by decide) (by decide) (by omega) (fun f1 f2 => rb1 ?_) (fun hf => rb0 (h0 (Or.inl ?_)))
  · have hfig : fig (bya T L a) = true := by unfold fig; rw [decide_eq_true f1, decide_eq_true f2]; rfl
    refine pk_le 3 f (fun h => h0 (Or.inr (by omega))) (fun h => u_byte hL hs ha ?_)
    rintro _ rfl _ rfl _ rfl
    rw [l10, pk_mul, nI_add, show (48 : Int32) = nI 48 from rfl, pk_sub (by omega), nI_1, nI_1, show 10 * v + bya T L a - 48 = 10 * v + (bya T L a - 48) by omega]
    exact h1 hfig h
  · unfold fig
    rcases hf with q | q
    · rw [decide_eq_false (by omega), Bool.false_and]
    · rw [decide_eq_false (show ¬ bya T L a ≤ 57 by omega), Bool.and_false]
theorem u_num {n k : Nat} {told : Nat → Int32} {post : Int32 → Int32 → (Nat → Int32) → Prop} {K : Int32 → Int32 → (Nat → Int32) → Prop} (hL : L ≤ 200) (hT : ∀ i, i < L → T i < 256) (hs : Rp L tx T) (ha : a < 2 ^ 29) (hn : n = 1 ∨ n = 4) (hk : k < n)
    (h1 : ∀ v b, nmb T L (enS n k) a = some (v, b) → K (nI (k + 1)) (nI b) (upd told k (nI v))) (h0 : nmb T L (enS n k) a = none → ∀ p, post 0 p told) : ∃ q, PX8_figures_12 post (nI n) (nI L) tx K (nI k) told q 0 0 (nI a) := by
  have he : enS n k = 59 ∨ enS n k = 44 := by
    unfold enS
    split
    · exact Or.inl rfl
    · exact Or.inr rfl
  refine ⟨4, u_f12 (f := 0) (v := 0) hL hT hs (by omega) (by omega) (fun f1 _ => u_f12 hL hT hs (by omega) (by omega) (fun f2 _ => u_f12 hL hT hs (by omega) (by omega) (fun f3 _ => u_f12 hL hT hs (by omega) (by omega) (fun _ h => absurd h (by omega)) (fun _ => ?_)) (fun f3 => ?_)) (fun f2 => ?_)) (fun f1 => ?_)⟩
  · have g3 := fig_t f3
    refine u_f73 hL hT hs (by omega) hn hk (by omega) (fun h => absurd h (by omega)) (fun _ => h0 ?_)
    unfold nmb
    rw [if_pos f1, if_pos f2, if_neg (show ¬ bya T L (a + 2) = enS n k by have : bya T L (a + 1 + 1) = bya T L (a + 2) := rfl; omega)]
  · refine u_f73 hL hT hs (by omega) hn hk (by omega) (fun _ e => ?_) (fun e => h0 ?_)
    · have h := h1 (10 * (bya T L a - 48) + (bya T L (a + 1) - 48)) (a + 3) (by
        unfold nmb
        rw [if_pos f1, if_pos f2, if_pos e])
      rw [show 10 * (10 * 0 + (bya T L a - 48)) + (bya T L (a + 1) - 48) = 10 * (bya T L a - 48) + (bya T L (a + 1) - 48) by omega]
      exact h
    · unfold nmb
      rw [if_pos f1, if_pos f2, if_neg (show ¬ bya T L (a + 2) = enS n k from fun q => e ⟨Or.inr rfl, q⟩)]
  · have f2' : fig (bya T L (a + 1)) = false := by
      rcases f2 with q | q
      · exact q
      · exact absurd q (by omega)
    refine u_f73 hL hT hs (by omega) hn hk (by omega) (fun _ e => ?_) (fun e => h0 ?_)
    · have h := h1 (bya T L a - 48) (a + 2) (by
        unfold nmb
        rw [if_pos f1, if_neg (by rw [f2']; decide), if_pos e])
      rw [show 10 * 0 + (bya T L a - 48) = bya T L a - 48 by omega]
      exact h
    · unfold nmb
      rw [if_pos f1, if_neg (by rw [f2']; decide), if_neg (fun q => e ⟨Or.inl rfl, q⟩)]
  · have f1' : fig (bya T L a) = false := by
      rcases f1 with q | q
      · exact q
      · exact absurd q (by omega)
    refine u_f73 hL hT hs (by omega) hn hk (by omega) (fun h => absurd h (by omega)) (fun _ => h0 ?_)
    unfold nmb
    rw [if_neg (by rw [f1']; decide)]
theorem u_fig1 {told : Nat → Int32} {post : Int32 → Int32 → (Nat → Int32) → Prop} (hL : L ≤ 200) (hT : ∀ i, i < L → T i < 256) (hs : Rp L tx T) (ha : a < 2 ^ 29)
    (h1 : ∀ v b, nmb T L 59 a = some (v, b) → post 1 (nI b) (upd told 0 (nI v))) (h0 : nmb T L 59 a = none → ∀ p td, post 0 p td) : PX8_figures 1 (nI L) (nI a) tx told post := by
  refine ⟨2, pk_le 1 0 (fun h => absurd h (by omega)) (fun _ => u_num (n := 1) (k := 0) hL hT hs ha (Or.inl rfl) (by omega) (fun v b h => pk_le 1 1 (fun _ => h1 v b h) (fun h => absurd h (by omega))) (fun h p => h0 h p _))⟩
theorem u_fig4 {told : Nat → Int32} {post : Int32 → Int32 → (Nat → Int32) → Prop} (hL : L ≤ 200) (hT : ∀ i, i < L → T i < 256) (hs : Rp L tx T) (ha : a < 2 ^ 28)
    (h1 : ∀ x y k i b, gat T L a = some (x, y, k, i, b) → ∀ td : Nat → Int32, td 0 = nI x → td 1 = nI y → td 2 = nI k → td 3 = nI i → post 1 (nI b) td) (h0 : gat T L a = none → ∀ p td, post 0 p td) : PX8_figures 4 (nI L) (nI a) tx told post := by
  refine ⟨5, pk_le 4 0 (fun h => absurd h (by omega)) (fun _ => u_num (n := 4) (k := 0) hL hT hs (by omega) (Or.inr rfl) (by omega) (fun x a1 g1 => pk_le 4 1 (fun h => absurd h (by omega)) (fun _ => u_num (n := 4) (k := 1) hL hT hs (by have := nmb_ok (by decide) g1; omega) (Or.inr rfl) (by omega) (fun y a2 g2 => pk_le 4 2 (fun h => absurd h (by omega)) (fun _ => u_num (n := 4) (k := 2) hL hT hs (by have := nmb_ok (by decide) g2; omega) (Or.inr rfl) (by omega) (fun k a3 g3 => pk_le 4 3 (fun h => absurd h (by omega)) (fun _ => u_num (n := 4) (k := 3) hL hT hs (by have := nmb_ok (by decide) g3; omega) (Or.inr rfl) (by omega) (fun i a4 g4 => pk_le 4 4 (fun _ => ?_) (fun h => absurd h (by omega))) (fun g4 p => h0 (gat_n4 g1 g2 g3 g4) p _))) (fun g3 p => h0 (gat_n3 g1 g2 g3) p _))) (fun g2 p => h0 (gat_n2 g1 g2) p _))) (fun g1 p => h0 (gat_n1 g1) p _))⟩
  exact h1 x y k i a4 (gat_eq g1 g2 g3 g4) _ (by rw [pk_un (by omega), pk_un (by omega), pk_un (by omega), pk_us]) (by rw [pk_un (by omega), pk_un (by omega), pk_us]) (by rw [pk_un (by omega), pk_us]) pk_us
end
/-- a garden of the reference's text; what of the one that is laid stays as it is -/
def MRd (s : GS) (m on ot ki fi pe : Nat → Int32) : Prop := m 1 = nI s.1 ∧ pe 1 = nI s.2.1 ∧ ∀ g, g < s.1 → on (5 + g) = nI (s.2.2.1 g) ∧ ot (5 + g) = nI (s.2.2.2.1 g) ∧ ki (5 + g) = nI (s.2.2.2.2.1 g) ∧ fi (5 + g) = nI (s.2.2.2.2.2 g)
def MFr (m on ot ki pe m' on' ot' ki' pe' : Nat → Int32) : Prop := m' 0 = m 0 ∧ pe' 0 = pe 0 ∧ ∀ j, j < 5 → on' j = on j ∧ ot' j = ot j ∧ ki' j = ki j
theorem MFr.trans {m on ot ki pe m1 on1 ot1 ki1 pe1 m2 on2 ot2 ki2 pe2 : Nat → Int32} (h : MFr m on ot ki pe m1 on1 ot1 ki1 pe1) (h2 : MFr m1 on1 ot1 ki1 pe1 m2 on2 ot2 ki2 pe2) : MFr m on ot ki pe m2 on2 ot2 ki2 pe2 :=
  ⟨h2.1.trans h.1, h2.2.1.trans h.2.1, fun j hj => ⟨(h2.2.2 j hj).1.trans (h.2.2 j hj).1, (h2.2.2 j hj).2.1.trans (h.2.2 j hj).2.1, (h2.2.2 j hj).2.2.trans (h.2.2 j hj).2.2⟩⟩
theorem MFr.refl (m on ot ki pe : Nat → Int32) : MFr m on ot ki pe m on ot ki pe := ⟨rfl, rfl, fun _ _ => ⟨rfl, rfl, rfl⟩⟩
theorem in12 : vp_in 1 2 := vp_in_nI (n := 1) (by omega) (by omega)
theorem in04 : vp_in 0 4 := vp_in_nI (n := 0) (by omega) (by omega)
theorem in14 : vp_in 1 4 := vp_in_nI (n := 1) (by omega) (by omega)
theorem in24 : vp_in 2 4 := vp_in_nI (n := 2) (by omega) (by omega)
theorem in34 : vp_in 3 4 := vp_in_nI (n := 3) (by omega) (by omega)
theorem z1 : (1 : Int32).toNatClampNeg = 1 := rfl
theorem z2 : (2 : Int32).toNatClampNeg = 2 := rfl
theorem z3 : (3 : Int32).toNatClampNeg = 3 := rfl
theorem u_item142 {s : GS} {x y k i : Nat} {pl : Int32} {m on ot ki fi pe td : Nat → Int32} {post : Int32 → Int32 → (Nat → Int32) → (Nat → Int32) → (Nat → Int32) → (Nat → Int32) → (Nat → Int32) → (Nat → Int32) → (Nat → Int32) → Prop} (hM : MRd s m on ot ki fi pe) (hG : s.1 < 5) (t0 : td 0 = nI x) (t1 : td 1 = nI y) (t2 : td 2 = nI k) (t3 : td 3 = nI i)
    (h1 : ∀ m' on' ot' ki' fi', MRd (s.1 + 1, s.2.1, setN s.2.2.1 s.1 x, setN s.2.2.2.1 s.1 y, setN s.2.2.2.2.1 s.1 k, setN s.2.2.2.2.2 s.1 i) m' on' ot' ki' fi' pe → MFr m on ot ki pe m' on' ot' ki' pe → post 1 pl m' on' ot' ki' fi' pe td) : PX8_item_142 post pl m on ot ki fi pe td := by
  obtain ⟨m1, m2, m3⟩ := hM
  have e5 : 5 + m 1 = nI (5 + s.1) := by rw [m1, l5, nI_add]
  refine ⟨in12, in04, ?_⟩
  rw [z0, z1, z2, z3, t0, t1, t2, t3, e5, nI_clamp (by omega)]
  have i10 : vp_in (nI (5 + s.1)) 10 := vp_in_nI (by omega) (by omega)
  rintro _ rfl
  refine ⟨i10, ?_⟩
  rintro _ rfl
  refine ⟨in12, in14, ?_⟩
  rintro _ rfl
  refine ⟨i10, ?_⟩
  rintro _ rfl
  refine ⟨in12, in24, ?_⟩
  rintro _ rfl
  refine ⟨i10, ?_⟩
  rintro _ rfl
  refine ⟨in12, in34, ?_⟩
  rintro _ rfl
  refine ⟨i10, ?_⟩
  rintro _ rfl
  refine ⟨in12, ?_⟩
  rintro _ rfl
  refine ⟨in12, ?_⟩
  rintro _ rfl
  rw [m1, nI_1]
  refine h1 _ _ _ _ _ ⟨pk_us, m2, fun g hg => ?_⟩ ⟨pk_un (by omega), rfl, fun j hj => ⟨pk_un (by omega), pk_un (by omega), pk_un (by omega)⟩⟩
  have hg' : g < s.1 + 1 := hg
  show _ = nI (setN s.2.2.1 s.1 x g) ∧ _ = nI (setN s.2.2.2.1 s.1 y g) ∧ _ = nI (setN s.2.2.2.2.1 s.1 k g) ∧ _ = nI (setN s.2.2.2.2.2 s.1 i g)
  rw [setN_at, setN_at, setN_at, setN_at]
  by_cases e : g = s.1
  · subst e
    rw [pk_us, pk_us, pk_us, pk_us, if_pos rfl, if_pos rfl, if_pos rfl, if_pos rfl]
    exact ⟨rfl, rfl, rfl, rfl⟩
  · rw [pk_un (by omega), pk_un (by omega), pk_un (by omega), pk_un (by omega), if_neg e, if_neg e, if_neg e, if_neg e]
    exact m3 g (by omega)
theorem u_item {T : Nat → Nat} {L a : Nat} {tx : Nat → Int32} {s : GS} {m on ot ki fi pe td : Nat → Int32} {post : Int32 → Int32 → (Nat → Int32) → (Nat → Int32) → (Nat → Int32) → (Nat → Int32) → (Nat → Int32) → (Nat → Int32) → (Nat → Int32) → Prop} (hL : L ≤ 200) (hT : ∀ i, i < L → T i < 256) (hs : Rp L tx T) (ha : a < L) (hV : VGs s) (hM : MRd s m on ot ki fi pe)
    (h1 : ∀ b s2, itm T L a s = some (b, s2) → ∀ m' on' ot' ki' fi' pe' td', MRd s2 m' on' ot' ki' fi' pe' → MFr m on ot ki pe m' on' ot' ki' pe' → post 1 (nI b) m' on' ot' ki' fi' pe' td')
    (h0 : itm T L a s = none → ∀ p td', post 0 p m on ot ki fi pe td') : PX8_item (nI L) (nI a) tx m on ot ki fi pe td post := by
  have hG := hV.1.1
  have hb := bya_256 hT a
  have hm := hM.1
  refine u_byte hL hs (by omega) ?_
  rintro _ rfl _ rfl
  rw [nI_1]
  refine pk_eq (bya T L a) 103 (fun e => ?_) (fun e => pk_eq (bya T L a) 110 (fun e2 => ?_) (fun e2 => h0 (itm_no e e2) _ _))
  · refine u_fig4 hL hT hs (by omega) (fun x y k i b hg td' t0 t1 t2 t3 => rb1 ⟨in12, ?_⟩) (fun hg p td' => rb0 ?_)
    · obtain ⟨c1, c2, c3, g1, g2, g3, g4⟩ := gat_ok hg
      have n1 := nmb_ok (by omega) g1
      have n2 := nmb_ok (by omega) g2
      have n3 := nmb_ok (by omega) g3
      have bad : ¬ (s.1 < 5 ∧ x < 5 ∧ y < 5 ∧ x ≠ y ∧ k < 5 ∧ (k = 3 → s.1 ≠ 0)) → ∀ p td', post 0 p m on ot ki fi pe td' := fun hn => h0 (itm_gn e (fun x' y' k' i' b' h' => by rw [hg] at h'; cases h'; exact hn))
      have b115 : ¬ (s.1 < 5 ∧ x < 5 ∧ y < 5 ∧ x ≠ y ∧ k < 5 ∧ (k = 3 → s.1 ≠ 0)) → PX8_item_115 post (nI b) m on ot ki fi pe td' := fun hn => ⟨fun _ => bad hn _ _, fun q => absurd rfl q⟩
      rw [z0, z1, z2, hm, t0, t1, t2]
      refine pk_le 5 s.1 (fun h => b115 (by omega)) (fun c1 => ⟨in04, pk_le 5 x (fun h => b115 (by omega)) (fun c2 => ⟨in14, pk_le 5 y (fun h => b115 (by omega)) (fun c3 => ⟨in04, in14, pk_eq x y (fun h => b115 (fun q => q.2.2.2.1 h)) (fun c4 => ⟨in24, pk_le 5 k (fun h => b115 (by omega)) (fun c5 => rb1 ⟨in24, ?_⟩)⟩)⟩)⟩)⟩)
      have good : (k = 3 → s.1 ≠ 0) → PX8_item_142 post (nI b) m on ot ki fi pe td' := fun c6 => u_item142 hM c1 t0 t1 t2 t3 (fun m' on' ot' ki' fi' hM' hF => h1 _ _ (itm_g e hg ⟨c1, c2, c3, c4, c5, c6⟩) _ _ _ _ _ _ _ hM' hF)
      refine pk_eq k 3 (fun c6 => ⟨in12, pk_eq s.1 0 (fun c7 => bad (fun q => q.2.2.2.2.2 c6 c7) _ _) (fun c7 => good (fun _ => c7))⟩) (fun c6 => good (fun q => absurd q c6))
    · exact ⟨fun _ => h0 (itm_gn e (fun x y k i b h => by rw [hg] at h; cases h)) _ _, fun q => absurd rfl q⟩
  · refine u_fig1 hL hT hs (by omega) (fun v b hg => rb1 ⟨in04, ?_⟩) (fun hg p td' => rb0 (h0 (itm_nn e2 (fun m' b' h => by rw [hg] at h; cases h)) _ _))
    have nb := nmb_ok (by omega) hg
    rw [z0, pk_us]
    refine u_inB (lo := 1) (hi := 3) (by decide) (by decide) (by omega) (fun f1 f2 => rb1 ⟨in04, ?_⟩) (fun hf => rb0 (h0 (itm_nn e2 (fun m' b' h => by rw [hg] at h; cases h; omega)) _ _))
    rintro _ rfl
    refine ⟨in12, ?_⟩
    rintro _ rfl
    rw [z1]
    exact h1 _ _ (itm_n e2 hg ⟨f1, f2⟩) _ _ _ _ _ _ _ ⟨hm, pk_us, hM.2.2⟩ ⟨rfl, pk_un (by omega), fun _ _ => ⟨rfl, rfl, rfl⟩⟩
theorem u_read19 {T : Nat → Nat} {L : Nat} {tx m0 on0 ot0 ki0 pe0 : Nat → Int32} {post : Int32 → Int32 → (Nat → Int32) → (Nat → Int32) → (Nat → Int32) → (Nat → Int32) → (Nat → Int32) → (Nat → Int32) → (Nat → Int32) → Prop} (hL : L ≤ 200) (hT : ∀ i, i < L → T i < 256) (hs : Rp L tx T) (R : Option Nat × GS)
    (hb : ∀ q, R.1 = some q → ∀ p m on ot ki fi pe td, MFr m0 on0 ot0 ki0 pe0 m on ot ki pe → post (nI q) p m on ot ki fi pe td) (hg : R.1 = none → ∀ p m on ot ki fi pe td, MRd R.2 m on ot ki fi pe → MFr m0 on0 ot0 ki0 pe0 m on ot ki pe → post (-4) p m on ot ki fi pe td) :
    ∀ (f a n : Nat) (s : GS) (m on ot ki fi pe td : Nat → Int32), L + 1 ≤ f + a → f < n → a ≤ L → VGs s → MRd s m on ot ki fi pe → MFr m0 on0 ot0 ki0 pe0 m on ot ki pe → rdA T L f a s = R → PX8_readAll_19 post (nI L) tx n (nI a) m on ot ki fi pe td := by
  intro f
  induction f with
  | zero => intro a n s m on ot ki fi pe td hf hn ha; exfalso; omega
  | succ f ih =>
    intro a n s m on ot ki fi pe td hf hn ha hV hM hF hR
    obtain ⟨n, rfl⟩ : ∃ k, n = k + 1 := ⟨n - 1, by omega⟩
    refine pk_le L a (fun h => ?_) (fun hlt => u_item hL hT hs hlt hV hM (fun b s2 hi m' on' ot' ki' fi' pe' td' hM' hF' => rb1 ?_) (fun hi p td' => rb0 ?_))
    · rw [rdA_end h] at hR
      subst hR
      exact hg rfl _ _ _ _ _ _ _ _ hM hF
    · obtain ⟨v1, v2, v3⟩ := itm_ok hV hi
      rw [rdA_go hlt hi] at hR
      exact ih b n s2 _ _ _ _ _ _ _ (by omega) (by omega) v3 v1 hM' (hF.trans hF') hR
    · rw [rdA_bad hlt hi] at hR
      subst hR
      exact hb a rfl _ _ _ _ _ _ _ _ hF
theorem u_readAll {T : Nat → Nat} {L : Nat} {p0 : Int32} {tx m0 on0 ot0 ki0 fi0 pe0 td0 : Nat → Int32} {post : Int32 → Int32 → (Nat → Int32) → (Nat → Int32) → (Nat → Int32) → (Nat → Int32) → (Nat → Int32) → (Nat → Int32) → (Nat → Int32) → Prop} (hL : L ≤ 200) (hT : ∀ i, i < L → T i < 256) (hs : Rp L tx T)
    (hb : ∀ q, (rdA T L 201 0 gs0).1 = some q → ∀ p m on ot ki fi pe td, MFr m0 on0 ot0 ki0 pe0 m on ot ki pe → post (nI q) p m on ot ki fi pe td) (hg : (rdA T L 201 0 gs0).1 = none → ∀ p m on ot ki fi pe td, MRd (rdA T L 201 0 gs0).2 m on ot ki fi pe → MFr m0 on0 ot0 ki0 pe0 m on ot ki pe → post (-4) p m on ot ki fi pe td) : PX8_readAll (nI L) p0 tx m0 on0 ot0 ki0 fi0 pe0 td0 post := by
  refine ⟨in12, ?_⟩
  rintro _ rfl
  refine ⟨in12, ?_⟩
  rintro _ rfl
  refine ⟨202, u_read19 hL hT hs (rdA T L 201 0 gs0) hb hg 201 0 202 gs0 _ _ _ _ _ _ _ (by omega) (by omega) (by omega) gs0_ok ⟨pk_us, pk_us, fun g hg => absurd hg (Nat.not_lt_zero g)⟩ ⟨pk_un (by decide), pk_un (by decide), fun _ _ => ⟨rfl, rfl, rfl⟩⟩ rfl⟩
theorem Ist.fr {G P : Nat} {A B K : Nat → Nat} {m on ot ki pe m' on' ot' ki' pe' : Nat → Int32} (hG : G ≤ 5) (h : Ist G P A B K m on ot ki pe) (hF : MFr m on ot ki pe m' on' ot' ki' pe') : Ist G P A B K m' on' ot' ki' pe' :=
  ⟨hF.1.trans h.1, hF.2.1.trans h.2.1, fun i hi => (hF.2.2 i (by omega)).1.trans (h.2.2.1 i hi), fun i hi => (hF.2.2 i (by omega)).2.1.trans (h.2.2.2.1 i hi), fun i hi => (hF.2.2 i (by omega)).2.2.trans (h.2.2.2.2 i hi)⟩
