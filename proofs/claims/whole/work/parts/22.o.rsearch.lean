/-! ===== the reference's search ===== -/
def RQ (K N : Nat → Nat) (G P : Nat) (Q : Qu) (fa ro be : Nat → Int32) : Prop := (∀ (i : Nat) (x : Nat × Nat × Nat), Q[i]? = some x → ro i = nI (cdS G P K N x.1) ∧ fa (cdS G P K N x.1) = nI x.2.1 ∧ be (cdS G P K N x.1) = (if i = 0 then -4 else nI x.2.2)) ∧ ∀ v, v < 30400 → (∀ x ∈ Q, cdS G P K N x.1 ≠ v) → fa v = -4
theorem Sm_rc (K N : Nat → Nat) (G s : Nat) : ∀ g, g < G → rcS K N s g < 3 := fun g _ => by
  have h := Nat.mod_lt (cnS N s g) (rsk_pos (K g))
  have h2 := rsk_le (K g)
  unfold rcS
  omega
theorem u_s88 {A B K N : Nat → Nat} {many cA cB kd : Nat → Int32} {G P h : Nat} {Q : Qu} {x : Nat × Nat × Nat} {post : Int32 → Int32 → (Nat → Int32) → (Nat → Int32) → (Nat → Int32) → (Nat → Int32) → (Nat → Int32) → Prop} {KK : Int32 → Int32 → (Nat → Int32) → (Nat → Int32) → (Nat → Int32) → (Nat → Int32) → (Nat → Int32) → Prop}
    (hO : GO G A B K) (hG : 0 < G) (hm : many 0 = nI G) (hA : Rp G cA A) (hB : Rp G cB B) (hK : Rp G kd K) (hP : P ≤ 3) (hQ : OKQ K N G P Q) (hx : Q[h]? = some x)
    (hk : ∀ cn sp fa ro be, RQ K N G P (exK A B K N G x.1 x.2.1 x.2.2 (h == 0) Q (P * G)) fa ro be → ∀ y : Int32, y = nI h + 1 → KK y (nI (exK A B K N G x.1 x.2.1 x.2.2 (h == 0) Q (P * G)).length) cn sp fa ro be) :
    ∀ (e k n : Nat) (cn sp fa ro be : Nat → Int32), k + e = P * G → e < n → RQ K N G P (exK A B K N G x.1 x.2.1 x.2.2 (h == 0) Q k) fa ro be → PX8_search_88 post (nI P) (nI P) many cA cB kd KK (nI h) (nI (cdS G P K N x.1)) n (nI k) (nI (exK A B K N G x.1 x.2.1 x.2.2 (h == 0) Q k).length) cn sp fa ro be := by
  have hG5 := hO.1
  obtain ⟨hV, hd, hf⟩ := hQ.1 h x hx
  have hhl := (List.getElem?_eq_some_iff.mp hx).1
  have hql := hQ.len
  have hPG : P * G ≤ 15 := by
    have := Nat.mul_le_mul hP hG5
    omega
  have hcd := cdS_lt hG5 hP hV
  intro e
  induction e with
  | zero =>
    intro k n cn sp fa ro be he hn hR
    obtain ⟨n, rfl⟩ : ∃ k, n = k + 1 := ⟨n - 1, by omega⟩
    obtain rfl : k = P * G := by omega
    refine ⟨in02, ?_⟩
    rw [z0, hm, pk_mul]
    exact pk_le (P * G) (P * G) (fun _ y hy => hk cn sp fa ro be hR y hy) (fun h => absurd h (by omega))
  | succ e ih =>
    intro k n cn sp fa ro be he hn hR
    obtain ⟨n, rfl⟩ : ∃ k, n = k + 1 := ⟨n - 1, by omega⟩
    have hp : k / G < P := Nat.div_lt_of_lt_mul (by rw [Nat.mul_comm]; omega)
    have hg := Nat.mod_lt k hG
    have hc5 := hV.2.1 (k / G) (by omega)
    have hok := exK_ok (st := (h == 0)) hO hP hQ hx (k + 1) (by omega)
    have hokk := exK_ok (st := (h == 0)) hO hP hQ hx k (by omega)
    have hkl := hokk.len
    refine ⟨in02, ?_⟩
    rw [z0, hm, pk_mul]
    refine pk_le (P * G) k (fun h => absurd h (by omega)) (fun _ => ⟨in02, nz hG (by omega), ?_⟩)
    rintro _ rfl
    refine ⟨in02, nz hG (by omega), ?_⟩
    rintro _ rfl
    rw [cn_rem hG (by omega) (by omega), pk_div (by omega) hG (by omega)]
    refine u_take hO hm hK hP hV (fun cn2 sp2 hcn hsp => ⟨vp_in_nI (by omega) (by omega), ?_⟩)
    rw [nI_clamp (show k / G < 2 ^ 31 by omega), nI_clamp (show k % G < 2 ^ 31 by omega), hsp _ hp]
    have hSm : Sm G (rcS K N x.1) := fun g hg => by have := Sm_rc K N G x.1 g hg; omega
    have nx := ih (k + 1) n
    refine u_canPass hO hA hB hK hcn hSm hc5 hg (and_b (fun q => ⟨vp_in_nI (by omega) (by omega), ?_⟩) (fun q => ?_))
    · rw [opf_rc hO hV hg] at q
      have q' := (Bool.and_eq_true _ _ ▸ q : opf A B K N (ctS x.1 (k / G)) (k % G) = true ∧ (!x.1.testBit (k % G)) = true)
      have hbit : x.1.testBit (k % G) = false := by
        cases hb : x.1.testBit (k % G)
        · rfl
        · rw [hb] at q'; exact absurd q'.2 (by decide)
      have hpas : pas A B K N G x.1 k = true := q
      rw [exK, if_pos hpas] at nx hok
      rintro _ rfl
      refine ⟨vp_in_nI (by omega) (by omega), ?_⟩
      rintro _ rfl
      refine ⟨vp_in_nI (by omega) (by omega), ?_⟩
      rw [hcn _ hg, nI_1]
      refine u_beyond hO hA hB hc5 hg ⟨vp_in_nI (by omega) (by omega), ?_⟩
      rintro _ rfl
      have hN2 : Rp G (upd cn2 (k % G) (nI (rcS K N x.1 (k % G) + 1))) (fun j => if j = k % G then rcS K N x.1 (k % G) + 1 else rcS K N x.1 j) := hcn.upd _ _
      have hS2 : Sm G (fun j => if j = k % G then rcS K N x.1 (k % G) + 1 else rcS K N x.1 j) := fun j hj => by
        have h1 := Sm_rc K N G x.1 j hj
        have h2 := Sm_rc K N G x.1 (k % G) hg
        show (if j = k % G then _ else _) < _
        split <;> omega
      have hC2 : Rp P (upd sp2 (k / G) (nI (byd A B (ctS x.1 (k / G)) (k % G)))) (setN (ctS x.1) (k / G) (byd A B (ctS x.1 (k / G)) (k % G))) := hsp.upd _ _
      refine u_code hO hm hK hP hN2 hS2 hC2 ?_
      rw [cdS_nx hO hV hg hbit]
      have hV2 : VdS K N G P (nxS A B K G x.1 (k / G) (k % G)) := nx_vd hO hV hp hP hg q'.1
      have hcd2 := cdS_lt hG5 hP hV2
      generalize hs2 : nxS A B K G x.1 (k / G) (k % G) = s2 at *
      generalize hE : exK A B K N G x.1 x.2.1 x.2.2 (h == 0) Q k = E at *
      refine ⟨vp_in_nI hcd2 (by omega), ?_⟩
      rw [nI_clamp (show cdS G P K N s2 < 2 ^ 31 by omega)]
      cases hh : hsQ E s2
      · have hne : ∀ y ∈ E, cdS G P K N y.1 ≠ cdS G P K N s2 := fun y hy ec => by
          obtain ⟨i, hi⟩ := List.mem_iff_getElem?.mp hy
          exact hsQ_f hh y hy (cdS_inj hO hP (hokk.1 i y hi).1 hV2 ec)
        rw [hR.2 _ hcd2 hne]
        refine ⟨fun h => absurd h (by decide), fun _ => ⟨vp_in_nI hcd (by omega), ?_⟩⟩
        rintro _ rfl
        refine ⟨vp_in_nI hcd2 (by omega), ?_⟩
        rintro _ rfl
        have hxE : E[h]? = some x := by
          obtain ⟨t, ht, -⟩ := exK_pre (A := A) (B := B) (K := K) (N := N) (G := G) (s := x.1) (d := x.2.1) (f := x.2.2) (st := (h == 0)) (Q := Q) k
          rw [hE] at ht
          rw [ht]; exact app_some hx
        obtain ⟨r1, r2, r3⟩ := hR.1 h x hxE
        rw [nI_clamp (show cdS G P K N x.1 < 2 ^ 31 by omega), r2, nI_1]
        have hps : ∀ z : Nat × Nat × Nat, z.1 = s2 → psh E z = E ++ [z] := fun z hz => by unfold psh; rw [hz, hh, if_neg (by decide)]
        have hlen : ∀ z : Nat × Nat × Nat, (E ++ [z]).length = E.length + 1 := fun z => by rw [List.length_append]; rfl
        rw [hps _ rfl] at nx hok
        have hol := hok.len
        rw [hlen] at hol nx
        have fin : ∀ (f : Nat) (z : Nat × Nat × Nat), z = (s2, x.2.1 + 1, f) → RQ K N G P (E ++ [z]) (upd fa (cdS G P K N s2) (nI (x.2.1 + 1))) (upd ro E.length (nI (cdS G P K N s2))) (upd be (cdS G P K N s2) (nI f)) := by
          rintro f z rfl
          refine ⟨fun i y hy => ?_, fun v hv hn => ?_⟩
          · rcases app_or hy with w | ⟨rfl, rfl⟩
            · have hil := (List.getElem?_eq_some_iff.mp w).1
              have hyn := hne y (List.mem_of_getElem? w)
              obtain ⟨y1, y2, y3⟩ := hR.1 i y w
              rw [pk_un (by omega), pk_un hyn, pk_un hyn]
              exact ⟨y1, y2, y3⟩
            · have hel : 0 < E.length := by
                have := (List.getElem?_eq_some_iff.mp hxE).1
                omega
              refine ⟨pk_us, pk_us, ?_⟩
              rw [if_neg (by omega)]
              exact pk_us
          · have h1 := hn (s2, x.2.1 + 1, f) (by simp)
            rw [pk_un (fun q => h1 q.symm)]
            exact hR.2 v hv (fun y hy => hn y (List.mem_append_left _ hy))
        by_cases h0 : h = 0
        · subst h0
          refine pk_eq 0 0 (fun _ => ?_) (fun h => absurd rfl h)
          rintro _ rfl
          refine ⟨vp_in_nI hcd2 (by omega), ?_⟩
          rintro _ rfl
          refine ⟨vp_in_nI (by omega) (by omega), ?_⟩
          rintro _ rfl _ rfl _ rfl
          rw [nI_clamp (by omega), nI_1, nI_1, l10, pk_mul, nI_add]
          exact nx _ _ _ _ _ (by omega) (by omega) (fin _ _ rfl)
        · have hb0 : (h == 0) = false := beq_eq_false_iff_ne.mpr h0
          refine pk_eq h 0 (fun h => absurd h h0) (fun _ => ⟨vp_in_nI hcd (by omega), ?_⟩)
          rintro _ rfl
          refine ⟨vp_in_nI hcd2 (by omega), ?_⟩
          rintro _ rfl
          refine ⟨vp_in_nI (by omega) (by omega), ?_⟩
          rintro _ rfl _ rfl _ rfl
          rw [nI_clamp (by omega), r3, if_neg h0]
          simp only [nI_1]
          rw [hb0] at nx
          exact nx _ _ _ _ _ (by omega) (by omega) (fin _ _ rfl)
      · obtain ⟨y, hy, ey⟩ := hsQ_t hh
        obtain ⟨i, hi⟩ := List.mem_iff_getElem?.mp hy
        have hyd := (hokk.1 i y hi).2.1
        have hil := (List.getElem?_eq_some_iff.mp hi).1
        have hfa := (hR.1 i y hi).2.1
        rw [ey] at hfa
        rw [hfa]
        have hps : ∀ z : Nat × Nat × Nat, z.1 = s2 → psh E z = E := fun z hz => by unfold psh; rw [hz, hh, if_pos rfl]
        rw [hps _ rfl] at nx
        refine pk_le 0 y.2.1 (fun _ => ?_) (fun h => absurd h (by omega))
        rintro _ rfl
        rw [nI_1]
        exact nx _ _ _ _ _ (by omega) (by omega) hR
    · rw [opf_rc hO hV hg] at q
      have hpas : pas A B K N G x.1 k = false := q
      rw [exK, if_neg (by rw [hpas]; decide)] at nx
      rintro _ rfl
      rw [nI_1]
      exact nx _ _ _ _ _ (by omega) (by omega) hR
theorem u_s70 {A B K N : Nat → Nat} {many cA cB kd : Nat → Int32} {G P : Nat} {Qf : Qu} {post : Int32 → Int32 → (Nat → Int32) → (Nat → Int32) → (Nat → Int32) → (Nat → Int32) → (Nat → Int32) → Prop}
    (hO : GO G A B K) (hG : 0 < G) (hm : many 0 = nI G) (hA : Rp G cA A) (hB : Rp G cB B) (hK : Rp G kd K) (hP : P ≤ 3)
    (hp : ∀ cn sp fa ro be, OKQ K N G P Qf → RQ K N G P Qf fa ro be → post (nI Qf.length) (nI P) cn sp fa ro be) :
    ∀ (d h n : Nat) (Q : Qu) (cn sp fa ro be : Nat → Int32), h + d = 4001 → d < n → h ≤ Q.length → OKQ K N G P Q → bfs A B K N G P d h Q = Qf → RQ K N G P Q fa ro be → PX8_search_70 post (nI P) many cA cB kd (nI P) n (nI h) (nI Q.length) cn sp fa ro be := by
  have hG5 := hO.1
  intro d
  induction d with
  | zero =>
    intro h n Q cn sp fa ro be hd hn hh hQ hb hR
    have hl := hQ.len
    exact absurd hd (by omega)
  | succ d ih =>
    intro h n Q cn sp fa ro be hd hn hh hQ hb hR
    obtain ⟨n, rfl⟩ : ∃ k, n = k + 1 := ⟨n - 1, by omega⟩
    have hl := hQ.len
    refine pk_le Q.length h (fun hle => ?_) (fun hlt => ⟨vp_in_nI (by omega) (by omega), ?_⟩)
    · rw [bfs_none hle] at hb
      subst hb
      exact hp cn sp fa ro be hQ hR
    · obtain ⟨x, hx⟩ : ∃ x, Q[h]? = some x := ⟨_, List.getElem?_eq_getElem hlt⟩
      rintro _ rfl
      rw [nI_clamp (by omega), (hR.1 h x hx).1]
      rw [bfs_some hx] at hb
      refine ⟨P * G + 1, u_s88 hO hG hm hA hB hK hP hQ hx (fun cn2 sp2 fa2 ro2 be2 hR2 => ?_) (P * G) 0 _ cn sp fa ro be (by omega) (by omega) hR⟩
      rintro _ rfl
      rw [nI_1]
      have hok := exK_ok (st := (h == 0)) hO hP hQ hx (P * G) (Nat.le_refl _)
      obtain ⟨t, ht, -⟩ := exK_pre (A := A) (B := B) (K := K) (N := N) (G := G) (s := x.1) (d := x.2.1) (f := x.2.2) (st := (h == 0)) (Q := Q) (P * G)
      exact ih (h + 1) n _ cn2 sp2 fa2 ro2 be2 (by omega) (by omega) (by rw [ht, List.length_append]; omega) hok hb hR2
theorem u_s7 {A B K N C : Nat → Nat} {many cA cB kd cn sp ro0 be0 : Nat → Int32} {G P : Nat} {i1 : Int32} {post : Int32 → Int32 → (Nat → Int32) → (Nat → Int32) → (Nat → Int32) → (Nat → Int32) → (Nat → Int32) → Prop}
    (hO : GO G A B K) (hG : 0 < G) (hm : many 0 = nI G) (hA : Rp G cA A) (hB : Rp G cB B) (hK : Rp G kd K) (h0 : 0 < P) (hP : P ≤ 3) (hN : Rp G cn N) (hS : Sm G N) (hC : Rp P sp C) (hC5 : ∀ p, p < 3 → C p < 5)
    (hp : ∀ cn sp fa ro be, OKQ K N G P (Qfl A B K N C G P) → RQ K N G P (Qfl A B K N C G P) fa ro be → post (nI (Qfl A B K N C G P).length) (nI P) cn sp fa ro be) :
    ∀ (d i n : Nat) (fa : Nat → Int32), i + d = 30400 → d < n → (∀ v, v < i → fa v = -4) → PX8_search_7 post (nI P) many cA cB kd i1 (nI P) cn sp ro0 be0 n (nI i) fa := by
  have hG5 := hO.1
  intro d
  induction d with
  | zero =>
    intro i n fa hd hn hf
    obtain ⟨n, rfl⟩ : ∃ k, n = k + 1 := ⟨n - 1, by omega⟩
    obtain rfl : i = 30400 := by omega
    have hV : VdS K N G P (st0 C P) := st0_vd hO hC5 h0 hP
    have hok : OKQ K N G P [(st0 C P, 0, 0)] := st0_ok hO hC5 h0 hP
    have hcd := cdS_lt hG5 hP hV
    have e : cdN G P K N C = cdS G P K N (st0 C P) := by
      unfold cdS cdN
      have e1 : gcN K N G = gcN K (cnS N (st0 C P)) G := gcN_congr G (fun j hj => by
        unfold cnS
        rw [st0_bit hC5 h0 hP (by omega)]
        rfl)
      rw [e1]
      exact pcN_congr P (fun j hj => ((st0_ct hC5 h0 hP).1 j hj).symm)
    refine pk_le 30400 30400 (fun _ => u_code hO hm hK hP hN hS hC ⟨pk_in 0 30400 (by omega), ?_⟩) (fun h => absurd h (by omega))
    rw [e]
    rintro _ rfl
    rw [z0, pk_us]
    refine ⟨pk_in 0 30400 (by omega), vp_in_nI hcd (by omega), ?_⟩
    rintro _ rfl
    refine ⟨pk_in 0 30400 (by omega), vp_in_nI hcd (by omega), ?_⟩
    rintro _ rfl
    rw [nI_clamp (show cdS G P K N (st0 C P) < 2 ^ 31 by omega)]
    refine ⟨4002, u_s70 (Qf := Qfl A B K N C G P) hO hG hm hA hB hK hP hp 4001 0 4002 [(st0 C P, 0, 0)] _ _ _ _ _ (by omega) (by omega) (by omega) hok rfl ⟨fun i x hx => ?_, fun v hv hne => ?_⟩⟩
    · cases i with
      | zero =>
        cases hx
        exact ⟨pk_us, pk_us, pk_us⟩
      | succ i => cases hx
    · rw [pk_un (fun q => hne (st0 C P, 0, 0) (by simp) q.symm)]
      exact hf v hv
  | succ d ih =>
    intro i n fa hd hn hf
    obtain ⟨n, rfl⟩ : ∃ k, n = k + 1 := ⟨n - 1, by omega⟩
    refine pk_le 30400 i (fun h => absurd h (by omega)) (fun _ => ⟨vp_in_nI (by omega) (by omega), ?_⟩)
    rintro _ rfl _ rfl
    rw [nI_clamp (by omega), nI_1]
    refine ih (i + 1) n _ (by omega) (by omega) (fun v hv => ?_)
    by_cases q : v = i
    · subst q; exact pk_us
    · rw [pk_un q]; exact hf v (by omega)
theorem u_search {A B K N C : Nat → Nat} {many cA cB kd cn sp fa0 ro0 be0 : Nat → Int32} {G P : Nat} {i1 i2 : Int32} {post : Int32 → Int32 → (Nat → Int32) → (Nat → Int32) → (Nat → Int32) → (Nat → Int32) → (Nat → Int32) → Prop}
    (hO : GO G A B K) (hG : 0 < G) (hm : many 0 = nI G) (hA : Rp G cA A) (hB : Rp G cB B) (hK : Rp G kd K) (h0 : 0 < P) (hP : P ≤ 3) (hN : Rp G cn N) (hS : Sm G N) (hC : Rp P sp C) (hC5 : ∀ p, p < 3 → C p < 5)
    (hp : ∀ cn sp fa ro be, OKQ K N G P (Qfl A B K N C G P) → RQ K N G P (Qfl A B K N C G P) fa ro be → post (nI (Qfl A B K N C G P).length) (nI P) cn sp fa ro be) : PX8_search (nI P) i1 i2 many cA cB kd cn sp fa0 ro0 be0 post :=
  ⟨30401, u_s7 hO hG hm hA hB hK h0 hP hN hS hC hC5 hp 30400 0 30401 fa0 (by omega) (by omega) (fun v hv => absurd hv (by omega))⟩
