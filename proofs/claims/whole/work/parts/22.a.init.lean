theorem s_init {ic_now_gates : Int32} {ac_now_courtA : Nat → Int32} {ac_now_courtB : Nat → Int32} {ac_now_kind : Nat → Int32} {ac_now_gone : Nat → Int32} {im_keptMany : Int32} {im_undoMany : Int32} {im_seenMany : Int32} {im_pathMany : Int32} {am_many : Nat → Int32} {am_ones : Nat → Int32} {am_others : Nat → Int32} {am_kinds : Nat → Int32} {am_firsts : Nat → Int32} {am_persons : Nat → Int32} {am_gone : Nat → Int32} {am_at : Nat → Int32} {am_fines : Nat → Int32} (hc : IniC ic_now_gates ac_now_courtA ac_now_courtB ac_now_kind ac_now_gone) (hm : IniM im_keptMany im_undoMany im_seenMany im_pathMany am_many am_ones am_others am_kinds am_firsts am_persons am_gone am_at am_fines) : LInv 0 0 (fun _ => 0) ic_now_gates 2 0 ac_now_courtA ac_now_courtB ac_now_kind ac_now_gone (fun _ => 0) 0 2 0 (fun _ => 0) (fun _ => 0) (fun _ => 0) (fun _ => 0) (fun _ => 0) 0 2 0 (fun _ => 0) (fun _ => 0) (fun _ => 0) (fun _ => 0) (fun _ => 0) 0 0 (fun _ => 0) (fun _ => 0) (fun _ => 0) (fun _ => 0) 0 (fun _ => 0) (fun _ => 0) 0 (fun _ => 0) 0 (fun _ => 0) am_many am_ones am_others am_kinds am_persons am_gone am_at am_fines im_keptMany im_undoMany (fun _ => 0) im_seenMany (fun _ => 0) (fun _ => 0) im_pathMany (fun _ => 0) := by
  obtain ⟨g1, ⟨a0, a1⟩, ⟨b0, b1⟩, ⟨k0, k1⟩, ⟨n0, n1⟩⟩ := hc
  obtain ⟨⟨m1, m2, m3, m4⟩, m5, ⟨o0, o1⟩, ⟨r0, r1⟩, ⟨q0, q1⟩, m6, ⟨h0, h1⟩, m7, m8⟩ := hm
  have two : ∀ {f : Nat → Int32} {F : Nat → Nat}, f 0 = nI (F 0) → f 1 = nI (F 1) → Rp 2 f F := fun x y i hi => by
    rcases (show i = 0 ∨ i = 1 by omega) with rfl | rfl
    · exact x
    · exact y
  have two' : ∀ {Q : Nat → Prop}, Q 0 → Q 1 → ∀ i, i < 2 → Q i := fun x y i hi => by
    rcases (show i = 0 ∨ i = 1 by omega) with rfl | rfl
    · exact x
    · exact y
  have none : ∀ {f : Nat → Int32} {F : Nat → Nat}, Rp 0 f F := fun i hi => absurd hi (by omega)
  refine ⟨2, 2, fun g => if g = 0 then 0 else 1, fun g => if g = 0 then 1 else 2, fun g => if g = 0 then 0 else 1, fun g => if g = 0 then 0 else 1, fun _ => 0, ⟨⟨by omega, two' (by decide) (by decide), fun _ => by decide⟩, by omega, by omega, by omega⟩, ?_, ?_, ?_, ?_, ?_, ?_, ?_, ?_⟩
  · exact ⟨0, fun _ => 0, by omega, rfl, rfl, fun i hi => absurd hi (by omega), none, none⟩
  · exact ⟨g1, rfl, two a0 a1, two b0 b1, two k0 k1, two n0 n1, fun i _ => rfl, two' (by decide) (by decide), fun _ _ => Nat.zero_lt_succ 4⟩
  · exact ⟨two' h0 h1, fun p hp => by rw [show 3 * 0 + p = p by omega]; exact m7 p hp, m8⟩
  · exact ⟨m5, m6, two o0 o1, two r0 r1, two q0 q1⟩
  · exact ⟨0, by omega, rfl, m1, fun h => absurd h (by omega), fun h => absurd h (by omega)⟩
  · exact ⟨0, fun _ => 0, fun _ => 0, fun _ => 0, fun _ => 0, by omega, rfl, m2, none, none, none, none, fun i hi => absurd hi (by omega), fun i hi => absurd hi (by omega), fun g _ => Nat.zero_le _⟩
  · exact ⟨0, fun _ => 0, fun _ => 0, by omega, rfl, m3, none, none, none, none, fun i hi => absurd hi (by omega)⟩
  · exact ⟨0, fun _ => 0, by omega, rfl, m4, none, none, fun i hi => absurd hi (by omega)⟩
