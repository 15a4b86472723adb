/-! X: the component's private methods -/
theorem sa_cs (x : Int32) : (x < 0 ∨ ∃ j : Nat, j < 2 ^ 31 ∧ 4 ≤ j ∧ x = nI j) ∨ ∃ s : Nat, s < 4 ∧ x = nI s := by
  by_cases c : x < 0
  · exact Or.inl (Or.inl c)
  · obtain ⟨j, hj, e⟩ := nI_of c
    by_cases d : j < 4
    · exact Or.inr ⟨j, d, e⟩
    · exact Or.inl (Or.inr ⟨j, hj, by omega, e⟩)
theorem sa_nb : vp_nar .boolean 1 = 1 := by first | rfl | decide
theorem sa_v4 {s : Nat} (hs : s < 4) : vp_in (nI s) 4 := vp_in_nI hs (by decide)
theorem sa_c31 {s : Nat} (hs : s < 4) : (nI s).toNatClampNeg = s := nI_clamp (by omega)
theorem xs_ok {post : Int32 → Prop} {s : Nat} (hs : s < 4) (hp : post 1) : wpX_isStream post (nI s) :=
  br_f (nI_pos (by omega)) (br_f (nI_ge (b := 4) hs (by decide)) hp)
theorem xs_bad {post : Int32 → Prop} {x : Int32} (hb : x < 0 ∨ ∃ j : Nat, j < 2 ^ 31 ∧ 4 ≤ j ∧ x = nI j) (hp : post 0) : wpX_isStream post x := by
  rcases hb with c | ⟨j, h1, h2, rfl⟩
  · exact br_t c hp
  · exact br_f (nI_pos h1) (br_t (nI_le (a := 4) h2 h1) hp)
theorem ys_ok {post : Int32 → Prop} {s : Nat} (hs : s < 4) (hp : post 0) : wpY_bad post (nI s) :=
  br_f (nI_pos (by omega)) (br_t (nI_le (b := 3) (by omega) (by decide)) hp)
theorem ys_bad {post : Int32 → Prop} {x : Int32} (hb : x < 0 ∨ ∃ j : Nat, j < 2 ^ 31 ∧ 4 ≤ j ∧ x = nI j) (hp : post 1) : wpY_bad post x := by
  rcases hb with c | ⟨j, h1, h2, rfl⟩
  · exact br_t c hp
  · exact br_f (nI_pos h1) (br_f (nI_ge (a := 3) (by omega) h1) hp)
theorem sa_leftLe {K P H E T : Nat → Int32} {p h : Nat → Nat} (I : sa_Inv K P H E T p h) : sa_left p h ≤ 56 := by
  have a0 := (I.1 0 (by decide)).2.2.1
  have a1 := (I.1 1 (by decide)).2.2.1
  have a2 := (I.1 2 (by decide)).2.2.1
  have a3 := (I.1 3 (by decide)).2.2.1
  unfold sa_left sa_sum
  omega
theorem xs_limit {post : Int32 → Prop} {K B P H E : Nat → Int32} {p : Nat → Nat} {s : Nat} (hs : s < 4) (hP : P s = nI (p s)) (hl : p s ≤ 240) (hp : post (nI (sa_lim p s))) : wpX_limit post (K, B, P, H, E) (nI s) := by
  have hc := sa_c31 hs
  refine And.intro (sa_v4 hs) ?_
  refine nm_r (e' := nI (p s + 24)) (by rw [hc, hP]; exact nI_add _ 24) ?_
  refine pk_le 240 (p s + 24) (fun c => ?_) (fun c => ?_)
  · have e : sa_lim p s = 240 := by unfold sa_lim; split <;> omega
    rw [e] at hp; exact hp
  · have e : sa_lim p s = p s + 24 := by unfold sa_lim; split <;> omega
    rw [e] at hp; exact hp
theorem xs_leftS {post : Int32 → Prop} {K B P H E : Nat → Int32} {n i a pi hi : Nat} (c : i < 4) (eP : P i = nI pi) (eH : H i = nI hi) (hh : hi ≤ a + pi) (w : wX_left_5 post K B P H E n (nI (a + pi - hi)) (nI (i + 1))) : wX_left_5 post K B P H E (n + 1) (nI a) (nI i) := by
  have hc := sa_c31 c
  refine br_f (nI_ge (b := 4) c (by decide)) (And.intro (sa_v4 c) (And.intro (sa_v4 c) (nm_r (e' := nI (a + pi - hi)) ?_ (nm_r (nI_1 i) w))))
  rw [hc, eP, eH]
  exact sa_dif hh
theorem xs_left {post : Int32 → Prop} {K B P H E T : Nat → Int32} {p h : Nat → Nat} (I : sa_Inv K P H E T p h) (hp : post (nI (sa_left p h))) : wpX_left post (K, B, P, H, E) := by
  have o0 := I.1 0 (by decide)
  have o1 := I.1 1 (by decide)
  have o2 := I.1 2 (by decide)
  have o3 := I.1 3 (by decide)
  have a0 := o0.2.2.1
  have a1 := o1.2.2.1
  have a2 := o2.2.2.1
  have a3 := o3.2.2.1
  have hI := I.2
  unfold sa_sum at hI
  have el : sa_left p h = 56 + p 0 - h 0 + p 1 - h 1 + p 2 - h 2 + p 3 - h 3 := by unfold sa_left sa_sum; omega
  rw [el] at hp
  refine Exists.intro 5 ?_
  refine xs_leftS (a := 56) (i := 0) (by decide) o0.1 o0.2.1 (by omega) ?_
  refine xs_leftS (i := 1) (by decide) o1.1 o1.2.1 (by omega) ?_
  refine xs_leftS (i := 2) (by decide) o2.1 o2.2.1 (by omega) ?_
  refine xs_leftS (i := 3) (by decide) o3.1 o3.2.1 (by omega) ?_
  exact br_t (nI_le (a := 4) (b := 4) (by decide) (by decide)) hp
theorem xs_flow {post : Int32 → Prop} {K B P H E T : Nat → Int32} {p h : Nat → Nat} {s : Nat} (I : sa_Inv K P H E T p h) (hs : s < 4) (hp : post (nI (sa_fb p h s))) : wpX_flowBound post (K, B, P, H, E) (nI s) := by
  have o := I.1 s hs
  have hc := sa_c31 hs
  have b1 := o.2.2.1
  have b2 := o.2.2.2.1
  have b3 := sa_leftLe I
  have b4 := sa_limLe p s
  unfold wpX_flowBound
  dsimp only
  refine xs_limit hs o.1 (by omega) ?_
  refine And.intro (sa_v4 hs) ?_
  refine xs_left I ?_
  refine nm_r (e' := nI (h s + sa_left p h)) (by rw [hc, o.2.1]; exact nI_add _ _) ?_
  refine pk_le (h s + sa_left p h) (sa_lim p s) (fun c => ?_) (fun c => ?_)
  · have e : sa_fb p h s = h s + sa_left p h := by unfold sa_fb; split <;> omega
    rw [e] at hp; exact hp
  · have e : sa_fb p h s = sa_lim p s := by unfold sa_fb; split <;> omega
    rw [e] at hp; exact hp
theorem xs_known {post : Int32 → Prop} {K B P H E : Nat → Int32} {s o : Nat} (hs : s < 4) (ho : o < 2 ^ 31) (hp : post (sa_kn K s o)) : wpX_isKnown post (K, B, P, H, E) (nI s) (nI o) := by
  refine pk_le 240 o (fun c => ?_) (fun c => ?_)
  · rw [sa_knG c] at hp; exact hp
  · have hc : (nI (240 * s + o)).toNatClampNeg = 240 * s + o := nI_clamp (by omega)
    rw [sa_xi s o, hc]
    refine And.intro (vp_in_nI (by omega) (by decide)) ?_
    by_cases z : K (240 * s + o) = 0
    · rw [sa_kn0 z] at hp; exact br_t z hp
    · rw [sa_kn1 (by omega) z] at hp; exact br_f z hp
theorem sa_kn_1 {K : Nat → Int32} {s o : Nat} (z : ¬ sa_kn K s o = 0) : sa_kn K s o = 1 := sa_kn1 (sa_knI z).1 (sa_knI z).2
theorem xs_gba {post : Int32 → Prop} {K B P H E : Nat → Int32} {s o q : Nat} (hs : s < 4) (hP : P s = nI q) (hq : q ≤ o) (ho : o < 2 ^ 31) (hp : post (sa_gb K s q o)) : wpX_gapBeginsAt post (K, B, P, H, E) (nI s) (nI o) := by
  have hc := sa_c31 hs
  unfold wpX_gapBeginsAt
  dsimp only
  refine xs_known hs ho ?_
  by_cases z : sa_kn K s o = 0
  · refine br_t z (And.intro (sa_v4 hs) ?_)
    rw [hc, hP]
    refine pk_eq o q (fun c => ?_) (fun c => ?_)
    · have e : sa_gb K s q o = 1 := by unfold sa_gb; rw [if_pos z, if_pos c]
      rw [e] at hp; exact hp
    · rw [sa_pr (by omega : 0 < o)]
      refine xs_known hs (by omega) ?_
      have e : sa_gb K s q o = sa_kn K s (o - 1) := by unfold sa_gb; rw [if_pos z, if_neg c]
      rw [e] at hp
      by_cases y : sa_kn K s (o - 1) = 0
      · rw [y] at hp; exact br_t y hp
      · rw [sa_kn_1 y] at hp; exact br_f y hp
  · have e : sa_gb K s q o = 0 := if_neg z
    rw [e] at hp; exact br_f z hp
