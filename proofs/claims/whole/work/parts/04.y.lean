/-! Y: the reference's private methods -/
theorem ys_limit {post : Int32 → Prop} {K B P T : Nat → Int32} {p : Nat → Nat} {s : Nat} (hs : s < 4) (hP : P s = nI (p s)) (hl : p s ≤ 240) (hp : post (nI (sa_lim p s))) : wpY_limit post (K, B, P, T) (nI s) := by
  have hc := sa_c31 hs
  have e24 : nI (p s) + 24 = nI (p s + 24) := nI_add _ 24
  refine And.intro (sa_v4 hs) ?_
  rw [hc, hP, e24]
  refine pk_le 240 (p s + 24) (fun c => ?_) (fun c => ?_)
  · have e : sa_lim p s = 240 := by unfold sa_lim; split <;> omega
    rw [e] at hp; exact hp
  · have e : sa_lim p s = p s + 24 := by unfold sa_lim; split <;> omega
    rw [e] at hp; exact And.intro (sa_v4 hs) hp
theorem ys_topL {post : Int32 → Prop} {K B P T : Nat → Int32} {s m : Nat} (hs : s < 4) (ho : ∀ i, m ≤ i → i < 240 → K (240 * s + i) = 0) (hz : m = 0 ∨ ¬ K (240 * s + (m - 1)) = 0) (hp : post (nI m)) : ∀ i, m ≤ i → i ≤ 240 → wY_top_20 post (nI s) K B P T (i + 1) (nI i) := by
  intro i
  induction i with
  | zero =>
    intro a b
    obtain rfl : m = 0 := by omega
    exact br_t (nI_le (a := 0) (b := 0) (by decide) (by decide)) hp
  | succ i ih =>
    intro a b
    have e : 240 * nI s + nI (i + 1) - 1 = nI (240 * s + i) := by rw [sa_ix]; exact nI_pred _
    have hc : (nI (240 * s + i)).toNatClampNeg = 240 * s + i := nI_clamp (by omega)
    refine br_f (nI_nle (by omega) (by omega)) ?_
    rw [e, hc]
    refine And.intro (vp_in_nI (by omega) (by decide)) ?_
    by_cases c : m ≤ i
    · exact br_t (ho i c (by omega)) (nm_r (pk_m1 i) (ih c (by omega)))
    · obtain rfl : m = i + 1 := by omega
      rcases hz with z | z
      · omega
      · rw [Nat.add_sub_cancel] at z
        exact br_f z hp
theorem ys_top {post : Int32 → Prop} {K B P H E T : Nat → Int32} {p h : Nat → Nat} {s : Nat} (I : sa_Inv K P H E T p h) (hs : s < 4) (hp : post (nI (h s))) : wpY_top post (K, B, P, T) (nI s) := by
  obtain ⟨o1, o2, o3, o4, o5, o6, o7⟩ := I.1 s hs
  have hc := sa_c31 hs
  refine And.intro (sa_v4 hs) ?_
  rw [hc]
  rcases o7 with ⟨a, b, z⟩ | ⟨a, b⟩
  · refine br_t (by rw [b]; decide) (Exists.intro 241 ?_)
    exact ys_topL hs o6 z hp 240 o4 (Nat.le_refl _)
  · rw [b]
    exact br_f (nI_pos (by omega)) (And.intro (sa_v4 hs) hp)
theorem ys_52 {post : Int32 → Prop} {J : Int32 → Int32 → Int32 → Prop} {x1 x2 : Int32} {K B P T : Nat → Int32} {a q w i pi : Nat} (hi : i < 4) (hP : P i = nI pi) (z : J (nI (a + w)) (nI (q + pi)) (nI (i + 1))) : wY_fits_52 post J x1 x2 (nI q) (nI i) (nI w) (nI a) K B P T := by
  have hc := sa_c31 hi
  exact nm_r (nI_add a w) (And.intro (sa_v4 hi) (nm_r (e' := nI (q + pi)) (by rw [hc, hP]; exact nI_add _ _) (nm_r (nI_1 i) z)))
theorem ys_fitS {post : Int32 → Prop} {K B P H E T : Nat → Int32} {p h : Nat → Nat} {s e n i a q : Nat} (I : sa_Inv K P H E T p h) (hs : s < 4) (he : e ≤ 240) (hi : i < 4) (w : wY_fits_19 post (nI s) (nI e) K B P T n (nI (a + sa_tp h s e i)) (nI (q + p i)) (nI (i + 1))) : wY_fits_19 post (nI s) (nI e) K B P T (n + 1) (nI a) (nI q) (nI i) := by
  have o := I.1 i hi
  have o4 := o.2.2.2.1
  refine br_f (nI_ge (b := 4) hi (by decide)) ?_
  refine ys_top I hi ?_
  refine pk_eq i s (fun c => ?_) (fun c => ?_)
  · refine pk_le e (h i) (fun d => ?_) (fun d => ?_)
    · have et : sa_tp h s e i = h i := if_neg (by omega)
      rw [et] at w
      unfold wY_fits_50
      exact ys_52 hi o.1 w
    · have et : sa_tp h s e i = e := if_pos ⟨c, d⟩
      rw [et] at w
      exact ys_52 hi o.1 w
  · have et : sa_tp h s e i = h i := if_neg (by omega)
    rw [et] at w
    unfold wY_fits_50
    exact ys_52 hi o.1 w
theorem sa_tpLe {K P H E T : Nat → Int32} {p h : Nat → Nat} {s e : Nat} (I : sa_Inv K P H E T p h) (he : e ≤ 240) : sa_sum (sa_tp h s e) ≤ 960 ∧ sa_sum p ≤ 960 := by
  have o0 := I.1 0 (by decide)
  have o1 := I.1 1 (by decide)
  have o2 := I.1 2 (by decide)
  have o3 := I.1 3 (by decide)
  have q : ∀ j, h j ≤ 240 → sa_tp h s e j ≤ 240 := by
    intro j hj
    unfold sa_tp
    split <;> omega
  have q0 := q 0 o0.2.2.2.1
  have q1 := q 1 o1.2.2.2.1
  have q2 := q 2 o2.2.2.2.1
  have q3 := q 3 o3.2.2.2.1
  have a0 := o0.2.2.1
  have a1 := o1.2.2.1
  have a2 := o2.2.2.1
  have a3 := o3.2.2.1
  have b0 := o0.2.2.2.1
  have b1 := o1.2.2.2.1
  have b2 := o2.2.2.2.1
  have b3 := o3.2.2.2.1
  unfold sa_sum
  omega
theorem ys_fits {post : Int32 → Prop} {K B P H E T : Nat → Int32} {p h : Nat → Nat} {s e : Nat} (I : sa_Inv K P H E T p h) (hs : s < 4) (he : e < 2 ^ 31) (hp : post (if e ≤ sa_fb p h s then 1 else 0)) : wpY_fits post (K, B, P, T) (nI s) (nI e) := by
  have o := I.1 s hs
  have b1 := o.2.2.1
  have b2 := o.2.2.2.1
  have b4 := sa_limLe p s
  have b5 := sa_fbLe p h s
  unfold wpY_fits
  dsimp only
  refine ys_limit hs o.1 (by omega) ?_
  refine pk_le e (sa_lim p s) (fun c => ?_) (fun c => ?_)
  · have hb := sa_tpLe (s := s) (e := e) I (by omega)
    have hf := sa_fit I hs c
    refine Exists.intro 5 ?_
    refine ys_fitS I (i := 0) (a := 0) (q := 0) hs (by omega) (by decide) ?_
    refine ys_fitS I (i := 1) hs (by omega) (by decide) ?_
    refine ys_fitS I (i := 2) hs (by omega) (by decide) ?_
    refine ys_fitS I (i := 3) hs (by omega) (by decide) ?_
    refine br_t (nI_le (a := 4) (b := 4) (by decide) (by decide)) ?_
    have e1 : nI (0 + p 0 + p 1 + p 2 + p 3) + 56 = nI (sa_sum p + 56) := by
      rw [show 0 + p 0 + p 1 + p 2 + p 3 = sa_sum p from by unfold sa_sum; omega]
      exact nI_add _ 56
    have e2 : nI (0 + sa_tp h s e 0 + sa_tp h s e 1 + sa_tp h s e 2 + sa_tp h s e 3) = nI (sa_sum (sa_tp h s e)) := by
      rw [show 0 + sa_tp h s e 0 + sa_tp h s e 1 + sa_tp h s e 2 + sa_tp h s e 3 = sa_sum (sa_tp h s e) from by unfold sa_sum; omega]
    refine pk_lt (sa_sum p + 56) (sa_sum (sa_tp h s e)) (fun d => ?_) (fun d => ?_) e1 e2
    · rw [if_neg (by omega)] at hp; exact hp
    · rw [if_pos (by omega)] at hp; exact hp
  · rw [if_neg (by omega)] at hp; exact hp
theorem ys_known {post : Int32 → Prop} {K B P T : Nat → Int32} {s o : Nat} (hs : s < 4) (ho : o < 2 ^ 31) (hp : post (sa_kn K s o)) : wpY_isKnown post (K, B, P, T) (nI s) (nI o) := by
  refine pk_le 240 o (fun c => ?_) (fun c => ?_)
  · rw [sa_knG c] at hp; exact hp
  · have hc : (nI (240 * s + o)).toNatClampNeg = 240 * s + o := nI_clamp (by omega)
    rw [sa_ix s o, hc]
    refine And.intro (vp_in_nI (by omega) (by decide)) ?_
    by_cases z : K (240 * s + o) = 0
    · rw [sa_kn0 z] at hp; exact br_t z hp
    · rw [sa_kn1 (by omega) z] at hp; exact br_f z hp
theorem ys_beg {post : Int32 → Prop} {K B P T : Nat → Int32} {s o q : Nat} (hs : s < 4) (hP : P s = nI q) (hq : q ≤ o) (ho : o < 2 ^ 31) (hp : post (sa_gb K s q o)) : wpY_begins post (K, B, P, T) (nI s) (nI o) := by
  have hc := sa_c31 hs
  unfold wpY_begins
  dsimp only
  refine ys_known hs ho ?_
  by_cases z : sa_kn K s o = 0
  · refine br_t z (And.intro (sa_v4 hs) ?_)
    rw [hc, hP]
    refine pk_eq o q (fun c => ?_) (fun c => ?_)
    · have e : sa_gb K s q o = 1 := by unfold sa_gb; rw [if_pos z, if_pos c]
      rw [e] at hp; exact hp
    · rw [sa_pr (by omega : 0 < o)]
      refine ys_known hs (by omega) ?_
      have e : sa_gb K s q o = sa_kn K s (o - 1) := by unfold sa_gb; rw [if_pos z, if_neg c]
      rw [e] at hp
      by_cases y : sa_kn K s (o - 1) = 0
      · rw [y] at hp; exact br_t y hp
      · rw [sa_kn_1 y] at hp; exact br_f y hp
  · have e : sa_gb K s q o = 0 := if_neg z
    rw [e] at hp; exact br_f z hp
