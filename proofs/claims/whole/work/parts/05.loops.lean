/-! lockstep: one result such that, for every post, both loops go on from it -/
theorem pl_learn (P H E T : Nat → Int32) {s o l : Nat} (b : Int32) (hs : s < 4) (hb : o + l ≤ 240) : ∀ (d k c : Nat) (K B : Nat → Int32), k + d = l → ∃ (K' B' : Nat → Int32) (c' : Nat), (∀ post : Int32 → SX → Prop, post (nI c') (K', B', P, H, E) → wX_learn_6 post (nI s) (nI o) (nI l) b (d + 1) (nI c) (nI k) K B P H E) ∧ (∀ post : Int32 → SY → Prop, post (nI c') (K', B', P, T) → wY_piece_74 post (nI s) (nI o) (nI l) b (d + 1) (nI c) (nI k) K B P T) ∧ (∀ j, j < 240 * s + o + k ∨ 240 * s + o + l ≤ j → K' j = K j) ∧ (∀ j, 240 * s + o + k ≤ j → j < 240 * s + o + l → ¬ K' j = 0) := by
  intro d
  induction d with
  | zero =>
    intro k c K B hk
    have hn : nI l ≤ nI k := nI_le (by omega) (by omega)
    exact ⟨K, B, c, fun post hp => br_t hn hp, fun post hp => br_t hn hp, fun _ _ => rfl, fun j a b => absurd a (by omega)⟩
  | succ d ih =>
    intro k c K B hk
    have hn : ¬ nI l ≤ nI k := nI_ge (by omega) (by omega)
    have eX : nI s * 240 + nI o + nI k = nI (240 * s + o + k) := by rw [sa_xi, nI_add]
    have eY : 240 * nI s + nI o + nI k = nI (240 * s + o + k) := by rw [sa_ix, nI_add]
    have hv : vp_in (nI (240 * s + o + k)) 960 := vp_in_nI (by omega) (by decide)
    have hc : (nI (240 * s + o + k)).toNatClampNeg = 240 * s + o + k := nI_clamp (by omega)
    by_cases z : K (240 * s + o + k) = 0
    · obtain ⟨K', B', c', hX, hY, k1, k2⟩ := ih (k + 1) (c + 1) (upd K (240 * s + o + k) 1) (upd B (240 * s + o + k) ((b >>> ((8 * nI k) &&& 31)) &&& 255)) (by omega)
      refine ⟨K', B', c', fun post hp => ?_, fun post hp => ?_, fun j a => ?_, fun j a a' => ?_⟩
      · refine br_f hn (nm_r eX (And.intro hv ?_))
        rw [hc, sa_nb]
        exact br_t z (And.intro hv (nm_e (And.intro hv (nm_e (nm_r (nI_1 c) (nm_r (nI_1 k) (hX post hp)))))))
      · refine br_f hn (nm_r eY (And.intro hv ?_))
        rw [hc, sa_nb]
        exact br_t z (And.intro hv (nm_e (And.intro hv (nm_e (nm_r (nI_1 c) (nm_r (nI_1 k) (hY post hp)))))))
      · rw [k1 j (by omega)]
        exact pk_un (by omega)
      · by_cases q : j = 240 * s + o + k
        · subst q
          rw [k1 _ (by omega), pk_us]
          decide
        · exact k2 j (by omega) a'
    · obtain ⟨K', B', c', hX, hY, k1, k2⟩ := ih (k + 1) c K B (by omega)
      refine ⟨K', B', c', fun post hp => ?_, fun post hp => ?_, fun j a => ?_, fun j a a' => ?_⟩
      · refine br_f hn (nm_r eX (And.intro hv ?_))
        rw [hc]
        exact br_f z (nm_r (nI_1 k) (hX post hp))
      · refine br_f hn (nm_r eY (And.intro hv ?_))
        rw [hc]
        exact br_f z (nm_r (nI_1 k) (hY post hp))
      · exact k1 j (by omega)
      · by_cases q : j = 240 * s + o + k
        · subst q
          rw [k1 _ (by omega)]
          exact z
        · exact k2 j (by omega) a'
theorem pl_gaps {K B P H E T : Nat → Int32} {p h : Nat → Nat} {s : Nat} (I : sa_Inv K P H E T p h) (hs : s < 4) : ∀ d o c : Nat, o + d = h s → p s ≤ o → ∃ r : Int32, (∀ post : Int32 → Prop, post r → wX_gaps_18 post (nI s) K B P H E (d + 1) (nI c) (nI o)) ∧ (∀ post : Int32 → Prop, post r → wY_gaps_18 post (nI s) K B P T (d + 1) (nI c) (nI o)) := by
  have O := I.1 s hs
  have hc := sa_c31 hs
  have h4 := O.2.2.2.1
  intro d
  induction d with
  | zero =>
    intro o c ho hq
    have hn : nI (h s) ≤ nI o := nI_le (by omega) (by omega)
    refine ⟨nI c, fun post hp => ?_, fun post hp => ?_⟩
    · unfold wX_gaps_18
      rw [hc, O.2.1]
      exact And.intro (sa_v4 hs) (br_t hn hp)
    · unfold wY_gaps_18
      exact ys_top I hs (br_t hn hp)
  | succ d ih =>
    intro o c ho hq
    have hn : ¬ nI (h s) ≤ nI o := nI_ge (by omega) (by omega)
    by_cases g : sa_gb K s (p s) o = 0
    · obtain ⟨r, hX, hY⟩ := ih (o + 1) c (by omega) (by omega)
      refine ⟨r, fun post hp => ?_, fun post hp => ?_⟩
      · unfold wX_gaps_18
        rw [hc, O.2.1]
        exact And.intro (sa_v4 hs) (br_f hn (xs_gba hs O.1 hq (by omega) (br_t g (nm_r (nI_1 o) (hX post hp)))))
      · unfold wY_gaps_18
        exact ys_top I hs (br_f hn (ys_beg hs O.1 hq (by omega) (br_t g (nm_r (nI_1 o) (hY post hp)))))
    · obtain ⟨r, hX, hY⟩ := ih (o + 1) (c + 1) (by omega) (by omega)
      refine ⟨r, fun post hp => ?_, fun post hp => ?_⟩
      · unfold wX_gaps_18
        rw [hc, O.2.1]
        exact And.intro (sa_v4 hs) (br_f hn (xs_gba hs O.1 hq (by omega) (br_f g (nm_r (nI_1 c) (nm_r (nI_1 o) (hX post hp))))))
      · unfold wY_gaps_18
        exact ys_top I hs (br_f hn (ys_beg hs O.1 hq (by omega) (br_f g (nm_r (nI_1 c) (nm_r (nI_1 o) (hY post hp))))))
theorem pl_gap {K B P H E T : Nat → Int32} {p h : Nat → Nat} {s : Nat} (v : Int32) (I : sa_Inv K P H E T p h) (hs : s < 4) : ∀ d o c : Nat, o + d = h s → p s ≤ o → ∃ r : Int32, (∀ post : Int32 → Prop, post r → wX_gap_19 post (nI s) v K B P H E (d + 1) (nI c) (nI o)) ∧ (∀ post : Int32 → Prop, post r → wY_gap_19 post (nI s) v K B P T (d + 1) (nI c) (nI o)) := by
  have O := I.1 s hs
  have hc := sa_c31 hs
  have h4 := O.2.2.2.1
  intro d
  induction d with
  | zero =>
    intro o c ho hq
    have hn : nI (h s) ≤ nI o := nI_le (by omega) (by omega)
    refine ⟨-4, fun post hp => ?_, fun post hp => ?_⟩
    · unfold wX_gap_19
      rw [hc, O.2.1]
      exact And.intro (sa_v4 hs) (br_t hn hp)
    · unfold wY_gap_19
      exact ys_top I hs (br_t hn hp)
  | succ d ih =>
    intro o c ho hq
    have hn : ¬ nI (h s) ≤ nI o := nI_ge (by omega) (by omega)
    by_cases g : sa_gb K s (p s) o = 0
    · obtain ⟨r, hX, hY⟩ := ih (o + 1) c (by omega) (by omega)
      refine ⟨r, fun post hp => ?_, fun post hp => ?_⟩
      · unfold wX_gap_19
        rw [hc, O.2.1]
        exact And.intro (sa_v4 hs) (br_f hn (xs_gba hs O.1 hq (by omega) (br_t g (nm_r (nI_1 o) (hX post hp)))))
      · unfold wY_gap_19
        exact ys_top I hs (br_f hn (ys_beg hs O.1 hq (by omega) (br_t g (nm_r (nI_1 o) (hY post hp)))))
    · by_cases w : nI c = v
      · refine ⟨nI o, fun post hp => ?_, fun post hp => ?_⟩
        · unfold wX_gap_19
          rw [hc, O.2.1]
          exact And.intro (sa_v4 hs) (br_f hn (xs_gba hs O.1 hq (by omega) (br_f g (br_t w hp))))
        · unfold wY_gap_19
          exact ys_top I hs (br_f hn (ys_beg hs O.1 hq (by omega) (br_f g (br_t w hp))))
      · obtain ⟨r, hX, hY⟩ := ih (o + 1) (c + 1) (by omega) (by omega)
        refine ⟨r, fun post hp => ?_, fun post hp => ?_⟩
        · unfold wX_gap_19
          rw [hc, O.2.1]
          exact And.intro (sa_v4 hs) (br_f hn (xs_gba hs O.1 hq (by omega) (br_f g (br_f w (nm_r (nI_1 c) (nm_r (nI_1 o) (hX post hp)))))))
        · unfold wY_gap_19
          exact ys_top I hs (br_f hn (ys_beg hs O.1 hq (by omega) (br_f g (br_f w (nm_r (nI_1 c) (nm_r (nI_1 o) (hY post hp)))))))
theorem pl_readable {K B P H E T : Nat → Int32} {p h : Nat → Nat} {s : Nat} (I : sa_Inv K P H E T p h) (hs : s < 4) : ∀ d c : Nat, p s + c + d = h s → ∃ r : Int32, (∀ post : Int32 → Prop, post r → wX_readable_18 post (nI s) K B P H E (d + 1) (nI c) (nI (p s + c))) ∧ (∀ post : Int32 → Prop, post r → wY_readable_11 post (nI s) K B P T (d + 1) (nI c)) := by
  have O := I.1 s hs
  have hc := sa_c31 hs
  have h3 := O.2.2.1
  have h4 := O.2.2.2.1
  have h5 := O.2.2.2.2.1
  intro d
  induction d with
  | zero =>
    intro c ho
    have hn : nI (h s) ≤ nI (p s + c) := nI_le (by omega) (by omega)
    have hm : ¬ (240 : Int32) ≤ nI c := nI_ge (b := 240) (by omega) (by decide)
    refine ⟨nI c, fun post hp => ?_, fun post hp => ?_⟩
    · unfold wX_readable_18
      rw [hc, O.2.1]
      exact And.intro (sa_v4 hs) (br_t hn hp)
    · unfold wY_readable_11
      rw [hc, O.1, nI_add]
      exact br_f hm (And.intro (sa_v4 hs) (ys_known hs (by omega) (br_t (sa_knT O (by omega)) hp)))
  | succ d ih =>
    intro c ho
    have hn : ¬ nI (h s) ≤ nI (p s + c) := nI_ge (by omega) (by omega)
    have hm : ¬ (240 : Int32) ≤ nI c := nI_ge (b := 240) (by omega) (by decide)
    by_cases g : sa_kn K s (p s + c) = 0
    · refine ⟨nI c, fun post hp => ?_, fun post hp => ?_⟩
      · unfold wX_readable_18
        rw [hc, O.2.1]
        exact And.intro (sa_v4 hs) (br_f hn (xs_known hs (by omega) (br_t g hp)))
      · unfold wY_readable_11
        rw [hc, O.1, nI_add]
        exact br_f hm (And.intro (sa_v4 hs) (ys_known hs (by omega) (br_t g hp)))
    · obtain ⟨r, hX, hY⟩ := ih (c + 1) (by omega)
      refine ⟨r, fun post hp => ?_, fun post hp => ?_⟩
      · unfold wX_readable_18
        rw [hc, O.2.1]
        exact And.intro (sa_v4 hs) (br_f hn (xs_known hs (by omega) (br_f g (nm_r (nI_1 c) (nm_r (nI_1 (p s + c)) (hX post hp))))))
      · unfold wY_readable_11
        rw [hc, O.1, nI_add]
        exact br_f hm (And.intro (sa_v4 hs) (ys_known hs (by omega) (br_f g (nm_r (nI_1 c) (hY post hp)))))
theorem ys_all {post : Int32 → Prop} {K B P H E T : Nat → Int32} {p h : Nat → Nat} {s : Nat} (I : sa_Inv K P H E T p h) (hs : s < 4) (hp : post (nI (sa_fb p h s))) : ∀ d i m : Nat, i + d = 241 → m = (if i ≤ sa_fb p h s then i - 1 else sa_fb p h s) → wY_allowed_29 post (nI s) K B P T (d + 1) (nI m) (nI i) := by
  have b4 := sa_limLe p s
  have b5 := sa_fbLe p h s
  intro d
  induction d with
  | zero =>
    intro i m hi hm
    rw [if_neg (by omega)] at hm
    subst hm
    exact br_t (nI_lt (a := 240) (by omega) (by omega)) hp
  | succ d ih =>
    intro i m hi hm
    unfold wY_allowed_29
    refine br_f (nI_nlt (b := i) (a := 240) (by omega) (by decide)) ?_
    refine ys_fits I hs (by omega) ?_
    by_cases c : i ≤ sa_fb p h s
    · rw [if_pos c]
      refine br_f (by decide) (nm_r (nI_1 i) (ih (i + 1) i (by omega) ?_))
      split <;> omega
    · rw [if_neg c]
      rw [if_neg c] at hm
      refine br_t rfl (nm_r (nI_1 i) (ih (i + 1) m (by omega) ?_))
      rw [if_neg (by omega)]
      exact hm
