/-! piece -/
/-- what a wrong offset or length is, in the order of both sides' tests -/
def pc_bad (o l : Int32) : Prop := l < 1 ∨ (¬ l < 1 ∧ 4 < l) ∨ (¬ l < 1 ∧ ¬ 4 < l ∧ o < 0) ∨ (¬ l < 1 ∧ ¬ 4 < l ∧ ¬ o < 0 ∧ 1000 < o)
theorem pc_cs (o l : Int32) : pc_bad o l ∨ ∃ a b : Nat, a ≤ 1000 ∧ 1 ≤ b ∧ b ≤ 4 ∧ o = nI a ∧ l = nI b := by
  by_cases h1 : l < 1
  · exact Or.inl (Or.inl h1)
  by_cases h2 : 4 < l
  · exact Or.inl (Or.inr (Or.inl ⟨h1, h2⟩))
  by_cases h3 : o < 0
  · exact Or.inl (Or.inr (Or.inr (Or.inl ⟨h1, h2, h3⟩)))
  by_cases h4 : 1000 < o
  · exact Or.inl (Or.inr (Or.inr (Or.inr ⟨h1, h2, h3, h4⟩)))
  have h0 : ¬ l < 0 := fun z => h1 (Int32.lt_trans z (by decide))
  obtain ⟨a, ha, rfl⟩ := nI_of h3
  obtain ⟨b, hb, rfl⟩ := nI_of h0
  refine Or.inr ⟨a, b, ?_, ?_, ?_, rfl, rfl⟩
  · have q : ¬ nI 1000 < nI a := h4
    rw [nI_ltI (by decide) ha] at q
    omega
  · have q : ¬ nI b < nI 1 := h1
    rw [nI_ltI hb (by decide)] at q
    omega
  · have q : ¬ nI 4 < nI b := h2
    rw [nI_ltI (by decide) hb] at q
    omega
theorem pc_X0 {post : Int32 → Prop} {o l : Int32} (hb : pc_bad o l) (hp : post 0) : wpX_isPiece post o l := by
  rcases hb with a | ⟨a, b⟩ | ⟨a, b, c⟩ | ⟨a, b, c, d⟩
  · exact br_t a hp
  · exact br_f a (br_t b hp)
  · exact br_f a (br_f b (br_t c hp))
  · exact br_f a (br_f b (br_f c (br_t d hp)))
theorem pc_X1 {post : Int32 → Prop} {a b : Nat} (ha : a ≤ 1000) (hb : 1 ≤ b) (hc : b ≤ 4) (hp : post 1) : wpX_isPiece post (nI a) (nI b) :=
  br_f (nI_nlt (b := 1) hb (by omega)) (br_f (nI_nlt (a := 4) hc (by decide)) (br_f (nI_pos (by omega)) (br_f (nI_nlt (a := 1000) ha (by decide)) hp)))
theorem pc_Y0 {post : Int32 → SY → Prop} {K B P T : Nat → Int32} {s : Nat} {o l x : Int32} (hs : s < 4) (hb : pc_bad o l) (hp : post (-1) (K, B, P, T)) : wpY_piece post (K, B, P, T) (nI s) o l x := by
  unfold wpY_piece
  dsimp only
  refine ys_ok hs (br_t rfl ?_)
  rcases hb with a | ⟨a, b⟩ | ⟨a, b, c⟩ | ⟨a, b, c, d⟩
  · exact br_t a hp
  · exact br_f a (br_t b hp)
  · exact br_f a (br_f b (br_t c hp))
  · exact br_f a (br_f b (br_f c (br_f (Int32.not_le.mpr d) hp)))
theorem pc_Y1 {post : Int32 → SY → Prop} {K B P T : Nat → Int32} {s a b : Nat} {x : Int32} (hs : s < 4) (ha : a ≤ 1000) (hb : 1 ≤ b) (hc : b ≤ 4) (w : (T s < 0 → wY_piece_54 post (nI s) (nI a) (nI b) x K B P T) ∧ (¬ T s < 0 → (nI (a + b) ≤ T s → wY_piece_54 post (nI s) (nI a) (nI b) x K B P T) ∧ (¬ nI (a + b) ≤ T s → post (-3) (K, B, P, T)))) : wpY_piece post (K, B, P, T) (nI s) (nI a) (nI b) x := by
  have hv := sa_v4 hs
  unfold wpY_piece
  dsimp only
  rw [sa_c31 hs, nI_add]
  exact ys_ok hs (br_t rfl (br_f (nI_nlt (b := 1) hb (by omega)) (br_f (nI_nlt (a := 4) hc (by decide)) (br_f (nI_pos (by omega)) (br_t (nI_le (b := 1000) ha (by decide)) (And.intro hv (br_c w.1 (fun c => And.intro hv (w.2 c)))))))))
theorem pc_X45 {post : Int32 → SX → Prop} {K B P H E T : Nat → Int32} {p h : Nat → Nat} {s a b : Nat} {x : Int32} (I : sa_Inv K P H E T p h) (hs : s < 4) (ha : a ≤ 1000) (hc : b ≤ 4) (z0 : ¬ a + b ≤ sa_fb p h s → post (-2) (K, B, P, H, E)) (z1 : a + b ≤ sa_fb p h s → a + b ≤ h s → ∃ n, wX_learn_6 post (nI s) (nI a) (nI b) x n 0 0 K B P H E) (z2 : a + b ≤ sa_fb p h s → ¬ a + b ≤ h s → ∃ n, wX_learn_6 post (nI s) (nI a) (nI b) x n 0 0 K B P (upd H s (nI (a + b))) E) : wX_piece_45 post (nI s) (nI a) (nI b) x (nI (a + b)) K B P H E := by
  have O := I.1 s hs
  have hv := sa_v4 hs
  have h4 := O.2.2.2.1
  have b4 := sa_limLe p s
  have b5 := sa_fbLe p h s
  unfold wX_piece_45
  refine xs_flow I hs ?_
  rw [sa_c31 hs, O.2.1]
  refine pk_le (a + b) (sa_fb p h s) (fun c => And.intro hv ?_) (fun c => z0 (by omega))
  refine pk_le (a + b) (h s) (fun d => ?_) (fun d => And.intro hv (nm_e ?_))
  · exact z1 c d
  · exact z2 c (by omega)
theorem pc_Y54 {post : Int32 → SY → Prop} {K B P H E T : Nat → Int32} {p h : Nat → Nat} {s a b : Nat} {x : Int32} (I : sa_Inv K P H E T p h) (hs : s < 4) (ha : a ≤ 1000) (hc : b ≤ 4) (z0 : ¬ a + b ≤ sa_fb p h s → post (-2) (K, B, P, T)) (z1 : a + b ≤ sa_fb p h s → ∃ n, wY_piece_74 post (nI s) (nI a) (nI b) x n 0 0 K B P T) : wY_piece_54 post (nI s) (nI a) (nI b) x K B P T := by
  unfold wY_piece_54
  rw [nI_add]
  refine ys_fits I hs (by omega) ?_
  by_cases c : a + b ≤ sa_fb p h s
  · rw [if_pos c]
    exact br_f (by decide) (z1 c)
  · rw [if_neg c]
    exact br_t rfl (z0 c)
/-- both sides from the flow test on: w says how the reference comes there -/
theorem pc_go {k : Nat} {K B P H E T : Nat → Int32} {p h : Nat → Nat} {s a b : Nat} {x : Int32} (I : sa_Inv K P H E T p h) (hs : s < 4) (ha : a ≤ 1000) (hb : 1 ≤ b) (hc : b ≤ 4) (he : E s = 0 ∨ a + b ≤ h s) (w : ∀ post : Int32 → SY → Prop, wY_piece_54 post (nI s) (nI a) (nI b) x K B P T → wpY_piece post (K, B, P, T) (nI s) (nI a) (nI b) x) : wX_piece_45 (fun r u' => wpY_piece (fun r' v' => r' = r ∧ i_Rel (k + 5) u' v') (K, B, P, T) (nI s) (nI a) (nI b) x) (nI s) (nI a) (nI b) x (nI (a + b)) K B P H E := by
  have b4 := sa_limLe p s
  have b5 := sa_fbLe p h s
  refine pc_X45 I hs ha hc (fun d => ?_) (fun d e => ?_) (fun d e => ?_)
  · exact w _ (pc_Y54 I hs ha hc (fun _ => ⟨rfl, rl_mk I⟩) (fun q => absurd q d))
  · obtain ⟨K', B', c', hX, hY, k1, k2⟩ := pl_learn P H E T x hs (by omega : a + b ≤ 240) b 0 0 K B (by omega)
    exact ⟨_, hX _ (w _ (pc_Y54 I hs ha hc (fun q => absurd d q) (fun _ => ⟨_, hY _ ⟨rfl, rl_mk (sa_pieceA I hs e k1 k2)⟩⟩)))⟩
  · obtain ⟨K', B', c', hX, hY, k1, k2⟩ := pl_learn P (upd H s (nI (a + b))) E T x hs (by omega : a + b ≤ 240) b 0 0 K B (by omega)
    have hE : E s = 0 := he.resolve_right e
    exact ⟨_, hX _ (w _ (pc_Y54 I hs ha hc (fun q => absurd d q) (fun _ => ⟨_, hY _ ⟨rfl, rl_mk (sa_pieceB I hs hb hE (by omega) d k1 k2)⟩⟩)))⟩
theorem i_vc_piece {k : Nat} {u : SX} {v : SY} (I : i_Rel k u v) (hk : k + 5 ≤ 2560) (v1 : Int32) (v2 : Int32) (v3 : Int32) (v4 : Int32) : wpX_piece (fun r u' => wpY_piece (fun r' v' => r' = r ∧ i_Rel (k + 5) u' v') v v1 v2 v3 v4) u v1 v2 v3 v4 := by
  obtain ⟨K, B, P, H, E, T, p, h, rfl, rfl, I⟩ := I
  unfold wpX_piece
  dsimp only
  rcases sa_cs v1 with hb | ⟨s, hs, rfl⟩
  · refine xs_bad hb (br_t rfl ?_)
    unfold wpY_piece
    exact ys_bad hb (br_f (by decide) ⟨rfl, rl_mk I⟩)
  · refine xs_ok hs (br_f (by decide) ?_)
    rcases pc_cs v2 v3 with hb | ⟨a, b, ha, hb, hc, rfl, rfl⟩
    · exact pc_X0 hb (br_t rfl (pc_Y0 hs hb ⟨rfl, rl_mk I⟩))
    · have O := I.1 s hs
      have hv := sa_v4 hs
      have h4 := O.2.2.2.1
      refine pc_X1 ha hb hc (br_f (by decide) (nm_r (nI_add a b) (And.intro hv ?_)))
      rw [sa_c31 hs, O.2.1]
      rcases O.2.2.2.2.2.2 with ⟨e, t, z⟩ | ⟨e, t⟩
      · have tn : T s < 0 := by rw [t]; decide
        exact br_t e (pc_go I hs ha hb hc (Or.inl e) (fun post q => pc_Y1 hs ha hb hc (br_t tn q)))
      · have tn : ¬ T s < 0 := by rw [t]; exact nI_pos (by omega)
        refine br_f (by rw [e]; decide) (And.intro hv ?_)
        refine pk_le (a + b) (h s) (fun c => ?_) (fun c => ?_)
        · have tc : nI (a + b) ≤ T s := by rw [t]; exact nI_le c (by omega)
          exact pc_go I hs ha hb hc (Or.inr c) (fun post q => pc_Y1 hs ha hb hc (br_f tn (br_t tc q)))
        · have tc : ¬ nI (a + b) ≤ T s := by rw [t]; exact nI_ge c (by omega)
          exact pc_Y1 hs ha hb hc (br_f tn (br_f tc ⟨rfl, rl_mk I⟩))
