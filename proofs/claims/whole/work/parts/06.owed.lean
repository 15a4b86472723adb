/-- known, bytes and read points are the same on both sides; the rest is sa_Inv -/
def i_Rel (_ : Nat) (u : SX) (v : SY) : Prop := ∃ (K B P H E T : Nat → Int32) (p h : Nat → Nat), u = (K, B, P, H, E) ∧ v = (K, B, P, T) ∧ sa_Inv K P H E T p h
theorem rl_mk {k : Nat} {K B P H E T : Nat → Int32} {p h : Nat → Nat} (I : sa_Inv K P H E T p h) : i_Rel k (K, B, P, H, E) (K, B, P, T) := ⟨K, B, P, H, E, T, p, h, rfl, rfl, I⟩
theorem i_up {k : Nat} {u : SX} {v : SY} (h : i_Rel k u v) : i_Rel (k + 5) u v := h
theorem yi_s {post : SY → Prop} {K B P T : Nat → Int32} {n i : Nat} (hi : i < 4) (w : wY_init_38 post n (nI (i + 1)) K B P (upd T i (-1))) : wY_init_38 post (n + 1) (nI i) K B P T := by
  have hc := sa_c31 hi
  refine br_f (nI_ge (b := 4) hi (by decide)) (And.intro (sa_v4 hi) ?_)
  rw [hc]
  exact nm_e (nm_r (nI_1 i) w)
theorem i_vc0 : wpX_init (fun u => wpY_init (fun v => i_Rel 0 u v)) := by
  unfold wpX_init wpY_init
  refine Exists.intro 5 ?_
  refine yi_s (i := 0) (by decide) ?_
  refine yi_s (i := 1) (by decide) ?_
  refine yi_s (i := 2) (by decide) ?_
  refine yi_s (i := 3) (by decide) ?_
  refine br_t (nI_le (a := 4) (b := 4) (by decide) (by decide)) ?_
  refine rl_mk (p := fun _ => 0) (h := fun _ => 0) (sa_new ?_)
  intro s hs
  rcases sa_c4 hs with rfl | rfl | rfl | rfl <;> rfl
/-! highest -/
theorem i_vc_highest {k : Nat} {u : SX} {v : SY} (I : i_Rel k u v) (hk : k + 5 ≤ 2560) (v1 : Int32) : wpX_highest (fun r => wpY_highest (fun r' => r' = r ∧ i_Rel (k + 5) u v) v v1) u v1 := by
  obtain ⟨K, B, P, H, E, T, p, h, rfl, rfl, I⟩ := I
  unfold wpX_highest wpY_highest
  dsimp only
  rcases sa_cs v1 with hb | ⟨s, hs, rfl⟩
  · exact xs_bad hb (br_t rfl (ys_bad hb (br_f (by decide) ⟨rfl, rl_mk I⟩)))
  · have O := I.1 s hs
    have hc := sa_c31 hs
    rw [hc, O.2.1]
    exact xs_ok hs (br_f (by decide) (And.intro (sa_v4 hs) (ys_ok hs (br_t rfl (ys_top I hs ⟨rfl, rl_mk I⟩)))))
theorem i_vc_gaps {k : Nat} {u : SX} {v : SY} (I : i_Rel k u v) (hk : k + 5 ≤ 2560) (v1 : Int32) : wpX_gaps (fun r => wpY_gaps (fun r' => r' = r ∧ i_Rel (k + 5) u v) v v1) u v1 := by
  obtain ⟨K, B, P, H, E, T, p, h, rfl, rfl, I⟩ := I
  unfold wpX_gaps wpY_gaps
  dsimp only
  rcases sa_cs v1 with hb | ⟨s, hs, rfl⟩
  · exact xs_bad hb (br_t rfl (ys_bad hb (br_f (by decide) ⟨rfl, rl_mk I⟩)))
  · have O := I.1 s hs
    have hc := sa_c31 hs
    have h3 := O.2.2.1
    obtain ⟨r, hX, hY⟩ := pl_gaps (B := B) I hs (h s - p s) (p s) 0 (by omega) (Nat.le_refl _)
    rw [hc, O.1]
    exact xs_ok hs (br_f (by decide) (And.intro (sa_v4 hs) (nm_e ⟨_, hX _ (ys_ok hs (br_t rfl (And.intro (sa_v4 hs) (nm_e ⟨_, hY _ ⟨rfl, rl_mk I⟩⟩))))⟩)))
theorem i_vc_gap {k : Nat} {u : SX} {v : SY} (I : i_Rel k u v) (hk : k + 5 ≤ 2560) (v1 : Int32) (v2 : Int32) : wpX_gap (fun r => wpY_gap (fun r' => r' = r ∧ i_Rel (k + 5) u v) v v1 v2) u v1 v2 := by
  obtain ⟨K, B, P, H, E, T, p, h, rfl, rfl, I⟩ := I
  unfold wpX_gap wpY_gap
  dsimp only
  rcases sa_cs v1 with hb | ⟨s, hs, rfl⟩
  · exact xs_bad hb (br_t rfl (ys_bad hb (br_f (by decide) ⟨rfl, rl_mk I⟩)))
  · have O := I.1 s hs
    have hc := sa_c31 hs
    have h3 := O.2.2.1
    obtain ⟨r, hX, hY⟩ := pl_gap (B := B) v2 I hs (h s - p s) (p s) 0 (by omega) (Nat.le_refl _)
    rw [hc, O.1]
    exact xs_ok hs (br_f (by decide) (And.intro (sa_v4 hs) (nm_e ⟨_, hX _ (ys_ok hs (br_t rfl (And.intro (sa_v4 hs) (nm_e ⟨_, hY _ ⟨rfl, rl_mk I⟩⟩))))⟩)))
theorem i_vc_readable {k : Nat} {u : SX} {v : SY} (I : i_Rel k u v) (hk : k + 5 ≤ 2560) (v1 : Int32) : wpX_readable (fun r => wpY_readable (fun r' => r' = r ∧ i_Rel (k + 5) u v) v v1) u v1 := by
  obtain ⟨K, B, P, H, E, T, p, h, rfl, rfl, I⟩ := I
  unfold wpX_readable wpY_readable
  dsimp only
  rcases sa_cs v1 with hb | ⟨s, hs, rfl⟩
  · exact xs_bad hb (br_t rfl (ys_bad hb (br_f (by decide) ⟨rfl, rl_mk I⟩)))
  · have O := I.1 s hs
    have hc := sa_c31 hs
    have h3 := O.2.2.1
    obtain ⟨r, hX, hY⟩ := pl_readable (B := B) I hs (h s - p s) 0 (by omega)
    rw [hc, O.1]
    exact xs_ok hs (br_f (by decide) (And.intro (sa_v4 hs) (nm_e ⟨_, hX _ (ys_ok hs (br_t rfl ⟨_, hY _ ⟨rfl, rl_mk I⟩⟩))⟩)))
theorem i_vc_allowed {k : Nat} {u : SX} {v : SY} (I : i_Rel k u v) (hk : k + 5 ≤ 2560) (v1 : Int32) : wpX_allowed (fun r => wpY_allowed (fun r' => r' = r ∧ i_Rel (k + 5) u v) v v1) u v1 := by
  obtain ⟨K, B, P, H, E, T, p, h, rfl, rfl, I⟩ := I
  unfold wpX_allowed wpY_allowed
  dsimp only
  rcases sa_cs v1 with hb | ⟨s, hs, rfl⟩
  · exact xs_bad hb (br_t rfl (ys_bad hb (br_f (by decide) ⟨rfl, rl_mk I⟩)))
  · have O := I.1 s hs
    have hc := sa_c31 hs
    have h4 := O.2.2.2.1
    rw [hc, O.2.1]
    refine xs_ok hs (br_f (by decide) (And.intro (sa_v4 hs) ?_))
    rcases O.2.2.2.2.2.2 with ⟨a, b, z⟩ | ⟨a, b⟩
    · refine br_t a (xs_flow I hs (ys_ok hs (br_t rfl (And.intro (sa_v4 hs) (br_t (by rw [b]; decide) ⟨242, ?_⟩)))))
      refine ys_all I hs ⟨rfl, rl_mk I⟩ 241 0 0 rfl ?_
      split <;> omega
    · refine br_f (by rw [a]; decide) (And.intro (sa_v4 hs) (ys_ok hs (br_t rfl (And.intro (sa_v4 hs) ?_))))
      rw [b]
      exact br_f (nI_pos (by omega)) (And.intro (sa_v4 hs) ⟨rfl, rl_mk I⟩)
theorem i_vc_complete {k : Nat} {u : SX} {v : SY} (I : i_Rel k u v) (hk : k + 5 ≤ 2560) (v1 : Int32) : wpX_complete (fun r => wpY_complete (fun r' => r' = r ∧ i_Rel (k + 5) u v) v v1) u v1 := by
  obtain ⟨K, B, P, H, E, T, p, h, rfl, rfl, I⟩ := I
  unfold wpX_complete wpY_complete
  dsimp only
  rcases sa_cs v1 with hb | ⟨s, hs, rfl⟩
  · exact xs_bad hb (br_t rfl (ys_bad hb (br_f (by decide) ⟨rfl, rl_mk I⟩)))
  · have O := I.1 s hs
    have hc := sa_c31 hs
    have hv := sa_v4 hs
    have h4 := O.2.2.2.1
    rw [hc, O.2.1]
    refine xs_ok hs (br_f (by decide) (And.intro hv ?_))
    rcases O.2.2.2.2.2.2 with ⟨a, b, z⟩ | ⟨a, b⟩
    · exact br_t a (ys_ok hs (br_t rfl (And.intro hv (br_t (by rw [b]; decide) ⟨rfl, rl_mk I⟩))))
    · have nn : ¬ T s < 0 := by rw [b]; exact nI_pos (by omega)
      refine br_f (by rw [a]; decide) (And.intro hv (And.intro hv ?_))
      by_cases c : P s = nI (h s)
      · exact br_t c (ys_ok hs (br_t rfl (And.intro hv (br_f nn (And.intro hv (And.intro hv (br_t (c.trans b.symm) ⟨rfl, rl_mk I⟩)))))))
      · exact br_f c (ys_ok hs (br_t rfl (And.intro hv (br_f nn (And.intro hv (And.intro hv (br_f (fun e => c (e.trans b)) ⟨rfl, rl_mk I⟩)))))))
/-! read -/
theorem xr_38 {post : Int32 → SX → Prop} {K B P H E : Nat → Int32} {s q : Nat} (hs : s < 4) (hq : q < 2 ^ 31) (z0 : sa_kn K s q = 0 → post (-4) (K, B, P, H, E)) (z1 : ¬ sa_kn K s q = 0 → post (B (240 * s + q)) (K, B, upd P s (nI (q + 1)), H, E)) : wX_read_38 post (nI s) (nI q) K B P H E := by
  have hc := sa_c31 hs
  unfold wX_read_38
  refine xs_known hs hq ?_
  by_cases c : sa_kn K s q = 0
  · exact br_t c (z0 c)
  · have l := (sa_knI c).1
    have hd : (nI (240 * s + q)).toNatClampNeg = 240 * s + q := nI_clamp (by omega)
    rw [sa_xi, hc, hd, nI_1]
    exact br_f c (And.intro (sa_v4 hs) (nm_e (And.intro (vp_in_nI (by omega) (by decide)) (z1 c))))
theorem yr_go {post : Int32 → SY → Prop} {K B P T : Nat → Int32} {s q : Nat} (hs : s < 4) (hP : P s = nI q) (hq : q < 2 ^ 31) (hT : ¬ T s = nI q) (z0 : sa_kn K s q = 0 → post (-4) (K, B, P, T)) (z1 : ¬ sa_kn K s q = 0 → post (B (240 * s + q)) (K, B, upd P s (nI (q + 1)), T)) : wpY_read post (K, B, P, T) (nI s) := by
  have hc := sa_c31 hs
  have hv := sa_v4 hs
  unfold wpY_read
  dsimp only
  refine ys_ok hs (br_t rfl (And.intro hv (And.intro hv ?_)))
  rw [hc, hP]
  refine br_f hT (And.intro hv (ys_known hs hq ?_))
  by_cases c : sa_kn K s q = 0
  · exact br_t c (z0 c)
  · have l := (sa_knI c).1
    have hd : (nI (240 * s + q)).toNatClampNeg = 240 * s + q := nI_clamp (by omega)
    have ei : 240 * nI s + nI (q + 1) - 1 = nI (240 * s + q) := by rw [sa_ix]; exact nI_pred _
    refine br_f c (And.intro hv (And.intro hv (nm_r (e' := upd P s (nI (q + 1))) (by rw [nI_1]) ?_)))
    rw [pk_us, ei, hd]
    exact And.intro hv (And.intro (vp_in_nI (by omega) (by decide)) (z1 c))
theorem i_vc_read {k : Nat} {u : SX} {v : SY} (I : i_Rel k u v) (hk : k + 5 ≤ 2560) (v1 : Int32) : wpX_read (fun r u' => wpY_read (fun r' v' => r' = r ∧ i_Rel (k + 5) u' v') v v1) u v1 := by
  obtain ⟨K, B, P, H, E, T, p, h, rfl, rfl, I⟩ := I
  unfold wpX_read
  dsimp only
  rcases sa_cs v1 with hb | ⟨s, hs, rfl⟩
  · refine xs_bad hb (br_t rfl ?_)
    unfold wpY_read
    exact ys_bad hb (br_f (by decide) ⟨rfl, rl_mk I⟩)
  · have O := I.1 s hs
    have hc := sa_c31 hs
    have hv := sa_v4 hs
    have h3 := O.2.2.1
    have h4 := O.2.2.2.1
    rw [hc, O.2.1, O.1]
    refine xs_ok hs (br_f (by decide) (And.intro hv (nm_e (And.intro hv ?_))))
    have go : ¬ T s = nI (p s) → wX_read_38 (fun r u' => wpY_read (fun r' v' => r' = r ∧ i_Rel (k + 5) u' v') (K, B, P, T) (nI s)) (nI s) (nI (p s)) K B P H E := fun hT =>
      xr_38 hs (by omega) (fun c => yr_go hs O.1 (by omega) hT (fun _ => ⟨rfl, rl_mk I⟩) (fun d => absurd c d)) (fun c => yr_go hs O.1 (by omega) hT (fun d => absurd d c) (fun _ => ⟨rfl, rl_mk (sa_read I hs c)⟩))
    rcases O.2.2.2.2.2.2 with ⟨a, b, z⟩ | ⟨a, b⟩
    · refine br_t a (go ?_)
      rw [b]
      intro e
      have e2 : nI (p s) < 0 := by rw [← e]; decide
      exact nI_pos (by omega) e2
    · refine br_f (by rw [a]; decide) (And.intro hv ?_)
      by_cases c : nI (p s) = nI (h s)
      · refine br_t c ?_
        unfold wpY_read
        refine ys_ok hs (br_t rfl (And.intro hv (And.intro hv ?_)))
        rw [hc]
        exact br_t (by rw [b, O.1]; exact c.symm) ⟨rfl, rl_mk I⟩
      · exact br_f c (go (fun e => c (e.symm.trans b)))
/-! finish -/
theorem xf_45 {post : Int32 → SX → Prop} {K B P H E T : Nat → Int32} {p h : Nat → Nat} {s e : Nat} (I : sa_Inv K P H E T p h) (hs : s < 4) (he : e < 2 ^ 31) (z0 : ¬ e ≤ sa_fb p h s → post (-2) (K, B, P, H, E)) (z1 : e ≤ sa_fb p h s → post 0 (K, B, P, upd H s (nI e), upd E s 1)) : wX_finish_45 post (nI s) (nI e) K B P H E := by
  have hc := sa_c31 hs
  have hv := sa_v4 hs
  have b4 := sa_limLe p s
  have b5 := sa_fbLe p h s
  unfold wX_finish_45
  refine xs_flow I hs ?_
  rw [hc, sa_nb]
  exact pk_le e (sa_fb p h s) (fun c => And.intro hv (nm_e (And.intro hv (nm_e (z1 c))))) (fun c => z0 (by omega))
theorem yf_32 {post : Int32 → SY → Prop} {K B P H E T : Nat → Int32} {p h : Nat → Nat} {s e : Nat} (I : sa_Inv K P H E T p h) (hs : s < 4) (he : e < 2 ^ 31) (hh : h s ≤ e) (z0 : ¬ e ≤ sa_fb p h s → post (-2) (K, B, P, T)) (z1 : e ≤ sa_fb p h s → post 0 (K, B, P, upd T s (nI e))) : wY_finish_32 post (nI s) (nI e) K B P T := by
  have hc := sa_c31 hs
  have hv := sa_v4 hs
  unfold wY_finish_32
  refine ys_top I hs (br_t (nI_le hh he) (ys_fits I hs he ?_))
  rw [hc]
  by_cases c : e ≤ sa_fb p h s
  · rw [if_pos c]
    exact br_f (by decide) (And.intro hv (nm_e (z1 c)))
  · rw [if_neg c]
    exact br_t rfl (z0 c)
theorem i_vc_finish {k : Nat} {u : SX} {v : SY} (I : i_Rel k u v) (hk : k + 5 ≤ 2560) (v1 : Int32) (v2 : Int32) : wpX_finish (fun r u' => wpY_finish (fun r' v' => r' = r ∧ i_Rel (k + 5) u' v') v v1 v2) u v1 v2 := by
  obtain ⟨K, B, P, H, E, T, p, h, rfl, rfl, I⟩ := I
  unfold wpX_finish wpY_finish
  dsimp only
  rcases sa_cs v1 with hb | ⟨s, hs, rfl⟩
  · exact xs_bad hb (br_t rfl (ys_bad hb (br_f (by decide) ⟨rfl, rl_mk I⟩)))
  · have O := I.1 s hs
    have hc := sa_c31 hs
    have hv := sa_v4 hs
    have h4 := O.2.2.2.1
    rw [hc, O.2.1]
    refine xs_ok hs (br_f (by decide) ?_)
    by_cases hn : v2 < 0
    · have hm : ¬ 0 ≤ v2 := Int32.not_le.mpr hn
      exact br_f hm (ys_ok hs (br_t rfl (br_f hm ⟨rfl, rl_mk I⟩)))
    · have hm : 0 ≤ v2 := Int32.not_lt.mp hn
      obtain ⟨e, he, rfl⟩ := nI_of hn
      refine br_t hm (And.intro hv ?_)
      refine pk_lt e (h s) (fun c => ?_) (fun c => ?_)
      · refine ys_ok hs (br_t rfl (br_t hm (And.intro hv ?_)))
        rcases O.2.2.2.2.2.2 with ⟨a, b, z⟩ | ⟨a, b⟩
        · refine br_t (by rw [b]; decide) ?_
          unfold wY_finish_32
          exact ys_top I hs (br_f (nI_ge c (by omega)) ⟨rfl, rl_mk I⟩)
        · rw [b]
          refine br_f (nI_pos (by omega)) (And.intro hv (br_f ?_ ⟨rfl, rl_mk I⟩))
          intro q
          rw [nI_eq (by omega) he] at q
          omega
      · refine And.intro hv ?_
        rcases O.2.2.2.2.2.2 with ⟨a, b, z⟩ | ⟨a, b⟩
        · have tn : T s < 0 := by rw [b]; decide
          refine br_t a (xf_45 I hs he (fun d => ?_) (fun d => ?_))
          · exact ys_ok hs (br_t rfl (br_t hm (And.intro hv (br_t tn (yf_32 I hs he c (fun _ => ⟨rfl, rl_mk I⟩) (fun q => absurd q d))))))
          · exact ys_ok hs (br_t rfl (br_t hm (And.intro hv (br_t tn (yf_32 I hs he c (fun q => absurd d q) (fun _ => ⟨rfl, rl_mk (sa_fin I hs c d)⟩))))))
        · have tn : ¬ T s < 0 := by rw [b]; exact nI_pos (by omega)
          refine br_f (by rw [a]; decide) (And.intro hv ?_)
          by_cases w : nI e = nI (h s)
          · have tw : T s = nI e := b.trans w.symm
            refine br_t w (xf_45 I hs he (fun d => ?_) (fun d => ?_))
            · exact ys_ok hs (br_t rfl (br_t hm (And.intro hv (br_f tn (And.intro hv (br_t tw (yf_32 I hs he c (fun _ => ⟨rfl, rl_mk I⟩) (fun q => absurd q d))))))))
            · exact ys_ok hs (br_t rfl (br_t hm (And.intro hv (br_f tn (And.intro hv (br_t tw (yf_32 I hs he c (fun q => absurd d q) (fun _ => ⟨rfl, rl_mk (sa_fin I hs c d)⟩))))))))
          · exact br_f w (ys_ok hs (br_t rfl (br_t hm (And.intro hv (br_f tn (And.intro hv (br_f (fun q => w (q.symm.trans b)) ⟨rfl, rl_mk I⟩)))))))
