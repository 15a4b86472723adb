section
/-! numbers and stores: rows pk_ pasted from kit/rows -/
theorem pk_us {f : Nat → Int32} {k : Nat} {x : Int32} : upd f k x k = x := if_pos rfl
theorem pk_un {f : Nat → Int32} {k j : Nat} {x : Int32} (h : j ≠ k) : upd f k x j = f j := if_neg h
theorem pk_sub {a b : Nat} (h : b ≤ a) : nI a - nI b = nI (a - b) := by
  obtain ⟨c, rfl⟩ : ∃ c, a = c + b := ⟨a - b, by omega⟩
  rw [← nI_add, Int32.add_sub_cancel, Nat.add_sub_cancel]
theorem pk_m1 (n : Nat) : nI (n + 1) + (-1) = nI n := by
  rw [← nI_1, Int32.add_assoc, show (1 : Int32) + (-1) = 0 from rfl, Int32.add_zero]
theorem pk_mul (a b : Nat) : nI a * nI b = nI (a * b) := (Int32.ofNat_mul a b).symm
theorem pk_le {x y : Int32} {A B : Prop} (a b : Nat) (f : a ≤ b → A) (g : b < a → B) (hx : x = nI a := by rfl) (hy : y = nI b := by rfl) (ha : a < 2 ^ 31 := by omega) (hb : b < 2 ^ 31 := by omega) : (x ≤ y → A) ∧ (¬ x ≤ y → B) := by
  subst hx hy
  rw [nI_leI ha hb]
  exact ⟨f, fun z => g (by omega)⟩
theorem pk_lt {x y : Int32} {A B : Prop} (a b : Nat) (f : a < b → A) (g : b ≤ a → B) (hx : x = nI a := by rfl) (hy : y = nI b := by rfl) (ha : a < 2 ^ 31 := by omega) (hb : b < 2 ^ 31 := by omega) : (x < y → A) ∧ (¬ x < y → B) := by
  subst hx hy
  rw [nI_ltI ha hb]
  exact ⟨f, fun z => g (by omega)⟩
theorem pk_eq {x y : Int32} {A B : Prop} (a b : Nat) (f : a = b → A) (g : a ≠ b → B) (hx : x = nI a := by rfl) (hy : y = nI b := by rfl) (ha : a < 2 ^ 31 := by omega) (hb : b < 2 ^ 31 := by omega) : (x = y → A) ∧ (¬ x = y → B) := by
  subst hx hy
  rw [nI_eq ha hb]
  exact ⟨f, g⟩
theorem pk_in {x : Int32} (n N : Nat) (h : n < N) (hx : x = nI n := by rfl) (hN : N < 2 ^ 31 := by omega) : vp_in x N := by
  subst hx
  exact vp_in_nI h hN
theorem pk_cl {x : Int32} (n : Nat) (hx : x = nI n := by rfl) (h : n < 2 ^ 31 := by omega) : x.toNatClampNeg = n := by
  subst hx
  exact nI_clamp h
/-! the cell of byte i of stream s, and small sums -/
theorem sa_ix (s i : Nat) : (240 : Int32) * nI s + nI i = nI (240 * s + i) := by
  show nI 240 * nI s + nI i = _
  rw [pk_mul, nI_add]
theorem sa_xi (s i : Nat) : nI s * (240 : Int32) + nI i = nI (240 * s + i) := by
  show nI s * nI 240 + nI i = _
  rw [pk_mul, nI_add, Nat.mul_comm]
theorem sa_pr {i : Nat} (h : 0 < i) : nI i - 1 = nI (i - 1) := pk_sub (b := 1) h
theorem sa_dif {a p h : Nat} (hh : h ≤ a + p) : nI a + (nI p - nI h) = nI (a + p - h) := by
  rw [← pk_sub hh, ← nI_add, Int32.sub_eq_add_neg, Int32.sub_eq_add_neg, Int32.add_assoc]
theorem sa_cl {i : Nat} (h : i < 2 ^ 31) : (nI i).toNatClampNeg = i := nI_clamp h
def sa_sum (f : Nat → Nat) : Nat := f 0 + f 1 + f 2 + f 3
def sa_up (f : Nat → Nat) (s v : Nat) : Nat → Nat := fun j => if j = s then v else f j
theorem sa_ups {f : Nat → Nat} {s v : Nat} : sa_up f s v s = v := if_pos rfl
theorem sa_upn {f : Nat → Nat} {s v j : Nat} (h : j ≠ s) : sa_up f s v j = f j := if_neg h
theorem sa_c4 {s : Nat} (h : s < 4) : s = 0 ∨ s = 1 ∨ s = 2 ∨ s = 3 := by omega
theorem sa_sumU {f : Nat → Nat} {s : Nat} (v : Nat) (h : s < 4) : sa_sum (sa_up f s v) + f s = sa_sum f + v := by
  rcases sa_c4 h with rfl | rfl | rfl | rfl <;> simp [sa_sum, sa_up] <;> omega
theorem sa_sumG {f : Nat → Nat} {s : Nat} (h : s < 4) : f s ≤ sa_sum f := by
  rcases sa_c4 h with rfl | rfl | rfl | rfl <;> simp [sa_sum] <;> omega
/-! the relation: known, bytes and read points are the same; p, h are the read points and the highests as naturals -/
def sa_One (K P H E T : Nat → Int32) (p h : Nat → Nat) (s : Nat) : Prop :=
  P s = nI (p s) ∧ H s = nI (h s) ∧ p s ≤ h s ∧ h s ≤ 240 ∧ h s ≤ p s + 24 ∧ (∀ i, h s ≤ i → i < 240 → K (240 * s + i) = 0) ∧
  ((E s = 0 ∧ T s = -1 ∧ (h s = 0 ∨ ¬ K (240 * s + (h s - 1)) = 0)) ∨ (E s = 1 ∧ T s = nI (h s)))
def sa_Inv (K P H E T : Nat → Int32) (p h : Nat → Nat) : Prop :=
  (∀ s, s < 4 → sa_One K P H E T p h s) ∧ sa_sum h ≤ sa_sum p + 56
theorem sa_fr {K P H E T K' P' H' E' T' : Nat → Int32} {p h p' h' : Nat → Nat} {s : Nat} (hP : P' s = P s) (hH : H' s = H s) (hE : E' s = E s) (hT : T' s = T s) (hp : p' s = p s) (hh : h' s = h s) (hK : ∀ i, i < 240 → K' (240 * s + i) = K (240 * s + i)) (o : sa_One K P H E T p h s) : sa_One K' P' H' E' T' p' h' s := by
  unfold sa_One at o ⊢
  rw [hP, hH, hE, hT, hp, hh]
  obtain ⟨o1, o2, o3, o4, o5, o6, o7⟩ := o
  refine ⟨o1, o2, o3, o4, o5, fun i a b => by rw [hK i b]; exact o6 i a b, ?_⟩
  rw [hK (h s - 1) (by omega)]
  exact o7
/-! the limits -/
def sa_left (p h : Nat → Nat) : Nat := 56 + sa_sum p - sa_sum h
def sa_lim (p : Nat → Nat) (s : Nat) : Nat := if p s + 24 < 240 then p s + 24 else 240
def sa_fb (p h : Nat → Nat) (s : Nat) : Nat := if sa_lim p s < h s + sa_left p h then sa_lim p s else h s + sa_left p h
def sa_tp (h : Nat → Nat) (s e : Nat) : Nat → Nat := fun j => if j = s ∧ h j < e then e else h j
theorem sa_limLe (p : Nat → Nat) (s : Nat) : sa_lim p s ≤ 240 ∧ sa_lim p s ≤ p s + 24 := by
  unfold sa_lim; split <;> omega
theorem sa_fbLe (p h : Nat → Nat) (s : Nat) : sa_fb p h s ≤ sa_lim p s ∧ sa_fb p h s ≤ h s + sa_left p h := by
  unfold sa_fb; split <;> omega
theorem sa_hFb {K P H E T : Nat → Int32} {p h : Nat → Nat} {s : Nat} (o : sa_One K P H E T p h s) : h s ≤ sa_fb p h s := by
  obtain ⟨o1, o2, o3, o4, o5, o6, o7⟩ := o
  unfold sa_fb sa_lim; split <;> (try split) <;> omega
theorem sa_fit {K P H E T : Nat → Int32} {p h : Nat → Nat} {s e : Nat} (I : sa_Inv K P H E T p h) (hs : s < 4) (he : e ≤ sa_lim p s) : sa_sum (sa_tp h s e) ≤ sa_sum p + 56 ↔ e ≤ sa_fb p h s := by
  have hb := sa_hFb (I.1 s hs)
  have hI := I.2
  have hg := sa_sumG (f := h) hs
  by_cases c : h s < e
  · have e1 : sa_tp h s e = sa_up h s e := by
      funext j
      unfold sa_tp sa_up
      by_cases q : j = s
      · subst q; simp [c]
      · simp [q]
    have e2 := sa_sumU (f := h) e hs
    rw [e1]
    unfold sa_fb sa_left
    split <;> omega
  · have e1 : sa_tp h s e = h := by
      funext j
      unfold sa_tp
      by_cases q : j = s
      · subst q; simp [c]
      · simp [q]
    rw [e1]
    omega
/-! what a lookup answers -/
def sa_kn (K : Nat → Int32) (s o : Nat) : Int32 := if o < 240 ∧ ¬ K (240 * s + o) = 0 then 1 else 0
def sa_gb (K : Nat → Int32) (s p o : Nat) : Int32 := if sa_kn K s o = 0 then (if o = p then 1 else sa_kn K s (o - 1)) else 0
theorem sa_kn1 {K : Nat → Int32} {s o : Nat} (h : o < 240) (k : ¬ K (240 * s + o) = 0) : sa_kn K s o = 1 := if_pos ⟨h, k⟩
theorem sa_kn0 {K : Nat → Int32} {s o : Nat} (k : K (240 * s + o) = 0) : sa_kn K s o = 0 := if_neg (fun z => z.2 k)
theorem sa_knG {K : Nat → Int32} {s o : Nat} (h : 240 ≤ o) : sa_kn K s o = 0 := if_neg (fun z => by omega)
theorem sa_knI {K : Nat → Int32} {s o : Nat} (h : ¬ sa_kn K s o = 0) : o < 240 ∧ ¬ K (240 * s + o) = 0 := by
  by_cases c : o < 240 ∧ ¬ K (240 * s + o) = 0
  · exact c
  · exact absurd (if_neg c) h
theorem sa_knT {K P H E T : Nat → Int32} {p h : Nat → Nat} {s o : Nat} (O : sa_One K P H E T p h s) (c : h s ≤ o) : sa_kn K s o = 0 := by
  obtain ⟨o1, o2, o3, o4, o5, o6, o7⟩ := O
  by_cases q : o < 240
  · exact sa_kn0 (o6 o c q)
  · exact sa_knG (by omega)
end
section
/-! what each storing method does to the relation -/
theorem sa_read {K P H E T : Nat → Int32} {p h : Nat → Nat} {s : Nat} (I : sa_Inv K P H E T p h) (hs : s < 4) (c : ¬ sa_kn K s (p s) = 0) : sa_Inv K (upd P s (nI (p s + 1))) H E T (sa_up p s (p s + 1)) h := by
  have O := I.1 s hs
  have lt : p s < h s := by
    by_cases q : h s ≤ p s
    · exact absurd (sa_knT O q) c
    · omega
  have e2 := sa_sumU (f := p) (p s + 1) hs
  have hI := I.2
  refine ⟨fun t ht => ?_, by omega⟩
  by_cases q : t = s
  · subst q
    obtain ⟨o1, o2, o3, o4, o5, o6, o7⟩ := O
    unfold sa_One
    rw [pk_us, sa_ups]
    exact ⟨rfl, o2, by omega, o4, by omega, o6, o7⟩
  · exact sa_fr (pk_un q) rfl rfl rfl (sa_upn q) rfl (fun _ _ => rfl) (I.1 t ht)
theorem sa_fin {K P H E T : Nat → Int32} {p h : Nat → Nat} {s e : Nat} (I : sa_Inv K P H E T p h) (hs : s < 4) (c : h s ≤ e) (d : e ≤ sa_fb p h s) : sa_Inv K P (upd H s (nI e)) (upd E s 1) (upd T s (nI e)) p (sa_up h s e) := by
  have O := I.1 s hs
  have e2 := sa_sumU (f := h) e hs
  have hI := I.2
  have l1 := sa_limLe p s
  have l2 := sa_fbLe p h s
  have hd : sa_left p h = 56 + sa_sum p - sa_sum h := rfl
  refine ⟨fun t ht => ?_, by omega⟩
  by_cases q : t = s
  · subst q
    obtain ⟨o1, o2, o3, o4, o5, o6, o7⟩ := O
    unfold sa_One
    rw [pk_us, pk_us, pk_us, sa_ups]
    exact ⟨o1, rfl, by omega, by omega, by omega, fun i a b => o6 i (by omega) b, Or.inr ⟨rfl, rfl⟩⟩
  · exact sa_fr rfl (pk_un q) (pk_un q) (pk_un q) rfl (sa_upn q) (fun _ _ => rfl) (I.1 t ht)
theorem sa_pieceA {K K' P H E T : Nat → Int32} {p h : Nat → Nat} {s o l : Nat} (I : sa_Inv K P H E T p h) (hs : s < 4) (c : o + l ≤ h s) (k1 : ∀ j, j < 240 * s + o ∨ 240 * s + o + l ≤ j → K' j = K j) (k2 : ∀ j, 240 * s + o ≤ j → j < 240 * s + o + l → ¬ K' j = 0) : sa_Inv K' P H E T p h := by
  have O := I.1 s hs
  refine ⟨fun t ht => ?_, I.2⟩
  by_cases q : t = s
  · subst q
    obtain ⟨o1, o2, o3, o4, o5, o6, o7⟩ := O
    refine ⟨o1, o2, o3, o4, o5, fun i a b => by rw [k1 _ (Or.inr (by omega))]; exact o6 i a b, ?_⟩
    rcases o7 with ⟨a, b, z⟩ | z
    · refine Or.inl ⟨a, b, ?_⟩
      rcases z with z | z
      · exact Or.inl z
      · refine Or.inr ?_
        by_cases w : 240 * t + o ≤ 240 * t + (h t - 1) ∧ 240 * t + (h t - 1) < 240 * t + o + l
        · exact k2 _ w.1 w.2
        · rw [k1 _ (by omega)]; exact z
    · exact Or.inr z
  · have O4 := O.2.2.2.1
    exact sa_fr rfl rfl rfl rfl rfl rfl (fun i hi => k1 _ (by omega)) (I.1 t ht)
theorem sa_pieceB {K K' P H E T : Nat → Int32} {p h : Nat → Nat} {s o l : Nat} (I : sa_Inv K P H E T p h) (hs : s < 4) (hl : 1 ≤ l) (hE : E s = 0) (c : h s ≤ o + l) (d : o + l ≤ sa_fb p h s) (k1 : ∀ j, j < 240 * s + o ∨ 240 * s + o + l ≤ j → K' j = K j) (k2 : ∀ j, 240 * s + o ≤ j → j < 240 * s + o + l → ¬ K' j = 0) : sa_Inv K' P (upd H s (nI (o + l))) E T p (sa_up h s (o + l)) := by
  have O := I.1 s hs
  have e2 := sa_sumU (f := h) (o + l) hs
  have hI := I.2
  have l1 := sa_limLe p s
  have l2 := sa_fbLe p h s
  have hd : sa_left p h = 56 + sa_sum p - sa_sum h := rfl
  refine ⟨fun t ht => ?_, by omega⟩
  by_cases q : t = s
  · subst q
    obtain ⟨o1, o2, o3, o4, o5, o6, o7⟩ := O
    unfold sa_One
    rw [pk_us, sa_ups]
    refine ⟨o1, rfl, by omega, by omega, by omega, fun i a b => by rw [k1 _ (Or.inr (by omega))]; exact o6 i (by omega) b, ?_⟩
    rcases o7 with ⟨a, b, z⟩ | ⟨a, b⟩
    · exact Or.inl ⟨a, b, Or.inr (k2 _ (by omega) (by omega))⟩
    · rw [hE] at a
      exact absurd a (by decide)
  · exact sa_fr rfl (pk_un q) rfl rfl rfl (sa_upn q) (fun i hi => k1 _ (by omega)) (I.1 t ht)
theorem sa_new {T : Nat → Int32} (hT : ∀ s, s < 4 → T s = -1) : sa_Inv (fun _ => 0) (fun _ => 0) (fun _ => 0) (fun _ => 0) T (fun _ => 0) (fun _ => 0) := by
  refine ⟨fun s hs => ⟨rfl, rfl, Nat.le_refl _, Nat.zero_le _, Nat.zero_le _, fun _ _ _ => rfl, Or.inl ⟨rfl, hT s hs, Or.inl rfl⟩⟩, ?_⟩
  exact (by decide : sa_sum (fun _ => 0) ≤ sa_sum (fun _ => 0) + 56)
end
section
/-! X: the component's private methods -/
theorem sa_cs (x : Int32) : (x < 0 ∨ ∃ j : Nat, j < 2 ^ 31 ∧ 4 ≤ j ∧ x = nI j) ∨ ∃ s : Nat, s < 4 ∧ x = nI s := by
  by_cases c : x < 0
  · exact Or.inl (Or.inl c)
  · obtain ⟨j, hj, e⟩ := nI_of c
    by_cases d : j < 4
    · exact Or.inr ⟨j, d, e⟩
    · exact Or.inl (Or.inr ⟨j, hj, by omega, e⟩)
theorem sa_nb : vp_nar .boolean 1 = 1 := by first | rfl | decide
theorem sa_v4 {s : Nat} (hs : s < 4) : vp_in (nI s) 4 := vp_in_nI hs (by decide)
theorem sa_c31 {s : Nat} (hs : s < 4) : (nI s).toNatClampNeg = s := nI_clamp (by omega)
theorem xs_ok {post : Int32 → Prop} {s : Nat} (hs : s < 4) (hp : post 1) : wpX_isStream post (nI s) :=
  br_f (nI_pos (by omega)) (br_f (nI_ge (b := 4) hs (by decide)) hp)
theorem xs_bad {post : Int32 → Prop} {x : Int32} (hb : x < 0 ∨ ∃ j : Nat, j < 2 ^ 31 ∧ 4 ≤ j ∧ x = nI j) (hp : post 0) : wpX_isStream post x := by
  rcases hb with c | ⟨j, h1, h2, rfl⟩
  · exact br_t c hp
  · exact br_f (nI_pos h1) (br_t (nI_le (a := 4) h2 h1) hp)
theorem ys_ok {post : Int32 → Prop} {s : Nat} (hs : s < 4) (hp : post 0) : wpY_bad post (nI s) :=
  br_f (nI_pos (by omega)) (br_t (nI_le (b := 3) (by omega) (by decide)) hp)
theorem ys_bad {post : Int32 → Prop} {x : Int32} (hb : x < 0 ∨ ∃ j : Nat, j < 2 ^ 31 ∧ 4 ≤ j ∧ x = nI j) (hp : post 1) : wpY_bad post x := by
  rcases hb with c | ⟨j, h1, h2, rfl⟩
  · exact br_t c hp
  · exact br_f (nI_pos h1) (br_f (nI_ge (a := 3) (by omega) h1) hp)
theorem sa_leftLe {K P H E T : Nat → Int32} {p h : Nat → Nat} (I : sa_Inv K P H E T p h) : sa_left p h ≤ 56 := by
  have a0 := (I.1 0 (by decide)).2.2.1
  have a1 := (I.1 1 (by decide)).2.2.1
  have a2 := (I.1 2 (by decide)).2.2.1
  have a3 := (I.1 3 (by decide)).2.2.1
  unfold sa_left sa_sum
  omega
theorem xs_limit {post : Int32 → Prop} {K B P H E : Nat → Int32} {p : Nat → Nat} {s : Nat} (hs : s < 4) (hP : P s = nI (p s)) (hl : p s ≤ 240) (hp : post (nI (sa_lim p s))) : wpX_limit post (K, B, P, H, E) (nI s) := by
  have hc := sa_c31 hs
  refine And.intro (sa_v4 hs) ?_
  refine nm_r (e' := nI (p s + 24)) (by rw [hc, hP]; exact nI_add _ 24) ?_
  refine pk_le 240 (p s + 24) (fun c => ?_) (fun c => ?_)
  · have e : sa_lim p s = 240 := by unfold sa_lim; split <;> omega
    rw [e] at hp; exact hp
  · have e : sa_lim p s = p s + 24 := by unfold sa_lim; split <;> omega
    rw [e] at hp; exact hp
theorem xs_leftS {post : Int32 → Prop} {K B P H E : Nat → Int32} {n i a pi hi : Nat} (c : i < 4) (eP : P i = nI pi) (eH : H i = nI hi) (hh : hi ≤ a + pi) (w : wX_left_5 post K B P H E n (nI (a + pi - hi)) (nI (i + 1))) : wX_left_5 post K B P H E (n + 1) (nI a) (nI i) := by
  have hc := sa_c31 c
  refine br_f (nI_ge (b := 4) c (by decide)) (And.intro (sa_v4 c) (And.intro (sa_v4 c) (nm_r (e' := nI (a + pi - hi)) ?_ (nm_r (nI_1 i) w))))
  rw [hc, eP, eH]
  exact sa_dif hh
theorem xs_left {post : Int32 → Prop} {K B P H E T : Nat → Int32} {p h : Nat → Nat} (I : sa_Inv K P H E T p h) (hp : post (nI (sa_left p h))) : wpX_left post (K, B, P, H, E) := by
  have o0 := I.1 0 (by decide)
  have o1 := I.1 1 (by decide)
  have o2 := I.1 2 (by decide)
  have o3 := I.1 3 (by decide)
  have a0 := o0.2.2.1
  have a1 := o1.2.2.1
  have a2 := o2.2.2.1
  have a3 := o3.2.2.1
  have hI := I.2
  unfold sa_sum at hI
  have el : sa_left p h = 56 + p 0 - h 0 + p 1 - h 1 + p 2 - h 2 + p 3 - h 3 := by unfold sa_left sa_sum; omega
  rw [el] at hp
  refine Exists.intro 5 ?_
  refine xs_leftS (a := 56) (i := 0) (by decide) o0.1 o0.2.1 (by omega) ?_
  refine xs_leftS (i := 1) (by decide) o1.1 o1.2.1 (by omega) ?_
  refine xs_leftS (i := 2) (by decide) o2.1 o2.2.1 (by omega) ?_
  refine xs_leftS (i := 3) (by decide) o3.1 o3.2.1 (by omega) ?_
  exact br_t (nI_le (a := 4) (b := 4) (by decide) (by decide)) hp
theorem xs_flow {post : Int32 → Prop} {K B P H E T : Nat → Int32} {p h : Nat → Nat} {s : Nat} (I : sa_Inv K P H E T p h) (hs : s < 4) (hp : post (nI (sa_fb p h s))) : wpX_flowBound post (K, B, P, H, E) (nI s) := by
  have o := I.1 s hs
  have hc := sa_c31 hs
  have b1 := o.2.2.1
  have b2 := o.2.2.2.1
  have b3 := sa_leftLe I
  have b4 := sa_limLe p s
  unfold wpX_flowBound
  dsimp only
  refine xs_limit hs o.1 (by omega) ?_
  refine And.intro (sa_v4 hs) ?_
  refine xs_left I ?_
  refine nm_r (e' := nI (h s + sa_left p h)) (by rw [hc, o.2.1]; exact nI_add _ _) ?_
  refine pk_le (h s + sa_left p h) (sa_lim p s) (fun c => ?_) (fun c => ?_)
  · have e : sa_fb p h s = h s + sa_left p h := by unfold sa_fb; split <;> omega
    rw [e] at hp; exact hp
  · have e : sa_fb p h s = sa_lim p s := by unfold sa_fb; split <;> omega
    rw [e] at hp; exact hp
theorem xs_known {post : Int32 → Prop} {K B P H E : Nat → Int32} {s o : Nat} (hs : s < 4) (ho : o < 2 ^ 31) (hp : post (sa_kn K s o)) : wpX_isKnown post (K, B, P, H, E) (nI s) (nI o) := by
  refine pk_le 240 o (fun c => ?_) (fun c => ?_)
  · rw [sa_knG c] at hp; exact hp
  · have hc : (nI (240 * s + o)).toNatClampNeg = 240 * s + o := nI_clamp (by omega)
    rw [sa_xi s o, hc]
    refine And.intro (vp_in_nI (by omega) (by decide)) ?_
    by_cases z : K (240 * s + o) = 0
    · rw [sa_kn0 z] at hp; exact br_t z hp
    · rw [sa_kn1 (by omega) z] at hp; exact br_f z hp
theorem sa_kn_1 {K : Nat → Int32} {s o : Nat} (z : ¬ sa_kn K s o = 0) : sa_kn K s o = 1 := sa_kn1 (sa_knI z).1 (sa_knI z).2
theorem xs_gba {post : Int32 → Prop} {K B P H E : Nat → Int32} {s o q : Nat} (hs : s < 4) (hP : P s = nI q) (hq : q ≤ o) (ho : o < 2 ^ 31) (hp : post (sa_gb K s q o)) : wpX_gapBeginsAt post (K, B, P, H, E) (nI s) (nI o) := by
  have hc := sa_c31 hs
  unfold wpX_gapBeginsAt
  dsimp only
  refine xs_known hs ho ?_
  by_cases z : sa_kn K s o = 0
  · refine br_t z (And.intro (sa_v4 hs) ?_)
    rw [hc, hP]
    refine pk_eq o q (fun c => ?_) (fun c => ?_)
    · have e : sa_gb K s q o = 1 := by unfold sa_gb; rw [if_pos z, if_pos c]
      rw [e] at hp; exact hp
    · rw [sa_pr (by omega : 0 < o)]
      refine xs_known hs (by omega) ?_
      have e : sa_gb K s q o = sa_kn K s (o - 1) := by unfold sa_gb; rw [if_pos z, if_neg c]
      rw [e] at hp
      by_cases y : sa_kn K s (o - 1) = 0
      · rw [y] at hp; exact br_t y hp
      · rw [sa_kn_1 y] at hp; exact br_f y hp
  · have e : sa_gb K s q o = 0 := if_neg z
    rw [e] at hp; exact br_f z hp
end
section
/-! Y: the reference's private methods -/
theorem ys_limit {post : Int32 → Prop} {K B P T : Nat → Int32} {p : Nat → Nat} {s : Nat} (hs : s < 4) (hP : P s = nI (p s)) (hl : p s ≤ 240) (hp : post (nI (sa_lim p s))) : wpY_limit post (K, B, P, T) (nI s) := by
  have hc := sa_c31 hs
  have e24 : nI (p s) + 24 = nI (p s + 24) := nI_add _ 24
  refine And.intro (sa_v4 hs) ?_
  rw [hc, hP, e24]
  refine pk_le 240 (p s + 24) (fun c => ?_) (fun c => ?_)
  · have e : sa_lim p s = 240 := by unfold sa_lim; split <;> omega
    rw [e] at hp; exact hp
  · have e : sa_lim p s = p s + 24 := by unfold sa_lim; split <;> omega
    rw [e] at hp; exact And.intro (sa_v4 hs) hp
theorem ys_topL {post : Int32 → Prop} {K B P T : Nat → Int32} {s m : Nat} (hs : s < 4) (ho : ∀ i, m ≤ i → i < 240 → K (240 * s + i) = 0) (hz : m = 0 ∨ ¬ K (240 * s + (m - 1)) = 0) (hp : post (nI m)) : ∀ i, m ≤ i → i ≤ 240 → wY_top_20 post (nI s) K B P T (i + 1) (nI i) := by
  intro i
  induction i with
  | zero =>
    intro a b
    obtain rfl : m = 0 := by omega
    exact br_t (nI_le (a := 0) (b := 0) (by decide) (by decide)) hp
  | succ i ih =>
    intro a b
    have e : 240 * nI s + nI (i + 1) - 1 = nI (240 * s + i) := by rw [sa_ix]; exact nI_pred _
    have hc : (nI (240 * s + i)).toNatClampNeg = 240 * s + i := nI_clamp (by omega)
    refine br_f (nI_nle (by omega) (by omega)) ?_
    rw [e, hc]
    refine And.intro (vp_in_nI (by omega) (by decide)) ?_
    by_cases c : m ≤ i
    · exact br_t (ho i c (by omega)) (nm_r (pk_m1 i) (ih c (by omega)))
    · obtain rfl : m = i + 1 := by omega
      rcases hz with z | z
      · omega
      · rw [Nat.add_sub_cancel] at z
        exact br_f z hp
theorem ys_top {post : Int32 → Prop} {K B P H E T : Nat → Int32} {p h : Nat → Nat} {s : Nat} (I : sa_Inv K P H E T p h) (hs : s < 4) (hp : post (nI (h s))) : wpY_top post (K, B, P, T) (nI s) := by
  obtain ⟨o1, o2, o3, o4, o5, o6, o7⟩ := I.1 s hs
  have hc := sa_c31 hs
  refine And.intro (sa_v4 hs) ?_
  rw [hc]
  rcases o7 with ⟨a, b, z⟩ | ⟨a, b⟩
  · refine br_t (by rw [b]; decide) (Exists.intro 241 ?_)
    exact ys_topL hs o6 z hp 240 o4 (Nat.le_refl _)
  · rw [b]
    exact br_f (nI_pos (by omega)) (And.intro (sa_v4 hs) hp)
theorem ys_52 {post : Int32 → Prop} {J : Int32 → Int32 → Int32 → Prop} {x1 x2 : Int32} {K B P T : Nat → Int32} {a q w i pi : Nat} (hi : i < 4) (hP : P i = nI pi) (z : J (nI (a + w)) (nI (q + pi)) (nI (i + 1))) : wY_fits_52 post J x1 x2 (nI q) (nI i) (nI w) (nI a) K B P T := by
  have hc := sa_c31 hi
  exact nm_r (nI_add a w) (And.intro (sa_v4 hi) (nm_r (e' := nI (q + pi)) (by rw [hc, hP]; exact nI_add _ _) (nm_r (nI_1 i) z)))
theorem ys_fitS {post : Int32 → Prop} {K B P H E T : Nat → Int32} {p h : Nat → Nat} {s e n i a q : Nat} (I : sa_Inv K P H E T p h) (hs : s < 4) (he : e ≤ 240) (hi : i < 4) (w : wY_fits_19 post (nI s) (nI e) K B P T n (nI (a + sa_tp h s e i)) (nI (q + p i)) (nI (i + 1))) : wY_fits_19 post (nI s) (nI e) K B P T (n + 1) (nI a) (nI q) (nI i) := by
  have o := I.1 i hi
  have o4 := o.2.2.2.1
  refine br_f (nI_ge (b := 4) hi (by decide)) ?_
  refine ys_top I hi ?_
  refine pk_eq i s (fun c => ?_) (fun c => ?_)
  · refine pk_le e (h i) (fun d => ?_) (fun d => ?_)
    · have et : sa_tp h s e i = h i := if_neg (by omega)
      rw [et] at w
      unfold wY_fits_50
      exact ys_52 hi o.1 w
    · have et : sa_tp h s e i = e := if_pos ⟨c, d⟩
      rw [et] at w
      exact ys_52 hi o.1 w
  · have et : sa_tp h s e i = h i := if_neg (by omega)
    rw [et] at w
    unfold wY_fits_50
    exact ys_52 hi o.1 w
theorem sa_tpLe {K P H E T : Nat → Int32} {p h : Nat → Nat} {s e : Nat} (I : sa_Inv K P H E T p h) (he : e ≤ 240) : sa_sum (sa_tp h s e) ≤ 960 ∧ sa_sum p ≤ 960 := by
  have o0 := I.1 0 (by decide)
  have o1 := I.1 1 (by decide)
  have o2 := I.1 2 (by decide)
  have o3 := I.1 3 (by decide)
  have q : ∀ j, h j ≤ 240 → sa_tp h s e j ≤ 240 := by
    intro j hj
    unfold sa_tp
    split <;> omega
  have q0 := q 0 o0.2.2.2.1
  have q1 := q 1 o1.2.2.2.1
  have q2 := q 2 o2.2.2.2.1
  have q3 := q 3 o3.2.2.2.1
  have a0 := o0.2.2.1
  have a1 := o1.2.2.1
  have a2 := o2.2.2.1
  have a3 := o3.2.2.1
  have b0 := o0.2.2.2.1
  have b1 := o1.2.2.2.1
  have b2 := o2.2.2.2.1
  have b3 := o3.2.2.2.1
  unfold sa_sum
  omega
theorem ys_fits {post : Int32 → Prop} {K B P H E T : Nat → Int32} {p h : Nat → Nat} {s e : Nat} (I : sa_Inv K P H E T p h) (hs : s < 4) (he : e < 2 ^ 31) (hp : post (if e ≤ sa_fb p h s then 1 else 0)) : wpY_fits post (K, B, P, T) (nI s) (nI e) := by
  have o := I.1 s hs
  have b1 := o.2.2.1
  have b2 := o.2.2.2.1
  have b4 := sa_limLe p s
  have b5 := sa_fbLe p h s
  unfold wpY_fits
  dsimp only
  refine ys_limit hs o.1 (by omega) ?_
  refine pk_le e (sa_lim p s) (fun c => ?_) (fun c => ?_)
  · have hb := sa_tpLe (s := s) (e := e) I (by omega)
    have hf := sa_fit I hs c
    refine Exists.intro 5 ?_
    refine ys_fitS I (i := 0) (a := 0) (q := 0) hs (by omega) (by decide) ?_
    refine ys_fitS I (i := 1) hs (by omega) (by decide) ?_
    refine ys_fitS I (i := 2) hs (by omega) (by decide) ?_
    refine ys_fitS I (i := 3) hs (by omega) (by decide) ?_
    refine br_t (nI_le (a := 4) (b := 4) (by decide) (by decide)) ?_
    have e1 : nI (0 + p 0 + p 1 + p 2 + p 3) + 56 = nI (sa_sum p + 56) := by
      rw [show 0 + p 0 + p 1 + p 2 + p 3 = sa_sum p from by unfold sa_sum; omega]
      exact nI_add _ 56
    have e2 : nI (0 + sa_tp h s e 0 + sa_tp h s e 1 + sa_tp h s e 2 + sa_tp h s e 3) = nI (sa_sum (sa_tp h s e)) := by
      rw [show 0 + sa_tp h s e 0 + sa_tp h s e 1 + sa_tp h s e 2 + sa_tp h s e 3 = sa_sum (sa_tp h s e) from by unfold sa_sum; omega]
    refine pk_lt (sa_sum p + 56) (sa_sum (sa_tp h s e)) (fun d => ?_) (fun d => ?_) e1 e2
    · rw [if_neg (by omega)] at hp; exact hp
    · rw [if_pos (by omega)] at hp; exact hp
  · rw [if_neg (by omega)] at hp; exact hp
theorem ys_known {post : Int32 → Prop} {K B P T : Nat → Int32} {s o : Nat} (hs : s < 4) (ho : o < 2 ^ 31) (hp : post (sa_kn K s o)) : wpY_isKnown post (K, B, P, T) (nI s) (nI o) := by
  refine pk_le 240 o (fun c => ?_) (fun c => ?_)
  · rw [sa_knG c] at hp; exact hp
  · have hc : (nI (240 * s + o)).toNatClampNeg = 240 * s + o := nI_clamp (by omega)
    rw [sa_ix s o, hc]
    refine And.intro (vp_in_nI (by omega) (by decide)) ?_
    by_cases z : K (240 * s + o) = 0
    · rw [sa_kn0 z] at hp; exact br_t z hp
    · rw [sa_kn1 (by omega) z] at hp; exact br_f z hp
theorem ys_beg {post : Int32 → Prop} {K B P T : Nat → Int32} {s o q : Nat} (hs : s < 4) (hP : P s = nI q) (hq : q ≤ o) (ho : o < 2 ^ 31) (hp : post (sa_gb K s q o)) : wpY_begins post (K, B, P, T) (nI s) (nI o) := by
  have hc := sa_c31 hs
  unfold wpY_begins
  dsimp only
  refine ys_known hs ho ?_
  by_cases z : sa_kn K s o = 0
  · refine br_t z (And.intro (sa_v4 hs) ?_)
    rw [hc, hP]
    refine pk_eq o q (fun c => ?_) (fun c => ?_)
    · have e : sa_gb K s q o = 1 := by unfold sa_gb; rw [if_pos z, if_pos c]
      rw [e] at hp; exact hp
    · rw [sa_pr (by omega : 0 < o)]
      refine ys_known hs (by omega) ?_
      have e : sa_gb K s q o = sa_kn K s (o - 1) := by unfold sa_gb; rw [if_pos z, if_neg c]
      rw [e] at hp
      by_cases y : sa_kn K s (o - 1) = 0
      · rw [y] at hp; exact br_t y hp
      · rw [sa_kn_1 y] at hp; exact br_f y hp
  · have e : sa_gb K s q o = 0 := if_neg z
    rw [e] at hp; exact br_f z hp
end
section
/-! lockstep: one result such that, for every post, both loops go on from it -/
theorem pl_learn (P H E T : Nat → Int32) {s o l : Nat} (b : Int32) (hs : s < 4) (hb : o + l ≤ 240) : ∀ (d k c : Nat) (K B : Nat → Int32), k + d = l → ∃ (K' B' : Nat → Int32) (c' : Nat), (∀ post : Int32 → SX → Prop, post (nI c') (K', B', P, H, E) → wX_learn_6 post (nI s) (nI o) (nI l) b (d + 1) (nI c) (nI k) K B P H E) ∧ (∀ post : Int32 → SY → Prop, post (nI c') (K', B', P, T) → wY_piece_74 post (nI s) (nI o) (nI l) b (d + 1) (nI c) (nI k) K B P T) ∧ (∀ j, j < 240 * s + o + k ∨ 240 * s + o + l ≤ j → K' j = K j) ∧ (∀ j, 240 * s + o + k ≤ j → j < 240 * s + o + l → ¬ K' j = 0) := by
  intro d
  induction d with
  | zero =>
    intro k c K B hk
    have hn : nI l ≤ nI k := nI_le (by omega) (by omega)
    exact ⟨K, B, c, fun post hp => br_t hn hp, fun post hp => br_t hn hp, fun _ _ => rfl, fun j a b => absurd a (by omega)⟩
  | succ d ih =>
    intro k c K B hk
    have hn : ¬ nI l ≤ nI k := nI_ge (by omega) (by omega)
    have eX : nI s * 240 + nI o + nI k = nI (240 * s + o + k) := by rw [sa_xi, nI_add]
    have eY : 240 * nI s + nI o + nI k = nI (240 * s + o + k) := by rw [sa_ix, nI_add]
    have hv : vp_in (nI (240 * s + o + k)) 960 := vp_in_nI (by omega) (by decide)
    have hc : (nI (240 * s + o + k)).toNatClampNeg = 240 * s + o + k := nI_clamp (by omega)
    by_cases z : K (240 * s + o + k) = 0
    · obtain ⟨K', B', c', hX, hY, k1, k2⟩ := ih (k + 1) (c + 1) (upd K (240 * s + o + k) 1) (upd B (240 * s + o + k) ((b >>> ((8 * nI k) &&& 31)) &&& 255)) (by omega)
      refine ⟨K', B', c', fun post hp => ?_, fun post hp => ?_, fun j a => ?_, fun j a a' => ?_⟩
      · refine br_f hn (nm_r eX (And.intro hv ?_))
        rw [hc, sa_nb]
        exact br_t z (And.intro hv (nm_e (And.intro hv (nm_e (nm_r (nI_1 c) (nm_r (nI_1 k) (hX post hp)))))))
      · refine br_f hn (nm_r eY (And.intro hv ?_))
        rw [hc, sa_nb]
        exact br_t z (And.intro hv (nm_e (And.intro hv (nm_e (nm_r (nI_1 c) (nm_r (nI_1 k) (hY post hp)))))))
      · rw [k1 j (by omega)]
        exact pk_un (by omega)
      · by_cases q : j = 240 * s + o + k
        · subst q
          rw [k1 _ (by omega), pk_us]
          decide
        · exact k2 j (by omega) a'
    · obtain ⟨K', B', c', hX, hY, k1, k2⟩ := ih (k + 1) c K B (by omega)
      refine ⟨K', B', c', fun post hp => ?_, fun post hp => ?_, fun j a => ?_, fun j a a' => ?_⟩
      · refine br_f hn (nm_r eX (And.intro hv ?_))
        rw [hc]
        exact br_f z (nm_r (nI_1 k) (hX post hp))
      · refine br_f hn (nm_r eY (And.intro hv ?_))
        rw [hc]
        exact br_f z (nm_r (nI_1 k) (hY post hp))
      · exact k1 j (by omega)
      · by_cases q : j = 240 * s + o + k
        · subst q
          rw [k1 _ (by omega)]
          exact z
        · exact k2 j (by omega) a'
theorem pl_gaps {K B P H E T : Nat → Int32} {p h : Nat → Nat} {s : Nat} (I : sa_Inv K P H E T p h) (hs : s < 4) : ∀ d o c : Nat, o + d = h s → p s ≤ o → ∃ r : Int32, (∀ post : Int32 → Prop, post r → wX_gaps_18 post (nI s) K B P H E (d + 1) (nI c) (nI o)) ∧ (∀ post : Int32 → Prop, post r → wY_gaps_18 post (nI s) K B P T (d + 1) (nI c) (nI o)) := by
  have O := I.1 s hs
  have hc := sa_c31 hs
  have h4 := O.2.2.2.1
  intro d
  induction d with
  | zero =>
    intro o c ho hq
    have hn : nI (h s) ≤ nI o := nI_le (by omega) (by omega)
    refine ⟨nI c, fun post hp => ?_, fun post hp => ?_⟩
    · unfold wX_gaps_18
      rw [hc, O.2.1]
      exact And.intro (sa_v4 hs) (br_t hn hp)
    · unfold wY_gaps_18
      exact ys_top I hs (br_t hn hp)
  | succ d ih =>
    intro o c ho hq
    have hn : ¬ nI (h s) ≤ nI o := nI_ge (by omega) (by omega)
    by_cases g : sa_gb K s (p s) o = 0
    · obtain ⟨r, hX, hY⟩ := ih (o + 1) c (by omega) (by omega)
      refine ⟨r, fun post hp => ?_, fun post hp => ?_⟩
      · unfold wX_gaps_18
        rw [hc, O.2.1]
        exact And.intro (sa_v4 hs) (br_f hn (xs_gba hs O.1 hq (by omega) (br_t g (nm_r (nI_1 o) (hX post hp)))))
      · unfold wY_gaps_18
        exact ys_top I hs (br_f hn (ys_beg hs O.1 hq (by omega) (br_t g (nm_r (nI_1 o) (hY post hp)))))
    · obtain ⟨r, hX, hY⟩ := ih (o + 1) (c + 1) (by omega) (by omega)
      refine ⟨r, fun post hp => ?_, fun post hp => ?_⟩
      · unfold wX_gaps_18
        rw [hc, O.2.1]
        exact And.intro (sa_v4 hs) (br_f hn (xs_gba hs O.1 hq (by omega) (br_f g (nm_r (nI_1 c) (nm_r (nI_1 o) (hX post hp))))))
      · unfold wY_gaps_18
        exact ys_top I hs (br_f hn (ys_beg hs O.1 hq (by omega) (br_f g (nm_r (nI_1 c) (nm_r (nI_1 o) (hY post hp))))))
theorem pl_gap {K B P H E T : Nat → Int32} {p h : Nat → Nat} {s : Nat} (v : Int32) (I : sa_Inv K P H E T p h) (hs : s < 4) : ∀ d o c : Nat, o + d = h s → p s ≤ o → ∃ r : Int32, (∀ post : Int32 → Prop, post r → wX_gap_19 post (nI s) v K B P H E (d + 1) (nI c) (nI o)) ∧ (∀ post : Int32 → Prop, post r → wY_gap_19 post (nI s) v K B P T (d + 1) (nI c) (nI o)) := by
  have O := I.1 s hs
  have hc := sa_c31 hs
  have h4 := O.2.2.2.1
  intro d
  induction d with
  | zero =>
    intro o c ho hq
    have hn : nI (h s) ≤ nI o := nI_le (by omega) (by omega)
    refine ⟨-4, fun post hp => ?_, fun post hp => ?_⟩
    · unfold wX_gap_19
      rw [hc, O.2.1]
      exact And.intro (sa_v4 hs) (br_t hn hp)
    · unfold wY_gap_19
      exact ys_top I hs (br_t hn hp)
  | succ d ih =>
    intro o c ho hq
    have hn : ¬ nI (h s) ≤ nI o := nI_ge (by omega) (by omega)
    by_cases g : sa_gb K s (p s) o = 0
    · obtain ⟨r, hX, hY⟩ := ih (o + 1) c (by omega) (by omega)
      refine ⟨r, fun post hp => ?_, fun post hp => ?_⟩
      · unfold wX_gap_19
        rw [hc, O.2.1]
        exact And.intro (sa_v4 hs) (br_f hn (xs_gba hs O.1 hq (by omega) (br_t g (nm_r (nI_1 o) (hX post hp)))))
      · unfold wY_gap_19
        exact ys_top I hs (br_f hn (ys_beg hs O.1 hq (by omega) (br_t g (nm_r (nI_1 o) (hY post hp)))))
    · by_cases w : nI c = v
      · refine ⟨nI o, fun post hp => ?_, fun post hp => ?_⟩
        · unfold wX_gap_19
          rw [hc, O.2.1]
          exact And.intro (sa_v4 hs) (br_f hn (xs_gba hs O.1 hq (by omega) (br_f g (br_t w hp))))
        · unfold wY_gap_19
          exact ys_top I hs (br_f hn (ys_beg hs O.1 hq (by omega) (br_f g (br_t w hp))))
      · obtain ⟨r, hX, hY⟩ := ih (o + 1) (c + 1) (by omega) (by omega)
        refine ⟨r, fun post hp => ?_, fun post hp => ?_⟩
        · unfold wX_gap_19
          rw [hc, O.2.1]
          exact And.intro (sa_v4 hs) (br_f hn (xs_gba hs O.1 hq (by omega) (br_f g (br_f w (nm_r (nI_1 c) (nm_r (nI_1 o) (hX post hp)))))))
        · unfold wY_gap_19
          exact ys_top I hs (br_f hn (ys_beg hs O.1 hq (by omega) (br_f g (br_f w (nm_r (nI_1 c) (nm_r (nI_1 o) (hY post hp)))))))
theorem pl_readable {K B P H E T : Nat → Int32} {p h : Nat → Nat} {s : Nat} (I : sa_Inv K P H E T p h) (hs : s < 4) : ∀ d c : Nat, p s + c + d = h s → ∃ r : Int32, (∀ post : Int32 → Prop, post r → wX_readable_18 post (nI s) K B P H E (d + 1) (nI c) (nI (p s + c))) ∧ (∀ post : Int32 → Prop, post r → wY_readable_11 post (nI s) K B P T (d + 1) (nI c)) := by
  have O := I.1 s hs
  have hc := sa_c31 hs
  have h3 := O.2.2.1
  have h4 := O.2.2.2.1
  have h5 := O.2.2.2.2.1
  intro d
  induction d with
  | zero =>
    intro c ho
    have hn : nI (h s) ≤ nI (p s + c) := nI_le (by omega) (by omega)
    have hm : ¬ (240 : Int32) ≤ nI c := nI_ge (b := 240) (by omega) (by decide)
    refine ⟨nI c, fun post hp => ?_, fun post hp => ?_⟩
    · unfold wX_readable_18
      rw [hc, O.2.1]
      exact And.intro (sa_v4 hs) (br_t hn hp)
    · unfold wY_readable_11
      rw [hc, O.1, nI_add]
      exact br_f hm (And.intro (sa_v4 hs) (ys_known hs (by omega) (br_t (sa_knT O (by omega)) hp)))
  | succ d ih =>
    intro c ho
    have hn : ¬ nI (h s) ≤ nI (p s + c) := nI_ge (by omega) (by omega)
    have hm : ¬ (240 : Int32) ≤ nI c := nI_ge (b := 240) (by omega) (by decide)
    by_cases g : sa_kn K s (p s + c) = 0
    · refine ⟨nI c, fun post hp => ?_, fun post hp => ?_⟩
      · unfold wX_readable_18
        rw [hc, O.2.1]
        exact And.intro (sa_v4 hs) (br_f hn (xs_known hs (by omega) (br_t g hp)))
      · unfold wY_readable_11
        rw [hc, O.1, nI_add]
        exact br_f hm (And.intro (sa_v4 hs) (ys_known hs (by omega) (br_t g hp)))
    · obtain ⟨r, hX, hY⟩ := ih (c + 1) (by omega)
      refine ⟨r, fun post hp => ?_, fun post hp => ?_⟩
      · unfold wX_readable_18
        rw [hc, O.2.1]
        exact And.intro (sa_v4 hs) (br_f hn (xs_known hs (by omega) (br_f g (nm_r (nI_1 c) (nm_r (nI_1 (p s + c)) (hX post hp))))))
      · unfold wY_readable_11
        rw [hc, O.1, nI_add]
        exact br_f hm (And.intro (sa_v4 hs) (ys_known hs (by omega) (br_f g (nm_r (nI_1 c) (hY post hp)))))
theorem ys_all {post : Int32 → Prop} {K B P H E T : Nat → Int32} {p h : Nat → Nat} {s : Nat} (I : sa_Inv K P H E T p h) (hs : s < 4) (hp : post (nI (sa_fb p h s))) : ∀ d i m : Nat, i + d = 241 → m = (if i ≤ sa_fb p h s then i - 1 else sa_fb p h s) → wY_allowed_29 post (nI s) K B P T (d + 1) (nI m) (nI i) := by
  have b4 := sa_limLe p s
  have b5 := sa_fbLe p h s
  intro d
  induction d with
  | zero =>
    intro i m hi hm
    rw [if_neg (by omega)] at hm
    subst hm
    exact br_t (nI_lt (a := 240) (by omega) (by omega)) hp
  | succ d ih =>
    intro i m hi hm
    unfold wY_allowed_29
    refine br_f (nI_nlt (b := i) (a := 240) (by omega) (by decide)) ?_
    refine ys_fits I hs (by omega) ?_
    by_cases c : i ≤ sa_fb p h s
    · rw [if_pos c]
      refine br_f (by decide) (nm_r (nI_1 i) (ih (i + 1) i (by omega) ?_))
      split <;> omega
    · rw [if_neg c]
      rw [if_neg c] at hm
      refine br_t rfl (nm_r (nI_1 i) (ih (i + 1) m (by omega) ?_))
      rw [if_neg (by omega)]
      exact hm
end
section
/-- known, bytes and read points are the same on both sides; the rest is sa_Inv -/
def i_Rel (_ : Nat) (u : SX) (v : SY) : Prop := ∃ (K B P H E T : Nat → Int32) (p h : Nat → Nat), u = (K, B, P, H, E) ∧ v = (K, B, P, T) ∧ sa_Inv K P H E T p h
theorem rl_mk {k : Nat} {K B P H E T : Nat → Int32} {p h : Nat → Nat} (I : sa_Inv K P H E T p h) : i_Rel k (K, B, P, H, E) (K, B, P, T) := ⟨K, B, P, H, E, T, p, h, rfl, rfl, I⟩
theorem i_up {k : Nat} {u : SX} {v : SY} (h : i_Rel k u v) : i_Rel (k + 5) u v := h
theorem yi_s {post : SY → Prop} {K B P T : Nat → Int32} {n i : Nat} (hi : i < 4) (w : wY_init_38 post n (nI (i + 1)) K B P (upd T i (-1))) : wY_init_38 post (n + 1) (nI i) K B P T := by
  have hc := sa_c31 hi
  refine br_f (nI_ge (b := 4) hi (by decide)) (And.intro (sa_v4 hi) ?_)
  rw [hc]
  exact nm_e (nm_r (nI_1 i) w)
theorem i_vc0 : wpX_init (fun u => wpY_init (fun v => i_Rel 0 u v)) := by
  unfold wpX_init wpY_init
  refine Exists.intro 5 ?_
  refine yi_s (i := 0) (by decide) ?_
  refine yi_s (i := 1) (by decide) ?_
  refine yi_s (i := 2) (by decide) ?_
  refine yi_s (i := 3) (by decide) ?_
  refine br_t (nI_le (a := 4) (b := 4) (by decide) (by decide)) ?_
  refine rl_mk (p := fun _ => 0) (h := fun _ => 0) (sa_new ?_)
  intro s hs
  rcases sa_c4 hs with rfl | rfl | rfl | rfl <;> rfl
/-! highest -/
theorem i_vc_highest {k : Nat} {u : SX} {v : SY} (I : i_Rel k u v) (hk : k + 5 ≤ 2560) (v1 : Int32) : wpX_highest (fun r => wpY_highest (fun r' => r' = r ∧ i_Rel (k + 5) u v) v v1) u v1 := by
  obtain ⟨K, B, P, H, E, T, p, h, rfl, rfl, I⟩ := I
  unfold wpX_highest wpY_highest
  dsimp only
  rcases sa_cs v1 with hb | ⟨s, hs, rfl⟩
  · exact xs_bad hb (br_t rfl (ys_bad hb (br_f (by decide) ⟨rfl, rl_mk I⟩)))
  · have O := I.1 s hs
    have hc := sa_c31 hs
    rw [hc, O.2.1]
    exact xs_ok hs (br_f (by decide) (And.intro (sa_v4 hs) (ys_ok hs (br_t rfl (ys_top I hs ⟨rfl, rl_mk I⟩)))))
theorem i_vc_gaps {k : Nat} {u : SX} {v : SY} (I : i_Rel k u v) (hk : k + 5 ≤ 2560) (v1 : Int32) : wpX_gaps (fun r => wpY_gaps (fun r' => r' = r ∧ i_Rel (k + 5) u v) v v1) u v1 := by
  obtain ⟨K, B, P, H, E, T, p, h, rfl, rfl, I⟩ := I
  unfold wpX_gaps wpY_gaps
  dsimp only
  rcases sa_cs v1 with hb | ⟨s, hs, rfl⟩
  · exact xs_bad hb (br_t rfl (ys_bad hb (br_f (by decide) ⟨rfl, rl_mk I⟩)))
  · have O := I.1 s hs
    have hc := sa_c31 hs
    have h3 := O.2.2.1
    obtain ⟨r, hX, hY⟩ := pl_gaps (B := B) I hs (h s - p s) (p s) 0 (by omega) (Nat.le_refl _)
    rw [hc, O.1]
    exact xs_ok hs (br_f (by decide) (And.intro (sa_v4 hs) (nm_e ⟨_, hX _ (ys_ok hs (br_t rfl (And.intro (sa_v4 hs) (nm_e ⟨_, hY _ ⟨rfl, rl_mk I⟩⟩))))⟩)))
theorem i_vc_gap {k : Nat} {u : SX} {v : SY} (I : i_Rel k u v) (hk : k + 5 ≤ 2560) (v1 : Int32) (v2 : Int32) : wpX_gap (fun r => wpY_gap (fun r' => r' = r ∧ i_Rel (k + 5) u v) v v1 v2) u v1 v2 := by
  obtain ⟨K, B, P, H, E, T, p, h, rfl, rfl, I⟩ := I
  unfold wpX_gap wpY_gap
  dsimp only
  rcases sa_cs v1 with hb | ⟨s, hs, rfl⟩
  · exact xs_bad hb (br_t rfl (ys_bad hb (br_f (by decide) ⟨rfl, rl_mk I⟩)))
  · have O := I.1 s hs
    have hc := sa_c31 hs
    have h3 := O.2.2.1
    obtain ⟨r, hX, hY⟩ := pl_gap (B := B) v2 I hs (h s - p s) (p s) 0 (by omega) (Nat.le_refl _)
    rw [hc, O.1]
    exact xs_ok hs (br_f (by decide) (And.intro (sa_v4 hs) (nm_e ⟨_, hX _ (ys_ok hs (br_t rfl (And.intro (sa_v4 hs) (nm_e ⟨_, hY _ ⟨rfl, rl_mk I⟩⟩))))⟩)))
theorem i_vc_readable {k : Nat} {u : SX} {v : SY} (I : i_Rel k u v) (hk : k + 5 ≤ 2560) (v1 : Int32) : wpX_readable (fun r => wpY_readable (fun r' => r' = r ∧ i_Rel (k + 5) u v) v v1) u v1 := by
  obtain ⟨K, B, P, H, E, T, p, h, rfl, rfl, I⟩ := I
  unfold wpX_readable wpY_readable
  dsimp only
  rcases sa_cs v1 with hb | ⟨s, hs, rfl⟩
  · exact xs_bad hb (br_t rfl (ys_bad hb (br_f (by decide) ⟨rfl, rl_mk I⟩)))
  · have O := I.1 s hs
    have hc := sa_c31 hs
    have h3 := O.2.2.1
    obtain ⟨r, hX, hY⟩ := pl_readable (B := B) I hs (h s - p s) 0 (by omega)
    rw [hc, O.1]
    exact xs_ok hs (br_f (by decide) (And.intro (sa_v4 hs) (nm_e ⟨_, hX _ (ys_ok hs (br_t rfl ⟨_, hY _ ⟨rfl, rl_mk I⟩⟩))⟩)))
theorem i_vc_allowed {k : Nat} {u : SX} {v : SY} (I : i_Rel k u v) (hk : k + 5 ≤ 2560) (v1 : Int32) : wpX_allowed (fun r => wpY_allowed (fun r' => r' = r ∧ i_Rel (k + 5) u v) v v1) u v1 := by
  obtain ⟨K, B, P, H, E, T, p, h, rfl, rfl, I⟩ := I
  unfold wpX_allowed wpY_allowed
  dsimp only
  rcases sa_cs v1 with hb | ⟨s, hs, rfl⟩
  · exact xs_bad hb (br_t rfl (ys_bad hb (br_f (by decide) ⟨rfl, rl_mk I⟩)))
  · have O := I.1 s hs
    have hc := sa_c31 hs
    have h4 := O.2.2.2.1
    rw [hc, O.2.1]
    refine xs_ok hs (br_f (by decide) (And.intro (sa_v4 hs) ?_))
    rcases O.2.2.2.2.2.2 with ⟨a, b, z⟩ | ⟨a, b⟩
    · refine br_t a (xs_flow I hs (ys_ok hs (br_t rfl (And.intro (sa_v4 hs) (br_t (by rw [b]; decide) ⟨242, ?_⟩)))))
      refine ys_all I hs ⟨rfl, rl_mk I⟩ 241 0 0 rfl ?_
      split <;> omega
    · refine br_f (by rw [a]; decide) (And.intro (sa_v4 hs) (ys_ok hs (br_t rfl (And.intro (sa_v4 hs) ?_))))
      rw [b]
      exact br_f (nI_pos (by omega)) (And.intro (sa_v4 hs) ⟨rfl, rl_mk I⟩)
theorem i_vc_complete {k : Nat} {u : SX} {v : SY} (I : i_Rel k u v) (hk : k + 5 ≤ 2560) (v1 : Int32) : wpX_complete (fun r => wpY_complete (fun r' => r' = r ∧ i_Rel (k + 5) u v) v v1) u v1 := by
  obtain ⟨K, B, P, H, E, T, p, h, rfl, rfl, I⟩ := I
  unfold wpX_complete wpY_complete
  dsimp only
  rcases sa_cs v1 with hb | ⟨s, hs, rfl⟩
  · exact xs_bad hb (br_t rfl (ys_bad hb (br_f (by decide) ⟨rfl, rl_mk I⟩)))
  · have O := I.1 s hs
    have hc := sa_c31 hs
    have hv := sa_v4 hs
    have h4 := O.2.2.2.1
    rw [hc, O.2.1]
    refine xs_ok hs (br_f (by decide) (And.intro hv ?_))
    rcases O.2.2.2.2.2.2 with ⟨a, b, z⟩ | ⟨a, b⟩
    · exact br_t a (ys_ok hs (br_t rfl (And.intro hv (br_t (by rw [b]; decide) ⟨rfl, rl_mk I⟩))))
    · have nn : ¬ T s < 0 := by rw [b]; exact nI_pos (by omega)
      refine br_f (by rw [a]; decide) (And.intro hv (And.intro hv ?_))
      by_cases c : P s = nI (h s)
      · exact br_t c (ys_ok hs (br_t rfl (And.intro hv (br_f nn (And.intro hv (And.intro hv (br_t (c.trans b.symm) ⟨rfl, rl_mk I⟩)))))))
      · exact br_f c (ys_ok hs (br_t rfl (And.intro hv (br_f nn (And.intro hv (And.intro hv (br_f (fun e => c (e.trans b)) ⟨rfl, rl_mk I⟩)))))))
/-! read -/
theorem xr_38 {post : Int32 → SX → Prop} {K B P H E : Nat → Int32} {s q : Nat} (hs : s < 4) (hq : q < 2 ^ 31) (z0 : sa_kn K s q = 0 → post (-4) (K, B, P, H, E)) (z1 : ¬ sa_kn K s q = 0 → post (B (240 * s + q)) (K, B, upd P s (nI (q + 1)), H, E)) : wX_read_38 post (nI s) (nI q) K B P H E := by
  have hc := sa_c31 hs
  unfold wX_read_38
  refine xs_known hs hq ?_
  by_cases c : sa_kn K s q = 0
  · exact br_t c (z0 c)
  · have l := (sa_knI c).1
    have hd : (nI (240 * s + q)).toNatClampNeg = 240 * s + q := nI_clamp (by omega)
    rw [sa_xi, hc, hd, nI_1]
    exact br_f c (And.intro (sa_v4 hs) (nm_e (And.intro (vp_in_nI (by omega) (by decide)) (z1 c))))
theorem yr_go {post : Int32 → SY → Prop} {K B P T : Nat → Int32} {s q : Nat} (hs : s < 4) (hP : P s = nI q) (hq : q < 2 ^ 31) (hT : ¬ T s = nI q) (z0 : sa_kn K s q = 0 → post (-4) (K, B, P, T)) (z1 : ¬ sa_kn K s q = 0 → post (B (240 * s + q)) (K, B, upd P s (nI (q + 1)), T)) : wpY_read post (K, B, P, T) (nI s) := by
  have hc := sa_c31 hs
  have hv := sa_v4 hs
  unfold wpY_read
  dsimp only
  refine ys_ok hs (br_t rfl (And.intro hv (And.intro hv ?_)))
  rw [hc, hP]
  refine br_f hT (And.intro hv (ys_known hs hq ?_))
  by_cases c : sa_kn K s q = 0
  · exact br_t c (z0 c)
  · have l := (sa_knI c).1
    have hd : (nI (240 * s + q)).toNatClampNeg = 240 * s + q := nI_clamp (by omega)
    have ei : 240 * nI s + nI (q + 1) - 1 = nI (240 * s + q) := by rw [sa_ix]; exact nI_pred _
    refine br_f c (And.intro hv (And.intro hv (nm_r (e' := upd P s (nI (q + 1))) (by rw [nI_1]) ?_)))
    rw [pk_us, ei, hd]
    exact And.intro hv (And.intro (vp_in_nI (by omega) (by decide)) (z1 c))
theorem i_vc_read {k : Nat} {u : SX} {v : SY} (I : i_Rel k u v) (hk : k + 5 ≤ 2560) (v1 : Int32) : wpX_read (fun r u' => wpY_read (fun r' v' => r' = r ∧ i_Rel (k + 5) u' v') v v1) u v1 := by
  obtain ⟨K, B, P, H, E, T, p, h, rfl, rfl, I⟩ := I
  unfold wpX_read
  dsimp only
  rcases sa_cs v1 with hb | ⟨s, hs, rfl⟩
  · refine xs_bad hb (br_t rfl ?_)
    unfold wpY_read
    exact ys_bad hb (br_f (by decide) ⟨rfl, rl_mk I⟩)
  · have O := I.1 s hs
    have hc := sa_c31 hs
    have hv := sa_v4 hs
    have h3 := O.2.2.1
    have h4 := O.2.2.2.1
    rw [hc, O.2.1, O.1]
    refine xs_ok hs (br_f (by decide) (And.intro hv (nm_e (And.intro hv ?_))))
    have go : ¬ T s = nI (p s) → wX_read_38 (fun r u' => wpY_read (fun r' v' => r' = r ∧ i_Rel (k + 5) u' v') (K, B, P, T) (nI s)) (nI s) (nI (p s)) K B P H E := fun hT =>
      xr_38 hs (by omega) (fun c => yr_go hs O.1 (by omega) hT (fun _ => ⟨rfl, rl_mk I⟩) (fun d => absurd c d)) (fun c => yr_go hs O.1 (by omega) hT (fun d => absurd d c) (fun _ => ⟨rfl, rl_mk (sa_read I hs c)⟩))
    rcases O.2.2.2.2.2.2 with ⟨a, b, z⟩ | ⟨a, b⟩
    · refine br_t a (go ?_)
      rw [b]
      intro e
      have e2 : nI (p s) < 0 := by rw [← e]; decide
      exact nI_pos (by omega) e2
    · refine br_f (by rw [a]; decide) (And.intro hv ?_)
      by_cases c : nI (p s) = nI (h s)
      · refine br_t c ?_
        unfold wpY_read
        refine ys_ok hs (br_t rfl (And.intro hv (And.intro hv ?_)))
        rw [hc]
        exact br_t (by rw [b, O.1]; exact c.symm) ⟨rfl, rl_mk I⟩
      · exact br_f c (go (fun e => c (e.symm.trans b)))
/-! finish -/
theorem xf_45 {post : Int32 → SX → Prop} {K B P H E T : Nat → Int32} {p h : Nat → Nat} {s e : Nat} (I : sa_Inv K P H E T p h) (hs : s < 4) (he : e < 2 ^ 31) (z0 : ¬ e ≤ sa_fb p h s → post (-2) (K, B, P, H, E)) (z1 : e ≤ sa_fb p h s → post 0 (K, B, P, upd H s (nI e), upd E s 1)) : wX_finish_45 post (nI s) (nI e) K B P H E := by
  have hc := sa_c31 hs
  have hv := sa_v4 hs
  have b4 := sa_limLe p s
  have b5 := sa_fbLe p h s
  unfold wX_finish_45
  refine xs_flow I hs ?_
  rw [hc, sa_nb]
  exact pk_le e (sa_fb p h s) (fun c => And.intro hv (nm_e (And.intro hv (nm_e (z1 c))))) (fun c => z0 (by omega))
theorem yf_32 {post : Int32 → SY → Prop} {K B P H E T : Nat → Int32} {p h : Nat → Nat} {s e : Nat} (I : sa_Inv K P H E T p h) (hs : s < 4) (he : e < 2 ^ 31) (hh : h s ≤ e) (z0 : ¬ e ≤ sa_fb p h s → post (-2) (K, B, P, T)) (z1 : e ≤ sa_fb p h s → post 0 (K, B, P, upd T s (nI e))) : wY_finish_32 post (nI s) (nI e) K B P T := by
  have hc := sa_c31 hs
  have hv := sa_v4 hs
  unfold wY_finish_32
  refine ys_top I hs (br_t (nI_le hh he) (ys_fits I hs he ?_))
  rw [hc]
  by_cases c : e ≤ sa_fb p h s
  · rw [if_pos c]
    exact br_f (by decide) (And.intro hv (nm_e (z1 c)))
  · rw [if_neg c]
    exact br_t rfl (z0 c)
theorem i_vc_finish {k : Nat} {u : SX} {v : SY} (I : i_Rel k u v) (hk : k + 5 ≤ 2560) (v1 : Int32) (v2 : Int32) : wpX_finish (fun r u' => wpY_finish (fun r' v' => r' = r ∧ i_Rel (k + 5) u' v') v v1 v2) u v1 v2 := by
  obtain ⟨K, B, P, H, E, T, p, h, rfl, rfl, I⟩ := I
  unfold wpX_finish wpY_finish
  dsimp only
  rcases sa_cs v1 with hb | ⟨s, hs, rfl⟩
  · exact xs_bad hb (br_t rfl (ys_bad hb (br_f (by decide) ⟨rfl, rl_mk I⟩)))
  · have O := I.1 s hs
    have hc := sa_c31 hs
    have hv := sa_v4 hs
    have h4 := O.2.2.2.1
    rw [hc, O.2.1]
    refine xs_ok hs (br_f (by decide) ?_)
    by_cases hn : v2 < 0
    · have hm : ¬ 0 ≤ v2 := Int32.not_le.mpr hn
      exact br_f hm (ys_ok hs (br_t rfl (br_f hm ⟨rfl, rl_mk I⟩)))
    · have hm : 0 ≤ v2 := Int32.not_lt.mp hn
      obtain ⟨e, he, rfl⟩ := nI_of hn
      refine br_t hm (And.intro hv ?_)
      refine pk_lt e (h s) (fun c => ?_) (fun c => ?_)
      · refine ys_ok hs (br_t rfl (br_t hm (And.intro hv ?_)))
        rcases O.2.2.2.2.2.2 with ⟨a, b, z⟩ | ⟨a, b⟩
        · refine br_t (by rw [b]; decide) ?_
          unfold wY_finish_32
          exact ys_top I hs (br_f (nI_ge c (by omega)) ⟨rfl, rl_mk I⟩)
        · rw [b]
          refine br_f (nI_pos (by omega)) (And.intro hv (br_f ?_ ⟨rfl, rl_mk I⟩))
          intro q
          rw [nI_eq (by omega) he] at q
          omega
      · refine And.intro hv ?_
        rcases O.2.2.2.2.2.2 with ⟨a, b, z⟩ | ⟨a, b⟩
        · have tn : T s < 0 := by rw [b]; decide
          refine br_t a (xf_45 I hs he (fun d => ?_) (fun d => ?_))
          · exact ys_ok hs (br_t rfl (br_t hm (And.intro hv (br_t tn (yf_32 I hs he c (fun _ => ⟨rfl, rl_mk I⟩) (fun q => absurd q d))))))
          · exact ys_ok hs (br_t rfl (br_t hm (And.intro hv (br_t tn (yf_32 I hs he c (fun q => absurd d q) (fun _ => ⟨rfl, rl_mk (sa_fin I hs c d)⟩))))))
        · have tn : ¬ T s < 0 := by rw [b]; exact nI_pos (by omega)
          refine br_f (by rw [a]; decide) (And.intro hv ?_)
          by_cases w : nI e = nI (h s)
          · have tw : T s = nI e := b.trans w.symm
            refine br_t w (xf_45 I hs he (fun d => ?_) (fun d => ?_))
            · exact ys_ok hs (br_t rfl (br_t hm (And.intro hv (br_f tn (And.intro hv (br_t tw (yf_32 I hs he c (fun _ => ⟨rfl, rl_mk I⟩) (fun q => absurd q d))))))))
            · exact ys_ok hs (br_t rfl (br_t hm (And.intro hv (br_f tn (And.intro hv (br_t tw (yf_32 I hs he c (fun q => absurd d q) (fun _ => ⟨rfl, rl_mk (sa_fin I hs c d)⟩))))))))
          · exact br_f w (ys_ok hs (br_t rfl (br_t hm (And.intro hv (br_f tn (And.intro hv (br_f (fun q => w (q.symm.trans b)) ⟨rfl, rl_mk I⟩)))))))
end
section
/-! piece -/
/-- what a wrong offset or length is, in the order of both sides' tests -/
def pc_bad (o l : Int32) : Prop := l < 1 ∨ (¬ l < 1 ∧ 4 < l) ∨ (¬ l < 1 ∧ ¬ 4 < l ∧ o < 0) ∨ (¬ l < 1 ∧ ¬ 4 < l ∧ ¬ o < 0 ∧ 1000 < o)
theorem pc_cs (o l : Int32) : pc_bad o l ∨ ∃ a b : Nat, a ≤ 1000 ∧ 1 ≤ b ∧ b ≤ 4 ∧ o = nI a ∧ l = nI b := by
  by_cases h1 : l < 1
  · exact Or.inl (Or.inl h1)
  by_cases h2 : 4 < l
  · exact Or.inl (Or.inr (Or.inl ⟨h1, h2⟩))
  by_cases h3 : o < 0
  · exact Or.inl (Or.inr (Or.inr (Or.inl ⟨h1, h2, h3⟩)))
  by_cases h4 : 1000 < o
  · exact Or.inl (Or.inr (Or.inr (Or.inr ⟨h1, h2, h3, h4⟩)))
  have h0 : ¬ l < 0 := fun z => h1 (Int32.lt_trans z (by decide))
  obtain ⟨a, ha, rfl⟩ := nI_of h3
  obtain ⟨b, hb, rfl⟩ := nI_of h0
  refine Or.inr ⟨a, b, ?_, ?_, ?_, rfl, rfl⟩
  · have q : ¬ nI 1000 < nI a := h4
    rw [nI_ltI (by decide) ha] at q
    omega
  · have q : ¬ nI b < nI 1 := h1
    rw [nI_ltI hb (by decide)] at q
    omega
  · have q : ¬ nI 4 < nI b := h2
    rw [nI_ltI (by decide) hb] at q
    omega
theorem pc_X0 {post : Int32 → Prop} {o l : Int32} (hb : pc_bad o l) (hp : post 0) : wpX_isPiece post o l := by
  rcases hb with a | ⟨a, b⟩ | ⟨a, b, c⟩ | ⟨a, b, c, d⟩
  · exact br_t a hp
  · exact br_f a (br_t b hp)
  · exact br_f a (br_f b (br_t c hp))
  · exact br_f a (br_f b (br_f c (br_t d hp)))
theorem pc_X1 {post : Int32 → Prop} {a b : Nat} (ha : a ≤ 1000) (hb : 1 ≤ b) (hc : b ≤ 4) (hp : post 1) : wpX_isPiece post (nI a) (nI b) :=
  br_f (nI_nlt (b := 1) hb (by omega)) (br_f (nI_nlt (a := 4) hc (by decide)) (br_f (nI_pos (by omega)) (br_f (nI_nlt (a := 1000) ha (by decide)) hp)))
theorem pc_Y0 {post : Int32 → SY → Prop} {K B P T : Nat → Int32} {s : Nat} {o l x : Int32} (hs : s < 4) (hb : pc_bad o l) (hp : post (-1) (K, B, P, T)) : wpY_piece post (K, B, P, T) (nI s) o l x := by
  unfold wpY_piece
  dsimp only
  refine ys_ok hs (br_t rfl ?_)
  rcases hb with a | ⟨a, b⟩ | ⟨a, b, c⟩ | ⟨a, b, c, d⟩
  · exact br_t a hp
  · exact br_f a (br_t b hp)
  · exact br_f a (br_f b (br_t c hp))
  · exact br_f a (br_f b (br_f c (br_f (Int32.not_le.mpr d) hp)))
theorem pc_Y1 {post : Int32 → SY → Prop} {K B P T : Nat → Int32} {s a b : Nat} {x : Int32} (hs : s < 4) (ha : a ≤ 1000) (hb : 1 ≤ b) (hc : b ≤ 4) (w : (T s < 0 → wY_piece_54 post (nI s) (nI a) (nI b) x K B P T) ∧ (¬ T s < 0 → (nI (a + b) ≤ T s → wY_piece_54 post (nI s) (nI a) (nI b) x K B P T) ∧ (¬ nI (a + b) ≤ T s → post (-3) (K, B, P, T)))) : wpY_piece post (K, B, P, T) (nI s) (nI a) (nI b) x := by
  have hv := sa_v4 hs
  unfold wpY_piece
  dsimp only
  rw [sa_c31 hs, nI_add]
  exact ys_ok hs (br_t rfl (br_f (nI_nlt (b := 1) hb (by omega)) (br_f (nI_nlt (a := 4) hc (by decide)) (br_f (nI_pos (by omega)) (br_t (nI_le (b := 1000) ha (by decide)) (And.intro hv (br_c w.1 (fun c => And.intro hv (w.2 c)))))))))
theorem pc_X45 {post : Int32 → SX → Prop} {K B P H E T : Nat → Int32} {p h : Nat → Nat} {s a b : Nat} {x : Int32} (I : sa_Inv K P H E T p h) (hs : s < 4) (ha : a ≤ 1000) (hc : b ≤ 4) (z0 : ¬ a + b ≤ sa_fb p h s → post (-2) (K, B, P, H, E)) (z1 : a + b ≤ sa_fb p h s → a + b ≤ h s → ∃ n, wX_learn_6 post (nI s) (nI a) (nI b) x n 0 0 K B P H E) (z2 : a + b ≤ sa_fb p h s → ¬ a + b ≤ h s → ∃ n, wX_learn_6 post (nI s) (nI a) (nI b) x n 0 0 K B P (upd H s (nI (a + b))) E) : wX_piece_45 post (nI s) (nI a) (nI b) x (nI (a + b)) K B P H E := by
  have O := I.1 s hs
  have hv := sa_v4 hs
  have h4 := O.2.2.2.1
  have b4 := sa_limLe p s
  have b5 := sa_fbLe p h s
  unfold wX_piece_45
  refine xs_flow I hs ?_
  rw [sa_c31 hs, O.2.1]
  refine pk_le (a + b) (sa_fb p h s) (fun c => And.intro hv ?_) (fun c => z0 (by omega))
  refine pk_le (a + b) (h s) (fun d => ?_) (fun d => And.intro hv (nm_e ?_))
  · exact z1 c d
  · exact z2 c (by omega)
theorem pc_Y54 {post : Int32 → SY → Prop} {K B P H E T : Nat → Int32} {p h : Nat → Nat} {s a b : Nat} {x : Int32} (I : sa_Inv K P H E T p h) (hs : s < 4) (ha : a ≤ 1000) (hc : b ≤ 4) (z0 : ¬ a + b ≤ sa_fb p h s → post (-2) (K, B, P, T)) (z1 : a + b ≤ sa_fb p h s → ∃ n, wY_piece_74 post (nI s) (nI a) (nI b) x n 0 0 K B P T) : wY_piece_54 post (nI s) (nI a) (nI b) x K B P T := by
  unfold wY_piece_54
  rw [nI_add]
  refine ys_fits I hs (by omega) ?_
  by_cases c : a + b ≤ sa_fb p h s
  · rw [if_pos c]
    exact br_f (by decide) (z1 c)
  · rw [if_neg c]
    exact br_t rfl (z0 c)
/-- both sides from the flow test on: w says how the reference comes there -/
theorem pc_go {k : Nat} {K B P H E T : Nat → Int32} {p h : Nat → Nat} {s a b : Nat} {x : Int32} (I : sa_Inv K P H E T p h) (hs : s < 4) (ha : a ≤ 1000) (hb : 1 ≤ b) (hc : b ≤ 4) (he : E s = 0 ∨ a + b ≤ h s) (w : ∀ post : Int32 → SY → Prop, wY_piece_54 post (nI s) (nI a) (nI b) x K B P T → wpY_piece post (K, B, P, T) (nI s) (nI a) (nI b) x) : wX_piece_45 (fun r u' => wpY_piece (fun r' v' => r' = r ∧ i_Rel (k + 5) u' v') (K, B, P, T) (nI s) (nI a) (nI b) x) (nI s) (nI a) (nI b) x (nI (a + b)) K B P H E := by
  have b4 := sa_limLe p s
  have b5 := sa_fbLe p h s
  refine pc_X45 I hs ha hc (fun d => ?_) (fun d e => ?_) (fun d e => ?_)
  · exact w _ (pc_Y54 I hs ha hc (fun _ => ⟨rfl, rl_mk I⟩) (fun q => absurd q d))
  · obtain ⟨K', B', c', hX, hY, k1, k2⟩ := pl_learn P H E T x hs (by omega : a + b ≤ 240) b 0 0 K B (by omega)
    exact ⟨_, hX _ (w _ (pc_Y54 I hs ha hc (fun q => absurd d q) (fun _ => ⟨_, hY _ ⟨rfl, rl_mk (sa_pieceA I hs e k1 k2)⟩⟩)))⟩
  · obtain ⟨K', B', c', hX, hY, k1, k2⟩ := pl_learn P (upd H s (nI (a + b))) E T x hs (by omega : a + b ≤ 240) b 0 0 K B (by omega)
    have hE : E s = 0 := he.resolve_right e
    exact ⟨_, hX _ (w _ (pc_Y54 I hs ha hc (fun q => absurd d q) (fun _ => ⟨_, hY _ ⟨rfl, rl_mk (sa_pieceB I hs hb hE (by omega) d k1 k2)⟩⟩)))⟩
theorem i_vc_piece {k : Nat} {u : SX} {v : SY} (I : i_Rel k u v) (hk : k + 5 ≤ 2560) (v1 : Int32) (v2 : Int32) (v3 : Int32) (v4 : Int32) : wpX_piece (fun r u' => wpY_piece (fun r' v' => r' = r ∧ i_Rel (k + 5) u' v') v v1 v2 v3 v4) u v1 v2 v3 v4 := by
  obtain ⟨K, B, P, H, E, T, p, h, rfl, rfl, I⟩ := I
  unfold wpX_piece
  dsimp only
  rcases sa_cs v1 with hb | ⟨s, hs, rfl⟩
  · refine xs_bad hb (br_t rfl ?_)
    unfold wpY_piece
    exact ys_bad hb (br_f (by decide) ⟨rfl, rl_mk I⟩)
  · refine xs_ok hs (br_f (by decide) ?_)
    rcases pc_cs v2 v3 with hb | ⟨a, b, ha, hb, hc, rfl, rfl⟩
    · exact pc_X0 hb (br_t rfl (pc_Y0 hs hb ⟨rfl, rl_mk I⟩))
    · have O := I.1 s hs
      have hv := sa_v4 hs
      have h4 := O.2.2.2.1
      refine pc_X1 ha hb hc (br_f (by decide) (nm_r (nI_add a b) (And.intro hv ?_)))
      rw [sa_c31 hs, O.2.1]
      rcases O.2.2.2.2.2.2 with ⟨e, t, z⟩ | ⟨e, t⟩
      · have tn : T s < 0 := by rw [t]; decide
        exact br_t e (pc_go I hs ha hb hc (Or.inl e) (fun post q => pc_Y1 hs ha hb hc (br_t tn q)))
      · have tn : ¬ T s < 0 := by rw [t]; exact nI_pos (by omega)
        refine br_f (by rw [e]; decide) (And.intro hv ?_)
        refine pk_le (a + b) (h s) (fun c => ?_) (fun c => ?_)
        · have tc : nI (a + b) ≤ T s := by rw [t]; exact nI_le c (by omega)
          exact pc_go I hs ha hb hc (Or.inr c) (fun post q => pc_Y1 hs ha hb hc (br_f tn (br_t tc q)))
        · have tc : ¬ nI (a + b) ≤ T s := by rw [t]; exact nI_ge c (by omega)
          exact pc_Y1 hs ha hb hc (br_f tn (br_f tc ⟨rfl, rl_mk I⟩))
end
