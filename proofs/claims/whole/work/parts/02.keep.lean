/-! what each storing method does to the relation -/
theorem sa_read {K P H E T : Nat → Int32} {p h : Nat → Nat} {s : Nat} (I : sa_Inv K P H E T p h) (hs : s < 4) (c : ¬ sa_kn K s (p s) = 0) : sa_Inv K (upd P s (nI (p s + 1))) H E T (sa_up p s (p s + 1)) h := by
  have O := I.1 s hs
  have lt : p s < h s := by
    by_cases q : h s ≤ p s
    · exact absurd (sa_knT O q) c
    · omega
  have e2 := sa_sumU (f := p) (p s + 1) hs
  have hI := I.2
  refine ⟨fun t ht => ?_, by omega⟩
  by_cases q : t = s
  · subst q
    obtain ⟨o1, o2, o3, o4, o5, o6, o7⟩ := O
    unfold sa_One
    rw [pk_us, sa_ups]
    exact ⟨rfl, o2, by omega, o4, by omega, o6, o7⟩
  · exact sa_fr (pk_un q) rfl rfl rfl (sa_upn q) rfl (fun _ _ => rfl) (I.1 t ht)
theorem sa_fin {K P H E T : Nat → Int32} {p h : Nat → Nat} {s e : Nat} (I : sa_Inv K P H E T p h) (hs : s < 4) (c : h s ≤ e) (d : e ≤ sa_fb p h s) : sa_Inv K P (upd H s (nI e)) (upd E s 1) (upd T s (nI e)) p (sa_up h s e) := by
  have O := I.1 s hs
  have e2 := sa_sumU (f := h) e hs
  have hI := I.2
  have l1 := sa_limLe p s
  have l2 := sa_fbLe p h s
  have hd : sa_left p h = 56 + sa_sum p - sa_sum h := rfl
  refine ⟨fun t ht => ?_, by omega⟩
  by_cases q : t = s
  · subst q
    obtain ⟨o1, o2, o3, o4, o5, o6, o7⟩ := O
    unfold sa_One
    rw [pk_us, pk_us, pk_us, sa_ups]
    exact ⟨o1, rfl, by omega, by omega, by omega, fun i a b => o6 i (by omega) b, Or.inr ⟨rfl, rfl⟩⟩
  · exact sa_fr rfl (pk_un q) (pk_un q) (pk_un q) rfl (sa_upn q) (fun _ _ => rfl) (I.1 t ht)
theorem sa_pieceA {K K' P H E T : Nat → Int32} {p h : Nat → Nat} {s o l : Nat} (I : sa_Inv K P H E T p h) (hs : s < 4) (c : o + l ≤ h s) (k1 : ∀ j, j < 240 * s + o ∨ 240 * s + o + l ≤ j → K' j = K j) (k2 : ∀ j, 240 * s + o ≤ j → j < 240 * s + o + l → ¬ K' j = 0) : sa_Inv K' P H E T p h := by
  have O := I.1 s hs
  refine ⟨fun t ht => ?_, I.2⟩
  by_cases q : t = s
  · subst q
    obtain ⟨o1, o2, o3, o4, o5, o6, o7⟩ := O
    refine ⟨o1, o2, o3, o4, o5, fun i a b => by rw [k1 _ (Or.inr (by omega))]; exact o6 i a b, ?_⟩
    rcases o7 with ⟨a, b, z⟩ | z
    · refine Or.inl ⟨a, b, ?_⟩
      rcases z with z | z
      · exact Or.inl z
      · refine Or.inr ?_
        by_cases w : 240 * t + o ≤ 240 * t + (h t - 1) ∧ 240 * t + (h t - 1) < 240 * t + o + l
        · exact k2 _ w.1 w.2
        · rw [k1 _ (by omega)]; exact z
    · exact Or.inr z
  · have O4 := O.2.2.2.1
    exact sa_fr rfl rfl rfl rfl rfl rfl (fun i hi => k1 _ (by omega)) (I.1 t ht)
theorem sa_pieceB {K K' P H E T : Nat → Int32} {p h : Nat → Nat} {s o l : Nat} (I : sa_Inv K P H E T p h) (hs : s < 4) (hl : 1 ≤ l) (hE : E s = 0) (c : h s ≤ o + l) (d : o + l ≤ sa_fb p h s) (k1 : ∀ j, j < 240 * s + o ∨ 240 * s + o + l ≤ j → K' j = K j) (k2 : ∀ j, 240 * s + o ≤ j → j < 240 * s + o + l → ¬ K' j = 0) : sa_Inv K' P (upd H s (nI (o + l))) E T p (sa_up h s (o + l)) := by
  have O := I.1 s hs
  have e2 := sa_sumU (f := h) (o + l) hs
  have hI := I.2
  have l1 := sa_limLe p s
  have l2 := sa_fbLe p h s
  have hd : sa_left p h = 56 + sa_sum p - sa_sum h := rfl
  refine ⟨fun t ht => ?_, by omega⟩
  by_cases q : t = s
  · subst q
    obtain ⟨o1, o2, o3, o4, o5, o6, o7⟩ := O
    unfold sa_One
    rw [pk_us, sa_ups]
    refine ⟨o1, rfl, by omega, by omega, by omega, fun i a b => by rw [k1 _ (Or.inr (by omega))]; exact o6 i (by omega) b, ?_⟩
    rcases o7 with ⟨a, b, z⟩ | ⟨a, b⟩
    · exact Or.inl ⟨a, b, Or.inr (k2 _ (by omega) (by omega))⟩
    · rw [hE] at a
      exact absurd a (by decide)
  · exact sa_fr rfl (pk_un q) rfl rfl rfl (sa_upn q) (fun i hi => k1 _ (by omega)) (I.1 t ht)
theorem sa_new {T : Nat → Int32} (hT : ∀ s, s < 4 → T s = -1) : sa_Inv (fun _ => 0) (fun _ => 0) (fun _ => 0) (fun _ => 0) T (fun _ => 0) (fun _ => 0) := by
  refine ⟨fun s hs => ⟨rfl, rfl, Nat.le_refl _, Nat.zero_le _, Nat.zero_le _, fun _ _ _ => rfl, Or.inl ⟨rfl, hT s hs, Or.inl rfl⟩⟩, ?_⟩
  exact (by decide : sa_sum (fun _ => 0) ≤ sa_sum (fun _ => 0) + 56)
