/-! numbers and stores: rows pk_ pasted from kit/rows -/
theorem pk_us {f : Nat → Int32} {k : Nat} {x : Int32} : upd f k x k = x := if_pos rfl
theorem pk_un {f : Nat → Int32} {k j : Nat} {x : Int32} (h : j ≠ k) : upd f k x j = f j := if_neg h
theorem pk_sub {a b : Nat} (h : b ≤ a) : nI a - nI b = nI (a - b) := by
  obtain ⟨c, rfl⟩ : ∃ c, a = c + b := ⟨a - b, by omega⟩
  rw [← nI_add, Int32.add_sub_cancel, Nat.add_sub_cancel]
theorem pk_m1 (n : Nat) : nI (n + 1) + (-1) = nI n := by
  rw [← nI_1, Int32.add_assoc, show (1 : Int32) + (-1) = 0 from rfl, Int32.add_zero]
theorem pk_mul (a b : Nat) : nI a * nI b = nI (a * b) := (Int32.ofNat_mul a b).symm
theorem pk_le {x y : Int32} {A B : Prop} (a b : Nat) (f : a ≤ b → A) (g : b < a → B) (hx : x = nI a := by rfl) (hy : y = nI b := by rfl) (ha : a < 2 ^ 31 := by omega) (hb : b < 2 ^ 31 := by omega) : (x ≤ y → A) ∧ (¬ x ≤ y → B) := by
  subst hx hy
  rw [nI_leI ha hb]
  exact ⟨f, fun z => g (by omega)⟩
theorem pk_lt {x y : Int32} {A B : Prop} (a b : Nat) (f : a < b → A) (g : b ≤ a → B) (hx : x = nI a := by rfl) (hy : y = nI b := by rfl) (ha : a < 2 ^ 31 := by omega) (hb : b < 2 ^ 31 := by omega) : (x < y → A) ∧ (¬ x < y → B) := by
  subst hx hy
  rw [nI_ltI ha hb]
  exact ⟨f, fun z => g (by omega)⟩
theorem pk_eq {x y : Int32} {A B : Prop} (a b : Nat) (f : a = b → A) (g : a ≠ b → B) (hx : x = nI a := by rfl) (hy : y = nI b := by rfl) (ha : a < 2 ^ 31 := by omega) (hb : b < 2 ^ 31 := by omega) : (x = y → A) ∧ (¬ x = y → B) := by
  subst hx hy
  rw [nI_eq ha hb]
  exact ⟨f, g⟩
theorem pk_in {x : Int32} (n N : Nat) (h : n < N) (hx : x = nI n := by rfl) (hN : N < 2 ^ 31 := by omega) : vp_in x N := by
  subst hx
  exact vp_in_nI h hN
theorem pk_cl {x : Int32} (n : Nat) (hx : x = nI n := by rfl) (h : n < 2 ^ 31 := by omega) : x.toNatClampNeg = n := by
  subst hx
  exact nI_clamp h
/-! the cell of byte i of stream s, and small sums -/
theorem sa_ix (s i : Nat) : (240 : Int32) * nI s + nI i = nI (240 * s + i) := by
  show nI 240 * nI s + nI i = _
  rw [pk_mul, nI_add]
theorem sa_xi (s i : Nat) : nI s * (240 : Int32) + nI i = nI (240 * s + i) := by
  show nI s * nI 240 + nI i = _
  rw [pk_mul, nI_add, Nat.mul_comm]
theorem sa_pr {i : Nat} (h : 0 < i) : nI i - 1 = nI (i - 1) := pk_sub (b := 1) h
theorem sa_dif {a p h : Nat} (hh : h ≤ a + p) : nI a + (nI p - nI h) = nI (a + p - h) := by
  rw [← pk_sub hh, ← nI_add, Int32.sub_eq_add_neg, Int32.sub_eq_add_neg, Int32.add_assoc]
theorem sa_cl {i : Nat} (h : i < 2 ^ 31) : (nI i).toNatClampNeg = i := nI_clamp h
def sa_sum (f : Nat → Nat) : Nat := f 0 + f 1 + f 2 + f 3
def sa_up (f : Nat → Nat) (s v : Nat) : Nat → Nat := fun j => if j = s then v else f j
theorem sa_ups {f : Nat → Nat} {s v : Nat} : sa_up f s v s = v := if_pos rfl
theorem sa_upn {f : Nat → Nat} {s v j : Nat} (h : j ≠ s) : sa_up f s v j = f j := if_neg h
theorem sa_c4 {s : Nat} (h : s < 4) : s = 0 ∨ s = 1 ∨ s = 2 ∨ s = 3 := by omega
theorem sa_sumU {f : Nat → Nat} {s : Nat} (v : Nat) (h : s < 4) : sa_sum (sa_up f s v) + f s = sa_sum f + v := by
  rcases sa_c4 h with rfl | rfl | rfl | rfl <;> simp [sa_sum, sa_up] <;> omega
theorem sa_sumG {f : Nat → Nat} {s : Nat} (h : s < 4) : f s ≤ sa_sum f := by
  rcases sa_c4 h with rfl | rfl | rfl | rfl <;> simp [sa_sum] <;> omega
/-! the relation: known, bytes and read points are the same; p, h are the read points and the highests as naturals -/
def sa_One (K P H E T : Nat → Int32) (p h : Nat → Nat) (s : Nat) : Prop :=
  P s = nI (p s) ∧ H s = nI (h s) ∧ p s ≤ h s ∧ h s ≤ 240 ∧ h s ≤ p s + 24 ∧ (∀ i, h s ≤ i → i < 240 → K (240 * s + i) = 0) ∧
  ((E s = 0 ∧ T s = -1 ∧ (h s = 0 ∨ ¬ K (240 * s + (h s - 1)) = 0)) ∨ (E s = 1 ∧ T s = nI (h s)))
def sa_Inv (K P H E T : Nat → Int32) (p h : Nat → Nat) : Prop :=
  (∀ s, s < 4 → sa_One K P H E T p h s) ∧ sa_sum h ≤ sa_sum p + 56
theorem sa_fr {K P H E T K' P' H' E' T' : Nat → Int32} {p h p' h' : Nat → Nat} {s : Nat} (hP : P' s = P s) (hH : H' s = H s) (hE : E' s = E s) (hT : T' s = T s) (hp : p' s = p s) (hh : h' s = h s) (hK : ∀ i, i < 240 → K' (240 * s + i) = K (240 * s + i)) (o : sa_One K P H E T p h s) : sa_One K' P' H' E' T' p' h' s := by
  unfold sa_One at o ⊢
  rw [hP, hH, hE, hT, hp, hh]
  obtain ⟨o1, o2, o3, o4, o5, o6, o7⟩ := o
  refine ⟨o1, o2, o3, o4, o5, fun i a b => by rw [hK i b]; exact o6 i a b, ?_⟩
  rw [hK (h s - 1) (by omega)]
  exact o7
/-! the limits -/
def sa_left (p h : Nat → Nat) : Nat := 56 + sa_sum p - sa_sum h
def sa_lim (p : Nat → Nat) (s : Nat) : Nat := if p s + 24 < 240 then p s + 24 else 240
def sa_fb (p h : Nat → Nat) (s : Nat) : Nat := if sa_lim p s < h s + sa_left p h then sa_lim p s else h s + sa_left p h
def sa_tp (h : Nat → Nat) (s e : Nat) : Nat → Nat := fun j => if j = s ∧ h j < e then e else h j
theorem sa_limLe (p : Nat → Nat) (s : Nat) : sa_lim p s ≤ 240 ∧ sa_lim p s ≤ p s + 24 := by
  unfold sa_lim; split <;> omega
theorem sa_fbLe (p h : Nat → Nat) (s : Nat) : sa_fb p h s ≤ sa_lim p s ∧ sa_fb p h s ≤ h s + sa_left p h := by
  unfold sa_fb; split <;> omega
theorem sa_hFb {K P H E T : Nat → Int32} {p h : Nat → Nat} {s : Nat} (o : sa_One K P H E T p h s) : h s ≤ sa_fb p h s := by
  obtain ⟨o1, o2, o3, o4, o5, o6, o7⟩ := o
  unfold sa_fb sa_lim; split <;> (try split) <;> omega
theorem sa_fit {K P H E T : Nat → Int32} {p h : Nat → Nat} {s e : Nat} (I : sa_Inv K P H E T p h) (hs : s < 4) (he : e ≤ sa_lim p s) : sa_sum (sa_tp h s e) ≤ sa_sum p + 56 ↔ e ≤ sa_fb p h s := by
  have hb := sa_hFb (I.1 s hs)
  have hI := I.2
  have hg := sa_sumG (f := h) hs
  by_cases c : h s < e
  · have e1 : sa_tp h s e = sa_up h s e := by
      funext j
      unfold sa_tp sa_up
      by_cases q : j = s
      · subst q; simp [c]
      · simp [q]
    have e2 := sa_sumU (f := h) e hs
    rw [e1]
    unfold sa_fb sa_left
    split <;> omega
  · have e1 : sa_tp h s e = h := by
      funext j
      unfold sa_tp
      by_cases q : j = s
      · subst q; simp [c]
      · simp [q]
    rw [e1]
    omega
/-! what a lookup answers -/
def sa_kn (K : Nat → Int32) (s o : Nat) : Int32 := if o < 240 ∧ ¬ K (240 * s + o) = 0 then 1 else 0
def sa_gb (K : Nat → Int32) (s p o : Nat) : Int32 := if sa_kn K s o = 0 then (if o = p then 1 else sa_kn K s (o - 1)) else 0
theorem sa_kn1 {K : Nat → Int32} {s o : Nat} (h : o < 240) (k : ¬ K (240 * s + o) = 0) : sa_kn K s o = 1 := if_pos ⟨h, k⟩
theorem sa_kn0 {K : Nat → Int32} {s o : Nat} (k : K (240 * s + o) = 0) : sa_kn K s o = 0 := if_neg (fun z => z.2 k)
theorem sa_knG {K : Nat → Int32} {s o : Nat} (h : 240 ≤ o) : sa_kn K s o = 0 := if_neg (fun z => by omega)
theorem sa_knI {K : Nat → Int32} {s o : Nat} (h : ¬ sa_kn K s o = 0) : o < 240 ∧ ¬ K (240 * s + o) = 0 := by
  by_cases c : o < 240 ∧ ¬ K (240 * s + o) = 0
  · exact c
  · exact absurd (if_neg c) h
theorem sa_knT {K P H E T : Nat → Int32} {p h : Nat → Nat} {s o : Nat} (O : sa_One K P H E T p h s) (c : h s ≤ o) : sa_kn K s o = 0 := by
  obtain ⟨o1, o2, o3, o4, o5, o6, o7⟩ := O
  by_cases q : o < 240
  · exact sa_kn0 (o6 o c q)
  · exact sa_knG (by omega)
