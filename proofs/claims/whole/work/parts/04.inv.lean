def cn_tk (ra : Nat → Nat) (k s : Nat) : Nat := (s + ra k - 1) / ra k
theorem cn_tk_pos {ra : Nat → Nat} {k s : Nat} (h1 : 1 ≤ ra k) (h2 : 1 ≤ s) : 1 ≤ cn_tk ra k s := by
  unfold cn_tk
  exact (Nat.le_div_iff_mul_le (by omega)).mpr (by omega)
theorem cn_tk_le {ra : Nat → Nat} {k s : Nat} (h1 : ra k ≤ 9) (h2 : s ≤ 30) : cn_tk ra k s ≤ 38 := by
  unfold cn_tk
  have := Nat.div_le_self (s + ra k - 1) (ra k)
  omega
def cn_up (f : Nat → Nat) (k x : Nat) : Nat → Nat := fun j => if j = k then x else f j
theorem cn_up_s {f : Nat → Nat} {k x : Nat} : cn_up f k x k = x := if_pos rfl
theorem cn_up_n {f : Nat → Nat} {k j x : Nat} (h : j ≠ k) : cn_up f k x j = f j := if_neg h
theorem cn_upd (f : Nat → Nat) (k x : Nat) : upd (fun j => nI (f j)) k (nI x) = fun j => nI (cn_up f k x j) := by
  funext j
  unfold upd cn_up
  by_cases h : j = k
  · rw [if_pos h, if_pos h]
  · rw [if_neg h, if_neg h]
def cn_up2 (f : Nat → Nat → Nat) (b i x : Nat) : Nat → Nat → Nat := fun b' i' => if b' = b ∧ i' = i then x else f b' i'
theorem cn_up2_s {f : Nat → Nat → Nat} {b i x : Nat} : cn_up2 f b i x b i = x := if_pos ⟨rfl, rfl⟩
theorem cn_up2_n {f : Nat → Nat → Nat} {b i b' i' x : Nat} (h : ¬ (b' = b ∧ i' = i)) : cn_up2 f b i x b' i' = f b' i' := if_neg h
def cn_fill (T : Nat → Int32) (lo n : Nat) (v : Int32) : Nat → Int32 := fun j => if lo ≤ j ∧ j < lo + n then v else T j
def cn_cov (bc : Nat) (ra sz hc : Nat → Nat) (oc ob : Nat → Nat → Nat) (b i k t : Nat) : Prop :=
  b < bc ∧ i < hc b ∧ oc b i = k ∧ ob b i ≤ t ∧ t < ob b i + cn_tk ra k (sz b)
def cn_nd (so tt : Nat → Nat) (oc : Nat → Nat → Nat) (b : Nat) : Nat → Nat
  | 0 => so b
  | i + 1 => tt (oc b i)
def cn_Ti (T : Nat → Int32) (P : Nat → Nat → Prop) : Prop :=
  ∀ k t, k < 10 → t < 100 → (T (k * 100 + t) = 0 ∨ T (k * 100 + t) = 1) ∧ (T (k * 100 + t) = 1 ↔ P k t)
theorem cn_Ti_x {T : Nat → Int32} {P Q : Nat → Nat → Prop} (h : cn_Ti T P) (e : ∀ k t, k < 10 → t < 100 → (P k t ↔ Q k t)) : cn_Ti T Q :=
  fun k t hk ht => ⟨(h k t hk ht).1, (h k t hk ht).2.trans (e k t hk ht)⟩
theorem cn_Ti_1 {T : Nat → Int32} {P : Nat → Nat → Prop} (h : cn_Ti T P) {k0 x n : Nat} (hx : x + n ≤ 100) : cn_Ti (cn_fill T (k0 * 100 + x) n 1) (fun k t => P k t ∨ (k = k0 ∧ x ≤ t ∧ t < x + n)) := by
  intro k t hk ht
  obtain ⟨h1, h2⟩ := h k t hk ht
  by_cases c : k = k0 ∧ x ≤ t ∧ t < x + n
  · have e : cn_fill T (k0 * 100 + x) n 1 (k * 100 + t) = 1 := if_pos (by omega)
    rw [e]
    exact ⟨Or.inr rfl, fun _ => Or.inr c, fun _ => rfl⟩
  · have e : cn_fill T (k0 * 100 + x) n 1 (k * 100 + t) = T (k * 100 + t) := if_neg (by omega)
    rw [e]
    exact ⟨h1, fun z => Or.inl (h2.mp z), fun z => h2.mpr (z.resolve_right c)⟩
theorem cn_Ti_0 {T : Nat → Int32} {P : Nat → Nat → Prop} (h : cn_Ti T P) {k0 x n : Nat} (hx : x + n ≤ 100) : cn_Ti (cn_fill T (k0 * 100 + x) n 0) (fun k t => P k t ∧ ¬ (k = k0 ∧ x ≤ t ∧ t < x + n)) := by
  intro k t hk ht
  obtain ⟨h1, h2⟩ := h k t hk ht
  by_cases c : k = k0 ∧ x ≤ t ∧ t < x + n
  · have e : cn_fill T (k0 * 100 + x) n 0 (k * 100 + t) = 0 := if_pos (by omega)
    rw [e]
    exact ⟨Or.inl rfl, fun z => absurd z (by decide), fun z => absurd c z.2⟩
  · have e : cn_fill T (k0 * 100 + x) n 0 (k * 100 + t) = T (k * 100 + t) := if_neg (by omega)
    rw [e]
    exact ⟨h1, fun z => ⟨h2.mp z, c⟩, fun z => h2.mpr z.1⟩
/-- the contacts that there are -/
def cn_Net (cc : Nat) (fr tt st en ra de : Nat → Nat) : Prop :=
  cc ≤ 10 ∧ ∀ k, k < cc → fr k < 6 ∧ tt k < 6 ∧ fr k ≠ tt k ∧ st k < en k ∧ en k ≤ 100 ∧ 1 ≤ ra k ∧ ra k ≤ 9 ∧ de k ≤ 9
/-- the bookings that there are: each a good one, no tick twice, the ticks as they are held -/
def cn_Bk (cc bc : Nat) (fr tt st en ra so sz hc : Nat → Nat) (oc ob : Nat → Nat → Nat) (T : Nat → Int32) : Prop :=
  (∀ b i, b < bc → i < hc b → oc b i < cc ∧ st (oc b i) ≤ ob b i ∧ ob b i + cn_tk ra (oc b i) (sz b) ≤ en (oc b i) ∧ fr (oc b i) = cn_nd so tt oc b i) ∧
  (∀ b i b' i' k t, cn_cov bc ra sz hc oc ob b i k t → cn_cov bc ra sz hc oc ob b' i' k t → b = b' ∧ i = i') ∧
  cn_Ti T (fun k t => ∃ b i, cn_cov bc ra sz hc oc ob b i k t)
section
variable {cc bc : Nat} {fr tt st en ra de so sz hc : Nat → Nat} {oc ob : Nat → Nat → Nat} {T : Nat → Int32}
theorem cn_cov_app {b0 k0 x : Nat} (hb : b0 < bc) (hn : 0 < cn_tk ra k0 (sz b0)) (b i k t : Nat) :
    cn_cov bc ra sz (cn_up hc b0 (hc b0 + 1)) (cn_up2 oc b0 (hc b0) k0) (cn_up2 ob b0 (hc b0) x) b i k t ↔ cn_cov bc ra sz hc oc ob b i k t ∨ (b = b0 ∧ i = hc b0 ∧ k = k0 ∧ x ≤ t ∧ t < x + cn_tk ra k0 (sz b0)) := by
  unfold cn_cov
  by_cases e : b = b0 ∧ i = hc b0
  · obtain ⟨e1, e2⟩ := e
    rw [e1, e2, cn_up2_s, cn_up2_s, cn_up_s]
    constructor
    · rintro ⟨_, _, h3, h4, h5⟩
      rw [← h3] at h5
      exact Or.inr ⟨rfl, rfl, h3.symm, h4, h5⟩
    · rintro (⟨_, h2, _⟩ | ⟨_, _, h3, h4, h5⟩)
      · omega
      · rw [h3]; exact ⟨hb, by omega, rfl, h4, h5⟩
  · rw [cn_up2_n e, cn_up2_n e]
    constructor
    · rintro ⟨h1, h2, h3⟩
      refine Or.inl ⟨h1, ?_, h3⟩
      by_cases eb : b = b0
      · rw [eb, cn_up_s] at h2
        have : i ≠ hc b0 := fun z => e ⟨eb, z⟩
        rw [eb]; omega
      · rw [cn_up_n eb] at h2; exact h2
    · rintro (⟨h1, h2, h3⟩ | ⟨h1, h2, _⟩)
      · refine ⟨h1, ?_, h3⟩
        by_cases eb : b = b0
        · rw [eb, cn_up_s]; rw [eb] at h2; omega
        · rw [cn_up_n eb]; exact h2
      · exact absurd ⟨h1, h2⟩ e
theorem cn_app (N : cn_Net cc fr tt st en ra de) (H : cn_Bk cc bc fr tt st en ra so sz hc oc ob T) {b0 k0 x : Nat} (hb : b0 < bc) (hk : k0 < cc) (hs : 1 ≤ sz b0) (h1 : st k0 ≤ x) (h2 : x + cn_tk ra k0 (sz b0) ≤ en k0) (h3 : fr k0 = cn_nd so tt oc b0 (hc b0))
    (hf : ∀ t, x ≤ t → t < x + cn_tk ra k0 (sz b0) → T (k0 * 100 + t) = 0) :
    cn_Bk cc bc fr tt st en ra so sz (cn_up hc b0 (hc b0 + 1)) (cn_up2 oc b0 (hc b0) k0) (cn_up2 ob b0 (hc b0) x) (cn_fill T (k0 * 100 + x) (cn_tk ra k0 (sz b0)) 1) := by
  obtain ⟨H1, H2, H3⟩ := H
  obtain ⟨N1, N2⟩ := N
  obtain ⟨n1, n2, n3, n4, n5, n6, n7, n8⟩ := N2 k0 hk
  have hp := cn_tk_pos (ra := ra) (k := k0) (s := sz b0) n6 hs
  have hno : ∀ b i t, x ≤ t → t < x + cn_tk ra k0 (sz b0) → ¬ cn_cov bc ra sz hc oc ob b i k0 t := by
    intro b i t g1 g2 g3
    have z := (H3 k0 t (by omega) (by omega)).2.mpr ⟨b, i, g3⟩
    rw [hf t g1 g2] at z
    exact absurd z (by decide)
  refine ⟨?_, ?_, ?_⟩
  · intro b i hb2 hi
    by_cases e : b = b0 ∧ i = hc b0
    · obtain ⟨e1, e2⟩ := e
      rw [e1, e2, cn_up2_s, cn_up2_s]
      refine ⟨hk, h1, h2, ?_⟩
      rw [h3]
      cases hz : hc b0 with
      | zero => rfl
      | succ j =>
        show tt (oc b0 j) = tt (cn_up2 oc b0 (j + 1) k0 b0 j)
        rw [cn_up2_n (by omega)]
    · rw [cn_up2_n e, cn_up2_n e]
      have hi2 : i < hc b := by
        by_cases eb : b = b0
        · rw [eb, cn_up_s] at hi
          have : i ≠ hc b0 := fun z => e ⟨eb, z⟩
          rw [eb]; omega
        · rw [cn_up_n eb] at hi; exact hi
      obtain ⟨g1, g2, g3, g4⟩ := H1 b i hb2 hi2
      refine ⟨g1, g2, g3, ?_⟩
      rw [g4]
      cases i with
      | zero => rfl
      | succ j =>
        show tt (oc b j) = tt (cn_up2 oc b0 (hc b0) k0 b j)
        rw [cn_up2_n (fun z => by rw [z.1] at hi2; omega)]
  · intro b i b' i' k t c1 c2
    rcases (cn_cov_app hb hp b i k t).mp c1 with c1 | ⟨d1, d2, d3, d4, d5⟩
    · rcases (cn_cov_app hb hp b' i' k t).mp c2 with c2 | ⟨d1, d2, d3, d4, d5⟩
      · exact H2 b i b' i' k t c1 c2
      · rw [d3] at c1
        exact absurd c1 (hno _ _ _ d4 d5)
    · rcases (cn_cov_app hb hp b' i' k t).mp c2 with c2 | ⟨f1, f2, f3, f4, f5⟩
      · rw [d3] at c2
        exact absurd c2 (hno _ _ _ d4 d5)
      · exact ⟨d1.trans f1.symm, d2.trans f2.symm⟩
  · refine cn_Ti_x (cn_Ti_1 H3 (k0 := k0) (x := x) (n := cn_tk ra k0 (sz b0)) (by omega)) ?_
    intro k t _ _
    constructor
    · rintro (⟨b, i, z⟩ | ⟨z1, z2, z3⟩)
      · exact ⟨b, i, (cn_cov_app hb hp b i k t).mpr (Or.inl z)⟩
      · exact ⟨b0, hc b0, (cn_cov_app hb hp _ _ k t).mpr (Or.inr ⟨rfl, rfl, z1, z2, z3⟩)⟩
    · rintro ⟨b, i, z⟩
      rcases (cn_cov_app hb hp b i k t).mp z with z | ⟨_, _, z1, z2, z3⟩
      · exact Or.inl ⟨b, i, z⟩
      · exact Or.inr ⟨z1, z2, z3⟩
theorem cn_cov_cut {b0 j : Nat} (hj : j ≤ hc b0) (b i k t : Nat) : cn_cov bc ra sz (cn_up hc b0 j) oc ob b i k t ↔ cn_cov bc ra sz hc oc ob b i k t ∧ ¬ (b = b0 ∧ j ≤ i) := by
  unfold cn_cov
  by_cases eb : b = b0
  · rw [eb, cn_up_s]
    constructor
    · rintro ⟨h1, h2, h3⟩
      exact ⟨⟨h1, by omega, h3⟩, by omega⟩
    · rintro ⟨⟨h1, h2, h3⟩, h4⟩
      exact ⟨h1, by omega, h3⟩
  · rw [cn_up_n eb]
    exact ⟨fun h => ⟨h, fun z => eb z.1⟩, fun h => h.1⟩
theorem cn_cut (H : cn_Bk cc bc fr tt st en ra so sz hc oc ob T) {b0 j : Nat} (hj : j ≤ hc b0) {T' : Nat → Int32} (hT : cn_Ti T' (fun k t => ∃ b i, cn_cov bc ra sz hc oc ob b i k t ∧ ¬ (b = b0 ∧ j ≤ i))) :
    cn_Bk cc bc fr tt st en ra so sz (cn_up hc b0 j) oc ob T' := by
  obtain ⟨H1, H2, H3⟩ := H
  refine ⟨?_, ?_, ?_⟩
  · intro b i hb hi
    refine H1 b i hb ?_
    by_cases eb : b = b0
    · rw [eb, cn_up_s] at hi; rw [eb]; omega
    · rw [cn_up_n eb] at hi; exact hi
  · intro b i b' i' k t c1 c2
    exact H2 b i b' i' k t ((cn_cov_cut hj b i k t).mp c1).1 ((cn_cov_cut hj b' i' k t).mp c2).1
  · refine cn_Ti_x hT ?_
    intro k t _ _
    constructor
    · rintro ⟨b, i, z⟩
      exact ⟨b, i, (cn_cov_cut hj b i k t).mpr z⟩
    · rintro ⟨b, i, z⟩
      exact ⟨b, i, (cn_cov_cut hj b i k t).mp z⟩
/-- one lost booking's ticks are given back -/
theorem cn_giveBack (N : cn_Net cc fr tt st en ra de) (H : cn_Bk cc bc fr tt st en ra so sz hc oc ob T) {b0 j i : Nat} (hb : b0 < bc) (hi : i < hc b0) (hj : j ≤ i) {T' : Nat → Int32}
    (hT : cn_Ti T' (fun k t => ∃ b i', cn_cov bc ra sz hc oc ob b i' k t ∧ ¬ (b = b0 ∧ j ≤ i' ∧ i' < i))) :
    cn_Ti (cn_fill T' (oc b0 i * 100 + ob b0 i) (cn_tk ra (oc b0 i) (sz b0)) 0) (fun k t => ∃ b i', cn_cov bc ra sz hc oc ob b i' k t ∧ ¬ (b = b0 ∧ j ≤ i' ∧ i' < i + 1)) := by
  obtain ⟨H1, H2, H3⟩ := H
  obtain ⟨g1, g2, g3, g4⟩ := H1 b0 i hb hi
  have n5 := (N.2 _ g1).2.2.2.2.1
  refine cn_Ti_x (cn_Ti_0 hT (by omega)) ?_
  intro k t _ _
  constructor
  · rintro ⟨⟨b, i', z, z2⟩, z3⟩
    refine ⟨b, i', z, ?_⟩
    rintro ⟨y1, y2, y3⟩
    have : i' ≠ i := by
      intro e
      rw [y1, e] at z
      obtain ⟨_, _, q3, q4, q5⟩ := z
      exact z3 ⟨q3.symm, q4, by rw [q3]; exact q5⟩
    exact z2 ⟨y1, y2, by omega⟩
  · rintro ⟨b, i', z, z2⟩
    refine ⟨⟨b, i', z, fun y => z2 ⟨y.1, y.2.1, by omega⟩⟩, ?_⟩
    rintro ⟨y1, y2, y3⟩
    have z' : cn_cov bc ra sz hc oc ob b0 i k t := ⟨hb, hi, y1.symm, y2, by rw [y1]; exact y3⟩
    obtain ⟨e1, e2⟩ := H2 _ _ _ _ _ _ z z'
    exact z2 ⟨e1, by omega, by omega⟩
end
