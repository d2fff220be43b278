section
variable {cc bc : Nat} {fr tt st en ra de so ta sz hc : Nat → Nat} {oc ob : Nat → Nat → Nat} {T : Nat → Int32}
def cn_P (bc : Nat) (ra sz hc : Nat → Nat) (oc ob : Nat → Nat → Nat) (k b i t : Nat) : Prop :=
  ∃ b' i', (b' < b ∨ (b' = b ∧ i' < i)) ∧ cn_cov bc ra sz hc oc ob b' i' k t
theorem cn_P_in (N : cn_Net cc fr tt st en ra de) (H : cn_Bk cc bc fr tt st en ra so sz hc oc ob T) {k b i : Nat} (hb : b < bc) (hi : i < hc b) (e : oc b i = k) :
    cn_ct (cn_P bc ra sz hc oc ob k b (i + 1)) 100 = cn_ct (cn_P bc ra sz hc oc ob k b i) 100 + cn_tk ra k (sz b) := by
  obtain ⟨H1, H2, H3⟩ := H
  obtain ⟨g1, g2, g3, g4⟩ := H1 b i hb hi
  have n5 := (N.2 _ g1).2.2.2.2.1
  rw [e] at g3 g1 n5
  rw [cn_ct_u (P := cn_P bc ra sz hc oc ob k b i) (Q := fun t => ob b i ≤ t ∧ t < ob b i + cn_tk ra k (sz b)) 100, cn_ct_iv (by omega)]
  · intro t _
    constructor
    · rintro ⟨b', i', z, c⟩
      by_cases e2 : b' = b ∧ i' = i
      · rw [e2.1, e2.2] at c
        exact Or.inr c.2.2.2
      · exact Or.inl ⟨b', i', by omega, c⟩
    · rintro (⟨b', i', z, c⟩ | c)
      · exact ⟨b', i', by omega, c⟩
      · exact ⟨b, i, by omega, hb, hi, e, c⟩
  · rintro t _ ⟨b', i', z, c⟩ c2
    obtain ⟨e1, e2⟩ := H2 _ _ b i _ _ c ⟨hb, hi, e, c2⟩
    omega
theorem cn_P_out {k b i : Nat} (e : ¬ oc b i = k) : cn_ct (cn_P bc ra sz hc oc ob k b (i + 1)) 100 = cn_ct (cn_P bc ra sz hc oc ob k b i) 100 := by
  apply cn_ct_x
  intro t _
  constructor
  · rintro ⟨b', i', z, c⟩
    refine ⟨b', i', ?_, c⟩
    by_cases e2 : b' = b ∧ i' = i
    · rw [e2.1, e2.2] at c
      exact absurd c.2.2.1 e
    · omega
  · rintro ⟨b', i', z, c⟩
    exact ⟨b', i', by omega, c⟩
theorem cn_P_next {k b : Nat} : cn_ct (cn_P bc ra sz hc oc ob k (b + 1) 0) 100 = cn_ct (cn_P bc ra sz hc oc ob k b (hc b)) 100 := by
  apply cn_ct_x
  intro t _
  constructor
  · rintro ⟨b', i', z, c⟩
    refine ⟨b', i', ?_, c⟩
    by_cases e : b' = b
    · have := c.2.1
      rw [e] at this
      exact Or.inr ⟨e, this⟩
    · omega
  · rintro ⟨b', i', z, c⟩
    exact ⟨b', i', by omega, c⟩
theorem cn_P_0 {k : Nat} : cn_ct (cn_P bc ra sz hc oc ob k 0 0) 100 = 0 := by
  apply cn_ct_0
  rintro t _ ⟨b', i', z, c⟩
  omega
theorem cn_P_all (H : cn_Bk cc bc fr tt st en ra so sz hc oc ob T) {k : Nat} (hk : k < 10) : cn_ct (fun t => T (k * 100 + t) = 1) 100 = cn_ct (cn_P bc ra sz hc oc ob k bc 0) 100 := by
  apply cn_ct_x
  intro t ht
  refine (H.2.2 k t hk ht).2.trans ?_
  constructor
  · rintro ⟨b, i, c⟩
    exact ⟨b, i, Or.inl c.1, c⟩
  · rintro ⟨b, i, _, c⟩
    exact ⟨b, i, c⟩
theorem cn_tk_up {k j x s : Nat} (h : k ≠ j) : cn_tk (cn_up ra j x) k s = cn_tk ra k s := by
  unfold cn_tk; rw [cn_up_n h]
/-- a contact more: no booking is on it -/
theorem cn_more (H : cn_Bk cc bc fr tt st en ra so sz hc oc ob T) (f t s e r : Nat) :
    cn_Bk (cc + 1) bc (cn_up fr cc f) (cn_up tt cc t) (cn_up st cc s) (cn_up en cc e) (cn_up ra cc r) so sz hc oc ob T := by
  obtain ⟨H1, H2, H3⟩ := H
  have hx : ∀ b i k t, cn_cov bc (cn_up ra cc r) sz hc oc ob b i k t ↔ cn_cov bc ra sz hc oc ob b i k t := by
    intro b i k t
    unfold cn_cov
    constructor
    · rintro ⟨h1, h2, h3, h4⟩
      have := (H1 b i h1 h2).1
      rw [cn_tk_up (by omega)] at h4
      exact ⟨h1, h2, h3, h4⟩
    · rintro ⟨h1, h2, h3, h4⟩
      have := (H1 b i h1 h2).1
      refine ⟨h1, h2, h3, ?_⟩
      rw [cn_tk_up (by omega)]
      exact h4
  refine ⟨?_, ?_, ?_⟩
  · intro b i hb hi
    obtain ⟨g1, g2, g3, g4⟩ := H1 b i hb hi
    rw [cn_up_n (f := st) (by omega), cn_up_n (f := en) (by omega), cn_up_n (f := fr) (by omega), cn_tk_up (by omega)]
    refine ⟨by omega, g2, g3, ?_⟩
    rw [g4]
    cases i with
    | zero => rfl
    | succ j =>
      have := (H1 b j hb (by omega)).1
      show tt (oc b j) = cn_up tt cc t (oc b j)
      rw [cn_up_n (by omega)]
  · intro b i b' i' k t c1 c2
    exact H2 b i b' i' k t ((hx ..).mp c1) ((hx ..).mp c2)
  · refine cn_Ti_x H3 ?_
    intro k t _ _
    exact ⟨fun ⟨b, i, z⟩ => ⟨b, i, (hx ..).mpr z⟩, fun ⟨b, i, z⟩ => ⟨b, i, (hx ..).mp z⟩⟩
theorem cn_netMore (N : cn_Net cc fr tt st en ra de) (h : cc < 10) {f t s e r d : Nat} (h1 : f < 6) (h2 : t < 6) (h3 : f ≠ t) (h4 : s < e) (h5 : e ≤ 100) (h6 : 1 ≤ r) (h7 : r ≤ 9) (h8 : d ≤ 9) :
    cn_Net (cc + 1) (cn_up fr cc f) (cn_up tt cc t) (cn_up st cc s) (cn_up en cc e) (cn_up ra cc r) (cn_up de cc d) := by
  refine ⟨by omega, ?_⟩
  intro k hk
  by_cases ek : k = cc
  · rw [ek, cn_up_s, cn_up_s, cn_up_s, cn_up_s, cn_up_s, cn_up_s]
    exact ⟨h1, h2, h3, h4, h5, h6, h7, h8⟩
  · rw [cn_up_n ek, cn_up_n ek, cn_up_n ek, cn_up_n ek, cn_up_n ek, cn_up_n ek]
    exact N.2 k (by omega)
/-- a bundle more: it has no booking -/
theorem cn_bundle (H : cn_Bk cc bc fr tt st en ra so sz hc oc ob T) (h0 : hc bc = 0) (s z : Nat) :
    cn_Bk cc (bc + 1) fr tt st en ra (cn_up so bc s) (cn_up sz bc z) hc oc ob T := by
  obtain ⟨H1, H2, H3⟩ := H
  have hx : ∀ b i k t, cn_cov (bc + 1) ra (cn_up sz bc z) hc oc ob b i k t ↔ cn_cov bc ra sz hc oc ob b i k t := by
    intro b i k t
    unfold cn_cov
    constructor
    · rintro ⟨h1, h2, h3, h4⟩
      have hb : b ≠ bc := fun e => by rw [e] at h2; omega
      rw [cn_up_n hb] at h4
      exact ⟨by omega, h2, h3, h4⟩
    · rintro ⟨h1, h2, h3, h4⟩
      refine ⟨by omega, h2, h3, ?_⟩
      rw [cn_up_n (by omega)]
      exact h4
  refine ⟨?_, ?_, ?_⟩
  · intro b i hb hi
    have hb2 : b ≠ bc := fun e => by rw [e] at hi; omega
    obtain ⟨g1, g2, g3, g4⟩ := H1 b i (by omega) hi
    rw [cn_up_n hb2]
    refine ⟨g1, g2, g3, ?_⟩
    rw [g4]
    cases i with
    | zero => exact (cn_up_n hb2).symm
    | succ j => rfl
  · intro b i b' i' k t c1 c2
    exact H2 b i b' i' k t ((hx ..).mp c1) ((hx ..).mp c2)
  · refine cn_Ti_x H3 ?_
    intro k t _ _
    exact ⟨fun ⟨b, i, z⟩ => ⟨b, i, (hx ..).mpr z⟩, fun ⟨b, i, z⟩ => ⟨b, i, (hx ..).mp z⟩⟩
end
/-- what is known of each bundle; nc contacts are cancelled -/
def cn_Bn (bc nc : Nat) (tt so ta sz hc : Nat → Nat) (oc : Nat → Nat → Nat) (R : Nat → Int32) : Prop :=
  ∀ b, b < bc → so b < 6 ∧ ta b < 6 ∧ 1 ≤ sz b ∧ sz b ≤ 30 ∧ (R b = 0 ∨ R b = 1) ∧ (R b = 0 → hc b ≤ 5 * nc ∧ cn_nd so tt oc b (hc b) ≠ ta b) ∧ (R b = 1 → hc b ≤ 5 * nc + 5 ∧ 0 < hc b) ∧ (∀ i, i < hc b → cn_nd so tt oc b i ≠ ta b)
/-- the cancelled contacts -/
def cn_Ca (cc nc : Nat) (C : Nat → Int32) : Prop := (∀ k, C k = 0 ∨ C k = 1) ∧ (∀ k, cc ≤ k → C k = 0) ∧ nc = cn_ct (fun k => C k = 1) 10
theorem cn_Ca_up {cc nc k : Nat} {C : Nat → Int32} (h : cn_Ca cc nc C) (hcc : cc ≤ 10) (hk : k < cc) (h0 : C k = 0) : cn_Ca cc (nc + 1) (upd C k 1) := by
  obtain ⟨h1, h2, h3⟩ := h
  refine ⟨?_, ?_, ?_⟩
  · intro j
    unfold upd
    by_cases e : j = k
    · rw [if_pos e]; exact Or.inr rfl
    · rw [if_neg e]; exact h1 j
  · intro j hj
    unfold upd
    rw [if_neg (by omega)]
    exact h2 j hj
  · rw [h3, cn_ct_u (R := fun j => upd C k 1 j = 1) (P := fun k => C k = 1) (Q := fun t => k ≤ t ∧ t < k + 1) 10, cn_ct_iv (by omega)]
    · intro t _
      unfold upd
      by_cases e : t = k
      · rw [if_pos e]; exact ⟨fun _ => Or.inr (by omega), fun _ => rfl⟩
      · rw [if_neg e]; exact ⟨Or.inl, fun z => z.elim id (fun y => absurd y (by omega))⟩
    · intro t _ c1 c2
      have : t = k := by omega
      rw [this, h0] at c1
      exact absurd c1 (by decide)
theorem cn_Ca_le {cc nc : Nat} {C : Nat → Int32} (h : cn_Ca cc nc C) : nc ≤ 10 := by
  rw [h.2.2]; exact cn_ct_le _ _
theorem cn_Ca_cc {cc nc : Nat} {C : Nat → Int32} (h : cn_Ca cc nc C) : cn_Ca (cc + 1) nc C :=
  ⟨h.1, fun k hk => h.2.1 k (by omega), h.2.2⟩
