def cn_gb (ra sz : Nat → Nat) (b : Nat) (s : cn_St) : Nat → Nat → (Nat → Int32) → (Nat → Int32)
  | 0, _, T => T
  | m + 1, i, T => cn_gb ra sz b s m (i + 1) (cn_fill T (s.2.1 b i * 100 + s.2.2.1 b i) (cn_tk ra (s.2.1 b i) (sz b)) 0)
def cn_cutS (ra sz : Nat → Nat) (b j : Nat) (s : cn_St) : cn_St :=
  (cn_up s.1 b j, s.2.1, s.2.2.1, cn_gb ra sz b s (s.1 b - j) j s.2.2.2.1, s.2.2.2.2.1, s.2.2.2.2.2.1, s.2.2.2.2.2.2.1, s.2.2.2.2.2.2.2)
section
variable {cc bc nc : Nat} {fr tt st en ra de so ta sz : Nat → Nat} {R : Nat → Int32} {s : cn_St}
theorem cn_gbAll (N : cn_Net cc fr tt st en ra de) (H : cn_Bk cc bc fr tt st en ra so sz s.1 s.2.1 s.2.2.1 s.2.2.2.1) {b j : Nat} (hb : b < bc) : ∀ (m i : Nat) (T : Nat → Int32), j ≤ i → i + m = s.1 b →
    cn_Ti T (fun k t => ∃ b' i', cn_cov bc ra sz s.1 s.2.1 s.2.2.1 b' i' k t ∧ ¬ (b' = b ∧ j ≤ i' ∧ i' < i)) →
    cn_Ti (cn_gb ra sz b s m i T) (fun k t => ∃ b' i', cn_cov bc ra sz s.1 s.2.1 s.2.2.1 b' i' k t ∧ ¬ (b' = b ∧ j ≤ i')) := by
  intro m
  induction m with
  | zero =>
    intro i T hj hi hT
    refine cn_Ti_x hT ?_
    intro k t _ _
    constructor
    · rintro ⟨b', i', z, y⟩
      refine ⟨b', i', z, fun x => y ⟨x.1, x.2, ?_⟩⟩
      have := z.2.1
      rw [x.1] at this
      omega
    · rintro ⟨b', i', z, y⟩
      exact ⟨b', i', z, fun x => y ⟨x.1, x.2.1⟩⟩
  | succ m ih =>
    intro i T hj hi hT
    exact ih (i + 1) _ (by omega) (by omega) (cn_giveBack N H hb (by omega) hj hT)
theorem cn_Iv_cut (N : cn_Net cc fr tt st en ra de) (H : cn_Iv cc bc fr tt st en ra so sz s) {b j : Nat} (hb : b < bc) (hj : j ≤ s.1 b) : cn_Iv cc bc fr tt st en ra so sz (cn_cutS ra sz b j s) := by
  obtain ⟨H1, H2, H3, H4, H5, H6⟩ := H
  refine ⟨cn_cut H1 hj ?_, cn_Hx_cut H2 hj, cn_Hx_cut H3 hj, cn_Hy_cut H4 hj, cn_Hy_cut H5 hj, ?_⟩
  · apply cn_gbAll N H1 hb _ _ _ (Nat.le_refl _) (by omega)
    refine cn_Ti_x H1.2.2 ?_
    intro k t _ _
    constructor
    · rintro ⟨b', i', z⟩
      exact ⟨b', i', z, fun x => by omega⟩
    · rintro ⟨b', i', z, _⟩
      exact ⟨b', i', z⟩
  · intro a ha
    show cn_up s.1 b j a ≤ 60
    have := H6 a ha
    by_cases e : a = b
    · rw [e, cn_up_s]; rw [e] at this; omega
    · rw [cn_up_n e]; exact this
theorem cn_Iv_more (H : cn_Iv cc bc fr tt st en ra so sz s) (f t a e r : Nat) : cn_Iv (cc + 1) bc (cn_up fr cc f) (cn_up tt cc t) (cn_up st cc a) (cn_up en cc e) (cn_up ra cc r) so sz s :=
  ⟨cn_more H.1 f t a e r, H.2⟩
theorem cn_Iv_bundle (H : cn_Iv cc bc fr tt st en ra so sz s) (h0 : s.1 bc = 0) (x z : Nat) : cn_Iv cc (bc + 1) fr tt st en ra (cn_up so bc x) (cn_up sz bc z) s :=
  ⟨cn_bundle H.1 h0 x z, H.2⟩
theorem cn_Bn_book (h : cn_Bn bc nc tt so ta sz s.1 s.2.1 R) {s' : cn_St} {b : Nat} (hR : R b = 0) (hb : b < bc) {l : List (Nat × Nat)} (h1 : l ≠ []) (h2 : l.length ≤ 5) (hF : cn_Fm b s s') (h3 : s'.1 b = s.1 b + l.length)
    (h4 : ∀ j, j < l.length → s'.2.1 b (s.1 b + j) = (l.getD j (0, 0)).1) (h5 : ∀ i, i + 1 < l.length → tt (l.getD i (0, 0)).1 ≠ ta b) : cn_Bn bc nc tt so ta sz s'.1 s'.2.1 (upd R b 1) := by
  have hp := List.length_pos_iff.mpr h1
  intro a ha
  obtain ⟨g1, g2, g3, g4, g5, g6, g7, g8⟩ := h a ha
  by_cases e : a = b
  · rw [e] at g1 g2 g3 g4 g5 g6 g7 g8 ⊢
    obtain ⟨q1, q2⟩ := g6 hR
    rw [pk_us, h3]
    refine ⟨g1, g2, g3, g4, Or.inr rfl, fun z => absurd z (by decide), fun _ => ⟨by omega, by omega⟩, ?_⟩
    intro i hi
    by_cases c : i ≤ s.1 b
    · rw [cn_nd_fm hF (Or.inr c)]
      by_cases c2 : i = s.1 b
      · rw [c2]; exact q2
      · exact g8 i (by omega)
    · obtain ⟨j, rfl⟩ : ∃ j, i = s.1 b + j + 1 := ⟨i - s.1 b - 1, by omega⟩
      show tt (s'.2.1 b (s.1 b + j)) ≠ ta b
      rw [h4 j (by omega)]
      exact h5 j (by omega)
  · rw [pk_un e, (hF.1 a e).1, cn_nd_fm hF (Or.inl e)]
    refine ⟨g1, g2, g3, g4, g5, g6, g7, ?_⟩
    intro i hi
    rw [cn_nd_fm hF (Or.inl e)]
    exact g8 i hi
theorem cn_Bn_cut (h : cn_Bn bc nc tt so ta sz s.1 s.2.1 R) {b j : Nat} (hj : j < s.1 b) (hle : s.1 b ≤ 5 * nc) : cn_Bn bc nc tt so ta sz (cn_up s.1 b j) s.2.1 (upd R b 0) := by
  intro a ha
  obtain ⟨g1, g2, g3, g4, g5, g6, g7, g8⟩ := h a ha
  by_cases e : a = b
  · rw [e] at g1 g2 g3 g4 g5 g6 g7 g8 ⊢
    rw [pk_us, cn_up_s]
    exact ⟨g1, g2, g3, g4, Or.inl rfl, fun _ => ⟨by omega, g8 j hj⟩, fun z => absurd z (by decide), fun i hi => g8 i (by omega)⟩
  · rw [pk_un e, cn_up_n e]
    exact ⟨g1, g2, g3, g4, g5, g6, g7, g8⟩
theorem cn_Bn_nc (h : cn_Bn bc nc tt so ta sz s.1 s.2.1 R) : cn_Bn bc (nc + 1) tt so ta sz s.1 s.2.1 R := by
  intro a ha
  obtain ⟨g1, g2, g3, g4, g5, g6, g7, g8⟩ := h a ha
  exact ⟨g1, g2, g3, g4, g5, fun z => ⟨by have := (g6 z).1; omega, (g6 z).2⟩, fun z => ⟨by have := (g7 z).1; omega, (g7 z).2⟩, g8⟩
theorem cn_Bn_le (h : cn_Bn bc nc tt so ta sz s.1 s.2.1 R) {b : Nat} (hb : b < bc) : s.1 b ≤ 5 * nc + 5 := by
  obtain ⟨g1, g2, g3, g4, g5, g6, g7, g8⟩ := h b hb
  rcases g5 with z | z
  · have := (g6 z).1; omega
  · exact (g7 z).1
theorem cn_Bn_more (h : cn_Bn bc nc tt so ta sz s.1 s.2.1 R) (H : cn_Iv cc bc fr tt st en ra so sz s) (t : Nat) : cn_Bn bc nc (cn_up tt cc t) so ta sz s.1 s.2.1 R := by
  intro a ha
  obtain ⟨g1, g2, g3, g4, g5, g6, g7, g8⟩ := h a ha
  have e : ∀ i, i ≤ s.1 a → cn_nd so (cn_up tt cc t) s.2.1 a i = cn_nd so tt s.2.1 a i := by
    intro i hi
    cases i with
    | zero => rfl
    | succ i =>
      have := (H.1.1 a i ha (by omega)).1
      show cn_up tt cc t (s.2.1 a i) = tt (s.2.1 a i)
      exact cn_up_n (by omega)
  rw [e _ (Nat.le_refl _)]
  refine ⟨g1, g2, g3, g4, g5, g6, g7, ?_⟩
  intro i hi
  rw [e i (by omega)]
  exact g8 i hi
theorem cn_Bn_bundle (h : cn_Bn bc nc tt so ta sz s.1 s.2.1 R) (h0 : s.1 bc = 0) (hR : R bc = 0) {x g z : Nat} (h1 : x < 6) (h2 : g < 6) (h3 : x ≠ g) (h4 : 1 ≤ z) (h5 : z ≤ 30) : cn_Bn (bc + 1) nc tt (cn_up so bc x) (cn_up ta bc g) (cn_up sz bc z) s.1 s.2.1 R := by
  intro a ha
  by_cases e : a = bc
  · rw [e, cn_up_s, cn_up_s, cn_up_s, h0]
    refine ⟨h1, h2, h4, h5, Or.inl hR, fun _ => ⟨by omega, ?_⟩, fun q => ?_, fun i hi => by omega⟩
    · show cn_up so bc x bc ≠ g
      rw [cn_up_s]; exact h3
    · rw [hR] at q; exact absurd q (by decide)
  · obtain ⟨g1, g2, g3, g4, g5, g6, g7, g8⟩ := h a (by omega)
    have ee : ∀ i, cn_nd (cn_up so bc x) tt s.2.1 a i = cn_nd so tt s.2.1 a i := by
      intro i
      cases i with
      | zero => exact cn_up_n e
      | succ i => rfl
    rw [cn_up_n e, cn_up_n e, cn_up_n e, ee]
    refine ⟨g1, g2, g3, g4, g5, g6, g7, ?_⟩
    intro i hi
    rw [ee]
    exact g8 i hi
end
