def cn_Hx (hc : Nat → Nat) (oc : Nat → Nat → Nat) (HX : Nat → Int32) : Prop := ∀ b i, b < 10 → i < hc b → HX (b * 100 + i) = nI (oc b i)
def cn_Hy (hc : Nat → Nat) (oc : Nat → Nat → Nat) (HY : Nat → Int32) : Prop := ∀ b i, b < 10 → i < hc b → HY (64 * b + i) = nI (oc b i)
theorem cn_Hx_app {hc : Nat → Nat} {oc : Nat → Nat → Nat} {HX : Nat → Int32} (h : cn_Hx hc oc HX) (hh : ∀ b, b < 10 → hc b ≤ 60) {b0 x : Nat} (hb : b0 < 10) : cn_Hx (cn_up hc b0 (hc b0 + 1)) (cn_up2 oc b0 (hc b0) x) (upd HX (b0 * 100 + hc b0) (nI x)) := by
  intro b i hb2 hi
  have hb0 := hh b0 hb
  have hb1 := hh b hb2
  by_cases e : b = b0 ∧ i = hc b0
  · rw [e.1, e.2, cn_up2_s, pk_us]
  · rw [cn_up2_n e]
    have hi2 : i < hc b := by
      by_cases eb : b = b0
      · rw [eb, cn_up_s] at hi
        have : i ≠ hc b0 := fun z => e ⟨eb, z⟩
        rw [eb]; omega
      · rw [cn_up_n eb] at hi; exact hi
    rw [pk_un, h b i hb2 hi2]
    intro z
    exact e (by omega)
theorem cn_Hy_app {hc : Nat → Nat} {oc : Nat → Nat → Nat} {HX : Nat → Int32} (h : cn_Hy hc oc HX) (hh : ∀ b, b < 10 → hc b ≤ 60) {b0 x : Nat} (hb : b0 < 10) : cn_Hy (cn_up hc b0 (hc b0 + 1)) (cn_up2 oc b0 (hc b0) x) (upd HX (64 * b0 + hc b0) (nI x)) := by
  intro b i hb2 hi
  have hb0 := hh b0 hb
  have hb1 := hh b hb2
  by_cases e : b = b0 ∧ i = hc b0
  · rw [e.1, e.2, cn_up2_s, pk_us]
  · rw [cn_up2_n e]
    have hi2 : i < hc b := by
      by_cases eb : b = b0
      · rw [eb, cn_up_s] at hi
        have : i ≠ hc b0 := fun z => e ⟨eb, z⟩
        rw [eb]; omega
      · rw [cn_up_n eb] at hi; exact hi
    rw [pk_un, h b i hb2 hi2]
    intro z
    exact e (by omega)
theorem cn_Hx_cut {hc : Nat → Nat} {oc : Nat → Nat → Nat} {HX : Nat → Int32} (h : cn_Hx hc oc HX) {b0 j : Nat} (hj : j ≤ hc b0) : cn_Hx (cn_up hc b0 j) oc HX := by
  intro b i hb hi
  apply h b i hb
  by_cases eb : b = b0
  · rw [eb, cn_up_s] at hi; rw [eb]; omega
  · rw [cn_up_n eb] at hi; exact hi
theorem cn_Hy_cut {hc : Nat → Nat} {oc : Nat → Nat → Nat} {HX : Nat → Int32} (h : cn_Hy hc oc HX) {b0 j : Nat} (hj : j ≤ hc b0) : cn_Hy (cn_up hc b0 j) oc HX := by
  intro b i hb hi
  apply h b i hb
  by_cases eb : b = b0
  · rw [eb, cn_up_s] at hi; rw [eb]; omega
  · rw [cn_up_n eb] at hi; exact hi
/-- hops, contacts, begins; the component's ticks and two hop arrays; the reference's two -/
abbrev cn_St : Type := (Nat → Nat) × (Nat → Nat → Nat) × (Nat → Nat → Nat) × (Nat → Int32) × (Nat → Int32) × (Nat → Int32) × (Nat → Int32) × (Nat → Int32)
def cn_ap (ra sz : Nat → Nat) (b : Nat) (s : cn_St) (x : Nat × Nat) : cn_St :=
  (cn_up s.1 b (s.1 b + 1), cn_up2 s.2.1 b (s.1 b) x.1, cn_up2 s.2.2.1 b (s.1 b) x.2, cn_fill s.2.2.2.1 (x.1 * 100 + x.2) (cn_tk ra x.1 (sz b)) 1,
    upd s.2.2.2.2.1 (b * 100 + s.1 b) (nI x.1), upd s.2.2.2.2.2.1 (b * 100 + s.1 b) (nI x.2), upd s.2.2.2.2.2.2.1 (64 * b + s.1 b) (nI x.1), upd s.2.2.2.2.2.2.2 (64 * b + s.1 b) (nI x.2))
def cn_Iv (cc bc : Nat) (fr tt st en ra so sz : Nat → Nat) (s : cn_St) : Prop :=
  cn_Bk cc bc fr tt st en ra so sz s.1 s.2.1 s.2.2.1 s.2.2.2.1 ∧ cn_Hx s.1 s.2.1 s.2.2.2.2.1 ∧ cn_Hx s.1 s.2.2.1 s.2.2.2.2.2.1 ∧ cn_Hy s.1 s.2.1 s.2.2.2.2.2.2.1 ∧ cn_Hy s.1 s.2.2.1 s.2.2.2.2.2.2.2 ∧ (∀ b, b < 10 → s.1 b ≤ 60)
/-- from s to s' only bundle b has got bookings -/
def cn_Fm (b : Nat) (s s' : cn_St) : Prop := (∀ j, j ≠ b → s'.1 j = s.1 j ∧ ∀ i, s'.2.1 j i = s.2.1 j i) ∧ ∀ i, i < s.1 b → s'.2.1 b i = s.2.1 b i
def cn_ch (fr tt : Nat → Nat) : Nat → List (Nat × Nat) → Prop
  | _, [] => True
  | node, x :: l => fr x.1 = node ∧ cn_ch fr tt (tt x.1) l
/-- a booking that may be made -/
def cn_may (cc : Nat) (st en ra : Nat → Nat) (z : Nat) (T : Nat → Int32) (x : Nat × Nat) : Prop :=
  x.1 < cc ∧ st x.1 ≤ x.2 ∧ x.2 + cn_tk ra x.1 z ≤ en x.1 ∧ ∀ t, x.2 ≤ t → t < x.2 + cn_tk ra x.1 z → T (x.1 * 100 + t) = 0
section
variable {cc bc : Nat} {fr tt st en ra de so sz : Nat → Nat}
theorem cn_Iv_ap (N : cn_Net cc fr tt st en ra de) {s : cn_St} (H : cn_Iv cc bc fr tt st en ra so sz s) (hbc : bc ≤ 10) {b : Nat} (hb : b < bc) (hs : 1 ≤ sz b) {x : Nat × Nat} (hx : cn_may cc st en ra (sz b) s.2.2.2.1 x)
    (hf : fr x.1 = cn_nd so tt s.2.1 b (s.1 b)) (hl : s.1 b < 60) : cn_Iv cc bc fr tt st en ra so sz (cn_ap ra sz b s x) := by
  obtain ⟨H1, H2, H3, H4, H5, H6⟩ := H
  obtain ⟨m1, m2, m3, m4⟩ := hx
  have hb2 : b < 10 := by omega
  refine ⟨cn_app N H1 hb m1 hs m2 m3 hf m4, cn_Hx_app H2 H6 hb2, cn_Hx_app H3 H6 hb2, cn_Hy_app H4 H6 hb2, cn_Hy_app H5 H6 hb2, ?_⟩
  intro j hj
  show cn_up s.1 b (s.1 b + 1) j ≤ 60
  by_cases e : j = b
  · rw [e, cn_up_s]; omega
  · rw [cn_up_n e]; exact H6 j hj
theorem cn_bookAll (N : cn_Net cc fr tt st en ra de) (hbc : bc ≤ 10) {b : Nat} (hb : b < bc) (hs : 1 ≤ sz b) : ∀ (l : List (Nat × Nat)) (s : cn_St), cn_Iv cc bc fr tt st en ra so sz s → (∀ x, x ∈ l → cn_may cc st en ra (sz b) s.2.2.2.1 x) → (l.map Prod.fst).Nodup →
    cn_ch fr tt (cn_nd so tt s.2.1 b (s.1 b)) l → s.1 b + l.length ≤ 60 →
    cn_Iv cc bc fr tt st en ra so sz (l.foldl (cn_ap ra sz b) s) ∧ cn_Fm b s (l.foldl (cn_ap ra sz b) s) ∧ (l.foldl (cn_ap ra sz b) s).1 b = s.1 b + l.length ∧ ∀ j, j < l.length → (l.foldl (cn_ap ra sz b) s).2.1 b (s.1 b + j) = (l.getD j (0, 0)).1 := by
  intro l
  induction l with
  | nil =>
    intro s H _ _ _ _
    exact ⟨H, ⟨fun j _ => ⟨rfl, fun _ => rfl⟩, fun _ _ => rfl⟩, rfl, fun j hj => by simp at hj⟩
  | cons x l ih =>
    intro s H hm hn hc hl
    rw [List.foldl_cons]
    rw [List.map_cons, List.nodup_cons] at hn
    rw [List.length_cons] at hl
    obtain ⟨c1, c2⟩ := hc
    have hx := hm x (List.mem_cons_self ..)
    have H' := cn_Iv_ap N H hbc hb hs hx c1 (by omega)
    have e1 : (cn_ap ra sz b s x).1 b = s.1 b + 1 := cn_up_s
    have hm' : ∀ y, y ∈ l → cn_may cc st en ra (sz b) (cn_ap ra sz b s x).2.2.2.1 y := by
      intro y hy
      obtain ⟨m1, m2, m3, m4⟩ := hm y (List.mem_cons_of_mem _ hy)
      refine ⟨m1, m2, m3, ?_⟩
      intro t t1 t2
      have hne : y.1 ≠ x.1 := fun z => hn.1 (by rw [← z]; exact List.mem_map_of_mem hy)
      have n5 := (N.2 y.1 m1).2.2.2.2.1
      have n5' := (N.2 x.1 hx.1).2.2.2.2.1
      have hx3 := hx.2.2.1
      show cn_fill s.2.2.2.1 (x.1 * 100 + x.2) (cn_tk ra x.1 (sz b)) 1 (y.1 * 100 + t) = 0
      unfold cn_fill
      rw [if_neg (by omega)]
      exact m4 t t1 t2
    have hc' : cn_ch fr tt (cn_nd so tt (cn_ap ra sz b s x).2.1 b ((cn_ap ra sz b s x).1 b)) l := by
      rw [e1]
      show cn_ch fr tt (tt (cn_up2 s.2.1 b (s.1 b) x.1 b (s.1 b))) l
      rw [cn_up2_s]; exact c2
    obtain ⟨i1, i2, i3, i4⟩ := ih (cn_ap ra sz b s x) H' hm' hn.2 hc' (by rw [e1]; omega)
    refine ⟨i1, ⟨?_, ?_⟩, ?_, ?_⟩
    · intro j hj
      obtain ⟨a1, a2⟩ := i2.1 j hj
      refine ⟨a1.trans (cn_up_n hj), fun i => (a2 i).trans ?_⟩
      show cn_up2 s.2.1 b (s.1 b) x.1 j i = s.2.1 j i
      exact cn_up2_n (fun z => hj z.1)
    · intro i hi
      refine (i2.2 i (by rw [e1]; omega)).trans ?_
      show cn_up2 s.2.1 b (s.1 b) x.1 b i = s.2.1 b i
      exact cn_up2_n (fun z => by omega)
    · rw [i3, e1, List.length_cons]; omega
    · intro j hj
      rw [List.length_cons] at hj
      cases j with
      | zero =>
        refine (i2.2 (s.1 b + 0) (by rw [e1]; omega)).trans ?_
        show cn_up2 s.2.1 b (s.1 b) x.1 b (s.1 b + 0) = x.1
        exact cn_up2_s
      | succ j =>
        have := i4 j (by omega)
        rw [e1] at this
        rw [show s.1 b + (j + 1) = s.1 b + 1 + j from by omega, this]
        rfl
/-- what a found route offers for booking -/
theorem cn_wkMay {ok : Nat → Bool} {TA : Nat → Int32} {z goal : Nat} {c : Nat → Nat} : ∀ (l : List (Nat × Nat)) (node time a : Nat), cn_wk cc fr tt ok (cn_E (cn_T TA) st en (fun k => cn_tk ra k z)) c goal l node time a →
    (∀ x, x ∈ l → cn_may cc st en ra z TA x) ∧ cn_ch fr tt node l := by
  intro l
  induction l with
  | nil => intro node time a _; exact ⟨fun x hx => by simp at hx, trivial⟩
  | cons y l ih =>
    intro node time a h
    obtain ⟨w1, w2, w3, w4, w5⟩ := h
    obtain ⟨i1, i2⟩ := ih _ _ _ w5
    obtain ⟨g1, g2, g3, g4⟩ := cn_eb_some.mp w4
    refine ⟨?_, w2, i2⟩
    intro x hx
    rcases List.mem_cons.mp hx with e | hx
    · rw [e]
      have := cn_mx_r time (st y.1)
      exact ⟨w1, by omega, g2, fun t t1 t2 => cn_T_0 (g3 t t1 t2)⟩
    · exact i1 x hx
theorem cn_nd_fm {b : Nat} {s s' : cn_St} (h : cn_Fm b s s') {j i : Nat} (hi : j ≠ b ∨ i ≤ s.1 b) : cn_nd so tt s'.2.1 j i = cn_nd so tt s.2.1 j i := by
  cases i with
  | zero => rfl
  | succ i =>
    show tt (s'.2.1 j i) = tt (s.2.1 j i)
    by_cases e : j = b
    · rw [e, h.2 i (by omega)]
    · rw [(h.1 j e).2 i]
end
