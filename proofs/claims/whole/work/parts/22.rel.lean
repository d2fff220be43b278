/-- one net, one set of bookings: the component's ticks are those of the bookings; the searches' scratch is free -/
def i_Rel (k : Nat) (u : SX) (v : SY) : Prop :=
  ∃ (now cc bc nc : Nat) (fr tt st en ra de so ta sz hc : Nat → Nat) (oc ob : Nat → Nat → Nat) (CA TA li RT HI HX HB wn wr wx wc wb bC bB SK HY HZ tr tb no ti ne bO bE : Nat → Int32) (bl ba be bA : Int32),
    u = ((nI now), (nI cc), (nI bc), bl, ba, (cn_n fr), (cn_n tt), (cn_n st), (cn_n en), (cn_n ra), (cn_n de), CA, TA, (cn_n so), (cn_n ta), (cn_n sz), li, RT, HI, (cn_n hc), HX, HB, wn, wr, wx, wc, wb, bC, bB) ∧ v = ((nI now), (nI cc), (nI bc), be, bA, (cn_n fr), (cn_n tt), (cn_n st), (cn_n en), (cn_n ra), (cn_n de), CA, (cn_n so), (cn_n ta), (cn_n sz), li, SK, (cn_n hc), HY, HZ, tr, tb, no, ti, ne, bO, bE) ∧ now ≤ 50 * k ∧ cn_In now cc bc nc fr tt st en ra de so ta sz CA RT SK (hc, oc, ob, TA, HX, HB, HY, HZ) (fun _ => True)
section
variable {k now cc bc nc : Nat} {fr tt st en ra de so ta sz hc : Nat → Nat} {oc ob : Nat → Nat → Nat} {CA TA li RT HI HX HB wn wr wx wc wb bC bB SK HY HZ tr tb no ti ne bO bE : Nat → Int32} {bl ba be bA : Int32}
theorem cn_mk (h : now ≤ 50 * k) (I : cn_In now cc bc nc fr tt st en ra de so ta sz CA RT SK (hc, oc, ob, TA, HX, HB, HY, HZ) (fun _ => True)) : i_Rel k ((nI now), (nI cc), (nI bc), bl, ba, (cn_n fr), (cn_n tt), (cn_n st), (cn_n en), (cn_n ra), (cn_n de), CA, TA, (cn_n so), (cn_n ta), (cn_n sz), li, RT, HI, (cn_n hc), HX, HB, wn, wr, wx, wc, wb, bC, bB) ((nI now), (nI cc), (nI bc), be, bA, (cn_n fr), (cn_n tt), (cn_n st), (cn_n en), (cn_n ra), (cn_n de), CA, (cn_n so), (cn_n ta), (cn_n sz), li, SK, (cn_n hc), HY, HZ, tr, tb, no, ti, ne, bO, bE) :=
  ⟨now, cc, bc, nc, fr, tt, st, en, ra, de, so, ta, sz, hc, oc, ob, CA, TA, li, RT, HI, HX, HB, wn, wr, wx, wc, wb, bC, bB, SK, HY, HZ, tr, tb, no, ti, ne, bO, bE, bl, ba, be, bA, rfl, rfl, h, I⟩
end
theorem i_up {k : Nat} {u : SX} {v : SY} (h : i_Rel k u v) : i_Rel (k + 4) u v := by
  obtain ⟨now, cc, bc, nc, fr, tt, st, en, ra, de, so, ta, sz, hc, oc, ob, CA, TA, li, RT, HI, HX, HB, wn, wr, wx, wc, wb, bC, bB, SK, HY, HZ, tr, tb, no, ti, ne, bO, bE, bl, ba, be, bA, e1, e2, h1, I⟩ := h
  rw [e1, e2]
  exact cn_mk (by omega) I
theorem cn_In0 : cn_In 0 0 0 0 (fun _ => 0) (fun _ => 0) (fun _ => 0) (fun _ => 0) (fun _ => 0) (fun _ => 0) (fun _ => 0) (fun _ => 0) (fun _ => 0) (fun _ => 0) (fun _ => 0) (fun _ => 0) (fun _ => 0, fun _ _ => 0, fun _ _ => 0, fun _ => 0, fun _ => 0, fun _ => 0, fun _ => 0, fun _ => 0) (fun _ => True) := by
  refine ⟨by omega, ⟨by omega, fun k hk => by omega⟩, by omega, ⟨fun k => Or.inl rfl, fun k _ => rfl, ?_⟩, ⟨⟨fun b i hb => by omega, ?_, ?_⟩, ?_, ?_, ?_, ?_, ?_⟩, fun b hb => by omega, fun b _ _ => ⟨rfl, rfl⟩, fun b hb => by omega⟩
  · exact (cn_ct_0 10 (fun t _ h => absurd h (show ¬ (0 : Int32) = 1 by decide))).symm
  · intro b i b' i' k t h; exact absurd h.1 (by omega)
  · intro k t _ _
    refine ⟨Or.inl rfl, ?_⟩
    constructor
    · intro h; exact absurd h (by show ¬ (0 : Int32) = 1; decide)
    · rintro ⟨b, i, h⟩; exact absurd h.1 (by omega)
  · intro b i _ hi; exact absurd hi (Nat.not_lt_zero i)
  · intro b i _ hi; exact absurd hi (Nat.not_lt_zero i)
  · intro b i _ hi; exact absurd hi (Nat.not_lt_zero i)
  · intro b i _ hi; exact absurd hi (Nat.not_lt_zero i)
  · intro b _; exact Nat.zero_le _
theorem i_vc0 : wpX_init (fun u => wpY_init (fun v => i_Rel 0 u v)) :=
  cn_mk (k := 0) (Nat.zero_le _) cn_In0
theorem cn_i6 : (6 : Int32) = nI 6 := rfl
theorem cn_i101 : (101 : Int32) = nI 101 := rfl
theorem cn_i10 : (10 : Int32) = nI 10 := rfl
theorem cn_d6 {e : Nat} (h : e < 2 ^ 31) : nI e / 6 = nI (e / 6) := by rw [cn_i6, pk_div h (by omega) (by omega)]
theorem cn_r6 {e : Nat} (h : e < 2 ^ 31) : nI e - nI e / 6 * 6 = nI (e % 6) := by rw [cn_i6, pk_rem h (by omega) (by omega)]
theorem cn_d101 {e : Nat} (h : e < 2 ^ 31) : nI e / 101 = nI (e / 101) := by rw [cn_i101, pk_div h (by omega) (by omega)]
theorem cn_r101 {e : Nat} (h : e < 2 ^ 31) : nI e - nI e / 101 * 101 = nI (e % 101) := by rw [cn_i101, pk_rem h (by omega) (by omega)]
theorem cn_d10 {e : Nat} (h : e < 2 ^ 31) : nI e / 10 = nI (e / 10) := by rw [cn_i10, pk_div h (by omega) (by omega)]
theorem cn_r10 {e : Nat} (h : e < 2 ^ 31) : nI e - nI e / 10 * 10 = nI (e % 10) := by rw [cn_i10, pk_rem h (by omega) (by omega)]
theorem cn_n6 : ¬ (6 : Int32) = 0 := by decide
theorem cn_n101 : ¬ (101 : Int32) = 0 := by decide
theorem cn_n10 : ¬ (10 : Int32) = 0 := by decide
theorem cn_leT {x : Int32} {a : Nat} (ha : a < 2 ^ 31) (h : nI a ≤ x) : (a : Int) ≤ x.toInt := by
  rw [Int32.le_iff_toInt_le, nI_toInt ha] at h; exact h
theorem cn_geN {x : Int32} {a b : Nat} (ha : a < 2 ^ 31) (hb : b < 2 ^ 31) (hab : b < a) (h : nI a ≤ x) : ¬ x < 0 ∧ nI b < x ∧ ¬ x ≤ nI b := by
  have h1 := cn_leT ha h
  have h0 : (0 : Int32).toInt = 0 := by decide
  refine ⟨?_, ?_, ?_⟩
  · rw [Int32.lt_iff_toInt_lt, h0]; omega
  · rw [Int32.lt_iff_toInt_lt, nI_toInt hb]; omega
  · rw [Int32.le_iff_toInt_le, nI_toInt hb]; omega
theorem cn_ltN {x : Int32} {b : Nat} (hb : b < 2 ^ 31) (h : x < 0) : x < nI b ∨ b = 0 := by
  have h0 : (0 : Int32).toInt = 0 := by decide
  rw [Int32.lt_iff_toInt_lt, h0] at h
  by_cases e : b = 0
  · exact Or.inr e
  · left; rw [Int32.lt_iff_toInt_lt, nI_toInt hb]; omega
section
variable {k now cc bc nc : Nat} {fr tt st en ra de so ta sz hc : Nat → Nat} {oc ob : Nat → Nat → Nat} {CA TA li RT HI HX HB wn wr wx wc wb bC bB SK HY HZ tr tb no ti ne bO bE : Nat → Int32} {bl ba be bA : Int32}
theorem cn_ends (x : Int32) : (∃ e, e < 36 ∧ e / 6 ≠ e % 6 ∧ x = nI e ∧ (∀ post : Int32 → Prop, post 1 → wpX_areEnds post x) ∧ (∀ post : Int32 → Prop, post 0 → wpY_badEnds post ((nI now), (nI cc), (nI bc), be, bA, (cn_n fr), (cn_n tt), (cn_n st), (cn_n en), (cn_n ra), (cn_n de), CA, (cn_n so), (cn_n ta), (cn_n sz), li, SK, (cn_n hc), HY, HZ, tr, tb, no, ti, ne, bO, bE) x)) ∨ ((∀ post : Int32 → Prop, post 0 → wpX_areEnds post x) ∧ (∀ post : Int32 → Prop, post 1 → wpY_badEnds post ((nI now), (nI cc), (nI bc), be, bA, (cn_n fr), (cn_n tt), (cn_n st), (cn_n en), (cn_n ra), (cn_n de), CA, (cn_n so), (cn_n ta), (cn_n sz), li, SK, (cn_n hc), HY, HZ, tr, tb, no, ti, ne, bO, bE) x)) := by
  rcases pk_ix x (n := 36) (by omega) with h | h | ⟨e, he, rfl⟩
  · exact Or.inr ⟨fun post p => br_t h p, fun post p => br_t h p⟩
  · obtain ⟨h1, h2, h3⟩ := cn_geN (b := 35) (by omega) (by omega) (by omega) h
    exact Or.inr ⟨fun post p => br_f h1 (br_t h p), fun post p => br_f h1 (br_t h2 p)⟩
  · have h0 : ¬ nI e < 0 := nI_pos (by omega)
    have h1 : ¬ (36 : Int32) ≤ nI e := nI_ge (b := 36) he (by decide)
    have h2 : ¬ (35 : Int32) < nI e := nI_nlt (a := 35) (by omega) (by omega)
    by_cases c : e / 6 = e % 6
    · have q : nI e / 6 = nI e - nI e / 6 * 6 := by rw [cn_r6 (by omega), cn_d6 (by omega), c]
      exact Or.inr ⟨fun post p => br_f h0 (br_f h1 ⟨cn_n6, cn_n6, br_t q p⟩), fun post p => br_f h0 (br_f h2 ⟨cn_n6, cn_n6, br_t q p⟩)⟩
    · have q : ¬ nI e / 6 = nI e - nI e / 6 * 6 := by rw [cn_r6 (by omega), cn_d6 (by omega), nI_eq (by omega) (by omega)]; exact c
      exact Or.inl ⟨e, he, c, rfl, fun post p => br_f h0 (br_f h1 ⟨cn_n6, cn_n6, br_f q p⟩), fun post p => br_f h0 (br_f h2 ⟨cn_n6, cn_n6, br_f q p⟩)⟩
theorem cn_size (x : Int32) : (∃ z, 1 ≤ z ∧ z ≤ 30 ∧ x = nI z ∧ (∀ post : Int32 → Prop, post 1 → wpX_isSize post x) ∧ (∀ post : Int32 → Prop, post 0 → wpY_badSize post ((nI now), (nI cc), (nI bc), be, bA, (cn_n fr), (cn_n tt), (cn_n st), (cn_n en), (cn_n ra), (cn_n de), CA, (cn_n so), (cn_n ta), (cn_n sz), li, SK, (cn_n hc), HY, HZ, tr, tb, no, ti, ne, bO, bE) x)) ∨ ((∀ post : Int32 → Prop, post 0 → wpX_isSize post x) ∧ (∀ post : Int32 → Prop, post 1 → wpY_badSize post ((nI now), (nI cc), (nI bc), be, bA, (cn_n fr), (cn_n tt), (cn_n st), (cn_n en), (cn_n ra), (cn_n de), CA, (cn_n so), (cn_n ta), (cn_n sz), li, SK, (cn_n hc), HY, HZ, tr, tb, no, ti, ne, bO, bE) x)) := by
  rcases pk_ix x (n := 31) (by omega) with h | h | ⟨e, he, rfl⟩
  · have h1 : x < 1 := (cn_ltN (b := 1) (by omega) h).resolve_right (by omega)
    exact Or.inr ⟨fun post p => br_t h1 p, fun post p => br_t h1 p⟩
  · obtain ⟨h1, h2, h3⟩ := cn_geN (b := 30) (by omega) (by omega) (by omega) h
    obtain ⟨_, h4, _⟩ := cn_geN (b := 1) (by omega) (by omega) (by omega) h
    have h5 : ¬ x < 1 := fun z => Int32.lt_irrefl (Int32.lt_trans z h4)
    exact Or.inr ⟨fun post p => br_f h5 (br_t h2 p), fun post p => br_f h5 (br_f h3 p)⟩
  · by_cases c : e = 0
    · have q : nI e < 1 := nI_lt (b := 1) (by omega) (by omega)
      exact Or.inr ⟨fun post p => br_t q p, fun post p => br_t q p⟩
    · have q : ¬ nI e < 1 := nI_nlt (b := 1) (by omega) (by omega)
      have q2 : ¬ (30 : Int32) < nI e := nI_nlt (a := 30) (by omega) (by omega)
      have q3 : nI e ≤ 30 := nI_le (b := 30) (by omega) (by omega)
      exact Or.inl ⟨e, by omega, by omega, rfl, fun post p => br_f q (br_f q2 p), fun post p => br_f q (br_t q3 p)⟩
def cn_sh (x : Int32) (A B : Prop) : Prop := ((x < 0 → A) ∧ (¬ x < 0 → (((10200 < x → A) ∧ (¬ 10200 < x → (¬ (101 : Int32) = 0 ∧ (¬ (101 : Int32) = 0 ∧ ((((x - x / 101 * 101) ≤ (x / 101) → A) ∧ (¬ (x - x / 101 * 101) ≤ (x / 101) → B)))))))))) 
theorem cn_span (x : Int32) : (∃ e, e < 10201 ∧ e / 101 < e % 101 ∧ x = nI e ∧ (∀ post : Int32 → Prop, post 1 → wpX_isSpan post x) ∧ (∀ A B : Prop, B → cn_sh x A B)) ∨ ((∀ post : Int32 → Prop, post 0 → wpX_isSpan post x) ∧ (∀ A B : Prop, A → cn_sh x A B)) := by
  by_cases h : x < 0
  · exact Or.inr ⟨fun post p => br_t h p, fun A B p => br_t h p⟩
  · obtain ⟨e, he, rfl⟩ := nI_of h
    by_cases c : e / 101 < e % 101
    · have q : ¬ (nI e - nI e / 101 * 101 ≤ nI e / 101) := by rw [cn_r101 he, cn_d101 he]; exact nI_ge c (by omega)
      have q2 : ¬ (10200 : Int32) < nI e := nI_nlt (a := 10200) (by omega) (by omega)
      exact Or.inl ⟨e, by omega, c, rfl, fun post p => br_f h ⟨cn_n101, cn_n101, br_f q p⟩, fun A B p => br_f h (br_f q2 ⟨cn_n101, cn_n101, br_f q p⟩)⟩
    · have q : nI e - nI e / 101 * 101 ≤ nI e / 101 := by rw [cn_r101 he, cn_d101 he]; exact nI_le (by omega) (by omega)
      refine Or.inr ⟨fun post p => br_f h ⟨cn_n101, cn_n101, br_t q p⟩, fun A B p => br_f h ?_⟩
      by_cases c2 : 10200 < e
      · exact br_t (nI_lt (a := 10200) c2 he) p
      · exact br_f (nI_nlt (a := 10200) (by omega) (by omega)) ⟨cn_n101, cn_n101, br_t q p⟩
def cn_th (x : Int32) (A B : Prop) : Prop := ((x < 10 → A) ∧ (¬ x < 10 → (((x ≤ 99 → B) ∧ (¬ x ≤ 99 → A)))))
theorem cn_terms (x : Int32) : (∃ e, 10 ≤ e ∧ e < 100 ∧ x = nI e ∧ (∀ post : Int32 → Prop, post 1 → wpX_areTerms post x) ∧ (∀ A B : Prop, B → cn_th x A B)) ∨ ((∀ post : Int32 → Prop, post 0 → wpX_areTerms post x) ∧ (∀ A B : Prop, A → cn_th x A B)) := by
  rcases pk_ix x (n := 100) (by omega) with h | h | ⟨e, he, rfl⟩
  · have h1 : x < 10 := (cn_ltN (b := 10) (by omega) h).resolve_right (by omega)
    exact Or.inr ⟨fun post p => br_t h1 p, fun A B p => br_t h1 p⟩
  · obtain ⟨h1, h2, h3⟩ := cn_geN (b := 99) (by omega) (by omega) (by omega) h
    obtain ⟨_, h4, _⟩ := cn_geN (b := 10) (by omega) (by omega) (by omega) h
    have h5 : ¬ x < 10 := fun z => Int32.lt_irrefl (Int32.lt_trans z h4)
    exact Or.inr ⟨fun post p => br_f h5 (br_t h p), fun A B p => br_f h5 (br_f h3 p)⟩
  · by_cases c : e < 10
    · have q : nI e < 10 := nI_lt (b := 10) c (by omega)
      exact Or.inr ⟨fun post p => br_t q p, fun A B p => br_t q p⟩
    · have q : ¬ nI e < 10 := nI_nlt (b := 10) (by omega) (by omega)
      have q2 : ¬ (100 : Int32) ≤ nI e := nI_ge (b := 100) he (by decide)
      have q3 : nI e ≤ 99 := nI_le (b := 99) (by omega) (by omega)
      exact Or.inl ⟨e, by omega, he, rfl, fun post p => br_f q (br_f q2 p), fun A B p => br_f q (br_t q3 p)⟩
end
