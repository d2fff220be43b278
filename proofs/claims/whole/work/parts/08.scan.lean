def cn_n (f : Nat → Nat) : Nat → Int32 := fun j => nI (f j)
theorem cn_n_at (f : Nat → Nat) (k : Nat) : cn_n f k = nI (f k) := rfl
theorem cn_n_up (f : Nat → Nat) (k x : Nat) : upd (cn_n f) k (nI x) = cn_n (cn_up f k x) := cn_upd f k x
theorem cn_n_same {f : Nat → Nat} {k x : Nat} (h : f k = x) : cn_up f k x = f := by
  funext j
  unfold cn_up
  by_cases e : j = k
  · rw [if_pos e, e, h]
  · rw [if_neg e]
def cn_T (TA : Nat → Int32) (k t : Nat) : Bool := decide (TA (k * 100 + t) ≠ 0)
theorem cn_T_f {TA : Nat → Int32} {k t : Nat} (h : TA (k * 100 + t) = 0) : cn_T TA k t = false := decide_eq_false (fun z => z h)
theorem cn_T_t {TA : Nat → Int32} {k t : Nat} (h : ¬ TA (k * 100 + t) = 0) : cn_T TA k t = true := decide_eq_true h
theorem cn_T_0 {TA : Nat → Int32} {k t : Nat} (h : cn_T TA k t = false) : TA (k * 100 + t) = 0 := Decidable.byContradiction fun z => by
  rw [cn_T_t z] at h; exact absurd h (by decide)
/-- the component's scan: so many free ticks stand behind the present one -/
def cn_Sc (T : Nat → Bool) (lo need tick free : Nat) : Prop :=
  lo + free ≤ tick ∧ free < need ∧ (∀ t, tick ≤ t + free → t < tick → T t = false) ∧ (∀ y, lo ≤ y → y + free < tick → ¬ cn_fw T need y)
theorem cn_Sc_0 {T : Nat → Bool} {lo need : Nat} (h : 1 ≤ need) : cn_Sc T lo need lo 0 :=
  ⟨by omega, by omega, fun t h1 h2 => by omega, fun y h1 h2 => by omega⟩
theorem cn_Sc_t {T : Nat → Bool} {lo need tick free : Nat} (h : cn_Sc T lo need tick free) (ht : T tick = true) : cn_Sc T lo need (tick + 1) 0 := by
  obtain ⟨h1, h2, h3, h4⟩ := h
  refine ⟨by omega, by omega, fun t g1 g2 => by omega, ?_⟩
  intro y g1 g2 hw
  by_cases e : y + free < tick
  · exact h4 y g1 e hw
  · have := hw tick (by omega) (by omega)
    rw [this] at ht
    exact absurd ht (by decide)
theorem cn_Sc_f {T : Nat → Bool} {lo need tick free : Nat} (h : cn_Sc T lo need tick free) (ht : T tick = false) (hn : free + 1 ≠ need) : cn_Sc T lo need (tick + 1) (free + 1) := by
  obtain ⟨h1, h2, h3, h4⟩ := h
  refine ⟨by omega, by omega, ?_, fun y g1 g2 => h4 y g1 (by omega)⟩
  intro t g1 g2
  by_cases e : t = tick
  · rw [e]; exact ht
  · exact h3 t (by omega) (by omega)
theorem cn_Sc_d {T : Nat → Bool} {lo hi need tick free : Nat} (h : cn_Sc T lo need tick free) (ht : T tick = false) (hn : free + 1 = need) (hh : tick < hi) : cn_eb T lo hi need = some (tick + 1 - need) := by
  obtain ⟨h1, h2, h3, h4⟩ := h
  refine cn_eb_some.mpr ⟨by omega, by omega, ?_, fun y g1 g2 => h4 y g1 (by omega)⟩
  intro t g1 g2
  by_cases e : t = tick
  · rw [e]; exact ht
  · exact h3 t (by omega) (by omega)
theorem cn_Sc_e {T : Nat → Bool} {lo hi need tick free : Nat} (h : cn_Sc T lo need tick free) (hh : hi ≤ tick) : cn_eb T lo hi need = none := by
  obtain ⟨h1, h2, h3, h4⟩ := h
  exact cn_eb_none.mpr fun y g1 g2 => h4 y g1 (by omega)
section
variable {cc bc : Nat} {fr tt st en ra de so sz hc : Nat → Nat} {oc ob : Nat → Nat → Nat} {TA : Nat → Int32}
theorem cn_isFree (H : cn_Bk cc bc fr tt st en ra so sz hc oc ob TA) (hsz : ∀ b, b < bc → 1 ≤ sz b) {k x need : Nat} (hk : k < 10) (hr : 1 ≤ ra k) (hn : 1 ≤ need) (hx : x + need ≤ 100) :
    cn_fw (cn_T TA k) need x ↔ ∀ b i, b < bc → i < hc b → ¬ (oc b i = k ∧ ob b i < x + need ∧ x < ob b i + cn_tk ra k (sz b)) := by
  obtain ⟨H1, H2, H3⟩ := H
  constructor
  · rintro hw b i hb hi ⟨e1, e2, e3⟩
    have hp := cn_tk_pos (ra := ra) (k := k) (s := sz b) hr (hsz b hb)
    have hm : ∃ t, x ≤ t ∧ t < x + need ∧ ob b i ≤ t ∧ t < ob b i + cn_tk ra k (sz b) := by
      by_cases h : x ≤ ob b i
      · exact ⟨ob b i, h, e2, Nat.le_refl _, by omega⟩
      · exact ⟨x, Nat.le_refl _, by omega, by omega, e3⟩
    obtain ⟨t, t1, t2, t3, t4⟩ := hm
    have z := cn_T_0 (hw t t1 t2)
    have y := (H3 k t hk (by omega)).2.mpr ⟨b, i, hb, hi, e1, t3, t4⟩
    rw [z] at y
    exact absurd y (by decide)
  · intro h t t1 t2
    apply cn_T_f
    rcases (H3 k t hk (by omega)).1 with z | z
    · exact z
    · obtain ⟨b, i, c1, c2, c3, c4, c5⟩ := (H3 k t hk (by omega)).2.mp z
      exact absurd ⟨c3, by omega, by omega⟩ (h b i c1 c2)
end
