def cn_fr (T : Nat → Bool) : Nat → Nat → Bool
  | 0, _ => true
  | n + 1, b => !T b && cn_fr T n (b + 1)
theorem cn_fr_iff (T : Nat → Bool) : ∀ (n b : Nat), cn_fr T n b = true ↔ ∀ t, b ≤ t → t < b + n → T t = false := by
  intro n
  induction n with
  | zero => intro b; exact ⟨fun _ t h1 h2 => by omega, fun _ => rfl⟩
  | succ n ih =>
    intro b
    rw [cn_fr, Bool.and_eq_true_iff, ih (b + 1)]
    constructor
    · rintro ⟨h1, h2⟩ t h3 h4
      by_cases e : t = b
      · rw [e]; simpa using h1
      · exact h2 t (by omega) (by omega)
    · intro h
      exact ⟨by have := h b (by omega) (by omega); simp [this], fun t h1 h2 => h t (by omega) (by omega)⟩
def cn_sr (F : Nat → Bool) : Nat → Nat → Option Nat
  | 0, _ => none
  | m + 1, b => if F b = true then some b else cn_sr F m (b + 1)
theorem cn_sr_some (F : Nat → Bool) : ∀ (m b x : Nat), cn_sr F m b = some x ↔ b ≤ x ∧ x < b + m ∧ F x = true ∧ ∀ y, b ≤ y → y < x → F y = false := by
  intro m
  induction m with
  | zero => intro b x; constructor
            · intro h; exact absurd h (by simp [cn_sr])
            · rintro ⟨h1, h2, _⟩; omega
  | succ m ih =>
    intro b x
    rw [cn_sr]
    by_cases hF : F b = true
    · rw [if_pos hF]
      constructor
      · intro h
        have e := Option.some.inj h
        rw [← e]
        exact ⟨by omega, by omega, hF, fun y h1 h2 => by omega⟩
      · rintro ⟨h1, h2, h3, h4⟩
        by_cases e : b = x
        · rw [e]
        · have := h4 b (by omega) (by omega)
          rw [this] at hF
          exact absurd hF (by decide)
    · rw [if_neg hF, ih (b + 1) x]
      constructor
      · rintro ⟨h1, h2, h3, h4⟩
        refine ⟨by omega, by omega, h3, fun y g1 g2 => ?_⟩
        by_cases e : y = b
        · rw [e]; simpa using hF
        · exact h4 y (by omega) g2
      · rintro ⟨h1, h2, h3, h4⟩
        have hne : b ≠ x := fun e => hF (e ▸ h3)
        exact ⟨by omega, by omega, h3, fun y g1 g2 => h4 y (by omega) g2⟩
theorem cn_sr_none (F : Nat → Bool) : ∀ (m b : Nat), cn_sr F m b = none ↔ ∀ y, b ≤ y → y < b + m → F y = false := by
  intro m
  induction m with
  | zero => intro b; exact ⟨fun _ y h1 h2 => by omega, fun _ => rfl⟩
  | succ m ih =>
    intro b
    rw [cn_sr]
    by_cases hF : F b = true
    · rw [if_pos hF]
      constructor
      · intro h; exact absurd h (by simp)
      · intro h
        have := h b (by omega) (by omega)
        rw [this] at hF
        exact absurd hF (by decide)
    · rw [if_neg hF, ih (b + 1)]
      constructor
      · intro h y g1 g2
        by_cases e : y = b
        · rw [e]; simpa using hF
        · exact h y (by omega) (by omega)
      · intro h y g1 g2
        exact h y (by omega) (by omega)
/-- the least begin from lo on, the ticks before hi, beside the taken ones -/
def cn_eb (T : Nat → Bool) (lo hi need : Nat) : Option Nat := cn_sr (cn_fr T need) (hi + 1 - need - lo) lo
def cn_fw (T : Nat → Bool) (need b : Nat) : Prop := ∀ t, b ≤ t → t < b + need → T t = false
theorem cn_frf {T : Nat → Bool} {n b : Nat} : cn_fr T n b = false ↔ ¬ cn_fw T n b := by
  rw [← Bool.not_eq_true, cn_fr_iff]; exact Iff.rfl
theorem cn_eb_some {T : Nat → Bool} {lo hi need x : Nat} : cn_eb T lo hi need = some x ↔ lo ≤ x ∧ x + need ≤ hi ∧ cn_fw T need x ∧ ∀ y, lo ≤ y → y < x → ¬ cn_fw T need y := by
  rw [cn_eb, cn_sr_some, cn_fr_iff]
  constructor
  · rintro ⟨h1, h2, h3, h4⟩
    exact ⟨h1, by omega, h3, fun y g1 g2 => cn_frf.mp (h4 y g1 g2)⟩
  · rintro ⟨h1, h2, h3, h4⟩
    exact ⟨h1, by omega, h3, fun y g1 g2 => cn_frf.mpr (h4 y g1 g2)⟩
theorem cn_eb_none {T : Nat → Bool} {lo hi need : Nat} : cn_eb T lo hi need = none ↔ ∀ y, lo ≤ y → y + need ≤ hi → ¬ cn_fw T need y := by
  rw [cn_eb, cn_sr_none]
  constructor
  · intro h y g1 g2
    exact cn_frf.mp (h y g1 (by omega))
  · intro h y g1 g2
    exact cn_frf.mpr (h y g1 (by omega))
def cn_mx (a b : Nat) : Nat := if b < a then a else b
theorem cn_mx_l (a b : Nat) : a ≤ cn_mx a b := by unfold cn_mx; split <;> omega
theorem cn_mx_r (a b : Nat) : b ≤ cn_mx a b := by unfold cn_mx; split <;> omega
theorem cn_mx_m {a a' b : Nat} (h : a ≤ a') : cn_mx a b ≤ cn_mx a' b := by unfold cn_mx; split <;> split <;> omega
theorem cn_mx_le {a b n : Nat} (h : a ≤ n) (h2 : b ≤ n) : cn_mx a b ≤ n := by unfold cn_mx; split <;> omega
/-- the begin that a contact gives at a ready time -/
def cn_E (T : Nat → Nat → Bool) (st en nd : Nat → Nat) (k t : Nat) : Option Nat := cn_eb (T k) (cn_mx t (st k)) (en k) (nd k)
theorem cn_E_ge {T : Nat → Nat → Bool} {st en nd : Nat → Nat} : ∀ k t b, cn_E T st en nd k t = some b → t ≤ b := by
  intro k t b h
  have h1 := (cn_eb_some.mp h).1
  have h2 := cn_mx_l t (st k)
  omega
theorem cn_E_mono {T : Nat → Nat → Bool} {st en nd : Nat → Nat} : ∀ k t t' b, t' ≤ t → cn_E T st en nd k t = some b → ∃ b', b' ≤ b ∧ cn_E T st en nd k t' = some b' := by
  intro k t t' b ht h
  obtain ⟨h1, h2, h3, h4⟩ := cn_eb_some.mp h
  have hm := cn_mx_m (b := st k) ht
  cases h' : cn_E T st en nd k t' with
  | none => exact absurd h3 (cn_eb_none.mp h' b (by omega) h2)
  | some b' =>
    refine ⟨b', ?_, rfl⟩
    obtain ⟨g1, g2, g3, g4⟩ := cn_eb_some.mp h'
    exact Nat.le_of_not_lt fun hlt => g4 b (by omega) hlt h3
noncomputable def cn_ct (P : Nat → Prop) : Nat → Nat
  | 0 => 0
  | n + 1 => cn_ct P n + @ite Nat (P n) (Classical.propDecidable _) 1 0
theorem cn_ct_t {P : Nat → Prop} {n : Nat} (h : P n) : cn_ct P (n + 1) = cn_ct P n + 1 := by
  rw [cn_ct, if_pos h]
theorem cn_ct_f {P : Nat → Prop} {n : Nat} (h : ¬ P n) : cn_ct P (n + 1) = cn_ct P n := by
  rw [cn_ct, if_neg h]; rfl
theorem cn_ct_le (P : Nat → Prop) : ∀ n, cn_ct P n ≤ n := by
  intro n
  induction n with
  | zero => exact Nat.le_refl _
  | succ n ih =>
    by_cases h : P n
    · rw [cn_ct_t h]; omega
    · rw [cn_ct_f h]; omega
theorem cn_ct_x {P Q : Nat → Prop} : ∀ n, (∀ t, t < n → (P t ↔ Q t)) → cn_ct P n = cn_ct Q n := by
  intro n
  induction n with
  | zero => intro _; rfl
  | succ n ih =>
    intro h
    have e := ih (fun t ht => h t (by omega))
    by_cases hp : P n
    · rw [cn_ct_t hp, cn_ct_t ((h n (by omega)).mp hp), e]
    · rw [cn_ct_f hp, cn_ct_f (fun hq => hp ((h n (by omega)).mpr hq)), e]
theorem cn_ct_u {P Q R : Nat → Prop} : ∀ n, (∀ t, t < n → (R t ↔ P t ∨ Q t)) → (∀ t, t < n → P t → ¬ Q t) → cn_ct R n = cn_ct P n + cn_ct Q n := by
  intro n
  induction n with
  | zero => intro _ _; rfl
  | succ n ih =>
    intro h hd
    have e := ih (fun t ht => h t (by omega)) (fun t ht => hd t (by omega))
    have hn := h n (by omega)
    by_cases hp : P n
    · rw [cn_ct_t (hn.mpr (Or.inl hp)), cn_ct_t hp, cn_ct_f (hd n (by omega) hp), e]; omega
    · by_cases hq : Q n
      · rw [cn_ct_t (hn.mpr (Or.inr hq)), cn_ct_f hp, cn_ct_t hq, e]; omega
      · rw [cn_ct_f (fun hr => (hn.mp hr).elim hp hq), cn_ct_f hp, cn_ct_f hq, e]
theorem cn_ct_i (b m : Nat) : ∀ n, cn_ct (fun t => b ≤ t ∧ t < b + m) n = if n ≤ b then 0 else if n ≤ b + m then n - b else m := by
  intro n
  induction n with
  | zero => rw [if_pos (Nat.zero_le _)]; rfl
  | succ n ih =>
    by_cases h : b ≤ n ∧ n < b + m
    · rw [cn_ct_t (P := fun t => b ≤ t ∧ t < b + m) h, ih]
      split <;> (try split) <;> (try split) <;> (try split) <;> omega
    · rw [cn_ct_f (P := fun t => b ≤ t ∧ t < b + m) h, ih]
      split <;> (try split) <;> (try split) <;> (try split) <;> omega
theorem cn_ct_iv {b m n : Nat} (h : b + m ≤ n) : cn_ct (fun t => b ≤ t ∧ t < b + m) n = m := by
  rw [cn_ct_i]
  split
  · omega
  · split <;> omega
theorem cn_ct_0 {P : Nat → Prop} : ∀ n, (∀ t, t < n → ¬ P t) → cn_ct P n = 0 := by
  intro n
  induction n with
  | zero => intro _; rfl
  | succ n ih =>
    intro h
    rw [cn_ct_f (h n (by omega)), ih (fun t ht => h t (by omega))]
