section
theorem pk_us {f : Nat → Int32} {k : Nat} {x : Int32} : upd f k x k = x := if_pos rfl
theorem pk_un {f : Nat → Int32} {k j : Nat} {x : Int32} (h : j ≠ k) : upd f k x j = f j := if_neg h
theorem pk_uLs {f : Nat → Int64} {k : Nat} {x : Int64} : vp_updL f k x k = x := if_pos rfl
theorem pk_uLn {f : Nat → Int64} {k j : Nat} {x : Int64} (h : j ≠ k) : vp_updL f k x j = f j := if_neg h
theorem pk_sub {a b : Nat} (h : b ≤ a) : nI a - nI b = nI (a - b) := by
  obtain ⟨c, rfl⟩ : ∃ c, a = c + b := ⟨a - b, by omega⟩
  rw [← nI_add, Int32.add_sub_cancel, Nat.add_sub_cancel]
theorem pk_m1 (n : Nat) : nI (n + 1) + (-1) = nI n := by
  rw [← nI_1, Int32.add_assoc, show (1 : Int32) + (-1) = 0 from rfl, Int32.add_zero]
theorem pk_mul (a b : Nat) : nI a * nI b = nI (a * b) := (Int32.ofNat_mul a b).symm
theorem pk_div {a d : Nat} (ha : a < 2 ^ 31) (h0 : 0 < d) (hd : d < 2 ^ 31) : nI a / nI d = nI (a / d) := by
  apply Int32.toInt_inj.mp
  rw [lg_idiv_nonneg (by rw [nI_toInt ha]; omega) (by rw [nI_toInt hd]; omega), nI_toInt ha, nI_toInt hd, nI_toInt (Nat.lt_of_le_of_lt (Nat.div_le_self a d) ha)]
  first | rfl | exact (Int.natCast_ediv _ _).symm
theorem pk_rem {a d : Nat} (ha : a < 2 ^ 31) (h0 : 0 < d) (hd : d < 2 ^ 31) : nI a - nI a / nI d * nI d = nI (a % d) := by
  rw [pk_div ha h0 hd, pk_mul, pk_sub (Nat.div_mul_le_self a d)]
  exact congrArg nI (by have := Nat.div_add_mod' a d; omega)
theorem pk_sub_toInt {a b : Nat} (ha : a < 2 ^ 30) (hb : b < 2 ^ 30) : (nI a - nI b).toInt = (a : Int) - b := by
  rw [Int32.toInt_sub, nI_toInt (by omega), nI_toInt (by omega)]
  exact Int.bmod_eq_of_le (by omega) (by omega)
theorem pk_sneg {a b : Nat} (hb : b < 2 ^ 30) (h : a < b) : nI a - nI b < 0 := by
  rw [Int32.lt_iff_toInt_lt, pk_sub_toInt (by omega) hb, show (0 : Int32).toInt = 0 from by decide]
  omega
theorem pk_ix (x : Int32) {n : Nat} (hn : n < 2 ^ 31) : x < 0 ∨ nI n ≤ x ∨ ∃ j : Nat, j < n ∧ x = nI j := by
  by_cases h : x < 0
  · exact Or.inl h
  · obtain ⟨j, hj, rfl⟩ := nI_of h
    by_cases h2 : j < n
    · exact Or.inr (Or.inr ⟨j, h2, rfl⟩)
    · exact Or.inr (Or.inl (nI_le (by omega) hj))
theorem pk_le {x y : Int32} {A B : Prop} (a b : Nat) (f : a ≤ b → A) (g : b < a → B) (hx : x = nI a := by rfl) (hy : y = nI b := by rfl) (ha : a < 2 ^ 31 := by omega) (hb : b < 2 ^ 31 := by omega) : (x ≤ y → A) ∧ (¬ x ≤ y → B) := by
  subst hx hy
  rw [nI_leI ha hb]
  exact ⟨f, fun z => g (by omega)⟩
theorem pk_lt {x y : Int32} {A B : Prop} (a b : Nat) (f : a < b → A) (g : b ≤ a → B) (hx : x = nI a := by rfl) (hy : y = nI b := by rfl) (ha : a < 2 ^ 31 := by omega) (hb : b < 2 ^ 31 := by omega) : (x < y → A) ∧ (¬ x < y → B) := by
  subst hx hy
  rw [nI_ltI ha hb]
  exact ⟨f, fun z => g (by omega)⟩
theorem pk_eq {x y : Int32} {A B : Prop} (a b : Nat) (f : a = b → A) (g : a ≠ b → B) (hx : x = nI a := by rfl) (hy : y = nI b := by rfl) (ha : a < 2 ^ 31 := by omega) (hb : b < 2 ^ 31 := by omega) : (x = y → A) ∧ (¬ x = y → B) := by
  subst hx hy
  rw [nI_eq ha hb]
  exact ⟨f, g⟩
theorem pk_in {x : Int32} (n N : Nat) (h : n < N) (hx : x = nI n := by rfl) (hN : N < 2 ^ 31 := by omega) : vp_in x N := by
  subst hx
  exact vp_in_nI h hN
theorem pk_cl {x : Int32} (n : Nat) (hx : x = nI n := by rfl) (h : n < 2 ^ 31 := by omega) : x.toNatClampNeg = n := by
  subst hx
  exact nI_clamp h
theorem pk_tn {n : Nat} (h : n < 2 ^ 32) : (nI n).toBitVec.toNat = n := Nat.mod_eq_of_lt h
theorem pk_and (x : Int32) {m : Int32} (k : Nat) (hm : m.toBitVec.toNat = 2 ^ k - 1) : x &&& m = nI (x.toBitVec.toNat % 2 ^ k) := by
  apply Int32.toBitVec_inj.mp
  apply BitVec.eq_of_toNat_eq
  rw [Int32.toBitVec_and, BitVec.toNat_and, hm, Nat.and_two_pow_sub_one_eq_mod]
  show _ = (BitVec.ofNat 32 _).toNat
  rw [BitVec.toNat_ofNat]
  exact (Nat.mod_eq_of_lt (Nat.lt_of_le_of_lt (Nat.mod_le _ _) x.toBitVec.isLt)).symm
theorem pk_andN {n : Nat} (h : n < 2 ^ 32) {m : Int32} (k : Nat) (hm : m.toBitVec.toNat = 2 ^ k - 1) : nI n &&& m = nI (n % 2 ^ k) := by
  rw [pk_and _ k hm, pk_tn h]
theorem pk_andE (x : Int32) {m : Int32} (k : Nat) (hm : m.toBitVec.toNat = 2 ^ k - 1) : ∃ j : Nat, j < 2 ^ k ∧ x &&& m = nI j := ⟨_, Nat.mod_lt _ (Nat.two_pow_pos k), pk_and x k hm⟩
theorem pk_andIn (x : Int32) {m : Int32} (k : Nat) (hm : m.toBitVec.toNat = 2 ^ k - 1) (hk : k ≤ 30) : vp_in (x &&& m) (2 ^ k) := by
  obtain ⟨j, hj, e⟩ := pk_andE x k hm
  rw [e]
  exact vp_in_nI hj (Nat.lt_of_le_of_lt (Nat.pow_le_pow_right (by decide) hk) (by decide))
theorem pk_shl (a s : Int32) (k : Nat) (hs : (s.toBitVec.smod 32).toNat = k) : (a <<< s).toBitVec.toNat = a.toBitVec.toNat * 2 ^ k % 2 ^ 32 := by
  show (a.toBitVec <<< (s.toBitVec.smod 32).toNat).toNat = _
  rw [hs, BitVec.toNat_shiftLeft, Nat.shiftLeft_eq]
theorem pk_shlN {n : Nat} (s : Int32) (k : Nat) (hs : (s.toBitVec.smod 32).toNat = k) (h : n * 2 ^ k < 2 ^ 32) : nI n <<< s = nI (n * 2 ^ k) := by
  apply Int32.toBitVec_inj.mp
  apply BitVec.eq_of_toNat_eq
  have hn : n < 2 ^ 32 := Nat.lt_of_le_of_lt (Nat.le_mul_of_pos_right n (Nat.two_pow_pos k)) h
  rw [pk_shl _ _ k hs, pk_tn hn, pk_tn h, Nat.mod_eq_of_lt h]
theorem pk_shr (a s : Int32) (k : Nat) (hs : (s.toBitVec.smod 32).toNat = k) : (a >>> s).toInt = a.toInt >>> k := by
  show (a.toBitVec.sshiftRight (s.toBitVec.smod 32).toNat).toInt = _
  rw [hs, BitVec.toInt_sshiftRight]
  rfl
theorem pk_shrN {n : Nat} (h : n < 2 ^ 31) (s : Int32) (k : Nat) (hs : (s.toBitVec.smod 32).toNat = k) : nI n >>> s = nI (n / 2 ^ k) := by
  apply Int32.toInt_inj.mp
  have h2 : n / 2 ^ k ≤ n := Nat.div_le_self _ _
  rw [pk_shr _ _ k hs, nI_toInt h, nI_toInt (by omega), Int.shiftRight_eq_div_pow]
  rfl
theorem pk_ushr (x s : Int32) (k : Nat) (hs : ((s.toUInt32 &&& Int32.toUInt32 31).toBitVec % 32).toNat = k) : (x.toUInt32 >>> (s.toUInt32 &&& Int32.toUInt32 31)).toInt32.toBitVec.toNat = x.toBitVec.toNat / 2 ^ k := by
  have e : (x.toUInt32 >>> (s.toUInt32 &&& Int32.toUInt32 31)).toInt32.toBitVec = x.toBitVec >>> k := by
    rw [← hs]
    exact UInt32.toBitVec_shiftRight _ _
  rw [e, BitVec.toNat_ushiftRight, Nat.shiftRight_eq_div_pow]
theorem pk_ushrN {n : Nat} (hn : n < 2 ^ 32) (s : Int32) (k : Nat) (hs : ((s.toUInt32 &&& Int32.toUInt32 31).toBitVec % 32).toNat = k) : ((nI n).toUInt32 >>> (s.toUInt32 &&& Int32.toUInt32 31)).toInt32 = nI (n / 2 ^ k) := by
  apply Int32.toBitVec_inj.mp
  apply BitVec.eq_of_toNat_eq
  rw [pk_ushr _ s k hs, pk_tn hn, pk_tn (Nat.lt_of_le_of_lt (Nat.div_le_self _ _) hn)]
theorem pk_loop {σ : Type} (W : Nat → Nat → σ → Prop) (I : Nat → σ → Prop) (e i0 : Nat) (s : σ) (hi : i0 ≤ e) (h0 : I i0 s) (hx : ∀ n s, I e s → W (n + 1) e s)
    (hs : ∀ n i s, i < e → I i s → (∀ s', I (i + 1) s' → W n (i + 1) s') → W (n + 1) i s) : ∃ n, W n i0 s :=
  ⟨e + 1, loop_i W I e hx hs (e + 1) i0 s hi (by omega) h0⟩
theorem pk_loopD {σ : Type} (W : Nat → Nat → σ → Prop) (I : Nat → σ → Prop) (hx : ∀ n s, I 0 s → W (n + 1) 0 s)
    (hs : ∀ n i s, I (i + 1) s → (∀ s', I i s' → W n i s') → W (n + 1) (i + 1) s) : ∀ (e : Nat) (s : σ), I e s → W (e + 1) e s := by
  intro e
  induction e with
  | zero => exact fun s h => hx 0 s h
  | succ e ih => exact fun s h => hs (e + 1) e s h (fun s' h' => ih s' h')
theorem ek_u {A : Prop} {B : Nat → Prop} {k N : Nat} (hk : k < N) (h : B k) : (some k = none → A) ∧ (∀ y : Nat, some k = some y → (y < N ∧ B y)) :=
  ⟨fun z => absurd z (Option.some_ne_none k), fun _ e => (by cases e; exact ⟨hk, h⟩)⟩
theorem ek_nu {A : Prop} {B : Nat → Prop} (h : A) : ((none : Option Nat) = none → A) ∧ (∀ y : Nat, (none : Option Nat) = some y → B y) :=
  ⟨fun _ => h, fun _ e => (by cases e)⟩
theorem ek_if {c d A B : Prop} (e : c ↔ d) (f : d → A) (g : ¬ d → B) : (c → A) ∧ (¬ c → B) :=
  ⟨fun z => f (e.mp z), fun z => g (fun y => z (e.mpr y))⟩
theorem ek_v {α : Sort _} {P : α → Prop} {a b : α} (e : a = b) (h : P b) : P a := e ▸ h
end
section
section
variable (cc : Nat) (fr tt : Nat → Nat) (ok : Nat → Bool) (E : Nat → Nat → Option Nat) (c : Nat → Nat) (goal : Nat)
/-- what the reference's search meets, in its order: (contact, begin) after (contact, begin), and the arrival -/
def cn_yS : Nat → List Nat → Nat → Nat → List (List (Nat × Nat) × Nat)
  | 0, _, _, _ => []
  | n + 1, used, node, time => (List.range' 0 cc).flatMap (fun k =>
      if fr k = node ∧ ok k = true ∧ k ∉ used then
        match E k time with
        | none => []
        | some b => (if tt k = goal then [([(k, b)], b + c k)] else []) ++ (cn_yS n (k :: used) (tt k) (b + c k)).map (fun r => ((k, b) :: r.1, r.2))
      else [])
/-- what the component's search meets -/
def cn_xS : Nat → List Nat → Nat → Nat → List (List (Nat × Nat) × Nat)
  | 0, _, _, _ => []
  | n + 1, ns, node, time => (List.range' 0 cc).flatMap (fun k =>
      if fr k = node ∧ ok k = true ∧ tt k ∉ ns then
        match E k time with
        | none => []
        | some b => if tt k = goal then [([(k, b)], b + c k)] else (cn_xS n (node :: ns) (tt k) (b + c k)).map (fun r => ((k, b) :: r.1, r.2))
      else [])
def cn_good : List Nat → Nat → List (Nat × Nat) → Bool
  | _, _, [] => true
  | ns, node, x :: l => decide (tt x.1 ∉ ns) && (if tt x.1 = goal then l.isEmpty else cn_good (node :: ns) (tt x.1) l)
def cn_wk : List (Nat × Nat) → Nat → Nat → Nat → Prop
  | [], node, time, a => node = goal ∧ a = time
  | x :: l, node, time, a => x.1 < cc ∧ fr x.1 = node ∧ ok x.1 = true ∧ E x.1 time = some x.2 ∧ cn_wk l (tt x.1) (x.2 + c x.1) a
def cn_simple : Nat → List (Nat × Nat) → Prop
  | _, [] => True
  | node, x :: l => node ∉ (x :: l).map (fun p => tt p.1) ∧ (tt x.1 = goal → l = []) ∧ cn_simple (tt x.1) l
end
section
variable {cc : Nat} {fr tt : Nat → Nat} {ok : Nat → Bool} {E : Nat → Nat → Option Nat} {c : Nat → Nat} {goal : Nat}
theorem cn_fmc {α β : Type} {l : List α} {f g : α → List β} (h : ∀ a, a ∈ l → f a = g a) : l.flatMap f = l.flatMap g := by
  induction l with
  | nil => rfl
  | cons x l ih =>
    rw [List.flatMap_cons, List.flatMap_cons, h x (List.mem_cons_self ..), ih (fun a ha => h a (List.mem_cons_of_mem _ ha))]
theorem cn_mem : ∀ (n : Nat) (used : List Nat) (node time : Nat) (l : List (Nat × Nat)) (a : Nat),
    (l, a) ∈ cn_yS cc fr tt ok E c goal n used node time ↔ l ≠ [] ∧ l.length ≤ n ∧ cn_wk cc fr tt ok E c goal l node time a ∧ (l.map Prod.fst).Nodup ∧ ∀ k, k ∈ l.map Prod.fst → k ∉ used := by
  intro n
  induction n with
  | zero =>
    intro used node time l a
    constructor
    · intro h; simp [cn_yS] at h
    · rintro ⟨h1, h2, _⟩
      exact absurd (List.length_eq_zero_iff.mp (Nat.le_zero.mp h2)) h1
  | succ n ih =>
    intro used node time l a
    rw [cn_yS, List.mem_flatMap]
    constructor
    · rintro ⟨k, hk, h⟩
      have hk' : k < cc := by have := List.mem_range'_1.mp hk; omega
      by_cases hc : fr k = node ∧ ok k = true ∧ k ∉ used
      · rw [if_pos hc] at h
        obtain ⟨c1, c2, c3⟩ := hc
        cases hE : E k time with
        | none => rw [hE] at h; simp at h
        | some b =>
          rw [hE] at h
          dsimp only at h
          rcases List.mem_append.mp h with h | h
          · by_cases hg : tt k = goal
            · rw [if_pos hg] at h
              simp only [List.mem_singleton, Prod.mk.injEq] at h
              obtain ⟨rfl, rfl⟩ := h
              exact ⟨by simp, by simp, ⟨hk', c1, c2, hE, hg, rfl⟩, by simp, by simpa using c3⟩
            · rw [if_neg hg] at h
              simp at h
          · obtain ⟨r, hr, er⟩ := List.mem_map.mp h
            obtain ⟨l2, a2⟩ := r
            simp only [Prod.mk.injEq] at er
            obtain ⟨rfl, rfl⟩ := er
            obtain ⟨q1, q2, q3, q4, q5⟩ := (ih _ _ _ _ _).mp hr
            refine ⟨by simp, by rw [List.length_cons]; omega, ⟨hk', c1, c2, hE, q3⟩, ?_, ?_⟩
            · rw [List.map_cons, List.nodup_cons]
              exact ⟨fun hm => q5 k hm (List.mem_cons_self ..), q4⟩
            · intro j hj
              rw [List.map_cons] at hj
              rcases List.mem_cons.mp hj with hj | hj
              · rw [hj]; exact c3
              · exact fun hu => q5 j hj (List.mem_cons_of_mem _ hu)
      · rw [if_neg hc] at h
        simp at h
    · rintro ⟨h1, h2, h3, h4, h5⟩
      cases l with
      | nil => exact absurd rfl h1
      | cons x l2 =>
        obtain ⟨k, b⟩ := x
        obtain ⟨w1, w2, w3, w4, w5⟩ := h3
        dsimp only at w1 w2 w3 w4 w5
        refine ⟨k, List.mem_range'_1.mpr ⟨Nat.zero_le _, by omega⟩, ?_⟩
        rw [if_pos ⟨w2, w3, h5 k (by simp)⟩, w4]
        dsimp only
        rw [List.mem_append]
        cases l2 with
        | nil =>
          left
          obtain ⟨g1, g2⟩ := w5
          rw [if_pos g1, g2]
          exact List.mem_singleton.mpr rfl
        | cons y l3 =>
          right
          rw [List.map_cons, List.nodup_cons] at h4
          refine List.mem_map.mpr ⟨(y :: l3, a), (ih _ _ _ _ _).mpr ⟨by simp, ?_, w5, h4.2, ?_⟩, rfl⟩
          · rw [List.length_cons] at h2; omega
          · intro j hj hu
            rcases List.mem_cons.mp hu with hu | hu
            · rw [hu] at hj; exact h4.1 hj
            · exact h5 j (by rw [List.map_cons]; exact List.mem_cons_of_mem _ hj) hu
theorem cn_filter (hft : ∀ k, k < cc → fr k ≠ tt k) : ∀ (n : Nat) (ns used : List Nat) (node time : Nat), node ∉ ns → (∀ k, k ∈ used → fr k ∈ ns) →
    cn_xS cc fr tt ok E c goal n ns node time = (cn_yS cc fr tt ok E c goal n used node time).filter (fun r => cn_good tt goal ns node r.1) := by
  intro n
  induction n with
  | zero => intro ns used node time _ _; simp [cn_xS, cn_yS]
  | succ n ih =>
    intro ns used node time hn hu
    rw [cn_xS, cn_yS, List.filter_flatMap]
    apply cn_fmc
    intro k hk
    have hk' : k < cc := by have := List.mem_range'_1.mp hk; omega
    by_cases h1 : fr k = node ∧ ok k = true
    · obtain ⟨e1, e2⟩ := h1
      have hku : k ∉ used := fun h => hn (e1 ▸ hu k h)
      rw [if_pos (show fr k = node ∧ ok k = true ∧ k ∉ used from ⟨e1, e2, hku⟩)]
      cases hE : E k time with
      | none =>
        by_cases hx : tt k ∈ ns
        · rw [if_neg (fun h => h.2.2 hx)]; rfl
        · rw [if_pos ⟨e1, e2, hx⟩]; rfl
      | some b =>
        dsimp only
        by_cases hx : tt k ∈ ns
        · rw [if_neg (fun h => h.2.2 hx)]
          symm
          rw [List.filter_eq_nil_iff]
          intro r hr
          have hb : cn_good tt goal ns node r.1 = false := by
            rcases List.mem_append.mp hr with h | h
            · by_cases hg : tt k = goal
              · rw [if_pos hg] at h
                rw [List.mem_singleton.mp h]
                simp [cn_good, hx]
              · rw [if_neg hg] at h
                simp at h
            · obtain ⟨r2, _, er⟩ := List.mem_map.mp h
              rw [← er]
              simp [cn_good, hx]
          rw [hb]; decide
        · rw [if_pos ⟨e1, e2, hx⟩, List.filter_append]
          by_cases hg : tt k = goal
          · rw [if_pos hg, if_pos hg]
            have z1 : [([(k, b)], b + c k)].filter (fun r : List (Nat × Nat) × Nat => cn_good tt goal ns node r.1) = [([(k, b)], b + c k)] := by
              simp [cn_good, hx]
            have z2 : ((cn_yS cc fr tt ok E c goal n (k :: used) (tt k) (b + c k)).map (fun r => ((k, b) :: r.1, r.2))).filter (fun r : List (Nat × Nat) × Nat => cn_good tt goal ns node r.1) = [] := by
              rw [List.filter_eq_nil_iff]
              intro r hr
              obtain ⟨r2, hr2, er⟩ := List.mem_map.mp hr
              have hne := ((cn_mem n _ _ _ r2.1 r2.2).mp hr2).1
              rw [← er]
              simp [cn_good, hx, hg, hne]
            rw [z1, z2]; rfl
          · rw [if_neg hg, if_neg hg, List.filter_nil, List.nil_append, List.filter_map]
            have hn2 : tt k ∉ node :: ns := by
              intro h
              rcases List.mem_cons.mp h with h | h
              · exact hft k hk' (e1.trans h.symm)
              · exact hx h
            have hu2 : ∀ j, j ∈ k :: used → fr j ∈ node :: ns := by
              intro j hj
              rcases List.mem_cons.mp hj with h | h
              · rw [h, e1]; exact List.mem_cons_self ..
              · exact List.mem_cons_of_mem _ (hu j h)
            rw [ih (node :: ns) (k :: used) (tt k) (b + c k) hn2 hu2]
            congr 1
            apply List.filter_congr
            intro r _
            simp [cn_good, hx, hg]
    · rw [if_neg (fun h => h1 ⟨h.1, h.2.1⟩), if_neg (fun h => h1 ⟨h.1, h.2.1⟩)]; rfl
theorem cn_wkLe (hge : ∀ k t b, E k t = some b → t ≤ b) : ∀ (l : List (Nat × Nat)) (node time a : Nat), cn_wk cc fr tt ok E c goal l node time a → time ≤ a := by
  intro l
  induction l with
  | nil => intro node time a h; exact Nat.le_of_eq h.2.symm
  | cons x l ih =>
    intro node time a h
    obtain ⟨w1, w2, w3, w4, w5⟩ := h
    have h1 := hge _ _ _ w4
    have h2 := ih _ _ _ w5
    omega
theorem cn_wkMono (hm : ∀ k t t' b, t' ≤ t → E k t = some b → ∃ b', b' ≤ b ∧ E k t' = some b') : ∀ (l : List (Nat × Nat)) (node time a time' : Nat), time' ≤ time → cn_wk cc fr tt ok E c goal l node time a →
    ∃ (l' : List (Nat × Nat)) (a' : Nat), l'.map Prod.fst = l.map Prod.fst ∧ a' ≤ a ∧ cn_wk cc fr tt ok E c goal l' node time' a' := by
  intro l
  induction l with
  | nil => intro node time a time' ht h; exact ⟨[], time', rfl, by rw [h.2]; exact ht, h.1, rfl⟩
  | cons x l ih =>
    intro node time a time' ht h
    obtain ⟨w1, w2, w3, w4, w5⟩ := h
    obtain ⟨b', hb, hE⟩ := hm _ _ _ _ ht w4
    obtain ⟨l', a', q1, q2, q3⟩ := ih (tt x.1) (x.2 + c x.1) a (b' + c x.1) (by omega) w5
    exact ⟨(x.1, b') :: l', a', by rw [List.map_cons, List.map_cons, q1], q2, w1, w2, w3, hE, q3⟩
theorem cn_suf (hge : ∀ k t b, E k t = some b → t ≤ b) : ∀ (l : List (Nat × Nat)) (node time a x : Nat), cn_wk cc fr tt ok E c goal l node time a → x ∈ l.map (fun p => tt p.1) →
    ∃ (q : List (Nat × Nat)) (t' : Nat), cn_wk cc fr tt ok E c goal q x t' a ∧ time ≤ t' ∧ q.length < l.length ∧ (q.map Prod.fst).Sublist (l.map Prod.fst) := by
  intro l
  induction l with
  | nil => intro node time a x _ hx; simp at hx
  | cons y l ih =>
    intro node time a x h hx
    obtain ⟨w1, w2, w3, w4, w5⟩ := h
    have h1 := hge _ _ _ w4
    rw [List.map_cons] at hx
    rcases List.mem_cons.mp hx with hx | hx
    · exact ⟨l, y.2 + c y.1, by rw [hx]; exact w5, by omega, by rw [List.length_cons]; omega, by rw [List.map_cons]; exact List.sublist_cons_self _ _⟩
    · obtain ⟨q, t', q1, q2, q3, q4⟩ := ih _ _ _ x w5 hx
      exact ⟨q, t', q1, by omega, by rw [List.length_cons]; omega, by rw [List.map_cons]; exact List.Sublist.cons _ q4⟩
theorem cn_sg : ∀ (l : List (Nat × Nat)) (ns : List Nat) (node : Nat), cn_simple tt goal node l → (∀ x, x ∈ l.map (fun p => tt p.1) → x ∉ ns) → cn_good tt goal ns node l = true := by
  intro l
  induction l with
  | nil => intro ns node _ _; rfl
  | cons y l ih =>
    intro ns node h hd
    obtain ⟨s1, s2, s3⟩ := h
    have h1 : tt y.1 ∉ ns := hd _ (by rw [List.map_cons]; exact List.mem_cons_self ..)
    rw [cn_good]
    by_cases hg : tt y.1 = goal
    · rw [if_pos hg, s2 hg]; simp [h1]
    · rw [if_neg hg, ih (node :: ns) (tt y.1) s3]
      · simp [h1]
      · intro x hx hm
        rcases List.mem_cons.mp hm with hm | hm
        · apply s1
          rw [List.map_cons, ← hm]
          exact List.mem_cons_of_mem _ hx
        · exact hd x (by rw [List.map_cons]; exact List.mem_cons_of_mem _ hx) hm
theorem cn_short (hge : ∀ k t b, E k t = some b → t ≤ b) (hm : ∀ k t t' b, t' ≤ t → E k t = some b → ∃ b', b' ≤ b ∧ E k t' = some b') : ∀ (l : List (Nat × Nat)) (node time a : Nat), cn_wk cc fr tt ok E c goal l node time a → ¬ cn_simple tt goal node l →
    ∃ (l' : List (Nat × Nat)) (a' : Nat), cn_wk cc fr tt ok E c goal l' node time a' ∧ a' ≤ a ∧ l'.length < l.length ∧ (l'.map Prod.fst).Sublist (l.map Prod.fst) := by
  intro l
  induction l with
  | nil => intro node time a _ h; exact absurd trivial h
  | cons y l ih =>
    intro node time a h hs
    by_cases h1 : node ∈ (y :: l).map (fun p => tt p.1)
    · obtain ⟨q, t', q1, q2, q3, q4⟩ := cn_suf hge (y :: l) node time a node h h1
      obtain ⟨l', a', p1, p2, p3⟩ := cn_wkMono hm q node t' a time q2 q1
      have hl : l'.length = q.length := by
        have := congrArg List.length p1
        rw [List.length_map, List.length_map] at this
        exact this
      exact ⟨l', a', p3, p2, by omega, by rw [p1]; exact q4⟩
    · obtain ⟨w1, w2, w3, w4, w5⟩ := h
      by_cases h2 : tt y.1 = goal → l = []
      · have h3 : ¬ cn_simple tt goal (tt y.1) l := fun h => hs ⟨h1, h2, h⟩
        obtain ⟨l', a', p1, p2, p3, p4⟩ := ih _ _ _ w5 h3
        exact ⟨y :: l', a', ⟨w1, w2, w3, w4, p1⟩, p2, by rw [List.length_cons, List.length_cons]; omega, by rw [List.map_cons, List.map_cons]; exact List.Sublist.cons_cons _ p4⟩
      · have hg : tt y.1 = goal := Decidable.byContradiction fun hg => h2 fun h => absurd h hg
        have hl : l ≠ [] := fun hl => h2 fun _ => hl
        have h3 := cn_wkLe hge _ _ _ _ w5
        refine ⟨[y], y.2 + c y.1, ⟨w1, w2, w3, w4, hg, rfl⟩, h3, ?_, ?_⟩
        · have := List.length_pos_iff.mpr hl
          rw [List.length_cons, List.length_cons, List.length_nil]; omega
        · rw [List.map_cons, List.map_cons, List.map_nil]
          exact List.Sublist.cons_cons _ (List.nil_sublist _)
end
abbrev cn_R : Type := List (Nat × Nat) × Nat
def cn_key (r : cn_R) : Nat := r.2 * 6 + r.1.length
def cn_f (o : Option cn_R) (r : cn_R) : Option cn_R :=
  match o with
  | none => some r
  | some m => if cn_key r < cn_key m then some r else some m
theorem cn_split : ∀ (L : List cn_R), L ≠ [] → ∃ (L1 : List cn_R) (m : cn_R) (L2 : List cn_R), L = L1 ++ m :: L2 ∧ (∀ x, x ∈ L1 → cn_key m < cn_key x) ∧ (∀ x, x ∈ L2 → cn_key m ≤ cn_key x) := by
  intro L
  induction L with
  | nil => intro h; exact absurd rfl h
  | cons x L ih =>
    intro _
    by_cases hL : L = []
    · exact ⟨[], x, [], by rw [hL]; rfl, by simp, by simp⟩
    · obtain ⟨L1, m, L2, e, h1, h2⟩ := ih hL
      by_cases hk : cn_key m < cn_key x
      · refine ⟨x :: L1, m, L2, by rw [e]; rfl, ?_, h2⟩
        intro y hy
        rcases List.mem_cons.mp hy with hy | hy
        · rw [hy]; exact hk
        · exact h1 y hy
      · refine ⟨[], x, L, rfl, by simp, ?_⟩
        intro y hy
        rw [e] at hy
        rcases List.mem_append.mp hy with hy | hy
        · have := h1 y hy; omega
        · rcases List.mem_cons.mp hy with hy | hy
          · rw [hy]; omega
          · have := h2 y hy; omega
theorem cn_keepAll : ∀ (L : List cn_R) (m : cn_R), (∀ x, x ∈ L → cn_key m ≤ cn_key x) → L.foldl cn_f (some m) = some m := by
  intro L
  induction L with
  | nil => intro m _; rfl
  | cons x L ih =>
    intro m h
    have h1 := h x (List.mem_cons_self ..)
    rw [List.foldl_cons]
    have e : cn_f (some m) x = some m := by
      show (if cn_key x < cn_key m then some x else some m) = some m
      rw [if_neg (by omega)]
    rw [e]
    exact ih m (fun y hy => h y (List.mem_cons_of_mem _ hy))
theorem cn_foldIn : ∀ (L : List cn_R) (o : Option cn_R) (m : cn_R), L.foldl cn_f o = some m → o = some m ∨ m ∈ L := by
  intro L
  induction L with
  | nil => intro o m h; exact Or.inl h
  | cons x L ih =>
    intro o m h
    rw [List.foldl_cons] at h
    rcases ih _ _ h with h | h
    · cases o with
      | none =>
        have e : x = m := Option.some.inj h
        exact Or.inr (by rw [e]; exact List.mem_cons_self ..)
      | some y =>
        by_cases hk : cn_key x < cn_key y
        · have e : cn_f (some y) x = some x := if_pos hk
          rw [e] at h
          exact Or.inr (by rw [Option.some.inj h]; exact List.mem_cons_self ..)
        · have e : cn_f (some y) x = some y := if_neg hk
          rw [e] at h
          exact Or.inl h
    · exact Or.inr (List.mem_cons_of_mem _ h)
theorem cn_foldSplit {L1 L2 : List cn_R} {m : cn_R} (h1 : ∀ x, x ∈ L1 → cn_key m < cn_key x) (h2 : ∀ x, x ∈ L2 → cn_key m ≤ cn_key x) : (L1 ++ m :: L2).foldl cn_f none = some m := by
  rw [List.foldl_append, List.foldl_cons]
  have e : cn_f (L1.foldl cn_f none) m = some m := by
    cases hf : L1.foldl cn_f none with
    | none => rfl
    | some x =>
      rcases cn_foldIn _ _ _ hf with h | h
      · exact absurd h (by simp)
      · exact if_pos (h1 x h)
  rw [e]
  exact cn_keepAll _ _ h2
theorem cn_filt (p : cn_R → Bool) (L : List cn_R) (hd : ∀ x, x ∈ L → p x = false → ∃ y, y ∈ L ∧ cn_key y < cn_key x) : (L.filter p).foldl cn_f none = L.foldl cn_f none := by
  by_cases hL : L = []
  · rw [hL]; rfl
  · obtain ⟨L1, m, L2, e, h1, h2⟩ := cn_split L hL
    have hall : ∀ y, y ∈ L → cn_key m ≤ cn_key y := by
      intro y hy
      rw [e] at hy
      rcases List.mem_append.mp hy with hy | hy
      · have := h1 y hy; omega
      · rcases List.mem_cons.mp hy with hy | hy
        · rw [hy]; omega
        · exact h2 y hy
    have hp : p m = true := by
      cases hp : p m with
      | true => rfl
      | false =>
        obtain ⟨y, hy, hlt⟩ := hd m (by rw [e]; exact List.mem_append_right _ (List.mem_cons_self ..)) hp
        have := hall y hy
        omega
    rw [e, List.filter_append, List.filter_cons_of_pos hp, cn_foldSplit h1 h2]
    exact cn_foldSplit (fun x hx => h1 x (List.mem_filter.mp hx).1) (fun x hx => h2 x (List.mem_filter.mp hx).1)
section
variable {cc : Nat} {fr tt : Nat → Nat} {ok : Nat → Bool} {E : Nat → Nat → Option Nat} {c : Nat → Nat} {goal : Nat}
theorem cn_main (hft : ∀ k, k < cc → fr k ≠ tt k) (hge : ∀ k t b, E k t = some b → t ≤ b) (hm : ∀ k t t' b, t' ≤ t → E k t = some b → ∃ b', b' ≤ b ∧ E k t' = some b') (n s t : Nat) (hs : s ≠ goal) :
    (cn_xS cc fr tt ok E c goal n [] s t).foldl cn_f none = (cn_yS cc fr tt ok E c goal n [] s t).foldl cn_f none := by
  rw [cn_filter hft n [] [] s t (by simp) (by simp)]
  apply cn_filt
  intro r hr hb
  obtain ⟨l, a⟩ := r
  obtain ⟨q1, q2, q3, q4, q5⟩ := (cn_mem n [] s t l a).mp hr
  have hns : ¬ cn_simple tt goal s l := by
    intro h
    have := cn_sg l [] s h (by simp)
    rw [this] at hb
    exact absurd hb (by decide)
  obtain ⟨l', a', p1, p2, p3, p4⟩ := cn_short hge hm l s t a q3 hns
  refine ⟨(l', a'), (cn_mem n [] s t l' a').mpr ⟨?_, by omega, p1, List.Nodup.sublist p4 q4, by simp⟩, ?_⟩
  · intro he
    rw [he] at p1
    exact hs p1.1
  · show a' * 6 + l'.length < a * 6 + l.length
    omega
/-- what a search answers -/
theorem cn_res (hft : ∀ k, k < cc → fr k ≠ tt k) {n s t : Nat} {l : List (Nat × Nat)} {a : Nat} (h : (cn_xS cc fr tt ok E c goal n [] s t).foldl cn_f none = some (l, a)) :
    l ≠ [] ∧ l.length ≤ n ∧ cn_wk cc fr tt ok E c goal l s t a ∧ (l.map Prod.fst).Nodup ∧ cn_good tt goal [] s l = true := by
  rcases cn_foldIn _ _ _ h with h | h
  · exact absurd h (by simp)
  · rw [cn_filter hft n [] [] s t (by simp) (by simp)] at h
    obtain ⟨h1, h2⟩ := List.mem_filter.mp h
    obtain ⟨q1, q2, q3, q4, q5⟩ := (cn_mem n [] s t l a).mp h1
    exact ⟨q1, q2, q3, q4, h2⟩
theorem cn_ng : ∀ (l : List (Nat × Nat)) (ns : List Nat) (node : Nat), cn_good tt goal ns node l = true → ∀ i, i + 1 < l.length → tt (l.getD i (0, 0)).1 ≠ goal := by
  intro l
  induction l with
  | nil => intro ns node _ i hi; simp at hi
  | cons y l ih =>
    intro ns node h i hi hg
    rw [cn_good] at h
    rw [List.length_cons] at hi
    by_cases hy : tt y.1 = goal
    · rw [if_pos hy] at h
      have hl : l = [] := by
        have := (Bool.and_eq_true_iff.mp h).2
        exact List.isEmpty_iff.mp this
      rw [hl] at hi
      simp at hi
    · rw [if_neg hy] at h
      cases i with
      | zero => exact hy hg
      | succ i => exact ih _ _ (Bool.and_eq_true_iff.mp h).2 i (by omega) hg
end
end
section
def cn_fr (T : Nat → Bool) : Nat → Nat → Bool
  | 0, _ => true
  | n + 1, b => !T b && cn_fr T n (b + 1)
theorem cn_fr_iff (T : Nat → Bool) : ∀ (n b : Nat), cn_fr T n b = true ↔ ∀ t, b ≤ t → t < b + n → T t = false := by
  intro n
  induction n with
  | zero => intro b; exact ⟨fun _ t h1 h2 => by omega, fun _ => rfl⟩
  | succ n ih =>
    intro b
    rw [cn_fr, Bool.and_eq_true_iff, ih (b + 1)]
    constructor
    · rintro ⟨h1, h2⟩ t h3 h4
      by_cases e : t = b
      · rw [e]; simpa using h1
      · exact h2 t (by omega) (by omega)
    · intro h
      exact ⟨by have := h b (by omega) (by omega); simp [this], fun t h1 h2 => h t (by omega) (by omega)⟩
def cn_sr (F : Nat → Bool) : Nat → Nat → Option Nat
  | 0, _ => none
  | m + 1, b => if F b = true then some b else cn_sr F m (b + 1)
theorem cn_sr_some (F : Nat → Bool) : ∀ (m b x : Nat), cn_sr F m b = some x ↔ b ≤ x ∧ x < b + m ∧ F x = true ∧ ∀ y, b ≤ y → y < x → F y = false := by
  intro m
  induction m with
  | zero => intro b x; constructor
            · intro h; exact absurd h (by simp [cn_sr])
            · rintro ⟨h1, h2, _⟩; omega
  | succ m ih =>
    intro b x
    rw [cn_sr]
    by_cases hF : F b = true
    · rw [if_pos hF]
      constructor
      · intro h
        have e := Option.some.inj h
        rw [← e]
        exact ⟨by omega, by omega, hF, fun y h1 h2 => by omega⟩
      · rintro ⟨h1, h2, h3, h4⟩
        by_cases e : b = x
        · rw [e]
        · have := h4 b (by omega) (by omega)
          rw [this] at hF
          exact absurd hF (by decide)
    · rw [if_neg hF, ih (b + 1) x]
      constructor
      · rintro ⟨h1, h2, h3, h4⟩
        refine ⟨by omega, by omega, h3, fun y g1 g2 => ?_⟩
        by_cases e : y = b
        · rw [e]; simpa using hF
        · exact h4 y (by omega) g2
      · rintro ⟨h1, h2, h3, h4⟩
        have hne : b ≠ x := fun e => hF (e ▸ h3)
        exact ⟨by omega, by omega, h3, fun y g1 g2 => h4 y (by omega) g2⟩
theorem cn_sr_none (F : Nat → Bool) : ∀ (m b : Nat), cn_sr F m b = none ↔ ∀ y, b ≤ y → y < b + m → F y = false := by
  intro m
  induction m with
  | zero => intro b; exact ⟨fun _ y h1 h2 => by omega, fun _ => rfl⟩
  | succ m ih =>
    intro b
    rw [cn_sr]
    by_cases hF : F b = true
    · rw [if_pos hF]
      constructor
      · intro h; exact absurd h (by simp)
      · intro h
        have := h b (by omega) (by omega)
        rw [this] at hF
        exact absurd hF (by decide)
    · rw [if_neg hF, ih (b + 1)]
      constructor
      · intro h y g1 g2
        by_cases e : y = b
        · rw [e]; simpa using hF
        · exact h y (by omega) (by omega)
      · intro h y g1 g2
        exact h y (by omega) (by omega)
/-- the least begin from lo on, the ticks before hi, beside the taken ones -/
def cn_eb (T : Nat → Bool) (lo hi need : Nat) : Option Nat := cn_sr (cn_fr T need) (hi + 1 - need - lo) lo
def cn_fw (T : Nat → Bool) (need b : Nat) : Prop := ∀ t, b ≤ t → t < b + need → T t = false
theorem cn_frf {T : Nat → Bool} {n b : Nat} : cn_fr T n b = false ↔ ¬ cn_fw T n b := by
  rw [← Bool.not_eq_true, cn_fr_iff]; exact Iff.rfl
theorem cn_eb_some {T : Nat → Bool} {lo hi need x : Nat} : cn_eb T lo hi need = some x ↔ lo ≤ x ∧ x + need ≤ hi ∧ cn_fw T need x ∧ ∀ y, lo ≤ y → y < x → ¬ cn_fw T need y := by
  rw [cn_eb, cn_sr_some, cn_fr_iff]
  constructor
  · rintro ⟨h1, h2, h3, h4⟩
    exact ⟨h1, by omega, h3, fun y g1 g2 => cn_frf.mp (h4 y g1 g2)⟩
  · rintro ⟨h1, h2, h3, h4⟩
    exact ⟨h1, by omega, h3, fun y g1 g2 => cn_frf.mpr (h4 y g1 g2)⟩
theorem cn_eb_none {T : Nat → Bool} {lo hi need : Nat} : cn_eb T lo hi need = none ↔ ∀ y, lo ≤ y → y + need ≤ hi → ¬ cn_fw T need y := by
  rw [cn_eb, cn_sr_none]
  constructor
  · intro h y g1 g2
    exact cn_frf.mp (h y g1 (by omega))
  · intro h y g1 g2
    exact cn_frf.mpr (h y g1 (by omega))
def cn_mx (a b : Nat) : Nat := if b < a then a else b
theorem cn_mx_l (a b : Nat) : a ≤ cn_mx a b := by unfold cn_mx; split <;> omega
theorem cn_mx_r (a b : Nat) : b ≤ cn_mx a b := by unfold cn_mx; split <;> omega
theorem cn_mx_m {a a' b : Nat} (h : a ≤ a') : cn_mx a b ≤ cn_mx a' b := by unfold cn_mx; split <;> split <;> omega
theorem cn_mx_le {a b n : Nat} (h : a ≤ n) (h2 : b ≤ n) : cn_mx a b ≤ n := by unfold cn_mx; split <;> omega
/-- the begin that a contact gives at a ready time -/
def cn_E (T : Nat → Nat → Bool) (st en nd : Nat → Nat) (k t : Nat) : Option Nat := cn_eb (T k) (cn_mx t (st k)) (en k) (nd k)
theorem cn_E_ge {T : Nat → Nat → Bool} {st en nd : Nat → Nat} : ∀ k t b, cn_E T st en nd k t = some b → t ≤ b := by
  intro k t b h
  have h1 := (cn_eb_some.mp h).1
  have h2 := cn_mx_l t (st k)
  omega
theorem cn_E_mono {T : Nat → Nat → Bool} {st en nd : Nat → Nat} : ∀ k t t' b, t' ≤ t → cn_E T st en nd k t = some b → ∃ b', b' ≤ b ∧ cn_E T st en nd k t' = some b' := by
  intro k t t' b ht h
  obtain ⟨h1, h2, h3, h4⟩ := cn_eb_some.mp h
  have hm := cn_mx_m (b := st k) ht
  cases h' : cn_E T st en nd k t' with
  | none => exact absurd h3 (cn_eb_none.mp h' b (by omega) h2)
  | some b' =>
    refine ⟨b', ?_, rfl⟩
    obtain ⟨g1, g2, g3, g4⟩ := cn_eb_some.mp h'
    exact Nat.le_of_not_lt fun hlt => g4 b (by omega) hlt h3
noncomputable def cn_ct (P : Nat → Prop) : Nat → Nat
  | 0 => 0
  | n + 1 => cn_ct P n + @ite Nat (P n) (Classical.propDecidable _) 1 0
theorem cn_ct_t {P : Nat → Prop} {n : Nat} (h : P n) : cn_ct P (n + 1) = cn_ct P n + 1 := by
  rw [cn_ct, if_pos h]
theorem cn_ct_f {P : Nat → Prop} {n : Nat} (h : ¬ P n) : cn_ct P (n + 1) = cn_ct P n := by
  rw [cn_ct, if_neg h]; rfl
theorem cn_ct_le (P : Nat → Prop) : ∀ n, cn_ct P n ≤ n := by
  intro n
  induction n with
  | zero => exact Nat.le_refl _
  | succ n ih =>
    by_cases h : P n
    · rw [cn_ct_t h]; omega
    · rw [cn_ct_f h]; omega
theorem cn_ct_x {P Q : Nat → Prop} : ∀ n, (∀ t, t < n → (P t ↔ Q t)) → cn_ct P n = cn_ct Q n := by
  intro n
  induction n with
  | zero => intro _; rfl
  | succ n ih =>
    intro h
    have e := ih (fun t ht => h t (by omega))
    by_cases hp : P n
    · rw [cn_ct_t hp, cn_ct_t ((h n (by omega)).mp hp), e]
    · rw [cn_ct_f hp, cn_ct_f (fun hq => hp ((h n (by omega)).mpr hq)), e]
theorem cn_ct_u {P Q R : Nat → Prop} : ∀ n, (∀ t, t < n → (R t ↔ P t ∨ Q t)) → (∀ t, t < n → P t → ¬ Q t) → cn_ct R n = cn_ct P n + cn_ct Q n := by
  intro n
  induction n with
  | zero => intro _ _; rfl
  | succ n ih =>
    intro h hd
    have e := ih (fun t ht => h t (by omega)) (fun t ht => hd t (by omega))
    have hn := h n (by omega)
    by_cases hp : P n
    · rw [cn_ct_t (hn.mpr (Or.inl hp)), cn_ct_t hp, cn_ct_f (hd n (by omega) hp), e]; omega
    · by_cases hq : Q n
      · rw [cn_ct_t (hn.mpr (Or.inr hq)), cn_ct_f hp, cn_ct_t hq, e]; omega
      · rw [cn_ct_f (fun hr => (hn.mp hr).elim hp hq), cn_ct_f hp, cn_ct_f hq, e]
theorem cn_ct_i (b m : Nat) : ∀ n, cn_ct (fun t => b ≤ t ∧ t < b + m) n = if n ≤ b then 0 else if n ≤ b + m then n - b else m := by
  intro n
  induction n with
  | zero => rw [if_pos (Nat.zero_le _)]; rfl
  | succ n ih =>
    by_cases h : b ≤ n ∧ n < b + m
    · rw [cn_ct_t (P := fun t => b ≤ t ∧ t < b + m) h, ih]
      split <;> (try split) <;> (try split) <;> (try split) <;> omega
    · rw [cn_ct_f (P := fun t => b ≤ t ∧ t < b + m) h, ih]
      split <;> (try split) <;> (try split) <;> (try split) <;> omega
theorem cn_ct_iv {b m n : Nat} (h : b + m ≤ n) : cn_ct (fun t => b ≤ t ∧ t < b + m) n = m := by
  rw [cn_ct_i]
  split
  · omega
  · split <;> omega
theorem cn_ct_0 {P : Nat → Prop} : ∀ n, (∀ t, t < n → ¬ P t) → cn_ct P n = 0 := by
  intro n
  induction n with
  | zero => intro _; rfl
  | succ n ih =>
    intro h
    rw [cn_ct_f (h n (by omega)), ih (fun t ht => h t (by omega))]
end
section
def cn_tk (ra : Nat → Nat) (k s : Nat) : Nat := (s + ra k - 1) / ra k
theorem cn_tk_pos {ra : Nat → Nat} {k s : Nat} (h1 : 1 ≤ ra k) (h2 : 1 ≤ s) : 1 ≤ cn_tk ra k s := by
  unfold cn_tk
  exact (Nat.le_div_iff_mul_le (by omega)).mpr (by omega)
theorem cn_tk_le {ra : Nat → Nat} {k s : Nat} (h1 : ra k ≤ 9) (h2 : s ≤ 30) : cn_tk ra k s ≤ 38 := by
  unfold cn_tk
  have := Nat.div_le_self (s + ra k - 1) (ra k)
  omega
def cn_up (f : Nat → Nat) (k x : Nat) : Nat → Nat := fun j => if j = k then x else f j
theorem cn_up_s {f : Nat → Nat} {k x : Nat} : cn_up f k x k = x := if_pos rfl
theorem cn_up_n {f : Nat → Nat} {k j x : Nat} (h : j ≠ k) : cn_up f k x j = f j := if_neg h
theorem cn_upd (f : Nat → Nat) (k x : Nat) : upd (fun j => nI (f j)) k (nI x) = fun j => nI (cn_up f k x j) := by
  funext j
  unfold upd cn_up
  by_cases h : j = k
  · rw [if_pos h, if_pos h]
  · rw [if_neg h, if_neg h]
def cn_up2 (f : Nat → Nat → Nat) (b i x : Nat) : Nat → Nat → Nat := fun b' i' => if b' = b ∧ i' = i then x else f b' i'
theorem cn_up2_s {f : Nat → Nat → Nat} {b i x : Nat} : cn_up2 f b i x b i = x := if_pos ⟨rfl, rfl⟩
theorem cn_up2_n {f : Nat → Nat → Nat} {b i b' i' x : Nat} (h : ¬ (b' = b ∧ i' = i)) : cn_up2 f b i x b' i' = f b' i' := if_neg h
def cn_fill (T : Nat → Int32) (lo n : Nat) (v : Int32) : Nat → Int32 := fun j => if lo ≤ j ∧ j < lo + n then v else T j
def cn_cov (bc : Nat) (ra sz hc : Nat → Nat) (oc ob : Nat → Nat → Nat) (b i k t : Nat) : Prop :=
  b < bc ∧ i < hc b ∧ oc b i = k ∧ ob b i ≤ t ∧ t < ob b i + cn_tk ra k (sz b)
def cn_nd (so tt : Nat → Nat) (oc : Nat → Nat → Nat) (b : Nat) : Nat → Nat
  | 0 => so b
  | i + 1 => tt (oc b i)
def cn_Ti (T : Nat → Int32) (P : Nat → Nat → Prop) : Prop :=
  ∀ k t, k < 10 → t < 100 → (T (k * 100 + t) = 0 ∨ T (k * 100 + t) = 1) ∧ (T (k * 100 + t) = 1 ↔ P k t)
theorem cn_Ti_x {T : Nat → Int32} {P Q : Nat → Nat → Prop} (h : cn_Ti T P) (e : ∀ k t, k < 10 → t < 100 → (P k t ↔ Q k t)) : cn_Ti T Q :=
  fun k t hk ht => ⟨(h k t hk ht).1, (h k t hk ht).2.trans (e k t hk ht)⟩
theorem cn_Ti_1 {T : Nat → Int32} {P : Nat → Nat → Prop} (h : cn_Ti T P) {k0 x n : Nat} (hx : x + n ≤ 100) : cn_Ti (cn_fill T (k0 * 100 + x) n 1) (fun k t => P k t ∨ (k = k0 ∧ x ≤ t ∧ t < x + n)) := by
  intro k t hk ht
  obtain ⟨h1, h2⟩ := h k t hk ht
  by_cases c : k = k0 ∧ x ≤ t ∧ t < x + n
  · have e : cn_fill T (k0 * 100 + x) n 1 (k * 100 + t) = 1 := if_pos (by omega)
    rw [e]
    exact ⟨Or.inr rfl, fun _ => Or.inr c, fun _ => rfl⟩
  · have e : cn_fill T (k0 * 100 + x) n 1 (k * 100 + t) = T (k * 100 + t) := if_neg (by omega)
    rw [e]
    exact ⟨h1, fun z => Or.inl (h2.mp z), fun z => h2.mpr (z.resolve_right c)⟩
theorem cn_Ti_0 {T : Nat → Int32} {P : Nat → Nat → Prop} (h : cn_Ti T P) {k0 x n : Nat} (hx : x + n ≤ 100) : cn_Ti (cn_fill T (k0 * 100 + x) n 0) (fun k t => P k t ∧ ¬ (k = k0 ∧ x ≤ t ∧ t < x + n)) := by
  intro k t hk ht
  obtain ⟨h1, h2⟩ := h k t hk ht
  by_cases c : k = k0 ∧ x ≤ t ∧ t < x + n
  · have e : cn_fill T (k0 * 100 + x) n 0 (k * 100 + t) = 0 := if_pos (by omega)
    rw [e]
    exact ⟨Or.inl rfl, fun z => absurd z (by decide), fun z => absurd c z.2⟩
  · have e : cn_fill T (k0 * 100 + x) n 0 (k * 100 + t) = T (k * 100 + t) := if_neg (by omega)
    rw [e]
    exact ⟨h1, fun z => ⟨h2.mp z, c⟩, fun z => h2.mpr z.1⟩
/-- the contacts that there are -/
def cn_Net (cc : Nat) (fr tt st en ra de : Nat → Nat) : Prop :=
  cc ≤ 10 ∧ ∀ k, k < cc → fr k < 6 ∧ tt k < 6 ∧ fr k ≠ tt k ∧ st k < en k ∧ en k ≤ 100 ∧ 1 ≤ ra k ∧ ra k ≤ 9 ∧ de k ≤ 9
/-- the bookings that there are: each a good one, no tick twice, the ticks as they are held -/
def cn_Bk (cc bc : Nat) (fr tt st en ra so sz hc : Nat → Nat) (oc ob : Nat → Nat → Nat) (T : Nat → Int32) : Prop :=
  (∀ b i, b < bc → i < hc b → oc b i < cc ∧ st (oc b i) ≤ ob b i ∧ ob b i + cn_tk ra (oc b i) (sz b) ≤ en (oc b i) ∧ fr (oc b i) = cn_nd so tt oc b i) ∧
  (∀ b i b' i' k t, cn_cov bc ra sz hc oc ob b i k t → cn_cov bc ra sz hc oc ob b' i' k t → b = b' ∧ i = i') ∧
  cn_Ti T (fun k t => ∃ b i, cn_cov bc ra sz hc oc ob b i k t)
section
variable {cc bc : Nat} {fr tt st en ra de so sz hc : Nat → Nat} {oc ob : Nat → Nat → Nat} {T : Nat → Int32}
theorem cn_cov_app {b0 k0 x : Nat} (hb : b0 < bc) (hn : 0 < cn_tk ra k0 (sz b0)) (b i k t : Nat) :
    cn_cov bc ra sz (cn_up hc b0 (hc b0 + 1)) (cn_up2 oc b0 (hc b0) k0) (cn_up2 ob b0 (hc b0) x) b i k t ↔ cn_cov bc ra sz hc oc ob b i k t ∨ (b = b0 ∧ i = hc b0 ∧ k = k0 ∧ x ≤ t ∧ t < x + cn_tk ra k0 (sz b0)) := by
  unfold cn_cov
  by_cases e : b = b0 ∧ i = hc b0
  · obtain ⟨e1, e2⟩ := e
    rw [e1, e2, cn_up2_s, cn_up2_s, cn_up_s]
    constructor
    · rintro ⟨_, _, h3, h4, h5⟩
      rw [← h3] at h5
      exact Or.inr ⟨rfl, rfl, h3.symm, h4, h5⟩
    · rintro (⟨_, h2, _⟩ | ⟨_, _, h3, h4, h5⟩)
      · omega
      · rw [h3]; exact ⟨hb, by omega, rfl, h4, h5⟩
  · rw [cn_up2_n e, cn_up2_n e]
    constructor
    · rintro ⟨h1, h2, h3⟩
      refine Or.inl ⟨h1, ?_, h3⟩
      by_cases eb : b = b0
      · rw [eb, cn_up_s] at h2
        have : i ≠ hc b0 := fun z => e ⟨eb, z⟩
        rw [eb]; omega
      · rw [cn_up_n eb] at h2; exact h2
    · rintro (⟨h1, h2, h3⟩ | ⟨h1, h2, _⟩)
      · refine ⟨h1, ?_, h3⟩
        by_cases eb : b = b0
        · rw [eb, cn_up_s]; rw [eb] at h2; omega
        · rw [cn_up_n eb]; exact h2
      · exact absurd ⟨h1, h2⟩ e
theorem cn_app (N : cn_Net cc fr tt st en ra de) (H : cn_Bk cc bc fr tt st en ra so sz hc oc ob T) {b0 k0 x : Nat} (hb : b0 < bc) (hk : k0 < cc) (hs : 1 ≤ sz b0) (h1 : st k0 ≤ x) (h2 : x + cn_tk ra k0 (sz b0) ≤ en k0) (h3 : fr k0 = cn_nd so tt oc b0 (hc b0))
    (hf : ∀ t, x ≤ t → t < x + cn_tk ra k0 (sz b0) → T (k0 * 100 + t) = 0) :
    cn_Bk cc bc fr tt st en ra so sz (cn_up hc b0 (hc b0 + 1)) (cn_up2 oc b0 (hc b0) k0) (cn_up2 ob b0 (hc b0) x) (cn_fill T (k0 * 100 + x) (cn_tk ra k0 (sz b0)) 1) := by
  obtain ⟨H1, H2, H3⟩ := H
  obtain ⟨N1, N2⟩ := N
  obtain ⟨n1, n2, n3, n4, n5, n6, n7, n8⟩ := N2 k0 hk
  have hp := cn_tk_pos (ra := ra) (k := k0) (s := sz b0) n6 hs
  have hno : ∀ b i t, x ≤ t → t < x + cn_tk ra k0 (sz b0) → ¬ cn_cov bc ra sz hc oc ob b i k0 t := by
    intro b i t g1 g2 g3
    have z := (H3 k0 t (by omega) (by omega)).2.mpr ⟨b, i, g3⟩
    rw [hf t g1 g2] at z
    exact absurd z (by decide)
  refine ⟨?_, ?_, ?_⟩
  · intro b i hb2 hi
    by_cases e : b = b0 ∧ i = hc b0
    · obtain ⟨e1, e2⟩ := e
      rw [e1, e2, cn_up2_s, cn_up2_s]
      refine ⟨hk, h1, h2, ?_⟩
      rw [h3]
      cases hz : hc b0 with
      | zero => rfl
      | succ j =>
        show tt (oc b0 j) = tt (cn_up2 oc b0 (j + 1) k0 b0 j)
        rw [cn_up2_n (by omega)]
    · rw [cn_up2_n e, cn_up2_n e]
      have hi2 : i < hc b := by
        by_cases eb : b = b0
        · rw [eb, cn_up_s] at hi
          have : i ≠ hc b0 := fun z => e ⟨eb, z⟩
          rw [eb]; omega
        · rw [cn_up_n eb] at hi; exact hi
      obtain ⟨g1, g2, g3, g4⟩ := H1 b i hb2 hi2
      refine ⟨g1, g2, g3, ?_⟩
      rw [g4]
      cases i with
      | zero => rfl
      | succ j =>
        show tt (oc b j) = tt (cn_up2 oc b0 (hc b0) k0 b j)
        rw [cn_up2_n (fun z => by rw [z.1] at hi2; omega)]
  · intro b i b' i' k t c1 c2
    rcases (cn_cov_app hb hp b i k t).mp c1 with c1 | ⟨d1, d2, d3, d4, d5⟩
    · rcases (cn_cov_app hb hp b' i' k t).mp c2 with c2 | ⟨d1, d2, d3, d4, d5⟩
      · exact H2 b i b' i' k t c1 c2
      · rw [d3] at c1
        exact absurd c1 (hno _ _ _ d4 d5)
    · rcases (cn_cov_app hb hp b' i' k t).mp c2 with c2 | ⟨f1, f2, f3, f4, f5⟩
      · rw [d3] at c2
        exact absurd c2 (hno _ _ _ d4 d5)
      · exact ⟨d1.trans f1.symm, d2.trans f2.symm⟩
  · refine cn_Ti_x (cn_Ti_1 H3 (k0 := k0) (x := x) (n := cn_tk ra k0 (sz b0)) (by omega)) ?_
    intro k t _ _
    constructor
    · rintro (⟨b, i, z⟩ | ⟨z1, z2, z3⟩)
      · exact ⟨b, i, (cn_cov_app hb hp b i k t).mpr (Or.inl z)⟩
      · exact ⟨b0, hc b0, (cn_cov_app hb hp _ _ k t).mpr (Or.inr ⟨rfl, rfl, z1, z2, z3⟩)⟩
    · rintro ⟨b, i, z⟩
      rcases (cn_cov_app hb hp b i k t).mp z with z | ⟨_, _, z1, z2, z3⟩
      · exact Or.inl ⟨b, i, z⟩
      · exact Or.inr ⟨z1, z2, z3⟩
theorem cn_cov_cut {b0 j : Nat} (hj : j ≤ hc b0) (b i k t : Nat) : cn_cov bc ra sz (cn_up hc b0 j) oc ob b i k t ↔ cn_cov bc ra sz hc oc ob b i k t ∧ ¬ (b = b0 ∧ j ≤ i) := by
  unfold cn_cov
  by_cases eb : b = b0
  · rw [eb, cn_up_s]
    constructor
    · rintro ⟨h1, h2, h3⟩
      exact ⟨⟨h1, by omega, h3⟩, by omega⟩
    · rintro ⟨⟨h1, h2, h3⟩, h4⟩
      exact ⟨h1, by omega, h3⟩
  · rw [cn_up_n eb]
    exact ⟨fun h => ⟨h, fun z => eb z.1⟩, fun h => h.1⟩
theorem cn_cut (H : cn_Bk cc bc fr tt st en ra so sz hc oc ob T) {b0 j : Nat} (hj : j ≤ hc b0) {T' : Nat → Int32} (hT : cn_Ti T' (fun k t => ∃ b i, cn_cov bc ra sz hc oc ob b i k t ∧ ¬ (b = b0 ∧ j ≤ i))) :
    cn_Bk cc bc fr tt st en ra so sz (cn_up hc b0 j) oc ob T' := by
  obtain ⟨H1, H2, H3⟩ := H
  refine ⟨?_, ?_, ?_⟩
  · intro b i hb hi
    refine H1 b i hb ?_
    by_cases eb : b = b0
    · rw [eb, cn_up_s] at hi; rw [eb]; omega
    · rw [cn_up_n eb] at hi; exact hi
  · intro b i b' i' k t c1 c2
    exact H2 b i b' i' k t ((cn_cov_cut hj b i k t).mp c1).1 ((cn_cov_cut hj b' i' k t).mp c2).1
  · refine cn_Ti_x hT ?_
    intro k t _ _
    constructor
    · rintro ⟨b, i, z⟩
      exact ⟨b, i, (cn_cov_cut hj b i k t).mpr z⟩
    · rintro ⟨b, i, z⟩
      exact ⟨b, i, (cn_cov_cut hj b i k t).mp z⟩
/-- one lost booking's ticks are given back -/
theorem cn_giveBack (N : cn_Net cc fr tt st en ra de) (H : cn_Bk cc bc fr tt st en ra so sz hc oc ob T) {b0 j i : Nat} (hb : b0 < bc) (hi : i < hc b0) (hj : j ≤ i) {T' : Nat → Int32}
    (hT : cn_Ti T' (fun k t => ∃ b i', cn_cov bc ra sz hc oc ob b i' k t ∧ ¬ (b = b0 ∧ j ≤ i' ∧ i' < i))) :
    cn_Ti (cn_fill T' (oc b0 i * 100 + ob b0 i) (cn_tk ra (oc b0 i) (sz b0)) 0) (fun k t => ∃ b i', cn_cov bc ra sz hc oc ob b i' k t ∧ ¬ (b = b0 ∧ j ≤ i' ∧ i' < i + 1)) := by
  obtain ⟨H1, H2, H3⟩ := H
  obtain ⟨g1, g2, g3, g4⟩ := H1 b0 i hb hi
  have n5 := (N.2 _ g1).2.2.2.2.1
  refine cn_Ti_x (cn_Ti_0 hT (by omega)) ?_
  intro k t _ _
  constructor
  · rintro ⟨⟨b, i', z, z2⟩, z3⟩
    refine ⟨b, i', z, ?_⟩
    rintro ⟨y1, y2, y3⟩
    have : i' ≠ i := by
      intro e
      rw [y1, e] at z
      obtain ⟨_, _, q3, q4, q5⟩ := z
      exact z3 ⟨q3.symm, q4, by rw [q3]; exact q5⟩
    exact z2 ⟨y1, y2, by omega⟩
  · rintro ⟨b, i', z, z2⟩
    refine ⟨⟨b, i', z, fun y => z2 ⟨y.1, y.2.1, by omega⟩⟩, ?_⟩
    rintro ⟨y1, y2, y3⟩
    have z' : cn_cov bc ra sz hc oc ob b0 i k t := ⟨hb, hi, y1.symm, y2, by rw [y1]; exact y3⟩
    obtain ⟨e1, e2⟩ := H2 _ _ _ _ _ _ z z'
    exact z2 ⟨e1, by omega, by omega⟩
end
end
section
section
variable {cc bc : Nat} {fr tt st en ra de so ta sz hc : Nat → Nat} {oc ob : Nat → Nat → Nat} {T : Nat → Int32}
def cn_P (bc : Nat) (ra sz hc : Nat → Nat) (oc ob : Nat → Nat → Nat) (k b i t : Nat) : Prop :=
  ∃ b' i', (b' < b ∨ (b' = b ∧ i' < i)) ∧ cn_cov bc ra sz hc oc ob b' i' k t
theorem cn_P_in (N : cn_Net cc fr tt st en ra de) (H : cn_Bk cc bc fr tt st en ra so sz hc oc ob T) {k b i : Nat} (hb : b < bc) (hi : i < hc b) (e : oc b i = k) :
    cn_ct (cn_P bc ra sz hc oc ob k b (i + 1)) 100 = cn_ct (cn_P bc ra sz hc oc ob k b i) 100 + cn_tk ra k (sz b) := by
  obtain ⟨H1, H2, H3⟩ := H
  obtain ⟨g1, g2, g3, g4⟩ := H1 b i hb hi
  have n5 := (N.2 _ g1).2.2.2.2.1
  rw [e] at g3 g1 n5
  rw [cn_ct_u (P := cn_P bc ra sz hc oc ob k b i) (Q := fun t => ob b i ≤ t ∧ t < ob b i + cn_tk ra k (sz b)) 100, cn_ct_iv (by omega)]
  · intro t _
    constructor
    · rintro ⟨b', i', z, c⟩
      by_cases e2 : b' = b ∧ i' = i
      · rw [e2.1, e2.2] at c
        exact Or.inr c.2.2.2
      · exact Or.inl ⟨b', i', by omega, c⟩
    · rintro (⟨b', i', z, c⟩ | c)
      · exact ⟨b', i', by omega, c⟩
      · exact ⟨b, i, by omega, hb, hi, e, c⟩
  · rintro t _ ⟨b', i', z, c⟩ c2
    obtain ⟨e1, e2⟩ := H2 _ _ b i _ _ c ⟨hb, hi, e, c2⟩
    omega
theorem cn_P_out {k b i : Nat} (e : ¬ oc b i = k) : cn_ct (cn_P bc ra sz hc oc ob k b (i + 1)) 100 = cn_ct (cn_P bc ra sz hc oc ob k b i) 100 := by
  apply cn_ct_x
  intro t _
  constructor
  · rintro ⟨b', i', z, c⟩
    refine ⟨b', i', ?_, c⟩
    by_cases e2 : b' = b ∧ i' = i
    · rw [e2.1, e2.2] at c
      exact absurd c.2.2.1 e
    · omega
  · rintro ⟨b', i', z, c⟩
    exact ⟨b', i', by omega, c⟩
theorem cn_P_next {k b : Nat} : cn_ct (cn_P bc ra sz hc oc ob k (b + 1) 0) 100 = cn_ct (cn_P bc ra sz hc oc ob k b (hc b)) 100 := by
  apply cn_ct_x
  intro t _
  constructor
  · rintro ⟨b', i', z, c⟩
    refine ⟨b', i', ?_, c⟩
    by_cases e : b' = b
    · have := c.2.1
      rw [e] at this
      exact Or.inr ⟨e, this⟩
    · omega
  · rintro ⟨b', i', z, c⟩
    exact ⟨b', i', by omega, c⟩
theorem cn_P_0 {k : Nat} : cn_ct (cn_P bc ra sz hc oc ob k 0 0) 100 = 0 := by
  apply cn_ct_0
  rintro t _ ⟨b', i', z, c⟩
  omega
theorem cn_P_all (H : cn_Bk cc bc fr tt st en ra so sz hc oc ob T) {k : Nat} (hk : k < 10) : cn_ct (fun t => T (k * 100 + t) = 1) 100 = cn_ct (cn_P bc ra sz hc oc ob k bc 0) 100 := by
  apply cn_ct_x
  intro t ht
  refine (H.2.2 k t hk ht).2.trans ?_
  constructor
  · rintro ⟨b, i, c⟩
    exact ⟨b, i, Or.inl c.1, c⟩
  · rintro ⟨b, i, _, c⟩
    exact ⟨b, i, c⟩
theorem cn_tk_up {k j x s : Nat} (h : k ≠ j) : cn_tk (cn_up ra j x) k s = cn_tk ra k s := by
  unfold cn_tk; rw [cn_up_n h]
/-- a contact more: no booking is on it -/
theorem cn_more (H : cn_Bk cc bc fr tt st en ra so sz hc oc ob T) (f t s e r : Nat) :
    cn_Bk (cc + 1) bc (cn_up fr cc f) (cn_up tt cc t) (cn_up st cc s) (cn_up en cc e) (cn_up ra cc r) so sz hc oc ob T := by
  obtain ⟨H1, H2, H3⟩ := H
  have hx : ∀ b i k t, cn_cov bc (cn_up ra cc r) sz hc oc ob b i k t ↔ cn_cov bc ra sz hc oc ob b i k t := by
    intro b i k t
    unfold cn_cov
    constructor
    · rintro ⟨h1, h2, h3, h4⟩
      have := (H1 b i h1 h2).1
      rw [cn_tk_up (by omega)] at h4
      exact ⟨h1, h2, h3, h4⟩
    · rintro ⟨h1, h2, h3, h4⟩
      have := (H1 b i h1 h2).1
      refine ⟨h1, h2, h3, ?_⟩
      rw [cn_tk_up (by omega)]
      exact h4
  refine ⟨?_, ?_, ?_⟩
  · intro b i hb hi
    obtain ⟨g1, g2, g3, g4⟩ := H1 b i hb hi
    rw [cn_up_n (f := st) (by omega), cn_up_n (f := en) (by omega), cn_up_n (f := fr) (by omega), cn_tk_up (by omega)]
    refine ⟨by omega, g2, g3, ?_⟩
    rw [g4]
    cases i with
    | zero => rfl
    | succ j =>
      have := (H1 b j hb (by omega)).1
      show tt (oc b j) = cn_up tt cc t (oc b j)
      rw [cn_up_n (by omega)]
  · intro b i b' i' k t c1 c2
    exact H2 b i b' i' k t ((hx ..).mp c1) ((hx ..).mp c2)
  · refine cn_Ti_x H3 ?_
    intro k t _ _
    exact ⟨fun ⟨b, i, z⟩ => ⟨b, i, (hx ..).mpr z⟩, fun ⟨b, i, z⟩ => ⟨b, i, (hx ..).mp z⟩⟩
theorem cn_netMore (N : cn_Net cc fr tt st en ra de) (h : cc < 10) {f t s e r d : Nat} (h1 : f < 6) (h2 : t < 6) (h3 : f ≠ t) (h4 : s < e) (h5 : e ≤ 100) (h6 : 1 ≤ r) (h7 : r ≤ 9) (h8 : d ≤ 9) :
    cn_Net (cc + 1) (cn_up fr cc f) (cn_up tt cc t) (cn_up st cc s) (cn_up en cc e) (cn_up ra cc r) (cn_up de cc d) := by
  refine ⟨by omega, ?_⟩
  intro k hk
  by_cases ek : k = cc
  · rw [ek, cn_up_s, cn_up_s, cn_up_s, cn_up_s, cn_up_s, cn_up_s]
    exact ⟨h1, h2, h3, h4, h5, h6, h7, h8⟩
  · rw [cn_up_n ek, cn_up_n ek, cn_up_n ek, cn_up_n ek, cn_up_n ek, cn_up_n ek]
    exact N.2 k (by omega)
/-- a bundle more: it has no booking -/
theorem cn_bundle (H : cn_Bk cc bc fr tt st en ra so sz hc oc ob T) (h0 : hc bc = 0) (s z : Nat) :
    cn_Bk cc (bc + 1) fr tt st en ra (cn_up so bc s) (cn_up sz bc z) hc oc ob T := by
  obtain ⟨H1, H2, H3⟩ := H
  have hx : ∀ b i k t, cn_cov (bc + 1) ra (cn_up sz bc z) hc oc ob b i k t ↔ cn_cov bc ra sz hc oc ob b i k t := by
    intro b i k t
    unfold cn_cov
    constructor
    · rintro ⟨h1, h2, h3, h4⟩
      have hb : b ≠ bc := fun e => by rw [e] at h2; omega
      rw [cn_up_n hb] at h4
      exact ⟨by omega, h2, h3, h4⟩
    · rintro ⟨h1, h2, h3, h4⟩
      refine ⟨by omega, h2, h3, ?_⟩
      rw [cn_up_n (by omega)]
      exact h4
  refine ⟨?_, ?_, ?_⟩
  · intro b i hb hi
    have hb2 : b ≠ bc := fun e => by rw [e] at hi; omega
    obtain ⟨g1, g2, g3, g4⟩ := H1 b i (by omega) hi
    rw [cn_up_n hb2]
    refine ⟨g1, g2, g3, ?_⟩
    rw [g4]
    cases i with
    | zero => exact (cn_up_n hb2).symm
    | succ j => rfl
  · intro b i b' i' k t c1 c2
    exact H2 b i b' i' k t ((hx ..).mp c1) ((hx ..).mp c2)
  · refine cn_Ti_x H3 ?_
    intro k t _ _
    exact ⟨fun ⟨b, i, z⟩ => ⟨b, i, (hx ..).mpr z⟩, fun ⟨b, i, z⟩ => ⟨b, i, (hx ..).mp z⟩⟩
end
/-- what is known of each bundle; nc contacts are cancelled -/
def cn_Bn (bc nc : Nat) (tt so ta sz hc : Nat → Nat) (oc : Nat → Nat → Nat) (R : Nat → Int32) : Prop :=
  ∀ b, b < bc → so b < 6 ∧ ta b < 6 ∧ 1 ≤ sz b ∧ sz b ≤ 30 ∧ (R b = 0 ∨ R b = 1) ∧ (R b = 0 → hc b ≤ 5 * nc ∧ cn_nd so tt oc b (hc b) ≠ ta b) ∧ (R b = 1 → hc b ≤ 5 * nc + 5 ∧ 0 < hc b) ∧ (∀ i, i < hc b → cn_nd so tt oc b i ≠ ta b)
/-- the cancelled contacts -/
def cn_Ca (cc nc : Nat) (C : Nat → Int32) : Prop := (∀ k, C k = 0 ∨ C k = 1) ∧ (∀ k, cc ≤ k → C k = 0) ∧ nc = cn_ct (fun k => C k = 1) 10
theorem cn_Ca_up {cc nc k : Nat} {C : Nat → Int32} (h : cn_Ca cc nc C) (hcc : cc ≤ 10) (hk : k < cc) (h0 : C k = 0) : cn_Ca cc (nc + 1) (upd C k 1) := by
  obtain ⟨h1, h2, h3⟩ := h
  refine ⟨?_, ?_, ?_⟩
  · intro j
    unfold upd
    by_cases e : j = k
    · rw [if_pos e]; exact Or.inr rfl
    · rw [if_neg e]; exact h1 j
  · intro j hj
    unfold upd
    rw [if_neg (by omega)]
    exact h2 j hj
  · rw [h3, cn_ct_u (R := fun j => upd C k 1 j = 1) (P := fun k => C k = 1) (Q := fun t => k ≤ t ∧ t < k + 1) 10, cn_ct_iv (by omega)]
    · intro t _
      unfold upd
      by_cases e : t = k
      · rw [if_pos e]; exact ⟨fun _ => Or.inr (by omega), fun _ => rfl⟩
      · rw [if_neg e]; exact ⟨Or.inl, fun z => z.elim id (fun y => absurd y (by omega))⟩
    · intro t _ c1 c2
      have : t = k := by omega
      rw [this, h0] at c1
      exact absurd c1 (by decide)
theorem cn_Ca_le {cc nc : Nat} {C : Nat → Int32} (h : cn_Ca cc nc C) : nc ≤ 10 := by
  rw [h.2.2]; exact cn_ct_le _ _
theorem cn_Ca_cc {cc nc : Nat} {C : Nat → Int32} (h : cn_Ca cc nc C) : cn_Ca (cc + 1) nc C :=
  ⟨h.1, fun k hk => h.2.1 k (by omega), h.2.2⟩
end
section
abbrev cn_A : Type := Nat → Int32
def cn_BR (o : Option cn_R) (bl ba : Int32) (bC bB : cn_A) : Prop :=
  match o with
  | none => bl = 0
  | some r => r.1 ≠ [] ∧ r.1.length ≤ 5 ∧ r.2 ≤ 200 ∧ bl = nI r.1.length ∧ ba = nI r.2 ∧ ∀ i, i < r.1.length → bC i = nI (r.1.getD i (0, 0)).1 ∧ bB i = nI (r.1.getD i (0, 0)).2
def cn_bet (bl ba : Int32) (d a : Nat) : Prop := bl = 0 ∨ nI a < ba ∨ (nI a = ba ∧ nI d < bl)
theorem cn_bet_t {o : Option cn_R} {bl ba : Int32} {bC bB : cn_A} (h : cn_BR o bl ba bC bB) {r : cn_R} (h1 : r.1.length ≤ 5) (h2 : r.2 ≤ 200) (hb : cn_bet bl ba r.1.length r.2) : cn_f o r = some r := by
  cases o with
  | none => rfl
  | some m =>
    obtain ⟨m1, m2, m3, m4, m5, m6⟩ := h
    have hp := List.length_pos_iff.mpr m1
    have : cn_key r < cn_key m := by
      unfold cn_key
      rw [m4, m5] at hb
      rcases hb with hb | hb | hb
      · exact absurd hb (nI_ne0 hp (by omega))
      · rw [nI_ltI (by omega) (by omega)] at hb; omega
      · rw [nI_ltI (by omega) (by omega), nI_eq (by omega) (by omega)] at hb; omega
    exact if_pos this
theorem cn_bet_f {o : Option cn_R} {bl ba : Int32} {bC bB : cn_A} (h : cn_BR o bl ba bC bB) {r : cn_R} (h1 : r.1.length ≤ 5) (h2 : r.2 ≤ 200) (hb : ¬ cn_bet bl ba r.1.length r.2) : cn_f o r = o := by
  cases o with
  | none => exact absurd (Or.inl h) hb
  | some m =>
    obtain ⟨m1, m2, m3, m4, m5, m6⟩ := h
    have : ¬ cn_key r < cn_key m := by
      unfold cn_key
      intro hlt
      apply hb
      rw [cn_bet, m4, m5, nI_ltI (by omega) (by omega), nI_ltI (by omega) (by omega), nI_eq (by omega) (by omega)]
      right
      omega
    exact if_neg this
theorem cn_gd {p : List (Nat × Nat)} {x : Nat × Nat} {i : Nat} (h : i < p.length) : (p ++ [x]).getD i (0, 0) = p.getD i (0, 0) := by
  rw [List.getD_eq_getElem?_getD, List.getD_eq_getElem?_getD, List.getElem?_append_left h]
theorem cn_gl {p : List (Nat × Nat)} {x : Nat × Nat} : (p ++ [x]).getD p.length (0, 0) = x := by
  rw [List.getD_eq_getElem?_getD, List.getElem?_append_right (Nat.le_refl _), Nat.sub_self]; rfl
def cn_cp (d : Nat) (w b : cn_A) : cn_A := fun j => if j < d then w j else b j
/-- the path that the search is on, in two arrays -/
def cn_Pa (p : List (Nat × Nat)) (wc wb : cn_A) : Prop := ∀ i, i < p.length → wc i = nI (p.getD i (0, 0)).1 ∧ wb i = nI (p.getD i (0, 0)).2
theorem cn_Pa_s {p : List (Nat × Nat)} {wc wb : cn_A} {k b : Nat} (h : cn_Pa p wc wb) : cn_Pa (p ++ [(k, b)]) (upd wc p.length (nI k)) (upd wb p.length (nI b)) := by
  intro i hi
  rw [List.length_append, List.length_singleton] at hi
  by_cases e : i = p.length
  · rw [e, cn_gl, pk_us, pk_us]; exact ⟨rfl, rfl⟩
  · rw [cn_gd (by omega), pk_un e, pk_un e]; exact h i (by omega)
theorem cn_Pa_x {p : List (Nat × Nat)} {wc wb wc' wb' : cn_A} (h : cn_Pa p wc wb) (e : ∀ i, i < p.length → wc' i = wc i ∧ wb' i = wb i) : cn_Pa p wc' wb' := by
  intro i hi
  rw [(e i hi).1, (e i hi).2]; exact h i hi
theorem cn_BR_k {p : List (Nat × Nat)} {wc wb bC bB : cn_A} {a : Nat} (h : cn_Pa p wc wb) (h1 : p ≠ []) (h2 : p.length ≤ 5) (h3 : a ≤ 200) : cn_BR (some (p, a)) (nI p.length) (nI a) (cn_cp p.length wc bC) (cn_cp p.length wb bB) := by
  refine ⟨h1, h2, h3, rfl, rfl, ?_⟩
  intro i hi
  unfold cn_cp
  rw [if_pos hi, if_pos hi]
  exact h i hi
section
variable (cc : Nat) (fr tt : Nat → Nat) (ok : Nat → Bool) (E : Nat → Nat → Option Nat) (c : Nat → Nat) (goal : Nat)
def cn_xK (n : Nat) (ns : List Nat) (node time k : Nat) : List cn_R :=
  if fr k = node ∧ ok k = true ∧ tt k ∉ ns then
    match E k time with
    | none => []
    | some b => if tt k = goal then [([(k, b)], b + c k)] else (cn_xS cc fr tt ok E c goal n (node :: ns) (tt k) (b + c k)).map (fun r => ((k, b) :: r.1, r.2))
  else []
def cn_yK (n : Nat) (used : List Nat) (node time k : Nat) : List cn_R :=
  if fr k = node ∧ ok k = true ∧ k ∉ used then
    match E k time with
    | none => []
    | some b => (if tt k = goal then [([(k, b)], b + c k)] else []) ++ (cn_yS cc fr tt ok E c goal n (k :: used) (tt k) (b + c k)).map (fun r => ((k, b) :: r.1, r.2))
  else []
/-- how the component's search steps; G q depth step .. : from there on what q asks comes out -/
def cn_XG {P : Type} (G : P → Int32 → Nat → cn_A → cn_A → cn_A → cn_A → cn_A → Int32 → Int32 → cn_A → cn_A → Prop) : Prop :=
  (∀ q d k step wn wr wx wc wb bl ba bC bB, d < 5 → step < 1000000 → wx d = nI k → k = cc →
    G q (nI d + (-1)) (step + 1) wn wr wx wc wb bl ba bC bB → G q (nI d) step wn wr wx wc wb bl ba bC bB) ∧
  (∀ q d k step node wn wr wx wc wb bl ba bC bB, d < 5 → step < 1000000 → wx d = nI k → k < cc → wn d = nI node → node < 6 →
    ¬ (fr k = node ∧ ok k = true ∧ ∀ i, i < d → wn i ≠ nI (tt k)) →
    G q (nI d) (step + 1) wn wr (upd wx d (nI (k + 1))) wc wb bl ba bC bB → G q (nI d) step wn wr wx wc wb bl ba bC bB) ∧
  (∀ q d k step node time wn wr wx wc wb bl ba bC bB, d < 5 → step < 1000000 → wx d = nI k → k < cc → wn d = nI node → node < 6 → wr d = nI time → time ≤ 200000 →
    (fr k = node ∧ ok k = true ∧ ∀ i, i < d → wn i ≠ nI (tt k)) → E k time = none →
    G q (nI d) (step + 1) wn wr (upd wx d (nI (k + 1))) wc wb bl ba bC bB → G q (nI d) step wn wr wx wc wb bl ba bC bB) ∧
  (∀ q d k step node time b wn wr wx wc wb bl ba bC bB, d < 5 → step < 1000000 → wx d = nI k → k < cc → wn d = nI node → node < 6 → wr d = nI time → time ≤ 200000 →
    (fr k = node ∧ ok k = true ∧ ∀ i, i < d → wn i ≠ nI (tt k)) → E k time = some b → tt k = goal → cn_bet bl ba (d + 1) (b + c k) →
    G q (nI d) (step + 1) wn wr (upd wx d (nI (k + 1))) (upd wc d (nI k)) (upd wb d (nI b)) (nI (d + 1)) (nI (b + c k)) (cn_cp (d + 1) (upd wc d (nI k)) bC) (cn_cp (d + 1) (upd wb d (nI b)) bB) → G q (nI d) step wn wr wx wc wb bl ba bC bB) ∧
  (∀ q d k step node time b wn wr wx wc wb bl ba bC bB, d < 5 → step < 1000000 → wx d = nI k → k < cc → wn d = nI node → node < 6 → wr d = nI time → time ≤ 200000 →
    (fr k = node ∧ ok k = true ∧ ∀ i, i < d → wn i ≠ nI (tt k)) → E k time = some b → tt k = goal → ¬ cn_bet bl ba (d + 1) (b + c k) →
    G q (nI d) (step + 1) wn wr (upd wx d (nI (k + 1))) (upd wc d (nI k)) (upd wb d (nI b)) bl ba bC bB → G q (nI d) step wn wr wx wc wb bl ba bC bB) ∧
  (∀ q d k step node time b wn wr wx wc wb bl ba bC bB, d < 4 → step < 1000000 → wx d = nI k → k < cc → wn d = nI node → node < 6 → wr d = nI time → time ≤ 200000 →
    (fr k = node ∧ ok k = true ∧ ∀ i, i < d → wn i ≠ nI (tt k)) → E k time = some b → tt k ≠ goal →
    G q (nI (d + 1)) (step + 1) (upd wn (d + 1) (nI (tt k))) (upd wr (d + 1) (nI (b + c k))) (upd (upd wx d (nI (k + 1))) (d + 1) 0) (upd wc d (nI k)) (upd wb d (nI b)) bl ba bC bB → G q (nI d) step wn wr wx wc wb bl ba bC bB) ∧
  (∀ q d k step node time b wn wr wx wc wb bl ba bC bB, d = 4 → step < 1000000 → wx d = nI k → k < cc → wn d = nI node → node < 6 → wr d = nI time → time ≤ 200000 →
    (fr k = node ∧ ok k = true ∧ ∀ i, i < d → wn i ≠ nI (tt k)) → E k time = some b → tt k ≠ goal →
    G q (nI d) (step + 1) wn wr (upd wx d (nI (k + 1))) (upd wc d (nI k)) (upd wb d (nI b)) bl ba bC bB → G q (nI d) step wn wr wx wc wb bl ba bC bB)
/-- how the reference's search steps -/
def cn_YG {P : Type} (G : P → Int32 → cn_A → cn_A → cn_A → cn_A → cn_A → Int32 → Int32 → cn_A → cn_A → Prop) : Prop :=
  (∀ q d k tr tb no ti ne be bA bO bE, d ≤ 5 → ne d = nI k → k ≤ cc → (d = 5 ∨ k = cc) →
    G q (nI d + (-1)) tr tb no ti (upd ne d (nI (k + 1))) be bA bO bE → G q (nI d) tr tb no ti ne be bA bO bE) ∧
  (∀ q d k node tr tb no ti ne be bA bO bE, d < 5 → ne d = nI k → k < cc → no d = nI node → node < 6 →
    ¬ (fr k = node ∧ ok k = true ∧ ∀ i, i < d → tr i ≠ nI k) →
    G q (nI d) tr tb no ti (upd ne d (nI (k + 1))) be bA bO bE → G q (nI d) tr tb no ti ne be bA bO bE) ∧
  (∀ q d k node time tr tb no ti ne be bA bO bE, d < 5 → ne d = nI k → k < cc → no d = nI node → node < 6 → ti d = nI time → time ≤ 200000 →
    (fr k = node ∧ ok k = true ∧ ∀ i, i < d → tr i ≠ nI k) → E k time = none →
    G q (nI d) tr tb no ti (upd ne d (nI (k + 1))) be bA bO bE → G q (nI d) tr tb no ti ne be bA bO bE) ∧
  (∀ q d k node time b tr tb no ti ne be bA bO bE, d < 5 → ne d = nI k → k < cc → no d = nI node → node < 6 → ti d = nI time → time ≤ 200000 →
    (fr k = node ∧ ok k = true ∧ ∀ i, i < d → tr i ≠ nI k) → E k time = some b → (tt k ≠ goal ∨ ¬ cn_bet be bA (d + 1) (b + c k)) →
    G q (nI (d + 1)) (upd tr d (nI k)) (upd tb d (nI b)) (upd no (d + 1) (nI (tt k))) (upd ti (d + 1) (nI (b + c k))) (upd (upd ne d (nI (k + 1))) (d + 1) 0) be bA bO bE → G q (nI d) tr tb no ti ne be bA bO bE) ∧
  (∀ q d k node time b tr tb no ti ne be bA bO bE, d < 5 → ne d = nI k → k < cc → no d = nI node → node < 6 → ti d = nI time → time ≤ 200000 →
    (fr k = node ∧ ok k = true ∧ ∀ i, i < d → tr i ≠ nI k) → E k time = some b → tt k = goal → cn_bet be bA (d + 1) (b + c k) →
    G q (nI (d + 1)) (upd tr d (nI k)) (upd tb d (nI b)) (upd no (d + 1) (nI (tt k))) (upd ti (d + 1) (nI (b + c k))) (upd (upd ne d (nI (k + 1))) (d + 1) 0) (nI (d + 1)) (nI (b + c k)) (cn_cp (d + 1) (upd tr d (nI k)) bO) (cn_cp (d + 1) (upd tb d (nI b)) bE) → G q (nI d) tr tb no ti ne be bA bO bE)
end
theorem cn_xS_s {cc : Nat} {fr tt : Nat → Nat} {ok : Nat → Bool} {E : Nat → Nat → Option Nat} {c : Nat → Nat} {goal n : Nat} {ns : List Nat} {node time : Nat} :
    cn_xS cc fr tt ok E c goal (n + 1) ns node time = (List.range' 0 cc).flatMap (cn_xK cc fr tt ok E c goal n ns node time) := rfl
theorem cn_yS_s {cc : Nat} {fr tt : Nat → Nat} {ok : Nat → Bool} {E : Nat → Nat → Option Nat} {c : Nat → Nat} {goal n : Nat} {used : List Nat} {node time : Nat} :
    cn_yS cc fr tt ok E c goal (n + 1) used node time = (List.range' 0 cc).flatMap (cn_yK cc fr tt ok E c goal n used node time) := rfl
/-- behind a first contact: the fold over what follows it -/
theorem cn_fo {p : List (Nat × Nat)} {f : Nat → List cn_R} {k m : Nat} {o : Option cn_R} :
    (((List.range' k (m + 1)).flatMap f).map (fun r => (p ++ r.1, r.2))).foldl cn_f o =
    (((List.range' (k + 1) m).flatMap f).map (fun r => (p ++ r.1, r.2))).foldl cn_f (((f k).map (fun r => (p ++ r.1, r.2))).foldl cn_f o) := by
  rw [List.range'_succ, List.flatMap_cons, List.map_append, List.foldl_append]
theorem cn_fm {p : List (Nat × Nat)} {x : Nat × Nat} {L : List cn_R} : (L.map (fun r => (x :: r.1, r.2))).map (fun r => (p ++ r.1, r.2)) = L.map (fun r => ((p ++ [x]) ++ r.1, r.2)) := by
  rw [List.map_map]
  apply List.map_congr_left
  intro r _
  show (p ++ x :: r.1, r.2) = (p ++ [x] ++ r.1, r.2)
  rw [List.append_assoc]; rfl
def cn_S : Nat → Nat
  | 0 => 0
  | n + 1 => 11 + 10 * cn_S n
end
section
section
variable {cc : Nat} {fr tt : Nat → Nat} {ok : Nat → Bool} {E : Nat → Nat → Option Nat} {c : Nat → Nat} {goal : Nat}
theorem cn_xLv {P : Type} {G : P → Int32 → Nat → cn_A → cn_A → cn_A → cn_A → cn_A → Int32 → Int32 → cn_A → cn_A → Prop} (H : cn_XG cc fr tt ok E c goal G) (hcc : cc ≤ 10) (htt : ∀ k, k < cc → tt k < 6) (hE : ∀ k t b, k < cc → E k t = some b → b + c k ≤ 200) :
    ∀ (n m : Nat) (p : List (Nat × Nat)) (ns : List Nat) (node time k step : Nat) (wn wr wx wc wb : cn_A) (bl ba : Int32) (bC bB : cn_A) (o : Option cn_R),
    p.length + n = 4 → k + m = cc → wn p.length = nI node → node < 6 → wr p.length = nI time → time ≤ 200000 → wx p.length = nI k → (∀ x, x < 6 → (x ∈ ns ↔ ∃ i, i < p.length ∧ wn i = nI x)) → cn_Pa p wc wb → cn_BR o bl ba bC bB → step + 1 + m * (1 + cn_S n) ≤ 1000000 →
    ∃ (step' : Nat) (wn' wr' wx' wc' wb' : cn_A) (bl' ba' : Int32) (bC' bB' : cn_A), (∀ i, i < p.length → wn' i = wn i ∧ wr' i = wr i ∧ wx' i = wx i ∧ wc' i = wc i ∧ wb' i = wb i) ∧
      cn_BR ((((List.range' k m).flatMap (cn_xK cc fr tt ok E c goal n ns node time)).map (fun r => (p ++ r.1, r.2))).foldl cn_f o) bl' ba' bC' bB' ∧ step' ≤ step + 1 + m * (1 + cn_S n) ∧
      ∀ q, G q (nI p.length + (-1)) step' wn' wr' wx' wc' wb' bl' ba' bC' bB' → G q (nI p.length) step wn wr wx wc wb bl ba bC bB := by
  obtain ⟨R1, R2, R3, R4, R5, R6, R7⟩ := H
  intro n
  induction n using Nat.strongRecOn with
  | _ n ihn =>
  intro m
  induction m with
  | zero =>
    intro p ns node time k step wn wr wx wc wb bl ba bC bB o hn hk h1 h2 h3 h4 h5 h6 h7 h8 h9
    exact ⟨step + 1, wn, wr, wx, wc, wb, bl, ba, bC, bB, fun i _ => ⟨rfl, rfl, rfl, rfl, rfl⟩, h8, by omega, fun q g => R1 q p.length k step wn wr wx wc wb bl ba bC bB (by omega) (by omega) h5 (by omega) g⟩
  | succ m ihm =>
    intro p ns node time k step wn wr wx wc wb bl ba bC bB o hn hk h1 h2 h3 h4 h5 h6 h7 h8 h9
    have hm : (m + 1) * (1 + cn_S n) = m * (1 + cn_S n) + (1 + cn_S n) := Nat.succ_mul ..
    have hd : p.length < 5 := by omega
    have hst : step < 1000000 := by omega
    have hkc : k < cc := by omega
    have htk := htt k hkc
    have hL : (∀ i, i < p.length → wn i ≠ nI (tt k)) ↔ tt k ∉ ns := by
      rw [h6 _ htk]
      exact ⟨fun h ⟨i, g1, g2⟩ => h i g1 g2, fun h i g1 g2 => h ⟨i, g1, g2⟩⟩
    have key : ∃ (step1 : Nat) (wn1 wr1 wx1 wc1 wb1 : cn_A) (bl1 ba1 : Int32) (bC1 bB1 : cn_A), (∀ i, i < p.length → wn1 i = wn i ∧ wr1 i = wr i ∧ wx1 i = wx i ∧ wc1 i = wc i ∧ wb1 i = wb i) ∧
        wn1 p.length = nI node ∧ wr1 p.length = nI time ∧ wx1 p.length = nI (k + 1) ∧
        cn_BR (((cn_xK cc fr tt ok E c goal n ns node time k).map (fun r => (p ++ r.1, r.2))).foldl cn_f o) bl1 ba1 bC1 bB1 ∧ step1 ≤ step + 1 + cn_S n ∧
        ∀ q, G q (nI p.length) step1 wn1 wr1 wx1 wc1 wb1 bl1 ba1 bC1 bB1 → G q (nI p.length) step wn wr wx wc wb bl ba bC bB := by
      by_cases hl : fr k = node ∧ ok k = true ∧ ∀ i, i < p.length → wn i ≠ nI (tt k)
      · have hl2 : fr k = node ∧ ok k = true ∧ tt k ∉ ns := ⟨hl.1, hl.2.1, hL.mp hl.2.2⟩
        cases hb : E k time with
        | none =>
          have e : cn_xK cc fr tt ok E c goal n ns node time k = [] := by
            unfold cn_xK; rw [if_pos hl2, hb]
          rw [e]
          exact ⟨step + 1, wn, wr, upd wx p.length (nI (k + 1)), wc, wb, bl, ba, bC, bB, fun i hi => ⟨rfl, rfl, pk_un (by omega), rfl, rfl⟩, h1, h3, pk_us, h8, by omega,
            fun q g => R3 q p.length k step node time wn wr wx wc wb bl ba bC bB hd hst h5 hkc h1 h2 h3 h4 hl hb g⟩
        | some b =>
          have hab := hE k time b hkc hb
          by_cases hg : tt k = goal
          · have e : cn_xK cc fr tt ok E c goal n ns node time k = [([(k, b)], b + c k)] := by
              unfold cn_xK; rw [if_pos hl2, hb]; exact if_pos hg
            rw [e]
            have hlen : (p ++ [(k, b)]).length = p.length + 1 := by rw [List.length_append]; rfl
            have ef : (([([(k, b)], b + c k)] : List cn_R).map (fun r => (p ++ r.1, r.2))).foldl cn_f o = cn_f o (p ++ [(k, b)], b + c k) := rfl
            rw [ef]
            have ag : ∀ i, i < p.length → wn i = wn i ∧ wr i = wr i ∧ upd wx p.length (nI (k + 1)) i = wx i ∧ upd wc p.length (nI k) i = wc i ∧ upd wb p.length (nI b) i = wb i :=
              fun i hi => ⟨rfl, rfl, pk_un (by omega), pk_un (by omega), pk_un (by omega)⟩
            by_cases ht : cn_bet bl ba (p.length + 1) (b + c k)
            · refine ⟨step + 1, wn, wr, upd wx p.length (nI (k + 1)), upd wc p.length (nI k), upd wb p.length (nI b), nI (p.length + 1), nI (b + c k), cn_cp (p.length + 1) (upd wc p.length (nI k)) bC, cn_cp (p.length + 1) (upd wb p.length (nI b)) bB, ag, h1, h3, pk_us, ?_, by omega,
                fun q g => R4 q p.length k step node time b wn wr wx wc wb bl ba bC bB hd hst h5 hkc h1 h2 h3 h4 hl hb hg ht g⟩
              rw [cn_bet_t h8 (r := (p ++ [(k, b)], b + c k)) (by show (p ++ [(k, b)]).length ≤ 5; omega) hab (by show cn_bet bl ba (p ++ [(k, b)]).length (b + c k); rw [hlen]; exact ht)]
              have := cn_BR_k (bC := bC) (bB := bB) (cn_Pa_s (k := k) (b := b) h7) (by simp) (by omega) hab
              rw [hlen] at this
              exact this
            · refine ⟨step + 1, wn, wr, upd wx p.length (nI (k + 1)), upd wc p.length (nI k), upd wb p.length (nI b), bl, ba, bC, bB, ag, h1, h3, pk_us, ?_, by omega,
                fun q g => R5 q p.length k step node time b wn wr wx wc wb bl ba bC bB hd hst h5 hkc h1 h2 h3 h4 hl hb hg ht g⟩
              rw [cn_bet_f h8 (r := (p ++ [(k, b)], b + c k)) (by show (p ++ [(k, b)]).length ≤ 5; omega) hab (by show ¬ cn_bet bl ba (p ++ [(k, b)]).length (b + c k); rw [hlen]; exact ht)]
              exact h8
          · have e : cn_xK cc fr tt ok E c goal n ns node time k = (cn_xS cc fr tt ok E c goal n (node :: ns) (tt k) (b + c k)).map (fun r => ((k, b) :: r.1, r.2)) := by
              unfold cn_xK; rw [if_pos hl2, hb]; exact if_neg hg
            rw [e, cn_fm]
            cases n with
            | zero =>
              exact ⟨step + 1, wn, wr, upd wx p.length (nI (k + 1)), upd wc p.length (nI k), upd wb p.length (nI b), bl, ba, bC, bB, fun i hi => ⟨rfl, rfl, pk_un (by omega), pk_un (by omega), pk_un (by omega)⟩, h1, h3, pk_us, h8, by omega,
                fun q g => R7 q p.length k step node time b wn wr wx wc wb bl ba bC bB (by omega) hst h5 hkc h1 h2 h3 h4 hl hb hg g⟩
            | succ n =>
              have hlen : (p ++ [(k, b)]).length = p.length + 1 := by rw [List.length_append]; rfl
              have hS : cn_S (n + 1) = 11 + 10 * cn_S n := rfl
              have hmul : cc * (1 + cn_S n) ≤ 10 * (1 + cn_S n) := Nat.mul_le_mul_right _ hcc
              have hns : ∀ x, x < 6 → (x ∈ node :: ns ↔ ∃ i, i < (p ++ [(k, b)]).length ∧ upd wn (p.length + 1) (nI (tt k)) i = nI x) := by
                intro x hx
                rw [hlen, List.mem_cons, h6 x hx]
                constructor
                · rintro (z | ⟨i, z1, z2⟩)
                  · exact ⟨p.length, by omega, by rw [pk_un (by omega), h1, z]⟩
                  · exact ⟨i, by omega, by rw [pk_un (by omega), z2]⟩
                · rintro ⟨i, z1, z2⟩
                  rw [pk_un (by omega)] at z2
                  by_cases ei : i = p.length
                  · rw [ei, h1, nI_eq (by omega) (by omega)] at z2
                    exact Or.inl z2.symm
                  · exact Or.inr ⟨i, by omega, z2⟩
              obtain ⟨step1, wn1, wr1, wx1, wc1, wb1, bl1, ba1, bC1, bB1, f1, f2, f3, f4⟩ := ihn n (Nat.lt_succ_self n) cc (p ++ [(k, b)]) (node :: ns) (tt k) (b + c k) 0 (step + 1)
                (upd wn (p.length + 1) (nI (tt k))) (upd wr (p.length + 1) (nI (b + c k))) (upd (upd wx p.length (nI (k + 1))) (p.length + 1) 0) (upd wc p.length (nI k)) (upd wb p.length (nI b)) bl ba bC bB o
                (by omega) (by omega) (by rw [hlen, pk_us]) htk (by rw [hlen, pk_us]) (by omega) (by rw [hlen, pk_us]; rfl) hns (cn_Pa_s h7) h8 (by rw [hm, hS] at h9; omega)
              rw [hlen] at f1 f4
              refine ⟨step1, wn1, wr1, wx1, wc1, wb1, bl1, ba1, bC1, bB1, ?_, ?_, ?_, ?_, f2, by rw [hS]; omega, ?_⟩
              · intro i hi
                obtain ⟨a1, a2, a3, a4, a5⟩ := f1 i (by omega)
                rw [a1, a2, a3, a4, a5, pk_un (by omega), pk_un (by omega), pk_un (by omega), pk_un (by omega), pk_un (by omega), pk_un (by omega)]
                exact ⟨rfl, rfl, rfl, rfl, rfl⟩
              · rw [(f1 p.length (by omega)).1, pk_un (by omega), h1]
              · rw [(f1 p.length (by omega)).2.1, pk_un (by omega), h3]
              · rw [(f1 p.length (by omega)).2.2.1, pk_un (by omega), pk_us]
              · intro q g
                apply R6 q p.length k step node time b wn wr wx wc wb bl ba bC bB (by omega) hst h5 hkc h1 h2 h3 h4 hl hb hg
                apply f4
                rw [pk_m1]
                exact g
      · have hl2 : ¬ (fr k = node ∧ ok k = true ∧ tt k ∉ ns) := fun z => hl ⟨z.1, z.2.1, hL.mpr z.2.2⟩
        have e : cn_xK cc fr tt ok E c goal n ns node time k = [] := by
          unfold cn_xK; rw [if_neg hl2]
        rw [e]
        exact ⟨step + 1, wn, wr, upd wx p.length (nI (k + 1)), wc, wb, bl, ba, bC, bB, fun i hi => ⟨rfl, rfl, pk_un (by omega), rfl, rfl⟩, h1, h3, pk_us, h8, by omega,
          fun q g => R2 q p.length k step node wn wr wx wc wb bl ba bC bB hd hst h5 hkc h1 h2 hl g⟩
    obtain ⟨step1, wn1, wr1, wx1, wc1, wb1, bl1, ba1, bC1, bB1, k1, k2, k3, k4, k5, k6, k7⟩ := key
    obtain ⟨step2, wn2, wr2, wx2, wc2, wb2, bl2, ba2, bC2, bB2, j1, j2, j3, j4⟩ := ihm p ns node time (k + 1) step1 wn1 wr1 wx1 wc1 wb1 bl1 ba1 bC1 bB1 _ hn (by omega) k2 h2 k3 h4 k4
      (fun x hx => by
        rw [h6 x hx]
        exact ⟨fun ⟨i, z1, z2⟩ => ⟨i, z1, by rw [(k1 i z1).1, z2]⟩, fun ⟨i, z1, z2⟩ => ⟨i, z1, by rw [← (k1 i z1).1, z2]⟩⟩)
      (cn_Pa_x h7 (fun i hi => ⟨(k1 i hi).2.2.2.1, (k1 i hi).2.2.2.2⟩)) k5 (by omega)
    refine ⟨step2, wn2, wr2, wx2, wc2, wb2, bl2, ba2, bC2, bB2, ?_, ?_, by omega, fun q g => k7 q (j4 q g)⟩
    · intro i hi
      obtain ⟨a1, a2, a3, a4, a5⟩ := j1 i hi
      obtain ⟨b1, b2, b3, b4, b5⟩ := k1 i hi
      exact ⟨a1.trans b1, a2.trans b2, a3.trans b3, a4.trans b4, a5.trans b5⟩
    · rw [cn_fo]; exact j2
theorem cn_yLv {P : Type} {G : P → Int32 → cn_A → cn_A → cn_A → cn_A → cn_A → Int32 → Int32 → cn_A → cn_A → Prop} (H : cn_YG cc fr tt ok E c goal G) (hcc : cc ≤ 10) (htt : ∀ k, k < cc → tt k < 6) (hE : ∀ k t b, k < cc → E k t = some b → b + c k ≤ 200) :
    ∀ (n m : Nat) (p : List (Nat × Nat)) (used : List Nat) (node time k : Nat) (tr tb no ti ne : cn_A) (be bA : Int32) (bO bE : cn_A) (o : Option cn_R),
    p.length + n = 4 → k + m = cc → no p.length = nI node → node < 6 → ti p.length = nI time → time ≤ 200000 → ne p.length = nI k → (∀ x, x < cc → (x ∈ used ↔ ∃ i, i < p.length ∧ tr i = nI x)) → cn_Pa p tr tb → cn_BR o be bA bO bE →
    ∃ (tr' tb' no' ti' ne' : cn_A) (be' bA' : Int32) (bO' bE' : cn_A), (∀ i, i < p.length → tr' i = tr i ∧ tb' i = tb i ∧ no' i = no i ∧ ti' i = ti i ∧ ne' i = ne i) ∧
      cn_BR ((((List.range' k m).flatMap (cn_yK cc fr tt ok E c goal n used node time)).map (fun r => (p ++ r.1, r.2))).foldl cn_f o) be' bA' bO' bE' ∧
      ∀ q, G q (nI p.length + (-1)) tr' tb' no' ti' ne' be' bA' bO' bE' → G q (nI p.length) tr tb no ti ne be bA bO bE := by
  obtain ⟨R1, R2, R3, R4, R5⟩ := H
  intro n
  induction n using Nat.strongRecOn with
  | _ n ihn =>
  intro m
  induction m with
  | zero =>
    intro p used node time k tr tb no ti ne be bA bO bE o hn hk h1 h2 h3 h4 h5 h6 h7 h8
    exact ⟨tr, tb, no, ti, upd ne p.length (nI (k + 1)), be, bA, bO, bE, fun i hi => ⟨rfl, rfl, rfl, rfl, pk_un (by omega)⟩, h8, fun q g => R1 q p.length k tr tb no ti ne be bA bO bE (by omega) h5 (by omega) (by omega) g⟩
  | succ m ihm =>
    intro p used node time k tr tb no ti ne be bA bO bE o hn hk h1 h2 h3 h4 h5 h6 h7 h8
    have hd : p.length < 5 := by omega
    have hkc : k < cc := by omega
    have htk := htt k hkc
    have hL : (∀ i, i < p.length → tr i ≠ nI k) ↔ k ∉ used := by
      rw [h6 _ hkc]
      exact ⟨fun h ⟨i, g1, g2⟩ => h i g1 g2, fun h i g1 g2 => h ⟨i, g1, g2⟩⟩
    have key : ∃ (tr1 tb1 no1 ti1 ne1 : cn_A) (be1 bA1 : Int32) (bO1 bE1 : cn_A), (∀ i, i < p.length → tr1 i = tr i ∧ tb1 i = tb i ∧ no1 i = no i ∧ ti1 i = ti i ∧ ne1 i = ne i) ∧
        no1 p.length = nI node ∧ ti1 p.length = nI time ∧ ne1 p.length = nI (k + 1) ∧
        cn_BR (((cn_yK cc fr tt ok E c goal n used node time k).map (fun r => (p ++ r.1, r.2))).foldl cn_f o) be1 bA1 bO1 bE1 ∧
        ∀ q, G q (nI p.length) tr1 tb1 no1 ti1 ne1 be1 bA1 bO1 bE1 → G q (nI p.length) tr tb no ti ne be bA bO bE := by
      by_cases hl : fr k = node ∧ ok k = true ∧ ∀ i, i < p.length → tr i ≠ nI k
      · have hl2 : fr k = node ∧ ok k = true ∧ k ∉ used := ⟨hl.1, hl.2.1, hL.mp hl.2.2⟩
        cases hb : E k time with
        | none =>
          have e : cn_yK cc fr tt ok E c goal n used node time k = [] := by
            unfold cn_yK; rw [if_pos hl2, hb]
          rw [e]
          exact ⟨tr, tb, no, ti, upd ne p.length (nI (k + 1)), be, bA, bO, bE, fun i hi => ⟨rfl, rfl, rfl, rfl, pk_un (by omega)⟩, h1, h3, pk_us, h8,
            fun q g => R3 q p.length k node time tr tb no ti ne be bA bO bE hd h5 hkc h1 h2 h3 h4 hl hb g⟩
        | some b =>
          have hab := hE k time b hkc hb
          have hlen : (p ++ [(k, b)]).length = p.length + 1 := by rw [List.length_append]; rfl
          have e : cn_yK cc fr tt ok E c goal n used node time k = (if tt k = goal then [([(k, b)], b + c k)] else []) ++ (cn_yS cc fr tt ok E c goal n (k :: used) (tt k) (b + c k)).map (fun r => ((k, b) :: r.1, r.2)) := by
            unfold cn_yK; rw [if_pos hl2, hb]
          rw [e, List.map_append, List.foldl_append, cn_fm]
          have sub : ∃ (o1 : Option cn_R) (be1 bA1 : Int32) (bO1 bE1 : cn_A), ((if tt k = goal then ([([(k, b)], b + c k)] : List cn_R) else []).map (fun r => (p ++ r.1, r.2))).foldl cn_f o = o1 ∧ cn_BR o1 be1 bA1 bO1 bE1 ∧
              ∀ q, G q (nI (p.length + 1)) (upd tr p.length (nI k)) (upd tb p.length (nI b)) (upd no (p.length + 1) (nI (tt k))) (upd ti (p.length + 1) (nI (b + c k))) (upd (upd ne p.length (nI (k + 1))) (p.length + 1) 0) be1 bA1 bO1 bE1 → G q (nI p.length) tr tb no ti ne be bA bO bE := by
            by_cases hg : tt k = goal
            · rw [if_pos hg]
              have ef : (([([(k, b)], b + c k)] : List cn_R).map (fun r => (p ++ r.1, r.2))).foldl cn_f o = cn_f o (p ++ [(k, b)], b + c k) := rfl
              rw [ef]
              by_cases ht : cn_bet be bA (p.length + 1) (b + c k)
              · refine ⟨_, nI (p.length + 1), nI (b + c k), cn_cp (p.length + 1) (upd tr p.length (nI k)) bO, cn_cp (p.length + 1) (upd tb p.length (nI b)) bE, rfl, ?_, fun q g => R5 q p.length k node time b tr tb no ti ne be bA bO bE hd h5 hkc h1 h2 h3 h4 hl hb hg ht g⟩
                rw [cn_bet_t h8 (r := (p ++ [(k, b)], b + c k)) (by show (p ++ [(k, b)]).length ≤ 5; omega) hab (by show cn_bet be bA (p ++ [(k, b)]).length (b + c k); rw [hlen]; exact ht)]
                have := cn_BR_k (bC := bO) (bB := bE) (cn_Pa_s (k := k) (b := b) h7) (by simp) (by omega) hab
                rw [hlen] at this
                exact this
              · refine ⟨_, be, bA, bO, bE, rfl, ?_, fun q g => R4 q p.length k node time b tr tb no ti ne be bA bO bE hd h5 hkc h1 h2 h3 h4 hl hb (Or.inr ht) g⟩
                rw [cn_bet_f h8 (r := (p ++ [(k, b)], b + c k)) (by show (p ++ [(k, b)]).length ≤ 5; omega) hab (by show ¬ cn_bet be bA (p ++ [(k, b)]).length (b + c k); rw [hlen]; exact ht)]
                exact h8
            · rw [if_neg hg]
              exact ⟨o, be, bA, bO, bE, rfl, h8, fun q g => R4 q p.length k node time b tr tb no ti ne be bA bO bE hd h5 hkc h1 h2 h3 h4 hl hb (Or.inl hg) g⟩
          obtain ⟨o1, be1, bA1, bO1, bE1, s1, s2, s3⟩ := sub
          rw [s1]
          cases n with
          | zero =>
            refine ⟨upd tr p.length (nI k), upd tb p.length (nI b), upd no (p.length + 1) (nI (tt k)), upd ti (p.length + 1) (nI (b + c k)), upd (upd (upd ne p.length (nI (k + 1))) (p.length + 1) 0) (p.length + 1) (nI (0 + 1)), be1, bA1, bO1, bE1, ?_, ?_, ?_, ?_, s2, ?_⟩
            · intro i hi
              rw [pk_un (by omega), pk_un (by omega), pk_un (by omega), pk_un (by omega), pk_un (by omega), pk_un (by omega), pk_un (by omega)]
              exact ⟨rfl, rfl, rfl, rfl, rfl⟩
            · rw [pk_un (by omega), h1]
            · rw [pk_un (by omega), h3]
            · rw [pk_un (by omega), pk_un (by omega), pk_us]
            · intro q g
              apply s3
              apply R1 q (p.length + 1) 0 _ _ _ _ _ _ _ _ _ (by omega) (by rw [pk_us]; rfl) (by omega) (by omega)
              rw [pk_m1]
              exact g
          | succ n =>
            have hus : ∀ x, x < cc → (x ∈ k :: used ↔ ∃ i, i < (p ++ [(k, b)]).length ∧ upd tr p.length (nI k) i = nI x) := by
              intro x hx
              rw [hlen, List.mem_cons, h6 x hx]
              constructor
              · rintro (z | ⟨i, z1, z2⟩)
                · exact ⟨p.length, by omega, by rw [pk_us, z]⟩
                · exact ⟨i, by omega, by rw [pk_un (by omega), z2]⟩
              · rintro ⟨i, z1, z2⟩
                by_cases ei : i = p.length
                · rw [ei, pk_us, nI_eq (by omega) (by omega)] at z2
                  exact Or.inl z2.symm
                · rw [pk_un ei] at z2
                  exact Or.inr ⟨i, by omega, z2⟩
            obtain ⟨tr2, tb2, no2, ti2, ne2, be2, bA2, bO2, bE2, f1, f2, f3⟩ := ihn n (Nat.lt_succ_self n) cc (p ++ [(k, b)]) (k :: used) (tt k) (b + c k) 0
              (upd tr p.length (nI k)) (upd tb p.length (nI b)) (upd no (p.length + 1) (nI (tt k))) (upd ti (p.length + 1) (nI (b + c k))) (upd (upd ne p.length (nI (k + 1))) (p.length + 1) 0) be1 bA1 bO1 bE1 o1
              (by omega) (by omega) (by rw [hlen, pk_us]) htk (by rw [hlen, pk_us]) (by omega) (by rw [hlen, pk_us]; rfl) hus (cn_Pa_s h7) s2
            rw [hlen] at f1 f3
            refine ⟨tr2, tb2, no2, ti2, ne2, be2, bA2, bO2, bE2, ?_, ?_, ?_, ?_, f2, ?_⟩
            · intro i hi
              obtain ⟨a1, a2, a3, a4, a5⟩ := f1 i (by omega)
              rw [a1, a2, a3, a4, a5, pk_un (by omega), pk_un (by omega), pk_un (by omega), pk_un (by omega), pk_un (by omega), pk_un (by omega)]
              exact ⟨rfl, rfl, rfl, rfl, rfl⟩
            · rw [(f1 p.length (by omega)).2.2.1, pk_un (by omega), h1]
            · rw [(f1 p.length (by omega)).2.2.2.1, pk_un (by omega), h3]
            · rw [(f1 p.length (by omega)).2.2.2.2, pk_un (by omega), pk_us]
            · intro q g
              apply s3
              apply f3
              rw [pk_m1]
              exact g
      · have hl2 : ¬ (fr k = node ∧ ok k = true ∧ k ∉ used) := fun z => hl ⟨z.1, z.2.1, hL.mpr z.2.2⟩
        have e : cn_yK cc fr tt ok E c goal n used node time k = [] := by
          unfold cn_yK; rw [if_neg hl2]
        rw [e]
        exact ⟨tr, tb, no, ti, upd ne p.length (nI (k + 1)), be, bA, bO, bE, fun i hi => ⟨rfl, rfl, rfl, rfl, pk_un (by omega)⟩, h1, h3, pk_us, h8,
          fun q g => R2 q p.length k node tr tb no ti ne be bA bO bE hd h5 hkc h1 h2 hl g⟩
    obtain ⟨tr1, tb1, no1, ti1, ne1, be1, bA1, bO1, bE1, k1, k2, k3, k4, k5, k7⟩ := key
    obtain ⟨tr2, tb2, no2, ti2, ne2, be2, bA2, bO2, bE2, j1, j2, j4⟩ := ihm p used node time (k + 1) tr1 tb1 no1 ti1 ne1 be1 bA1 bO1 bE1 _ hn (by omega) k2 h2 k3 h4 k4
      (fun x hx => by
        rw [h6 x hx]
        exact ⟨fun ⟨i, z1, z2⟩ => ⟨i, z1, by rw [(k1 i z1).1, z2]⟩, fun ⟨i, z1, z2⟩ => ⟨i, z1, by rw [← (k1 i z1).1, z2]⟩⟩)
      (cn_Pa_x h7 (fun i hi => ⟨(k1 i hi).1, (k1 i hi).2.1⟩)) k5
    refine ⟨tr2, tb2, no2, ti2, ne2, be2, bA2, bO2, bE2, ?_, ?_, fun q g => k7 q (j4 q g)⟩
    · intro i hi
      obtain ⟨a1, a2, a3, a4, a5⟩ := j1 i hi
      obtain ⟨b1, b2, b3, b4, b5⟩ := k1 i hi
      exact ⟨a1.trans b1, a2.trans b2, a3.trans b3, a4.trans b4, a5.trans b5⟩
    · rw [cn_fo]; exact j2
theorem cn_map0 {L : List cn_R} : L.map (fun r => (([] : List (Nat × Nat)) ++ r.1, r.2)) = L := by
  have : (fun r : cn_R => (([] : List (Nat × Nat)) ++ r.1, r.2)) = id := by funext r; rfl
  rw [this, List.map_id]
/-- the component's whole search -/
theorem cn_xAll {P : Type} {G : P → Int32 → Nat → cn_A → cn_A → cn_A → cn_A → cn_A → Int32 → Int32 → cn_A → cn_A → Prop} (H : cn_XG cc fr tt ok E c goal G) (hcc : cc ≤ 10) (htt : ∀ k, k < cc → tt k < 6) (hE : ∀ k t b, k < cc → E k t = some b → b + c k ≤ 200)
    (node time : Nat) (wn wr wx wc wb : cn_A) (ba : Int32) (bC bB : cn_A) (h1 : wn 0 = nI node) (h2 : node < 6) (h3 : wr 0 = nI time) (h4 : time ≤ 200000) (h5 : wx 0 = nI 0) :
    ∃ (step' : Nat) (wn' wr' wx' wc' wb' : cn_A) (bl' ba' : Int32) (bC' bB' : cn_A), cn_BR ((cn_xS cc fr tt ok E c goal 5 [] node time).foldl cn_f none) bl' ba' bC' bB' ∧ step' ≤ 1000000 ∧
      ∀ q, G q (-1) step' wn' wr' wx' wc' wb' bl' ba' bC' bB' → G q 0 0 wn wr wx wc wb 0 ba bC bB := by
  have hS : cn_S 4 = 12221 := rfl
  have hmul : cc * (1 + cn_S 4) ≤ 10 * (1 + cn_S 4) := Nat.mul_le_mul_right _ hcc
  obtain ⟨s', wn', wr', wx', wc', wb', bl', ba', bC', bB', f1, f2, f3, f4⟩ := cn_xLv H hcc htt hE 4 cc [] [] node time 0 0 wn wr wx wc wb 0 ba bC bB none rfl (by omega) h1 h2 h3 h4 h5
    (fun x _ => ⟨fun z => by simp at z, fun ⟨i, z, _⟩ => by simp at z⟩) (fun i hi => by simp at hi) rfl (by omega)
  refine ⟨s', wn', wr', wx', wc', wb', bl', ba', bC', bB', ?_, by omega, f4⟩
  rw [cn_map0] at f2
  exact f2
theorem cn_yAll {P : Type} {G : P → Int32 → cn_A → cn_A → cn_A → cn_A → cn_A → Int32 → Int32 → cn_A → cn_A → Prop} (H : cn_YG cc fr tt ok E c goal G) (hcc : cc ≤ 10) (htt : ∀ k, k < cc → tt k < 6) (hE : ∀ k t b, k < cc → E k t = some b → b + c k ≤ 200)
    (node time : Nat) (tr tb no ti ne : cn_A) (bA : Int32) (bO bE : cn_A) (h1 : no 0 = nI node) (h2 : node < 6) (h3 : ti 0 = nI time) (h4 : time ≤ 200000) (h5 : ne 0 = nI 0) :
    ∃ (tr' tb' no' ti' ne' : cn_A) (be' bA' : Int32) (bO' bE' : cn_A), cn_BR ((cn_yS cc fr tt ok E c goal 5 [] node time).foldl cn_f none) be' bA' bO' bE' ∧
      ∀ q, G q (-1) tr' tb' no' ti' ne' be' bA' bO' bE' → G q 0 tr tb no ti ne 0 bA bO bE := by
  obtain ⟨tr', tb', no', ti', ne', be', bA', bO', bE', f1, f2, f3⟩ := cn_yLv H hcc htt hE 4 cc [] [] node time 0 tr tb no ti ne 0 bA bO bE none rfl (by omega) h1 h2 h3 h4 h5
    (fun x _ => ⟨fun z => by simp at z, fun ⟨i, z, _⟩ => by simp at z⟩) (fun i hi => by simp at hi) rfl
  refine ⟨tr', tb', no', ti', ne', be', bA', bO', bE', ?_, f3⟩
  rw [cn_map0] at f2
  exact f2
end
end
section
def cn_n (f : Nat → Nat) : Nat → Int32 := fun j => nI (f j)
theorem cn_n_at (f : Nat → Nat) (k : Nat) : cn_n f k = nI (f k) := rfl
theorem cn_n_up (f : Nat → Nat) (k x : Nat) : upd (cn_n f) k (nI x) = cn_n (cn_up f k x) := cn_upd f k x
theorem cn_n_same {f : Nat → Nat} {k x : Nat} (h : f k = x) : cn_up f k x = f := by
  funext j
  unfold cn_up
  by_cases e : j = k
  · rw [if_pos e, e, h]
  · rw [if_neg e]
def cn_T (TA : Nat → Int32) (k t : Nat) : Bool := decide (TA (k * 100 + t) ≠ 0)
theorem cn_T_f {TA : Nat → Int32} {k t : Nat} (h : TA (k * 100 + t) = 0) : cn_T TA k t = false := decide_eq_false (fun z => z h)
theorem cn_T_t {TA : Nat → Int32} {k t : Nat} (h : ¬ TA (k * 100 + t) = 0) : cn_T TA k t = true := decide_eq_true h
theorem cn_T_0 {TA : Nat → Int32} {k t : Nat} (h : cn_T TA k t = false) : TA (k * 100 + t) = 0 := Decidable.byContradiction fun z => by
  rw [cn_T_t z] at h; exact absurd h (by decide)
/-- the component's scan: so many free ticks stand behind the present one -/
def cn_Sc (T : Nat → Bool) (lo need tick free : Nat) : Prop :=
  lo + free ≤ tick ∧ free < need ∧ (∀ t, tick ≤ t + free → t < tick → T t = false) ∧ (∀ y, lo ≤ y → y + free < tick → ¬ cn_fw T need y)
theorem cn_Sc_0 {T : Nat → Bool} {lo need : Nat} (h : 1 ≤ need) : cn_Sc T lo need lo 0 :=
  ⟨by omega, by omega, fun t h1 h2 => by omega, fun y h1 h2 => by omega⟩
theorem cn_Sc_t {T : Nat → Bool} {lo need tick free : Nat} (h : cn_Sc T lo need tick free) (ht : T tick = true) : cn_Sc T lo need (tick + 1) 0 := by
  obtain ⟨h1, h2, h3, h4⟩ := h
  refine ⟨by omega, by omega, fun t g1 g2 => by omega, ?_⟩
  intro y g1 g2 hw
  by_cases e : y + free < tick
  · exact h4 y g1 e hw
  · have := hw tick (by omega) (by omega)
    rw [this] at ht
    exact absurd ht (by decide)
theorem cn_Sc_f {T : Nat → Bool} {lo need tick free : Nat} (h : cn_Sc T lo need tick free) (ht : T tick = false) (hn : free + 1 ≠ need) : cn_Sc T lo need (tick + 1) (free + 1) := by
  obtain ⟨h1, h2, h3, h4⟩ := h
  refine ⟨by omega, by omega, ?_, fun y g1 g2 => h4 y g1 (by omega)⟩
  intro t g1 g2
  by_cases e : t = tick
  · rw [e]; exact ht
  · exact h3 t (by omega) (by omega)
theorem cn_Sc_d {T : Nat → Bool} {lo hi need tick free : Nat} (h : cn_Sc T lo need tick free) (ht : T tick = false) (hn : free + 1 = need) (hh : tick < hi) : cn_eb T lo hi need = some (tick + 1 - need) := by
  obtain ⟨h1, h2, h3, h4⟩ := h
  refine cn_eb_some.mpr ⟨by omega, by omega, ?_, fun y g1 g2 => h4 y g1 (by omega)⟩
  intro t g1 g2
  by_cases e : t = tick
  · rw [e]; exact ht
  · exact h3 t (by omega) (by omega)
theorem cn_Sc_e {T : Nat → Bool} {lo hi need tick free : Nat} (h : cn_Sc T lo need tick free) (hh : hi ≤ tick) : cn_eb T lo hi need = none := by
  obtain ⟨h1, h2, h3, h4⟩ := h
  exact cn_eb_none.mpr fun y g1 g2 => h4 y g1 (by omega)
section
variable {cc bc : Nat} {fr tt st en ra de so sz hc : Nat → Nat} {oc ob : Nat → Nat → Nat} {TA : Nat → Int32}
theorem cn_isFree (H : cn_Bk cc bc fr tt st en ra so sz hc oc ob TA) (hsz : ∀ b, b < bc → 1 ≤ sz b) {k x need : Nat} (hk : k < 10) (hr : 1 ≤ ra k) (hn : 1 ≤ need) (hx : x + need ≤ 100) :
    cn_fw (cn_T TA k) need x ↔ ∀ b i, b < bc → i < hc b → ¬ (oc b i = k ∧ ob b i < x + need ∧ x < ob b i + cn_tk ra k (sz b)) := by
  obtain ⟨H1, H2, H3⟩ := H
  constructor
  · rintro hw b i hb hi ⟨e1, e2, e3⟩
    have hp := cn_tk_pos (ra := ra) (k := k) (s := sz b) hr (hsz b hb)
    have hm : ∃ t, x ≤ t ∧ t < x + need ∧ ob b i ≤ t ∧ t < ob b i + cn_tk ra k (sz b) := by
      by_cases h : x ≤ ob b i
      · exact ⟨ob b i, h, e2, Nat.le_refl _, by omega⟩
      · exact ⟨x, Nat.le_refl _, by omega, by omega, e3⟩
    obtain ⟨t, t1, t2, t3, t4⟩ := hm
    have z := cn_T_0 (hw t t1 t2)
    have y := (H3 k t hk (by omega)).2.mpr ⟨b, i, hb, hi, e1, t3, t4⟩
    rw [z] at y
    exact absurd y (by decide)
  · intro h t t1 t2
    apply cn_T_f
    rcases (H3 k t hk (by omega)).1 with z | z
    · exact z
    · obtain ⟨b, i, c1, c2, c3, c4, c5⟩ := (H3 k t hk (by omega)).2.mp z
      exact absurd ⟨c3, by omega, by omega⟩ (h b i c1 c2)
end
end
section
def cn_Hx (hc : Nat → Nat) (oc : Nat → Nat → Nat) (HX : Nat → Int32) : Prop := ∀ b i, b < 10 → i < hc b → HX (b * 100 + i) = nI (oc b i)
def cn_Hy (hc : Nat → Nat) (oc : Nat → Nat → Nat) (HY : Nat → Int32) : Prop := ∀ b i, b < 10 → i < hc b → HY (64 * b + i) = nI (oc b i)
theorem cn_Hx_app {hc : Nat → Nat} {oc : Nat → Nat → Nat} {HX : Nat → Int32} (h : cn_Hx hc oc HX) (hh : ∀ b, b < 10 → hc b ≤ 60) {b0 x : Nat} (hb : b0 < 10) : cn_Hx (cn_up hc b0 (hc b0 + 1)) (cn_up2 oc b0 (hc b0) x) (upd HX (b0 * 100 + hc b0) (nI x)) := by
  intro b i hb2 hi
  have hb0 := hh b0 hb
  have hb1 := hh b hb2
  by_cases e : b = b0 ∧ i = hc b0
  · rw [e.1, e.2, cn_up2_s, pk_us]
  · rw [cn_up2_n e]
    have hi2 : i < hc b := by
      by_cases eb : b = b0
      · rw [eb, cn_up_s] at hi
        have : i ≠ hc b0 := fun z => e ⟨eb, z⟩
        rw [eb]; omega
      · rw [cn_up_n eb] at hi; exact hi
    rw [pk_un, h b i hb2 hi2]
    intro z
    exact e (by omega)
theorem cn_Hy_app {hc : Nat → Nat} {oc : Nat → Nat → Nat} {HX : Nat → Int32} (h : cn_Hy hc oc HX) (hh : ∀ b, b < 10 → hc b ≤ 60) {b0 x : Nat} (hb : b0 < 10) : cn_Hy (cn_up hc b0 (hc b0 + 1)) (cn_up2 oc b0 (hc b0) x) (upd HX (64 * b0 + hc b0) (nI x)) := by
  intro b i hb2 hi
  have hb0 := hh b0 hb
  have hb1 := hh b hb2
  by_cases e : b = b0 ∧ i = hc b0
  · rw [e.1, e.2, cn_up2_s, pk_us]
  · rw [cn_up2_n e]
    have hi2 : i < hc b := by
      by_cases eb : b = b0
      · rw [eb, cn_up_s] at hi
        have : i ≠ hc b0 := fun z => e ⟨eb, z⟩
        rw [eb]; omega
      · rw [cn_up_n eb] at hi; exact hi
    rw [pk_un, h b i hb2 hi2]
    intro z
    exact e (by omega)
theorem cn_Hx_cut {hc : Nat → Nat} {oc : Nat → Nat → Nat} {HX : Nat → Int32} (h : cn_Hx hc oc HX) {b0 j : Nat} (hj : j ≤ hc b0) : cn_Hx (cn_up hc b0 j) oc HX := by
  intro b i hb hi
  apply h b i hb
  by_cases eb : b = b0
  · rw [eb, cn_up_s] at hi; rw [eb]; omega
  · rw [cn_up_n eb] at hi; exact hi
theorem cn_Hy_cut {hc : Nat → Nat} {oc : Nat → Nat → Nat} {HX : Nat → Int32} (h : cn_Hy hc oc HX) {b0 j : Nat} (hj : j ≤ hc b0) : cn_Hy (cn_up hc b0 j) oc HX := by
  intro b i hb hi
  apply h b i hb
  by_cases eb : b = b0
  · rw [eb, cn_up_s] at hi; rw [eb]; omega
  · rw [cn_up_n eb] at hi; exact hi
/-- hops, contacts, begins; the component's ticks and two hop arrays; the reference's two -/
abbrev cn_St : Type := (Nat → Nat) × (Nat → Nat → Nat) × (Nat → Nat → Nat) × (Nat → Int32) × (Nat → Int32) × (Nat → Int32) × (Nat → Int32) × (Nat → Int32)
def cn_ap (ra sz : Nat → Nat) (b : Nat) (s : cn_St) (x : Nat × Nat) : cn_St :=
  (cn_up s.1 b (s.1 b + 1), cn_up2 s.2.1 b (s.1 b) x.1, cn_up2 s.2.2.1 b (s.1 b) x.2, cn_fill s.2.2.2.1 (x.1 * 100 + x.2) (cn_tk ra x.1 (sz b)) 1,
    upd s.2.2.2.2.1 (b * 100 + s.1 b) (nI x.1), upd s.2.2.2.2.2.1 (b * 100 + s.1 b) (nI x.2), upd s.2.2.2.2.2.2.1 (64 * b + s.1 b) (nI x.1), upd s.2.2.2.2.2.2.2 (64 * b + s.1 b) (nI x.2))
def cn_Iv (cc bc : Nat) (fr tt st en ra so sz : Nat → Nat) (s : cn_St) : Prop :=
  cn_Bk cc bc fr tt st en ra so sz s.1 s.2.1 s.2.2.1 s.2.2.2.1 ∧ cn_Hx s.1 s.2.1 s.2.2.2.2.1 ∧ cn_Hx s.1 s.2.2.1 s.2.2.2.2.2.1 ∧ cn_Hy s.1 s.2.1 s.2.2.2.2.2.2.1 ∧ cn_Hy s.1 s.2.2.1 s.2.2.2.2.2.2.2 ∧ (∀ b, b < 10 → s.1 b ≤ 60)
/-- from s to s' only bundle b has got bookings -/
def cn_Fm (b : Nat) (s s' : cn_St) : Prop := (∀ j, j ≠ b → s'.1 j = s.1 j ∧ ∀ i, s'.2.1 j i = s.2.1 j i) ∧ ∀ i, i < s.1 b → s'.2.1 b i = s.2.1 b i
def cn_ch (fr tt : Nat → Nat) : Nat → List (Nat × Nat) → Prop
  | _, [] => True
  | node, x :: l => fr x.1 = node ∧ cn_ch fr tt (tt x.1) l
/-- a booking that may be made -/
def cn_may (cc : Nat) (st en ra : Nat → Nat) (z : Nat) (T : Nat → Int32) (x : Nat × Nat) : Prop :=
  x.1 < cc ∧ st x.1 ≤ x.2 ∧ x.2 + cn_tk ra x.1 z ≤ en x.1 ∧ ∀ t, x.2 ≤ t → t < x.2 + cn_tk ra x.1 z → T (x.1 * 100 + t) = 0
section
variable {cc bc : Nat} {fr tt st en ra de so sz : Nat → Nat}
theorem cn_Iv_ap (N : cn_Net cc fr tt st en ra de) {s : cn_St} (H : cn_Iv cc bc fr tt st en ra so sz s) (hbc : bc ≤ 10) {b : Nat} (hb : b < bc) (hs : 1 ≤ sz b) {x : Nat × Nat} (hx : cn_may cc st en ra (sz b) s.2.2.2.1 x)
    (hf : fr x.1 = cn_nd so tt s.2.1 b (s.1 b)) (hl : s.1 b < 60) : cn_Iv cc bc fr tt st en ra so sz (cn_ap ra sz b s x) := by
  obtain ⟨H1, H2, H3, H4, H5, H6⟩ := H
  obtain ⟨m1, m2, m3, m4⟩ := hx
  have hb2 : b < 10 := by omega
  refine ⟨cn_app N H1 hb m1 hs m2 m3 hf m4, cn_Hx_app H2 H6 hb2, cn_Hx_app H3 H6 hb2, cn_Hy_app H4 H6 hb2, cn_Hy_app H5 H6 hb2, ?_⟩
  intro j hj
  show cn_up s.1 b (s.1 b + 1) j ≤ 60
  by_cases e : j = b
  · rw [e, cn_up_s]; omega
  · rw [cn_up_n e]; exact H6 j hj
theorem cn_bookAll (N : cn_Net cc fr tt st en ra de) (hbc : bc ≤ 10) {b : Nat} (hb : b < bc) (hs : 1 ≤ sz b) : ∀ (l : List (Nat × Nat)) (s : cn_St), cn_Iv cc bc fr tt st en ra so sz s → (∀ x, x ∈ l → cn_may cc st en ra (sz b) s.2.2.2.1 x) → (l.map Prod.fst).Nodup →
    cn_ch fr tt (cn_nd so tt s.2.1 b (s.1 b)) l → s.1 b + l.length ≤ 60 →
    cn_Iv cc bc fr tt st en ra so sz (l.foldl (cn_ap ra sz b) s) ∧ cn_Fm b s (l.foldl (cn_ap ra sz b) s) ∧ (l.foldl (cn_ap ra sz b) s).1 b = s.1 b + l.length ∧ ∀ j, j < l.length → (l.foldl (cn_ap ra sz b) s).2.1 b (s.1 b + j) = (l.getD j (0, 0)).1 := by
  intro l
  induction l with
  | nil =>
    intro s H _ _ _ _
    exact ⟨H, ⟨fun j _ => ⟨rfl, fun _ => rfl⟩, fun _ _ => rfl⟩, rfl, fun j hj => by simp at hj⟩
  | cons x l ih =>
    intro s H hm hn hc hl
    rw [List.foldl_cons]
    rw [List.map_cons, List.nodup_cons] at hn
    rw [List.length_cons] at hl
    obtain ⟨c1, c2⟩ := hc
    have hx := hm x (List.mem_cons_self ..)
    have H' := cn_Iv_ap N H hbc hb hs hx c1 (by omega)
    have e1 : (cn_ap ra sz b s x).1 b = s.1 b + 1 := cn_up_s
    have hm' : ∀ y, y ∈ l → cn_may cc st en ra (sz b) (cn_ap ra sz b s x).2.2.2.1 y := by
      intro y hy
      obtain ⟨m1, m2, m3, m4⟩ := hm y (List.mem_cons_of_mem _ hy)
      refine ⟨m1, m2, m3, ?_⟩
      intro t t1 t2
      have hne : y.1 ≠ x.1 := fun z => hn.1 (by rw [← z]; exact List.mem_map_of_mem hy)
      have n5 := (N.2 y.1 m1).2.2.2.2.1
      have n5' := (N.2 x.1 hx.1).2.2.2.2.1
      have hx3 := hx.2.2.1
      show cn_fill s.2.2.2.1 (x.1 * 100 + x.2) (cn_tk ra x.1 (sz b)) 1 (y.1 * 100 + t) = 0
      unfold cn_fill
      rw [if_neg (by omega)]
      exact m4 t t1 t2
    have hc' : cn_ch fr tt (cn_nd so tt (cn_ap ra sz b s x).2.1 b ((cn_ap ra sz b s x).1 b)) l := by
      rw [e1]
      show cn_ch fr tt (tt (cn_up2 s.2.1 b (s.1 b) x.1 b (s.1 b))) l
      rw [cn_up2_s]; exact c2
    obtain ⟨i1, i2, i3, i4⟩ := ih (cn_ap ra sz b s x) H' hm' hn.2 hc' (by rw [e1]; omega)
    refine ⟨i1, ⟨?_, ?_⟩, ?_, ?_⟩
    · intro j hj
      obtain ⟨a1, a2⟩ := i2.1 j hj
      refine ⟨a1.trans (cn_up_n hj), fun i => (a2 i).trans ?_⟩
      show cn_up2 s.2.1 b (s.1 b) x.1 j i = s.2.1 j i
      exact cn_up2_n (fun z => hj z.1)
    · intro i hi
      refine (i2.2 i (by rw [e1]; omega)).trans ?_
      show cn_up2 s.2.1 b (s.1 b) x.1 b i = s.2.1 b i
      exact cn_up2_n (fun z => by omega)
    · rw [i3, e1, List.length_cons]; omega
    · intro j hj
      rw [List.length_cons] at hj
      cases j with
      | zero =>
        refine (i2.2 (s.1 b + 0) (by rw [e1]; omega)).trans ?_
        show cn_up2 s.2.1 b (s.1 b) x.1 b (s.1 b + 0) = x.1
        exact cn_up2_s
      | succ j =>
        have := i4 j (by omega)
        rw [e1] at this
        rw [show s.1 b + (j + 1) = s.1 b + 1 + j from by omega, this]
        rfl
/-- what a found route offers for booking -/
theorem cn_wkMay {ok : Nat → Bool} {TA : Nat → Int32} {z goal : Nat} {c : Nat → Nat} : ∀ (l : List (Nat × Nat)) (node time a : Nat), cn_wk cc fr tt ok (cn_E (cn_T TA) st en (fun k => cn_tk ra k z)) c goal l node time a →
    (∀ x, x ∈ l → cn_may cc st en ra z TA x) ∧ cn_ch fr tt node l := by
  intro l
  induction l with
  | nil => intro node time a _; exact ⟨fun x hx => by simp at hx, trivial⟩
  | cons y l ih =>
    intro node time a h
    obtain ⟨w1, w2, w3, w4, w5⟩ := h
    obtain ⟨i1, i2⟩ := ih _ _ _ w5
    obtain ⟨g1, g2, g3, g4⟩ := cn_eb_some.mp w4
    refine ⟨?_, w2, i2⟩
    intro x hx
    rcases List.mem_cons.mp hx with e | hx
    · rw [e]
      have := cn_mx_r time (st y.1)
      exact ⟨w1, by omega, g2, fun t t1 t2 => cn_T_0 (g3 t t1 t2)⟩
    · exact i1 x hx
theorem cn_nd_fm {b : Nat} {s s' : cn_St} (h : cn_Fm b s s') {j i : Nat} (hi : j ≠ b ∨ i ≤ s.1 b) : cn_nd so tt s'.2.1 j i = cn_nd so tt s.2.1 j i := by
  cases i with
  | zero => rfl
  | succ i =>
    show tt (s'.2.1 j i) = tt (s.2.1 j i)
    by_cases e : j = b
    · rw [e, h.2 i (by omega)]
    · rw [(h.1 j e).2 i]
end
end
section
def cn_gb (ra sz : Nat → Nat) (b : Nat) (s : cn_St) : Nat → Nat → (Nat → Int32) → (Nat → Int32)
  | 0, _, T => T
  | m + 1, i, T => cn_gb ra sz b s m (i + 1) (cn_fill T (s.2.1 b i * 100 + s.2.2.1 b i) (cn_tk ra (s.2.1 b i) (sz b)) 0)
def cn_cutS (ra sz : Nat → Nat) (b j : Nat) (s : cn_St) : cn_St :=
  (cn_up s.1 b j, s.2.1, s.2.2.1, cn_gb ra sz b s (s.1 b - j) j s.2.2.2.1, s.2.2.2.2.1, s.2.2.2.2.2.1, s.2.2.2.2.2.2.1, s.2.2.2.2.2.2.2)
section
variable {cc bc nc : Nat} {fr tt st en ra de so ta sz : Nat → Nat} {R : Nat → Int32} {s : cn_St}
theorem cn_gbAll (N : cn_Net cc fr tt st en ra de) (H : cn_Bk cc bc fr tt st en ra so sz s.1 s.2.1 s.2.2.1 s.2.2.2.1) {b j : Nat} (hb : b < bc) : ∀ (m i : Nat) (T : Nat → Int32), j ≤ i → i + m = s.1 b →
    cn_Ti T (fun k t => ∃ b' i', cn_cov bc ra sz s.1 s.2.1 s.2.2.1 b' i' k t ∧ ¬ (b' = b ∧ j ≤ i' ∧ i' < i)) →
    cn_Ti (cn_gb ra sz b s m i T) (fun k t => ∃ b' i', cn_cov bc ra sz s.1 s.2.1 s.2.2.1 b' i' k t ∧ ¬ (b' = b ∧ j ≤ i')) := by
  intro m
  induction m with
  | zero =>
    intro i T hj hi hT
    refine cn_Ti_x hT ?_
    intro k t _ _
    constructor
    · rintro ⟨b', i', z, y⟩
      refine ⟨b', i', z, fun x => y ⟨x.1, x.2, ?_⟩⟩
      have := z.2.1
      rw [x.1] at this
      omega
    · rintro ⟨b', i', z, y⟩
      exact ⟨b', i', z, fun x => y ⟨x.1, x.2.1⟩⟩
  | succ m ih =>
    intro i T hj hi hT
    exact ih (i + 1) _ (by omega) (by omega) (cn_giveBack N H hb (by omega) hj hT)
theorem cn_Iv_cut (N : cn_Net cc fr tt st en ra de) (H : cn_Iv cc bc fr tt st en ra so sz s) {b j : Nat} (hb : b < bc) (hj : j ≤ s.1 b) : cn_Iv cc bc fr tt st en ra so sz (cn_cutS ra sz b j s) := by
  obtain ⟨H1, H2, H3, H4, H5, H6⟩ := H
  refine ⟨cn_cut H1 hj ?_, cn_Hx_cut H2 hj, cn_Hx_cut H3 hj, cn_Hy_cut H4 hj, cn_Hy_cut H5 hj, ?_⟩
  · apply cn_gbAll N H1 hb _ _ _ (Nat.le_refl _) (by omega)
    refine cn_Ti_x H1.2.2 ?_
    intro k t _ _
    constructor
    · rintro ⟨b', i', z⟩
      exact ⟨b', i', z, fun x => by omega⟩
    · rintro ⟨b', i', z, _⟩
      exact ⟨b', i', z⟩
  · intro a ha
    show cn_up s.1 b j a ≤ 60
    have := H6 a ha
    by_cases e : a = b
    · rw [e, cn_up_s]; rw [e] at this; omega
    · rw [cn_up_n e]; exact this
theorem cn_Iv_more (H : cn_Iv cc bc fr tt st en ra so sz s) (f t a e r : Nat) : cn_Iv (cc + 1) bc (cn_up fr cc f) (cn_up tt cc t) (cn_up st cc a) (cn_up en cc e) (cn_up ra cc r) so sz s :=
  ⟨cn_more H.1 f t a e r, H.2⟩
theorem cn_Iv_bundle (H : cn_Iv cc bc fr tt st en ra so sz s) (h0 : s.1 bc = 0) (x z : Nat) : cn_Iv cc (bc + 1) fr tt st en ra (cn_up so bc x) (cn_up sz bc z) s :=
  ⟨cn_bundle H.1 h0 x z, H.2⟩
theorem cn_Bn_book (h : cn_Bn bc nc tt so ta sz s.1 s.2.1 R) {s' : cn_St} {b : Nat} (hR : R b = 0) (hb : b < bc) {l : List (Nat × Nat)} (h1 : l ≠ []) (h2 : l.length ≤ 5) (hF : cn_Fm b s s') (h3 : s'.1 b = s.1 b + l.length)
    (h4 : ∀ j, j < l.length → s'.2.1 b (s.1 b + j) = (l.getD j (0, 0)).1) (h5 : ∀ i, i + 1 < l.length → tt (l.getD i (0, 0)).1 ≠ ta b) : cn_Bn bc nc tt so ta sz s'.1 s'.2.1 (upd R b 1) := by
  have hp := List.length_pos_iff.mpr h1
  intro a ha
  obtain ⟨g1, g2, g3, g4, g5, g6, g7, g8⟩ := h a ha
  by_cases e : a = b
  · rw [e] at g1 g2 g3 g4 g5 g6 g7 g8 ⊢
    obtain ⟨q1, q2⟩ := g6 hR
    rw [pk_us, h3]
    refine ⟨g1, g2, g3, g4, Or.inr rfl, fun z => absurd z (by decide), fun _ => ⟨by omega, by omega⟩, ?_⟩
    intro i hi
    by_cases c : i ≤ s.1 b
    · rw [cn_nd_fm hF (Or.inr c)]
      by_cases c2 : i = s.1 b
      · rw [c2]; exact q2
      · exact g8 i (by omega)
    · obtain ⟨j, rfl⟩ : ∃ j, i = s.1 b + j + 1 := ⟨i - s.1 b - 1, by omega⟩
      show tt (s'.2.1 b (s.1 b + j)) ≠ ta b
      rw [h4 j (by omega)]
      exact h5 j (by omega)
  · rw [pk_un e, (hF.1 a e).1, cn_nd_fm hF (Or.inl e)]
    refine ⟨g1, g2, g3, g4, g5, g6, g7, ?_⟩
    intro i hi
    rw [cn_nd_fm hF (Or.inl e)]
    exact g8 i hi
theorem cn_Bn_cut (h : cn_Bn bc nc tt so ta sz s.1 s.2.1 R) {b j : Nat} (hj : j < s.1 b) (hle : s.1 b ≤ 5 * nc) : cn_Bn bc nc tt so ta sz (cn_up s.1 b j) s.2.1 (upd R b 0) := by
  intro a ha
  obtain ⟨g1, g2, g3, g4, g5, g6, g7, g8⟩ := h a ha
  by_cases e : a = b
  · rw [e] at g1 g2 g3 g4 g5 g6 g7 g8 ⊢
    rw [pk_us, cn_up_s]
    exact ⟨g1, g2, g3, g4, Or.inl rfl, fun _ => ⟨by omega, g8 j hj⟩, fun z => absurd z (by decide), fun i hi => g8 i (by omega)⟩
  · rw [pk_un e, cn_up_n e]
    exact ⟨g1, g2, g3, g4, g5, g6, g7, g8⟩
theorem cn_Bn_nc (h : cn_Bn bc nc tt so ta sz s.1 s.2.1 R) : cn_Bn bc (nc + 1) tt so ta sz s.1 s.2.1 R := by
  intro a ha
  obtain ⟨g1, g2, g3, g4, g5, g6, g7, g8⟩ := h a ha
  exact ⟨g1, g2, g3, g4, g5, fun z => ⟨by have := (g6 z).1; omega, (g6 z).2⟩, fun z => ⟨by have := (g7 z).1; omega, (g7 z).2⟩, g8⟩
theorem cn_Bn_le (h : cn_Bn bc nc tt so ta sz s.1 s.2.1 R) {b : Nat} (hb : b < bc) : s.1 b ≤ 5 * nc + 5 := by
  obtain ⟨g1, g2, g3, g4, g5, g6, g7, g8⟩ := h b hb
  rcases g5 with z | z
  · have := (g6 z).1; omega
  · exact (g7 z).1
theorem cn_Bn_more (h : cn_Bn bc nc tt so ta sz s.1 s.2.1 R) (H : cn_Iv cc bc fr tt st en ra so sz s) (t : Nat) : cn_Bn bc nc (cn_up tt cc t) so ta sz s.1 s.2.1 R := by
  intro a ha
  obtain ⟨g1, g2, g3, g4, g5, g6, g7, g8⟩ := h a ha
  have e : ∀ i, i ≤ s.1 a → cn_nd so (cn_up tt cc t) s.2.1 a i = cn_nd so tt s.2.1 a i := by
    intro i hi
    cases i with
    | zero => rfl
    | succ i =>
      have := (H.1.1 a i ha (by omega)).1
      show cn_up tt cc t (s.2.1 a i) = tt (s.2.1 a i)
      exact cn_up_n (by omega)
  rw [e _ (Nat.le_refl _)]
  refine ⟨g1, g2, g3, g4, g5, g6, g7, ?_⟩
  intro i hi
  rw [e i (by omega)]
  exact g8 i hi
theorem cn_Bn_bundle (h : cn_Bn bc nc tt so ta sz s.1 s.2.1 R) (h0 : s.1 bc = 0) (hR : R bc = 0) {x g z : Nat} (h1 : x < 6) (h2 : g < 6) (h3 : x ≠ g) (h4 : 1 ≤ z) (h5 : z ≤ 30) : cn_Bn (bc + 1) nc tt (cn_up so bc x) (cn_up ta bc g) (cn_up sz bc z) s.1 s.2.1 R := by
  intro a ha
  by_cases e : a = bc
  · rw [e, cn_up_s, cn_up_s, cn_up_s, h0]
    refine ⟨h1, h2, h4, h5, Or.inl hR, fun _ => ⟨by omega, ?_⟩, fun q => ?_, fun i hi => by omega⟩
    · show cn_up so bc x bc ≠ g
      rw [cn_up_s]; exact h3
    · rw [hR] at q; exact absurd q (by decide)
  · obtain ⟨g1, g2, g3, g4, g5, g6, g7, g8⟩ := h a (by omega)
    have ee : ∀ i, cn_nd (cn_up so bc x) tt s.2.1 a i = cn_nd so tt s.2.1 a i := by
      intro i
      cases i with
      | zero => exact cn_up_n e
      | succ i => rfl
    rw [cn_up_n e, cn_up_n e, cn_up_n e, ee]
    refine ⟨g1, g2, g3, g4, g5, g6, g7, ?_⟩
    intro i hi
    rw [ee]
    exact g8 i hi
end
end
section
theorem cx_100 : (100 : Int32) = nI 100 := rfl
theorem cx_64 : (64 : Int32) = nI 64 := rfl
theorem cx_i1 : (1 : Int32) = nI 1 := rfl
theorem cx_ix (b i : Nat) : nI b * 100 + nI i = nI (b * 100 + i) := by rw [cx_100, pk_mul, nI_add]
theorem cy_ix (b i : Nat) : 64 * nI b + nI i = nI (64 * b + i) := by rw [cx_64, pk_mul, nI_add]
theorem cy_i0 (b : Nat) : 64 * nI b = nI (64 * b) := by rw [cx_64, pk_mul]
theorem cx_m1 {n : Nat} (h : 0 < n) : nI n - 1 = nI (n - 1) := by rw [cx_i1, pk_sub h]
theorem cx_tkE {ra : Nat → Nat} {k s : Nat} (h1 : 1 ≤ ra k) (h2 : ra k ≤ 9) (h3 : s ≤ 30) : (nI s + nI (ra k) - 1) / nI (ra k) = nI (cn_tk ra k s) := by
  rw [nI_add, cx_m1 (by omega), pk_div (by omega) (by omega) (by omega)]
  rfl
theorem cx_b0 : vp_nar .boolean 0 = 0 := by decide
theorem cx_b1 : vp_nar .boolean 1 = 1 := by decide
section
variable {now cc bc : Nat} {bl ba be bA : Int32} {fr tt st en ra de so ta sz hc : Nat → Nat} {oc ob : Nat → Nat → Nat} {CA TA li RT HI HX HB wn wr wx wc wb bC bB SK HY HZ tr tb no ti ne bO bE : Nat → Int32}
theorem cx_ticks {post : Int32 → Prop} {k z : Nat} (hk : k < 10) (h1 : 1 ≤ ra k) (h2 : ra k ≤ 9) (h3 : z ≤ 30) (h : post (nI (cn_tk ra k z))) : wpX_ticksOver post ((nI now), (nI cc), (nI bc), bl, ba, (cn_n fr), (cn_n tt), (cn_n st), (cn_n en), (cn_n ra), (cn_n de), CA, TA, (cn_n so), (cn_n ta), (cn_n sz), li, RT, HI, (cn_n hc), HX, HB, wn, wr, wx, wc, wb, bC, bB) (nI k) (nI z) := by
  have hi : vp_in (nI k) 10 := vp_in_nI hk (by omega)
  have hc : (nI k).toNatClampNeg = k := nI_clamp (by omega)
  unfold wpX_ticksOver
  dsimp only
  rw [hc]
  refine ⟨hi, hi, nI_ne0 h1 (by omega), ?_⟩
  show post ((nI z + nI (ra k) - 1) / nI (ra k))
  rw [cx_tkE h1 h2 h3]; exact h
theorem cy_ticks {post : Int32 → Prop} {k z : Nat} (hk : k < 10) (h1 : 1 ≤ ra k) (h2 : ra k ≤ 9) (h3 : z ≤ 30) (h : post (nI (cn_tk ra k z))) : wpY_ticks post ((nI now), (nI cc), (nI bc), be, bA, (cn_n fr), (cn_n tt), (cn_n st), (cn_n en), (cn_n ra), (cn_n de), CA, (cn_n so), (cn_n ta), (cn_n sz), li, SK, (cn_n hc), HY, HZ, tr, tb, no, ti, ne, bO, bE) (nI k) (nI z) := by
  have hi : vp_in (nI k) 10 := vp_in_nI hk (by omega)
  have hc : (nI k).toNatClampNeg = k := nI_clamp (by omega)
  unfold wpY_ticks
  dsimp only
  rw [hc]
  have hp : (1 : Int32) ≤ cn_n ra k := by
    show nI 1 ≤ nI (ra k)
    exact nI_le h1 (by omega)
  refine ⟨hi, br_t hp ⟨hi, nI_ne0 h1 (by omega), ?_⟩⟩
  show post ((nI z + nI (ra k) - 1) / nI (ra k))
  rw [cx_tkE h1 h2 h3]; exact h
theorem cy_comes {post : Int32 → Prop} {k z t : Nat} (hk : k < 10) (h1 : 1 ≤ ra k) (h2 : ra k ≤ 9) (h3 : z ≤ 30) (h : post (nI (t + cn_tk ra k z + de k))) : wpY_comesIn post ((nI now), (nI cc), (nI bc), be, bA, (cn_n fr), (cn_n tt), (cn_n st), (cn_n en), (cn_n ra), (cn_n de), CA, (cn_n so), (cn_n ta), (cn_n sz), li, SK, (cn_n hc), HY, HZ, tr, tb, no, ti, ne, bO, bE) (nI k) (nI z) (nI t) := by
  have hi : vp_in (nI k) 10 := vp_in_nI hk (by omega)
  have hc : (nI k).toNatClampNeg = k := nI_clamp (by omega)
  unfold wpY_comesIn
  dsimp only
  apply cy_ticks hk h1 h2 h3
  refine ⟨hi, ?_⟩
  rw [hc]
  show post (nI t + nI (cn_tk ra k z) + nI (de k))
  rw [nI_add, nI_add]; exact h
theorem cx_comes {post : Int32 → Prop} {b i k t : Nat} (hb : b < 10) (hi : i < 100) (eX : HX (b * 100 + i) = nI k) (eB : HB (b * 100 + i) = nI t) (hk : k < 10) (h1 : 1 ≤ ra k) (h2 : ra k ≤ 9) (h3 : sz b ≤ 30) (h : post (nI (t + cn_tk ra k (sz b) + de k))) : wpX_comesIn post ((nI now), (nI cc), (nI bc), bl, ba, (cn_n fr), (cn_n tt), (cn_n st), (cn_n en), (cn_n ra), (cn_n de), CA, TA, (cn_n so), (cn_n ta), (cn_n sz), li, RT, HI, (cn_n hc), HX, HB, wn, wr, wx, wc, wb, bC, bB) (nI b) (nI i) := by
  have hj : vp_in (nI (b * 100 + i)) 1000 := vp_in_nI (by omega) (by omega)
  have hbi : vp_in (nI b) 10 := vp_in_nI hb (by omega)
  have hki : vp_in (nI k) 10 := vp_in_nI hk (by omega)
  have cj : (nI (b * 100 + i)).toNatClampNeg = b * 100 + i := nI_clamp (by omega)
  have cb : (nI b).toNatClampNeg = b := nI_clamp (by omega)
  have ck : (nI k).toNatClampNeg = k := nI_clamp (by omega)
  unfold wpX_comesIn
  dsimp only
  refine nm_r (cx_ix b i) ⟨hj, nm_r (e' := nI k) (by rw [cj]; exact eX) ⟨hj, hbi, ?_⟩⟩
  rw [cb]
  apply cx_ticks hk h1 h2 h3
  refine ⟨hki, ?_⟩
  rw [cj, ck, eB]
  show post (nI t + nI (cn_tk ra k (sz b)) + nI (de k))
  rw [nI_add, nI_add]; exact h
end
end
section
section
variable {now cc bc : Nat} {bl ba : Int32} {fr tt st en ra de so ta sz hc : Nat → Nat} {CA TA li RT HI HX HB wn wr wx wc wb bC bB : Nat → Int32}
theorem cx_ld_t {post : Int32 → Prop} {k d : Nat} (hk : k < 10) (hd : d < 5) (h : post 1) : ∀ (m i : Nat), i + m = d → (∀ j, i ≤ j → j < d → wn j ≠ nI (tt k)) → wX_leadsOn_28 post (nI k) (nI d) (nI now) (nI cc) (nI bc) bl ba (cn_n fr) (cn_n tt) (cn_n st) (cn_n en) (cn_n ra) (cn_n de) CA TA (cn_n so) (cn_n ta) (cn_n sz) li RT HI (cn_n hc) HX HB wn wr wx wc wb bC bB (m + 1) (nI i) := by
  intro m
  induction m with
  | zero =>
    intro i hi _
    exact br_t (nI_le (by omega) (by omega)) h
  | succ m ih =>
    intro i hi hw
    have ci : (nI i).toNatClampNeg = i := nI_clamp (by omega)
    have ck : (nI k).toNatClampNeg = k := nI_clamp (by omega)
    refine br_f (nI_ge (by omega) (by omega)) ⟨vp_in_nI (by omega) (by omega), vp_in_nI hk (by omega), br_f ?_ (nm_r (nI_1 i) (ih (i + 1) (by omega) (fun j h1 h2 => hw j (by omega) h2)))⟩
    rw [ci, ck]
    exact hw i (by omega) (by omega)
theorem cx_ld_f {post : Int32 → Prop} {k d : Nat} (hk : k < 10) (hd : d < 5) (h : post 0) : ∀ (m i : Nat), i + m = d → (∃ j, i ≤ j ∧ j < d ∧ wn j = nI (tt k)) → wX_leadsOn_28 post (nI k) (nI d) (nI now) (nI cc) (nI bc) bl ba (cn_n fr) (cn_n tt) (cn_n st) (cn_n en) (cn_n ra) (cn_n de) CA TA (cn_n so) (cn_n ta) (cn_n sz) li RT HI (cn_n hc) HX HB wn wr wx wc wb bC bB (m + 1) (nI i) := by
  intro m
  induction m with
  | zero =>
    rintro i hi ⟨j, h1, h2, _⟩
    omega
  | succ m ih =>
    rintro i hi ⟨j, h1, h2, h3⟩
    have ci : (nI i).toNatClampNeg = i := nI_clamp (by omega)
    have ck : (nI k).toNatClampNeg = k := nI_clamp (by omega)
    by_cases e : wn i = nI (tt k)
    · refine br_f (nI_ge (by omega) (by omega)) ⟨vp_in_nI (by omega) (by omega), vp_in_nI hk (by omega), br_t ?_ h⟩
      rw [ci, ck]; exact e
    · have hne : j ≠ i := fun z => e (z ▸ h3)
      refine br_f (nI_ge (by omega) (by omega)) ⟨vp_in_nI (by omega) (by omega), vp_in_nI hk (by omega), br_f ?_ (nm_r (nI_1 i) (ih (i + 1) (by omega) ⟨j, by omega, h2, h3⟩))⟩
      rw [ci, ck]; exact e
theorem cx_leads_t {post : Int32 → Prop} {k d node : Nat} (hk : k < 10) (hd : d < 5) (hn : wn d = nI node) (h1 : fr k = node) (h2 : CA k = 0) (h3 : ∀ i, i < d → wn i ≠ nI (tt k)) (h : post 1) : wpX_leadsOn post ((nI now), (nI cc), (nI bc), bl, ba, (cn_n fr), (cn_n tt), (cn_n st), (cn_n en), (cn_n ra), (cn_n de), CA, TA, (cn_n so), (cn_n ta), (cn_n sz), li, RT, HI, (cn_n hc), HX, HB, wn, wr, wx, wc, wb, bC, bB) (nI k) (nI d) := by
  have ck : (nI k).toNatClampNeg = k := nI_clamp (by omega)
  have cd : (nI d).toNatClampNeg = d := nI_clamp (by omega)
  have hi : vp_in (nI k) 10 := vp_in_nI hk (by omega)
  refine ⟨hi, br_t (by rw [ck]; exact h2) ⟨hi, vp_in_nI hd (by omega), br_t ?_ ⟨d + 1, cx_ld_t hk hd h d 0 (by omega) (fun j _ h2 => h3 j h2)⟩⟩⟩
  rw [ck, cd, hn, ← h1]; rfl
theorem cx_leads_f {post : Int32 → Prop} {k d node : Nat} (hk : k < 10) (hd : d < 5) (hn : wn d = nI node) (hf : fr k < 6) (hn6 : node < 6) (hcn : ¬ (fr k = node ∧ CA k = 0 ∧ ∀ i, i < d → wn i ≠ nI (tt k))) (h : post 0) : wpX_leadsOn post ((nI now), (nI cc), (nI bc), bl, ba, (cn_n fr), (cn_n tt), (cn_n st), (cn_n en), (cn_n ra), (cn_n de), CA, TA, (cn_n so), (cn_n ta), (cn_n sz), li, RT, HI, (cn_n hc), HX, HB, wn, wr, wx, wc, wb, bC, bB) (nI k) (nI d) := by
  have ck : (nI k).toNatClampNeg = k := nI_clamp (by omega)
  have cd : (nI d).toNatClampNeg = d := nI_clamp (by omega)
  have hi : vp_in (nI k) 10 := vp_in_nI hk (by omega)
  by_cases h2 : CA k = 0
  · by_cases h1 : fr k = node
    · have h3 : ∃ j, 0 ≤ j ∧ j < d ∧ wn j = nI (tt k) := by
        apply Classical.byContradiction
        intro hno
        exact hcn ⟨h1, h2, fun i hi he => hno ⟨i, Nat.zero_le _, hi, he⟩⟩
      refine ⟨hi, br_t (by rw [ck]; exact h2) ⟨hi, vp_in_nI hd (by omega), br_t ?_ ⟨d + 1, cx_ld_f hk hd h d 0 (by omega) h3⟩⟩⟩
      rw [ck, cd, hn, ← h1]; rfl
    · refine ⟨hi, br_t (by rw [ck]; exact h2) ⟨hi, vp_in_nI hd (by omega), br_f ?_ h⟩⟩
      rw [ck, cd, hn]
      show ¬ nI (fr k) = nI node
      rw [nI_eq (by omega) (by omega)]; exact h1
  · exact ⟨hi, br_f (by rw [ck]; exact h2) h⟩
theorem cx_sub1 {a b : Nat} (h : b ≤ a + 1) (ha : a < 2 ^ 30) (hb : b < 2 ^ 30) : nI a - nI b + 1 = nI (a + 1 - b) := by
  apply Int32.toInt_inj.mp
  rw [nI_toInt (by omega), Int32.toInt_add, pk_sub_toInt ha hb]
  have e : (1 : Int32).toInt = 1 := by decide
  rw [e]
  rw [show ((a + 1 - b : Nat) : Int) = (a : Int) - b + 1 by omega]
  apply Int.bmod_eq_of_le <;> omega
/-- the scan, from a tick on -/
theorem cx_scan {post : Int32 → Prop} {k need lo : Nat} (hk : k < 10) (hen : en k ≤ 100) (hn : need ≤ 100)
    (h0 : cn_eb (cn_T TA k) lo (en k) need = none → post (-2)) (h1 : ∀ b, cn_eb (cn_T TA k) lo (en k) need = some b → post (nI b)) :
    ∀ (m tick free : Nat), tick + m = en k + 200000 → cn_Sc (cn_T TA k) lo need tick free → wX_leastBegin_25 post (nI k) (nI need) (nI now) (nI cc) (nI bc) bl ba (cn_n fr) (cn_n tt) (cn_n st) (cn_n en) (cn_n ra) (cn_n de) CA TA (cn_n so) (cn_n ta) (cn_n sz) li RT HI (cn_n hc) HX HB wn wr wx wc wb bC bB (m + 1) (nI free) (nI tick) := by
  have hi : vp_in (nI k) 10 := vp_in_nI hk (by omega)
  have ck : (nI k).toNatClampNeg = k := nI_clamp (by omega)
  intro m
  induction m with
  | zero =>
    intro tick free hm hS
    refine ⟨hi, br_t ?_ (h0 (cn_Sc_e hS (by omega)))⟩
    rw [ck]
    show nI (en k) ≤ nI tick
    exact nI_le (by omega) (by omega)
  | succ m ih =>
    intro tick free hm hS
    by_cases ht : en k ≤ tick
    · refine ⟨hi, br_t ?_ (h0 (cn_Sc_e hS ht))⟩
      rw [ck]
      show nI (en k) ≤ nI tick
      exact nI_le ht (by omega)
    · have cj : (nI (k * 100 + tick)).toNatClampNeg = k * 100 + tick := nI_clamp (by omega)
      have hne : ¬ cn_n en (nI k).toNatClampNeg ≤ nI tick := by
        rw [ck]
        show ¬ nI (en k) ≤ nI tick
        exact nI_ge (by omega) (by omega)
      refine ⟨hi, br_f hne ⟨by rw [cx_ix]; exact vp_in_nI (by omega) (by omega), ?_⟩⟩
      rw [cx_ix, cj]
      have hfree := hS.2.1
      by_cases hT : TA (k * 100 + tick) = 0
      · refine br_t hT ?_
        rw [nI_1]
        by_cases hd : free + 1 = need
        · have hb := cn_Sc_d (hi := en k) hS (cn_T_f hT) hd (by omega)
          refine br_t (by rw [hd]) ?_
          have := hS.1
          rw [cx_sub1 (by omega) (by omega) (by omega)]
          exact h1 _ hb
        · refine br_f (by rw [nI_eq (by omega) (by omega)]; exact hd) (nm_r (nI_1 tick) (ih (tick + 1) (free + 1) (by omega) (cn_Sc_f hS (cn_T_f hT) hd)))
      · refine br_f hT ?_
        refine br_f ?_ (nm_r (nI_1 tick) (ih (tick + 1) 0 (by omega) (cn_Sc_t hS (cn_T_t hT))))
        show ¬ nI 0 = nI need
        rw [nI_eq (by omega) (by omega)]; omega
theorem cx_least {post : Int32 → Prop} {k need time : Nat} (hk : k < 10) (hse : st k < en k) (hen : en k ≤ 100) (hn1 : 1 ≤ need) (hn : need ≤ 100) (ht : time ≤ 200000)
    (h0 : cn_eb (cn_T TA k) (cn_mx time (st k)) (en k) need = none → post (-2)) (h1 : ∀ b, cn_eb (cn_T TA k) (cn_mx time (st k)) (en k) need = some b → post (nI b)) {tm : Int32} (etm : tm = nI time) : wpX_leastBegin post ((nI now), (nI cc), (nI bc), bl, ba, (cn_n fr), (cn_n tt), (cn_n st), (cn_n en), (cn_n ra), (cn_n de), CA, TA, (cn_n so), (cn_n ta), (cn_n sz), li, RT, HI, (cn_n hc), HX, HB, wn, wr, wx, wc, wb, bC, bB) (nI k) (nI need) tm := by
  rw [etm]
  have hi : vp_in (nI k) 10 := vp_in_nI hk (by omega)
  have ck : (nI k).toNatClampNeg = k := nI_clamp (by omega)
  have hL := cn_mx_le (a := time) (b := st k) (n := en k + 200000) (by omega) (by omega)
  have H := cx_scan (now := now) (cc := cc) (bc := bc) (bl := bl) (ba := ba) (fr := fr) (tt := tt) (st := st) (ra := ra) (de := de) (so := so) (ta := ta) (sz := sz) (hc := hc) (CA := CA) (li := li) (RT := RT) (HI := HI) (HX := HX) (HB := HB) (wn := wn) (wr := wr) (wx := wx) (wc := wc) (wb := wb) (bC := bC) (bB := bB) hk hen hn h0 h1 (en k + 200000 - cn_mx time (st k)) (cn_mx time (st k)) 0 (by omega) (cn_Sc_0 hn1)
  by_cases h : time ≤ st k
  · have e : cn_mx time (st k) = st k := if_neg (by omega)
    rw [e] at H
    refine ⟨hi, br_t ?_ ⟨hi, nm_r (show cn_n st (nI k).toNatClampNeg = nI (st k) by rw [ck]; rfl) ⟨_, H⟩⟩⟩
    rw [ck]
    exact nI_le h (by omega)
  · have e : cn_mx time (st k) = time := if_pos (by omega)
    rw [e] at H
    refine ⟨hi, br_f ?_ ⟨_, H⟩⟩
    rw [ck]
    show ¬ nI time ≤ nI (st k)
    exact nI_ge (by omega) (by omega)
theorem cn_cp_0 (w b : cn_A) : cn_cp 0 w b = b := by
  funext j; unfold cn_cp; rw [if_neg (by omega)]
theorem cn_cp_s (i : Nat) (w b : cn_A) : upd (cn_cp i w b) i (w i) = cn_cp (i + 1) w b := by
  funext j
  unfold upd cn_cp
  by_cases h : j = i
  · rw [if_pos h, if_pos (by omega), h]
  · rw [if_neg h]
    by_cases h2 : j < i
    · rw [if_pos h2, if_pos (by omega)]
    · rw [if_neg h2, if_neg (by omega)]
theorem cx_kp {post : SX → Prop} {d : Nat} (hd : d ≤ 5) (h : post ((nI now), (nI cc), (nI bc), bl, ba, (cn_n fr), (cn_n tt), (cn_n st), (cn_n en), (cn_n ra), (cn_n de), CA, TA, (cn_n so), (cn_n ta), (cn_n sz), li, RT, HI, (cn_n hc), HX, HB, wn, wr, wx, wc, wb, (cn_cp d wc bC), (cn_cp d wb bB))) : ∀ (m i : Nat), i + m = d → wX_keepIfBetter_55 post (nI d) (nI now) (nI cc) (nI bc) bl ba (m + 1) (nI i) (cn_n fr) (cn_n tt) (cn_n st) (cn_n en) (cn_n ra) (cn_n de) CA TA (cn_n so) (cn_n ta) (cn_n sz) li RT HI (cn_n hc) HX HB wn wr wx wc wb (cn_cp i wc bC) (cn_cp i wb bB) := by
  intro m
  induction m with
  | zero =>
    intro i hi
    have e : i = d := by omega
    rw [e]
    exact br_t (nI_le (Nat.le_refl _) (by omega)) h
  | succ m ih =>
    intro i hi
    have ci : (nI i).toNatClampNeg = i := nI_clamp (by omega)
    have hv : vp_in (nI i) 5 := vp_in_nI (by omega) (by omega)
    exact br_f (nI_ge (by omega) (by omega)) ⟨hv, hv, nm_r (by rw [ci]; exact cn_cp_s i wc bC) ⟨hv, hv, nm_r (by rw [ci]; exact cn_cp_s i wb bB) (nm_r (nI_1 i) (ih (i + 1) (by omega)))⟩⟩
theorem cx_keep_t {post : SX → Prop} {d a : Nat} (hd : d ≤ 5) (hb : cn_bet bl ba d a) (h : post ((nI now), (nI cc), (nI bc), (nI d), (nI a), (cn_n fr), (cn_n tt), (cn_n st), (cn_n en), (cn_n ra), (cn_n de), CA, TA, (cn_n so), (cn_n ta), (cn_n sz), li, RT, HI, (cn_n hc), HX, HB, wn, wr, wx, wc, wb, (cn_cp d wc bC), (cn_cp d wb bB))) {p : Int32} (ep : p = nI d) : wpX_keepIfBetter post ((nI now), (nI cc), (nI bc), bl, ba, (cn_n fr), (cn_n tt), (cn_n st), (cn_n en), (cn_n ra), (cn_n de), CA, TA, (cn_n so), (cn_n ta), (cn_n sz), li, RT, HI, (cn_n hc), HX, HB, wn, wr, wx, wc, wb, bC, bB) p (nI a) := by
  rw [ep]
  have K : wX_keepIfBetter_36 post (nI d) (nI a) 1 (nI now) (nI cc) (nI bc) bl ba (cn_n fr) (cn_n tt) (cn_n st) (cn_n en) (cn_n ra) (cn_n de) CA TA (cn_n so) (cn_n ta) (cn_n sz) li RT HI (cn_n hc) HX HB wn wr wx wc wb bC bB := by
    have H := cx_kp hd h d 0 (by omega)
    rw [cn_cp_0, cn_cp_0] at H
    exact br_f (by decide) ⟨d + 1, H⟩
  by_cases h1 : bl = 0
  · exact br_t h1 K
  · by_cases h2 : nI a < ba
    · exact br_f h1 (br_t h2 K)
    · rcases hb with z | z | ⟨z1, z2⟩
      · exact absurd z h1
      · exact absurd z h2
      · exact br_f h1 (br_f h2 (br_t z1 (br_f (Int32.not_le.mpr z2) K)))
theorem cx_keep_f {post : SX → Prop} {d a : Nat} (hb : ¬ cn_bet bl ba d a) (h : post ((nI now), (nI cc), (nI bc), bl, ba, (cn_n fr), (cn_n tt), (cn_n st), (cn_n en), (cn_n ra), (cn_n de), CA, TA, (cn_n so), (cn_n ta), (cn_n sz), li, RT, HI, (cn_n hc), HX, HB, wn, wr, wx, wc, wb, bC, bB)) {p : Int32} (ep : p = nI d) : wpX_keepIfBetter post ((nI now), (nI cc), (nI bc), bl, ba, (cn_n fr), (cn_n tt), (cn_n st), (cn_n en), (cn_n ra), (cn_n de), CA, TA, (cn_n so), (cn_n ta), (cn_n sz), li, RT, HI, (cn_n hc), HX, HB, wn, wr, wx, wc, wb, bC, bB) p (nI a) := by
  rw [ep]
  have K : wX_keepIfBetter_36 post (nI d) (nI a) 0 (nI now) (nI cc) (nI bc) bl ba (cn_n fr) (cn_n tt) (cn_n st) (cn_n en) (cn_n ra) (cn_n de) CA TA (cn_n so) (cn_n ta) (cn_n sz) li RT HI (cn_n hc) HX HB wn wr wx wc wb bC bB := br_t rfl h
  have h1 : ¬ bl = 0 := fun z => hb (Or.inl z)
  have h2 : ¬ nI a < ba := fun z => hb (Or.inr (Or.inl z))
  by_cases h3 : nI a = ba
  · have h4 : bl ≤ nI d := Int32.not_lt.mp fun z => hb (Or.inr (Or.inr ⟨h3, z⟩))
    exact br_f h1 (br_f h2 (br_t h3 (br_t h4 K)))
  · exact br_f h1 (br_f h2 (br_f h3 K))
end
section
variable (now cc bc : Nat) (fr tt st en ra de so ta sz hc : Nat → Nat) (CA TA li RT HI HX HB : Nat → Int32) (goal z : Nat)
def cx_G (q : SX → Prop) (dep : Int32) (step : Nat) (wn wr wx wc wb : cn_A) (bl ba : Int32) (bC bB : cn_A) : Prop :=
  ∃ n, wX_findBest_38 q (nI goal) (nI z) n dep (nI step) (nI now) (nI cc) (nI bc) bl ba (cn_n fr) (cn_n tt) (cn_n st) (cn_n en) (cn_n ra) (cn_n de) CA TA (cn_n so) (cn_n ta) (cn_n sz) li RT HI (cn_n hc) HX HB wn wr wx wc wb bC bB
end
def cn_ok (CA : Nat → Int32) (k : Nat) : Bool := decide (CA k = 0)
theorem cn_ok_t {CA : Nat → Int32} {k : Nat} : cn_ok CA k = true ↔ CA k = 0 := decide_eq_true_iff
theorem cx_ne2 {b : Nat} (h : b < 2 ^ 31) : ¬ nI b = -2 := by
  intro e
  have e2 := congrArg Int32.toInt e
  rw [nI_toInt h] at e2
  have e3 : (-2 : Int32).toInt = -2 := by decide
  omega
section
variable {now cc bc : Nat} {fr tt st en ra de so ta sz hc : Nat → Nat} {CA TA li RT HI HX HB : Nat → Int32} {goal z : Nat}
theorem cx_rules (N : cn_Net cc fr tt st en ra de) (hz1 : 1 ≤ z) (hz2 : z ≤ 30) (hg6 : goal < 6) :
    cn_XG cc fr tt (cn_ok CA) (cn_E (cn_T TA) st en (fun k => cn_tk ra k z)) (fun k => cn_tk ra k z + de k) goal (cx_G now cc bc fr tt st en ra de so ta sz hc CA TA li RT HI HX HB goal z) := by
  obtain ⟨N1, N2⟩ := N
  refine ⟨?_, ?_, ?_, ?_, ?_, ?_, ?_⟩
  · rintro q d k step wn wr wx wc wb bl ba bC bB hd hs hx hk ⟨n, g⟩
    have cd : (nI d).toNatClampNeg = d := nI_clamp (by omega)
    exact ⟨n + 1, br_f (nI_ge (b := 1000000) hs (by decide)) (br_f (nI_pos (by omega)) ⟨vp_in_nI hd (by omega), nm_r (by rw [cd]; exact hx) (br_f (nI_nlt (by omega) (by omega)) (nm_e (nm_r (nI_1 step) g)))⟩)⟩
  · rintro q d k step node wn wr wx wc wb bl ba bC bB hd hs hx hk hn hn6 hno ⟨n, g⟩
    obtain ⟨n1, n2, n3, n4, n5, n6, n7, n8⟩ := N2 k hk
    have cd : (nI d).toNatClampNeg = d := nI_clamp (by omega)
    have hv : vp_in (nI d) 5 := vp_in_nI hd (by omega)
    have hno2 : ¬ (fr k = node ∧ CA k = 0 ∧ ∀ i, i < d → wn i ≠ nI (tt k)) := fun y => hno ⟨y.1, cn_ok_t.mpr y.2.1, y.2.2⟩
    exact ⟨n + 1, br_f (nI_ge (b := 1000000) hs (by decide)) (br_f (nI_pos (by omega)) ⟨hv, nm_r (by rw [cd]; exact hx) (br_t (nI_lt hk (by omega)) ⟨hv, nm_r (by rw [cd, nI_1])
      (cx_leads_f (by omega) hd hn n1 hn6 hno2 (br_t rfl (nm_r (nI_1 step) g)))⟩)⟩)⟩
  · rintro q d k step node time wn wr wx wc wb bl ba bC bB hd hs hx hk hn hn6 hr ht hl hE ⟨n, g⟩
    obtain ⟨n1, n2, n3, n4, n5, n6, n7, n8⟩ := N2 k hk
    have cd : (nI d).toNatClampNeg = d := nI_clamp (by omega)
    have hv : vp_in (nI d) 5 := vp_in_nI hd (by omega)
    have hp := cn_tk_pos (ra := ra) (k := k) (s := z) n6 hz1
    have hp2 := cn_tk_le (ra := ra) (k := k) (s := z) n7 hz2
    exact ⟨n + 1, br_f (nI_ge (b := 1000000) hs (by decide)) (br_f (nI_pos (by omega)) ⟨hv, nm_r (by rw [cd]; exact hx) (br_t (nI_lt hk (by omega)) ⟨hv, nm_r (by rw [cd, nI_1])
      (cx_leads_t (by omega) hd hn hl.1 (cn_ok_t.mp hl.2.1) hl.2.2 (br_f (by decide) (cx_ticks (by omega) n6 n7 hz2 ⟨hv,
        cx_least (by omega) n4 n5 hp (by omega) ht (fun _ => br_t rfl (nm_r (nI_1 step) g)) (fun b hb => absurd (hE.symm.trans hb) (by simp)) (by rw [cd]; exact hr)⟩)))⟩)⟩)⟩
  · rintro q d k step node time b wn wr wx wc wb bl ba bC bB hd hs hx hk hn hn6 hr ht hl hE hg hb ⟨n, g⟩
    obtain ⟨n1, n2, n3, n4, n5, n6, n7, n8⟩ := N2 k hk
    have cd : (nI d).toNatClampNeg = d := nI_clamp (by omega)
    have ck : (nI k).toNatClampNeg = k := nI_clamp (by omega)
    have hv : vp_in (nI d) 5 := vp_in_nI hd (by omega)
    have hvk : vp_in (nI k) 10 := vp_in_nI (by omega) (by omega)
    have hp := cn_tk_pos (ra := ra) (k := k) (s := z) n6 hz1
    have hp2 := cn_tk_le (ra := ra) (k := k) (s := z) n7 hz2
    have hb100 := (cn_eb_some.mp hE).2.1
    refine ⟨n + 1, br_f (nI_ge (b := 1000000) hs (by decide)) (br_f (nI_pos (by omega)) ⟨hv, nm_r (by rw [cd]; exact hx) (br_t (nI_lt hk (by omega)) ⟨hv, nm_r (by rw [cd, nI_1])
      (cx_leads_t (by omega) hd hn hl.1 (cn_ok_t.mp hl.2.1) hl.2.2 (br_f (by decide) (cx_ticks (by omega) n6 n7 hz2 ⟨hv,
        cx_least (by omega) n4 n5 hp (by omega) ht (fun h => absurd (h.symm.trans hE) (by simp)) (fun b' hb' => ?_) (by rw [cd]; exact hr)⟩)))⟩)⟩)⟩
    have eb : b' = b := Option.some.inj (hb'.symm.trans hE)
    rw [eb]
    refine br_f (cx_ne2 (by omega)) ⟨hv, nm_r (by rw [cd]) ⟨hv, nm_r (by rw [cd]) ⟨hvk, nm_r (e' := nI (b + (cn_tk ra k z + de k))) (by rw [ck, cn_n_at, nI_add, nI_add, Nat.add_assoc]) ⟨hvk, br_t (by rw [ck, cn_n_at, hg]) (cx_keep_t (d := d + 1) (by omega) hb (nm_r (nI_1 step) g) (nI_1 d))⟩⟩⟩⟩
  · rintro q d k step node time b wn wr wx wc wb bl ba bC bB hd hs hx hk hn hn6 hr ht hl hE hg hb ⟨n, g⟩
    obtain ⟨n1, n2, n3, n4, n5, n6, n7, n8⟩ := N2 k hk
    have cd : (nI d).toNatClampNeg = d := nI_clamp (by omega)
    have ck : (nI k).toNatClampNeg = k := nI_clamp (by omega)
    have hv : vp_in (nI d) 5 := vp_in_nI hd (by omega)
    have hvk : vp_in (nI k) 10 := vp_in_nI (by omega) (by omega)
    have hp := cn_tk_pos (ra := ra) (k := k) (s := z) n6 hz1
    have hp2 := cn_tk_le (ra := ra) (k := k) (s := z) n7 hz2
    have hb100 := (cn_eb_some.mp hE).2.1
    refine ⟨n + 1, br_f (nI_ge (b := 1000000) hs (by decide)) (br_f (nI_pos (by omega)) ⟨hv, nm_r (by rw [cd]; exact hx) (br_t (nI_lt hk (by omega)) ⟨hv, nm_r (by rw [cd, nI_1])
      (cx_leads_t (by omega) hd hn hl.1 (cn_ok_t.mp hl.2.1) hl.2.2 (br_f (by decide) (cx_ticks (by omega) n6 n7 hz2 ⟨hv,
        cx_least (by omega) n4 n5 hp (by omega) ht (fun h => absurd (h.symm.trans hE) (by simp)) (fun b' hb' => ?_) (by rw [cd]; exact hr)⟩)))⟩)⟩)⟩
    have eb : b' = b := Option.some.inj (hb'.symm.trans hE)
    rw [eb]
    refine br_f (cx_ne2 (by omega)) ⟨hv, nm_r (by rw [cd]) ⟨hv, nm_r (by rw [cd]) ⟨hvk, nm_r (e' := nI (b + (cn_tk ra k z + de k))) (by rw [ck, cn_n_at, nI_add, nI_add, Nat.add_assoc]) ⟨hvk, br_t (by rw [ck, cn_n_at, hg]) (cx_keep_f (d := d + 1) hb (nm_r (nI_1 step) g) (nI_1 d))⟩⟩⟩⟩
  · rintro q d k step node time b wn wr wx wc wb bl ba bC bB hd hs hx hk hn hn6 hr ht hl hE hg ⟨n, g⟩
    obtain ⟨n1, n2, n3, n4, n5, n6, n7, n8⟩ := N2 k hk
    have cd : (nI d).toNatClampNeg = d := nI_clamp (by omega)
    have cd1 : (nI (d + 1)).toNatClampNeg = d + 1 := nI_clamp (by omega)
    have ck : (nI k).toNatClampNeg = k := nI_clamp (by omega)
    have hv : vp_in (nI d) 5 := vp_in_nI (by omega) (by omega)
    have hv1 : vp_in (nI (d + 1)) 5 := vp_in_nI (by omega) (by omega)
    have hvk : vp_in (nI k) 10 := vp_in_nI (by omega) (by omega)
    have hp := cn_tk_pos (ra := ra) (k := k) (s := z) n6 hz1
    have hp2 := cn_tk_le (ra := ra) (k := k) (s := z) n7 hz2
    have hb100 := (cn_eb_some.mp hE).2.1
    refine ⟨n + 1, br_f (nI_ge (b := 1000000) hs (by decide)) (br_f (nI_pos (by omega)) ⟨hv, nm_r (by rw [cd]; exact hx) (br_t (nI_lt hk (by omega)) ⟨hv, nm_r (by rw [cd, nI_1])
      (cx_leads_t (by omega) (by omega) hn hl.1 (cn_ok_t.mp hl.2.1) hl.2.2 (br_f (by decide) (cx_ticks (by omega) n6 n7 hz2 ⟨hv,
        cx_least (by omega) n4 n5 hp (by omega) ht (fun h => absurd (h.symm.trans hE) (by simp)) (fun b' hb' => ?_) (by rw [cd]; exact hr)⟩)))⟩)⟩)⟩
    have eb : b' = b := Option.some.inj (hb'.symm.trans hE)
    rw [eb]
    have hne : ¬ cn_n tt (nI k).toNatClampNeg = nI goal := by
      rw [ck, cn_n_at, nI_eq (by omega) (by omega)]; exact hg
    have h5 : ¬ (5 : Int32) ≤ nI d + 1 := by
      rw [nI_1]; exact nI_ge (b := 5) (by omega) (by decide)
    refine br_f (cx_ne2 (by omega)) ⟨hv, nm_r (by rw [cd]) ⟨hv, nm_r (by rw [cd]) ⟨hvk, nm_r (e' := nI (b + (cn_tk ra k z + de k))) (by rw [ck, cn_n_at, nI_add, nI_add, Nat.add_assoc]) ⟨hvk, br_f hne (br_f h5 (nm_r (nI_1 d)
      ⟨hvk, hv1, nm_r (by rw [cd1, ck, cn_n_at]) ⟨hv1, nm_r (by rw [cd1]) ⟨hv1, nm_r (by rw [cd1]) (nm_r (nI_1 step) g)⟩⟩⟩))⟩⟩⟩⟩
  · rintro q d k step node time b wn wr wx wc wb bl ba bC bB hd hs hx hk hn hn6 hr ht hl hE hg ⟨n, g⟩
    obtain ⟨n1, n2, n3, n4, n5, n6, n7, n8⟩ := N2 k hk
    have cd : (nI d).toNatClampNeg = d := nI_clamp (by omega)
    have ck : (nI k).toNatClampNeg = k := nI_clamp (by omega)
    have hv : vp_in (nI d) 5 := vp_in_nI (by omega) (by omega)
    have hvk : vp_in (nI k) 10 := vp_in_nI (by omega) (by omega)
    have hp := cn_tk_pos (ra := ra) (k := k) (s := z) n6 hz1
    have hp2 := cn_tk_le (ra := ra) (k := k) (s := z) n7 hz2
    have hb100 := (cn_eb_some.mp hE).2.1
    refine ⟨n + 1, br_f (nI_ge (b := 1000000) hs (by decide)) (br_f (nI_pos (by omega)) ⟨hv, nm_r (by rw [cd]; exact hx) (br_t (nI_lt hk (by omega)) ⟨hv, nm_r (by rw [cd, nI_1])
      (cx_leads_t (by omega) (by omega) hn hl.1 (cn_ok_t.mp hl.2.1) hl.2.2 (br_f (by decide) (cx_ticks (by omega) n6 n7 hz2 ⟨hv,
        cx_least (by omega) n4 n5 hp (by omega) ht (fun h => absurd (h.symm.trans hE) (by simp)) (fun b' hb' => ?_) (by rw [cd]; exact hr)⟩)))⟩)⟩)⟩
    have eb : b' = b := Option.some.inj (hb'.symm.trans hE)
    rw [eb]
    have hne : ¬ cn_n tt (nI k).toNatClampNeg = nI goal := by
      rw [ck, cn_n_at, nI_eq (by omega) (by omega)]; exact hg
    have h5 : (5 : Int32) ≤ nI d + 1 := by
      rw [nI_1]; exact nI_le (a := 5) (by omega) (by omega)
    refine br_f (cx_ne2 (by omega)) ⟨hv, nm_r (by rw [cd]) ⟨hv, nm_r (by rw [cd]) ⟨hvk, nm_r (e' := nI (b + (cn_tk ra k z + de k))) (by rw [ck, cn_n_at, nI_add, nI_add, Nat.add_assoc]) ⟨hvk, br_f hne (br_t h5 (nm_r (nI_1 step) g))⟩⟩⟩⟩
end
end
section
section
variable {now cc bc : Nat} {be bA : Int32} {fr tt st en ra de so ta sz hc : Nat → Nat} {oc ob : Nat → Nat → Nat} {CA TA li SK HX HB HY HZ tr tb no ti ne bO bE : Nat → Int32}
theorem cy_ticksE {post : Int32 → Prop} {k z : Nat} {p0 p1 : Int32} (e0 : p0 = nI k) (e1 : p1 = nI z) (hk : k < 10) (h1 : 1 ≤ ra k) (h2 : ra k ≤ 9) (h3 : z ≤ 30) (h : post (nI (cn_tk ra k z))) : wpY_ticks post ((nI now), (nI cc), (nI bc), be, bA, (cn_n fr), (cn_n tt), (cn_n st), (cn_n en), (cn_n ra), (cn_n de), CA, (cn_n so), (cn_n ta), (cn_n sz), li, SK, (cn_n hc), HY, HZ, tr, tb, no, ti, ne, bO, bE) p0 p1 := by
  rw [e0, e1]; exact cy_ticks hk h1 h2 h3 h
theorem cy_comesE {post : Int32 → Prop} {k z t : Nat} {p0 p1 p2 : Int32} (e0 : p0 = nI k) (e1 : p1 = nI z) (e2 : p2 = nI t) (hk : k < 10) (h1 : 1 ≤ ra k) (h2 : ra k ≤ 9) (h3 : z ≤ 30) (h : post (nI (t + cn_tk ra k z + de k))) : wpY_comesIn post ((nI now), (nI cc), (nI bc), be, bA, (cn_n fr), (cn_n tt), (cn_n st), (cn_n en), (cn_n ra), (cn_n de), CA, (cn_n so), (cn_n ta), (cn_n sz), li, SK, (cn_n hc), HY, HZ, tr, tb, no, ti, ne, bO, bE) p0 p1 p2 := by
  rw [e0, e1, e2]; exact cy_comes hk h1 h2 h3 h
/-- a booking meets the ticks from x to e of contact k -/
def cn_OV (ra sz : Nat → Nat) (oc ob : Nat → Nat → Nat) (k x e b i : Nat) : Prop := oc b i = k ∧ ob b i < e ∧ x < ob b i + cn_tk ra k (sz b)
theorem cy_fr19 {post : Int32 → Prop} {J3 : Int32 → Prop} {k x e b : Nat} (hb : b < 10) (hk : k < 10) (h1 : 1 ≤ ra k) (h2 : ra k ≤ 9) (h3 : sz b ≤ 30) (hx : x ≤ 200) (he : e ≤ 200) (hh : hc b ≤ 60)
    (hY : ∀ i, i < hc b → HY (64 * b + i) = nI (oc b i) ∧ HZ (64 * b + i) = nI (ob b i) ∧ oc b i < 10 ∧ ob b i ≤ 200)
    (hJ : (∀ i, i < hc b → ¬ cn_OV ra sz oc ob k x e b i) → J3 (nI (b + 1))) (h0 : ∀ i, i < hc b → cn_OV ra sz oc ob k x e b i → post 0) :
    ∀ (m i : Nat), i + m = hc b → (∀ j, j < i → ¬ cn_OV ra sz oc ob k x e b j) → wY_isFree_19 post J3 (nI k) (nI x) (nI e) (nI b) (nI now) (nI cc) (nI bc) be bA (cn_n fr) (cn_n tt) (cn_n st) (cn_n en) (cn_n ra) (cn_n de) CA (cn_n so) (cn_n ta) (cn_n sz) li SK (cn_n hc) HY HZ tr tb no ti ne bO bE (m + 1) (nI (64 * b + i)) := by
  have hvb : vp_in (nI b) 10 := vp_in_nI hb (by omega)
  have cb : (nI b).toNatClampNeg = b := nI_clamp (by omega)
  have hp2 := cn_tk_le (ra := ra) (k := k) (s := sz b) h2 h3
  intro m
  induction m with
  | zero =>
    intro i hi hno
    refine ⟨hvb, br_t ?_ (nm_r (nI_1 b) (hJ (fun j hj => hno j (by omega))))⟩
    rw [cb, cn_n_at, cy_ix]
    exact nI_le (by omega) (by omega)
  | succ m ih =>
    intro i hi hno
    obtain ⟨y1, y2, y3, y4⟩ := hY i (by omega)
    have hvi : vp_in (nI (64 * b + i)) 640 := vp_in_nI (by omega) (by omega)
    have ci : (nI (64 * b + i)).toNatClampNeg = 64 * b + i := nI_clamp (by omega)
    have hn : ¬ (64 * nI b + cn_n hc (nI b).toNatClampNeg ≤ nI (64 * b + i)) := by
      rw [cb, cn_n_at, cy_ix]
      exact nI_ge (by omega) (by omega)
    have next : ¬ cn_OV ra sz oc ob k x e b i → wY_isFree_19 post J3 (nI k) (nI x) (nI e) (nI b) (nI now) (nI cc) (nI bc) be bA (cn_n fr) (cn_n tt) (cn_n st) (cn_n en) (cn_n ra) (cn_n de) CA (cn_n so) (cn_n ta) (cn_n sz) li SK (cn_n hc) HY HZ tr tb no ti ne bO bE (m + 1) (nI (64 * b + i + 1)) := by
      intro hv
      apply ih (i + 1) (by omega)
      intro j hj
      by_cases ej : j = i
      · rw [ej]; exact hv
      · exact hno j (by omega)
    by_cases c1 : oc b i = k
    · have q1 : HY (nI (64 * b + i)).toNatClampNeg = nI k := by rw [ci, y1, c1]
      by_cases c2 : e ≤ ob b i
      · refine ⟨hvb, br_f hn ⟨hvi, br_t q1 ⟨hvi, br_t ?_ (nm_r (nI_1 _) (next (fun z => by have := z.2.1; omega)))⟩⟩⟩
        rw [ci, y2]; exact nI_le c2 (by omega)
      · refine ⟨hvb, br_f hn ⟨hvi, br_t q1 ⟨hvi, br_f (by rw [ci, y2]; exact nI_ge (by omega) (by omega)) ⟨hvi, hvb, cy_ticksE (z := sz b) rfl (by rw [cb]; rfl) hk h1 h2 h3 ?_⟩⟩⟩⟩
        rw [ci, y2, nI_add]
        by_cases c3 : ob b i + cn_tk ra k (sz b) ≤ x
        · exact br_t (nI_le c3 (by omega)) (nm_r (nI_1 _) (next (fun z => by have := z.2.2; omega)))
        · exact br_f (nI_ge (by omega) (by omega)) (h0 i (by omega) ⟨c1, by omega, by omega⟩)
    · refine ⟨hvb, br_f hn ⟨hvi, br_f ?_ (nm_r (nI_1 _) (next (fun z => c1 z.1)))⟩⟩
      rw [ci, y1, nI_eq (by omega) (by omega)]; exact c1
theorem cy_fr3 {post : Int32 → Prop} {k x e : Nat} (hbc : bc ≤ 10) (hk : k < 10) (h1 : 1 ≤ ra k) (h2 : ra k ≤ 9) (h3 : ∀ b, b < bc → sz b ≤ 30) (hx : x ≤ 200) (he : e ≤ 200) (hh : ∀ b, b < bc → hc b ≤ 60)
    (hY : ∀ b i, b < bc → i < hc b → HY (64 * b + i) = nI (oc b i) ∧ HZ (64 * b + i) = nI (ob b i) ∧ oc b i < 10 ∧ ob b i ≤ 200)
    (hp : (∀ b i, b < bc → i < hc b → ¬ cn_OV ra sz oc ob k x e b i) → post 1) (h0 : ∀ b i, b < bc → i < hc b → cn_OV ra sz oc ob k x e b i → post 0) :
    ∀ (m b : Nat), b + m = bc → (∀ a i, a < b → i < hc a → ¬ cn_OV ra sz oc ob k x e a i) → wY_isFree_3 post (nI k) (nI x) (nI e) (nI now) (nI cc) (nI bc) be bA (cn_n fr) (cn_n tt) (cn_n st) (cn_n en) (cn_n ra) (cn_n de) CA (cn_n so) (cn_n ta) (cn_n sz) li SK (cn_n hc) HY HZ tr tb no ti ne bO bE (m + 1) (nI b) := by
  intro m
  induction m with
  | zero =>
    intro b hb hno
    exact br_t (nI_le (by omega) (by omega)) (hp (fun a i ha hi => hno a i (by omega) hi))
  | succ m ih =>
    intro b hb hno
    refine br_f (nI_ge (by omega) (by omega)) (nm_r (cy_i0 b) ⟨hc b + 1, cy_fr19 (b := b) (oc := oc) (ob := ob) (by omega) hk h1 h2 (h3 b (by omega)) hx he (hh b (by omega)) (fun i hi => hY b i (by omega) hi) ?_ (fun i hi => h0 b i (by omega) hi) (hc b) 0 (by omega) (fun j hj => by omega)⟩)
    intro hall
    apply ih (b + 1) (by omega)
    intro a i ha hi
    by_cases ea : a = b
    · rw [ea] at hi ⊢; exact hall i hi
    · exact hno a i (by omega) hi
theorem cy_cmp {h n x : Nat} (h1 : h < 2 ^ 30) (h2 : n < 2 ^ 30) (h3 : x < 2 ^ 30) : nI h - nI n < nI x ↔ h < n + x := by
  rw [Int32.lt_iff_toInt_lt, pk_sub_toInt h1 h2, nI_toInt (by omega)]
  omega
theorem cy_early {post : Int32 → Prop} {k need : Nat} (H : cn_Iv cc bc fr tt st en ra so sz (hc, oc, ob, TA, HX, HB, HY, HZ)) (hbc : bc ≤ 10) (hcc : cc ≤ 10) (hob : ∀ b i, b < bc → i < hc b → ob b i ≤ 200) (hsz : ∀ b, b < bc → 1 ≤ sz b ∧ sz b ≤ 30) (hk : k < 10) (h1 : 1 ≤ ra k) (h2 : ra k ≤ 9) (hen : en k ≤ 100) (hn1 : 1 ≤ need) (hn : need ≤ 100) :
    ∀ (m x : Nat), x ≤ 200000 → m = en k + 1 - need - x → (cn_sr (cn_fr (cn_T TA k) need) m x = none → post (-1)) → (∀ b, cn_sr (cn_fr (cn_T TA k) need) m x = some b → post (nI b)) →
    wY_earliest_34 post (nI k) (nI need) (nI now) (nI cc) (nI bc) be bA (cn_n fr) (cn_n tt) (cn_n st) (cn_n en) (cn_n ra) (cn_n de) CA (cn_n so) (cn_n ta) (cn_n sz) li SK (cn_n hc) HY HZ tr tb no ti ne bO bE (m + 1) (nI x) := by
  have hvk : vp_in (nI k) 10 := vp_in_nI hk (by omega)
  have ck : (nI k).toNatClampNeg = k := nI_clamp (by omega)
  intro m
  induction m with
  | zero =>
    intro x hx hm hp0 _
    refine ⟨hvk, br_t ?_ (hp0 rfl)⟩
    rw [ck, cn_n_at, cy_cmp (by omega) (by omega) (by omega)]
    omega
  | succ m ih =>
    intro x hx hm hp0 hp1
    have hc1 : ¬ (cn_n en (nI k).toNatClampNeg - nI need < nI x) := by
      rw [ck, cn_n_at, cy_cmp (by omega) (by omega) (by omega)]
      omega
    refine ⟨hvk, br_f hc1 ?_⟩
    rw [nI_add]
    have hfr := cn_isFree H.1 (fun b hb => (hsz b hb).1) (k := k) (x := x) (need := need) hk h1 hn1 (by omega)
    refine ⟨bc + 1, cy_fr3 (oc := oc) (ob := ob) hbc hk h1 h2 (fun b hb => (hsz b hb).2) (by omega) (by omega) (fun b hb => H.2.2.2.2.2 b (by omega))
      (fun b i hb hi => ⟨H.2.2.2.1 b i (by omega) hi, H.2.2.2.2.1 b i (by omega) hi, by have q : oc b i < cc := (H.1.1 b i hb hi).1; omega, hob b i hb hi⟩) ?_ ?_ bc 0 (by omega) (fun a i ha => by omega)⟩
    · intro hall
      have hF : cn_fr (cn_T TA k) need x = true := (cn_fr_iff ..).mpr (hfr.mpr hall)
      refine br_f (by decide) (hp1 x ?_)
      rw [cn_sr, if_pos hF]
    · intro b i hb hi hov
      have hF : ¬ cn_fr (cn_T TA k) need x = true := fun z => hfr.mp ((cn_fr_iff ..).mp z) b i hb hi hov
      refine br_t rfl (nm_r (nI_1 x) (ih (x + 1) (by omega) (by omega) ?_ ?_))
      · intro z; apply hp0; rw [cn_sr, if_neg hF]; exact z
      · intro b' z; apply hp1; rw [cn_sr, if_neg hF]; exact z
theorem cy_earliest {post : Int32 → Prop} {k z time : Nat} (H : cn_Iv cc bc fr tt st en ra so sz (hc, oc, ob, TA, HX, HB, HY, HZ)) (hbc : bc ≤ 10) (hcc : cc ≤ 10) (hob : ∀ b i, b < bc → i < hc b → ob b i ≤ 200) (hsz : ∀ b, b < bc → 1 ≤ sz b ∧ sz b ≤ 30) (hk : k < 10) (h1 : 1 ≤ ra k) (h2 : ra k ≤ 9) (hse : st k < en k) (hen : en k ≤ 100) (hz1 : 1 ≤ z) (hz2 : z ≤ 30) (ht : time ≤ 200000)
    (hp0 : cn_eb (cn_T TA k) (cn_mx time (st k)) (en k) (cn_tk ra k z) = none → post (-1)) (hp1 : ∀ b, cn_eb (cn_T TA k) (cn_mx time (st k)) (en k) (cn_tk ra k z) = some b → post (nI b)) {tm : Int32} (etm : tm = nI time) : wpY_earliest post ((nI now), (nI cc), (nI bc), be, bA, (cn_n fr), (cn_n tt), (cn_n st), (cn_n en), (cn_n ra), (cn_n de), CA, (cn_n so), (cn_n ta), (cn_n sz), li, SK, (cn_n hc), HY, HZ, tr, tb, no, ti, ne, bO, bE) (nI k) (nI z) tm := by
  rw [etm]
  have hvk : vp_in (nI k) 10 := vp_in_nI hk (by omega)
  have ck : (nI k).toNatClampNeg = k := nI_clamp (by omega)
  have hp := cn_tk_pos (ra := ra) (k := k) (s := z) h1 hz1
  have hp2 := cn_tk_le (ra := ra) (k := k) (s := z) h2 hz2
  have hL := cn_mx_le (a := time) (b := st k) (n := 200000) (by omega) (by omega)
  have W := cy_early (now := now) (be := be) (bA := bA) (de := de) (ta := ta) (CA := CA) (li := li) (SK := SK) (tr := tr) (tb := tb) (no := no) (ti := ti) (ne := ne) (bO := bO) (bE := bE) H hbc hcc hob hsz hk h1 h2 hen hp (by omega) (en k + 1 - cn_tk ra k z - cn_mx time (st k)) (cn_mx time (st k)) (by omega) rfl hp0 hp1
  unfold wpY_earliest
  dsimp only
  apply cy_ticks hk h1 h2 hz2
  by_cases h : time ≤ st k
  · have e : cn_mx time (st k) = st k := if_neg (by omega)
    rw [e] at W
    refine ⟨hvk, br_t ?_ ⟨hvk, nm_r (show cn_n st (nI k).toNatClampNeg = nI (st k) by rw [ck]; rfl) ⟨_, W⟩⟩⟩
    rw [ck]
    exact nI_le h (by omega)
  · have e : cn_mx time (st k) = time := if_pos (by omega)
    rw [e] at W
    refine ⟨hvk, br_f ?_ ⟨_, W⟩⟩
    rw [ck]
    show ¬ nI time ≤ nI (st k)
    exact nI_ge (by omega) (by omega)
theorem cy_tr_0 {post : Int32 → Prop} {k d : Nat} (hd : d ≤ 5) (h : post 0) : ∀ (m i : Nat), i + m = d → (∀ j, i ≤ j → j < d → tr j ≠ nI k) → wY_isTried_2 post (nI k) (nI d) (nI now) (nI cc) (nI bc) be bA (cn_n fr) (cn_n tt) (cn_n st) (cn_n en) (cn_n ra) (cn_n de) CA (cn_n so) (cn_n ta) (cn_n sz) li SK (cn_n hc) HY HZ tr tb no ti ne bO bE (m + 1) (nI i) := by
  intro m
  induction m with
  | zero =>
    intro i hi _
    exact br_t (nI_le (by omega) (by omega)) h
  | succ m ih =>
    intro i hi hw
    have ci : (nI i).toNatClampNeg = i := nI_clamp (by omega)
    refine br_f (nI_ge (by omega) (by omega)) ⟨vp_in_nI (by omega) (by omega), br_f ?_ (nm_r (nI_1 i) (ih (i + 1) (by omega) (fun j h1 h2 => hw j (by omega) h2)))⟩
    rw [ci]
    exact hw i (by omega) (by omega)
theorem cy_tr_1 {post : Int32 → Prop} {k d : Nat} (hd : d ≤ 5) (h : post 1) : ∀ (m i : Nat), i + m = d → (∃ j, i ≤ j ∧ j < d ∧ tr j = nI k) → wY_isTried_2 post (nI k) (nI d) (nI now) (nI cc) (nI bc) be bA (cn_n fr) (cn_n tt) (cn_n st) (cn_n en) (cn_n ra) (cn_n de) CA (cn_n so) (cn_n ta) (cn_n sz) li SK (cn_n hc) HY HZ tr tb no ti ne bO bE (m + 1) (nI i) := by
  intro m
  induction m with
  | zero =>
    rintro i hi ⟨j, h1, h2, _⟩
    omega
  | succ m ih =>
    rintro i hi ⟨j, h1, h2, h3⟩
    have ci : (nI i).toNatClampNeg = i := nI_clamp (by omega)
    by_cases e : tr i = nI k
    · refine br_f (nI_ge (by omega) (by omega)) ⟨vp_in_nI (by omega) (by omega), br_t ?_ h⟩
      rw [ci]; exact e
    · have hne : j ≠ i := fun z => e (z ▸ h3)
      refine br_f (nI_ge (by omega) (by omega)) ⟨vp_in_nI (by omega) (by omega), br_f ?_ (nm_r (nI_1 i) (ih (i + 1) (by omega) ⟨j, by omega, h2, h3⟩))⟩
      rw [ci]; exact e
theorem cy_kp {post : SY → Prop} {d : Nat} (hd : d ≤ 5) (h : post ((nI now), (nI cc), (nI bc), be, bA, (cn_n fr), (cn_n tt), (cn_n st), (cn_n en), (cn_n ra), (cn_n de), CA, (cn_n so), (cn_n ta), (cn_n sz), li, SK, (cn_n hc), HY, HZ, tr, tb, no, ti, ne, (cn_cp d tr bO), (cn_cp d tb bE))) : ∀ (m i : Nat), i + m = d → wY_keep_85 post (nI d) (nI now) (nI cc) (nI bc) be bA (m + 1) (nI i) (cn_n fr) (cn_n tt) (cn_n st) (cn_n en) (cn_n ra) (cn_n de) CA (cn_n so) (cn_n ta) (cn_n sz) li SK (cn_n hc) HY HZ tr tb no ti ne (cn_cp i tr bO) (cn_cp i tb bE) := by
  intro m
  induction m with
  | zero =>
    intro i hi
    have e : i = d := by omega
    rw [e]
    exact br_t (nI_le (Nat.le_refl _) (by omega)) h
  | succ m ih =>
    intro i hi
    have ci : (nI i).toNatClampNeg = i := nI_clamp (by omega)
    have hv : vp_in (nI i) 5 := vp_in_nI (by omega) (by omega)
    have hv6 : vp_in (nI i) 6 := vp_in_nI (by omega) (by omega)
    exact br_f (nI_ge (by omega) (by omega)) ⟨hv6, hv, nm_r (by rw [ci]; exact cn_cp_s i tr bO) ⟨hv6, hv, nm_r (by rw [ci]; exact cn_cp_s i tb bE) (nm_r (nI_1 i) (ih (i + 1) (by omega)))⟩⟩
theorem cy_keep_n {post : SY → Prop} {d node goal : Nat} (hd0 : 0 < d) (hd : d ≤ 5) (hn : no d = nI node) (hn6 : node < 6) (hg6 : goal < 6) (hg : node ≠ goal) (h : post ((nI now), (nI cc), (nI bc), be, bA, (cn_n fr), (cn_n tt), (cn_n st), (cn_n en), (cn_n ra), (cn_n de), CA, (cn_n so), (cn_n ta), (cn_n sz), li, SK, (cn_n hc), HY, HZ, tr, tb, no, ti, ne, bO, bE)) : wpY_keep post ((nI now), (nI cc), (nI bc), be, bA, (cn_n fr), (cn_n tt), (cn_n st), (cn_n en), (cn_n ra), (cn_n de), CA, (cn_n so), (cn_n ta), (cn_n sz), li, SK, (cn_n hc), HY, HZ, tr, tb, no, ti, ne, bO, bE) (nI d) (nI goal) := by
  have cd : (nI d).toNatClampNeg = d := nI_clamp (by omega)
  refine br_f (nI_ne0 hd0 (by omega)) ⟨vp_in_nI (by omega) (by omega), br_f ?_ h⟩
  rw [cd, hn, nI_eq (by omega) (by omega)]; exact hg
theorem cy_keep_t {post : SY → Prop} {d a goal : Nat} (hd0 : 0 < d) (hd : d ≤ 5) (hn : no d = nI goal) (ht : ti d = nI a) (hb : cn_bet be bA d a) (h : post ((nI now), (nI cc), (nI bc), (nI d), (nI a), (cn_n fr), (cn_n tt), (cn_n st), (cn_n en), (cn_n ra), (cn_n de), CA, (cn_n so), (cn_n ta), (cn_n sz), li, SK, (cn_n hc), HY, HZ, tr, tb, no, ti, ne, (cn_cp d tr bO), (cn_cp d tb bE))) : wpY_keep post ((nI now), (nI cc), (nI bc), be, bA, (cn_n fr), (cn_n tt), (cn_n st), (cn_n en), (cn_n ra), (cn_n de), CA, (cn_n so), (cn_n ta), (cn_n sz), li, SK, (cn_n hc), HY, HZ, tr, tb, no, ti, ne, bO, bE) (nI d) (nI goal) := by
  have cd : (nI d).toNatClampNeg = d := nI_clamp (by omega)
  have hv : vp_in (nI d) 7 := vp_in_nI (by omega) (by omega)
  have K : wY_keep_61 post (nI d) 1 (nI now) (nI cc) (nI bc) be bA (cn_n fr) (cn_n tt) (cn_n st) (cn_n en) (cn_n ra) (cn_n de) CA (cn_n so) (cn_n ta) (cn_n sz) li SK (cn_n hc) HY HZ tr tb no ti ne bO bE := by
    have H := cy_kp hd h d 0 (by omega)
    rw [cn_cp_0, cn_cp_0] at H
    exact br_f (by decide) ⟨hv, nm_r (by rw [cd]; exact ht) ⟨d + 1, H⟩⟩
  have q1 : no (nI d).toNatClampNeg = nI goal := by rw [cd]; exact hn
  have q2 : ti (nI d).toNatClampNeg = nI a := by rw [cd]; exact ht
  by_cases h1 : be = 0
  · exact br_f (nI_ne0 hd0 (by omega)) ⟨hv, br_t q1 (br_t h1 K)⟩
  · by_cases h2 : nI a < bA
    · exact br_f (nI_ne0 hd0 (by omega)) ⟨hv, br_t q1 (br_f h1 ⟨hv, br_t (by rw [q2]; exact h2) K⟩)⟩
    · rcases hb with z | z | ⟨z1, z2⟩
      · exact absurd z h1
      · exact absurd z h2
      · exact br_f (nI_ne0 hd0 (by omega)) ⟨hv, br_t q1 (br_f h1 ⟨hv, br_f (by rw [q2]; exact h2) ⟨hv, br_t (by rw [q2]; exact z1) (br_f (Int32.not_le.mpr z2) K)⟩⟩)⟩
theorem cy_keep_f {post : SY → Prop} {d a goal : Nat} (hd0 : 0 < d) (hd : d ≤ 5) (hn : no d = nI goal) (ht : ti d = nI a) (hb : ¬ cn_bet be bA d a) (h : post ((nI now), (nI cc), (nI bc), be, bA, (cn_n fr), (cn_n tt), (cn_n st), (cn_n en), (cn_n ra), (cn_n de), CA, (cn_n so), (cn_n ta), (cn_n sz), li, SK, (cn_n hc), HY, HZ, tr, tb, no, ti, ne, bO, bE)) : wpY_keep post ((nI now), (nI cc), (nI bc), be, bA, (cn_n fr), (cn_n tt), (cn_n st), (cn_n en), (cn_n ra), (cn_n de), CA, (cn_n so), (cn_n ta), (cn_n sz), li, SK, (cn_n hc), HY, HZ, tr, tb, no, ti, ne, bO, bE) (nI d) (nI goal) := by
  have cd : (nI d).toNatClampNeg = d := nI_clamp (by omega)
  have hv : vp_in (nI d) 7 := vp_in_nI (by omega) (by omega)
  have K : wY_keep_61 post (nI d) 0 (nI now) (nI cc) (nI bc) be bA (cn_n fr) (cn_n tt) (cn_n st) (cn_n en) (cn_n ra) (cn_n de) CA (cn_n so) (cn_n ta) (cn_n sz) li SK (cn_n hc) HY HZ tr tb no ti ne bO bE := br_t rfl h
  have q1 : no (nI d).toNatClampNeg = nI goal := by rw [cd]; exact hn
  have q2 : ti (nI d).toNatClampNeg = nI a := by rw [cd]; exact ht
  have h1 : ¬ be = 0 := fun z => hb (Or.inl z)
  have h2 : ¬ nI a < bA := fun z => hb (Or.inr (Or.inl z))
  by_cases h3 : nI a = bA
  · have h4 : be ≤ nI d := Int32.not_lt.mp fun z => hb (Or.inr (Or.inr ⟨h3, z⟩))
    exact br_f (nI_ne0 hd0 (by omega)) ⟨hv, br_t q1 (br_f h1 ⟨hv, br_f (by rw [q2]; exact h2) ⟨hv, br_t (by rw [q2]; exact h3) (br_t h4 K)⟩⟩)⟩
  · exact br_f (nI_ne0 hd0 (by omega)) ⟨hv, br_t q1 (br_f h1 ⟨hv, br_f (by rw [q2]; exact h2) ⟨hv, br_f (by rw [q2]; exact h3) K⟩⟩)⟩
end
section
variable (now cc bc : Nat) (fr tt st en ra de so ta sz hc : Nat → Nat) (CA li SK HY HZ : Nat → Int32) (goal z : Nat)
def cy_G (q : Int32 → SY → Prop) (dep : Int32) (tr tb no ti ne : cn_A) (be bA : Int32) (bO bE : cn_A) : Prop :=
  ∃ n, wY_findBest_29 q (nI goal) (nI z) n dep (nI now) (nI cc) (nI bc) be bA (cn_n fr) (cn_n tt) (cn_n st) (cn_n en) (cn_n ra) (cn_n de) CA (cn_n so) (cn_n ta) (cn_n sz) li SK (cn_n hc) HY HZ tr tb no ti ne bO bE
end
section
variable {now cc bc : Nat} {fr tt st en ra de so ta sz hc : Nat → Nat} {oc ob : Nat → Nat → Nat} {CA TA li SK HX HB HY HZ : Nat → Int32} {goal z : Nat}
theorem cy_rules (N : cn_Net cc fr tt st en ra de) (H : cn_Iv cc bc fr tt st en ra so sz (hc, oc, ob, TA, HX, HB, HY, HZ)) (hbc : bc ≤ 10) (hsz : ∀ b, b < bc → 1 ≤ sz b ∧ sz b ≤ 30) (hz1 : 1 ≤ z) (hz2 : z ≤ 30) (hg6 : goal < 6) :
    cn_YG cc fr tt (cn_ok CA) (cn_E (cn_T TA) st en (fun k => cn_tk ra k z)) (fun k => cn_tk ra k z + de k) goal (cy_G now cc bc fr tt st en ra de so ta sz hc CA li SK HY HZ goal z) := by
  have hob : ∀ b i, b < bc → i < hc b → ob b i ≤ 200 := by
    intro b i hb hi
    obtain ⟨g1, g2, g3, g4⟩ := H.1.1 b i hb hi
    have := (N.2 _ g1).2.2.2.2.1
    have g3' : ob b i + cn_tk ra (oc b i) (sz b) ≤ en (oc b i) := g3
    have g5 : en (oc b i) ≤ 100 := this
    omega
  obtain ⟨N1, N2⟩ := N
  refine ⟨?_, ?_, ?_, ?_, ?_⟩
  · rintro q d k tr tb no ti ne be bA bO bE hd hx hk hor ⟨n, g⟩
    have cd : (nI d).toNatClampNeg = d := nI_clamp (by omega)
    have hv : vp_in (nI d) 7 := vp_in_nI (by omega) (by omega)
    have hu : upd ne (nI d).toNatClampNeg (ne (nI d).toNatClampNeg + 1) = upd ne d (nI (k + 1)) := by rw [cd, hx, nI_1]
    by_cases h5 : d = 5
    · exact ⟨n + 1, br_f (nI_pos (by omega)) ⟨hv, nm_r (e' := nI k) (by rw [cd]; exact hx) ⟨hv, hv, nm_r hu (br_t (by rw [h5]; rfl) (nm_e g))⟩⟩⟩
    · have n5 : ¬ nI d = 5 := by
        show ¬ nI d = nI 5
        rw [nI_eq (by omega) (by omega)]; exact h5
      exact ⟨n + 1, br_f (nI_pos (by omega)) ⟨hv, nm_r (by rw [cd]; exact hx) ⟨hv, hv, nm_r hu (br_f n5 (br_f (nI_nlt (by omega) (by omega)) (nm_e g)))⟩⟩⟩
  · rintro q d k node tr tb no ti ne be bA bO bE hd hx hk hn hn6 hno ⟨n, g⟩
    obtain ⟨n1, n2, n3, n4, n5, n6, n7, n8⟩ := N2 k hk
    have cd : (nI d).toNatClampNeg = d := nI_clamp (by omega)
    have ck : (nI k).toNatClampNeg = k := nI_clamp (by omega)
    have hv : vp_in (nI d) 7 := vp_in_nI (by omega) (by omega)
    have hvk : vp_in (nI k) 10 := vp_in_nI (by omega) (by omega)
    have hu : upd ne (nI d).toNatClampNeg (ne (nI d).toNatClampNeg + 1) = upd ne d (nI (k + 1)) := by rw [cd, hx, nI_1]
    have nd5 : ¬ nI d = 5 := by
      show ¬ nI d = nI 5
      rw [nI_eq (by omega) (by omega)]; omega
    by_cases c1 : fr k = node
    · have q1 : cn_n fr (nI k).toNatClampNeg = no (nI d).toNatClampNeg := by rw [ck, cd, hn, cn_n_at, c1]
      by_cases c2 : CA k = 0
      · have q2 : CA (nI k).toNatClampNeg = 0 := by rw [ck]; exact c2
        have c3 : ∃ j, 0 ≤ j ∧ j < d ∧ tr j = nI k := by
          apply Classical.byContradiction
          intro hx3
          exact hno ⟨c1, cn_ok_t.mpr c2, fun i hi he => hx3 ⟨i, Nat.zero_le _, hi, he⟩⟩
        exact ⟨n + 1, br_f (nI_pos (by omega)) ⟨hv, nm_r (by rw [cd]; exact hx) ⟨hv, hv, nm_r hu (br_f nd5 (br_t (nI_lt hk (by omega)) ⟨hvk, hv, br_t q1 ⟨hvk, br_t q2 ⟨d + 1, cy_tr_1 (by omega) (br_f (by decide) g) d 0 (by omega) c3⟩⟩⟩))⟩⟩⟩
      · have q2 : ¬ CA (nI k).toNatClampNeg = 0 := by rw [ck]; exact c2
        exact ⟨n + 1, br_f (nI_pos (by omega)) ⟨hv, nm_r (by rw [cd]; exact hx) ⟨hv, hv, nm_r hu (br_f nd5 (br_t (nI_lt hk (by omega)) ⟨hvk, hv, br_t q1 ⟨hvk, br_f q2 g⟩⟩))⟩⟩⟩
    · have q1 : ¬ cn_n fr (nI k).toNatClampNeg = no (nI d).toNatClampNeg := by
        rw [ck, cd, hn, cn_n_at, nI_eq (by omega) (by omega)]; exact c1
      exact ⟨n + 1, br_f (nI_pos (by omega)) ⟨hv, nm_r (by rw [cd]; exact hx) ⟨hv, hv, nm_r hu (br_f nd5 (br_t (nI_lt hk (by omega)) ⟨hvk, hv, br_f q1 g⟩))⟩⟩⟩
  · rintro q d k node time tr tb no ti ne be bA bO bE hd hx hk hn hn6 hr ht hl hE ⟨n, g⟩
    obtain ⟨n1, n2, n3, n4, n5, n6, n7, n8⟩ := N2 k hk
    have cd : (nI d).toNatClampNeg = d := nI_clamp (by omega)
    have ck : (nI k).toNatClampNeg = k := nI_clamp (by omega)
    have hv : vp_in (nI d) 7 := vp_in_nI (by omega) (by omega)
    have hvk : vp_in (nI k) 10 := vp_in_nI (by omega) (by omega)
    have hu : upd ne (nI d).toNatClampNeg (ne (nI d).toNatClampNeg + 1) = upd ne d (nI (k + 1)) := by rw [cd, hx, nI_1]
    have nd5 : ¬ nI d = 5 := by
      show ¬ nI d = nI 5
      rw [nI_eq (by omega) (by omega)]; omega
    have q1 : cn_n fr (nI k).toNatClampNeg = no (nI d).toNatClampNeg := by rw [ck, cd, hn, cn_n_at, hl.1]
    have q2 : CA (nI k).toNatClampNeg = 0 := by rw [ck]; exact cn_ok_t.mp hl.2.1
    exact ⟨n + 1, br_f (nI_pos (by omega)) ⟨hv, nm_r (by rw [cd]; exact hx) ⟨hv, hv, nm_r hu (br_f nd5 (br_t (nI_lt hk (by omega)) ⟨hvk, hv, br_t q1 ⟨hvk, br_t q2 ⟨d + 1, cy_tr_0 (by omega) (br_t rfl ⟨hv,
      cy_earliest H hbc N1 hob hsz (by omega) n6 n7 n4 n5 hz1 hz2 ht (fun _ => br_t (by decide) g) (fun b hb => absurd (hE.symm.trans hb) (by simp)) (by rw [cd]; exact hr)⟩) d 0 (by omega) (fun j _ h2 => hl.2.2 j h2)⟩⟩⟩))⟩⟩⟩
  · rintro q d k node time b tr tb no ti ne be bA bO bE hd hx hk hn hn6 hr ht hl hE hor ⟨n, g⟩
    obtain ⟨n1, n2, n3, n4, n5, n6, n7, n8⟩ := N2 k hk
    have cd : (nI d).toNatClampNeg = d := nI_clamp (by omega)
    have cd1 : (nI (d + 1)).toNatClampNeg = d + 1 := nI_clamp (by omega)
    have ck : (nI k).toNatClampNeg = k := nI_clamp (by omega)
    have hv : vp_in (nI d) 7 := vp_in_nI (by omega) (by omega)
    have hv6 : vp_in (nI d) 6 := vp_in_nI (by omega) (by omega)
    have hv1 : vp_in (nI (d + 1)) 7 := vp_in_nI (by omega) (by omega)
    have hvk : vp_in (nI k) 10 := vp_in_nI (by omega) (by omega)
    have hu : upd ne (nI d).toNatClampNeg (ne (nI d).toNatClampNeg + 1) = upd ne d (nI (k + 1)) := by rw [cd, hx, nI_1]
    have nd5 : ¬ nI d = 5 := by
      show ¬ nI d = nI 5
      rw [nI_eq (by omega) (by omega)]; omega
    have q1 : cn_n fr (nI k).toNatClampNeg = no (nI d).toNatClampNeg := by rw [ck, cd, hn, cn_n_at, hl.1]
    have q2 : CA (nI k).toNatClampNeg = 0 := by rw [ck]; exact cn_ok_t.mp hl.2.1
    have hb100 := (cn_eb_some.mp hE).2.1
    refine ⟨n + 1, br_f (nI_pos (by omega)) ⟨hv, nm_r (by rw [cd]; exact hx) ⟨hv, hv, nm_r hu (br_f nd5 (br_t (nI_lt hk (by omega)) ⟨hvk, hv, br_t q1 ⟨hvk, br_t q2 ⟨d + 1, cy_tr_0 (by omega) (br_t rfl ⟨hv,
      cy_earliest H hbc N1 hob hsz (by omega) n6 n7 n4 n5 hz1 hz2 ht (fun h => absurd (h.symm.trans hE) (by simp)) (fun b' hb' => ?_) (by rw [cd]; exact hr)⟩) d 0 (by omega) (fun j _ h2 => hl.2.2 j h2)⟩⟩⟩))⟩⟩⟩
    have eb : b' = b := Option.some.inj (hb'.symm.trans hE)
    rw [eb]
    refine br_f (nI_pos (by omega)) ⟨hv6, nm_r (by rw [cd]) ⟨hv6, nm_r (by rw [cd]) (nm_r (nI_1 d) ⟨hvk, hv1, nm_r (by rw [cd1, ck, cn_n_at]) (cy_comes (by omega) n6 n7 hz2 ⟨hv1, nm_r (by rw [cd1, Nat.add_assoc]) ⟨hv1, nm_r (by rw [cd1]) ?_⟩⟩)⟩)⟩⟩
    by_cases hg : tt k = goal
    · exact cy_keep_f (a := b + (cn_tk ra k z + de k)) (by omega) (by omega) (by rw [pk_us, hg]) pk_us (hor.resolve_left (fun z => z hg)) g
    · exact cy_keep_n (node := tt k) (by omega) (by omega) pk_us n2 hg6 hg g
  · rintro q d k node time b tr tb no ti ne be bA bO bE hd hx hk hn hn6 hr ht hl hE hg hb ⟨n, g⟩
    obtain ⟨n1, n2, n3, n4, n5, n6, n7, n8⟩ := N2 k hk
    have cd : (nI d).toNatClampNeg = d := nI_clamp (by omega)
    have cd1 : (nI (d + 1)).toNatClampNeg = d + 1 := nI_clamp (by omega)
    have ck : (nI k).toNatClampNeg = k := nI_clamp (by omega)
    have hv : vp_in (nI d) 7 := vp_in_nI (by omega) (by omega)
    have hv6 : vp_in (nI d) 6 := vp_in_nI (by omega) (by omega)
    have hv1 : vp_in (nI (d + 1)) 7 := vp_in_nI (by omega) (by omega)
    have hvk : vp_in (nI k) 10 := vp_in_nI (by omega) (by omega)
    have hu : upd ne (nI d).toNatClampNeg (ne (nI d).toNatClampNeg + 1) = upd ne d (nI (k + 1)) := by rw [cd, hx, nI_1]
    have nd5 : ¬ nI d = 5 := by
      show ¬ nI d = nI 5
      rw [nI_eq (by omega) (by omega)]; omega
    have q1 : cn_n fr (nI k).toNatClampNeg = no (nI d).toNatClampNeg := by rw [ck, cd, hn, cn_n_at, hl.1]
    have q2 : CA (nI k).toNatClampNeg = 0 := by rw [ck]; exact cn_ok_t.mp hl.2.1
    have hb100 := (cn_eb_some.mp hE).2.1
    refine ⟨n + 1, br_f (nI_pos (by omega)) ⟨hv, nm_r (by rw [cd]; exact hx) ⟨hv, hv, nm_r hu (br_f nd5 (br_t (nI_lt hk (by omega)) ⟨hvk, hv, br_t q1 ⟨hvk, br_t q2 ⟨d + 1, cy_tr_0 (by omega) (br_t rfl ⟨hv,
      cy_earliest H hbc N1 hob hsz (by omega) n6 n7 n4 n5 hz1 hz2 ht (fun h => absurd (h.symm.trans hE) (by simp)) (fun b' hb' => ?_) (by rw [cd]; exact hr)⟩) d 0 (by omega) (fun j _ h2 => hl.2.2 j h2)⟩⟩⟩))⟩⟩⟩
    have eb : b' = b := Option.some.inj (hb'.symm.trans hE)
    rw [eb]
    refine br_f (nI_pos (by omega)) ⟨hv6, nm_r (by rw [cd]) ⟨hv6, nm_r (by rw [cd]) (nm_r (nI_1 d) ⟨hvk, hv1, nm_r (by rw [cd1, ck, cn_n_at]) (cy_comes (by omega) n6 n7 hz2 ⟨hv1, nm_r (by rw [cd1, Nat.add_assoc]) ⟨hv1, nm_r (by rw [cd1]) ?_⟩⟩)⟩)⟩⟩
    exact cy_keep_t (a := b + (cn_tk ra k z + de k)) (by omega) (by omega) (by rw [pk_us, hg]) pk_us hb g
end
end
section
/-- the best route -/
def cn_bst (cc : Nat) (fr tt st en ra de : Nat → Nat) (CA TA : Nat → Int32) (goal z node time : Nat) : Option cn_R :=
  (cn_xS cc fr tt (cn_ok CA) (cn_E (cn_T TA) st en (fun k => cn_tk ra k z)) (fun k => cn_tk ra k z + de k) goal 5 [] node time).foldl cn_f none
section
variable {now cc bc : Nat} {bl ba be bA : Int32} {fr tt st en ra de so ta sz hc : Nat → Nat} {oc ob : Nat → Nat → Nat} {CA TA li RT HI HX HB wn wr wx wc wb bC bB SK HY HZ tr tb no ti ne bO bE : Nat → Int32} {goal z : Nat}
theorem cn_E200 (N : cn_Net cc fr tt st en ra de) : ∀ k t b, k < cc → cn_E (cn_T TA) st en (fun k => cn_tk ra k z) k t = some b → b + (cn_tk ra k z + de k) ≤ 200 := by
  intro k t b hk hE
  obtain ⟨n1, n2, n3, n4, n5, n6, n7, n8⟩ := N.2 k hk
  have := (cn_eb_some.mp hE).2.1
  have h : b + cn_tk ra k z ≤ en k := this
  omega
theorem cx_find (N : cn_Net cc fr tt st en ra de) (hz1 : 1 ≤ z) (hz2 : z ≤ 30) (hg6 : goal < 6) {node time : Nat} (hn6 : node < 6) (ht : time ≤ 200000) :
    ∃ (wn' wr' wx' wc' wb' : cn_A) (bl' ba' : Int32) (bC' bB' : cn_A), cn_BR (cn_bst cc fr tt st en ra de CA TA goal z node time) bl' ba' bC' bB' ∧
      ∀ (post : SX → Prop) (p0 p1 p2 p3 : Int32), p0 = nI node → p1 = nI goal → p2 = nI z → p3 = nI time → post ((nI now), (nI cc), (nI bc), bl', ba', (cn_n fr), (cn_n tt), (cn_n st), (cn_n en), (cn_n ra), (cn_n de), CA, TA, (cn_n so), (cn_n ta), (cn_n sz), li, RT, HI, (cn_n hc), HX, HB, wn', wr', wx', wc', wb', bC', bB') → wpX_findBest post ((nI now), (nI cc), (nI bc), bl, ba, (cn_n fr), (cn_n tt), (cn_n st), (cn_n en), (cn_n ra), (cn_n de), CA, TA, (cn_n so), (cn_n ta), (cn_n sz), li, RT, HI, (cn_n hc), HX, HB, wn, wr, wx, wc, wb, bC, bB) p0 p1 p2 p3 := by
  obtain ⟨step', wn', wr', wx', wc', wb', bl', ba', bC', bB', f1, f2, f3⟩ := cn_xAll (cx_rules (now := now) (bc := bc) (so := so) (ta := ta) (sz := sz) (hc := hc) (CA := CA) (TA := TA) (li := li) (RT := RT) (HI := HI) (HX := HX) (HB := HB) N hz1 hz2 hg6) N.1 (fun k hk => (N.2 k hk).2.1) (cn_E200 N) node time
    (upd wn 0 (nI node)) (upd wr 0 (nI time)) (upd wx 0 0) wc wb 0 bC bB pk_us hn6 pk_us ht pk_us
  refine ⟨wn', wr', wx', wc', wb', bl', ba', bC', bB', f1, ?_⟩
  intro post p0 p1 p2 p3 e0 e1 e2 e3 hp
  rw [e0, e1, e2, e3]
  exact nm_e (nm_e (nm_e (f3 post ⟨1, br_c (fun _ => hp) (fun _ => br_t (by decide) hp)⟩)))
theorem cy_find (N : cn_Net cc fr tt st en ra de) (H : cn_Iv cc bc fr tt st en ra so sz (hc, oc, ob, TA, HX, HB, HY, HZ)) (hbc : bc ≤ 10) (hsz : ∀ b, b < bc → 1 ≤ sz b ∧ sz b ≤ 30) (hz1 : 1 ≤ z) (hz2 : z ≤ 30) (hg6 : goal < 6) {node time : Nat} (hn6 : node < 6) (ht : time ≤ 200000) (hng : node ≠ goal) :
    ∃ (tr' tb' no' ti' ne' : cn_A) (be' bA' : Int32) (bO' bE' : cn_A), cn_BR (cn_bst cc fr tt st en ra de CA TA goal z node time) be' bA' bO' bE' ∧
      ∀ (post : Int32 → SY → Prop) (p0 p1 p2 p3 : Int32), p0 = nI node → p1 = nI time → p2 = nI goal → p3 = nI z →
        (cn_bst cc fr tt st en ra de CA TA goal z node time = none → post 0 ((nI now), (nI cc), (nI bc), be', bA', (cn_n fr), (cn_n tt), (cn_n st), (cn_n en), (cn_n ra), (cn_n de), CA, (cn_n so), (cn_n ta), (cn_n sz), li, SK, (cn_n hc), HY, HZ, tr', tb', no', ti', ne', bO', bE')) →
        (∀ r, cn_bst cc fr tt st en ra de CA TA goal z node time = some r → post 1 ((nI now), (nI cc), (nI bc), be', bA', (cn_n fr), (cn_n tt), (cn_n st), (cn_n en), (cn_n ra), (cn_n de), CA, (cn_n so), (cn_n ta), (cn_n sz), li, SK, (cn_n hc), HY, HZ, tr', tb', no', ti', ne', bO', bE')) →
        wpY_findBest post ((nI now), (nI cc), (nI bc), be, bA, (cn_n fr), (cn_n tt), (cn_n st), (cn_n en), (cn_n ra), (cn_n de), CA, (cn_n so), (cn_n ta), (cn_n sz), li, SK, (cn_n hc), HY, HZ, tr, tb, no, ti, ne, bO, bE) p0 p1 p2 p3 := by
  have hm := cn_main (ok := cn_ok CA) (E := cn_E (cn_T TA) st en (fun k => cn_tk ra k z)) (c := fun k => cn_tk ra k z + de k) (goal := goal) (fun k hk => (N.2 k hk).2.2.1) cn_E_ge cn_E_mono 5 node time hng
  obtain ⟨tr', tb', no', ti', ne', be', bA', bO', bE', f1, f3⟩ := cn_yAll (cy_rules (now := now) (ta := ta) (CA := CA) (li := li) (SK := SK) (de := de) N H hbc hsz hz1 hz2 hg6) N.1 (fun k hk => (N.2 k hk).2.1) (cn_E200 N) node time
    tr tb (upd no 0 (nI node)) (upd ti 0 (nI time)) (upd ne 0 0) bA bO bE pk_us hn6 pk_us ht pk_us
  rw [← hm] at f1
  refine ⟨tr', tb', no', ti', ne', be', bA', bO', bE', f1, ?_⟩
  intro post p0 p1 p2 p3 e0 e1 e2 e3 h0 h1
  rw [e0, e1, e2, e3]
  have hend : (be' ≤ 0 → post 0 ((nI now), (nI cc), (nI bc), be', bA', (cn_n fr), (cn_n tt), (cn_n st), (cn_n en), (cn_n ra), (cn_n de), CA, (cn_n so), (cn_n ta), (cn_n sz), li, SK, (cn_n hc), HY, HZ, tr', tb', no', ti', ne', bO', bE')) ∧ (¬ be' ≤ 0 → post 1 ((nI now), (nI cc), (nI bc), be', bA', (cn_n fr), (cn_n tt), (cn_n st), (cn_n en), (cn_n ra), (cn_n de), CA, (cn_n so), (cn_n ta), (cn_n sz), li, SK, (cn_n hc), HY, HZ, tr', tb', no', ti', ne', bO', bE')) := by
    cases hr : cn_bst cc fr tt st en ra de CA TA goal z node time with
    | none =>
      have hb : be' = 0 := by
        have f1' : cn_BR (cn_bst cc fr tt st en ra de CA TA goal z node time) be' bA' bO' bE' := f1
        rw [hr] at f1'; exact f1'
      exact br_t (by rw [hb]; decide) (h0 hr)
    | some r =>
      have hb : cn_BR (some r) be' bA' bO' bE' := by
        have f1' : cn_BR (cn_bst cc fr tt st en ra de CA TA goal z node time) be' bA' bO' bE' := f1
        rw [hr] at f1'; exact f1'
      obtain ⟨b1, b2, b3, b4, b5, b6⟩ := hb
      exact br_f (by rw [b4]; exact nI_nle (List.length_pos_iff.mpr b1) (by omega)) (h1 r hr)
  exact nm_e (nm_e (nm_e (f3 post ⟨1, br_t (by decide) hend⟩)))
/-- when a bundle comes in by its last booking, 0 if it has none -/
def cn_cm (ra de sz hc : Nat → Nat) (oc ob : Nat → Nat → Nat) (b : Nat) : Nat :=
  match hc b with
  | 0 => 0
  | i + 1 => ob b i + cn_tk ra (oc b i) (sz b) + de (oc b i)
theorem cn_cm_0 {b : Nat} (h : hc b = 0) : cn_cm ra de sz hc oc ob b = 0 := by unfold cn_cm; rw [h]
theorem cn_cm_s {b i : Nat} (h : hc b = i + 1) : cn_cm ra de sz hc oc ob b = ob b i + cn_tk ra (oc b i) (sz b) + de (oc b i) := by unfold cn_cm; rw [h]
theorem cn_cm_le (N : cn_Net cc fr tt st en ra de) (H : cn_Iv cc bc fr tt st en ra so sz (hc, oc, ob, TA, HX, HB, HY, HZ)) {b : Nat} (hb : b < bc) : cn_cm ra de sz hc oc ob b ≤ 200 := by
  cases h : hc b with
  | zero => rw [cn_cm_0 h]; omega
  | succ i =>
    rw [cn_cm_s h]
    have hi : i < hc b := by omega
    obtain ⟨g1, g2, g3, g4⟩ := H.1.1 b i hb hi
    have g1' : oc b i < cc := g1
    have g3' : ob b i + cn_tk ra (oc b i) (sz b) ≤ en (oc b i) := g3
    obtain ⟨n1, n2, n3, n4, n5, n6, n7, n8⟩ := N.2 (oc b i) g1'
    omega
theorem cx_lastC (N : cn_Net cc fr tt st en ra de) (H : cn_Iv cc bc fr tt st en ra so sz (hc, oc, ob, TA, HX, HB, HY, HZ)) (hbc : bc ≤ 10) {b : Nat} (hb : b < bc) (hs : sz b ≤ 30) {post : Int32 → Prop} (h0 : hc b = 0 → post (-1)) (h1 : 0 < hc b → post (nI (cn_cm ra de sz hc oc ob b))) : wpX_lastComesIn post ((nI now), (nI cc), (nI bc), bl, ba, (cn_n fr), (cn_n tt), (cn_n st), (cn_n en), (cn_n ra), (cn_n de), CA, TA, (cn_n so), (cn_n ta), (cn_n sz), li, RT, HI, (cn_n hc), HX, HB, wn, wr, wx, wc, wb, bC, bB) (nI b) := by
  have hvb : vp_in (nI b) 10 := vp_in_nI (by omega) (by omega)
  have cb : (nI b).toNatClampNeg = b := nI_clamp (by omega)
  have hh : hc b ≤ 60 := H.2.2.2.2.2 b (by omega)
  cases h : hc b with
  | zero =>
    refine ⟨hvb, br_t ?_ (h0 h)⟩
    rw [cb, cn_n_at, h]; decide
  | succ i =>
    have hi : i < hc b := by omega
    obtain ⟨g1, g2, g3, g4⟩ := H.1.1 b i hb hi
    have g1' : oc b i < cc := g1
    obtain ⟨n1, n2, n3, n4, n5, n6, n7, n8⟩ := N.2 (oc b i) g1'
    have N1 := N.1
    have hp := h1 (by omega)
    rw [cn_cm_s h] at hp
    refine ⟨hvb, br_f (by rw [cb, cn_n_at]; exact nI_nle (by omega) (by omega)) ⟨hvb, ?_⟩⟩
    have e : cn_n hc (nI b).toNatClampNeg - 1 = nI i := by rw [cb, cn_n_at, cx_m1 (by omega), h]; rfl
    rw [e]
    exact cx_comes (k := oc b i) (t := ob b i) (by omega) (by omega) (H.2.1 b i (by omega) hi) (H.2.2.1 b i (by omega) hi) (by omega) n6 n7 hs hp
theorem cx_lastN (N : cn_Net cc fr tt st en ra de) (H : cn_Iv cc bc fr tt st en ra so sz (hc, oc, ob, TA, HX, HB, HY, HZ)) (hbc : bc ≤ 10) {b : Nat} (hb : b < bc) {post : Int32 → Prop} (h1 : post (nI (cn_nd so tt oc b (hc b)))) : wpX_lastNode post ((nI now), (nI cc), (nI bc), bl, ba, (cn_n fr), (cn_n tt), (cn_n st), (cn_n en), (cn_n ra), (cn_n de), CA, TA, (cn_n so), (cn_n ta), (cn_n sz), li, RT, HI, (cn_n hc), HX, HB, wn, wr, wx, wc, wb, bC, bB) (nI b) := by
  have hvb : vp_in (nI b) 10 := vp_in_nI (by omega) (by omega)
  have cb : (nI b).toNatClampNeg = b := nI_clamp (by omega)
  have hh : hc b ≤ 60 := H.2.2.2.2.2 b (by omega)
  cases h : hc b with
  | zero =>
    rw [h] at h1
    refine ⟨hvb, br_t (by rw [cb, cn_n_at, h]; decide) ⟨hvb, ?_⟩⟩
    rw [cb]; exact h1
  | succ i =>
    have hi : i < hc b := by omega
    obtain ⟨g1, g2, g3, g4⟩ := H.1.1 b i hb hi
    have g1' : oc b i < cc := g1
    have N1 := N.1
    rw [h] at h1
    have e : nI b * 100 + cn_n hc (nI b).toNatClampNeg - 1 = nI (b * 100 + i) := by rw [cb, cn_n_at, cx_ix, cx_m1 (by omega), h]; rfl
    have ci : (nI (b * 100 + i)).toNatClampNeg = b * 100 + i := nI_clamp (by omega)
    have ck : (nI (oc b i)).toNatClampNeg = oc b i := nI_clamp (by omega)
    refine ⟨hvb, br_f (by rw [cb, cn_n_at]; exact nI_nle (by omega) (by omega)) ⟨hvb, ?_⟩⟩
    have ex : HX (b * 100 + i) = nI (oc b i) := H.2.1 b i (by omega) hi
    rw [e, ci, ex]
    refine ⟨vp_in_nI (by omega) (by omega), vp_in_nI (show oc b i < 10 by omega) (by omega), ?_⟩
    show post (cn_n tt (nI (oc b i)).toNatClampNeg)
    rw [ck]; exact h1
theorem cy_lastT (N : cn_Net cc fr tt st en ra de) (H : cn_Iv cc bc fr tt st en ra so sz (hc, oc, ob, TA, HX, HB, HY, HZ)) (hbc : bc ≤ 10) {b : Nat} (hb : b < bc) (hs : sz b ≤ 30) {post : Int32 → Prop} (h1 : post (nI (cn_cm ra de sz hc oc ob b))) : wpY_lastTime post ((nI now), (nI cc), (nI bc), be, bA, (cn_n fr), (cn_n tt), (cn_n st), (cn_n en), (cn_n ra), (cn_n de), CA, (cn_n so), (cn_n ta), (cn_n sz), li, SK, (cn_n hc), HY, HZ, tr, tb, no, ti, ne, bO, bE) (nI b) := by
  have hvb : vp_in (nI b) 10 := vp_in_nI (by omega) (by omega)
  have cb : (nI b).toNatClampNeg = b := nI_clamp (by omega)
  have hh : hc b ≤ 60 := H.2.2.2.2.2 b (by omega)
  cases h : hc b with
  | zero =>
    rw [cn_cm_0 h] at h1
    refine ⟨hvb, nm_e ⟨hvb, br_t ?_ h1⟩⟩
    rw [cb, cn_n_at, h]; rfl
  | succ i =>
    have hi : i < hc b := by omega
    obtain ⟨g1, g2, g3, g4⟩ := H.1.1 b i hb hi
    have g1' : oc b i < cc := g1
    obtain ⟨n1, n2, n3, n4, n5, n6, n7, n8⟩ := N.2 (oc b i) g1'
    have N1 := N.1
    rw [cn_cm_s h] at h1
    have e : 64 * nI b + cn_n hc (nI b).toNatClampNeg - 1 = nI (64 * b + i) := by rw [cb, cn_n_at, cy_ix, cx_m1 (by omega), h]; rfl
    have ci : (nI (64 * b + i)).toNatClampNeg = 64 * b + i := nI_clamp (by omega)
    have hvi : vp_in (nI (64 * b + i)) 640 := vp_in_nI (by omega) (by omega)
    refine ⟨hvb, nm_r e ⟨hvb, br_f (by rw [cb, cn_n_at]; exact nI_ne0 (by omega) (by omega)) ⟨hvi, hvb, hvi, ?_⟩⟩⟩
    exact cy_comesE (k := oc b i) (t := ob b i) (by rw [ci]; exact H.2.2.2.1 b i (by omega) hi) (by rw [cb]; rfl) (by rw [ci]; exact H.2.2.2.2.1 b i (by omega) hi) (by omega) n6 n7 hs h1
theorem cy_lastN (N : cn_Net cc fr tt st en ra de) (H : cn_Iv cc bc fr tt st en ra so sz (hc, oc, ob, TA, HX, HB, HY, HZ)) (hbc : bc ≤ 10) {b : Nat} (hb : b < bc) {post : Int32 → Prop} (h1 : post (nI (cn_nd so tt oc b (hc b)))) : wpY_lastNode post ((nI now), (nI cc), (nI bc), be, bA, (cn_n fr), (cn_n tt), (cn_n st), (cn_n en), (cn_n ra), (cn_n de), CA, (cn_n so), (cn_n ta), (cn_n sz), li, SK, (cn_n hc), HY, HZ, tr, tb, no, ti, ne, bO, bE) (nI b) := by
  have hvb : vp_in (nI b) 10 := vp_in_nI (by omega) (by omega)
  have cb : (nI b).toNatClampNeg = b := nI_clamp (by omega)
  have hh : hc b ≤ 60 := H.2.2.2.2.2 b (by omega)
  cases h : hc b with
  | zero =>
    rw [h] at h1
    refine ⟨hvb, br_t (by rw [cb, cn_n_at, h]; rfl) ⟨hvb, ?_⟩⟩
    rw [cb]; exact h1
  | succ i =>
    have hi : i < hc b := by omega
    obtain ⟨g1, g2, g3, g4⟩ := H.1.1 b i hb hi
    have g1' : oc b i < cc := g1
    have N1 := N.1
    rw [h] at h1
    have e : 64 * nI b + cn_n hc (nI b).toNatClampNeg - 1 = nI (64 * b + i) := by rw [cb, cn_n_at, cy_ix, cx_m1 (by omega), h]; rfl
    have ci : (nI (64 * b + i)).toNatClampNeg = 64 * b + i := nI_clamp (by omega)
    have ck : (nI (oc b i)).toNatClampNeg = oc b i := nI_clamp (by omega)
    refine ⟨hvb, br_f (by rw [cb, cn_n_at]; exact nI_ne0 (by omega) (by omega)) ⟨hvb, ?_⟩⟩
    have ex : HY (64 * b + i) = nI (oc b i) := H.2.2.2.1 b i (by omega) hi
    rw [e, ci, ex]
    refine ⟨vp_in_nI (by omega) (by omega), vp_in_nI (show oc b i < 10 by omega) (by omega), ?_⟩
    show post (cn_n tt (nI (oc b i)).toNatClampNeg)
    rw [ck]; exact h1
end
end
section
theorem cn_fill_0 (T : Nat → Int32) (lo : Nat) (v : Int32) : cn_fill T lo 0 v = T := by
  funext j; unfold cn_fill; rw [if_neg (by omega)]
theorem cn_fill_s (T : Nat → Int32) (lo i : Nat) (v : Int32) : upd (cn_fill T lo i v) (lo + i) v = cn_fill T lo (i + 1) v := by
  funext j
  unfold upd cn_fill
  by_cases h : j = lo + i
  · rw [if_pos h, if_pos (by omega)]
  · rw [if_neg h]
    by_cases h2 : lo ≤ j ∧ j < lo + i
    · rw [if_pos h2, if_pos (by omega)]
    · rw [if_neg h2, if_neg (by omega)]
section
variable {now cc bc : Nat} {bl ba be bA : Int32} {fr tt st en ra de so ta sz hc : Nat → Nat} {oc ob : Nat → Nat → Nat} {CA TA li RT HI HX HB wn wr wx wc wb bC bB SK HY HZ tr tb no ti ne bO bE : Nat → Int32} {goal z : Nat}
theorem cn_IvU (H : cn_Iv cc bc fr tt st en ra so sz (hc, oc, ob, TA, HX, HB, HY, HZ)) : cn_Bk cc bc fr tt st en ra so sz hc oc ob TA ∧ cn_Hx hc oc HX ∧ cn_Hx hc ob HB ∧ cn_Hy hc oc HY ∧ cn_Hy hc ob HZ ∧ (∀ b, b < 10 → hc b ≤ 60) := H
theorem cx_mark3 {post : SX → Prop} {k t n : Nat} {v : Int32} (hv : vp_nar .boolean v = v) (hk : k < 10) (ht : t + n ≤ 100) (h : post ((nI now), (nI cc), (nI bc), bl, ba, (cn_n fr), (cn_n tt), (cn_n st), (cn_n en), (cn_n ra), (cn_n de), CA, (cn_fill TA (k * 100 + t) n v), (cn_n so), (cn_n ta), (cn_n sz), li, RT, HI, (cn_n hc), HX, HB, wn, wr, wx, wc, wb, bC, bB)) :
    ∀ (m i : Nat), i + m = n → wX_mark_3 post (nI k) (nI t) (nI n) v (nI now) (nI cc) (nI bc) bl ba (m + 1) (nI (t + i)) (cn_n fr) (cn_n tt) (cn_n st) (cn_n en) (cn_n ra) (cn_n de) CA (cn_fill TA (k * 100 + t) i v) (cn_n so) (cn_n ta) (cn_n sz) li RT HI (cn_n hc) HX HB wn wr wx wc wb bC bB := by
  intro m
  induction m with
  | zero =>
    intro i hi
    have e : i = n := by omega
    rw [e]
    exact br_t (by rw [nI_add]; exact nI_le (Nat.le_refl _) (by omega)) h
  | succ m ih =>
    intro i hi
    have hvi : vp_in (nI k * 100 + nI (t + i)) 1000 := by rw [cx_ix]; exact vp_in_nI (by omega) (by omega)
    have ci : (nI k * 100 + nI (t + i)).toNatClampNeg = k * 100 + t + i := by rw [cx_ix, nI_clamp (by omega)]; omega
    exact br_f (by rw [nI_add]; exact nI_ge (by omega) (by omega)) ⟨hvi, nm_r (by rw [ci, hv]; exact cn_fill_s ..) (nm_r (nI_1 _) (ih (i + 1) (by omega)))⟩
theorem cx_mark {post : SX → Prop} {k t n : Nat} {v p0 p1 p2 : Int32} (hv : vp_nar .boolean v = v) (e0 : p0 = nI k) (e1 : p1 = nI t) (e2 : p2 = nI n) (hk : k < 10) (ht : t + n ≤ 100) (h : post ((nI now), (nI cc), (nI bc), bl, ba, (cn_n fr), (cn_n tt), (cn_n st), (cn_n en), (cn_n ra), (cn_n de), CA, (cn_fill TA (k * 100 + t) n v), (cn_n so), (cn_n ta), (cn_n sz), li, RT, HI, (cn_n hc), HX, HB, wn, wr, wx, wc, wb, bC, bB)) : wpX_mark post ((nI now), (nI cc), (nI bc), bl, ba, (cn_n fr), (cn_n tt), (cn_n st), (cn_n en), (cn_n ra), (cn_n de), CA, TA, (cn_n so), (cn_n ta), (cn_n sz), li, RT, HI, (cn_n hc), HX, HB, wn, wr, wx, wc, wb, bC, bB) p0 p1 p2 v := by
  rw [e0, e1, e2]
  have H := cx_mark3 hv hk ht h n 0 (by omega)
  rw [cn_fill_0] at H
  exact ⟨n + 1, H⟩
theorem cx_ticksE {post : Int32 → Prop} {k z : Nat} {p0 p1 : Int32} (e0 : p0 = nI k) (e1 : p1 = nI z) (hk : k < 10) (h1 : 1 ≤ ra k) (h2 : ra k ≤ 9) (h3 : z ≤ 30) (h : post (nI (cn_tk ra k z))) : wpX_ticksOver post ((nI now), (nI cc), (nI bc), bl, ba, (cn_n fr), (cn_n tt), (cn_n st), (cn_n en), (cn_n ra), (cn_n de), CA, TA, (cn_n so), (cn_n ta), (cn_n sz), li, RT, HI, (cn_n hc), HX, HB, wn, wr, wx, wc, wb, bC, bB) p0 p1 := by
  rw [e0, e1]; exact cx_ticks hk h1 h2 h3 h
theorem cx_book {post : SX → Prop} {b len : Nat} (hb : b < 10) (hs : sz b ≤ 30) (hl : len ≤ 5) :
    ∀ (l : List (Nat × Nat)) (i : Nat) (s : cn_St), i + l.length = len → (∀ j, j < l.length → bC (i + j) = nI (l.getD j (0, 0)).1 ∧ bB (i + j) = nI (l.getD j (0, 0)).2) →
    (∀ x, x ∈ l → x.1 < 10 ∧ 1 ≤ ra x.1 ∧ ra x.1 ≤ 9 ∧ x.2 + cn_tk ra x.1 (sz b) ≤ 100) → s.1 b + l.length ≤ 60 →
    post ((nI now), (nI cc), (nI bc), (nI len), ba, (cn_n fr), (cn_n tt), (cn_n st), (cn_n en), (cn_n ra), (cn_n de), CA, ((l.foldl (cn_ap ra sz b) s).2.2.2.1), (cn_n so), (cn_n ta), (cn_n sz), li, (upd RT b 1), HI, (cn_n (l.foldl (cn_ap ra sz b) s).1), ((l.foldl (cn_ap ra sz b) s).2.2.2.2.1), ((l.foldl (cn_ap ra sz b) s).2.2.2.2.2.1), wn, wr, wx, wc, wb, bC, bB) →
    wX_bookBest_2 post (nI b) (l.length + 1) (nI i) (nI now) (nI cc) (nI bc) (nI len) ba (cn_n fr) (cn_n tt) (cn_n st) (cn_n en) (cn_n ra) (cn_n de) CA (s.2.2.2.1) (cn_n so) (cn_n ta) (cn_n sz) li RT HI (cn_n s.1) (s.2.2.2.2.1) (s.2.2.2.2.2.1) wn wr wx wc wb bC bB := by
  have hvb : vp_in (nI b) 10 := vp_in_nI hb (by omega)
  have cb : (nI b).toNatClampNeg = b := nI_clamp (by omega)
  intro l
  induction l with
  | nil =>
    intro i s hi _ _ _ h
    rw [List.length_nil] at hi
    exact br_t (nI_le (by omega) (by omega)) ⟨hvb, nm_r (by rw [cb, cx_b1]) h⟩
  | cons x l ih =>
    intro i s hi hB hx hh h
    rw [List.length_cons] at hi hh
    obtain ⟨b1, b2⟩ := hB 0 (by rw [List.length_cons]; omega)
    have b1' : bC i = nI x.1 := b1
    have b2' : bB i = nI x.2 := b2
    obtain ⟨x1, x2, x3, x4⟩ := hx x (List.mem_cons_self ..)
    have hvi : vp_in (nI i) 5 := vp_in_nI (by omega) (by omega)
    have ci : (nI i).toNatClampNeg = i := nI_clamp (by omega)
    have hvh : vp_in (nI (b * 100 + s.1 b)) 1000 := vp_in_nI (by omega) (by omega)
    have ch : (nI (b * 100 + s.1 b)).toNatClampNeg = b * 100 + s.1 b := nI_clamp (by omega)
    have IH := ih (i + 1) (cn_ap ra sz b s x) (by omega) (fun j hj => by
      have := hB (j + 1) (by rw [List.length_cons]; omega)
      rw [show i + (j + 1) = i + 1 + j by omega] at this
      exact this) (fun y hy => hx y (List.mem_cons_of_mem _ hy)) (by
        show cn_up s.1 b (s.1 b + 1) b + l.length ≤ 60
        rw [cn_up_s]; omega) h
    refine br_f (nI_ge (by omega) (by omega)) ⟨hvb, nm_r (e' := nI (b * 100 + s.1 b)) (by rw [cb, cn_n_at, cx_ix]) ⟨hvi, hvh, nm_r (e' := upd s.2.2.2.2.1 (b * 100 + s.1 b) (nI x.1)) (by rw [ch, ci, b1']) ⟨hvi, hvh, nm_r (e' := upd s.2.2.2.2.2.1 (b * 100 + s.1 b) (nI x.2)) (by rw [ch, ci, b2'])
      ⟨hvb, hvb, nm_r (e' := cn_n (cn_up s.1 b (s.1 b + 1))) (by rw [cb, cn_n_at, nI_1, cn_n_up]) ⟨hvi, hvb, cx_ticksE (k := x.1) (z := sz b) (by rw [ci]; exact b1') (by rw [cb]; rfl) x1 x2 x3 hs ⟨hvi, hvi,
        cx_mark (k := x.1) (t := x.2) cx_b1 (by rw [ci]; exact b1') (by rw [ci]; exact b2') rfl x1 x4 (nm_r (nI_1 i) IH)⟩⟩⟩⟩⟩⟩
theorem cy_book {post : SY → Prop} {b len : Nat} (hb : b < 10) (hl : len ≤ 5) :
    ∀ (l : List (Nat × Nat)) (i : Nat) (s : cn_St), i + l.length = len → (∀ j, j < l.length → bO (i + j) = nI (l.getD j (0, 0)).1 ∧ bE (i + j) = nI (l.getD j (0, 0)).2) → s.1 b + l.length ≤ 60 →
    post ((nI now), (nI cc), (nI bc), (nI len), bA, (cn_n fr), (cn_n tt), (cn_n st), (cn_n en), (cn_n ra), (cn_n de), CA, (cn_n so), (cn_n ta), (cn_n sz), li, SK, (cn_n (l.foldl (cn_ap ra sz b) s).1), ((l.foldl (cn_ap ra sz b) s).2.2.2.2.2.2.1), ((l.foldl (cn_ap ra sz b) s).2.2.2.2.2.2.2), tr, tb, no, ti, ne, bO, bE) →
    wY_plan_86 post (nI b) (nI now) (nI cc) (nI bc) (nI len) bA (l.length + 1) (nI i) (cn_n fr) (cn_n tt) (cn_n st) (cn_n en) (cn_n ra) (cn_n de) CA (cn_n so) (cn_n ta) (cn_n sz) li SK (cn_n s.1) (s.2.2.2.2.2.2.1) (s.2.2.2.2.2.2.2) tr tb no ti ne bO bE := by
  have hvb : vp_in (nI b) 10 := vp_in_nI hb (by omega)
  have cb : (nI b).toNatClampNeg = b := nI_clamp (by omega)
  intro l
  induction l with
  | nil =>
    intro i s hi _ _ h
    rw [List.length_nil] at hi
    exact br_t (nI_le (by omega) (by omega)) h
  | cons x l ih =>
    intro i s hi hB hh h
    rw [List.length_cons] at hi hh
    obtain ⟨b1, b2⟩ := hB 0 (by rw [List.length_cons]; omega)
    have b1' : bO i = nI x.1 := b1
    have b2' : bE i = nI x.2 := b2
    have hvi : vp_in (nI i) 5 := vp_in_nI (by omega) (by omega)
    have ci : (nI i).toNatClampNeg = i := nI_clamp (by omega)
    have eh : 64 * nI b + cn_n s.1 (nI b).toNatClampNeg = nI (64 * b + s.1 b) := by rw [cb, cn_n_at, cy_ix]
    have hvh : vp_in (nI (64 * b + s.1 b)) 640 := vp_in_nI (by omega) (by omega)
    have ch : (nI (64 * b + s.1 b)).toNatClampNeg = 64 * b + s.1 b := nI_clamp (by omega)
    have IH := ih (i + 1) (cn_ap ra sz b s x) (by omega) (fun j hj => by
      have := hB (j + 1) (by rw [List.length_cons]; omega)
      rw [show i + (j + 1) = i + 1 + j by omega] at this
      exact this) (by
        show cn_up s.1 b (s.1 b + 1) b + l.length ≤ 60
        rw [cn_up_s]; omega) h
    refine br_f (nI_ge (by omega) (by omega)) ⟨hvb, hvi, by rw [eh]; exact hvh, nm_r (e' := upd s.2.2.2.2.2.2.1 (64 * b + s.1 b) (nI x.1)) (by rw [eh, ch, ci, b1']) ⟨hvb, hvi, by rw [eh]; exact hvh, nm_r (e' := upd s.2.2.2.2.2.2.2 (64 * b + s.1 b) (nI x.2)) (by rw [eh, ch, ci, b2'])
      ⟨hvb, hvb, nm_r (e' := cn_n (cn_up s.1 b (s.1 b + 1))) (by rw [cb, cn_n_at, nI_1, cn_n_up]) (nm_r (nI_1 i) IH)⟩⟩⟩
end
/-- what planning a bundle books, if anything -/
def cn_pl (now cc : Nat) (fr tt st en ra de so ta sz : Nat → Nat) (CA li : Nat → Int32) (s : cn_St) (b : Nat) : Option (List (Nat × Nat)) :=
  match cn_bst cc fr tt st en ra de CA s.2.2.2.1 (ta b) (sz b) (cn_nd so tt s.2.1 b (s.1 b)) (cn_mx (cn_cm ra de sz s.1 s.2.1 s.2.2.1 b) now) with
  | none => none
  | some r => if nI r.2 ≤ li b then some r.1 else none
end
section
section
variable {now cc bc nc : Nat} {bl ba be bA : Int32} {fr tt st en ra de so ta sz hc : Nat → Nat} {oc ob : Nat → Nat → Nat} {CA TA li RT HI HX HB wn wr wx wc wb bC bB SK HY HZ tr tb no ti ne bO bE : Nat → Int32}
theorem cn_nd6 (N : cn_Net cc fr tt st en ra de) (H : cn_Iv cc bc fr tt st en ra so sz (hc, oc, ob, TA, HX, HB, HY, HZ)) {b : Nat} (hb : b < bc) (hs : so b < 6) : cn_nd so tt oc b (hc b) < 6 := by
  cases h : hc b with
  | zero => exact hs
  | succ i =>
    have g : oc b i < cc := (H.1.1 b i hb (by show i < hc b; omega)).1
    exact (N.2 _ g).2.1
theorem cn_mayOf (N : cn_Net cc fr tt st en ra de) {z goal node time : Nat} {r : cn_R} (h : cn_bst cc fr tt st en ra de CA TA goal z node time = some r) :
    r.1 ≠ [] ∧ r.1.length ≤ 5 ∧ (∀ x, x ∈ r.1 → cn_may cc st en ra z TA x) ∧ cn_ch fr tt node r.1 ∧ (r.1.map Prod.fst).Nodup ∧ (∀ i, i + 1 < r.1.length → tt (r.1.getD i (0, 0)).1 ≠ goal) := by
  obtain ⟨l, a⟩ := r
  obtain ⟨q1, q2, q3, q4, q5⟩ := cn_res (fun k hk => (N.2 k hk).2.2.1) h
  obtain ⟨m1, m2⟩ := cn_wkMay l node time a q3
  exact ⟨q1, q2, m1, m2, q4, cn_ng l [] node q5⟩
theorem cn_may10 (N : cn_Net cc fr tt st en ra de) {z : Nat} {x : Nat × Nat} (h : cn_may cc st en ra z TA x) : x.1 < 10 ∧ 1 ≤ ra x.1 ∧ ra x.1 ≤ 9 ∧ x.2 + cn_tk ra x.1 z ≤ 100 := by
  obtain ⟨h1, h2, h3, h4⟩ := h
  obtain ⟨n1, n2, n3, n4, n5, n6, n7, n8⟩ := N.2 x.1 h1
  have := N.1
  exact ⟨by omega, n6, n7, by omega⟩
theorem cx_plan22 (N : cn_Net cc fr tt st en ra de) (H : cn_Iv cc bc fr tt st en ra so sz (hc, oc, ob, TA, HX, HB, HY, HZ)) (hbc : bc ≤ 10) {b time : Nat} (hb : b < bc) (hso : so b < 6) (hta : ta b < 6) (hz1 : 1 ≤ sz b) (hz2 : sz b ≤ 30) (hh : hc b ≤ 50) (ht : time ≤ 200000) :
    ∃ (wn' wr' wx' wc' wb' : cn_A) (bl' ba' : Int32) (bC' bB' : cn_A), ∀ (post : SX → Prop) (p : Int32), p = nI time →
      (cn_bst cc fr tt st en ra de CA TA (ta b) (sz b) (cn_nd so tt oc b (hc b)) time = none → post ((nI now), (nI cc), (nI bc), bl', ba', (cn_n fr), (cn_n tt), (cn_n st), (cn_n en), (cn_n ra), (cn_n de), CA, TA, (cn_n so), (cn_n ta), (cn_n sz), li, RT, HI, (cn_n hc), HX, HB, wn', wr', wx', wc', wb', bC', bB')) →
      (∀ r, cn_bst cc fr tt st en ra de CA TA (ta b) (sz b) (cn_nd so tt oc b (hc b)) time = some r → ¬ nI r.2 ≤ li b → post ((nI now), (nI cc), (nI bc), bl', ba', (cn_n fr), (cn_n tt), (cn_n st), (cn_n en), (cn_n ra), (cn_n de), CA, TA, (cn_n so), (cn_n ta), (cn_n sz), li, RT, HI, (cn_n hc), HX, HB, wn', wr', wx', wc', wb', bC', bB')) →
      (∀ r, cn_bst cc fr tt st en ra de CA TA (ta b) (sz b) (cn_nd so tt oc b (hc b)) time = some r → nI r.2 ≤ li b →
        post ((nI now), (nI cc), (nI bc), bl', ba', (cn_n fr), (cn_n tt), (cn_n st), (cn_n en), (cn_n ra), (cn_n de), CA, ((r.1.foldl (cn_ap ra sz b) (hc, oc, ob, TA, HX, HB, HY, HZ)).2.2.2.1), (cn_n so), (cn_n ta), (cn_n sz), li, (upd RT b 1), HI, (cn_n (r.1.foldl (cn_ap ra sz b) (hc, oc, ob, TA, HX, HB, HY, HZ)).1), ((r.1.foldl (cn_ap ra sz b) (hc, oc, ob, TA, HX, HB, HY, HZ)).2.2.2.2.1), ((r.1.foldl (cn_ap ra sz b) (hc, oc, ob, TA, HX, HB, HY, HZ)).2.2.2.2.2.1), wn', wr', wx', wc', wb', bC', bB')) →
      wX_plan_22 post (nI b) p (nI now) (nI cc) (nI bc) bl ba (cn_n fr) (cn_n tt) (cn_n st) (cn_n en) (cn_n ra) (cn_n de) CA TA (cn_n so) (cn_n ta) (cn_n sz) li RT HI (cn_n hc) HX HB wn wr wx wc wb bC bB := by
  have hvb : vp_in (nI b) 10 := vp_in_nI (by omega) (by omega)
  have cb : (nI b).toNatClampNeg = b := nI_clamp (by omega)
  obtain ⟨wn', wr', wx', wc', wb', bl', ba', bC', bB', f1, f2⟩ := cx_find (now := now) (bc := bc) (bl := bl) (ba := ba) (so := so) (ta := ta) (sz := sz) (hc := hc) (CA := CA) (TA := TA) (li := li) (RT := RT) (HI := HI) (HX := HX) (HB := HB) (wn := wn) (wr := wr) (wx := wx) (wc := wc) (wb := wb) (bC := bC) (bB := bB) (goal := ta b) (z := sz b) N hz1 hz2 hta (cn_nd6 N H hb hso) ht
  refine ⟨wn', wr', wx', wc', wb', bl', ba', bC', bB', ?_⟩
  intro post p ep h0 h1 h2
  rw [ep]
  refine cx_lastN N H hbc hb ⟨hvb, hvb, f2 _ _ _ _ _ rfl (by rw [cb]; rfl) (by rw [cb]; rfl) rfl ?_⟩
  cases hr : cn_bst cc fr tt st en ra de CA TA (ta b) (sz b) (cn_nd so tt oc b (hc b)) time with
  | none =>
    rw [hr] at f1
    have hb0 : bl' = 0 := f1
    exact br_t (by rw [hb0]; decide) (h0 hr)
  | some r =>
    rw [hr] at f1
    obtain ⟨b1, b2, b3, b4, b5, b6⟩ := f1
    have hne : ¬ bl' ≤ 0 := by rw [b4]; exact nI_nle (List.length_pos_iff.mpr b1) (by omega)
    by_cases hc1 : nI r.2 ≤ li b
    · have hlt : ¬ (li (nI b).toNatClampNeg < ba') := by rw [cb, b5]; exact Int32.not_lt.mpr hc1
      obtain ⟨m1, m2, m3, m4, m5, m6⟩ := cn_mayOf N hr
      refine br_f hne ⟨hvb, br_f hlt ?_⟩
      have hp := h2 r hr hc1
      rw [b4] at hp
      rw [b4]
      exact ⟨r.1.length + 1, cx_book (by omega) hz2 m2 r.1 0 (hc, oc, ob, TA, HX, HB, HY, HZ) (by omega) (fun j hj => by rw [Nat.zero_add]; exact b6 j hj) (fun x hx => cn_may10 N (m3 x hx)) (by show hc b + r.1.length ≤ 60; omega) hp⟩
    · have hlt : li (nI b).toNatClampNeg < ba' := by rw [cb, b5]; exact Int32.not_le.mp hc1
      exact br_f hne ⟨hvb, br_t hlt (h1 r hr hc1)⟩
theorem cn_pl_n {s : cn_St} {b : Nat} (h : cn_bst cc fr tt st en ra de CA s.2.2.2.1 (ta b) (sz b) (cn_nd so tt s.2.1 b (s.1 b)) (cn_mx (cn_cm ra de sz s.1 s.2.1 s.2.2.1 b) now) = none) : cn_pl now cc fr tt st en ra de so ta sz CA li s b = none := by
  unfold cn_pl; rw [h]
theorem cn_pl_l {s : cn_St} {b : Nat} {r : cn_R} (h : cn_bst cc fr tt st en ra de CA s.2.2.2.1 (ta b) (sz b) (cn_nd so tt s.2.1 b (s.1 b)) (cn_mx (cn_cm ra de sz s.1 s.2.1 s.2.2.1 b) now) = some r) (h2 : ¬ nI r.2 ≤ li b) : cn_pl now cc fr tt st en ra de so ta sz CA li s b = none := by
  unfold cn_pl; rw [h]; exact if_neg h2
theorem cn_pl_s {s : cn_St} {b : Nat} {r : cn_R} (h : cn_bst cc fr tt st en ra de CA s.2.2.2.1 (ta b) (sz b) (cn_nd so tt s.2.1 b (s.1 b)) (cn_mx (cn_cm ra de sz s.1 s.2.1 s.2.2.1 b) now) = some r) (h2 : nI r.2 ≤ li b) : cn_pl now cc fr tt st en ra de so ta sz CA li s b = some r.1 := by
  unfold cn_pl; rw [h]; exact if_pos h2
theorem cx_plan (N : cn_Net cc fr tt st en ra de) (H : cn_Iv cc bc fr tt st en ra so sz (hc, oc, ob, TA, HX, HB, HY, HZ)) (hbc : bc ≤ 10) {b : Nat} (hb : b < bc) (hso : so b < 6) (hta : ta b < 6) (hz1 : 1 ≤ sz b) (hz2 : sz b ≤ 30) (hh : hc b ≤ 50) (hnow : now ≤ 102400) :
    ∃ (wn' wr' wx' wc' wb' : cn_A) (bl' ba' : Int32) (bC' bB' : cn_A), ∀ (post : SX → Prop),
      (cn_pl now cc fr tt st en ra de so ta sz CA li (hc, oc, ob, TA, HX, HB, HY, HZ) b = none → post ((nI now), (nI cc), (nI bc), bl', ba', (cn_n fr), (cn_n tt), (cn_n st), (cn_n en), (cn_n ra), (cn_n de), CA, TA, (cn_n so), (cn_n ta), (cn_n sz), li, RT, HI, (cn_n hc), HX, HB, wn', wr', wx', wc', wb', bC', bB')) →
      (∀ l, cn_pl now cc fr tt st en ra de so ta sz CA li (hc, oc, ob, TA, HX, HB, HY, HZ) b = some l →
        post ((nI now), (nI cc), (nI bc), bl', ba', (cn_n fr), (cn_n tt), (cn_n st), (cn_n en), (cn_n ra), (cn_n de), CA, ((l.foldl (cn_ap ra sz b) (hc, oc, ob, TA, HX, HB, HY, HZ)).2.2.2.1), (cn_n so), (cn_n ta), (cn_n sz), li, (upd RT b 1), HI, (cn_n (l.foldl (cn_ap ra sz b) (hc, oc, ob, TA, HX, HB, HY, HZ)).1), ((l.foldl (cn_ap ra sz b) (hc, oc, ob, TA, HX, HB, HY, HZ)).2.2.2.2.1), ((l.foldl (cn_ap ra sz b) (hc, oc, ob, TA, HX, HB, HY, HZ)).2.2.2.2.2.1), wn', wr', wx', wc', wb', bC', bB')) →
      wpX_plan post ((nI now), (nI cc), (nI bc), bl, ba, (cn_n fr), (cn_n tt), (cn_n st), (cn_n en), (cn_n ra), (cn_n de), CA, TA, (cn_n so), (cn_n ta), (cn_n sz), li, RT, HI, (cn_n hc), HX, HB, wn, wr, wx, wc, wb, bC, bB) (nI b) := by
  have hcm := cn_cm_le N H hb
  have ht := cn_mx_le (a := cn_cm ra de sz hc oc ob b) (b := now) (n := 200000) (by omega) (by omega)
  obtain ⟨wn', wr', wx', wc', wb', bl', ba', bC', bB', f⟩ := cx_plan22 (now := now) (bl := bl) (ba := ba) (CA := CA) (li := li) (RT := RT) (HI := HI) (wn := wn) (wr := wr) (wx := wx) (wc := wc) (wb := wb) (bC := bC) (bB := bB) N H hbc hb hso hta hz1 hz2 hh ht
  refine ⟨wn', wr', wx', wc', wb', bl', ba', bC', bB', ?_⟩
  intro post h0 h1
  have g := fun p ep => f post p ep (fun hr => h0 (cn_pl_n (s := (hc, oc, ob, TA, HX, HB, HY, HZ)) hr)) (fun r hr hl => h0 (cn_pl_l (s := (hc, oc, ob, TA, HX, HB, HY, HZ)) hr hl)) (fun r hr hl => h1 r.1 (cn_pl_s (s := (hc, oc, ob, TA, HX, HB, HY, HZ)) hr hl))
  unfold wpX_plan
  dsimp only
  refine cx_lastC N H hbc hb hz2 (fun h => ?_) (fun h => ?_)
  · refine br_t ?_ (g _ ?_)
    · exact Int32.le_trans (show (-1 : Int32) ≤ 0 by decide) (nI_pos' (by omega))
    · rw [cn_cm_0 h]; rfl
  · by_cases hle : cn_cm ra de sz hc oc ob b ≤ now
    · refine br_t (nI_le hle (by omega)) (g _ ?_)
      unfold cn_mx; rw [if_neg (by omega)]
    · refine br_f (nI_ge (by omega) (by omega)) (g _ ?_)
      unfold cn_mx; rw [if_pos (by omega)]
end
end
section
section
variable {now cc bc nc : Nat} {bl ba be bA : Int32} {fr tt st en ra de so ta sz hc : Nat → Nat} {oc ob : Nat → Nat → Nat} {CA TA li RT HI HX HB wn wr wx wc wb bC bB SK HY HZ tr tb no ti ne bO bE : Nat → Int32}
theorem cy_plan24 (N : cn_Net cc fr tt st en ra de) (H : cn_Iv cc bc fr tt st en ra so sz (hc, oc, ob, TA, HX, HB, HY, HZ)) (hbc : bc ≤ 10) (hsz : ∀ b, b < bc → 1 ≤ sz b ∧ sz b ≤ 30) {b time : Nat} (hb : b < bc) (hso : so b < 6) (hta : ta b < 6) (hng : cn_nd so tt oc b (hc b) ≠ ta b) (hh : hc b ≤ 50) (ht : time ≤ 200000) :
    ∃ (tr' tb' no' ti' ne' : cn_A) (be' bA' : Int32) (bO' bE' : cn_A), ∀ (post : SY → Prop) (p : Int32), p = nI time →
      (cn_bst cc fr tt st en ra de CA TA (ta b) (sz b) (cn_nd so tt oc b (hc b)) time = none → post ((nI now), (nI cc), (nI bc), be', bA', (cn_n fr), (cn_n tt), (cn_n st), (cn_n en), (cn_n ra), (cn_n de), CA, (cn_n so), (cn_n ta), (cn_n sz), li, (upd SK b 1), (cn_n hc), HY, HZ, tr', tb', no', ti', ne', bO', bE')) →
      (∀ r, cn_bst cc fr tt st en ra de CA TA (ta b) (sz b) (cn_nd so tt oc b (hc b)) time = some r → ¬ nI r.2 ≤ li b → post ((nI now), (nI cc), (nI bc), be', bA', (cn_n fr), (cn_n tt), (cn_n st), (cn_n en), (cn_n ra), (cn_n de), CA, (cn_n so), (cn_n ta), (cn_n sz), li, (upd SK b 1), (cn_n hc), HY, HZ, tr', tb', no', ti', ne', bO', bE')) →
      (∀ r, cn_bst cc fr tt st en ra de CA TA (ta b) (sz b) (cn_nd so tt oc b (hc b)) time = some r → nI r.2 ≤ li b →
        post ((nI now), (nI cc), (nI bc), be', bA', (cn_n fr), (cn_n tt), (cn_n st), (cn_n en), (cn_n ra), (cn_n de), CA, (cn_n so), (cn_n ta), (cn_n sz), li, (upd SK b 0), (cn_n (r.1.foldl (cn_ap ra sz b) (hc, oc, ob, TA, HX, HB, HY, HZ)).1), ((r.1.foldl (cn_ap ra sz b) (hc, oc, ob, TA, HX, HB, HY, HZ)).2.2.2.2.2.2.1), ((r.1.foldl (cn_ap ra sz b) (hc, oc, ob, TA, HX, HB, HY, HZ)).2.2.2.2.2.2.2), tr', tb', no', ti', ne', bO', bE')) →
      wY_plan_24 post (nI b) p (nI now) (nI cc) (nI bc) be bA (cn_n fr) (cn_n tt) (cn_n st) (cn_n en) (cn_n ra) (cn_n de) CA (cn_n so) (cn_n ta) (cn_n sz) li SK (cn_n hc) HY HZ tr tb no ti ne bO bE := by
  have hvb : vp_in (nI b) 10 := vp_in_nI (by omega) (by omega)
  have cb : (nI b).toNatClampNeg = b := nI_clamp (by omega)
  obtain ⟨hz1, hz2⟩ := hsz b hb
  obtain ⟨tr', tb', no', ti', ne', be', bA', bO', bE', f1, f2⟩ := cy_find (now := now) (be := be) (bA := bA) (ta := ta) (CA := CA) (li := li) (SK := SK) (tr := tr) (tb := tb) (no := no) (ti := ti) (ne := ne) (bO := bO) (bE := bE) (goal := ta b) (z := sz b) N H hbc hsz hz1 hz2 hta (cn_nd6 N H hb hso) ht hng
  refine ⟨tr', tb', no', ti', ne', be', bA', bO', bE', ?_⟩
  intro post p ep h0 h1 h2
  rw [ep]
  refine cy_lastN N H hbc hb ⟨hvb, hvb, f2 _ _ _ _ _ rfl rfl (by rw [cb]; rfl) (by rw [cb]; rfl) (fun hr => ?_) (fun r hr => ?_)⟩
  · exact br_t rfl ⟨hvb, nm_r (e' := upd SK b 1) (by rw [cb, cx_b1]) ⟨hvb, br_f (by rw [cb, pk_us]; decide) (h0 hr)⟩⟩
  · rw [hr] at f1
    obtain ⟨b1, b2, b3, b4, b5, b6⟩ := f1
    by_cases hc1 : nI r.2 ≤ li b
    · obtain ⟨m1, m2, m3, m4, m5, m6⟩ := cn_mayOf N hr
      have hp := h2 r hr hc1
      rw [b4] at hp
      refine br_f (by decide) ⟨hvb, br_t (by rw [cb, b5]; exact hc1) ⟨hvb, nm_r (e' := upd SK b 0) (by rw [cb, cx_b0]) ⟨hvb, br_t (by rw [cb, pk_us]) ?_⟩⟩⟩
      rw [b4]
      exact ⟨r.1.length + 1, cy_book (by omega) m2 r.1 0 (hc, oc, ob, TA, HX, HB, HY, HZ) (by omega) (fun j hj => by rw [Nat.zero_add]; exact b6 j hj) (by show hc b + r.1.length ≤ 60; omega) hp⟩
    · exact br_f (by decide) ⟨hvb, br_f (by rw [cb, b5]; exact hc1) ⟨hvb, nm_r (e' := upd SK b 1) (by rw [cb, cx_b1]) ⟨hvb, br_f (by rw [cb, pk_us]; decide) (h1 r hr hc1)⟩⟩⟩
theorem cy_plan (N : cn_Net cc fr tt st en ra de) (H : cn_Iv cc bc fr tt st en ra so sz (hc, oc, ob, TA, HX, HB, HY, HZ)) (hbc : bc ≤ 10) (hsz : ∀ b, b < bc → 1 ≤ sz b ∧ sz b ≤ 30) {b : Nat} (hb : b < bc) (hso : so b < 6) (hta : ta b < 6) (hng : cn_nd so tt oc b (hc b) ≠ ta b) (hh : hc b ≤ 50) (hnow : now ≤ 102400) :
    ∃ (tr' tb' no' ti' ne' : cn_A) (be' bA' : Int32) (bO' bE' : cn_A), ∀ (post : SY → Prop),
      (cn_pl now cc fr tt st en ra de so ta sz CA li (hc, oc, ob, TA, HX, HB, HY, HZ) b = none → post ((nI now), (nI cc), (nI bc), be', bA', (cn_n fr), (cn_n tt), (cn_n st), (cn_n en), (cn_n ra), (cn_n de), CA, (cn_n so), (cn_n ta), (cn_n sz), li, (upd SK b 1), (cn_n hc), HY, HZ, tr', tb', no', ti', ne', bO', bE')) →
      (∀ l, cn_pl now cc fr tt st en ra de so ta sz CA li (hc, oc, ob, TA, HX, HB, HY, HZ) b = some l →
        post ((nI now), (nI cc), (nI bc), be', bA', (cn_n fr), (cn_n tt), (cn_n st), (cn_n en), (cn_n ra), (cn_n de), CA, (cn_n so), (cn_n ta), (cn_n sz), li, (upd SK b 0), (cn_n (l.foldl (cn_ap ra sz b) (hc, oc, ob, TA, HX, HB, HY, HZ)).1), ((l.foldl (cn_ap ra sz b) (hc, oc, ob, TA, HX, HB, HY, HZ)).2.2.2.2.2.2.1), ((l.foldl (cn_ap ra sz b) (hc, oc, ob, TA, HX, HB, HY, HZ)).2.2.2.2.2.2.2), tr', tb', no', ti', ne', bO', bE')) →
      wpY_plan post ((nI now), (nI cc), (nI bc), be, bA, (cn_n fr), (cn_n tt), (cn_n st), (cn_n en), (cn_n ra), (cn_n de), CA, (cn_n so), (cn_n ta), (cn_n sz), li, SK, (cn_n hc), HY, HZ, tr, tb, no, ti, ne, bO, bE) (nI b) := by
  have hcm := cn_cm_le N H hb
  have ht := cn_mx_le (a := cn_cm ra de sz hc oc ob b) (b := now) (n := 200000) (by omega) (by omega)
  obtain ⟨tr', tb', no', ti', ne', be', bA', bO', bE', f⟩ := cy_plan24 (now := now) (be := be) (bA := bA) (CA := CA) (li := li) (SK := SK) (tr := tr) (tb := tb) (no := no) (ti := ti) (ne := ne) (bO := bO) (bE := bE) N H hbc hsz hb hso hta hng hh ht
  refine ⟨tr', tb', no', ti', ne', be', bA', bO', bE', ?_⟩
  intro post h0 h1
  have g := fun p ep => f post p ep (fun hr => h0 (cn_pl_n (s := (hc, oc, ob, TA, HX, HB, HY, HZ)) hr)) (fun r hr hl => h0 (cn_pl_l (s := (hc, oc, ob, TA, HX, HB, HY, HZ)) hr hl)) (fun r hr hl => h1 r.1 (cn_pl_s (s := (hc, oc, ob, TA, HX, HB, HY, HZ)) hr hl))
  have hz2 := (hsz b hb).2
  unfold wpY_plan
  dsimp only
  refine cy_lastT N H hbc hb hz2 ?_
  by_cases hle : cn_cm ra de sz hc oc ob b ≤ now
  · refine br_t (nI_le hle (by omega)) (g _ ?_)
    unfold cn_mx; rw [if_neg (by omega)]
  · refine br_f (nI_ge (by omega) (by omega)) (cy_lastT N H hbc hb hz2 (g _ ?_))
    unfold cn_mx; rw [if_pos (by omega)]
end
end
section
/-- what holds of both sides' states; Q: the bundles whose being stuck is told by both -/
def cn_In (now cc bc nc : Nat) (fr tt st en ra de so ta sz : Nat → Nat) (CA RT SK : Nat → Int32) (s : cn_St) (Q : Nat → Prop) : Prop :=
  now ≤ 102400 ∧ cn_Net cc fr tt st en ra de ∧ bc ≤ 10 ∧ cn_Ca cc nc CA ∧ cn_Iv cc bc fr tt st en ra so sz s ∧ cn_Bn bc nc tt so ta sz s.1 s.2.1 RT ∧
  (∀ b, bc ≤ b → b < 10 → s.1 b = 0 ∧ RT b = 0) ∧ (∀ b, b < bc → Q b → (SK b = 0 ∧ RT b = 1) ∨ (SK b = 1 ∧ RT b = 0))
section
variable {now cc bc nc : Nat} {fr tt st en ra de so ta sz hc : Nat → Nat} {oc ob : Nat → Nat → Nat} {CA TA li RT HX HB SK HY HZ : Nat → Int32} {Q : Nat → Prop}
theorem cn_In_Q {Q' : Nat → Prop} {s : cn_St} (h : cn_In now cc bc nc fr tt st en ra de so ta sz CA RT SK s Q) (hq : ∀ b, b < bc → Q' b → Q b) : cn_In now cc bc nc fr tt st en ra de so ta sz CA RT SK s Q' :=
  ⟨h.1, h.2.1, h.2.2.1, h.2.2.2.1, h.2.2.2.2.1, h.2.2.2.2.2.1, h.2.2.2.2.2.2.1, fun b hb q => h.2.2.2.2.2.2.2 b hb (hq b hb q)⟩
theorem cn_pl_i {s : cn_St} {b : Nat} {l : List (Nat × Nat)} (h : cn_pl now cc fr tt st en ra de so ta sz CA li s b = some l) : ∃ r, cn_bst cc fr tt st en ra de CA s.2.2.2.1 (ta b) (sz b) (cn_nd so tt s.2.1 b (s.1 b)) (cn_mx (cn_cm ra de sz s.1 s.2.1 s.2.2.1 b) now) = some r ∧ r.1 = l := by
  unfold cn_pl at h
  cases hr : cn_bst cc fr tt st en ra de CA s.2.2.2.1 (ta b) (sz b) (cn_nd so tt s.2.1 b (s.1 b)) (cn_mx (cn_cm ra de sz s.1 s.2.1 s.2.2.1 b) now) with
  | none => rw [hr] at h; exact absurd h (by simp)
  | some r =>
    rw [hr] at h
    dsimp only at h
    by_cases hc : nI r.2 ≤ li b
    · rw [if_pos hc] at h
      exact ⟨r, rfl, Option.some.inj h⟩
    · rw [if_neg hc] at h
      exact absurd h (by simp)
theorem cn_In_none {s : cn_St} (I : cn_In now cc bc nc fr tt st en ra de so ta sz CA RT SK s Q) {b : Nat} (hR : RT b = 0) : cn_In now cc bc nc fr tt st en ra de so ta sz CA RT (upd SK b 1) s (fun j => Q j ∨ j = b) := by
  obtain ⟨i1, i2, i3, i4, i5, i6, i7, i8⟩ := I
  refine ⟨i1, i2, i3, i4, i5, i6, i7, ?_⟩
  intro j hj hq
  by_cases e : j = b
  · rw [e, pk_us]; exact Or.inr ⟨rfl, hR⟩
  · rw [pk_un e]; exact i8 j hj (hq.resolve_right e)
theorem cn_In_some {s : cn_St} (I : cn_In now cc bc nc fr tt st en ra de so ta sz CA RT SK s Q) {b : Nat} (hb : b < bc) (hR : RT b = 0) {l : List (Nat × Nat)} (h : cn_pl now cc fr tt st en ra de so ta sz CA li s b = some l) :
    cn_In now cc bc nc fr tt st en ra de so ta sz CA (upd RT b 1) (upd SK b 0) (l.foldl (cn_ap ra sz b) s) (fun j => Q j ∨ j = b) := by
  obtain ⟨i1, i2, i3, i4, i5, i6, i7, i8⟩ := I
  obtain ⟨r, hr, er⟩ := cn_pl_i h
  obtain ⟨m1, m2, m3, m4, m5, m6⟩ := cn_mayOf i2 hr
  rw [er] at m1 m2 m3 m4 m5 m6
  obtain ⟨g1, g2, g3, g4, g5, g6, g7, g8⟩ := i6 b hb
  have hnc := cn_Ca_le i4
  have hh := (g6 hR).1
  obtain ⟨a1, a2, a3, a4⟩ := cn_bookAll i2 i3 hb g3 l s i5 m3 m5 m4 (by omega)
  refine ⟨i1, i2, i3, i4, a1, cn_Bn_book i6 hR hb m1 m2 a2 a3 a4 m6, ?_, ?_⟩
  · intro j h1 h2
    have e : j ≠ b := by omega
    rw [pk_un e, (a2.1 j e).1]
    exact i7 j h1 h2
  · intro j hj hq
    by_cases e : j = b
    · rw [e, pk_us, pk_us]; exact Or.inl ⟨rfl, rfl⟩
    · rw [pk_un e, pk_un e]; exact i8 j hj (hq.resolve_right e)
theorem cn_planXY (I : cn_In now cc bc nc fr tt st en ra de so ta sz CA RT SK (hc, oc, ob, TA, HX, HB, HY, HZ) Q) {b : Nat} (hb : b < bc) (hR : RT b = 0) :
    ∃ (hc' : Nat → Nat) (oc' ob' : Nat → Nat → Nat) (TA' HX' HB' HY' HZ' RT' SK' : Nat → Int32), cn_In now cc bc nc fr tt st en ra de so ta sz CA RT' SK' (hc', oc', ob', TA', HX', HB', HY', HZ') (fun j => Q j ∨ j = b) ∧ (∀ j, j ≠ b → RT' j = RT j) ∧
      (∀ (HI wn wr wx wc wb : cn_A) (bl ba : Int32) (bC bB : cn_A), ∃ (wn' wr' wx' wc' wb' : cn_A) (bl' ba' : Int32) (bC' bB' : cn_A), ∀ (post : SX → Prop),
        post ((nI now), (nI cc), (nI bc), bl', ba', (cn_n fr), (cn_n tt), (cn_n st), (cn_n en), (cn_n ra), (cn_n de), CA, TA', (cn_n so), (cn_n ta), (cn_n sz), li, RT', HI, (cn_n hc'), HX', HB', wn', wr', wx', wc', wb', bC', bB') → wpX_plan post ((nI now), (nI cc), (nI bc), bl, ba, (cn_n fr), (cn_n tt), (cn_n st), (cn_n en), (cn_n ra), (cn_n de), CA, TA, (cn_n so), (cn_n ta), (cn_n sz), li, RT, HI, (cn_n hc), HX, HB, wn, wr, wx, wc, wb, bC, bB) (nI b)) ∧
      (∀ (tr tb no ti ne : cn_A) (be bA : Int32) (bO bE : cn_A), ∃ (tr' tb' no' ti' ne' : cn_A) (be' bA' : Int32) (bO' bE' : cn_A), ∀ (post : SY → Prop),
        post ((nI now), (nI cc), (nI bc), be', bA', (cn_n fr), (cn_n tt), (cn_n st), (cn_n en), (cn_n ra), (cn_n de), CA, (cn_n so), (cn_n ta), (cn_n sz), li, SK', (cn_n hc'), HY', HZ', tr', tb', no', ti', ne', bO', bE') → wpY_plan post ((nI now), (nI cc), (nI bc), be, bA, (cn_n fr), (cn_n tt), (cn_n st), (cn_n en), (cn_n ra), (cn_n de), CA, (cn_n so), (cn_n ta), (cn_n sz), li, SK, (cn_n hc), HY, HZ, tr, tb, no, ti, ne, bO, bE) (nI b)) := by
  have I' := I
  obtain ⟨i1, i2, i3, i4, i5, i6, i7, i8⟩ := I'
  obtain ⟨g1, g2, g3, g4, g5, g6, g7, g8⟩ := i6 b hb
  have hnc := cn_Ca_le i4
  obtain ⟨hh, hng⟩ := g6 hR
  have hh' : hc b ≤ 5 * nc := hh
  have hng' : cn_nd so tt oc b (hc b) ≠ ta b := hng
  have hsz : ∀ b, b < bc → 1 ≤ sz b ∧ sz b ≤ 30 := fun b hb => ⟨(i6 b hb).2.2.1, (i6 b hb).2.2.2.1⟩
  cases hp : cn_pl now cc fr tt st en ra de so ta sz CA li (hc, oc, ob, TA, HX, HB, HY, HZ) b with
  | none =>
    refine ⟨hc, oc, ob, TA, HX, HB, HY, HZ, RT, upd SK b 1, cn_In_none I hR, fun _ _ => rfl, ?_, ?_⟩
    · intro HI wn wr wx wc wb bl ba bC bB
      obtain ⟨wn', wr', wx', wc', wb', bl', ba', bC', bB', f⟩ := cx_plan (now := now) (bl := bl) (ba := ba) (CA := CA) (li := li) (RT := RT) (HI := HI) (wn := wn) (wr := wr) (wx := wx) (wc := wc) (wb := wb) (bC := bC) (bB := bB) i2 i5 i3 hb g1 g2 g3 g4 (by omega) i1
      exact ⟨wn', wr', wx', wc', wb', bl', ba', bC', bB', fun post h => f post (fun _ => h) (fun l hl => absurd (hp.symm.trans hl) (by simp))⟩
    · intro tr tb no ti ne be bA bO bE
      obtain ⟨tr', tb', no', ti', ne', be', bA', bO', bE', f⟩ := cy_plan (now := now) (be := be) (bA := bA) (CA := CA) (li := li) (SK := SK) (tr := tr) (tb := tb) (no := no) (ti := ti) (ne := ne) (bO := bO) (bE := bE) i2 i5 i3 hsz hb g1 g2 hng' (by omega) i1
      exact ⟨tr', tb', no', ti', ne', be', bA', bO', bE', fun post h => f post (fun _ => h) (fun l hl => absurd (hp.symm.trans hl) (by simp))⟩
  | some l =>
    refine ⟨(l.foldl (cn_ap ra sz b) (hc, oc, ob, TA, HX, HB, HY, HZ)).1, (l.foldl (cn_ap ra sz b) (hc, oc, ob, TA, HX, HB, HY, HZ)).2.1, (l.foldl (cn_ap ra sz b) (hc, oc, ob, TA, HX, HB, HY, HZ)).2.2.1, (l.foldl (cn_ap ra sz b) (hc, oc, ob, TA, HX, HB, HY, HZ)).2.2.2.1, (l.foldl (cn_ap ra sz b) (hc, oc, ob, TA, HX, HB, HY, HZ)).2.2.2.2.1, (l.foldl (cn_ap ra sz b) (hc, oc, ob, TA, HX, HB, HY, HZ)).2.2.2.2.2.1, (l.foldl (cn_ap ra sz b) (hc, oc, ob, TA, HX, HB, HY, HZ)).2.2.2.2.2.2.1, (l.foldl (cn_ap ra sz b) (hc, oc, ob, TA, HX, HB, HY, HZ)).2.2.2.2.2.2.2, upd RT b 1, upd SK b 0, cn_In_some I hb hR hp, fun _ hj => pk_un hj, ?_, ?_⟩
    · intro HI wn wr wx wc wb bl ba bC bB
      obtain ⟨wn', wr', wx', wc', wb', bl', ba', bC', bB', f⟩ := cx_plan (now := now) (bl := bl) (ba := ba) (CA := CA) (li := li) (RT := RT) (HI := HI) (wn := wn) (wr := wr) (wx := wx) (wc := wc) (wb := wb) (bC := bC) (bB := bB) i2 i5 i3 hb g1 g2 g3 g4 (by omega) i1
      exact ⟨wn', wr', wx', wc', wb', bl', ba', bC', bB', fun post h => f post (fun hn => absurd (hp.symm.trans hn) (by simp)) (fun l' hl => by
        have e := Option.some.inj (hp.symm.trans hl)
        rw [← e]; exact h)⟩
    · intro tr tb no ti ne be bA bO bE
      obtain ⟨tr', tb', no', ti', ne', be', bA', bO', bE', f⟩ := cy_plan (now := now) (be := be) (bA := bA) (CA := CA) (li := li) (SK := SK) (tr := tr) (tb := tb) (no := no) (ti := ti) (ne := ne) (bO := bO) (bE := bE) i2 i5 i3 hsz hb g1 g2 hng' (by omega) i1
      exact ⟨tr', tb', no', ti', ne', be', bA', bO', bE', fun post h => f post (fun hn => absurd (hp.symm.trans hn) (by simp)) (fun l' hl => by
        have e := Option.some.inj (hp.symm.trans hl)
        rw [← e]; exact h)⟩
theorem cn_retryXY : ∀ (m i : Nat) (hc : Nat → Nat) (oc ob : Nat → Nat → Nat) (TA HX HB HY HZ RT SK : Nat → Int32), i + m = bc → cn_In now cc bc nc fr tt st en ra de so ta sz CA RT SK (hc, oc, ob, TA, HX, HB, HY, HZ) (fun _ => True) →
    ∃ (hc' : Nat → Nat) (oc' ob' : Nat → Nat → Nat) (TA' HX' HB' HY' HZ' RT' SK' : Nat → Int32), cn_In now cc bc nc fr tt st en ra de so ta sz CA RT' SK' (hc', oc', ob', TA', HX', HB', HY', HZ') (fun _ => True) ∧
      (∀ (HI wn wr wx wc wb : cn_A) (bl ba : Int32) (bC bB : cn_A), ∃ (wn' wr' wx' wc' wb' : cn_A) (bl' ba' : Int32) (bC' bB' : cn_A), ∀ (post : SX → Prop),
        post ((nI now), (nI cc), (nI bc), bl', ba', (cn_n fr), (cn_n tt), (cn_n st), (cn_n en), (cn_n ra), (cn_n de), CA, TA', (cn_n so), (cn_n ta), (cn_n sz), li, RT', HI, (cn_n hc'), HX', HB', wn', wr', wx', wc', wb', bC', bB') → wX_retry_2 post (m + 1) (nI i) (nI now) (nI cc) (nI bc) bl ba (cn_n fr) (cn_n tt) (cn_n st) (cn_n en) (cn_n ra) (cn_n de) CA TA (cn_n so) (cn_n ta) (cn_n sz) li RT HI (cn_n hc) HX HB wn wr wx wc wb bC bB) ∧
      (∀ (tr tb no ti ne : cn_A) (be bA : Int32) (bO bE : cn_A), ∃ (tr' tb' no' ti' ne' : cn_A) (be' bA' : Int32) (bO' bE' : cn_A), ∀ (post : SY → Prop),
        post ((nI now), (nI cc), (nI bc), be', bA', (cn_n fr), (cn_n tt), (cn_n st), (cn_n en), (cn_n ra), (cn_n de), CA, (cn_n so), (cn_n ta), (cn_n sz), li, SK', (cn_n hc'), HY', HZ', tr', tb', no', ti', ne', bO', bE') → wY_retry_2 post (m + 1) (nI i) (nI now) (nI cc) (nI bc) be bA (cn_n fr) (cn_n tt) (cn_n st) (cn_n en) (cn_n ra) (cn_n de) CA (cn_n so) (cn_n ta) (cn_n sz) li SK (cn_n hc) HY HZ tr tb no ti ne bO bE) := by
  intro m
  induction m with
  | zero =>
    intro i hc oc ob TA HX HB HY HZ RT SK hi I
    have hbc := I.2.2.1
    exact ⟨hc, oc, ob, TA, HX, HB, HY, HZ, RT, SK, I, fun HI wn wr wx wc wb bl ba bC bB => ⟨wn, wr, wx, wc, wb, bl, ba, bC, bB, fun post h => br_t (nI_le (by omega) (by omega)) h⟩,
      fun tr tb no ti ne be bA bO bE => ⟨tr, tb, no, ti, ne, be, bA, bO, bE, fun post h => br_t (nI_le (by omega) (by omega)) h⟩⟩
  | succ m ih =>
    intro i hc oc ob TA HX HB HY HZ RT SK hi I
    have hbc := I.2.2.1
    have hvi : vp_in (nI i) 10 := vp_in_nI (by omega) (by omega)
    have ci : (nI i).toNatClampNeg = i := nI_clamp (by omega)
    have hge : ¬ nI bc ≤ nI i := nI_ge (by omega) (by omega)
    rcases I.2.2.2.2.2.2.2 i (by omega) trivial with ⟨z1, z2⟩ | ⟨z1, z2⟩
    · obtain ⟨hc', oc', ob', TA', HX', HB', HY', HZ', RT', SK', J, jx, jy⟩ := ih (i + 1) hc oc ob TA HX HB HY HZ RT SK (by omega) I
      refine ⟨hc', oc', ob', TA', HX', HB', HY', HZ', RT', SK', J, ?_, ?_⟩
      · intro HI wn wr wx wc wb bl ba bC bB
        obtain ⟨wn', wr', wx', wc', wb', bl', ba', bC', bB', f⟩ := jx HI wn wr wx wc wb bl ba bC bB
        exact ⟨wn', wr', wx', wc', wb', bl', ba', bC', bB', fun post h => br_f hge ⟨hvi, br_f (by rw [ci, z2]; decide) (nm_r (nI_1 i) (f post h))⟩⟩
      · intro tr tb no ti ne be bA bO bE
        obtain ⟨tr', tb', no', ti', ne', be', bA', bO', bE', f⟩ := jy tr tb no ti ne be bA bO bE
        exact ⟨tr', tb', no', ti', ne', be', bA', bO', bE', fun post h => br_f hge ⟨hvi, br_t (by rw [ci, z1]) (nm_r (nI_1 i) (f post h))⟩⟩
    · obtain ⟨hc1, oc1, ob1, TA1, HX1, HB1, HY1, HZ1, RT1, SK1, J1, _, x1, y1⟩ := cn_planXY (li := li) I (b := i) (by omega) z2
      obtain ⟨hc', oc', ob', TA', HX', HB', HY', HZ', RT', SK', J, jx, jy⟩ := ih (i + 1) hc1 oc1 ob1 TA1 HX1 HB1 HY1 HZ1 RT1 SK1 (by omega) (cn_In_Q J1 (fun _ _ _ => Or.inl trivial))
      refine ⟨hc', oc', ob', TA', HX', HB', HY', HZ', RT', SK', J, ?_, ?_⟩
      · intro HI wn wr wx wc wb bl ba bC bB
        obtain ⟨wn1, wr1, wx1, wc1, wb1, bl1, ba1, bC1, bB1, f1⟩ := x1 HI wn wr wx wc wb bl ba bC bB
        obtain ⟨wn', wr', wx', wc', wb', bl', ba', bC', bB', f⟩ := jx HI wn1 wr1 wx1 wc1 wb1 bl1 ba1 bC1 bB1
        exact ⟨wn', wr', wx', wc', wb', bl', ba', bC', bB', fun post h => br_f hge ⟨hvi, br_t (by rw [ci, z2]) (f1 _ (nm_r (nI_1 i) (f post h)))⟩⟩
      · intro tr tb no ti ne be bA bO bE
        obtain ⟨tr1, tb1, no1, ti1, ne1, be1, bA1, bO1, bE1, f1⟩ := y1 tr tb no ti ne be bA bO bE
        obtain ⟨tr', tb', no', ti', ne', be', bA', bO', bE', f⟩ := jy tr1 tb1 no1 ti1 ne1 be1 bA1 bO1 bE1
        exact ⟨tr', tb', no', ti', ne', be', bA', bO', bE', fun post h => br_f hge ⟨hvi, br_f (by rw [ci, z1]; decide) (f1 _ (nm_r (nI_1 i) (f post h)))⟩⟩
end
end
section
def bt (x : Int32) (i : Nat) : Bool := x.toBitVec.getLsbD i
theorem b_ext {x y : Int32} (h : ∀ i, i < 32 → bt x i = bt y i) : x = y := Int32.toBitVec_inj.mp (BitVec.eq_of_getLsbD_eq (fun i hi => h i hi))
theorem b_or (x y : Int32) (i : Nat) : bt (x ||| y) i = (bt x i || bt y i) := by unfold bt; rw [Int32.toBitVec_or, BitVec.getLsbD_or]
theorem b_and (x y : Int32) (i : Nat) : bt (x &&& y) i = (bt x i && bt y i) := by unfold bt; rw [Int32.toBitVec_and, BitVec.getLsbD_and]
theorem b_xor (x y : Int32) (i : Nat) : bt (x ^^^ y) i = (bt x i ^^ bt y i) := by unfold bt; rw [Int32.toBitVec_xor, BitVec.getLsbD_xor]
theorem b_big {x : Int32} {i : Nat} (h : 32 ≤ i) : bt x i = false := BitVec.getLsbD_of_ge _ _ h
theorem b_0 (i : Nat) : bt 0 i = false := BitVec.getLsbD_zero
theorem s_l : ∀ n, n < 32 → ((nI n &&& 31).toBitVec.smod 32).toNat = n := by decide +kernel
theorem b_shl (n : Nat) (hn : n < 32) (x : Int32) {i : Nat} (hi : i < 32) : bt (x <<< (nI n &&& 31)) i = (decide (n ≤ i) && bt x (i - n)) := by
  unfold bt
  rw [Int32.toBitVec_shiftLeft]
  show (x.toBitVec <<< ((nI n &&& 31).toBitVec.smod 32).toNat).getLsbD i = _
  rw [s_l n hn, BitVec.getLsbD_shiftLeft]
  rcases Nat.lt_or_ge i n with h | h
  · simp [h, Nat.not_le.mpr h]
  · simp [hi, h, Nat.not_lt.mpr h]
theorem b_sshr (n : Nat) (hn : n < 32) (x : Int32) {i : Nat} (hi : i < 32) : bt (x >>> (nI n &&& 31)) i = if n + i < 32 then bt x (n + i) else bt x 31 := by
  unfold bt
  rw [Int32.toBitVec_shiftRight]
  show (x.toBitVec.sshiftRight ((nI n &&& 31).toBitVec.smod 32).toNat).getLsbD i = _
  rw [s_l n hn, BitVec.getLsbD_sshiftRight, BitVec.msb_eq_getLsbD_last]
  simp [hi]
theorem cn_b1 : ∀ i, i < 32 → bt 1 i = decide (i = 0) := by decide +kernel
theorem cn_bit1 (x : Int32) {n : Nat} (hn : n < 32) : ((x >>> (nI n &&& 31)) &&& 1) = 1 ↔ bt x n = true := by
  have h0 : bt (x >>> (nI n &&& 31)) 0 = bt x n := by
    rw [b_sshr n hn x (by omega), if_pos (by omega)]; rfl
  constructor
  · intro h
    have h1 : bt ((x >>> (nI n &&& 31)) &&& 1) 0 = bt 1 0 := by rw [h]
    rw [b_and, h0, cn_b1 0 (by omega)] at h1
    simpa using h1
  · intro h
    apply b_ext
    intro i hi
    rw [b_and, cn_b1 i hi]
    by_cases e : i = 0
    · rw [e, h0, h]; rfl
    · simp [e]
theorem cn_bitS (x : Int32) {n j : Nat} (hn : n < 32) (hj : j < 32) : bt (x ||| ((1 : Int32) <<< (nI n &&& 31))) j = (bt x j || decide (j = n)) := by
  rw [b_or, b_shl n hn 1 hj]
  by_cases h : n ≤ j
  · rw [cn_b1 (j - n) (by omega)]
    congr 1
    by_cases e : j = n
    · simp [e]
    · have : ¬ (j - n = 0) := by omega
      simp [e, this]
  · have : ¬ j = n := by omega
    simp [h, this]
end
section
/-- the first booking of a bundle on contact k that is not wholly out -/
def cn_hF (now k : Nat) (ra sz : Nat → Nat) (oc ob : Nat → Nat → Nat) (b i : Nat) : Bool := decide (oc b i = k ∧ now < ob b i + cn_tk ra k (sz b))
section
variable {now cc bc nc : Nat} {bl ba be bA : Int32} {fr tt st en ra de so ta sz hc : Nat → Nat} {oc ob : Nat → Nat → Nat} {CA TA li RT HI HX HB wn wr wx wc wb bC bB SK HY HZ tr tb no ti ne bO bE : Nat → Int32}
theorem cx_fng15 {post : Int32 → Prop} {b k : Nat} (hnow : now ≤ 102400) (hb : b < 10) (hk : k < 10) (hh : hc b ≤ 60) (htk : cn_tk ra k (sz b) ≤ 38) (hX : ∀ i, i < hc b → HX (b * 100 + i) = nI (oc b i) ∧ HB (b * 100 + i) = nI (ob b i) ∧ oc b i < 10 ∧ ob b i ≤ 200) :
    ∀ (m i : Nat), i + m = hc b → (cn_sr (cn_hF now k ra sz oc ob b) m i = none → post (nI (hc b))) → (∀ j, cn_sr (cn_hF now k ra sz oc ob b) m i = some j → post (nI j)) →
    wX_firstNotGoneOut_15 post (nI b) (nI k) (nI (cn_tk ra k (sz b))) (nI now) (nI cc) (nI bc) bl ba (cn_n fr) (cn_n tt) (cn_n st) (cn_n en) (cn_n ra) (cn_n de) CA TA (cn_n so) (cn_n ta) (cn_n sz) li RT HI (cn_n hc) HX HB wn wr wx wc wb bC bB (m + 1) (nI i) := by
  have hvb : vp_in (nI b) 10 := vp_in_nI hb (by omega)
  have cb : (nI b).toNatClampNeg = b := nI_clamp (by omega)
  intro m
  induction m with
  | zero =>
    intro i hi h0 _
    refine ⟨hvb, br_t (by rw [cb, cn_n_at]; exact nI_le (by omega) (by omega)) ⟨hvb, ?_⟩⟩
    rw [cb]; exact h0 rfl
  | succ m ih =>
    intro i hi h0 h1
    obtain ⟨y1, y2, y3, y4⟩ := hX i (by omega)
    have hvi : vp_in (nI (b * 100 + i)) 1000 := vp_in_nI (by omega) (by omega)
    have ci : (nI (b * 100 + i)).toNatClampNeg = b * 100 + i := nI_clamp (by omega)
    have hge : ¬ cn_n hc (nI b).toNatClampNeg ≤ nI i := by rw [cb, cn_n_at]; exact nI_ge (by omega) (by omega)
    have next : ¬ (oc b i = k ∧ now < ob b i + cn_tk ra k (sz b)) → wX_firstNotGoneOut_15 post (nI b) (nI k) (nI (cn_tk ra k (sz b))) (nI now) (nI cc) (nI bc) bl ba (cn_n fr) (cn_n tt) (cn_n st) (cn_n en) (cn_n ra) (cn_n de) CA TA (cn_n so) (cn_n ta) (cn_n sz) li RT HI (cn_n hc) HX HB wn wr wx wc wb bC bB (m + 1) (nI (i + 1)) := by
      intro hn
      have hF : ¬ cn_hF now k ra sz oc ob b i = true := fun z => hn (of_decide_eq_true z)
      apply ih (i + 1) (by omega)
      · intro z; apply h0; rw [cn_sr, if_neg hF]; exact z
      · intro j z; apply h1; rw [cn_sr, if_neg hF]; exact z
    by_cases c1 : oc b i = k
    · by_cases c2 : now < ob b i + cn_tk ra k (sz b)
      · have hF : cn_hF now k ra sz oc ob b i = true := decide_eq_true ⟨c1, c2⟩
        refine ⟨hvb, br_f hge (nm_r (cx_ix b i) ⟨hvi, br_t (by rw [ci, y1, c1]) ⟨hvi, br_f ?_ (h1 i (by rw [cn_sr, if_pos hF]))⟩⟩)⟩
        rw [ci, y2, nI_add]; exact nI_ge c2 (by omega)
      · refine ⟨hvb, br_f hge (nm_r (cx_ix b i) ⟨hvi, br_t (by rw [ci, y1, c1]) ⟨hvi, br_t ?_ (nm_r (nI_1 i) (next (fun z => c2 z.2)))⟩⟩)⟩
        rw [ci, y2, nI_add]; exact nI_le (by omega) (by omega)
    · refine ⟨hvb, br_f hge (nm_r (cx_ix b i) ⟨hvi, br_f ?_ (nm_r (nI_1 i) (next (fun z => c1 z.1)))⟩)⟩
      rw [ci, y1, nI_eq (by omega) (by omega)]; exact c1
theorem cy_hit2 {post : Int32 → Prop} {b k : Nat} (hnow : now ≤ 102400) (hb : b < 10) (hk : k < 10) (h1 : 1 ≤ ra k) (h2 : ra k ≤ 9) (h3 : sz b ≤ 30) (hh : hc b ≤ 60) (hY : ∀ i, i < hc b → HY (64 * b + i) = nI (oc b i) ∧ HZ (64 * b + i) = nI (ob b i) ∧ oc b i < 10 ∧ ob b i ≤ 200) :
    ∀ (m i : Nat), i + m = hc b → (cn_sr (cn_hF now k ra sz oc ob b) m i = none → post (-1)) → (∀ j, cn_sr (cn_hF now k ra sz oc ob b) m i = some j → post (nI j)) →
    wY_hitAt_2 post (nI b) (nI k) (nI now) (nI cc) (nI bc) be bA (cn_n fr) (cn_n tt) (cn_n st) (cn_n en) (cn_n ra) (cn_n de) CA (cn_n so) (cn_n ta) (cn_n sz) li SK (cn_n hc) HY HZ tr tb no ti ne bO bE (m + 1) (nI i) := by
  have hvb : vp_in (nI b) 10 := vp_in_nI hb (by omega)
  have cb : (nI b).toNatClampNeg = b := nI_clamp (by omega)
  have htk := cn_tk_le (ra := ra) (k := k) (s := sz b) h2 h3
  intro m
  induction m with
  | zero =>
    intro i hi h0 _
    exact ⟨hvb, br_t (by rw [cb, cn_n_at]; exact nI_le (by omega) (by omega)) (h0 rfl)⟩
  | succ m ih =>
    intro i hi hp0 hp1
    obtain ⟨y1, y2, y3, y4⟩ := hY i (by omega)
    have hvi : vp_in (64 * nI b + nI i) 640 := by rw [cy_ix]; exact vp_in_nI (by omega) (by omega)
    have ci : (64 * nI b + nI i).toNatClampNeg = 64 * b + i := by rw [cy_ix]; exact nI_clamp (by omega)
    have hge : ¬ cn_n hc (nI b).toNatClampNeg ≤ nI i := by rw [cb, cn_n_at]; exact nI_ge (by omega) (by omega)
    have next : ¬ (oc b i = k ∧ now < ob b i + cn_tk ra k (sz b)) → wY_hitAt_2 post (nI b) (nI k) (nI now) (nI cc) (nI bc) be bA (cn_n fr) (cn_n tt) (cn_n st) (cn_n en) (cn_n ra) (cn_n de) CA (cn_n so) (cn_n ta) (cn_n sz) li SK (cn_n hc) HY HZ tr tb no ti ne bO bE (m + 1) (nI (i + 1)) := by
      intro hn
      have hF : ¬ cn_hF now k ra sz oc ob b i = true := fun z => hn (of_decide_eq_true z)
      apply ih (i + 1) (by omega)
      · intro z; apply hp0; rw [cn_sr, if_neg hF]; exact z
      · intro j z; apply hp1; rw [cn_sr, if_neg hF]; exact z
    by_cases c1 : oc b i = k
    · refine ⟨hvb, br_f hge ⟨hvi, br_t (by rw [ci, y1, c1]) ⟨hvi, hvb, cy_ticksE (z := sz b) rfl (by rw [cb]; rfl) hk h1 h2 h3 ?_⟩⟩⟩
      rw [ci, y2, nI_add]
      by_cases c2 : now < ob b i + cn_tk ra k (sz b)
      · have hF : cn_hF now k ra sz oc ob b i = true := decide_eq_true ⟨c1, c2⟩
        exact br_f (nI_ge c2 (by omega)) (hp1 i (by rw [cn_sr, if_pos hF]))
      · exact br_t (nI_le (by omega) (by omega)) (nm_r (nI_1 i) (next (fun z => c2 z.2)))
    · refine ⟨hvb, br_f hge ⟨hvi, br_f ?_ (nm_r (nI_1 i) (next (fun z => c1 z.1)))⟩⟩
      rw [ci, y1, nI_eq (by omega) (by omega)]; exact c1
theorem cx_lose {post : SX → Prop} (N : cn_Net cc fr tt st en ra de) (H : cn_Iv cc bc fr tt st en ra so sz (hc, oc, ob, TA, HX, HB, HY, HZ)) (hbc : bc ≤ 10) {b j : Nat} (hb : b < bc) (hs : sz b ≤ 30) :
    ∀ (m i : Nat) (T : Nat → Int32), i + m = hc b → post ((nI now), (nI cc), (nI bc), bl, ba, (cn_n fr), (cn_n tt), (cn_n st), (cn_n en), (cn_n ra), (cn_n de), CA, (cn_gb ra sz b (hc, oc, ob, TA, HX, HB, HY, HZ) m i T), (cn_n so), (cn_n ta), (cn_n sz), li, (upd RT b 0), HI, (cn_n (cn_up hc b j)), HX, HB, wn, wr, wx, wc, wb, bC, bB) →
    wX_loseFrom_2 post (nI b) (nI j) (m + 1) (nI i) (nI now) (nI cc) (nI bc) bl ba (cn_n fr) (cn_n tt) (cn_n st) (cn_n en) (cn_n ra) (cn_n de) CA T (cn_n so) (cn_n ta) (cn_n sz) li RT HI (cn_n hc) HX HB wn wr wx wc wb bC bB := by
  obtain ⟨H1, H2, H3, H4, H5, H6⟩ := cn_IvU H
  have hvb : vp_in (nI b) 10 := vp_in_nI (by omega) (by omega)
  have cb : (nI b).toNatClampNeg = b := nI_clamp (by omega)
  have hh := H6 b (by omega)
  have N1 := N.1
  intro m
  induction m with
  | zero =>
    intro i T hi h
    exact ⟨hvb, br_t (by rw [cb, cn_n_at]; exact nI_le (by omega) (by omega)) ⟨hvb, nm_r (e' := cn_n (cn_up hc b j)) (by rw [cb, cn_n_up]) ⟨hvb, nm_r (e' := upd RT b 0) (by rw [cb, cx_b0]) h⟩⟩⟩
  | succ m ih =>
    intro i T hi h
    obtain ⟨g1, g2, g3, g4⟩ := H1.1 b i hb (by omega)
    obtain ⟨n1, n2, n3, n4, n5, n6, n7, n8⟩ := N.2 (oc b i) g1
    have y1 := H2 b i (by omega) (by omega)
    have y2 := H3 b i (by omega) (by omega)
    have hvi : vp_in (nI (b * 100 + i)) 1000 := vp_in_nI (by omega) (by omega)
    have ci : (nI (b * 100 + i)).toNatClampNeg = b * 100 + i := nI_clamp (by omega)
    exact ⟨hvb, br_f (by rw [cb, cn_n_at]; exact nI_ge (by omega) (by omega)) (nm_r (cx_ix b i) ⟨hvi, hvb, cx_ticksE (k := oc b i) (z := sz b) (by rw [ci]; exact y1) (by rw [cb]; rfl) (by omega) n6 n7 hs
      ⟨hvi, hvi, cx_mark (k := oc b i) (t := ob b i) cx_b0 (by rw [ci]; exact y1) (by rw [ci]; exact y2) rfl (by omega) (by omega) (nm_r (nI_1 i) (ih (i + 1) _ (by omega) h))⟩⟩)⟩
end
end
section
section
variable {now cc bc nc : Nat} {fr tt st en ra de so ta sz : Nat → Nat} {CA li : Nat → Int32}
theorem cn_c1_b {bits : Int32} {HI : Nat → Int32} {i : Nat} (hi : i < 10) (h : ∀ j, j < 10 → (bt bits j = true ↔ j < i ∧ HI j = 1)) : ∀ j, j < 10 → (bt (bits ||| ((1 : Int32) <<< (nI i &&& 31))) j = true ↔ j < i + 1 ∧ upd HI i 1 j = 1) := by
  intro j hj
  rw [cn_bitS bits (by omega) (by omega)]
  by_cases e : j = i
  · rw [e, pk_us]; simp
  · rw [pk_un e]
    have := h j hj
    rw [show (bt bits j || decide (j = i)) = bt bits j by simp [e], this]
    constructor
    · rintro ⟨a, b⟩; exact ⟨by omega, b⟩
    · rintro ⟨a, b⟩; exact ⟨by omega, b⟩
theorem cn_c1_n {bits : Int32} {HI : Nat → Int32} {i : Nat} (h : ∀ j, j < 10 → (bt bits j = true ↔ j < i ∧ HI j = 1)) : ∀ j, j < 10 → (bt bits j = true ↔ j < i + 1 ∧ upd HI i 0 j = 1) := by
  intro j hj
  rw [h j hj]
  by_cases e : j = i
  · rw [e, pk_us]
    constructor
    · rintro ⟨a, _⟩; omega
    · rintro ⟨_, b⟩; exact absurd b (by decide)
  · rw [pk_un e]
    constructor
    · rintro ⟨a, b⟩; exact ⟨by omega, b⟩
    · rintro ⟨a, b⟩; exact ⟨by omega, b⟩
theorem cn_c1 {k : Nat} (hk : k < cc) (SK : Nat → Int32) : ∀ (m i h : Nat) (hc : Nat → Nat) (oc ob : Nat → Nat → Nat) (TA HX HB HY HZ RT HI : Nat → Int32) (bits : Int32), i + m = bc →
    cn_In now cc bc nc fr tt st en ra de so ta sz CA RT SK (hc, oc, ob, TA, HX, HB, HY, HZ) (fun b => i ≤ b ∨ HI b = 0) → (∀ b, b < bc → hc b ≤ 5 * nc) → (∀ b, b < i → (HI b = 0 ∨ HI b = 1) ∧ (HI b = 1 → RT b = 0)) → (∀ j, j < 10 → (bt bits j = true ↔ j < i ∧ HI j = 1)) →
    ∃ (h' : Nat) (hc' : Nat → Nat) (oc' ob' : Nat → Nat → Nat) (TA' HX' HB' HY' HZ' RT' HI' : Nat → Int32) (bits' : Int32), cn_In now cc bc nc fr tt st en ra de so ta sz CA RT' SK (hc', oc', ob', TA', HX', HB', HY', HZ') (fun b => HI' b = 0) ∧
      (∀ b, b < bc → (HI' b = 0 ∨ HI' b = 1) ∧ (HI' b = 1 → RT' b = 0)) ∧ (∀ j, j < 10 → (bt bits' j = true ↔ j < bc ∧ HI' j = 1)) ∧
      (∀ (wn wr wx wc wb : cn_A) (bl ba : Int32) (bC bB : cn_A) (post : Int32 → SX → Prop), (∃ n, wX_cancel_95 post (nI h') n 0 (nI now) (nI cc) (nI bc) bl ba (cn_n fr) (cn_n tt) (cn_n st) (cn_n en) (cn_n ra) (cn_n de) CA TA' (cn_n so) (cn_n ta) (cn_n sz) li RT' HI' (cn_n hc') HX' HB' wn wr wx wc wb bC bB) → wX_cancel_30 post (nI k) (m + 1) (nI h) (nI i) (nI now) (nI cc) (nI bc) bl ba (cn_n fr) (cn_n tt) (cn_n st) (cn_n en) (cn_n ra) (cn_n de) CA TA (cn_n so) (cn_n ta) (cn_n sz) li RT HI (cn_n hc) HX HB wn wr wx wc wb bC bB) ∧
      (∀ (tr tb no ti ne : cn_A) (be bA : Int32) (bO bE : cn_A) (post : Int32 → SY → Prop), (∃ n, wY_cancel_88 post bits' (nI h') n 0 (nI now) (nI cc) (nI bc) be bA (cn_n fr) (cn_n tt) (cn_n st) (cn_n en) (cn_n ra) (cn_n de) CA (cn_n so) (cn_n ta) (cn_n sz) li SK (cn_n hc') HY' HZ' tr tb no ti ne bO bE) → wY_cancel_37 post (nI k) (nI now) (nI cc) (nI bc) be bA (m + 1) bits (nI h) (nI i) (cn_n fr) (cn_n tt) (cn_n st) (cn_n en) (cn_n ra) (cn_n de) CA (cn_n so) (cn_n ta) (cn_n sz) li SK (cn_n hc) HY HZ tr tb no ti ne bO bE) := by
  intro m
  induction m with
  | zero =>
    intro i h hc oc ob TA HX HB HY HZ RT HI bits hi I hle hH hB
    have hbc := I.2.2.1
    have ei : i = bc := by omega
    refine ⟨h, hc, oc, ob, TA, HX, HB, HY, HZ, RT, HI, bits, cn_In_Q I (fun b _ z => Or.inr z), fun b hb => hH b (by omega), fun j hj => by rw [← ei]; exact hB j hj, ?_, ?_⟩
    · intro wn wr wx wc wb bl ba bC bB post g
      exact br_t (nI_le (by omega) (by omega)) g
    · intro tr tb no ti ne be bA bO bE post g
      exact br_t (nI_le (by omega) (by omega)) g
  | succ m ih =>
    intro i h hc oc ob TA HX HB HY HZ RT HI bits hi I hle hH hB
    have I' := I
    obtain ⟨i1, i2, i3, i4, i5, i6, i7, i8⟩ := I'
    obtain ⟨H1, H2, H3, H4, H5, H6⟩ := cn_IvU i5
    have N1 := i2.1
    obtain ⟨n1, n2, n3, n4, n5, n6, n7, n8⟩ := i2.2 k hk
    have hib : i < bc := by omega
    obtain ⟨g1, g2, g3, g4, g5, g6, g7, g8⟩ := i6 i hib
    have htk := cn_tk_le (ra := ra) (k := k) (s := sz i) n7 g4
    have hvi : vp_in (nI i) 10 := vp_in_nI (by omega) (by omega)
    have ci : (nI i).toNatClampNeg = i := nI_clamp (by omega)
    have hge : ¬ nI bc ≤ nI i := nI_ge (by omega) (by omega)
    have hh := H6 i (by omega)
    have hbk : ∀ a, a < hc i → oc i a < 10 ∧ ob i a ≤ 200 := by
      intro a ha
      obtain ⟨q1, q2, q3, q4⟩ := H1.1 i a hib ha
      have := (i2.2 _ q1).2.2.2.2.1
      omega
    cases hf : cn_sr (cn_hF now k ra sz oc ob i) (hc i) 0 with
    | none =>
      obtain ⟨h', hc', oc', ob', TA', HX', HB', HY', HZ', RT', HI', bits', J, j1, j2, jx, jy⟩ := ih (i + 1) h hc oc ob TA HX HB HY HZ RT (upd HI i 0) bits (by omega)
        (cn_In_Q I (fun b _ z => by
          by_cases e : b = i
          · exact Or.inl (by omega)
          · rw [pk_un e] at z
            rcases z with z | z
            · exact Or.inl (by omega)
            · exact Or.inr z)) hle
        (fun b hb => by
          by_cases e : b = i
          · rw [e, pk_us]; exact ⟨Or.inl rfl, fun z => absurd z (by decide)⟩
          · rw [pk_un e]; exact hH b (by omega)) (cn_c1_n hB)
      refine ⟨h', hc', oc', ob', TA', HX', HB', HY', HZ', RT', HI', bits', J, j1, j2, ?_, ?_⟩
      · intro wn wr wx wc wb bl ba bC bB post g
        have G := jx wn wr wx wc wb bl ba bC bB post g
        refine br_f hge ⟨hvi, ?_⟩
        refine cx_ticksE (z := sz i) rfl (by rw [ci]; rfl) (by omega) n6 n7 g4 ⟨hc i + 1, cx_fng15 (oc := oc) (ob := ob) i1 (by omega) (by omega) hh htk (fun a ha => ⟨H2 i a (by omega) ha, H3 i a (by omega) ha, (hbk a ha).1, (hbk a ha).2⟩) (hc i) 0 (by omega) (fun _ => ?_) (fun j hj => absurd (hf.symm.trans hj) (by simp))⟩
        refine ⟨hvi, br_t (by rw [ci, cn_n_at]; exact nI_le (Nat.le_refl _) (by omega)) ⟨hvi, nm_r (e' := upd HI i 0) (by rw [ci, cx_b0]) ⟨hvi, br_t (by rw [ci, pk_us]) (nm_r (nI_1 i) G)⟩⟩⟩
      · intro tr tb no ti ne be bA bO bE post g
        have G := jy tr tb no ti ne be bA bO bE post g
        refine br_f hge ⟨hc i + 1, cy_hit2 (oc := oc) (ob := ob) i1 (by omega) (by omega) n6 n7 g4 hh (fun a ha => ⟨H4 i a (by omega) ha, H5 i a (by omega) ha, (hbk a ha).1, (hbk a ha).2⟩) (hc i) 0 (by omega) (fun _ => ?_) (fun j hj => absurd (hf.symm.trans hj) (by simp))⟩
        exact br_t (by decide) (nm_r (nI_1 i) G)
    | some j =>
      obtain ⟨s1, s2, s3, s4⟩ := (cn_sr_some _ _ _ _).mp hf
      have hj : j < hc i := by omega
      have hIv := cn_Iv_cut i2 i5 hib (j := j) (by show j ≤ hc i; omega)
      have hBn := cn_Bn_cut (s := (hc, oc, ob, TA, HX, HB, HY, HZ)) i6 (b := i) (j := j) (by show j < hc i; omega) (hle i hib)
      have J0 : cn_In now cc bc nc fr tt st en ra de so ta sz CA (upd RT i 0) SK (cn_cutS ra sz i j (hc, oc, ob, TA, HX, HB, HY, HZ)) (fun b => i + 1 ≤ b ∨ upd HI i 1 b = 0) := by
        refine ⟨i1, i2, i3, i4, hIv, hBn, ?_, ?_⟩
        · intro b q1 q2
          have e : b ≠ i := by omega
          rw [pk_un e]
          show cn_up hc i j b = 0 ∧ RT b = 0
          rw [cn_up_n e]; exact i7 b q1 q2
        · intro b hb z
          by_cases e : b = i
          · rw [e, pk_us] at z
            rcases z with z | z
            · omega
            · exact absurd z (by decide)
          · rw [pk_un e] at z ⊢
            apply i8 b hb
            rcases z with z | z
            · exact Or.inl (by omega)
            · exact Or.inr z
      obtain ⟨h', hc', oc', ob', TA', HX', HB', HY', HZ', RT', HI', bits', J, j1, j2, jx, jy⟩ := ih (i + 1) (h + 1) (cn_up hc i j) oc ob (cn_gb ra sz i (hc, oc, ob, TA, HX, HB, HY, HZ) (hc i - j) j TA) HX HB HY HZ (upd RT i 0) (upd HI i 1) (bits ||| ((1 : Int32) <<< (nI i &&& 31))) (by omega) J0
        (fun b hb => by
          have := hle b hb
          by_cases e : b = i
          · rw [e, cn_up_s]; rw [e] at this; omega
          · rw [cn_up_n e]; exact this)
        (fun b hb => by
          by_cases e : b = i
          · rw [e, pk_us, pk_us]; exact ⟨Or.inr rfl, fun _ => rfl⟩
          · rw [pk_un e, pk_un e]; exact hH b (by omega)) (cn_c1_b (by omega) hB)
      refine ⟨h', hc', oc', ob', TA', HX', HB', HY', HZ', RT', HI', bits', J, j1, j2, ?_, ?_⟩
      · intro wn wr wx wc wb bl ba bC bB post g
        have G := jx wn wr wx wc wb bl ba bC bB post g
        refine br_f hge ⟨hvi, ?_⟩
        refine cx_ticksE (z := sz i) rfl (by rw [ci]; rfl) (by omega) n6 n7 g4 ⟨hc i + 1, cx_fng15 (oc := oc) (ob := ob) i1 (by omega) (by omega) hh htk (fun a ha => ⟨H2 i a (by omega) ha, H3 i a (by omega) ha, (hbk a ha).1, (hbk a ha).2⟩) (hc i) 0 (by omega) (fun hn => absurd (hf.symm.trans hn) (by simp)) (fun j' hj' => ?_)⟩
        have ej : j' = j := Option.some.inj (hj'.symm.trans hf)
        rw [ej]
        refine ⟨hvi, br_f (by rw [ci, cn_n_at]; exact nI_ge hj (by omega)) ⟨hvi, nm_r (e' := upd HI i 1) (by rw [ci, cx_b1]) ⟨hvi, br_f (by rw [ci, pk_us]; decide) ⟨hc i - j + 1, cx_lose i2 i5 i3 hib g4 (hc i - j) j TA (by omega) (nm_r (nI_1 h) (nm_r (nI_1 i) G))⟩⟩⟩⟩
      · intro tr tb no ti ne be bA bO bE post g
        have G := jy tr tb no ti ne be bA bO bE post g
        refine br_f hge ⟨hc i + 1, cy_hit2 (oc := oc) (ob := ob) i1 (by omega) (by omega) n6 n7 g4 hh (fun a ha => ⟨H4 i a (by omega) ha, H5 i a (by omega) ha, (hbk a ha).1, (hbk a ha).2⟩) (hc i) 0 (by omega) (fun hn => absurd (hf.symm.trans hn) (by simp)) (fun j' hj' => ?_)⟩
        have ej : j' = j := Option.some.inj (hj'.symm.trans hf)
        rw [ej]
        exact br_f (nI_pos (by omega)) ⟨hvi, nm_r (e' := cn_n (cn_up hc i j)) (by rw [ci, cn_n_up]) (nm_e (nm_r (nI_1 h) (nm_r (nI_1 i) G)))⟩
theorem cn_c2 {HI : Nat → Int32} {bits hn : Int32} (hB : ∀ j, j < 10 → (bt bits j = true ↔ j < bc ∧ HI j = 1)) : ∀ (m i : Nat) (hc : Nat → Nat) (oc ob : Nat → Nat → Nat) (TA HX HB HY HZ RT SK : Nat → Int32), i + m = bc →
    cn_In now cc bc nc fr tt st en ra de so ta sz CA RT SK (hc, oc, ob, TA, HX, HB, HY, HZ) (fun b => HI b = 0 ∨ b < i) → (∀ b, i ≤ b → b < bc → (HI b = 0 ∨ HI b = 1) ∧ (HI b = 1 → RT b = 0)) →
    ∃ (hc' : Nat → Nat) (oc' ob' : Nat → Nat → Nat) (TA' HX' HB' HY' HZ' RT' SK' : Nat → Int32), cn_In now cc bc nc fr tt st en ra de so ta sz CA RT' SK' (hc', oc', ob', TA', HX', HB', HY', HZ') (fun _ => True) ∧
      (∀ (wn wr wx wc wb : cn_A) (bl ba : Int32) (bC bB : cn_A), ∃ (wn' wr' wx' wc' wb' : cn_A) (bl' ba' : Int32) (bC' bB' : cn_A), ∀ (post : Int32 → SX → Prop),
        post hn ((nI now), (nI cc), (nI bc), bl', ba', (cn_n fr), (cn_n tt), (cn_n st), (cn_n en), (cn_n ra), (cn_n de), CA, TA', (cn_n so), (cn_n ta), (cn_n sz), li, RT', HI, (cn_n hc'), HX', HB', wn', wr', wx', wc', wb', bC', bB') → wX_cancel_95 post hn (m + 1) (nI i) (nI now) (nI cc) (nI bc) bl ba (cn_n fr) (cn_n tt) (cn_n st) (cn_n en) (cn_n ra) (cn_n de) CA TA (cn_n so) (cn_n ta) (cn_n sz) li RT HI (cn_n hc) HX HB wn wr wx wc wb bC bB) ∧
      (∀ (tr tb no ti ne : cn_A) (be bA : Int32) (bO bE : cn_A), ∃ (tr' tb' no' ti' ne' : cn_A) (be' bA' : Int32) (bO' bE' : cn_A), ∀ (post : Int32 → SY → Prop),
        post hn ((nI now), (nI cc), (nI bc), be', bA', (cn_n fr), (cn_n tt), (cn_n st), (cn_n en), (cn_n ra), (cn_n de), CA, (cn_n so), (cn_n ta), (cn_n sz), li, SK', (cn_n hc'), HY', HZ', tr', tb', no', ti', ne', bO', bE') → wY_cancel_88 post bits hn (m + 1) (nI i) (nI now) (nI cc) (nI bc) be bA (cn_n fr) (cn_n tt) (cn_n st) (cn_n en) (cn_n ra) (cn_n de) CA (cn_n so) (cn_n ta) (cn_n sz) li SK (cn_n hc) HY HZ tr tb no ti ne bO bE) := by
  intro m
  induction m with
  | zero =>
    intro i hc oc ob TA HX HB HY HZ RT SK hi I hH
    have hbc := I.2.2.1
    obtain ⟨hc', oc', ob', TA', HX', HB', HY', HZ', RT', SK', J, jx, jy⟩ := cn_retryXY (li := li) bc 0 hc oc ob TA HX HB HY HZ RT SK (by omega) (cn_In_Q I (fun b hb _ => Or.inr (by omega)))
    refine ⟨hc', oc', ob', TA', HX', HB', HY', HZ', RT', SK', J, ?_, ?_⟩
    · intro wn wr wx wc wb bl ba bC bB
      obtain ⟨wn', wr', wx', wc', wb', bl', ba', bC', bB', f⟩ := jx HI wn wr wx wc wb bl ba bC bB
      exact ⟨wn', wr', wx', wc', wb', bl', ba', bC', bB', fun post h => br_t (nI_le (by omega) (by omega)) ⟨bc + 1, f _ h⟩⟩
    · intro tr tb no ti ne be bA bO bE
      obtain ⟨tr', tb', no', ti', ne', be', bA', bO', bE', f⟩ := jy tr tb no ti ne be bA bO bE
      exact ⟨tr', tb', no', ti', ne', be', bA', bO', bE', fun post h => br_t (nI_le (by omega) (by omega)) ⟨bc + 1, f _ h⟩⟩
  | succ m ih =>
    intro i hc oc ob TA HX HB HY HZ RT SK hi I hH
    have hbc := I.2.2.1
    have hvi : vp_in (nI i) 10 := vp_in_nI (by omega) (by omega)
    have ci : (nI i).toNatClampNeg = i := nI_clamp (by omega)
    have hge : ¬ nI bc ≤ nI i := nI_ge (by omega) (by omega)
    obtain ⟨hz, hR⟩ := hH i (by omega) (by omega)
    have hbit := cn_bit1 bits (n := i) (by omega)
    rw [hB i (by omega)] at hbit
    rcases hz with hz | hz
    · have nb : ¬ ((bits >>> (nI i &&& 31)) &&& 1) = 1 := fun y => by
        have := (hbit.mp y).2
        rw [hz] at this
        exact absurd this (by decide)
      obtain ⟨hc', oc', ob', TA', HX', HB', HY', HZ', RT', SK', J, jx, jy⟩ := ih (i + 1) hc oc ob TA HX HB HY HZ RT SK (by omega)
        (cn_In_Q I (fun b _ y => by
          by_cases e : b = i
          · exact Or.inl (by rw [e]; exact hz)
          · rcases y with y | y
            · exact Or.inl y
            · exact Or.inr (by omega))) (fun b q1 q2 => hH b (by omega) q2)
      refine ⟨hc', oc', ob', TA', HX', HB', HY', HZ', RT', SK', J, ?_, ?_⟩
      · intro wn wr wx wc wb bl ba bC bB
        obtain ⟨wn', wr', wx', wc', wb', bl', ba', bC', bB', f⟩ := jx wn wr wx wc wb bl ba bC bB
        exact ⟨wn', wr', wx', wc', wb', bl', ba', bC', bB', fun post h => br_f hge ⟨hvi, br_t (by rw [ci, hz]) (nm_r (nI_1 i) (f post h))⟩⟩
      · intro tr tb no ti ne be bA bO bE
        obtain ⟨tr', tb', no', ti', ne', be', bA', bO', bE', f⟩ := jy tr tb no ti ne be bA bO bE
        exact ⟨tr', tb', no', ti', ne', be', bA', bO', bE', fun post h => br_f hge (br_f nb (nm_r (nI_1 i) (f post h)))⟩
    · have yb : ((bits >>> (nI i &&& 31)) &&& 1) = 1 := hbit.mpr ⟨by omega, hz⟩
      obtain ⟨hc1, oc1, ob1, TA1, HX1, HB1, HY1, HZ1, RT1, SK1, J1, r1, x1, y1⟩ := cn_planXY (li := li) I (b := i) (by omega) (hR hz)
      obtain ⟨hc', oc', ob', TA', HX', HB', HY', HZ', RT', SK', J, jx, jy⟩ := ih (i + 1) hc1 oc1 ob1 TA1 HX1 HB1 HY1 HZ1 RT1 SK1 (by omega)
        (cn_In_Q J1 (fun b _ y => by
          rcases y with y | y
          · exact Or.inl (Or.inl y)
          · by_cases e : b = i
            · exact Or.inr e
            · exact Or.inl (Or.inr (by omega)))) (fun b q1 q2 => by rw [r1 b (by omega)]; exact hH b (by omega) q2)
      refine ⟨hc', oc', ob', TA', HX', HB', HY', HZ', RT', SK', J, ?_, ?_⟩
      · intro wn wr wx wc wb bl ba bC bB
        obtain ⟨wn1, wr1, wx1, wc1, wb1, bl1, ba1, bC1, bB1, f1⟩ := x1 HI wn wr wx wc wb bl ba bC bB
        obtain ⟨wn', wr', wx', wc', wb', bl', ba', bC', bB', f⟩ := jx wn1 wr1 wx1 wc1 wb1 bl1 ba1 bC1 bB1
        exact ⟨wn', wr', wx', wc', wb', bl', ba', bC', bB', fun post h => br_f hge ⟨hvi, br_f (by rw [ci, hz]; decide) (f1 _ (nm_r (nI_1 i) (f post h)))⟩⟩
      · intro tr tb no ti ne be bA bO bE
        obtain ⟨tr1, tb1, no1, ti1, ne1, be1, bA1, bO1, bE1, f1⟩ := y1 tr tb no ti ne be bA bO bE
        obtain ⟨tr', tb', no', ti', ne', be', bA', bO', bE', f⟩ := jy tr1 tb1 no1 ti1 ne1 be1 bA1 bO1 bE1
        exact ⟨tr', tb', no', ti', ne', be', bA', bO', bE', fun post h => br_f hge (br_t yb (f1 _ (nm_r (nI_1 i) (f post h))))⟩
end
end
section
/-- one net, one set of bookings: the component's ticks are those of the bookings; the searches' scratch is free -/
def i_Rel (k : Nat) (u : SX) (v : SY) : Prop :=
  ∃ (now cc bc nc : Nat) (fr tt st en ra de so ta sz hc : Nat → Nat) (oc ob : Nat → Nat → Nat) (CA TA li RT HI HX HB wn wr wx wc wb bC bB SK HY HZ tr tb no ti ne bO bE : Nat → Int32) (bl ba be bA : Int32),
    u = ((nI now), (nI cc), (nI bc), bl, ba, (cn_n fr), (cn_n tt), (cn_n st), (cn_n en), (cn_n ra), (cn_n de), CA, TA, (cn_n so), (cn_n ta), (cn_n sz), li, RT, HI, (cn_n hc), HX, HB, wn, wr, wx, wc, wb, bC, bB) ∧ v = ((nI now), (nI cc), (nI bc), be, bA, (cn_n fr), (cn_n tt), (cn_n st), (cn_n en), (cn_n ra), (cn_n de), CA, (cn_n so), (cn_n ta), (cn_n sz), li, SK, (cn_n hc), HY, HZ, tr, tb, no, ti, ne, bO, bE) ∧ now ≤ 50 * k ∧ cn_In now cc bc nc fr tt st en ra de so ta sz CA RT SK (hc, oc, ob, TA, HX, HB, HY, HZ) (fun _ => True)
section
variable {k now cc bc nc : Nat} {fr tt st en ra de so ta sz hc : Nat → Nat} {oc ob : Nat → Nat → Nat} {CA TA li RT HI HX HB wn wr wx wc wb bC bB SK HY HZ tr tb no ti ne bO bE : Nat → Int32} {bl ba be bA : Int32}
theorem cn_mk (h : now ≤ 50 * k) (I : cn_In now cc bc nc fr tt st en ra de so ta sz CA RT SK (hc, oc, ob, TA, HX, HB, HY, HZ) (fun _ => True)) : i_Rel k ((nI now), (nI cc), (nI bc), bl, ba, (cn_n fr), (cn_n tt), (cn_n st), (cn_n en), (cn_n ra), (cn_n de), CA, TA, (cn_n so), (cn_n ta), (cn_n sz), li, RT, HI, (cn_n hc), HX, HB, wn, wr, wx, wc, wb, bC, bB) ((nI now), (nI cc), (nI bc), be, bA, (cn_n fr), (cn_n tt), (cn_n st), (cn_n en), (cn_n ra), (cn_n de), CA, (cn_n so), (cn_n ta), (cn_n sz), li, SK, (cn_n hc), HY, HZ, tr, tb, no, ti, ne, bO, bE) :=
  ⟨now, cc, bc, nc, fr, tt, st, en, ra, de, so, ta, sz, hc, oc, ob, CA, TA, li, RT, HI, HX, HB, wn, wr, wx, wc, wb, bC, bB, SK, HY, HZ, tr, tb, no, ti, ne, bO, bE, bl, ba, be, bA, rfl, rfl, h, I⟩
end
theorem i_up {k : Nat} {u : SX} {v : SY} (h : i_Rel k u v) : i_Rel (k + 4) u v := by
  obtain ⟨now, cc, bc, nc, fr, tt, st, en, ra, de, so, ta, sz, hc, oc, ob, CA, TA, li, RT, HI, HX, HB, wn, wr, wx, wc, wb, bC, bB, SK, HY, HZ, tr, tb, no, ti, ne, bO, bE, bl, ba, be, bA, e1, e2, h1, I⟩ := h
  rw [e1, e2]
  exact cn_mk (by omega) I
theorem cn_In0 : cn_In 0 0 0 0 (fun _ => 0) (fun _ => 0) (fun _ => 0) (fun _ => 0) (fun _ => 0) (fun _ => 0) (fun _ => 0) (fun _ => 0) (fun _ => 0) (fun _ => 0) (fun _ => 0) (fun _ => 0) (fun _ => 0, fun _ _ => 0, fun _ _ => 0, fun _ => 0, fun _ => 0, fun _ => 0, fun _ => 0, fun _ => 0) (fun _ => True) := by
  refine ⟨by omega, ⟨by omega, fun k hk => by omega⟩, by omega, ⟨fun k => Or.inl rfl, fun k _ => rfl, ?_⟩, ⟨⟨fun b i hb => by omega, ?_, ?_⟩, ?_, ?_, ?_, ?_, ?_⟩, fun b hb => by omega, fun b _ _ => ⟨rfl, rfl⟩, fun b hb => by omega⟩
  · exact (cn_ct_0 10 (fun t _ h => absurd h (show ¬ (0 : Int32) = 1 by decide))).symm
  · intro b i b' i' k t h; exact absurd h.1 (by omega)
  · intro k t _ _
    refine ⟨Or.inl rfl, ?_⟩
    constructor
    · intro h; exact absurd h (by show ¬ (0 : Int32) = 1; decide)
    · rintro ⟨b, i, h⟩; exact absurd h.1 (by omega)
  · intro b i _ hi; exact absurd hi (Nat.not_lt_zero i)
  · intro b i _ hi; exact absurd hi (Nat.not_lt_zero i)
  · intro b i _ hi; exact absurd hi (Nat.not_lt_zero i)
  · intro b i _ hi; exact absurd hi (Nat.not_lt_zero i)
  · intro b _; exact Nat.zero_le _
theorem i_vc0 : wpX_init (fun u => wpY_init (fun v => i_Rel 0 u v)) :=
  cn_mk (k := 0) (Nat.zero_le _) cn_In0
theorem cn_i6 : (6 : Int32) = nI 6 := rfl
theorem cn_i101 : (101 : Int32) = nI 101 := rfl
theorem cn_i10 : (10 : Int32) = nI 10 := rfl
theorem cn_d6 {e : Nat} (h : e < 2 ^ 31) : nI e / 6 = nI (e / 6) := by rw [cn_i6, pk_div h (by omega) (by omega)]
theorem cn_r6 {e : Nat} (h : e < 2 ^ 31) : nI e - nI e / 6 * 6 = nI (e % 6) := by rw [cn_i6, pk_rem h (by omega) (by omega)]
theorem cn_d101 {e : Nat} (h : e < 2 ^ 31) : nI e / 101 = nI (e / 101) := by rw [cn_i101, pk_div h (by omega) (by omega)]
theorem cn_r101 {e : Nat} (h : e < 2 ^ 31) : nI e - nI e / 101 * 101 = nI (e % 101) := by rw [cn_i101, pk_rem h (by omega) (by omega)]
theorem cn_d10 {e : Nat} (h : e < 2 ^ 31) : nI e / 10 = nI (e / 10) := by rw [cn_i10, pk_div h (by omega) (by omega)]
theorem cn_r10 {e : Nat} (h : e < 2 ^ 31) : nI e - nI e / 10 * 10 = nI (e % 10) := by rw [cn_i10, pk_rem h (by omega) (by omega)]
theorem cn_n6 : ¬ (6 : Int32) = 0 := by decide
theorem cn_n101 : ¬ (101 : Int32) = 0 := by decide
theorem cn_n10 : ¬ (10 : Int32) = 0 := by decide
theorem cn_leT {x : Int32} {a : Nat} (ha : a < 2 ^ 31) (h : nI a ≤ x) : (a : Int) ≤ x.toInt := by
  rw [Int32.le_iff_toInt_le, nI_toInt ha] at h; exact h
theorem cn_geN {x : Int32} {a b : Nat} (ha : a < 2 ^ 31) (hb : b < 2 ^ 31) (hab : b < a) (h : nI a ≤ x) : ¬ x < 0 ∧ nI b < x ∧ ¬ x ≤ nI b := by
  have h1 := cn_leT ha h
  have h0 : (0 : Int32).toInt = 0 := by decide
  refine ⟨?_, ?_, ?_⟩
  · rw [Int32.lt_iff_toInt_lt, h0]; omega
  · rw [Int32.lt_iff_toInt_lt, nI_toInt hb]; omega
  · rw [Int32.le_iff_toInt_le, nI_toInt hb]; omega
theorem cn_ltN {x : Int32} {b : Nat} (hb : b < 2 ^ 31) (h : x < 0) : x < nI b ∨ b = 0 := by
  have h0 : (0 : Int32).toInt = 0 := by decide
  rw [Int32.lt_iff_toInt_lt, h0] at h
  by_cases e : b = 0
  · exact Or.inr e
  · left; rw [Int32.lt_iff_toInt_lt, nI_toInt hb]; omega
section
variable {k now cc bc nc : Nat} {fr tt st en ra de so ta sz hc : Nat → Nat} {oc ob : Nat → Nat → Nat} {CA TA li RT HI HX HB wn wr wx wc wb bC bB SK HY HZ tr tb no ti ne bO bE : Nat → Int32} {bl ba be bA : Int32}
theorem cn_ends (x : Int32) : (∃ e, e < 36 ∧ e / 6 ≠ e % 6 ∧ x = nI e ∧ (∀ post : Int32 → Prop, post 1 → wpX_areEnds post x) ∧ (∀ post : Int32 → Prop, post 0 → wpY_badEnds post ((nI now), (nI cc), (nI bc), be, bA, (cn_n fr), (cn_n tt), (cn_n st), (cn_n en), (cn_n ra), (cn_n de), CA, (cn_n so), (cn_n ta), (cn_n sz), li, SK, (cn_n hc), HY, HZ, tr, tb, no, ti, ne, bO, bE) x)) ∨ ((∀ post : Int32 → Prop, post 0 → wpX_areEnds post x) ∧ (∀ post : Int32 → Prop, post 1 → wpY_badEnds post ((nI now), (nI cc), (nI bc), be, bA, (cn_n fr), (cn_n tt), (cn_n st), (cn_n en), (cn_n ra), (cn_n de), CA, (cn_n so), (cn_n ta), (cn_n sz), li, SK, (cn_n hc), HY, HZ, tr, tb, no, ti, ne, bO, bE) x)) := by
  rcases pk_ix x (n := 36) (by omega) with h | h | ⟨e, he, rfl⟩
  · exact Or.inr ⟨fun post p => br_t h p, fun post p => br_t h p⟩
  · obtain ⟨h1, h2, h3⟩ := cn_geN (b := 35) (by omega) (by omega) (by omega) h
    exact Or.inr ⟨fun post p => br_f h1 (br_t h p), fun post p => br_f h1 (br_t h2 p)⟩
  · have h0 : ¬ nI e < 0 := nI_pos (by omega)
    have h1 : ¬ (36 : Int32) ≤ nI e := nI_ge (b := 36) he (by decide)
    have h2 : ¬ (35 : Int32) < nI e := nI_nlt (a := 35) (by omega) (by omega)
    by_cases c : e / 6 = e % 6
    · have q : nI e / 6 = nI e - nI e / 6 * 6 := by rw [cn_r6 (by omega), cn_d6 (by omega), c]
      exact Or.inr ⟨fun post p => br_f h0 (br_f h1 ⟨cn_n6, cn_n6, br_t q p⟩), fun post p => br_f h0 (br_f h2 ⟨cn_n6, cn_n6, br_t q p⟩)⟩
    · have q : ¬ nI e / 6 = nI e - nI e / 6 * 6 := by rw [cn_r6 (by omega), cn_d6 (by omega), nI_eq (by omega) (by omega)]; exact c
      exact Or.inl ⟨e, he, c, rfl, fun post p => br_f h0 (br_f h1 ⟨cn_n6, cn_n6, br_f q p⟩), fun post p => br_f h0 (br_f h2 ⟨cn_n6, cn_n6, br_f q p⟩)⟩
theorem cn_size (x : Int32) : (∃ z, 1 ≤ z ∧ z ≤ 30 ∧ x = nI z ∧ (∀ post : Int32 → Prop, post 1 → wpX_isSize post x) ∧ (∀ post : Int32 → Prop, post 0 → wpY_badSize post ((nI now), (nI cc), (nI bc), be, bA, (cn_n fr), (cn_n tt), (cn_n st), (cn_n en), (cn_n ra), (cn_n de), CA, (cn_n so), (cn_n ta), (cn_n sz), li, SK, (cn_n hc), HY, HZ, tr, tb, no, ti, ne, bO, bE) x)) ∨ ((∀ post : Int32 → Prop, post 0 → wpX_isSize post x) ∧ (∀ post : Int32 → Prop, post 1 → wpY_badSize post ((nI now), (nI cc), (nI bc), be, bA, (cn_n fr), (cn_n tt), (cn_n st), (cn_n en), (cn_n ra), (cn_n de), CA, (cn_n so), (cn_n ta), (cn_n sz), li, SK, (cn_n hc), HY, HZ, tr, tb, no, ti, ne, bO, bE) x)) := by
  rcases pk_ix x (n := 31) (by omega) with h | h | ⟨e, he, rfl⟩
  · have h1 : x < 1 := (cn_ltN (b := 1) (by omega) h).resolve_right (by omega)
    exact Or.inr ⟨fun post p => br_t h1 p, fun post p => br_t h1 p⟩
  · obtain ⟨h1, h2, h3⟩ := cn_geN (b := 30) (by omega) (by omega) (by omega) h
    obtain ⟨_, h4, _⟩ := cn_geN (b := 1) (by omega) (by omega) (by omega) h
    have h5 : ¬ x < 1 := fun z => Int32.lt_irrefl (Int32.lt_trans z h4)
    exact Or.inr ⟨fun post p => br_f h5 (br_t h2 p), fun post p => br_f h5 (br_f h3 p)⟩
  · by_cases c : e = 0
    · have q : nI e < 1 := nI_lt (b := 1) (by omega) (by omega)
      exact Or.inr ⟨fun post p => br_t q p, fun post p => br_t q p⟩
    · have q : ¬ nI e < 1 := nI_nlt (b := 1) (by omega) (by omega)
      have q2 : ¬ (30 : Int32) < nI e := nI_nlt (a := 30) (by omega) (by omega)
      have q3 : nI e ≤ 30 := nI_le (b := 30) (by omega) (by omega)
      exact Or.inl ⟨e, by omega, by omega, rfl, fun post p => br_f q (br_f q2 p), fun post p => br_f q (br_t q3 p)⟩
def cn_sh (x : Int32) (A B : Prop) : Prop := ((x < 0 → A) ∧ (¬ x < 0 → (((10200 < x → A) ∧ (¬ 10200 < x → (¬ (101 : Int32) = 0 ∧ (¬ (101 : Int32) = 0 ∧ ((((x - x / 101 * 101) ≤ (x / 101) → A) ∧ (¬ (x - x / 101 * 101) ≤ (x / 101) → B)))))))))) 
theorem cn_span (x : Int32) : (∃ e, e < 10201 ∧ e / 101 < e % 101 ∧ x = nI e ∧ (∀ post : Int32 → Prop, post 1 → wpX_isSpan post x) ∧ (∀ A B : Prop, B → cn_sh x A B)) ∨ ((∀ post : Int32 → Prop, post 0 → wpX_isSpan post x) ∧ (∀ A B : Prop, A → cn_sh x A B)) := by
  by_cases h : x < 0
  · exact Or.inr ⟨fun post p => br_t h p, fun A B p => br_t h p⟩
  · obtain ⟨e, he, rfl⟩ := nI_of h
    by_cases c : e / 101 < e % 101
    · have q : ¬ (nI e - nI e / 101 * 101 ≤ nI e / 101) := by rw [cn_r101 he, cn_d101 he]; exact nI_ge c (by omega)
      have q2 : ¬ (10200 : Int32) < nI e := nI_nlt (a := 10200) (by omega) (by omega)
      exact Or.inl ⟨e, by omega, c, rfl, fun post p => br_f h ⟨cn_n101, cn_n101, br_f q p⟩, fun A B p => br_f h (br_f q2 ⟨cn_n101, cn_n101, br_f q p⟩)⟩
    · have q : nI e - nI e / 101 * 101 ≤ nI e / 101 := by rw [cn_r101 he, cn_d101 he]; exact nI_le (by omega) (by omega)
      refine Or.inr ⟨fun post p => br_f h ⟨cn_n101, cn_n101, br_t q p⟩, fun A B p => br_f h ?_⟩
      by_cases c2 : 10200 < e
      · exact br_t (nI_lt (a := 10200) c2 he) p
      · exact br_f (nI_nlt (a := 10200) (by omega) (by omega)) ⟨cn_n101, cn_n101, br_t q p⟩
def cn_th (x : Int32) (A B : Prop) : Prop := ((x < 10 → A) ∧ (¬ x < 10 → (((x ≤ 99 → B) ∧ (¬ x ≤ 99 → A)))))
theorem cn_terms (x : Int32) : (∃ e, 10 ≤ e ∧ e < 100 ∧ x = nI e ∧ (∀ post : Int32 → Prop, post 1 → wpX_areTerms post x) ∧ (∀ A B : Prop, B → cn_th x A B)) ∨ ((∀ post : Int32 → Prop, post 0 → wpX_areTerms post x) ∧ (∀ A B : Prop, A → cn_th x A B)) := by
  rcases pk_ix x (n := 100) (by omega) with h | h | ⟨e, he, rfl⟩
  · have h1 : x < 10 := (cn_ltN (b := 10) (by omega) h).resolve_right (by omega)
    exact Or.inr ⟨fun post p => br_t h1 p, fun A B p => br_t h1 p⟩
  · obtain ⟨h1, h2, h3⟩ := cn_geN (b := 99) (by omega) (by omega) (by omega) h
    obtain ⟨_, h4, _⟩ := cn_geN (b := 10) (by omega) (by omega) (by omega) h
    have h5 : ¬ x < 10 := fun z => Int32.lt_irrefl (Int32.lt_trans z h4)
    exact Or.inr ⟨fun post p => br_f h5 (br_t h p), fun A B p => br_f h5 (br_f h3 p)⟩
  · by_cases c : e < 10
    · have q : nI e < 10 := nI_lt (b := 10) c (by omega)
      exact Or.inr ⟨fun post p => br_t q p, fun A B p => br_t q p⟩
    · have q : ¬ nI e < 10 := nI_nlt (b := 10) (by omega) (by omega)
      have q2 : ¬ (100 : Int32) ≤ nI e := nI_ge (b := 100) he (by decide)
      have q3 : nI e ≤ 99 := nI_le (b := 99) (by omega) (by omega)
      exact Or.inl ⟨e, by omega, he, rfl, fun post p => br_f q (br_f q2 p), fun A B p => br_f q (br_t q3 p)⟩
end
end
section
section
variable {k now cc bc nc : Nat} {fr tt st en ra de so ta sz hc : Nat → Nat} {oc ob : Nat → Nat → Nat} {CA TA li RT HI HX HB wn wr wx wc wb bC bB SK HY HZ tr tb no ti ne bO bE : Nat → Int32} {bl ba be bA : Int32}
/-- a bundle's number: both sides take it alike -/
theorem cn_bun (hbc : bc ≤ 10) (x : Int32) : (∃ b, b < bc ∧ x = nI b ∧ (∀ post : Int32 → Prop, post 1 → wpX_isBundle post ((nI now), (nI cc), (nI bc), bl, ba, (cn_n fr), (cn_n tt), (cn_n st), (cn_n en), (cn_n ra), (cn_n de), CA, TA, (cn_n so), (cn_n ta), (cn_n sz), li, RT, HI, (cn_n hc), HX, HB, wn, wr, wx, wc, wb, bC, bB) x) ∧ (∀ post : Int32 → Prop, post 0 → wpY_badBundle post ((nI now), (nI cc), (nI bc), be, bA, (cn_n fr), (cn_n tt), (cn_n st), (cn_n en), (cn_n ra), (cn_n de), CA, (cn_n so), (cn_n ta), (cn_n sz), li, SK, (cn_n hc), HY, HZ, tr, tb, no, ti, ne, bO, bE) x)) ∨ ((∀ post : Int32 → Prop, post 0 → wpX_isBundle post ((nI now), (nI cc), (nI bc), bl, ba, (cn_n fr), (cn_n tt), (cn_n st), (cn_n en), (cn_n ra), (cn_n de), CA, TA, (cn_n so), (cn_n ta), (cn_n sz), li, RT, HI, (cn_n hc), HX, HB, wn, wr, wx, wc, wb, bC, bB) x) ∧ (∀ post : Int32 → Prop, post 1 → wpY_badBundle post ((nI now), (nI cc), (nI bc), be, bA, (cn_n fr), (cn_n tt), (cn_n st), (cn_n en), (cn_n ra), (cn_n de), CA, (cn_n so), (cn_n ta), (cn_n sz), li, SK, (cn_n hc), HY, HZ, tr, tb, no, ti, ne, bO, bE) x)) := by
  rcases pk_ix x (n := bc) (by omega) with h | h | ⟨b, hb, rfl⟩
  · exact Or.inr ⟨fun post p => br_t h p, fun post p => br_t h p⟩
  · have h0 : ¬ x < 0 := by
      have h1 := cn_leT (by omega) h
      have e0 : (0 : Int32).toInt = 0 := by decide
      rw [Int32.lt_iff_toInt_lt, e0]; omega
    exact Or.inr ⟨fun post p => br_f h0 (br_t h p), fun post p => br_f h0 (br_f (Int32.not_lt.mpr h) p)⟩
  · have h0 : ¬ nI b < 0 := nI_pos (by omega)
    exact Or.inl ⟨b, hb, rfl, fun post p => br_f h0 (br_f (nI_ge hb (by omega)) p), fun post p => br_f h0 (br_t (nI_lt hb (by omega)) p)⟩
end
theorem i_vc_time {k : Nat} {u : SX} {v : SY} (I : i_Rel k u v) (hk : k + 4 ≤ 2048) : wpX_time (fun r => wpY_time (fun r' => r' = r ∧ i_Rel (k + 4) u v) v) u := by
  have R := i_up I
  obtain ⟨now, cc, bc, nc, fr, tt, st, en, ra, de, so, ta, sz, hc, oc, ob, CA, TA, li, RT, HI, HX, HB, wn, wr, wx, wc, wb, bC, bB, SK, HY, HZ, tr, tb, no, ti, ne, bO, bE, bl, ba, be, bA, e1, e2, h1, I⟩ := I
  subst e1 e2
  exact ⟨rfl, R⟩
theorem i_vc_pass {k : Nat} {u : SX} {v : SY} (I : i_Rel k u v) (hk : k + 4 ≤ 2048) (v1 : Int32) : wpX_pass (fun r u' => wpY_pass (fun r' v' => r' = r ∧ i_Rel (k + 4) u' v') v v1) u v1 := by
  have R := i_up I
  obtain ⟨now, cc, bc, nc, fr, tt, st, en, ra, de, so, ta, sz, hc, oc, ob, CA, TA, li, RT, HI, HX, HB, wn, wr, wx, wc, wb, bC, bB, SK, HY, HZ, tr, tb, no, ti, ne, bO, bE, bl, ba, be, bA, e1, e2, h1, I⟩ := I
  subst e1 e2
  rcases pk_ix v1 (n := 201) (by omega) with h | h | ⟨e, he, rfl⟩
  · exact br_t h (br_t h ⟨rfl, R⟩)
  · obtain ⟨q1, q2, q3⟩ := cn_geN (b := 200) (by omega) (by omega) (by omega) h
    exact br_f q1 (br_f q3 (br_f q1 (br_f q3 ⟨rfl, R⟩)))
  · have q1 : ¬ nI e < 0 := nI_pos (by omega)
    have q2 : nI e ≤ 200 := nI_le (b := 200) (by omega) (by omega)
    obtain ⟨i1, i2⟩ := I
    exact br_f q1 (br_t q2 (nm_r (nI_add now e) (br_f q1 (br_t q2 (nm_r (nI_add now e) ⟨rfl, cn_mk (by omega) ⟨by omega, i2⟩⟩)))))
theorem i_vc_state {k : Nat} {u : SX} {v : SY} (I : i_Rel k u v) (hk : k + 4 ≤ 2048) (v1 : Int32) : wpX_state (fun r => wpY_state (fun r' => r' = r ∧ i_Rel (k + 4) u v) v v1) u v1 := by
  have R := i_up I
  obtain ⟨now, cc, bc, nc, fr, tt, st, en, ra, de, so, ta, sz, hc, oc, ob, CA, TA, li, RT, HI, HX, HB, wn, wr, wx, wc, wb, bC, bB, SK, HY, HZ, tr, tb, no, ti, ne, bO, bE, bl, ba, be, bA, e1, e2, h1, I⟩ := I
  subst e1 e2
  obtain ⟨i1, i2, i3, i4, i5, i6, i7, i8⟩ := I
  unfold wpX_state wpY_state
  dsimp only
  rcases cn_bun (now := now) (cc := cc) (fr := fr) (tt := tt) (st := st) (en := en) (ra := ra) (de := de) (so := so) (ta := ta) (sz := sz) (hc := hc) (CA := CA) (TA := TA) (li := li) (RT := RT) (HI := HI) (HX := HX) (HB := HB) (wn := wn) (wr := wr) (wx := wx) (wc := wc) (wb := wb) (bC := bC) (bB := bB) (SK := SK) (HY := HY) (HZ := HZ) (tr := tr) (tb := tb) (no := no) (ti := ti) (ne := ne) (bO := bO) (bE := bE) (bl := bl) (ba := ba) (be := be) (bA := bA) i3 v1 with ⟨b, hb, rfl, fx, fy⟩ | ⟨fx, fy⟩
  · have hvb : vp_in (nI b) 10 := vp_in_nI (by omega) (by omega)
    have cb : (nI b).toNatClampNeg = b := nI_clamp (by omega)
    obtain ⟨g1, g2, g3, g4, g5, g6, g7, g8⟩ := i6 b hb
    have hcm := cn_cm_le i2 i5 hb
    rcases i8 b hb trivial with ⟨z1, z2⟩ | ⟨z1, z2⟩
    · have hp : 0 < hc b := (g7 z2).2
      refine fx _ (br_f (by decide) ⟨hvb, br_f (by rw [cb, z2]; decide) (cx_lastC i2 i5 i3 hb g4 (fun h => by omega) (fun _ => ?_))⟩)
      by_cases hle : cn_cm ra de sz hc oc ob b ≤ now
      · refine br_t (nI_le hle (by omega)) (fy _ (br_t rfl ⟨hvb, br_t (by rw [cb, z1]) (cy_lastT i2 i5 i3 hb g4 (br_f (nI_nlt hle (by omega)) ⟨rfl, R⟩))⟩))
      · refine br_f (nI_ge (by omega) (by omega)) (fy _ (br_t rfl ⟨hvb, br_t (by rw [cb, z1]) (cy_lastT i2 i5 i3 hb g4 (br_t (nI_lt (by omega) (by omega)) ⟨rfl, R⟩))⟩))
    · exact fx _ (br_f (by decide) ⟨hvb, br_t (by rw [cb, z2]) (fy _ (br_t rfl ⟨hvb, br_f (by rw [cb, z1]; decide) ⟨rfl, R⟩⟩))⟩)
  · exact fx _ (br_t rfl (fy _ (br_f (by decide) ⟨rfl, R⟩)))
theorem i_vc_arrival {k : Nat} {u : SX} {v : SY} (I : i_Rel k u v) (hk : k + 4 ≤ 2048) (v1 : Int32) : wpX_arrival (fun r => wpY_arrival (fun r' => r' = r ∧ i_Rel (k + 4) u v) v v1) u v1 := by
  have R := i_up I
  obtain ⟨now, cc, bc, nc, fr, tt, st, en, ra, de, so, ta, sz, hc, oc, ob, CA, TA, li, RT, HI, HX, HB, wn, wr, wx, wc, wb, bC, bB, SK, HY, HZ, tr, tb, no, ti, ne, bO, bE, bl, ba, be, bA, e1, e2, h1, I⟩ := I
  subst e1 e2
  obtain ⟨i1, i2, i3, i4, i5, i6, i7, i8⟩ := I
  unfold wpX_arrival wpY_arrival
  dsimp only
  rcases cn_bun (now := now) (cc := cc) (fr := fr) (tt := tt) (st := st) (en := en) (ra := ra) (de := de) (so := so) (ta := ta) (sz := sz) (hc := hc) (CA := CA) (TA := TA) (li := li) (RT := RT) (HI := HI) (HX := HX) (HB := HB) (wn := wn) (wr := wr) (wx := wx) (wc := wc) (wb := wb) (bC := bC) (bB := bB) (SK := SK) (HY := HY) (HZ := HZ) (tr := tr) (tb := tb) (no := no) (ti := ti) (ne := ne) (bO := bO) (bE := bE) (bl := bl) (ba := ba) (be := be) (bA := bA) i3 v1 with ⟨b, hb, rfl, fx, fy⟩ | ⟨fx, fy⟩
  · have hvb : vp_in (nI b) 10 := vp_in_nI (by omega) (by omega)
    have cb : (nI b).toNatClampNeg = b := nI_clamp (by omega)
    obtain ⟨g1, g2, g3, g4, g5, g6, g7, g8⟩ := i6 b hb
    rcases i8 b hb trivial with ⟨z1, z2⟩ | ⟨z1, z2⟩
    · have hp : 0 < hc b := (g7 z2).2
      exact fx _ (br_f (by decide) ⟨hvb, br_f (by rw [cb, z2]; decide) (cx_lastC i2 i5 i3 hb g4 (fun h => by omega) (fun _ => fy _ (br_t rfl ⟨hvb, br_t (by rw [cb, z1]) (cy_lastT i2 i5 i3 hb g4 ⟨rfl, R⟩)⟩)))⟩)
    · exact fx _ (br_f (by decide) ⟨hvb, br_t (by rw [cb, z2]) (fy _ (br_t rfl ⟨hvb, br_f (by rw [cb, z1]; decide) ⟨rfl, R⟩⟩))⟩)
  · exact fx _ (br_t rfl (fy _ (br_f (by decide) ⟨rfl, R⟩)))
theorem i_vc_hops {k : Nat} {u : SX} {v : SY} (I : i_Rel k u v) (hk : k + 4 ≤ 2048) (v1 : Int32) : wpX_hops (fun r => wpY_hops (fun r' => r' = r ∧ i_Rel (k + 4) u v) v v1) u v1 := by
  have R := i_up I
  obtain ⟨now, cc, bc, nc, fr, tt, st, en, ra, de, so, ta, sz, hc, oc, ob, CA, TA, li, RT, HI, HX, HB, wn, wr, wx, wc, wb, bC, bB, SK, HY, HZ, tr, tb, no, ti, ne, bO, bE, bl, ba, be, bA, e1, e2, h1, I⟩ := I
  subst e1 e2
  obtain ⟨i1, i2, i3, i4, i5, i6, i7, i8⟩ := I
  unfold wpX_hops wpY_hops
  dsimp only
  rcases cn_bun (now := now) (cc := cc) (fr := fr) (tt := tt) (st := st) (en := en) (ra := ra) (de := de) (so := so) (ta := ta) (sz := sz) (hc := hc) (CA := CA) (TA := TA) (li := li) (RT := RT) (HI := HI) (HX := HX) (HB := HB) (wn := wn) (wr := wr) (wx := wx) (wc := wc) (wb := wb) (bC := bC) (bB := bB) (SK := SK) (HY := HY) (HZ := HZ) (tr := tr) (tb := tb) (no := no) (ti := ti) (ne := ne) (bO := bO) (bE := bE) (bl := bl) (ba := ba) (be := be) (bA := bA) i3 v1 with ⟨b, hb, rfl, fx, fy⟩ | ⟨fx, fy⟩
  · have hvb : vp_in (nI b) 10 := vp_in_nI (by omega) (by omega)
    exact fx _ (br_f (by decide) ⟨hvb, fy _ (br_t rfl ⟨hvb, rfl, R⟩)⟩)
  · exact fx _ (br_t rfl (fy _ (br_f (by decide) ⟨rfl, R⟩)))
theorem i_vc_hop {k : Nat} {u : SX} {v : SY} (I : i_Rel k u v) (hk : k + 4 ≤ 2048) (v1 : Int32) (v2 : Int32) : wpX_hop (fun r => wpY_hop (fun r' => r' = r ∧ i_Rel (k + 4) u v) v v1 v2) u v1 v2 := by
  have R := i_up I
  obtain ⟨now, cc, bc, nc, fr, tt, st, en, ra, de, so, ta, sz, hc, oc, ob, CA, TA, li, RT, HI, HX, HB, wn, wr, wx, wc, wb, bC, bB, SK, HY, HZ, tr, tb, no, ti, ne, bO, bE, bl, ba, be, bA, e1, e2, h1, I⟩ := I
  subst e1 e2
  obtain ⟨i1, i2, i3, i4, i5, i6, i7, i8⟩ := I
  obtain ⟨H1, H2, H3, H4, H5, H6⟩ := cn_IvU i5
  unfold wpX_hop wpY_hop
  dsimp only
  rcases cn_bun (now := now) (cc := cc) (fr := fr) (tt := tt) (st := st) (en := en) (ra := ra) (de := de) (so := so) (ta := ta) (sz := sz) (hc := hc) (CA := CA) (TA := TA) (li := li) (RT := RT) (HI := HI) (HX := HX) (HB := HB) (wn := wn) (wr := wr) (wx := wx) (wc := wc) (wb := wb) (bC := bC) (bB := bB) (SK := SK) (HY := HY) (HZ := HZ) (tr := tr) (tb := tb) (no := no) (ti := ti) (ne := ne) (bO := bO) (bE := bE) (bl := bl) (ba := ba) (be := be) (bA := bA) i3 v1 with ⟨b, hb, rfl, fx, fy⟩ | ⟨fx, fy⟩
  · have hvb : vp_in (nI b) 10 := vp_in_nI (by omega) (by omega)
    have cb : (nI b).toNatClampNeg = b := nI_clamp (by omega)
    have hh := H6 b (by omega)
    by_cases h0 : v2 < 0
    · exact fx _ (br_f (by decide) (br_t h0 (fy _ (br_t rfl (br_t h0 ⟨rfl, R⟩)))))
    · obtain ⟨i, hi, rfl⟩ := nI_of h0
      by_cases hlt : i < hc b
      · have q : nI i < cn_n hc (nI b).toNatClampNeg := by rw [cb, cn_n_at]; exact nI_lt hlt (by omega)
        have hvx : vp_in (nI (b * 100 + i)) 1000 := vp_in_nI (by omega) (by omega)
        have hvy : vp_in (64 * nI b + nI i) 640 := by rw [cy_ix]; exact vp_in_nI (by omega) (by omega)
        have cx : (nI (b * 100 + i)).toNatClampNeg = b * 100 + i := nI_clamp (by omega)
        have cy : (64 * nI b + nI i).toNatClampNeg = 64 * b + i := by rw [cy_ix]; exact nI_clamp (by omega)
        refine fx _ (br_f (by decide) (br_f h0 ⟨hvb, br_t q (nm_r (cx_ix b i) ⟨hvx, hvx, fy _ (br_t rfl (br_f h0 ⟨hvb, br_t q ⟨hvy, hvy, ?_, R⟩⟩))⟩)⟩))
        rw [cx, cy, H2 b i (by omega) hlt, H3 b i (by omega) hlt, H4 b i (by omega) hlt, H5 b i (by omega) hlt]
      · have q : ¬ nI i < cn_n hc (nI b).toNatClampNeg := by rw [cb, cn_n_at]; exact nI_nlt (by omega) hi
        exact fx _ (br_f (by decide) (br_f h0 ⟨hvb, br_f q (fy _ (br_t rfl (br_f h0 ⟨hvb, br_f q ⟨rfl, R⟩⟩)))⟩))
  · exact fx _ (br_t rfl (fy _ (br_f (by decide) ⟨rfl, R⟩)))
end
section
section
variable {k now cc bc nc : Nat} {fr tt st en ra de so ta sz hc : Nat → Nat} {oc ob : Nat → Nat → Nat} {CA TA li RT HI HX HB wn wr wx wc wb bC bB SK HY HZ tr tb no ti ne bO bE : Nat → Int32} {bl ba be bA : Int32}
theorem cx_bk26 {post : Int32 → Prop} {c : Nat} (hc10 : c < 10) (hT : ∀ t, t < 100 → TA (c * 100 + t) = 0 ∨ TA (c * 100 + t) = 1) (h : post (nI (cn_ct (fun t => TA (c * 100 + t) = 1) 100))) :
    ∀ (m i : Nat), i + m = 100 → wX_booked_26 post (nI c) (nI now) (nI cc) (nI bc) bl ba (cn_n fr) (cn_n tt) (cn_n st) (cn_n en) (cn_n ra) (cn_n de) CA TA (cn_n so) (cn_n ta) (cn_n sz) li RT HI (cn_n hc) HX HB wn wr wx wc wb bC bB (m + 1) (nI (cn_ct (fun t => TA (c * 100 + t) = 1) i)) (nI i) := by
  intro m
  induction m with
  | zero =>
    intro i hi
    have e : i = 100 := by omega
    rw [e]
    exact br_t (nI_le (a := 100) (Nat.le_refl _) (by omega)) h
  | succ m ih =>
    intro i hi
    have hvi : vp_in (nI c * 100 + nI i) 1000 := by rw [cx_ix]; exact vp_in_nI (by omega) (by omega)
    have ci : (nI c * 100 + nI i).toNatClampNeg = c * 100 + i := by rw [cx_ix]; exact nI_clamp (by omega)
    have hge : ¬ (100 : Int32) ≤ nI i := nI_ge (b := 100) (by omega) (by decide)
    have IH := ih (i + 1) (by omega)
    rcases hT i (by omega) with z | z
    · rw [cn_ct_f (P := fun t => TA (c * 100 + t) = 1) (n := i) (by show ¬ TA (c * 100 + i) = 1; rw [z]; decide)] at IH
      exact br_f hge ⟨hvi, br_t (by rw [ci, z]) (nm_r (nI_1 i) IH)⟩
    · rw [cn_ct_t (P := fun t => TA (c * 100 + t) = 1) (n := i) z] at IH
      exact br_f hge ⟨hvi, br_f (by rw [ci, z]; decide) (nm_r (nI_1 _) (nm_r (nI_1 i) IH))⟩
theorem cy_bk44 {post : Int32 → Prop} {J30 : Int32 → Int32 → Prop} (N : cn_Net cc fr tt st en ra de) (H : cn_Iv cc bc fr tt st en ra so sz (hc, oc, ob, TA, HX, HB, HY, HZ)) (hbc : bc ≤ 10) {c b : Nat} (hcc : c < cc) (hb : b < bc) (hs : sz b ≤ 30) (hJ : J30 (nI (cn_ct (cn_P bc ra sz hc oc ob c b (hc b)) 100)) (nI (b + 1))) :
    ∀ (m i : Nat), i + m = hc b → wY_booked_44 post J30 (nI c) (nI b) (nI now) (nI cc) (nI bc) be bA (cn_n fr) (cn_n tt) (cn_n st) (cn_n en) (cn_n ra) (cn_n de) CA (cn_n so) (cn_n ta) (cn_n sz) li SK (cn_n hc) HY HZ tr tb no ti ne bO bE (m + 1) (nI (cn_ct (cn_P bc ra sz hc oc ob c b i) 100)) (nI (64 * b + i)) := by
  obtain ⟨H1, H2, H3, H4, H5, H6⟩ := cn_IvU H
  have N1 := N.1
  obtain ⟨n1, n2, n3, n4, n5, n6, n7, n8⟩ := N.2 c hcc
  have hvb : vp_in (nI b) 10 := vp_in_nI (by omega) (by omega)
  have cb : (nI b).toNatClampNeg = b := nI_clamp (by omega)
  have hh := H6 b (by omega)
  intro m
  induction m with
  | zero =>
    intro i hi
    have e : i = hc b := by omega
    rw [e]
    exact ⟨hvb, br_t (by rw [cb, cn_n_at, cy_ix]; exact nI_le (Nat.le_refl _) (by omega)) (nm_r (nI_1 b) hJ)⟩
  | succ m ih =>
    intro i hi
    obtain ⟨g1, g2, g3, g4⟩ := H1.1 b i hb (by omega)
    have y1 := H4 b i (by omega) (by omega)
    have hvi : vp_in (nI (64 * b + i)) 640 := vp_in_nI (by omega) (by omega)
    have ci : (nI (64 * b + i)).toNatClampNeg = 64 * b + i := nI_clamp (by omega)
    have hge : ¬ (64 * nI b + cn_n hc (nI b).toNatClampNeg ≤ nI (64 * b + i)) := by
      rw [cb, cn_n_at, cy_ix]; exact nI_ge (by omega) (by omega)
    have IH := ih (i + 1) (by omega)
    by_cases c1 : oc b i = c
    · rw [cn_P_in N H1 hb (by omega) c1] at IH
      exact ⟨hvb, br_f hge ⟨hvi, br_t (by rw [ci, y1, c1]) ⟨hvb, cy_ticksE (z := sz b) rfl (by rw [cb]; rfl) (by omega) n6 n7 hs (nm_r (nI_add _ _) (nm_r (nI_1 _) IH))⟩⟩⟩
    · rw [cn_P_out c1] at IH
      exact ⟨hvb, br_f hge ⟨hvi, br_f (by rw [ci, y1, nI_eq (by omega) (by omega)]; exact c1) (nm_r (nI_1 _) IH)⟩⟩
theorem cy_bk30 {post : Int32 → Prop} (N : cn_Net cc fr tt st en ra de) (H : cn_Iv cc bc fr tt st en ra so sz (hc, oc, ob, TA, HX, HB, HY, HZ)) (hbc : bc ≤ 10) {c : Nat} (hcc : c < cc) (hs : ∀ b, b < bc → sz b ≤ 30) (h : post (nI (cn_ct (cn_P bc ra sz hc oc ob c bc 0) 100))) :
    ∀ (m b : Nat), b + m = bc → wY_booked_30 post (nI c) (nI now) (nI cc) (nI bc) be bA (cn_n fr) (cn_n tt) (cn_n st) (cn_n en) (cn_n ra) (cn_n de) CA (cn_n so) (cn_n ta) (cn_n sz) li SK (cn_n hc) HY HZ tr tb no ti ne bO bE (m + 1) (nI (cn_ct (cn_P bc ra sz hc oc ob c b 0) 100)) (nI b) := by
  intro m
  induction m with
  | zero =>
    intro b hb
    have e : b = bc := by omega
    rw [e]
    exact br_t (nI_le (Nat.le_refl _) (by omega)) h
  | succ m ih =>
    intro b hb
    have IH := ih (b + 1) (by omega)
    rw [cn_P_next] at IH
    exact br_f (nI_ge (by omega) (by omega)) (nm_r (cy_i0 b) ⟨hc b + 1, cy_bk44 N H hbc hcc (by omega) (hs b (by omega)) IH (hc b) 0 (by omega)⟩)
/-- where a bundle is -/
theorem cn_place (N : cn_Net cc fr tt st en ra de) (H : cn_Iv cc bc fr tt st en ra so sz (hc, oc, ob, TA, HX, HB, HY, HZ)) (hbc : bc ≤ 10) (hnow : now ≤ 102400) {b : Nat} (hb : b < bc) (hs : sz b ≤ 30) :
    ∀ (m i : Nat), i + m = hc b → ∃ r : Int32, (∀ post : Int32 → Prop, post r → wX_place_12 post (nI b) (nI now) (nI cc) (nI bc) bl ba (cn_n fr) (cn_n tt) (cn_n st) (cn_n en) (cn_n ra) (cn_n de) CA TA (cn_n so) (cn_n ta) (cn_n sz) li RT HI (cn_n hc) HX HB wn wr wx wc wb bC bB (m + 1) (nI i)) ∧ (∀ post : Int32 → Prop, post r → wY_place_22 post (nI b) (nI now) (nI cc) (nI bc) be bA (cn_n fr) (cn_n tt) (cn_n st) (cn_n en) (cn_n ra) (cn_n de) CA (cn_n so) (cn_n ta) (cn_n sz) li SK (cn_n hc) HY HZ tr tb no ti ne bO bE (m + 1) (nI (cn_nd so tt oc b i)) (nI (64 * b + i))) := by
  obtain ⟨H1, H2, H3, H4, H5, H6⟩ := cn_IvU H
  have N1 := N.1
  have hvb : vp_in (nI b) 10 := vp_in_nI (by omega) (by omega)
  have cb : (nI b).toNatClampNeg = b := nI_clamp (by omega)
  have hh := H6 b (by omega)
  intro m
  induction m with
  | zero =>
    intro i hi
    have e : i = hc b := by omega
    rw [e]
    refine ⟨nI (cn_nd so tt oc b (hc b)), fun post h => ?_, fun post h => ?_⟩
    · exact ⟨hvb, br_t (by rw [cb, cn_n_at]; exact nI_le (Nat.le_refl _) (by omega)) (cx_lastN N H hbc hb h)⟩
    · exact ⟨hvb, br_t (by rw [cb, cn_n_at, cy_ix]; exact nI_le (Nat.le_refl _) (by omega)) h⟩
  | succ m ih =>
    intro i hi
    obtain ⟨g1, g2, g3, g4⟩ := H1.1 b i hb (by omega)
    obtain ⟨n1, n2, n3, n4, n5, n6, n7, n8⟩ := N.2 (oc b i) g1
    have x1 := H2 b i (by omega) (by omega)
    have x2 := H3 b i (by omega) (by omega)
    have y1 := H4 b i (by omega) (by omega)
    have y2 := H5 b i (by omega) (by omega)
    have hvx : vp_in (nI (b * 100 + i)) 1000 := vp_in_nI (by omega) (by omega)
    have cx : (nI (b * 100 + i)).toNatClampNeg = b * 100 + i := nI_clamp (by omega)
    have hvy : vp_in (nI (64 * b + i)) 640 := vp_in_nI (by omega) (by omega)
    have cy : (nI (64 * b + i)).toNatClampNeg = 64 * b + i := nI_clamp (by omega)
    have ck : (nI (oc b i)).toNatClampNeg = oc b i := nI_clamp (by omega)
    have hvk : vp_in (nI (oc b i)) 10 := vp_in_nI (by omega) (by omega)
    have hgx : ¬ cn_n hc (nI b).toNatClampNeg ≤ nI i := by rw [cb, cn_n_at]; exact nI_ge (by omega) (by omega)
    have hgy : ¬ (64 * nI b + cn_n hc (nI b).toNatClampNeg ≤ nI (64 * b + i)) := by rw [cb, cn_n_at, cy_ix]; exact nI_ge (by omega) (by omega)
    by_cases c1 : ob b i + cn_tk ra (oc b i) (sz b) + de (oc b i) ≤ now
    · obtain ⟨r, fx, fy⟩ := ih (i + 1) (by omega)
      refine ⟨r, fun post h => ?_, fun post h => ?_⟩
      · exact ⟨hvb, br_f hgx (cx_comes (by omega) (by omega) x1 x2 (by omega) n6 n7 hs (br_t (nI_le c1 (by omega)) (nm_r (nI_1 i) (fx post h))))⟩
      · refine ⟨hvb, br_f hgy ⟨hvy, hvb, hvy, cy_comesE (k := oc b i) (z := sz b) (t := ob b i) (by rw [cy]; exact y1) (by rw [cb]; rfl) (by rw [cy]; exact y2) (by omega) n6 n7 hs (br_t (nI_le c1 (by omega)) ⟨hvy, by rw [cy, y1]; exact hvk, nm_r (e' := nI (cn_nd so tt oc b (i + 1))) (by rw [cy, y1, ck]; rfl) (nm_r (nI_1 _) (fy post h))⟩)⟩⟩
    · by_cases c2 : now ≤ ob b i
      · refine ⟨nI (cn_nd so tt oc b i), fun post h => ?_, fun post h => ?_⟩
        · refine ⟨hvb, br_f hgx (cx_comes (by omega) (by omega) x1 x2 (by omega) n6 n7 hs (br_f (nI_ge (by omega) (by omega)) (nm_r (cx_ix b i) ⟨hvx, nm_r (e' := nI (oc b i)) (by rw [cx]; exact x1) ⟨hvx, br_t (by rw [cx, x2]; exact nI_le c2 (by omega)) ⟨hvk, ?_⟩⟩⟩)))⟩
          rw [ck, cn_n_at, g4]; exact h
        · exact ⟨hvb, br_f hgy ⟨hvy, hvb, hvy, cy_comesE (k := oc b i) (z := sz b) (t := ob b i) (by rw [cy]; exact y1) (by rw [cb]; rfl) (by rw [cy]; exact y2) (by omega) n6 n7 hs (br_f (nI_ge (by omega) (by omega)) ⟨hvy, br_t (by rw [cy, y2]; exact nI_le c2 (by omega)) h⟩)⟩⟩
      · refine ⟨10 + nI (oc b i), fun post h => ?_, fun post h => ?_⟩
        · exact ⟨hvb, br_f hgx (cx_comes (by omega) (by omega) x1 x2 (by omega) n6 n7 hs (br_f (nI_ge (by omega) (by omega)) (nm_r (cx_ix b i) ⟨hvx, nm_r (e' := nI (oc b i)) (by rw [cx]; exact x1) ⟨hvx, br_f (by rw [cx, x2]; exact nI_ge (by omega) (by omega)) h⟩⟩)))⟩
        · refine ⟨hvb, br_f hgy ⟨hvy, hvb, hvy, cy_comesE (k := oc b i) (z := sz b) (t := ob b i) (by rw [cy]; exact y1) (by rw [cb]; rfl) (by rw [cy]; exact y2) (by omega) n6 n7 hs (br_f (nI_ge (by omega) (by omega)) ⟨hvy, br_f (by rw [cy, y2]; exact nI_ge (by omega) (by omega)) ⟨hvy, ?_⟩⟩)⟩⟩
          rw [cy, y1]; exact h
theorem cn_con (hcc : cc ≤ 10) (x : Int32) : (∃ c, c < cc ∧ x = nI c) ∨ (x < 0) ∨ (¬ x < 0 ∧ nI cc ≤ x) := by
  rcases pk_ix x (n := cc) (by omega) with h | h | ⟨b, hb, rfl⟩
  · exact Or.inr (Or.inl h)
  · have h0 : ¬ x < 0 := by
      have h1 := cn_leT (by omega) h
      have e0 : (0 : Int32).toInt = 0 := by decide
      rw [Int32.lt_iff_toInt_lt, e0]; omega
    exact Or.inr (Or.inr ⟨h0, h⟩)
  · exact Or.inl ⟨b, hb, rfl⟩
end
theorem i_vc_booked {k : Nat} {u : SX} {v : SY} (I : i_Rel k u v) (hk : k + 4 ≤ 2048) (v1 : Int32) : wpX_booked (fun r => wpY_booked (fun r' => r' = r ∧ i_Rel (k + 4) u v) v v1) u v1 := by
  have R := i_up I
  obtain ⟨now, cc, bc, nc, fr, tt, st, en, ra, de, so, ta, sz, hc, oc, ob, CA, TA, li, RT, HI, HX, HB, wn, wr, wx, wc, wb, bC, bB, SK, HY, HZ, tr, tb, no, ti, ne, bO, bE, bl, ba, be, bA, e1, e2, h1, I⟩ := I
  subst e1 e2
  obtain ⟨i1, i2, i3, i4, i5, i6, i7, i8⟩ := I
  obtain ⟨H1, H2, H3, H4, H5, H6⟩ := cn_IvU i5
  have N1 := i2.1
  rcases cn_con N1 v1 with ⟨c, hc1, rfl⟩ | h | ⟨h0, h⟩
  · have h0 : ¬ nI c < 0 := nI_pos (by omega)
    have hvc : vp_in (nI c) 10 := vp_in_nI (by omega) (by omega)
    have cl : (nI c).toNatClampNeg = c := nI_clamp (by omega)
    by_cases hca : CA c = 0
    · have q : CA (nI c).toNatClampNeg = 0 := by rw [cl]; exact hca
      have Y0 := cy_bk30 (post := fun r' => r' = nI (cn_ct (fun t => TA (c * 100 + t) = 1) 100) ∧ i_Rel (k + 4) ((nI now), (nI cc), (nI bc), bl, ba, (cn_n fr), (cn_n tt), (cn_n st), (cn_n en), (cn_n ra), (cn_n de), CA, TA, (cn_n so), (cn_n ta), (cn_n sz), li, RT, HI, (cn_n hc), HX, HB, wn, wr, wx, wc, wb, bC, bB) ((nI now), (nI cc), (nI bc), be, bA, (cn_n fr), (cn_n tt), (cn_n st), (cn_n en), (cn_n ra), (cn_n de), CA, (cn_n so), (cn_n ta), (cn_n sz), li, SK, (cn_n hc), HY, HZ, tr, tb, no, ti, ne, bO, bE)) (now := now) (be := be) (bA := bA) (ta := ta) (CA := CA) (li := li) (SK := SK) (tr := tr) (tb := tb) (no := no) (ti := ti) (ne := ne) (bO := bO) (bE := bE) i2 i5 i3 hc1 (fun b hb => (i6 b hb).2.2.2.1) ⟨by rw [cn_P_all H1 (by omega)], R⟩ bc 0 (by omega)
      rw [cn_P_0] at Y0
      exact br_f h0 (br_f (nI_ge hc1 (by omega)) (br_f (by decide) ⟨hvc, br_t q ⟨101, cx_bk26 (by omega) (fun t ht => (H1.2.2 c t (by omega) ht).1) (br_f h0 (br_t (nI_lt hc1 (by omega)) ⟨hvc, br_t q ⟨bc + 1, Y0⟩⟩)) 100 0 (by omega)⟩⟩))
    · have q : ¬ CA (nI c).toNatClampNeg = 0 := by rw [cl]; exact hca
      exact br_f h0 (br_f (nI_ge hc1 (by omega)) (br_f (by decide) ⟨hvc, br_f q (br_f h0 (br_t (nI_lt hc1 (by omega)) ⟨hvc, br_f q ⟨rfl, R⟩⟩))⟩))
  · exact br_t h (br_t rfl (br_t h ⟨rfl, R⟩))
  · exact br_f h0 (br_t h (br_t rfl (br_f h0 (br_f (Int32.not_lt.mpr h) ⟨rfl, R⟩))))
theorem i_vc_place {k : Nat} {u : SX} {v : SY} (I : i_Rel k u v) (hk : k + 4 ≤ 2048) (v1 : Int32) : wpX_place (fun r => wpY_place (fun r' => r' = r ∧ i_Rel (k + 4) u v) v v1) u v1 := by
  have R := i_up I
  obtain ⟨now, cc, bc, nc, fr, tt, st, en, ra, de, so, ta, sz, hc, oc, ob, CA, TA, li, RT, HI, HX, HB, wn, wr, wx, wc, wb, bC, bB, SK, HY, HZ, tr, tb, no, ti, ne, bO, bE, bl, ba, be, bA, e1, e2, h1, I⟩ := I
  subst e1 e2
  obtain ⟨i1, i2, i3, i4, i5, i6, i7, i8⟩ := I
  unfold wpX_place wpY_place
  dsimp only
  rcases cn_bun (now := now) (cc := cc) (fr := fr) (tt := tt) (st := st) (en := en) (ra := ra) (de := de) (so := so) (ta := ta) (sz := sz) (hc := hc) (CA := CA) (TA := TA) (li := li) (RT := RT) (HI := HI) (HX := HX) (HB := HB) (wn := wn) (wr := wr) (wx := wx) (wc := wc) (wb := wb) (bC := bC) (bB := bB) (SK := SK) (HY := HY) (HZ := HZ) (tr := tr) (tb := tb) (no := no) (ti := ti) (ne := ne) (bO := bO) (bE := bE) (bl := bl) (ba := ba) (be := be) (bA := bA) i3 v1 with ⟨b, hb, rfl, fx, fy⟩ | ⟨fx, fy⟩
  · have hvb : vp_in (nI b) 10 := vp_in_nI (by omega) (by omega)
    have cb : (nI b).toNatClampNeg = b := nI_clamp (by omega)
    obtain ⟨r, px, py⟩ := cn_place (now := now) (ta := ta) (CA := CA) (li := li) (RT := RT) (HI := HI) (wn := wn) (wr := wr) (wx := wx) (wc := wc) (wb := wb) (bC := bC) (bB := bB) (SK := SK) (tr := tr) (tb := tb) (no := no) (ti := ti) (ne := ne) (bO := bO) (bE := bE) (bl := bl) (ba := ba) (be := be) (bA := bA) i2 i5 i3 i1 hb (i6 b hb).2.2.2.1 (hc b) 0 (by omega)
    exact fx _ (br_f (by decide) ⟨hc b + 1, px _ (fy _ (br_t rfl ⟨hvb, nm_r (e' := nI (so b)) (by rw [cb]; rfl) (nm_r (cy_i0 b) ⟨hc b + 1, py _ ⟨rfl, R⟩⟩)⟩))⟩)
  · exact fx _ (br_t rfl (fy _ (br_f (by decide) ⟨rfl, R⟩)))
end
section
section
variable {k now cc bc nc : Nat} {fr tt st en ra de so ta sz hc : Nat → Nat} {oc ob : Nat → Nat → Nat} {CA TA li RT HI HX HB SK HY HZ : Nat → Int32} {Q : Nat → Prop}
/-- both searches from one node at one time -/
theorem cn_findXY (I : cn_In now cc bc nc fr tt st en ra de so ta sz CA RT SK (hc, oc, ob, TA, HX, HB, HY, HZ) Q) {node goal z time : Nat} (hn : node < 6) (hg : goal < 6) (hng : node ≠ goal) (hz1 : 1 ≤ z) (hz2 : z ≤ 30) (ht : time ≤ 200000)
    (wn wr wx wc wb : cn_A) (bl ba : Int32) (bC bB tr tb no ti ne : cn_A) (be bA : Int32) (bO bE : cn_A) :
    ∃ (wn' wr' wx' wc' wb' : cn_A) (bl' ba' : Int32) (bC' bB' tr' tb' no' ti' ne' : cn_A) (be' bA' : Int32) (bO' bE' : cn_A),
      (∀ (post : SX → Prop) (p0 p1 p2 p3 : Int32), p0 = nI node → p1 = nI goal → p2 = nI z → p3 = nI time → post ((nI now), (nI cc), (nI bc), bl', ba', (cn_n fr), (cn_n tt), (cn_n st), (cn_n en), (cn_n ra), (cn_n de), CA, TA, (cn_n so), (cn_n ta), (cn_n sz), li, RT, HI, (cn_n hc), HX, HB, wn', wr', wx', wc', wb', bC', bB') → wpX_findBest post ((nI now), (nI cc), (nI bc), bl, ba, (cn_n fr), (cn_n tt), (cn_n st), (cn_n en), (cn_n ra), (cn_n de), CA, TA, (cn_n so), (cn_n ta), (cn_n sz), li, RT, HI, (cn_n hc), HX, HB, wn, wr, wx, wc, wb, bC, bB) p0 p1 p2 p3) ∧
      ((bl' ≤ 0 ∧ ∀ (post : Int32 → SY → Prop) (p0 p1 p2 p3 : Int32), p0 = nI node → p1 = nI time → p2 = nI goal → p3 = nI z → post 0 ((nI now), (nI cc), (nI bc), be', bA', (cn_n fr), (cn_n tt), (cn_n st), (cn_n en), (cn_n ra), (cn_n de), CA, (cn_n so), (cn_n ta), (cn_n sz), li, SK, (cn_n hc), HY, HZ, tr', tb', no', ti', ne', bO', bE') → wpY_findBest post ((nI now), (nI cc), (nI bc), be, bA, (cn_n fr), (cn_n tt), (cn_n st), (cn_n en), (cn_n ra), (cn_n de), CA, (cn_n so), (cn_n ta), (cn_n sz), li, SK, (cn_n hc), HY, HZ, tr, tb, no, ti, ne, bO, bE) p0 p1 p2 p3) ∨
       (¬ bl' ≤ 0 ∧ bA' = ba' ∧ ∀ (post : Int32 → SY → Prop) (p0 p1 p2 p3 : Int32), p0 = nI node → p1 = nI time → p2 = nI goal → p3 = nI z → post 1 ((nI now), (nI cc), (nI bc), be', bA', (cn_n fr), (cn_n tt), (cn_n st), (cn_n en), (cn_n ra), (cn_n de), CA, (cn_n so), (cn_n ta), (cn_n sz), li, SK, (cn_n hc), HY, HZ, tr', tb', no', ti', ne', bO', bE') → wpY_findBest post ((nI now), (nI cc), (nI bc), be, bA, (cn_n fr), (cn_n tt), (cn_n st), (cn_n en), (cn_n ra), (cn_n de), CA, (cn_n so), (cn_n ta), (cn_n sz), li, SK, (cn_n hc), HY, HZ, tr, tb, no, ti, ne, bO, bE) p0 p1 p2 p3)) := by
  obtain ⟨i1, i2, i3, i4, i5, i6, i7, i8⟩ := I
  have hsz : ∀ b, b < bc → 1 ≤ sz b ∧ sz b ≤ 30 := fun b hb => ⟨(i6 b hb).2.2.1, (i6 b hb).2.2.2.1⟩
  obtain ⟨wn', wr', wx', wc', wb', bl', ba', bC', bB', f1, f2⟩ := cx_find (now := now) (bc := bc) (bl := bl) (ba := ba) (so := so) (ta := ta) (sz := sz) (hc := hc) (CA := CA) (TA := TA) (li := li) (RT := RT) (HI := HI) (HX := HX) (HB := HB) (wn := wn) (wr := wr) (wx := wx) (wc := wc) (wb := wb) (bC := bC) (bB := bB) i2 hz1 hz2 hg hn ht
  obtain ⟨tr', tb', no', ti', ne', be', bA', bO', bE', g1, g2⟩ := cy_find (now := now) (be := be) (bA := bA) (ta := ta) (CA := CA) (li := li) (SK := SK) (tr := tr) (tb := tb) (no := no) (ti := ti) (ne := ne) (bO := bO) (bE := bE) i2 i5 i3 hsz hz1 hz2 hg hn ht hng
  refine ⟨wn', wr', wx', wc', wb', bl', ba', bC', bB', tr', tb', no', ti', ne', be', bA', bO', bE', f2, ?_⟩
  cases hr : cn_bst cc fr tt st en ra de CA TA goal z node time with
  | none =>
    rw [hr] at f1
    have hb0 : bl' = 0 := f1
    exact Or.inl ⟨by rw [hb0]; decide, fun post p0 p1 p2 p3 e0 e1 e2 e3 h => g2 post p0 p1 p2 p3 e0 e1 e2 e3 (fun _ => h) (fun r h2 => absurd (hr.symm.trans h2) (by simp))⟩
  | some r =>
    rw [hr] at f1 g1
    obtain ⟨b1, b2, b3, b4, b5, b6⟩ := f1
    obtain ⟨d1, d2, d3, d4, d5, d6⟩ := g1
    exact Or.inr ⟨by rw [b4]; exact nI_nle (List.length_pos_iff.mpr b1) (by omega), d5.trans b5.symm, fun post p0 p1 p2 p3 e0 e1 e2 e3 h => g2 post p0 p1 p2 p3 e0 e1 e2 e3 (fun h2 => absurd (hr.symm.trans h2) (by simp)) (fun _ _ => h)⟩
theorem cn_reach (I : cn_In now cc bc nc fr tt st en ra de so ta sz CA RT SK (hc, oc, ob, TA, HX, HB, HY, HZ) Q) {node z : Nat} (hn : node < 6) (hz1 : 1 ≤ z) (hz2 : z ≤ 30) (by_ : Int32) :
    ∀ (m i : Nat) (set : Int32) (wn wr wx wc wb : cn_A) (bl ba : Int32) (bC bB tr tb no ti ne : cn_A) (be bA : Int32) (bO bE : cn_A), i + m = 6 →
    ∃ (set' : Int32) (wn' wr' wx' wc' wb' : cn_A) (bl' ba' : Int32) (bC' bB' tr' tb' no' ti' ne' : cn_A) (be' bA' : Int32) (bO' bE' : cn_A),
      (∀ (post : Int32 → SX → Prop), post set' ((nI now), (nI cc), (nI bc), bl', ba', (cn_n fr), (cn_n tt), (cn_n st), (cn_n en), (cn_n ra), (cn_n de), CA, TA, (cn_n so), (cn_n ta), (cn_n sz), li, RT, HI, (cn_n hc), HX, HB, wn', wr', wx', wc', wb', bC', bB') → wX_reach_27 post (nI node) (nI z) by_ (m + 1) set (nI i) (nI now) (nI cc) (nI bc) bl ba (cn_n fr) (cn_n tt) (cn_n st) (cn_n en) (cn_n ra) (cn_n de) CA TA (cn_n so) (cn_n ta) (cn_n sz) li RT HI (cn_n hc) HX HB wn wr wx wc wb bC bB) ∧
      (∀ (post : Int32 → SY → Prop), post set' ((nI now), (nI cc), (nI bc), be', bA', (cn_n fr), (cn_n tt), (cn_n st), (cn_n en), (cn_n ra), (cn_n de), CA, (cn_n so), (cn_n ta), (cn_n sz), li, SK, (cn_n hc), HY, HZ, tr', tb', no', ti', ne', bO', bE') → wY_reach_27 post (nI node) (nI z) by_ (m + 1) set (nI i) (nI now) (nI cc) (nI bc) be bA (cn_n fr) (cn_n tt) (cn_n st) (cn_n en) (cn_n ra) (cn_n de) CA (cn_n so) (cn_n ta) (cn_n sz) li SK (cn_n hc) HY HZ tr tb no ti ne bO bE) := by
  have hnow := I.1
  intro m
  induction m with
  | zero =>
    intro i set wn wr wx wc wb bl ba bC bB tr tb no ti ne be bA bO bE hi
    have q : (6 : Int32) ≤ nI i := nI_le (a := 6) (by omega) (by omega)
    exact ⟨set, wn, wr, wx, wc, wb, bl, ba, bC, bB, tr, tb, no, ti, ne, be, bA, bO, bE, fun post h => br_t q h, fun post h => br_t q h⟩
  | succ m ih =>
    intro i set wn wr wx wc wb bl ba bC bB tr tb no ti ne be bA bO bE hi
    have q : ¬ (6 : Int32) ≤ nI i := nI_ge (b := 6) (by omega) (by decide)
    by_cases ei : i = node
    · have qe : nI i = nI node := by rw [ei]
      obtain ⟨set', wn', wr', wx', wc', wb', bl', ba', bC', bB', tr', tb', no', ti', ne', be', bA', bO', bE', fx, fy⟩ := ih (i + 1) set wn wr wx wc wb bl ba bC bB tr tb no ti ne be bA bO bE (by omega)
      exact ⟨set', wn', wr', wx', wc', wb', bl', ba', bC', bB', tr', tb', no', ti', ne', be', bA', bO', bE', fun post h => br_f q (br_t qe (nm_r (nI_1 i) (fx post h))), fun post h => br_f q (br_t qe (nm_r (nI_1 i) (fy post h)))⟩
    · have qe : ¬ nI i = nI node := by rw [nI_eq (by omega) (by omega)]; exact ei
      have ee : nI node * 6 + nI i = nI (node * 6 + i) := by rw [cn_i6, pk_mul, nI_add]
      have d1 : (nI node * 6 + nI i) / 6 = nI node := by rw [ee, cn_d6 (by omega)]; congr 1; omega
      have d2 : (nI node * 6 + nI i) - (nI node * 6 + nI i) / 6 * 6 = nI i := by rw [ee, cn_r6 (by omega)]; congr 1; omega
      obtain ⟨wn1, wr1, wx1, wc1, wb1, bl1, ba1, bC1, bB1, tr1, tb1, no1, ti1, ne1, be1, bA1, bO1, bE1, f, g⟩ := cn_findXY (li := li) (HI := HI) I (node := node) (goal := i) (z := z) (time := now) hn (by omega) (fun h => ei h.symm) hz1 hz2 (by omega) wn wr wx wc wb bl ba bC bB tr tb no ti ne be bA bO bE
      rcases g with ⟨g1, g2⟩ | ⟨g1, ga, g2⟩
      · obtain ⟨set', wn', wr', wx', wc', wb', bl', ba', bC', bB', tr', tb', no', ti', ne', be', bA', bO', bE', fx, fy⟩ := ih (i + 1) set wn1 wr1 wx1 wc1 wb1 bl1 ba1 bC1 bB1 tr1 tb1 no1 ti1 ne1 be1 bA1 bO1 bE1 (by omega)
        exact ⟨set', wn', wr', wx', wc', wb', bl', ba', bC', bB', tr', tb', no', ti', ne', be', bA', bO', bE',
          fun post h => br_f q (br_f qe ⟨cn_n6, cn_n6, f _ _ _ _ _ d1 d2 rfl rfl (br_t g1 (br_t rfl (nm_r (nI_1 i) (fx post h))))⟩),
          fun post h => br_f q (br_f qe (g2 _ _ _ _ _ rfl rfl rfl rfl (br_t rfl (nm_r (nI_1 i) (fy post h)))))⟩
      · by_cases hb : by_ < ba1
        · obtain ⟨set', wn', wr', wx', wc', wb', bl', ba', bC', bB', tr', tb', no', ti', ne', be', bA', bO', bE', fx, fy⟩ := ih (i + 1) set wn1 wr1 wx1 wc1 wb1 bl1 ba1 bC1 bB1 tr1 tb1 no1 ti1 ne1 be1 bA1 bO1 bE1 (by omega)
          exact ⟨set', wn', wr', wx', wc', wb', bl', ba', bC', bB', tr', tb', no', ti', ne', be', bA', bO', bE',
            fun post h => br_f q (br_f qe ⟨cn_n6, cn_n6, f _ _ _ _ _ d1 d2 rfl rfl (br_f g1 (br_t hb (br_t rfl (nm_r (nI_1 i) (fx post h)))))⟩),
            fun post h => br_f q (br_f qe (g2 _ _ _ _ _ rfl rfl rfl rfl (br_f (by decide) (br_t (by rw [ga]; exact hb) (nm_r (nI_1 i) (fy post h))))))⟩
        · obtain ⟨set', wn', wr', wx', wc', wb', bl', ba', bC', bB', tr', tb', no', ti', ne', be', bA', bO', bE', fx, fy⟩ := ih (i + 1) (set ||| ((1 : Int32) <<< (nI i &&& 31))) wn1 wr1 wx1 wc1 wb1 bl1 ba1 bC1 bB1 tr1 tb1 no1 ti1 ne1 be1 bA1 bO1 bE1 (by omega)
          exact ⟨set', wn', wr', wx', wc', wb', bl', ba', bC', bB', tr', tb', no', ti', ne', be', bA', bO', bE',
            fun post h => br_f q (br_f qe ⟨cn_n6, cn_n6, f _ _ _ _ _ d1 d2 rfl rfl (br_f g1 (br_f hb (br_f (by decide) (nm_e (nm_r (nI_1 i) (fx post h))))))⟩),
            fun post h => br_f q (br_f qe (g2 _ _ _ _ _ rfl rfl rfl rfl (br_f (by decide) (br_f (by rw [ga]; exact hb) (nm_e (nm_r (nI_1 i) (fy post h)))))))⟩
theorem cn_late (I : cn_In now cc bc nc fr tt st en ra de so ta sz CA RT SK (hc, oc, ob, TA, HX, HB, HY, HZ) Q) {e z : Nat} (he : e < 36) (hne : e / 6 ≠ e % 6) (hz1 : 1 ≤ z) (hz2 : z ≤ 30) (by_ : Int32) :
    ∀ (m : Nat) (x4 : Int32) (wn wr wx wc wb : cn_A) (bl ba : Int32) (bC bB tr tb no ti ne : cn_A) (be bA : Int32) (bO bE : cn_A), m ≤ 101 → (m = 0 → x4 = -1) → (0 < m → x4 = nI (m - 1)) →
    ∃ (res : Int32) (wn' wr' wx' wc' wb' : cn_A) (bl' ba' : Int32) (bC' bB' tr' tb' no' ti' ne' : cn_A) (be' bA' : Int32) (bO' bE' : cn_A),
      (∀ (post : Int32 → SX → Prop), post res ((nI now), (nI cc), (nI bc), bl', ba', (cn_n fr), (cn_n tt), (cn_n st), (cn_n en), (cn_n ra), (cn_n de), CA, TA, (cn_n so), (cn_n ta), (cn_n sz), li, RT, HI, (cn_n hc), HX, HB, wn', wr', wx', wc', wb', bC', bB') → wX_latest_20 post (nI e) (nI z) by_ (m + 1) x4 (nI now) (nI cc) (nI bc) bl ba (cn_n fr) (cn_n tt) (cn_n st) (cn_n en) (cn_n ra) (cn_n de) CA TA (cn_n so) (cn_n ta) (cn_n sz) li RT HI (cn_n hc) HX HB wn wr wx wc wb bC bB) ∧
      (∀ (post : Int32 → SY → Prop), post res ((nI now), (nI cc), (nI bc), be', bA', (cn_n fr), (cn_n tt), (cn_n st), (cn_n en), (cn_n ra), (cn_n de), CA, (cn_n so), (cn_n ta), (cn_n sz), li, SK, (cn_n hc), HY, HZ, tr', tb', no', ti', ne', bO', bE') → wY_latest_22 post (nI e) (nI z) by_ (m + 1) x4 (nI now) (nI cc) (nI bc) be bA (cn_n fr) (cn_n tt) (cn_n st) (cn_n en) (cn_n ra) (cn_n de) CA (cn_n so) (cn_n ta) (cn_n sz) li SK (cn_n hc) HY HZ tr tb no ti ne bO bE) := by
  have hnow := I.1
  have d1 : nI e / 6 = nI (e / 6) := cn_d6 (by omega)
  have d2 : nI e - nI e / 6 * 6 = nI (e % 6) := cn_r6 (by omega)
  intro m
  induction m with
  | zero =>
    intro x4 wn wr wx wc wb bl ba bC bB tr tb no ti ne be bA bO bE _ h0 _
    rw [h0 rfl]
    have q : (-1 : Int32) < nI now := Int32.lt_of_lt_of_le (show (-1 : Int32) < 0 by decide) (nI_pos' (by omega))
    exact ⟨-4, wn, wr, wx, wc, wb, bl, ba, bC, bB, tr, tb, no, ti, ne, be, bA, bO, bE, fun post h => br_t (by decide) h, fun post h => br_t q h⟩
  | succ m ih =>
    intro x4 wn wr wx wc wb bl ba bC bB tr tb no ti ne be bA bO bE hm _ h1
    have hx : x4 = nI m := h1 (by omega)
    rw [hx]
    have q0 : ¬ nI m < 0 := nI_pos (by omega)
    by_cases hlt : m < now
    · exact ⟨-4, wn, wr, wx, wc, wb, bl, ba, bC, bB, tr, tb, no, ti, ne, be, bA, bO, bE, fun post h => br_f q0 (br_f (nI_ge hlt (by omega)) h), fun post h => br_t (nI_lt hlt (by omega)) h⟩
    · have qx : nI now ≤ nI m := nI_le (by omega) (by omega)
      have qy : ¬ nI m < nI now := nI_nlt (by omega) (by omega)
      have hn0 : m = 0 → nI m + (-1) = -1 := fun h => by rw [h]; decide
      have hn1 : 0 < m → nI m + (-1) = nI (m - 1) := fun h => by
        obtain ⟨j, rfl⟩ : ∃ j, m = j + 1 := ⟨m - 1, by omega⟩
        rw [pk_m1]; rfl
      obtain ⟨wn1, wr1, wx1, wc1, wb1, bl1, ba1, bC1, bB1, tr1, tb1, no1, ti1, ne1, be1, bA1, bO1, bE1, f, g⟩ := cn_findXY (li := li) (HI := HI) I (node := e / 6) (goal := e % 6) (z := z) (time := m) (by omega) (by omega) hne hz1 hz2 (by omega) wn wr wx wc wb bl ba bC bB tr tb no ti ne be bA bO bE
      obtain ⟨res, wn', wr', wx', wc', wb', bl', ba', bC', bB', tr', tb', no', ti', ne', be', bA', bO', bE', fx, fy⟩ := ih (nI m + (-1)) wn1 wr1 wx1 wc1 wb1 bl1 ba1 bC1 bB1 tr1 tb1 no1 ti1 ne1 be1 bA1 bO1 bE1 (by omega) hn0 hn1
      rcases g with ⟨g1, g2⟩ | ⟨g1, ga, g2⟩
      · exact ⟨res, wn', wr', wx', wc', wb', bl', ba', bC', bB', tr', tb', no', ti', ne', be', bA', bO', bE',
          fun post h => br_f q0 (br_t qx ⟨cn_n6, cn_n6, f _ _ _ _ _ d1 d2 rfl rfl (br_t g1 (br_t rfl (nm_e (fx post h))))⟩),
          fun post h => br_f qy ⟨cn_n6, cn_n6, g2 _ _ _ _ _ d1 rfl d2 rfl (br_t rfl (nm_e (fy post h)))⟩⟩
      · by_cases hb : by_ < ba1
        · exact ⟨res, wn', wr', wx', wc', wb', bl', ba', bC', bB', tr', tb', no', ti', ne', be', bA', bO', bE',
            fun post h => br_f q0 (br_t qx ⟨cn_n6, cn_n6, f _ _ _ _ _ d1 d2 rfl rfl (br_f g1 (br_t hb (br_t rfl (nm_e (fx post h)))))⟩),
            fun post h => br_f qy ⟨cn_n6, cn_n6, g2 _ _ _ _ _ d1 rfl d2 rfl (br_f (by decide) (br_t (by rw [ga]; exact hb) (nm_e (fy post h))))⟩⟩
        · exact ⟨nI m, wn1, wr1, wx1, wc1, wb1, bl1, ba1, bC1, bB1, tr1, tb1, no1, ti1, ne1, be1, bA1, bO1, bE1,
            fun post h => br_f q0 (br_t qx ⟨cn_n6, cn_n6, f _ _ _ _ _ d1 d2 rfl rfl (br_f g1 (br_f hb (br_f (by decide) h)))⟩),
            fun post h => br_f qy ⟨cn_n6, cn_n6, g2 _ _ _ _ _ d1 rfl d2 rfl (br_f (by decide) (br_f (by rw [ga]; exact hb) h))⟩⟩
end
end
section
theorem i_vc_quote {k : Nat} {u : SX} {v : SY} (I : i_Rel k u v) (hk : k + 4 ≤ 2048) (v1 : Int32) (v2 : Int32) : wpX_quote (fun r u' => wpY_quote (fun r' v' => r' = r ∧ i_Rel (k + 4) u' v') v v1 v2) u v1 v2 := by
  have R := i_up I
  obtain ⟨now, cc, bc, nc, fr, tt, st, en, ra, de, so, ta, sz, hc, oc, ob, CA, TA, li, RT, HI, HX, HB, wn, wr, wx, wc, wb, bC, bB, SK, HY, HZ, tr, tb, no, ti, ne, bO, bE, bl, ba, be, bA, e1, e2, h1, I⟩ := I
  subst e1 e2
  have hnow := I.1
  unfold wpX_quote wpY_quote
  dsimp only
  rcases cn_ends (now := now) (cc := cc) (bc := bc) (be := be) (bA := bA) (fr := fr) (tt := tt) (st := st) (en := en) (ra := ra) (de := de) (so := so) (ta := ta) (sz := sz) (hc := hc) (CA := CA) (li := li) (SK := SK) (HY := HY) (HZ := HZ) (tr := tr) (tb := tb) (no := no) (ti := ti) (ne := ne) (bO := bO) (bE := bE) v1 with ⟨e, he, hne, rfl, fx, fy⟩ | ⟨fx, fy⟩
  · have d1 : nI e / 6 = nI (e / 6) := cn_d6 (by omega)
    have d2 : nI e - nI e / 6 * 6 = nI (e % 6) := cn_r6 (by omega)
    rcases cn_size (now := now) (cc := cc) (bc := bc) (be := be) (bA := bA) (fr := fr) (tt := tt) (st := st) (en := en) (ra := ra) (de := de) (so := so) (ta := ta) (sz := sz) (hc := hc) (CA := CA) (li := li) (SK := SK) (HY := HY) (HZ := HZ) (tr := tr) (tb := tb) (no := no) (ti := ti) (ne := ne) (bO := bO) (bE := bE) v2 with ⟨z, hz1, hz2, rfl, sx, sy⟩ | ⟨sx, sy⟩
    · obtain ⟨wn1, wr1, wx1, wc1, wb1, bl1, ba1, bC1, bB1, tr1, tb1, no1, ti1, ne1, be1, bA1, bO1, bE1, f, g⟩ := cn_findXY (li := li) (HI := HI) I (node := e / 6) (goal := e % 6) (z := z) (time := now) (by omega) (by omega) hne hz1 hz2 (by omega) wn wr wx wc wb bl ba bC bB tr tb no ti ne be bA bO bE
      rcases g with ⟨g1, g2⟩ | ⟨g1, ga, g2⟩
      · exact fx _ (br_f (by decide) (sx _ (br_f (by decide) ⟨cn_n6, cn_n6, f _ _ _ _ _ d1 d2 rfl rfl (br_t g1 (fy _ (br_t rfl (sy _ (br_t rfl ⟨cn_n6, cn_n6, g2 _ _ _ _ _ d1 rfl d2 rfl (br_t rfl ⟨rfl, cn_mk (by omega) I⟩)⟩)))))⟩)))
      · exact fx _ (br_f (by decide) (sx _ (br_f (by decide) ⟨cn_n6, cn_n6, f _ _ _ _ _ d1 d2 rfl rfl (br_f g1 (fy _ (br_t rfl (sy _ (br_t rfl ⟨cn_n6, cn_n6, g2 _ _ _ _ _ d1 rfl d2 rfl (br_f (by decide) ⟨ga, cn_mk (by omega) I⟩)⟩)))))⟩)))
    · exact fx _ (br_f (by decide) (sx _ (br_t rfl (fy _ (br_t rfl (sy _ (br_f (by decide) ⟨rfl, R⟩)))))))
  · exact fx _ (br_t rfl (fy _ (br_f (by decide) ⟨rfl, R⟩)))
theorem i_vc_reach {k : Nat} {u : SX} {v : SY} (I : i_Rel k u v) (hk : k + 4 ≤ 2048) (v1 : Int32) (v2 : Int32) (v3 : Int32) : wpX_reach (fun r u' => wpY_reach (fun r' v' => r' = r ∧ i_Rel (k + 4) u' v') v v1 v2 v3) u v1 v2 v3 := by
  have R := i_up I
  obtain ⟨now, cc, bc, nc, fr, tt, st, en, ra, de, so, ta, sz, hc, oc, ob, CA, TA, li, RT, HI, HX, HB, wn, wr, wx, wc, wb, bC, bB, SK, HY, HZ, tr, tb, no, ti, ne, bO, bE, bl, ba, be, bA, e1, e2, h1, I⟩ := I
  subst e1 e2
  rcases pk_ix v1 (n := 6) (by omega) with h | h | ⟨node, hn, rfl⟩
  · exact br_t h (br_t h ⟨rfl, R⟩)
  · obtain ⟨q1, q2, q3⟩ := cn_geN (b := 5) (by omega) (by omega) (by omega) h
    exact br_f q1 (br_t h (br_f q1 (br_t q2 ⟨rfl, R⟩)))
  · have q0 : ¬ nI node < 0 := nI_pos (by omega)
    have q1 : ¬ (6 : Int32) ≤ nI node := nI_ge (b := 6) hn (by decide)
    have q2 : ¬ (5 : Int32) < nI node := nI_nlt (a := 5) (by omega) (by omega)
    rcases cn_size (now := now) (cc := cc) (bc := bc) (be := be) (bA := bA) (fr := fr) (tt := tt) (st := st) (en := en) (ra := ra) (de := de) (so := so) (ta := ta) (sz := sz) (hc := hc) (CA := CA) (li := li) (SK := SK) (HY := HY) (HZ := HZ) (tr := tr) (tb := tb) (no := no) (ti := ti) (ne := ne) (bO := bO) (bE := bE) v2 with ⟨z, hz1, hz2, rfl, sx, sy⟩ | ⟨sx, sy⟩
    · obtain ⟨set', wn', wr', wx', wc', wb', bl', ba', bC', bB', tr', tb', no', ti', ne', be', bA', bO', bE', f, g⟩ := cn_reach (li := li) (HI := HI) I hn hz1 hz2 v3 6 0 ((1 : Int32) <<< (nI node &&& 31)) wn wr wx wc wb bl ba bC bB tr tb no ti ne be bA bO bE (by omega)
      exact br_f q0 (br_f q1 (sx _ (br_f (by decide) (nm_e ⟨7, f _ (br_f q0 (br_f q2 (sy _ (br_t rfl (nm_e ⟨7, g _ ⟨rfl, cn_mk (by omega) I⟩⟩)))))⟩))))
    · exact br_f q0 (br_f q1 (sx _ (br_t rfl (br_f q0 (br_f q2 (sy _ (br_f (by decide) ⟨rfl, R⟩)))))))
theorem i_vc_latest {k : Nat} {u : SX} {v : SY} (I : i_Rel k u v) (hk : k + 4 ≤ 2048) (v1 : Int32) (v2 : Int32) (v3 : Int32) : wpX_latest (fun r u' => wpY_latest (fun r' v' => r' = r ∧ i_Rel (k + 4) u' v') v v1 v2 v3) u v1 v2 v3 := by
  have R := i_up I
  obtain ⟨now, cc, bc, nc, fr, tt, st, en, ra, de, so, ta, sz, hc, oc, ob, CA, TA, li, RT, HI, HX, HB, wn, wr, wx, wc, wb, bC, bB, SK, HY, HZ, tr, tb, no, ti, ne, bO, bE, bl, ba, be, bA, e1, e2, h1, I⟩ := I
  subst e1 e2
  unfold wpX_latest wpY_latest
  dsimp only
  rcases cn_ends (now := now) (cc := cc) (bc := bc) (be := be) (bA := bA) (fr := fr) (tt := tt) (st := st) (en := en) (ra := ra) (de := de) (so := so) (ta := ta) (sz := sz) (hc := hc) (CA := CA) (li := li) (SK := SK) (HY := HY) (HZ := HZ) (tr := tr) (tb := tb) (no := no) (ti := ti) (ne := ne) (bO := bO) (bE := bE) v1 with ⟨e, he, hne, rfl, fx, fy⟩ | ⟨fx, fy⟩
  · rcases cn_size (now := now) (cc := cc) (bc := bc) (be := be) (bA := bA) (fr := fr) (tt := tt) (st := st) (en := en) (ra := ra) (de := de) (so := so) (ta := ta) (sz := sz) (hc := hc) (CA := CA) (li := li) (SK := SK) (HY := HY) (HZ := HZ) (tr := tr) (tb := tb) (no := no) (ti := ti) (ne := ne) (bO := bO) (bE := bE) v2 with ⟨z, hz1, hz2, rfl, sx, sy⟩ | ⟨sx, sy⟩
    · obtain ⟨res, wn', wr', wx', wc', wb', bl', ba', bC', bB', tr', tb', no', ti', ne', be', bA', bO', bE', f, g⟩ := cn_late (li := li) (HI := HI) I he hne hz1 hz2 v3 101 100 wn wr wx wc wb bl ba bC bB tr tb no ti ne be bA bO bE (by omega) (fun h => by omega) (fun _ => rfl)
      exact fx _ (br_f (by decide) (sx _ (br_f (by decide) ⟨102, f _ (fy _ (br_t rfl (sy _ (br_t rfl ⟨102, g _ ⟨rfl, cn_mk (by omega) I⟩⟩))))⟩)))
    · exact fx _ (br_f (by decide) (sx _ (br_t rfl (fy _ (br_t rfl (sy _ (br_f (by decide) ⟨rfl, R⟩)))))))
  · exact fx _ (br_t rfl (fy _ (br_f (by decide) ⟨rfl, R⟩)))
end
section
section
variable {k now cc bc nc : Nat} {fr tt st en ra de so ta sz hc : Nat → Nat} {oc ob : Nat → Nat → Nat} {CA TA li RT HI HX HB SK HY HZ : Nat → Int32}
theorem cn_In_bundle (I : cn_In now cc bc nc fr tt st en ra de so ta sz CA RT SK (hc, oc, ob, TA, HX, HB, HY, HZ) (fun _ => True)) (h10 : bc < 10) {x g z : Nat} (h1 : x < 6) (h2 : g < 6) (h3 : x ≠ g) (h4 : 1 ≤ z) (h5 : z ≤ 30) :
    cn_In now cc (bc + 1) nc fr tt st en ra de (cn_up so bc x) (cn_up ta bc g) (cn_up sz bc z) CA RT SK (hc, oc, ob, TA, HX, HB, HY, HZ) (fun b => b < bc) := by
  obtain ⟨i1, i2, i3, i4, i5, i6, i7, i8⟩ := I
  obtain ⟨z1, z2⟩ := i7 bc (Nat.le_refl _) h10
  exact ⟨i1, i2, by omega, i4, cn_Iv_bundle i5 z1 x z, cn_Bn_bundle (s := (hc, oc, ob, TA, HX, HB, HY, HZ)) i6 z1 z2 h1 h2 h3 h4 h5, fun b q1 q2 => i7 b (by omega) q2, fun b _ q => i8 b q trivial⟩
theorem cn_In_more (I : cn_In now cc bc nc fr tt st en ra de so ta sz CA RT SK (hc, oc, ob, TA, HX, HB, HY, HZ) (fun _ => True)) (h10 : cc < 10) {f t s e r d : Nat} (h1 : f < 6) (h2 : t < 6) (h3 : f ≠ t) (h4 : s < e) (h5 : e ≤ 100) (h6 : 1 ≤ r) (h7 : r ≤ 9) (h8 : d ≤ 9) :
    cn_In now (cc + 1) bc nc (cn_up fr cc f) (cn_up tt cc t) (cn_up st cc s) (cn_up en cc e) (cn_up ra cc r) (cn_up de cc d) so ta sz CA RT SK (hc, oc, ob, TA, HX, HB, HY, HZ) (fun _ => True) := by
  obtain ⟨i1, i2, i3, i4, i5, i6, i7, i8⟩ := I
  exact ⟨i1, cn_netMore i2 h10 h1 h2 h3 h4 h5 h6 h7 h8, i3, cn_Ca_cc i4, cn_Iv_more i5 f t s e r, cn_Bn_more (s := (hc, oc, ob, TA, HX, HB, HY, HZ)) i6 i5 t, i7, i8⟩
theorem cn_In_off (I : cn_In now cc bc nc fr tt st en ra de so ta sz CA RT SK (hc, oc, ob, TA, HX, HB, HY, HZ) (fun _ => True)) {c : Nat} (hc1 : c < cc) (h0 : CA c = 0) :
    cn_In now cc bc (nc + 1) fr tt st en ra de so ta sz (upd CA c 1) RT SK (hc, oc, ob, TA, HX, HB, HY, HZ) (fun _ => True) := by
  obtain ⟨i1, i2, i3, i4, i5, i6, i7, i8⟩ := I
  exact ⟨i1, i2, i3, cn_Ca_up i4 i2.1 hc1 h0, i5, cn_Bn_nc (s := (hc, oc, ob, TA, HX, HB, HY, HZ)) i6, i7, i8⟩
end
theorem i_vc_send {k : Nat} {u : SX} {v : SY} (I : i_Rel k u v) (hk : k + 4 ≤ 2048) (v1 : Int32) (v2 : Int32) (v3 : Int32) : wpX_send (fun r u' => wpY_send (fun r' v' => r' = r ∧ i_Rel (k + 4) u' v') v v1 v2 v3) u v1 v2 v3 := by
  have R := i_up I
  obtain ⟨now, cc, bc, nc, fr, tt, st, en, ra, de, so, ta, sz, hc, oc, ob, CA, TA, li, RT, HI, HX, HB, wn, wr, wx, wc, wb, bC, bB, SK, HY, HZ, tr, tb, no, ti, ne, bO, bE, bl, ba, be, bA, e1, e2, h1, I⟩ := I
  subst e1 e2
  have hnow := I.1
  have hbc := I.2.2.1
  unfold wpX_send wpY_send
  dsimp only
  rcases cn_ends (now := now) (cc := cc) (bc := bc) (be := be) (bA := bA) (fr := fr) (tt := tt) (st := st) (en := en) (ra := ra) (de := de) (so := so) (ta := ta) (sz := sz) (hc := hc) (CA := CA) (li := li) (SK := SK) (HY := HY) (HZ := HZ) (tr := tr) (tb := tb) (no := no) (ti := ti) (ne := ne) (bO := bO) (bE := bE) v1 with ⟨e, he, hne, rfl, fx, fy⟩ | ⟨fx, fy⟩
  · have d1 : nI e / 6 = nI (e / 6) := cn_d6 (by omega)
    have d2 : nI e - nI e / 6 * 6 = nI (e % 6) := cn_r6 (by omega)
    rcases cn_size (now := now) (cc := cc) (bc := bc) (be := be) (bA := bA) (fr := fr) (tt := tt) (st := st) (en := en) (ra := ra) (de := de) (so := so) (ta := ta) (sz := sz) (hc := hc) (CA := CA) (li := li) (SK := SK) (HY := HY) (HZ := HZ) (tr := tr) (tb := tb) (no := no) (ti := ti) (ne := ne) (bO := bO) (bE := bE) v2 with ⟨z, hz1, hz2, rfl, sx, sy⟩ | ⟨sx, sy⟩
    · by_cases h10 : bc < 10
      · have qx : nI bc < 10 := nI_lt (b := 10) h10 (by omega)
        have qy : ¬ nI bc = 10 := by
          show ¬ nI bc = nI 10
          rw [nI_eq (by omega) (by omega)]; omega
        have hvb : vp_in (nI bc) 10 := vp_in_nI h10 (by omega)
        have cb : (nI bc).toNatClampNeg = bc := nI_clamp (by omega)
        have hz0 : hc bc = 0 := (I.2.2.2.2.2.2.1 bc (Nat.le_refl _) h10).1
        have hR0 : RT bc = 0 := (I.2.2.2.2.2.2.1 bc (Nat.le_refl _) h10).2
        have I1 := cn_In_bundle I h10 (x := e / 6) (g := e % 6) (z := z) (by omega) (by omega) hne hz1 hz2
        obtain ⟨hc1, oc1, ob1, TA1, HX1, HB1, HY1, HZ1, RT1, SK1, J1, _, x1, y1⟩ := cn_planXY (li := upd li bc v3) I1 (b := bc) (by omega) hR0
        obtain ⟨wn1, wr1, wx1, wc1, wb1, bl1, ba1, bC1, bB1, f1⟩ := x1 HI wn wr wx wc wb bl ba bC bB
        obtain ⟨tr1, tb1, no1, ti1, ne1, be1, bA1, bO1, bE1, g1⟩ := y1 tr tb no ti ne be bA bO bE
        have J : cn_In now cc (bc + 1) nc fr tt st en ra de (cn_up so bc (e / 6)) (cn_up ta bc (e % 6)) (cn_up sz bc z) CA RT1 SK1 (hc1, oc1, ob1, TA1, HX1, HB1, HY1, HZ1) (fun _ => True) := cn_In_Q J1 (fun b hb _ => by
          by_cases e : b = bc
          · exact Or.inr e
          · exact Or.inl (by omega))
        have w1 : upd (cn_n so) (nI bc).toNatClampNeg (nI e / 6) = cn_n (cn_up so bc (e / 6)) := by rw [cb, d1, cn_n_up]
        have w2 : upd (cn_n ta) (nI bc).toNatClampNeg (nI e - nI e / 6 * 6) = cn_n (cn_up ta bc (e % 6)) := by rw [cb, d2, cn_n_up]
        have w3 : upd (cn_n sz) (nI bc).toNatClampNeg (nI z) = cn_n (cn_up sz bc z) := by rw [cb, cn_n_up]
        have w4 : upd li (nI bc).toNatClampNeg v3 = upd li bc v3 := by rw [cb]
        have w5 : upd (cn_n hc) (nI bc).toNatClampNeg 0 = cn_n hc := by
          rw [cb]
          show upd (cn_n hc) bc (nI 0) = cn_n hc
          rw [cn_n_up, cn_n_same hz0]
        exact fx _ (br_f (by decide) (sx _ (br_f (by decide) (br_t qx ⟨cn_n6, hvb, nm_r w1 ⟨cn_n6, hvb, nm_r w2 ⟨hvb, nm_r w3 ⟨hvb, nm_r w4 (nm_r (nI_1 bc) (f1 _ (fy _ (br_t rfl (sy _ (br_t rfl (br_f qy
          ⟨cn_n6, hvb, nm_r w1 ⟨cn_n6, hvb, nm_r w2 ⟨hvb, nm_r w3 ⟨hvb, nm_r w4 ⟨hvb, nm_r w5 (nm_r (nI_1 bc) (g1 _ ⟨rfl, cn_mk (by omega) J⟩))⟩⟩⟩⟩⟩)))))))⟩⟩⟩⟩))))
      · have qx : ¬ nI bc < 10 := nI_nlt (b := 10) (by omega) (by omega)
        have qy : nI bc = 10 := by
          have : bc = 10 := by omega
          rw [this]; rfl
        exact fx _ (br_f (by decide) (sx _ (br_f (by decide) (br_f qx (fy _ (br_t rfl (sy _ (br_t rfl (br_t qy ⟨rfl, R⟩)))))))))
    · exact fx _ (br_f (by decide) (sx _ (br_t rfl (fy _ (br_t rfl (sy _ (br_f (by decide) ⟨rfl, R⟩)))))))
  · exact fx _ (br_t rfl (fy _ (br_f (by decide) ⟨rfl, R⟩)))
theorem i_vc_contact {k : Nat} {u : SX} {v : SY} (I : i_Rel k u v) (hk : k + 4 ≤ 2048) (v1 : Int32) (v2 : Int32) (v3 : Int32) : wpX_contact (fun r u' => wpY_contact (fun r' v' => r' = r ∧ i_Rel (k + 4) u' v') v v1 v2 v3) u v1 v2 v3 := by
  have R := i_up I
  obtain ⟨now, cc, bc, nc, fr, tt, st, en, ra, de, so, ta, sz, hc, oc, ob, CA, TA, li, RT, HI, HX, HB, wn, wr, wx, wc, wb, bC, bB, SK, HY, HZ, tr, tb, no, ti, ne, bO, bE, bl, ba, be, bA, e1, e2, h1, I⟩ := I
  subst e1 e2
  have hnow := I.1
  have hcc := I.2.1.1
  unfold wpX_contact wpY_contact
  dsimp only
  rcases cn_ends (now := now) (cc := cc) (bc := bc) (be := be) (bA := bA) (fr := fr) (tt := tt) (st := st) (en := en) (ra := ra) (de := de) (so := so) (ta := ta) (sz := sz) (hc := hc) (CA := CA) (li := li) (SK := SK) (HY := HY) (HZ := HZ) (tr := tr) (tb := tb) (no := no) (ti := ti) (ne := ne) (bO := bO) (bE := bE) v1 with ⟨e, he, hne, rfl, fx, fy⟩ | ⟨fx, fy⟩
  · rcases cn_span v2 with ⟨s, hs1, hs2, rfl, px, py⟩ | ⟨px, py⟩
    · rcases cn_terms v3 with ⟨t, ht1, ht2, rfl, tx, ty⟩ | ⟨tx, ty⟩
      · by_cases h10 : cc < 10
        · have qx : nI cc < 10 := nI_lt (b := 10) h10 (by omega)
          have qy : ¬ nI cc = 10 := by
            show ¬ nI cc = nI 10
            rw [nI_eq (by omega) (by omega)]; omega
          have hvc : vp_in (nI cc) 10 := vp_in_nI h10 (by omega)
          have cl : (nI cc).toNatClampNeg = cc := nI_clamp (by omega)
          have I1 := cn_In_more I h10 (f := e / 6) (t := e % 6) (s := s / 101) (e := s % 101) (r := t / 10) (d := t % 10) (by omega) (by omega) hne hs2 (by omega) (by omega) (by omega) (by omega)
          obtain ⟨hc1, oc1, ob1, TA1, HX1, HB1, HY1, HZ1, RT1, SK1, J, x1, y1⟩ := cn_retryXY (li := li) bc 0 hc oc ob TA HX HB HY HZ RT SK (by omega) I1
          obtain ⟨wn1, wr1, wx1, wc1, wb1, bl1, ba1, bC1, bB1, f1⟩ := x1 HI wn wr wx wc wb bl ba bC bB
          obtain ⟨tr1, tb1, no1, ti1, ne1, be1, bA1, bO1, bE1, g1⟩ := y1 tr tb no ti ne be bA bO bE
          have w1 : upd (cn_n fr) (nI cc).toNatClampNeg (nI e / 6) = cn_n (cn_up fr cc (e / 6)) := by rw [cl, cn_d6 (by omega), cn_n_up]
          have w2 : upd (cn_n tt) (nI cc).toNatClampNeg (nI e - nI e / 6 * 6) = cn_n (cn_up tt cc (e % 6)) := by rw [cl, cn_r6 (by omega), cn_n_up]
          have w3 : upd (cn_n st) (nI cc).toNatClampNeg (nI s / 101) = cn_n (cn_up st cc (s / 101)) := by rw [cl, cn_d101 (by omega), cn_n_up]
          have w4 : upd (cn_n en) (nI cc).toNatClampNeg (nI s - nI s / 101 * 101) = cn_n (cn_up en cc (s % 101)) := by rw [cl, cn_r101 (by omega), cn_n_up]
          have w5 : upd (cn_n ra) (nI cc).toNatClampNeg (nI t / 10) = cn_n (cn_up ra cc (t / 10)) := by rw [cl, cn_d10 (by omega), cn_n_up]
          have w6 : upd (cn_n de) (nI cc).toNatClampNeg (nI t - nI t / 10 * 10) = cn_n (cn_up de cc (t % 10)) := by rw [cl, cn_r10 (by omega), cn_n_up]
          refine fx _ (br_f (by decide) (px _ (br_f (by decide) (tx _ (br_f (by decide) (br_t qx ⟨cn_n6, hvc, nm_r w1 ⟨cn_n6, hvc, nm_r w2 ⟨cn_n101, hvc, nm_r w3 ⟨cn_n101, hvc, nm_r w4 ⟨cn_n10, hvc, nm_r w5 ⟨cn_n10, hvc, nm_r w6 (nm_r (nI_1 cc) ⟨bc + 1, f1 _ ?_⟩)⟩⟩⟩⟩⟩⟩))))))
          refine fy _ (br_t rfl (py _ _ (ty _ _ (br_f qy ⟨cn_n6, hvc, nm_r w1 ⟨cn_n6, hvc, nm_r w2 ⟨cn_n101, hvc, nm_r w3 ⟨cn_n101, hvc, nm_r w4 ⟨cn_n10, hvc, nm_r w5 ⟨cn_n10, hvc, nm_r w6 (nm_r (nI_1 cc) ⟨bc + 1, g1 _ ⟨nI_pred cc, cn_mk (by omega) J⟩⟩)⟩⟩⟩⟩⟩⟩))))
        · have qx : ¬ nI cc < 10 := nI_nlt (b := 10) (by omega) (by omega)
          have qy : nI cc = 10 := by
            have : cc = 10 := by omega
            rw [this]; rfl
          exact fx _ (br_f (by decide) (px _ (br_f (by decide) (tx _ (br_f (by decide) (br_f qx (fy _ (br_t rfl (py _ _ (ty _ _ (br_t qy ⟨rfl, R⟩)))))))))))
      · exact fx _ (br_f (by decide) (px _ (br_f (by decide) (tx _ (br_t rfl (fy _ (br_t rfl (py _ _ (ty _ _ ⟨rfl, R⟩)))))))))
    · exact fx _ (br_f (by decide) (px _ (br_t rfl (fy _ (br_t rfl (py _ _ ⟨rfl, R⟩))))))
  · exact fx _ (br_t rfl (fy _ (br_f (by decide) ⟨rfl, R⟩)))
theorem i_vc_cancel {k : Nat} {u : SX} {v : SY} (I : i_Rel k u v) (hk : k + 4 ≤ 2048) (v1 : Int32) : wpX_cancel (fun r u' => wpY_cancel (fun r' v' => r' = r ∧ i_Rel (k + 4) u' v') v v1) u v1 := by
  have R := i_up I
  obtain ⟨now, cc, bc, nc, fr, tt, st, en, ra, de, so, ta, sz, hc, oc, ob, CA, TA, li, RT, HI, HX, HB, wn, wr, wx, wc, wb, bC, bB, SK, HY, HZ, tr, tb, no, ti, ne, bO, bE, bl, ba, be, bA, e1, e2, h1, I⟩ := I
  subst e1 e2
  have hcc := I.2.1.1
  rcases cn_con hcc v1 with ⟨c, hc1, rfl⟩ | h | ⟨h0, h⟩
  · have h0 : ¬ nI c < 0 := nI_pos (by omega)
    have hge : ¬ nI cc ≤ nI c := nI_ge hc1 (by omega)
    have hvc : vp_in (nI c) 10 := vp_in_nI (by omega) (by omega)
    have cl : (nI c).toNatClampNeg = c := nI_clamp (by omega)
    by_cases hca : CA c = 0
    · have q : CA (nI c).toNatClampNeg = 0 := by rw [cl]; exact hca
      have w : upd CA (nI c).toNatClampNeg (vp_nar .boolean 1) = upd CA c 1 := by rw [cl, cx_b1]
      have I1 := cn_In_off I hc1 hca
      obtain ⟨h', hc', oc', ob', TA', HX', HB', HY', HZ', RT', HI', bits', J, j1, j2, jx, jy⟩ := cn_c1 (li := li) hc1 SK bc 0 0 hc oc ob TA HX HB HY HZ RT HI 0 (by omega) (cn_In_Q I1 (fun _ _ _ => trivial))
        (fun b hb => by have : hc b ≤ 5 * nc + 5 := cn_Bn_le (s := (hc, oc, ob, TA, HX, HB, HY, HZ)) I.2.2.2.2.2.1 hb; omega) (fun b hb => by omega) (fun j _ => by rw [b_0]; exact ⟨fun z => absurd z (by decide), fun z => by omega⟩)
      obtain ⟨hc2, oc2, ob2, TA2, HX2, HB2, HY2, HZ2, RT2, SK2, J2, kx, ky⟩ := cn_c2 (li := li) (hn := nI h') j2 bc 0 hc' oc' ob' TA' HX' HB' HY' HZ' RT' SK (by omega) (cn_In_Q J (fun b _ z => z.resolve_right (by omega))) (fun b _ hb => j1 b hb)
      obtain ⟨wn1, wr1, wx1, wc1, wb1, bl1, ba1, bC1, bB1, f1⟩ := kx wn wr wx wc wb bl ba bC bB
      obtain ⟨tr1, tb1, no1, ti1, ne1, be1, bA1, bO1, bE1, g1⟩ := ky tr tb no ti ne be bA bO bE
      exact br_f h0 (br_f hge (br_f (by decide) ⟨hvc, br_t q ⟨hvc, nm_r w ⟨bc + 1, jx wn wr wx wc wb bl ba bC bB _ ⟨bc + 1, f1 _ (br_f h0 (br_f hge ⟨hvc, br_t q ⟨hvc, nm_r w ⟨bc + 1, jy tr tb no ti ne be bA bO bE _ ⟨bc + 1, g1 _ ⟨rfl, cn_mk (by omega) J2⟩⟩⟩⟩⟩))⟩⟩⟩⟩))
    · have q : ¬ CA (nI c).toNatClampNeg = 0 := by rw [cl]; exact hca
      exact br_f h0 (br_f hge (br_f (by decide) ⟨hvc, br_f q (br_f h0 (br_f hge ⟨hvc, br_f q ⟨rfl, R⟩⟩))⟩))
  · exact br_t h (br_t rfl (br_t h ⟨rfl, R⟩))
  · exact br_f h0 (br_t h (br_t rfl (br_f h0 (br_t h ⟨rfl, R⟩))))
end
