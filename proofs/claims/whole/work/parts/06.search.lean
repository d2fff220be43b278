abbrev cn_A : Type := Nat → Int32
def cn_BR (o : Option cn_R) (bl ba : Int32) (bC bB : cn_A) : Prop :=
  match o with
  | none => bl = 0
  | some r => r.1 ≠ [] ∧ r.1.length ≤ 5 ∧ r.2 ≤ 200 ∧ bl = nI r.1.length ∧ ba = nI r.2 ∧ ∀ i, i < r.1.length → bC i = nI (r.1.getD i (0, 0)).1 ∧ bB i = nI (r.1.getD i (0, 0)).2
def cn_bet (bl ba : Int32) (d a : Nat) : Prop := bl = 0 ∨ nI a < ba ∨ (nI a = ba ∧ nI d < bl)
theorem cn_bet_t {o : Option cn_R} {bl ba : Int32} {bC bB : cn_A} (h : cn_BR o bl ba bC bB) {r : cn_R} (h1 : r.1.length ≤ 5) (h2 : r.2 ≤ 200) (hb : cn_bet bl ba r.1.length r.2) : cn_f o r = some r := by
  cases o with
  | none => rfl
  | some m =>
    obtain ⟨m1, m2, m3, m4, m5, m6⟩ := h
    have hp := List.length_pos_iff.mpr m1
    have : cn_key r < cn_key m := by
      unfold cn_key
      rw [m4, m5] at hb
      rcases hb with hb | hb | hb
      · exact absurd hb (nI_ne0 hp (by omega))
      · rw [nI_ltI (by omega) (by omega)] at hb; omega
      · rw [nI_ltI (by omega) (by omega), nI_eq (by omega) (by omega)] at hb; omega
    exact if_pos this
theorem cn_bet_f {o : Option cn_R} {bl ba : Int32} {bC bB : cn_A} (h : cn_BR o bl ba bC bB) {r : cn_R} (h1 : r.1.length ≤ 5) (h2 : r.2 ≤ 200) (hb : ¬ cn_bet bl ba r.1.length r.2) : cn_f o r = o := by
  cases o with
  | none => exact absurd (Or.inl h) hb
  | some m =>
    obtain ⟨m1, m2, m3, m4, m5, m6⟩ := h
    have : ¬ cn_key r < cn_key m := by
      unfold cn_key
      intro hlt
      apply hb
      rw [cn_bet, m4, m5, nI_ltI (by omega) (by omega), nI_ltI (by omega) (by omega), nI_eq (by omega) (by omega)]
      right
      omega
    exact if_neg this
theorem cn_gd {p : List (Nat × Nat)} {x : Nat × Nat} {i : Nat} (h : i < p.length) : (p ++ [x]).getD i (0, 0) = p.getD i (0, 0) := by
  rw [List.getD_eq_getElem?_getD, List.getD_eq_getElem?_getD, List.getElem?_append_left h]
theorem cn_gl {p : List (Nat × Nat)} {x : Nat × Nat} : (p ++ [x]).getD p.length (0, 0) = x := by
  rw [List.getD_eq_getElem?_getD, List.getElem?_append_right (Nat.le_refl _), Nat.sub_self]; rfl
def cn_cp (d : Nat) (w b : cn_A) : cn_A := fun j => if j < d then w j else b j
/-- the path that the search is on, in two arrays -/
def cn_Pa (p : List (Nat × Nat)) (wc wb : cn_A) : Prop := ∀ i, i < p.length → wc i = nI (p.getD i (0, 0)).1 ∧ wb i = nI (p.getD i (0, 0)).2
theorem cn_Pa_s {p : List (Nat × Nat)} {wc wb : cn_A} {k b : Nat} (h : cn_Pa p wc wb) : cn_Pa (p ++ [(k, b)]) (upd wc p.length (nI k)) (upd wb p.length (nI b)) := by
  intro i hi
  rw [List.length_append, List.length_singleton] at hi
  by_cases e : i = p.length
  · rw [e, cn_gl, pk_us, pk_us]; exact ⟨rfl, rfl⟩
  · rw [cn_gd (by omega), pk_un e, pk_un e]; exact h i (by omega)
theorem cn_Pa_x {p : List (Nat × Nat)} {wc wb wc' wb' : cn_A} (h : cn_Pa p wc wb) (e : ∀ i, i < p.length → wc' i = wc i ∧ wb' i = wb i) : cn_Pa p wc' wb' := by
  intro i hi
  rw [(e i hi).1, (e i hi).2]; exact h i hi
theorem cn_BR_k {p : List (Nat × Nat)} {wc wb bC bB : cn_A} {a : Nat} (h : cn_Pa p wc wb) (h1 : p ≠ []) (h2 : p.length ≤ 5) (h3 : a ≤ 200) : cn_BR (some (p, a)) (nI p.length) (nI a) (cn_cp p.length wc bC) (cn_cp p.length wb bB) := by
  refine ⟨h1, h2, h3, rfl, rfl, ?_⟩
  intro i hi
  unfold cn_cp
  rw [if_pos hi, if_pos hi]
  exact h i hi
section
variable (cc : Nat) (fr tt : Nat → Nat) (ok : Nat → Bool) (E : Nat → Nat → Option Nat) (c : Nat → Nat) (goal : Nat)
def cn_xK (n : Nat) (ns : List Nat) (node time k : Nat) : List cn_R :=
  if fr k = node ∧ ok k = true ∧ tt k ∉ ns then
    match E k time with
    | none => []
    | some b => if tt k = goal then [([(k, b)], b + c k)] else (cn_xS cc fr tt ok E c goal n (node :: ns) (tt k) (b + c k)).map (fun r => ((k, b) :: r.1, r.2))
  else []
def cn_yK (n : Nat) (used : List Nat) (node time k : Nat) : List cn_R :=
  if fr k = node ∧ ok k = true ∧ k ∉ used then
    match E k time with
    | none => []
    | some b => (if tt k = goal then [([(k, b)], b + c k)] else []) ++ (cn_yS cc fr tt ok E c goal n (k :: used) (tt k) (b + c k)).map (fun r => ((k, b) :: r.1, r.2))
  else []
/-- how the component's search steps; G q depth step .. : from there on what q asks comes out -/
def cn_XG {P : Type} (G : P → Int32 → Nat → cn_A → cn_A → cn_A → cn_A → cn_A → Int32 → Int32 → cn_A → cn_A → Prop) : Prop :=
  (∀ q d k step wn wr wx wc wb bl ba bC bB, d < 5 → step < 1000000 → wx d = nI k → k = cc →
    G q (nI d + (-1)) (step + 1) wn wr wx wc wb bl ba bC bB → G q (nI d) step wn wr wx wc wb bl ba bC bB) ∧
  (∀ q d k step node wn wr wx wc wb bl ba bC bB, d < 5 → step < 1000000 → wx d = nI k → k < cc → wn d = nI node → node < 6 →
    ¬ (fr k = node ∧ ok k = true ∧ ∀ i, i < d → wn i ≠ nI (tt k)) →
    G q (nI d) (step + 1) wn wr (upd wx d (nI (k + 1))) wc wb bl ba bC bB → G q (nI d) step wn wr wx wc wb bl ba bC bB) ∧
  (∀ q d k step node time wn wr wx wc wb bl ba bC bB, d < 5 → step < 1000000 → wx d = nI k → k < cc → wn d = nI node → node < 6 → wr d = nI time → time ≤ 200000 →
    (fr k = node ∧ ok k = true ∧ ∀ i, i < d → wn i ≠ nI (tt k)) → E k time = none →
    G q (nI d) (step + 1) wn wr (upd wx d (nI (k + 1))) wc wb bl ba bC bB → G q (nI d) step wn wr wx wc wb bl ba bC bB) ∧
  (∀ q d k step node time b wn wr wx wc wb bl ba bC bB, d < 5 → step < 1000000 → wx d = nI k → k < cc → wn d = nI node → node < 6 → wr d = nI time → time ≤ 200000 →
    (fr k = node ∧ ok k = true ∧ ∀ i, i < d → wn i ≠ nI (tt k)) → E k time = some b → tt k = goal → cn_bet bl ba (d + 1) (b + c k) →
    G q (nI d) (step + 1) wn wr (upd wx d (nI (k + 1))) (upd wc d (nI k)) (upd wb d (nI b)) (nI (d + 1)) (nI (b + c k)) (cn_cp (d + 1) (upd wc d (nI k)) bC) (cn_cp (d + 1) (upd wb d (nI b)) bB) → G q (nI d) step wn wr wx wc wb bl ba bC bB) ∧
  (∀ q d k step node time b wn wr wx wc wb bl ba bC bB, d < 5 → step < 1000000 → wx d = nI k → k < cc → wn d = nI node → node < 6 → wr d = nI time → time ≤ 200000 →
    (fr k = node ∧ ok k = true ∧ ∀ i, i < d → wn i ≠ nI (tt k)) → E k time = some b → tt k = goal → ¬ cn_bet bl ba (d + 1) (b + c k) →
    G q (nI d) (step + 1) wn wr (upd wx d (nI (k + 1))) (upd wc d (nI k)) (upd wb d (nI b)) bl ba bC bB → G q (nI d) step wn wr wx wc wb bl ba bC bB) ∧
  (∀ q d k step node time b wn wr wx wc wb bl ba bC bB, d < 4 → step < 1000000 → wx d = nI k → k < cc → wn d = nI node → node < 6 → wr d = nI time → time ≤ 200000 →
    (fr k = node ∧ ok k = true ∧ ∀ i, i < d → wn i ≠ nI (tt k)) → E k time = some b → tt k ≠ goal →
    G q (nI (d + 1)) (step + 1) (upd wn (d + 1) (nI (tt k))) (upd wr (d + 1) (nI (b + c k))) (upd (upd wx d (nI (k + 1))) (d + 1) 0) (upd wc d (nI k)) (upd wb d (nI b)) bl ba bC bB → G q (nI d) step wn wr wx wc wb bl ba bC bB) ∧
  (∀ q d k step node time b wn wr wx wc wb bl ba bC bB, d = 4 → step < 1000000 → wx d = nI k → k < cc → wn d = nI node → node < 6 → wr d = nI time → time ≤ 200000 →
    (fr k = node ∧ ok k = true ∧ ∀ i, i < d → wn i ≠ nI (tt k)) → E k time = some b → tt k ≠ goal →
    G q (nI d) (step + 1) wn wr (upd wx d (nI (k + 1))) (upd wc d (nI k)) (upd wb d (nI b)) bl ba bC bB → G q (nI d) step wn wr wx wc wb bl ba bC bB)
/-- how the reference's search steps -/
def cn_YG {P : Type} (G : P → Int32 → cn_A → cn_A → cn_A → cn_A → cn_A → Int32 → Int32 → cn_A → cn_A → Prop) : Prop :=
  (∀ q d k tr tb no ti ne be bA bO bE, d ≤ 5 → ne d = nI k → k ≤ cc → (d = 5 ∨ k = cc) →
    G q (nI d + (-1)) tr tb no ti (upd ne d (nI (k + 1))) be bA bO bE → G q (nI d) tr tb no ti ne be bA bO bE) ∧
  (∀ q d k node tr tb no ti ne be bA bO bE, d < 5 → ne d = nI k → k < cc → no d = nI node → node < 6 →
    ¬ (fr k = node ∧ ok k = true ∧ ∀ i, i < d → tr i ≠ nI k) →
    G q (nI d) tr tb no ti (upd ne d (nI (k + 1))) be bA bO bE → G q (nI d) tr tb no ti ne be bA bO bE) ∧
  (∀ q d k node time tr tb no ti ne be bA bO bE, d < 5 → ne d = nI k → k < cc → no d = nI node → node < 6 → ti d = nI time → time ≤ 200000 →
    (fr k = node ∧ ok k = true ∧ ∀ i, i < d → tr i ≠ nI k) → E k time = none →
    G q (nI d) tr tb no ti (upd ne d (nI (k + 1))) be bA bO bE → G q (nI d) tr tb no ti ne be bA bO bE) ∧
  (∀ q d k node time b tr tb no ti ne be bA bO bE, d < 5 → ne d = nI k → k < cc → no d = nI node → node < 6 → ti d = nI time → time ≤ 200000 →
    (fr k = node ∧ ok k = true ∧ ∀ i, i < d → tr i ≠ nI k) → E k time = some b → (tt k ≠ goal ∨ ¬ cn_bet be bA (d + 1) (b + c k)) →
    G q (nI (d + 1)) (upd tr d (nI k)) (upd tb d (nI b)) (upd no (d + 1) (nI (tt k))) (upd ti (d + 1) (nI (b + c k))) (upd (upd ne d (nI (k + 1))) (d + 1) 0) be bA bO bE → G q (nI d) tr tb no ti ne be bA bO bE) ∧
  (∀ q d k node time b tr tb no ti ne be bA bO bE, d < 5 → ne d = nI k → k < cc → no d = nI node → node < 6 → ti d = nI time → time ≤ 200000 →
    (fr k = node ∧ ok k = true ∧ ∀ i, i < d → tr i ≠ nI k) → E k time = some b → tt k = goal → cn_bet be bA (d + 1) (b + c k) →
    G q (nI (d + 1)) (upd tr d (nI k)) (upd tb d (nI b)) (upd no (d + 1) (nI (tt k))) (upd ti (d + 1) (nI (b + c k))) (upd (upd ne d (nI (k + 1))) (d + 1) 0) (nI (d + 1)) (nI (b + c k)) (cn_cp (d + 1) (upd tr d (nI k)) bO) (cn_cp (d + 1) (upd tb d (nI b)) bE) → G q (nI d) tr tb no ti ne be bA bO bE)
end
theorem cn_xS_s {cc : Nat} {fr tt : Nat → Nat} {ok : Nat → Bool} {E : Nat → Nat → Option Nat} {c : Nat → Nat} {goal n : Nat} {ns : List Nat} {node time : Nat} :
    cn_xS cc fr tt ok E c goal (n + 1) ns node time = (List.range' 0 cc).flatMap (cn_xK cc fr tt ok E c goal n ns node time) := rfl
theorem cn_yS_s {cc : Nat} {fr tt : Nat → Nat} {ok : Nat → Bool} {E : Nat → Nat → Option Nat} {c : Nat → Nat} {goal n : Nat} {used : List Nat} {node time : Nat} :
    cn_yS cc fr tt ok E c goal (n + 1) used node time = (List.range' 0 cc).flatMap (cn_yK cc fr tt ok E c goal n used node time) := rfl
/-- behind a first contact: the fold over what follows it -/
theorem cn_fo {p : List (Nat × Nat)} {f : Nat → List cn_R} {k m : Nat} {o : Option cn_R} :
    (((List.range' k (m + 1)).flatMap f).map (fun r => (p ++ r.1, r.2))).foldl cn_f o =
    (((List.range' (k + 1) m).flatMap f).map (fun r => (p ++ r.1, r.2))).foldl cn_f (((f k).map (fun r => (p ++ r.1, r.2))).foldl cn_f o) := by
  rw [List.range'_succ, List.flatMap_cons, List.map_append, List.foldl_append]
theorem cn_fm {p : List (Nat × Nat)} {x : Nat × Nat} {L : List cn_R} : (L.map (fun r => (x :: r.1, r.2))).map (fun r => (p ++ r.1, r.2)) = L.map (fun r => ((p ++ [x]) ++ r.1, r.2)) := by
  rw [List.map_map]
  apply List.map_congr_left
  intro r _
  show (p ++ x :: r.1, r.2) = (p ++ [x] ++ r.1, r.2)
  rw [List.append_assoc]; rfl
def cn_S : Nat → Nat
  | 0 => 0
  | n + 1 => 11 + 10 * cn_S n
