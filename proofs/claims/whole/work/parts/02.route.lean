section
variable (cc : Nat) (fr tt : Nat → Nat) (ok : Nat → Bool) (E : Nat → Nat → Option Nat) (c : Nat → Nat) (goal : Nat)
/-- what the reference's search meets, in its order: (contact, begin) after (contact, begin), and the arrival -/
def cn_yS : Nat → List Nat → Nat → Nat → List (List (Nat × Nat) × Nat)
  | 0, _, _, _ => []
  | n + 1, used, node, time => (List.range' 0 cc).flatMap (fun k =>
      if fr k = node ∧ ok k = true ∧ k ∉ used then
        match E k time with
        | none => []
        | some b => (if tt k = goal then [([(k, b)], b + c k)] else []) ++ (cn_yS n (k :: used) (tt k) (b + c k)).map (fun r => ((k, b) :: r.1, r.2))
      else [])
/-- what the component's search meets -/
def cn_xS : Nat → List Nat → Nat → Nat → List (List (Nat × Nat) × Nat)
  | 0, _, _, _ => []
  | n + 1, ns, node, time => (List.range' 0 cc).flatMap (fun k =>
      if fr k = node ∧ ok k = true ∧ tt k ∉ ns then
        match E k time with
        | none => []
        | some b => if tt k = goal then [([(k, b)], b + c k)] else (cn_xS n (node :: ns) (tt k) (b + c k)).map (fun r => ((k, b) :: r.1, r.2))
      else [])
def cn_good : List Nat → Nat → List (Nat × Nat) → Bool
  | _, _, [] => true
  | ns, node, x :: l => decide (tt x.1 ∉ ns) && (if tt x.1 = goal then l.isEmpty else cn_good (node :: ns) (tt x.1) l)
def cn_wk : List (Nat × Nat) → Nat → Nat → Nat → Prop
  | [], node, time, a => node = goal ∧ a = time
  | x :: l, node, time, a => x.1 < cc ∧ fr x.1 = node ∧ ok x.1 = true ∧ E x.1 time = some x.2 ∧ cn_wk l (tt x.1) (x.2 + c x.1) a
def cn_simple : Nat → List (Nat × Nat) → Prop
  | _, [] => True
  | node, x :: l => node ∉ (x :: l).map (fun p => tt p.1) ∧ (tt x.1 = goal → l = []) ∧ cn_simple (tt x.1) l
end
section
variable {cc : Nat} {fr tt : Nat → Nat} {ok : Nat → Bool} {E : Nat → Nat → Option Nat} {c : Nat → Nat} {goal : Nat}
theorem cn_fmc {α β : Type} {l : List α} {f g : α → List β} (h : ∀ a, a ∈ l → f a = g a) : l.flatMap f = l.flatMap g := by
  induction l with
  | nil => rfl
  | cons x l ih =>
    rw [List.flatMap_cons, List.flatMap_cons, h x (List.mem_cons_self ..), ih (fun a ha => h a (List.mem_cons_of_mem _ ha))]
theorem cn_mem : ∀ (n : Nat) (used : List Nat) (node time : Nat) (l : List (Nat × Nat)) (a : Nat),
    (l, a) ∈ cn_yS cc fr tt ok E c goal n used node time ↔ l ≠ [] ∧ l.length ≤ n ∧ cn_wk cc fr tt ok E c goal l node time a ∧ (l.map Prod.fst).Nodup ∧ ∀ k, k ∈ l.map Prod.fst → k ∉ used := by
  intro n
  induction n with
  | zero =>
    intro used node time l a
    constructor
    · intro h; simp [cn_yS] at h
    · rintro ⟨h1, h2, _⟩
      exact absurd (List.length_eq_zero_iff.mp (Nat.le_zero.mp h2)) h1
  | succ n ih =>
    intro used node time l a
    rw [cn_yS, List.mem_flatMap]
    constructor
    · rintro ⟨k, hk, h⟩
      have hk' : k < cc := by have := List.mem_range'_1.mp hk; omega
      by_cases hc : fr k = node ∧ ok k = true ∧ k ∉ used
      · rw [if_pos hc] at h
        obtain ⟨c1, c2, c3⟩ := hc
        cases hE : E k time with
        | none => rw [hE] at h; simp at h
        | some b =>
          rw [hE] at h
          dsimp only at h
          rcases List.mem_append.mp h with h | h
          · by_cases hg : tt k = goal
            · rw [if_pos hg] at h
              simp only [List.mem_singleton, Prod.mk.injEq] at h
              obtain ⟨rfl, rfl⟩ := h
              exact ⟨by simp, by simp, ⟨hk', c1, c2, hE, hg, rfl⟩, by simp, by simpa using c3⟩
            · rw [if_neg hg] at h
              simp at h
          · obtain ⟨r, hr, er⟩ := List.mem_map.mp h
            obtain ⟨l2, a2⟩ := r
            simp only [Prod.mk.injEq] at er
            obtain ⟨rfl, rfl⟩ := er
            obtain ⟨q1, q2, q3, q4, q5⟩ := (ih _ _ _ _ _).mp hr
            refine ⟨by simp, by rw [List.length_cons]; omega, ⟨hk', c1, c2, hE, q3⟩, ?_, ?_⟩
            · rw [List.map_cons, List.nodup_cons]
              exact ⟨fun hm => q5 k hm (List.mem_cons_self ..), q4⟩
            · intro j hj
              rw [List.map_cons] at hj
              rcases List.mem_cons.mp hj with hj | hj
              · rw [hj]; exact c3
              · exact fun hu => q5 j hj (List.mem_cons_of_mem _ hu)
      · rw [if_neg hc] at h
        simp at h
    · rintro ⟨h1, h2, h3, h4, h5⟩
      cases l with
      | nil => exact absurd rfl h1
      | cons x l2 =>
        obtain ⟨k, b⟩ := x
        obtain ⟨w1, w2, w3, w4, w5⟩ := h3
        dsimp only at w1 w2 w3 w4 w5
        refine ⟨k, List.mem_range'_1.mpr ⟨Nat.zero_le _, by omega⟩, ?_⟩
        rw [if_pos ⟨w2, w3, h5 k (by simp)⟩, w4]
        dsimp only
        rw [List.mem_append]
        cases l2 with
        | nil =>
          left
          obtain ⟨g1, g2⟩ := w5
          rw [if_pos g1, g2]
          exact List.mem_singleton.mpr rfl
        | cons y l3 =>
          right
          rw [List.map_cons, List.nodup_cons] at h4
          refine List.mem_map.mpr ⟨(y :: l3, a), (ih _ _ _ _ _).mpr ⟨by simp, ?_, w5, h4.2, ?_⟩, rfl⟩
          · rw [List.length_cons] at h2; omega
          · intro j hj hu
            rcases List.mem_cons.mp hu with hu | hu
            · rw [hu] at hj; exact h4.1 hj
            · exact h5 j (by rw [List.map_cons]; exact List.mem_cons_of_mem _ hj) hu
theorem cn_filter (hft : ∀ k, k < cc → fr k ≠ tt k) : ∀ (n : Nat) (ns used : List Nat) (node time : Nat), node ∉ ns → (∀ k, k ∈ used → fr k ∈ ns) →
    cn_xS cc fr tt ok E c goal n ns node time = (cn_yS cc fr tt ok E c goal n used node time).filter (fun r => cn_good tt goal ns node r.1) := by
  intro n
  induction n with
  | zero => intro ns used node time _ _; simp [cn_xS, cn_yS]
  | succ n ih =>
    intro ns used node time hn hu
    rw [cn_xS, cn_yS, List.filter_flatMap]
    apply cn_fmc
    intro k hk
    have hk' : k < cc := by have := List.mem_range'_1.mp hk; omega
    by_cases h1 : fr k = node ∧ ok k = true
    · obtain ⟨e1, e2⟩ := h1
      have hku : k ∉ used := fun h => hn (e1 ▸ hu k h)
      rw [if_pos (show fr k = node ∧ ok k = true ∧ k ∉ used from ⟨e1, e2, hku⟩)]
      cases hE : E k time with
      | none =>
        by_cases hx : tt k ∈ ns
        · rw [if_neg (fun h => h.2.2 hx)]; rfl
        · rw [if_pos ⟨e1, e2, hx⟩]; rfl
      | some b =>
        dsimp only
        by_cases hx : tt k ∈ ns
        · rw [if_neg (fun h => h.2.2 hx)]
          symm
          rw [List.filter_eq_nil_iff]
          intro r hr
          have hb : cn_good tt goal ns node r.1 = false := by
            rcases List.mem_append.mp hr with h | h
            · by_cases hg : tt k = goal
              · rw [if_pos hg] at h
                rw [List.mem_singleton.mp h]
                simp [cn_good, hx]
              · rw [if_neg hg] at h
                simp at h
            · obtain ⟨r2, _, er⟩ := List.mem_map.mp h
              rw [← er]
              simp [cn_good, hx]
          rw [hb]; decide
        · rw [if_pos ⟨e1, e2, hx⟩, List.filter_append]
          by_cases hg : tt k = goal
          · rw [if_pos hg, if_pos hg]
            have z1 : [([(k, b)], b + c k)].filter (fun r : List (Nat × Nat) × Nat => cn_good tt goal ns node r.1) = [([(k, b)], b + c k)] := by
              simp [cn_good, hx]
            have z2 : ((cn_yS cc fr tt ok E c goal n (k :: used) (tt k) (b + c k)).map (fun r => ((k, b) :: r.1, r.2))).filter (fun r : List (Nat × Nat) × Nat => cn_good tt goal ns node r.1) = [] := by
              rw [List.filter_eq_nil_iff]
              intro r hr
              obtain ⟨r2, hr2, er⟩ := List.mem_map.mp hr
              have hne := ((cn_mem n _ _ _ r2.1 r2.2).mp hr2).1
              rw [← er]
              simp [cn_good, hx, hg, hne]
            rw [z1, z2]; rfl
          · rw [if_neg hg, if_neg hg, List.filter_nil, List.nil_append, List.filter_map]
            have hn2 : tt k ∉ node :: ns := by
              intro h
              rcases List.mem_cons.mp h with h | h
              · exact hft k hk' (e1.trans h.symm)
              · exact hx h
            have hu2 : ∀ j, j ∈ k :: used → fr j ∈ node :: ns := by
              intro j hj
              rcases List.mem_cons.mp hj with h | h
              · rw [h, e1]; exact List.mem_cons_self ..
              · exact List.mem_cons_of_mem _ (hu j h)
            rw [ih (node :: ns) (k :: used) (tt k) (b + c k) hn2 hu2]
            congr 1
            apply List.filter_congr
            intro r _
            simp [cn_good, hx, hg]
    · rw [if_neg (fun h => h1 ⟨h.1, h.2.1⟩), if_neg (fun h => h1 ⟨h.1, h.2.1⟩)]; rfl
theorem cn_wkLe (hge : ∀ k t b, E k t = some b → t ≤ b) : ∀ (l : List (Nat × Nat)) (node time a : Nat), cn_wk cc fr tt ok E c goal l node time a → time ≤ a := by
  intro l
  induction l with
  | nil => intro node time a h; exact Nat.le_of_eq h.2.symm
  | cons x l ih =>
    intro node time a h
    obtain ⟨w1, w2, w3, w4, w5⟩ := h
    have h1 := hge _ _ _ w4
    have h2 := ih _ _ _ w5
    omega
theorem cn_wkMono (hm : ∀ k t t' b, t' ≤ t → E k t = some b → ∃ b', b' ≤ b ∧ E k t' = some b') : ∀ (l : List (Nat × Nat)) (node time a time' : Nat), time' ≤ time → cn_wk cc fr tt ok E c goal l node time a →
    ∃ (l' : List (Nat × Nat)) (a' : Nat), l'.map Prod.fst = l.map Prod.fst ∧ a' ≤ a ∧ cn_wk cc fr tt ok E c goal l' node time' a' := by
  intro l
  induction l with
  | nil => intro node time a time' ht h; exact ⟨[], time', rfl, by rw [h.2]; exact ht, h.1, rfl⟩
  | cons x l ih =>
    intro node time a time' ht h
    obtain ⟨w1, w2, w3, w4, w5⟩ := h
    obtain ⟨b', hb, hE⟩ := hm _ _ _ _ ht w4
    obtain ⟨l', a', q1, q2, q3⟩ := ih (tt x.1) (x.2 + c x.1) a (b' + c x.1) (by omega) w5
    exact ⟨(x.1, b') :: l', a', by rw [List.map_cons, List.map_cons, q1], q2, w1, w2, w3, hE, q3⟩
theorem cn_suf (hge : ∀ k t b, E k t = some b → t ≤ b) : ∀ (l : List (Nat × Nat)) (node time a x : Nat), cn_wk cc fr tt ok E c goal l node time a → x ∈ l.map (fun p => tt p.1) →
    ∃ (q : List (Nat × Nat)) (t' : Nat), cn_wk cc fr tt ok E c goal q x t' a ∧ time ≤ t' ∧ q.length < l.length ∧ (q.map Prod.fst).Sublist (l.map Prod.fst) := by
  intro l
  induction l with
  | nil => intro node time a x _ hx; simp at hx
  | cons y l ih =>
    intro node time a x h hx
    obtain ⟨w1, w2, w3, w4, w5⟩ := h
    have h1 := hge _ _ _ w4
    rw [List.map_cons] at hx
    rcases List.mem_cons.mp hx with hx | hx
    · exact ⟨l, y.2 + c y.1, by rw [hx]; exact w5, by omega, by rw [List.length_cons]; omega, by rw [List.map_cons]; exact List.sublist_cons_self _ _⟩
    · obtain ⟨q, t', q1, q2, q3, q4⟩ := ih _ _ _ x w5 hx
      exact ⟨q, t', q1, by omega, by rw [List.length_cons]; omega, by rw [List.map_cons]; exact List.Sublist.cons _ q4⟩
theorem cn_sg : ∀ (l : List (Nat × Nat)) (ns : List Nat) (node : Nat), cn_simple tt goal node l → (∀ x, x ∈ l.map (fun p => tt p.1) → x ∉ ns) → cn_good tt goal ns node l = true := by
  intro l
  induction l with
  | nil => intro ns node _ _; rfl
  | cons y l ih =>
    intro ns node h hd
    obtain ⟨s1, s2, s3⟩ := h
    have h1 : tt y.1 ∉ ns := hd _ (by rw [List.map_cons]; exact List.mem_cons_self ..)
    rw [cn_good]
    by_cases hg : tt y.1 = goal
    · rw [if_pos hg, s2 hg]; simp [h1]
    · rw [if_neg hg, ih (node :: ns) (tt y.1) s3]
      · simp [h1]
      · intro x hx hm
        rcases List.mem_cons.mp hm with hm | hm
        · apply s1
          rw [List.map_cons, ← hm]
          exact List.mem_cons_of_mem _ hx
        · exact hd x (by rw [List.map_cons]; exact List.mem_cons_of_mem _ hx) hm
theorem cn_short (hge : ∀ k t b, E k t = some b → t ≤ b) (hm : ∀ k t t' b, t' ≤ t → E k t = some b → ∃ b', b' ≤ b ∧ E k t' = some b') : ∀ (l : List (Nat × Nat)) (node time a : Nat), cn_wk cc fr tt ok E c goal l node time a → ¬ cn_simple tt goal node l →
    ∃ (l' : List (Nat × Nat)) (a' : Nat), cn_wk cc fr tt ok E c goal l' node time a' ∧ a' ≤ a ∧ l'.length < l.length ∧ (l'.map Prod.fst).Sublist (l.map Prod.fst) := by
  intro l
  induction l with
  | nil => intro node time a _ h; exact absurd trivial h
  | cons y l ih =>
    intro node time a h hs
    by_cases h1 : node ∈ (y :: l).map (fun p => tt p.1)
    · obtain ⟨q, t', q1, q2, q3, q4⟩ := cn_suf hge (y :: l) node time a node h h1
      obtain ⟨l', a', p1, p2, p3⟩ := cn_wkMono hm q node t' a time q2 q1
      have hl : l'.length = q.length := by
        have := congrArg List.length p1
        rw [List.length_map, List.length_map] at this
        exact this
      exact ⟨l', a', p3, p2, by omega, by rw [p1]; exact q4⟩
    · obtain ⟨w1, w2, w3, w4, w5⟩ := h
      by_cases h2 : tt y.1 = goal → l = []
      · have h3 : ¬ cn_simple tt goal (tt y.1) l := fun h => hs ⟨h1, h2, h⟩
        obtain ⟨l', a', p1, p2, p3, p4⟩ := ih _ _ _ w5 h3
        exact ⟨y :: l', a', ⟨w1, w2, w3, w4, p1⟩, p2, by rw [List.length_cons, List.length_cons]; omega, by rw [List.map_cons, List.map_cons]; exact List.Sublist.cons_cons _ p4⟩
      · have hg : tt y.1 = goal := Decidable.byContradiction fun hg => h2 fun h => absurd h hg
        have hl : l ≠ [] := fun hl => h2 fun _ => hl
        have h3 := cn_wkLe hge _ _ _ _ w5
        refine ⟨[y], y.2 + c y.1, ⟨w1, w2, w3, w4, hg, rfl⟩, h3, ?_, ?_⟩
        · have := List.length_pos_iff.mpr hl
          rw [List.length_cons, List.length_cons, List.length_nil]; omega
        · rw [List.map_cons, List.map_cons, List.map_nil]
          exact List.Sublist.cons_cons _ (List.nil_sublist _)
end
abbrev cn_R : Type := List (Nat × Nat) × Nat
def cn_key (r : cn_R) : Nat := r.2 * 6 + r.1.length
def cn_f (o : Option cn_R) (r : cn_R) : Option cn_R :=
  match o with
  | none => some r
  | some m => if cn_key r < cn_key m then some r else some m
theorem cn_split : ∀ (L : List cn_R), L ≠ [] → ∃ (L1 : List cn_R) (m : cn_R) (L2 : List cn_R), L = L1 ++ m :: L2 ∧ (∀ x, x ∈ L1 → cn_key m < cn_key x) ∧ (∀ x, x ∈ L2 → cn_key m ≤ cn_key x) := by
  intro L
  induction L with
  | nil => intro h; exact absurd rfl h
  | cons x L ih =>
    intro _
    by_cases hL : L = []
    · exact ⟨[], x, [], by rw [hL]; rfl, by simp, by simp⟩
    · obtain ⟨L1, m, L2, e, h1, h2⟩ := ih hL
      by_cases hk : cn_key m < cn_key x
      · refine ⟨x :: L1, m, L2, by rw [e]; rfl, ?_, h2⟩
        intro y hy
        rcases List.mem_cons.mp hy with hy | hy
        · rw [hy]; exact hk
        · exact h1 y hy
      · refine ⟨[], x, L, rfl, by simp, ?_⟩
        intro y hy
        rw [e] at hy
        rcases List.mem_append.mp hy with hy | hy
        · have := h1 y hy; omega
        · rcases List.mem_cons.mp hy with hy | hy
          · rw [hy]; omega
          · have := h2 y hy; omega
theorem cn_keepAll : ∀ (L : List cn_R) (m : cn_R), (∀ x, x ∈ L → cn_key m ≤ cn_key x) → L.foldl cn_f (some m) = some m := by
  intro L
  induction L with
  | nil => intro m _; rfl
  | cons x L ih =>
    intro m h
    have h1 := h x (List.mem_cons_self ..)
    rw [List.foldl_cons]
    have e : cn_f (some m) x = some m := by
      show (if cn_key x < cn_key m then some x else some m) = some m
      rw [if_neg (by omega)]
    rw [e]
    exact ih m (fun y hy => h y (List.mem_cons_of_mem _ hy))
theorem cn_foldIn : ∀ (L : List cn_R) (o : Option cn_R) (m : cn_R), L.foldl cn_f o = some m → o = some m ∨ m ∈ L := by
  intro L
  induction L with
  | nil => intro o m h; exact Or.inl h
  | cons x L ih =>
    intro o m h
    rw [List.foldl_cons] at h
    rcases ih _ _ h with h | h
    · cases o with
      | none =>
        have e : x = m := Option.some.inj h
        exact Or.inr (by rw [e]; exact List.mem_cons_self ..)
      | some y =>
        by_cases hk : cn_key x < cn_key y
        · have e : cn_f (some y) x = some x := if_pos hk
          rw [e] at h
          exact Or.inr (by rw [Option.some.inj h]; exact List.mem_cons_self ..)
        · have e : cn_f (some y) x = some y := if_neg hk
          rw [e] at h
          exact Or.inl h
    · exact Or.inr (List.mem_cons_of_mem _ h)
theorem cn_foldSplit {L1 L2 : List cn_R} {m : cn_R} (h1 : ∀ x, x ∈ L1 → cn_key m < cn_key x) (h2 : ∀ x, x ∈ L2 → cn_key m ≤ cn_key x) : (L1 ++ m :: L2).foldl cn_f none = some m := by
  rw [List.foldl_append, List.foldl_cons]
  have e : cn_f (L1.foldl cn_f none) m = some m := by
    cases hf : L1.foldl cn_f none with
    | none => rfl
    | some x =>
      rcases cn_foldIn _ _ _ hf with h | h
      · exact absurd h (by simp)
      · exact if_pos (h1 x h)
  rw [e]
  exact cn_keepAll _ _ h2
theorem cn_filt (p : cn_R → Bool) (L : List cn_R) (hd : ∀ x, x ∈ L → p x = false → ∃ y, y ∈ L ∧ cn_key y < cn_key x) : (L.filter p).foldl cn_f none = L.foldl cn_f none := by
  by_cases hL : L = []
  · rw [hL]; rfl
  · obtain ⟨L1, m, L2, e, h1, h2⟩ := cn_split L hL
    have hall : ∀ y, y ∈ L → cn_key m ≤ cn_key y := by
      intro y hy
      rw [e] at hy
      rcases List.mem_append.mp hy with hy | hy
      · have := h1 y hy; omega
      · rcases List.mem_cons.mp hy with hy | hy
        · rw [hy]; omega
        · exact h2 y hy
    have hp : p m = true := by
      cases hp : p m with
      | true => rfl
      | false =>
        obtain ⟨y, hy, hlt⟩ := hd m (by rw [e]; exact List.mem_append_right _ (List.mem_cons_self ..)) hp
        have := hall y hy
        omega
    rw [e, List.filter_append, List.filter_cons_of_pos hp, cn_foldSplit h1 h2]
    exact cn_foldSplit (fun x hx => h1 x (List.mem_filter.mp hx).1) (fun x hx => h2 x (List.mem_filter.mp hx).1)
section
variable {cc : Nat} {fr tt : Nat → Nat} {ok : Nat → Bool} {E : Nat → Nat → Option Nat} {c : Nat → Nat} {goal : Nat}
theorem cn_main (hft : ∀ k, k < cc → fr k ≠ tt k) (hge : ∀ k t b, E k t = some b → t ≤ b) (hm : ∀ k t t' b, t' ≤ t → E k t = some b → ∃ b', b' ≤ b ∧ E k t' = some b') (n s t : Nat) (hs : s ≠ goal) :
    (cn_xS cc fr tt ok E c goal n [] s t).foldl cn_f none = (cn_yS cc fr tt ok E c goal n [] s t).foldl cn_f none := by
  rw [cn_filter hft n [] [] s t (by simp) (by simp)]
  apply cn_filt
  intro r hr hb
  obtain ⟨l, a⟩ := r
  obtain ⟨q1, q2, q3, q4, q5⟩ := (cn_mem n [] s t l a).mp hr
  have hns : ¬ cn_simple tt goal s l := by
    intro h
    have := cn_sg l [] s h (by simp)
    rw [this] at hb
    exact absurd hb (by decide)
  obtain ⟨l', a', p1, p2, p3, p4⟩ := cn_short hge hm l s t a q3 hns
  refine ⟨(l', a'), (cn_mem n [] s t l' a').mpr ⟨?_, by omega, p1, List.Nodup.sublist p4 q4, by simp⟩, ?_⟩
  · intro he
    rw [he] at p1
    exact hs p1.1
  · show a' * 6 + l'.length < a * 6 + l.length
    omega
/-- what a search answers -/
theorem cn_res (hft : ∀ k, k < cc → fr k ≠ tt k) {n s t : Nat} {l : List (Nat × Nat)} {a : Nat} (h : (cn_xS cc fr tt ok E c goal n [] s t).foldl cn_f none = some (l, a)) :
    l ≠ [] ∧ l.length ≤ n ∧ cn_wk cc fr tt ok E c goal l s t a ∧ (l.map Prod.fst).Nodup ∧ cn_good tt goal [] s l = true := by
  rcases cn_foldIn _ _ _ h with h | h
  · exact absurd h (by simp)
  · rw [cn_filter hft n [] [] s t (by simp) (by simp)] at h
    obtain ⟨h1, h2⟩ := List.mem_filter.mp h
    obtain ⟨q1, q2, q3, q4, q5⟩ := (cn_mem n [] s t l a).mp h1
    exact ⟨q1, q2, q3, q4, h2⟩
theorem cn_ng : ∀ (l : List (Nat × Nat)) (ns : List Nat) (node : Nat), cn_good tt goal ns node l = true → ∀ i, i + 1 < l.length → tt (l.getD i (0, 0)).1 ≠ goal := by
  intro l
  induction l with
  | nil => intro ns node _ i hi; simp at hi
  | cons y l ih =>
    intro ns node h i hi hg
    rw [cn_good] at h
    rw [List.length_cons] at hi
    by_cases hy : tt y.1 = goal
    · rw [if_pos hy] at h
      have hl : l = [] := by
        have := (Bool.and_eq_true_iff.mp h).2
        exact List.isEmpty_iff.mp this
      rw [hl] at hi
      simp at hi
    · rw [if_neg hy] at h
      cases i with
      | zero => exact hy hg
      | succ i => exact ih _ _ (Bool.and_eq_true_iff.mp h).2 i (by omega) hg
end
