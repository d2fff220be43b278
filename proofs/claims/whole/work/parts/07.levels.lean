section
variable {cc : Nat} {fr tt : Nat → Nat} {ok : Nat → Bool} {E : Nat → Nat → Option Nat} {c : Nat → Nat} {goal : Nat}
theorem cn_xLv {P : Type} {G : P → Int32 → Nat → cn_A → cn_A → cn_A → cn_A → cn_A → Int32 → Int32 → cn_A → cn_A → Prop} (H : cn_XG cc fr tt ok E c goal G) (hcc : cc ≤ 10) (htt : ∀ k, k < cc → tt k < 6) (hE : ∀ k t b, k < cc → E k t = some b → b + c k ≤ 200) :
    ∀ (n m : Nat) (p : List (Nat × Nat)) (ns : List Nat) (node time k step : Nat) (wn wr wx wc wb : cn_A) (bl ba : Int32) (bC bB : cn_A) (o : Option cn_R),
    p.length + n = 4 → k + m = cc → wn p.length = nI node → node < 6 → wr p.length = nI time → time ≤ 200000 → wx p.length = nI k → (∀ x, x < 6 → (x ∈ ns ↔ ∃ i, i < p.length ∧ wn i = nI x)) → cn_Pa p wc wb → cn_BR o bl ba bC bB → step + 1 + m * (1 + cn_S n) ≤ 1000000 →
    ∃ (step' : Nat) (wn' wr' wx' wc' wb' : cn_A) (bl' ba' : Int32) (bC' bB' : cn_A), (∀ i, i < p.length → wn' i = wn i ∧ wr' i = wr i ∧ wx' i = wx i ∧ wc' i = wc i ∧ wb' i = wb i) ∧
      cn_BR ((((List.range' k m).flatMap (cn_xK cc fr tt ok E c goal n ns node time)).map (fun r => (p ++ r.1, r.2))).foldl cn_f o) bl' ba' bC' bB' ∧ step' ≤ step + 1 + m * (1 + cn_S n) ∧
      ∀ q, G q (nI p.length + (-1)) step' wn' wr' wx' wc' wb' bl' ba' bC' bB' → G q (nI p.length) step wn wr wx wc wb bl ba bC bB := by
  obtain ⟨R1, R2, R3, R4, R5, R6, R7⟩ := H
  intro n
  induction n using Nat.strongRecOn with
  | _ n ihn =>
  intro m
  induction m with
  | zero =>
    intro p ns node time k step wn wr wx wc wb bl ba bC bB o hn hk h1 h2 h3 h4 h5 h6 h7 h8 h9
    exact ⟨step + 1, wn, wr, wx, wc, wb, bl, ba, bC, bB, fun i _ => ⟨rfl, rfl, rfl, rfl, rfl⟩, h8, by omega, fun q g => R1 q p.length k step wn wr wx wc wb bl ba bC bB (by omega) (by omega) h5 (by omega) g⟩
  | succ m ihm =>
    intro p ns node time k step wn wr wx wc wb bl ba bC bB o hn hk h1 h2 h3 h4 h5 h6 h7 h8 h9
    have hm : (m + 1) * (1 + cn_S n) = m * (1 + cn_S n) + (1 + cn_S n) := Nat.succ_mul ..
    have hd : p.length < 5 := by omega
    have hst : step < 1000000 := by omega
    have hkc : k < cc := by omega
    have htk := htt k hkc
    have hL : (∀ i, i < p.length → wn i ≠ nI (tt k)) ↔ tt k ∉ ns := by
      rw [h6 _ htk]
      exact ⟨fun h ⟨i, g1, g2⟩ => h i g1 g2, fun h i g1 g2 => h ⟨i, g1, g2⟩⟩
    have key : ∃ (step1 : Nat) (wn1 wr1 wx1 wc1 wb1 : cn_A) (bl1 ba1 : Int32) (bC1 bB1 : cn_A), (∀ i, i < p.length → wn1 i = wn i ∧ wr1 i = wr i ∧ wx1 i = wx i ∧ wc1 i = wc i ∧ wb1 i = wb i) ∧
        wn1 p.length = nI node ∧ wr1 p.length = nI time ∧ wx1 p.length = nI (k + 1) ∧
        cn_BR (((cn_xK cc fr tt ok E c goal n ns node time k).map (fun r => (p ++ r.1, r.2))).foldl cn_f o) bl1 ba1 bC1 bB1 ∧ step1 ≤ step + 1 + cn_S n ∧
        ∀ q, G q (nI p.length) step1 wn1 wr1 wx1 wc1 wb1 bl1 ba1 bC1 bB1 → G q (nI p.length) step wn wr wx wc wb bl ba bC bB := by
      by_cases hl : fr k = node ∧ ok k = true ∧ ∀ i, i < p.length → wn i ≠ nI (tt k)
      · have hl2 : fr k = node ∧ ok k = true ∧ tt k ∉ ns := ⟨hl.1, hl.2.1, hL.mp hl.2.2⟩
        cases hb : E k time with
        | none =>
          have e : cn_xK cc fr tt ok E c goal n ns node time k = [] := by
            unfold cn_xK; rw [if_pos hl2, hb]
          rw [e]
          exact ⟨step + 1, wn, wr, upd wx p.length (nI (k + 1)), wc, wb, bl, ba, bC, bB, fun i hi => ⟨rfl, rfl, pk_un (by omega), rfl, rfl⟩, h1, h3, pk_us, h8, by omega,
            fun q g => R3 q p.length k step node time wn wr wx wc wb bl ba bC bB hd hst h5 hkc h1 h2 h3 h4 hl hb g⟩
        | some b =>
          have hab := hE k time b hkc hb
          by_cases hg : tt k = goal
          · have e : cn_xK cc fr tt ok E c goal n ns node time k = [([(k, b)], b + c k)] := by
              unfold cn_xK; rw [if_pos hl2, hb]; exact if_pos hg
            rw [e]
            have hlen : (p ++ [(k, b)]).length = p.length + 1 := by rw [List.length_append]; rfl
            have ef : (([([(k, b)], b + c k)] : List cn_R).map (fun r => (p ++ r.1, r.2))).foldl cn_f o = cn_f o (p ++ [(k, b)], b + c k) := rfl
            rw [ef]
            have ag : ∀ i, i < p.length → wn i = wn i ∧ wr i = wr i ∧ upd wx p.length (nI (k + 1)) i = wx i ∧ upd wc p.length (nI k) i = wc i ∧ upd wb p.length (nI b) i = wb i :=
              fun i hi => ⟨rfl, rfl, pk_un (by omega), pk_un (by omega), pk_un (by omega)⟩
            by_cases ht : cn_bet bl ba (p.length + 1) (b + c k)
            · refine ⟨step + 1, wn, wr, upd wx p.length (nI (k + 1)), upd wc p.length (nI k), upd wb p.length (nI b), nI (p.length + 1), nI (b + c k), cn_cp (p.length + 1) (upd wc p.length (nI k)) bC, cn_cp (p.length + 1) (upd wb p.length (nI b)) bB, ag, h1, h3, pk_us, ?_, by omega,
                fun q g => R4 q p.length k step node time b wn wr wx wc wb bl ba bC bB hd hst h5 hkc h1 h2 h3 h4 hl hb hg ht g⟩
              rw [cn_bet_t h8 (r := (p ++ [(k, b)], b + c k)) (by show (p ++ [(k, b)]).length ≤ 5; omega) hab (by show cn_bet bl ba (p ++ [(k, b)]).length (b + c k); rw [hlen]; exact ht)]
              have := cn_BR_k (bC := bC) (bB := bB) (cn_Pa_s (k := k) (b := b) h7) (by simp) (by omega) hab
              rw [hlen] at this
              exact this
            · refine ⟨step + 1, wn, wr, upd wx p.length (nI (k + 1)), upd wc p.length (nI k), upd wb p.length (nI b), bl, ba, bC, bB, ag, h1, h3, pk_us, ?_, by omega,
                fun q g => R5 q p.length k step node time b wn wr wx wc wb bl ba bC bB hd hst h5 hkc h1 h2 h3 h4 hl hb hg ht g⟩
              rw [cn_bet_f h8 (r := (p ++ [(k, b)], b + c k)) (by show (p ++ [(k, b)]).length ≤ 5; omega) hab (by show ¬ cn_bet bl ba (p ++ [(k, b)]).length (b + c k); rw [hlen]; exact ht)]
              exact h8
          · have e : cn_xK cc fr tt ok E c goal n ns node time k = (cn_xS cc fr tt ok E c goal n (node :: ns) (tt k) (b + c k)).map (fun r => ((k, b) :: r.1, r.2)) := by
              unfold cn_xK; rw [if_pos hl2, hb]; exact if_neg hg
            rw [e, cn_fm]
            cases n with
            | zero =>
              exact ⟨step + 1, wn, wr, upd wx p.length (nI (k + 1)), upd wc p.length (nI k), upd wb p.length (nI b), bl, ba, bC, bB, fun i hi => ⟨rfl, rfl, pk_un (by omega), pk_un (by omega), pk_un (by omega)⟩, h1, h3, pk_us, h8, by omega,
                fun q g => R7 q p.length k step node time b wn wr wx wc wb bl ba bC bB (by omega) hst h5 hkc h1 h2 h3 h4 hl hb hg g⟩
            | succ n =>
              have hlen : (p ++ [(k, b)]).length = p.length + 1 := by rw [List.length_append]; rfl
              have hS : cn_S (n + 1) = 11 + 10 * cn_S n := rfl
              have hmul : cc * (1 + cn_S n) ≤ 10 * (1 + cn_S n) := Nat.mul_le_mul_right _ hcc
              have hns : ∀ x, x < 6 → (x ∈ node :: ns ↔ ∃ i, i < (p ++ [(k, b)]).length ∧ upd wn (p.length + 1) (nI (tt k)) i = nI x) := by
                intro x hx
                rw [hlen, List.mem_cons, h6 x hx]
                constructor
                · rintro (z | ⟨i, z1, z2⟩)
                  · exact ⟨p.length, by omega, by rw [pk_un (by omega), h1, z]⟩
                  · exact ⟨i, by omega, by rw [pk_un (by omega), z2]⟩
                · rintro ⟨i, z1, z2⟩
                  rw [pk_un (by omega)] at z2
                  by_cases ei : i = p.length
                  · rw [ei, h1, nI_eq (by omega) (by omega)] at z2
                    exact Or.inl z2.symm
                  · exact Or.inr ⟨i, by omega, z2⟩
              obtain ⟨step1, wn1, wr1, wx1, wc1, wb1, bl1, ba1, bC1, bB1, f1, f2, f3, f4⟩ := ihn n (Nat.lt_succ_self n) cc (p ++ [(k, b)]) (node :: ns) (tt k) (b + c k) 0 (step + 1)
                (upd wn (p.length + 1) (nI (tt k))) (upd wr (p.length + 1) (nI (b + c k))) (upd (upd wx p.length (nI (k + 1))) (p.length + 1) 0) (upd wc p.length (nI k)) (upd wb p.length (nI b)) bl ba bC bB o
                (by omega) (by omega) (by rw [hlen, pk_us]) htk (by rw [hlen, pk_us]) (by omega) (by rw [hlen, pk_us]; rfl) hns (cn_Pa_s h7) h8 (by rw [hm, hS] at h9; omega)
              rw [hlen] at f1 f4
              refine ⟨step1, wn1, wr1, wx1, wc1, wb1, bl1, ba1, bC1, bB1, ?_, ?_, ?_, ?_, f2, by rw [hS]; omega, ?_⟩
              · intro i hi
                obtain ⟨a1, a2, a3, a4, a5⟩ := f1 i (by omega)
                rw [a1, a2, a3, a4, a5, pk_un (by omega), pk_un (by omega), pk_un (by omega), pk_un (by omega), pk_un (by omega), pk_un (by omega)]
                exact ⟨rfl, rfl, rfl, rfl, rfl⟩
              · rw [(f1 p.length (by omega)).1, pk_un (by omega), h1]
              · rw [(f1 p.length (by omega)).2.1, pk_un (by omega), h3]
              · rw [(f1 p.length (by omega)).2.2.1, pk_un (by omega), pk_us]
              · intro q g
                apply R6 q p.length k step node time b wn wr wx wc wb bl ba bC bB (by omega) hst h5 hkc h1 h2 h3 h4 hl hb hg
                apply f4
                rw [pk_m1]
                exact g
      · have hl2 : ¬ (fr k = node ∧ ok k = true ∧ tt k ∉ ns) := fun z => hl ⟨z.1, z.2.1, hL.mpr z.2.2⟩
        have e : cn_xK cc fr tt ok E c goal n ns node time k = [] := by
          unfold cn_xK; rw [if_neg hl2]
        rw [e]
        exact ⟨step + 1, wn, wr, upd wx p.length (nI (k + 1)), wc, wb, bl, ba, bC, bB, fun i hi => ⟨rfl, rfl, pk_un (by omega), rfl, rfl⟩, h1, h3, pk_us, h8, by omega,
          fun q g => R2 q p.length k step node wn wr wx wc wb bl ba bC bB hd hst h5 hkc h1 h2 hl g⟩
    obtain ⟨step1, wn1, wr1, wx1, wc1, wb1, bl1, ba1, bC1, bB1, k1, k2, k3, k4, k5, k6, k7⟩ := key
    obtain ⟨step2, wn2, wr2, wx2, wc2, wb2, bl2, ba2, bC2, bB2, j1, j2, j3, j4⟩ := ihm p ns node time (k + 1) step1 wn1 wr1 wx1 wc1 wb1 bl1 ba1 bC1 bB1 _ hn (by omega) k2 h2 k3 h4 k4
      (fun x hx => by
        rw [h6 x hx]
        exact ⟨fun ⟨i, z1, z2⟩ => ⟨i, z1, by rw [(k1 i z1).1, z2]⟩, fun ⟨i, z1, z2⟩ => ⟨i, z1, by rw [← (k1 i z1).1, z2]⟩⟩)
      (cn_Pa_x h7 (fun i hi => ⟨(k1 i hi).2.2.2.1, (k1 i hi).2.2.2.2⟩)) k5 (by omega)
    refine ⟨step2, wn2, wr2, wx2, wc2, wb2, bl2, ba2, bC2, bB2, ?_, ?_, by omega, fun q g => k7 q (j4 q g)⟩
    · intro i hi
      obtain ⟨a1, a2, a3, a4, a5⟩ := j1 i hi
      obtain ⟨b1, b2, b3, b4, b5⟩ := k1 i hi
      exact ⟨a1.trans b1, a2.trans b2, a3.trans b3, a4.trans b4, a5.trans b5⟩
    · rw [cn_fo]; exact j2
theorem cn_yLv {P : Type} {G : P → Int32 → cn_A → cn_A → cn_A → cn_A → cn_A → Int32 → Int32 → cn_A → cn_A → Prop} (H : cn_YG cc fr tt ok E c goal G) (hcc : cc ≤ 10) (htt : ∀ k, k < cc → tt k < 6) (hE : ∀ k t b, k < cc → E k t = some b → b + c k ≤ 200) :
    ∀ (n m : Nat) (p : List (Nat × Nat)) (used : List Nat) (node time k : Nat) (tr tb no ti ne : cn_A) (be bA : Int32) (bO bE : cn_A) (o : Option cn_R),
    p.length + n = 4 → k + m = cc → no p.length = nI node → node < 6 → ti p.length = nI time → time ≤ 200000 → ne p.length = nI k → (∀ x, x < cc → (x ∈ used ↔ ∃ i, i < p.length ∧ tr i = nI x)) → cn_Pa p tr tb → cn_BR o be bA bO bE →
    ∃ (tr' tb' no' ti' ne' : cn_A) (be' bA' : Int32) (bO' bE' : cn_A), (∀ i, i < p.length → tr' i = tr i ∧ tb' i = tb i ∧ no' i = no i ∧ ti' i = ti i ∧ ne' i = ne i) ∧
      cn_BR ((((List.range' k m).flatMap (cn_yK cc fr tt ok E c goal n used node time)).map (fun r => (p ++ r.1, r.2))).foldl cn_f o) be' bA' bO' bE' ∧
      ∀ q, G q (nI p.length + (-1)) tr' tb' no' ti' ne' be' bA' bO' bE' → G q (nI p.length) tr tb no ti ne be bA bO bE := by
  obtain ⟨R1, R2, R3, R4, R5⟩ := H
  intro n
  induction n using Nat.strongRecOn with
  | _ n ihn =>
  intro m
  induction m with
  | zero =>
    intro p used node time k tr tb no ti ne be bA bO bE o hn hk h1 h2 h3 h4 h5 h6 h7 h8
    exact ⟨tr, tb, no, ti, upd ne p.length (nI (k + 1)), be, bA, bO, bE, fun i hi => ⟨rfl, rfl, rfl, rfl, pk_un (by omega)⟩, h8, fun q g => R1 q p.length k tr tb no ti ne be bA bO bE (by omega) h5 (by omega) (by omega) g⟩
  | succ m ihm =>
    intro p used node time k tr tb no ti ne be bA bO bE o hn hk h1 h2 h3 h4 h5 h6 h7 h8
    have hd : p.length < 5 := by omega
    have hkc : k < cc := by omega
    have htk := htt k hkc
    have hL : (∀ i, i < p.length → tr i ≠ nI k) ↔ k ∉ used := by
      rw [h6 _ hkc]
      exact ⟨fun h ⟨i, g1, g2⟩ => h i g1 g2, fun h i g1 g2 => h ⟨i, g1, g2⟩⟩
    have key : ∃ (tr1 tb1 no1 ti1 ne1 : cn_A) (be1 bA1 : Int32) (bO1 bE1 : cn_A), (∀ i, i < p.length → tr1 i = tr i ∧ tb1 i = tb i ∧ no1 i = no i ∧ ti1 i = ti i ∧ ne1 i = ne i) ∧
        no1 p.length = nI node ∧ ti1 p.length = nI time ∧ ne1 p.length = nI (k + 1) ∧
        cn_BR (((cn_yK cc fr tt ok E c goal n used node time k).map (fun r => (p ++ r.1, r.2))).foldl cn_f o) be1 bA1 bO1 bE1 ∧
        ∀ q, G q (nI p.length) tr1 tb1 no1 ti1 ne1 be1 bA1 bO1 bE1 → G q (nI p.length) tr tb no ti ne be bA bO bE := by
      by_cases hl : fr k = node ∧ ok k = true ∧ ∀ i, i < p.length → tr i ≠ nI k
      · have hl2 : fr k = node ∧ ok k = true ∧ k ∉ used := ⟨hl.1, hl.2.1, hL.mp hl.2.2⟩
        cases hb : E k time with
        | none =>
          have e : cn_yK cc fr tt ok E c goal n used node time k = [] := by
            unfold cn_yK; rw [if_pos hl2, hb]
          rw [e]
          exact ⟨tr, tb, no, ti, upd ne p.length (nI (k + 1)), be, bA, bO, bE, fun i hi => ⟨rfl, rfl, rfl, rfl, pk_un (by omega)⟩, h1, h3, pk_us, h8,
            fun q g => R3 q p.length k node time tr tb no ti ne be bA bO bE hd h5 hkc h1 h2 h3 h4 hl hb g⟩
        | some b =>
          have hab := hE k time b hkc hb
          have hlen : (p ++ [(k, b)]).length = p.length + 1 := by rw [List.length_append]; rfl
          have e : cn_yK cc fr tt ok E c goal n used node time k = (if tt k = goal then [([(k, b)], b + c k)] else []) ++ (cn_yS cc fr tt ok E c goal n (k :: used) (tt k) (b + c k)).map (fun r => ((k, b) :: r.1, r.2)) := by
            unfold cn_yK; rw [if_pos hl2, hb]
          rw [e, List.map_append, List.foldl_append, cn_fm]
          have sub : ∃ (o1 : Option cn_R) (be1 bA1 : Int32) (bO1 bE1 : cn_A), ((if tt k = goal then ([([(k, b)], b + c k)] : List cn_R) else []).map (fun r => (p ++ r.1, r.2))).foldl cn_f o = o1 ∧ cn_BR o1 be1 bA1 bO1 bE1 ∧
              ∀ q, G q (nI (p.length + 1)) (upd tr p.length (nI k)) (upd tb p.length (nI b)) (upd no (p.length + 1) (nI (tt k))) (upd ti (p.length + 1) (nI (b + c k))) (upd (upd ne p.length (nI (k + 1))) (p.length + 1) 0) be1 bA1 bO1 bE1 → G q (nI p.length) tr tb no ti ne be bA bO bE := by
            by_cases hg : tt k = goal
            · rw [if_pos hg]
              have ef : (([([(k, b)], b + c k)] : List cn_R).map (fun r => (p ++ r.1, r.2))).foldl cn_f o = cn_f o (p ++ [(k, b)], b + c k) := rfl
              rw [ef]
              by_cases ht : cn_bet be bA (p.length + 1) (b + c k)
              · refine ⟨_, nI (p.length + 1), nI (b + c k), cn_cp (p.length + 1) (upd tr p.length (nI k)) bO, cn_cp (p.length + 1) (upd tb p.length (nI b)) bE, rfl, ?_, fun q g => R5 q p.length k node time b tr tb no ti ne be bA bO bE hd h5 hkc h1 h2 h3 h4 hl hb hg ht g⟩
                rw [cn_bet_t h8 (r := (p ++ [(k, b)], b + c k)) (by show (p ++ [(k, b)]).length ≤ 5; omega) hab (by show cn_bet be bA (p ++ [(k, b)]).length (b + c k); rw [hlen]; exact ht)]
                have := cn_BR_k (bC := bO) (bB := bE) (cn_Pa_s (k := k) (b := b) h7) (by simp) (by omega) hab
                rw [hlen] at this
                exact this
              · refine ⟨_, be, bA, bO, bE, rfl, ?_, fun q g => R4 q p.length k node time b tr tb no ti ne be bA bO bE hd h5 hkc h1 h2 h3 h4 hl hb (Or.inr ht) g⟩
                rw [cn_bet_f h8 (r := (p ++ [(k, b)], b + c k)) (by show (p ++ [(k, b)]).length ≤ 5; omega) hab (by show ¬ cn_bet be bA (p ++ [(k, b)]).length (b + c k); rw [hlen]; exact ht)]
                exact h8
            · rw [if_neg hg]
              exact ⟨o, be, bA, bO, bE, rfl, h8, fun q g => R4 q p.length k node time b tr tb no ti ne be bA bO bE hd h5 hkc h1 h2 h3 h4 hl hb (Or.inl hg) g⟩
          obtain ⟨o1, be1, bA1, bO1, bE1, s1, s2, s3⟩ := sub
          rw [s1]
          cases n with
          | zero =>
            refine ⟨upd tr p.length (nI k), upd tb p.length (nI b), upd no (p.length + 1) (nI (tt k)), upd ti (p.length + 1) (nI (b + c k)), upd (upd (upd ne p.length (nI (k + 1))) (p.length + 1) 0) (p.length + 1) (nI (0 + 1)), be1, bA1, bO1, bE1, ?_, ?_, ?_, ?_, s2, ?_⟩
            · intro i hi
              rw [pk_un (by omega), pk_un (by omega), pk_un (by omega), pk_un (by omega), pk_un (by omega), pk_un (by omega), pk_un (by omega)]
              exact ⟨rfl, rfl, rfl, rfl, rfl⟩
            · rw [pk_un (by omega), h1]
            · rw [pk_un (by omega), h3]
            · rw [pk_un (by omega), pk_un (by omega), pk_us]
            · intro q g
              apply s3
              apply R1 q (p.length + 1) 0 _ _ _ _ _ _ _ _ _ (by omega) (by rw [pk_us]; rfl) (by omega) (by omega)
              rw [pk_m1]
              exact g
          | succ n =>
            have hus : ∀ x, x < cc → (x ∈ k :: used ↔ ∃ i, i < (p ++ [(k, b)]).length ∧ upd tr p.length (nI k) i = nI x) := by
              intro x hx
              rw [hlen, List.mem_cons, h6 x hx]
              constructor
              · rintro (z | ⟨i, z1, z2⟩)
                · exact ⟨p.length, by omega, by rw [pk_us, z]⟩
                · exact ⟨i, by omega, by rw [pk_un (by omega), z2]⟩
              · rintro ⟨i, z1, z2⟩
                by_cases ei : i = p.length
                · rw [ei, pk_us, nI_eq (by omega) (by omega)] at z2
                  exact Or.inl z2.symm
                · rw [pk_un ei] at z2
                  exact Or.inr ⟨i, by omega, z2⟩
            obtain ⟨tr2, tb2, no2, ti2, ne2, be2, bA2, bO2, bE2, f1, f2, f3⟩ := ihn n (Nat.lt_succ_self n) cc (p ++ [(k, b)]) (k :: used) (tt k) (b + c k) 0
              (upd tr p.length (nI k)) (upd tb p.length (nI b)) (upd no (p.length + 1) (nI (tt k))) (upd ti (p.length + 1) (nI (b + c k))) (upd (upd ne p.length (nI (k + 1))) (p.length + 1) 0) be1 bA1 bO1 bE1 o1
              (by omega) (by omega) (by rw [hlen, pk_us]) htk (by rw [hlen, pk_us]) (by omega) (by rw [hlen, pk_us]; rfl) hus (cn_Pa_s h7) s2
            rw [hlen] at f1 f3
            refine ⟨tr2, tb2, no2, ti2, ne2, be2, bA2, bO2, bE2, ?_, ?_, ?_, ?_, f2, ?_⟩
            · intro i hi
              obtain ⟨a1, a2, a3, a4, a5⟩ := f1 i (by omega)
              rw [a1, a2, a3, a4, a5, pk_un (by omega), pk_un (by omega), pk_un (by omega), pk_un (by omega), pk_un (by omega), pk_un (by omega)]
              exact ⟨rfl, rfl, rfl, rfl, rfl⟩
            · rw [(f1 p.length (by omega)).2.2.1, pk_un (by omega), h1]
            · rw [(f1 p.length (by omega)).2.2.2.1, pk_un (by omega), h3]
            · rw [(f1 p.length (by omega)).2.2.2.2, pk_un (by omega), pk_us]
            · intro q g
              apply s3
              apply f3
              rw [pk_m1]
              exact g
      · have hl2 : ¬ (fr k = node ∧ ok k = true ∧ k ∉ used) := fun z => hl ⟨z.1, z.2.1, hL.mpr z.2.2⟩
        have e : cn_yK cc fr tt ok E c goal n used node time k = [] := by
          unfold cn_yK; rw [if_neg hl2]
        rw [e]
        exact ⟨tr, tb, no, ti, upd ne p.length (nI (k + 1)), be, bA, bO, bE, fun i hi => ⟨rfl, rfl, rfl, rfl, pk_un (by omega)⟩, h1, h3, pk_us, h8,
          fun q g => R2 q p.length k node tr tb no ti ne be bA bO bE hd h5 hkc h1 h2 hl g⟩
    obtain ⟨tr1, tb1, no1, ti1, ne1, be1, bA1, bO1, bE1, k1, k2, k3, k4, k5, k7⟩ := key
    obtain ⟨tr2, tb2, no2, ti2, ne2, be2, bA2, bO2, bE2, j1, j2, j4⟩ := ihm p used node time (k + 1) tr1 tb1 no1 ti1 ne1 be1 bA1 bO1 bE1 _ hn (by omega) k2 h2 k3 h4 k4
      (fun x hx => by
        rw [h6 x hx]
        exact ⟨fun ⟨i, z1, z2⟩ => ⟨i, z1, by rw [(k1 i z1).1, z2]⟩, fun ⟨i, z1, z2⟩ => ⟨i, z1, by rw [← (k1 i z1).1, z2]⟩⟩)
      (cn_Pa_x h7 (fun i hi => ⟨(k1 i hi).1, (k1 i hi).2.1⟩)) k5
    refine ⟨tr2, tb2, no2, ti2, ne2, be2, bA2, bO2, bE2, ?_, ?_, fun q g => k7 q (j4 q g)⟩
    · intro i hi
      obtain ⟨a1, a2, a3, a4, a5⟩ := j1 i hi
      obtain ⟨b1, b2, b3, b4, b5⟩ := k1 i hi
      exact ⟨a1.trans b1, a2.trans b2, a3.trans b3, a4.trans b4, a5.trans b5⟩
    · rw [cn_fo]; exact j2
theorem cn_map0 {L : List cn_R} : L.map (fun r => (([] : List (Nat × Nat)) ++ r.1, r.2)) = L := by
  have : (fun r : cn_R => (([] : List (Nat × Nat)) ++ r.1, r.2)) = id := by funext r; rfl
  rw [this, List.map_id]
/-- the component's whole search -/
theorem cn_xAll {P : Type} {G : P → Int32 → Nat → cn_A → cn_A → cn_A → cn_A → cn_A → Int32 → Int32 → cn_A → cn_A → Prop} (H : cn_XG cc fr tt ok E c goal G) (hcc : cc ≤ 10) (htt : ∀ k, k < cc → tt k < 6) (hE : ∀ k t b, k < cc → E k t = some b → b + c k ≤ 200)
    (node time : Nat) (wn wr wx wc wb : cn_A) (ba : Int32) (bC bB : cn_A) (h1 : wn 0 = nI node) (h2 : node < 6) (h3 : wr 0 = nI time) (h4 : time ≤ 200000) (h5 : wx 0 = nI 0) :
    ∃ (step' : Nat) (wn' wr' wx' wc' wb' : cn_A) (bl' ba' : Int32) (bC' bB' : cn_A), cn_BR ((cn_xS cc fr tt ok E c goal 5 [] node time).foldl cn_f none) bl' ba' bC' bB' ∧ step' ≤ 1000000 ∧
      ∀ q, G q (-1) step' wn' wr' wx' wc' wb' bl' ba' bC' bB' → G q 0 0 wn wr wx wc wb 0 ba bC bB := by
  have hS : cn_S 4 = 12221 := rfl
  have hmul : cc * (1 + cn_S 4) ≤ 10 * (1 + cn_S 4) := Nat.mul_le_mul_right _ hcc
  obtain ⟨s', wn', wr', wx', wc', wb', bl', ba', bC', bB', f1, f2, f3, f4⟩ := cn_xLv H hcc htt hE 4 cc [] [] node time 0 0 wn wr wx wc wb 0 ba bC bB none rfl (by omega) h1 h2 h3 h4 h5
    (fun x _ => ⟨fun z => by simp at z, fun ⟨i, z, _⟩ => by simp at z⟩) (fun i hi => by simp at hi) rfl (by omega)
  refine ⟨s', wn', wr', wx', wc', wb', bl', ba', bC', bB', ?_, by omega, f4⟩
  rw [cn_map0] at f2
  exact f2
theorem cn_yAll {P : Type} {G : P → Int32 → cn_A → cn_A → cn_A → cn_A → cn_A → Int32 → Int32 → cn_A → cn_A → Prop} (H : cn_YG cc fr tt ok E c goal G) (hcc : cc ≤ 10) (htt : ∀ k, k < cc → tt k < 6) (hE : ∀ k t b, k < cc → E k t = some b → b + c k ≤ 200)
    (node time : Nat) (tr tb no ti ne : cn_A) (bA : Int32) (bO bE : cn_A) (h1 : no 0 = nI node) (h2 : node < 6) (h3 : ti 0 = nI time) (h4 : time ≤ 200000) (h5 : ne 0 = nI 0) :
    ∃ (tr' tb' no' ti' ne' : cn_A) (be' bA' : Int32) (bO' bE' : cn_A), cn_BR ((cn_yS cc fr tt ok E c goal 5 [] node time).foldl cn_f none) be' bA' bO' bE' ∧
      ∀ q, G q (-1) tr' tb' no' ti' ne' be' bA' bO' bE' → G q 0 tr tb no ti ne 0 bA bO bE := by
  obtain ⟨tr', tb', no', ti', ne', be', bA', bO', bE', f1, f2, f3⟩ := cn_yLv H hcc htt hE 4 cc [] [] node time 0 tr tb no ti ne 0 bA bO bE none rfl (by omega) h1 h2 h3 h4 h5
    (fun x _ => ⟨fun z => by simp at z, fun ⟨i, z, _⟩ => by simp at z⟩) (fun i hi => by simp at hi) rfl
  refine ⟨tr', tb', no', ti', ne', be', bA', bO', bE', ?_, f3⟩
  rw [cn_map0] at f2
  exact f2
end
