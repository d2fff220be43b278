section
variable {now cc bc nc : Nat} {fr tt st en ra de so ta sz : Nat → Nat} {CA li : Nat → Int32}
theorem cn_c1_b {bits : Int32} {HI : Nat → Int32} {i : Nat} (hi : i < 10) (h : ∀ j, j < 10 → (bt bits j = true ↔ j < i ∧ HI j = 1)) : ∀ j, j < 10 → (bt (bits ||| ((1 : Int32) <<< (nI i &&& 31))) j = true ↔ j < i + 1 ∧ upd HI i 1 j = 1) := by
  intro j hj
  rw [cn_bitS bits (by omega) (by omega)]
  by_cases e : j = i
  · rw [e, pk_us]; simp
  · rw [pk_un e]
    have := h j hj
    rw [show (bt bits j || decide (j = i)) = bt bits j by simp [e], this]
    constructor
    · rintro ⟨a, b⟩; exact ⟨by omega, b⟩
    · rintro ⟨a, b⟩; exact ⟨by omega, b⟩
theorem cn_c1_n {bits : Int32} {HI : Nat → Int32} {i : Nat} (h : ∀ j, j < 10 → (bt bits j = true ↔ j < i ∧ HI j = 1)) : ∀ j, j < 10 → (bt bits j = true ↔ j < i + 1 ∧ upd HI i 0 j = 1) := by
  intro j hj
  rw [h j hj]
  by_cases e : j = i
  · rw [e, pk_us]
    constructor
    · rintro ⟨a, _⟩; omega
    · rintro ⟨_, b⟩; exact absurd b (by decide)
  · rw [pk_un e]
    constructor
    · rintro ⟨a, b⟩; exact ⟨by omega, b⟩
    · rintro ⟨a, b⟩; exact ⟨by omega, b⟩
theorem cn_c1 {k : Nat} (hk : k < cc) (SK : Nat → Int32) : ∀ (m i h : Nat) (hc : Nat → Nat) (oc ob : Nat → Nat → Nat) (TA HX HB HY HZ RT HI : Nat → Int32) (bits : Int32), i + m = bc →
    cn_In now cc bc nc fr tt st en ra de so ta sz CA RT SK (hc, oc, ob, TA, HX, HB, HY, HZ) (fun b => i ≤ b ∨ HI b = 0) → (∀ b, b < bc → hc b ≤ 5 * nc) → (∀ b, b < i → (HI b = 0 ∨ HI b = 1) ∧ (HI b = 1 → RT b = 0)) → (∀ j, j < 10 → (bt bits j = true ↔ j < i ∧ HI j = 1)) →
    ∃ (h' : Nat) (hc' : Nat → Nat) (oc' ob' : Nat → Nat → Nat) (TA' HX' HB' HY' HZ' RT' HI' : Nat → Int32) (bits' : Int32), cn_In now cc bc nc fr tt st en ra de so ta sz CA RT' SK (hc', oc', ob', TA', HX', HB', HY', HZ') (fun b => HI' b = 0) ∧
      (∀ b, b < bc → (HI' b = 0 ∨ HI' b = 1) ∧ (HI' b = 1 → RT' b = 0)) ∧ (∀ j, j < 10 → (bt bits' j = true ↔ j < bc ∧ HI' j = 1)) ∧
      (∀ (wn wr wx wc wb : cn_A) (bl ba : Int32) (bC bB : cn_A) (post : Int32 → SX → Prop), (∃ n, wX_cancel_95 post (nI h') n 0 (nI now) (nI cc) (nI bc) bl ba (cn_n fr) (cn_n tt) (cn_n st) (cn_n en) (cn_n ra) (cn_n de) CA TA' (cn_n so) (cn_n ta) (cn_n sz) li RT' HI' (cn_n hc') HX' HB' wn wr wx wc wb bC bB) → wX_cancel_30 post (nI k) (m + 1) (nI h) (nI i) (nI now) (nI cc) (nI bc) bl ba (cn_n fr) (cn_n tt) (cn_n st) (cn_n en) (cn_n ra) (cn_n de) CA TA (cn_n so) (cn_n ta) (cn_n sz) li RT HI (cn_n hc) HX HB wn wr wx wc wb bC bB) ∧
      (∀ (tr tb no ti ne : cn_A) (be bA : Int32) (bO bE : cn_A) (post : Int32 → SY → Prop), (∃ n, wY_cancel_88 post bits' (nI h') n 0 (nI now) (nI cc) (nI bc) be bA (cn_n fr) (cn_n tt) (cn_n st) (cn_n en) (cn_n ra) (cn_n de) CA (cn_n so) (cn_n ta) (cn_n sz) li SK (cn_n hc') HY' HZ' tr tb no ti ne bO bE) → wY_cancel_37 post (nI k) (nI now) (nI cc) (nI bc) be bA (m + 1) bits (nI h) (nI i) (cn_n fr) (cn_n tt) (cn_n st) (cn_n en) (cn_n ra) (cn_n de) CA (cn_n so) (cn_n ta) (cn_n sz) li SK (cn_n hc) HY HZ tr tb no ti ne bO bE) := by
  intro m
  induction m with
  | zero =>
    intro i h hc oc ob TA HX HB HY HZ RT HI bits hi I hle hH hB
    have hbc := I.2.2.1
    have ei : i = bc := by omega
    refine ⟨h, hc, oc, ob, TA, HX, HB, HY, HZ, RT, HI, bits, cn_In_Q I (fun b _ z => Or.inr z), fun b hb => hH b (by omega), fun j hj => by rw [← ei]; exact hB j hj, ?_, ?_⟩
    · intro wn wr wx wc wb bl ba bC bB post g
      exact br_t (nI_le (by omega) (by omega)) g
    · intro tr tb no ti ne be bA bO bE post g
      exact br_t (nI_le (by omega) (by omega)) g
  | succ m ih =>
    intro i h hc oc ob TA HX HB HY HZ RT HI bits hi I hle hH hB
    have I' := I
    obtain ⟨i1, i2, i3, i4, i5, i6, i7, i8⟩ := I'
    obtain ⟨H1, H2, H3, H4, H5, H6⟩ := cn_IvU i5
    have N1 := i2.1
    obtain ⟨n1, n2, n3, n4, n5, n6, n7, n8⟩ := i2.2 k hk
    have hib : i < bc := by omega
    obtain ⟨g1, g2, g3, g4, g5, g6, g7, g8⟩ := i6 i hib
    have htk := cn_tk_le (ra := ra) (k := k) (s := sz i) n7 g4
    have hvi : vp_in (nI i) 10 := vp_in_nI (by omega) (by omega)
    have ci : (nI i).toNatClampNeg = i := nI_clamp (by omega)
    have hge : ¬ nI bc ≤ nI i := nI_ge (by omega) (by omega)
    have hh := H6 i (by omega)
    have hbk : ∀ a, a < hc i → oc i a < 10 ∧ ob i a ≤ 200 := by
      intro a ha
      obtain ⟨q1, q2, q3, q4⟩ := H1.1 i a hib ha
      have := (i2.2 _ q1).2.2.2.2.1
      omega
    cases hf : cn_sr (cn_hF now k ra sz oc ob i) (hc i) 0 with
    | none =>
      obtain ⟨h', hc', oc', ob', TA', HX', HB', HY', HZ', RT', HI', bits', J, j1, j2, jx, jy⟩ := ih (i + 1) h hc oc ob TA HX HB HY HZ RT (upd HI i 0) bits (by omega)
        (cn_In_Q I (fun b _ z => by
          by_cases e : b = i
          · exact Or.inl (by omega)
          · rw [pk_un e] at z
            rcases z with z | z
            · exact Or.inl (by omega)
            · exact Or.inr z)) hle
        (fun b hb => by
          by_cases e : b = i
          · rw [e, pk_us]; exact ⟨Or.inl rfl, fun z => absurd z (by decide)⟩
          · rw [pk_un e]; exact hH b (by omega)) (cn_c1_n hB)
      refine ⟨h', hc', oc', ob', TA', HX', HB', HY', HZ', RT', HI', bits', J, j1, j2, ?_, ?_⟩
      · intro wn wr wx wc wb bl ba bC bB post g
        have G := jx wn wr wx wc wb bl ba bC bB post g
        refine br_f hge ⟨hvi, ?_⟩
        refine cx_ticksE (z := sz i) rfl (by rw [ci]; rfl) (by omega) n6 n7 g4 ⟨hc i + 1, cx_fng15 (oc := oc) (ob := ob) i1 (by omega) (by omega) hh htk (fun a ha => ⟨H2 i a (by omega) ha, H3 i a (by omega) ha, (hbk a ha).1, (hbk a ha).2⟩) (hc i) 0 (by omega) (fun _ => ?_) (fun j hj => absurd (hf.symm.trans hj) (by simp))⟩
        refine ⟨hvi, br_t (by rw [ci, cn_n_at]; exact nI_le (Nat.le_refl _) (by omega)) ⟨hvi, nm_r (e' := upd HI i 0) (by rw [ci, cx_b0]) ⟨hvi, br_t (by rw [ci, pk_us]) (nm_r (nI_1 i) G)⟩⟩⟩
      · intro tr tb no ti ne be bA bO bE post g
        have G := jy tr tb no ti ne be bA bO bE post g
        refine br_f hge ⟨hc i + 1, cy_hit2 (oc := oc) (ob := ob) i1 (by omega) (by omega) n6 n7 g4 hh (fun a ha => ⟨H4 i a (by omega) ha, H5 i a (by omega) ha, (hbk a ha).1, (hbk a ha).2⟩) (hc i) 0 (by omega) (fun _ => ?_) (fun j hj => absurd (hf.symm.trans hj) (by simp))⟩
        exact br_t (by decide) (nm_r (nI_1 i) G)
    | some j =>
      obtain ⟨s1, s2, s3, s4⟩ := (cn_sr_some _ _ _ _).mp hf
      have hj : j < hc i := by omega
      have hIv := cn_Iv_cut i2 i5 hib (j := j) (by show j ≤ hc i; omega)
      have hBn := cn_Bn_cut (s := (hc, oc, ob, TA, HX, HB, HY, HZ)) i6 (b := i) (j := j) (by show j < hc i; omega) (hle i hib)
      have J0 : cn_In now cc bc nc fr tt st en ra de so ta sz CA (upd RT i 0) SK (cn_cutS ra sz i j (hc, oc, ob, TA, HX, HB, HY, HZ)) (fun b => i + 1 ≤ b ∨ upd HI i 1 b = 0) := by
        refine ⟨i1, i2, i3, i4, hIv, hBn, ?_, ?_⟩
        · intro b q1 q2
          have e : b ≠ i := by omega
          rw [pk_un e]
          show cn_up hc i j b = 0 ∧ RT b = 0
          rw [cn_up_n e]; exact i7 b q1 q2
        · intro b hb z
          by_cases e : b = i
          · rw [e, pk_us] at z
            rcases z with z | z
            · omega
            · exact absurd z (by decide)
          · rw [pk_un e] at z ⊢
            apply i8 b hb
            rcases z with z | z
            · exact Or.inl (by omega)
            · exact Or.inr z
      obtain ⟨h', hc', oc', ob', TA', HX', HB', HY', HZ', RT', HI', bits', J, j1, j2, jx, jy⟩ := ih (i + 1) (h + 1) (cn_up hc i j) oc ob (cn_gb ra sz i (hc, oc, ob, TA, HX, HB, HY, HZ) (hc i - j) j TA) HX HB HY HZ (upd RT i 0) (upd HI i 1) (bits ||| ((1 : Int32) <<< (nI i &&& 31))) (by omega) J0
        (fun b hb => by
          have := hle b hb
          by_cases e : b = i
          · rw [e, cn_up_s]; rw [e] at this; omega
          · rw [cn_up_n e]; exact this)
        (fun b hb => by
          by_cases e : b = i
          · rw [e, pk_us, pk_us]; exact ⟨Or.inr rfl, fun _ => rfl⟩
          · rw [pk_un e, pk_un e]; exact hH b (by omega)) (cn_c1_b (by omega) hB)
      refine ⟨h', hc', oc', ob', TA', HX', HB', HY', HZ', RT', HI', bits', J, j1, j2, ?_, ?_⟩
      · intro wn wr wx wc wb bl ba bC bB post g
        have G := jx wn wr wx wc wb bl ba bC bB post g
        refine br_f hge ⟨hvi, ?_⟩
        refine cx_ticksE (z := sz i) rfl (by rw [ci]; rfl) (by omega) n6 n7 g4 ⟨hc i + 1, cx_fng15 (oc := oc) (ob := ob) i1 (by omega) (by omega) hh htk (fun a ha => ⟨H2 i a (by omega) ha, H3 i a (by omega) ha, (hbk a ha).1, (hbk a ha).2⟩) (hc i) 0 (by omega) (fun hn => absurd (hf.symm.trans hn) (by simp)) (fun j' hj' => ?_)⟩
        have ej : j' = j := Option.some.inj (hj'.symm.trans hf)
        rw [ej]
        refine ⟨hvi, br_f (by rw [ci, cn_n_at]; exact nI_ge hj (by omega)) ⟨hvi, nm_r (e' := upd HI i 1) (by rw [ci, cx_b1]) ⟨hvi, br_f (by rw [ci, pk_us]; decide) ⟨hc i - j + 1, cx_lose i2 i5 i3 hib g4 (hc i - j) j TA (by omega) (nm_r (nI_1 h) (nm_r (nI_1 i) G))⟩⟩⟩⟩
      · intro tr tb no ti ne be bA bO bE post g
        have G := jy tr tb no ti ne be bA bO bE post g
        refine br_f hge ⟨hc i + 1, cy_hit2 (oc := oc) (ob := ob) i1 (by omega) (by omega) n6 n7 g4 hh (fun a ha => ⟨H4 i a (by omega) ha, H5 i a (by omega) ha, (hbk a ha).1, (hbk a ha).2⟩) (hc i) 0 (by omega) (fun hn => absurd (hf.symm.trans hn) (by simp)) (fun j' hj' => ?_)⟩
        have ej : j' = j := Option.some.inj (hj'.symm.trans hf)
        rw [ej]
        exact br_f (nI_pos (by omega)) ⟨hvi, nm_r (e' := cn_n (cn_up hc i j)) (by rw [ci, cn_n_up]) (nm_e (nm_r (nI_1 h) (nm_r (nI_1 i) G)))⟩
theorem cn_c2 {HI : Nat → Int32} {bits hn : Int32} (hB : ∀ j, j < 10 → (bt bits j = true ↔ j < bc ∧ HI j = 1)) : ∀ (m i : Nat) (hc : Nat → Nat) (oc ob : Nat → Nat → Nat) (TA HX HB HY HZ RT SK : Nat → Int32), i + m = bc →
    cn_In now cc bc nc fr tt st en ra de so ta sz CA RT SK (hc, oc, ob, TA, HX, HB, HY, HZ) (fun b => HI b = 0 ∨ b < i) → (∀ b, i ≤ b → b < bc → (HI b = 0 ∨ HI b = 1) ∧ (HI b = 1 → RT b = 0)) →
    ∃ (hc' : Nat → Nat) (oc' ob' : Nat → Nat → Nat) (TA' HX' HB' HY' HZ' RT' SK' : Nat → Int32), cn_In now cc bc nc fr tt st en ra de so ta sz CA RT' SK' (hc', oc', ob', TA', HX', HB', HY', HZ') (fun _ => True) ∧
      (∀ (wn wr wx wc wb : cn_A) (bl ba : Int32) (bC bB : cn_A), ∃ (wn' wr' wx' wc' wb' : cn_A) (bl' ba' : Int32) (bC' bB' : cn_A), ∀ (post : Int32 → SX → Prop),
        post hn ((nI now), (nI cc), (nI bc), bl', ba', (cn_n fr), (cn_n tt), (cn_n st), (cn_n en), (cn_n ra), (cn_n de), CA, TA', (cn_n so), (cn_n ta), (cn_n sz), li, RT', HI, (cn_n hc'), HX', HB', wn', wr', wx', wc', wb', bC', bB') → wX_cancel_95 post hn (m + 1) (nI i) (nI now) (nI cc) (nI bc) bl ba (cn_n fr) (cn_n tt) (cn_n st) (cn_n en) (cn_n ra) (cn_n de) CA TA (cn_n so) (cn_n ta) (cn_n sz) li RT HI (cn_n hc) HX HB wn wr wx wc wb bC bB) ∧
      (∀ (tr tb no ti ne : cn_A) (be bA : Int32) (bO bE : cn_A), ∃ (tr' tb' no' ti' ne' : cn_A) (be' bA' : Int32) (bO' bE' : cn_A), ∀ (post : Int32 → SY → Prop),
        post hn ((nI now), (nI cc), (nI bc), be', bA', (cn_n fr), (cn_n tt), (cn_n st), (cn_n en), (cn_n ra), (cn_n de), CA, (cn_n so), (cn_n ta), (cn_n sz), li, SK', (cn_n hc'), HY', HZ', tr', tb', no', ti', ne', bO', bE') → wY_cancel_88 post bits hn (m + 1) (nI i) (nI now) (nI cc) (nI bc) be bA (cn_n fr) (cn_n tt) (cn_n st) (cn_n en) (cn_n ra) (cn_n de) CA (cn_n so) (cn_n ta) (cn_n sz) li SK (cn_n hc) HY HZ tr tb no ti ne bO bE) := by
  intro m
  induction m with
  | zero =>
    intro i hc oc ob TA HX HB HY HZ RT SK hi I hH
    have hbc := I.2.2.1
    obtain ⟨hc', oc', ob', TA', HX', HB', HY', HZ', RT', SK', J, jx, jy⟩ := cn_retryXY (li := li) bc 0 hc oc ob TA HX HB HY HZ RT SK (by omega) (cn_In_Q I (fun b hb _ => Or.inr (by omega)))
    refine ⟨hc', oc', ob', TA', HX', HB', HY', HZ', RT', SK', J, ?_, ?_⟩
    · intro wn wr wx wc wb bl ba bC bB
      obtain ⟨wn', wr', wx', wc', wb', bl', ba', bC', bB', f⟩ := jx HI wn wr wx wc wb bl ba bC bB
      exact ⟨wn', wr', wx', wc', wb', bl', ba', bC', bB', fun post h => br_t (nI_le (by omega) (by omega)) ⟨bc + 1, f _ h⟩⟩
    · intro tr tb no ti ne be bA bO bE
      obtain ⟨tr', tb', no', ti', ne', be', bA', bO', bE', f⟩ := jy tr tb no ti ne be bA bO bE
      exact ⟨tr', tb', no', ti', ne', be', bA', bO', bE', fun post h => br_t (nI_le (by omega) (by omega)) ⟨bc + 1, f _ h⟩⟩
  | succ m ih =>
    intro i hc oc ob TA HX HB HY HZ RT SK hi I hH
    have hbc := I.2.2.1
    have hvi : vp_in (nI i) 10 := vp_in_nI (by omega) (by omega)
    have ci : (nI i).toNatClampNeg = i := nI_clamp (by omega)
    have hge : ¬ nI bc ≤ nI i := nI_ge (by omega) (by omega)
    obtain ⟨hz, hR⟩ := hH i (by omega) (by omega)
    have hbit := cn_bit1 bits (n := i) (by omega)
    rw [hB i (by omega)] at hbit
    rcases hz with hz | hz
    · have nb : ¬ ((bits >>> (nI i &&& 31)) &&& 1) = 1 := fun y => by
        have := (hbit.mp y).2
        rw [hz] at this
        exact absurd this (by decide)
      obtain ⟨hc', oc', ob', TA', HX', HB', HY', HZ', RT', SK', J, jx, jy⟩ := ih (i + 1) hc oc ob TA HX HB HY HZ RT SK (by omega)
        (cn_In_Q I (fun b _ y => by
          by_cases e : b = i
          · exact Or.inl (by rw [e]; exact hz)
          · rcases y with y | y
            · exact Or.inl y
            · exact Or.inr (by omega))) (fun b q1 q2 => hH b (by omega) q2)
      refine ⟨hc', oc', ob', TA', HX', HB', HY', HZ', RT', SK', J, ?_, ?_⟩
      · intro wn wr wx wc wb bl ba bC bB
        obtain ⟨wn', wr', wx', wc', wb', bl', ba', bC', bB', f⟩ := jx wn wr wx wc wb bl ba bC bB
        exact ⟨wn', wr', wx', wc', wb', bl', ba', bC', bB', fun post h => br_f hge ⟨hvi, br_t (by rw [ci, hz]) (nm_r (nI_1 i) (f post h))⟩⟩
      · intro tr tb no ti ne be bA bO bE
        obtain ⟨tr', tb', no', ti', ne', be', bA', bO', bE', f⟩ := jy tr tb no ti ne be bA bO bE
        exact ⟨tr', tb', no', ti', ne', be', bA', bO', bE', fun post h => br_f hge (br_f nb (nm_r (nI_1 i) (f post h)))⟩
    · have yb : ((bits >>> (nI i &&& 31)) &&& 1) = 1 := hbit.mpr ⟨by omega, hz⟩
      obtain ⟨hc1, oc1, ob1, TA1, HX1, HB1, HY1, HZ1, RT1, SK1, J1, r1, x1, y1⟩ := cn_planXY (li := li) I (b := i) (by omega) (hR hz)
      obtain ⟨hc', oc', ob', TA', HX', HB', HY', HZ', RT', SK', J, jx, jy⟩ := ih (i + 1) hc1 oc1 ob1 TA1 HX1 HB1 HY1 HZ1 RT1 SK1 (by omega)
        (cn_In_Q J1 (fun b _ y => by
          rcases y with y | y
          · exact Or.inl (Or.inl y)
          · by_cases e : b = i
            · exact Or.inr e
            · exact Or.inl (Or.inr (by omega)))) (fun b q1 q2 => by rw [r1 b (by omega)]; exact hH b (by omega) q2)
      refine ⟨hc', oc', ob', TA', HX', HB', HY', HZ', RT', SK', J, ?_, ?_⟩
      · intro wn wr wx wc wb bl ba bC bB
        obtain ⟨wn1, wr1, wx1, wc1, wb1, bl1, ba1, bC1, bB1, f1⟩ := x1 HI wn wr wx wc wb bl ba bC bB
        obtain ⟨wn', wr', wx', wc', wb', bl', ba', bC', bB', f⟩ := jx wn1 wr1 wx1 wc1 wb1 bl1 ba1 bC1 bB1
        exact ⟨wn', wr', wx', wc', wb', bl', ba', bC', bB', fun post h => br_f hge ⟨hvi, br_f (by rw [ci, hz]; decide) (f1 _ (nm_r (nI_1 i) (f post h)))⟩⟩
      · intro tr tb no ti ne be bA bO bE
        obtain ⟨tr1, tb1, no1, ti1, ne1, be1, bA1, bO1, bE1, f1⟩ := y1 tr tb no ti ne be bA bO bE
        obtain ⟨tr', tb', no', ti', ne', be', bA', bO', bE', f⟩ := jy tr1 tb1 no1 ti1 ne1 be1 bA1 bO1 bE1
        exact ⟨tr', tb', no', ti', ne', be', bA', bO', bE', fun post h => br_f hge (br_t yb (f1 _ (nm_r (nI_1 i) (f post h))))⟩
end
