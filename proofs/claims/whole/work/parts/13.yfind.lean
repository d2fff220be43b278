section
variable {now cc bc : Nat} {be bA : Int32} {fr tt st en ra de so ta sz hc : Nat → Nat} {oc ob : Nat → Nat → Nat} {CA TA li SK HX HB HY HZ tr tb no ti ne bO bE : Nat → Int32}
theorem cy_ticksE {post : Int32 → Prop} {k z : Nat} {p0 p1 : Int32} (e0 : p0 = nI k) (e1 : p1 = nI z) (hk : k < 10) (h1 : 1 ≤ ra k) (h2 : ra k ≤ 9) (h3 : z ≤ 30) (h : post (nI (cn_tk ra k z))) : wpY_ticks post ((nI now), (nI cc), (nI bc), be, bA, (cn_n fr), (cn_n tt), (cn_n st), (cn_n en), (cn_n ra), (cn_n de), CA, (cn_n so), (cn_n ta), (cn_n sz), li, SK, (cn_n hc), HY, HZ, tr, tb, no, ti, ne, bO, bE) p0 p1 := by
  rw [e0, e1]; exact cy_ticks hk h1 h2 h3 h
theorem cy_comesE {post : Int32 → Prop} {k z t : Nat} {p0 p1 p2 : Int32} (e0 : p0 = nI k) (e1 : p1 = nI z) (e2 : p2 = nI t) (hk : k < 10) (h1 : 1 ≤ ra k) (h2 : ra k ≤ 9) (h3 : z ≤ 30) (h : post (nI (t + cn_tk ra k z + de k))) : wpY_comesIn post ((nI now), (nI cc), (nI bc), be, bA, (cn_n fr), (cn_n tt), (cn_n st), (cn_n en), (cn_n ra), (cn_n de), CA, (cn_n so), (cn_n ta), (cn_n sz), li, SK, (cn_n hc), HY, HZ, tr, tb, no, ti, ne, bO, bE) p0 p1 p2 := by
  rw [e0, e1, e2]; exact cy_comes hk h1 h2 h3 h
/-- a booking meets the ticks from x to e of contact k -/
def cn_OV (ra sz : Nat → Nat) (oc ob : Nat → Nat → Nat) (k x e b i : Nat) : Prop := oc b i = k ∧ ob b i < e ∧ x < ob b i + cn_tk ra k (sz b)
theorem cy_fr19 {post : Int32 → Prop} {J3 : Int32 → Prop} {k x e b : Nat} (hb : b < 10) (hk : k < 10) (h1 : 1 ≤ ra k) (h2 : ra k ≤ 9) (h3 : sz b ≤ 30) (hx : x ≤ 200) (he : e ≤ 200) (hh : hc b ≤ 60)
    (hY : ∀ i, i < hc b → HY (64 * b + i) = nI (oc b i) ∧ HZ (64 * b + i) = nI (ob b i) ∧ oc b i < 10 ∧ ob b i ≤ 200)
    (hJ : (∀ i, i < hc b → ¬ cn_OV ra sz oc ob k x e b i) → J3 (nI (b + 1))) (h0 : ∀ i, i < hc b → cn_OV ra sz oc ob k x e b i → post 0) :
    ∀ (m i : Nat), i + m = hc b → (∀ j, j < i → ¬ cn_OV ra sz oc ob k x e b j) → wY_isFree_19 post J3 (nI k) (nI x) (nI e) (nI b) (nI now) (nI cc) (nI bc) be bA (cn_n fr) (cn_n tt) (cn_n st) (cn_n en) (cn_n ra) (cn_n de) CA (cn_n so) (cn_n ta) (cn_n sz) li SK (cn_n hc) HY HZ tr tb no ti ne bO bE (m + 1) (nI (64 * b + i)) := by
  have hvb : vp_in (nI b) 10 := vp_in_nI hb (by omega)
  have cb : (nI b).toNatClampNeg = b := nI_clamp (by omega)
  have hp2 := cn_tk_le (ra := ra) (k := k) (s := sz b) h2 h3
  intro m
  induction m with
  | zero =>
    intro i hi hno
    refine ⟨hvb, br_t ?_ (nm_r (nI_1 b) (hJ (fun j hj => hno j (by omega))))⟩
    rw [cb, cn_n_at, cy_ix]
    exact nI_le (by omega) (by omega)
  | succ m ih =>
    intro i hi hno
    obtain ⟨y1, y2, y3, y4⟩ := hY i (by omega)
    have hvi : vp_in (nI (64 * b + i)) 640 := vp_in_nI (by omega) (by omega)
    have ci : (nI (64 * b + i)).toNatClampNeg = 64 * b + i := nI_clamp (by omega)
    have hn : ¬ (64 * nI b + cn_n hc (nI b).toNatClampNeg ≤ nI (64 * b + i)) := by
      rw [cb, cn_n_at, cy_ix]
      exact nI_ge (by omega) (by omega)
    have next : ¬ cn_OV ra sz oc ob k x e b i → wY_isFree_19 post J3 (nI k) (nI x) (nI e) (nI b) (nI now) (nI cc) (nI bc) be bA (cn_n fr) (cn_n tt) (cn_n st) (cn_n en) (cn_n ra) (cn_n de) CA (cn_n so) (cn_n ta) (cn_n sz) li SK (cn_n hc) HY HZ tr tb no ti ne bO bE (m + 1) (nI (64 * b + i + 1)) := by
      intro hv
      apply ih (i + 1) (by omega)
      intro j hj
      by_cases ej : j = i
      · rw [ej]; exact hv
      · exact hno j (by omega)
    by_cases c1 : oc b i = k
    · have q1 : HY (nI (64 * b + i)).toNatClampNeg = nI k := by rw [ci, y1, c1]
      by_cases c2 : e ≤ ob b i
      · refine ⟨hvb, br_f hn ⟨hvi, br_t q1 ⟨hvi, br_t ?_ (nm_r (nI_1 _) (next (fun z => by have := z.2.1; omega)))⟩⟩⟩
        rw [ci, y2]; exact nI_le c2 (by omega)
      · refine ⟨hvb, br_f hn ⟨hvi, br_t q1 ⟨hvi, br_f (by rw [ci, y2]; exact nI_ge (by omega) (by omega)) ⟨hvi, hvb, cy_ticksE (z := sz b) rfl (by rw [cb]; rfl) hk h1 h2 h3 ?_⟩⟩⟩⟩
        rw [ci, y2, nI_add]
        by_cases c3 : ob b i + cn_tk ra k (sz b) ≤ x
        · exact br_t (nI_le c3 (by omega)) (nm_r (nI_1 _) (next (fun z => by have := z.2.2; omega)))
        · exact br_f (nI_ge (by omega) (by omega)) (h0 i (by omega) ⟨c1, by omega, by omega⟩)
    · refine ⟨hvb, br_f hn ⟨hvi, br_f ?_ (nm_r (nI_1 _) (next (fun z => c1 z.1)))⟩⟩
      rw [ci, y1, nI_eq (by omega) (by omega)]; exact c1
theorem cy_fr3 {post : Int32 → Prop} {k x e : Nat} (hbc : bc ≤ 10) (hk : k < 10) (h1 : 1 ≤ ra k) (h2 : ra k ≤ 9) (h3 : ∀ b, b < bc → sz b ≤ 30) (hx : x ≤ 200) (he : e ≤ 200) (hh : ∀ b, b < bc → hc b ≤ 60)
    (hY : ∀ b i, b < bc → i < hc b → HY (64 * b + i) = nI (oc b i) ∧ HZ (64 * b + i) = nI (ob b i) ∧ oc b i < 10 ∧ ob b i ≤ 200)
    (hp : (∀ b i, b < bc → i < hc b → ¬ cn_OV ra sz oc ob k x e b i) → post 1) (h0 : ∀ b i, b < bc → i < hc b → cn_OV ra sz oc ob k x e b i → post 0) :
    ∀ (m b : Nat), b + m = bc → (∀ a i, a < b → i < hc a → ¬ cn_OV ra sz oc ob k x e a i) → wY_isFree_3 post (nI k) (nI x) (nI e) (nI now) (nI cc) (nI bc) be bA (cn_n fr) (cn_n tt) (cn_n st) (cn_n en) (cn_n ra) (cn_n de) CA (cn_n so) (cn_n ta) (cn_n sz) li SK (cn_n hc) HY HZ tr tb no ti ne bO bE (m + 1) (nI b) := by
  intro m
  induction m with
  | zero =>
    intro b hb hno
    exact br_t (nI_le (by omega) (by omega)) (hp (fun a i ha hi => hno a i (by omega) hi))
  | succ m ih =>
    intro b hb hno
    refine br_f (nI_ge (by omega) (by omega)) (nm_r (cy_i0 b) ⟨hc b + 1, cy_fr19 (b := b) (oc := oc) (ob := ob) (by omega) hk h1 h2 (h3 b (by omega)) hx he (hh b (by omega)) (fun i hi => hY b i (by omega) hi) ?_ (fun i hi => h0 b i (by omega) hi) (hc b) 0 (by omega) (fun j hj => by omega)⟩)
    intro hall
    apply ih (b + 1) (by omega)
    intro a i ha hi
    by_cases ea : a = b
    · rw [ea] at hi ⊢; exact hall i hi
    · exact hno a i (by omega) hi
theorem cy_cmp {h n x : Nat} (h1 : h < 2 ^ 30) (h2 : n < 2 ^ 30) (h3 : x < 2 ^ 30) : nI h - nI n < nI x ↔ h < n + x := by
  rw [Int32.lt_iff_toInt_lt, pk_sub_toInt h1 h2, nI_toInt (by omega)]
  omega
theorem cy_early {post : Int32 → Prop} {k need : Nat} (H : cn_Iv cc bc fr tt st en ra so sz (hc, oc, ob, TA, HX, HB, HY, HZ)) (hbc : bc ≤ 10) (hcc : cc ≤ 10) (hob : ∀ b i, b < bc → i < hc b → ob b i ≤ 200) (hsz : ∀ b, b < bc → 1 ≤ sz b ∧ sz b ≤ 30) (hk : k < 10) (h1 : 1 ≤ ra k) (h2 : ra k ≤ 9) (hen : en k ≤ 100) (hn1 : 1 ≤ need) (hn : need ≤ 100) :
    ∀ (m x : Nat), x ≤ 200000 → m = en k + 1 - need - x → (cn_sr (cn_fr (cn_T TA k) need) m x = none → post (-1)) → (∀ b, cn_sr (cn_fr (cn_T TA k) need) m x = some b → post (nI b)) →
    wY_earliest_34 post (nI k) (nI need) (nI now) (nI cc) (nI bc) be bA (cn_n fr) (cn_n tt) (cn_n st) (cn_n en) (cn_n ra) (cn_n de) CA (cn_n so) (cn_n ta) (cn_n sz) li SK (cn_n hc) HY HZ tr tb no ti ne bO bE (m + 1) (nI x) := by
  have hvk : vp_in (nI k) 10 := vp_in_nI hk (by omega)
  have ck : (nI k).toNatClampNeg = k := nI_clamp (by omega)
  intro m
  induction m with
  | zero =>
    intro x hx hm hp0 _
    refine ⟨hvk, br_t ?_ (hp0 rfl)⟩
    rw [ck, cn_n_at, cy_cmp (by omega) (by omega) (by omega)]
    omega
  | succ m ih =>
    intro x hx hm hp0 hp1
    have hc1 : ¬ (cn_n en (nI k).toNatClampNeg - nI need < nI x) := by
      rw [ck, cn_n_at, cy_cmp (by omega) (by omega) (by omega)]
      omega
    refine ⟨hvk, br_f hc1 ?_⟩
    rw [nI_add]
    have hfr := cn_isFree H.1 (fun b hb => (hsz b hb).1) (k := k) (x := x) (need := need) hk h1 hn1 (by omega)
    refine ⟨bc + 1, cy_fr3 (oc := oc) (ob := ob) hbc hk h1 h2 (fun b hb => (hsz b hb).2) (by omega) (by omega) (fun b hb => H.2.2.2.2.2 b (by omega))
      (fun b i hb hi => ⟨H.2.2.2.1 b i (by omega) hi, H.2.2.2.2.1 b i (by omega) hi, by have q : oc b i < cc := (H.1.1 b i hb hi).1; omega, hob b i hb hi⟩) ?_ ?_ bc 0 (by omega) (fun a i ha => by omega)⟩
    · intro hall
      have hF : cn_fr (cn_T TA k) need x = true := (cn_fr_iff ..).mpr (hfr.mpr hall)
      refine br_f (by decide) (hp1 x ?_)
      rw [cn_sr, if_pos hF]
    · intro b i hb hi hov
      have hF : ¬ cn_fr (cn_T TA k) need x = true := fun z => hfr.mp ((cn_fr_iff ..).mp z) b i hb hi hov
      refine br_t rfl (nm_r (nI_1 x) (ih (x + 1) (by omega) (by omega) ?_ ?_))
      · intro z; apply hp0; rw [cn_sr, if_neg hF]; exact z
      · intro b' z; apply hp1; rw [cn_sr, if_neg hF]; exact z
theorem cy_earliest {post : Int32 → Prop} {k z time : Nat} (H : cn_Iv cc bc fr tt st en ra so sz (hc, oc, ob, TA, HX, HB, HY, HZ)) (hbc : bc ≤ 10) (hcc : cc ≤ 10) (hob : ∀ b i, b < bc → i < hc b → ob b i ≤ 200) (hsz : ∀ b, b < bc → 1 ≤ sz b ∧ sz b ≤ 30) (hk : k < 10) (h1 : 1 ≤ ra k) (h2 : ra k ≤ 9) (hse : st k < en k) (hen : en k ≤ 100) (hz1 : 1 ≤ z) (hz2 : z ≤ 30) (ht : time ≤ 200000)
    (hp0 : cn_eb (cn_T TA k) (cn_mx time (st k)) (en k) (cn_tk ra k z) = none → post (-1)) (hp1 : ∀ b, cn_eb (cn_T TA k) (cn_mx time (st k)) (en k) (cn_tk ra k z) = some b → post (nI b)) {tm : Int32} (etm : tm = nI time) : wpY_earliest post ((nI now), (nI cc), (nI bc), be, bA, (cn_n fr), (cn_n tt), (cn_n st), (cn_n en), (cn_n ra), (cn_n de), CA, (cn_n so), (cn_n ta), (cn_n sz), li, SK, (cn_n hc), HY, HZ, tr, tb, no, ti, ne, bO, bE) (nI k) (nI z) tm := by
  rw [etm]
  have hvk : vp_in (nI k) 10 := vp_in_nI hk (by omega)
  have ck : (nI k).toNatClampNeg = k := nI_clamp (by omega)
  have hp := cn_tk_pos (ra := ra) (k := k) (s := z) h1 hz1
  have hp2 := cn_tk_le (ra := ra) (k := k) (s := z) h2 hz2
  have hL := cn_mx_le (a := time) (b := st k) (n := 200000) (by omega) (by omega)
  have W := cy_early (now := now) (be := be) (bA := bA) (de := de) (ta := ta) (CA := CA) (li := li) (SK := SK) (tr := tr) (tb := tb) (no := no) (ti := ti) (ne := ne) (bO := bO) (bE := bE) H hbc hcc hob hsz hk h1 h2 hen hp (by omega) (en k + 1 - cn_tk ra k z - cn_mx time (st k)) (cn_mx time (st k)) (by omega) rfl hp0 hp1
  unfold wpY_earliest
  dsimp only
  apply cy_ticks hk h1 h2 hz2
  by_cases h : time ≤ st k
  · have e : cn_mx time (st k) = st k := if_neg (by omega)
    rw [e] at W
    refine ⟨hvk, br_t ?_ ⟨hvk, nm_r (show cn_n st (nI k).toNatClampNeg = nI (st k) by rw [ck]; rfl) ⟨_, W⟩⟩⟩
    rw [ck]
    exact nI_le h (by omega)
  · have e : cn_mx time (st k) = time := if_pos (by omega)
    rw [e] at W
    refine ⟨hvk, br_f ?_ ⟨_, W⟩⟩
    rw [ck]
    show ¬ nI time ≤ nI (st k)
    exact nI_ge (by omega) (by omega)
theorem cy_tr_0 {post : Int32 → Prop} {k d : Nat} (hd : d ≤ 5) (h : post 0) : ∀ (m i : Nat), i + m = d → (∀ j, i ≤ j → j < d → tr j ≠ nI k) → wY_isTried_2 post (nI k) (nI d) (nI now) (nI cc) (nI bc) be bA (cn_n fr) (cn_n tt) (cn_n st) (cn_n en) (cn_n ra) (cn_n de) CA (cn_n so) (cn_n ta) (cn_n sz) li SK (cn_n hc) HY HZ tr tb no ti ne bO bE (m + 1) (nI i) := by
  intro m
  induction m with
  | zero =>
    intro i hi _
    exact br_t (nI_le (by omega) (by omega)) h
  | succ m ih =>
    intro i hi hw
    have ci : (nI i).toNatClampNeg = i := nI_clamp (by omega)
    refine br_f (nI_ge (by omega) (by omega)) ⟨vp_in_nI (by omega) (by omega), br_f ?_ (nm_r (nI_1 i) (ih (i + 1) (by omega) (fun j h1 h2 => hw j (by omega) h2)))⟩
    rw [ci]
    exact hw i (by omega) (by omega)
theorem cy_tr_1 {post : Int32 → Prop} {k d : Nat} (hd : d ≤ 5) (h : post 1) : ∀ (m i : Nat), i + m = d → (∃ j, i ≤ j ∧ j < d ∧ tr j = nI k) → wY_isTried_2 post (nI k) (nI d) (nI now) (nI cc) (nI bc) be bA (cn_n fr) (cn_n tt) (cn_n st) (cn_n en) (cn_n ra) (cn_n de) CA (cn_n so) (cn_n ta) (cn_n sz) li SK (cn_n hc) HY HZ tr tb no ti ne bO bE (m + 1) (nI i) := by
  intro m
  induction m with
  | zero =>
    rintro i hi ⟨j, h1, h2, _⟩
    omega
  | succ m ih =>
    rintro i hi ⟨j, h1, h2, h3⟩
    have ci : (nI i).toNatClampNeg = i := nI_clamp (by omega)
    by_cases e : tr i = nI k
    · refine br_f (nI_ge (by omega) (by omega)) ⟨vp_in_nI (by omega) (by omega), br_t ?_ h⟩
      rw [ci]; exact e
    · have hne : j ≠ i := fun z => e (z ▸ h3)
      refine br_f (nI_ge (by omega) (by omega)) ⟨vp_in_nI (by omega) (by omega), br_f ?_ (nm_r (nI_1 i) (ih (i + 1) (by omega) ⟨j, by omega, h2, h3⟩))⟩
      rw [ci]; exact e
theorem cy_kp {post : SY → Prop} {d : Nat} (hd : d ≤ 5) (h : post ((nI now), (nI cc), (nI bc), be, bA, (cn_n fr), (cn_n tt), (cn_n st), (cn_n en), (cn_n ra), (cn_n de), CA, (cn_n so), (cn_n ta), (cn_n sz), li, SK, (cn_n hc), HY, HZ, tr, tb, no, ti, ne, (cn_cp d tr bO), (cn_cp d tb bE))) : ∀ (m i : Nat), i + m = d → wY_keep_85 post (nI d) (nI now) (nI cc) (nI bc) be bA (m + 1) (nI i) (cn_n fr) (cn_n tt) (cn_n st) (cn_n en) (cn_n ra) (cn_n de) CA (cn_n so) (cn_n ta) (cn_n sz) li SK (cn_n hc) HY HZ tr tb no ti ne (cn_cp i tr bO) (cn_cp i tb bE) := by
  intro m
  induction m with
  | zero =>
    intro i hi
    have e : i = d := by omega
    rw [e]
    exact br_t (nI_le (Nat.le_refl _) (by omega)) h
  | succ m ih =>
    intro i hi
    have ci : (nI i).toNatClampNeg = i := nI_clamp (by omega)
    have hv : vp_in (nI i) 5 := vp_in_nI (by omega) (by omega)
    have hv6 : vp_in (nI i) 6 := vp_in_nI (by omega) (by omega)
    exact br_f (nI_ge (by omega) (by omega)) ⟨hv6, hv, nm_r (by rw [ci]; exact cn_cp_s i tr bO) ⟨hv6, hv, nm_r (by rw [ci]; exact cn_cp_s i tb bE) (nm_r (nI_1 i) (ih (i + 1) (by omega)))⟩⟩
theorem cy_keep_n {post : SY → Prop} {d node goal : Nat} (hd0 : 0 < d) (hd : d ≤ 5) (hn : no d = nI node) (hn6 : node < 6) (hg6 : goal < 6) (hg : node ≠ goal) (h : post ((nI now), (nI cc), (nI bc), be, bA, (cn_n fr), (cn_n tt), (cn_n st), (cn_n en), (cn_n ra), (cn_n de), CA, (cn_n so), (cn_n ta), (cn_n sz), li, SK, (cn_n hc), HY, HZ, tr, tb, no, ti, ne, bO, bE)) : wpY_keep post ((nI now), (nI cc), (nI bc), be, bA, (cn_n fr), (cn_n tt), (cn_n st), (cn_n en), (cn_n ra), (cn_n de), CA, (cn_n so), (cn_n ta), (cn_n sz), li, SK, (cn_n hc), HY, HZ, tr, tb, no, ti, ne, bO, bE) (nI d) (nI goal) := by
  have cd : (nI d).toNatClampNeg = d := nI_clamp (by omega)
  refine br_f (nI_ne0 hd0 (by omega)) ⟨vp_in_nI (by omega) (by omega), br_f ?_ h⟩
  rw [cd, hn, nI_eq (by omega) (by omega)]; exact hg
theorem cy_keep_t {post : SY → Prop} {d a goal : Nat} (hd0 : 0 < d) (hd : d ≤ 5) (hn : no d = nI goal) (ht : ti d = nI a) (hb : cn_bet be bA d a) (h : post ((nI now), (nI cc), (nI bc), (nI d), (nI a), (cn_n fr), (cn_n tt), (cn_n st), (cn_n en), (cn_n ra), (cn_n de), CA, (cn_n so), (cn_n ta), (cn_n sz), li, SK, (cn_n hc), HY, HZ, tr, tb, no, ti, ne, (cn_cp d tr bO), (cn_cp d tb bE))) : wpY_keep post ((nI now), (nI cc), (nI bc), be, bA, (cn_n fr), (cn_n tt), (cn_n st), (cn_n en), (cn_n ra), (cn_n de), CA, (cn_n so), (cn_n ta), (cn_n sz), li, SK, (cn_n hc), HY, HZ, tr, tb, no, ti, ne, bO, bE) (nI d) (nI goal) := by
  have cd : (nI d).toNatClampNeg = d := nI_clamp (by omega)
  have hv : vp_in (nI d) 7 := vp_in_nI (by omega) (by omega)
  have K : wY_keep_61 post (nI d) 1 (nI now) (nI cc) (nI bc) be bA (cn_n fr) (cn_n tt) (cn_n st) (cn_n en) (cn_n ra) (cn_n de) CA (cn_n so) (cn_n ta) (cn_n sz) li SK (cn_n hc) HY HZ tr tb no ti ne bO bE := by
    have H := cy_kp hd h d 0 (by omega)
    rw [cn_cp_0, cn_cp_0] at H
    exact br_f (by decide) ⟨hv, nm_r (by rw [cd]; exact ht) ⟨d + 1, H⟩⟩
  have q1 : no (nI d).toNatClampNeg = nI goal := by rw [cd]; exact hn
  have q2 : ti (nI d).toNatClampNeg = nI a := by rw [cd]; exact ht
  by_cases h1 : be = 0
  · exact br_f (nI_ne0 hd0 (by omega)) ⟨hv, br_t q1 (br_t h1 K)⟩
  · by_cases h2 : nI a < bA
    · exact br_f (nI_ne0 hd0 (by omega)) ⟨hv, br_t q1 (br_f h1 ⟨hv, br_t (by rw [q2]; exact h2) K⟩)⟩
    · rcases hb with z | z | ⟨z1, z2⟩
      · exact absurd z h1
      · exact absurd z h2
      · exact br_f (nI_ne0 hd0 (by omega)) ⟨hv, br_t q1 (br_f h1 ⟨hv, br_f (by rw [q2]; exact h2) ⟨hv, br_t (by rw [q2]; exact z1) (br_f (Int32.not_le.mpr z2) K)⟩⟩)⟩
theorem cy_keep_f {post : SY → Prop} {d a goal : Nat} (hd0 : 0 < d) (hd : d ≤ 5) (hn : no d = nI goal) (ht : ti d = nI a) (hb : ¬ cn_bet be bA d a) (h : post ((nI now), (nI cc), (nI bc), be, bA, (cn_n fr), (cn_n tt), (cn_n st), (cn_n en), (cn_n ra), (cn_n de), CA, (cn_n so), (cn_n ta), (cn_n sz), li, SK, (cn_n hc), HY, HZ, tr, tb, no, ti, ne, bO, bE)) : wpY_keep post ((nI now), (nI cc), (nI bc), be, bA, (cn_n fr), (cn_n tt), (cn_n st), (cn_n en), (cn_n ra), (cn_n de), CA, (cn_n so), (cn_n ta), (cn_n sz), li, SK, (cn_n hc), HY, HZ, tr, tb, no, ti, ne, bO, bE) (nI d) (nI goal) := by
  have cd : (nI d).toNatClampNeg = d := nI_clamp (by omega)
  have hv : vp_in (nI d) 7 := vp_in_nI (by omega) (by omega)
  have K : wY_keep_61 post (nI d) 0 (nI now) (nI cc) (nI bc) be bA (cn_n fr) (cn_n tt) (cn_n st) (cn_n en) (cn_n ra) (cn_n de) CA (cn_n so) (cn_n ta) (cn_n sz) li SK (cn_n hc) HY HZ tr tb no ti ne bO bE := br_t rfl h
  have q1 : no (nI d).toNatClampNeg = nI goal := by rw [cd]; exact hn
  have q2 : ti (nI d).toNatClampNeg = nI a := by rw [cd]; exact ht
  have h1 : ¬ be = 0 := fun z => hb (Or.inl z)
  have h2 : ¬ nI a < bA := fun z => hb (Or.inr (Or.inl z))
  by_cases h3 : nI a = bA
  · have h4 : be ≤ nI d := Int32.not_lt.mp fun z => hb (Or.inr (Or.inr ⟨h3, z⟩))
    exact br_f (nI_ne0 hd0 (by omega)) ⟨hv, br_t q1 (br_f h1 ⟨hv, br_f (by rw [q2]; exact h2) ⟨hv, br_t (by rw [q2]; exact h3) (br_t h4 K)⟩⟩)⟩
  · exact br_f (nI_ne0 hd0 (by omega)) ⟨hv, br_t q1 (br_f h1 ⟨hv, br_f (by rw [q2]; exact h2) ⟨hv, br_f (by rw [q2]; exact h3) K⟩⟩)⟩
end
section
variable (now cc bc : Nat) (fr tt st en ra de so ta sz hc : Nat → Nat) (CA li SK HY HZ : Nat → Int32) (goal z : Nat)
def cy_G (q : Int32 → SY → Prop) (dep : Int32) (tr tb no ti ne : cn_A) (be bA : Int32) (bO bE : cn_A) : Prop :=
  ∃ n, wY_findBest_29 q (nI goal) (nI z) n dep (nI now) (nI cc) (nI bc) be bA (cn_n fr) (cn_n tt) (cn_n st) (cn_n en) (cn_n ra) (cn_n de) CA (cn_n so) (cn_n ta) (cn_n sz) li SK (cn_n hc) HY HZ tr tb no ti ne bO bE
end
section
variable {now cc bc : Nat} {fr tt st en ra de so ta sz hc : Nat → Nat} {oc ob : Nat → Nat → Nat} {CA TA li SK HX HB HY HZ : Nat → Int32} {goal z : Nat}
theorem cy_rules (N : cn_Net cc fr tt st en ra de) (H : cn_Iv cc bc fr tt st en ra so sz (hc, oc, ob, TA, HX, HB, HY, HZ)) (hbc : bc ≤ 10) (hsz : ∀ b, b < bc → 1 ≤ sz b ∧ sz b ≤ 30) (hz1 : 1 ≤ z) (hz2 : z ≤ 30) (hg6 : goal < 6) :
    cn_YG cc fr tt (cn_ok CA) (cn_E (cn_T TA) st en (fun k => cn_tk ra k z)) (fun k => cn_tk ra k z + de k) goal (cy_G now cc bc fr tt st en ra de so ta sz hc CA li SK HY HZ goal z) := by
  have hob : ∀ b i, b < bc → i < hc b → ob b i ≤ 200 := by
    intro b i hb hi
    obtain ⟨g1, g2, g3, g4⟩ := H.1.1 b i hb hi
    have := (N.2 _ g1).2.2.2.2.1
    have g3' : ob b i + cn_tk ra (oc b i) (sz b) ≤ en (oc b i) := g3
    have g5 : en (oc b i) ≤ 100 := this
    omega
  obtain ⟨N1, N2⟩ := N
  refine ⟨?_, ?_, ?_, ?_, ?_⟩
  · rintro q d k tr tb no ti ne be bA bO bE hd hx hk hor ⟨n, g⟩
    have cd : (nI d).toNatClampNeg = d := nI_clamp (by omega)
    have hv : vp_in (nI d) 7 := vp_in_nI (by omega) (by omega)
    have hu : upd ne (nI d).toNatClampNeg (ne (nI d).toNatClampNeg + 1) = upd ne d (nI (k + 1)) := by rw [cd, hx, nI_1]
    by_cases h5 : d = 5
    · exact ⟨n + 1, br_f (nI_pos (by omega)) ⟨hv, nm_r (e' := nI k) (by rw [cd]; exact hx) ⟨hv, hv, nm_r hu (br_t (by rw [h5]; rfl) (nm_e g))⟩⟩⟩
    · have n5 : ¬ nI d = 5 := by
        show ¬ nI d = nI 5
        rw [nI_eq (by omega) (by omega)]; exact h5
      exact ⟨n + 1, br_f (nI_pos (by omega)) ⟨hv, nm_r (by rw [cd]; exact hx) ⟨hv, hv, nm_r hu (br_f n5 (br_f (nI_nlt (by omega) (by omega)) (nm_e g)))⟩⟩⟩
  · rintro q d k node tr tb no ti ne be bA bO bE hd hx hk hn hn6 hno ⟨n, g⟩
    obtain ⟨n1, n2, n3, n4, n5, n6, n7, n8⟩ := N2 k hk
    have cd : (nI d).toNatClampNeg = d := nI_clamp (by omega)
    have ck : (nI k).toNatClampNeg = k := nI_clamp (by omega)
    have hv : vp_in (nI d) 7 := vp_in_nI (by omega) (by omega)
    have hvk : vp_in (nI k) 10 := vp_in_nI (by omega) (by omega)
    have hu : upd ne (nI d).toNatClampNeg (ne (nI d).toNatClampNeg + 1) = upd ne d (nI (k + 1)) := by rw [cd, hx, nI_1]
    have nd5 : ¬ nI d = 5 := by
      show ¬ nI d = nI 5
      rw [nI_eq (by omega) (by omega)]; omega
    by_cases c1 : fr k = node
    · have q1 : cn_n fr (nI k).toNatClampNeg = no (nI d).toNatClampNeg := by rw [ck, cd, hn, cn_n_at, c1]
      by_cases c2 : CA k = 0
      · have q2 : CA (nI k).toNatClampNeg = 0 := by rw [ck]; exact c2
        have c3 : ∃ j, 0 ≤ j ∧ j < d ∧ tr j = nI k := by
          apply Classical.byContradiction
          intro hx3
          exact hno ⟨c1, cn_ok_t.mpr c2, fun i hi he => hx3 ⟨i, Nat.zero_le _, hi, he⟩⟩
        exact ⟨n + 1, br_f (nI_pos (by omega)) ⟨hv, nm_r (by rw [cd]; exact hx) ⟨hv, hv, nm_r hu (br_f nd5 (br_t (nI_lt hk (by omega)) ⟨hvk, hv, br_t q1 ⟨hvk, br_t q2 ⟨d + 1, cy_tr_1 (by omega) (br_f (by decide) g) d 0 (by omega) c3⟩⟩⟩))⟩⟩⟩
      · have q2 : ¬ CA (nI k).toNatClampNeg = 0 := by rw [ck]; exact c2
        exact ⟨n + 1, br_f (nI_pos (by omega)) ⟨hv, nm_r (by rw [cd]; exact hx) ⟨hv, hv, nm_r hu (br_f nd5 (br_t (nI_lt hk (by omega)) ⟨hvk, hv, br_t q1 ⟨hvk, br_f q2 g⟩⟩))⟩⟩⟩
    · have q1 : ¬ cn_n fr (nI k).toNatClampNeg = no (nI d).toNatClampNeg := by
        rw [ck, cd, hn, cn_n_at, nI_eq (by omega) (by omega)]; exact c1
      exact ⟨n + 1, br_f (nI_pos (by omega)) ⟨hv, nm_r (by rw [cd]; exact hx) ⟨hv, hv, nm_r hu (br_f nd5 (br_t (nI_lt hk (by omega)) ⟨hvk, hv, br_f q1 g⟩))⟩⟩⟩
  · rintro q d k node time tr tb no ti ne be bA bO bE hd hx hk hn hn6 hr ht hl hE ⟨n, g⟩
    obtain ⟨n1, n2, n3, n4, n5, n6, n7, n8⟩ := N2 k hk
    have cd : (nI d).toNatClampNeg = d := nI_clamp (by omega)
    have ck : (nI k).toNatClampNeg = k := nI_clamp (by omega)
    have hv : vp_in (nI d) 7 := vp_in_nI (by omega) (by omega)
    have hvk : vp_in (nI k) 10 := vp_in_nI (by omega) (by omega)
    have hu : upd ne (nI d).toNatClampNeg (ne (nI d).toNatClampNeg + 1) = upd ne d (nI (k + 1)) := by rw [cd, hx, nI_1]
    have nd5 : ¬ nI d = 5 := by
      show ¬ nI d = nI 5
      rw [nI_eq (by omega) (by omega)]; omega
    have q1 : cn_n fr (nI k).toNatClampNeg = no (nI d).toNatClampNeg := by rw [ck, cd, hn, cn_n_at, hl.1]
    have q2 : CA (nI k).toNatClampNeg = 0 := by rw [ck]; exact cn_ok_t.mp hl.2.1
    exact ⟨n + 1, br_f (nI_pos (by omega)) ⟨hv, nm_r (by rw [cd]; exact hx) ⟨hv, hv, nm_r hu (br_f nd5 (br_t (nI_lt hk (by omega)) ⟨hvk, hv, br_t q1 ⟨hvk, br_t q2 ⟨d + 1, cy_tr_0 (by omega) (br_t rfl ⟨hv,
      cy_earliest H hbc N1 hob hsz (by omega) n6 n7 n4 n5 hz1 hz2 ht (fun _ => br_t (by decide) g) (fun b hb => absurd (hE.symm.trans hb) (by simp)) (by rw [cd]; exact hr)⟩) d 0 (by omega) (fun j _ h2 => hl.2.2 j h2)⟩⟩⟩))⟩⟩⟩
  · rintro q d k node time b tr tb no ti ne be bA bO bE hd hx hk hn hn6 hr ht hl hE hor ⟨n, g⟩
    obtain ⟨n1, n2, n3, n4, n5, n6, n7, n8⟩ := N2 k hk
    have cd : (nI d).toNatClampNeg = d := nI_clamp (by omega)
    have cd1 : (nI (d + 1)).toNatClampNeg = d + 1 := nI_clamp (by omega)
    have ck : (nI k).toNatClampNeg = k := nI_clamp (by omega)
    have hv : vp_in (nI d) 7 := vp_in_nI (by omega) (by omega)
    have hv6 : vp_in (nI d) 6 := vp_in_nI (by omega) (by omega)
    have hv1 : vp_in (nI (d + 1)) 7 := vp_in_nI (by omega) (by omega)
    have hvk : vp_in (nI k) 10 := vp_in_nI (by omega) (by omega)
    have hu : upd ne (nI d).toNatClampNeg (ne (nI d).toNatClampNeg + 1) = upd ne d (nI (k + 1)) := by rw [cd, hx, nI_1]
    have nd5 : ¬ nI d = 5 := by
      show ¬ nI d = nI 5
      rw [nI_eq (by omega) (by omega)]; omega
    have q1 : cn_n fr (nI k).toNatClampNeg = no (nI d).toNatClampNeg := by rw [ck, cd, hn, cn_n_at, hl.1]
    have q2 : CA (nI k).toNatClampNeg = 0 := by rw [ck]; exact cn_ok_t.mp hl.2.1
    have hb100 := (cn_eb_some.mp hE).2.1
    refine ⟨n + 1, br_f (nI_pos (by omega)) ⟨hv, nm_r (by rw [cd]; exact hx) ⟨hv, hv, nm_r hu (br_f nd5 (br_t (nI_lt hk (by omega)) ⟨hvk, hv, br_t q1 ⟨hvk, br_t q2 ⟨d + 1, cy_tr_0 (by omega) (br_t rfl ⟨hv,
      cy_earliest H hbc N1 hob hsz (by omega) n6 n7 n4 n5 hz1 hz2 ht (fun h => absurd (h.symm.trans hE) (by simp)) (fun b' hb' => ?_) (by rw [cd]; exact hr)⟩) d 0 (by omega) (fun j _ h2 => hl.2.2 j h2)⟩⟩⟩))⟩⟩⟩
    have eb : b' = b := Option.some.inj (hb'.symm.trans hE)
    rw [eb]
    refine br_f (nI_pos (by omega)) ⟨hv6, nm_r (by rw [cd]) ⟨hv6, nm_r (by rw [cd]) (nm_r (nI_1 d) ⟨hvk, hv1, nm_r (by rw [cd1, ck, cn_n_at]) (cy_comes (by omega) n6 n7 hz2 ⟨hv1, nm_r (by rw [cd1, Nat.add_assoc]) ⟨hv1, nm_r (by rw [cd1]) ?_⟩⟩)⟩)⟩⟩
    by_cases hg : tt k = goal
    · exact cy_keep_f (a := b + (cn_tk ra k z + de k)) (by omega) (by omega) (by rw [pk_us, hg]) pk_us (hor.resolve_left (fun z => z hg)) g
    · exact cy_keep_n (node := tt k) (by omega) (by omega) pk_us n2 hg6 hg g
  · rintro q d k node time b tr tb no ti ne be bA bO bE hd hx hk hn hn6 hr ht hl hE hg hb ⟨n, g⟩
    obtain ⟨n1, n2, n3, n4, n5, n6, n7, n8⟩ := N2 k hk
    have cd : (nI d).toNatClampNeg = d := nI_clamp (by omega)
    have cd1 : (nI (d + 1)).toNatClampNeg = d + 1 := nI_clamp (by omega)
    have ck : (nI k).toNatClampNeg = k := nI_clamp (by omega)
    have hv : vp_in (nI d) 7 := vp_in_nI (by omega) (by omega)
    have hv6 : vp_in (nI d) 6 := vp_in_nI (by omega) (by omega)
    have hv1 : vp_in (nI (d + 1)) 7 := vp_in_nI (by omega) (by omega)
    have hvk : vp_in (nI k) 10 := vp_in_nI (by omega) (by omega)
    have hu : upd ne (nI d).toNatClampNeg (ne (nI d).toNatClampNeg + 1) = upd ne d (nI (k + 1)) := by rw [cd, hx, nI_1]
    have nd5 : ¬ nI d = 5 := by
      show ¬ nI d = nI 5
      rw [nI_eq (by omega) (by omega)]; omega
    have q1 : cn_n fr (nI k).toNatClampNeg = no (nI d).toNatClampNeg := by rw [ck, cd, hn, cn_n_at, hl.1]
    have q2 : CA (nI k).toNatClampNeg = 0 := by rw [ck]; exact cn_ok_t.mp hl.2.1
    have hb100 := (cn_eb_some.mp hE).2.1
    refine ⟨n + 1, br_f (nI_pos (by omega)) ⟨hv, nm_r (by rw [cd]; exact hx) ⟨hv, hv, nm_r hu (br_f nd5 (br_t (nI_lt hk (by omega)) ⟨hvk, hv, br_t q1 ⟨hvk, br_t q2 ⟨d + 1, cy_tr_0 (by omega) (br_t rfl ⟨hv,
      cy_earliest H hbc N1 hob hsz (by omega) n6 n7 n4 n5 hz1 hz2 ht (fun h => absurd (h.symm.trans hE) (by simp)) (fun b' hb' => ?_) (by rw [cd]; exact hr)⟩) d 0 (by omega) (fun j _ h2 => hl.2.2 j h2)⟩⟩⟩))⟩⟩⟩
    have eb : b' = b := Option.some.inj (hb'.symm.trans hE)
    rw [eb]
    refine br_f (nI_pos (by omega)) ⟨hv6, nm_r (by rw [cd]) ⟨hv6, nm_r (by rw [cd]) (nm_r (nI_1 d) ⟨hvk, hv1, nm_r (by rw [cd1, ck, cn_n_at]) (cy_comes (by omega) n6 n7 hz2 ⟨hv1, nm_r (by rw [cd1, Nat.add_assoc]) ⟨hv1, nm_r (by rw [cd1]) ?_⟩⟩)⟩)⟩⟩
    exact cy_keep_t (a := b + (cn_tk ra k z + de k)) (by omega) (by omega) (by rw [pk_us, hg]) pk_us hb g
end
