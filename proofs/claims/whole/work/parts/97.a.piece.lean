/-! ===== pieces looked for: the class ===== deps: 96.readr2 -/
noncomputable def zoB (p : Prop) : Bool := @decide p (Classical.propDecidable p)
theorem zoB_t {p : Prop} : zoB p = true ↔ p := by unfold zoB; exact @decide_eq_true_iff p (Classical.propDecidable p)
theorem zflt (P : Nat → Prop) {a : Nat} (h : P a) : [a].filter (fun x => zoB (P x)) = [a] := List.filter_cons_of_pos (p := fun x => zoB (P x)) (l := []) (zoB_t.mpr h)
theorem zflf (P : Nat → Prop) {a : Nat} (h : ¬ P a) : [a].filter (fun x => zoB (P x)) = [] := List.filter_cons_of_neg (p := fun x => zoB (P x)) (l := []) (fun hh => h (zoB_t.mp hh))
noncomputable def zfil (P : Nat → Prop) (N : Nat) : List Nat := (List.range N).filter (fun x => zoB (P x))
theorem zfil_t {P : Nat → Prop} {N : Nat} (h : P N) : zfil P (N + 1) = zfil P N ++ [N] := by
  unfold zfil
  rw [List.range_succ, List.filter_append, zflt P h]
theorem zfil_f {P : Nat → Prop} {N : Nat} (h : ¬ P N) : zfil P (N + 1) = zfil P N := by
  unfold zfil
  rw [List.range_succ, List.filter_append, zflf P h, List.append_nil]
theorem zfil_0 (P : Nat → Prop) : zfil P 0 = [] := rfl
theorem zfil_len (P : Nat → Prop) (N : Nat) : (zfil P N).length = zsum N (fun x => zb (P x)) := by
  induction N with
  | zero => rfl
  | succ N ih =>
    rw [zsum_s]
    by_cases h : P N
    · rw [zfil_t h, zb_t h, List.length_append, ih]; rfl
    · rw [zfil_f h, zb_f h, ih]; rfl
theorem zfil_le (P : Nat → Prop) (N : Nat) : (zfil P N).length ≤ N := by
  rw [zfil_len]
  exact zsum_le1 (fun _ _ => zb_le _)
theorem zfil_mem {P : Nat → Prop} {N x : Nat} : x ∈ zfil P N ↔ x < N ∧ P x := by
  unfold zfil
  rw [List.mem_filter, List.mem_range, zoB_t]
theorem zfil_ext {P : Nat → Prop} {N M : Nat} (hNM : N ≤ M) (h : ∀ x, N ≤ x → x < M → ¬ P x) : zfil P M = zfil P N := by
  obtain ⟨d, rfl⟩ := Nat.exists_eq_add_of_le hNM
  clear hNM
  induction d with
  | zero => rfl
  | succ d ih =>
    rw [← Nat.add_assoc, zfil_f (h _ (Nat.le_add_right _ _) (by omega))]
    exact ih (fun x h1 h2 => h x h1 (by omega))
theorem zfil_fil {P Q R : Nat → Prop} {N : Nat} (h : ∀ x, x < N → (R x ↔ P x ∧ Q x)) : (zfil P N).filter (fun x => zoB (Q x)) = zfil R N := by
  unfold zfil
  rw [List.filter_filter]
  refine List.filter_congr (fun x hx => ?_)
  rw [List.mem_range] at hx
  rw [Bool.eq_iff_iff, Bool.and_eq_true, zoB_t, zoB_t, zoB_t, h x hx]
  exact and_comm
/-- a list in a row of memory -/
def zArr (C : ZMem) (q : Nat) (l : List Nat) : Prop := ∀ i, i < l.length → C.1 q i = zI (l.getD i 0)
theorem zgetD_l {l m : List Nat} {i : Nat} (h : i < l.length) : (l ++ m).getD i 0 = l.getD i 0 := by
  rw [List.getD_eq_getElem?_getD, List.getD_eq_getElem?_getD, List.getElem?_append_left h]
theorem zgetD_e (l : List Nat) (v : Nat) : (l ++ [v]).getD l.length 0 = v := by simp
theorem zgetD_m {l : List Nat} {i : Nat} (h : i < l.length) : l.getD i 0 ∈ l := by
  rw [List.getD_eq_getElem?_getD, List.getElem?_eq_getElem h]
  exact List.getElem_mem h
theorem zArr_snoc {C C' : ZMem} {q v : Nat} {l : List Nat} (h : zArr C q l) (h1 : C'.1 q l.length = zI v) (h2 : ∀ i, i < l.length → C'.1 q i = C.1 q i) : zArr C' q (l ++ [v]) := by
  intro i hi
  rw [List.length_append, List.length_singleton] at hi
  by_cases hl : i < l.length
  · rw [h2 i hl, h i hl, zgetD_l hl]
  · rw [show i = l.length by omega, h1, zgetD_e]
def rowsG (rl : Nat → Nat) (rs : Nat → Nat → Nat) (C : ZMem) : Prop := (∀ q, q < 24 → C.1 32 q = zI (rl q)) ∧ ∀ q k, q < 24 → k < rl q → C.1 31 (10 * q + k) = zI (rs q k)
def okRw (rl : Nat → Nat) (rs : Nat → Nat → Nat) : Prop := (∀ q, rl q ≤ 10) ∧ ∀ q k, k < rl q → rs q k < 20
theorem rowsG_x {rl : Nat → Nat} {rs : Nat → Nat → Nat} {M0 M : ZMem} (h1 : ∀ k, M.1 31 k = M0.1 31 k) (h2 : ∀ k, M.1 32 k = M0.1 32 k) (h : rowsG rl rs M0) : rowsG rl rs M := ⟨fun q hq => by rw [h2]; exact h.1 q hq, fun q k hq hk => by rw [h1]; exact h.2 q k hq hk⟩
/-- a piece stands at x = 10 * row + place -/
def zoc (rl : Nat → Nat) (rs : Nat → Nat → Nat) (pc : Nat → Nat) (n x : Nat) : Prop := x % 10 + n ≤ rl (x / 10) ∧ ∀ i, i < n → rs (x / 10) (x % 10 + i) = pc i
def zbh (rl : Nat → Nat) (rs : Nat → Nat → Nat) (n x : Nat) : Int := if x % 10 + n < rl (x / 10) then (rs (x / 10) (x % 10 + n) : Int) else -1
noncomputable def zcom (rl : Nat → Nat) (rs : Nat → Nat → Nat) (pc : Nat → Nat) (n : Nat) : Nat := zsum 240 (fun x => zb (zoc rl rs pc n x))
noncomputable def znx (rl : Nat → Nat) (rs : Nat → Nat → Nat) (pc : Nat → Nat) (n : Nat) : Nat := zsum 21 (fun b => zb (∃ x, x < 240 ∧ zoc rl rs pc n x ∧ zbh rl rs n x + 1 = b))
def fndC (rl : Nat → Nat) (rs : Nat → Nat → Nat) (pc : Nat → Nat) (n : Nat) (C : ZMem) : Prop := C.1 30 3 = zI ((zfil (zoc rl rs pc n) 240).length : Int) ∧ C.1 30 4 = zI n ∧ zArr C 33 (zfil (zoc rl rs pc n) 240)
def zWfnd (a k : Nat) : Bool := a == 33 || (a == 30 && (k == 3 || k == 4))
theorem zoc_1 {rl : Nat → Nat} {rs : Nat → Nat → Nat} {pc : Nat → Nat} {x : Nat} : zoc rl rs pc 1 x ↔ x % 10 < rl (x / 10) ∧ rs (x / 10) (x % 10) = pc 0 := by
  constructor
  · rintro ⟨h1, h2⟩
    exact ⟨h1, h2 0 (by omega)⟩
  · rintro ⟨h1, h2⟩
    refine ⟨h1, fun i hi => ?_⟩
    rw [show i = 0 by omega]
    exact h2
theorem zoc_s {rl : Nat → Nat} {rs : Nat → Nat → Nat} {pc : Nat → Nat} {n x : Nat} : zoc rl rs pc (n + 1) x ↔ zoc rl rs pc n x ∧ zbh rl rs n x = pc n := by
  unfold zbh
  constructor
  · rintro ⟨h1, h2⟩
    refine ⟨⟨by omega, fun i hi => h2 i (by omega)⟩, ?_⟩
    rw [if_pos (by omega), h2 n (by omega)]
  · rintro ⟨⟨h1, h2⟩, h3⟩
    by_cases hc : x % 10 + n < rl (x / 10)
    · rw [if_pos hc] at h3
      refine ⟨by omega, fun i hi => ?_⟩
      by_cases he : i = n
      · rw [he]; omega
      · exact h2 i (by omega)
    · rw [if_neg hc] at h3
      omega
theorem c_startPiece {M : ZMem} {rl : Nat → Nat} {rs : Nat → Nat → Nat} (hk : okRw rl rs) (h : rowsG rl rs M) {pc : Nat → Nat} (hp : pc 0 < 20) : zOk (f_X6_startPiece M (zI (pc 0))) (fun M' => fndC rl rs pc 1 M' ∧ zP zWfnd M M') := by
  unfold f_X6_startPiece
  rw [zk_bnd, zk_bnd, zk_bind]
  refine zOk_forQ (fun q x => x.2 = zI q ∧ zP zWfnd M x.1 ∧ x.1.1 30 4 = zI 1 ∧ x.1.1 30 3 = zI ((zfil (zoc rl rs pc 1) (10 * q)).length : Int) ∧ zArr x.1 33 (zfil (zoc rl rs pc 1) (10 * q))) 24 ?_ ?_ ⟨rfl, zP_I (zP_I zP_rf rfl) rfl, by rw [zm_Is], by rw [zm_In _ _ _ _ (by decide), zm_Is]; rfl, fun i hi => absurd hi (Nat.not_lt_zero i)⟩
  · rintro q ⟨x1, x2⟩ hq ⟨e1, e2, e3, e4, e5⟩ Q hQ _
    dsimp only at e1 e2 e3 e4 e5
    unfold f_X6_startPiece_L12
    dsimp only
    rw [e1, if_neg (by simp (disch := omega) only [zk_bind, zk_chk, zk_bnd, zk_some, zlp_l, zlp_r, zb_some, zb_bnd, zI_add, zI_sub, zI_mul, zI_neg, zI_le, zI_lt, zI_eq, zI_ix, zI_inI, Int.toNat_natCast, Int.toNat_add, Int.toNat_mul, true_and, and_true]; omega), zk_bind]
    have hr := hk.1 q
    refine zOk_forQ (fun k x => x.2 = zI k ∧ zP zWfnd M x.1 ∧ x.1.1 30 4 = zI 1 ∧ x.1.1 30 3 = zI ((zfil (zoc rl rs pc 1) (10 * q + k)).length : Int) ∧ zArr x.1 33 (zfil (zoc rl rs pc 1) (10 * q + k))) (rl q) ?_ ?_ ⟨rfl, e2, e3, e4, e5⟩
    · rintro k ⟨y1, y2⟩ hkq ⟨d1, d2, d3, d4, d5⟩ Q' hQ' _
      dsimp only at d1 d2 d3 d4 d5
      have hle := zfil_le (zoc rl rs pc 1) (10 * q + k)
      have hv := hk.2 q k hkq
      unfold f_X6_startPiece_L20
      dsimp only
      rw [zI_inI (by omega) (by omega) (by omega), zb_chk, zI_ix (by omega) (by omega), Int.toNat_natCast, d2.1 32 q rfl, h.1 q hq, d1, if_neg (by simp (disch := omega) only [zk_bind, zk_chk, zk_bnd, zk_some, zlp_l, zlp_r, zb_some, zb_bnd, zI_add, zI_sub, zI_mul, zI_neg, zI_le, zI_lt, zI_eq, zI_ix, zI_inI, Int.toNat_natCast, Int.toNat_add, Int.toNat_mul, true_and, and_true]; omega), if_neg (by simp (disch := omega) only [zk_bind, zk_chk, zk_bnd, zk_some, zlp_l, zlp_r, zb_some, zb_bnd, zI_add, zI_sub, zI_mul, zI_neg, zI_le, zI_lt, zI_eq, zI_ix, zI_inI, Int.toNat_natCast, Int.toNat_add, Int.toNat_mul, true_and, and_true]; omega), zI_mul, zI_add, zI_inI (by omega) (by omega) (by omega), zb_chk, zI_ix (by omega) (by omega), show ((q : Int) * 10 + k).toNat = 10 * q + k by omega, d2.1 31 _ rfl, h.2 q k hq hkq]
      have hoc : zoc rl rs pc 1 (10 * q + k) ↔ rs q k = pc 0 := by
        rw [zoc_1, show (10 * q + k) % 10 = k by omega, show (10 * q + k) / 10 = q by omega]
        exact ⟨fun h => h.2, fun h => ⟨hkq, h⟩⟩
      by_cases hc : rs q k = pc 0
      · rw [if_pos (by rw [hc]), d4, if_neg (by simp (disch := omega) only [zk_bind, zk_chk, zk_bnd, zk_some, zlp_l, zlp_r, zb_some, zb_bnd, zI_add, zI_sub, zI_mul, zI_neg, zI_le, zI_lt, zI_eq, zI_ix, zI_inI, Int.toNat_natCast, Int.toNat_add, Int.toNat_mul, true_and, and_true]; omega), zI_inI (by omega) (by omega) (by omega), zb_chk, zI_ix (by omega) (by omega), Int.toNat_natCast, zk_bnd, zk_bnd, zk_bnd, zk_some, zm_Iq _ _ _ _ (by decide), d4, zI_add, zI_add]
        refine hQ' _ ⟨zI_inj (by omega), zP_I (zP_I d2 rfl) rfl, ?_, ?_, ?_⟩
        · rw [zm_In _ _ _ _ (by decide), zm_Iq _ _ _ _ (by decide)]
          exact d3
        · rw [zm_Is, ← Nat.add_assoc, zfil_t (hoc.mpr hc), List.length_append, List.length_singleton]
          exact zI_inj (by omega)
        · rw [← Nat.add_assoc, zfil_t (hoc.mpr hc)]
          refine zArr_snoc d5 ?_ (fun i hi => ?_)
          · rw [zm_Iq _ _ _ _ (by decide), zm_Is]
            exact zI_inj (by omega)
          · rw [zm_Iq _ _ _ _ (by decide), zm_In _ _ _ _ (by omega)]
      · rw [if_neg (by simp (disch := omega) only [zk_bind, zk_chk, zk_bnd, zk_some, zlp_l, zlp_r, zb_some, zb_bnd, zI_add, zI_sub, zI_mul, zI_neg, zI_le, zI_lt, zI_eq, zI_ix, zI_inI, Int.toNat_natCast, Int.toNat_add, Int.toNat_mul, true_and, and_true]; omega), zk_bnd, zk_some, zI_add]
        refine hQ' _ ⟨zI_inj (by omega), d2, d3, ?_, ?_⟩
        · rw [← Nat.add_assoc, zfil_f (fun h => hc (hoc.mp h))]
          exact d4
        · rw [← Nat.add_assoc, zfil_f (fun h => hc (hoc.mp h))]
          exact d5
    · rintro ⟨y1, y2⟩ ⟨d1, d2, d3, d4, d5⟩
      dsimp only at d1 d2 d3 d4 d5
      refine ⟨y1, ?_, ?_⟩
      · unfold f_X6_startPiece_L20
        dsimp only
        rw [zI_inI (by omega) (by omega) (by omega), zb_chk, zI_ix (by omega) (by omega), Int.toNat_natCast, d2.1 32 q rfl, h.1 q hq, d1, if_pos (by simp (disch := omega) only [zk_bind, zk_chk, zk_bnd, zk_some, zlp_l, zlp_r, zb_some, zb_bnd, zI_add, zI_sub, zI_mul, zI_neg, zI_le, zI_lt, zI_eq, zI_ix, zI_inI, Int.toNat_natCast, Int.toNat_add, Int.toNat_mul, true_and, and_true]; omega)]
      · rw [zk_bnd, zk_some, zI_add]
        have e : zfil (zoc rl rs pc 1) (10 * (q + 1)) = zfil (zoc rl rs pc 1) (10 * q + rl q) := by
          refine zfil_ext (by omega) (fun x h1 h2 h3 => ?_)
          have := (zoc_1.mp h3).1
          rw [show x / 10 = q by omega] at this
          omega
        refine hQ _ ⟨zI_inj (by omega), d2, d3, ?_, ?_⟩
        · rw [e]; exact d4
        · rw [e]; exact d5
  · rintro ⟨x1, x2⟩ ⟨e1, e2, e3, e4, e5⟩
    dsimp only at e1 e2 e3 e4 e5
    refine ⟨x1, ?_, ?_⟩
    · unfold f_X6_startPiece_L12
      dsimp only
      rw [e1, if_pos (by simp (disch := omega) only [zk_bind, zk_chk, zk_bnd, zk_some, zlp_l, zlp_r, zb_some, zb_bnd, zI_add, zI_sub, zI_mul, zI_neg, zI_le, zI_lt, zI_eq, zI_ix, zI_inI, Int.toNat_natCast, Int.toNat_add, Int.toNat_mul, true_and, and_true]; omega)]
    · rw [zk_some]
      exact ⟨⟨e4, e3, e5⟩, e2⟩
theorem c_signBehind {M : ZMem} {rl : Nat → Nat} {rs : Nat → Nat → Nat} (hk : okRw rl rs) (h : rowsG rl rs M) {n x : Nat} (hn : n ≤ 10) (hn1 : M.1 30 4 = zI n) (hx : x < 240) : f_X6_signBehind M (zI x) = some (zI (zbh rl rs n x)) := by
  have hr := hk.1 (x / 10)
  unfold f_X6_signBehind
  rw [zI_rem (by omega) (by omega) (by omega) (by omega), zI_div (by omega) (by omega) (by omega) (by omega), hn1, zI_add, zb_bnd, zb_bnd, if_neg (by simp (disch := omega) only [zk_bind, zk_chk, zk_bnd, zk_some, zlp_l, zlp_r, zb_some, zb_bnd, zI_add, zI_sub, zI_mul, zI_neg, zI_le, zI_lt, zI_eq, zI_ix, zI_inI, Int.toNat_natCast, Int.toNat_add, Int.toNat_mul, true_and, and_true]; omega), if_neg (by simp (disch := omega) only [zk_bind, zk_chk, zk_bnd, zk_some, zlp_l, zlp_r, zb_some, zb_bnd, zI_add, zI_sub, zI_mul, zI_neg, zI_le, zI_lt, zI_eq, zI_ix, zI_inI, Int.toNat_natCast, Int.toNat_add, Int.toNat_mul, true_and, and_true]; omega), zI_inI (by omega) (by omega) (by omega), zb_chk, zI_ix (by omega) (by omega), show ((x : Int) / 10).toNat = x / 10 by omega, h.1 _ (by omega)]
  unfold zbh
  by_cases hc : x % 10 + n < rl (x / 10)
  · rw [if_neg (by simp (disch := omega) only [zk_bind, zk_chk, zk_bnd, zk_some, zlp_l, zlp_r, zb_some, zb_bnd, zI_add, zI_sub, zI_mul, zI_neg, zI_le, zI_lt, zI_eq, zI_ix, zI_inI, Int.toNat_natCast, Int.toNat_add, Int.toNat_mul, true_and, and_true]; omega), if_pos hc]
    unfold f_X6_signBehind_40
    rw [if_neg (by decide), zI_mul, zI_add, zI_inI (by omega) (by omega) (by omega), zb_chk, zI_ix (by omega) (by omega), show ((x : Int) / 10 * 10 + ((x : Int) % 10 + n)).toNat = 10 * (x / 10) + (x % 10 + n) by omega, h.2 _ _ (by omega) hc]
  · rw [if_pos (by simp (disch := omega) only [zk_bind, zk_chk, zk_bnd, zk_some, zlp_l, zlp_r, zb_some, zb_bnd, zI_add, zI_sub, zI_mul, zI_neg, zI_le, zI_lt, zI_eq, zI_ix, zI_inI, Int.toNat_natCast, Int.toNat_add, Int.toNat_mul, true_and, and_true]; omega), if_neg hc]
    rfl
theorem zbh_rng {rl : Nat → Nat} {rs : Nat → Nat → Nat} (hk : okRw rl rs) (n x : Nat) : -1 ≤ zbh rl rs n x ∧ zbh rl rs n x < 20 := by
  unfold zbh
  split
  · next h =>
    have := hk.2 _ _ h
    omega
  · omega
theorem c_followers {M : ZMem} {rl : Nat → Nat} {rs : Nat → Nat → Nat} {pc : Nat → Nat} {n : Nat} (hk : okRw rl rs) (h : rowsG rl rs M) (hn : n ≤ 10) (hf : fndC rl rs pc n M) : f_X6_followers M = some (zI (znx rl rs pc n)) := by
  obtain ⟨h1, h2, h3⟩ := hf
  have hle := zfil_le (zoc rl rs pc n) 240
  apply zOk_is
  unfold f_X6_followers
  rw [zk_bind]
  generalize hl : zfil (zoc rl rs pc n) 240 = l at h1 h3 hle
  have hmem : ∀ x, x ∈ l ↔ x < 240 ∧ zoc rl rs pc n x := fun x => by rw [← hl]; exact zfil_mem
  refine zOk_for0 (fun i x => x.2 = zI i ∧ zMk x.1 21 (fun b => ∃ j, j < i ∧ zbh rl rs n (l.getD j 0) + 1 = b)) l.length ?_ ?_ ⟨rfl, zMk_0 21 (fun b ⟨j, hj, _⟩ => absurd hj (Nat.not_lt_zero j))⟩
  · rintro i ⟨x1, x2⟩ hi ⟨e1, e2⟩
    dsimp only at e1 e2
    have hm := (hmem _).mp (zgetD_m hi)
    have hb := zbh_rng hk n (l.getD i 0)
    unfold f_X6_followers_L4
    dsimp only
    rw [h1, e1, if_neg (by simp (disch := omega) only [zk_bind, zk_chk, zk_bnd, zk_some, zlp_l, zlp_r, zb_some, zb_bnd, zI_add, zI_sub, zI_mul, zI_neg, zI_le, zI_lt, zI_eq, zI_ix, zI_inI, Int.toNat_natCast, Int.toNat_add, Int.toNat_mul, true_and, and_true]; omega), zI_inI (by omega) (by omega) (by omega), zb_chk, zI_ix (by omega) (by omega), Int.toNat_natCast, h3 i hi, c_signBehind hk h hn h2 hm.1, zb_some, zI_add, show zbh rl rs n (l.getD i 0) + 1 = (((zbh rl rs n (l.getD i 0) + 1).toNat : Nat) : Int) by omega, zk_bnd, zk_bnd, zk_some, zlp_l]
    refine ⟨by rw [zI_add]; exact zI_inj (by omega), zMk_cg (zMk_or (by decide) e2 (by omega)) (fun b => ⟨?_, ?_⟩)⟩
    · rintro (⟨j, g1, g2⟩ | rfl)
      · exact ⟨j, by omega, g2⟩
      · exact ⟨i, by omega, by omega⟩
    · rintro ⟨j, g1, g2⟩
      by_cases he : j = i
      · rw [he] at g2
        exact Or.inr (by omega)
      · exact Or.inl ⟨j, by omega, g2⟩
  · rintro ⟨x1, x2⟩ ⟨e1, e2⟩
    dsimp only at e1 e2
    unfold f_X6_followers_L4
    dsimp only
    rw [h1, e1, if_pos (by simp (disch := omega) only [zk_bind, zk_chk, zk_bnd, zk_some, zlp_l, zlp_r, zb_some, zb_bnd, zI_add, zI_sub, zI_mul, zI_neg, zI_le, zI_lt, zI_eq, zI_ix, zI_inI, Int.toNat_natCast, Int.toNat_add, Int.toNat_mul, true_and, and_true]; omega), zk_some, zlp_r]
    have hb : ∀ b : Nat, (∃ j, j < l.length ∧ zbh rl rs n (l.getD j 0) + 1 = b) ↔ ∃ x, x < 240 ∧ zoc rl rs pc n x ∧ zbh rl rs n x + 1 = b := by
      intro b
      constructor
      · rintro ⟨j, g1, g2⟩
        have := (hmem _).mp (zgetD_m g1)
        exact ⟨_, this.1, this.2, g2⟩
      · rintro ⟨x, g1, g2, g3⟩
        obtain ⟨j, g4, g5⟩ := List.getElem_of_mem ((hmem x).mpr ⟨g1, g2⟩)
        refine ⟨j, g4, ?_⟩
        rw [List.getD_eq_getElem?_getD, List.getElem?_eq_getElem g4]
        rw [← g5] at g3
        exact g3
    rw [zMk_pop (by decide) (zMk_cg e2 hb), zb_some, zk_some]
    rfl
theorem c_growPiece {M : ZMem} {rl : Nat → Nat} {rs : Nat → Nat → Nat} {pc : Nat → Nat} {n : Nat} (hk : okRw rl rs) (h : rowsG rl rs M) (hn : n ≤ 9) (hf : fndC rl rs pc n M) (hp : pc n < 20) : zOk (f_X6_growPiece M (zI (pc n))) (fun M' => fndC rl rs pc (n + 1) M' ∧ zP zWfnd M M') := by
  obtain ⟨h1, h2, h3⟩ := hf
  have hle := zfil_le (zoc rl rs pc n) 240
  have hres : (zfil (zoc rl rs pc n) 240).filter (fun x => zoB (zbh rl rs n x = pc n)) = zfil (zoc rl rs pc (n + 1)) 240 := zfil_fil (fun x _ => zoc_s)
  generalize hl : zfil (zoc rl rs pc n) 240 = l at h1 h3 hle hres
  have hmem : ∀ x, x ∈ l → x < 240 := fun x hx => by rw [← hl] at hx; exact (zfil_mem.mp hx).1
  unfold f_X6_growPiece
  rw [zk_bind]
  refine zOk_forQ (fun i x => x.2.2 = zI i ∧ zP (fun a _ => a == 33) M x.1 ∧ (∀ j, i ≤ j → j < l.length → x.1.1 33 j = zI (l.getD j 0)) ∧ x.2.1 = zI (((l.take i).filter (fun x => zoB (zbh rl rs n x = pc n))).length : Int) ∧ zArr x.1 33 ((l.take i).filter (fun x => zoB (zbh rl rs n x = pc n)))) l.length ?_ ?_ ⟨rfl, zP_rf, fun j _ hj => h3 j hj, rfl, fun i hi => absurd hi (Nat.not_lt_zero i)⟩
  · rintro i ⟨x1, x2, x3⟩ hi ⟨e1, e2, e3, e4, e5⟩ Q hQ _
    dsimp only at e1 e2 e3 e4 e5
    have hm := hmem _ (zgetD_m hi)
    have hb := zbh_rng hk n (l.getD i 0)
    have hx : rowsG rl rs x1 := rowsG_x (fun k => e2.1 31 k rfl) (fun k => e2.1 32 k rfl) h
    have hlen : ((l.take i).filter (fun x => zoB (zbh rl rs n x = pc n))).length ≤ i := Nat.le_trans (List.length_filter_le _ _) (by rw [List.length_take]; omega)
    have htk : l.take (i + 1) = l.take i ++ [l.getD i 0] := by
      rw [List.take_add_one, List.getD_eq_getElem?_getD, List.getElem?_eq_getElem hi]
      rfl
    unfold f_X6_growPiece_L4
    dsimp only
    rw [e2.1 30 3 rfl, h1, e1, if_neg (by simp (disch := omega) only [zk_bind, zk_chk, zk_bnd, zk_some, zlp_l, zlp_r, zb_some, zb_bnd, zI_add, zI_sub, zI_mul, zI_neg, zI_le, zI_lt, zI_eq, zI_ix, zI_inI, Int.toNat_natCast, Int.toNat_add, Int.toNat_mul, true_and, and_true]; omega), zI_inI (by omega) (by omega) (by omega), zb_chk, zb_chk, zI_ix (by omega) (by omega), Int.toNat_natCast, e3 i (Nat.le_refl i) hi, c_signBehind hk hx (by omega) ((e2.1 30 4 rfl).trans h2) hm, zb_some]
    by_cases hc : zbh rl rs n (l.getD i 0) = pc n
    · rw [if_pos (by rw [hc]), e4, zI_inI (by omega) (by omega) (by omega), zb_chk, zI_ix (by omega) (by omega), Int.toNat_natCast, zk_bnd, zk_bnd, zk_bnd, zk_some, zI_add, zI_add]
      have hfl : (l.take (i + 1)).filter (fun x => zoB (zbh rl rs n x = pc n)) = (l.take i).filter (fun x => zoB (zbh rl rs n x = pc n)) ++ [l.getD i 0] := by
        rw [htk, List.filter_append, zflt (fun x => zbh rl rs n x = pc n) hc]
      refine hQ _ ⟨zI_inj (by omega), zP_I e2 (by simp), fun j hj1 hj2 => ?_, ?_, ?_⟩
      · rw [zm_In _ _ _ _ (by omega)]
        exact e3 j (by omega) hj2
      · rw [hfl, List.length_append, List.length_singleton]
        exact zI_inj (by omega)
      · rw [hfl]
        exact zArr_snoc e5 (by rw [zm_Is]) (fun j hj => by rw [zm_In _ _ _ _ (by omega)])
    · have hfl : (l.take (i + 1)).filter (fun x => zoB (zbh rl rs n x = pc n)) = (l.take i).filter (fun x => zoB (zbh rl rs n x = pc n)) := by
        rw [htk, List.filter_append, zflf (fun x => zbh rl rs n x = pc n) hc, List.append_nil]
      rw [if_neg (by simp (disch := omega) only [zk_bind, zk_chk, zk_bnd, zk_some, zlp_l, zlp_r, zb_some, zb_bnd, zI_add, zI_sub, zI_mul, zI_neg, zI_le, zI_lt, zI_eq, zI_ix, zI_inI, Int.toNat_natCast, Int.toNat_add, Int.toNat_mul, true_and, and_true]; omega), zk_bnd, zk_some, zI_add]
      refine hQ _ ⟨zI_inj (by omega), e2, fun j hj1 hj2 => e3 j (by omega) hj2, ?_, ?_⟩
      · rw [hfl]; exact e4
      · rw [hfl]; exact e5
  · rintro ⟨x1, x2, x3⟩ ⟨e1, e2, e3, e4, e5⟩
    dsimp only at e1 e2 e3 e4 e5
    rw [List.take_length, hres] at e4 e5
    refine ⟨(x1, x2), ?_, ?_⟩
    · unfold f_X6_growPiece_L4
      dsimp only
      rw [e2.1 30 3 rfl, h1, e1, if_pos (by simp (disch := omega) only [zk_bind, zk_chk, zk_bnd, zk_some, zlp_l, zlp_r, zb_some, zb_bnd, zI_add, zI_sub, zI_mul, zI_neg, zI_le, zI_lt, zI_eq, zI_ix, zI_inI, Int.toNat_natCast, Int.toNat_add, Int.toNat_mul, true_and, and_true]; omega)]
    · rw [zk_bnd, zk_bnd, zk_some]
      dsimp only
      refine ⟨⟨?_, ?_, ?_⟩, zP_I (zP_I (zP_mono e2 (fun a k ha => by unfold zWfnd at ha; simp at ha ⊢; exact ha.1)) rfl) rfl⟩
      · rw [zm_In _ _ _ _ (by decide), zm_Is, e4]
      · rw [zm_Is, zm_In _ _ _ _ (by decide), e2.1 30 4 rfl, h2, zI_add]
        exact zI_inj (by omega)
      · intro i hi
        rw [zm_Iq _ _ _ _ (by decide), zm_Iq _ _ _ _ (by decide)]
        exact e5 i hi
