/-! ===== clash: the fewest clues ===== deps: 97.zr.grid -/
def zrc (C : Nat → Nat → Prop) (f : Nat) : Nat → Nat → Prop
  | 0, b => b = f
  | n + 1, b => zrc C f n b ∨ ∃ a, zrc C f n a ∧ C a b
theorem zrc_s {C : Nat → Nat → Prop} {f n x : Nat} : zrc C f (n + 1) x ↔ zrc C f n x ∨ ∃ a, zrc C f n a ∧ C a x := Iff.rfl
theorem zrc_mono {C : Nat → Nat → Prop} {f x n : Nat} : ∀ m, n ≤ m → zrc C f n x → zrc C f m x := by
  intro m
  induction m with
  | zero => intro h hx; rw [show n = 0 by omega] at hx; exact hx
  | succ m ih =>
    intro h hx
    by_cases hnm : n = m + 1
    · rw [← hnm]; exact hx
    · exact Or.inl (ih (by omega) hx)
def zdis (C : Nat → Nat → Prop) (f x k : Nat) : Prop := zrc C f k x ∧ ∀ j, j < k → ¬ zrc C f j x
theorem zdis_ex {C : Nat → Nat → Prop} {f x : Nat} : ∀ n, zrc C f n x → ∃ k, k ≤ n ∧ zdis C f x k := by
  intro n
  induction n with
  | zero => intro h; exact ⟨0, Nat.le_refl _, h, fun j hj => absurd hj (Nat.not_lt_zero j)⟩
  | succ n ih =>
    intro h
    by_cases hn : zrc C f n x
    · obtain ⟨k, h1, h2⟩ := ih hn
      exact ⟨k, by omega, h2⟩
    · exact ⟨n + 1, Nat.le_refl _, h, fun j hj hh => hn (zrc_mono n (by omega) hh)⟩
theorem zdis_one {C : Nat → Nat → Prop} {f x k k' : Nat} (h : zdis C f x k) (h' : zdis C f x k') : k = k' := by
  rcases Nat.lt_trichotomy k k' with hc | hc | hc
  · exact absurd h.1 (h'.2 k hc)
  · exact hc
  · exact absurd h'.1 (h.2 k' hc)
theorem zrc_lt {C : Nat → Nat → Prop} {f F : Nat} (hf : f < F) (hC : ∀ a b, C a b → b < F) : ∀ n x, zrc C f n x → x < F := by
  intro n
  induction n with
  | zero => intro x hx; rw [show x = f from hx]; exact hf
  | succ n ih =>
    rintro x (hx | ⟨a, _, h2⟩)
    · exact ih x hx
    · exact hC a x h2
theorem zrc_stop {C : Nat → Nat → Prop} {f k : Nat} (h : ∀ x, zrc C f (k + 1) x → zrc C f k x) : ∀ m x, zrc C f (k + m) x → zrc C f k x := by
  intro m
  induction m with
  | zero => intro x hx; exact hx
  | succ m ih =>
    rintro x (hx | ⟨a, h1, h2⟩)
    · exact ih x hx
    · exact h x (Or.inr ⟨a, ih a h1, h2⟩)
theorem zdis_lt {C : Nat → Nat → Prop} {f x d : Nat} (hf : f < 20) (hC : ∀ a b, C a b → b < 20) (h : zdis C f x d) : d ≤ 19 := by
  have key : ∀ k, k ≤ d → k + 1 ≤ zsum 20 (fun y => zb (zrc C f k y)) := by
    intro k
    induction k with
    | zero =>
      intro _
      have := zsum_pos (f := fun y => zb (zrc C f 0 y)) hf
      have e : zb (zrc C f 0 f) = 1 := zb_t rfl
      omega
    | succ k ih =>
      intro hk
      have h1 := ih (by omega)
      have h2 : ∃ y, zrc C f (k + 1) y ∧ ¬ zrc C f k y := by
        apply Classical.byContradiction
        intro hn
        have hs : ∀ y, zrc C f (k + 1) y → zrc C f k y := fun y hy => Classical.byContradiction (fun hh => hn ⟨y, hy, hh⟩)
        have := zrc_stop hs (d - k) x (by rw [show k + (d - k) = d by omega]; exact h.1)
        exact h.2 k (by omega) this
      obtain ⟨y, y1, y2⟩ := h2
      have := zsum_lt (n := 20) (f := fun y => zb (zrc C f k y)) (g := fun y => zb (zrc C f (k + 1) y)) (fun i _ => zb_mono (fun hh => Or.inl hh)) (zrc_lt hf hC (k + 1) y y1) (by rw [zb_t y1, zb_f y2]; omega)
      omega
  have h1 := key d (Nat.le_refl _)
  have h2 : zsum 20 (fun y => zb (zrc C f d y)) ≤ 20 := zsum_le1 (fun _ _ => zb_le _)
  omega
/-- in one group: there is a way of clues -/
theorem zrc_grp {C : Nat → Nat → Prop} {L : Nat → Nat} {n a b : Nat} (hL : zComp n C L) (hs : ∀ x y, C x y → C y x) (ha : a < n) (hb : b < n) (h : L a = L b) : ∃ d, zdis C a b d := by
  have hg : ∀ i j, i < n → j < n → C i j → zb (∃ m, zrc C a m i) = zb (∃ m, zrc C a m j) := fun i j _ _ hc => zb_iff ⟨fun ⟨m, hm⟩ => ⟨m + 1, Or.inr ⟨i, hm, hc⟩⟩, fun ⟨m, hm⟩ => ⟨m + 1, Or.inr ⟨j, hm, hs _ _ hc⟩⟩⟩
  have h1 := hL.2.2 (fun i => zb (∃ m, zrc C a m i)) hg a ha
  have h2 := hL.2.2 (fun i => zb (∃ m, zrc C a m i)) hg b hb
  rw [h] at h1
  have h3 : zb (∃ m, zrc C a m a) = 1 := zb_t ⟨0, rfl⟩
  by_cases h4 : ∃ m, zrc C a m b
  · obtain ⟨m, hm⟩ := h4
    obtain ⟨k, _, hk⟩ := zdis_ex m hm
    exact ⟨k, hk⟩
  · have := zb_f h4
    omega
-- the class
theorem c_steps {q : Nat} {M : ZMem} {P : Nat → Nat → Prop} (h : ∀ a, a < 20 → zMk (M.1 (q + 2) a) 20 (P a)) (hP : ∀ a b, P a b → b < 20) {a b d : Nat} (ha : a < 20) (hb : b < 20) (hd : zdis P a b d) : f_X5_stepsBetween q M (zI a) (zI b) = some (zI d) := by
  have hd19 := zdis_lt ha hP hd
  unfold f_X5_stepsBetween
  refine zOk_is ?_
  rw [zk_bnd, zk_bind]
  refine zOk_forQ (fun n s => zMk s.1 20 (zrc P a n) ∧ s.2 = zI n) d ?_ ?_ ⟨zMk_cg (zMk_one ha (by omega)) (fun b => Iff.rfl), rfl⟩
  · rintro n ⟨s1, s2⟩ hn ⟨e1, e2⟩ Q hQ _
    dsimp only at e1 e2
    unfold f_X5_stepsBetween_L7
    dsimp only
    rw [e2, if_neg (by simp (disch := omega) only [zk_bind, zk_chk, zk_bnd, zk_some, zlp_l, zlp_r, zb_some, zb_bnd, zI_add, zI_sub, zI_mul, zI_neg, zI_le, zI_lt, zI_eq, zI_ix, zI_inI, Int.toNat_natCast, Int.toNat_add, Int.toNat_mul, true_and, and_true]; omega), zMk_bit (by omega) e1 (by omega), if_pos (zb_0.mpr (hd.2 n hn)), zk_bind]
    refine zOk_forQ (fun i t => zMk t.1 20 (fun x => zrc P a n x ∨ ∃ y, y < i ∧ zrc P a n y ∧ P y x) ∧ t.2 = zI i) 20 ?_ ?_ ⟨zMk_cg e1 (fun b => ⟨Or.inl, fun hh => hh.elim id (fun ⟨y, hy, _⟩ => absurd hy (Nat.not_lt_zero y))⟩), rfl⟩
    · rintro i ⟨t1, t2⟩ hi ⟨d1, d2⟩ Q' hQ' _
      dsimp only at d1 d2
      unfold f_X5_stepsBetween_L28
      dsimp only
      rw [d2, if_neg (by simp (disch := omega) only [zk_bind, zk_chk, zk_bnd, zk_some, zlp_l, zlp_r, zb_some, zb_bnd, zI_add, zI_sub, zI_mul, zI_neg, zI_le, zI_lt, zI_eq, zI_ix, zI_inI, Int.toNat_natCast, Int.toNat_add, Int.toNat_mul, true_and, and_true]; omega), zMk_bit (by omega) e1 (by omega)]
      by_cases hz : zrc P a n i
      · rw [if_pos (zb_1.mpr hz), zI_inI (by omega) (by omega) (by omega), zb_chk, zk_bnd, zk_bnd, zk_some, zI_ix (by omega) (by omega), Int.toNat_natCast, zI_add]
        refine hQ' _ ⟨zMk_cg (zMk_oo (by omega) d1 (h i hi)) (fun x => ?_), zI_inj (by omega)⟩
        constructor
        · rintro ((hh | ⟨y, y1, y2⟩) | hh)
          · exact Or.inl hh
          · exact Or.inr ⟨y, by omega, y2⟩
          · exact Or.inr ⟨i, by omega, hz, hh⟩
        · rintro (hh | ⟨y, y1, y2, y3⟩)
          · exact Or.inl (Or.inl hh)
          · by_cases hyi : y = i
            · rw [hyi] at y3; exact Or.inr y3
            · exact Or.inl (Or.inr ⟨y, by omega, y2, y3⟩)
      · rw [if_neg (fun hh => hz (zb_1.mp hh)), zk_bnd, zk_bnd, zk_some, zI_add]
        refine hQ' _ ⟨zMk_cg (zMk_oo (by omega) d1 (zMk_0 20 (P := fun _ => False) (fun _ hh => hh))) (fun x => ?_), zI_inj (by omega)⟩
        constructor
        · rintro ((hh | ⟨y, y1, y2⟩) | hh)
          · exact Or.inl hh
          · exact Or.inr ⟨y, by omega, y2⟩
          · exact hh.elim
        · rintro (hh | ⟨y, y1, y2, y3⟩)
          · exact Or.inl (Or.inl hh)
          · by_cases hyi : y = i
            · rw [hyi] at y2; exact absurd y2 hz
            · exact Or.inl (Or.inr ⟨y, by omega, y2, y3⟩)
    · rintro ⟨t1, t2⟩ ⟨d1, d2⟩
      dsimp only at d1 d2
      refine ⟨t1, ?_, ?_⟩
      · unfold f_X5_stepsBetween_L28
        dsimp only
        rw [d2, if_pos (by simp (disch := omega) only [zk_bind, zk_chk, zk_bnd, zk_some, zlp_l, zlp_r, zb_some, zb_bnd, zI_add, zI_sub, zI_mul, zI_neg, zI_le, zI_lt, zI_eq, zI_ix, zI_inI, Int.toNat_natCast, Int.toNat_add, Int.toNat_mul, true_and, and_true]; omega)]
      · rw [zk_bnd, zk_some, zI_add]
        refine hQ _ ⟨zMk_cg d1 (fun x => ?_), zI_inj (by omega)⟩
        rw [zrc_s]
        constructor
        · rintro (hh | ⟨y, y1, y2⟩)
          · exact Or.inl hh
          · exact Or.inr ⟨y, y2⟩
        · rintro (hh | ⟨y, y2, y3⟩)
          · exact Or.inl hh
          · exact Or.inr ⟨y, zrc_lt ha hP n y y2, y2, y3⟩
  · rintro ⟨s1, s2⟩ ⟨e1, e2⟩
    dsimp only at e1 e2
    refine ⟨zI d, ?_, by rw [zk_some]⟩
    unfold f_X5_stepsBetween_L7
    dsimp only
    rw [e2, if_neg (by simp (disch := omega) only [zk_bind, zk_chk, zk_bnd, zk_some, zlp_l, zlp_r, zb_some, zb_bnd, zI_add, zI_sub, zI_mul, zI_neg, zI_le, zI_lt, zI_eq, zI_ix, zI_inI, Int.toNat_natCast, Int.toNat_add, Int.toNat_mul, true_and, and_true]; omega), zMk_bit (by omega) e1 (by omega), if_neg (fun hh => zb_0.mp hh hd.1)]
-- the reference
def zfarI (P : Nat → Nat → Prop) (F f n : Nat) (dn : Nat → Nat → Prop) (M : ZMem) : Prop := ∀ x, x < F → (∀ k, k ≤ n → zdis P f x k → M.1 24 x = zI k) ∧ (¬ zrc P f n x → (∃ a, dn a x ∧ zdis P f a n ∧ P a x) → M.1 24 x = zI ((n + 1 : Nat) : Int)) ∧ (¬ zrc P f n x → (¬ ∃ a, dn a x ∧ zdis P f a n ∧ P a x) → M.1 24 x = zI (-1))
theorem zfarI_n {P : Nat → Nat → Prop} {F f n : Nat} {dn : Nat → Nat → Prop} {M : ZMem} (h : zfarI P F f n dn M) (hn : n < 100) {a : Nat} (ha : a < F) : M.1 24 a = zI n ↔ zdis P f a n := by
  obtain ⟨h1, h2, h3⟩ := h a ha
  constructor
  · intro he
    by_cases hz : zrc P f n a
    · obtain ⟨k, k1, k2⟩ := zdis_ex n hz
      have := h1 k k1 k2
      rw [this, zI_eq (by omega) (by omega) (by omega) (by omega)] at he
      have : k = n := by omega
      rw [← this]; exact k2
    · by_cases hd : ∃ b, dn b a ∧ zdis P f b n ∧ P b a
      · rw [h2 hz hd, zI_eq (by omega) (by omega) (by omega) (by omega)] at he
        omega
      · rw [h3 hz hd, zI_eq (by omega) (by omega) (by omega) (by omega)] at he
        omega
  · intro hd
    exact h1 n (Nat.le_refl _) hd
theorem zfarI_m {P : Nat → Nat → Prop} {F f n : Nat} {dn : Nat → Nat → Prop} {M : ZMem} (h : zfarI P F f n dn M) (hn : n < 100) {b : Nat} (hb : b < F) : M.1 24 b = zI (-1) ↔ ¬ zrc P f n b ∧ ¬ ∃ a, dn a b ∧ zdis P f a n ∧ P a b := by
  obtain ⟨h1, h2, h3⟩ := h b hb
  constructor
  · intro he
    by_cases hz : zrc P f n b
    · obtain ⟨k, k1, k2⟩ := zdis_ex n hz
      rw [h1 k k1 k2, zI_eq (by omega) (by omega) (by omega) (by omega)] at he
      omega
    · refine ⟨hz, fun hd => ?_⟩
      rw [h2 hz hd, zI_eq (by omega) (by omega) (by omega) (by omega)] at he
      omega
  · rintro ⟨hz, hd⟩
    exact h3 hz hd
theorem zfarI_cg {P : Nat → Nat → Prop} {F f n : Nat} {dn dn' : Nat → Nat → Prop} {M : ZMem} (h : zfarI P F f n dn M) (e : ∀ a x, a < F → x < F → zdis P f a n → P a x → ¬ zrc P f n x → (dn a x ↔ dn' a x)) (hP : ∀ a x, P a x → a < F) : zfarI P F f n dn' M := by
  intro x hx
  obtain ⟨h1, h2, h3⟩ := h x hx
  refine ⟨h1, fun hz hd => h2 hz ?_, fun hz hd => h3 hz ?_⟩
  · obtain ⟨a, a1, a2, a3⟩ := hd
    exact ⟨a, (e a x (hP a x a3) hx a2 a3 hz).mpr a1, a2, a3⟩
  · rintro ⟨a, a1, a2, a3⟩
    exact hd ⟨a, (e a x (hP a x a3) hx a2 a3 hz).mp a1, a2, a3⟩
theorem r_fewest {M : ZMem} {F : Nat} {P : Nat → Nat → Nat → Prop} (hF : F ≤ 20) (hF1 : M.1 0 4 = zI F) (hc : cluR P M) {kind : Nat} (hk : kind < 2) (hP : ∀ a b, P kind a b → a < F ∧ b < F) {a b d : Nat} (ha : a < F) (hb : b < F) (hd : zdis (P kind) a b d) : zOk (f_X12_fewest M (zI kind) (zI a) (zI b)) (fun r => r.2 = zI d ∧ zP (fun a _ => a == 24) M r.1) := by
  have hd19 := zdis_lt (show a < 20 by omega) (fun x y hh => by have := hP x y hh; omega) hd
  unfold f_X12_fewest
  rw [zk_bind]
  refine zOk_forQ (fun i s => s.2 = zI i ∧ zP (fun a _ => a == 24) M s.1 ∧ ∀ x, x < i → s.1.1 24 x = zI (if x = a then 0 else -1)) F ?_ ?_ ⟨rfl, zP_rf, fun x hx => absurd hx (Nat.not_lt_zero x)⟩
  · rintro i ⟨N, s2⟩ hi ⟨e1, e2, e3⟩ Q hQ _
    dsimp only at e1 e2 e3
    have st : ∀ v : Int, v = (if i = a then 0 else -1) → zOk (f_X12_fewest_29_L3 N (zI kind) (zI a) (zI b) (zI i) (zI i) (zI v)) Q := by
      intro v hv
      unfold f_X12_fewest_29_L3
      rw [zI_inI (by omega) (by omega) (by omega), zb_chk, zk_bnd, zk_bnd, zk_some, zI_ix (by omega) (by omega), Int.toNat_natCast, zI_add]
      refine hQ _ ⟨zI_inj (by omega), zP_I e2 rfl, fun x hx => ?_⟩
      dsimp only
      by_cases hxi : x = i
      · rw [hxi, zm_Is, hv]
      · rw [zm_In _ _ _ _ hxi]
        exact e3 x (by omega)
    unfold f_X12_fewest_L3
    dsimp only
    rw [e1, e2.1 0 4 rfl, hF1, if_neg (by simp (disch := omega) only [zk_bind, zk_chk, zk_bnd, zk_some, zlp_l, zlp_r, zb_some, zb_bnd, zI_add, zI_sub, zI_mul, zI_neg, zI_le, zI_lt, zI_eq, zI_ix, zI_inI, Int.toNat_natCast, Int.toNat_add, Int.toNat_mul, true_and, and_true]; omega)]
    by_cases hia : i = a
    · rw [if_pos (by rw [hia])]
      exact st 0 (by rw [if_pos hia])
    · rw [if_neg (by simp (disch := omega) only [zk_bind, zk_chk, zk_bnd, zk_some, zlp_l, zlp_r, zb_some, zb_bnd, zI_add, zI_sub, zI_mul, zI_neg, zI_le, zI_lt, zI_eq, zI_ix, zI_inI, Int.toNat_natCast, Int.toNat_add, Int.toNat_mul, true_and, and_true]; omega)]
      exact st (-1) (by rw [if_neg hia])
  · rintro ⟨N, s2⟩ ⟨e1, e2, e3⟩
    dsimp only at e1 e2 e3
    refine ⟨N, ?_, ?_⟩
    · unfold f_X12_fewest_L3
      dsimp only
      rw [e1, e2.1 0 4 rfl, hF1, if_pos (by simp (disch := omega) only [zk_bind, zk_chk, zk_bnd, zk_some, zlp_l, zlp_r, zb_some, zb_bnd, zI_add, zI_sub, zI_mul, zI_neg, zI_le, zI_lt, zI_eq, zI_ix, zI_inI, Int.toNat_natCast, Int.toNat_add, Int.toNat_mul, true_and, and_true]; omega)]
    rw [zk_bind]
    have start : zfarI (P kind) F a 0 (fun _ _ => False) N := by
      intro x hx
      refine ⟨fun k hk hd => ?_, fun _ ⟨_, hh, _⟩ => hh.elim, fun hz _ => ?_⟩
      · have hk0 : k = 0 := by omega
        rw [hk0] at hd ⊢
        have hxa : x = a := hd.1
        rw [e3 x hx, if_pos hxa]
        rfl
      · have hxa : ¬ x = a := hz
        rw [e3 x hx, if_neg hxa]
    refine zOk_forQ (fun n s => s.2 = zI n ∧ zP (fun a _ => a == 24) M s.1 ∧ zfarI (P kind) F a n (fun _ _ => False) s.1) d ?_ ?_ ⟨rfl, e2, start⟩
    · rintro n ⟨N1, t2⟩ hn ⟨d1, d2, d3⟩ Q hQ _
      dsimp only at d1 d2 d3
      unfold f_X12_fewest_L39
      dsimp only
      rw [zI_inI (by omega) (by omega) (by omega), zb_chk, zI_ix (by omega) (by omega), Int.toNat_natCast, if_pos ((zfarI_m d3 (by omega) hb).mpr ⟨hd.2 n hn, fun ⟨_, hh, _⟩ => hh⟩), d1, zk_bind]
      refine zOk_forQ (fun i s => s.2 = zI i ∧ zP (fun a _ => a == 24) M s.1 ∧ zfarI (P kind) F a n (fun x _ => x < i) s.1) F ?_ ?_ ⟨rfl, d2, zfarI_cg d3 (fun _ _ _ _ _ _ _ => ⟨False.elim, fun hh => absurd hh (Nat.not_lt_zero _)⟩) (fun x y hh => (hP x y hh).1)⟩
      · rintro i ⟨N2, u2⟩ hi ⟨c1, c2, c3⟩ Q2 hQ2 _
        dsimp only at c1 c2 c3
        unfold f_X12_fewest_L52
        dsimp only
        rw [c1, c2.1 0 4 rfl, hF1, if_neg (by simp (disch := omega) only [zk_bind, zk_chk, zk_bnd, zk_some, zlp_l, zlp_r, zb_some, zb_bnd, zI_add, zI_sub, zI_mul, zI_neg, zI_le, zI_lt, zI_eq, zI_ix, zI_inI, Int.toNat_natCast, Int.toNat_add, Int.toNat_mul, true_and, and_true]; omega), zk_bind]
        refine zOk_forQ (fun j s => s.2 = zI j ∧ zP (fun a _ => a == 24) M s.1 ∧ zfarI (P kind) F a n (fun x y => x < i ∨ (x = i ∧ y < j)) s.1) F ?_ ?_ ⟨rfl, c2, zfarI_cg c3 (fun _ _ _ _ _ _ _ => ⟨Or.inl, fun hh => hh.elim id (fun h2 => absurd h2.2 (Nat.not_lt_zero _))⟩) (fun x y hh => (hP x y hh).1)⟩
        · rintro j ⟨N3, v2⟩ hj ⟨b1, b2, b3⟩ Q3 hQ3 _
          dsimp only at b1 b2 b3
          have skip : (¬ (zdis (P kind) a i n ∧ P kind i j ∧ ¬ zrc (P kind) a n j) ∨ ∃ x, (x < i ∨ (x = i ∧ j < j)) ∧ zdis (P kind) a x n ∧ P kind x j) → zOk (zbnd (zI j + (zI 1)) (fun x6_123 => some (Sum.inl (N3, x6_123) : (ZMem × Int32) ⊕ ZMem))) Q3 := by
            intro hno
            rw [zk_bnd, zk_some, zI_add]
            refine hQ3 _ ⟨zI_inj (by omega), b2, fun x hx => ?_⟩
            obtain ⟨h1, h2, h3⟩ := b3 x hx
            have ho : ∀ y, zdis (P kind) a y n → P kind y x → ¬ zrc (P kind) a n x → (y < i ∨ (y = i ∧ x < j + 1)) → ∃ z, (z < i ∨ (z = i ∧ x < j)) ∧ zdis (P kind) a z n ∧ P kind z x := by
              intro y y1 y2 y3 y4
              by_cases hyx : y = i ∧ x = j
              · rcases hno with hno | ⟨z, z1, z2, z3⟩
                · exact absurd ⟨by rw [← hyx.1]; exact y1, by rw [← hyx.1, ← hyx.2]; exact y2, by rw [← hyx.2]; exact y3⟩ hno
                · exact ⟨z, by omega, z2, by rw [hyx.2]; exact z3⟩
              · exact ⟨y, by omega, y1, y2⟩
            refine ⟨h1, fun hz hd => h2 hz ?_, fun hz hd => h3 hz ?_⟩
            · obtain ⟨y, y1, y2, y3⟩ := hd
              exact ho y y2 y3 hz y1
            · rintro ⟨y, y1, y2, y3⟩
              exact hd ⟨y, by omega, y2, y3⟩
          unfold f_X12_fewest_L64 f_X12_clueAt
          dsimp only
          rw [b1, b2.1 0 4 rfl, hF1, if_neg (by simp (disch := omega) only [zk_bind, zk_chk, zk_bnd, zk_some, zlp_l, zlp_r, zb_some, zb_bnd, zI_add, zI_sub, zI_mul, zI_neg, zI_le, zI_lt, zI_eq, zI_ix, zI_inI, Int.toNat_natCast, Int.toNat_add, Int.toNat_mul, true_and, and_true]; omega), zI_inI (by omega) (by omega) (by omega), zb_chk, zI_ix (by omega) (by omega), Int.toNat_natCast]
          by_cases g1 : zdis (P kind) a i n
          · rw [if_pos ((zfarI_n b3 (by omega) hi).mpr g1), zI_inI (by omega) (by omega) (by omega), zb_chk, zI_ix (by omega) (by omega), Int.toNat_natCast]
            by_cases g2 : N3.1 24 j = zI (-1)
            · obtain ⟨g3, g4⟩ := (zfarI_m b3 (by omega) hj).mp g2
              rw [if_pos g2, zb_some, zI_mul, zI_add, zI_mul, zI_add, zI_inI (by omega) (by omega) (by omega), zb_chk, zI_ix (by omega) (by omega), show (20 * (20 * (kind : Int) + (i : Int)) + (j : Int)).toNat = 20 * (20 * kind + i) + j by omega, b2.1 22 _ rfl, hc kind i j hk (by omega) (by omega)]
              by_cases g5 : P kind i j
              · rw [if_neg (fun hh => zb_0.mp hh g5), zb_chk, zk_bnd, zk_bnd, zk_some, zI_add, zI_add]
                refine hQ3 _ ⟨zI_inj (by omega), zP_I b2 rfl, fun x hx => ?_⟩
                dsimp only
                obtain ⟨h1, h2, h3⟩ := b3 x hx
                by_cases hxj : x = j
                · rw [hxj, zm_Is]
                  refine ⟨fun k hk hd => ?_, fun _ _ => zI_inj (by omega), fun _ hd => ?_⟩
                  · exact absurd (zrc_mono n hk hd.1) g3
                  · exact absurd ⟨i, by omega, g1, g5⟩ hd
                · rw [zm_In _ _ _ _ hxj]
                  refine ⟨h1, fun hz ⟨y, y1, y2, y3⟩ => h2 hz ⟨y, by omega, y2, y3⟩, fun hz hd => h3 hz (fun ⟨y, y1, y2, y3⟩ => hd ⟨y, by omega, y2, y3⟩)⟩
              · rw [if_pos (zb_0.mpr g5)]
                exact skip (Or.inl (fun hh => g5 hh.2.1))
            · rw [if_neg g2]
              refine skip ?_
              by_cases g3 : zrc (P kind) a n j
              · exact Or.inl (fun hh => hh.2.2 g3)
              · refine Or.inr ?_
                apply Classical.byContradiction
                intro g4
                exact g2 ((zfarI_m b3 (by omega) hj).mpr ⟨g3, g4⟩)
          · rw [if_neg (fun hh => g1 ((zfarI_n b3 (by omega) hi).mp hh))]
            exact skip (Or.inl (fun hh => g1 hh.1))
        · rintro ⟨N3, v2⟩ ⟨b1, b2, b3⟩
          dsimp only at b1 b2 b3
          refine ⟨N3, ?_, ?_⟩
          · unfold f_X12_fewest_L64
            dsimp only
            rw [b1, b2.1 0 4 rfl, hF1, if_pos (by simp (disch := omega) only [zk_bind, zk_chk, zk_bnd, zk_some, zlp_l, zlp_r, zb_some, zb_bnd, zI_add, zI_sub, zI_mul, zI_neg, zI_le, zI_lt, zI_eq, zI_ix, zI_inI, Int.toNat_natCast, Int.toNat_add, Int.toNat_mul, true_and, and_true]; omega)]
          · rw [zk_bnd, zk_some, zI_add]
            exact hQ2 _ ⟨zI_inj (by omega), b2, zfarI_cg b3 (fun x y _ hy _ _ _ => by omega) (fun x y hh => (hP x y hh).1)⟩
      · rintro ⟨N2, u2⟩ ⟨c1, c2, c3⟩
        dsimp only at c1 c2 c3
        refine ⟨N2, ?_, ?_⟩
        · unfold f_X12_fewest_L52
          dsimp only
          rw [c1, c2.1 0 4 rfl, hF1, if_pos (by simp (disch := omega) only [zk_bind, zk_chk, zk_bnd, zk_some, zlp_l, zlp_r, zb_some, zb_bnd, zI_add, zI_sub, zI_mul, zI_neg, zI_le, zI_lt, zI_eq, zI_ix, zI_inI, Int.toNat_natCast, Int.toNat_add, Int.toNat_mul, true_and, and_true]; omega)]
        · rw [zk_bnd, zk_some, zI_add]
          refine hQ _ ⟨zI_inj (by omega), c2, fun x hx => ?_⟩
          obtain ⟨h1, h2, h3⟩ := c3 x hx
          refine ⟨fun k hk hdk => ?_, fun _ ⟨_, hh, _⟩ => hh.elim, fun hz _ => ?_⟩
          · by_cases hkn : k ≤ n
            · exact h1 k hkn hdk
            · have hk1 : k = n + 1 := by omega
              rw [hk1] at hdk ⊢
              have hz : ¬ zrc (P kind) a n x := hdk.2 n (by omega)
              refine h2 hz ?_
              rcases hdk.1 with hh | ⟨y, y1, y2⟩
              · exact absurd hh hz
              · refine ⟨y, (hP y x y2).1, ⟨y1, fun j hj hh => hz ?_⟩, y2⟩
                exact zrc_mono n (show j + 1 ≤ n by omega) (Or.inr ⟨y, hh, y2⟩)
          · have hz' : ¬ zrc (P kind) a n x := fun hh => hz (Or.inl hh)
            refine h3 hz' ?_
            rintro ⟨y, _, y2, y3⟩
            exact hz (Or.inr ⟨y, y2.1, y3⟩)
    · rintro ⟨N1, t2⟩ ⟨d1, d2, d3⟩
      dsimp only at d1 d2 d3
      have hv := (d3 b hb).1 d (Nat.le_refl _) hd
      refine ⟨N1, ?_, ?_⟩
      · unfold f_X12_fewest_L39
        dsimp only
        rw [zI_inI (by omega) (by omega) (by omega), zb_chk, zI_ix (by omega) (by omega), Int.toNat_natCast, hv, if_neg (by simp (disch := omega) only [zk_bind, zk_chk, zk_bnd, zk_some, zlp_l, zlp_r, zb_some, zb_bnd, zI_add, zI_sub, zI_mul, zI_neg, zI_le, zI_lt, zI_eq, zI_ix, zI_inI, Int.toNat_natCast, Int.toNat_add, Int.toNat_mul, true_and, and_true]; omega)]
      · rw [zI_inI (by omega) (by omega) (by omega), zb_chk, zk_some, zI_ix (by omega) (by omega), Int.toNat_natCast]
        exact ⟨hv, d2⟩
-- the call
def zfp (σ : ZT) (i j : Nat) : Prop := (i < j ∧ j < gF σ ∧ zcla σ i j) ∧ ∀ a b, a < b → b < gF σ → (a < i ∨ (a = i ∧ b < j)) → ¬ zcla σ a b
theorem zfp_one {σ : ZT} {i j i' j' : Nat} (h : zfp σ i j) (h' : zfp σ i' j') : i = i' ∧ j = j' := by
  obtain ⟨⟨a1, a2, a3⟩, a4⟩ := h
  obtain ⟨⟨b1, b2, b3⟩, b4⟩ := h'
  have c1 : ¬ (i < i' ∨ (i = i' ∧ j < j')) := fun hh => b4 i j a1 a2 hh a3
  have c2 : ¬ (i' < i ∨ (i' = i ∧ j' < j)) := fun hh => a4 i' j' b1 b2 hh b3
  omega
def zfact (σ : ZT) (w i j : Nat) (v : Int32) : Prop := (w = 0 → v = zI i) ∧ (w = 1 → v = zI j) ∧ (w = 2 → ∀ d0 d1, zdis (dC σ 0) i j d0 → zdis (dC σ 1) i j d1 → v = zI ((d0 : Int) + d1))
def zans (σ : ZT) (w : Nat) (v : Int32) : Prop := (∃ i j, zfp σ i j ∧ zfact σ w i j v) ∨ ((∀ a b, a < b → b < gF σ → ¬ zcla σ a b) ∧ v = zI (-2))
theorem zcla_dis {σ : ZT} (ho : okT σ) {C : ZMem} (hC : relC σ C) (h13 : C.1 0 13 = zI 0) (h14 : C.1 0 14 = zI 0) {i j : Nat} (hi : i < gF σ) (hj : j < gF σ) (h : zcla σ i j) : (∃ d, zdis (dC σ 0) i j d) ∧ ∃ d, zdis (dC σ 1) i j d := by
  have hF := ho.2.1
  have hg := hC.2.2.2.2.2.2.2.1 h13 h14
  obtain ⟨z1, z2, z3, z4⟩ := h
  have one : ∀ kind q, netC (dL σ) (gh σ) (dS σ) kind q C → dG σ kind i = dG σ kind j → ∃ d, zdis (dC σ kind) i j d := by
    intro kind q hn he
    obtain ⟨_, L, h1, h2⟩ := hn
    refine zrc_grp (n := 20) h2 (fun x y hh => zcl_sym hh) (by omega) (by omega) ?_
    have e1 := zgr_L (dL_ok ho) hF (okT_hk ho) (dLX_sg hF ho.2.2.1) (fun f hf => zsg_f _ _ _ hf) h2 hi
    have e2 := zgr_L (dL_ok ho) hF (okT_hk ho) (dLX_sg hF ho.2.2.1) (fun f hf => zsg_f _ _ _ hf) h2 hj
    have z1' : zsg (gF σ) (gf σ) (gh σ) i = i := z1
    have z2' : zsg (gF σ) (gf σ) (gh σ) j = j := z2
    rw [z1'] at e1
    rw [z2'] at e2
    rw [e1, e2]
    exact he
  exact ⟨one 0 41 hg.1 z3, one 1 45 hg.2.1 z4⟩
theorem zans_one {σ : ZT} (ho : okT σ) {C : ZMem} (hC : relC σ C) (h13 : C.1 0 13 = zI 0) (h14 : C.1 0 14 = zI 0) {w : Nat} (hw : w ≤ 2) {v v' : Int32} (h : zans σ w v) (h' : zans σ w v') : v = v' := by
  rcases h with ⟨i, j, a1, a2⟩ | ⟨a1, a2⟩
  · rcases h' with ⟨i', j', b1, b2⟩ | ⟨b1, b2⟩
    · obtain ⟨rfl, rfl⟩ := zfp_one a1 b1
      rcases (show w = 0 ∨ w = 1 ∨ w = 2 by omega) with hw | hw | hw
      · rw [a2.1 hw, b2.1 hw]
      · rw [a2.2.1 hw, b2.2.1 hw]
      · obtain ⟨⟨d0, e0⟩, d1, e1⟩ := zcla_dis ho hC h13 h14 (by have := a1.1; omega) a1.1.2.1 a1.1.2.2
        rw [a2.2.2 hw d0 d1 e0 e1, b2.2.2 hw d0 d1 e0 e1]
    · exact absurd a1.1.2.2 (b1 i j a1.1.1 a1.1.2.1)
  · rcases h' with ⟨i', j', b1, b2⟩ | ⟨b1, b2⟩
    · exact absurd b1.1.2.2 (a1 i' j' b1.1.1 b1.1.2.1)
    · rw [a2, b2]
theorem c_clash {σ : ZT} {C : ZMem} (ho : okT σ) (hC : relC σ C) (h13 : C.1 0 13 = zI 0) (h14 : C.1 0 14 = zI 0) {w : Nat} (hw : w ≤ 2) : zOk (zbind (zloop (f_X11_clash_L17 C (zI w)) (zI 0)) (fun e17 => zsel e17 (fun e17a => some (C, (zI (-2)))) (fun e17b => some e17b))) (fun r => r.1 = C ∧ zans σ w r.2) := by
  have hF := ho.2.1
  have hF0 := hC.2.1.1.2.1
  have hg := hC.2.2.2.2.2.2.2.1 h13 h14
  have hP : ∀ kind a b, dC σ kind a b → b < 20 := fun kind a b hh => by have := (dC_sg ho hh).2.1; omega
  rw [zk_bind]
  refine zOk_forQ (fun i s => s = zI i ∧ ∀ a b, a < i → a < b → b < gF σ → ¬ zcla σ a b) (gF σ) ?_ ?_ ⟨rfl, fun a b h => absurd h (Nat.not_lt_zero a)⟩
  · rintro i s hi ⟨rfl, e2⟩ Q hQ hE
    unfold f_X11_clash_L17 f_X0_told
    rw [zb_some, hF0, if_neg (by simp (disch := omega) only [zk_bind, zk_chk, zk_bnd, zk_some, zlp_l, zlp_r, zb_some, zb_bnd, zI_add, zI_sub, zI_mul, zI_neg, zI_le, zI_lt, zI_eq, zI_ix, zI_inI, Int.toNat_natCast, Int.toNat_add, Int.toNat_mul, true_and, and_true]; omega), zk_bnd, zk_bind, zI_add]
    refine zOk_forQ (fun j s => s = zI ((i + 1 + j : Nat) : Int) ∧ ∀ b, i < b → b < i + 1 + j → ¬ zcla σ i b) (gF σ - (i + 1)) ?_ ?_ ⟨rfl, fun b h1 h2 => by omega⟩
    · rintro j s hj ⟨rfl, d2⟩ Q' hQ' hE'
      unfold f_X11_clash_L32 f_X0_told
      rw [zb_some, hF0, if_neg (by simp (disch := omega) only [zk_bind, zk_chk, zk_bnd, zk_some, zlp_l, zlp_r, zb_some, zb_bnd, zI_add, zI_sub, zI_mul, zI_neg, zI_le, zI_lt, zI_eq, zI_ix, zI_inI, Int.toNat_natCast, Int.toNat_add, Int.toNat_mul, true_and, and_true]; omega), c_clashing ho hC h13 h14 hi (show i + 1 + j < gF σ by omega), zb_some]
      by_cases hz : zcla σ i (i + 1 + j)
      · obtain ⟨⟨x0, y0⟩, x1, y1⟩ := zcla_dis ho hC h13 h14 hi (show i + 1 + j < gF σ by omega) hz
        have hfp : zfp σ i (i + 1 + j) := ⟨⟨by omega, by omega, hz⟩, fun a b h1 h2 h3 => by
          rcases h3 with h3 | ⟨h3, h4⟩
          · exact e2 a b h3 h1 h2
          · rw [h3]; rw [h3] at h1; exact d2 b h1 h4⟩
        rw [if_neg (fun hh => zb_0.mp hh hz)]
        have fct : ∃ v, f_X11_clashFact C (zI i) (zI ((i + 1 + j : Nat) : Int)) (zI w) = some v ∧ zfact σ w i (i + 1 + j) v := by
          unfold f_X11_clashFact
          rcases (show w = 0 ∨ w = 1 ∨ w = 2 by omega) with rfl | rfl | rfl
          · exact ⟨_, if_pos rfl, fun _ => rfl, by omega, by omega⟩
          · rw [if_neg (by decide)]
            exact ⟨_, if_pos rfl, by omega, fun _ => rfl, by omega⟩
          · rw [if_neg (by decide), if_neg (by decide), c_steps hg.1.1 (hP 0) (by omega) (by omega) y0, zb_some, c_steps hg.2.1.1 (hP 1) (by omega) (by omega) y1, zb_some, zI_add]
            refine ⟨_, rfl, by omega, by omega, fun _ d0 d1 q0 q1 => ?_⟩
            rw [zdis_one q0 y0, zdis_one q1 y1]
        obtain ⟨v, v1, v2⟩ := fct
        rw [v1, zb_some, zk_some]
        refine hE' _ ?_
        show zOk (some (Sum.inr (Sum.inr (C, v)))) Q
        rw [zk_some]
        refine hE _ ?_
        show zOk (some (C, v)) _
        rw [zk_some]
        exact ⟨rfl, Or.inl ⟨i, i + 1 + j, hfp, v2⟩⟩
      · rw [if_pos (zb_0.mpr hz), zk_bnd, zk_some, zI_add]
        refine hQ' _ ⟨zI_inj (by omega), fun b h1 h2 => ?_⟩
        by_cases hb : b = i + 1 + j
        · rw [hb]; exact hz
        · exact d2 b h1 (by omega)
    · rintro s ⟨rfl, d2⟩
      refine ⟨.inl (), ?_, ?_⟩
      · unfold f_X11_clash_L32 f_X0_told
        rw [zb_some, hF0, if_pos (by simp (disch := omega) only [zk_bind, zk_chk, zk_bnd, zk_some, zlp_l, zlp_r, zb_some, zb_bnd, zI_add, zI_sub, zI_mul, zI_neg, zI_le, zI_lt, zI_eq, zI_ix, zI_inI, Int.toNat_natCast, Int.toNat_add, Int.toNat_mul, true_and, and_true]; omega)]
      · show zOk (zbnd (zI ((i : Int) + 1)) (fun x2_66 => some (.inl x2_66))) Q
        rw [zk_bnd, zk_some]
        refine hQ _ ⟨zI_inj (by omega), fun a b h1 h2 h3 => ?_⟩
        by_cases hai : a = i
        · rw [hai]; exact d2 b (by omega) (by omega)
        · exact e2 a b (by omega) h2 h3
  · rintro s ⟨rfl, e2⟩
    refine ⟨.inl (), ?_, ?_⟩
    · unfold f_X11_clash_L17 f_X0_told
      rw [zb_some, hF0, if_pos (by simp (disch := omega) only [zk_bind, zk_chk, zk_bnd, zk_some, zlp_l, zlp_r, zb_some, zb_bnd, zI_add, zI_sub, zI_mul, zI_neg, zI_le, zI_lt, zI_eq, zI_ix, zI_inI, Int.toNat_natCast, Int.toNat_add, Int.toNat_mul, true_and, and_true]; omega)]
    · show zOk (some (C, zI (-2))) _
      rw [zk_some]
      exact ⟨rfl, Or.inr ⟨fun a b h1 h2 => e2 a b (by omega) h1 h2, rfl⟩⟩
theorem r_clash {σ : ZT} {C R : ZMem} (ho : okT σ) (hC : relC σ C) (h13 : C.1 0 13 = zI 0) (h14 : C.1 0 14 = zI 0) (hR : relR σ R) (hl : laidR (gF σ) (gf σ) (gs σ) (gh σ) R) {w : Nat} (hw : w ≤ 2) : zOk (zbind (zloop (f_X12_clash_L17 (zI w)) (R, (zI 0))) (fun e17 => zsel e17 (fun e17a => some (e17a, (zI (-2)))) (fun e17b => some e17b))) (fun r => zP (fun a _ => a == 24) R r.1 ∧ zans σ w r.2) := by
  have hF := ho.2.1
  have hF1 := hR.2.1.2.1
  have hP : ∀ kind a b, dC σ kind a b → a < gF σ ∧ b < gF σ := fun kind a b hh => ⟨(dC_sg ho hh).1.1, (dC_sg ho hh).2.1⟩
  have hcl : cluR (dC σ) R := hl.2.2.2.1
  rw [zk_bind]
  refine zOk_forQ (fun i s => s = (R, zI i) ∧ ∀ a b, a < i → a < b → b < gF σ → ¬ zcla σ a b) (gF σ) ?_ ?_ ⟨rfl, fun a b h => absurd h (Nat.not_lt_zero a)⟩
  · rintro i s hi ⟨rfl, e2⟩ Q hQ hE
    unfold f_X12_clash_L17
    dsimp only
    rw [hF1, if_neg (by simp (disch := omega) only [zk_bind, zk_chk, zk_bnd, zk_some, zlp_l, zlp_r, zb_some, zb_bnd, zI_add, zI_sub, zI_mul, zI_neg, zI_le, zI_lt, zI_eq, zI_ix, zI_inI, Int.toNat_natCast, Int.toNat_add, Int.toNat_mul, true_and, and_true]; omega), zk_bnd, zk_bind, zI_add]
    refine zOk_forQ (fun j s => s = (R, zI ((i + 1 + j : Nat) : Int)) ∧ ∀ b, i < b → b < i + 1 + j → ¬ zcla σ i b) (gF σ - (i + 1)) ?_ ?_ ⟨rfl, fun b h1 h2 => by omega⟩
    · rintro j s hj ⟨rfl, d2⟩ Q' hQ' hE'
      unfold f_X12_clash_L29
      dsimp only
      rw [hF1, if_neg (by simp (disch := omega) only [zk_bind, zk_chk, zk_bnd, zk_some, zlp_l, zlp_r, zb_some, zb_bnd, zI_add, zI_sub, zI_mul, zI_neg, zI_le, zI_lt, zI_eq, zI_ix, zI_inI, Int.toNat_natCast, Int.toNat_add, Int.toNat_mul, true_and, and_true]; omega), r_doClash ho hR hl hi (show i + 1 + j < gF σ by omega), zb_some]
      by_cases hz : zcla σ i (i + 1 + j)
      · obtain ⟨⟨x0, y0⟩, x1, y1⟩ := zcla_dis ho hC h13 h14 hi (show i + 1 + j < gF σ by omega) hz
        have hfp : zfp σ i (i + 1 + j) := ⟨⟨by omega, by omega, hz⟩, fun a b h1 h2 h3 => by
          rcases h3 with h3 | ⟨h3, h4⟩
          · exact e2 a b h3 h1 h2
          · rw [h3]; rw [h3] at h1; exact d2 b h1 h4⟩
        have out : ∀ (R' : ZMem) (v : Int32), zP (fun a _ => a == 24) R R' → zfact σ w i (i + 1 + j) v → Q' (.inr (.inr (R', v))) := by
          intro R' v p1 v2
          refine hE' _ ?_
          show zOk (some (Sum.inr (Sum.inr (R', v)))) Q
          rw [zk_some]
          refine hE _ ?_
          show zOk (some (R', v)) _
          rw [zk_some]
          exact ⟨p1, Or.inl ⟨i, i + 1 + j, hfp, v2⟩⟩
        rw [if_neg (fun hh => zb_0.mp hh hz)]
        rcases (show w = 0 ∨ w = 1 ∨ w = 2 by omega) with rfl | rfl | rfl
        · rw [if_pos (c := zI ((0 : Nat) : Int) = zI 0) rfl, zk_some]
          exact out R _ zP_rf ⟨fun _ => rfl, by omega, by omega⟩
        · rw [if_neg (by decide), if_pos (c := zI ((1 : Nat) : Int) = zI 1) rfl, zk_some]
          exact out R _ zP_rf ⟨by omega, fun _ => rfl, by omega⟩
        · rw [if_neg (by decide), if_neg (by decide), zk_bind]
          refine zOk_mono (r_fewest hF hF1 hcl (kind := 0) (by omega) (hP 0) hi (show i + 1 + j < gF σ by omega) y0) (fun r k => ?_)
          obtain ⟨R1, v1⟩ := r
          obtain ⟨k1, k2⟩ := k
          dsimp only at k1 k2 ⊢
          rw [zk_bind]
          have hcl1 : cluR (dC σ) R1 := fun kind a b c1 c2 c3 => by rw [k2.1 22 _ rfl]; exact hcl kind a b c1 c2 c3
          refine zOk_mono (r_fewest hF (by rw [k2.1 0 4 rfl]; exact hF1) hcl1 (kind := 1) (by omega) (hP 1) hi (show i + 1 + j < gF σ by omega) y1) (fun r k => ?_)
          obtain ⟨R2, v2⟩ := r
          obtain ⟨k3, k4⟩ := k
          dsimp only at k3 k4 ⊢
          rw [zk_some, k1, k3, zI_add]
          refine out R2 _ (zP_tr k2 k4) ⟨by omega, by omega, fun _ d0 d1 q0 q1 => ?_⟩
          rw [zdis_one q0 y0, zdis_one q1 y1]
      · rw [if_pos (zb_0.mpr hz), zk_bnd, zk_some, zI_add]
        refine hQ' _ ⟨by rw [show (((i + 1 + j : Nat) : Int) + 1) = ((i + 1 + (j + 1) : Nat) : Int) by omega], fun b h1 h2 => ?_⟩
        by_cases hb : b = i + 1 + j
        · rw [hb]; exact hz
        · exact d2 b h1 (by omega)
    · rintro s ⟨rfl, d2⟩
      refine ⟨.inl R, ?_, ?_⟩
      · unfold f_X12_clash_L29
        dsimp only
        rw [hF1, if_pos (by simp (disch := omega) only [zk_bind, zk_chk, zk_bnd, zk_some, zlp_l, zlp_r, zb_some, zb_bnd, zI_add, zI_sub, zI_mul, zI_neg, zI_le, zI_lt, zI_eq, zI_ix, zI_inI, Int.toNat_natCast, Int.toNat_add, Int.toNat_mul, true_and, and_true]; omega)]
      · show zOk (zbnd (zI ((i : Int) + 1)) (fun x2_85 => some (.inl (R, x2_85)))) Q
        rw [zk_bnd, zk_some]
        refine hQ _ ⟨by rw [show ((i : Int) + 1) = ((i + 1 : Nat) : Int) by omega], fun a b h1 h2 h3 => ?_⟩
        by_cases hai : a = i
        · rw [hai]; exact d2 b (by omega) (by omega)
        · exact e2 a b (by omega) h2 h3
  · rintro s ⟨rfl, e2⟩
    refine ⟨.inl R, ?_, ?_⟩
    · unfold f_X12_clash_L17
      dsimp only
      rw [hF1, if_pos (by simp (disch := omega) only [zk_bind, zk_chk, zk_bnd, zk_some, zlp_l, zlp_r, zb_some, zb_bnd, zI_add, zI_sub, zI_mul, zI_neg, zI_le, zI_lt, zI_eq, zI_ix, zI_inI, Int.toNat_natCast, Int.toNat_add, Int.toNat_mul, true_and, and_true]; omega)]
    · show zOk (some (R, zI (-2))) _
      rw [zk_some]
      exact ⟨zP_rf, Or.inr ⟨fun a b h1 h2 => e2 a b (by omega) h1 h2, rfl⟩⟩
theorem zp_clash : zPr_clash zRel := by
  rintro M1 M2 a1 ⟨σ, ho, hc, hr⟩
  obtain ⟨a, rfl, l1, u1⟩ := zI_of a1
  have hRel : zRel M1 M2 := ⟨σ, ho, hc, hr⟩
  unfold f_X11_clash f_X12_clash
  rw [r_in l1 u1 (by omega) (by omega) (by omega) (by omega), zb_some]
  by_cases h1 : 0 ≤ a ∧ a ≤ 2
  · obtain ⟨w, rfl⟩ := Int.eq_ofNat_of_zero_le h1.1
    rw [if_neg (by simp (disch := omega) only [zk_bind, zk_chk, zk_bnd, zk_some, zlp_l, zlp_r, zb_some, zb_bnd, zI_add, zI_sub, zI_mul, zI_neg, zI_le, zI_lt, zI_eq, zI_ix, zI_inI, Int.toNat_natCast, Int.toNat_add, Int.toNat_mul, true_and, and_true]; omega), if_pos (by simp (disch := omega) only [zk_bind, zk_chk, zk_bnd, zk_some, zlp_l, zlp_r, zb_some, zb_bnd, zI_add, zI_sub, zI_mul, zI_neg, zI_le, zI_lt, zI_eq, zI_ix, zI_inI, Int.toNat_natCast, Int.toNat_add, Int.toNat_mul, true_and, and_true]; omega), if_neg (fun hh => zb_0.mp hh h1), zk_bind]
    refine zOk_mono (k_fg ho hc) (fun C h => ?_)
    obtain ⟨hC, h13, h14⟩ := h
    refine zOk_mono (c_clash ho hC h13 h14 (show w ≤ 2 by omega)) (fun r k => ?_)
    rw [zk_bind]
    refine zOk_mono (k_ls ho hr) (fun R h' => ?_)
    refine zOk_mono (r_clash ho hC h13 h14 h'.1 h'.2.2 (show w ≤ 2 by omega)) (fun r' k' => ?_)
    refine ⟨zans_one ho hC h13 h14 (show w ≤ 2 by omega) k.2 k'.2, σ, ho, by rw [k.1]; exact hC, relR_x (zP_mono k'.1 (fun a k ha => ?_)) h'.1⟩
    unfold zScR at ha
    simp at ha ⊢
    omega
  · rw [if_pos (zb_0.mpr h1)]
    by_cases h2 : a < 0
    · rw [if_pos (by simp (disch := omega) only [zk_bind, zk_chk, zk_bnd, zk_some, zlp_l, zlp_r, zb_some, zb_bnd, zI_add, zI_sub, zI_mul, zI_neg, zI_le, zI_lt, zI_eq, zI_ix, zI_inI, Int.toNat_natCast, Int.toNat_add, Int.toNat_mul, true_and, and_true]; omega), zk_some, zk_some]
      exact ⟨rfl, hRel⟩
    · rw [if_neg (by simp (disch := omega) only [zk_bind, zk_chk, zk_bnd, zk_some, zlp_l, zlp_r, zb_some, zb_bnd, zI_add, zI_sub, zI_mul, zI_neg, zI_le, zI_lt, zI_eq, zI_ix, zI_inI, Int.toNat_natCast, Int.toNat_add, Int.toNat_mul, true_and, and_true]; omega), if_neg (by simp (disch := omega) only [zk_bind, zk_chk, zk_bnd, zk_some, zlp_l, zlp_r, zb_some, zb_bnd, zI_add, zI_sub, zI_mul, zI_neg, zI_le, zI_lt, zI_eq, zI_ix, zI_inI, Int.toNat_natCast, Int.toNat_add, Int.toNat_mul, true_and, and_true]; omega), zk_some, zk_some]
      exact ⟨rfl, hRel⟩
