/-! ===== the tree ===== deps: 97.zf.testr -/
/-- step t = 400 * u + 20 * a + b looks at forms a < b that are unlike by u -/
def ztst (F : Nat) (fr : Nat → Nat) (t : Nat) : Prop := t / 20 % 20 < t % 20 ∧ t % 20 < F ∧ zU fr (t / 20 % 20) (t % 20) = t / 400
def ztD (F : Nat) (fr : Nat → Nat) (t x y : Nat) : Prop := x < y ∧ y < F ∧ 400 * zU fr x y + 20 * x + y < t
noncomputable def ztL (F : Nat) (fr : Nat → Nat) (t : Nat) : Nat → Nat := zLab F (ztD F fr t)
def zted (F : Nat) (fr : Nat → Nat) (t : Nat) : Prop := ztst F fr t ∧ ztL F fr t (t / 20 % 20) ≠ ztL F fr t (t % 20)
noncomputable def ztree (F : Nat) (fr : Nat → Nat) : List Nat := zfil (zted F fr) 10400
def treeC (F : Nat) (fr : Nat → Nat) (T : Nat) (C : ZMem) : Prop := C.1 3 10 = zI ((zfil (zted F fr) T).length : Int) ∧ ∀ k, k < (zfil (zted F fr) T).length → C.1 7 (2 * k) = zI (((zfil (zted F fr) T).getD k 0 / 20 % 20 : Nat) : Int) ∧ C.1 7 (2 * k + 1) = zI (((zfil (zted F fr) T).getD k 0 % 20 : Nat) : Int)
noncomputable def zroots (F : Nat) (L : Nat → Nat) : Nat := zsum F (fun f => zb (L f = f))
theorem zsum_dec {n : Nat} {f g : Nat → Nat} {j : Nat} (hj : j < n) (h1 : g j = f j + 1) (h2 : ∀ i, i < n → i ≠ j → f i = g i) : zsum n f + 1 = zsum n g := by
  induction n with
  | zero => omega
  | succ n ih =>
    rw [zsum_s, zsum_s]
    by_cases hn : j = n
    · subst hn
      rw [zsum_cg (f := f) (g := g) (fun i hi => h2 i (by omega) (by omega))]
      omega
    · have := ih (by omega) (fun i hi hne => h2 i (by omega) hne)
      have := h2 n (by omega) (Ne.symm hn)
      omega
theorem zroots_join {F : Nat} {lk : Nat → Nat → Prop} {L : Nat → Nat} (h : zComp F lk L) {a b : Nat} (ha : a < F) (hb : b < F) (hne : L a ≠ L b) : zroots F (zjn L a b) + 1 = zroots F L := by
  have ia := zComp_idem h ha
  have ib := zComp_idem h hb
  have la := h.1 a ha
  have lb := h.1 b hb
  have hmx : L (max (L a) (L b)) = max (L a) (L b) := by
    rcases Nat.le_total (L a) (L b) with hle | hle
    · rw [Nat.max_eq_right hle]; exact ib
    · rw [Nat.max_eq_left hle]; exact ia
  have hmn : L (min (L a) (L b)) = min (L a) (L b) := by
    rcases Nat.le_total (L a) (L b) with hle | hle
    · rw [Nat.min_eq_left hle]; exact ia
    · rw [Nat.min_eq_right hle]; exact ib
  unfold zroots
  refine zsum_dec (j := max (L a) (L b)) (by omega) ?_ (fun i hi hij => zb_iff ?_)
  · rw [zb_t hmx, zb_f]
    unfold zjn
    rw [if_pos hmx]
    omega
  · unfold zjn
    constructor
    · intro hh
      by_cases hc : L i = max (L a) (L b)
      · rw [if_pos hc] at hh
        rw [← hh] at hc ⊢
        omega
      · rw [if_neg hc] at hh
        exact hh
    · intro hh
      rw [if_neg (by rw [hh]; exact hij)]
      exact hh
theorem zroots_cg {F : Nat} {L L' : Nat → Nat} (h : ∀ i, i < F → L i = L' i) : zroots F L = zroots F L' := zsum_cg (fun i hi => by rw [h i hi])
theorem ztD_s {F : Nat} {fr : Nat → Nat} {t : Nat} (ht : t < 10400) (h : ztst F fr t) {x y : Nat} (hx : x < 20) (hy : y < 20) : ztD F fr (t + 1) x y ↔ ztD F fr t x y ∨ (x = t / 20 % 20 ∧ y = t % 20) := by
  obtain ⟨h1, h2, h3⟩ := h
  constructor
  · rintro ⟨a1, a2, a3⟩
    by_cases hc : 400 * zU fr x y + 20 * x + y < t
    · exact Or.inl ⟨a1, a2, hc⟩
    · right
      omega
  · rintro (⟨a1, a2, a3⟩ | ⟨rfl, rfl⟩)
    · exact ⟨a1, a2, by omega⟩
    · exact ⟨h1, h2, by rw [h3]; omega⟩
theorem ztD_n {F : Nat} {fr : Nat → Nat} {t : Nat} (hF : F ≤ 20) (h : ¬ ztst F fr t) (x y : Nat) : ztD F fr t x y ↔ ztD F fr (t + 1) x y := by
  constructor
  · rintro ⟨a1, a2, a3⟩
    exact ⟨a1, a2, by omega⟩
  · rintro ⟨a1, a2, a3⟩
    refine ⟨a1, a2, ?_⟩
    by_cases hc : 400 * zU fr x y + 20 * x + y = t
    · exfalso
      apply h
      have e1 : t % 20 = y := by omega
      have e2 : t / 20 % 20 = x := by omega
      have e3 : t / 400 = zU fr x y := by omega
      unfold ztst
      rw [e1, e2, e3]
      exact ⟨a1, a2, rfl⟩
    · omega
/-- labels, and how many branches there are -/
def ztI (F : Nat) (fr : Nat → Nat) (t : Nat) (L : Nat → Nat) : Prop := zComp F (ztD F fr t) L ∧ (zfil (zted F fr) t).length + zroots F L = F
theorem ztI_0 (F : Nat) (fr : Nat → Nat) : ztI F fr 0 (fun i => i) := by
  refine ⟨zComp_congr (zComp_none F) (fun i j _ _ => ⟨False.elim, fun h => absurd h.2.2 (Nat.not_lt_zero _)⟩) (fun _ _ => rfl), ?_⟩
  show 0 + zroots F _ = F
  rw [Nat.zero_add]
  unfold zroots
  have : ∀ n, zsum n (fun f => zb (f = f)) = n := by
    intro n
    induction n with
    | zero => rfl
    | succ n ih => rw [zsum_s, ih, zb_t rfl]
  exact this F
theorem ztI_lab {F : Nat} {fr : Nat → Nat} {t : Nat} {L : Nat → Nat} (h : ztI F fr t L) {a b : Nat} (ha : a < F) (hb : b < F) : L a = L b ↔ ztL F fr t a = ztL F fr t b := by
  rw [show ztL F fr t a = L a from zLab_of h.1 ha, show ztL F fr t b = L b from zLab_of h.1 hb]
theorem ztI_n {F : Nat} {fr : Nat → Nat} {t : Nat} {L : Nat → Nat} (hF : F ≤ 20) (h : ztI F fr t L) (hn : ¬ ztst F fr t) : ztI F fr (t + 1) L ∧ zfil (zted F fr) (t + 1) = zfil (zted F fr) t := by
  have e : zfil (zted F fr) (t + 1) = zfil (zted F fr) t := zfil_f (fun hh => hn hh.1)
  refine ⟨⟨zComp_congr h.1 (fun x y _ _ => ztD_n hF hn x y) (fun _ _ => rfl), ?_⟩, e⟩
  rw [e]
  exact h.2
theorem ztI_same {F : Nat} {fr : Nat → Nat} {t : Nat} {L : Nat → Nat} (hF : F ≤ 20) (ht : t < 10400) (h : ztI F fr t L) (hs : ztst F fr t) (he : L (t / 20 % 20) = L (t % 20)) : ztI F fr (t + 1) L ∧ zfil (zted F fr) (t + 1) = zfil (zted F fr) t := by
  have hab := hs.1
  have hb := hs.2.1
  have e : zfil (zted F fr) (t + 1) = zfil (zted F fr) t := zfil_f (fun hh => hh.2 ((ztI_lab h (by omega) hb).mp he))
  refine ⟨⟨zComp_congr (zComp_same h.1 he) (fun x y hx hy => (ztD_s ht hs (by omega) (by omega)).symm) (fun _ _ => rfl), ?_⟩, e⟩
  rw [e]
  exact h.2
theorem ztI_join {F : Nat} {fr : Nat → Nat} {t : Nat} {L : Nat → Nat} (hF : F ≤ 20) (ht : t < 10400) (h : ztI F fr t L) (hs : ztst F fr t) (he : L (t / 20 % 20) ≠ L (t % 20)) : ztI F fr (t + 1) (zjn L (t / 20 % 20) (t % 20)) ∧ zfil (zted F fr) (t + 1) = zfil (zted F fr) t ++ [t] ∧ (zfil (zted F fr) t).length + 1 < F + 1 ∧ (zfil (zted F fr) t).length < 20 := by
  have hab := hs.1
  have hb := hs.2.1
  have e : zfil (zted F fr) (t + 1) = zfil (zted F fr) t ++ [t] := zfil_t ⟨hs, fun hh => he ((ztI_lab h (by omega) hb).mpr hh)⟩
  have hr := zroots_join h.1 (a := t / 20 % 20) (b := t % 20) (by omega) hb he
  have h2 := h.2
  refine ⟨⟨zComp_congr (zComp_join h.1 (a := t / 20 % 20) (b := t % 20) (by omega) hb) (fun x y hx hy => (ztD_s ht hs (by omega) (by omega)).symm) (fun _ _ => rfl), ?_⟩, e, by omega, by omega⟩
  rw [e, List.length_append, List.length_singleton]
  omega
theorem c_addBranch {M : ZMem} {n a b : Nat} (hn : n < 20) (hM : M.1 3 10 = zI n) : zOk (f_X0_addBranch M (zI a) (zI b)) (fun M' => M'.1 3 10 = zI ((n + 1 : Nat) : Int) ∧ M'.1 7 (2 * n) = zI a ∧ M'.1 7 (2 * n + 1) = zI b ∧ (∀ k, k < 2 * n → M'.1 7 k = M.1 7 k) ∧ zP (fun a k => a == 7 || (a == 3 && k == 10)) M M') := by
  unfold f_X0_addBranch
  rw [hM, if_neg (by simp (disch := omega) only [zk_bind, zk_chk, zk_bnd, zk_some, zlp_l, zlp_r, zb_some, zb_bnd, zI_add, zI_sub, zI_mul, zI_neg, zI_le, zI_lt, zI_eq, zI_ix, zI_inI, Int.toNat_natCast, Int.toNat_add, Int.toNat_mul, true_and, and_true]; omega), zI_mul, zI_inI (by omega) (by omega) (by omega), zb_chk, zk_bnd, zm_Iq _ _ _ _ (by decide), hM, zI_mul, zI_add, zI_inI (by omega) (by omega) (by omega), zb_chk, zk_bnd, zm_Iq _ _ _ _ (by decide), zm_Iq _ _ _ _ (by decide), hM, zI_add, zk_bnd, zk_some, zI_ix (by omega) (by omega), zI_ix (by omega) (by omega), show ((n : Int) * 2).toNat = 2 * n by omega, show ((n : Int) * 2 + 1).toNat = 2 * n + 1 by omega]
  refine ⟨by rw [zm_Is]; exact zI_inj (by omega), by rw [zm_Iq _ _ _ _ (by decide), zm_In _ _ _ _ (by omega), zm_Is], by rw [zm_Iq _ _ _ _ (by decide), zm_Is], fun k hk => by rw [zm_Iq _ _ _ _ (by decide), zm_In _ _ _ _ (by omega), zm_In _ _ _ _ (by omega)], zP_I (zP_I (zP_I zP_rf rfl) rfl) rfl⟩
def zWtr (a k : Nat) : Bool := a == 7 || a == 8 || (a == 3 && k == 10)
def ztS (F : Nat) (fr : Nat → Nat) (t : Nat) (M0 M : ZMem) : Prop := zP zWtr M0 M ∧ treeC F fr t M ∧ ∃ L, (∀ i, i < 20 → M.1 8 i = zI (L i)) ∧ (∀ i, i < 20 → L i < 20) ∧ (∀ i, F ≤ i → i < 20 → L i = i) ∧ ztI F fr t L
theorem ztS_n {F : Nat} {fr : Nat → Nat} {t : Nat} {M0 M : ZMem} (hF : F ≤ 20) (h : ztS F fr t M0 M) (hn : ¬ ztst F fr t) : ztS F fr (t + 1) M0 M := by
  obtain ⟨h1, h2, L, h3, h4, h5, h6⟩ := h
  obtain ⟨g1, g2⟩ := ztI_n hF h6 hn
  refine ⟨h1, ?_, L, h3, h4, h5, g1⟩
  unfold treeC
  rw [g2]
  exact h2
theorem ztS_to {F : Nat} {fr : Nat → Nat} {M0 M : ZMem} (hF : F ≤ 20) {t T : Nat} (htT : t ≤ T) (hn : ∀ s, t ≤ s → s < T → ¬ ztst F fr s) (h : ztS F fr t M0 M) : ztS F fr T M0 M := by
  obtain ⟨d, rfl⟩ := Nat.exists_eq_add_of_le htT
  clear htT
  induction d with
  | zero => exact h
  | succ d ih => exact ztS_n hF (ih (fun s h1 h2 => hn s h1 (by omega))) (hn _ (Nat.le_add_right _ _) (Nat.lt_succ_self _))
theorem zskp {u a s : Nat} (ha : a < 20) (h1 : 400 * u + 20 * a ≤ s) (h2 : s < 400 * u + 20 * a + (a + 1 + 0)) (h3 : s / 20 % 20 < s % 20) : False := by omega
theorem c_growTree {M : ZMem} {F : Nat} {fr : Nat → Nat} (hf : formsC F fr M) : zOk (f_X0_growTree M) (fun M' => treeC F fr 10400 M' ∧ zP zWtr M M') := by
  have hF := hf.1
  unfold f_X0_growTree
  rw [zk_bnd, zk_bind]
  refine zOk_mono (c_startLabels 8 20 (by decide) _) (fun M1 h1 => ?_)
  obtain ⟨a1, a2⟩ := h1
  rw [zk_bind]
  refine zOk_for0 (fun u x => x.2 = zI u ∧ ztS F fr (400 * u) M x.1) 26 ?_ ?_ ⟨rfl, zP_tr (zP_I zP_rf rfl) (zP_mono a2 (fun a k ha => by unfold zWtr at ha; simp at ha ⊢; omega)), ⟨by rw [a2.1 3 10 rfl, zm_Is]; rfl, fun k hk => absurd hk (Nat.not_lt_zero k)⟩, fun i => i, a1, fun i hi => hi, fun i _ _ => rfl, ztI_0 F fr⟩
  · rintro u ⟨x1, x2⟩ hu ⟨e1, e2⟩
    dsimp only at e1 e2
    unfold f_X0_growTree_L14
    dsimp only
    rw [e1, if_neg (by simp (disch := omega) only [zk_bind, zk_chk, zk_bnd, zk_some, zlp_l, zlp_r, zb_some, zb_bnd, zI_add, zI_sub, zI_mul, zI_neg, zI_le, zI_lt, zI_eq, zI_ix, zI_inI, Int.toNat_natCast, Int.toNat_add, Int.toNat_mul, true_and, and_true]; omega), zk_bind]
    refine zOk_for0 (fun a x => x.2 = zI a ∧ ztS F fr (400 * u + 20 * a) M x.1) F ?_ ?_ ⟨rfl, e2⟩
    · rintro a ⟨y1, y2⟩ ha ⟨d1, d2⟩
      dsimp only at d1 d2
      unfold f_X0_growTree_L22
      dsimp only
      rw [d2.1.1 3 7 rfl, hf.2.1, d1, if_neg (by simp (disch := omega) only [zk_bind, zk_chk, zk_bnd, zk_some, zlp_l, zlp_r, zb_some, zb_bnd, zI_add, zI_sub, zI_mul, zI_neg, zI_le, zI_lt, zI_eq, zI_ix, zI_inI, Int.toNat_natCast, Int.toNat_add, Int.toNat_mul, true_and, and_true]; omega), zI_add, zk_bnd, zk_bind]
      refine zOk_forQ (fun j x => x.2 = zI ((a + 1 + j : Nat) : Int) ∧ ztS F fr (400 * u + 20 * a + (a + 1 + j)) M x.1) (F - (a + 1)) ?_ ?_ ⟨zI_inj (by omega), ztS_to hF (by omega) (fun s h1 h2 h3 => zskp (by omega) h1 h2 h3.1) d2⟩
      · rintro j ⟨z1, z2⟩ hj ⟨c1, c2⟩ Q hQ _
        dsimp only at c1 c2
        have hb20 : a + 1 + j < F := by omega
        have ft : formsC F fr z1 := formsC_x (fun a k ha => c2.1.1 a k (by unfold dformsC at ha; unfold zWtr; simp at ha ⊢; omega)) hf
        have t1 : (400 * u + 20 * a + (a + 1 + j)) % 20 = a + 1 + j := by omega
        have t2 : (400 * u + 20 * a + (a + 1 + j)) / 20 % 20 = a := by omega
        have t3 : (400 * u + 20 * a + (a + 1 + j)) / 400 = u := by omega
        have hU := zU_le fr a (a + 1 + j)
        have hst : ztst F fr (400 * u + 20 * a + (a + 1 + j)) ↔ zU fr a (a + 1 + j) = u := by
          unfold ztst
          rw [t1, t2, t3]
          exact ⟨fun hh => hh.2.2, fun hh => ⟨by omega, hb20, hh⟩⟩
        unfold f_X0_growTree_L34
        dsimp only
        rw [ft.2.1, c1, if_neg (by simp (disch := omega) only [zk_bind, zk_chk, zk_bnd, zk_some, zlp_l, zlp_r, zb_some, zb_bnd, zI_add, zI_sub, zI_mul, zI_neg, zI_le, zI_lt, zI_eq, zI_ix, zI_inI, Int.toNat_natCast, Int.toNat_add, Int.toNat_mul, true_and, and_true]; omega), zI_mul, zI_add, zI_inI (by omega) (by omega) (by omega), zb_chk, zI_ix (by omega) (by omega), show ((a : Int) * 20 + ((a + 1 + j : Nat) : Int)).toNat = 20 * a + (a + 1 + j) by omega, ft.2.2.2.2 a (a + 1 + j) ha hb20]
        by_cases hc : zU fr a (a + 1 + j) = u
        · have hs := hst.mpr hc
          obtain ⟨p1, p2, L, p3, p4, p5, p6⟩ := c2
          rw [if_pos (by rw [hc]), zk_bind]
          refine zOk_mono (c_joinLabels p3 p4 (by omega) (by omega)) (fun r hr => ?_)
          obtain ⟨r1, r2, r3⟩ := hr
          by_cases hL : L a = L (a + 1 + j)
          · have hz := ztI_same hF (by omega) p6 hs (by rw [t1, t2]; exact hL)
            rw [r3, zb_f (fun hh => hh hL), if_pos (by decide), zk_bnd, zk_some, zI_add]
            refine hQ _ ⟨zI_inj (by omega), zP_tr p1 (zP_mono r2 (fun a k ha => by unfold zWtr at ha; simp at ha ⊢; omega)), ?_, zjn L a (a + 1 + j), r1, ?_, ?_, ?_⟩
            · show treeC F fr (400 * u + 20 * a + (a + 1 + j) + 1) r.1
              unfold treeC
              rw [hz.2]
              exact ⟨by rw [r2.1 3 10 rfl]; exact p2.1, fun k hk => by rw [r2.1 7 _ rfl, r2.1 7 _ rfl]; exact p2.2 k hk⟩
            · intro i hi
              have := p4 i hi
              have := p4 a (by omega)
              unfold zjn
              split <;> omega
            · intro i h1 h2
              have := p6.1.1 a ha
              unfold zjn
              rw [if_neg (by rw [p5 i h1 h2, ← hL]; omega)]
              exact p5 i h1 h2
            · have hj' : ∀ i, zjn L a (a + 1 + j) i = L i := by
                intro i
                unfold zjn
                split <;> omega
              rw [show zjn L a (a + 1 + j) = L from funext hj']
              exact hz.1
          · have hz := ztI_join hF (by omega) p6 hs (by rw [t1, t2]; exact hL)
            rw [t1, t2] at hz
            have hn20 := hz.2.2.2
            rw [r3, zb_t hL, if_neg (by decide), zk_bind]
            refine zOk_mono (c_addBranch (n := (zfil (zted F fr) (400 * u + 20 * a + (a + 1 + j))).length) hn20 (by rw [r2.1 3 10 rfl]; exact p2.1)) (fun M3 h3 => ?_)
            obtain ⟨b1, b2, b3, b4, b5⟩ := h3
            rw [zk_bnd, zk_some, zI_add]
            refine hQ _ ⟨zI_inj (by omega), zP_tr p1 (zP_tr (zP_mono r2 (fun a k ha => by unfold zWtr at ha; simp at ha ⊢; omega)) (zP_mono b5 (fun a k ha => by unfold zWtr at ha; simp at ha ⊢; omega))), ?_, zjn L a (a + 1 + j), fun i hi => by rw [b5.1 8 i rfl]; exact r1 i hi, ?_, ?_, hz.1⟩
            · show treeC F fr (400 * u + 20 * a + (a + 1 + j) + 1) M3
              unfold treeC
              rw [hz.2.1, List.length_append, List.length_singleton]
              refine ⟨b1, fun k hk => ?_⟩
              by_cases he : k = (zfil (zted F fr) (400 * u + 20 * a + (a + 1 + j))).length
              · rw [he, zgetD_e, t1, t2]
                exact ⟨b2, b3⟩
              · rw [zgetD_l (by omega), b4 _ (by omega), b4 _ (by omega), r2.1 7 _ rfl, r2.1 7 _ rfl]
                exact p2.2 k (by omega)
            · intro i hi
              have := p4 i hi
              have := p4 a (by omega)
              have := p4 (a + 1 + j) (by omega)
              unfold zjn
              split <;> omega
            · intro i h1 h2
              have := p6.1.1 a ha
              have := p6.1.1 (a + 1 + j) hb20
              unfold zjn
              rw [if_neg (by rw [p5 i h1 h2]; omega)]
              exact p5 i h1 h2
        · rw [if_neg (by simp (disch := omega) only [zk_bind, zk_chk, zk_bnd, zk_some, zlp_l, zlp_r, zb_some, zb_bnd, zI_add, zI_sub, zI_mul, zI_neg, zI_le, zI_lt, zI_eq, zI_ix, zI_inI, Int.toNat_natCast, Int.toNat_add, Int.toNat_mul, true_and, and_true]; omega), zk_bnd, zk_some, zI_add]
          exact hQ _ ⟨zI_inj (by omega), ztS_n hF c2 (fun hh => hc (hst.mp hh))⟩
      · rintro ⟨z1, z2⟩ ⟨c1, c2⟩
        dsimp only at c1 c2
        refine ⟨z1, ?_, ?_⟩
        · unfold f_X0_growTree_L34
          dsimp only
          rw [c2.1.1 3 7 rfl, hf.2.1, c1, if_pos (by simp (disch := omega) only [zk_bind, zk_chk, zk_bnd, zk_some, zlp_l, zlp_r, zb_some, zb_bnd, zI_add, zI_sub, zI_mul, zI_neg, zI_le, zI_lt, zI_eq, zI_ix, zI_inI, Int.toNat_natCast, Int.toNat_add, Int.toNat_mul, true_and, and_true]; omega)]
        · rw [zk_bnd, zk_some, zlp_l]
          refine ⟨zI_inj (by omega), ztS_to hF (by omega) (fun s h1 h2 h3 => ?_) c2⟩
          have := h3.2.1
          omega
    · rintro ⟨y1, y2⟩ ⟨d1, d2⟩
      dsimp only at d1 d2
      unfold f_X0_growTree_L22
      dsimp only
      rw [d2.1.1 3 7 rfl, hf.2.1, d1, if_pos (by simp (disch := omega) only [zk_bind, zk_chk, zk_bnd, zk_some, zlp_l, zlp_r, zb_some, zb_bnd, zI_add, zI_sub, zI_mul, zI_neg, zI_le, zI_lt, zI_eq, zI_ix, zI_inI, Int.toNat_natCast, Int.toNat_add, Int.toNat_mul, true_and, and_true]; omega), zk_some, zlp_r, zk_bnd, zk_some, zlp_l, zI_add]
      refine ⟨zI_inj (by omega), ztS_to hF (by omega) (fun s h1 h2 h3 => ?_) d2⟩
      have := h3.1
      have := h3.2.1
      omega
  · rintro ⟨x1, x2⟩ ⟨e1, e2⟩
    dsimp only at e1 e2
    unfold f_X0_growTree_L14
    dsimp only
    rw [e1, if_pos (by simp (disch := omega) only [zk_bind, zk_chk, zk_bnd, zk_some, zlp_l, zlp_r, zb_some, zb_bnd, zI_add, zI_sub, zI_mul, zI_neg, zI_le, zI_lt, zI_eq, zI_ix, zI_inI, Int.toNat_natCast, Int.toNat_add, Int.toNat_mul, true_and, and_true]; omega), zk_some, zlp_r, zk_some]
    exact ⟨e2.2.1, e2.1⟩
