/-! ===== the tree: the reference ===== deps: 97.zg.tree -/
def ztA (t what : Nat) : Nat := if what = 0 then t / 400 else if what = 1 then t / 20 % 20 else t % 20
noncomputable def ztreeA (F : Nat) (fr : Nat → Nat) (k what : Nat) : Int := if k < (ztree F fr).length then (ztA ((ztree F fr).getD k 0) what : Int) else -1
def ztJ (F : Nat) (fr : Nat → Nat) (t : Nat) (M0 M : ZMem) : Prop := zP (fun a _ => a == 12) M0 M ∧ ∃ J : Nat → Nat, (∀ f, f < F → M.1 12 f = zI (J f)) ∧ (∀ f, f < F → J f < 20) ∧ ∀ x y, x < F → y < F → (J x = J y ↔ ztL F fr t x = ztL F fr t y)
theorem ztL_comp (F : Nat) (fr : Nat → Nat) (t : Nat) : zComp F (ztD F fr t) (ztL F fr t) := zLab_comp F (ztD F fr t)
theorem ztL_n {F : Nat} {fr : Nat → Nat} {t : Nat} (hF : F ≤ 20) (hn : ¬ ztst F fr t) {x : Nat} (hx : x < F) : ztL F fr (t + 1) x = ztL F fr t x := zLab_of (zComp_congr (ztL_comp F fr t) (fun x y _ _ => ztD_n hF hn x y) (fun _ _ => rfl)) hx
theorem ztL_same {F : Nat} {fr : Nat → Nat} {t : Nat} (hF : F ≤ 20) (ht : t < 10400) (hs : ztst F fr t) (he : ztL F fr t (t / 20 % 20) = ztL F fr t (t % 20)) {x : Nat} (hx : x < F) : ztL F fr (t + 1) x = ztL F fr t x := zLab_of (zComp_congr (zComp_same (ztL_comp F fr t) he) (fun x y hx hy => (ztD_s ht hs (by omega) (by omega)).symm) (fun _ _ => rfl)) hx
theorem ztL_join {F : Nat} {fr : Nat → Nat} {t : Nat} (hF : F ≤ 20) (ht : t < 10400) (hs : ztst F fr t) {x : Nat} (hx : x < F) : ztL F fr (t + 1) x = zjn (ztL F fr t) (t / 20 % 20) (t % 20) x := zLab_of (zComp_congr (zComp_join (ztL_comp F fr t) (a := t / 20 % 20) (b := t % 20) (by have := hs.1; have := hs.2.1; omega) hs.2.1) (fun x y hx hy => (ztD_s ht hs (by omega) (by omega)).symm) (fun _ _ => rfl)) hx
theorem ztJ_n {F : Nat} {fr : Nat → Nat} {t : Nat} {M0 M : ZMem} (h : ztJ F fr t M0 M) (e : ∀ x, x < F → ztL F fr (t + 1) x = ztL F fr t x) : ztJ F fr (t + 1) M0 M := by
  obtain ⟨h1, J, h2, h3, h4⟩ := h
  exact ⟨h1, J, h2, h3, fun x y hx hy => by rw [e x hx, e y hy]; exact h4 x y hx hy⟩
theorem r_joins {M : ZMem} {F : Nat} {J : Nat → Nat} {p q : Nat} (hF : F ≤ 20) (hF1 : M.1 0 4 = zI F) (hJ : ∀ f, f < F → M.1 12 f = zI (J f)) (hJ2 : ∀ f, f < F → J f < 20) (hp : p < 20) (hq : q < 20) : zOk (f_X12_joins M (zI p) (zI q)) (fun M' => (∀ f, f < F → M'.1 12 f = zI ((if J f = q then p else J f : Nat) : Int)) ∧ zP (fun a _ => a == 12) M M') := by
  unfold f_X12_joins
  rw [zk_bind]
  refine zOk_forQ (fun i s => s.2 = zI i ∧ zP (fun a _ => a == 12) M s.1 ∧ ∀ f, f < F → s.1.1 12 f = zI ((if f < i then (if J f = q then p else J f) else J f : Nat) : Int)) F ?_ ?_ ⟨rfl, zP_rf, fun f hf => by rw [if_neg (Nat.not_lt_zero f)]; exact hJ f hf⟩
  · rintro i ⟨s1, s2⟩ hi ⟨e1, e2, e3⟩ Q hQ _
    dsimp only at e1 e2 e3
    have h4 := e3 i hi
    rw [if_neg (Nat.lt_irrefl i)] at h4
    have hji := hJ2 i hi
    have key : ∀ v : Nat, v = (if J i = q then p else J i) → zOk (f_X12_joins_35_L2 s1 (zI p) (zI q) (zI i) (zI i) (zI v)) Q := by
      intro v hv
      unfold f_X12_joins_35_L2
      rw [zI_inI (by omega) (by omega) (by omega), zb_chk, zI_ix (by omega) (by omega), Int.toNat_natCast, zk_bnd, zk_bnd, zk_some, zI_add]
      refine hQ _ ⟨zI_inj (by omega), zP_I e2 rfl, fun f hf => ?_⟩
      by_cases he : f = i
      · rw [he, zm_Is, if_pos (Nat.lt_succ_self i), hv]
      · rw [zm_In _ _ _ _ he, e3 f hf]
        by_cases hl : f < i
        · rw [if_pos hl, if_pos (show f < i + 1 by omega)]
        · rw [if_neg hl, if_neg (show ¬ f < i + 1 by omega)]
    unfold f_X12_joins_L2
    dsimp only
    rw [e2.1 0 4 rfl, hF1, e1, if_neg (by simp (disch := omega) only [zk_bind, zk_chk, zk_bnd, zk_some, zlp_l, zlp_r, zb_some, zb_bnd, zI_add, zI_sub, zI_mul, zI_neg, zI_le, zI_lt, zI_eq, zI_ix, zI_inI, Int.toNat_natCast, Int.toNat_add, Int.toNat_mul, true_and, and_true]; omega), zI_inI (by omega) (by omega) (by omega), zb_chk, zb_chk, zI_ix (by omega) (by omega), Int.toNat_natCast, h4]
    by_cases hc : J i = q
    · rw [if_pos (by rw [hc])]
      exact key p (by rw [if_pos hc])
    · rw [if_neg (by simp (disch := omega) only [zk_bind, zk_chk, zk_bnd, zk_some, zlp_l, zlp_r, zb_some, zb_bnd, zI_add, zI_sub, zI_mul, zI_neg, zI_le, zI_lt, zI_eq, zI_ix, zI_inI, Int.toNat_natCast, Int.toNat_add, Int.toNat_mul, true_and, and_true]; omega)]
      exact key (J i) (by rw [if_neg hc])
  · rintro ⟨s1, s2⟩ ⟨e1, e2, e3⟩
    dsimp only at e1 e2 e3
    refine ⟨s1, ?_, ?_⟩
    · unfold f_X12_joins_L2
      dsimp only
      rw [e2.1 0 4 rfl, hF1, e1, if_pos (by simp (disch := omega) only [zk_bind, zk_chk, zk_bnd, zk_some, zlp_l, zlp_r, zb_some, zb_bnd, zI_add, zI_sub, zI_mul, zI_neg, zI_le, zI_lt, zI_eq, zI_ix, zI_inI, Int.toNat_natCast, Int.toNat_add, Int.toNat_mul, true_and, and_true]; omega)]
    · rw [zk_some]
      exact ⟨fun f hf => by rw [e3 f hf, if_pos hf], e2⟩
theorem zjn_iff {jx jy ja jb lx ly la lb : Nat} (xa : jx = ja ↔ lx = la) (xb : jx = jb ↔ lx = lb) (ya : jy = ja ↔ ly = la) (yb : jy = jb ↔ ly = lb) (xy : jx = jy ↔ lx = ly) (ab : ja = jb ↔ la = lb) : (if jx = jb then ja else jx) = (if jy = jb then ja else jy) ↔ (if lx = max la lb then min la lb else lx) = (if ly = max la lb then min la lb else ly) := by
  rcases Nat.le_total la lb with h | h
  · rw [Nat.max_eq_right h, Nat.min_eq_left h]
    split <;> split <;> split <;> split <;> omega
  · rw [Nat.max_eq_left h, Nat.min_eq_right h]
    split <;> split <;> split <;> split <;> omega
theorem ztJ_join {F : Nat} {fr : Nat → Nat} {t : Nat} {M0 M M' : ZMem} {J : Nat → Nat} (hF : F ≤ 20) (ht : t < 10400) (hs : ztst F fr t) (h1 : zP (fun a _ => a == 12) M0 M') (hJ2 : ∀ f, f < F → J f < 20) (hJ3 : ∀ x y, x < F → y < F → (J x = J y ↔ ztL F fr t x = ztL F fr t y)) (hM : ∀ f, f < F → M'.1 12 f = zI ((if J f = J (t % 20) then J (t / 20 % 20) else J f : Nat) : Int)) : ztJ F fr (t + 1) M0 M' := by
  have hb := hs.2.1
  have ha : t / 20 % 20 < F := by have := hs.1; omega
  refine ⟨h1, fun f => if J f = J (t % 20) then J (t / 20 % 20) else J f, hM, fun f hf => ?_, fun x y hx hy => ?_⟩
  · have := hJ2 f hf
    have := hJ2 _ ha
    dsimp only
    split <;> omega
  · rw [ztL_join hF ht hs hx, ztL_join hF ht hs hy]
    have xa := hJ3 x _ hx ha
    have xb := hJ3 x _ hx hb
    have ya := hJ3 y _ hy ha
    have yb := hJ3 y _ hy hb
    have xy := hJ3 x y hx hy
    have ab := hJ3 _ _ ha hb
    exact zjn_iff xa xb ya yb xy ab
theorem zted_len {F : Nat} {fr : Nat → Nat} {t : Nat} (ht : t < 10400) (h : zted F fr t) : (zfil (zted F fr) t).length < (ztree F fr).length ∧ (ztree F fr).getD (zfil (zted F fr) t).length 0 = t := by
  obtain ⟨r, hr⟩ := zfil_split (zted F fr) (k := t + 1) (W := 10400) (by omega)
  unfold ztree
  rw [hr, zfil_t h]
  constructor
  · rw [List.length_append, List.length_append, List.length_singleton]
    omega
  · rw [zgetD_l (by rw [List.length_append, List.length_singleton]; omega), zgetD_e]
theorem ztJ_to {F : Nat} {fr : Nat → Nat} {M0 M : ZMem} (hF : F ≤ 20) {t T : Nat} (htT : t ≤ T) (hn : ∀ s, t ≤ s → s < T → ¬ ztst F fr s) (h : ztJ F fr t M0 M) : ztJ F fr T M0 M ∧ zfil (zted F fr) T = zfil (zted F fr) t := by
  obtain ⟨d, rfl⟩ := Nat.exists_eq_add_of_le htT
  clear htT
  induction d with
  | zero => exact ⟨h, rfl⟩
  | succ d ih =>
    have hi := ih (fun s h1 h2 => hn s h1 (by omega))
    have hx := hn _ (Nat.le_add_right t d) (Nat.lt_succ_self _)
    refine ⟨ztJ_n hi.1 (fun x hx' => ztL_n hF hx hx'), ?_⟩
    rw [← hi.2]
    exact zfil_f (fun hh => hx hh.1)
def ztK (F : Nat) (fr : Nat → Nat) (k t : Nat) (M0 : ZMem) (x : ZMem × Int32) : Prop := ztJ F fr t M0 x.1 ∧ x.2 = zI ((zfil (zted F fr) t).length : Int) ∧ (zfil (zted F fr) t).length ≤ k
theorem ztK_to {F : Nat} {fr : Nat → Nat} {k : Nat} {M0 : ZMem} {x : ZMem × Int32} (hF : F ≤ 20) {t T : Nat} (htT : t ≤ T) (hn : ∀ s, t ≤ s → s < T → ¬ ztst F fr s) (h : ztK F fr k t M0 x) : ztK F fr k T M0 x := by
  have := ztJ_to hF htT hn h.1
  unfold ztK
  rw [this.2]
  exact ⟨this.1, h.2⟩
def ztV (F : Nat) (fr : Nat → Nat) (k w : Nat) (M0 : ZMem) (x : ZMem × Int32) : Prop := zP (fun a _ => a == 12) M0 x.1 ∧ x.2 = zI (ztreeA F fr k w)
theorem r_tree_78 {M : ZMem} {F : Nat} {fr : Nat → Nat} {k w u a : Nat} (hf : formsR F fr M) (hk : k < 100) (hw : w < 3) (hu : u < 26) (ha : a < F) {y : ZMem × Int32} (hy : ztK F fr k (400 * u + 20 * a) M y) : zOk (zloop (f_X12_tree_L78 (zI k) (zI w) (zI u) (zI a)) (y.1, y.2, zI ((a + 1 : Nat) : Int))) (fun e => zsel e (fun x => ztK F fr k (400 * u + 20 * (a + 1)) M x) (fun x => ztV F fr k w M x)) := by
  have hF := hf.1
  refine zOk_forQ (fun j x => x.2.2 = zI ((a + 1 + j : Nat) : Int) ∧ ztK F fr k (400 * u + 20 * a + (a + 1 + j)) M (x.1, x.2.1)) (F - (a + 1)) ?_ ?_ ⟨rfl, ztK_to hF (by omega) (fun s h1 h2 h3 => zskp (by omega) h1 h2 h3.1) hy⟩
  · rintro j ⟨z1, z2, z3⟩ hj ⟨c1, c2⟩ Q hQ hR
    dsimp only at c1 c2
    have hb20 : a + 1 + j < F := by omega
    have t1 : (400 * u + 20 * a + (a + 1 + j)) % 20 = a + 1 + j := by omega
    have t2 : (400 * u + 20 * a + (a + 1 + j)) / 20 % 20 = a := by omega
    have t3 : (400 * u + 20 * a + (a + 1 + j)) / 400 = u := by omega
    have hU := zU_le fr a (a + 1 + j)
    have hst : ztst F fr (400 * u + 20 * a + (a + 1 + j)) ↔ zU fr a (a + 1 + j) = u := by
      unfold ztst
      rw [t1, t2, t3]
      exact ⟨fun hh => hh.2.2, fun hh => ⟨by omega, hb20, hh⟩⟩
    obtain ⟨⟨p1, J, p2, p3, p4⟩, q2, q3⟩ := c2
    dsimp only at p1 p2 q2 q3
    have ft : formsR F fr z1 := formsR_x (fun a k ha => p1.1 a k (by unfold dformsR at ha; simp at ha ⊢; omega)) hf
    have j1 := p3 a ha
    have j2 := p3 _ hb20
    have j4 := p4 a (a + 1 + j) ha hb20
    have nxt : ∀ x : ZMem × Int32, ztK F fr k (400 * u + 20 * a + (a + 1 + j) + 1) M x → Q (.inl (x.1, x.2, zI ((a + 1 + j : Nat) : Int) + zI 1)) := fun x hx => hQ _ ⟨by rw [zI_add]; exact zI_inj (by omega), hx⟩
    unfold f_X12_tree_L78
    dsimp only
    rw [ft.2.1, c1, if_neg (by simp (disch := omega) only [zk_bind, zk_chk, zk_bnd, zk_some, zlp_l, zlp_r, zb_some, zb_bnd, zI_add, zI_sub, zI_mul, zI_neg, zI_le, zI_lt, zI_eq, zI_ix, zI_inI, Int.toNat_natCast, Int.toNat_add, Int.toNat_mul, true_and, and_true]; omega), zI_inI (by omega) (by omega) (by omega), zb_chk, zI_inI (by omega) (by omega) (by omega), zb_chk, zI_ix (by omega) (by omega), zI_ix (by omega) (by omega), Int.toNat_natCast, Int.toNat_natCast, p2 a ha, p2 _ hb20]
    by_cases hJ : J a = J (a + 1 + j)
    · rw [if_pos (by rw [hJ]), zk_bnd, zk_some]
      refine nxt (z1, z2) ?_
      have hn : ¬ zted F fr (400 * u + 20 * a + (a + 1 + j)) := by
        rintro ⟨h1, h2⟩
        rw [t1, t2] at h2
        exact h2 (j4.mp hJ)
      unfold ztK
      rw [zfil_f hn]
      refine ⟨ztJ_n ⟨p1, J, p2, p3, p4⟩ (fun x hx => ?_), q2, q3⟩
      by_cases hc : zU fr a (a + 1 + j) = u
      · exact ztL_same hF (by omega) (hst.mpr hc) (by rw [t1, t2]; exact j4.mp hJ) hx
      · exact ztL_n hF (fun hh => hc (hst.mp hh)) hx
    · rw [if_neg (by simp (disch := omega) only [zk_bind, zk_chk, zk_bnd, zk_some, zlp_l, zlp_r, zb_some, zb_bnd, zI_add, zI_sub, zI_mul, zI_neg, zI_le, zI_lt, zI_eq, zI_ix, zI_inI, Int.toNat_natCast, Int.toNat_add, Int.toNat_mul, true_and, and_true]; omega), r_unlikeOf ft ha hb20, zb_some]
      by_cases hc : zU fr a (a + 1 + j) = u
      · have hs := hst.mpr hc
        have he : zted F fr (400 * u + 20 * a + (a + 1 + j)) := ⟨hs, by rw [t1, t2]; exact fun hh => hJ (j4.mpr hh)⟩
        have hl := zted_len (by omega) he
        rw [if_pos (by rw [hc]), q2]
        by_cases hk2 : (zfil (zted F fr) (400 * u + 20 * a + (a + 1 + j))).length = k
        · rw [hk2] at hl
          have hA : ztreeA F fr k w = (ztA (400 * u + 20 * a + (a + 1 + j)) w : Int) := by
            unfold ztreeA
            rw [if_pos hl.1, hl.2]
          rw [if_pos (by rw [hk2])]
          by_cases hw0 : w = 0
          · rw [if_pos (by rw [hw0]; rfl), zk_some]
            refine hR _ ⟨p1, ?_⟩
            rw [hA]
            unfold ztA
            rw [if_pos hw0, t3]
          · rw [if_neg (by simp (disch := omega) only [zk_bind, zk_chk, zk_bnd, zk_some, zlp_l, zlp_r, zb_some, zb_bnd, zI_add, zI_sub, zI_mul, zI_neg, zI_le, zI_lt, zI_eq, zI_ix, zI_inI, Int.toNat_natCast, Int.toNat_add, Int.toNat_mul, true_and, and_true]; omega)]
            by_cases hw1 : w = 1
            · rw [if_pos (by rw [hw1]; rfl), zk_some]
              refine hR _ ⟨p1, ?_⟩
              rw [hA]
              unfold ztA
              rw [if_neg hw0, if_pos hw1, t2]
            · rw [if_neg (by simp (disch := omega) only [zk_bind, zk_chk, zk_bnd, zk_some, zlp_l, zlp_r, zb_some, zb_bnd, zI_add, zI_sub, zI_mul, zI_neg, zI_le, zI_lt, zI_eq, zI_ix, zI_inI, Int.toNat_natCast, Int.toNat_add, Int.toNat_mul, true_and, and_true]; omega), zk_some]
              refine hR _ ⟨p1, ?_⟩
              rw [hA]
              unfold ztA
              rw [if_neg hw0, if_neg hw1, t1]
        · rw [if_neg (by simp (disch := omega) only [zk_bind, zk_chk, zk_bnd, zk_some, zlp_l, zlp_r, zb_some, zb_bnd, zI_add, zI_sub, zI_mul, zI_neg, zI_le, zI_lt, zI_eq, zI_ix, zI_inI, Int.toNat_natCast, Int.toNat_add, Int.toNat_mul, true_and, and_true]; omega), zk_bnd, zb_chk, zb_chk, zk_bind]
          refine zOk_mono (r_joins hF ft.2.1 p2 p3 j1 j2) (fun M3 h3 => ?_)
          rw [zk_bnd, zk_some, zI_add]
          refine nxt (M3, _) ?_
          unfold ztK
          rw [zfil_t he, List.length_append, List.length_singleton]
          refine ⟨ztJ_join (M := z1) hF (by omega) hs (zP_tr p1 h3.2) p3 p4 (by rw [t1, t2]; exact h3.1), zI_inj (by omega), by omega⟩
      · rw [if_neg (by simp (disch := omega) only [zk_bind, zk_chk, zk_bnd, zk_some, zlp_l, zlp_r, zb_some, zb_bnd, zI_add, zI_sub, zI_mul, zI_neg, zI_le, zI_lt, zI_eq, zI_ix, zI_inI, Int.toNat_natCast, Int.toNat_add, Int.toNat_mul, true_and, and_true]; omega), zk_bnd, zk_some]
        exact nxt (z1, z2) (ztK_to hF (Nat.le_succ _) (fun s h1 h2 h3 => hc (hst.mp (by rw [show 400 * u + 20 * a + (a + 1 + j) = s by omega]; exact h3))) ⟨⟨p1, J, p2, p3, p4⟩, q2, q3⟩)
  · rintro ⟨z1, z2, z3⟩ ⟨c1, c2⟩
    dsimp only at c1 c2
    refine ⟨.inl (z1, z2), ?_, ?_⟩
    · unfold f_X12_tree_L78
      dsimp only
      rw [c2.1.1.1 0 4 rfl, hf.2.1, c1, if_pos (by simp (disch := omega) only [zk_bind, zk_chk, zk_bnd, zk_some, zlp_l, zlp_r, zb_some, zb_bnd, zI_add, zI_sub, zI_mul, zI_neg, zI_le, zI_lt, zI_eq, zI_ix, zI_inI, Int.toNat_natCast, Int.toNat_add, Int.toNat_mul, true_and, and_true]; omega)]
    · refine ztK_to hF (by omega) (fun s h1 h2 h3 => ?_) c2
      have := h3.2.1
      omega
theorem r_tree_63 {M : ZMem} {F : Nat} {fr : Nat → Nat} {k w u : Nat} (hf : formsR F fr M) (hk : k < 100) (hw : w < 3) (hu : u < 26) {y : ZMem × Int32} (hy : ztK F fr k (400 * u) M y) : zOk (zloop (f_X12_tree_L63 (zI k) (zI w) (zI u)) (y.1, y.2, zI 0)) (fun e => zsel e (fun x => ztK F fr k (400 * (u + 1)) M x) (fun x => ztV F fr k w M x)) := by
  have hF := hf.1
  refine zOk_forQ (fun a x => x.2.2 = zI a ∧ ztK F fr k (400 * u + 20 * a) M (x.1, x.2.1)) F ?_ ?_ ⟨rfl, hy⟩
  · rintro a ⟨z1, z2, z3⟩ ha ⟨c1, c2⟩ Q hQ hR
    dsimp only at c1 c2
    unfold f_X12_tree_L63
    dsimp only
    rw [c2.1.1.1 0 4 rfl, hf.2.1, c1, if_neg (by simp (disch := omega) only [zk_bind, zk_chk, zk_bnd, zk_some, zlp_l, zlp_r, zb_some, zb_bnd, zI_add, zI_sub, zI_mul, zI_neg, zI_le, zI_lt, zI_eq, zI_ix, zI_inI, Int.toNat_natCast, Int.toNat_add, Int.toNat_mul, true_and, and_true]; omega), zk_bnd, zk_bind, zI_add]
    refine zOk_mono (r_tree_78 hf hk hw hu ha c2) (fun e he => ?_)
    cases e with
    | inl x =>
      rw [zk_sel]
      show zOk (some _) Q
      rw [zk_some]
      exact hQ _ ⟨zI_inj (by omega), he⟩
    | inr x =>
      rw [zk_sel]
      show zOk (some _) Q
      rw [zk_some]
      exact hR _ he
  · rintro ⟨z1, z2, z3⟩ ⟨c1, c2⟩
    dsimp only at c1 c2
    refine ⟨.inl (z1, z2), ?_, ?_⟩
    · unfold f_X12_tree_L63
      dsimp only
      rw [c2.1.1.1 0 4 rfl, hf.2.1, c1, if_pos (by simp (disch := omega) only [zk_bind, zk_chk, zk_bnd, zk_some, zlp_l, zlp_r, zb_some, zb_bnd, zI_add, zI_sub, zI_mul, zI_neg, zI_le, zI_lt, zI_eq, zI_ix, zI_inI, Int.toNat_natCast, Int.toNat_add, Int.toNat_mul, true_and, and_true]; omega)]
    · refine ztK_to hF (by omega) (fun s h1 h2 h3 => ?_) c2
      have := h3.1
      have := h3.2.1
      omega
theorem ztI_all {F : Nat} {fr : Nat → Nat} (hF : F ≤ 20) : ∀ {t : Nat}, t ≤ 10400 → ∃ L, ztI F fr t L := by
  intro t
  induction t with
  | zero => exact fun _ => ⟨_, ztI_0 F fr⟩
  | succ t ih =>
    intro ht
    obtain ⟨L, hL⟩ := ih (by omega)
    by_cases hs : ztst F fr t
    · by_cases he : L (t / 20 % 20) = L (t % 20)
      · exact ⟨L, (ztI_same hF (by omega) hL hs he).1⟩
      · exact ⟨_, (ztI_join hF (by omega) hL hs he).1⟩
    · exact ⟨L, (ztI_n hF hL hs).1⟩
theorem ztree_lt {F : Nat} {fr : Nat → Nat} (hF : F ≤ 20) : (ztree F fr).length ≤ F - 1 := by
  obtain ⟨L, h1, h2⟩ := ztI_all (fr := fr) hF (Nat.le_refl 10400)
  have h2 : (zfil (zted F fr) 10400).length + zroots F L = F := h2
  unfold ztree
  rcases Nat.eq_zero_or_pos F with h0 | h0
  · rw [h0] at h2 ⊢
    omega
  · have h3 := h1.1 0 h0
    have : zb (L 0 = 0) ≤ zroots F L := zsum_pos (f := fun f => zb (L f = f)) h0
    rw [zb_t (by omega)] at this
    omega
theorem r_in {M : ZMem} {x a b : Int} (h1 : -2147483648 ≤ x) (h2 : x ≤ 2147483647) (h3 : -2147483648 ≤ a) (h4 : a ≤ 2147483647) (h5 : -2147483648 ≤ b) (h6 : b ≤ 2147483647) : f_X12_in M (zI x) (zI a) (zI b) = some (zI (zb (a ≤ x ∧ x ≤ b) : Int)) := by
  unfold f_X12_in
  by_cases c1 : x < a
  · rw [if_pos (by simp (disch := omega) only [zk_bind, zk_chk, zk_bnd, zk_some, zlp_l, zlp_r, zb_some, zb_bnd, zI_add, zI_sub, zI_mul, zI_neg, zI_le, zI_lt, zI_eq, zI_ix, zI_inI, Int.toNat_natCast, Int.toNat_add, Int.toNat_mul, true_and, and_true]; omega), zb_f (by omega)]
    rfl
  · rw [if_neg (by simp (disch := omega) only [zk_bind, zk_chk, zk_bnd, zk_some, zlp_l, zlp_r, zb_some, zb_bnd, zI_add, zI_sub, zI_mul, zI_neg, zI_le, zI_lt, zI_eq, zI_ix, zI_inI, Int.toNat_natCast, Int.toNat_add, Int.toNat_mul, true_and, and_true]; omega)]
    by_cases c2 : b < x
    · rw [if_pos (by simp (disch := omega) only [zk_bind, zk_chk, zk_bnd, zk_some, zlp_l, zlp_r, zb_some, zb_bnd, zI_add, zI_sub, zI_mul, zI_neg, zI_le, zI_lt, zI_eq, zI_ix, zI_inI, Int.toNat_natCast, Int.toNat_add, Int.toNat_mul, true_and, and_true]; omega), zb_f (by omega)]
      rfl
    · rw [if_neg (by simp (disch := omega) only [zk_bind, zk_chk, zk_bnd, zk_some, zlp_l, zlp_r, zb_some, zb_bnd, zI_add, zI_sub, zI_mul, zI_neg, zI_le, zI_lt, zI_eq, zI_ix, zI_inI, Int.toNat_natCast, Int.toNat_add, Int.toNat_mul, true_and, and_true]; omega), zb_t (by omega)]
      rfl
theorem r_tree {M : ZMem} {F : Nat} {fr : Nat → Nat} (hf : formsR F fr M) (k w : Int) (k1 : -2147483648 ≤ k) (k2 : k ≤ 2147483647) (w1 : -2147483648 ≤ w) (w2 : w ≤ 2147483647) : zOk (f_X12_tree M (zI k) (zI w)) (fun r => zP (fun a _ => a == 12) M r.1 ∧ r.2 = zI (if 0 ≤ k ∧ 0 ≤ w ∧ w ≤ 2 then ztreeA F fr k.toNat w.toNat else -1)) := by
  have hF := hf.1
  have hl := ztree_lt (F := F) (fr := fr) hF
  unfold f_X12_tree
  rw [hf.2.1, zI_sub, r_in (by omega) (by omega) (by omega) (by omega) (by omega) (by omega), zb_some]
  by_cases hk : ¬ (0 ≤ k ∧ k ≤ (F : Int) - 2)
  · rw [if_pos (zb_0.mpr hk), zk_some]
    refine ⟨zP_rf, congrArg zI ?_⟩
    split
    · unfold ztreeA
      rw [if_neg (by omega)]
    · rfl
  rw [if_neg (fun h => hk (zb_0.mp h)), r_in (by omega) (by omega) (by omega) (by omega) (by omega) (by omega), zb_some]
  by_cases hw : ¬ (0 ≤ w ∧ w ≤ 2)
  · rw [if_pos (zb_0.mpr hw), zk_some, if_neg (fun h => hw h.2)]
    exact ⟨zP_rf, rfl⟩
  rw [if_neg (fun h => hw (zb_0.mp h)), zk_bind]
  rw [Classical.not_not] at hk hw
  rw [if_pos ⟨hk.1, hw⟩]
  obtain ⟨k', rfl⟩ := Int.eq_ofNat_of_zero_le hk.1
  obtain ⟨w', rfl⟩ := Int.eq_ofNat_of_zero_le hw.1
  rw [Int.toNat_natCast, Int.toNat_natCast]
  have hL : zOk (zloop (f_X12_tree_L27 (zI k') (zI w')) (M, zI 0)) (fun x => ztK F fr k' 0 M (x, zI 0)) := by
    refine zOk_forQ (fun i x => x.2 = zI i ∧ zP (fun a _ => a == 12) M x.1 ∧ ∀ f, f < i → x.1.1 12 f = zI f) F ?_ ?_ ⟨rfl, zP_rf, fun f hf => absurd hf (Nat.not_lt_zero f)⟩
    · rintro i ⟨z1, z2⟩ hi ⟨c1, c2, c3⟩ Q hQ _
      dsimp only at c1 c2 c3
      unfold f_X12_tree_L27
      dsimp only
      rw [c2.1 0 4 rfl, hf.2.1, c1, if_neg (by simp (disch := omega) only [zk_bind, zk_chk, zk_bnd, zk_some, zlp_l, zlp_r, zb_some, zb_bnd, zI_add, zI_sub, zI_mul, zI_neg, zI_le, zI_lt, zI_eq, zI_ix, zI_inI, Int.toNat_natCast, Int.toNat_add, Int.toNat_mul, true_and, and_true]; omega), zI_inI (by omega) (by omega) (by omega), zb_chk, zI_ix (by omega) (by omega), Int.toNat_natCast, zk_bnd, zk_bnd, zk_some, zI_add]
      refine hQ _ ⟨zI_inj (by omega), zP_I c2 rfl, fun f hf => ?_⟩
      by_cases he : f = i
      · rw [he, zm_Is]
      · rw [zm_In _ _ _ _ he]
        exact c3 f (by omega)
    · rintro ⟨z1, z2⟩ ⟨c1, c2, c3⟩
      dsimp only at c1 c2 c3
      refine ⟨z1, ?_, ⟨c2, fun f => f, c3, fun f hf => by show f < 20; omega, fun x y hx hy => ?_⟩, rfl, Nat.zero_le _⟩
      · unfold f_X12_tree_L27
        dsimp only
        rw [c2.1 0 4 rfl, hf.2.1, c1, if_pos (by simp (disch := omega) only [zk_bind, zk_chk, zk_bnd, zk_some, zlp_l, zlp_r, zb_some, zb_bnd, zI_add, zI_sub, zI_mul, zI_neg, zI_le, zI_lt, zI_eq, zI_ix, zI_inI, Int.toNat_natCast, Int.toNat_add, Int.toNat_mul, true_and, and_true]; omega)]
      · exact ztI_lab (ztI_0 F fr) hx hy
  refine zOk_mono hL (fun x hx => ?_)
  rw [zk_bind]
  refine zOk_mono (K := fun e => zsel e (fun x => ztK F fr k' 10400 M (x, zI ((zfil (zted F fr) 10400).length : Int))) (fun x => ztV F fr k' w' M x)) ?_ (fun e he => ?_)
  · refine zOk_forQ (fun u x => x.2.2 = zI u ∧ ztK F fr k' (400 * u) M (x.1, x.2.1)) 26 ?_ ?_ ⟨rfl, hx⟩
    · rintro u ⟨z1, z2, z3⟩ hu ⟨c1, c2⟩ Q hQ hR
      dsimp only at c1 c2
      unfold f_X12_tree_L53
      dsimp only
      rw [c1, if_neg (by simp (disch := omega) only [zk_bind, zk_chk, zk_bnd, zk_some, zlp_l, zlp_r, zb_some, zb_bnd, zI_add, zI_sub, zI_mul, zI_neg, zI_le, zI_lt, zI_eq, zI_ix, zI_inI, Int.toNat_natCast, Int.toNat_add, Int.toNat_mul, true_and, and_true]; omega), zk_bind]
      refine zOk_mono (r_tree_63 hf (by omega) (by omega) hu c2) (fun e he => ?_)
      cases e with
      | inl x =>
        rw [zk_sel]
        show zOk (some _) Q
        rw [zk_some]
        exact hQ _ ⟨by show zI u + zI 1 = _; rw [zI_add]; exact zI_inj (by omega), he⟩
      | inr x =>
        rw [zk_sel]
        show zOk (some _) Q
        rw [zk_some]
        exact hR _ he
    · rintro ⟨z1, z2, z3⟩ ⟨c1, c2⟩
      dsimp only at c1 c2
      refine ⟨.inl z1, ?_, ?_⟩
      · unfold f_X12_tree_L53
        dsimp only
        rw [c1, if_pos (by simp (disch := omega) only [zk_bind, zk_chk, zk_bnd, zk_some, zlp_l, zlp_r, zb_some, zb_bnd, zI_add, zI_sub, zI_mul, zI_neg, zI_le, zI_lt, zI_eq, zI_ix, zI_inI, Int.toNat_natCast, Int.toNat_add, Int.toNat_mul, true_and, and_true]; omega)]
      · exact ⟨c2.1, rfl, c2.2.2⟩
  · cases e with
    | inl x =>
      rw [zk_sel]
      show zOk (some _) _
      rw [zk_some]
      refine ⟨he.1.1, ?_⟩
      unfold ztreeA
      rw [if_neg (show ¬ k' < (ztree F fr).length from Nat.not_lt.mpr he.2.2)]
    | inr x =>
      rw [zk_sel]
      show zOk (some _) _
      rw [zk_some]
      exact he
theorem c_tree {M : ZMem} {F : Nat} {fr : Nat → Nat} (hf : formsC F fr M) (ht : treeC F fr 10400 M) (k w : Int) (k1 : -2147483648 ≤ k) (k2 : k ≤ 2147483647) (w1 : -2147483648 ≤ w) (w2 : w ≤ 2147483647) : f_X11_tree M (zI k) (zI w) = some (zI (if 0 ≤ k ∧ 0 ≤ w ∧ w ≤ 2 then ztreeA F fr k.toNat w.toNat else -1)) := by
  have hF := hf.1
  have hl := ztree_lt (F := F) (fr := fr) hF
  unfold f_X11_tree f_X0_treeAt
  rw [ht.1]
  change (ztree F fr).length ≤ F - 1 at hl
  have ht2 := ht.2
  rw [show zfil (zted F fr) 10400 = ztree F fr from rfl] at ht2 ⊢
  by_cases h1 : k < 0
  · rw [if_pos (by simp (disch := omega) only [zk_bind, zk_chk, zk_bnd, zk_some, zlp_l, zlp_r, zb_some, zb_bnd, zI_add, zI_sub, zI_mul, zI_neg, zI_le, zI_lt, zI_eq, zI_ix, zI_inI, Int.toNat_natCast, Int.toNat_add, Int.toNat_mul, true_and, and_true]; omega), if_neg (by omega)]
    rfl
  rw [if_neg (by simp (disch := omega) only [zk_bind, zk_chk, zk_bnd, zk_some, zlp_l, zlp_r, zb_some, zb_bnd, zI_add, zI_sub, zI_mul, zI_neg, zI_le, zI_lt, zI_eq, zI_ix, zI_inI, Int.toNat_natCast, Int.toNat_add, Int.toNat_mul, true_and, and_true]; omega)]
  by_cases h2 : ((ztree F fr).length : Int) ≤ k
  · rw [if_pos (by simp (disch := omega) only [zk_bind, zk_chk, zk_bnd, zk_some, zlp_l, zlp_r, zb_some, zb_bnd, zI_add, zI_sub, zI_mul, zI_neg, zI_le, zI_lt, zI_eq, zI_ix, zI_inI, Int.toNat_natCast, Int.toNat_add, Int.toNat_mul, true_and, and_true]; omega)]
    refine congrArg (fun x => some (zI x)) ?_
    split
    · unfold ztreeA
      rw [if_neg (by omega)]
    · rfl
  rw [if_neg (by simp (disch := omega) only [zk_bind, zk_chk, zk_bnd, zk_some, zlp_l, zlp_r, zb_some, zb_bnd, zI_add, zI_sub, zI_mul, zI_neg, zI_le, zI_lt, zI_eq, zI_ix, zI_inI, Int.toNat_natCast, Int.toNat_add, Int.toNat_mul, true_and, and_true]; omega)]
  by_cases h3 : w < 0
  · rw [if_pos (by simp (disch := omega) only [zk_bind, zk_chk, zk_bnd, zk_some, zlp_l, zlp_r, zb_some, zb_bnd, zI_add, zI_sub, zI_mul, zI_neg, zI_le, zI_lt, zI_eq, zI_ix, zI_inI, Int.toNat_natCast, Int.toNat_add, Int.toNat_mul, true_and, and_true]; omega), if_neg (by omega)]
    rfl
  rw [if_neg (by simp (disch := omega) only [zk_bind, zk_chk, zk_bnd, zk_some, zlp_l, zlp_r, zb_some, zb_bnd, zI_add, zI_sub, zI_mul, zI_neg, zI_le, zI_lt, zI_eq, zI_ix, zI_inI, Int.toNat_natCast, Int.toNat_add, Int.toNat_mul, true_and, and_true]; omega)]
  by_cases h4 : ¬ w ≤ 2
  · rw [if_neg (by simp (disch := omega) only [zk_bind, zk_chk, zk_bnd, zk_some, zlp_l, zlp_r, zb_some, zb_bnd, zI_add, zI_sub, zI_mul, zI_neg, zI_le, zI_lt, zI_eq, zI_ix, zI_inI, Int.toNat_natCast, Int.toNat_add, Int.toNat_mul, true_and, and_true]; omega), if_neg (by omega)]
    rfl
  rw [if_pos (by simp (disch := omega) only [zk_bind, zk_chk, zk_bnd, zk_some, zlp_l, zlp_r, zb_some, zb_bnd, zI_add, zI_sub, zI_mul, zI_neg, zI_le, zI_lt, zI_eq, zI_ix, zI_inI, Int.toNat_natCast, Int.toNat_add, Int.toNat_mul, true_and, and_true]; omega), if_pos (by omega)]
  obtain ⟨k', rfl⟩ := Int.eq_ofNat_of_zero_le (show 0 ≤ k by omega)
  obtain ⟨w', rfl⟩ := Int.eq_ofNat_of_zero_le (show 0 ≤ w by omega)
  have hm : (ztree F fr).getD k' 0 ∈ ztree F fr := zgetD_m (by omega)
  obtain ⟨m1, m2⟩ := zfil_mem.mp hm
  have m3 := m2.1
  obtain ⟨e1, e2⟩ := ht2 k' (by omega)
  have hb := m3.2.1
  have ha : (ztree F fr).getD k' 0 / 20 % 20 < F := by have := m3.1; omega
  have hu := m3.2.2
  unfold ztreeA
  rw [Int.toNat_natCast, Int.toNat_natCast, if_pos (by omega), zI_mul, zI_inI (by omega) (by omega) (by omega), zb_chk, zb_bnd, zI_add, zI_inI (by omega) (by omega) (by omega), zb_chk, zb_bnd, zI_ix (by omega) (by omega), zI_ix (by omega) (by omega), show ((k' : Int) * 2).toNat = 2 * k' by omega, show ((k' : Int) * 2 + 1).toNat = 2 * k' + 1 by omega, e1, e2]
  unfold ztA
  by_cases hw0 : w' = 0
  · rw [if_pos (by rw [hw0]; rfl), if_pos hw0, c_unlikeOf hf ha hb, hu]
    rfl
  · rw [if_neg (by simp (disch := omega) only [zk_bind, zk_chk, zk_bnd, zk_some, zlp_l, zlp_r, zb_some, zb_bnd, zI_add, zI_sub, zI_mul, zI_neg, zI_le, zI_lt, zI_eq, zI_ix, zI_inI, Int.toNat_natCast, Int.toNat_add, Int.toNat_mul, true_and, and_true]; omega), if_neg hw0]
    by_cases hw1 : w' = 1
    · rw [if_pos (by rw [hw1]; rfl), if_pos hw1]
      rfl
    · rw [if_neg (by simp (disch := omega) only [zk_bind, zk_chk, zk_bnd, zk_some, zlp_l, zlp_r, zb_some, zb_bnd, zI_add, zI_sub, zI_mul, zI_neg, zI_le, zI_lt, zI_eq, zI_ix, zI_inI, Int.toNat_natCast, Int.toNat_add, Int.toNat_mul, true_and, and_true]; omega), if_neg hw1]
      rfl
