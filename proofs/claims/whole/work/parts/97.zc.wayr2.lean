/-! ===== ways: the reference counts ===== deps: 97.zb.wayr -/
noncomputable def zfg (P : Nat → Prop) (lo W : Nat) : List Nat := (zfil P W).filter (fun x => decide (lo ≤ x))
theorem zfg_s {P : Nat → Prop} {lo : Nat} : ∀ W, lo < W → zfg P lo W = zif (P lo) [lo] [] ++ zfg P (lo + 1) W := by
  have hnone : ∀ W, W ≤ lo → (zfil P W).filter (fun x => decide (lo ≤ x)) = [] := by
    intro W hW
    rw [List.filter_eq_nil_iff]
    intro x hx
    have := (zfil_mem.mp hx).1
    simp
    omega
  intro W
  induction W with
  | zero => intro h; omega
  | succ W ih =>
    intro h
    unfold zfg at ih ⊢
    by_cases he : lo = W
    · subst he
      by_cases hp : P lo
      · rw [zif_t hp, zfil_t hp, List.filter_append, List.filter_append, hnone lo (Nat.le_refl lo)]
        have h2 : (zfil P lo).filter (fun x => decide (lo + 1 ≤ x)) = [] := by
          rw [List.filter_eq_nil_iff]
          intro x hx
          have := (zfil_mem.mp hx).1
          simp
          omega
        rw [h2]
        simp
      · rw [zif_f hp, zfil_f hp, hnone lo (Nat.le_refl lo)]
        have h2 : (zfil P lo).filter (fun x => decide (lo + 1 ≤ x)) = [] := by
          rw [List.filter_eq_nil_iff]
          intro x hx
          have := (zfil_mem.mp hx).1
          simp
          omega
        rw [h2]
        rfl
    · by_cases hp : P W
      · rw [zfil_t hp, List.filter_append, List.filter_append, ih (by omega), List.append_assoc]
        congr 1
        congr 1
        have a1 : lo ≤ W := by omega
        have a2 : lo + 1 ≤ W := by omega
        simp [a1, a2]
      · rw [zfil_f hp]
        exact ih (by omega)
theorem zfg_e {P : Nat → Prop} {lo W : Nat} (h : W ≤ lo) : zfg P lo W = [] := by
  unfold zfg
  rw [List.filter_eq_nil_iff]
  intro x hx
  have := (zfil_mem.mp hx).1
  simp
  omega
theorem zfg_0 (P : Nat → Prop) (W : Nat) : zfg P 0 W = zfil P W := by
  unfold zfg
  rw [List.filter_eq_self]
  intro x _
  simp
noncomputable def ztl (c1 : Nat → Nat → Prop) (c2 : Nat → Nat → Nat → Nat → Prop) (W N : Nat) (p : List Nat) (lo : Nat) : List (List Nat) := (zfg (zok c1 c2 p p.length) lo W).flatMap (fun w => zwy c1 c2 W (N - 1 - p.length) (p ++ [w]))
noncomputable def zrmn (c1 : Nat → Nat → Prop) (c2 : Nat → Nat → Nat → Nat → Prop) (W N : Nat) (p : List Nat) : Nat → List (List Nat)
  | 0 => []
  | m + 1 => ztl c1 c2 W N (p.take m) (p.getD m 0 + 1) ++ zrmn c1 c2 W N p m
theorem zgetD_t {p : List Nat} {k m : Nat} (h : m < k) : (p.take k).getD m 0 = p.getD m 0 := by
  rw [List.getD_eq_getElem?_getD, List.getD_eq_getElem?_getD, List.getElem?_take_of_lt h]
theorem zrmn_take {c1 : Nat → Nat → Prop} {c2 : Nat → Nat → Nat → Nat → Prop} {W N : Nat} {p q : List Nat} : ∀ (n : Nat), (∀ m, m < n → p.take m = q.take m ∧ p.getD m 0 = q.getD m 0) → zrmn c1 c2 W N p n = zrmn c1 c2 W N q n
  | 0, _ => rfl
  | n + 1, h => by
    show ztl c1 c2 W N (p.take n) (p.getD n 0 + 1) ++ zrmn c1 c2 W N p n = ztl c1 c2 W N (q.take n) (q.getD n 0 + 1) ++ zrmn c1 c2 W N q n
    rw [(h n (by omega)).1, (h n (by omega)).2, zrmn_take n (fun m hm => h m (by omega))]
theorem ztl_s {c1 : Nat → Nat → Prop} {c2 : Nat → Nat → Nat → Nat → Prop} {W N : Nat} {p : List Nat} {lo : Nat} (h : lo < W) : ztl c1 c2 W N p lo = zif (zok c1 c2 p p.length lo) (zwy c1 c2 W (N - 1 - p.length) (p ++ [lo])) [] ++ ztl c1 c2 W N p (lo + 1) := by
  unfold ztl
  rw [zfg_s W h, List.flatMap_append]
  by_cases hc : zok c1 c2 p p.length lo
  · rw [zif_t hc, zif_t hc]
    simp
  · rw [zif_f hc, zif_f hc]
    rfl
theorem ztl_e {c1 : Nat → Nat → Prop} {c2 : Nat → Nat → Nat → Nat → Prop} {W N : Nat} {p : List Nat} {lo : Nat} (h : W ≤ lo) : ztl c1 c2 W N p lo = [] := by
  unfold ztl
  rw [zfg_e h]
  rfl
theorem ztl_0 {c1 : Nat → Nat → Prop} {c2 : Nat → Nat → Nat → Nat → Prop} {W N : Nat} {p : List Nat} (h : p.length < N) : ztl c1 c2 W N p 0 = zwy c1 c2 W (N - p.length) p := by
  unfold ztl
  rw [zfg_0, show N - p.length = (N - 1 - p.length) + 1 by omega]
  rfl
def waysR (l : List (Nat × Nat)) (N : Nat) (nl ny : Nat → Nat) (kv : Nat → Nat → Int) (gr : Nat → Nat → Nat) (R : ZMem) : Prop := R.1 0 40 = zI ((min 999 (zwall l N nl ny kv gr).length : Nat) : Int) ∧ ∀ x, (zwall l N nl ny kv gr).head? = some x → ∀ m, m < N → R.1 27 m = zI (x.getD m 0)
def zWwr (a k : Nat) : Bool := a == 26 || a == 27 || (a == 0 && k == 40)
theorem ctxR_x {F : Nat} {l : List (Nat × Nat)} {N : Nat} {nl ny : Nat → Nat} {kv : Nat → Nat → Int} {gr : Nat → Nat → Nat} {M M' : ZMem} (h : zP zWwr M M') (hx : ctxR F l N nl ny kv gr M) : ctxR F l N nl ny kv gr M' := by
  obtain ⟨a, b, c, d⟩ := hx
  refine ⟨⟨by rw [h.1 0 12 rfl]; exact a.1, fun n hn => ⟨by rw [h.1 7 n rfl]; exact (a.2 n hn).1, fun k hk => by rw [h.1 8 _ rfl]; exact (a.2 n hn).2 k hk⟩⟩, lexR_x (h.1 0 25 rfl) (fun k => h.1 16 k rfl) (fun k => h.1 17 k rfl) (fun k => h.1 18 k rfl) b, fun kind f h1 h2 => by rw [h.1 23 _ rfl]; exact c kind f h1 h2, fun kind f h1 h2 => by rw [h.1 25 _ rfl]; exact d kind f h1 h2⟩
theorem r_takesWay {M : ZMem} {N t : Nat} {x : List Nat} (hN4 : N ≤ 4) (hN : M.1 0 12 = zI N) (ht : M.1 0 40 = zI t) (ht2 : t < 999) (hx : ∀ m, m < N → M.1 26 m = zI (x.getD m 0)) : zOk (f_X12_takesWay M) (fun M' => M'.1 0 40 = zI ((t + 1 : Nat) : Int) ∧ (t = 0 → ∀ m, m < N → M'.1 27 m = zI (x.getD m 0)) ∧ (0 < t → ∀ m, M'.1 27 m = M.1 27 m) ∧ zP (fun a k => a == 27 || (a == 0 && k == 40)) M M') := by
  unfold f_X12_takesWay
  rw [zk_bind]
  refine zOk_forQ (fun i s => s.2 = zI i ∧ zP (fun a _ => a == 27) M s.1 ∧ (∀ m, m < i → t = 0 → s.1.1 27 m = zI (x.getD m 0)) ∧ (0 < t → s.1.1 27 = M.1 27)) N ?_ ?_ ⟨rfl, zP_rf, fun m hm => absurd hm (Nat.not_lt_zero m), fun _ => rfl⟩
  · rintro i ⟨s1, s2⟩ hi ⟨e1, e2, e3, e4⟩ Q hQ hR
    dsimp only at e1 e2 e3 e4
    unfold f_X12_takesWay_L2
    dsimp only
    rw [e2.1 0 12 rfl, hN, e1, if_neg (by simp (disch := omega) only [zk_bind, zk_chk, zk_bnd, zk_some, zlp_l, zlp_r, zb_some, zb_bnd, zI_add, zI_sub, zI_mul, zI_neg, zI_le, zI_lt, zI_eq, zI_ix, zI_inI, Int.toNat_natCast, Int.toNat_add, Int.toNat_mul, true_and, and_true]; omega), e2.1 0 40 rfl, ht]
    by_cases h0 : t = 0
    · rw [if_pos (by rw [h0]; rfl), zI_inI (by omega) (by omega) (by omega), zb_chk, zb_chk, zI_ix (by omega) (by omega), Int.toNat_natCast, e2.1 26 i rfl, hx i hi, zk_bnd, zk_bnd, zk_some, zI_add]
      refine hQ _ ⟨zI_inj (by omega), zP_I e2 rfl, fun m hm _ => ?_, fun h => by omega⟩
      by_cases he : m = i
      · rw [he, zm_Is]
      · rw [zm_In _ _ _ _ he]
        exact e3 m (by omega) h0
    · rw [if_neg (by simp (disch := omega) only [zk_bind, zk_chk, zk_bnd, zk_some, zlp_l, zlp_r, zb_some, zb_bnd, zI_add, zI_sub, zI_mul, zI_neg, zI_le, zI_lt, zI_eq, zI_ix, zI_inI, Int.toNat_natCast, Int.toNat_add, Int.toNat_mul, true_and, and_true]; omega), zk_some]
      refine hR _ ?_
      rw [e2.1 0 40 rfl, ht, zk_bnd, zk_some, zI_add]
      exact ⟨by rw [zm_Is]; exact zI_inj (by omega), fun h => absurd h h0, fun h m => by rw [zm_Iq _ _ _ _ (by decide), e4 h], zP_I (zP_mono e2 (fun a k ha => by simp at ha ⊢; exact ha.1)) rfl⟩
  · rintro ⟨s1, s2⟩ ⟨e1, e2, e3, e4⟩
    dsimp only at e1 e2 e3 e4
    refine ⟨s1, ?_, ?_⟩
    · unfold f_X12_takesWay_L2
      dsimp only
      rw [e2.1 0 12 rfl, hN, e1, if_pos (by simp (disch := omega) only [zk_bind, zk_chk, zk_bnd, zk_some, zlp_l, zlp_r, zb_some, zb_bnd, zI_add, zI_sub, zI_mul, zI_neg, zI_le, zI_lt, zI_eq, zI_ix, zI_inI, Int.toNat_natCast, Int.toNat_add, Int.toNat_mul, true_and, and_true]; omega)]
    · rw [e2.1 0 40 rfl, ht, zk_bnd, zk_some, zI_add]
      exact ⟨by rw [zm_Is]; exact zI_inj (by omega), fun h m hm => by rw [zm_Iq _ _ _ _ (by decide)]; exact e3 m hm h, fun h m => by rw [zm_Iq _ _ _ _ (by decide), e4 h], zP_I (zP_mono e2 (fun a k ha => by simp at ha ⊢; exact ha.1)) rfl⟩
/-- how much is left to try -/
def zmu (W : Nat) (s : ZMem × Int32) : Nat := (if 0 ≤ s.2.toInt then ((W : Int) - (s.1.1 26 0).toInt).toNat else 0) * 1906624 + (if 1 ≤ s.2.toInt then ((W : Int) - (s.1.1 26 1).toInt).toNat else 0) * 15376 + (if 2 ≤ s.2.toInt then ((W : Int) - (s.1.1 26 2).toInt).toNat else 0) * 124 + (if 3 ≤ s.2.toInt then ((W : Int) - (s.1.1 26 3).toInt).toNat else 0)
def zwI (c1 : Nat → Nat → Prop) (c2 : Nat → Nat → Nat → Nat → Prop) (W N : Nat) (ALL : List (List Nat)) (s : ZMem × Int32) : Prop := ∃ pre : List (List Nat), pre.length ≤ 999 ∧ s.1.1 0 40 = zI (pre.length : Int) ∧ (∀ x, pre.head? = some x → ∀ m, m < N → s.1.1 27 m = zI (x.getD m 0)) ∧ ((s.2 = zI (-1) ∧ ALL = pre) ∨ ∃ p lo, s.2 = zI ((p : List Nat).length : Int) ∧ p.length < N ∧ (lo : Nat) ≤ W ∧ s.1.1 26 p.length = zI ((lo : Int) - 1) ∧ (∀ m, m < p.length → s.1.1 26 m = zI (p.getD m 0) ∧ p.getD m 0 < W ∧ c1 m (p.getD m 0)) ∧ ALL = pre ++ (ztl c1 c2 W N p lo ++ zrmn c1 c2 W N p p.length))
theorem r_laysWays {M : ZMem} {F N : Nat} {nl ny : Nat → Nat} {l : List (Nat × Nat)} {kv : Nat → Nat → Int} {gr : Nat → Nat → Nat} (hF : F ≤ 20) (hn : okN N nl ny) (ho : okL l) (hx : ctxR F l N nl ny kv gr M) (hS : ∀ w i, w < l.length → i < zN l w → zSg l w i < F) (hv : okV kv) (hgl : ∀ kind f, f < F → gr kind f < 20) : zOk (f_X12_laysWays M) (fun M' => waysR l N nl ny kv gr M' ∧ zP zWwr M M') := by
  have hN4 := hn.1
  have hlen := ho.1
  unfold f_X12_laysWays
  rw [zk_bnd, zm_In _ _ _ _ (by decide), hx.1.1]
  by_cases hN0 : N = 0
  · rw [if_pos (by rw [hN0]; rfl), zk_bnd, zk_some]
    refine ⟨⟨?_, fun x _ m hm => by omega⟩, zP_I (zP_I zP_rf rfl) rfl⟩
    rw [zm_Is, hN0]
    rfl
  · rw [if_neg (by simp (disch := omega) only [zk_bind, zk_chk, zk_bnd, zk_some, zlp_l, zlp_r, zb_some, zb_bnd, zI_add, zI_sub, zI_mul, zI_neg, zI_le, zI_lt, zI_eq, zI_ix, zI_inI, Int.toNat_natCast, Int.toNat_add, Int.toNat_mul, true_and, and_true]; omega), zk_bnd, zk_bind]
    refine zOk_loop (fun s => zP zWwr M s.1 ∧ zwI (zc1 l nl ny kv gr) (zc2 l nl ny gr) l.length N (zwall l N nl ny kv gr) s) (zmu l.length) ?_ _ _ (Nat.le_refl _) ⟨zP_I (zP_I zP_rf rfl) rfl, [], by simp, by rw [zm_Iq _ _ _ _ (by decide), zm_Is]; rfl, (fun x hx' => by cases hx'), Or.inr ⟨[], 0, rfl, by simp; omega, by omega, ?_, fun m hm => absurd hm (Nat.not_lt_zero m), ?_⟩⟩
    · rintro ⟨s1, s2⟩ ⟨e1, pre, e2, e3, e4, e5⟩
      dsimp only at e1 e3 e4 e5
      unfold f_X12_laysWays_L27
      dsimp only
      have fin : ∀ A : List (List Nat), zwall l N nl ny kv gr = pre ++ A → (A = [] ∨ 999 ≤ pre.length) → zOk (some s1) (fun M' => waysR l N nl ny kv gr M' ∧ zP zWwr M M') := by
        intro A hA hA2
        rw [zk_some]
        refine ⟨⟨?_, fun x hx' m hm => ?_⟩, e1⟩
        · rw [e3, hA, List.length_append]
          rcases hA2 with rfl | hA2
          · exact zI_inj (by simp; omega)
          · exact zI_inj (by omega)
        · rw [hA] at hx'
          refine e4 x ?_ m hm
          cases hp : pre with
          | nil =>
            rw [hp] at hx' hA2
            rcases hA2 with rfl | hA2
            · cases hx'
            · simp at hA2
          | cons a r => rw [hp] at hx'; exact hx'
      rcases e5 with ⟨f1, f2⟩ | ⟨p, lo, f1, f2, f3, f4, f5, f6⟩
      · rw [f1, if_pos (by decide), zk_some, zlp_r]
        exact fin [] (by rw [f2, List.append_nil]) (Or.inl rfl)
      · rw [f1, if_neg (by simp (disch := omega) only [zk_bind, zk_chk, zk_bnd, zk_some, zlp_l, zlp_r, zb_some, zb_bnd, zI_add, zI_sub, zI_mul, zI_neg, zI_le, zI_lt, zI_eq, zI_ix, zI_inI, Int.toNat_natCast, Int.toNat_add, Int.toNat_mul, true_and, and_true]; omega), e3]
        by_cases hfull : 999 ≤ pre.length
        · rw [if_pos (by simp (disch := omega) only [zk_bind, zk_chk, zk_bnd, zk_some, zlp_l, zlp_r, zb_some, zb_bnd, zI_add, zI_sub, zI_mul, zI_neg, zI_le, zI_lt, zI_eq, zI_ix, zI_inI, Int.toNat_natCast, Int.toNat_add, Int.toNat_mul, true_and, and_true]; omega), zk_some, zlp_r]
          exact fin _ f6 (Or.inr hfull)
        · rw [if_neg (by simp (disch := omega) only [zk_bind, zk_chk, zk_bnd, zk_some, zlp_l, zlp_r, zb_some, zb_bnd, zI_add, zI_sub, zI_mul, zI_neg, zI_le, zI_lt, zI_eq, zI_ix, zI_inI, Int.toNat_natCast, Int.toNat_add, Int.toNat_mul, true_and, and_true]; omega), zI_inI (by omega) (by omega) (by omega), zb_chk, zb_chk, zI_ix (by omega) (by omega), Int.toNat_natCast, f4, zI_add, zk_bnd, zb_chk, zm_Is, show ((lo : Int) - 1 + 1) = (lo : Int) by omega]
          have g0 : zP zWwr M (zstI s1 26 p.length (zI lo)) := zP_I e1 rfl
          have g1 : (zstI s1 26 p.length (zI lo)).1 26 p.length = zI lo := by rw [zm_Is]
          have g2 : ∀ m, m ≠ p.length → (zstI s1 26 p.length (zI lo)).1 26 m = s1.1 26 m := fun m hm => by rw [zm_In _ _ _ _ hm]
          have g3 : (zstI s1 26 p.length (zI lo)).1 0 40 = zI (pre.length : Int) := by rw [zm_Iq _ _ _ _ (by decide)]; exact e3
          have g4 : ∀ m, (zstI s1 26 p.length (zI lo)).1 27 m = s1.1 27 m := fun m => by rw [zm_Iq _ _ _ _ (by decide)]
          generalize zstI s1 26 p.length (zI lo) = B at g0 g1 g2 g3 g4 ⊢
          have hcx := ctxR_x g0 hx
          -- numbers of the measure
          have tp : ∀ m, m < p.length → (s1.1 26 m).toInt = (p.getD m 0 : Int) ∧ p.getD m 0 < l.length := fun m hm => ⟨by rw [(f5 m hm).1, zI_toInt (by have := (f5 m hm).2.1; omega) (by have := (f5 m hm).2.1; omega)], (f5 m hm).2.1⟩
          have tn : (s1.1 26 p.length).toInt = (lo : Int) - 1 := by rw [f4, zI_toInt (by omega) (by omega)]
          have tB : (B.1 26 p.length).toInt = (lo : Int) := by rw [g1, zI_toInt (by omega) (by omega)]
          have tBp : ∀ m, m < p.length → (B.1 26 m).toInt = (p.getD m 0 : Int) := fun m hm => by rw [g2 m (by omega)]; exact (tp m hm).1
          have hmu : ∀ (B' : ZMem) (n' : Int), (∀ m, m ≤ p.length → (B'.1 26 m).toInt = (B.1 26 m).toInt) → (n' = (p.length : Int) ∨ n' = (p.length : Int) - 1 ∨ (n' = (p.length : Int) + 1 ∧ (B'.1 26 (p.length + 1)).toInt = -1 ∧ p.length + 1 < 4)) → lo ≤ l.length → zmu l.length (B', zI n') < zmu l.length (s1, zI (p.length : Int)) := by
            intro B' n' hB' hn' hlo
            unfold zmu
            dsimp only
            have hl4 : p.length = 0 ∨ p.length = 1 ∨ p.length = 2 ∨ p.length = 3 := by omega
            rw [zI_toInt (a := n') (by omega) (by omega), zI_toInt (a := (p.length : Int)) (by omega) (by omega)]
            rcases hl4 with hl | hl | hl | hl
            · rw [hl] at hB' hn' tn tB tp
              have b0 := hB' 0 (by omega)
              rw [tB] at b0
              rw [b0, tn, hl]
              rcases hn' with rfl | rfl | ⟨rfl, hm1, _⟩
              · simp; omega
              · simp; omega
              · rw [Nat.zero_add] at hm1; rw [hm1]; simp; omega
            · rw [hl] at hB' hn' tn tB tp tBp
              have b1 := hB' 1 (by omega)
              have b0 := hB' 0 (by omega)
              rw [tB] at b1
              rw [tBp 0 (by omega), ← (tp 0 (by omega)).1] at b0
              rw [b0, b1, tn, hl]
              rcases hn' with rfl | rfl | ⟨rfl, hm1, _⟩
              · simp; omega
              · simp; omega
              · rw [hm1]; simp; omega
            · rw [hl] at hB' hn' tn tB tp tBp
              have b2 := hB' 2 (by omega)
              have b1 := hB' 1 (by omega)
              have b0 := hB' 0 (by omega)
              rw [tB] at b2
              rw [tBp 1 (by omega), ← (tp 1 (by omega)).1] at b1
              rw [tBp 0 (by omega), ← (tp 0 (by omega)).1] at b0
              rw [b0, b1, b2, tn, hl]
              rcases hn' with rfl | rfl | ⟨rfl, hm1, _⟩
              · simp; omega
              · simp; omega
              · rw [hm1]; simp; omega
            · rw [hl] at hB' hn' tn tB tp tBp
              have b3 := hB' 3 (by omega)
              have b2 := hB' 2 (by omega)
              have b1 := hB' 1 (by omega)
              have b0 := hB' 0 (by omega)
              rw [tB] at b3
              rw [tBp 2 (by omega), ← (tp 2 (by omega)).1] at b2
              rw [tBp 1 (by omega), ← (tp 1 (by omega)).1] at b1
              rw [tBp 0 (by omega), ← (tp 0 (by omega)).1] at b0
              rw [b0, b1, b2, b3, tn, hl]
              rcases hn' with rfl | rfl | ⟨rfl, hm1, hm2⟩
              · simp; omega
              · simp; omega
              · omega
          rw [g0.1 0 25 rfl, hx.2.1.1]
          by_cases hlo : lo < l.length
          · have hzt := ztl_s (c1 := zc1 l nl ny kv gr) (c2 := zc2 l nl ny gr) (N := N) (p := p) hlo
            rw [if_pos (by simp (disch := omega) only [zk_bind, zk_chk, zk_bnd, zk_some, zlp_l, zlp_r, zb_some, zb_bnd, zI_add, zI_sub, zI_mul, zI_neg, zI_le, zI_lt, zI_eq, zI_ix, zI_inI, Int.toNat_natCast, Int.toNat_add, Int.toNat_mul, true_and, and_true]; omega), r_canBe hF hn ho hcx hS hv hgl f2 hlo g1 (fun m hm => ⟨by rw [g2 m (by omega)]; exact (f5 m hm).1, (f5 m hm).2⟩), zb_some]
            by_cases hc : zok (zc1 l nl ny kv gr) (zc2 l nl ny gr) p p.length lo
            · rw [zif_t hc] at hzt
              rw [if_neg (by rw [zb_0]; exact not_not_intro hc), g0.1 0 12 rfl, hx.1.1, zI_sub]
              by_cases hlast : p.length = N - 1
              · rw [if_pos (zI_inj (by omega)), zk_bind]
                refine zOk_mono (r_takesWay (N := N) (t := pre.length) (x := p ++ [lo]) hN4 ((g0.1 0 12 rfl).trans hx.1.1) g3 (by omega) (fun m hm => ?_)) (fun M3 h3 => ?_)
                · by_cases he : m = p.length
                  · rw [he, g1, zgetD_e]
                  · rw [g2 m he, zgetD_l (by omega)]
                    exact (f5 m (by omega)).1
                · obtain ⟨w1, w2, w3, w4⟩ := h3
                  rw [zk_some, zlp_l]
                  have hp3 : ∀ m, M3.1 26 m = B.1 26 m := fun m => w4.1 26 m rfl
                  refine ⟨⟨zP_tr g0 (zP_mono w4 (fun a k ha => by unfold zWwr at ha; simp at ha ⊢; omega)), pre ++ [p ++ [lo]], by rw [List.length_append, List.length_singleton]; omega, by rw [w1, List.length_append, List.length_singleton], fun x hx' m hm => ?_, Or.inr ⟨p, lo + 1, rfl, f2, by omega, by rw [hp3, g1]; exact zI_inj (by omega), fun m hm => ⟨by rw [hp3, g2 m (by omega)]; exact (f5 m hm).1, (f5 m hm).2⟩, ?_⟩⟩, ?_⟩
                  · cases hp : pre with
                    | nil =>
                      rw [hp] at hx' w2
                      have : p ++ [lo] = x := by simpa using hx'
                      rw [← this]
                      exact w2 rfl m hm
                    | cons a r =>
                      rw [hp] at hx' w3 e4
                      rw [w3 (by simp) m, g4 m]
                      exact e4 x hx' m hm
                  · rw [f6, hzt, show N - 1 - p.length = 0 by omega]
                    show pre ++ ((([p ++ [lo]] : List (List Nat)) ++ _) ++ _) = _
                    simp only [List.append_assoc]
                  · exact hmu M3 _ (fun m hm => by rw [hp3]) (Or.inl rfl) (by omega)
              · rw [if_neg (by simp (disch := omega) only [zk_bind, zk_chk, zk_bnd, zk_some, zlp_l, zlp_r, zb_some, zb_bnd, zI_add, zI_sub, zI_mul, zI_neg, zI_le, zI_lt, zI_eq, zI_ix, zI_inI, Int.toNat_natCast, Int.toNat_add, Int.toNat_mul, true_and, and_true]; omega), zk_bnd, zI_add, zI_inI (by omega) (by omega) (by omega), zb_chk, zk_bnd, zk_some, zlp_l, zI_ix (by omega) (by omega), show ((p.length : Int) + 1).toNat = p.length + 1 by omega]
                have hl2 : (p ++ [lo]).length = p.length + 1 := by rw [List.length_append, List.length_singleton]
                refine ⟨⟨zP_I g0 rfl, pre, e2, by rw [zm_Iq _ _ _ _ (by decide)]; exact g3, fun x hx' m hm => by rw [zm_Iq _ _ _ _ (by decide), g4 m]; exact e4 x hx' m hm, Or.inr ⟨p ++ [lo], 0, by rw [hl2]; exact zI_inj (by omega), by omega, by omega, by rw [hl2, zm_Is]; rfl, fun m hm => ?_, ?_⟩⟩, ?_⟩
                · rw [hl2] at hm
                  by_cases he : m = p.length
                  · rw [he, zm_In _ _ _ _ (by omega), g1, zgetD_e]
                    exact ⟨rfl, hlo, hc.1⟩
                  · rw [zm_In _ _ _ _ (by omega), g2 m he, zgetD_l (by omega)]
                    exact f5 m (by omega)
                · rw [f6, hzt, hl2, ztl_0 (by omega), hl2, show N - 1 - p.length = N - (p.length + 1) by omega]
                  show _ = pre ++ (_ ++ (ztl _ _ _ _ ((p ++ [lo]).take p.length) ((p ++ [lo]).getD p.length 0 + 1) ++ zrmn _ _ _ _ (p ++ [lo]) p.length))
                  rw [List.take_append_of_le_length (Nat.le_refl _), List.take_length, zgetD_e, zrmn_take (p := p ++ [lo]) (q := p) p.length (fun m hm => ⟨List.take_append_of_le_length (by omega), zgetD_l hm⟩)]
                  simp only [List.append_assoc]
                · exact hmu _ _ (fun m hm => by rw [zm_In _ _ _ _ (by omega)]) (Or.inr (Or.inr ⟨rfl, by rw [zm_Is]; decide, by omega⟩)) (by omega)
            · rw [zif_f hc, List.nil_append] at hzt
              rw [if_pos (by rw [zb_0]; exact hc), zk_some, zlp_l]
              exact ⟨⟨g0, pre, e2, g3, fun x hx' m hm => by rw [g4 m]; exact e4 x hx' m hm, Or.inr ⟨p, lo + 1, rfl, f2, by omega, by rw [g1]; exact zI_inj (by omega), fun m hm => ⟨by rw [g2 m (by omega)]; exact (f5 m hm).1, (f5 m hm).2⟩, by rw [f6, hzt]⟩⟩, hmu B _ (fun m hm => rfl) (Or.inl rfl) (by omega)⟩
          · rw [if_neg (by simp (disch := omega) only [zk_bind, zk_chk, zk_bnd, zk_some, zlp_l, zlp_r, zb_some, zb_bnd, zI_add, zI_sub, zI_mul, zI_neg, zI_le, zI_lt, zI_eq, zI_ix, zI_inI, Int.toNat_natCast, Int.toNat_add, Int.toNat_mul, true_and, and_true]; omega), zk_bnd, zk_some, zlp_l, zI_add]
            refine ⟨⟨g0, pre, e2, g3, fun x hx' m hm => by rw [g4 m]; exact e4 x hx' m hm, ?_⟩, hmu B _ (fun m hm => rfl) (Or.inr (Or.inl (by omega))) (by omega)⟩
            rw [ztl_e (by omega), List.nil_append] at f6
            by_cases hp0 : p.length = 0
            · left
              rw [hp0] at f6 ⊢
              exact ⟨rfl, by rw [f6]; exact List.append_nil pre⟩
            · right
              have hlt : (p.take (p.length - 1)).length = p.length - 1 := by rw [List.length_take]; omega
              have hq := f5 (p.length - 1) (by omega)
              refine ⟨p.take (p.length - 1), p.getD (p.length - 1) 0 + 1, by rw [hlt]; exact zI_inj (by omega), by omega, by omega, by rw [hlt, g2 _ (by omega), hq.1]; exact zI_inj (by omega), fun m hm => ?_, ?_⟩
              · rw [hlt] at hm
                rw [g2 m (by omega), zgetD_t hm]
                exact f5 m (by omega)
              · rw [f6, hlt]
                congr 1
                obtain ⟨n', hn'⟩ : ∃ n', p.length = n' + 1 := ⟨p.length - 1, by omega⟩
                rw [hn', Nat.add_sub_cancel]
                show ztl _ _ _ _ (p.take n') (p.getD n' 0 + 1) ++ zrmn _ _ _ _ p n' = _
                congr 1
                exact (zrmn_take n' (fun m hm => ⟨by rw [List.take_take, Nat.min_eq_left (by omega)], zgetD_t hm⟩)).symm
    · rw [show zix (zI 0) = ([] : List Nat).length from rfl, zm_Is]
      rfl
    · show zwy _ _ _ N [] = _
      rw [ztl_0 (by simp; omega)]
      simp [zrmn]
