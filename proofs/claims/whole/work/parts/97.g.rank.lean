/-! ===== ranks, and the settled lexicon of the class ===== deps: 97.f.lexs -/
theorem zsum_lt {n : Nat} {f g : Nat → Nat} (h : ∀ i, i < n → f i ≤ g i) {j : Nat} (hj : j < n) (hlt : f j < g j) : zsum n f < zsum n g := by
  induction n with
  | zero => omega
  | succ n ih =>
    rw [zsum_s, zsum_s]
    by_cases he : j = n
    · subst he
      have := zsum_mono (n := j) (f := f) (g := g) (fun i hi => h i (by omega))
      omega
    · have := ih (fun i hi => h i (by omega)) (by omega)
      have := h n (by omega)
      omega
theorem zb_mono {p q : Prop} (h : p → q) : zb p ≤ zb q := by
  by_cases hp : p
  · rw [zb_t hp, zb_t (h hp)]
    exact Nat.le_refl 1
  · rw [zb_f hp]
    exact Nat.zero_le _
def zahd (l : List (Nat × Nat)) (o w : Nat) : Prop := (zE l w).2 < (zE l o).2 ∨ ((zE l o).2 = (zE l w).2 ∧ o < w)
noncomputable def zah (l : List (Nat × Nat)) (k w : Nat) : Nat := zsum k (fun o => zb (zahd l o w))
def rnkC (l : List (Nat × Nat)) (k : Nat) (C : ZMem) : Prop := ∀ p, p < k → ∃ w, w < k ∧ C.1 38 p = zI w ∧ zah l k w = p
theorem zah_le (l : List (Nat × Nat)) (k w : Nat) : zah l k w ≤ k := zsum_le1 (fun _ _ => zb_le _)
theorem c_has2 {M : ZMem} {W : Nat} (hW : M.1 34 6 = zI W) (hW2 : W ≤ 120) {a : Int} (h1 : -2147483648 ≤ a) (h2 : a ≤ 2147483647) : f_X2_has M (zI a) = some (zI (zb (0 ≤ a ∧ a < W) : Int)) := by
  unfold f_X2_has
  rw [hW]
  by_cases c1 : a < 0
  · rw [if_pos (by simp (disch := omega) only [zk_bind, zk_chk, zk_bnd, zk_some, zlp_l, zlp_r, zb_some, zb_bnd, zI_add, zI_sub, zI_mul, zI_neg, zI_le, zI_lt, zI_eq, zI_ix, zI_inI, Int.toNat_natCast, Int.toNat_add, Int.toNat_mul, true_and, and_true]; omega), zb_f (by omega)]; rfl
  · rw [if_neg (by simp (disch := omega) only [zk_bind, zk_chk, zk_bnd, zk_some, zlp_l, zlp_r, zb_some, zb_bnd, zI_add, zI_sub, zI_mul, zI_neg, zI_le, zI_lt, zI_eq, zI_ix, zI_inI, Int.toNat_natCast, Int.toNat_add, Int.toNat_mul, true_and, and_true]; omega)]
    by_cases c2 : (W : Int) ≤ a
    · rw [if_pos (by simp (disch := omega) only [zk_bind, zk_chk, zk_bnd, zk_some, zlp_l, zlp_r, zb_some, zb_bnd, zI_add, zI_sub, zI_mul, zI_neg, zI_le, zI_lt, zI_eq, zI_ix, zI_inI, Int.toNat_natCast, Int.toNat_add, Int.toNat_mul, true_and, and_true]; omega), zb_f (by omega)]; rfl
    · rw [if_neg (by simp (disch := omega) only [zk_bind, zk_chk, zk_bnd, zk_some, zlp_l, zlp_r, zb_some, zb_bnd, zI_add, zI_sub, zI_mul, zI_neg, zI_le, zI_lt, zI_eq, zI_ix, zI_inI, Int.toNat_natCast, Int.toNat_add, Int.toNat_mul, true_and, and_true]; omega), zb_t (by omega)]; rfl
theorem c_timesAt {M : ZMem} {l : List (Nat × Nat)} (h : lexC l M) (hl : l.length ≤ 120) {w : Nat} (hw : w < l.length) : f_X2_timesAt M (zI w) = some (zI (zE l w).2) := by
  unfold f_X2_timesAt
  rw [c_has2 h.1 hl (by omega) (by omega), zb_some, if_neg (by rw [zb_0]; omega), zI_inI (by omega) (by omega) (by omega), zb_chk, zI_ix (by omega) (by omega), Int.toNat_natCast, (h.2 w hw).2]
theorem c_rankWords {M : ZMem} {l : List (Nat × Nat)} (hl : l.length ≤ 120) (ht : ∀ i, i < l.length → (zE l i).2 ≤ 120) (h : lexC l M) : zOk (f_X2_rankWords M) (fun M' => rnkC l l.length M' ∧ zP (fun a _ => a == 38) M M') := by
  unfold f_X2_rankWords
  rw [zk_bind]
  have hx : ∀ {M' : ZMem}, zP (fun a _ => a == 38) M M' → lexC l M' := fun hp => lexC_x (hp.1 34 6 rfl) (fun k => hp.1 36 k rfl) (by rw [hp.2]) h
  refine zOk_forQ (fun k x => x.2 = zI k ∧ zP (fun a _ => a == 38) M x.1 ∧ rnkC l k x.1) l.length ?_ ?_ ⟨rfl, zP_rf, fun p hp => absurd hp (Nat.not_lt_zero p)⟩
  · rintro k ⟨x1, x2⟩ hk ⟨e1, e2, e3⟩ Q hQ _
    dsimp only at e1 e2 e3
    have hc := zah_le l k k
    have tk := ht k hk
    -- who stands ahead of k, of those before it
    have hck : ∀ w p, w < k → zah l k w = p → ((zE l w).2 < (zE l k).2 ↔ zah l k k ≤ p) := by
      rintro w p hw rfl
      constructor
      · intro hlt
        refine zsum_mono (fun o ho => zb_mono (fun ha => ?_))
        unfold zahd at ha ⊢
        omega
      · intro hle
        by_cases hlt : (zE l w).2 < (zE l k).2
        · exact hlt
        · have : zah l k w < zah l k k := by
            refine zsum_lt (fun o ho => zb_mono (fun ha => ?_)) hw ?_
            · unfold zahd at ha ⊢
              omega
            · rw [zb_f (fun ha => by unfold zahd at ha; omega), zb_t (by unfold zahd; omega)]
              omega
          omega
    unfold f_X2_rankWords_L2
    dsimp only
    rw [(hx e2).1, e1, if_neg (by simp (disch := omega) only [zk_bind, zk_chk, zk_bnd, zk_some, zlp_l, zlp_r, zb_some, zb_bnd, zI_add, zI_sub, zI_mul, zI_neg, zI_le, zI_lt, zI_eq, zI_ix, zI_inI, Int.toNat_natCast, Int.toNat_add, Int.toNat_mul, true_and, and_true]; omega), zk_bind]
    refine zOk_forQ (fun i x => x.2 = zI ((k - i : Nat) : Int) ∧ zP (fun a _ => a == 38) M x.1 ∧ (∀ p, p < k - i → x.1.1 38 p = x1.1 38 p) ∧ ∀ p, k - i < p → p ≤ k → x.1.1 38 p = x1.1 38 (p - 1)) (k - zah l k k) ?_ ?_ ⟨rfl, e2, fun p _ => rfl, fun p h1 h2 => by omega⟩
    · rintro i ⟨y1, y2⟩ hi ⟨d1, d2, d3, d4⟩ Q' hQ' _
      dsimp only at d1 d2 d3 d4
      obtain ⟨w, w1, w2, w3⟩ := e3 (k - i - 1) (by omega)
      have hlt := (hck w _ w1 w3).mpr (by omega)
      have tw := ht w (by omega)
      unfold f_X2_rankWords_L12
      dsimp only
      rw [d1, if_neg (by simp (disch := omega) only [zk_bind, zk_chk, zk_bnd, zk_some, zlp_l, zlp_r, zb_some, zb_bnd, zI_add, zI_sub, zI_mul, zI_neg, zI_le, zI_lt, zI_eq, zI_ix, zI_inI, Int.toNat_natCast, Int.toNat_add, Int.toNat_mul, true_and, and_true]; omega), zI_sub, show (((k - i : Nat) : Int) - 1) = ((k - i - 1 : Nat) : Int) by omega, zI_inI (by omega) (by omega) (by omega), zb_chk, zI_ix (by omega) (by omega), Int.toNat_natCast, d3 _ (by omega), w2, c_timesAt (hx d2) hl (by omega), zb_some, zI_inI (by omega) (by omega) (by omega), zb_chk, zI_ix (by omega) (by omega), Int.toNat_natCast, ((hx d2).2 k hk).2, if_neg (by simp (disch := omega) only [zk_bind, zk_chk, zk_bnd, zk_some, zlp_l, zlp_r, zb_some, zb_bnd, zI_add, zI_sub, zI_mul, zI_neg, zI_le, zI_lt, zI_eq, zI_ix, zI_inI, Int.toNat_natCast, Int.toNat_add, Int.toNat_mul, true_and, and_true]; omega), zb_chk, zI_inI (by omega) (by omega) (by omega), zb_chk, zI_ix (by omega) (by omega), Int.toNat_natCast, zk_bnd, zk_bnd, zk_some, zI_add]
      refine hQ' _ ⟨zI_inj (by omega), zP_I d2 rfl, fun p hp => ?_, fun p h1 h2 => ?_⟩
      · rw [zm_In _ _ _ _ (by omega)]
        exact d3 p (by omega)
      · by_cases he : p = k - i
        · rw [he, zm_Is, w2]
        · rw [zm_In _ _ _ _ he]
          exact d4 p (by omega) h2
    · rintro ⟨y1, y2⟩ ⟨d1, d2, d3, d4⟩
      dsimp only at d1 d2 d3 d4
      have ek : k - (k - zah l k k) = zah l k k := by omega
      rw [ek] at d1 d3 d4
      refine ⟨(y1, y2), ?_, ?_⟩
      · unfold f_X2_rankWords_L12
        dsimp only
        by_cases h0 : zah l k k = 0
        · rw [d1, if_pos (by simp (disch := omega) only [zk_bind, zk_chk, zk_bnd, zk_some, zlp_l, zlp_r, zb_some, zb_bnd, zI_add, zI_sub, zI_mul, zI_neg, zI_le, zI_lt, zI_eq, zI_ix, zI_inI, Int.toNat_natCast, Int.toNat_add, Int.toNat_mul, true_and, and_true]; omega)]
        · obtain ⟨w, w1, w2, w3⟩ := e3 (zah l k k - 1) (by omega)
          have hlt : ¬ (zE l w).2 < (zE l k).2 := fun hh => by
            have := (hck w _ w1 w3).mp hh
            omega
          have tw := ht w (by omega)
          rw [d1, if_neg (by simp (disch := omega) only [zk_bind, zk_chk, zk_bnd, zk_some, zlp_l, zlp_r, zb_some, zb_bnd, zI_add, zI_sub, zI_mul, zI_neg, zI_le, zI_lt, zI_eq, zI_ix, zI_inI, Int.toNat_natCast, Int.toNat_add, Int.toNat_mul, true_and, and_true]; omega), zI_sub, show (((zah l k k : Nat) : Int) - 1) = ((zah l k k - 1 : Nat) : Int) by omega, zI_inI (by omega) (by omega) (by omega), zb_chk, zI_ix (by omega) (by omega), Int.toNat_natCast, d3 _ (by omega), w2, c_timesAt (hx d2) hl (by omega), zb_some, zI_inI (by omega) (by omega) (by omega), zb_chk, zI_ix (by omega) (by omega), Int.toNat_natCast, ((hx d2).2 k hk).2, if_pos (by simp (disch := omega) only [zk_bind, zk_chk, zk_bnd, zk_some, zlp_l, zlp_r, zb_some, zb_bnd, zI_add, zI_sub, zI_mul, zI_neg, zI_le, zI_lt, zI_eq, zI_ix, zI_inI, Int.toNat_natCast, Int.toNat_add, Int.toNat_mul, true_and, and_true]; omega)]
      · dsimp only
        rw [d1, zI_inI (by omega) (by omega) (by omega), zb_chk, zk_bnd, zk_bnd, zk_some, zI_ix (by omega) (by omega), Int.toNat_natCast, zI_add]
        refine hQ _ ⟨zI_inj (by omega), zP_I d2 rfl, fun p hp => ?_⟩
        have hs : ∀ w, zah l (k + 1) w = zah l k w + zb (zahd l k w) := fun w => rfl
        by_cases c1 : p = zah l k k
        · refine ⟨k, by omega, by rw [c1, zm_Is], ?_⟩
          rw [hs, zb_f (fun ha => by unfold zahd at ha; omega), c1]
          rfl
        · by_cases c2 : p < zah l k k
          · obtain ⟨w, w1, w2, w3⟩ := e3 p (by omega)
            have hlt : ¬ (zE l w).2 < (zE l k).2 := fun hh => by
              have := (hck w _ w1 w3).mp hh
              omega
            refine ⟨w, by omega, by rw [zm_In _ _ _ _ c1, d3 p c2, w2], ?_⟩
            rw [hs, w3, zb_f (fun ha => by unfold zahd at ha; omega)]
            rfl
          · obtain ⟨w, w1, w2, w3⟩ := e3 (p - 1) (by omega)
            have hlt := (hck w _ w1 w3).mpr (by omega)
            refine ⟨w, by omega, by rw [zm_In _ _ _ _ c1, d4 p (by omega) (by omega), w2], ?_⟩
            rw [hs, w3, zb_t (by unfold zahd; omega)]
            omega
  · rintro ⟨x1, x2⟩ ⟨e1, e2, e3⟩
    dsimp only at e1 e2 e3
    refine ⟨x1, ?_, ?_⟩
    · unfold f_X2_rankWords_L2
      dsimp only
      rw [(hx e2).1, e1, if_pos (by simp (disch := omega) only [zk_bind, zk_chk, zk_bnd, zk_some, zlp_l, zlp_r, zb_some, zb_bnd, zI_add, zI_sub, zI_mul, zI_neg, zI_le, zI_lt, zI_eq, zI_ix, zI_inI, Int.toNat_natCast, Int.toNat_add, Int.toNat_mul, true_and, and_true]; omega)]
    · rw [zk_some]
      exact ⟨e3, e2⟩
/-- what the lexicon is -/
def okL (l : List (Nat × Nat)) : Prop := l.length ≤ 120 ∧ zsrt l ∧ zwords l ∧ ∀ i, i < l.length → 1 ≤ (zE l i).2 ∧ (zE l i).2 ≤ 120
theorem zins_pos {l : List (Nat × Nat)} (hs : zsrt l) (h : ∀ i, i < l.length → 1 ≤ (zE l i).2) (key : Nat) : ∀ i, i < (zins key l).length → 1 ≤ (zE (zins key l) i).2 := by
  obtain ⟨p, h1, h2, h3⟩ := zfind l hs key
  obtain ⟨g1, g2⟩ := zins_get key l p h1 h2 h3
  intro i hi
  by_cases hc : p < l.length ∧ (zE l p).1 = key
  · obtain ⟨g3, g4⟩ := g1 hc
    rw [g4 i]
    split
    · show 1 ≤ _ + 1
      omega
    · exact h i (by omega)
  · obtain ⟨g3, g4⟩ := g2 hc
    rw [g4 i (by omega)]
    split
    · exact h i (by omega)
    · split
      · exact Nat.le_refl 1
      · exact h (i - 1) (by omega)
/-- any count over the words, by their times, is the count over the cuts -/
theorem zfold_sum (w : Nat → Nat) : ∀ (ks : List Nat) (l : List (Nat × Nat)), zsrt l → zsum (zfold l ks).length (fun i => w (zE (zfold l ks) i).1 * (zE (zfold l ks) i).2) = zsum l.length (fun i => w (zE l i).1 * (zE l i).2) + (ks.map w).sum
  | [], l, _ => by simp [zfold]
  | k :: ks, l, hs => by
    rw [zfold_c, zfold_sum w ks (zins k l) (zins_srt hs k), zins_sum hs, List.map_cons, List.sum_cons]
    omega
theorem zfold_pos : ∀ (ks : List Nat) (l : List (Nat × Nat)), zsrt l → (∀ i, i < l.length → 1 ≤ (zE l i).2) → ∀ i, i < (zfold l ks).length → 1 ≤ (zE (zfold l ks) i).2
  | [], _, _, h => h
  | k :: ks, l, hs, h => zfold_pos ks (zins k l) (zins_srt hs k) (zins_pos hs h k)
theorem zfold_srt : ∀ (ks : List Nat) (l : List (Nat × Nat)), zsrt l → zsrt (zfold l ks)
  | [], _, h => h
  | k :: ks, l, hs => zfold_srt ks (zins k l) (zins_srt hs k)
theorem zsrt_nil : zsrt [] := fun i j _ hj => absurd hj (Nat.not_lt_zero j)
theorem zmap1 (ks : List Nat) : (ks.map (fun _ => 1)).sum = ks.length := by
  induction ks with
  | nil => rfl
  | cons a r ih => rw [List.map_cons, List.sum_cons, List.length_cons, ih]; omega
theorem zlex_times {rl : Nat → Nat} {rs : Nat → Nat → Nat} (hk : okRw rl rs) (rise : Nat) : ∀ i, i < (zlex rl rs rise).length → 1 ≤ (zE (zlex rl rs rise) i).2 ∧ (zE (zlex rl rs rise) i).2 ≤ 120 := by
  intro i hi
  have h0 := zrest_len hk rise 24
  have h1 := zfold_sum (fun _ => 1) (zrest rl rs rise 24) [] zsrt_nil
  rw [zmap1] at h1
  have h2 := zsum_pos (n := (zfold [] (zrest rl rs rise 24)).length) (f := fun i => 1 * (zE (zfold [] (zrest rl rs rise 24)) i).2) hi
  have h3 : zsum ([] : List (Nat × Nat)).length (fun i => 1 * (zE ([] : List (Nat × Nat)) i).2) = 0 := rfl
  refine ⟨zfold_pos _ _ zsrt_nil (fun i hi => absurd hi (Nat.not_lt_zero i)) i hi, ?_⟩
  unfold zlex
  omega
def lexF (rl : Nat → Nat) (rs : Nat → Nat → Nat) (rise : Nat) (C : ZMem) : Prop := lexC (zlex rl rs rise) C ∧ (∀ i, i < (zlex rl rs rise).length → C.1 37 i = zI (zkl (zE (zlex rl rs rise) i).1)) ∧ C.1 34 7 = zI ((zrest rl rs rise 24).length : Int) ∧ rnkC (zlex rl rs rise) (zlex rl rs rise).length C
def zWlex (a k : Nat) : Bool := zWcut a k || a == 37 || a == 38
theorem c_lexSettle {M : ZMem} {rl : Nat → Nat} {rs : Nat → Nat → Nat} {rise : Nat} (hk : okRw rl rs) (h : rowsG rl rs M) (hr : rise ≤ 9) : zOk (f_X2_settle M (zI rise)) (fun M' => lexF rl rs rise M' ∧ okL (zlex rl rs rise) ∧ zP2 zWlex (fun a => a == 35) M M') := by
  have hall := zrest_len hk rise 24
  unfold f_X2_settle
  rw [zk_bnd, zk_bnd, zk_bind]
  refine zOk_for0 (fun q x => x.2 = zI q ∧ zP2 zWcut (fun a => a == 35) M x.1 ∧ zcutI rl rs rise (zrest rl rs rise (24 - q)) x.1) 24 ?_ ?_ ⟨rfl, zP2_I (zP2_I zP2_rf rfl) rfl, [], ⟨by rw [zm_In _ _ _ _ (by decide), zm_Is]; rfl, fun i hi => absurd hi (Nat.not_lt_zero i)⟩, zsrt_nil, fun i hi => absurd hi (Nat.not_lt_zero i), rfl, by simp, 0, by rw [zm_Is]; rfl, by simp⟩
  · rintro q ⟨x1, x2⟩ hq ⟨e1, e2, e3⟩
    dsimp only at e1 e2 e3
    unfold f_X2_settle_L12
    dsimp only
    rw [e1, if_neg (by simp (disch := omega) only [zk_bind, zk_chk, zk_bnd, zk_some, zlp_l, zlp_r, zb_some, zb_bnd, zI_add, zI_sub, zI_mul, zI_neg, zI_le, zI_lt, zI_eq, zI_ix, zI_inI, Int.toNat_natCast, Int.toNat_add, Int.toNat_mul, true_and, and_true]; omega), zk_bind]
    refine zOk_mono (c_cutRow hk (rowsG_x (fun k => e2.1 31 k rfl) (fun k => e2.1 32 k rfl) h) hr hq e3) (fun M1 h1 => ?_)
    rw [zk_bnd, zk_some, zlp_l, zI_add]
    exact ⟨zI_inj (by omega), zP2_tr e2 h1.2, h1.1⟩
  · rintro ⟨x1, x2⟩ ⟨e1, e2, l, l1, l2, l3, l4, l5, c, l6, l7⟩
    dsimp only at e1 e2 l1 l6
    unfold f_X2_settle_L12
    dsimp only
    rw [e1, if_pos (by simp (disch := omega) only [zk_bind, zk_chk, zk_bnd, zk_some, zlp_l, zlp_r, zb_some, zb_bnd, zI_add, zI_sub, zI_mul, zI_neg, zI_le, zI_lt, zI_eq, zI_ix, zI_inI, Int.toNat_natCast, Int.toNat_add, Int.toNat_mul, true_and, and_true]; omega), zk_some, zlp_r]
    have hl : l = zlex rl rs rise := l4
    have hlen : l.length ≤ 120 := by
      have : (zrest rl rs rise (24 - 24)).length = 0 := rfl
      omega
    have hc : c = (zrest rl rs rise 24).length := by
      have : (zrest rl rs rise (24 - 24)).length = 0 := rfl
      omega
    have ht := zlex_times hk rise
    rw [← hl] at ht
    rw [zk_bind]
    refine zOk_for0 (fun i x => x.2 = zI i ∧ zP (fun a _ => a == 37) x1 x.1 ∧ ∀ j, j < i → x.1.1 37 j = zI (zkl (zE l j).1)) l.length ?_ ?_ ⟨rfl, zP_rf, fun j hj => absurd hj (Nat.not_lt_zero j)⟩
    · rintro i ⟨y1, y2⟩ hi ⟨d1, d2, d3⟩
      dsimp only at d1 d2 d3
      obtain ⟨n, n1, n2⟩ := l3 i hi
      unfold f_X2_settle_L33
      dsimp only
      rw [d2.1 34 6 rfl, l1.1, d1, if_neg (by simp (disch := omega) only [zk_bind, zk_chk, zk_bnd, zk_some, zlp_l, zlp_r, zb_some, zb_bnd, zI_add, zI_sub, zI_mul, zI_neg, zI_le, zI_lt, zI_eq, zI_ix, zI_inI, Int.toNat_natCast, Int.toNat_add, Int.toNat_mul, true_and, and_true]; omega), zI_inI (by omega) (by omega) (by omega), zb_chk, zI_ix (by omega) (by omega), Int.toNat_natCast, d2.2, (l1.2 i hi).1, zlenk n2, zb_some, zb_chk, zk_bnd, zk_bnd, zk_some, zlp_l, zI_add]
      refine ⟨zI_inj (by omega), zP_I d2 rfl, fun j hj => ?_⟩
      by_cases he : j = i
      · rw [he, zm_Is, zisW_len n2]
      · rw [zm_In _ _ _ _ he]
        exact d3 j (by omega)
    · rintro ⟨y1, y2⟩ ⟨d1, d2, d3⟩
      dsimp only at d1 d2 d3
      unfold f_X2_settle_L33
      dsimp only
      rw [d2.1 34 6 rfl, l1.1, d1, if_pos (by simp (disch := omega) only [zk_bind, zk_chk, zk_bnd, zk_some, zlp_l, zlp_r, zb_some, zb_bnd, zI_add, zI_sub, zI_mul, zI_neg, zI_le, zI_lt, zI_eq, zI_ix, zI_inI, Int.toNat_natCast, Int.toNat_add, Int.toNat_mul, true_and, and_true]; omega), zk_some, zlp_r, zk_bind]
      have l1' : lexC l y1 := lexC_x (d2.1 34 6 rfl) (fun k => d2.1 36 k rfl) (by rw [d2.2]) l1
      refine zOk_mono (c_rankWords hlen (fun i hi => (ht i hi).2) l1') (fun M2 h2 => ?_)
      obtain ⟨r1, r2⟩ := h2
      rw [zk_some]
      refine ⟨?_, ?_, ?_⟩
      · unfold lexF
        rw [← hl]
        refine ⟨lexC_x (r2.1 34 6 rfl) (fun k => r2.1 36 k rfl) (by rw [r2.2]) l1', fun i hi => by rw [r2.1 37 i rfl]; exact d3 i hi, ?_, r1⟩
        rw [r2.1 34 7 rfl, d2.1 34 7 rfl, l6, hc]
      · rw [← hl]
        exact ⟨hlen, l2, l3, ht⟩
      · refine zP2_tr (zP2_mono e2 (fun a k ha => by unfold zWlex at ha; simp at ha; exact ha.1.1) (fun _ h => h)) (zP2_tr (zP2_of d2 (fun a k ha => by unfold zWlex at ha; simp at ha ⊢; exact ha.1.2)) (zP2_of r2 (fun a k ha => by unfold zWlex at ha; simp at ha ⊢; exact ha.2)))
