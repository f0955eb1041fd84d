/-! ===== what holds of all that is laid ===== deps: 97.u.fitr -/
theorem zComp_ex (n : Nat) (lk : Nat → Nat → Prop) : ∃ L, zComp n lk L := by
  have key : ∀ m, ∃ L, zComp n (fun i j => lk i j ∧ i * n + j < m) L := by
    intro m
    induction m with
    | zero => exact ⟨fun i => i, zComp_congr (zComp_none n) (fun i j _ _ => ⟨False.elim, fun h => absurd h.2 (Nat.not_lt_zero _)⟩) (fun _ _ => rfl)⟩
    | succ m ih =>
      obtain ⟨L, hL⟩ := ih
      by_cases hc : ∃ i j, i < n ∧ j < n ∧ lk i j ∧ i * n + j = m
      · obtain ⟨i, j, hi, hj, hl, hm⟩ := hc
        refine ⟨_, zComp_congr (zComp_join hL hi hj) (fun a b ha hb => ⟨?_, ?_⟩) (fun _ _ => rfl)⟩
        · rintro (⟨h1, h2⟩ | ⟨rfl, rfl⟩)
          · exact ⟨h1, by omega⟩
          · exact ⟨hl, by omega⟩
        · rintro ⟨h1, h2⟩
          by_cases he : a * n + b = m
          · right
            have e1 : a = i := by
              have q1 : (a * n + b) / n = a := by rw [Nat.mul_comm, Nat.mul_add_div (by omega), Nat.div_eq_of_lt hb]; rfl
              have q2 : (i * n + j) / n = i := by rw [Nat.mul_comm, Nat.mul_add_div (by omega), Nat.div_eq_of_lt hj]; rfl
              rw [he, ← hm, q2] at q1
              exact q1.symm
            refine ⟨e1, ?_⟩
            rw [e1] at he
            omega
          · exact Or.inl ⟨h1, by omega⟩
      · refine ⟨L, zComp_congr hL (fun a b ha hb => ⟨fun h => ⟨h.1, by omega⟩, fun h => ⟨h.1, ?_⟩⟩) (fun _ _ => rfl)⟩
        by_cases he : a * n + b = m
        · exact absurd ⟨a, b, ha, hb, h.1, he⟩ hc
        · omega
  obtain ⟨L, hL⟩ := key (n * n)
  refine ⟨L, zComp_congr hL (fun i j hi hj => ⟨fun h => h.1, fun h => ⟨h, ?_⟩⟩) (fun _ _ => rfl)⟩
  have : i * n + n ≤ n * n := by
    have := Nat.mul_le_mul_right n (show i + 1 ≤ n by omega)
    rwa [Nat.succ_mul] at this
  omega
theorem zLab_comp (n : Nat) (lk : Nat → Nat → Prop) : zComp n lk (zLab n lk) := by
  obtain ⟨L, hL⟩ := zComp_ex n lk
  exact zLab_spec hL
theorem zsg_f (F : Nat) (fr : Nat → Nat) (h : Nat → Int) {f : Nat} (hf : f < F) : zsg F fr h f ≤ f ∧ zsg F fr h (zsg F fr h f) = zsg F fr h f := ⟨(zLab_comp F (zlk fr h)).1 f hf, zComp_idem (zLab_comp F (zlk fr h)) hf⟩
noncomputable def dRS (F : Nat) (fr : Nat → Nat) (s : ZS) (h : Nat → Int) : Nat → Nat → Nat := zRS s (zsg F fr h) (h 1)
noncomputable def dLX (F : Nat) (fr : Nat → Nat) (s : ZS) (h : Nat → Int) : List (Nat × Nat) := zlex (zRL s) (dRS F fr s h) (h 2).toNat
noncomputable def dGR (F : Nat) (fr : Nat → Nat) (s : ZS) (h : Nat → Int) : Nat → Nat → Nat := fun kind => zgr F (dLX F fr s h) h (zsg F fr h) kind
noncomputable def dKV (F : Nat) (fr : Nat → Nat) (s : ZS) (h : Nat → Int) : Nat → Nat → Int := zkv F h (dGR F fr s h) (zsg F fr h)
theorem dRS_ok {F : Nat} {fr : Nat → Nat} {s : ZS} {h : Nat → Int} (hF : F ≤ 20) (hs : okS F s) : okRw (zRL s) (dRS F fr s h) := ⟨zRL_le hs, fun q k hk => by
  have := zRS_lt (w := h 1) hs (sg := zsg F fr h) (fun f hf => by have := (zsg_f F fr h hf).1; omega) hk
  unfold dRS
  omega⟩
theorem dRS_sg {F : Nat} {fr : Nat → Nat} {s : ZS} {h : Nat → Int} (hs : okS F s) {q k : Nat} (hk : k < zRL s q) : ∃ f, f < F ∧ dRS F fr s h q k = zsg F fr h f := by
  have hq := zRL_ex hk
  rw [zRL_e hq] at hk
  have h1 := hs.2.2 q hq
  unfold dRS zRS
  by_cases ht : zturn s (zsg F fr h) (h 1) q
  · rw [zif_t ht]
    exact ⟨_, h1.2.2 _ (by omega), rfl⟩
  · rw [zif_f ht]
    exact ⟨_, h1.2.2 _ (by omega), rfl⟩
/-- a property of all keys that are cut -/
theorem zcut_all {rl : Nat → Nat} {rs : Nat → Nat → Nat} {rise q : Nat} (P : Nat → Prop) (hP : ∀ x n, 1 ≤ n → n ≤ 7 → x + n ≤ rl q → P (zkey (fun i => rs q (x + i)) n)) : ∀ d x, rl q - x ≤ d → ∀ k, k ∈ zcut rl rs rise q x → P k := by
  intro d
  induction d with
  | zero =>
    intro x hx k hk
    rw [zcut_e (by omega)] at hk
    cases hk
  | succ d ih =>
    intro x hx k hk
    by_cases h : x < rl q
    · have hw := zwl_rng (rs := rs) (rise := rise) h
      rw [zcut_c h] at hk
      rcases List.mem_cons.mp hk with rfl | hk
      · exact hP x _ hw.1 hw.2.1 hw.2.2.1
      · exact ih _ (by omega) k hk
    · rw [zcut_e (by omega)] at hk
      cases hk
theorem zrest_all {rl : Nat → Nat} {rs : Nat → Nat → Nat} {rise : Nat} (P : Nat → Prop) (hP : ∀ q x n, 1 ≤ n → n ≤ 7 → x + n ≤ rl q → P (zkey (fun i => rs q (x + i)) n)) : ∀ d k, k ∈ zrest rl rs rise d → P k
  | 0, k, hk => by cases hk
  | d + 1, k, hk => by
    have hk : k ∈ zcut rl rs rise (24 - (d + 1)) 0 ++ zrest rl rs rise d := hk
    rcases List.mem_append.mp hk with hk | hk
    · exact zcut_all P (hP _) _ 0 (Nat.le_refl _) k hk
    · exact zrest_all P hP d k hk
theorem zins_all {P : Nat → Prop} {l : List (Nat × Nat)} (hs : zsrt l) (h : ∀ i, i < l.length → P (zE l i).1) {key : Nat} (hk : P key) : ∀ i, i < (zins key l).length → P (zE (zins key l) i).1 := by
  obtain ⟨p, h1, h2, h3⟩ := zfind l hs key
  obtain ⟨g1, g2⟩ := zins_get key l p h1 h2 h3
  intro i hi
  by_cases hc : p < l.length ∧ (zE l p).1 = key
  · obtain ⟨g3, g4⟩ := g1 hc
    rw [g4 i]
    split
    · exact hk
    · exact h i (by omega)
  · obtain ⟨g3, g4⟩ := g2 hc
    rw [g4 i (by omega)]
    split
    · exact h i (by omega)
    · split
      · exact hk
      · exact h (i - 1) (by omega)
theorem zfold_all {P : Nat → Prop} : ∀ (ks : List Nat) (l : List (Nat × Nat)), zsrt l → (∀ i, i < l.length → P (zE l i).1) → (∀ k, k ∈ ks → P k) → ∀ i, i < (zfold l ks).length → P (zE (zfold l ks) i).1
  | [], _, _, h, _ => h
  | k :: ks, l, hs, h, hks => zfold_all ks (zins k l) (zins_srt hs k) (zins_all hs h (hks k (List.mem_cons_self ..))) (fun k' hk' => hks k' (List.mem_cons_of_mem _ hk'))
theorem zfold_len : ∀ (ks : List Nat) (l : List (Nat × Nat)), (zfold l ks).length ≤ l.length + ks.length
  | [], l => Nat.le_refl _
  | k :: ks, l => by
    have h1 := zfold_len ks (zins k l)
    have h2 := zins_len k l
    rw [zfold_c, List.length_cons]
    omega
theorem zlex_all {rl : Nat → Nat} {rs : Nat → Nat → Nat} {rise : Nat} (P : Nat → Prop) (hP : ∀ q x n, 1 ≤ n → n ≤ 7 → x + n ≤ rl q → P (zkey (fun i => rs q (x + i)) n)) : ∀ i, i < (zlex rl rs rise).length → P (zE (zlex rl rs rise) i).1 := zfold_all _ _ zsrt_nil (fun i hi => absurd hi (Nat.not_lt_zero i)) (fun k hk => zrest_all P hP 24 k hk)
theorem zlex_ok {rl : Nat → Nat} {rs : Nat → Nat → Nat} (hk : okRw rl rs) (rise : Nat) : okL (zlex rl rs rise) := by
  refine ⟨?_, zfold_srt _ _ zsrt_nil, ?_, zlex_times hk rise⟩
  · have h1 := zfold_len (zrest rl rs rise 24) []
    have h2 := zrest_len hk rise 24
    unfold zlex
    simp only [List.length_nil] at h1
    omega
  · exact zlex_all (fun k => ∃ n, 1 ≤ n ∧ zisW k n) (fun q x n h1 h2 h3 => ⟨n, h1, zkey_isW h2 (fun i hi => hk.2 q _ (by omega))⟩)
theorem dLX_ok {F : Nat} {fr : Nat → Nat} {s : ZS} {h : Nat → Int} (hF : F ≤ 20) (hs : okS F s) : okL (dLX F fr s h) := zlex_ok (dRS_ok hF hs) _
theorem dLX_sg {F : Nat} {fr : Nat → Nat} {s : ZS} {h : Nat → Int} (hF : F ≤ 20) (hs : okS F s) : zSgW F (dLX F fr s h) (zsg F fr h) := by
  have hk := dRS_ok (fr := fr) (h := h) hF hs
  intro i t hi ht
  have := zlex_all (rl := zRL s) (rs := dRS F fr s h) (rise := (h 2).toNat) (fun k => ∀ t, t < zkl k → ∃ f, f < F ∧ zdg k t = zsg F fr h f + 1) (fun q x n h1 h2 h3 t ht => ?_) i hi
  · exact this t ht
  · have hp : ∀ i, i < n → dRS F fr s h q (x + i) < 20 := fun i hi => hk.2 q _ (by omega)
    rw [zisW_len (zkey_isW h2 hp)] at ht
    obtain ⟨f, f1, f2⟩ := dRS_sg (fr := fr) (h := h) hs (q := q) (k := x + t) (by omega)
    exact ⟨f, f1, by rw [zkey_dg h2 hp ht, f2]⟩
theorem dSg_lt {F : Nat} {fr : Nat → Nat} {s : ZS} {h : Nat → Int} (hF : F ≤ 20) (hs : okS F s) {w i : Nat} (hw : w < (dLX F fr s h).length) (hi : i < zN (dLX F fr s h) w) : ∃ f, f < F ∧ zSg (dLX F fr s h) w i = zsg F fr h f := by
  obtain ⟨f, f1, f2⟩ := dLX_sg hF hs w i hw hi
  exact ⟨f, f1, by unfold zSg; omega⟩
theorem dGR_ok {F : Nat} {fr : Nat → Nat} {s : ZS} {h : Nat → Int} : okG F (zsg F fr h) (dGR F fr s h) := by
  intro f hf
  have h1 := zsg_f F fr h hf
  refine ⟨h1.1, h1.2, fun kind => ?_⟩
  have hc := zLab_comp F (ztog (dLX F fr s h) h (zsg F fr h) kind)
  exact ⟨hc.1 f hf, hc.2.1 (zsg F fr h f) f (by omega) hf (Or.inl h1.2)⟩
theorem dKV_ok {F : Nat} {fr : Nat → Nat} {s : ZS} {h : Nat → Int} (hF : F ≤ 20) (hk : okH F h) : okV (dKV F fr s h) := fun kind f => zkv_rng hF hk _ _ kind f
/-- what the reference has laid -/
def laidR (F : Nat) (fr : Nat → Nat) (s : ZS) (h : Nat → Int) (R : ZMem) : Prop := signsR F fr h R ∧ rowsH s (dRS F fr s h) R ∧ wordsR (zRL s) (dRS F fr s h) (h 2).toNat R ∧ cluR (zcl (dLX F fr s h) h (zsg F fr h)) R ∧ grpR F (dGR F fr s h) R ∧ knR F h (dGR F fr s h) R
def zWlay (a k : Nat) : Bool := a == 11 || a == 13 || a == 14 || a == 15 || a == 16 || a == 17 || a == 18 || a == 19 || a == 20 || a == 22 || a == 23 || a == 25 || (a == 0 && (k == 19 || k == 23 || k == 25 || k == 26 || k == 45))
theorem r_lays {M : ZMem} {F : Nat} {fr : Nat → Nat} {s : ZS} {h : Nat → Int} (hf : formsR F fr M) (hs : okS F s) (hst : stonesR s M) (hh : handR h M) (hk : okH F h) (hb : M.1 0 45 = zI 0 ∨ M.1 0 45 = zI 1) (hl : M.1 0 45 = zI 1 → laidR F fr s h M) : zOk (f_X12_lays M) (fun M' => laidR F fr s h M' ∧ M'.1 0 45 = zI 1 ∧ zP zWlay M M') := by
  have hF := hf.1
  have hRw := dRS_ok (fr := fr) (h := h) hF hs
  have ho := dLX_ok (fr := fr) (h := h) hF hs
  have hG := dGR_ok (F := F) (fr := fr) (s := s) (h := h)
  have hsl : ∀ f, f < F → zsg F fr h f < 20 := fun f hf' => by have := (zsg_f F fr h hf').1; omega
  unfold f_X12_lays
  rcases hb with hb | hb
  · rw [hb, if_pos rfl, zk_bind]
    refine zOk_mono (r_laysSigns hf hh hk) (fun M1 h1 => ?_)
    obtain ⟨a1, _, a3⟩ := h1
    have p1 : zP zWlay M M1 := zP_mono a3 (fun a k ha => by unfold zWlay at ha; simp at ha ⊢; omega)
    have hst1 : stonesR s M1 := stonesR_x (fun a k ha => a3.1 a k (by unfold dstonesR at ha; simp at ha ⊢; omega)) hst
    rw [zk_bind]
    refine zOk_mono (r_laysRows (w := h 1) hF a1.1 hsl hs hst1 hk.2.1 ((a3.1 9 1 rfl).trans (hh 1 (by decide)))) (fun M2 h2 => ?_)
    obtain ⟨b1, b2⟩ := h2
    have p2 : zP zWlay M M2 := zP_tr p1 (zP_mono b2 (fun a k ha => by unfold zWlay at ha; unfold zWrowsR; simp at ha ⊢; omega))
    have hr := hk.2.2.1
    rw [zk_bind]
    refine zOk_mono (r_laysWords (rise := (h 2).toNat) hs hRw b1 (by omega) (by rw [p2.1 9 2 rfl, hh 2 (by decide)]; exact zI_inj (by omega))) (fun M3 h3 => ?_)
    obtain ⟨c1, _, c3⟩ := h3
    have p3 : zP zWlay M M3 := zP_tr p2 (zP_mono c3 (fun a k ha => by unfold zWlay at ha; unfold zWlexR zWwds; simp at ha ⊢; omega))
    have s3 : ∀ f, f < F → M3.1 11 f = zI (zsg F fr h f) := fun f hf' => by rw [c3.1 11 f rfl, b2.1 11 f rfl]; exact a1.1 f hf'
    rw [zk_bind]
    refine r_grid1 (F := F) (h := h) (sg := zsg F fr h) ho c1.1 hF hk (handR_x (fun k => p3.1 9 k rfl) hh) s3 hsl _ (fun N n1 n2 => ?_)
    have p4 : zP zWlay M N := zP_tr p3 (zP_mono n2 (fun a k ha => by unfold zWlay at ha; simp at ha ⊢; omega))
    have hF4 : N.1 0 4 = zI F := (p4.1 0 4 rfl).trans hf.2.1
    have s4 : ∀ f, f < F → N.1 11 f = zI (zsg F fr h f) := fun f hf' => by rw [n2.1 11 f rfl]; exact s3 f hf'
    rw [zk_bind]
    refine zOk_mono (r_laysGroups (kind := 0) hF hF4 s4 (fun f hf' => zsg_f F fr h hf') n1 (by decide)) (fun M5 h5 => ?_)
    obtain ⟨d1, _, d3⟩ := h5
    rw [zk_bind]
    have n1' : cluR (zcl (dLX F fr s h) h (zsg F fr h)) M5 := fun kind a b q1 q2 q3 => by rw [d3.1 22 _ rfl]; exact n1 kind a b q1 q2 q3
    refine zOk_mono (r_laysGroups (kind := 1) hF ((d3.1 0 4 rfl).trans hF4) (fun f hf' => by rw [d3.1 11 f rfl]; exact s4 f hf') (fun f hf' => zsg_f F fr h hf') n1' (by decide)) (fun M6 h6 => ?_)
    obtain ⟨e1, _, e3⟩ := h6
    rw [zk_some, zk_bind]
    have p6 : zP zWlay M M6 := zP_tr p4 (zP_tr (zP_mono d3 (fun a k ha => by unfold zWlay at ha; simp at ha ⊢; omega)) (zP_mono e3 (fun a k ha => by unfold zWlay at ha; simp at ha ⊢; omega)))
    have g6 : grpR F (dGR F fr s h) M6 := by
      intro kind f hkd hf'
      by_cases hk0 : kind = 0
      · subst hk0
        rw [e3.1 23 _ (by simp; omega)]
        exact d1 f hf'
      · have : kind = 1 := by omega
        subst this
        exact e1 f hf'
    refine zOk_mono (r_laysKnown (h := h) (gr := dGR F fr s h) hF ((p6.1 0 4 rfl).trans hf.2.1) hk (handR_x (fun k => p6.1 9 k rfl) hh) g6 (fun kind f hf' => by have := ((hG f hf').2.2 kind).1; omega)) (fun M7 h7 => ?_)
    obtain ⟨f1, f2⟩ := h7
    rw [zk_bnd, zk_some]
    have q67 : ∀ a k, a ≠ 25 → (a ≠ 0 ∨ k ≠ 45) → (zstI M7 0 45 (zI 1)).1 a k = M6.1 a k := fun a k h1 h2 => by rw [zm_I, if_neg (by omega), f2.1 a k (by simp; exact h1)]
    have q36 : ∀ a k, a ≠ 22 → a ≠ 23 → a ≠ 25 → (a ≠ 0 ∨ k ≠ 45) → (zstI M7 0 45 (zI 1)).1 a k = M3.1 a k := fun a k h1 h2 h3 h4 => by rw [q67 a k h3 h4, e3.1 a k (by simp; omega), d3.1 a k (by simp; omega), n2.1 a k (by simp; exact h1)]
    refine ⟨⟨⟨fun f hf' => by rw [q36 11 f (by decide) (by decide) (by decide) (by omega)]; exact s3 f hf', by rw [q36 0 19 (by decide) (by decide) (by decide) (by omega), c3.1 0 19 rfl, b2.1 0 19 rfl]; exact a1.2⟩, rowsH_x ((q36 0 23 (by decide) (by decide) (by decide) (by omega)).trans (c3.1 0 23 rfl)) (fun k => (q36 13 k (by decide) (by decide) (by decide) (by omega)).trans (c3.1 13 k rfl)) (fun k => (q36 14 k (by decide) (by decide) (by decide) (by omega)).trans (c3.1 14 k rfl)) b1, ⟨lexR_x (q36 0 25 (by decide) (by decide) (by decide) (by omega)) (fun k => q36 16 k (by decide) (by decide) (by decide) (by omega)) (fun k => q36 17 k (by decide) (by decide) (by decide) (by omega)) (fun k => q36 18 k (by decide) (by decide) (by decide) (by omega)) c1.1, by rw [q36 0 26 (by decide) (by decide) (by decide) (by omega)]; exact c1.2.1, fun f hf' => by rw [q36 19 f (by decide) (by decide) (by decide) (by omega)]; exact c1.2.2.1 f hf', fun f hf' => by rw [q36 20 f (by decide) (by decide) (by decide) (by omega)]; exact c1.2.2.2 f hf'⟩, fun kind a b q1 q2 q3 => by rw [q67 22 _ (by decide) (by omega), e3.1 22 _ rfl]; exact n1' kind a b q1 q2 q3, fun kind f q1 q2 => by rw [q67 23 _ (by decide) (by omega)]; exact g6 kind f q1 q2, fun kind f q1 q2 => by rw [zm_Iq _ _ _ _ (by decide)]; exact f1 kind f q1 q2⟩, by rw [zm_Is], zP_I (zP_tr p6 (zP_mono f2 (fun a k ha => by unfold zWlay at ha; simp at ha ⊢; omega))) rfl⟩
  · rw [hb, if_neg (by decide), zk_some]
    exact ⟨hl hb, hb, zP_rf⟩
