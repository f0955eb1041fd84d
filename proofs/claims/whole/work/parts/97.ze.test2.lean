/-! ===== tests ===== deps: 97.zd.test -/
noncomputable def zidxw (wl : List Nat) (s : Nat) : Nat := zfst (fun k => wl.getD k 0 = s) wl.length 0
noncomputable def zmxB (wl : List Nat) (π : Nat → Nat) (kv base : Nat → Nat → Int) (kind s : Nat) : Int := zif (∃ k, k < wl.length ∧ wl.getD k 0 = s) (kv kind (wl.getD (π (zidxw wl s)) 0)) (base kind s)
noncomputable def zmx (wl : List Nat) (π : Nat → Nat) (kv : Nat → Nat → Int) : Nat → Nat → Int := zmxB wl π kv (fun _ _ => -1)
theorem zidxw_k {wl : List Nat} (hinj : ∀ i j, i < wl.length → j < wl.length → wl.getD i 0 = wl.getD j 0 → i = j) {k : Nat} (hk : k < wl.length) : zidxw wl (wl.getD k 0) = k := by
  unfold zidxw
  exact zfst_of (by omega) (by omega) (fun j _ hj he => by have := hinj j k (by omega) hk he; omega) (Or.inr rfl)
theorem zmxB_k {wl : List Nat} (hinj : ∀ i j, i < wl.length → j < wl.length → wl.getD i 0 = wl.getD j 0 → i = j) (π : Nat → Nat) (kv base : Nat → Nat → Int) (kind : Nat) {k : Nat} (hk : k < wl.length) : zmxB wl π kv base kind (wl.getD k 0) = kv kind (wl.getD (π k) 0) := by
  unfold zmxB
  rw [zif_t ⟨k, hk, rfl⟩, zidxw_k hinj hk]
theorem zmxB_n {wl : List Nat} (π : Nat → Nat) (kv base : Nat → Nat → Int) (kind : Nat) {s : Nat} (hs : s ∉ wl) : zmxB wl π kv base kind s = base kind s := by
  unfold zmxB
  rw [zif_f (fun ⟨k, hk, he⟩ => hs (by rw [← he]; exact zgetD_m hk))]
theorem zmxB_ok {wl : List Nat} {π : Nat → Nat} {kv base : Nat → Nat → Int} (hv : okV kv) (hb : okV base) : okV (zmxB wl π kv base) := by
  intro kind s
  unfold zmxB
  by_cases h : ∃ k, k < wl.length ∧ wl.getD k 0 = s
  · rw [zif_t h]; exact hv kind _
  · rw [zif_f h]; exact hb kind s
theorem zhit_cg {l : List (Nat × Nat)} {N : Nat} {nl ny : Nat → Nat} {kv kv' : Nat → Nat → Int} (hn : okN N nl ny) (h : ∀ s, ((kv 0 s ≠ -1 ∧ kv 1 s ≠ -1) ∨ (kv' 0 s ≠ -1 ∧ kv' 1 s ≠ -1)) → kv 0 s = kv' 0 s ∧ kv 1 s = kv' 1 s) : zhitN l N nl ny kv = zhitN l N nl ny kv' := by
  have one : ∀ (a b : Nat → Nat → Int), (∀ s, (a 0 s ≠ -1 ∧ a 1 s ≠ -1) → a 0 s = b 0 s ∧ a 1 s = b 1 s) → ∀ n w, n < N → zagr l nl ny a 1 n w → zagr l nl ny b 1 n w := by
    rintro a b hab n w hnN ⟨h1, h2⟩
    refine ⟨h1, fun i hi kind hk => ?_⟩
    have hy := (hn.2 n hnN).2.2 i hi
    have p0 := zpt_rng (kind := 0) (v := ny (7 * n + i)) (by omega) (by omega)
    have p1 := zpt_rng (kind := 1) (v := ny (7 * n + i)) (by omega) (by omega)
    have e0 := (h2 i hi 0 (by omega)).resolve_right (fun hh => by omega)
    have e1 := (h2 i hi 1 (by omega)).resolve_right (fun hh => by omega)
    have := hab (zSg l w i) ⟨by omega, by omega⟩
    left
    by_cases hk0 : kind = 0
    · rw [hk0, ← this.1, e0]
    · rw [show kind = 1 by omega, ← this.2, e1]
  unfold zhitN
  refine zsum_cg (fun n hnN => zsum_cg (fun w _ => zb_iff ⟨fun hh => ⟨one kv kv' (fun s hs => h s (Or.inl hs)) n w hnN hh.1, hh.2⟩, fun hh => ⟨one kv' kv (fun s hs => ?_) n w hnN hh.1, hh.2⟩⟩))
  have := h s (Or.inr hs)
  exact ⟨this.1.symm, this.2.symm⟩
def zxs (n x : Nat) : Nat → Nat
  | 0 => x
  | i + 1 => zshX (zxs n x i) (n - 1)
theorem zxs_lt {n x : Nat} (hx : x < 2147483648) : ∀ i, zxs n x i < 2147483648
  | 0 => hx
  | i + 1 => zshX_lt (zxs_lt hx i) _
noncomputable def zhitX (l : List (Nat × Nat)) (N : Nat) (nl ny : Nat → Nat) (kv : Nat → Nat → Int) (x i : Nat) : Nat := zhitN l N nl ny (zmx (zwhl kv) (zshP (zwhl kv).length (zxs (zwhl kv).length x i) ((zwhl kv).length - 1)) kv)
noncomputable def zgoodN (l : List (Nat × Nat)) (N : Nat) (nl ny : Nat → Nat) (kv : Nat → Nat → Int) (x m : Nat) : Nat := zsum m (fun i => zb (zhitN l N nl ny kv ≤ zhitX l N nl ny kv x i))
theorem zhit_le {l : List (Nat × Nat)} {N : Nat} {nl ny : Nat → Nat} {kv : Nat → Nat → Int} (hN : N ≤ 4) (ho : okL l) : zhitN l N nl ny kv ≤ 480 := by
  have h1 : zhitN l N nl ny kv ≤ N * 120 := zsum_le (fun n _ => Nat.le_trans (zsum_le1 (fun _ _ => zb_le _)) ho.1)
  have : N * 120 ≤ 4 * 120 := Nat.mul_le_mul_right 120 hN
  omega
theorem c_asGood {M : ZMem} {N : Nat} {nl ny : Nat → Nat} {l : List (Nat × Nat)} {kv : Nat → Nat → Int} (hn : okN N nl ny) (hN : namesC N nl ny M) (ho : okL l) (hl : lexW l M) (hv : okV kv) (hk : vkC kv M) (hm : matC l N nl ny kv M) (h20 : ∀ kind s, 20 ≤ s → kv kind s = -1) {m x : Nat} (hm50 : m ≤ 50) (hx : x < 2147483648) : zOk (f_X3_asGoodByChance M (zI m) (zI x)) (fun r => r.2 = zI (zgoodN l N nl ny kv x m) ∧ mchC kv r.1 ∧ zP (fun a _ => a == 56 || a == 57) M r.1) := by
  have hH := zhit_le (nl := nl) (ny := ny) (kv := kv) hn.1 ho
  have hinj : ∀ i j, i < (zwhl kv).length → j < (zwhl kv).length → (zwhl kv).getD i 0 = (zwhl kv).getD j 0 → i = j := zfil_inj
  unfold f_X3_asGoodByChance
  rw [zk_bind]
  have hall : ∀ {M' : ZMem}, zP (fun a _ => a == 56 || a == 57) M M' → namesC N nl ny M' ∧ lexW l M' ∧ vkC kv M' ∧ whlC kv M' ∧ M'.1 54 8 = zI (zhitN l N nl ny kv) := fun hp => ⟨namesC_x (hp.1 17 2 rfl) (fun k => hp.1 18 k rfl) (fun k => hp.1 19 k rfl) hN, lexW_y (hp.1 34 6 rfl) (fun k => hp.1 36 k rfl) (fun k => hp.1 37 k rfl) (by rw [hp.2]) hl, fun s hs => by rw [hp.1 50 s rfl, hp.1 51 s rfl]; exact hk s hs, ⟨by rw [hp.1 54 7 rfl]; exact hm.2.1.1, fun i hi => by rw [hp.1 58 i rfl]; exact hm.2.1.2 i hi⟩, by rw [hp.1 54 8 rfl]; exact hm.2.2.2⟩
  refine zOk_forQ (fun i s => s.2.2.2 = zI i ∧ s.2.2.1 = zI (zxs (zwhl kv).length x i) ∧ s.2.1 = zI (zsum i (fun i => zb (zhitN l N nl ny kv ≤ zhitX l N nl ny kv x i))) ∧ zP (fun a _ => a == 56 || a == 57) M s.1) m ?_ ?_ ⟨rfl, rfl, rfl, zP_rf⟩
  · rintro i ⟨s1, s2, s3, s4⟩ hi ⟨e1, e2, e3, e4⟩ Q hQ _
    dsimp only at e1 e2 e3 e4
    unfold f_X3_asGoodByChance_L8
    dsimp only
    rw [e1, if_neg (by simp (disch := omega) only [zk_bind, zk_chk, zk_bnd, zk_some, zlp_l, zlp_r, zb_some, zb_bnd, zI_add, zI_sub, zI_mul, zI_neg, zI_le, zI_lt, zI_eq, zI_ix, zI_inI, Int.toNat_natCast, Int.toNat_add, Int.toNat_mul, true_and, and_true]; omega), zk_bind]
    refine zOk_mono (c_takeKnown (hall e4).2.2.1) (fun M1 h1 => ?_)
    have p1 := zP_tr e4 h1.2
    rw [e2, zk_bind]
    refine zOk_mono (c_changeAbout (zxs_lt hx i) (hall p1).2.2.2.1 h1.1) (fun r hr => ?_)
    obtain ⟨r1, r2, r3⟩ := hr
    have p2 := zP_tr p1 r3
    obtain ⟨n2, l2, _, _, h2⟩ := hall p2
    have hmch : mchC (zmxB (zwhl kv) (zshP (zwhl kv).length (zxs (zwhl kv).length x i) ((zwhl kv).length - 1)) kv kv) r.1 := by
      intro s hs
      by_cases hw : s ∈ zwhl kv
      · obtain ⟨k, k1, k2⟩ := List.getElem_of_mem hw
        have e : (zwhl kv).getD k 0 = s := by rw [List.getD_eq_getElem?_getD, List.getElem?_eq_getElem k1]; exact k2
        rw [← e, zmxB_k hinj _ _ _ _ k1, zmxB_k hinj _ _ _ _ k1]
        exact r1.1 k k1
      · rw [zmxB_n _ _ _ _ hw, zmxB_n _ _ _ _ hw]
        exact r1.2 s hs hw
    have hsame : zhitN l N nl ny (zmxB (zwhl kv) (zshP (zwhl kv).length (zxs (zwhl kv).length x i) ((zwhl kv).length - 1)) kv kv) = zhitX l N nl ny kv x i := by
      refine zhit_cg hn (fun s hs => ?_)
      by_cases hw : s ∈ zwhl kv
      · obtain ⟨k, k1, k2⟩ := List.getElem_of_mem hw
        have e : (zwhl kv).getD k 0 = s := by rw [List.getD_eq_getElem?_getD, List.getElem?_eq_getElem k1]; exact k2
        unfold zmx
        rw [← e, zmxB_k hinj _ _ _ _ k1, zmxB_k hinj _ _ _ _ k1, zmxB_k hinj _ _ _ _ k1, zmxB_k hinj _ _ _ _ k1]
        exact ⟨rfl, rfl⟩
      · unfold zmx at hs
        rw [zmxB_n _ _ _ _ hw, zmxB_n _ _ _ _ hw, zmxB_n _ _ _ _ hw, zmxB_n _ _ _ _ hw] at hs
        rcases hs with hs | hs
        · by_cases hs20 : s < 20
          · exact absurd (zfil_mem.mpr ⟨hs20, hs⟩) hw
          · exact absurd (h20 0 s (by omega)) hs.1
        · exact absurd rfl hs.1
    have hX := zhit_le (nl := nl) (ny := ny) (kv := zmxB (zwhl kv) (zshP (zwhl kv).length (zxs (zwhl kv).length x i) ((zwhl kv).length - 1)) kv kv) hn.1 ho
    rw [c_countHits hn n2 ho l2 (zmxB_ok hv hv) hmch, zb_some, h2, hsame] at *
    by_cases hc : zhitX l N nl ny kv x i < zhitN l N nl ny kv
    · rw [if_pos (by simp (disch := omega) only [zk_bind, zk_chk, zk_bnd, zk_some, zlp_l, zlp_r, zb_some, zb_bnd, zI_add, zI_sub, zI_mul, zI_neg, zI_le, zI_lt, zI_eq, zI_ix, zI_inI, Int.toNat_natCast, Int.toNat_add, Int.toNat_mul, true_and, and_true]; omega), zk_bnd, zk_bnd, zk_some, e3, zI_add, zI_add]
      exact hQ _ ⟨zI_inj (by omega), by rw [r2]; rfl, by rw [zsum_s, zb_f (by omega)]; exact zI_inj (by omega), p2⟩
    · rw [if_neg (by simp (disch := omega) only [zk_bind, zk_chk, zk_bnd, zk_some, zlp_l, zlp_r, zb_some, zb_bnd, zI_add, zI_sub, zI_mul, zI_neg, zI_le, zI_lt, zI_eq, zI_ix, zI_inI, Int.toNat_natCast, Int.toNat_add, Int.toNat_mul, true_and, and_true]; omega), zk_bnd, zk_bnd, zk_some, e3, zI_add, zI_add]
      exact hQ _ ⟨zI_inj (by omega), by rw [r2]; rfl, by rw [zsum_s, zb_t (by omega)]; exact zI_inj (by omega), p2⟩
  · rintro ⟨s1, s2, s3, s4⟩ ⟨e1, e2, e3, e4⟩
    dsimp only at e1 e2 e3 e4
    refine ⟨(s1, s2), ?_, ?_⟩
    · unfold f_X3_asGoodByChance_L8
      dsimp only
      rw [e1, if_pos (by simp (disch := omega) only [zk_bind, zk_chk, zk_bnd, zk_some, zlp_l, zlp_r, zb_some, zb_bnd, zI_add, zI_sub, zI_mul, zI_neg, zI_le, zI_lt, zI_eq, zI_ix, zI_inI, Int.toNat_natCast, Int.toNat_add, Int.toNat_mul, true_and, and_true]; omega)]
    · rw [zk_bind]
      refine zOk_mono (c_takeKnown (hall e4).2.2.1) (fun M1 h1 => ?_)
      rw [zk_some]
      exact ⟨e3, h1.1, zP_tr e4 h1.2⟩
