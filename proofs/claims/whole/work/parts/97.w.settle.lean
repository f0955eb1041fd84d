/-! ===== the class settles its script and its grid ===== deps: 97.v.facts -/
def scriptC (F : Nat) (fr : Nat → Nat) (s : ZS) (h : Nat → Int) (C : ZMem) : Prop := signsC F fr h C ∧ judC s (zsg F fr h) C ∧ rowsG (zRL s) (dRS F fr s h) C ∧ lexF (zRL s) (dRS F fr s h) (h 2).toNat C ∧ wstD (dLX F fr s h) (zDall (dLX F fr s h)) C
def gridC (F : Nat) (fr : Nat → Nat) (s : ZS) (h : Nat → Int) (N : Nat) (nl ny : Nat → Nat) (C : ZMem) : Prop := netC (dLX F fr s h) h (zsg F fr h) 0 41 C ∧ netC (dLX F fr s h) h (zsg F fr h) 1 45 C ∧ valC F h (dGR F fr s h) (zsg F fr h) C ∧ matC (dLX F fr s h) N nl ny (dKV F fr s h) C
def baC (F : Nat) (fr : Nat → Nat) (s : ZS) (h : Nat → Int) (N : Nat) (nl ny : Nat → Nat) (C : ZMem) : Prop := formsC F fr C ∧ stonesC s C ∧ setC h C ∧ clueC h C ∧ namesC N nl ny C ∧ C.1 41 0 = zI 0 ∧ C.1 45 0 = zI 1
/-- what settling may write -/
def zWca (a k : Nat) : Bool := a == 9 || a == 10 || (30 ≤ a && a ≤ 40) || a == 42 || a == 43 || a == 44 || (46 ≤ a && a ≤ 63) || (a == 3 && k == 11) || (a == 0 && (k == 13 || k == 14 || k == 15))
theorem baC_x {F : Nat} {fr : Nat → Nat} {s : ZS} {h : Nat → Int} {N : Nat} {nl ny : Nat → Nat} {M0 M : ZMem} (hx : ∀ a k, zWca a k = false → M.1 a k = M0.1 a k) (hb : baC F fr s h N nl ny M0) : baC F fr s h N nl ny M := by
  obtain ⟨b1, b2, b3, b4, b5, b6, b7⟩ := hb
  exact ⟨formsC_x (fun a k ha => hx a k (by unfold dformsC at ha; unfold zWca; simp at ha ⊢; omega)) b1, stonesC_x (fun a k ha => hx a k (by unfold dstonesC at ha; unfold zWca; simp at ha ⊢; omega)) b2, setC_x (fun a k ha => hx a k (by unfold dsetC at ha; unfold zWca; simp at ha ⊢; omega)) b3, clueC_x (fun a k ha => hx a k (by unfold dclueC at ha; unfold zWca; simp at ha ⊢; omega)) b4, namesC_x (hx 17 2 rfl) (fun k => hx 18 k rfl) (fun k => hx 19 k rfl) b5, by rw [hx 41 0 rfl]; exact b6, by rw [hx 45 0 rfl]; exact b7⟩
theorem c_forget {M : ZMem} {q : Nat} : zOk (f_X5_forgetWords q M) (fun M' => (∀ a, a < 20 → M'.1 (q + 1) a = zI 0) ∧ zP (fun a _ => a == q + 1) M M') := by
  unfold f_X5_forgetWords
  rw [zk_bind]
  refine zOk_mono (zp_fill (q + 1) 20 (by decide) M (zI 0)) (fun M1 h1 => ?_)
  rw [zk_some]
  exact ⟨h1.1, fun a k ha => by rw [h1.2.2.1 a (by simp at ha; exact ha)], h1.2.2.2⟩
theorem c_settleScript {M : ZMem} {F : Nat} {fr : Nat → Nat} {s : ZS} {h : Nat → Int} {N : Nat} {nl ny : Nat → Nat} (hs : okS F s) (hk : okH F h) (hb : baC F fr s h N nl ny M) : zOk (f_X11_settleScript M) (fun M' => scriptC F fr s h M' ∧ M'.1 0 13 = zI 0 ∧ M'.1 0 14 = zI 1 ∧ (∀ a k, zWca a k = false → M'.1 a k = M.1 a k) ∧ M'.1 0 15 = M.1 0 15) := by
  obtain ⟨b1, b2, b3, b4, b5, b6, b7⟩ := hb
  have hF := b1.1
  have hRw := dRS_ok (fr := fr) (h := h) hF hs
  have hsl : ∀ f, f < F → zsg F fr h f < 20 := fun f hf' => by have := (zsg_f F fr h hf').1; omega
  have hw := hk.2.1
  have hr := hk.2.2.1
  unfold f_X11_settleScript
  rw [zk_bind]
  refine zOk_mono (c_settleSigns b1 b3 hk) (fun M1 h1 => ?_)
  obtain ⟨a1, _, a3⟩ := h1
  have s1 : f_X1_settingOf M1 (zI 1) = some (zI (h 1)) := by
    rw [show f_X1_settingOf M1 (zI 1) = some (M1.1 21 1) from c_setting 1 (by decide), a3.1 21 1 rfl, b3.2.1]
  rw [s1, zb_some, zk_bind]
  refine zOk_mono (c_readSettle (w := h 1) hF ((a3.1 3 7 rfl).trans b1.2.1) a1.1 hsl hs (stonesC_x (fun a k ha => a3.1 a k (by unfold dstonesC at ha; simp at ha ⊢; omega)) b2) hw) (fun M2 h2 => ?_)
  obtain ⟨c1, c2, c3⟩ := h2
  have s2 : f_X1_settingOf M2 (zI 2) = some (zI ((h 2).toNat : Int)) := by
    rw [show f_X1_settingOf M2 (zI 2) = some (M2.1 21 2) from c_setting 2 (by decide), c3.1 21 2 rfl, a3.1 21 2 rfl, b3.2.2.1]
    exact congrArg some (zI_inj (by omega))
  rw [s2, zb_some, zk_bind]
  have c2' : rowsG (zRL s) (dRS F fr s h) M2 := c2
  refine zOk_mono (c_lexSettle (rise := (h 2).toNat) hRw c2' (by omega)) (fun M3 h3 => ?_)
  obtain ⟨d1, d2, d3⟩ := h3
  rw [zk_bind]
  refine zOk_mono c_forget (fun M4 h4 => ?_)
  rw [zk_bind]
  refine zOk_mono c_forget (fun M5 h5 => ?_)
  obtain ⟨e1, e2⟩ := h4
  obtain ⟨f1, f2⟩ := h5
  rw [zk_bind]
  have l5 : lexW (dLX F fr s h) M5 := ⟨lexC_x (by rw [f2.1 34 6 rfl, e2.1 34 6 rfl]) (fun k => by rw [f2.1 36 k rfl, e2.1 36 k rfl]) (by rw [f2.2, e2.2]) d1.1, fun i hi => by rw [f2.1 37 i rfl, e2.1 37 i rfl]; exact d1.2.1 i hi⟩
  refine zOk_mono (c_compareWords d2 l5 (fun a ha => by rw [f2.1 42 a rfl]; exact e1 a ha) f1) (fun M6 h6 => ?_)
  obtain ⟨g1, g2⟩ := h6
  rw [zk_bnd, zk_bnd, zk_some]
  have q : ∀ a k, (a ≠ 0 ∨ (k ≠ 13 ∧ k ≠ 14)) → (zstI (zstI M6 0 13 (zI 0)) 0 14 (zI 1)).1 a k = M6.1 a k := fun a k hh => by rw [zm_I, if_neg (by omega), zm_I, if_neg (by omega)]
  have q63 : ∀ a k, a ≠ 42 → a ≠ 46 → a ≠ 40 → (a ≠ 34 ∨ k ≠ 8) → (a ≠ 0 ∨ (k ≠ 13 ∧ k ≠ 14)) → (zstI (zstI M6 0 13 (zI 0)) 0 14 (zI 1)).1 a k = M3.1 a k := fun a k h1 h2 h3 h4 h5 => by rw [q a k h5, g2.1 a k (by unfold zWcmp zWadd; simp; omega), f2.1 a k (by simp; omega), e2.1 a k (by simp; omega)]
  have q32 : ∀ a k, zWlex a k = false → M3.1 a k = M2.1 a k := fun a k hh => d3.1 a k hh
  refine ⟨⟨⟨fun f hf' => ?_, fun x hx => ?_, ?_⟩, ⟨?_, ?_, ?_, ?_⟩, ?_, ⟨?_, fun i hi => ?_, ?_, fun p hp => ?_⟩, ?_⟩, by rw [zm_In _ _ _ _ (by decide), zm_Is], by rw [zm_Is], fun a k ha => ?_, ?_⟩
  · rw [q63 9 f (by decide) (by decide) (by decide) (by omega) (by omega), q32 9 f rfl, c3.1 9 f rfl]; exact a1.1 f hf'
  · rw [q63 10 x (by decide) (by decide) (by decide) (by omega) (by omega), q32 10 x rfl, c3.1 10 x rfl]; exact a1.2.1 x hx
  · rw [q63 3 11 (by decide) (by decide) (by decide) (by omega) (by omega), q32 3 11 rfl, c3.1 3 11 rfl]; exact a1.2.2
  · rw [q63 30 5 (by decide) (by decide) (by decide) (by omega) (by omega), q32 30 5 rfl]; exact c1.1
  · rw [q63 30 6 (by decide) (by decide) (by decide) (by omega) (by omega), q32 30 6 rfl]; exact c1.2.1
  · rw [q63 30 7 (by decide) (by decide) (by decide) (by omega) (by omega), q32 30 7 rfl]; exact c1.2.2.1
  · rw [q63 30 8 (by decide) (by decide) (by decide) (by omega) (by omega), q32 30 8 rfl]; exact c1.2.2.2
  · exact rowsG_x (fun k => (q63 31 k (by decide) (by decide) (by decide) (by omega) (by omega)).trans (q32 31 k rfl)) (fun k => (q63 32 k (by decide) (by decide) (by decide) (by omega) (by omega)).trans (q32 32 k rfl)) c2'
  · exact lexC_x (q63 34 6 (by decide) (by decide) (by decide) (by omega) (by omega)) (fun k => q63 36 k (by decide) (by decide) (by decide) (by omega) (by omega)) (by rw [zm_I2, zm_I2, g2.2 35 rfl, f2.2, e2.2]) d1.1
  · rw [q63 37 i (by decide) (by decide) (by decide) (by omega) (by omega)]; exact d1.2.1 i hi
  · rw [q63 34 7 (by decide) (by decide) (by decide) (by omega) (by omega)]; exact d1.2.2.1
  · rw [q63 38 p (by decide) (by decide) (by decide) (by omega) (by omega)]; exact d1.2.2.2 p hp
  · obtain ⟨w1, w2, m, st, m1, m2⟩ := g1
    exact ⟨fun a ha => by rw [q 42 a (by omega)]; exact w1 a ha, fun a ha => by rw [q 46 a (by omega)]; exact w2 a ha, m, st, ⟨m1.1, m1.2.1, m1.2.2.1, by rw [q 34 8 (by omega)]; exact m1.2.2.2.1, fun i hi => ⟨by rw [zm_I2, zm_I2]; exact (m1.2.2.2.2 i hi).1, by rw [q 40 i (by omega)]; exact (m1.2.2.2.2 i hi).2⟩⟩, m2⟩
  · unfold zWca at ha
    simp at ha
    rw [q63 a k (by omega) (by omega) (by omega) (by omega) (by omega), q32 a k (by unfold zWlex zWcut zWent zWfnd; simp; omega), c3.1 a k (by unfold zWread zWjud; simp; omega), a3.1 a k (by simp; omega)]
  · rw [q63 0 15 (by decide) (by decide) (by decide) (by omega) (by omega), q32 0 15 rfl, c3.1 0 15 rfl, a3.1 0 15 rfl]
/-- what settling the grid leaves -/
def zWgr (a k : Nat) : Bool := a == 43 || a == 44 || a == 47 || a == 48 || (49 ≤ a && a ≤ 58) || (a == 0 && (k == 14 || k == 15))
theorem scriptC_x {F : Nat} {fr : Nat → Nat} {s : ZS} {h : Nat → Int} {M0 M : ZMem} (hx : ∀ a k, zWgr a k = false → a ≠ 33 → (a ≠ 30 ∨ (k ≠ 3 ∧ k ≠ 4)) → (a < 59 ∨ 63 < a) → M.1 a k = M0.1 a k) (h2 : M.2 35 = M0.2 35) (h3 : M.2 39 = M0.2 39) (hb : scriptC F fr s h M0) : scriptC F fr s h M := by
  obtain ⟨⟨a1, a2, a3⟩, ⟨b1, b2, b3, b4⟩, c, ⟨d1, d2, d3, d4⟩, ⟨e1, e2, m, st, m1, m2⟩⟩ := hb
  exact ⟨⟨fun f hf => by rw [hx 9 f rfl (by decide) (by omega) (by omega)]; exact a1 f hf, fun x hx' => by rw [hx 10 x rfl (by decide) (by omega) (by omega)]; exact a2 x hx', by rw [hx 3 11 rfl (by decide) (by omega) (by omega)]; exact a3⟩, ⟨by rw [hx 30 5 rfl (by decide) (by omega) (by omega)]; exact b1, by rw [hx 30 6 rfl (by decide) (by omega) (by omega)]; exact b2, by rw [hx 30 7 rfl (by decide) (by omega) (by omega)]; exact b3, by rw [hx 30 8 rfl (by decide) (by omega) (by omega)]; exact b4⟩, rowsG_x (fun k => hx 31 k rfl (by decide) (by omega) (by omega)) (fun k => hx 32 k rfl (by decide) (by omega) (by omega)) c, ⟨lexC_x (hx 34 6 rfl (by decide) (by omega) (by omega)) (fun k => hx 36 k rfl (by decide) (by omega) (by omega)) h2 d1, fun i hi => by rw [hx 37 i rfl (by decide) (by omega) (by omega)]; exact d2 i hi, by rw [hx 34 7 rfl (by decide) (by omega) (by omega)]; exact d3, fun p hp => by rw [hx 38 p rfl (by decide) (by omega) (by omega)]; exact d4 p hp⟩, ⟨fun a ha => by rw [hx 42 a rfl (by decide) (by omega) (by omega)]; exact e1 a ha, fun a ha => by rw [hx 46 a rfl (by decide) (by omega) (by omega)]; exact e2 a ha, m, st, ⟨m1.1, m1.2.1, m1.2.2.1, by rw [hx 34 8 rfl (by decide) (by omega) (by omega)]; exact m1.2.2.2.1, fun i hi => ⟨by rw [h3]; exact (m1.2.2.2.2 i hi).1, by rw [hx 40 i rfl (by decide) (by omega) (by omega)]; exact (m1.2.2.2.2 i hi).2⟩⟩, m2⟩⟩
theorem c_settleGrid {M : ZMem} {F : Nat} {fr : Nat → Nat} {s : ZS} {h : Nat → Int} {N : Nat} {nl ny : Nat → Nat} (hs : okS F s) (hk : okH F h) (hn : okN N nl ny) (hb : baC F fr s h N nl ny M) (hsc : scriptC F fr s h M) : zOk (f_X11_settleGrid M) (fun M' => gridC F fr s h N nl ny M' ∧ M'.1 0 14 = zI 0 ∧ M'.1 0 15 = zI 1 ∧ zP zWgr M M') := by
  obtain ⟨b1, b2, b3, b4, b5, b6, b7⟩ := hb
  have hF := b1.1
  have ho := dLX_ok (fr := fr) (h := h) hF hs
  have hS := dLX_sg (fr := fr) (h := h) hF hs
  have hG := dGR_ok (F := F) (fr := fr) (s := s) (h := h)
  have hsl : ∀ f, f < F → zsg F fr h f < 20 := fun f hf' => by have := (zsg_f F fr h hf').1; omega
  obtain ⟨⟨a1, a2, a3⟩, _, c1, ⟨d1, d2, d3, d4⟩, ⟨e1, e2, _⟩⟩ := hsc
  unfold f_X11_settleGrid
  rw [zk_bind]
  refine zOk_mono (c_netSettle (q := 41) (kind := 0) (l := dLX F fr s h) ho (Or.inl ⟨rfl, rfl⟩) b6 hF b1.2.1 a1 hsl hk b4 e1) (fun M1 h1 => ?_)
  obtain ⟨n1, p1⟩ := h1
  rw [zk_bind]
  refine zOk_mono (c_netSettle (q := 45) (kind := 1) (l := dLX F fr s h) ho (Or.inr ⟨rfl, rfl⟩) ((p1.1 45 0 rfl).trans b7) hF ((p1.1 3 7 rfl).trans b1.2.1) (fun f hf' => by rw [p1.1 9 f rfl]; exact a1 f hf') hsl hk (clueC_x (fun a k ha => p1.1 a k (by unfold dclueC at ha; simp at ha ⊢; omega)) b4) (fun a ha => by rw [p1.1 46 a rfl]; exact e2 a ha)) (fun M2 h2 => ?_)
  obtain ⟨n2, p2⟩ := h2
  have n1' : netC (dLX F fr s h) h (zsg F fr h) 0 41 M2 := ⟨fun a ha => by rw [p2.1 43 a rfl]; exact n1.1 a ha, by
    obtain ⟨L, L1, L2⟩ := n1.2
    exact ⟨L, fun i hi => by rw [p2.1 44 i rfl]; exact L1 i hi, L2⟩⟩
  have hlab : labC F (zsg F fr h) (dGR F fr s h) M2 := by
    intro f hf'
    obtain ⟨L0, A1, A2⟩ := n1'.2
    obtain ⟨L1, B1, B2⟩ := n2.2
    have := hsl f hf'
    refine ⟨?_, ?_⟩
    · rw [A1 _ this, zgr_L ho hF hk hS (fun f hf' => zsg_f F fr h hf') A2 hf']
      rfl
    · rw [B1 _ this, zgr_L ho hF hk hS (fun f hf' => zsg_f F fr h hf') B2 hf']
      rfl
  have q2 : ∀ a k, a ≠ 43 → a ≠ 44 → a ≠ 47 → a ≠ 48 → M2.1 a k = M.1 a k := fun a k h1 h2 h3 h4 => by rw [p2.1 a k (by simp; omega), p1.1 a k (by simp; omega)]
  rw [zk_bind]
  refine zOk_mono (c_valSettle (h := h) hF ((q2 3 7 (by decide) (by decide) (by decide) (by decide)).trans b1.2.1) (fun f hf' => by rw [q2 9 f (by decide) (by decide) (by decide) (by decide)]; exact a1 f hf') hG hk (fun f hf' => by rw [q2 26 f (by decide) (by decide) (by decide) (by decide)]; exact b4.2.2.1 f hf') hlab) (fun M3 h3 => ?_)
  obtain ⟨v1, v2⟩ := h3
  have q3 : ∀ a k, a ≠ 43 → a ≠ 44 → a ≠ 47 → a ≠ 48 → (a < 49 ∨ 53 < a) → M3.1 a k = M.1 a k := fun a k h1 h2 h3 h4 h5 => by rw [v2.1 a k (by unfold zWval zWgth; simp; omega), q2 a k h1 h2 h3 h4]
  have z3 : M3.2 = M.2 := by rw [v2.2, p2.2, p1.2]
  rw [zk_bind]
  refine zOk_mono (c_matSettle (l := dLX F fr s h) (kv := dKV F fr s h) hn (namesC_x (q3 17 2 (by decide) (by decide) (by decide) (by decide) (by omega)) (fun k => q3 18 k (by decide) (by decide) (by decide) (by decide) (by omega)) (fun k => q3 19 k (by decide) (by decide) (by decide) (by decide) (by omega)) b5) ho ⟨lexC_x (q3 34 6 (by decide) (by decide) (by decide) (by decide) (by omega)) (fun k => q3 36 k (by decide) (by decide) (by decide) (by decide) (by omega)) (by rw [z3]) d1, fun i hi => by rw [q3 37 i (by decide) (by decide) (by decide) (by decide) (by omega)]; exact d2 i hi⟩ (dKV_ok hF hk) v1.1) (fun M4 h4 => ?_)
  obtain ⟨w1, w2⟩ := h4
  rw [zk_bnd, zk_bnd, zk_some]
  have q : ∀ a k, (a ≠ 0 ∨ (k ≠ 14 ∧ k ≠ 15)) → (zstI (zstI M4 0 14 (zI 0)) 0 15 (zI 1)).1 a k = M4.1 a k := fun a k hh => by rw [zm_I, if_neg (by omega), zm_I, if_neg (by omega)]
  have q43 : ∀ a k, (a < 54 ∨ 58 < a) → (a ≠ 0 ∨ (k ≠ 14 ∧ k ≠ 15)) → (zstI (zstI M4 0 14 (zI 0)) 0 15 (zI 1)).1 a k = M3.1 a k := fun a k h1 h2 => by rw [q a k h2, w2.1 a k (by unfold zWmat; simp; omega)]
  have n42 : ∀ a k, (a = 43 ∨ a = 44 ∨ a = 47 ∨ a = 48) → (zstI (zstI M4 0 14 (zI 0)) 0 15 (zI 1)).1 a k = M2.1 a k := fun a k hh => by rw [q43 a k (by omega) (by omega), v2.1 a k (by unfold zWval zWgth; simp; omega)]
  refine ⟨⟨⟨fun a ha => by rw [n42 43 a (by omega)]; exact n1'.1 a ha, by
    obtain ⟨L, L1, L2⟩ := n1'.2
    exact ⟨L, fun i hi => by rw [n42 44 i (by omega)]; exact L1 i hi, L2⟩⟩, ⟨fun a ha => by rw [n42 47 a (by omega)]; exact n2.1 a ha, by
    obtain ⟨L, L1, L2⟩ := n2.2
    exact ⟨L, fun i hi => by rw [n42 48 i (by omega)]; exact L1 i hi, L2⟩⟩, ⟨fun x hx => ⟨by rw [q43 50 x (by omega) (by omega)]; exact (v1.1 x hx).1, by rw [q43 51 x (by omega) (by omega)]; exact (v1.1 x hx).2⟩, by rw [q43 49 6 (by omega) (by omega)]; exact v1.2⟩, ⟨fun x hx => by rw [q 56 x (by omega), q 57 x (by omega)]; exact w1.1 x hx, ⟨by rw [q 54 7 (by omega)]; exact w1.2.1.1, fun i hi => by rw [q 58 i (by omega)]; exact w1.2.1.2 i hi⟩, fun n w g1 g2 => by rw [q 55 _ (by omega)]; exact w1.2.2.1 n w g1 g2, by rw [q 54 8 (by omega)]; exact w1.2.2.2⟩⟩, by rw [zm_In _ _ _ _ (by decide), zm_Is], by rw [zm_Is], ⟨fun a k ha => ?_, by rw [zm_I2, zm_I2, w2.2, z3]⟩⟩
  unfold zWgr at ha
  simp at ha
  rw [q43 a k (by omega) (by omega), q3 a k (by omega) (by omega) (by omega) (by omega) (by omega)]
