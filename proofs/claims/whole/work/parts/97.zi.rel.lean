/-! ===== the relation of the two memories ===== deps: 97.zh.treer 97.zf.testr 81.pairs -/
abbrev ZT := (List Nat) × (Nat × (Nat → Nat)) × ZS × (Nat × (Nat → Nat) × (Nat → Nat)) × (Nat × (Nat → Nat → Int)) × Nat
abbrev gT (σ : ZT) : List Nat := σ.1
abbrev gF (σ : ZT) : Nat := σ.2.1.1
abbrev gf (σ : ZT) : Nat → Nat := σ.2.1.2
abbrev gs (σ : ZT) : ZS := σ.2.2.1
abbrev gN (σ : ZT) : Nat := σ.2.2.2.1.1
abbrev gl (σ : ZT) : Nat → Nat := σ.2.2.2.1.2.1
abbrev gy (σ : ZT) : Nat → Nat := σ.2.2.2.1.2.2
abbrev gP (σ : ZT) : Nat := σ.2.2.2.2.1.1
abbrev gH (σ : ZT) : Nat → Nat → Int := σ.2.2.2.2.1.2
abbrev gx (σ : ZT) : Nat := σ.2.2.2.2.2
abbrev gh (σ : ZT) : Nat → Int := gH σ (gP σ)
def okT (σ : ZT) : Prop := ((gT σ).length ≤ 300 ∧ ∀ i, i < (gT σ).length → (gT σ).getD i 0 < 256) ∧ gF σ ≤ 20 ∧ okS (gF σ) (gs σ) ∧ okN (gN σ) (gl σ) (gy σ) ∧ gP σ ≤ 20 ∧ (∀ p, p ≤ gP σ → okH (gF σ) (gH σ p)) ∧ gx σ < 2147483648
/-- what an act, undone, does to what is told -/
def zund (k p w : Int) (h h' : Nat → Int) : Prop :=
  (0 ≤ k ∧ k ≤ 2 ∧ p = k ∧ ∀ j, j < 460 → h' j = if (j : Int) = k then w else h j) ∨
  (k = 3 ∧ 0 ≤ p ∧ p < 400 ∧ ∀ j, j < 460 → h' j = if (j : Int) = 24 + p then w else h j) ∨
  (k = 4 ∧ h' 3 = h 3 - 1 ∧ 1 ≤ h 3 ∧ (∀ j, j < 424 → j ≠ 3 → h' j = h j) ∧ ∀ j : Nat, (j : Int) < h' 3 → h' (424 + 3 * j) = h (424 + 3 * j) ∧ h' (425 + 3 * j) = h (425 + 3 * j) ∧ h' (426 + 3 * j) = h (426 + 3 * j)) ∨
  (k = 5 ∧ 0 ≤ p ∧ p < 20 ∧ ∀ j, j < 460 → h' j = if (j : Int) = 4 + p then w else h j)
def actsC (P : Nat) (H : Nat → Nat → Int) (C : ZMem) : Prop := C.1 20 11 = zI P ∧ ∀ p, p < P → ∃ k q w : Int, C.1 27 p = zI k ∧ C.1 28 p = zI q ∧ C.1 29 p = zI w ∧ zund k q w (H (p + 1)) (H p)
def pastR (P : Nat) (H : Nat → Nat → Int) (R : ZMem) : Prop := R.1 0 17 = zI P ∧ ∀ p k, p < P → k < 460 → R.1 10 (460 * p + k) = zI (H p k)
def zbit (v : Int32) : Prop := v = zI 0 ∨ v = zI 1
abbrev zWAYS (σ : ZT) (C : ZMem) : Prop := waysC (dLX (gF σ) (gf σ) (gs σ) (gh σ)) (gN σ) (gl σ) (gy σ) (dKV (gF σ) (gf σ) (gs σ) (gh σ)) (dGR (gF σ) (gf σ) (gs σ) (gh σ)) C
def flgC (σ : ZT) (C : ZMem) : Prop := (zbit (C.1 0 13) ∧ zbit (C.1 0 14) ∧ zbit (C.1 0 15)) ∧ (C.1 0 13 = zI 0 → scriptC (gF σ) (gf σ) (gs σ) (gh σ) C) ∧ (C.1 0 13 = zI 0 → C.1 0 14 = zI 0 → gridC (gF σ) (gf σ) (gs σ) (gh σ) (gN σ) (gl σ) (gy σ) C) ∧ (C.1 0 13 = zI 0 → C.1 0 14 = zI 0 → C.1 0 15 = zI 0 → zWAYS σ C)
def relC (σ : ZT) (C : ZMem) : Prop := tapeC (gT σ) C ∧ baC (gF σ) (gf σ) (gs σ) (gh σ) (gN σ) (gl σ) (gy σ) C ∧ treeC (gF σ) (gf σ) 10400 C ∧ actsC (gP σ) (gH σ) C ∧ C.1 0 12 = zI (gx σ) ∧ flgC σ C
def relR (σ : ZT) (R : ZMem) : Prop := tapeR (gT σ) R ∧ formsR (gF σ) (gf σ) R ∧ stonesR (gs σ) R ∧ namesR (gN σ) (gl σ) (gy σ) R ∧ handR (gh σ) R ∧ pastR (gP σ) (gH σ) R ∧ R.1 0 41 = zI (gx σ) ∧ zbit (R.1 0 45) ∧ (R.1 0 45 = zI 1 → laidR (gF σ) (gf σ) (gs σ) (gh σ) R)
def zRel (C R : ZMem) : Prop := ∃ σ, okT σ ∧ relC σ C ∧ relR σ R
-- cells that no one looks at later
def zScC (a k : Nat) : Bool := zWfnd a k || a == 5 || a == 8 || (a == 3 && (k == 8 || k == 9)) || (a == 11 && (k == 6 || k == 7 || k == 8 || k == 9))
def zScR (a k : Nat) : Bool := a == 3 || a == 12 || a == 15 || a == 21 || a == 24 || a == 26 || a == 27 || a == 28 || a == 29 || a == 30 || (a == 0 && (k == 2 || k == 3 || k == 5 || k == 32 || k == 40))
def zScCy (a k : Nat) : Bool := zScC a k || a == 1 || a == 2 || (a == 0 && k == 12)
def zScRy (a k : Nat) : Bool := zScR a k || a == 1 || (a == 0 && (k == 1 || k == 41))
abbrev zTX (σ : ZT) (t : List Nat) (x : Nat) : ZT := (t, σ.2.1, σ.2.2.1, σ.2.2.2.1, σ.2.2.2.2.1, x)
theorem relC_y {σ : ZT} {t : List Nat} {x : Nat} {M0 M : ZMem} (hp : zP zScCy M0 M) (ht : tapeC t M) (hs : M.1 0 12 = zI x) (h : relC σ M0) : relC (zTX σ t x) M := by
  obtain ⟨hx, h2⟩ := hp
  obtain ⟨_, h1, h2', h3, _, h4⟩ := h
  refine ⟨ht, ?_⟩
  suffices hh : baC (gF σ) (gf σ) (gs σ) (gh σ) (gN σ) (gl σ) (gy σ) M ∧ treeC (gF σ) (gf σ) 10400 M ∧ actsC (gP σ) (gH σ) M ∧ flgC σ M from ⟨hh.1, hh.2.1, hh.2.2.1, hs, hh.2.2.2⟩
  have h : baC (gF σ) (gf σ) (gs σ) (gh σ) (gN σ) (gl σ) (gy σ) M0 ∧ treeC (gF σ) (gf σ) 10400 M0 ∧ actsC (gP σ) (gH σ) M0 ∧ flgC σ M0 := ⟨h1, h2', h3, h4⟩
  have e4 : M.1 4 = M0.1 4 := funext (fun k => hx 4 k rfl)
  have e6 : M.1 6 = M0.1 6 := funext (fun k => hx 6 k rfl)
  have e7 : M.1 7 = M0.1 7 := funext (fun k => hx 7 k rfl)
  have e9 : M.1 9 = M0.1 9 := funext (fun k => hx 9 k rfl)
  have e10 : M.1 10 = M0.1 10 := funext (fun k => hx 10 k rfl)
  have e12 : M.1 12 = M0.1 12 := funext (fun k => hx 12 k rfl)
  have e13 : M.1 13 = M0.1 13 := funext (fun k => hx 13 k rfl)
  have e14 : M.1 14 = M0.1 14 := funext (fun k => hx 14 k rfl)
  have e15 : M.1 15 = M0.1 15 := funext (fun k => hx 15 k rfl)
  have e16 : M.1 16 = M0.1 16 := funext (fun k => hx 16 k rfl)
  have e17 : M.1 17 = M0.1 17 := funext (fun k => hx 17 k rfl)
  have e18 : M.1 18 = M0.1 18 := funext (fun k => hx 18 k rfl)
  have e19 : M.1 19 = M0.1 19 := funext (fun k => hx 19 k rfl)
  have e20 : M.1 20 = M0.1 20 := funext (fun k => hx 20 k rfl)
  have e21 : M.1 21 = M0.1 21 := funext (fun k => hx 21 k rfl)
  have e22 : M.1 22 = M0.1 22 := funext (fun k => hx 22 k rfl)
  have e23 : M.1 23 = M0.1 23 := funext (fun k => hx 23 k rfl)
  have e24 : M.1 24 = M0.1 24 := funext (fun k => hx 24 k rfl)
  have e25 : M.1 25 = M0.1 25 := funext (fun k => hx 25 k rfl)
  have e26 : M.1 26 = M0.1 26 := funext (fun k => hx 26 k rfl)
  have e27 : M.1 27 = M0.1 27 := funext (fun k => hx 27 k rfl)
  have e28 : M.1 28 = M0.1 28 := funext (fun k => hx 28 k rfl)
  have e29 : M.1 29 = M0.1 29 := funext (fun k => hx 29 k rfl)
  have e31 : M.1 31 = M0.1 31 := funext (fun k => hx 31 k rfl)
  have e32 : M.1 32 = M0.1 32 := funext (fun k => hx 32 k rfl)
  have e34 : M.1 34 = M0.1 34 := funext (fun k => hx 34 k rfl)
  have e36 : M.1 36 = M0.1 36 := funext (fun k => hx 36 k rfl)
  have e37 : M.1 37 = M0.1 37 := funext (fun k => hx 37 k rfl)
  have e38 : M.1 38 = M0.1 38 := funext (fun k => hx 38 k rfl)
  have e40 : M.1 40 = M0.1 40 := funext (fun k => hx 40 k rfl)
  have e41 : M.1 41 = M0.1 41 := funext (fun k => hx 41 k rfl)
  have e42 : M.1 42 = M0.1 42 := funext (fun k => hx 42 k rfl)
  have e43 : M.1 (41 + 2) = M0.1 (41 + 2) := funext (fun k => hx 43 k rfl)
  have e44 : M.1 (41 + 3) = M0.1 (41 + 3) := funext (fun k => hx 44 k rfl)
  have e45 : M.1 45 = M0.1 45 := funext (fun k => hx 45 k rfl)
  have e46 : M.1 46 = M0.1 46 := funext (fun k => hx 46 k rfl)
  have e47 : M.1 (45 + 2) = M0.1 (45 + 2) := funext (fun k => hx 47 k rfl)
  have e48 : M.1 (45 + 3) = M0.1 (45 + 3) := funext (fun k => hx 48 k rfl)
  have e49 : M.1 49 = M0.1 49 := funext (fun k => hx 49 k rfl)
  have e50 : M.1 50 = M0.1 50 := funext (fun k => hx 50 k rfl)
  have e51 : M.1 51 = M0.1 51 := funext (fun k => hx 51 k rfl)
  have e54 : M.1 54 = M0.1 54 := funext (fun k => hx 54 k rfl)
  have e55 : M.1 55 = M0.1 55 := funext (fun k => hx 55 k rfl)
  have e56 : M.1 56 = M0.1 56 := funext (fun k => hx 56 k rfl)
  have e57 : M.1 57 = M0.1 57 := funext (fun k => hx 57 k rfl)
  have e58 : M.1 58 = M0.1 58 := funext (fun k => hx 58 k rfl)
  have e59 : M.1 59 = M0.1 59 := funext (fun k => hx 59 k rfl)
  have e63 : M.1 63 = M0.1 63 := funext (fun k => hx 63 k rfl)
  unfold baC flgC zWAYS scriptC gridC formsC stonesC setC clueC namesC treeC actsC signsC judC rowsG lexF lexC rnkC wstD stmC netC valC matC mchC whlC fitC waysC zArr at h ⊢
  rw [hx 3 7 rfl, hx 3 10 rfl, hx 3 11 rfl, hx 11 5 rfl, hx 30 5 rfl, hx 30 6 rfl, hx 30 7 rfl, hx 30 8 rfl, hx 0 13 rfl, hx 0 14 rfl, hx 0 15 rfl, h2, e4, e6, e7, e9, e10, e12, e13, e14, e15, e16, e17, e18, e19, e20, e21, e22, e23, e24, e25, e26, e27, e28, e29, e31, e32, e34, e36, e37, e38, e40, e41, e42, e43, e44, e45, e46, e47, e48, e49, e50, e51, e54, e55, e56, e57, e58, e59, e63]
  exact h
theorem relC_x {σ : ZT} {M0 M : ZMem} (hp : zP zScC M0 M) (h : relC σ M0) : relC σ M := relC_y (t := gT σ) (x := gx σ) (zP_mono hp (fun a k ha => by unfold zScCy at ha; simp at ha; exact ha.1.1.1)) ⟨by rw [hp.1 1 1 rfl]; exact h.1.1, fun i hi => by rw [hp.1 2 i rfl]; exact h.1.2 i hi⟩ (by rw [hp.1 0 12 rfl]; exact h.2.2.2.2.1) h
theorem relR_y {σ : ZT} {t : List Nat} {x : Nat} {M0 M : ZMem} (hp : zP zScRy M0 M) (ht : tapeR t M) (hs : M.1 0 41 = zI x) (h : relR σ M0) : relR (zTX σ t x) M := by
  obtain ⟨hx, h2⟩ := hp
  obtain ⟨_, b1, b2, b3, b4, b5, _, b6, b7⟩ := h
  suffices hh : formsR (gF σ) (gf σ) M ∧ stonesR (gs σ) M ∧ namesR (gN σ) (gl σ) (gy σ) M ∧ handR (gh σ) M ∧ pastR (gP σ) (gH σ) M ∧ zbit (M.1 0 45) ∧ (M.1 0 45 = zI 1 → laidR (gF σ) (gf σ) (gs σ) (gh σ) M) from ⟨ht, hh.1, hh.2.1, hh.2.2.1, hh.2.2.2.1, hh.2.2.2.2.1, hs, hh.2.2.2.2.2⟩
  have h : formsR (gF σ) (gf σ) M0 ∧ stonesR (gs σ) M0 ∧ namesR (gN σ) (gl σ) (gy σ) M0 ∧ handR (gh σ) M0 ∧ pastR (gP σ) (gH σ) M0 ∧ zbit (M0.1 0 45) ∧ (M0.1 0 45 = zI 1 → laidR (gF σ) (gf σ) (gs σ) (gh σ) M0) := ⟨b1, b2, b3, b4, b5, b6, b7⟩
  have e2 : M.1 2 = M0.1 2 := funext (fun k => hx 2 k rfl)
  have e4 : M.1 4 = M0.1 4 := funext (fun k => hx 4 k rfl)
  have e5 : M.1 5 = M0.1 5 := funext (fun k => hx 5 k rfl)
  have e6 : M.1 6 = M0.1 6 := funext (fun k => hx 6 k rfl)
  have e7 : M.1 7 = M0.1 7 := funext (fun k => hx 7 k rfl)
  have e8 : M.1 8 = M0.1 8 := funext (fun k => hx 8 k rfl)
  have e9 : M.1 9 = M0.1 9 := funext (fun k => hx 9 k rfl)
  have e10 : M.1 10 = M0.1 10 := funext (fun k => hx 10 k rfl)
  have e11 : M.1 11 = M0.1 11 := funext (fun k => hx 11 k rfl)
  have e13 : M.1 13 = M0.1 13 := funext (fun k => hx 13 k rfl)
  have e14 : M.1 14 = M0.1 14 := funext (fun k => hx 14 k rfl)
  have e16 : M.1 16 = M0.1 16 := funext (fun k => hx 16 k rfl)
  have e17 : M.1 17 = M0.1 17 := funext (fun k => hx 17 k rfl)
  have e18 : M.1 18 = M0.1 18 := funext (fun k => hx 18 k rfl)
  have e19 : M.1 19 = M0.1 19 := funext (fun k => hx 19 k rfl)
  have e20 : M.1 20 = M0.1 20 := funext (fun k => hx 20 k rfl)
  have e22 : M.1 22 = M0.1 22 := funext (fun k => hx 22 k rfl)
  have e23 : M.1 23 = M0.1 23 := funext (fun k => hx 23 k rfl)
  have e25 : M.1 25 = M0.1 25 := funext (fun k => hx 25 k rfl)
  unfold laidR formsR stonesR namesR handR pastR signsR rowsH wordsR lexR wR cluR grpR knR at h ⊢
  rw [hx 0 4 rfl, hx 0 8 rfl, hx 0 12 rfl, hx 0 17 rfl, hx 0 19 rfl, hx 0 23 rfl, hx 0 25 rfl, hx 0 26 rfl, hx 0 45 rfl, e2, e4, e5, e6, e7, e8, e9, e10, e11, e13, e14, e16, e17, e18, e19, e20, e22, e23, e25]
  exact h
theorem relR_x {σ : ZT} {M0 M : ZMem} (hp : zP zScR M0 M) (h : relR σ M0) : relR σ M := relR_y (t := gT σ) (x := gx σ) (zP_mono hp (fun a k ha => by unfold zScRy at ha; simp at ha; exact ha.1.1)) ⟨by rw [hp.1 0 1 rfl]; exact h.1.1, fun i hi => by rw [hp.1 1 i rfl]; exact h.1.2 i hi⟩ (by rw [hp.1 0 41 rfl]; exact h.2.2.2.2.2.2.1) h
