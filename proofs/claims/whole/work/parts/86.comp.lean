/-! ===== groups, named by their least ===== -/
def zComp (n : Nat) (lk : Nat → Nat → Prop) (L : Nat → Nat) : Prop := (∀ i, i < n → L i ≤ i) ∧ (∀ i j, i < n → j < n → lk i j → L i = L j) ∧ ∀ g : Nat → Nat, (∀ i j, i < n → j < n → lk i j → g i = g j) → ∀ i, i < n → g (L i) = g i
theorem zComp_idem {n : Nat} {lk : Nat → Nat → Prop} {L : Nat → Nat} (h : zComp n lk L) {i : Nat} (hi : i < n) : L (L i) = L i := h.2.2 L h.2.1 i hi
theorem zComp_one {n : Nat} {lk : Nat → Nat → Prop} {L L' : Nat → Nat} (h : zComp n lk L) (h' : zComp n lk L') {i : Nat} (hi : i < n) : L i = L' i := by
  have a := h.2.2 L' h'.2.1 i hi
  have b := h'.2.2 L h.2.1 i hi
  have c := h'.1 (L i) (Nat.lt_of_le_of_lt (h.1 i hi) hi)
  have d := h.1 (L' i) (Nat.lt_of_le_of_lt (h'.1 i hi) hi)
  omega
noncomputable def zLab (n : Nat) (lk : Nat → Nat → Prop) : Nat → Nat := Classical.epsilon (zComp n lk)
theorem zLab_spec {n : Nat} {lk : Nat → Nat → Prop} {L : Nat → Nat} (h : zComp n lk L) : zComp n lk (zLab n lk) := Classical.epsilon_spec (p := zComp n lk) ⟨L, h⟩
theorem zLab_of {n : Nat} {lk : Nat → Nat → Prop} {L : Nat → Nat} (h : zComp n lk L) {i : Nat} (hi : i < n) : zLab n lk i = L i := zComp_one (zLab_spec h) h hi
theorem zComp_congr {n : Nat} {lk lk' : Nat → Nat → Prop} {L L' : Nat → Nat} (h : zComp n lk L) (e : ∀ i j, i < n → j < n → (lk i j ↔ lk' i j)) (eL : ∀ i, i < n → L' i = L i) : zComp n lk' L' := by
  refine ⟨fun i hi => by rw [eL i hi]; exact h.1 i hi, fun i j hi hj hl => ?_, fun g hg i hi => ?_⟩
  · rw [eL i hi, eL j hj]
    exact h.2.1 i j hi hj ((e i j hi hj).mpr hl)
  · rw [eL i hi]
    exact h.2.2 g (fun a b ha hb hl => hg a b ha hb ((e a b ha hb).mp hl)) i hi
theorem zComp_none (n : Nat) : zComp n (fun _ _ => False) (fun i => i) := ⟨fun _ _ => Nat.le_refl _, fun _ _ _ _ h => h.elim, fun _ _ _ _ => rfl⟩
/-- one link more: the greater label of the two becomes the lesser -/
theorem zComp_join {n : Nat} {lk : Nat → Nat → Prop} {L : Nat → Nat} (h : zComp n lk L) {a b : Nat} (ha : a < n) (hb : b < n) : zComp n (fun i j => lk i j ∨ (i = a ∧ j = b)) (fun i => if L i = max (L a) (L b) then min (L a) (L b) else L i) := by
  refine ⟨fun i hi => ?_, fun i j hi hj hl => ?_, fun g hg i hi => ?_⟩
  · have := h.1 i hi
    dsimp only
    split <;> omega
  · dsimp only
    rcases hl with hl | ⟨rfl, rfl⟩
    · rw [h.2.1 i j hi hj hl]
    · rcases Nat.le_total (L i) (L j) with hle | hle
      · rw [Nat.max_eq_right hle, Nat.min_eq_left hle, if_pos rfl]
        split <;> rfl
      · rw [Nat.max_eq_left hle, Nat.min_eq_right hle, if_pos rfl]
        split <;> rfl
  · have hg1 : ∀ i, i < n → g (L i) = g i := h.2.2 g (fun x y hx hy hl => hg x y hx hy (Or.inl hl))
    have e1 := hg a b ha hb (Or.inr ⟨rfl, rfl⟩)
    have e2 := hg1 a ha
    have e3 := hg1 b hb
    dsimp only
    split
    · next hm =>
      rw [← hg1 i hi, hm]
      rcases Nat.le_total (L a) (L b) with hle | hle
      · rw [Nat.max_eq_right hle, Nat.min_eq_left hle]
        omega
      · rw [Nat.max_eq_left hle, Nat.min_eq_right hle]
        omega
    · exact hg1 i hi
/-- nothing changes where the two have one label already -/
theorem zComp_same {n : Nat} {lk : Nat → Nat → Prop} {L : Nat → Nat} (h : zComp n lk L) {a b : Nat} (e : L a = L b) : zComp n (fun i j => lk i j ∨ (i = a ∧ j = b)) L := by
  refine ⟨h.1, fun i j hi hj hl => ?_, fun g hg i hi => h.2.2 g (fun x y hx hy hl => hg x y hx hy (Or.inl hl)) i hi⟩
  rcases hl with hl | ⟨rfl, rfl⟩
  · exact h.2.1 i j hi hj hl
  · exact e
/-- labels that spread the least, when nothing more can spread -/
theorem zComp_spread {n : Nat} {lk : Nat → Nat → Prop} {L : Nat → Nat} (h1 : ∀ i, i < n → L i ≤ i) (h3 : ∀ g : Nat → Nat, (∀ i j, i < n → j < n → lk i j → g i = g j) → ∀ i, i < n → g (L i) = g i) (h2 : ∀ i j, i < n → j < n → lk i j → ¬ L i < L j) (hs : ∀ i j, i < n → j < n → lk i j → lk j i) : zComp n lk L := by
  refine ⟨h1, fun i j hi hj hl => ?_, h3⟩
  have a := h2 i j hi hj hl
  have b := h2 j i hj hi (hs i j hi hj hl)
  omega
