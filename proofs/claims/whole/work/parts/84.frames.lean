/-! ===== what is left as it was ===== -/
def zFr (W : Nat → Prop) (M0 M : ZMem) : Prop := ∀ a, ¬ W a → M.1 a = M0.1 a ∧ M.2 a = M0.2 a
def zFf {α : Type} (Q : α → Prop) (f : Option α) : Prop := ∀ r, f = some r → Q r
theorem zFr_rf {W : Nat → Prop} {M : ZMem} : zFr W M M := fun _ _ => ⟨rfl, rfl⟩
theorem zFr_I {W : Nat → Prop} {M0 M : ZMem} {q i : Nat} {v : Int32} (h : zFr W M0 M) (hq : W q) : zFr W M0 (zstI M q i v) := fun a ha => ⟨by rw [zm_Iq _ _ _ _ (fun e => ha (by rw [e]; exact hq))]; exact (h a ha).1, (h a ha).2⟩
theorem zFr_L {W : Nat → Prop} {M0 M : ZMem} {q i : Nat} {v : Int64} (h : zFr W M0 M) (hq : W q) : zFr W M0 (zstL M q i v) := fun a ha => ⟨(h a ha).1, by rw [zm_Lq _ _ _ _ (fun e => ha (by rw [e]; exact hq))]; exact (h a ha).2⟩
theorem zFr_F {W : Nat → Prop} {M0 M : ZMem} {q : Nat} {v : Nat → Int32} (h : zFr W M0 M) (hq : W q) : zFr W M0 (zstF M q v) := fun a ha => ⟨by rw [zm_Fq _ _ _ (fun e => ha (by rw [e]; exact hq))]; exact (h a ha).1, (h a ha).2⟩
theorem zFr_G {W : Nat → Prop} {M0 M : ZMem} {q : Nat} {v : Nat → Int64} (h : zFr W M0 M) (hq : W q) : zFr W M0 (zstG M q v) := fun a ha => ⟨(h a ha).1, by rw [zm_Gq _ _ _ (fun e => ha (by rw [e]; exact hq))]; exact (h a ha).2⟩
theorem zFf_some {α : Type} {Q : α → Prop} {a : α} (h : Q a) : zFf Q (some a) := fun r e => by cases e; exact h
theorem zFf_none {α : Type} {Q : α → Prop} : zFf Q none := fun r e => by cases e
theorem zFf_ite {α : Type} {Q : α → Prop} {c : Prop} {inst : Decidable c} {f g : Option α} (h1 : zFf Q f) (h2 : zFf Q g) : zFf Q (@ite _ c inst f g) := by
  by_cases h : c
  · rw [if_pos h]; exact h1
  · rw [if_neg h]; exact h2
theorem zFf_chk {α : Type} {Q : α → Prop} {b : Bool} {f : Option α} (h : zFf Q f) : zFf Q (zchk b f) := by
  cases b with
  | true => exact h
  | false => exact zFf_none
theorem zFf_bnd {α β : Type} {Q : β → Prop} {a : α} {f : α → Option β} (h : ∀ x, x = a → zFf Q (f x)) : zFf Q (zbnd a f) := h a rfl
theorem zFf_selL {α β γ : Type} {Q : γ → Prop} {a : α} {f : α → Option γ} {g : β → Option γ} (h : zFf Q (f a)) : zFf Q (zsel (.inl a) f g) := h
theorem zFf_selR {α β γ : Type} {Q : γ → Prop} {b : β} {f : α → Option γ} {g : β → Option γ} (h : zFf Q (g b)) : zFf Q (zsel (.inr b) f g) := h
theorem zFf_bindP {α β : Type} {Q : β → Prop} {f : Option α} {g : α → Option β} (h : ∀ x, zFf Q (g x)) : zFf Q (zbind f g) := by
  cases f with
  | none => exact zFf_none
  | some a => exact h a
theorem zFf_bind {α β : Type} {Q : β → Prop} {Q' : α → Prop} {f : Option α} {g : α → Option β} (hf : zFf Q' f) (h : ∀ x, Q' x → zFf Q (g x)) : zFf Q (zbind f g) := by
  cases f with
  | none => exact zFf_none
  | some a => exact h a (hf a rfl)
theorem zFf_loop {S E : Type} {QS : S → Prop} {QE : E → Prop} {step : S → Option (S ⊕ E)} {s : S} (hs : ∀ s, QS s → zFf (zlp QS QE) (step s)) (h0 : QS s) : zFf QE (zloop step s) := by
  intro e he
  obtain ⟨n, hn⟩ := zloop_iter he
  clear he
  induction n generalizing s with
  | zero => cases hn
  | succ n ih =>
    unfold ziter at hn
    split at hn
    · cases hn
    · next s' hs' => exact ih (hs s h0 _ hs') hn
    · next x hs' =>
      cases hn
      exact hs s h0 _ hs'
theorem zsub {l1 l2 : List Nat} (hs : l1.all (fun x => l2.contains x) = true) {a : Nat} (h : a ∈ l1) : a ∈ l2 := by
  have := List.all_eq_true.mp hs a h
  simpa using this
theorem zOk_fr {α : Type} {Q K : α → Prop} {f : Option α} (hf : zFf Q f) (h : zOk f K) : zOk f (fun r => K r ∧ Q r) := by
  obtain ⟨a, h1, h2⟩ := h
  exact ⟨a, h1, h2, hf a h1⟩
theorem fr_J7_fill_53178_L5 (W : Nat → Prop) (M0 : ZMem) (q0 : Nat) (n0 : Nat) (x1 : Int32) (x3 : Int32) (s : (ZMem × Int32)) (hW : ∀ a, a ∈ ([q0] : List Nat) → W a) (hs : zFr W M0 s.1) : zFf (zlp (fun r => zFr W M0 r.1) (fun r => zFr W M0 r)) (f_J7_fill_53178_L5 q0 n0 x1 x3 s) := by
  unfold f_J7_fill_53178_L5
  refine zFf_ite ?_ ?_
  · exact zFf_some hs
  · refine zFf_chk ?_
    refine zFf_bnd (fun M_13 e_M_13 => ?_)
    have h_M_13 : zFr W M0 M_13 := by rw [e_M_13]; exact (zFr_I hs (hW _ (by simp)))
    refine zFf_bnd (fun x2_14 _ => ?_)
    exact zFf_some h_M_13
theorem fr_J7_fill_53178 (W : Nat → Prop) (M0 : ZMem) (q0 : Nat) (n0 : Nat) (M : ZMem) (x1 : Int32) (hW : ∀ a, a ∈ ([q0] : List Nat) → W a) (hM : zFr W M0 M) : zFf (fun r => zFr W M0 r) (f_J7_fill_53178 q0 n0 M x1) := by
  unfold f_J7_fill_53178
  refine zFf_bnd (fun x3_4 _ => ?_)
  refine zFf_bind (zFf_loop (QS := (fun r => zFr W M0 r.1)) (QE := (fun r => zFr W M0 r)) (fun z hz => fr_J7_fill_53178_L5 W M0 q0 n0 x1 x3_4 z (fun a h => hW a (by first | exact absurd h List.not_mem_nil | (simp only [List.mem_cons, List.not_mem_nil, or_false] at h ⊢; (try rcases h with rfl | rfl | rfl | rfl) <;> simp_all))) hz) hM) (fun e5 h_e5 => ?_)
  exact zFf_some h_e5
theorem fr_J7_fill_d0a16_L6 (W : Nat → Prop) (M0 : ZMem) (q0 : Nat) (n0 : Nat) (x1 : Int64) (x4 : Int32) (s : (ZMem × Int32)) (hW : ∀ a, a ∈ ([q0] : List Nat) → W a) (hs : zFr W M0 s.1) : zFf (zlp (fun r => zFr W M0 r.1) (fun r => zFr W M0 r)) (f_J7_fill_d0a16_L6 q0 n0 x1 x4 s) := by
  unfold f_J7_fill_d0a16_L6
  refine zFf_ite ?_ ?_
  · exact zFf_some hs
  · refine zFf_chk ?_
    refine zFf_bnd (fun M_15 e_M_15 => ?_)
    have h_M_15 : zFr W M0 M_15 := by rw [e_M_15]; exact (zFr_L hs (hW _ (by simp)))
    refine zFf_bnd (fun x3_16 _ => ?_)
    exact zFf_some h_M_15
theorem fr_J7_fill_d0a16 (W : Nat → Prop) (M0 : ZMem) (q0 : Nat) (n0 : Nat) (M : ZMem) (x1 : Int64) (hW : ∀ a, a ∈ ([q0] : List Nat) → W a) (hM : zFr W M0 M) : zFf (fun r => zFr W M0 r) (f_J7_fill_d0a16 q0 n0 M x1) := by
  unfold f_J7_fill_d0a16
  refine zFf_bnd (fun x4_4 _ => ?_)
  refine zFf_bind (zFf_loop (QS := (fun r => zFr W M0 r.1)) (QE := (fun r => zFr W M0 r)) (fun z hz => fr_J7_fill_d0a16_L6 W M0 q0 n0 x1 x4_4 z (fun a h => hW a (by first | exact absurd h List.not_mem_nil | (simp only [List.mem_cons, List.not_mem_nil, or_false] at h ⊢; (try rcases h with rfl | rfl | rfl | rfl) <;> simp_all))) hz) hM) (fun e6 h_e6 => ?_)
  exact zFf_some h_e6
theorem fr_X11_startLabels_L2 (W : Nat → Prop) (M0 : ZMem) (q0 : Nat) (n0 : Nat) (s : (ZMem × Int32)) (hW : ∀ a, a ∈ ([q0] : List Nat) → W a) (hs : zFr W M0 s.1) : zFf (zlp (fun r => zFr W M0 r.1) (fun r => zFr W M0 r)) (f_X11_startLabels_L2 q0 n0 s) := by
  unfold f_X11_startLabels_L2
  refine zFf_ite ?_ ?_
  · exact zFf_some hs
  · refine zFf_chk ?_
    refine zFf_bnd (fun M_11 e_M_11 => ?_)
    have h_M_11 : zFr W M0 M_11 := by rw [e_M_11]; exact (zFr_I hs (hW _ (by simp)))
    refine zFf_bnd (fun x1_12 _ => ?_)
    exact zFf_some h_M_11
theorem fr_X11_startLabels (W : Nat → Prop) (M0 : ZMem) (q0 : Nat) (n0 : Nat) (M : ZMem) (hW : ∀ a, a ∈ ([q0] : List Nat) → W a) (hM : zFr W M0 M) : zFf (fun r => zFr W M0 r) (f_X11_startLabels q0 n0 M) := by
  unfold f_X11_startLabels
  refine zFf_bind (zFf_loop (QS := (fun r => zFr W M0 r.1)) (QE := (fun r => zFr W M0 r)) (fun z hz => fr_X11_startLabels_L2 W M0 q0 n0 z (fun a h => hW a (by first | exact absurd h List.not_mem_nil | (simp only [List.mem_cons, List.not_mem_nil, or_false] at h ⊢; (try rcases h with rfl | rfl | rfl | rfl) <;> simp_all))) hz) hM) (fun e2 h_e2 => ?_)
  exact zFf_some h_e2
theorem fr_X11_joinLabels_L54 (W : Nat → Prop) (M0 : ZMem) (q0 : Nat) (n0 : Nat) (x3 : Int32) (x4 : Int32) (s : (ZMem × Int32)) (hW : ∀ a, a ∈ ([q0] : List Nat) → W a) (hs : zFr W M0 s.1) : zFf (zlp (fun r => zFr W M0 r.1) (fun r => zFr W M0 r)) (f_X11_joinLabels_L54 q0 n0 x3 x4 s) := by
  unfold f_X11_joinLabels_L54
  refine zFf_ite ?_ ?_
  · exact zFf_some hs
  · refine zFf_chk ?_
    refine zFf_ite ?_ ?_
    · refine zFf_chk ?_
      refine zFf_bnd (fun M_74 e_M_74 => ?_)
      have h_M_74 : zFr W M0 M_74 := by rw [e_M_74]; exact (zFr_I hs (hW _ (by simp)))
      refine zFf_bnd (fun x5_75 _ => ?_)
      exact zFf_some h_M_74
    · refine zFf_bnd (fun x5_75 _ => ?_)
      exact zFf_some hs
theorem fr_X11_joinLabels (W : Nat → Prop) (M0 : ZMem) (q0 : Nat) (n0 : Nat) (M : ZMem) (x1 : Int32) (x2 : Int32) (hW : ∀ a, a ∈ ([q0] : List Nat) → W a) (hM : zFr W M0 M) : zFf (fun r => zFr W M0 r.1) (f_X11_joinLabels q0 n0 M x1 x2) := by
  unfold f_X11_joinLabels
  refine zFf_ite ?_ ?_
  · exact zFf_some hM
  · refine zFf_ite ?_ ?_
    · exact zFf_some hM
    · refine zFf_ite ?_ ?_
      · exact zFf_some hM
      · refine zFf_ite ?_ ?_
        · refine zFf_chk ?_
          refine zFf_chk ?_
          refine zFf_bnd (fun x3_31 _ => ?_)
          refine zFf_chk ?_
          refine zFf_chk ?_
          refine zFf_bnd (fun x4_41 _ => ?_)
          refine zFf_ite ?_ ?_
          · exact zFf_some hM
          · refine zFf_bind (zFf_loop (QS := (fun r => zFr W M0 r.1)) (QE := (fun r => zFr W M0 r)) (fun z hz => fr_X11_joinLabels_L54 W M0 q0 n0 x3_31 x4_41 z (fun a h => hW a (by first | exact absurd h List.not_mem_nil | (simp only [List.mem_cons, List.not_mem_nil, or_false] at h ⊢; (try rcases h with rfl | rfl | rfl | rfl) <;> simp_all))) hz) hM) (fun e54 h_e54 => ?_)
            exact zFf_some h_e54
        · exact zFf_some hM
theorem fr_X1_startAnew (W : Nat → Prop) (M0 : ZMem) (M : ZMem) (hW : ∀ a, a ∈ ([20, 21, 22, 26] : List Nat) → W a) (hM : zFr W M0 M) : zFf (fun r => zFr W M0 r) (f_X1_startAnew M) := by
  unfold f_X1_startAnew
  refine zFf_bnd (fun M_6 e_M_6 => ?_)
  have h_M_6 : zFr W M0 M_6 := by rw [e_M_6]; exact (zFr_I hM (hW _ (by decide)))
  refine zFf_bnd (fun M_13 e_M_13 => ?_)
  have h_M_13 : zFr W M0 M_13 := by rw [e_M_13]; exact (zFr_I h_M_6 (hW _ (by decide)))
  refine zFf_bnd (fun M_20 e_M_20 => ?_)
  have h_M_20 : zFr W M0 M_20 := by rw [e_M_20]; exact (zFr_I h_M_13 (hW _ (by decide)))
  refine zFf_bind (fr_J7_fill_53178 W M0 22 400 M_20 (zI 0) (fun a h => hW a (zsub (by decide) h)) h_M_20) (fun M_26 h_M_26 => ?_)
  refine zFf_bind (fr_J7_fill_53178 W M0 26 20 M_26 (zI (-1)) (fun a h => hW a (zsub (by decide) h)) h_M_26) (fun M_34 h_M_34 => ?_)
  refine zFf_bnd (fun M_39 e_M_39 => ?_)
  have h_M_39 : zFr W M0 M_39 := by rw [e_M_39]; exact (zFr_I h_M_34 (hW _ (by decide)))
  refine zFf_bnd (fun M_44 e_M_44 => ?_)
  have h_M_44 : zFr W M0 M_44 := by rw [e_M_44]; exact (zFr_I h_M_39 (hW _ (by decide)))
  refine zFf_bnd (fun M_49 e_M_49 => ?_)
  have h_M_49 : zFr W M0 M_49 := by rw [e_M_49]; exact (zFr_I h_M_44 (hW _ (by decide)))
  exact zFf_some h_M_49
theorem fr_X1_forgetActs (W : Nat → Prop) (M0 : ZMem) (M : ZMem) (hW : ∀ a, a ∈ ([20] : List Nat) → W a) (hM : zFr W M0 M) : zFf (fun r => zFr W M0 r) (f_X1_forgetActs M) := by
  unfold f_X1_forgetActs
  refine zFf_bnd (fun M_2 e_M_2 => ?_)
  have h_M_2 : zFr W M0 M_2 := by rw [e_M_2]; exact (zFr_I hM (hW _ (by decide)))
  exact zFf_some h_M_2
theorem fr_X1_forgetFirst (W : Nat → Prop) (M0 : ZMem) (q0 : Nat) (n0 : Nat) (M : ZMem) (hW : ∀ a, a ∈ ([q0] : List Nat) → W a) (hM : zFr W M0 M) : zFf (fun r => zFr W M0 r) (f_X1_forgetFirst q0 n0 M) := by
  unfold f_X1_forgetFirst
  refine zFf_chk ?_
  refine zFf_bnd (fun M_8 e_M_8 => ?_)
  have h_M_8 : zFr W M0 M_8 := by rw [e_M_8]; exact (zFr_F hM (hW _ (by simp)))
  exact zFf_some h_M_8
theorem fr_X1_note_36 (W : Nat → Prop) (M0 : ZMem) (M : ZMem) (x1 : Int32) (x2 : Int32) (x3 : Int32) (hW : ∀ a, a ∈ ([20, 27, 28, 29] : List Nat) → W a) (hM : zFr W M0 M) : zFf (fun r => zFr W M0 r) (f_X1_note_36 M x1 x2 x3) := by
  unfold f_X1_note_36
  refine zFf_chk ?_
  refine zFf_bnd (fun M_45 e_M_45 => ?_)
  have h_M_45 : zFr W M0 M_45 := by rw [e_M_45]; exact (zFr_I hM (hW _ (by decide)))
  refine zFf_chk ?_
  refine zFf_bnd (fun M_55 e_M_55 => ?_)
  have h_M_55 : zFr W M0 M_55 := by rw [e_M_55]; exact (zFr_I h_M_45 (hW _ (by decide)))
  refine zFf_chk ?_
  refine zFf_bnd (fun M_65 e_M_65 => ?_)
  have h_M_65 : zFr W M0 M_65 := by rw [e_M_65]; exact (zFr_I h_M_55 (hW _ (by decide)))
  refine zFf_bnd (fun M_73 e_M_73 => ?_)
  have h_M_73 : zFr W M0 M_73 := by rw [e_M_73]; exact (zFr_I h_M_65 (hW _ (by decide)))
  exact zFf_some h_M_73
theorem fr_X1_note (W : Nat → Prop) (M0 : ZMem) (M : ZMem) (x1 : Int32) (x2 : Int32) (x3 : Int32) (hW : ∀ a, a ∈ ([20, 27, 28, 29] : List Nat) → W a) (hM : zFr W M0 M) : zFf (fun r => zFr W M0 r) (f_X1_note M x1 x2 x3) := by
  unfold f_X1_note
  refine zFf_ite ?_ ?_
  · exact fr_X1_note_36 W M0 M x1 x2 x3 (fun a h => hW a (zsub (by decide) h)) hM
  · refine zFf_bind (fr_X1_forgetFirst W M0 27 20 M (fun a h => hW a (zsub (by decide) h)) hM) (fun M_13 h_M_13 => ?_)
    refine zFf_bind (fr_X1_forgetFirst W M0 28 20 M_13 (fun a h => hW a (zsub (by decide) h)) h_M_13) (fun M_20 h_M_20 => ?_)
    refine zFf_bind (fr_X1_forgetFirst W M0 29 20 M_20 (fun a h => hW a (zsub (by decide) h)) h_M_20) (fun M_27 h_M_27 => ?_)
    refine zFf_bnd (fun M_33 e_M_33 => ?_)
    have h_M_33 : zFr W M0 M_33 := by rw [e_M_33]; exact (zFr_I h_M_27 (hW _ (by decide)))
    exact fr_X1_note_36 W M0 M_33 x1 x2 x3 (fun a h => hW a (zsub (by decide) h)) h_M_33
theorem fr_X1_set (W : Nat → Prop) (M0 : ZMem) (M : ZMem) (x1 : Int32) (x2 : Int32) (hW : ∀ a, a ∈ ([20, 21, 27, 28, 29] : List Nat) → W a) (hM : zFr W M0 M) : zFf (fun r => zFr W M0 r) (f_X1_set M x1 x2) := by
  unfold f_X1_set
  refine zFf_ite ?_ ?_
  · exact zFf_some hM
  · refine zFf_ite ?_ ?_
    · exact zFf_some hM
    · refine zFf_chk ?_
      refine zFf_bind (fr_X1_note W M0 M x1 x1 (M.1 21 (zix x1)) (fun a h => hW a (zsub (by decide) h)) hM) (fun M_22 h_M_22 => ?_)
      refine zFf_chk ?_
      refine zFf_bnd (fun M_31 e_M_31 => ?_)
      have h_M_31 : zFr W M0 M_31 := by rw [e_M_31]; exact (zFr_I h_M_22 (hW _ (by decide)))
      exact zFf_some h_M_31
theorem fr_X1_tellTie_75 (W : Nat → Prop) (M0 : ZMem) (M : ZMem) (v1 : Int32) (v2 : Int32) (hW : ∀ a, a ∈ ([22] : List Nat) → W a) (hM : zFr W M0 M) : zFf (fun r => zFr W M0 r.1) (f_X1_tellTie_75 M v1 v2) := by
  unfold f_X1_tellTie_75
  refine zFf_chk ?_
  refine zFf_bnd (fun M_75 e_M_75 => ?_)
  have h_M_75 : zFr W M0 M_75 := by rw [e_M_75]; exact (zFr_I hM (hW _ (by decide)))
  exact zFf_some h_M_75
theorem fr_X1_tellTie_38 (W : Nat → Prop) (M0 : ZMem) (M : ZMem) (x3 : Int32) (x4 : Int32) (x5 : Int32) (v0 : Int32) (hW : ∀ a, a ∈ ([20, 22, 27, 28, 29] : List Nat) → W a) (hM : zFr W M0 M) : zFf (fun r => zFr W M0 r.1) (f_X1_tellTie_38 M x3 x4 x5 v0) := by
  unfold f_X1_tellTie_38
  refine zFf_ite ?_ ?_
  · exact zFf_some hM
  · refine zFf_chk ?_
    refine zFf_bind (fr_X1_note W M0 M (zI 3) x5 (M.1 22 (zix x5)) (fun a h => hW a (zsub (by decide) h)) hM) (fun M_56 h_M_56 => ?_)
    refine zFf_ite ?_ ?_
    · exact fr_X1_tellTie_75 W M0 M_56 x5 (zI 0) (fun a h => hW a (zsub (by decide) h)) h_M_56
    · exact fr_X1_tellTie_75 W M0 M_56 x5 x3 (fun a h => hW a (zsub (by decide) h)) h_M_56
theorem fr_X1_tellTie (W : Nat → Prop) (M0 : ZMem) (M : ZMem) (x1 : Int32) (x2 : Int32) (x3 : Int32) (x4 : Int32) (hW : ∀ a, a ∈ ([20, 22, 27, 28, 29] : List Nat) → W a) (hM : zFr W M0 M) : zFf (fun r => zFr W M0 r.1) (f_X1_tellTie M x1 x2 x3 x4) := by
  unfold f_X1_tellTie
  refine zFf_bindP (fun r_2 => ?_)
  refine zFf_ite ?_ ?_
  · exact zFf_some hM
  · refine zFf_ite ?_ ?_
    · exact zFf_some hM
    · refine zFf_chk ?_
      refine zFf_ite ?_ ?_
      · exact fr_X1_tellTie_38 W M0 M x3 x4 r_2 (zI 1) (fun a h => hW a (zsub (by decide) h)) hM
      · exact fr_X1_tellTie_38 W M0 M x3 x4 r_2 (zI 0) (fun a h => hW a (zsub (by decide) h)) hM
theorem fr_X1_tellClue (W : Nat → Prop) (M0 : ZMem) (M : ZMem) (x1 : Int32) (x2 : Int32) (x3 : Int32) (hW : ∀ a, a ∈ ([20, 23, 24, 25, 27, 28, 29] : List Nat) → W a) (hM : zFr W M0 M) : zFf (fun r => zFr W M0 r.1) (f_X1_tellClue M x1 x2 x3) := by
  unfold f_X1_tellClue
  refine zFf_ite ?_ ?_
  · exact zFf_some hM
  · refine zFf_bindP (fun r_13 => ?_)
    refine zFf_ite ?_ ?_
    · refine zFf_bind (fr_X1_note W M0 M (zI 4) (zI 0) (zI 0) (fun a h => hW a (zsub (by decide) h)) hM) (fun M_25 h_M_25 => ?_)
      refine zFf_chk ?_
      refine zFf_bnd (fun M_37 e_M_37 => ?_)
      have h_M_37 : zFr W M0 M_37 := by rw [e_M_37]; exact (zFr_I h_M_25 (hW _ (by decide)))
      refine zFf_chk ?_
      refine zFf_bnd (fun M_47 e_M_47 => ?_)
      have h_M_47 : zFr W M0 M_47 := by rw [e_M_47]; exact (zFr_I h_M_37 (hW _ (by decide)))
      refine zFf_chk ?_
      refine zFf_bnd (fun M_57 e_M_57 => ?_)
      have h_M_57 : zFr W M0 M_57 := by rw [e_M_57]; exact (zFr_I h_M_47 (hW _ (by decide)))
      refine zFf_bnd (fun M_65 e_M_65 => ?_)
      have h_M_65 : zFr W M0 M_65 := by rw [e_M_65]; exact (zFr_I h_M_57 (hW _ (by decide)))
      exact zFf_some h_M_65
    · exact zFf_some hM
theorem fr_X1_putGuess_40 (W : Nat → Prop) (M0 : ZMem) (M : ZMem) (x1 : Int32) (x2 : Int32) (v1 : Int32) (v2 : Int32) (v3 : Int32) (hW : ∀ a, a ∈ ([20, 26] : List Nat) → W a) (hM : zFr W M0 M) : zFf (fun r => zFr W M0 r) (f_X1_putGuess_40 M x1 x2 v1 v2 v3) := by
  unfold f_X1_putGuess_40
  refine zFf_bnd (fun M_42 e_M_42 => ?_)
  have h_M_42 : zFr W M0 M_42 := by rw [e_M_42]; exact (zFr_I hM (hW _ (by decide)))
  refine zFf_chk ?_
  refine zFf_bnd (fun M_51 e_M_51 => ?_)
  have h_M_51 : zFr W M0 M_51 := by rw [e_M_51]; exact (zFr_I h_M_42 (hW _ (by decide)))
  exact zFf_some h_M_51
theorem fr_X1_putGuess_25 (W : Nat → Prop) (M0 : ZMem) (M : ZMem) (x1 : Int32) (x2 : Int32) (v1 : Int32) (v2 : Int32) (hW : ∀ a, a ∈ ([20, 26] : List Nat) → W a) (hM : zFr W M0 M) : zFf (fun r => zFr W M0 r) (f_X1_putGuess_25 M x1 x2 v1 v2) := by
  unfold f_X1_putGuess_25
  refine zFf_chk ?_
  refine zFf_ite ?_ ?_
  · exact fr_X1_putGuess_40 W M0 M x1 x2 v1 v2 (zI 0) (fun a h => hW a (zsub (by decide) h)) hM
  · exact fr_X1_putGuess_40 W M0 M x1 x2 v1 v2 (zI 1) (fun a h => hW a (zsub (by decide) h)) hM
theorem fr_X1_putGuess (W : Nat → Prop) (M0 : ZMem) (M : ZMem) (x1 : Int32) (x2 : Int32) (hW : ∀ a, a ∈ ([20, 26] : List Nat) → W a) (hM : zFr W M0 M) : zFf (fun r => zFr W M0 r) (f_X1_putGuess M x1 x2) := by
  unfold f_X1_putGuess
  refine zFf_ite ?_ ?_
  · exact zFf_some hM
  · refine zFf_ite ?_ ?_
    · exact zFf_some hM
    · refine zFf_ite ?_ ?_
      · exact fr_X1_putGuess_25 W M0 M x1 x2 (M.1 20 10) (zI 0) (fun a h => hW a (zsub (by decide) h)) hM
      · exact fr_X1_putGuess_25 W M0 M x1 x2 (M.1 20 10) (zI 1) (fun a h => hW a (zsub (by decide) h)) hM
theorem fr_X1_tellGuess (W : Nat → Prop) (M0 : ZMem) (M : ZMem) (x1 : Int32) (x2 : Int32) (hW : ∀ a, a ∈ ([20, 26, 27, 28, 29] : List Nat) → W a) (hM : zFr W M0 M) : zFf (fun r => zFr W M0 r.1) (f_X1_tellGuess M x1 x2) := by
  unfold f_X1_tellGuess
  refine zFf_ite ?_ ?_
  · exact zFf_some hM
  · refine zFf_ite ?_ ?_
    · exact zFf_some hM
    · refine zFf_chk ?_
      refine zFf_ite ?_ ?_
      · exact zFf_some hM
      · refine zFf_chk ?_
        refine zFf_bind (fr_X1_note W M0 M (zI 5) x1 (M.1 26 (zix x1)) (fun a h => hW a (zsub (by decide) h)) hM) (fun M_31 h_M_31 => ?_)
        refine zFf_bind (fr_X1_putGuess W M0 M_31 x1 x2 (fun a h => hW a (zsub (by decide) h)) h_M_31) (fun M_37 h_M_37 => ?_)
        exact zFf_some h_M_37
theorem fr_X1_undoLast_113 (W : Nat → Prop) (M0 : ZMem) (M : ZMem) (x1 : Int32) (x2 : Int32) (x3 : Int32) (hW : ∀ a, a ∈ ([21] : List Nat) → W a) (hM : zFr W M0 M) : zFf (fun r => zFr W M0 r.1) (f_X1_undoLast_113 M x1 x2 x3) := by
  unfold f_X1_undoLast_113
  refine zFf_ite ?_ ?_
  · exact zFf_some hM
  · refine zFf_ite ?_ ?_
    · exact zFf_some hM
    · refine zFf_chk ?_
      refine zFf_bnd (fun M_132 e_M_132 => ?_)
      have h_M_132 : zFr W M0 M_132 := by rw [e_M_132]; exact (zFr_I hM (hW _ (by decide)))
      exact zFf_some h_M_132
theorem fr_X1_undoLast (W : Nat → Prop) (M0 : ZMem) (M : ZMem) (hW : ∀ a, a ∈ ([20, 21, 22, 26] : List Nat) → W a) (hM : zFr W M0 M) : zFf (fun r => zFr W M0 r.1) (f_X1_undoLast M) := by
  unfold f_X1_undoLast
  refine zFf_ite ?_ ?_
  · refine zFf_bnd (fun M_16 e_M_16 => ?_)
    have h_M_16 : zFr W M0 M_16 := by rw [e_M_16]; exact (zFr_I hM (hW _ (by decide)))
    refine zFf_chk ?_
    refine zFf_bnd (fun x1_28 _ => ?_)
    refine zFf_chk ?_
    refine zFf_bnd (fun x2_38 _ => ?_)
    refine zFf_chk ?_
    refine zFf_bnd (fun x3_48 _ => ?_)
    refine zFf_ite ?_ ?_
    · refine zFf_bnd (fun M_65 e_M_65 => ?_)
      have h_M_65 : zFr W M0 M_65 := by rw [e_M_65]; exact (zFr_I h_M_16 (hW _ (by decide)))
      exact zFf_some h_M_65
    · refine zFf_ite ?_ ?_
      · refine zFf_bind (fr_X1_putGuess W M0 M_16 x2_38 x3_48 (fun a h => hW a (zsub (by decide) h)) h_M_16) (fun M_79 h_M_79 => ?_)
        exact zFf_some h_M_79
      · refine zFf_ite ?_ ?_
        · refine zFf_ite ?_ ?_
          · exact fr_X1_undoLast_113 W M0 M_16 x1_28 x2_38 x3_48 (fun a h => hW a (zsub (by decide) h)) h_M_16
          · refine zFf_ite ?_ ?_
            · exact fr_X1_undoLast_113 W M0 M_16 x1_28 x2_38 x3_48 (fun a h => hW a (zsub (by decide) h)) h_M_16
            · refine zFf_chk ?_
              refine zFf_bnd (fun M_109 e_M_109 => ?_)
              have h_M_109 : zFr W M0 M_109 := by rw [e_M_109]; exact (zFr_I h_M_16 (hW _ (by decide)))
              exact zFf_some h_M_109
        · exact fr_X1_undoLast_113 W M0 M_16 x1_28 x2_38 x3_48 (fun a h => hW a (zsub (by decide) h)) h_M_16
  · exact zFf_some hM
theorem fr_X4_keep_L22 (W : Nat → Prop) (M0 : ZMem) (M : ZMem) (s : (Int32)) (hW : ∀ a, a ∈ ([] : List Nat) → W a) (hM : zFr W M0 M) : zFf (zlp (fun r => True) (fun r => zsel r (fun e => True) (fun e => zFr W M0 e.1))) (f_X4_keep_L22 M s) := by
  unfold f_X4_keep_L22
  refine zFf_ite ?_ ?_
  · exact zFf_some trivial
  · refine zFf_bindP (fun r_36 => ?_)
    refine zFf_ite ?_ ?_
    · refine zFf_bnd (fun x2_48 _ => ?_)
      exact zFf_some trivial
    · refine zFf_bindP (fun r_44 => ?_)
      exact zFf_some hM
theorem fr_X4_keep (W : Nat → Prop) (M0 : ZMem) (M : ZMem) (x1 : Int32) (hW : ∀ a, a ∈ ([17, 19] : List Nat) → W a) (hM : zFr W M0 M) : zFf (fun r => zFr W M0 r.1) (f_X4_keep M x1) := by
  unfold f_X4_keep
  refine zFf_ite ?_ ?_
  · refine zFf_chk ?_
    refine zFf_bnd (fun M_19 e_M_19 => ?_)
    have h_M_19 : zFr W M0 M_19 := by rw [e_M_19]; exact (zFr_I hM (hW _ (by decide)))
    refine zFf_bind (zFf_loop (QS := (fun r => True)) (QE := (fun r => zsel r (fun e => True) (fun e => zFr W M0 e.1))) (fun z _ => fr_X4_keep_L22 W M0 M_19 z (fun a h => hW a (zsub (by decide) h)) h_M_19) trivial) (fun e22 h_e22 => ?_)
    cases e22 with
    | inl e22a =>
      refine zFf_selL ?_
      refine zFf_bnd (fun M_61 e_M_61 => ?_)
      have h_M_61 : zFr W M0 M_61 := by rw [e_M_61]; exact (zFr_I h_M_19 (hW _ (by decide)))
      exact zFf_some h_M_61
    | inr e22b =>
      refine zFf_selR ?_
      exact zFf_some h_e22
  · exact zFf_some hM
theorem fr_X4_takeFrom_40_L2 (W : Nat → Prop) (M0 : ZMem) (M : ZMem) (x2 : Int32) (x3 : Int32) (hW : ∀ a, a ∈ ([18] : List Nat) → W a) (hM : zFr W M0 M) : zFf (zlp (fun r => zFr W M0 r.1) (fun r => zsel r (fun e => zFr W M0 e) (fun e => zFr W M0 e.1))) (f_X4_takeFrom_40_L2 M x2 x3) := by
  unfold f_X4_takeFrom_40_L2
  refine zFf_bindP (fun r_42 => ?_)
  refine zFf_bindP (fun r_47 => ?_)
  refine zFf_ite ?_ ?_
  · refine zFf_bindP (fun r_60 => ?_)
    exact zFf_some hM
  · refine zFf_ite ?_ ?_
    · refine zFf_bindP (fun r_72 => ?_)
      exact zFf_some hM
    · refine zFf_bindP (fun r_80 => ?_)
      refine zFf_bindP (fun r_85 => ?_)
      refine zFf_ite ?_ ?_
      · refine zFf_bindP (fun r_100 => ?_)
        exact zFf_some hM
      · refine zFf_chk ?_
        refine zFf_bnd (fun M_124 e_M_124 => ?_)
        have h_M_124 : zFr W M0 M_124 := by rw [e_M_124]; exact (zFr_I hM (hW _ (by decide)))
        refine zFf_bnd (fun x2_125 _ => ?_)
        exact zFf_some h_M_124
theorem fr_X4_takeFrom_L2 (W : Nat → Prop) (M0 : ZMem) (s : (ZMem × Int32)) (hW : ∀ a, a ∈ ([17, 18, 19] : List Nat) → W a) (hs : zFr W M0 s.1) : zFf (zlp (fun r => zFr W M0 r.1) (fun r => zsel r (fun e => zFr W M0 e) (fun e => zFr W M0 e.1))) (f_X4_takeFrom_L2 s) := by
  unfold f_X4_takeFrom_L2
  refine zFf_ite ?_ ?_
  · exact zFf_some hs
  · refine zFf_ite ?_ ?_
    · exact zFf_some hs
    · refine zFf_bnd (fun x3_19 _ => ?_)
      refine zFf_ite ?_ ?_
      · exact fr_X4_takeFrom_40_L2 W M0 s.1 s.2 x3_19 (fun a h => hW a (zsub (by decide) h)) hs
      · refine zFf_bindP (fun r_27 => ?_)
        refine zFf_ite ?_ ?_
        · refine zFf_bind (fr_X4_keep W M0 s.1 s.2 (fun a h => hW a (zsub (by decide) h)) hs) (fun r_36 h_r_36 => ?_)
          exact zFf_some h_r_36
        · exact fr_X4_takeFrom_40_L2 W M0 s.1 s.2 x3_19 (fun a h => hW a (zsub (by decide) h)) hs
theorem fr_X4_takeFrom (W : Nat → Prop) (M0 : ZMem) (M : ZMem) (hW : ∀ a, a ∈ ([17, 18, 19] : List Nat) → W a) (hM : zFr W M0 M) : zFf (fun r => zFr W M0 r.1) (f_X4_takeFrom M) := by
  unfold f_X4_takeFrom
  refine zFf_bind (zFf_loop (QS := (fun r => zFr W M0 r.1)) (QE := (fun r => zsel r (fun e => zFr W M0 e) (fun e => zFr W M0 e.1))) (fun z hz => fr_X4_takeFrom_L2 W M0 z (fun a h => hW a (zsub (by decide) h)) hz) hM) (fun e2 h_e2 => ?_)
  cases e2 with
  | inl e2a =>
    refine zFf_selL ?_
    exact zFf_some h_e2
  | inr e2b =>
    refine zFf_selR ?_
    exact zFf_some h_e2
theorem fr_X7_startAnew (W : Nat → Prop) (M0 : ZMem) (M : ZMem) (hW : ∀ a, a ∈ ([11] : List Nat) → W a) (hM : zFr W M0 M) : zFf (fun r => zFr W M0 r) (f_X7_startAnew M) := by
  unfold f_X7_startAnew
  refine zFf_bnd (fun M_2 e_M_2 => ?_)
  have h_M_2 : zFr W M0 M_2 := by rw [e_M_2]; exact (zFr_I hM (hW _ (by decide)))
  exact zFf_some h_M_2
theorem fr_X7_openRow (W : Nat → Prop) (M0 : ZMem) (M : ZMem) (hW : ∀ a, a ∈ ([11] : List Nat) → W a) (hM : zFr W M0 M) : zFf (fun r => zFr W M0 r) (f_X7_openRow M) := by
  unfold f_X7_openRow
  refine zFf_bnd (fun M_2 e_M_2 => ?_)
  have h_M_2 : zFr W M0 M_2 := by rw [e_M_2]; exact (zFr_I hM (hW _ (by decide)))
  refine zFf_bnd (fun M_7 e_M_7 => ?_)
  have h_M_7 : zFr W M0 M_7 := by rw [e_M_7]; exact (zFr_I h_M_2 (hW _ (by decide)))
  refine zFf_bnd (fun M_12 e_M_12 => ?_)
  have h_M_12 : zFr W M0 M_12 := by rw [e_M_12]; exact (zFr_I h_M_7 (hW _ (by decide)))
  exact zFf_some h_M_12
theorem fr_X7_closeRow_48 (W : Nat → Prop) (M0 : ZMem) (M : ZMem) (hW : ∀ a, a ∈ ([11] : List Nat) → W a) (hM : zFr W M0 M) : zFf (fun r => zFr W M0 r) (f_X7_closeRow_48 M) := by
  unfold f_X7_closeRow_48
  refine zFf_bnd (fun M_55 e_M_55 => ?_)
  have h_M_55 : zFr W M0 M_55 := by rw [e_M_55]; exact (zFr_I hM (hW _ (by decide)))
  exact zFf_some h_M_55
theorem fr_X7_closeRow (W : Nat → Prop) (M0 : ZMem) (M : ZMem) (hW : ∀ a, a ∈ ([11, 13, 14, 15] : List Nat) → W a) (hM : zFr W M0 M) : zFf (fun r => zFr W M0 r) (f_X7_closeRow M) := by
  unfold f_X7_closeRow
  refine zFf_bnd (fun x1_11 _ => ?_)
  refine zFf_ite ?_ ?_
  · exact fr_X7_closeRow_48 W M0 M (fun a h => hW a (zsub (by decide) h)) hM
  · refine zFf_chk ?_
    refine zFf_bnd (fun M_27 e_M_27 => ?_)
    have h_M_27 : zFr W M0 M_27 := by rw [e_M_27]; exact (zFr_I hM (hW _ (by decide)))
    refine zFf_chk ?_
    refine zFf_bnd (fun M_37 e_M_37 => ?_)
    have h_M_37 : zFr W M0 M_37 := by rw [e_M_37]; exact (zFr_I h_M_27 (hW _ (by decide)))
    refine zFf_chk ?_
    refine zFf_bnd (fun M_47 e_M_47 => ?_)
    have h_M_47 : zFr W M0 M_47 := by rw [e_M_47]; exact (zFr_I h_M_37 (hW _ (by decide)))
    exact fr_X7_closeRow_48 W M0 M_47 (fun a h => hW a (zsub (by decide) h)) h_M_47
theorem fr_X7_take_62 (W : Nat → Prop) (M0 : ZMem) (M : ZMem) (hW : ∀ a, a ∈ ([11] : List Nat) → W a) (hM : zFr W M0 M) : zFf (fun r => zFr W M0 r) (f_X7_take_62 M) := by
  unfold f_X7_take_62
  refine zFf_bnd (fun M_69 e_M_69 => ?_)
  have h_M_69 : zFr W M0 M_69 := by rw [e_M_69]; exact (zFr_I hM (hW _ (by decide)))
  exact zFf_some h_M_69
theorem fr_X7_take (W : Nat → Prop) (M0 : ZMem) (M : ZMem) (x1 : Int32) (hW : ∀ a, a ∈ ([11, 12, 13, 14, 15] : List Nat) → W a) (hM : zFr W M0 M) : zFf (fun r => zFr W M0 r) (f_X7_take M x1) := by
  unfold f_X7_take
  refine zFf_ite ?_ ?_
  · refine zFf_bind (fr_X7_closeRow W M0 M (fun a h => hW a (zsub (by decide) h)) hM) (fun M_7 h_M_7 => ?_)
    refine zFf_bind (fr_X7_openRow W M0 M_7 (fun a h => hW a (zsub (by decide) h)) h_M_7) (fun M_11 h_M_11 => ?_)
    exact zFf_some h_M_11
  · refine zFf_ite ?_ ?_
    · refine zFf_ite ?_ ?_
      · refine zFf_bnd (fun M_89 e_M_89 => ?_)
        have h_M_89 : zFr W M0 M_89 := by rw [e_M_89]; exact (zFr_I hM (hW _ (by decide)))
        exact zFf_some h_M_89
      · refine zFf_bnd (fun M_102 e_M_102 => ?_)
        have h_M_102 : zFr W M0 M_102 := by rw [e_M_102]; exact (zFr_I hM (hW _ (by decide)))
        exact zFf_some h_M_102
    · refine zFf_bnd (fun x2_42 _ => ?_)
      refine zFf_ite ?_ ?_
      · exact fr_X7_take_62 W M0 M (fun a h => hW a (zsub (by decide) h)) hM
      · refine zFf_bindP (fun r_58 => ?_)
        refine zFf_chk ?_
        refine zFf_bnd (fun M_61 e_M_61 => ?_)
        have h_M_61 : zFr W M0 M_61 := by rw [e_M_61]; exact (zFr_I hM (hW _ (by decide)))
        exact fr_X7_take_62 W M0 M_61 (fun a h => hW a (zsub (by decide) h)) h_M_61
theorem fr_X7_takeFrom_L11 (W : Nat → Prop) (M0 : ZMem) (x2 : Int32) (s : (ZMem × Int32)) (hW : ∀ a, a ∈ ([11, 12, 13, 14, 15, 16] : List Nat) → W a) (hs : zFr W M0 s.1) : zFf (zlp (fun r => zFr W M0 r.1) (fun r => zsel r (fun e => zFr W M0 e) (fun e => zFr W M0 e.1))) (f_X7_takeFrom_L11 x2 s) := by
  unfold f_X7_takeFrom_L11
  refine zFf_ite ?_ ?_
  · exact zFf_some hs
  · refine zFf_ite ?_ ?_
    · exact zFf_some hs
    · refine zFf_bindP (fun r_29 => ?_)
      refine zFf_bindP (fun r_38 => ?_)
      refine zFf_ite ?_ ?_
      · refine zFf_ite ?_ ?_
        · refine zFf_bind (fr_X7_closeRow W M0 s.1 (fun a h => hW a (zsub (by decide) h)) hs) (fun M_62 h_M_62 => ?_)
          refine zFf_chk ?_
          refine zFf_bnd (fun M_77 e_M_77 => ?_)
          have h_M_77 : zFr W M0 M_77 := by rw [e_M_77]; exact (zFr_I h_M_62 (hW _ (by decide)))
          refine zFf_bnd (fun M_85 e_M_85 => ?_)
          have h_M_85 : zFr W M0 M_85 := by rw [e_M_85]; exact (zFr_I h_M_77 (hW _ (by decide)))
          exact zFf_some h_M_85
        · refine zFf_bind (fr_X7_take W M0 s.1 r_29 (fun a h => hW a (zsub (by decide) h)) hs) (fun M_98 h_M_98 => ?_)
          refine zFf_bnd (fun x3_101 _ => ?_)
          exact zFf_some h_M_98
      · refine zFf_bindP (fun r_51 => ?_)
        exact zFf_some hs
theorem fr_X7_takeFrom (W : Nat → Prop) (M0 : ZMem) (M : ZMem) (x2 : Int32) (hW : ∀ a, a ∈ ([11, 12, 13, 14, 15, 16] : List Nat) → W a) (hM : zFr W M0 M) : zFf (fun r => zFr W M0 r.1) (f_X7_takeFrom M x2) := by
  unfold f_X7_takeFrom
  refine zFf_bnd (fun M_2 e_M_2 => ?_)
  have h_M_2 : zFr W M0 M_2 := by rw [e_M_2]; exact (zFr_I hM (hW _ (by decide)))
  refine zFf_bind (fr_X7_openRow W M0 M_2 (fun a h => hW a (zsub (by decide) h)) h_M_2) (fun M_6 h_M_6 => ?_)
  refine zFf_bind (zFf_loop (QS := (fun r => zFr W M0 r.1)) (QE := (fun r => zsel r (fun e => zFr W M0 e) (fun e => zFr W M0 e.1))) (fun z hz => fr_X7_takeFrom_L11 W M0 x2 z (fun a h => hW a (zsub (by decide) h)) hz) h_M_6) (fun e11 h_e11 => ?_)
  cases e11 with
  | inl e11a =>
    refine zFf_selL ?_
    exact zFf_some h_e11
  | inr e11b =>
    refine zFf_selR ?_
    exact zFf_some h_e11
theorem fr_X8_put_L3 (W : Nat → Prop) (M0 : ZMem) (x1 : Int32) (s : (ZMem × Int32)) (hW : ∀ a, a ∈ ([1, 2] : List Nat) → W a) (hs : zFr W M0 s.1) : zFf (zlp (fun r => zFr W M0 r.1) (fun r => zFr W M0 r)) (f_X8_put_L3 x1 s) := by
  unfold f_X8_put_L3
  refine zFf_ite ?_ ?_
  · exact zFf_some hs
  · refine zFf_ite ?_ ?_
    · exact zFf_some hs
    · refine zFf_chk ?_
      refine zFf_bnd (fun M_32 e_M_32 => ?_)
      have h_M_32 : zFr W M0 M_32 := by rw [e_M_32]; exact (zFr_I hs (hW _ (by decide)))
      refine zFf_bnd (fun M_40 e_M_40 => ?_)
      have h_M_40 : zFr W M0 M_40 := by rw [e_M_40]; exact (zFr_I h_M_32 (hW _ (by decide)))
      refine zFf_bnd (fun x2_43 _ => ?_)
      exact zFf_some h_M_40
theorem fr_X8_put (W : Nat → Prop) (M0 : ZMem) (M : ZMem) (x1 : Int32) (hW : ∀ a, a ∈ ([1, 2] : List Nat) → W a) (hM : zFr W M0 M) : zFf (fun r => zFr W M0 r) (f_X8_put M x1) := by
  unfold f_X8_put
  refine zFf_bind (zFf_loop (QS := (fun r => zFr W M0 r.1)) (QE := (fun r => zFr W M0 r)) (fun z hz => fr_X8_put_L3 W M0 x1 z (fun a h => hW a (zsub (by decide) h)) hz) hM) (fun e3 h_e3 => ?_)
  exact zFf_some h_e3
theorem fr_X8_cutTo (W : Nat → Prop) (M0 : ZMem) (M : ZMem) (x1 : Int32) (hW : ∀ a, a ∈ ([1] : List Nat) → W a) (hM : zFr W M0 M) : zFf (fun r => zFr W M0 r.1) (f_X8_cutTo M x1) := by
  unfold f_X8_cutTo
  refine zFf_ite ?_ ?_
  · exact zFf_some hM
  · refine zFf_ite ?_ ?_
    · refine zFf_bnd (fun M_16 e_M_16 => ?_)
      have h_M_16 : zFr W M0 M_16 := by rw [e_M_16]; exact (zFr_I hM (hW _ (by decide)))
      exact zFf_some h_M_16
    · exact zFf_some hM
theorem fr_X0_skipBlanks_L0 (W : Nat → Prop) (M0 : ZMem) (s : (ZMem)) (hW : ∀ a, a ∈ ([3] : List Nat) → W a) (hs : zFr W M0 s) : zFf (zlp (fun r => zFr W M0 r) (fun r => zFr W M0 r)) (f_X0_skipBlanks_L0 s) := by
  unfold f_X0_skipBlanks_L0
  refine zFf_ite ?_ ?_
  · exact zFf_some hs
  · refine zFf_bindP (fun r_15 => ?_)
    refine zFf_ite ?_ ?_
    · refine zFf_bnd (fun M_30 e_M_30 => ?_)
      have h_M_30 : zFr W M0 M_30 := by rw [e_M_30]; exact (zFr_I hs (hW _ (by decide)))
      exact zFf_some h_M_30
    · exact zFf_some hs
theorem fr_X0_skipBlanks (W : Nat → Prop) (M0 : ZMem) (M : ZMem) (hW : ∀ a, a ∈ ([3] : List Nat) → W a) (hM : zFr W M0 M) : zFf (fun r => zFr W M0 r) (f_X0_skipBlanks M) := by
  unfold f_X0_skipBlanks
  refine zFf_bind (zFf_loop (QS := (fun r => zFr W M0 r)) (QE := (fun r => zFr W M0 r)) (fun z hz => fr_X0_skipBlanks_L0 W M0 z (fun a h => hW a (zsub (by decide) h)) hz) hM) (fun e0 h_e0 => ?_)
  exact zFf_some h_e0
theorem fr_X0_addBranch (W : Nat → Prop) (M0 : ZMem) (M : ZMem) (x1 : Int32) (x2 : Int32) (hW : ∀ a, a ∈ ([3, 7] : List Nat) → W a) (hM : zFr W M0 M) : zFf (fun r => zFr W M0 r) (f_X0_addBranch M x1 x2) := by
  unfold f_X0_addBranch
  refine zFf_ite ?_ ?_
  · exact zFf_some hM
  · refine zFf_chk ?_
    refine zFf_bnd (fun M_20 e_M_20 => ?_)
    have h_M_20 : zFr W M0 M_20 := by rw [e_M_20]; exact (zFr_I hM (hW _ (by decide)))
    refine zFf_chk ?_
    refine zFf_bnd (fun M_34 e_M_34 => ?_)
    have h_M_34 : zFr W M0 M_34 := by rw [e_M_34]; exact (zFr_I h_M_20 (hW _ (by decide)))
    refine zFf_bnd (fun M_42 e_M_42 => ?_)
    have h_M_42 : zFr W M0 M_42 := by rw [e_M_42]; exact (zFr_I h_M_34 (hW _ (by decide)))
    exact zFf_some h_M_42
theorem fr_X0_growTree_L34 (W : Nat → Prop) (M0 : ZMem) (x1 : Int32) (x2 : Int32) (s : (ZMem × Int32)) (hW : ∀ a, a ∈ ([3, 7, 8] : List Nat) → W a) (hs : zFr W M0 s.1) : zFf (zlp (fun r => zFr W M0 r.1) (fun r => zFr W M0 r)) (f_X0_growTree_L34 x1 x2 s) := by
  unfold f_X0_growTree_L34
  refine zFf_ite ?_ ?_
  · exact zFf_some hs
  · refine zFf_chk ?_
    refine zFf_ite ?_ ?_
    · refine zFf_bind (fr_X11_joinLabels W M0 8 20 s.1 x2 s.2 (fun a h => hW a (zsub (by decide) h)) hs) (fun r_63 h_r_63 => ?_)
      refine zFf_ite ?_ ?_
      · refine zFf_bnd (fun x3_75 _ => ?_)
        exact zFf_some h_r_63
      · refine zFf_bind (fr_X0_addBranch W M0 r_63.1 x2 s.2 (fun a h => hW a (zsub (by decide) h)) h_r_63) (fun M_72 h_M_72 => ?_)
        refine zFf_bnd (fun x3_75 _ => ?_)
        exact zFf_some h_M_72
    · refine zFf_bnd (fun x3_75 _ => ?_)
      exact zFf_some hs
theorem fr_X0_growTree_L22 (W : Nat → Prop) (M0 : ZMem) (x1 : Int32) (s : (ZMem × Int32)) (hW : ∀ a, a ∈ ([3, 7, 8] : List Nat) → W a) (hs : zFr W M0 s.1) : zFf (zlp (fun r => zFr W M0 r.1) (fun r => zFr W M0 r)) (f_X0_growTree_L22 x1 s) := by
  unfold f_X0_growTree_L22
  refine zFf_ite ?_ ?_
  · exact zFf_some hs
  · refine zFf_bnd (fun x3_33 _ => ?_)
    refine zFf_bind (zFf_loop (QS := (fun r => zFr W M0 r.1)) (QE := (fun r => zFr W M0 r)) (fun z hz => fr_X0_growTree_L34 W M0 x1 s.2 z (fun a h => hW a (zsub (by decide) h)) hz) hs) (fun e34 h_e34 => ?_)
    refine zFf_bnd (fun x2_81 _ => ?_)
    exact zFf_some h_e34
theorem fr_X0_growTree_L14 (W : Nat → Prop) (M0 : ZMem) (s : (ZMem × Int32)) (hW : ∀ a, a ∈ ([3, 7, 8] : List Nat) → W a) (hs : zFr W M0 s.1) : zFf (zlp (fun r => zFr W M0 r.1) (fun r => zFr W M0 r)) (f_X0_growTree_L14 s) := by
  unfold f_X0_growTree_L14
  refine zFf_ite ?_ ?_
  · exact zFf_some hs
  · refine zFf_bind (zFf_loop (QS := (fun r => zFr W M0 r.1)) (QE := (fun r => zFr W M0 r)) (fun z hz => fr_X0_growTree_L22 W M0 s.2 z (fun a h => hW a (zsub (by decide) h)) hz) hs) (fun e22 h_e22 => ?_)
    refine zFf_bnd (fun x1_87 _ => ?_)
    exact zFf_some h_e22
theorem fr_X0_growTree (W : Nat → Prop) (M0 : ZMem) (M : ZMem) (hW : ∀ a, a ∈ ([3, 7, 8] : List Nat) → W a) (hM : zFr W M0 M) : zFf (fun r => zFr W M0 r) (f_X0_growTree M) := by
  unfold f_X0_growTree
  refine zFf_bnd (fun M_2 e_M_2 => ?_)
  have h_M_2 : zFr W M0 M_2 := by rw [e_M_2]; exact (zFr_I hM (hW _ (by decide)))
  refine zFf_bind (fr_X11_startLabels W M0 8 20 M_2 (fun a h => hW a (zsub (by decide) h)) h_M_2) (fun M_9 h_M_9 => ?_)
  refine zFf_bind (zFf_loop (QS := (fun r => zFr W M0 r.1)) (QE := (fun r => zFr W M0 r)) (fun z hz => fr_X0_growTree_L14 W M0 z (fun a h => hW a (zsub (by decide) h)) hz) h_M_9) (fun e14 h_e14 => ?_)
  exact zFf_some h_e14
theorem fr_X0_keepStaged_L35 (W : Nat → Prop) (M0 : ZMem) (x1 : Int32) (s : (ZMem × Int32)) (hW : ∀ a, a ∈ ([6] : List Nat) → W a) (hs : zFr W M0 s.1) : zFf (zlp (fun r => zFr W M0 r.1) (fun r => zFr W M0 r)) (f_X0_keepStaged_L35 x1 s) := by
  unfold f_X0_keepStaged_L35
  refine zFf_ite ?_ ?_
  · exact zFf_some hs
  · refine zFf_chk ?_
    refine zFf_chk ?_
    refine zFf_bindP (fun r_55 => ?_)
    refine zFf_chk ?_
    refine zFf_bnd (fun M_70 e_M_70 => ?_)
    have h_M_70 : zFr W M0 M_70 := by rw [e_M_70]; exact (zFr_I hs (hW _ (by decide)))
    refine zFf_chk ?_
    refine zFf_bnd (fun M_82 e_M_82 => ?_)
    have h_M_82 : zFr W M0 M_82 := by rw [e_M_82]; exact (zFr_I h_M_70 (hW _ (by decide)))
    refine zFf_bnd (fun x2_83 _ => ?_)
    exact zFf_some h_M_82
theorem fr_X0_keepStaged_L25 (W : Nat → Prop) (M0 : ZMem) (s : (ZMem × Int32)) (hW : ∀ a, a ∈ ([6] : List Nat) → W a) (hs : zFr W M0 s.1) : zFf (zlp (fun r => zFr W M0 r.1) (fun r => zFr W M0 r)) (f_X0_keepStaged_L25 s) := by
  unfold f_X0_keepStaged_L25
  refine zFf_ite ?_ ?_
  · exact zFf_some hs
  · refine zFf_bind (zFf_loop (QS := (fun r => zFr W M0 r.1)) (QE := (fun r => zFr W M0 r)) (fun z hz => fr_X0_keepStaged_L35 W M0 s.2 z (fun a h => hW a (zsub (by decide) h)) hz) hs) (fun e35 h_e35 => ?_)
    refine zFf_bnd (fun x1_89 _ => ?_)
    exact zFf_some h_e35
theorem fr_X0_keepStaged (W : Nat → Prop) (M0 : ZMem) (M : ZMem) (hW : ∀ a, a ∈ ([3, 4, 6, 7, 8] : List Nat) → W a) (hM : zFr W M0 M) : zFf (fun r => zFr W M0 r) (f_X0_keepStaged M) := by
  unfold f_X0_keepStaged
  refine zFf_bnd (fun M_5 e_M_5 => ?_)
  have h_M_5 : zFr W M0 M_5 := by rw [e_M_5]; exact (zFr_I hM (hW _ (by decide)))
  refine zFf_chk ?_
  refine zFf_bnd (fun M_20 e_M_20 => ?_)
  have h_M_20 : zFr W M0 M_20 := by rw [e_M_20]; exact (zFr_F h_M_5 (hW _ (by decide)))
  refine zFf_bind (zFf_loop (QS := (fun r => zFr W M0 r.1)) (QE := (fun r => zFr W M0 r)) (fun z hz => fr_X0_keepStaged_L25 W M0 z (fun a h => hW a (zsub (by decide) h)) hz) h_M_20) (fun e25 h_e25 => ?_)
  refine zFf_bind (fr_X0_growTree W M0 e25 (fun a h => hW a (zsub (by decide) h)) h_e25) (fun M_96 h_M_96 => ?_)
  exact zFf_some h_M_96
theorem fr_X0_takeNumber_L2 (W : Nat → Prop) (M0 : ZMem) (s : (ZMem × Int32)) (hW : ∀ a, a ∈ ([3] : List Nat) → W a) (hs : zFr W M0 s.1) : zFf (zlp (fun r => zFr W M0 r.1) (fun r => zFr W M0 r.1)) (f_X0_takeNumber_L2 s) := by
  unfold f_X0_takeNumber_L2
  refine zFf_ite ?_ ?_
  · exact zFf_some hs
  · refine zFf_bindP (fun r_17 => ?_)
    refine zFf_ite ?_ ?_
    · exact zFf_some hs
    · refine zFf_bindP (fun r_30 => ?_)
      refine zFf_ite ?_ ?_
      · exact zFf_some hs
      · refine zFf_bindP (fun r_49 => ?_)
        refine zFf_bnd (fun x2_59 _ => ?_)
        refine zFf_bnd (fun M_67 e_M_67 => ?_)
        have h_M_67 : zFr W M0 M_67 := by rw [e_M_67]; exact (zFr_I hs (hW _ (by decide)))
        exact zFf_some h_M_67
theorem fr_X0_takeNumber (W : Nat → Prop) (M0 : ZMem) (M : ZMem) (hW : ∀ a, a ∈ ([3] : List Nat) → W a) (hM : zFr W M0 M) : zFf (fun r => zFr W M0 r.1) (f_X0_takeNumber M) := by
  unfold f_X0_takeNumber
  refine zFf_bind (zFf_loop (QS := (fun r => zFr W M0 r.1)) (QE := (fun r => zFr W M0 r.1)) (fun z hz => fr_X0_takeNumber_L2 W M0 z (fun a h => hW a (zsub (by decide) h)) hz) hM) (fun e2 h_e2 => ?_)
  exact zFf_some h_e2
theorem fr_X0_stageForm_L10 (W : Nat → Prop) (M0 : ZMem) (x2 : Int32) (s : (ZMem × Int32 × Int32)) (hW : ∀ a, a ∈ ([3] : List Nat) → W a) (hs : zFr W M0 s.1) : zFf (zlp (fun r => zFr W M0 r.1) (fun r => zsel r (fun e => zFr W M0 e.1) (fun e => zFr W M0 e.1))) (f_X0_stageForm_L10 x2 s) := by
  unfold f_X0_stageForm_L10
  refine zFf_ite ?_ ?_
  · exact zFf_some hs
  · refine zFf_bind (fr_X0_skipBlanks W M0 s.1 (fun a h => hW a (zsub (by decide) h)) hs) (fun M_18 h_M_18 => ?_)
    refine zFf_bnd (fun x5_25 _ => ?_)
    refine zFf_bind (fr_X0_takeNumber W M0 M_18 (fun a h => hW a (zsub (by decide) h)) h_M_18) (fun r_29 h_r_29 => ?_)
    refine zFf_ite ?_ ?_
    · refine zFf_bindP (fun r_48 => ?_)
      exact zFf_some h_r_29
    · refine zFf_ite ?_ ?_
      · refine zFf_ite ?_ ?_
        · refine zFf_bnd (fun x3_89 _ => ?_)
          refine zFf_bnd (fun x4_90 _ => ?_)
          exact zFf_some h_r_29
        · refine zFf_bindP (fun r_78 => ?_)
          exact zFf_some h_r_29
      · refine zFf_bindP (fun r_62 => ?_)
        exact zFf_some h_r_29
theorem fr_X0_stageForm (W : Nat → Prop) (M0 : ZMem) (M : ZMem) (hW : ∀ a, a ∈ ([3, 5] : List Nat) → W a) (hM : zFr W M0 M) : zFf (fun r => zFr W M0 r.1) (f_X0_stageForm M) := by
  unfold f_X0_stageForm
  refine zFf_bnd (fun x2_4 _ => ?_)
  refine zFf_bind (zFf_loop (QS := (fun r => zFr W M0 r.1)) (QE := (fun r => zsel r (fun e => zFr W M0 e.1) (fun e => zFr W M0 e.1))) (fun z hz => fr_X0_stageForm_L10 W M0 x2_4 z (fun a h => hW a (zsub (by decide) h)) hz) hM) (fun e10 h_e10 => ?_)
  cases e10 with
  | inl e10a =>
    refine zFf_selL ?_
    refine zFf_bind (fr_X0_skipBlanks W M0 e10a.1 (fun a h => hW a (zsub (by decide) h)) h_e10) (fun M_98 h_M_98 => ?_)
    refine zFf_bindP (fun r_106 => ?_)
    refine zFf_ite ?_ ?_
    · refine zFf_bnd (fun M_130 e_M_130 => ?_)
      have h_M_130 : zFr W M0 M_130 := by rw [e_M_130]; exact (zFr_I h_M_98 (hW _ (by decide)))
      refine zFf_bindP (fun r_135 => ?_)
      refine zFf_ite ?_ ?_
      · refine zFf_chk ?_
        refine zFf_bnd (fun M_156 e_M_156 => ?_)
        have h_M_156 : zFr W M0 M_156 := by rw [e_M_156]; exact (zFr_I h_M_130 (hW _ (by decide)))
        refine zFf_bnd (fun M_164 e_M_164 => ?_)
        have h_M_164 : zFr W M0 M_164 := by rw [e_M_164]; exact (zFr_I h_M_156 (hW _ (by decide)))
        exact zFf_some h_M_164
      · refine zFf_bindP (fun r_143 => ?_)
        exact zFf_some h_M_130
    · refine zFf_bindP (fun r_119 => ?_)
      exact zFf_some h_M_98
  | inr e10b =>
    refine zFf_selR ?_
    exact zFf_some h_e10
theorem fr_X0_takeFrom_L14 (W : Nat → Prop) (M0 : ZMem) (s : (ZMem × Int32 × Int32)) (hW : ∀ a, a ∈ ([3, 4, 5, 6, 7, 8] : List Nat) → W a) (hs : zFr W M0 s.1) : zFf (zlp (fun r => zFr W M0 r.1) (fun r => zsel r (fun e => zFr W M0 e.1) (fun e => zFr W M0 e.1))) (f_X0_takeFrom_L14 s) := by
  unfold f_X0_takeFrom_L14
  refine zFf_ite ?_ ?_
  · exact zFf_some hs
  · refine zFf_ite ?_ ?_
    · refine zFf_bind (fr_X0_skipBlanks W M0 s.1 (fun a h => hW a (zsub (by decide) h)) hs) (fun M_26 h_M_26 => ?_)
      refine zFf_bindP (fun r_34 => ?_)
      refine zFf_ite ?_ ?_
      · refine zFf_bind (fr_X0_keepStaged W M0 M_26 (fun a h => hW a (zsub (by decide) h)) h_M_26) (fun M_42 h_M_42 => ?_)
        exact zFf_some h_M_42
      · refine zFf_bind (fr_X0_stageForm W M0 M_26 (fun a h => hW a (zsub (by decide) h)) h_M_26) (fun r_52 h_r_52 => ?_)
        refine zFf_bnd (fun x3_56 _ => ?_)
        exact zFf_some h_r_52
    · exact zFf_some hs
theorem fr_X0_takeFrom (W : Nat → Prop) (M0 : ZMem) (M : ZMem) (hW : ∀ a, a ∈ ([3, 4, 5, 6, 7, 8] : List Nat) → W a) (hM : zFr W M0 M) : zFf (fun r => zFr W M0 r.1) (f_X0_takeFrom M) := by
  unfold f_X0_takeFrom
  refine zFf_bnd (fun M_2 e_M_2 => ?_)
  have h_M_2 : zFr W M0 M_2 := by rw [e_M_2]; exact (zFr_I hM (hW _ (by decide)))
  refine zFf_bnd (fun M_7 e_M_7 => ?_)
  have h_M_7 : zFr W M0 M_7 := by rw [e_M_7]; exact (zFr_I h_M_2 (hW _ (by decide)))
  refine zFf_bind (zFf_loop (QS := (fun r => zFr W M0 r.1)) (QE := (fun r => zsel r (fun e => zFr W M0 e.1) (fun e => zFr W M0 e.1))) (fun z hz => fr_X0_takeFrom_L14 W M0 z (fun a h => hW a (zsub (by decide) h)) hz) h_M_7) (fun e14 h_e14 => ?_)
  cases e14 with
  | inl e14a =>
    refine zFf_selL ?_
    exact zFf_some h_e14
  | inr e14b =>
    refine zFf_selR ?_
    exact zFf_some h_e14
theorem fr_X0_settleSigns_L21 (W : Nat → Prop) (M0 : ZMem) (x2 : Int32) (s : (ZMem × Int32)) (hW : ∀ a, a ∈ ([9] : List Nat) → W a) (hs : zFr W M0 s.1) : zFf (zlp (fun r => zFr W M0 r.1) (fun r => zFr W M0 r)) (f_X0_settleSigns_L21 x2 s) := by
  unfold f_X0_settleSigns_L21
  refine zFf_ite ?_ ?_
  · exact zFf_some hs
  · refine zFf_bindP (fun r_33 => ?_)
    refine zFf_ite ?_ ?_
    · refine zFf_bnd (fun x3_49 _ => ?_)
      exact zFf_some hs
    · refine zFf_bind (fr_X11_joinLabels W M0 9 20 s.1 x2 s.2 (fun a h => hW a (zsub (by decide) h)) hs) (fun r_45 h_r_45 => ?_)
      refine zFf_bnd (fun x3_49 _ => ?_)
      exact zFf_some h_r_45
theorem fr_X0_settleSigns_L9 (W : Nat → Prop) (M0 : ZMem) (s : (ZMem × Int32)) (hW : ∀ a, a ∈ ([9] : List Nat) → W a) (hs : zFr W M0 s.1) : zFf (zlp (fun r => zFr W M0 r.1) (fun r => zFr W M0 r)) (f_X0_settleSigns_L9 s) := by
  unfold f_X0_settleSigns_L9
  refine zFf_ite ?_ ?_
  · exact zFf_some hs
  · refine zFf_bnd (fun x3_20 _ => ?_)
    refine zFf_bind (zFf_loop (QS := (fun r => zFr W M0 r.1)) (QE := (fun r => zFr W M0 r)) (fun z hz => fr_X0_settleSigns_L21 W M0 s.2 z (fun a h => hW a (zsub (by decide) h)) hz) hs) (fun e21 h_e21 => ?_)
    refine zFf_bnd (fun x2_55 _ => ?_)
    exact zFf_some h_e21
theorem fr_X0_settleSigns_125_L76 (W : Nat → Prop) (M0 : ZMem) (M : ZMem) (x2 : Int32) (v1 : Int32) (v2 : Int32) (hW : ∀ a, a ∈ ([3] : List Nat) → W a) (hM : zFr W M0 M) : zFf (zlp (fun r => zFr W M0 r.1) (fun r => zFr W M0 r)) (f_X0_settleSigns_125_L76 M x2 v1 v2) := by
  unfold f_X0_settleSigns_125_L76
  refine zFf_bnd (fun M_126 e_M_126 => ?_)
  have h_M_126 : zFr W M0 M_126 := by rw [e_M_126]; exact (zFr_I hM (hW _ (by decide)))
  refine zFf_bnd (fun x2_129 _ => ?_)
  exact zFf_some h_M_126
theorem fr_X0_settleSigns_110_L76 (W : Nat → Prop) (M0 : ZMem) (M : ZMem) (x2 : Int32) (x3 : Int32) (hW : ∀ a, a ∈ ([3] : List Nat) → W a) (hM : zFr W M0 M) : zFf (zlp (fun r => zFr W M0 r.1) (fun r => zFr W M0 r)) (f_X0_settleSigns_110_L76 M x2 x3) := by
  unfold f_X0_settleSigns_110_L76
  refine zFf_ite ?_ ?_
  · exact fr_X0_settleSigns_125_L76 W M0 M x2 (M.1 3 11) (zI 1) (fun a h => hW a (zsub (by decide) h)) hM
  · exact fr_X0_settleSigns_125_L76 W M0 M x2 (M.1 3 11) (zI 0) (fun a h => hW a (zsub (by decide) h)) hM
theorem fr_X0_settleSigns_L76 (W : Nat → Prop) (M0 : ZMem) (s : (ZMem × Int32)) (hW : ∀ a, a ∈ ([3, 10] : List Nat) → W a) (hs : zFr W M0 s.1) : zFf (zlp (fun r => zFr W M0 r.1) (fun r => zFr W M0 r)) (f_X0_settleSigns_L76 s) := by
  unfold f_X0_settleSigns_L76
  refine zFf_ite ?_ ?_
  · exact zFf_some hs
  · refine zFf_bindP (fun r_86 => ?_)
    refine zFf_ite ?_ ?_
    · exact fr_X0_settleSigns_110_L76 W M0 s.1 s.2 r_86 (fun a h => hW a (zsub (by decide) h)) hs
    · refine zFf_ite ?_ ?_
      · exact fr_X0_settleSigns_110_L76 W M0 s.1 s.2 r_86 (fun a h => hW a (zsub (by decide) h)) hs
      · refine zFf_chk ?_
        refine zFf_chk ?_
        refine zFf_bnd (fun M_109 e_M_109 => ?_)
        have h_M_109 : zFr W M0 M_109 := by rw [e_M_109]; exact (zFr_I hs (hW _ (by decide)))
        exact fr_X0_settleSigns_110_L76 W M0 M_109 s.2 r_86 (fun a h => hW a (zsub (by decide) h)) h_M_109
theorem fr_X0_settleSigns (W : Nat → Prop) (M0 : ZMem) (M : ZMem) (hW : ∀ a, a ∈ ([3, 9, 10] : List Nat) → W a) (hM : zFr W M0 M) : zFf (fun r => zFr W M0 r) (f_X0_settleSigns M) := by
  unfold f_X0_settleSigns
  refine zFf_bind (fr_X11_startLabels W M0 9 20 M (fun a h => hW a (zsub (by decide) h)) hM) (fun M_4 h_M_4 => ?_)
  refine zFf_bind (zFf_loop (QS := (fun r => zFr W M0 r.1)) (QE := (fun r => zFr W M0 r)) (fun z hz => fr_X0_settleSigns_L9 W M0 z (fun a h => hW a (zsub (by decide) h)) hz) h_M_4) (fun e9 h_e9 => ?_)
  refine zFf_bnd (fun M_63 e_M_63 => ?_)
  have h_M_63 : zFr W M0 M_63 := by rw [e_M_63]; exact (zFr_I h_e9 (hW _ (by decide)))
  refine zFf_bind (fr_J7_fill_53178 W M0 10 20 M_63 (zI 0) (fun a h => hW a (zsub (by decide) h)) h_M_63) (fun M_71 h_M_71 => ?_)
  refine zFf_bind (zFf_loop (QS := (fun r => zFr W M0 r.1)) (QE := (fun r => zFr W M0 r)) (fun z hz => fr_X0_settleSigns_L76 W M0 z (fun a h => hW a (zsub (by decide) h)) hz) h_M_71) (fun e76 h_e76 => ?_)
  exact zFf_some h_e76
theorem fr_X6_startPiece_L20 (W : Nat → Prop) (M0 : ZMem) (x1 : Int32) (x2 : Int32) (s : (ZMem × Int32)) (hW : ∀ a, a ∈ ([30, 33] : List Nat) → W a) (hs : zFr W M0 s.1) : zFf (zlp (fun r => zFr W M0 r.1) (fun r => zFr W M0 r)) (f_X6_startPiece_L20 x1 x2 s) := by
  unfold f_X6_startPiece_L20
  refine zFf_chk ?_
  refine zFf_ite ?_ ?_
  · exact zFf_some hs
  · refine zFf_ite ?_ ?_
    · exact zFf_some hs
    · refine zFf_chk ?_
      refine zFf_ite ?_ ?_
      · refine zFf_ite ?_ ?_
        · refine zFf_bnd (fun x3_88 _ => ?_)
          exact zFf_some hs
        · refine zFf_chk ?_
          refine zFf_bnd (fun M_77 e_M_77 => ?_)
          have h_M_77 : zFr W M0 M_77 := by rw [e_M_77]; exact (zFr_I hs (hW _ (by decide)))
          refine zFf_bnd (fun M_85 e_M_85 => ?_)
          have h_M_85 : zFr W M0 M_85 := by rw [e_M_85]; exact (zFr_I h_M_77 (hW _ (by decide)))
          refine zFf_bnd (fun x3_88 _ => ?_)
          exact zFf_some h_M_85
      · refine zFf_bnd (fun x3_88 _ => ?_)
        exact zFf_some hs
theorem fr_X6_startPiece_L12 (W : Nat → Prop) (M0 : ZMem) (x1 : Int32) (s : (ZMem × Int32)) (hW : ∀ a, a ∈ ([30, 33] : List Nat) → W a) (hs : zFr W M0 s.1) : zFf (zlp (fun r => zFr W M0 r.1) (fun r => zFr W M0 r)) (f_X6_startPiece_L12 x1 s) := by
  unfold f_X6_startPiece_L12
  refine zFf_ite ?_ ?_
  · exact zFf_some hs
  · refine zFf_bind (zFf_loop (QS := (fun r => zFr W M0 r.1)) (QE := (fun r => zFr W M0 r)) (fun z hz => fr_X6_startPiece_L20 W M0 x1 s.2 z (fun a h => hW a (zsub (by decide) h)) hz) hs) (fun e20 h_e20 => ?_)
    refine zFf_bnd (fun x2_94 _ => ?_)
    exact zFf_some h_e20
theorem fr_X6_startPiece (W : Nat → Prop) (M0 : ZMem) (M : ZMem) (x1 : Int32) (hW : ∀ a, a ∈ ([30, 33] : List Nat) → W a) (hM : zFr W M0 M) : zFf (fun r => zFr W M0 r) (f_X6_startPiece M x1) := by
  unfold f_X6_startPiece
  refine zFf_bnd (fun M_2 e_M_2 => ?_)
  have h_M_2 : zFr W M0 M_2 := by rw [e_M_2]; exact (zFr_I hM (hW _ (by decide)))
  refine zFf_bnd (fun M_7 e_M_7 => ?_)
  have h_M_7 : zFr W M0 M_7 := by rw [e_M_7]; exact (zFr_I h_M_2 (hW _ (by decide)))
  refine zFf_bind (zFf_loop (QS := (fun r => zFr W M0 r.1)) (QE := (fun r => zFr W M0 r)) (fun z hz => fr_X6_startPiece_L12 W M0 x1 z (fun a h => hW a (zsub (by decide) h)) hz) h_M_7) (fun e12 h_e12 => ?_)
  exact zFf_some h_e12
theorem fr_X6_growPiece_L4 (W : Nat → Prop) (M0 : ZMem) (x1 : Int32) (s : (ZMem × Int32 × Int32)) (hW : ∀ a, a ∈ ([33] : List Nat) → W a) (hs : zFr W M0 s.1) : zFf (zlp (fun r => zFr W M0 r.1) (fun r => zFr W M0 r.1)) (f_X6_growPiece_L4 x1 s) := by
  unfold f_X6_growPiece_L4
  refine zFf_ite ?_ ?_
  · exact zFf_some hs
  · refine zFf_chk ?_
    refine zFf_bindP (fun r_19 => ?_)
    refine zFf_ite ?_ ?_
    · refine zFf_chk ?_
      refine zFf_chk ?_
      refine zFf_bnd (fun M_37 e_M_37 => ?_)
      have h_M_37 : zFr W M0 M_37 := by rw [e_M_37]; exact (zFr_I hs (hW _ (by decide)))
      refine zFf_bnd (fun x2_38 _ => ?_)
      refine zFf_bnd (fun x3_41 _ => ?_)
      exact zFf_some h_M_37
    · refine zFf_bnd (fun x3_41 _ => ?_)
      exact zFf_some hs
theorem fr_X6_growPiece (W : Nat → Prop) (M0 : ZMem) (M : ZMem) (x1 : Int32) (hW : ∀ a, a ∈ ([30, 33] : List Nat) → W a) (hM : zFr W M0 M) : zFf (fun r => zFr W M0 r) (f_X6_growPiece M x1) := by
  unfold f_X6_growPiece
  refine zFf_bind (zFf_loop (QS := (fun r => zFr W M0 r.1)) (QE := (fun r => zFr W M0 r.1)) (fun z hz => fr_X6_growPiece_L4 W M0 x1 z (fun a h => hW a (zsub (by decide) h)) hz) hM) (fun e4 h_e4 => ?_)
  refine zFf_bnd (fun M_49 e_M_49 => ?_)
  have h_M_49 : zFr W M0 M_49 := by rw [e_M_49]; exact (zFr_I h_e4 (hW _ (by decide)))
  refine zFf_bnd (fun M_59 e_M_59 => ?_)
  have h_M_59 : zFr W M0 M_59 := by rw [e_M_59]; exact (zFr_I h_M_49 (hW _ (by decide)))
  exact zFf_some h_M_59
theorem fr_X6_wordLength_L33 (W : Nat → Prop) (M0 : ZMem) (x1 : Int32) (x2 : Int32) (x3 : Int32) (x5 : Int32) (s : (ZMem × Int32 × Int32)) (hW : ∀ a, a ∈ ([30, 33] : List Nat) → W a) (hs : zFr W M0 s.1) : zFf (zlp (fun r => zFr W M0 r.1) (fun r => zsel r (fun e => zFr W M0 e) (fun e => zFr W M0 e.1))) (f_X6_wordLength_L33 x1 x2 x3 x5 s) := by
  unfold f_X6_wordLength_L33
  refine zFf_ite ?_ ?_
  · exact zFf_some hs
  · refine zFf_bindP (fun r_49 => ?_)
    refine zFf_bind (fr_X6_growPiece W M0 s.1 r_49 (fun a h => hW a (zsub (by decide) h)) hs) (fun M_52 h_M_52 => ?_)
    refine zFf_bindP (fun r_56 => ?_)
    refine zFf_ite ?_ ?_
    · refine zFf_bnd (fun x6_81 _ => ?_)
      exact zFf_some h_M_52
    · refine zFf_ite ?_ ?_
      · refine zFf_bnd (fun x6_81 _ => ?_)
        exact zFf_some h_M_52
      · exact zFf_some h_M_52
theorem fr_X6_wordLength (W : Nat → Prop) (M0 : ZMem) (M : ZMem) (x1 : Int32) (x2 : Int32) (x3 : Int32) (hW : ∀ a, a ∈ ([30, 33] : List Nat) → W a) (hM : zFr W M0 M) : zFf (fun r => zFr W M0 r.1) (f_X6_wordLength M x1 x2 x3) := by
  unfold f_X6_wordLength
  refine zFf_bindP (fun r_4 => ?_)
  refine zFf_bind (fr_X6_startPiece W M0 M r_4 (fun a h => hW a (zsub (by decide) h)) hM) (fun M_7 h_M_7 => ?_)
  refine zFf_bindP (fun r_11 => ?_)
  refine zFf_bindP (fun r_20 => ?_)
  refine zFf_bnd (fun x5_28 _ => ?_)
  refine zFf_bind (zFf_loop (QS := (fun r => zFr W M0 r.1)) (QE := (fun r => zsel r (fun e => zFr W M0 e) (fun e => zFr W M0 e.1))) (fun z hz => fr_X6_wordLength_L33 W M0 x1 x2 x3 x5_28 z (fun a h => hW a (zsub (by decide) h)) hz) h_M_7) (fun e33 h_e33 => ?_)
  cases e33 with
  | inl e33a =>
    refine zFf_selL ?_
    exact zFf_some h_e33
  | inr e33b =>
    refine zFf_selR ?_
    exact zFf_some h_e33
theorem fr_X6_judge_95_L18 (W : Nat → Prop) (M0 : ZMem) (M : ZMem) (x3 : Int32) (x4 : Int32) (x5 : Int32) (x6 : Int32) (v1 : Int32) (v2 : Int32) (hW : ∀ a, a ∈ ([30] : List Nat) → W a) (hM : zFr W M0 M) : zFf (zlp (fun r => zFr W M0 r.1) (fun r => zFr W M0 r.1)) (f_X6_judge_95_L18 M x3 x4 x5 x6 v1 v2) := by
  unfold f_X6_judge_95_L18
  refine zFf_bnd (fun M_96 e_M_96 => ?_)
  have h_M_96 : zFr W M0 M_96 := by rw [e_M_96]; exact (zFr_I hM (hW _ (by decide)))
  refine zFf_bindP (fun e102 => ?_)
  refine zFf_bnd (fun x5_166 _ => ?_)
  exact zFf_some h_M_96
theorem fr_X6_judge_76_L18 (W : Nat → Prop) (M0 : ZMem) (M : ZMem) (x3 : Int32) (x4 : Int32) (x5 : Int32) (x6 : Int32) (x7 : Int32) (v1 : Int32) (v2 : Int32) (hW : ∀ a, a ∈ ([30] : List Nat) → W a) (hM : zFr W M0 M) : zFf (zlp (fun r => zFr W M0 r.1) (fun r => zFr W M0 r.1)) (f_X6_judge_76_L18 M x3 x4 x5 x6 x7 v1 v2) := by
  unfold f_X6_judge_76_L18
  refine zFf_bnd (fun M_77 e_M_77 => ?_)
  have h_M_77 : zFr W M0 M_77 := by rw [e_M_77]; exact (zFr_I hM (hW _ (by decide)))
  refine zFf_ite ?_ ?_
  · exact fr_X6_judge_95_L18 W M0 M_77 x3 x4 x5 x6 (M_77.1 30 6) (zI 0) (fun a h => hW a (zsub (by decide) h)) h_M_77
  · exact fr_X6_judge_95_L18 W M0 M_77 x3 x4 x5 x6 (M_77.1 30 6) (zI 1) (fun a h => hW a (zsub (by decide) h)) h_M_77
theorem fr_X6_judge_59_L18 (W : Nat → Prop) (M0 : ZMem) (M : ZMem) (x3 : Int32) (x4 : Int32) (x5 : Int32) (x6 : Int32) (v0 : Int32) (hW : ∀ a, a ∈ ([30] : List Nat) → W a) (hM : zFr W M0 M) : zFf (zlp (fun r => zFr W M0 r.1) (fun r => zFr W M0 r.1)) (f_X6_judge_59_L18 M x3 x4 x5 x6 v0) := by
  unfold f_X6_judge_59_L18
  refine zFf_ite ?_ ?_
  · exact fr_X6_judge_76_L18 W M0 M x3 x4 x5 x6 v0 (M.1 30 5) (zI 0) (fun a h => hW a (zsub (by decide) h)) hM
  · exact fr_X6_judge_76_L18 W M0 M x3 x4 x5 x6 v0 (M.1 30 5) (zI 1) (fun a h => hW a (zsub (by decide) h)) hM
theorem fr_X6_judge_L18 (W : Nat → Prop) (M0 : ZMem) (s : (ZMem × Int32 × Int32 × Int32)) (hW : ∀ a, a ∈ ([30] : List Nat) → W a) (hs : zFr W M0 s.1) : zFf (zlp (fun r => zFr W M0 r.1) (fun r => zFr W M0 r.1)) (f_X6_judge_L18 s) := by
  unfold f_X6_judge_L18
  refine zFf_bindP (fun r_21 => ?_)
  refine zFf_ite ?_ ?_
  · exact zFf_some hs
  · refine zFf_bindP (fun r_30 => ?_)
    refine zFf_ite ?_ ?_
    · refine zFf_bindP (fun r_53 => ?_)
      refine zFf_bindP (fun r_56 => ?_)
      exact fr_X6_judge_59_L18 W M0 s.1 s.2.1 s.2.2.1 s.2.2.2 r_30 r_56 (fun a h => hW a (zsub (by decide) h)) hs
    · exact fr_X6_judge_59_L18 W M0 s.1 s.2.1 s.2.2.1 s.2.2.2 r_30 (zI 0) (fun a h => hW a (zsub (by decide) h)) hs
theorem fr_X6_judge (W : Nat → Prop) (M0 : ZMem) (M : ZMem) (hW : ∀ a, a ∈ ([30] : List Nat) → W a) (hM : zFr W M0 M) : zFf (fun r => zFr W M0 r) (f_X6_judge M) := by
  unfold f_X6_judge
  refine zFf_bnd (fun M_2 e_M_2 => ?_)
  have h_M_2 : zFr W M0 M_2 := by rw [e_M_2]; exact (zFr_I hM (hW _ (by decide)))
  refine zFf_bnd (fun M_7 e_M_7 => ?_)
  have h_M_7 : zFr W M0 M_7 := by rw [e_M_7]; exact (zFr_I h_M_2 (hW _ (by decide)))
  refine zFf_bind (zFf_loop (QS := (fun r => zFr W M0 r.1)) (QE := (fun r => zFr W M0 r.1)) (fun z hz => fr_X6_judge_L18 W M0 z (fun a h => hW a (zsub (by decide) h)) hz) h_M_7) (fun e18 h_e18 => ?_)
  refine zFf_bindP (fun r_174 => ?_)
  refine zFf_bnd (fun M_177 e_M_177 => ?_)
  have h_M_177 : zFr W M0 M_177 := by rw [e_M_177]; exact (zFr_I h_e18 (hW _ (by decide)))
  refine zFf_bindP (fun r_183 => ?_)
  refine zFf_bnd (fun M_186 e_M_186 => ?_)
  have h_M_186 : zFr W M0 M_186 := by rw [e_M_186]; exact (zFr_I h_M_177 (hW _ (by decide)))
  exact zFf_some h_M_186
theorem fr_X6_readRow_57_L31 (W : Nat → Prop) (M0 : ZMem) (M : ZMem) (x3 : Int32) (x4 : Int32) (x5 : Int32) (x6 : Int32) (v1 : Int32) (v2 : Int32) (hW : ∀ a, a ∈ ([31] : List Nat) → W a) (hM : zFr W M0 M) : zFf (zlp (fun r => zFr W M0 r.1) (fun r => zFr W M0 r)) (f_X6_readRow_57_L31 M x3 x4 x5 x6 v1 v2) := by
  unfold f_X6_readRow_57_L31
  refine zFf_bindP (fun r_57 => ?_)
  refine zFf_bindP (fun r_76 => ?_)
  refine zFf_chk ?_
  refine zFf_bnd (fun M_79 e_M_79 => ?_)
  have h_M_79 : zFr W M0 M_79 := by rw [e_M_79]; exact (zFr_I hM (hW _ (by decide)))
  refine zFf_bnd (fun x6_80 _ => ?_)
  exact zFf_some h_M_79
theorem fr_X6_readRow_L31 (W : Nat → Prop) (M0 : ZMem) (x3 : Int32) (x4 : Int32) (x5 : Int32) (s : (ZMem × Int32)) (hW : ∀ a, a ∈ ([31] : List Nat) → W a) (hs : zFr W M0 s.1) : zFf (zlp (fun r => zFr W M0 r.1) (fun r => zFr W M0 r)) (f_X6_readRow_L31 x3 x4 x5 s) := by
  unfold f_X6_readRow_L31
  refine zFf_ite ?_ ?_
  · exact zFf_some hs
  · refine zFf_ite ?_ ?_
    · exact fr_X6_readRow_57_L31 W M0 s.1 x3 x4 x5 s.2 x3 s.2 (fun a h => hW a (zsub (by decide) h)) hs
    · exact fr_X6_readRow_57_L31 W M0 s.1 x3 x4 x5 s.2 x3 ((x5 - (zI 1)) - s.2) (fun a h => hW a (zsub (by decide) h)) hs
theorem fr_X6_readRow (W : Nat → Prop) (M0 : ZMem) (M : ZMem) (x3 : Int32) (x4 : Int32) (hW : ∀ a, a ∈ ([31, 32] : List Nat) → W a) (hM : zFr W M0 M) : zFf (fun r => zFr W M0 r) (f_X6_readRow M x3 x4) := by
  unfold f_X6_readRow
  refine zFf_bindP (fun r_1 => ?_)
  refine zFf_ite ?_ ?_
  · exact zFf_some hM
  · refine zFf_bindP (fun r_12 => ?_)
    refine zFf_bnd (fun x5_18 _ => ?_)
    refine zFf_chk ?_
    refine zFf_bnd (fun M_27 e_M_27 => ?_)
    have h_M_27 : zFr W M0 M_27 := by rw [e_M_27]; exact (zFr_I hM (hW _ (by decide)))
    refine zFf_bind (zFf_loop (QS := (fun r => zFr W M0 r.1)) (QE := (fun r => zFr W M0 r)) (fun z hz => fr_X6_readRow_L31 W M0 x3 x4 x5_18 z (fun a h => hW a (zsub (by decide) h)) hz) h_M_27) (fun e31 h_e31 => ?_)
    exact zFf_some h_e31
theorem fr_X6_settle_L29 (W : Nat → Prop) (M0 : ZMem) (x3 : Int32) (x4 : Int32) (s : (ZMem × Int32)) (hW : ∀ a, a ∈ ([31, 32] : List Nat) → W a) (hs : zFr W M0 s.1) : zFf (zlp (fun r => zFr W M0 r.1) (fun r => zFr W M0 r)) (f_X6_settle_L29 x3 x4 s) := by
  unfold f_X6_settle_L29
  refine zFf_bindP (fun r_34 => ?_)
  refine zFf_ite ?_ ?_
  · exact zFf_some hs
  · refine zFf_bindP (fun r_48 => ?_)
    refine zFf_bindP (fun r_55 => ?_)
    refine zFf_bind (fr_X6_readRow W M0 s.1 r_48 r_55 (fun a h => hW a (zsub (by decide) h)) hs) (fun M_58 h_M_58 => ?_)
    refine zFf_bnd (fun x5_61 _ => ?_)
    exact zFf_some h_M_58
theorem fr_X6_settle_L17 (W : Nat → Prop) (M0 : ZMem) (x3 : Int32) (s : (ZMem × Int32)) (hW : ∀ a, a ∈ ([31, 32] : List Nat) → W a) (hs : zFr W M0 s.1) : zFf (zlp (fun r => zFr W M0 r.1) (fun r => zFr W M0 r)) (f_X6_settle_L17 x3 s) := by
  unfold f_X6_settle_L17
  refine zFf_bindP (fun r_20 => ?_)
  refine zFf_ite ?_ ?_
  · exact zFf_some hs
  · refine zFf_bind (zFf_loop (QS := (fun r => zFr W M0 r.1)) (QE := (fun r => zFr W M0 r)) (fun z hz => fr_X6_settle_L29 W M0 x3 s.2 z (fun a h => hW a (zsub (by decide) h)) hz) hs) (fun e29 h_e29 => ?_)
    refine zFf_bnd (fun x4_67 _ => ?_)
    exact zFf_some h_e29
theorem fr_X6_settle (W : Nat → Prop) (M0 : ZMem) (M : ZMem) (x3 : Int32) (hW : ∀ a, a ∈ ([30, 31, 32] : List Nat) → W a) (hM : zFr W M0 M) : zFf (fun r => zFr W M0 r) (f_X6_settle M x3) := by
  unfold f_X6_settle
  refine zFf_bind (fr_J7_fill_53178 W M0 32 24 M (zI 0) (fun a h => hW a (zsub (by decide) h)) hM) (fun M_5 h_M_5 => ?_)
  refine zFf_bind (fr_X6_judge W M0 M_5 (fun a h => hW a (zsub (by decide) h)) h_M_5) (fun M_11 h_M_11 => ?_)
  refine zFf_bind (zFf_loop (QS := (fun r => zFr W M0 r.1)) (QE := (fun r => zFr W M0 r)) (fun z hz => fr_X6_settle_L17 W M0 x3 z (fun a h => hW a (zsub (by decide) h)) hz) h_M_11) (fun e17 h_e17 => ?_)
  exact zFf_some h_e17
theorem fr_X6_timesOf (W : Nat → Prop) (M0 : ZMem) (M : ZMem) (x1 : Int32) (hW : ∀ a, a ∈ ([30, 33] : List Nat) → W a) (hM : zFr W M0 M) : zFf (fun r => zFr W M0 r.1) (f_X6_timesOf M x1) := by
  unfold f_X6_timesOf
  refine zFf_bind (fr_X6_startPiece W M0 M x1 (fun a h => hW a (zsub (by decide) h)) hM) (fun M_2 h_M_2 => ?_)
  exact zFf_some h_M_2
theorem fr_X6_timesAhead (W : Nat → Prop) (M0 : ZMem) (M : ZMem) (x1 : Int32) (x2 : Int32) (hW : ∀ a, a ∈ ([30, 33] : List Nat) → W a) (hM : zFr W M0 M) : zFf (fun r => zFr W M0 r.1) (f_X6_timesAhead M x1 x2) := by
  unfold f_X6_timesAhead
  refine zFf_bind (fr_X6_startPiece W M0 M x1 (fun a h => hW a (zsub (by decide) h)) hM) (fun M_2 h_M_2 => ?_)
  refine zFf_bind (fr_X6_growPiece W M0 M_2 x2 (fun a h => hW a (zsub (by decide) h)) h_M_2) (fun M_7 h_M_7 => ?_)
  exact zFf_some h_M_7
theorem fr_X2_enter_69 (W : Nat → Prop) (M0 : ZMem) (M : ZMem) (x1 : Int64) (x3 : Int32) (hW : ∀ a, a ∈ ([34, 35, 36] : List Nat) → W a) (hM : zFr W M0 M) : zFf (fun r => zFr W M0 r) (f_X2_enter_69 M x1 x3) := by
  unfold f_X2_enter_69
  refine zFf_ite ?_ ?_
  · exact zFf_some hM
  · refine zFf_chk ?_
    refine zFf_bnd (fun M_96 e_M_96 => ?_)
    have h_M_96 : zFr W M0 M_96 := by rw [e_M_96]; exact (zFr_G hM (hW _ (by decide)))
    refine zFf_chk ?_
    refine zFf_bnd (fun M_117 e_M_117 => ?_)
    have h_M_117 : zFr W M0 M_117 := by rw [e_M_117]; exact (zFr_F h_M_96 (hW _ (by decide)))
    refine zFf_chk ?_
    refine zFf_bnd (fun M_126 e_M_126 => ?_)
    have h_M_126 : zFr W M0 M_126 := by rw [e_M_126]; exact (zFr_L h_M_117 (hW _ (by decide)))
    refine zFf_chk ?_
    refine zFf_bnd (fun M_133 e_M_133 => ?_)
    have h_M_133 : zFr W M0 M_133 := by rw [e_M_133]; exact (zFr_I h_M_126 (hW _ (by decide)))
    refine zFf_bnd (fun M_141 e_M_141 => ?_)
    have h_M_141 : zFr W M0 M_141 := by rw [e_M_141]; exact (zFr_I h_M_133 (hW _ (by decide)))
    exact zFf_some h_M_141
theorem fr_X2_enter (W : Nat → Prop) (M0 : ZMem) (M : ZMem) (x1 : Int64) (hW : ∀ a, a ∈ ([34, 35, 36] : List Nat) → W a) (hM : zFr W M0 M) : zFf (fun r => zFr W M0 r) (f_X2_enter M x1) := by
  unfold f_X2_enter
  refine zFf_bnd (fun M_7 e_M_7 => ?_)
  have h_M_7 : zFr W M0 M_7 := by rw [e_M_7]; exact (zFr_I hM (hW _ (by decide)))
  refine zFf_bindP (fun e12 => ?_)
  refine zFf_ite ?_ ?_
  · exact fr_X2_enter_69 W M0 M_7 x1 e12 (fun a h => hW a (zsub (by decide) h)) h_M_7
  · refine zFf_chk ?_
    refine zFf_ite ?_ ?_
    · refine zFf_chk ?_
      refine zFf_chk ?_
      refine zFf_bnd (fun M_65 e_M_65 => ?_)
      have h_M_65 : zFr W M0 M_65 := by rw [e_M_65]; exact (zFr_I h_M_7 (hW _ (by decide)))
      exact zFf_some h_M_65
    · exact fr_X2_enter_69 W M0 M_7 x1 e12 (fun a h => hW a (zsub (by decide) h)) h_M_7
theorem fr_X2_cutRow_L3 (W : Nat → Prop) (M0 : ZMem) (x2 : Int32) (x3 : Int32) (s : (ZMem × Int32)) (hW : ∀ a, a ∈ ([30, 33, 34, 35, 36] : List Nat) → W a) (hs : zFr W M0 s.1) : zFf (zlp (fun r => zFr W M0 r.1) (fun r => zFr W M0 r)) (f_X2_cutRow_L3 x2 x3 s) := by
  unfold f_X2_cutRow_L3
  refine zFf_bindP (fun r_7 => ?_)
  refine zFf_ite ?_ ?_
  · exact zFf_some hs
  · refine zFf_bind (fr_X6_wordLength W M0 s.1 x2 s.2 x3 (fun a h => hW a (zsub (by decide) h)) hs) (fun r_19 h_r_19 => ?_)
    refine zFf_bnd (fun x5_25 _ => ?_)
    refine zFf_bindP (fun e33 => ?_)
    refine zFf_bind (fr_X2_enter W M0 r_19.1 e33 (fun a h => hW a (zsub (by decide) h)) h_r_19) (fun M_80 h_M_80 => ?_)
    refine zFf_bnd (fun x4_88 _ => ?_)
    exact zFf_some h_M_80
theorem fr_X2_cutRow (W : Nat → Prop) (M0 : ZMem) (M : ZMem) (x2 : Int32) (x3 : Int32) (hW : ∀ a, a ∈ ([30, 33, 34, 35, 36] : List Nat) → W a) (hM : zFr W M0 M) : zFf (fun r => zFr W M0 r) (f_X2_cutRow M x2 x3) := by
  unfold f_X2_cutRow
  refine zFf_bind (zFf_loop (QS := (fun r => zFr W M0 r.1)) (QE := (fun r => zFr W M0 r)) (fun z hz => fr_X2_cutRow_L3 W M0 x2 x3 z (fun a h => hW a (zsub (by decide) h)) hz) hM) (fun e3 h_e3 => ?_)
  exact zFf_some h_e3
theorem fr_X2_rankWords_L12 (W : Nat → Prop) (M0 : ZMem) (x1 : Int32) (s : (ZMem × Int32)) (hW : ∀ a, a ∈ ([38] : List Nat) → W a) (hs : zFr W M0 s.1) : zFf (zlp (fun r => zFr W M0 r.1) (fun r => zFr W M0 r.1)) (f_X2_rankWords_L12 x1 s) := by
  unfold f_X2_rankWords_L12
  refine zFf_ite ?_ ?_
  · exact zFf_some hs
  · refine zFf_chk ?_
    refine zFf_bindP (fun r_25 => ?_)
    refine zFf_chk ?_
    refine zFf_ite ?_ ?_
    · exact zFf_some hs
    · refine zFf_chk ?_
      refine zFf_chk ?_
      refine zFf_bnd (fun M_50 e_M_50 => ?_)
      have h_M_50 : zFr W M0 M_50 := by rw [e_M_50]; exact (zFr_I hs (hW _ (by decide)))
      refine zFf_bnd (fun x2_51 _ => ?_)
      exact zFf_some h_M_50
theorem fr_X2_rankWords_L2 (W : Nat → Prop) (M0 : ZMem) (s : (ZMem × Int32)) (hW : ∀ a, a ∈ ([38] : List Nat) → W a) (hs : zFr W M0 s.1) : zFf (zlp (fun r => zFr W M0 r.1) (fun r => zFr W M0 r)) (f_X2_rankWords_L2 s) := by
  unfold f_X2_rankWords_L2
  refine zFf_ite ?_ ?_
  · exact zFf_some hs
  · refine zFf_bind (zFf_loop (QS := (fun r => zFr W M0 r.1)) (QE := (fun r => zFr W M0 r.1)) (fun z hz => fr_X2_rankWords_L12 W M0 s.2 z (fun a h => hW a (zsub (by decide) h)) hz) hs) (fun e12 h_e12 => ?_)
    refine zFf_chk ?_
    refine zFf_bnd (fun M_63 e_M_63 => ?_)
    have h_M_63 : zFr W M0 M_63 := by rw [e_M_63]; exact (zFr_I h_e12 (hW _ (by decide)))
    refine zFf_bnd (fun x1_64 _ => ?_)
    exact zFf_some h_M_63
theorem fr_X2_rankWords (W : Nat → Prop) (M0 : ZMem) (M : ZMem) (hW : ∀ a, a ∈ ([38] : List Nat) → W a) (hM : zFr W M0 M) : zFf (fun r => zFr W M0 r) (f_X2_rankWords M) := by
  unfold f_X2_rankWords
  refine zFf_bind (zFf_loop (QS := (fun r => zFr W M0 r.1)) (QE := (fun r => zFr W M0 r)) (fun z hz => fr_X2_rankWords_L2 W M0 z (fun a h => hW a (zsub (by decide) h)) hz) hM) (fun e2 h_e2 => ?_)
  exact zFf_some h_e2
theorem fr_X2_settle_L12 (W : Nat → Prop) (M0 : ZMem) (x2 : Int32) (s : (ZMem × Int32)) (hW : ∀ a, a ∈ ([30, 33, 34, 35, 36] : List Nat) → W a) (hs : zFr W M0 s.1) : zFf (zlp (fun r => zFr W M0 r.1) (fun r => zFr W M0 r)) (f_X2_settle_L12 x2 s) := by
  unfold f_X2_settle_L12
  refine zFf_ite ?_ ?_
  · exact zFf_some hs
  · refine zFf_bind (fr_X2_cutRow W M0 s.1 s.2 x2 (fun a h => hW a (zsub (by decide) h)) hs) (fun M_22 h_M_22 => ?_)
    refine zFf_bnd (fun x3_25 _ => ?_)
    exact zFf_some h_M_22
theorem fr_X2_settle_L33 (W : Nat → Prop) (M0 : ZMem) (s : (ZMem × Int32)) (hW : ∀ a, a ∈ ([37] : List Nat) → W a) (hs : zFr W M0 s.1) : zFf (zlp (fun r => zFr W M0 r.1) (fun r => zFr W M0 r)) (f_X2_settle_L33 s) := by
  unfold f_X2_settle_L33
  refine zFf_ite ?_ ?_
  · exact zFf_some hs
  · refine zFf_chk ?_
    refine zFf_bindP (fun r_52 => ?_)
    refine zFf_chk ?_
    refine zFf_bnd (fun M_55 e_M_55 => ?_)
    have h_M_55 : zFr W M0 M_55 := by rw [e_M_55]; exact (zFr_I hs (hW _ (by decide)))
    refine zFf_bnd (fun x3_56 _ => ?_)
    exact zFf_some h_M_55
theorem fr_X2_settle (W : Nat → Prop) (M0 : ZMem) (M : ZMem) (x2 : Int32) (hW : ∀ a, a ∈ ([30, 33, 34, 35, 36, 37, 38] : List Nat) → W a) (hM : zFr W M0 M) : zFf (fun r => zFr W M0 r) (f_X2_settle M x2) := by
  unfold f_X2_settle
  refine zFf_bnd (fun M_2 e_M_2 => ?_)
  have h_M_2 : zFr W M0 M_2 := by rw [e_M_2]; exact (zFr_I hM (hW _ (by decide)))
  refine zFf_bnd (fun M_7 e_M_7 => ?_)
  have h_M_7 : zFr W M0 M_7 := by rw [e_M_7]; exact (zFr_I h_M_2 (hW _ (by decide)))
  refine zFf_bind (zFf_loop (QS := (fun r => zFr W M0 r.1)) (QE := (fun r => zFr W M0 r)) (fun z hz => fr_X2_settle_L12 W M0 x2 z (fun a h => hW a (zsub (by decide) h)) hz) h_M_7) (fun e12 h_e12 => ?_)
  refine zFf_bind (zFf_loop (QS := (fun r => zFr W M0 r.1)) (QE := (fun r => zFr W M0 r)) (fun z hz => fr_X2_settle_L33 W M0 z (fun a h => hW a (zsub (by decide) h)) hz) h_e12) (fun e33 h_e33 => ?_)
  refine zFf_bind (fr_X2_rankWords W M0 e33 (fun a h => hW a (zsub (by decide) h)) h_e33) (fun M_63 h_M_63 => ?_)
  exact zFf_some h_M_63
theorem fr_X5_link (W : Nat → Prop) (M0 : ZMem) (q0 : Nat) (n0 : Nat) (M : ZMem) (x1 : Int32) (x2 : Int32) (hW : ∀ a, a ∈ ([q0] : List Nat) → W a) (hM : zFr W M0 M) : zFf (fun r => zFr W M0 r) (f_X5_link q0 n0 M x1 x2) := by
  unfold f_X5_link
  refine zFf_bindP (fun r_1 => ?_)
  refine zFf_ite ?_ ?_
  · exact zFf_some hM
  · refine zFf_bindP (fun r_8 => ?_)
    refine zFf_ite ?_ ?_
    · exact zFf_some hM
    · refine zFf_ite ?_ ?_
      · exact zFf_some hM
      · refine zFf_chk ?_
        refine zFf_chk ?_
        refine zFf_bnd (fun M_27 e_M_27 => ?_)
        have h_M_27 : zFr W M0 M_27 := by rw [e_M_27]; exact (zFr_I hM (hW _ (by simp)))
        refine zFf_chk ?_
        refine zFf_chk ?_
        refine zFf_bnd (fun M_36 e_M_36 => ?_)
        have h_M_36 : zFr W M0 M_36 := by rw [e_M_36]; exact (zFr_I h_M_27 (hW _ (by simp)))
        exact zFf_some h_M_36
theorem fr_X5_linkByWords (W : Nat → Prop) (M0 : ZMem) (q : Nat) (M : ZMem) (x1 : Int32) (x2 : Int32) (hW : ∀ a, a ∈ ([(q + 1)] : List Nat) → W a) (hM : zFr W M0 M) : zFf (fun r => zFr W M0 r) (f_X5_linkByWords q M x1 x2) := by
  unfold f_X5_linkByWords
  refine zFf_bind (fr_X5_link W M0 (q + 1) 20 M x1 x2 (fun a h => hW a (by first | exact absurd h List.not_mem_nil | (simp only [List.mem_cons, List.not_mem_nil, or_false] at h ⊢; (try rcases h with rfl | rfl | rfl | rfl) <;> simp_all))) hM) (fun M_6 h_M_6 => ?_)
  exact zFf_some h_M_6
theorem fr_X2_addEndings_65 (W : Nat → Prop) (M0 : ZMem) (M : ZMem) (x1 : Int64) (x3 : Int32) (x4 : Int32) (hW : ∀ a, a ∈ ([34, 39, 40] : List Nat) → W a) (hM : zFr W M0 M) : zFf (fun r => zFr W M0 r) (f_X2_addEndings_65 M x1 x3 x4) := by
  unfold f_X2_addEndings_65
  refine zFf_ite ?_ ?_
  · exact zFf_some hM
  · refine zFf_chk ?_
    refine zFf_bnd (fun M_95 e_M_95 => ?_)
    have h_M_95 : zFr W M0 M_95 := by rw [e_M_95]; exact (zFr_G hM (hW _ (by decide)))
    refine zFf_chk ?_
    refine zFf_bnd (fun M_119 e_M_119 => ?_)
    have h_M_119 : zFr W M0 M_119 := by rw [e_M_119]; exact (zFr_F h_M_95 (hW _ (by decide)))
    refine zFf_chk ?_
    refine zFf_bnd (fun M_129 e_M_129 => ?_)
    have h_M_129 : zFr W M0 M_129 := by rw [e_M_129]; exact (zFr_L h_M_119 (hW _ (by decide)))
    refine zFf_chk ?_
    refine zFf_bnd (fun M_137 e_M_137 => ?_)
    have h_M_137 : zFr W M0 M_137 := by rw [e_M_137]; exact (zFr_I h_M_129 (hW _ (by decide)))
    refine zFf_bnd (fun M_145 e_M_145 => ?_)
    have h_M_145 : zFr W M0 M_145 := by rw [e_M_145]; exact (zFr_I h_M_137 (hW _ (by decide)))
    exact zFf_some h_M_145
theorem fr_X2_addEndings (W : Nat → Prop) (M0 : ZMem) (M : ZMem) (x1 : Int64) (x3 : Int32) (hW : ∀ a, a ∈ ([34, 39, 40] : List Nat) → W a) (hM : zFr W M0 M) : zFf (fun r => zFr W M0 r) (f_X2_addEndings M x1 x3) := by
  unfold f_X2_addEndings
  refine zFf_bindP (fun e3 => ?_)
  refine zFf_ite ?_ ?_
  · exact fr_X2_addEndings_65 W M0 M x1 x3 e3 (fun a h => hW a (zsub (by decide) h)) hM
  · refine zFf_chk ?_
    refine zFf_ite ?_ ?_
    · refine zFf_chk ?_
      refine zFf_chk ?_
      refine zFf_bnd (fun M_61 e_M_61 => ?_)
      have h_M_61 : zFr W M0 M_61 := by rw [e_M_61]; exact (zFr_I hM (hW _ (by decide)))
      exact zFf_some h_M_61
    · exact fr_X2_addEndings_65 W M0 M x1 x3 e3 (fun a h => hW a (zsub (by decide) h)) hM
theorem fr_X2_compareTwo_124 (W : Nat → Prop) (M0 : ZMem) (M : ZMem) (x1 : Int32) (x2 : Int32) (x8 : Int64) (x10 : Int64) (hW : ∀ a, a ∈ ([46] : List Nat) → W a) (hM : zFr W M0 M) : zFf (fun r => zFr W M0 r) (f_X2_compareTwo_124 M x1 x2 x8 x10) := by
  unfold f_X2_compareTwo_124
  refine zFf_ite ?_ ?_
  · refine zFf_bindP (fun r_143 => ?_)
    refine zFf_bindP (fun r_149 => ?_)
    refine zFf_bind (fr_X5_linkByWords W M0 45 M r_143 r_149 (fun a h => hW a (zsub (by decide) h)) hM) (fun M_152 h_M_152 => ?_)
    exact zFf_some h_M_152
  · exact zFf_some hM
theorem fr_X2_compareTwo (W : Nat → Prop) (M0 : ZMem) (M : ZMem) (x1 : Int32) (x2 : Int32) (hW : ∀ a, a ∈ ([34, 39, 40, 42, 46] : List Nat) → W a) (hM : zFr W M0 M) : zFf (fun r => zFr W M0 r) (f_X2_compareTwo M x1 x2) := by
  unfold f_X2_compareTwo
  refine zFf_chk ?_
  refine zFf_bnd (fun x5_8 _ => ?_)
  refine zFf_bindP (fun r_15 => ?_)
  refine zFf_bnd (fun x6_19 _ => ?_)
  refine zFf_bindP (fun r_25 => ?_)
  refine zFf_bnd (fun x8_29 _ => ?_)
  refine zFf_chk ?_
  refine zFf_chk ?_
  refine zFf_bnd (fun x10_44 _ => ?_)
  refine zFf_ite ?_ ?_
  · refine zFf_bindP (fun r_65 => ?_)
    refine zFf_bindP (fun r_72 => ?_)
    refine zFf_bind (fr_X5_linkByWords W M0 41 M r_65 r_72 (fun a h => hW a (zsub (by decide) h)) hM) (fun M_75 h_M_75 => ?_)
    refine zFf_ite ?_ ?_
    · exact fr_X2_compareTwo_124 W M0 M_75 x1 x2 x8_29 x10_44 (fun a h => hW a (zsub (by decide) h)) h_M_75
    · refine zFf_bindP (fun r_89 => ?_)
      refine zFf_bindP (fun r_98 => ?_)
      refine zFf_bnd (fun x12_103 _ => ?_)
      refine zFf_chk ?_
      refine zFf_bind (fr_X2_addEndings W M0 M_75 ((M_75.2 35 (zix x1)) &&& (x6_19 ^^^ (-1 : Int64))) x12_103 (fun a h => hW a (zsub (by decide) h)) h_M_75) (fun M_121 h_M_121 => ?_)
      exact fr_X2_compareTwo_124 W M0 M_121 x1 x2 x8_29 x10_44 (fun a h => hW a (zsub (by decide) h)) h_M_121
  · exact fr_X2_compareTwo_124 W M0 M x1 x2 x8_29 x10_44 (fun a h => hW a (zsub (by decide) h)) hM
theorem fr_X2_compareWords_L20 (W : Nat → Prop) (M0 : ZMem) (x3 : Int32) (s : (ZMem × Int32)) (hW : ∀ a, a ∈ ([34, 39, 40, 42, 46] : List Nat) → W a) (hs : zFr W M0 s.1) : zFf (zlp (fun r => zFr W M0 r.1) (fun r => zFr W M0 r)) (f_X2_compareWords_L20 x3 s) := by
  unfold f_X2_compareWords_L20
  refine zFf_ite ?_ ?_
  · exact zFf_some hs
  · refine zFf_chk ?_
    refine zFf_ite ?_ ?_
    · refine zFf_bnd (fun x4_64 _ => ?_)
      exact zFf_some hs
    · refine zFf_chk ?_
      refine zFf_chk ?_
      refine zFf_ite ?_ ?_
      · refine zFf_bind (fr_X2_compareTwo W M0 s.1 x3 s.2 (fun a h => hW a (zsub (by decide) h)) hs) (fun M_61 h_M_61 => ?_)
        refine zFf_bnd (fun x4_64 _ => ?_)
        exact zFf_some h_M_61
      · refine zFf_bnd (fun x4_64 _ => ?_)
        exact zFf_some hs
theorem fr_X2_compareWords_L7 (W : Nat → Prop) (M0 : ZMem) (s : (ZMem × Int32)) (hW : ∀ a, a ∈ ([34, 39, 40, 42, 46] : List Nat) → W a) (hs : zFr W M0 s.1) : zFf (zlp (fun r => zFr W M0 r.1) (fun r => zFr W M0 r)) (f_X2_compareWords_L7 s) := by
  unfold f_X2_compareWords_L7
  refine zFf_ite ?_ ?_
  · exact zFf_some hs
  · refine zFf_bnd (fun x4_18 _ => ?_)
    refine zFf_bind (zFf_loop (QS := (fun r => zFr W M0 r.1)) (QE := (fun r => zFr W M0 r)) (fun z hz => fr_X2_compareWords_L20 W M0 s.2 z (fun a h => hW a (zsub (by decide) h)) hz) hs) (fun e20 h_e20 => ?_)
    refine zFf_bnd (fun x3_70 _ => ?_)
    exact zFf_some h_e20
theorem fr_X2_compareWords (W : Nat → Prop) (M0 : ZMem) (M : ZMem) (hW : ∀ a, a ∈ ([34, 39, 40, 42, 46] : List Nat) → W a) (hM : zFr W M0 M) : zFf (fun r => zFr W M0 r) (f_X2_compareWords M) := by
  unfold f_X2_compareWords
  refine zFf_bnd (fun M_2 e_M_2 => ?_)
  have h_M_2 : zFr W M0 M_2 := by rw [e_M_2]; exact (zFr_I hM (hW _ (by decide)))
  refine zFf_bind (zFf_loop (QS := (fun r => zFr W M0 r.1)) (QE := (fun r => zFr W M0 r)) (fun z hz => fr_X2_compareWords_L7 W M0 z (fun a h => hW a (zsub (by decide) h)) hz) h_M_2) (fun e7 h_e7 => ?_)
  exact zFf_some h_e7
theorem fr_X5_forgetWords (W : Nat → Prop) (M0 : ZMem) (q : Nat) (M : ZMem) (hW : ∀ a, a ∈ ([(q + 1)] : List Nat) → W a) (hM : zFr W M0 M) : zFf (fun r => zFr W M0 r) (f_X5_forgetWords q M) := by
  unfold f_X5_forgetWords
  refine zFf_bind (fr_J7_fill_53178 W M0 (q + 1) 20 M (zI 0) (fun a h => hW a (by first | exact absurd h List.not_mem_nil | (simp only [List.mem_cons, List.not_mem_nil, or_false] at h ⊢; (try rcases h with rfl | rfl | rfl | rfl) <;> simp_all))) hM) (fun M_5 h_M_5 => ?_)
  exact zFf_some h_M_5
theorem fr_X5_settle_L17 (W : Nat → Prop) (M0 : ZMem) (q : Nat) (s : (ZMem × Int32)) (hW : ∀ a, a ∈ ([(q + 2)] : List Nat) → W a) (hs : zFr W M0 s.1) : zFf (zlp (fun r => zFr W M0 r.1) (fun r => zFr W M0 r)) (f_X5_settle_L17 q s) := by
  unfold f_X5_settle_L17
  refine zFf_bindP (fun r_19 => ?_)
  refine zFf_ite ?_ ?_
  · exact zFf_some hs
  · refine zFf_bindP (fun r_31 => ?_)
    refine zFf_ite ?_ ?_
    · refine zFf_bnd (fun x3_62 _ => ?_)
      exact zFf_some hs
    · refine zFf_bindP (fun r_44 => ?_)
      refine zFf_bindP (fun r_47 => ?_)
      refine zFf_bindP (fun r_53 => ?_)
      refine zFf_bindP (fun r_56 => ?_)
      refine zFf_bind (fr_X5_link W M0 (q + 2) 20 s.1 r_47 r_56 (fun a h => hW a (by first | exact absurd h List.not_mem_nil | (simp only [List.mem_cons, List.not_mem_nil, or_false] at h ⊢; (try rcases h with rfl | rfl | rfl | rfl) <;> simp_all))) hs) (fun M_59 h_M_59 => ?_)
      refine zFf_bnd (fun x3_62 _ => ?_)
      exact zFf_some h_M_59
theorem fr_X5_settle_L88 (W : Nat → Prop) (M0 : ZMem) (q : Nat) (x3 : Int32) (s : (ZMem × Int32)) (hW : ∀ a, a ∈ ([(q + 3)] : List Nat) → W a) (hs : zFr W M0 s.1) : zFf (zlp (fun r => zFr W M0 r.1) (fun r => zFr W M0 r)) (f_X5_settle_L88 q x3 s) := by
  unfold f_X5_settle_L88
  refine zFf_ite ?_ ?_
  · exact zFf_some hs
  · refine zFf_chk ?_
    refine zFf_ite ?_ ?_
    · refine zFf_bind (fr_X11_joinLabels W M0 (q + 3) 20 s.1 x3 s.2 (fun a h => hW a (by first | exact absurd h List.not_mem_nil | (simp only [List.mem_cons, List.not_mem_nil, or_false] at h ⊢; (try rcases h with rfl | rfl | rfl | rfl) <;> simp_all))) hs) (fun r_117 h_r_117 => ?_)
      refine zFf_bnd (fun x4_121 _ => ?_)
      exact zFf_some h_r_117
    · refine zFf_bnd (fun x4_121 _ => ?_)
      exact zFf_some hs
theorem fr_X5_settle_L77 (W : Nat → Prop) (M0 : ZMem) (q : Nat) (s : (ZMem × Int32)) (hW : ∀ a, a ∈ ([(q + 3)] : List Nat) → W a) (hs : zFr W M0 s.1) : zFf (zlp (fun r => zFr W M0 r.1) (fun r => zFr W M0 r)) (f_X5_settle_L77 q s) := by
  unfold f_X5_settle_L77
  refine zFf_ite ?_ ?_
  · exact zFf_some hs
  · refine zFf_bnd (fun x4_86 _ => ?_)
    refine zFf_bind (zFf_loop (QS := (fun r => zFr W M0 r.1)) (QE := (fun r => zFr W M0 r)) (fun z hz => fr_X5_settle_L88 W M0 q s.2 z (fun a h => hW a (by first | exact absurd h List.not_mem_nil | (simp only [List.mem_cons, List.not_mem_nil, or_false] at h ⊢; (try rcases h with rfl | rfl | rfl | rfl) <;> simp_all))) hz) hs) (fun e88 h_e88 => ?_)
    refine zFf_bnd (fun x3_127 _ => ?_)
    exact zFf_some h_e88
theorem fr_X5_settle (W : Nat → Prop) (M0 : ZMem) (q : Nat) (M : ZMem) (hW : ∀ a, a ∈ ([(q + 2), (q + 3)] : List Nat) → W a) (hM : zFr W M0 M) : zFf (fun r => zFr W M0 r) (f_X5_settle q M) := by
  unfold f_X5_settle
  refine zFf_chk ?_
  refine zFf_bnd (fun M_12 e_M_12 => ?_)
  have h_M_12 : zFr W M0 M_12 := by rw [e_M_12]; exact (zFr_F hM (hW _ (by simp)))
  refine zFf_bind (zFf_loop (QS := (fun r => zFr W M0 r.1)) (QE := (fun r => zFr W M0 r)) (fun z hz => fr_X5_settle_L17 W M0 q z (fun a h => hW a (by first | exact absurd h List.not_mem_nil | (simp only [List.mem_cons, List.not_mem_nil, or_false] at h ⊢; (try rcases h with rfl | rfl | rfl | rfl) <;> simp_all))) hz) h_M_12) (fun e17 h_e17 => ?_)
  refine zFf_bind (fr_X11_startLabels W M0 (q + 3) 20 e17 (fun a h => hW a (by first | exact absurd h List.not_mem_nil | (simp only [List.mem_cons, List.not_mem_nil, or_false] at h ⊢; (try rcases h with rfl | rfl | rfl | rfl) <;> simp_all))) h_e17) (fun M_72 h_M_72 => ?_)
  refine zFf_bind (zFf_loop (QS := (fun r => zFr W M0 r.1)) (QE := (fun r => zFr W M0 r)) (fun z hz => fr_X5_settle_L77 W M0 q z (fun a h => hW a (by first | exact absurd h List.not_mem_nil | (simp only [List.mem_cons, List.not_mem_nil, or_false] at h ⊢; (try rcases h with rfl | rfl | rfl | rfl) <;> simp_all))) hz) h_M_72) (fun e77 h_e77 => ?_)
  exact zFf_some h_e77
theorem fr_X3_takeKnown_L2 (W : Nat → Prop) (M0 : ZMem) (s : (ZMem × Int32)) (hW : ∀ a, a ∈ ([56, 57] : List Nat) → W a) (hs : zFr W M0 s.1) : zFf (zlp (fun r => zFr W M0 r.1) (fun r => zFr W M0 r)) (f_X3_takeKnown_L2 s) := by
  unfold f_X3_takeKnown_L2
  refine zFf_ite ?_ ?_
  · exact zFf_some hs
  · refine zFf_bindP (fun r_18 => ?_)
    refine zFf_chk ?_
    refine zFf_bnd (fun M_21 e_M_21 => ?_)
    have h_M_21 : zFr W M0 M_21 := by rw [e_M_21]; exact (zFr_I hs (hW _ (by decide)))
    refine zFf_bindP (fun r_32 => ?_)
    refine zFf_chk ?_
    refine zFf_bnd (fun M_35 e_M_35 => ?_)
    have h_M_35 : zFr W M0 M_35 := by rw [e_M_35]; exact (zFr_I h_M_21 (hW _ (by decide)))
    refine zFf_bnd (fun x1_36 _ => ?_)
    exact zFf_some h_M_35
theorem fr_X3_takeKnown (W : Nat → Prop) (M0 : ZMem) (M : ZMem) (hW : ∀ a, a ∈ ([56, 57] : List Nat) → W a) (hM : zFr W M0 M) : zFf (fun r => zFr W M0 r) (f_X3_takeKnown M) := by
  unfold f_X3_takeKnown
  refine zFf_bind (zFf_loop (QS := (fun r => zFr W M0 r.1)) (QE := (fun r => zFr W M0 r)) (fun z hz => fr_X3_takeKnown_L2 W M0 z (fun a h => hW a (zsub (by decide) h)) hz) hM) (fun e2 h_e2 => ?_)
  exact zFf_some h_e2
theorem fr_X3_settle_L7 (W : Nat → Prop) (M0 : ZMem) (s : (ZMem × Int32)) (hW : ∀ a, a ∈ ([54, 58] : List Nat) → W a) (hs : zFr W M0 s.1) : zFf (zlp (fun r => zFr W M0 r.1) (fun r => zFr W M0 r)) (f_X3_settle_L7 s) := by
  unfold f_X3_settle_L7
  refine zFf_ite ?_ ?_
  · exact zFf_some hs
  · refine zFf_bindP (fun r_18 => ?_)
    refine zFf_ite ?_ ?_
    · refine zFf_bnd (fun x1_44 _ => ?_)
      exact zFf_some hs
    · refine zFf_chk ?_
      refine zFf_bnd (fun M_33 e_M_33 => ?_)
      have h_M_33 : zFr W M0 M_33 := by rw [e_M_33]; exact (zFr_I hs (hW _ (by decide)))
      refine zFf_bnd (fun M_41 e_M_41 => ?_)
      have h_M_41 : zFr W M0 M_41 := by rw [e_M_41]; exact (zFr_I h_M_33 (hW _ (by decide)))
      refine zFf_bnd (fun x1_44 _ => ?_)
      exact zFf_some h_M_41
theorem fr_X3_settle_122_L69 (W : Nat → Prop) (M0 : ZMem) (M : ZMem) (x1 : Int32) (x2 : Int32) (v1 : Int32) (v2 : Int32) (hW : ∀ a, a ∈ ([55] : List Nat) → W a) (hM : zFr W M0 M) : zFf (zlp (fun r => zFr W M0 r.1) (fun r => zFr W M0 r)) (f_X3_settle_122_L69 M x1 x2 v1 v2) := by
  unfold f_X3_settle_122_L69
  refine zFf_chk ?_
  refine zFf_bnd (fun M_122 e_M_122 => ?_)
  have h_M_122 : zFr W M0 M_122 := by rw [e_M_122]; exact (zFr_I hM (hW _ (by decide)))
  refine zFf_bnd (fun x2_123 _ => ?_)
  exact zFf_some h_M_122
theorem fr_X3_settle_121_L69 (W : Nat → Prop) (M0 : ZMem) (M : ZMem) (x1 : Int32) (x2 : Int32) (v1 : Int32) (hW : ∀ a, a ∈ ([55] : List Nat) → W a) (hM : zFr W M0 M) : zFf (zlp (fun r => zFr W M0 r.1) (fun r => zFr W M0 r)) (f_X3_settle_121_L69 M x1 x2 v1) := by
  unfold f_X3_settle_121_L69
  exact fr_X3_settle_122_L69 W M0 M x1 x2 v1 (zI 0) (fun a h => hW a (zsub (by decide) h)) hM
theorem fr_X3_settle_L69 (W : Nat → Prop) (M0 : ZMem) (x1 : Int32) (s : (ZMem × Int32)) (hW : ∀ a, a ∈ ([55] : List Nat) → W a) (hs : zFr W M0 s.1) : zFf (zlp (fun r => zFr W M0 r.1) (fun r => zFr W M0 r)) (f_X3_settle_L69 x1 s) := by
  unfold f_X3_settle_L69
  refine zFf_bindP (fun r_74 => ?_)
  refine zFf_ite ?_ ?_
  · exact zFf_some hs
  · refine zFf_bindP (fun r_82 => ?_)
    refine zFf_ite ?_ ?_
    · refine zFf_bnd (fun x2_123 _ => ?_)
      exact zFf_some hs
    · refine zFf_bindP (fun r_102 => ?_)
      refine zFf_ite ?_ ?_
      · exact fr_X3_settle_121_L69 W M0 s.1 x1 s.2 ((x1 * (zI 120)) + s.2) (fun a h => hW a (zsub (by decide) h)) hs
      · refine zFf_bindP (fun r_111 => ?_)
        refine zFf_ite ?_ ?_
        · exact fr_X3_settle_121_L69 W M0 s.1 x1 s.2 ((x1 * (zI 120)) + s.2) (fun a h => hW a (zsub (by decide) h)) hs
        · exact fr_X3_settle_122_L69 W M0 s.1 x1 s.2 ((x1 * (zI 120)) + s.2) (zI 1) (fun a h => hW a (zsub (by decide) h)) hs
theorem fr_X3_settle_L56 (W : Nat → Prop) (M0 : ZMem) (s : (ZMem × Int32)) (hW : ∀ a, a ∈ ([55] : List Nat) → W a) (hs : zFr W M0 s.1) : zFf (zlp (fun r => zFr W M0 r.1) (fun r => zFr W M0 r)) (f_X3_settle_L56 s) := by
  unfold f_X3_settle_L56
  refine zFf_bindP (fun r_61 => ?_)
  refine zFf_ite ?_ ?_
  · exact zFf_some hs
  · refine zFf_bind (zFf_loop (QS := (fun r => zFr W M0 r.1)) (QE := (fun r => zFr W M0 r)) (fun z hz => fr_X3_settle_L69 W M0 s.2 z (fun a h => hW a (zsub (by decide) h)) hz) hs) (fun e69 h_e69 => ?_)
    refine zFf_bnd (fun x1_129 _ => ?_)
    exact zFf_some h_e69
theorem fr_X3_settle (W : Nat → Prop) (M0 : ZMem) (M : ZMem) (hW : ∀ a, a ∈ ([54, 55, 56, 57, 58] : List Nat) → W a) (hM : zFr W M0 M) : zFf (fun r => zFr W M0 r) (f_X3_settle M) := by
  unfold f_X3_settle
  refine zFf_bnd (fun M_2 e_M_2 => ?_)
  have h_M_2 : zFr W M0 M_2 := by rw [e_M_2]; exact (zFr_I hM (hW _ (by decide)))
  refine zFf_bind (zFf_loop (QS := (fun r => zFr W M0 r.1)) (QE := (fun r => zFr W M0 r)) (fun z hz => fr_X3_settle_L7 W M0 z (fun a h => hW a (zsub (by decide) h)) hz) h_M_2) (fun e7 h_e7 => ?_)
  refine zFf_bind (fr_X3_takeKnown W M0 e7 (fun a h => hW a (zsub (by decide) h)) h_e7) (fun M_51 h_M_51 => ?_)
  refine zFf_bind (zFf_loop (QS := (fun r => zFr W M0 r.1)) (QE := (fun r => zFr W M0 r)) (fun z hz => fr_X3_settle_L56 W M0 z (fun a h => hW a (zsub (by decide) h)) hz) h_M_51) (fun e56 h_e56 => ?_)
  refine zFf_bindP (fun r_137 => ?_)
  refine zFf_bnd (fun M_140 e_M_140 => ?_)
  have h_M_140 : zFr W M0 M_140 := by rw [e_M_140]; exact (zFr_I h_e56 (hW _ (by decide)))
  exact zFf_some h_M_140
theorem fr_X3_swap (W : Nat → Prop) (M0 : ZMem) (q0 : Nat) (n0 : Nat) (M : ZMem) (x1 : Int32) (x2 : Int32) (hW : ∀ a, a ∈ ([q0] : List Nat) → W a) (hM : zFr W M0 M) : zFf (fun r => zFr W M0 r) (f_X3_swap q0 n0 M x1 x2) := by
  unfold f_X3_swap
  refine zFf_chk ?_
  refine zFf_bnd (fun x3_3 _ => ?_)
  refine zFf_chk ?_
  refine zFf_chk ?_
  refine zFf_bnd (fun M_9 e_M_9 => ?_)
  have h_M_9 : zFr W M0 M_9 := by rw [e_M_9]; exact (zFr_I hM (hW _ (by simp)))
  refine zFf_chk ?_
  refine zFf_bnd (fun M_13 e_M_13 => ?_)
  have h_M_13 : zFr W M0 M_13 := by rw [e_M_13]; exact (zFr_I h_M_9 (hW _ (by simp)))
  exact zFf_some h_M_13
theorem fr_X3_changeAbout_L9 (W : Nat → Prop) (M0 : ZMem) (s : (ZMem × Int32 × Int32)) (hW : ∀ a, a ∈ ([56, 57] : List Nat) → W a) (hs : zFr W M0 s.1) : zFf (zlp (fun r => zFr W M0 r.1) (fun r => zFr W M0 r.1)) (f_X3_changeAbout_L9 s) := by
  unfold f_X3_changeAbout_L9
  refine zFf_ite ?_ ?_
  · exact zFf_some hs
  · refine zFf_bnd (fun x2_29 _ => ?_)
    refine zFf_chk ?_
    refine zFf_bnd (fun x4_38 _ => ?_)
    refine zFf_ite ?_ ?_
    · refine zFf_bnd (fun x3_91 _ => ?_)
      exact zFf_some hs
    · refine zFf_ite ?_ ?_
      · refine zFf_bnd (fun x3_91 _ => ?_)
        exact zFf_some hs
      · refine zFf_chk ?_
        refine zFf_chk ?_
        refine zFf_bind (fr_X3_swap W M0 56 20 s.1 (s.1.1 58 (zix s.2.2)) (s.1.1 58 (zix x4_38)) (fun a h => hW a (zsub (by decide) h)) hs) (fun M_68 h_M_68 => ?_)
        refine zFf_chk ?_
        refine zFf_chk ?_
        refine zFf_bind (fr_X3_swap W M0 57 20 M_68 (M_68.1 58 (zix s.2.2)) (M_68.1 58 (zix x4_38)) (fun a h => hW a (zsub (by decide) h)) h_M_68) (fun M_88 h_M_88 => ?_)
        refine zFf_bnd (fun x3_91 _ => ?_)
        exact zFf_some h_M_88
theorem fr_X3_changeAbout (W : Nat → Prop) (M0 : ZMem) (M : ZMem) (x1 : Int32) (hW : ∀ a, a ∈ ([56, 57] : List Nat) → W a) (hM : zFr W M0 M) : zFf (fun r => zFr W M0 r.1) (f_X3_changeAbout M x1) := by
  unfold f_X3_changeAbout
  refine zFf_bnd (fun x3_8 _ => ?_)
  refine zFf_bind (zFf_loop (QS := (fun r => zFr W M0 r.1)) (QE := (fun r => zFr W M0 r.1)) (fun z hz => fr_X3_changeAbout_L9 W M0 z (fun a h => hW a (zsub (by decide) h)) hz) hM) (fun e9 h_e9 => ?_)
  exact zFf_some h_e9
theorem fr_X3_asGoodByChance_L8 (W : Nat → Prop) (M0 : ZMem) (x1 : Int32) (s : (ZMem × Int32 × Int32 × Int32)) (hW : ∀ a, a ∈ ([56, 57] : List Nat) → W a) (hs : zFr W M0 s.1) : zFf (zlp (fun r => zFr W M0 r.1) (fun r => zFr W M0 r.1)) (f_X3_asGoodByChance_L8 x1 s) := by
  unfold f_X3_asGoodByChance_L8
  refine zFf_ite ?_ ?_
  · exact zFf_some hs
  · refine zFf_bind (fr_X3_takeKnown W M0 s.1 (fun a h => hW a (zsub (by decide) h)) hs) (fun M_15 h_M_15 => ?_)
    refine zFf_bind (fr_X3_changeAbout W M0 M_15 s.2.2.1 (fun a h => hW a (zsub (by decide) h)) h_M_15) (fun r_21 h_r_21 => ?_)
    refine zFf_bindP (fun r_28 => ?_)
    refine zFf_ite ?_ ?_
    · refine zFf_bnd (fun x3_44 _ => ?_)
      refine zFf_bnd (fun x5_45 _ => ?_)
      exact zFf_some h_r_21
    · refine zFf_bnd (fun x3_44 _ => ?_)
      refine zFf_bnd (fun x5_45 _ => ?_)
      exact zFf_some h_r_21
theorem fr_X3_asGoodByChance (W : Nat → Prop) (M0 : ZMem) (M : ZMem) (x1 : Int32) (x2 : Int32) (hW : ∀ a, a ∈ ([56, 57] : List Nat) → W a) (hM : zFr W M0 M) : zFf (fun r => zFr W M0 r.1) (f_X3_asGoodByChance M x1 x2) := by
  unfold f_X3_asGoodByChance
  refine zFf_bind (zFf_loop (QS := (fun r => zFr W M0 r.1)) (QE := (fun r => zFr W M0 r.1)) (fun z hz => fr_X3_asGoodByChance_L8 W M0 x1 z (fun a h => hW a (zsub (by decide) h)) hz) hM) (fun e8 h_e8 => ?_)
  refine zFf_bind (fr_X3_takeKnown W M0 e8.1 (fun a h => hW a (zsub (by decide) h)) h_e8) (fun M_52 h_M_52 => ?_)
  exact zFf_some h_M_52
theorem fr_X9_claim_23 (W : Nat → Prop) (M0 : ZMem) (q0 : Nat) (n0 : Nat) (M : ZMem) (x1 : Int32) (x2 : Int32) (hW : ∀ a, a ∈ ([] : List Nat) → W a) (hM : zFr W M0 M) : zFf (fun r => zFr W M0 r.1) (f_X9_claim_23 q0 n0 M x1 x2) := by
  unfold f_X9_claim_23
  refine zFf_chk ?_
  refine zFf_ite ?_ ?_
  · exact zFf_some hM
  · exact zFf_some hM
theorem fr_X9_claim (W : Nat → Prop) (M0 : ZMem) (q0 : Nat) (n0 : Nat) (M : ZMem) (x1 : Int32) (x2 : Int32) (hW : ∀ a, a ∈ ([q0] : List Nat) → W a) (hM : zFr W M0 M) : zFf (fun r => zFr W M0 r.1) (f_X9_claim q0 n0 M x1 x2) := by
  unfold f_X9_claim
  refine zFf_ite ?_ ?_
  · exact zFf_some hM
  · refine zFf_ite ?_ ?_
    · refine zFf_chk ?_
      refine zFf_ite ?_ ?_
      · refine zFf_chk ?_
        refine zFf_bnd (fun M_22 e_M_22 => ?_)
        have h_M_22 : zFr W M0 M_22 := by rw [e_M_22]; exact (zFr_I hM (hW _ (by simp)))
        exact fr_X9_claim_23 W M0 q0 n0 M_22 x1 x2 (fun a h => hW a (by first | exact absurd h List.not_mem_nil | (simp only [List.mem_cons, List.not_mem_nil, or_false] at h ⊢; (try rcases h with rfl | rfl | rfl | rfl) <;> simp_all))) h_M_22
      · exact fr_X9_claim_23 W M0 q0 n0 M x1 x2 (fun a h => hW a (by first | exact absurd h List.not_mem_nil | (simp only [List.mem_cons, List.not_mem_nil, or_false] at h ⊢; (try rcases h with rfl | rfl | rfl | rfl) <;> simp_all))) hM
    · exact zFf_some hM
theorem fr_X9_gatherGuesses_L29 (W : Nat → Prop) (M0 : ZMem) (s : (ZMem × Int32)) (hW : ∀ a, a ∈ ([49, 52, 53] : List Nat) → W a) (hs : zFr W M0 s.1) : zFf (zlp (fun r => zFr W M0 r.1) (fun r => zFr W M0 r)) (f_X9_gatherGuesses_L29 s) := by
  unfold f_X9_gatherGuesses_L29
  refine zFf_bindP (fun r_32 => ?_)
  refine zFf_ite ?_ ?_
  · exact zFf_some hs
  · refine zFf_bindP (fun r_41 => ?_)
    refine zFf_ite ?_ ?_
    · refine zFf_bnd (fun x5_113 _ => ?_)
      exact zFf_some hs
    · refine zFf_bindP (fun r_55 => ?_)
      refine zFf_bindP (fun r_72 => ?_)
      refine zFf_bind (fr_X9_claim W M0 52 20 s.1 r_72 (r_41 / (zI 5)) (fun a h => hW a (zsub (by decide) h)) hs) (fun r_79 h_r_79 => ?_)
      refine zFf_bnd (fun M_83 e_M_83 => ?_)
      have h_M_83 : zFr W M0 M_83 := by rw [e_M_83]; exact (zFr_I h_r_79 (hW _ (by decide)))
      refine zFf_bindP (fun r_99 => ?_)
      refine zFf_bind (fr_X9_claim W M0 53 20 M_83 r_99 (r_41 - r_41 / (zI 5) * (zI 5)) (fun a h => hW a (zsub (by decide) h)) h_M_83) (fun r_106 h_r_106 => ?_)
      refine zFf_bnd (fun M_110 e_M_110 => ?_)
      have h_M_110 : zFr W M0 M_110 := by rw [e_M_110]; exact (zFr_I h_r_106 (hW _ (by decide)))
      refine zFf_bnd (fun x5_113 _ => ?_)
      exact zFf_some h_M_110
theorem fr_X9_gatherGuesses (W : Nat → Prop) (M0 : ZMem) (M : ZMem) (hW : ∀ a, a ∈ ([49, 52, 53] : List Nat) → W a) (hM : zFr W M0 M) : zFf (fun r => zFr W M0 r) (f_X9_gatherGuesses M) := by
  unfold f_X9_gatherGuesses
  refine zFf_bind (fr_J7_fill_53178 W M0 52 20 M (zI (-1)) (fun a h => hW a (zsub (by decide) h)) hM) (fun M_5 h_M_5 => ?_)
  refine zFf_bind (fr_J7_fill_53178 W M0 53 20 M_5 (zI (-1)) (fun a h => hW a (zsub (by decide) h)) h_M_5) (fun M_13 h_M_13 => ?_)
  refine zFf_bnd (fun M_18 e_M_18 => ?_)
  have h_M_18 : zFr W M0 M_18 := by rw [e_M_18]; exact (zFr_I h_M_13 (hW _ (by decide)))
  refine zFf_bnd (fun M_23 e_M_23 => ?_)
  have h_M_23 : zFr W M0 M_23 := by rw [e_M_23]; exact (zFr_I h_M_18 (hW _ (by decide)))
  refine zFf_bind (zFf_loop (QS := (fun r => zFr W M0 r.1)) (QE := (fun r => zFr W M0 r)) (fun z hz => fr_X9_gatherGuesses_L29 W M0 z (fun a h => hW a (zsub (by decide) h)) hz) h_M_23) (fun e29 h_e29 => ?_)
  exact zFf_some h_e29
theorem fr_X9_spread_70 (W : Nat → Prop) (M0 : ZMem) (M : ZMem) (x1 : Int32) (hW : ∀ a, a ∈ ([49] : List Nat) → W a) (hM : zFr W M0 M) : zFf (fun r => zFr W M0 r) (f_X9_spread_70 M x1) := by
  unfold f_X9_spread_70
  refine zFf_bnd (fun M_79 e_M_79 => ?_)
  have h_M_79 : zFr W M0 M_79 := by rw [e_M_79]; exact (zFr_I hM (hW _ (by decide)))
  exact zFf_some h_M_79
theorem fr_X9_spread (W : Nat → Prop) (M0 : ZMem) (M : ZMem) (x1 : Int32) (x2 : Int32) (x3 : Int32) (hW : ∀ a, a ∈ ([49, 50, 51] : List Nat) → W a) (hM : zFr W M0 M) : zFf (fun r => zFr W M0 r) (f_X9_spread M x1 x2 x3) := by
  unfold f_X9_spread
  refine zFf_bindP (fun r_1 => ?_)
  refine zFf_ite ?_ ?_
  · exact zFf_some hM
  · refine zFf_bindP (fun r_8 => ?_)
    refine zFf_ite ?_ ?_
    · exact zFf_some hM
    · refine zFf_bindP (fun r_15 => ?_)
      refine zFf_ite ?_ ?_
      · exact zFf_some hM
      · refine zFf_chk ?_
        refine zFf_chk ?_
        refine zFf_bnd (fun M_33 e_M_33 => ?_)
        have h_M_33 : zFr W M0 M_33 := by rw [e_M_33]; exact (zFr_I hM (hW _ (by decide)))
        refine zFf_chk ?_
        refine zFf_chk ?_
        refine zFf_bnd (fun M_45 e_M_45 => ?_)
        have h_M_45 : zFr W M0 M_45 := by rw [e_M_45]; exact (zFr_I h_M_33 (hW _ (by decide)))
        refine zFf_ite ?_ ?_
        · exact fr_X9_spread_70 W M0 M_45 x1 (fun a h => hW a (zsub (by decide) h)) h_M_45
        · refine zFf_ite ?_ ?_
          · exact fr_X9_spread_70 W M0 M_45 x1 (fun a h => hW a (zsub (by decide) h)) h_M_45
          · exact zFf_some h_M_45
theorem fr_X9_settle_L33 (W : Nat → Prop) (M0 : ZMem) (s : (ZMem × Int32)) (hW : ∀ a, a ∈ ([49, 50, 51] : List Nat) → W a) (hs : zFr W M0 s.1) : zFf (zlp (fun r => zFr W M0 r.1) (fun r => zFr W M0 r)) (f_X9_settle_L33 s) := by
  unfold f_X9_settle_L33
  refine zFf_ite ?_ ?_
  · exact zFf_some hs
  · refine zFf_bindP (fun r_43 => ?_)
    refine zFf_ite ?_ ?_
    · refine zFf_bnd (fun x5_68 _ => ?_)
      exact zFf_some hs
    · refine zFf_bindP (fun r_55 => ?_)
      refine zFf_bindP (fun r_62 => ?_)
      refine zFf_bind (fr_X9_spread W M0 s.1 s.2 r_55 r_62 (fun a h => hW a (zsub (by decide) h)) hs) (fun M_65 h_M_65 => ?_)
      refine zFf_bnd (fun x5_68 _ => ?_)
      exact zFf_some h_M_65
theorem fr_X9_settle_L90 (W : Nat → Prop) (M0 : ZMem) (x5 : Int32) (s : (ZMem × Int32)) (hW : ∀ a, a ∈ ([49] : List Nat) → W a) (hs : zFr W M0 s.1) : zFf (zlp (fun r => zFr W M0 r.1) (fun r => zFr W M0 r)) (f_X9_settle_L90 x5 s) := by
  unfold f_X9_settle_L90
  refine zFf_ite ?_ ?_
  · exact zFf_some hs
  · refine zFf_bindP (fun r_100 => ?_)
    refine zFf_ite ?_ ?_
    · refine zFf_bnd (fun x6_158 _ => ?_)
      exact zFf_some hs
    · refine zFf_chk ?_
      refine zFf_chk ?_
      refine zFf_ite ?_ ?_
      · refine zFf_chk ?_
        refine zFf_chk ?_
        refine zFf_ite ?_ ?_
        · refine zFf_bnd (fun M_155 e_M_155 => ?_)
          have h_M_155 : zFr W M0 M_155 := by rw [e_M_155]; exact (zFr_I hs (hW _ (by decide)))
          refine zFf_bnd (fun x6_158 _ => ?_)
          exact zFf_some h_M_155
        · refine zFf_bnd (fun x6_158 _ => ?_)
          exact zFf_some hs
      · refine zFf_bnd (fun x6_158 _ => ?_)
        exact zFf_some hs
theorem fr_X9_settle_L77 (W : Nat → Prop) (M0 : ZMem) (s : (ZMem × Int32)) (hW : ∀ a, a ∈ ([49] : List Nat) → W a) (hs : zFr W M0 s.1) : zFf (zlp (fun r => zFr W M0 r.1) (fun r => zFr W M0 r)) (f_X9_settle_L77 s) := by
  unfold f_X9_settle_L77
  refine zFf_ite ?_ ?_
  · exact zFf_some hs
  · refine zFf_bnd (fun x6_88 _ => ?_)
    refine zFf_bind (zFf_loop (QS := (fun r => zFr W M0 r.1)) (QE := (fun r => zFr W M0 r)) (fun z hz => fr_X9_settle_L90 W M0 s.2 z (fun a h => hW a (zsub (by decide) h)) hz) hs) (fun e90 h_e90 => ?_)
    refine zFf_bnd (fun x5_164 _ => ?_)
    exact zFf_some h_e90
theorem fr_X9_settle (W : Nat → Prop) (M0 : ZMem) (M : ZMem) (hW : ∀ a, a ∈ ([49, 50, 51, 52, 53] : List Nat) → W a) (hM : zFr W M0 M) : zFf (fun r => zFr W M0 r) (f_X9_settle M) := by
  unfold f_X9_settle
  refine zFf_bind (fr_X9_gatherGuesses W M0 M (fun a h => hW a (zsub (by decide) h)) hM) (fun M_6 h_M_6 => ?_)
  refine zFf_bind (fr_J7_fill_53178 W M0 50 20 M_6 (zI (-1)) (fun a h => hW a (zsub (by decide) h)) h_M_6) (fun M_14 h_M_14 => ?_)
  refine zFf_bind (fr_J7_fill_53178 W M0 51 20 M_14 (zI (-1)) (fun a h => hW a (zsub (by decide) h)) h_M_14) (fun M_22 h_M_22 => ?_)
  refine zFf_bnd (fun M_27 e_M_27 => ?_)
  have h_M_27 : zFr W M0 M_27 := by rw [e_M_27]; exact (zFr_I h_M_22 (hW _ (by decide)))
  refine zFf_bind (zFf_loop (QS := (fun r => zFr W M0 r.1)) (QE := (fun r => zFr W M0 r)) (fun z hz => fr_X9_settle_L33 W M0 z (fun a h => hW a (zsub (by decide) h)) hz) h_M_27) (fun e33 h_e33 => ?_)
  refine zFf_bind (zFf_loop (QS := (fun r => zFr W M0 r.1)) (QE := (fun r => zFr W M0 r)) (fun z hz => fr_X9_settle_L77 W M0 z (fun a h => hW a (zsub (by decide) h)) hz) h_e33) (fun e77 h_e77 => ?_)
  exact zFf_some h_e77
theorem fr_X10_putBit (W : Nat → Prop) (M0 : ZMem) (q0 : Nat) (n0 : Nat) (M : ZMem) (x1 : Int32) (x2 : Int32) (hW : ∀ a, a ∈ ([q0] : List Nat) → W a) (hM : zFr W M0 M) : zFf (fun r => zFr W M0 r) (f_X10_putBit q0 n0 M x1 x2) := by
  unfold f_X10_putBit
  refine zFf_ite ?_ ?_
  · exact zFf_some hM
  · refine zFf_ite ?_ ?_
    · exact zFf_some hM
    · refine zFf_ite ?_ ?_
      · exact zFf_some hM
      · refine zFf_ite ?_ ?_
        · exact zFf_some hM
        · refine zFf_chk ?_
          refine zFf_chk ?_
          refine zFf_bnd (fun M_41 e_M_41 => ?_)
          have h_M_41 : zFr W M0 M_41 := by rw [e_M_41]; exact (zFr_L hM (hW _ (by simp)))
          exact zFf_some h_M_41
theorem fr_X10_pairWords_L32 (W : Nat → Prop) (M0 : ZMem) (x1 : Int32) (x2 : Int32) (x3 : Int32) (s : (ZMem × Int32)) (hW : ∀ a, a ∈ ([60] : List Nat) → W a) (hs : zFr W M0 s.1) : zFf (zlp (fun r => zFr W M0 r.1) (fun r => zFr W M0 r)) (f_X10_pairWords_L32 x1 x2 x3 s) := by
  unfold f_X10_pairWords_L32
  refine zFf_bindP (fun r_38 => ?_)
  refine zFf_ite ?_ ?_
  · exact zFf_some hs
  · refine zFf_ite ?_ ?_
    · refine zFf_bnd (fun x4_94 _ => ?_)
      exact zFf_some hs
    · refine zFf_bindP (fun r_56 => ?_)
      refine zFf_bindP (fun r_61 => ?_)
      refine zFf_ite ?_ ?_
      · refine zFf_bnd (fun x4_94 _ => ?_)
        exact zFf_some hs
      · refine zFf_bindP (fun r_73 => ?_)
        refine zFf_ite ?_ ?_
        · refine zFf_bnd (fun x4_94 _ => ?_)
          exact zFf_some hs
        · refine zFf_bindP (fun r_86 => ?_)
          refine zFf_bind (fr_X10_putBit W M0 60 2160 s.1 r_86 s.2 (fun a h => hW a (zsub (by decide) h)) hs) (fun M_91 h_M_91 => ?_)
          refine zFf_bnd (fun x4_94 _ => ?_)
          exact zFf_some h_M_91
theorem fr_X10_pairWords_L2 (W : Nat → Prop) (M0 : ZMem) (x1 : Int32) (x2 : Int32) (s : (ZMem × Int32)) (hW : ∀ a, a ∈ ([60] : List Nat) → W a) (hs : zFr W M0 s.1) : zFf (zlp (fun r => zFr W M0 r.1) (fun r => zFr W M0 r)) (f_X10_pairWords_L2 x1 x2 s) := by
  unfold f_X10_pairWords_L2
  refine zFf_bindP (fun r_7 => ?_)
  refine zFf_ite ?_ ?_
  · exact zFf_some hs
  · refine zFf_bindP (fun r_19 => ?_)
    refine zFf_bindP (fun r_23 => ?_)
    refine zFf_ite ?_ ?_
    · refine zFf_bnd (fun x3_100 _ => ?_)
      exact zFf_some hs
    · refine zFf_bind (zFf_loop (QS := (fun r => zFr W M0 r.1)) (QE := (fun r => zFr W M0 r)) (fun z hz => fr_X10_pairWords_L32 W M0 x1 x2 s.2 z (fun a h => hW a (zsub (by decide) h)) hz) hs) (fun e32 h_e32 => ?_)
      refine zFf_bnd (fun x3_100 _ => ?_)
      exact zFf_some h_e32
theorem fr_X10_pairWords (W : Nat → Prop) (M0 : ZMem) (M : ZMem) (x1 : Int32) (x2 : Int32) (hW : ∀ a, a ∈ ([60] : List Nat) → W a) (hM : zFr W M0 M) : zFf (fun r => zFr W M0 r) (f_X10_pairWords M x1 x2) := by
  unfold f_X10_pairWords
  refine zFf_bind (zFf_loop (QS := (fun r => zFr W M0 r.1)) (QE := (fun r => zFr W M0 r)) (fun z hz => fr_X10_pairWords_L2 W M0 x1 x2 z (fun a h => hW a (zsub (by decide) h)) hz) hM) (fun e2 h_e2 => ?_)
  exact zFf_some h_e2
theorem fr_X10_countLast_L4 (W : Nat → Prop) (M0 : ZMem) (x1 : Int32) (s : (ZMem × Int32 × Int32)) (hW : ∀ a, a ∈ ([62, 63] : List Nat) → W a) (hs : zFr W M0 s.1) : zFf (zlp (fun r => zFr W M0 r.1) (fun r => zFr W M0 r.1)) (f_X10_countLast_L4 x1 s) := by
  unfold f_X10_countLast_L4
  refine zFf_bindP (fun r_9 => ?_)
  refine zFf_ite ?_ ?_
  · exact zFf_some hs
  · refine zFf_bindP (fun r_21 => ?_)
    refine zFf_bindP (fun r_25 => ?_)
    refine zFf_ite ?_ ?_
    · refine zFf_bnd (fun x3_66 _ => ?_)
      exact zFf_some hs
    · refine zFf_ite ?_ ?_
      · refine zFf_ite ?_ ?_
        · refine zFf_chk ?_
          refine zFf_bnd (fun M_48 e_M_48 => ?_)
          have h_M_48 : zFr W M0 M_48 := by rw [e_M_48]; exact (zFr_I hs (hW _ (by decide)))
          refine zFf_chk ?_
          refine zFf_bnd (fun M_60 e_M_60 => ?_)
          have h_M_60 : zFr W M0 M_60 := by rw [e_M_60]; exact (zFr_F h_M_48 (hW _ (by decide)))
          refine zFf_bnd (fun x2_63 _ => ?_)
          refine zFf_bnd (fun x3_66 _ => ?_)
          exact zFf_some h_M_60
        · refine zFf_bnd (fun x2_63 _ => ?_)
          refine zFf_bnd (fun x3_66 _ => ?_)
          exact zFf_some hs
      · refine zFf_bnd (fun x2_63 _ => ?_)
        refine zFf_bnd (fun x3_66 _ => ?_)
        exact zFf_some hs
theorem fr_X10_countLast (W : Nat → Prop) (M0 : ZMem) (M : ZMem) (x1 : Int32) (hW : ∀ a, a ∈ ([59, 62, 63] : List Nat) → W a) (hM : zFr W M0 M) : zFf (fun r => zFr W M0 r) (f_X10_countLast M x1) := by
  unfold f_X10_countLast
  refine zFf_bind (zFf_loop (QS := (fun r => zFr W M0 r.1)) (QE := (fun r => zFr W M0 r.1)) (fun z hz => fr_X10_countLast_L4 W M0 x1 z (fun a h => hW a (zsub (by decide) h)) hz) hM) (fun e4 h_e4 => ?_)
  refine zFf_bnd (fun M_85 e_M_85 => ?_)
  have h_M_85 : zFr W M0 M_85 := by rw [e_M_85]; exact (zFr_I h_e4 (hW _ (by decide)))
  exact zFf_some h_M_85
theorem fr_X10_narrow_L65 (W : Nat → Prop) (M0 : ZMem) (x1 : Int32) (x2 : Int32) (x3 : Int32) (x4 : Int32) (x5 : Int32) (x6 : Int32) (s : (ZMem × Int64 × Int32)) (hW : ∀ a, a ∈ ([61] : List Nat) → W a) (hs : zFr W M0 s.1) : zFf (zlp (fun r => zFr W M0 r.1) (fun r => zFr W M0 r.1)) (f_X10_narrow_L65 x1 x2 x3 x4 x5 x6 s) := by
  unfold f_X10_narrow_L65
  refine zFf_ite ?_ ?_
  · exact zFf_some hs
  · refine zFf_chk ?_
    refine zFf_chk ?_
    refine zFf_chk ?_
    refine zFf_bnd (fun M_101 e_M_101 => ?_)
    have h_M_101 : zFr W M0 M_101 := by rw [e_M_101]; exact (zFr_L hs (hW _ (by decide)))
    refine zFf_chk ?_
    refine zFf_bnd (fun x7_115 _ => ?_)
    refine zFf_bnd (fun x9_117 _ => ?_)
    exact zFf_some h_M_101
theorem fr_X10_narrow_L4 (W : Nat → Prop) (M0 : ZMem) (x1 : Int32) (x2 : Int32) (s : (ZMem × Int32)) (hW : ∀ a, a ∈ ([61] : List Nat) → W a) (hs : zFr W M0 s.1) : zFf (zlp (fun r => zFr W M0 r.1) (fun r => zsel r (fun e => zFr W M0 e) (fun e => zFr W M0 e.1))) (f_X10_narrow_L4 x1 x2 s) := by
  unfold f_X10_narrow_L4
  refine zFf_bindP (fun r_9 => ?_)
  refine zFf_ite ?_ ?_
  · exact zFf_some hs
  · refine zFf_bindP (fun r_17 => ?_)
    refine zFf_bindP (fun r_26 => ?_)
    refine zFf_bindP (fun r_34 => ?_)
    refine zFf_ite ?_ ?_
    · exact zFf_some hs
    · refine zFf_ite ?_ ?_
      · exact zFf_some hs
      · refine zFf_ite ?_ ?_
        · exact zFf_some hs
        · refine zFf_bind (zFf_loop (QS := (fun r => zFr W M0 r.1)) (QE := (fun r => zFr W M0 r.1)) (fun z hz => fr_X10_narrow_L65 W M0 x1 x2 s.2 r_17 r_26 r_34 z (fun a h => hW a (zsub (by decide) h)) hz) hs) (fun e65 h_e65 => ?_)
          refine zFf_ite ?_ ?_
          · exact zFf_some h_e65
          · refine zFf_bnd (fun x3_132 _ => ?_)
            exact zFf_some h_e65
theorem fr_X10_narrow (W : Nat → Prop) (M0 : ZMem) (M : ZMem) (x1 : Int32) (x2 : Int32) (hW : ∀ a, a ∈ ([61] : List Nat) → W a) (hM : zFr W M0 M) : zFf (fun r => zFr W M0 r.1) (f_X10_narrow M x1 x2) := by
  unfold f_X10_narrow
  refine zFf_bnd (fun x3_3 _ => ?_)
  refine zFf_bind (zFf_loop (QS := (fun r => zFr W M0 r.1)) (QE := (fun r => zsel r (fun e => zFr W M0 e) (fun e => zFr W M0 e.1))) (fun z hz => fr_X10_narrow_L4 W M0 x1 x2 z (fun a h => hW a (zsub (by decide) h)) hz) hM) (fun e4 h_e4 => ?_)
  cases e4 with
  | inl e4a =>
    refine zFf_selL ?_
    exact zFf_some h_e4
  | inr e4b =>
    refine zFf_selR ?_
    exact zFf_some h_e4
theorem fr_X10_give (W : Nat → Prop) (M0 : ZMem) (ch : ZMem → Int32 → Option ZMem) (M : ZMem) (x1 : Int32) (x2 : Int32) (hW : ∀ a, a ∈ ([59, 61, 62, 63] : List Nat) → W a) (hch : ∀ (M : ZMem) (x : Int32), zFr W M0 M → zFf (fun r => zFr W M0 r) (ch M x)) (hM : zFr W M0 M) : zFf (fun r => zFr W M0 r) (f_X10_give ch M x1 x2) := by
  unfold f_X10_give
  refine zFf_bind (fr_X10_narrow W M0 M x1 x2 (fun a h => hW a (zsub (by decide) h)) hM) (fun r_3 h_r_3 => ?_)
  refine zFf_ite ?_ ?_
  · exact zFf_some h_r_3
  · refine zFf_chk ?_
    refine zFf_bnd (fun M_15 e_M_15 => ?_)
    have h_M_15 : zFr W M0 M_15 := by rw [e_M_15]; exact (zFr_I h_r_3 (hW _ (by decide)))
    refine zFf_bind (hch _ _ h_M_15) (fun M_20 h_M_20 => ?_)
    exact zFf_some h_M_20
theorem fr_X10_choose_L42 (W : Nat → Prop) (M0 : ZMem) (ch : ZMem → Int32 → Option ZMem) (x1 : Int32) (s : (ZMem × Int32)) (hW : ∀ a, a ∈ ([59, 61, 62, 63] : List Nat) → W a) (hch : ∀ (M : ZMem) (x : Int32), zFr W M0 M → zFf (fun r => zFr W M0 r) (ch M x)) (hs : zFr W M0 s.1) : zFf (zlp (fun r => zFr W M0 r.1) (fun r => zFr W M0 r)) (f_X10_choose_L42 ch x1 s) := by
  unfold f_X10_choose_L42
  refine zFf_bindP (fun r_47 => ?_)
  refine zFf_ite ?_ ?_
  · exact zFf_some hs
  · refine zFf_ite ?_ ?_
    · exact zFf_some hs
    · refine zFf_bindP (fun r_69 => ?_)
      refine zFf_bindP (fun r_73 => ?_)
      refine zFf_ite ?_ ?_
      · refine zFf_bnd (fun x2_85 _ => ?_)
        exact zFf_some hs
      · refine zFf_bind (fr_X10_give W M0 ch s.1 x1 s.2 (fun a h => hW a (zsub (by decide) h)) hch hs) (fun M_82 h_M_82 => ?_)
        refine zFf_bnd (fun x2_85 _ => ?_)
        exact zFf_some h_M_82
theorem fr_X10_choose (W : Nat → Prop) (M0 : ZMem) (ch : ZMem → Int32 → Option ZMem) (M : ZMem) (x1 : Int32) (hW : ∀ a, a ∈ ([59, 61, 62, 63] : List Nat) → W a) (hch : ∀ (M : ZMem) (x : Int32), zFr W M0 M → zFf (fun r => zFr W M0 r) (ch M x)) (hM : zFr W M0 M) : zFf (fun r => zFr W M0 r) (f_X10_choose ch M x1) := by
  unfold f_X10_choose
  refine zFf_ite ?_ ?_
  · exact zFf_some hM
  · refine zFf_ite ?_ ?_
    · exact zFf_some hM
    · refine zFf_bindP (fun r_14 => ?_)
      refine zFf_ite ?_ ?_
      · refine zFf_bindP (fun r_26 => ?_)
        refine zFf_ite ?_ ?_
        · refine zFf_bind (fr_X10_countLast W M0 M x1 (fun a h => hW a (zsub (by decide) h)) hM) (fun M_36 h_M_36 => ?_)
          exact zFf_some h_M_36
        · refine zFf_bind (zFf_loop (QS := (fun r => zFr W M0 r.1)) (QE := (fun r => zFr W M0 r)) (fun z hz => fr_X10_choose_L42 W M0 ch x1 z (fun a h => hW a (zsub (by decide) h)) hch hz) hM) (fun e42 h_e42 => ?_)
          exact zFf_some h_e42
      · exact zFf_some hM
theorem fr_X10_chooseN (W : Nat → Prop) (M0 : ZMem) : ∀ (d : Nat) (M : ZMem) (x1 : Int32) (hW : ∀ a, a ∈ ([59, 61, 62, 63] : List Nat) → W a), zFr W M0 M → zFf (fun r => zFr W M0 r) (f_X10_chooseN d M x1)
  | 0, _, _, _, _ => zFf_none
  | d + 1, M, x1, hW, h => fr_X10_choose W M0 (f_X10_chooseN d) M x1 hW (fun M x hM => fr_X10_chooseN W M0 d M x hW hM) h
theorem fr_X10_settle_L50 (W : Nat → Prop) (M0 : ZMem) (x1 : Int32) (s : (ZMem × Int32)) (hW : ∀ a, a ∈ ([61] : List Nat) → W a) (hs : zFr W M0 s.1) : zFf (zlp (fun r => zFr W M0 r.1) (fun r => zFr W M0 r)) (f_X10_settle_L50 x1 s) := by
  unfold f_X10_settle_L50
  refine zFf_bindP (fun r_55 => ?_)
  refine zFf_ite ?_ ?_
  · exact zFf_some hs
  · refine zFf_bindP (fun r_67 => ?_)
    refine zFf_ite ?_ ?_
    · refine zFf_bnd (fun x2_97 _ => ?_)
      exact zFf_some hs
    · refine zFf_bindP (fun r_78 => ?_)
      refine zFf_ite ?_ ?_
      · refine zFf_bnd (fun x2_97 _ => ?_)
        exact zFf_some hs
      · refine zFf_bindP (fun r_90 => ?_)
        refine zFf_bind (fr_X10_putBit W M0 61 48 s.1 r_90 s.2 (fun a h => hW a (zsub (by decide) h)) hs) (fun M_94 h_M_94 => ?_)
        refine zFf_bnd (fun x2_97 _ => ?_)
        exact zFf_some h_M_94
theorem fr_X10_settle_L105 (W : Nat → Prop) (M0 : ZMem) (x1 : Int32) (s : (ZMem × Int32)) (hW : ∀ a, a ∈ ([60] : List Nat) → W a) (hs : zFr W M0 s.1) : zFf (zlp (fun r => zFr W M0 r.1) (fun r => zFr W M0 r)) (f_X10_settle_L105 x1 s) := by
  unfold f_X10_settle_L105
  refine zFf_ite ?_ ?_
  · exact zFf_some hs
  · refine zFf_bind (fr_X10_pairWords W M0 s.1 s.2 x1 (fun a h => hW a (zsub (by decide) h)) hs) (fun M_113 h_M_113 => ?_)
    refine zFf_bnd (fun x2_116 _ => ?_)
    exact zFf_some h_M_113
theorem fr_X10_settle_L37 (W : Nat → Prop) (M0 : ZMem) (s : (ZMem × Int32)) (hW : ∀ a, a ∈ ([60, 61] : List Nat) → W a) (hs : zFr W M0 s.1) : zFf (zlp (fun r => zFr W M0 r.1) (fun r => zFr W M0 r)) (f_X10_settle_L37 s) := by
  unfold f_X10_settle_L37
  refine zFf_bindP (fun r_42 => ?_)
  refine zFf_ite ?_ ?_
  · exact zFf_some hs
  · refine zFf_bind (zFf_loop (QS := (fun r => zFr W M0 r.1)) (QE := (fun r => zFr W M0 r)) (fun z hz => fr_X10_settle_L50 W M0 s.2 z (fun a h => hW a (zsub (by decide) h)) hz) hs) (fun e50 h_e50 => ?_)
    refine zFf_bind (zFf_loop (QS := (fun r => zFr W M0 r.1)) (QE := (fun r => zFr W M0 r)) (fun z hz => fr_X10_settle_L105 W M0 s.2 z (fun a h => hW a (zsub (by decide) h)) hz) h_e50) (fun e105 h_e105 => ?_)
    refine zFf_bnd (fun x1_122 _ => ?_)
    exact zFf_some h_e105
theorem fr_X10_settle_16 (W : Nat → Prop) (M0 : ZMem) (M : ZMem) (v1 : Int32) (hW : ∀ a, a ∈ ([59, 60, 61, 62, 63] : List Nat) → W a) (hM : zFr W M0 M) : zFf (fun r => zFr W M0 r) (f_X10_settle_16 M v1) := by
  unfold f_X10_settle_16
  refine zFf_bnd (fun M_16 e_M_16 => ?_)
  have h_M_16 : zFr W M0 M_16 := by rw [e_M_16]; exact (zFr_I hM (hW _ (by decide)))
  refine zFf_bind (fr_J7_fill_d0a16 W M0 61 48 M_16 (0 : Int64) (fun a h => hW a (zsub (by decide) h)) h_M_16) (fun M_24 h_M_24 => ?_)
  refine zFf_bind (fr_J7_fill_d0a16 W M0 60 2160 M_24 (0 : Int64) (fun a h => hW a (zsub (by decide) h)) h_M_24) (fun M_32 h_M_32 => ?_)
  refine zFf_bind (zFf_loop (QS := (fun r => zFr W M0 r.1)) (QE := (fun r => zFr W M0 r)) (fun z hz => fr_X10_settle_L37 W M0 z (fun a h => hW a (zsub (by decide) h)) hz) h_M_32) (fun e37 h_e37 => ?_)
  refine zFf_bind (fr_X10_chooseN W M0 5 e37 (zI 0) (fun a h => hW a (zsub (by decide) h)) h_e37) (fun M_130 h_M_130 => ?_)
  exact zFf_some h_M_130
theorem fr_X10_settle (W : Nat → Prop) (M0 : ZMem) (M : ZMem) (hW : ∀ a, a ∈ ([59, 60, 61, 62, 63] : List Nat) → W a) (hM : zFr W M0 M) : zFf (fun r => zFr W M0 r) (f_X10_settle M) := by
  unfold f_X10_settle
  refine zFf_bindP (fun r_5 => ?_)
  refine zFf_ite ?_ ?_
  · exact fr_X10_settle_16 W M0 M (zI 1) (fun a h => hW a (zsub (by decide) h)) hM
  · exact fr_X10_settle_16 W M0 M (zI 0) (fun a h => hW a (zsub (by decide) h)) hM
theorem fr_X11_feed (W : Nat → Prop) (M0 : ZMem) (M : ZMem) (x1 : Int32) (x2 : Int32) (x3 : Int32) (x4 : Int32) (x5 : Int32) (hW : ∀ a, a ∈ ([1, 2] : List Nat) → W a) (hM : zFr W M0 M) : zFf (fun r => zFr W M0 r.1) (f_X11_feed M x1 x2 x3 x4 x5) := by
  unfold f_X11_feed
  refine zFf_bindP (fun r_4 => ?_)
  refine zFf_ite ?_ ?_
  · refine zFf_bind (fr_X8_put W M0 M x1 (fun a h => hW a (zsub (by decide) h)) hM) (fun M_23 h_M_23 => ?_)
    refine zFf_bind (fr_X8_put W M0 M_23 x2 (fun a h => hW a (zsub (by decide) h)) h_M_23) (fun M_31 h_M_31 => ?_)
    refine zFf_bind (fr_X8_put W M0 M_31 x3 (fun a h => hW a (zsub (by decide) h)) h_M_31) (fun M_39 h_M_39 => ?_)
    refine zFf_bind (fr_X8_put W M0 M_39 x4 (fun a h => hW a (zsub (by decide) h)) h_M_39) (fun M_48 h_M_48 => ?_)
    refine zFf_bind (fr_X8_put W M0 M_48 x5 (fun a h => hW a (zsub (by decide) h)) h_M_48) (fun M_57 h_M_57 => ?_)
    refine zFf_bindP (fun r_64 => ?_)
    exact zFf_some h_M_57
  · exact zFf_some hM
theorem fr_X11_end (W : Nat → Prop) (M0 : ZMem) (M : ZMem) (x1 : Int32) (hW : ∀ a, a ∈ ([1] : List Nat) → W a) (hM : zFr W M0 M) : zFf (fun r => zFr W M0 r.1) (f_X11_end M x1) := by
  unfold f_X11_end
  refine zFf_bind (fr_X8_cutTo W M0 M x1 (fun a h => hW a (zsub (by decide) h)) hM) (fun r_5 h_r_5 => ?_)
  refine zFf_ite ?_ ?_
  · exact zFf_some h_r_5
  · exact zFf_some h_r_5
theorem fr_X11_forms (W : Nat → Prop) (M0 : ZMem) (M : ZMem) (hW : ∀ a, a ∈ ([0, 1, 3, 4, 5, 6, 7, 8, 11, 20, 21, 22, 26] : List Nat) → W a) (hM : zFr W M0 M) : zFf (fun r => zFr W M0 r.1) (f_X11_forms M) := by
  unfold f_X11_forms
  refine zFf_bind (fr_X0_takeFrom W M0 M (fun a h => hW a (zsub (by decide) h)) hM) (fun r_8 h_r_8 => ?_)
  refine zFf_bind (fr_X8_cutTo W M0 r_8.1 (zI 0) (fun a h => hW a (zsub (by decide) h)) h_r_8) (fun r_17 h_r_17 => ?_)
  refine zFf_ite ?_ ?_
  · exact zFf_some h_r_17
  · refine zFf_bind (fr_X7_startAnew W M0 r_17.1 (fun a h => hW a (zsub (by decide) h)) h_r_17) (fun M_29 h_M_29 => ?_)
    refine zFf_bind (fr_X1_startAnew W M0 M_29 (fun a h => hW a (zsub (by decide) h)) h_M_29) (fun M_36 h_M_36 => ?_)
    refine zFf_bnd (fun M_41 e_M_41 => ?_)
    have h_M_41 : zFr W M0 M_41 := by rw [e_M_41]; exact (zFr_I h_M_36 (hW _ (by decide)))
    exact zFf_some h_M_41
theorem fr_X11_stone (W : Nat → Prop) (M0 : ZMem) (M : ZMem) (hW : ∀ a, a ∈ ([0, 1, 11, 12, 13, 14, 15, 16, 20] : List Nat) → W a) (hM : zFr W M0 M) : zFf (fun r => zFr W M0 r.1) (f_X11_stone M) := by
  unfold f_X11_stone
  refine zFf_bindP (fun r_4 => ?_)
  refine zFf_ite ?_ ?_
  · refine zFf_bindP (fun r_24 => ?_)
    refine zFf_bind (fr_X7_takeFrom W M0 M r_24 (fun a h => hW a (zsub (by decide) h)) hM) (fun r_27 h_r_27 => ?_)
    refine zFf_bind (fr_X8_cutTo W M0 r_27.1 (zI 0) (fun a h => hW a (zsub (by decide) h)) h_r_27) (fun r_36 h_r_36 => ?_)
    refine zFf_ite ?_ ?_
    · exact zFf_some h_r_36
    · refine zFf_bind (fr_X1_forgetActs W M0 r_36.1 (fun a h => hW a (zsub (by decide) h)) h_r_36) (fun M_48 h_M_48 => ?_)
      refine zFf_bnd (fun M_53 e_M_53 => ?_)
      have h_M_53 : zFr W M0 M_53 := by rw [e_M_53]; exact (zFr_I h_M_48 (hW _ (by decide)))
      exact zFf_some h_M_53
  · exact zFf_some hM
theorem fr_X11_name (W : Nat → Prop) (M0 : ZMem) (M : ZMem) (hW : ∀ a, a ∈ ([0, 1, 17, 18, 19] : List Nat) → W a) (hM : zFr W M0 M) : zFf (fun r => zFr W M0 r.1) (f_X11_name M) := by
  unfold f_X11_name
  refine zFf_bindP (fun r_4 => ?_)
  refine zFf_ite ?_ ?_
  · refine zFf_bind (fr_X4_takeFrom W M0 M (fun a h => hW a (zsub (by decide) h)) hM) (fun r_20 h_r_20 => ?_)
    refine zFf_bind (fr_X8_cutTo W M0 r_20.1 (zI 0) (fun a h => hW a (zsub (by decide) h)) h_r_20) (fun r_29 h_r_29 => ?_)
    refine zFf_ite ?_ ?_
    · exact zFf_some h_r_29
    · refine zFf_bnd (fun M_39 e_M_39 => ?_)
      have h_M_39 : zFr W M0 M_39 := by rw [e_M_39]; exact (zFr_I h_r_29 (hW _ (by decide)))
      exact zFf_some h_M_39
  · exact zFf_some hM
theorem fr_X11_settleScript (W : Nat → Prop) (M0 : ZMem) (M : ZMem) (hW : ∀ a, a ∈ ([0, 3, 9, 10, 30, 31, 32, 33, 34, 35, 36, 37, 38, 39, 40, 42, 46] : List Nat) → W a) (hM : zFr W M0 M) : zFf (fun r => zFr W M0 r) (f_X11_settleScript M) := by
  unfold f_X11_settleScript
  refine zFf_bind (fr_X0_settleSigns W M0 M (fun a h => hW a (zsub (by decide) h)) hM) (fun M_8 h_M_8 => ?_)
  refine zFf_bindP (fun r_28 => ?_)
  refine zFf_bind (fr_X6_settle W M0 M_8 r_28 (fun a h => hW a (zsub (by decide) h)) h_M_8) (fun M_31 h_M_31 => ?_)
  refine zFf_bindP (fun r_47 => ?_)
  refine zFf_bind (fr_X2_settle W M0 M_31 r_47 (fun a h => hW a (zsub (by decide) h)) h_M_31) (fun M_50 h_M_50 => ?_)
  refine zFf_bind (fr_X5_forgetWords W M0 41 M_50 (fun a h => hW a (zsub (by decide) h)) h_M_50) (fun M_57 h_M_57 => ?_)
  refine zFf_bind (fr_X5_forgetWords W M0 45 M_57 (fun a h => hW a (zsub (by decide) h)) h_M_57) (fun M_64 h_M_64 => ?_)
  refine zFf_bind (fr_X2_compareWords W M0 M_64 (fun a h => hW a (zsub (by decide) h)) h_M_64) (fun M_79 h_M_79 => ?_)
  refine zFf_bnd (fun M_84 e_M_84 => ?_)
  have h_M_84 : zFr W M0 M_84 := by rw [e_M_84]; exact (zFr_I h_M_79 (hW _ (by decide)))
  refine zFf_bnd (fun M_89 e_M_89 => ?_)
  have h_M_89 : zFr W M0 M_89 := by rw [e_M_89]; exact (zFr_I h_M_84 (hW _ (by decide)))
  exact zFf_some h_M_89
theorem fr_X11_freshenScript (W : Nat → Prop) (M0 : ZMem) (M : ZMem) (hW : ∀ a, a ∈ ([0, 3, 9, 10, 30, 31, 32, 33, 34, 35, 36, 37, 38, 39, 40, 42, 46] : List Nat) → W a) (hM : zFr W M0 M) : zFf (fun r => zFr W M0 r) (f_X11_freshenScript M) := by
  unfold f_X11_freshenScript
  refine zFf_ite ?_ ?_
  · exact zFf_some hM
  · refine zFf_bind (fr_X11_settleScript W M0 M (fun a h => hW a (zsub (by decide) h)) hM) (fun M_8 h_M_8 => ?_)
    exact zFf_some h_M_8
theorem fr_X11_sign (W : Nat → Prop) (M0 : ZMem) (M : ZMem) (x1 : Int32) (hW : ∀ a, a ∈ ([0, 3, 9, 10, 30, 31, 32, 33, 34, 35, 36, 37, 38, 39, 40, 42, 46] : List Nat) → W a) (hM : zFr W M0 M) : zFf (fun r => zFr W M0 r.1) (f_X11_sign M x1) := by
  unfold f_X11_sign
  refine zFf_bind (fr_X11_freshenScript W M0 M (fun a h => hW a (zsub (by decide) h)) hM) (fun M_1 h_M_1 => ?_)
  refine zFf_bindP (fun r_9 => ?_)
  exact zFf_some h_M_1
theorem fr_X11_size (W : Nat → Prop) (M0 : ZMem) (M : ZMem) (x1 : Int32) (hW : ∀ a, a ∈ ([0, 3, 9, 10, 30, 31, 32, 33, 34, 35, 36, 37, 38, 39, 40, 42, 46] : List Nat) → W a) (hM : zFr W M0 M) : zFf (fun r => zFr W M0 r.1) (f_X11_size M x1) := by
  unfold f_X11_size
  refine zFf_bind (fr_X11_freshenScript W M0 M (fun a h => hW a (zsub (by decide) h)) hM) (fun M_1 h_M_1 => ?_)
  refine zFf_bindP (fun r_9 => ?_)
  exact zFf_some h_M_1
theorem fr_X11_changeSetting (W : Nat → Prop) (M0 : ZMem) (M : ZMem) (x1 : Int32) (x2 : Int32) (x3 : Int32) (x4 : Int32) (hW : ∀ a, a ∈ ([0, 20, 21, 27, 28, 29] : List Nat) → W a) (hM : zFr W M0 M) : zFf (fun r => zFr W M0 r.1) (f_X11_changeSetting M x1 x2 x3 x4) := by
  unfold f_X11_changeSetting
  refine zFf_bindP (fun r_5 => ?_)
  refine zFf_ite ?_ ?_
  · exact zFf_some hM
  · refine zFf_ite ?_ ?_
    · exact zFf_some hM
    · refine zFf_ite ?_ ?_
      · exact zFf_some hM
      · refine zFf_bind (fr_X1_set W M0 M x1 x2 (fun a h => hW a (zsub (by decide) h)) hM) (fun M_35 h_M_35 => ?_)
        refine zFf_bnd (fun M_40 e_M_40 => ?_)
        have h_M_40 : zFr W M0 M_40 := by rw [e_M_40]; exact (zFr_I h_M_35 (hW _ (by decide)))
        exact zFf_some h_M_40
theorem fr_X11_loose (W : Nat → Prop) (M0 : ZMem) (M : ZMem) (x1 : Int32) (hW : ∀ a, a ∈ ([0, 20, 21, 27, 28, 29] : List Nat) → W a) (hM : zFr W M0 M) : zFf (fun r => zFr W M0 r.1) (f_X11_loose M x1) := by
  unfold f_X11_loose
  refine zFf_bind (fr_X11_changeSetting W M0 M (zI 0) x1 (zI 0) (zI 25) (fun a h => hW a (zsub (by decide) h)) hM) (fun r_6 h_r_6 => ?_)
  exact zFf_some h_r_6
theorem fr_X11_changeTie (W : Nat → Prop) (M0 : ZMem) (M : ZMem) (x1 : Int32) (x2 : Int32) (x3 : Int32) (x4 : Int32) (hW : ∀ a, a ∈ ([0, 20, 22, 27, 28, 29] : List Nat) → W a) (hM : zFr W M0 M) : zFf (fun r => zFr W M0 r.1) (f_X11_changeTie M x1 x2 x3 x4) := by
  unfold f_X11_changeTie
  refine zFf_bindP (fun r_5 => ?_)
  refine zFf_ite ?_ ?_
  · exact zFf_some hM
  · refine zFf_bindP (fun r_16 => ?_)
    refine zFf_ite ?_ ?_
    · exact zFf_some hM
    · refine zFf_ite ?_ ?_
      · exact zFf_some hM
      · refine zFf_bind (fr_X1_tellTie W M0 M x1 x2 x3 x4 (fun a h => hW a (zsub (by decide) h)) hM) (fun r_38 h_r_38 => ?_)
        refine zFf_chk ?_
        refine zFf_bnd (fun M_51 e_M_51 => ?_)
        have h_M_51 : zFr W M0 M_51 := by rw [e_M_51]; exact (zFr_I h_r_38 (hW _ (by decide)))
        refine zFf_chk ?_
        exact zFf_some h_M_51
theorem fr_X11_alike (W : Nat → Prop) (M0 : ZMem) (M : ZMem) (x1 : Int32) (x2 : Int32) (x3 : Int32) (hW : ∀ a, a ∈ ([0, 20, 22, 27, 28, 29] : List Nat) → W a) (hM : zFr W M0 M) : zFf (fun r => zFr W M0 r.1) (f_X11_alike M x1 x2 x3) := by
  unfold f_X11_alike
  refine zFf_bind (fr_X11_changeTie W M0 M x1 x2 (zI 1) x3 (fun a h => hW a (zsub (by decide) h)) hM) (fun r_5 h_r_5 => ?_)
  refine zFf_chk ?_
  exact zFf_some h_r_5
theorem fr_X11_apart (W : Nat → Prop) (M0 : ZMem) (M : ZMem) (x1 : Int32) (x2 : Int32) (x3 : Int32) (hW : ∀ a, a ∈ ([0, 20, 22, 27, 28, 29] : List Nat) → W a) (hM : zFr W M0 M) : zFf (fun r => zFr W M0 r.1) (f_X11_apart M x1 x2 x3) := by
  unfold f_X11_apart
  refine zFf_bind (fr_X11_changeTie W M0 M x1 x2 (zI 2) x3 (fun a h => hW a (zsub (by decide) h)) hM) (fun r_5 h_r_5 => ?_)
  refine zFf_chk ?_
  exact zFf_some h_r_5
theorem fr_X11_way (W : Nat → Prop) (M0 : ZMem) (M : ZMem) (x1 : Int32) (hW : ∀ a, a ∈ ([0, 20, 21, 27, 28, 29] : List Nat) → W a) (hM : zFr W M0 M) : zFf (fun r => zFr W M0 r.1) (f_X11_way M x1) := by
  unfold f_X11_way
  refine zFf_bind (fr_X11_changeSetting W M0 M (zI 1) x1 (zI 0) (zI 3) (fun a h => hW a (zsub (by decide) h)) hM) (fun r_5 h_r_5 => ?_)
  exact zFf_some h_r_5
theorem fr_X11_judged (W : Nat → Prop) (M0 : ZMem) (M : ZMem) (x1 : Int32) (hW : ∀ a, a ∈ ([0, 3, 9, 10, 30, 31, 32, 33, 34, 35, 36, 37, 38, 39, 40, 42, 46] : List Nat) → W a) (hM : zFr W M0 M) : zFf (fun r => zFr W M0 r.1) (f_X11_judged M x1) := by
  unfold f_X11_judged
  refine zFf_bind (fr_X11_freshenScript W M0 M (fun a h => hW a (zsub (by decide) h)) hM) (fun M_1 h_M_1 => ?_)
  refine zFf_bindP (fun r_9 => ?_)
  exact zFf_some h_M_1
theorem fr_X11_read (W : Nat → Prop) (M0 : ZMem) (M : ZMem) (x1 : Int32) (x2 : Int32) (x3 : Int32) (hW : ∀ a, a ∈ ([0, 3, 9, 10, 30, 31, 32, 33, 34, 35, 36, 37, 38, 39, 40, 42, 46] : List Nat) → W a) (hM : zFr W M0 M) : zFf (fun r => zFr W M0 r.1) (f_X11_read M x1 x2 x3) := by
  unfold f_X11_read
  refine zFf_bindP (fun r_6 => ?_)
  refine zFf_ite ?_ ?_
  · exact zFf_some hM
  · refine zFf_bind (fr_X11_freshenScript W M0 M (fun a h => hW a (zsub (by decide) h)) hM) (fun M_20 h_M_20 => ?_)
    refine zFf_ite ?_ ?_
    · refine zFf_bindP (fun r_34 => ?_)
      exact zFf_some h_M_20
    · refine zFf_bindP (fun r_47 => ?_)
      exact zFf_some h_M_20
theorem fr_X11_findTapePiece_L27 (W : Nat → Prop) (M0 : ZMem) (x1 : Int32) (s : (ZMem × Int32 × Int32)) (hW : ∀ a, a ∈ ([30, 33] : List Nat) → W a) (hs : zFr W M0 s.1) : zFf (zlp (fun r => zFr W M0 r.1) (fun r => zFr W M0 r.1)) (f_X11_findTapePiece_L27 x1 s) := by
  unfold f_X11_findTapePiece_L27
  refine zFf_ite ?_ ?_
  · exact zFf_some hs
  · refine zFf_ite ?_ ?_
    · exact zFf_some hs
    · refine zFf_bindP (fun r_45 => ?_)
      refine zFf_bindP (fun r_48 => ?_)
      refine zFf_bindP (fun r_51 => ?_)
      refine zFf_ite ?_ ?_
      · refine zFf_bnd (fun x3_92 _ => ?_)
        exact zFf_some hs
      · refine zFf_ite ?_ ?_
        · refine zFf_bind (fr_X6_startPiece W M0 s.1 r_51 (fun a h => hW a (zsub (by decide) h)) hs) (fun M_77 h_M_77 => ?_)
          refine zFf_bnd (fun x3_92 _ => ?_)
          exact zFf_some h_M_77
        · refine zFf_bind (fr_X6_growPiece W M0 s.1 r_51 (fun a h => hW a (zsub (by decide) h)) hs) (fun M_89 h_M_89 => ?_)
          refine zFf_bnd (fun x3_92 _ => ?_)
          exact zFf_some h_M_89
theorem fr_X11_findTapePiece_24 (W : Nat → Prop) (M0 : ZMem) (M : ZMem) (x1 : Int32) (v0 : Int32) (hW : ∀ a, a ∈ ([1, 30, 33] : List Nat) → W a) (hM : zFr W M0 M) : zFf (fun r => zFr W M0 r.1) (f_X11_findTapePiece_24 M x1 v0) := by
  unfold f_X11_findTapePiece_24
  refine zFf_bind (zFf_loop (QS := (fun r => zFr W M0 r.1)) (QE := (fun r => zFr W M0 r.1)) (fun z hz => fr_X11_findTapePiece_L27 W M0 x1 z (fun a h => hW a (zsub (by decide) h)) hz) hM) (fun e27 h_e27 => ?_)
  refine zFf_bind (fr_X8_cutTo W M0 e27.1 (zI 0) (fun a h => hW a (zsub (by decide) h)) h_e27) (fun r_103 h_r_103 => ?_)
  refine zFf_chk ?_
  exact zFf_some h_r_103
theorem fr_X11_findTapePiece_23 (W : Nat → Prop) (M0 : ZMem) (M : ZMem) (x1 : Int32) (hW : ∀ a, a ∈ ([1, 30, 33] : List Nat) → W a) (hM : zFr W M0 M) : zFf (fun r => zFr W M0 r.1) (f_X11_findTapePiece_23 M x1) := by
  unfold f_X11_findTapePiece_23
  exact fr_X11_findTapePiece_24 W M0 M x1 (zI 0) (fun a h => hW a (zsub (by decide) h)) hM
theorem fr_X11_findTapePiece (W : Nat → Prop) (M0 : ZMem) (M : ZMem) (hW : ∀ a, a ∈ ([1, 30, 33] : List Nat) → W a) (hM : zFr W M0 M) : zFf (fun r => zFr W M0 r.1) (f_X11_findTapePiece M) := by
  unfold f_X11_findTapePiece
  refine zFf_bindP (fun r_4 => ?_)
  refine zFf_ite ?_ ?_
  · exact fr_X11_findTapePiece_23 W M0 M r_4 (fun a h => hW a (zsub (by decide) h)) hM
  · refine zFf_ite ?_ ?_
    · exact fr_X11_findTapePiece_23 W M0 M r_4 (fun a h => hW a (zsub (by decide) h)) hM
    · exact fr_X11_findTapePiece_24 W M0 M r_4 (zI 1) (fun a h => hW a (zsub (by decide) h)) hM
theorem fr_X11_comes (W : Nat → Prop) (M0 : ZMem) (M : ZMem) (hW : ∀ a, a ∈ ([0, 1, 3, 9, 10, 30, 31, 32, 33, 34, 35, 36, 37, 38, 39, 40, 42, 46] : List Nat) → W a) (hM : zFr W M0 M) : zFf (fun r => zFr W M0 r.1) (f_X11_comes M) := by
  unfold f_X11_comes
  refine zFf_bind (fr_X11_freshenScript W M0 M (fun a h => hW a (zsub (by decide) h)) hM) (fun M_1 h_M_1 => ?_)
  refine zFf_bind (fr_X11_findTapePiece W M0 M_1 (fun a h => hW a (zsub (by decide) h)) h_M_1) (fun r_5 h_r_5 => ?_)
  refine zFf_ite ?_ ?_
  · exact zFf_some h_r_5
  · refine zFf_bindP (fun r_15 => ?_)
    exact zFf_some h_r_5
theorem fr_X11_next (W : Nat → Prop) (M0 : ZMem) (M : ZMem) (hW : ∀ a, a ∈ ([0, 1, 3, 9, 10, 30, 31, 32, 33, 34, 35, 36, 37, 38, 39, 40, 42, 46] : List Nat) → W a) (hM : zFr W M0 M) : zFf (fun r => zFr W M0 r.1) (f_X11_next M) := by
  unfold f_X11_next
  refine zFf_bind (fr_X11_freshenScript W M0 M (fun a h => hW a (zsub (by decide) h)) hM) (fun M_1 h_M_1 => ?_)
  refine zFf_bind (fr_X11_findTapePiece W M0 M_1 (fun a h => hW a (zsub (by decide) h)) h_M_1) (fun r_5 h_r_5 => ?_)
  refine zFf_ite ?_ ?_
  · exact zFf_some h_r_5
  · refine zFf_bindP (fun r_15 => ?_)
    exact zFf_some h_r_5
theorem fr_X11_rise (W : Nat → Prop) (M0 : ZMem) (M : ZMem) (x1 : Int32) (hW : ∀ a, a ∈ ([0, 20, 21, 27, 28, 29] : List Nat) → W a) (hM : zFr W M0 M) : zFf (fun r => zFr W M0 r.1) (f_X11_rise M x1) := by
  unfold f_X11_rise
  refine zFf_bind (fr_X11_changeSetting W M0 M (zI 2) x1 (zI 1) (zI 9) (fun a h => hW a (zsub (by decide) h)) hM) (fun r_6 h_r_6 => ?_)
  exact zFf_some h_r_6
theorem fr_X11_words (W : Nat → Prop) (M0 : ZMem) (M : ZMem) (hW : ∀ a, a ∈ ([0, 3, 9, 10, 30, 31, 32, 33, 34, 35, 36, 37, 38, 39, 40, 42, 46] : List Nat) → W a) (hM : zFr W M0 M) : zFf (fun r => zFr W M0 r.1) (f_X11_words M) := by
  unfold f_X11_words
  refine zFf_bind (fr_X11_freshenScript W M0 M (fun a h => hW a (zsub (by decide) h)) hM) (fun M_1 h_M_1 => ?_)
  refine zFf_bindP (fun r_8 => ?_)
  exact zFf_some h_M_1
theorem fr_X11_word (W : Nat → Prop) (M0 : ZMem) (M : ZMem) (x1 : Int32) (x2 : Int32) (hW : ∀ a, a ∈ ([0, 3, 9, 10, 30, 31, 32, 33, 34, 35, 36, 37, 38, 39, 40, 42, 46] : List Nat) → W a) (hM : zFr W M0 M) : zFf (fun r => zFr W M0 r.1) (f_X11_word M x1 x2) := by
  unfold f_X11_word
  refine zFf_bind (fr_X11_freshenScript W M0 M (fun a h => hW a (zsub (by decide) h)) hM) (fun M_1 h_M_1 => ?_)
  refine zFf_bindP (fun r_10 => ?_)
  exact zFf_some h_M_1
theorem fr_X11_rank (W : Nat → Prop) (M0 : ZMem) (M : ZMem) (x1 : Int32) (hW : ∀ a, a ∈ ([0, 3, 9, 10, 30, 31, 32, 33, 34, 35, 36, 37, 38, 39, 40, 42, 46] : List Nat) → W a) (hM : zFr W M0 M) : zFf (fun r => zFr W M0 r.1) (f_X11_rank M x1) := by
  unfold f_X11_rank
  refine zFf_bind (fr_X11_freshenScript W M0 M (fun a h => hW a (zsub (by decide) h)) hM) (fun M_1 h_M_1 => ?_)
  refine zFf_bindP (fun r_9 => ?_)
  exact zFf_some h_M_1
theorem fr_X11_stands (W : Nat → Prop) (M0 : ZMem) (M : ZMem) (x1 : Int32) (x2 : Int32) (hW : ∀ a, a ∈ ([0, 3, 9, 10, 30, 31, 32, 33, 34, 35, 36, 37, 38, 39, 40, 42, 46] : List Nat) → W a) (hM : zFr W M0 M) : zFf (fun r => zFr W M0 r.1) (f_X11_stands M x1 x2) := by
  unfold f_X11_stands
  refine zFf_bind (fr_X11_freshenScript W M0 M (fun a h => hW a (zsub (by decide) h)) hM) (fun M_1 h_M_1 => ?_)
  refine zFf_bindP (fun r_9 => ?_)
  refine zFf_ite ?_ ?_
  · exact zFf_some h_M_1
  · refine zFf_ite ?_ ?_
    · refine zFf_bind (fr_X6_timesOf W M0 M_1 r_9 (fun a h => hW a (zsub (by decide) h)) h_M_1) (fun r_29 h_r_29 => ?_)
      exact zFf_some h_r_29
    · refine zFf_bindP (fun r_41 => ?_)
      exact zFf_some h_M_1
theorem fr_X11_ahead (W : Nat → Prop) (M0 : ZMem) (M : ZMem) (x1 : Int32) (x2 : Int32) (hW : ∀ a, a ∈ ([0, 3, 9, 10, 30, 31, 32, 33, 34, 35, 36, 37, 38, 39, 40, 42, 46] : List Nat) → W a) (hM : zFr W M0 M) : zFf (fun r => zFr W M0 r.1) (f_X11_ahead M x1 x2) := by
  unfold f_X11_ahead
  refine zFf_bind (fr_X11_freshenScript W M0 M (fun a h => hW a (zsub (by decide) h)) hM) (fun M_1 h_M_1 => ?_)
  refine zFf_bindP (fun r_9 => ?_)
  refine zFf_bindP (fun r_18 => ?_)
  refine zFf_ite ?_ ?_
  · exact zFf_some h_M_1
  · refine zFf_ite ?_ ?_
    · exact zFf_some h_M_1
    · refine zFf_bind (fr_X6_timesAhead W M0 M_1 r_9 r_18 (fun a h => hW a (zsub (by decide) h)) h_M_1) (fun r_45 h_r_45 => ?_)
      exact zFf_some h_r_45
theorem fr_X11_stem (W : Nat → Prop) (M0 : ZMem) (M : ZMem) (x1 : Int32) (x2 : Int32) (hW : ∀ a, a ∈ ([0, 3, 9, 10, 30, 31, 32, 33, 34, 35, 36, 37, 38, 39, 40, 42, 46] : List Nat) → W a) (hM : zFr W M0 M) : zFf (fun r => zFr W M0 r.1) (f_X11_stem M x1 x2) := by
  unfold f_X11_stem
  refine zFf_bind (fr_X11_freshenScript W M0 M (fun a h => hW a (zsub (by decide) h)) hM) (fun M_1 h_M_1 => ?_)
  refine zFf_ite ?_ ?_
  · refine zFf_bindP (fun r_13 => ?_)
    exact zFf_some h_M_1
  · refine zFf_bindP (fun r_25 => ?_)
    exact zFf_some h_M_1
theorem fr_X11_clue (W : Nat → Prop) (M0 : ZMem) (M : ZMem) (x1 : Int32) (x2 : Int32) (x3 : Int32) (hW : ∀ a, a ∈ ([0, 3, 9, 10, 20, 23, 24, 25, 27, 28, 29, 30, 31, 32, 33, 34, 35, 36, 37, 38, 39, 40, 42, 46] : List Nat) → W a) (hM : zFr W M0 M) : zFf (fun r => zFr W M0 r.1) (f_X11_clue M x1 x2 x3) := by
  unfold f_X11_clue
  refine zFf_bind (fr_X11_freshenScript W M0 M (fun a h => hW a (zsub (by decide) h)) hM) (fun M_1 h_M_1 => ?_)
  refine zFf_bindP (fun r_9 => ?_)
  refine zFf_bindP (fun r_19 => ?_)
  refine zFf_ite ?_ ?_
  · exact zFf_some h_M_1
  · refine zFf_ite ?_ ?_
    · exact zFf_some h_M_1
    · refine zFf_ite ?_ ?_
      · exact zFf_some h_M_1
      · refine zFf_bind (fr_X1_tellClue W M0 M_1 x1 x2 x3 (fun a h => hW a (zsub (by decide) h)) h_M_1) (fun r_52 h_r_52 => ?_)
        refine zFf_ite ?_ ?_
        · exact zFf_some h_r_52
        · refine zFf_bnd (fun M_65 e_M_65 => ?_)
          have h_M_65 : zFr W M0 M_65 := by rw [e_M_65]; exact (zFr_I h_r_52 (hW _ (by decide)))
          exact zFf_some h_M_65
theorem fr_X11_settleGrid (W : Nat → Prop) (M0 : ZMem) (M : ZMem) (hW : ∀ a, a ∈ ([0, 43, 44, 47, 48, 49, 50, 51, 52, 53, 54, 55, 56, 57, 58] : List Nat) → W a) (hM : zFr W M0 M) : zFf (fun r => zFr W M0 r) (f_X11_settleGrid M) := by
  unfold f_X11_settleGrid
  refine zFf_bind (fr_X5_settle W M0 41 M (fun a h => hW a (zsub (by decide) h)) hM) (fun M_12 h_M_12 => ?_)
  refine zFf_bind (fr_X5_settle W M0 45 M_12 (fun a h => hW a (zsub (by decide) h)) h_M_12) (fun M_27 h_M_27 => ?_)
  refine zFf_bind (fr_X9_settle W M0 M_27 (fun a h => hW a (zsub (by decide) h)) h_M_27) (fun M_50 h_M_50 => ?_)
  refine zFf_bind (fr_X3_settle W M0 M_50 (fun a h => hW a (zsub (by decide) h)) h_M_50) (fun M_57 h_M_57 => ?_)
  refine zFf_bnd (fun M_62 e_M_62 => ?_)
  have h_M_62 : zFr W M0 M_62 := by rw [e_M_62]; exact (zFr_I h_M_57 (hW _ (by decide)))
  refine zFf_bnd (fun M_67 e_M_67 => ?_)
  have h_M_67 : zFr W M0 M_67 := by rw [e_M_67]; exact (zFr_I h_M_62 (hW _ (by decide)))
  exact zFf_some h_M_67
theorem fr_X11_freshenGrid_11 (W : Nat → Prop) (M0 : ZMem) (M : ZMem) (hW : ∀ a, a ∈ ([0, 43, 44, 47, 48, 49, 50, 51, 52, 53, 54, 55, 56, 57, 58] : List Nat) → W a) (hM : zFr W M0 M) : zFf (fun r => zFr W M0 r) (f_X11_freshenGrid_11 M) := by
  unfold f_X11_freshenGrid_11
  refine zFf_ite ?_ ?_
  · exact zFf_some hM
  · refine zFf_bind (fr_X11_settleGrid W M0 M (fun a h => hW a (zsub (by decide) h)) hM) (fun M_19 h_M_19 => ?_)
    exact zFf_some h_M_19
theorem fr_X11_freshenGrid (W : Nat → Prop) (M0 : ZMem) (M : ZMem) (hW : ∀ a, a ∈ ([0, 3, 9, 10, 30, 31, 32, 33, 34, 35, 36, 37, 38, 39, 40, 42, 43, 44, 46, 47, 48, 49, 50, 51, 52, 53, 54, 55, 56, 57, 58] : List Nat) → W a) (hM : zFr W M0 M) : zFf (fun r => zFr W M0 r) (f_X11_freshenGrid M) := by
  unfold f_X11_freshenGrid
  refine zFf_ite ?_ ?_
  · exact fr_X11_freshenGrid_11 W M0 M (fun a h => hW a (zsub (by decide) h)) hM
  · refine zFf_bind (fr_X11_settleScript W M0 M (fun a h => hW a (zsub (by decide) h)) hM) (fun M_8 h_M_8 => ?_)
    exact fr_X11_freshenGrid_11 W M0 M_8 (fun a h => hW a (zsub (by decide) h)) h_M_8
theorem fr_X11_clues (W : Nat → Prop) (M0 : ZMem) (M : ZMem) (x1 : Int32) (hW : ∀ a, a ∈ ([0, 3, 9, 10, 30, 31, 32, 33, 34, 35, 36, 37, 38, 39, 40, 42, 43, 44, 46, 47, 48, 49, 50, 51, 52, 53, 54, 55, 56, 57, 58] : List Nat) → W a) (hM : zFr W M0 M) : zFf (fun r => zFr W M0 r.1) (f_X11_clues M x1) := by
  unfold f_X11_clues
  refine zFf_bind (fr_X11_freshenGrid W M0 M (fun a h => hW a (zsub (by decide) h)) hM) (fun M_1 h_M_1 => ?_)
  refine zFf_ite ?_ ?_
  · refine zFf_bindP (fun r_9 => ?_)
    exact zFf_some h_M_1
  · refine zFf_bindP (fun r_9 => ?_)
    exact zFf_some h_M_1
theorem fr_X11_place (W : Nat → Prop) (M0 : ZMem) (M : ZMem) (x1 : Int32) (x2 : Int32) (hW : ∀ a, a ∈ ([0, 3, 9, 10, 30, 31, 32, 33, 34, 35, 36, 37, 38, 39, 40, 42, 43, 44, 46, 47, 48, 49, 50, 51, 52, 53, 54, 55, 56, 57, 58] : List Nat) → W a) (hM : zFr W M0 M) : zFf (fun r => zFr W M0 r.1) (f_X11_place M x1 x2) := by
  unfold f_X11_place
  refine zFf_bind (fr_X11_freshenGrid W M0 M (fun a h => hW a (zsub (by decide) h)) hM) (fun M_1 h_M_1 => ?_)
  refine zFf_ite ?_ ?_
  · refine zFf_bindP (fun r_14 => ?_)
    refine zFf_bindP (fun r_17 => ?_)
    exact zFf_some h_M_1
  · refine zFf_bindP (fun r_14 => ?_)
    refine zFf_bindP (fun r_17 => ?_)
    exact zFf_some h_M_1
theorem fr_X11_clash_L32 (W : Nat → Prop) (M0 : ZMem) (M : ZMem) (x1 : Int32) (x2 : Int32) (s : (Int32)) (hW : ∀ a, a ∈ ([] : List Nat) → W a) (hM : zFr W M0 M) : zFf (zlp (fun r => True) (fun r => zsel r (fun e => True) (fun e => zFr W M0 e.1))) (f_X11_clash_L32 M x1 x2 s) := by
  unfold f_X11_clash_L32
  refine zFf_bindP (fun r_37 => ?_)
  refine zFf_ite ?_ ?_
  · exact zFf_some trivial
  · refine zFf_bindP (fun r_46 => ?_)
    refine zFf_ite ?_ ?_
    · refine zFf_bnd (fun x3_60 _ => ?_)
      exact zFf_some trivial
    · refine zFf_bindP (fun r_56 => ?_)
      exact zFf_some hM
theorem fr_X11_clash_L17 (W : Nat → Prop) (M0 : ZMem) (M : ZMem) (x1 : Int32) (s : (Int32)) (hW : ∀ a, a ∈ ([] : List Nat) → W a) (hM : zFr W M0 M) : zFf (zlp (fun r => True) (fun r => zsel r (fun e => True) (fun e => zFr W M0 e.1))) (f_X11_clash_L17 M x1 s) := by
  unfold f_X11_clash_L17
  refine zFf_bindP (fun r_22 => ?_)
  refine zFf_ite ?_ ?_
  · exact zFf_some trivial
  · refine zFf_bnd (fun x3_31 _ => ?_)
    refine zFf_bind (zFf_loop (QS := (fun r => True)) (QE := (fun r => zsel r (fun e => True) (fun e => zFr W M0 e.1))) (fun z _ => fr_X11_clash_L32 W M0 M x1 s z (fun a h => hW a (zsub (by decide) h)) hM) trivial) (fun e32 h_e32 => ?_)
    cases e32 with
    | inl e32a =>
      refine zFf_selL ?_
      refine zFf_bnd (fun x2_66 _ => ?_)
      exact zFf_some trivial
    | inr e32b =>
      refine zFf_selR ?_
      exact zFf_some h_e32
theorem fr_X11_clash (W : Nat → Prop) (M0 : ZMem) (M : ZMem) (x1 : Int32) (hW : ∀ a, a ∈ ([0, 3, 9, 10, 30, 31, 32, 33, 34, 35, 36, 37, 38, 39, 40, 42, 43, 44, 46, 47, 48, 49, 50, 51, 52, 53, 54, 55, 56, 57, 58] : List Nat) → W a) (hM : zFr W M0 M) : zFf (fun r => zFr W M0 r.1) (f_X11_clash M x1) := by
  unfold f_X11_clash
  refine zFf_ite ?_ ?_
  · exact zFf_some hM
  · refine zFf_ite ?_ ?_
    · refine zFf_bind (fr_X11_freshenGrid W M0 M (fun a h => hW a (zsub (by decide) h)) hM) (fun M_12 h_M_12 => ?_)
      refine zFf_bind (zFf_loop (QS := (fun r => True)) (QE := (fun r => zsel r (fun e => True) (fun e => zFr W M0 e.1))) (fun z _ => fr_X11_clash_L17 W M0 M_12 x1 z (fun a h => hW a (zsub (by decide) h)) h_M_12) trivial) (fun e17 h_e17 => ?_)
      cases e17 with
      | inl e17a =>
        refine zFf_selL ?_
        exact zFf_some h_M_12
      | inr e17b =>
        refine zFf_selR ?_
        exact zFf_some h_e17
    · exact zFf_some hM
theorem fr_X11_clashes (W : Nat → Prop) (M0 : ZMem) (M : ZMem) (hW : ∀ a, a ∈ ([0, 3, 9, 10, 30, 31, 32, 33, 34, 35, 36, 37, 38, 39, 40, 42, 43, 44, 46, 47, 48, 49, 50, 51, 52, 53, 54, 55, 56, 57, 58] : List Nat) → W a) (hM : zFr W M0 M) : zFf (fun r => zFr W M0 r.1) (f_X11_clashes M) := by
  unfold f_X11_clashes
  refine zFf_bind (fr_X11_freshenGrid W M0 M (fun a h => hW a (zsub (by decide) h)) hM) (fun M_1 h_M_1 => ?_)
  refine zFf_bindP (fun e8 => ?_)
  exact zFf_some h_M_1
theorem fr_X11_guess (W : Nat → Prop) (M0 : ZMem) (M : ZMem) (x1 : Int32) (x2 : Int32) (x3 : Int32) (hW : ∀ a, a ∈ ([0, 3, 9, 10, 20, 26, 27, 28, 29, 30, 31, 32, 33, 34, 35, 36, 37, 38, 39, 40, 42, 43, 44, 46, 47, 48, 49, 50, 51, 52, 53, 54, 55, 56, 57, 58] : List Nat) → W a) (hM : zFr W M0 M) : zFf (fun r => zFr W M0 r.1) (f_X11_guess M x1 x2 x3) := by
  unfold f_X11_guess
  refine zFf_bindP (fun r_2 => ?_)
  refine zFf_bindP (fun r_12 => ?_)
  refine zFf_ite ?_ ?_
  · exact zFf_some hM
  · refine zFf_ite ?_ ?_
    · exact zFf_some hM
    · refine zFf_bind (fr_X1_tellGuess W M0 M x1 r_2 (fun a h => hW a (zsub (by decide) h)) hM) (fun r_32 h_r_32 => ?_)
      refine zFf_ite ?_ ?_
      · exact zFf_some h_r_32
      · refine zFf_bnd (fun M_42 e_M_42 => ?_)
        have h_M_42 : zFr W M0 M_42 := by rw [e_M_42]; exact (zFr_I h_r_32 (hW _ (by decide)))
        refine zFf_bind (fr_X11_freshenGrid W M0 M_42 (fun a h => hW a (zsub (by decide) h)) h_M_42) (fun M_46 h_M_46 => ?_)
        refine zFf_bindP (fun r_53 => ?_)
        exact zFf_some h_M_46
theorem fr_X11_known (W : Nat → Prop) (M0 : ZMem) (M : ZMem) (x1 : Int32) (x2 : Int32) (hW : ∀ a, a ∈ ([0, 3, 9, 10, 30, 31, 32, 33, 34, 35, 36, 37, 38, 39, 40, 42, 43, 44, 46, 47, 48, 49, 50, 51, 52, 53, 54, 55, 56, 57, 58] : List Nat) → W a) (hM : zFr W M0 M) : zFf (fun r => zFr W M0 r.1) (f_X11_known M x1 x2) := by
  unfold f_X11_known
  refine zFf_bind (fr_X11_freshenGrid W M0 M (fun a h => hW a (zsub (by decide) h)) hM) (fun M_1 h_M_1 => ?_)
  refine zFf_bindP (fun r_13 => ?_)
  refine zFf_bindP (fun r_17 => ?_)
  exact zFf_some h_M_1
theorem fr_X11_fits (W : Nat → Prop) (M0 : ZMem) (M : ZMem) (x1 : Int32) (x2 : Int32) (hW : ∀ a, a ∈ ([0, 3, 9, 10, 30, 31, 32, 33, 34, 35, 36, 37, 38, 39, 40, 42, 43, 44, 46, 47, 48, 49, 50, 51, 52, 53, 54, 55, 56, 57, 58] : List Nat) → W a) (hM : zFr W M0 M) : zFf (fun r => zFr W M0 r.1) (f_X11_fits M x1 x2) := by
  unfold f_X11_fits
  refine zFf_bindP (fun r_5 => ?_)
  refine zFf_ite ?_ ?_
  · exact zFf_some hM
  · refine zFf_bind (fr_X11_freshenGrid W M0 M (fun a h => hW a (zsub (by decide) h)) hM) (fun M_14 h_M_14 => ?_)
    refine zFf_ite ?_ ?_
    · refine zFf_bindP (fun r_27 => ?_)
      exact zFf_some h_M_14
    · refine zFf_bindP (fun r_39 => ?_)
      exact zFf_some h_M_14
theorem fr_X11_hits (W : Nat → Prop) (M0 : ZMem) (M : ZMem) (hW : ∀ a, a ∈ ([0, 3, 9, 10, 30, 31, 32, 33, 34, 35, 36, 37, 38, 39, 40, 42, 43, 44, 46, 47, 48, 49, 50, 51, 52, 53, 54, 55, 56, 57, 58] : List Nat) → W a) (hM : zFr W M0 M) : zFf (fun r => zFr W M0 r.1) (f_X11_hits M) := by
  unfold f_X11_hits
  refine zFf_bind (fr_X11_freshenGrid W M0 M (fun a h => hW a (zsub (by decide) h)) hM) (fun M_1 h_M_1 => ?_)
  refine zFf_bindP (fun r_8 => ?_)
  exact zFf_some h_M_1
theorem fr_X11_ways_41 (W : Nat → Prop) (M0 : ZMem) (M : ZMem) (x1 : Int32) (hW : ∀ a, a ∈ ([] : List Nat) → W a) (hM : zFr W M0 M) : zFf (fun r => zFr W M0 r.1) (f_X11_ways_41 M x1) := by
  unfold f_X11_ways_41
  refine zFf_ite ?_ ?_
  · refine zFf_bindP (fun r_50 => ?_)
    exact zFf_some hM
  · refine zFf_bindP (fun r_61 => ?_)
    exact zFf_some hM
theorem fr_X11_ways_18 (W : Nat → Prop) (M0 : ZMem) (M : ZMem) (x1 : Int32) (hW : ∀ a, a ∈ ([0, 3, 9, 10, 30, 31, 32, 33, 34, 35, 36, 37, 38, 39, 40, 42, 43, 44, 46, 47, 48, 49, 50, 51, 52, 53, 54, 55, 56, 57, 58, 59, 60, 61, 62, 63] : List Nat) → W a) (hM : zFr W M0 M) : zFf (fun r => zFr W M0 r.1) (f_X11_ways_18 M x1) := by
  unfold f_X11_ways_18
  refine zFf_bind (fr_X11_freshenGrid W M0 M (fun a h => hW a (zsub (by decide) h)) hM) (fun M_19 h_M_19 => ?_)
  refine zFf_ite ?_ ?_
  · exact fr_X11_ways_41 W M0 M_19 x1 (fun a h => hW a (zsub (by decide) h)) h_M_19
  · refine zFf_bind (fr_X10_settle W M0 M_19 (fun a h => hW a (zsub (by decide) h)) h_M_19) (fun M_33 h_M_33 => ?_)
    refine zFf_bnd (fun M_38 e_M_38 => ?_)
    have h_M_38 : zFr W M0 M_38 := by rw [e_M_38]; exact (zFr_I h_M_33 (hW _ (by decide)))
    exact fr_X11_ways_41 W M0 M_38 x1 (fun a h => hW a (zsub (by decide) h)) h_M_38
theorem fr_X11_ways (W : Nat → Prop) (M0 : ZMem) (M : ZMem) (x1 : Int32) (hW : ∀ a, a ∈ ([0, 3, 9, 10, 30, 31, 32, 33, 34, 35, 36, 37, 38, 39, 40, 42, 43, 44, 46, 47, 48, 49, 50, 51, 52, 53, 54, 55, 56, 57, 58, 59, 60, 61, 62, 63] : List Nat) → W a) (hM : zFr W M0 M) : zFf (fun r => zFr W M0 r.1) (f_X11_ways M x1) := by
  unfold f_X11_ways
  refine zFf_ite ?_ ?_
  · exact fr_X11_ways_18 W M0 M x1 (fun a h => hW a (zsub (by decide) h)) hM
  · refine zFf_bindP (fun r_10 => ?_)
    refine zFf_ite ?_ ?_
    · exact zFf_some hM
    · exact fr_X11_ways_18 W M0 M x1 (fun a h => hW a (zsub (by decide) h)) hM
theorem fr_X11_draws (W : Nat → Prop) (M0 : ZMem) (M : ZMem) (x1 : Int32) (hW : ∀ a, a ∈ ([0] : List Nat) → W a) (hM : zFr W M0 M) : zFf (fun r => zFr W M0 r.1) (f_X11_draws M x1) := by
  unfold f_X11_draws
  refine zFf_ite ?_ ?_
  · refine zFf_bnd (fun x2_10 _ => ?_)
    refine zFf_bnd (fun M_13 e_M_13 => ?_)
    have h_M_13 : zFr W M0 M_13 := by rw [e_M_13]; exact (zFr_I hM (hW _ (by decide)))
    exact zFf_some h_M_13
  · exact zFf_some hM
theorem fr_X11_test (W : Nat → Prop) (M0 : ZMem) (M : ZMem) (x1 : Int32) (hW : ∀ a, a ∈ ([0, 3, 9, 10, 30, 31, 32, 33, 34, 35, 36, 37, 38, 39, 40, 42, 43, 44, 46, 47, 48, 49, 50, 51, 52, 53, 54, 55, 56, 57, 58] : List Nat) → W a) (hM : zFr W M0 M) : zFf (fun r => zFr W M0 r.1) (f_X11_test M x1) := by
  unfold f_X11_test
  refine zFf_ite ?_ ?_
  · exact zFf_some hM
  · refine zFf_ite ?_ ?_
    · refine zFf_bind (fr_X11_freshenGrid W M0 M (fun a h => hW a (zsub (by decide) h)) hM) (fun M_14 h_M_14 => ?_)
      refine zFf_bind (fr_X3_asGoodByChance W M0 M_14 x1 (M_14.1 0 12) (fun a h => hW a (zsub (by decide) h)) h_M_14) (fun r_26 h_r_26 => ?_)
      exact zFf_some h_r_26
    · exact zFf_some hM
theorem fr_X11_undo_38 (W : Nat → Prop) (M0 : ZMem) (M : ZMem) (hW : ∀ a, a ∈ ([] : List Nat) → W a) (hM : zFr W M0 M) : zFf (fun r => zFr W M0 r.1) (f_X11_undo_38 M) := by
  unfold f_X11_undo_38
  refine zFf_bindP (fun r_42 => ?_)
  exact zFf_some hM
theorem fr_X11_undo_25 (W : Nat → Prop) (M0 : ZMem) (M : ZMem) (hW : ∀ a, a ∈ ([0] : List Nat) → W a) (hM : zFr W M0 M) : zFf (fun r => zFr W M0 r.1) (f_X11_undo_25 M) := by
  unfold f_X11_undo_25
  refine zFf_bnd (fun M_27 e_M_27 => ?_)
  have h_M_27 : zFr W M0 M_27 := by rw [e_M_27]; exact (zFr_I hM (hW _ (by decide)))
  exact fr_X11_undo_38 W M0 M_27 (fun a h => hW a (zsub (by decide) h)) h_M_27
theorem fr_X11_undo (W : Nat → Prop) (M0 : ZMem) (M : ZMem) (hW : ∀ a, a ∈ ([0, 20, 21, 22, 26] : List Nat) → W a) (hM : zFr W M0 M) : zFf (fun r => zFr W M0 r.1) (f_X11_undo M) := by
  unfold f_X11_undo
  refine zFf_bind (fr_X1_undoLast W M0 M (fun a h => hW a (zsub (by decide) h)) hM) (fun r_4 h_r_4 => ?_)
  refine zFf_ite ?_ ?_
  · exact zFf_some h_r_4
  · refine zFf_ite ?_ ?_
    · exact fr_X11_undo_25 W M0 r_4.1 (fun a h => hW a (zsub (by decide) h)) h_r_4
    · refine zFf_ite ?_ ?_
      · exact fr_X11_undo_25 W M0 r_4.1 (fun a h => hW a (zsub (by decide) h)) h_r_4
      · refine zFf_bnd (fun M_35 e_M_35 => ?_)
        have h_M_35 : zFr W M0 M_35 := by rw [e_M_35]; exact (zFr_I h_r_4 (hW _ (by decide)))
        exact fr_X11_undo_38 W M0 M_35 (fun a h => hW a (zsub (by decide) h)) h_M_35
theorem fr_X11_count (W : Nat → Prop) (M0 : ZMem) (M : ZMem) (x1 : Int32) (hW : ∀ a, a ∈ ([0, 3, 9, 10, 30, 31, 32, 33, 34, 35, 36, 37, 38, 39, 40, 42, 43, 44, 46, 47, 48, 49, 50, 51, 52, 53, 54, 55, 56, 57, 58] : List Nat) → W a) (hM : zFr W M0 M) : zFf (fun r => zFr W M0 r.1) (f_X11_count M x1) := by
  unfold f_X11_count
  refine zFf_bind (fr_X11_freshenGrid W M0 M (fun a h => hW a (zsub (by decide) h)) hM) (fun M_1 h_M_1 => ?_)
  refine zFf_ite ?_ ?_
  · refine zFf_bindP (fun r_96 => ?_)
    exact zFf_some h_M_1
  · refine zFf_ite ?_ ?_
    · refine zFf_bindP (fun r_104 => ?_)
      exact zFf_some h_M_1
    · refine zFf_ite ?_ ?_
      · refine zFf_bindP (fun r_112 => ?_)
        exact zFf_some h_M_1
      · refine zFf_ite ?_ ?_
        · refine zFf_bindP (fun r_120 => ?_)
          exact zFf_some h_M_1
        · refine zFf_ite ?_ ?_
          · refine zFf_bindP (fun r_128 => ?_)
            exact zFf_some h_M_1
          · refine zFf_ite ?_ ?_
            · refine zFf_bindP (fun r_136 => ?_)
              exact zFf_some h_M_1
            · refine zFf_ite ?_ ?_
              · refine zFf_bindP (fun r_145 => ?_)
                exact zFf_some h_M_1
              · refine zFf_ite ?_ ?_
                · refine zFf_bindP (fun r_154 => ?_)
                  exact zFf_some h_M_1
                · refine zFf_ite ?_ ?_
                  · refine zFf_bindP (fun r_163 => ?_)
                    exact zFf_some h_M_1
                  · refine zFf_ite ?_ ?_
                    · refine zFf_bindP (fun r_171 => ?_)
                      exact zFf_some h_M_1
                    · refine zFf_ite ?_ ?_
                      · refine zFf_bindP (fun r_183 => ?_)
                        exact zFf_some h_M_1
                      · refine zFf_ite ?_ ?_
                        · refine zFf_bindP (fun r_195 => ?_)
                          exact zFf_some h_M_1
                        · refine zFf_ite ?_ ?_
                          · refine zFf_bindP (fun r_203 => ?_)
                            exact zFf_some h_M_1
                          · refine zFf_ite ?_ ?_
                            · refine zFf_bindP (fun r_211 => ?_)
                              exact zFf_some h_M_1
                            · refine zFf_ite ?_ ?_
                              · refine zFf_bindP (fun r_219 => ?_)
                                exact zFf_some h_M_1
                              · refine zFf_ite ?_ ?_
                                · refine zFf_bindP (fun r_227 => ?_)
                                  exact zFf_some h_M_1
                                · refine zFf_ite ?_ ?_
                                  · exact zFf_some h_M_1
                                  · refine zFf_ite ?_ ?_
                                    · refine zFf_bindP (fun r_240 => ?_)
                                      exact zFf_some h_M_1
                                    · exact zFf_some h_M_1
theorem fr_X12_puts_L3 (W : Nat → Prop) (M0 : ZMem) (x1 : Int32) (s : (ZMem × Int32)) (hW : ∀ a, a ∈ ([0, 1] : List Nat) → W a) (hs : zFr W M0 s.1) : zFf (zlp (fun r => zFr W M0 r.1) (fun r => zFr W M0 r)) (f_X12_puts_L3 x1 s) := by
  unfold f_X12_puts_L3
  refine zFf_ite ?_ ?_
  · exact zFf_some hs
  · refine zFf_chk ?_
    refine zFf_bnd (fun M_19 e_M_19 => ?_)
    have h_M_19 : zFr W M0 M_19 := by rw [e_M_19]; exact (zFr_I hs (hW _ (by decide)))
    refine zFf_bnd (fun M_27 e_M_27 => ?_)
    have h_M_27 : zFr W M0 M_27 := by rw [e_M_27]; exact (zFr_I h_M_19 (hW _ (by decide)))
    refine zFf_bnd (fun x2_30 _ => ?_)
    exact zFf_some h_M_27
theorem fr_X12_puts (W : Nat → Prop) (M0 : ZMem) (M : ZMem) (x1 : Int32) (hW : ∀ a, a ∈ ([0, 1] : List Nat) → W a) (hM : zFr W M0 M) : zFf (fun r => zFr W M0 r) (f_X12_puts M x1) := by
  unfold f_X12_puts
  refine zFf_bind (zFf_loop (QS := (fun r => zFr W M0 r.1)) (QE := (fun r => zFr W M0 r)) (fun z hz => fr_X12_puts_L3 W M0 x1 z (fun a h => hW a (zsub (by decide) h)) hz) hM) (fun e3 h_e3 => ?_)
  exact zFf_some h_e3
theorem fr_X12_feed (W : Nat → Prop) (M0 : ZMem) (M : ZMem) (x1 : Int32) (x2 : Int32) (x3 : Int32) (x4 : Int32) (x5 : Int32) (hW : ∀ a, a ∈ ([0, 1] : List Nat) → W a) (hM : zFr W M0 M) : zFf (fun r => zFr W M0 r.1) (f_X12_feed M x1 x2 x3 x4 x5) := by
  unfold f_X12_feed
  refine zFf_ite ?_ ?_
  · refine zFf_bind (fr_X12_puts W M0 M x1 (fun a h => hW a (zsub (by decide) h)) hM) (fun M_17 h_M_17 => ?_)
    refine zFf_bind (fr_X12_puts W M0 M_17 x2 (fun a h => hW a (zsub (by decide) h)) h_M_17) (fun M_22 h_M_22 => ?_)
    refine zFf_bind (fr_X12_puts W M0 M_22 x3 (fun a h => hW a (zsub (by decide) h)) h_M_22) (fun M_27 h_M_27 => ?_)
    refine zFf_bind (fr_X12_puts W M0 M_27 x4 (fun a h => hW a (zsub (by decide) h)) h_M_27) (fun M_33 h_M_33 => ?_)
    refine zFf_bind (fr_X12_puts W M0 M_33 x5 (fun a h => hW a (zsub (by decide) h)) h_M_33) (fun M_39 h_M_39 => ?_)
    exact zFf_some h_M_39
  · exact zFf_some hM
theorem fr_X12_end (W : Nat → Prop) (M0 : ZMem) (M : ZMem) (x1 : Int32) (hW : ∀ a, a ∈ ([0] : List Nat) → W a) (hM : zFr W M0 M) : zFf (fun r => zFr W M0 r.1) (f_X12_end M x1) := by
  unfold f_X12_end
  refine zFf_ite ?_ ?_
  · exact zFf_some hM
  · refine zFf_ite ?_ ?_
    · refine zFf_bnd (fun M_16 e_M_16 => ?_)
      have h_M_16 : zFr W M0 M_16 := by rw [e_M_16]; exact (zFr_I hM (hW _ (by decide)))
      exact zFf_some h_M_16
    · exact zFf_some hM
theorem fr_X12_fails (W : Nat → Prop) (M0 : ZMem) (M : ZMem) (x1 : Int32) (x2 : Int32) (hW : ∀ a, a ∈ ([0] : List Nat) → W a) (hM : zFr W M0 M) : zFf (fun r => zFr W M0 r) (f_X12_fails M x1 x2) := by
  unfold f_X12_fails
  refine zFf_ite ?_ ?_
  · refine zFf_bnd (fun M_15 e_M_15 => ?_)
    have h_M_15 : zFr W M0 M_15 := by rw [e_M_15]; exact (zFr_I hM (hW _ (by decide)))
    exact zFf_some h_M_15
  · exact zFf_some hM
theorem fr_X12_blanks_L0 (W : Nat → Prop) (M0 : ZMem) (s : (ZMem)) (hW : ∀ a, a ∈ ([0] : List Nat) → W a) (hs : zFr W M0 s) : zFf (zlp (fun r => zFr W M0 r) (fun r => zFr W M0 r)) (f_X12_blanks_L0 s) := by
  unfold f_X12_blanks_L0
  refine zFf_bindP (fun r_1 => ?_)
  refine zFf_ite ?_ ?_
  · refine zFf_bnd (fun M_16 e_M_16 => ?_)
    have h_M_16 : zFr W M0 M_16 := by rw [e_M_16]; exact (zFr_I hs (hW _ (by decide)))
    exact zFf_some h_M_16
  · exact zFf_some hs
theorem fr_X12_blanks (W : Nat → Prop) (M0 : ZMem) (M : ZMem) (hW : ∀ a, a ∈ ([0] : List Nat) → W a) (hM : zFr W M0 M) : zFf (fun r => zFr W M0 r) (f_X12_blanks M) := by
  unfold f_X12_blanks
  refine zFf_bind (zFf_loop (QS := (fun r => zFr W M0 r)) (QE := (fun r => zFr W M0 r)) (fun z hz => fr_X12_blanks_L0 W M0 z (fun a h => hW a (zsub (by decide) h)) hz) hM) (fun e0 h_e0 => ?_)
  exact zFf_some h_e0
theorem fr_X12_starts (W : Nat → Prop) (M0 : ZMem) (M : ZMem) (hW : ∀ a, a ∈ ([0] : List Nat) → W a) (hM : zFr W M0 M) : zFf (fun r => zFr W M0 r) (f_X12_starts M) := by
  unfold f_X12_starts
  refine zFf_bnd (fun M_2 e_M_2 => ?_)
  have h_M_2 : zFr W M0 M_2 := by rw [e_M_2]; exact (zFr_I hM (hW _ (by decide)))
  refine zFf_bnd (fun M_7 e_M_7 => ?_)
  have h_M_7 : zFr W M0 M_7 := by rw [e_M_7]; exact (zFr_I h_M_2 (hW _ (by decide)))
  exact zFf_some h_M_7
theorem fr_X12_numberTaken_L29 (W : Nat → Prop) (M0 : ZMem) (x1 : Int32) (s : (ZMem × Int32)) (hW : ∀ a, a ∈ ([0] : List Nat) → W a) (hs : zFr W M0 s.1) : zFf (zlp (fun r => zFr W M0 r.1) (fun r => zFr W M0 r.1)) (f_X12_numberTaken_L29 x1 s) := by
  unfold f_X12_numberTaken_L29
  refine zFf_bindP (fun r_30 => ?_)
  refine zFf_ite ?_ ?_
  · exact zFf_some hs
  · refine zFf_bindP (fun r_44 => ?_)
    refine zFf_bnd (fun x2_54 _ => ?_)
    refine zFf_bnd (fun M_62 e_M_62 => ?_)
    have h_M_62 : zFr W M0 M_62 := by rw [e_M_62]; exact (zFr_I hs (hW _ (by decide)))
    exact zFf_some h_M_62
theorem fr_X12_numberTaken (W : Nat → Prop) (M0 : ZMem) (M : ZMem) (hW : ∀ a, a ∈ ([0] : List Nat) → W a) (hM : zFr W M0 M) : zFf (fun r => zFr W M0 r.1) (f_X12_numberTaken M) := by
  unfold f_X12_numberTaken
  refine zFf_bind (fr_X12_blanks W M0 M (fun a h => hW a (zsub (by decide) h)) hM) (fun M_1 h_M_1 => ?_)
  refine zFf_bnd (fun x1_8 _ => ?_)
  refine zFf_bindP (fun r_10 => ?_)
  refine zFf_ite ?_ ?_
  · refine zFf_bind (fr_X12_fails W M0 M_1 (zI 1) (M_1.1 0 2) (fun a h => hW a (zsub (by decide) h)) h_M_1) (fun M_22 h_M_22 => ?_)
    exact zFf_some h_M_22
  · refine zFf_bind (zFf_loop (QS := (fun r => zFr W M0 r.1)) (QE := (fun r => zFr W M0 r.1)) (fun z hz => fr_X12_numberTaken_L29 W M0 x1_8 z (fun a h => hW a (zsub (by decide) h)) hz) h_M_1) (fun e29 h_e29 => ?_)
    refine zFf_ite ?_ ?_
    · exact zFf_some h_e29
    · refine zFf_bind (fr_X12_fails W M0 e29.1 (zI 2) x1_8 (fun a h => hW a (zsub (by decide) h)) h_e29) (fun M_77 h_M_77 => ?_)
      exact zFf_some h_M_77
theorem fr_X12_readsForm_L7 (W : Nat → Prop) (M0 : ZMem) (x1 : Int32) (s : (ZMem × Int32)) (hW : ∀ a, a ∈ ([0, 3] : List Nat) → W a) (hs : zFr W M0 s.1) : zFf (zlp (fun r => zFr W M0 r.1) (fun r => zFr W M0 r)) (f_X12_readsForm_L7 x1 s) := by
  unfold f_X12_readsForm_L7
  refine zFf_ite ?_ ?_
  · exact zFf_some hs
  · refine zFf_bindP (fun r_13 => ?_)
    refine zFf_ite ?_ ?_
    · exact zFf_some hs
    · refine zFf_bind (fr_X12_numberTaken W M0 s.1 (fun a h => hW a (zsub (by decide) h)) hs) (fun r_32 h_r_32 => ?_)
      refine zFf_chk ?_
      refine zFf_bnd (fun M_35 e_M_35 => ?_)
      have h_M_35 : zFr W M0 M_35 := by rw [e_M_35]; exact (zFr_I h_r_32 (hW _ (by decide)))
      refine zFf_ite ?_ ?_
      · refine zFf_bind (fr_X12_fails W M0 M_35 (zI 3) x1 (fun a h => hW a (zsub (by decide) h)) h_M_35) (fun M_48 h_M_48 => ?_)
        refine zFf_bnd (fun x2_51 _ => ?_)
        exact zFf_some h_M_48
      · refine zFf_bnd (fun x2_51 _ => ?_)
        exact zFf_some h_M_35
theorem fr_X12_readsForm_116 (W : Nat → Prop) (M0 : ZMem) (M : ZMem) (hW : ∀ a, a ∈ ([0] : List Nat) → W a) (hM : zFr W M0 M) : zFf (fun r => zFr W M0 r) (f_X12_readsForm_116 M) := by
  unfold f_X12_readsForm_116
  refine zFf_bnd (fun M_123 e_M_123 => ?_)
  have h_M_123 : zFr W M0 M_123 := by rw [e_M_123]; exact (zFr_I hM (hW _ (by decide)))
  exact zFf_some h_M_123
theorem fr_X12_readsForm_96 (W : Nat → Prop) (M0 : ZMem) (M : ZMem) (x1 : Int32) (hW : ∀ a, a ∈ ([0] : List Nat) → W a) (hM : zFr W M0 M) : zFf (fun r => zFr W M0 r) (f_X12_readsForm_96 M x1) := by
  unfold f_X12_readsForm_96
  refine zFf_bindP (fun r_97 => ?_)
  refine zFf_ite ?_ ?_
  · exact fr_X12_readsForm_116 W M0 M (fun a h => hW a (zsub (by decide) h)) hM
  · refine zFf_bindP (fun r_104 => ?_)
    refine zFf_ite ?_ ?_
    · exact fr_X12_readsForm_116 W M0 M (fun a h => hW a (zsub (by decide) h)) hM
    · refine zFf_bind (fr_X12_fails W M0 M (zI 4) x1 (fun a h => hW a (zsub (by decide) h)) hM) (fun M_113 h_M_113 => ?_)
      exact fr_X12_readsForm_116 W M0 M_113 (fun a h => hW a (zsub (by decide) h)) h_M_113
theorem fr_X12_readsForm_86 (W : Nat → Prop) (M0 : ZMem) (M : ZMem) (x1 : Int32) (hW : ∀ a, a ∈ ([0] : List Nat) → W a) (hM : zFr W M0 M) : zFf (fun r => zFr W M0 r) (f_X12_readsForm_86 M x1) := by
  unfold f_X12_readsForm_86
  refine zFf_bnd (fun M_93 e_M_93 => ?_)
  have h_M_93 : zFr W M0 M_93 := by rw [e_M_93]; exact (zFr_I hM (hW _ (by decide)))
  exact fr_X12_readsForm_96 W M0 M_93 x1 (fun a h => hW a (zsub (by decide) h)) h_M_93
theorem fr_X12_readsForm (W : Nat → Prop) (M0 : ZMem) (M : ZMem) (hW : ∀ a, a ∈ ([0, 3] : List Nat) → W a) (hM : zFr W M0 M) : zFf (fun r => zFr W M0 r) (f_X12_readsForm M) := by
  unfold f_X12_readsForm
  refine zFf_bnd (fun x1_4 _ => ?_)
  refine zFf_bind (zFf_loop (QS := (fun r => zFr W M0 r.1)) (QE := (fun r => zFr W M0 r)) (fun z hz => fr_X12_readsForm_L7 W M0 x1_4 z (fun a h => hW a (zsub (by decide) h)) hz) hM) (fun e7 h_e7 => ?_)
  refine zFf_bindP (fun r_58 => ?_)
  refine zFf_ite ?_ ?_
  · exact fr_X12_readsForm_96 W M0 e7 x1_4 (fun a h => hW a (zsub (by decide) h)) h_e7
  · refine zFf_bind (fr_X12_blanks W M0 e7 (fun a h => hW a (zsub (by decide) h)) h_e7) (fun M_65 h_M_65 => ?_)
    refine zFf_bindP (fun r_69 => ?_)
    refine zFf_ite ?_ ?_
    · exact fr_X12_readsForm_86 W M0 M_65 x1_4 (fun a h => hW a (zsub (by decide) h)) h_M_65
    · refine zFf_bind (fr_X12_fails W M0 M_65 (zI 1) (M_65.1 0 2) (fun a h => hW a (zsub (by decide) h)) h_M_65) (fun M_83 h_M_83 => ?_)
      exact fr_X12_readsForm_86 W M0 M_83 x1_4 (fun a h => hW a (zsub (by decide) h)) h_M_83
theorem fr_X12_clearsTold_L2 (W : Nat → Prop) (M0 : ZMem) (s : (ZMem × Int32)) (hW : ∀ a, a ∈ ([9] : List Nat) → W a) (hs : zFr W M0 s.1) : zFf (zlp (fun r => zFr W M0 r.1) (fun r => zFr W M0 r)) (f_X12_clearsTold_L2 s) := by
  unfold f_X12_clearsTold_L2
  refine zFf_ite ?_ ?_
  · exact zFf_some hs
  · refine zFf_chk ?_
    refine zFf_bnd (fun M_15 e_M_15 => ?_)
    have h_M_15 : zFr W M0 M_15 := by rw [e_M_15]; exact (zFr_I hs (hW _ (by decide)))
    refine zFf_bnd (fun x1_16 _ => ?_)
    exact zFf_some h_M_15
theorem fr_X12_clearsTold_L45 (W : Nat → Prop) (M0 : ZMem) (s : (ZMem × Int32)) (hW : ∀ a, a ∈ ([9] : List Nat) → W a) (hs : zFr W M0 s.1) : zFf (zlp (fun r => zFr W M0 r.1) (fun r => zFr W M0 r)) (f_X12_clearsTold_L45 s) := by
  unfold f_X12_clearsTold_L45
  refine zFf_ite ?_ ?_
  · exact zFf_some hs
  · refine zFf_chk ?_
    refine zFf_bnd (fun M_59 e_M_59 => ?_)
    have h_M_59 : zFr W M0 M_59 := by rw [e_M_59]; exact (zFr_I hs (hW _ (by decide)))
    refine zFf_bnd (fun x1_60 _ => ?_)
    exact zFf_some h_M_59
theorem fr_X12_clearsTold (W : Nat → Prop) (M0 : ZMem) (M : ZMem) (hW : ∀ a, a ∈ ([0, 9] : List Nat) → W a) (hM : zFr W M0 M) : zFf (fun r => zFr W M0 r) (f_X12_clearsTold M) := by
  unfold f_X12_clearsTold
  refine zFf_bind (zFf_loop (QS := (fun r => zFr W M0 r.1)) (QE := (fun r => zFr W M0 r)) (fun z hz => fr_X12_clearsTold_L2 W M0 z (fun a h => hW a (zsub (by decide) h)) hz) hM) (fun e2 h_e2 => ?_)
  refine zFf_bnd (fun M_28 e_M_28 => ?_)
  have h_M_28 : zFr W M0 M_28 := by rw [e_M_28]; exact (zFr_I h_e2 (hW _ (by decide)))
  refine zFf_bnd (fun M_35 e_M_35 => ?_)
  have h_M_35 : zFr W M0 M_35 := by rw [e_M_35]; exact (zFr_I h_M_28 (hW _ (by decide)))
  refine zFf_bnd (fun M_42 e_M_42 => ?_)
  have h_M_42 : zFr W M0 M_42 := by rw [e_M_42]; exact (zFr_I h_M_35 (hW _ (by decide)))
  refine zFf_bind (zFf_loop (QS := (fun r => zFr W M0 r.1)) (QE := (fun r => zFr W M0 r)) (fun z hz => fr_X12_clearsTold_L45 W M0 z (fun a h => hW a (zsub (by decide) h)) hz) h_M_42) (fun e45 h_e45 => ?_)
  refine zFf_bnd (fun M_68 e_M_68 => ?_)
  have h_M_68 : zFr W M0 M_68 := by rw [e_M_68]; exact (zFr_I h_e45 (hW _ (by decide)))
  refine zFf_bnd (fun M_73 e_M_73 => ?_)
  have h_M_73 : zFr W M0 M_73 := by rw [e_M_73]; exact (zFr_I h_M_68 (hW _ (by decide)))
  exact zFf_some h_M_73
theorem fr_X12_forms_L13 (W : Nat → Prop) (M0 : ZMem) (s : (ZMem)) (hW : ∀ a, a ∈ ([0, 3] : List Nat) → W a) (hs : zFr W M0 s) : zFf (zlp (fun r => zFr W M0 r) (fun r => zFr W M0 r)) (f_X12_forms_L13 s) := by
  unfold f_X12_forms_L13
  refine zFf_bindP (fun r_14 => ?_)
  refine zFf_ite ?_ ?_
  · exact zFf_some hs
  · refine zFf_bindP (fun r_21 => ?_)
    refine zFf_ite ?_ ?_
    · exact zFf_some hs
    · refine zFf_bind (fr_X12_readsForm W M0 s (fun a h => hW a (zsub (by decide) h)) hs) (fun M_29 h_M_29 => ?_)
      refine zFf_bind (fr_X12_blanks W M0 M_29 (fun a h => hW a (zsub (by decide) h)) h_M_29) (fun M_33 h_M_33 => ?_)
      exact zFf_some h_M_33
theorem fr_X12_forms_L69 (W : Nat → Prop) (M0 : ZMem) (s : (ZMem × Int32)) (hW : ∀ a, a ∈ ([2] : List Nat) → W a) (hs : zFr W M0 s.1) : zFf (zlp (fun r => zFr W M0 r.1) (fun r => zFr W M0 r)) (f_X12_forms_L69 s) := by
  unfold f_X12_forms_L69
  refine zFf_ite ?_ ?_
  · exact zFf_some hs
  · refine zFf_chk ?_
    refine zFf_chk ?_
    refine zFf_bnd (fun M_90 e_M_90 => ?_)
    have h_M_90 : zFr W M0 M_90 := by rw [e_M_90]; exact (zFr_I hs (hW _ (by decide)))
    refine zFf_bnd (fun x1_91 _ => ?_)
    exact zFf_some h_M_90
theorem fr_X12_forms (W : Nat → Prop) (M0 : ZMem) (M : ZMem) (hW : ∀ a, a ∈ ([0, 2, 3, 9] : List Nat) → W a) (hM : zFr W M0 M) : zFf (fun r => zFr W M0 r.1) (f_X12_forms M) := by
  unfold f_X12_forms
  refine zFf_bind (fr_X12_starts W M0 M (fun a h => hW a (zsub (by decide) h)) hM) (fun M_1 h_M_1 => ?_)
  refine zFf_bnd (fun M_6 e_M_6 => ?_)
  have h_M_6 : zFr W M0 M_6 := by rw [e_M_6]; exact (zFr_I h_M_1 (hW _ (by decide)))
  refine zFf_bind (fr_X12_blanks W M0 M_6 (fun a h => hW a (zsub (by decide) h)) h_M_6) (fun M_10 h_M_10 => ?_)
  refine zFf_bind (zFf_loop (QS := (fun r => zFr W M0 r)) (QE := (fun r => zFr W M0 r)) (fun z hz => fr_X12_forms_L13 W M0 z (fun a h => hW a (zsub (by decide) h)) hz) h_M_10) (fun e13 h_e13 => ?_)
  refine zFf_bnd (fun M_41 e_M_41 => ?_)
  have h_M_41 : zFr W M0 M_41 := by rw [e_M_41]; exact (zFr_I h_e13 (hW _ (by decide)))
  refine zFf_bindP (fun r_45 => ?_)
  refine zFf_ite ?_ ?_
  · exact zFf_some h_M_41
  · refine zFf_bnd (fun M_64 e_M_64 => ?_)
    have h_M_64 : zFr W M0 M_64 := by rw [e_M_64]; exact (zFr_I h_M_41 (hW _ (by decide)))
    refine zFf_bind (zFf_loop (QS := (fun r => zFr W M0 r.1)) (QE := (fun r => zFr W M0 r)) (fun z hz => fr_X12_forms_L69 W M0 z (fun a h => hW a (zsub (by decide) h)) hz) h_M_64) (fun e69 h_e69 => ?_)
    refine zFf_bnd (fun M_99 e_M_99 => ?_)
    have h_M_99 : zFr W M0 M_99 := by rw [e_M_99]; exact (zFr_I h_e69 (hW _ (by decide)))
    refine zFf_bind (fr_X12_clearsTold W M0 M_99 (fun a h => hW a (zsub (by decide) h)) h_M_99) (fun M_103 h_M_103 => ?_)
    exact zFf_some h_M_103
theorem fr_X12_placeTaken_87 (W : Nat → Prop) (M0 : ZMem) (M : ZMem) (x1 : Int32) (v1 : Int32) (v2 : Int32) (hW : ∀ a, a ∈ ([0, 5, 6] : List Nat) → W a) (hM : zFr W M0 M) : zFf (fun r => zFr W M0 r) (f_X12_placeTaken_87 M x1 v1 v2) := by
  unfold f_X12_placeTaken_87
  refine zFf_chk ?_
  refine zFf_bnd (fun M_87 e_M_87 => ?_)
  have h_M_87 : zFr W M0 M_87 := by rw [e_M_87]; exact (zFr_I hM (hW _ (by decide)))
  refine zFf_chk ?_
  refine zFf_chk ?_
  refine zFf_bnd (fun M_97 e_M_97 => ?_)
  have h_M_97 : zFr W M0 M_97 := by rw [e_M_97]; exact (zFr_I h_M_87 (hW _ (by decide)))
  refine zFf_bnd (fun M_105 e_M_105 => ?_)
  have h_M_105 : zFr W M0 M_105 := by rw [e_M_105]; exact (zFr_I h_M_97 (hW _ (by decide)))
  exact zFf_some h_M_105
theorem fr_X12_placeTaken_52 (W : Nat → Prop) (M0 : ZMem) (M : ZMem) (x1 : Int32) (x2 : Int32) (hW : ∀ a, a ∈ ([0, 5, 6] : List Nat) → W a) (hM : zFr W M0 M) : zFf (fun r => zFr W M0 r) (f_X12_placeTaken_52 M x1 x2) := by
  unfold f_X12_placeTaken_52
  refine zFf_bindP (fun r_53 => ?_)
  refine zFf_ite ?_ ?_
  · exact zFf_some hM
  · refine zFf_bindP (fun r_70 => ?_)
    refine zFf_ite ?_ ?_
    · exact fr_X12_placeTaken_87 W M0 M x1 (((zI 10) * x1) + x2) (zI (-1)) (fun a h => hW a (zsub (by decide) h)) hM
    · refine zFf_bindP (fun r_77 => ?_)
      exact fr_X12_placeTaken_87 W M0 M x1 (((zI 10) * x1) + x2) (r_77 - (zI 97)) (fun a h => hW a (zsub (by decide) h)) hM
theorem fr_X12_placeTaken_37 (W : Nat → Prop) (M0 : ZMem) (M : ZMem) (x1 : Int32) (x2 : Int32) (hW : ∀ a, a ∈ ([0, 5, 6] : List Nat) → W a) (hM : zFr W M0 M) : zFf (fun r => zFr W M0 r) (f_X12_placeTaken_37 M x1 x2) := by
  unfold f_X12_placeTaken_37
  refine zFf_ite ?_ ?_
  · refine zFf_bind (fr_X12_fails W M0 M (zI 3) (M.1 0 2) (fun a h => hW a (zsub (by decide) h)) hM) (fun M_49 h_M_49 => ?_)
    exact fr_X12_placeTaken_52 W M0 M_49 x1 x2 (fun a h => hW a (zsub (by decide) h)) h_M_49
  · exact fr_X12_placeTaken_52 W M0 M x1 x2 (fun a h => hW a (zsub (by decide) h)) hM
theorem fr_X12_placeTaken (W : Nat → Prop) (M0 : ZMem) (M : ZMem) (x1 : Int32) (hW : ∀ a, a ∈ ([0, 5, 6] : List Nat) → W a) (hM : zFr W M0 M) : zFf (fun r => zFr W M0 r) (f_X12_placeTaken M x1) := by
  unfold f_X12_placeTaken
  refine zFf_chk ?_
  refine zFf_bnd (fun x2_6 _ => ?_)
  refine zFf_bindP (fun r_8 => ?_)
  refine zFf_ite ?_ ?_
  · exact fr_X12_placeTaken_37 W M0 M x1 x2_6 (fun a h => hW a (zsub (by decide) h)) hM
  · refine zFf_bindP (fun r_15 => ?_)
    refine zFf_ite ?_ ?_
    · exact fr_X12_placeTaken_37 W M0 M x1 x2_6 (fun a h => hW a (zsub (by decide) h)) hM
    · refine zFf_bind (fr_X12_fails W M0 M (zI 2) (M.1 0 2) (fun a h => hW a (zsub (by decide) h)) hM) (fun M_34 h_M_34 => ?_)
      exact fr_X12_placeTaken_37 W M0 M_34 x1 x2_6 (fun a h => hW a (zsub (by decide) h)) h_M_34
theorem fr_X12_readsRow_L103 (W : Nat → Prop) (M0 : ZMem) (x2 : Int32) (s : (ZMem)) (hW : ∀ a, a ∈ ([0, 5, 6] : List Nat) → W a) (hs : zFr W M0 s) : zFf (zlp (fun r => zFr W M0 r) (fun r => zFr W M0 r)) (f_X12_readsRow_L103 x2 s) := by
  unfold f_X12_readsRow_L103
  refine zFf_bindP (fun r_104 => ?_)
  refine zFf_ite ?_ ?_
  · exact zFf_some hs
  · refine zFf_bindP (fun r_111 => ?_)
    refine zFf_ite ?_ ?_
    · refine zFf_bind (fr_X12_placeTaken W M0 s x2 (fun a h => hW a (zsub (by decide) h)) hs) (fun M_121 h_M_121 => ?_)
      exact zFf_some h_M_121
    · exact zFf_some hs
theorem fr_X12_readsRow_L150 (W : Nat → Prop) (M0 : ZMem) (x2 : Int32) (s : (ZMem)) (hW : ∀ a, a ∈ ([0, 5, 6] : List Nat) → W a) (hs : zFr W M0 s) : zFf (zlp (fun r => zFr W M0 r) (fun r => zFr W M0 r)) (f_X12_readsRow_L150 x2 s) := by
  unfold f_X12_readsRow_L150
  refine zFf_bindP (fun r_151 => ?_)
  refine zFf_ite ?_ ?_
  · exact zFf_some hs
  · refine zFf_bindP (fun r_158 => ?_)
    refine zFf_ite ?_ ?_
    · exact zFf_some hs
    · refine zFf_bind (fr_X12_placeTaken W M0 s x2 (fun a h => hW a (zsub (by decide) h)) hs) (fun M_166 h_M_166 => ?_)
      exact zFf_some h_M_166
theorem fr_X12_readsRow_L172 (W : Nat → Prop) (M0 : ZMem) (x2 : Int32) (s : (ZMem)) (hW : ∀ a, a ∈ ([0, 5, 6] : List Nat) → W a) (hs : zFr W M0 s) : zFf (zlp (fun r => zFr W M0 r) (fun r => zFr W M0 r)) (f_X12_readsRow_L172 x2 s) := by
  unfold f_X12_readsRow_L172
  refine zFf_bindP (fun r_173 => ?_)
  refine zFf_ite ?_ ?_
  · exact zFf_some hs
  · refine zFf_bindP (fun r_180 => ?_)
    refine zFf_ite ?_ ?_
    · refine zFf_bind (fr_X12_placeTaken W M0 s x2 (fun a h => hW a (zsub (by decide) h)) hs) (fun M_190 h_M_190 => ?_)
      exact zFf_some h_M_190
    · exact zFf_some hs
theorem fr_X12_readsRow_150 (W : Nat → Prop) (M0 : ZMem) (M : ZMem) (x2 : Int32) (hW : ∀ a, a ∈ ([0, 4, 5, 6] : List Nat) → W a) (hM : zFr W M0 M) : zFf (fun r => zFr W M0 r) (f_X12_readsRow_150 M x2) := by
  unfold f_X12_readsRow_150
  refine zFf_bind (zFf_loop (QS := (fun r => zFr W M0 r)) (QE := (fun r => zFr W M0 r)) (fun z hz => fr_X12_readsRow_L150 W M0 x2 z (fun a h => hW a (zsub (by decide) h)) hz) hM) (fun e150 h_e150 => ?_)
  refine zFf_bind (zFf_loop (QS := (fun r => zFr W M0 r)) (QE := (fun r => zFr W M0 r)) (fun z hz => fr_X12_readsRow_L172 W M0 x2 z (fun a h => hW a (zsub (by decide) h)) hz) h_e150) (fun e172 h_e172 => ?_)
  refine zFf_chk ?_
  refine zFf_chk ?_
  refine zFf_bnd (fun M_208 e_M_208 => ?_)
  have h_M_208 : zFr W M0 M_208 := by rw [e_M_208]; exact (zFr_I h_e172 (hW _ (by decide)))
  exact zFf_some h_M_208
theorem fr_X12_readsRow_79 (W : Nat → Prop) (M0 : ZMem) (M : ZMem) (x1 : Int32) (hW : ∀ a, a ∈ ([0, 4, 5, 6] : List Nat) → W a) (hM : zFr W M0 M) : zFf (fun r => zFr W M0 r) (f_X12_readsRow_79 M x1) := by
  unfold f_X12_readsRow_79
  refine zFf_bindP (fun r_80 => ?_)
  refine zFf_ite ?_ ?_
  · exact zFf_some hM
  · refine zFf_bnd (fun x2_95 _ => ?_)
    refine zFf_chk ?_
    refine zFf_bnd (fun M_102 e_M_102 => ?_)
    have h_M_102 : zFr W M0 M_102 := by rw [e_M_102]; exact (zFr_I hM (hW _ (by decide)))
    refine zFf_bind (zFf_loop (QS := (fun r => zFr W M0 r)) (QE := (fun r => zFr W M0 r)) (fun z hz => fr_X12_readsRow_L103 W M0 x2_95 z (fun a h => hW a (zsub (by decide) h)) hz) h_M_102) (fun e103 h_e103 => ?_)
    refine zFf_bindP (fun r_128 => ?_)
    refine zFf_ite ?_ ?_
    · exact fr_X12_readsRow_150 W M0 e103 x2_95 (fun a h => hW a (zsub (by decide) h)) h_e103
    · refine zFf_bindP (fun r_135 => ?_)
      refine zFf_ite ?_ ?_
      · refine zFf_bind (fr_X12_fails W M0 e103 (zI 1) (e103.1 0 2) (fun a h => hW a (zsub (by decide) h)) h_e103) (fun M_147 h_M_147 => ?_)
        exact fr_X12_readsRow_150 W M0 M_147 x2_95 (fun a h => hW a (zsub (by decide) h)) h_M_147
      · exact fr_X12_readsRow_150 W M0 e103 x2_95 (fun a h => hW a (zsub (by decide) h)) h_e103
theorem fr_X12_readsRow_70 (W : Nat → Prop) (M0 : ZMem) (M : ZMem) (x1 : Int32) (hW : ∀ a, a ∈ ([0, 4, 5, 6] : List Nat) → W a) (hM : zFr W M0 M) : zFf (fun r => zFr W M0 r) (f_X12_readsRow_70 M x1) := by
  unfold f_X12_readsRow_70
  refine zFf_bind (fr_X12_fails W M0 M (zI 3) (M.1 0 2) (fun a h => hW a (zsub (by decide) h)) hM) (fun M_76 h_M_76 => ?_)
  exact fr_X12_readsRow_79 W M0 M_76 x1 (fun a h => hW a (zsub (by decide) h)) h_M_76
theorem fr_X12_readsRow_35 (W : Nat → Prop) (M0 : ZMem) (M : ZMem) (x1 : Int32) (hW : ∀ a, a ∈ ([0, 4, 5, 6] : List Nat) → W a) (hM : zFr W M0 M) : zFf (fun r => zFr W M0 r) (f_X12_readsRow_35 M x1) := by
  unfold f_X12_readsRow_35
  refine zFf_ite ?_ ?_
  · refine zFf_bindP (fun r_41 => ?_)
    refine zFf_ite ?_ ?_
    · exact fr_X12_readsRow_70 W M0 M x1 (fun a h => hW a (zsub (by decide) h)) hM
    · refine zFf_bindP (fun r_48 => ?_)
      refine zFf_ite ?_ ?_
      · exact fr_X12_readsRow_70 W M0 M x1 (fun a h => hW a (zsub (by decide) h)) hM
      · refine zFf_bind (fr_X12_fails W M0 M (zI 2) (M.1 0 2) (fun a h => hW a (zsub (by decide) h)) hM) (fun M_67 h_M_67 => ?_)
        exact fr_X12_readsRow_70 W M0 M_67 x1 (fun a h => hW a (zsub (by decide) h)) h_M_67
  · exact fr_X12_readsRow_79 W M0 M x1 (fun a h => hW a (zsub (by decide) h)) hM
theorem fr_X12_readsRow (W : Nat → Prop) (M0 : ZMem) (M : ZMem) (hW : ∀ a, a ∈ ([0, 4, 5, 6] : List Nat) → W a) (hM : zFr W M0 M) : zFf (fun r => zFr W M0 r) (f_X12_readsRow M) := by
  unfold f_X12_readsRow
  refine zFf_chk ?_
  refine zFf_bnd (fun x1_9 _ => ?_)
  refine zFf_bindP (fun r_11 => ?_)
  refine zFf_ite ?_ ?_
  · refine zFf_bindP (fun r_18 => ?_)
    refine zFf_ite ?_ ?_
    · exact fr_X12_readsRow_35 W M0 M x1_9 (fun a h => hW a (zsub (by decide) h)) hM
    · refine zFf_bind (fr_X12_fails W M0 M (zI 1) (M.1 0 2) (fun a h => hW a (zsub (by decide) h)) hM) (fun M_32 h_M_32 => ?_)
      exact fr_X12_readsRow_35 W M0 M_32 x1_9 (fun a h => hW a (zsub (by decide) h)) h_M_32
  · exact fr_X12_readsRow_35 W M0 M x1_9 (fun a h => hW a (zsub (by decide) h)) hM
theorem fr_X12_stone_56_L27 (W : Nat → Prop) (M0 : ZMem) (M : ZMem) (v0 : Int32) (hW : ∀ a, a ∈ ([0] : List Nat) → W a) (hM : zFr W M0 M) : zFf (zlp (fun r => zFr W M0 r.1) (fun r => zFr W M0 r)) (f_X12_stone_56_L27 M v0) := by
  unfold f_X12_stone_56_L27
  refine zFf_bindP (fun r_63 => ?_)
  refine zFf_bnd (fun M_67 e_M_67 => ?_)
  have h_M_67 : zFr W M0 M_67 := by rw [e_M_67]; exact (zFr_I hM (hW _ (by decide)))
  exact zFf_some h_M_67
theorem fr_X12_stone_55_L27 (W : Nat → Prop) (M0 : ZMem) (M : ZMem) (hW : ∀ a, a ∈ ([0] : List Nat) → W a) (hM : zFr W M0 M) : zFf (zlp (fun r => zFr W M0 r.1) (fun r => zFr W M0 r)) (f_X12_stone_55_L27 M) := by
  unfold f_X12_stone_55_L27
  exact fr_X12_stone_56_L27 W M0 M (zI 0) (fun a h => hW a (zsub (by decide) h)) hM
theorem fr_X12_stone_L27 (W : Nat → Prop) (M0 : ZMem) (s : (ZMem × Int32)) (hW : ∀ a, a ∈ ([0, 4, 5, 6] : List Nat) → W a) (hs : zFr W M0 s.1) : zFf (zlp (fun r => zFr W M0 r.1) (fun r => zFr W M0 r)) (f_X12_stone_L27 s) := by
  unfold f_X12_stone_L27
  refine zFf_ite ?_ ?_
  · exact zFf_some hs
  · refine zFf_bind (fr_X12_readsRow W M0 s.1 (fun a h => hW a (zsub (by decide) h)) hs) (fun M_32 h_M_32 => ?_)
    refine zFf_bindP (fun r_36 => ?_)
    refine zFf_ite ?_ ?_
    · exact fr_X12_stone_55_L27 W M0 M_32 (fun a h => hW a (zsub (by decide) h)) h_M_32
    · refine zFf_bindP (fun r_43 => ?_)
      refine zFf_ite ?_ ?_
      · exact fr_X12_stone_56_L27 W M0 M_32 (zI 1) (fun a h => hW a (zsub (by decide) h)) h_M_32
      · exact fr_X12_stone_55_L27 W M0 M_32 (fun a h => hW a (zsub (by decide) h)) h_M_32
theorem fr_X12_stone_97 (W : Nat → Prop) (M0 : ZMem) (M : ZMem) (hW : ∀ a, a ∈ ([0] : List Nat) → W a) (hM : zFr W M0 M) : zFf (fun r => zFr W M0 r.1) (f_X12_stone_97 M) := by
  unfold f_X12_stone_97
  refine zFf_bnd (fun M_99 e_M_99 => ?_)
  have h_M_99 : zFr W M0 M_99 := by rw [e_M_99]; exact (zFr_I hM (hW _ (by decide)))
  refine zFf_bindP (fun r_103 => ?_)
  refine zFf_ite ?_ ?_
  · exact zFf_some h_M_99
  · refine zFf_bnd (fun M_124 e_M_124 => ?_)
    have h_M_124 : zFr W M0 M_124 := by rw [e_M_124]; exact (zFr_I h_M_99 (hW _ (by decide)))
    refine zFf_bnd (fun M_129 e_M_129 => ?_)
    have h_M_129 : zFr W M0 M_129 := by rw [e_M_129]; exact (zFr_I h_M_124 (hW _ (by decide)))
    refine zFf_bnd (fun M_134 e_M_134 => ?_)
    have h_M_134 : zFr W M0 M_134 := by rw [e_M_134]; exact (zFr_I h_M_129 (hW _ (by decide)))
    exact zFf_some h_M_134
theorem fr_X12_stone (W : Nat → Prop) (M0 : ZMem) (M : ZMem) (hW : ∀ a, a ∈ ([0, 4, 5, 6] : List Nat) → W a) (hM : zFr W M0 M) : zFf (fun r => zFr W M0 r.1) (f_X12_stone M) := by
  unfold f_X12_stone
  refine zFf_ite ?_ ?_
  · exact zFf_some hM
  · refine zFf_bind (fr_X12_starts W M0 M (fun a h => hW a (zsub (by decide) h)) hM) (fun M_12 h_M_12 => ?_)
    refine zFf_chk ?_
    refine zFf_bnd (fun M_24 e_M_24 => ?_)
    have h_M_24 : zFr W M0 M_24 := by rw [e_M_24]; exact (zFr_I h_M_12 (hW _ (by decide)))
    refine zFf_bind (zFf_loop (QS := (fun r => zFr W M0 r.1)) (QE := (fun r => zFr W M0 r)) (fun z hz => fr_X12_stone_L27 W M0 z (fun a h => hW a (zsub (by decide) h)) hz) h_M_24) (fun e27 h_e27 => ?_)
    refine zFf_bindP (fun r_74 => ?_)
    refine zFf_ite ?_ ?_
    · exact fr_X12_stone_97 W M0 e27 (fun a h => hW a (zsub (by decide) h)) h_e27
    · refine zFf_bindP (fun r_81 => ?_)
      refine zFf_ite ?_ ?_
      · exact fr_X12_stone_97 W M0 e27 (fun a h => hW a (zsub (by decide) h)) h_e27
      · refine zFf_bind (fr_X12_fails W M0 e27 (zI 1) (e27.1 0 2) (fun a h => hW a (zsub (by decide) h)) h_e27) (fun M_94 h_M_94 => ?_)
        exact fr_X12_stone_97 W M0 M_94 (fun a h => hW a (zsub (by decide) h)) h_M_94
theorem fr_X12_oneOf_L2 (W : Nat → Prop) (M0 : ZMem) (w : Nat) (M : ZMem) (s : (Int32)) (hW : ∀ a, a ∈ ([] : List Nat) → W a) (hM : zFr W M0 M) : zFf (zlp (fun r => True) (fun r => zsel r (fun e => True) (fun e => zFr W M0 e.1))) (f_X12_oneOf_L2 w M s) := by
  unfold f_X12_oneOf_L2
  refine zFf_bindP (fun r_4 => ?_)
  refine zFf_ite ?_ ?_
  · exact zFf_some trivial
  · refine zFf_bindP (fun r_11 => ?_)
    refine zFf_bindP (fun r_16 => ?_)
    refine zFf_ite ?_ ?_
    · exact zFf_some hM
    · refine zFf_bnd (fun x2_24 _ => ?_)
      exact zFf_some trivial
theorem fr_X12_oneOf (W : Nat → Prop) (M0 : ZMem) (w : Nat) (M : ZMem) (hW : ∀ a, a ∈ ([0] : List Nat) → W a) (hM : zFr W M0 M) : zFf (fun r => zFr W M0 r.1) (f_X12_oneOf w M) := by
  unfold f_X12_oneOf
  refine zFf_bind (zFf_loop (QS := (fun r => True)) (QE := (fun r => zsel r (fun e => True) (fun e => zFr W M0 e.1))) (fun z _ => fr_X12_oneOf_L2 W M0 w M z (fun a h => hW a (zsub (by decide) h)) hM) trivial) (fun e2 h_e2 => ?_)
  cases e2 with
  | inl e2a =>
    refine zFf_selL ?_
    refine zFf_bind (fr_X12_fails W M0 M (zI 1) (M.1 0 2) (fun a h => hW a (zsub (by decide) h)) hM) (fun M_36 h_M_36 => ?_)
    exact zFf_some h_M_36
  | inr e2b =>
    refine zFf_selR ?_
    exact zFf_some h_e2
theorem fr_X12_readsSyllable_64 (W : Nat → Prop) (M0 : ZMem) (M : ZMem) (x1 : Int32) (v0 : Int32) (hW : ∀ a, a ∈ ([0, 7, 8] : List Nat) → W a) (hM : zFr W M0 M) : zFf (fun r => zFr W M0 r) (f_X12_readsSyllable_64 M x1 v0) := by
  unfold f_X12_readsSyllable_64
  refine zFf_bnd (fun M_72 e_M_72 => ?_)
  have h_M_72 : zFr W M0 M_72 := by rw [e_M_72]; exact (zFr_I hM (hW _ (by decide)))
  refine zFf_bindP (fun r_76 => ?_)
  refine zFf_ite ?_ ?_
  · exact zFf_some h_M_72
  · refine zFf_chk ?_
    refine zFf_chk ?_
    refine zFf_bnd (fun M_108 e_M_108 => ?_)
    have h_M_108 : zFr W M0 M_108 := by rw [e_M_108]; exact (zFr_I h_M_72 (hW _ (by decide)))
    refine zFf_chk ?_
    refine zFf_chk ?_
    refine zFf_bnd (fun M_121 e_M_121 => ?_)
    have h_M_121 : zFr W M0 M_121 := by rw [e_M_121]; exact (zFr_I h_M_108 (hW _ (by decide)))
    exact zFf_some h_M_121
theorem fr_X12_readsSyllable_37 (W : Nat → Prop) (M0 : ZMem) (M : ZMem) (x1 : Int32) (hW : ∀ a, a ∈ ([0, 7, 8] : List Nat) → W a) (hM : zFr W M0 M) : zFf (fun r => zFr W M0 r) (f_X12_readsSyllable_37 M x1) := by
  unfold f_X12_readsSyllable_37
  refine zFf_bnd (fun M_44 e_M_44 => ?_)
  have h_M_44 : zFr W M0 M_44 := by rw [e_M_44]; exact (zFr_I hM (hW _ (by decide)))
  refine zFf_bindP (fun r_48 => ?_)
  refine zFf_ite ?_ ?_
  · exact fr_X12_readsSyllable_64 W M0 M_44 x1 (zI 0) (fun a h => hW a (zsub (by decide) h)) h_M_44
  · refine zFf_bind (fr_X12_oneOf W M0 1 M_44 (fun a h => hW a (zsub (by decide) h)) h_M_44) (fun r_57 h_r_57 => ?_)
    exact fr_X12_readsSyllable_64 W M0 r_57.1 x1 r_57.2 (fun a h => hW a (zsub (by decide) h)) h_r_57
theorem fr_X12_readsSyllable (W : Nat → Prop) (M0 : ZMem) (M : ZMem) (hW : ∀ a, a ∈ ([0, 7, 8] : List Nat) → W a) (hM : zFr W M0 M) : zFf (fun r => zFr W M0 r) (f_X12_readsSyllable M) := by
  unfold f_X12_readsSyllable
  refine zFf_bind (fr_X12_oneOf W M0 0 M (fun a h => hW a (zsub (by decide) h)) hM) (fun r_3 h_r_3 => ?_)
  refine zFf_bindP (fun r_8 => ?_)
  refine zFf_ite ?_ ?_
  · exact fr_X12_readsSyllable_37 W M0 r_3.1 r_3.2 (fun a h => hW a (zsub (by decide) h)) h_r_3
  · refine zFf_chk ?_
    refine zFf_ite ?_ ?_
    · refine zFf_bind (fr_X12_fails W M0 r_3.1 (zI 2) (r_3.1.1 0 2) (fun a h => hW a (zsub (by decide) h)) h_r_3) (fun M_34 h_M_34 => ?_)
      exact fr_X12_readsSyllable_37 W M0 M_34 r_3.2 (fun a h => hW a (zsub (by decide) h)) h_M_34
    · exact fr_X12_readsSyllable_37 W M0 r_3.1 r_3.2 (fun a h => hW a (zsub (by decide) h)) h_r_3
theorem fr_X12_name_52_L24 (W : Nat → Prop) (M0 : ZMem) (M : ZMem) (hW : ∀ a, a ∈ ([0, 7, 8] : List Nat) → W a) (hM : zFr W M0 M) : zFf (zlp (fun r => zFr W M0 r) (fun r => zFr W M0 r)) (f_X12_name_52_L24 M) := by
  unfold f_X12_name_52_L24
  refine zFf_bind (fr_X12_readsSyllable W M0 M (fun a h => hW a (zsub (by decide) h)) hM) (fun M_53 h_M_53 => ?_)
  exact zFf_some h_M_53
theorem fr_X12_name_L24 (W : Nat → Prop) (M0 : ZMem) (s : (ZMem)) (hW : ∀ a, a ∈ ([0, 7, 8] : List Nat) → W a) (hs : zFr W M0 s) : zFf (zlp (fun r => zFr W M0 r) (fun r => zFr W M0 r)) (f_X12_name_L24 s) := by
  unfold f_X12_name_L24
  refine zFf_bindP (fun r_25 => ?_)
  refine zFf_ite ?_ ?_
  · exact zFf_some hs
  · refine zFf_chk ?_
    refine zFf_ite ?_ ?_
    · exact fr_X12_name_52_L24 W M0 s (fun a h => hW a (zsub (by decide) h)) hs
    · refine zFf_bindP (fun r_45 => ?_)
      refine zFf_ite ?_ ?_
      · exact zFf_some hs
      · exact fr_X12_name_52_L24 W M0 s (fun a h => hW a (zsub (by decide) h)) hs
theorem fr_X12_name_79 (W : Nat → Prop) (M0 : ZMem) (M : ZMem) (hW : ∀ a, a ∈ ([0] : List Nat) → W a) (hM : zFr W M0 M) : zFf (fun r => zFr W M0 r.1) (f_X12_name_79 M) := by
  unfold f_X12_name_79
  refine zFf_bnd (fun M_81 e_M_81 => ?_)
  have h_M_81 : zFr W M0 M_81 := by rw [e_M_81]; exact (zFr_I hM (hW _ (by decide)))
  refine zFf_bindP (fun r_85 => ?_)
  refine zFf_ite ?_ ?_
  · exact zFf_some h_M_81
  · refine zFf_bnd (fun M_106 e_M_106 => ?_)
    have h_M_106 : zFr W M0 M_106 := by rw [e_M_106]; exact (zFr_I h_M_81 (hW _ (by decide)))
    exact zFf_some h_M_106
theorem fr_X12_name (W : Nat → Prop) (M0 : ZMem) (M : ZMem) (hW : ∀ a, a ∈ ([0, 7, 8] : List Nat) → W a) (hM : zFr W M0 M) : zFf (fun r => zFr W M0 r.1) (f_X12_name M) := by
  unfold f_X12_name
  refine zFf_ite ?_ ?_
  · exact zFf_some hM
  · refine zFf_bind (fr_X12_starts W M0 M (fun a h => hW a (zsub (by decide) h)) hM) (fun M_11 h_M_11 => ?_)
    refine zFf_chk ?_
    refine zFf_bnd (fun M_23 e_M_23 => ?_)
    have h_M_23 : zFr W M0 M_23 := by rw [e_M_23]; exact (zFr_I h_M_11 (hW _ (by decide)))
    refine zFf_bind (zFf_loop (QS := (fun r => zFr W M0 r)) (QE := (fun r => zFr W M0 r)) (fun z hz => fr_X12_name_L24 W M0 z (fun a h => hW a (zsub (by decide) h)) hz) h_M_23) (fun e24 h_e24 => ?_)
    refine zFf_bindP (fun r_60 => ?_)
    refine zFf_ite ?_ ?_
    · exact fr_X12_name_79 W M0 e24 (fun a h => hW a (zsub (by decide) h)) h_e24
    · refine zFf_bindP (fun r_67 => ?_)
      refine zFf_ite ?_ ?_
      · exact fr_X12_name_79 W M0 e24 (fun a h => hW a (zsub (by decide) h)) h_e24
      · refine zFf_bind (fr_X12_fails W M0 e24 (zI 3) (zI 0) (fun a h => hW a (zsub (by decide) h)) h_e24) (fun M_76 h_M_76 => ?_)
        exact fr_X12_name_79 W M0 M_76 (fun a h => hW a (zsub (by decide) h)) h_M_76
theorem fr_X12_remembers_L13 (W : Nat → Prop) (M0 : ZMem) (s : (ZMem × Int32)) (hW : ∀ a, a ∈ ([10] : List Nat) → W a) (hs : zFr W M0 s.1) : zFf (zlp (fun r => zFr W M0 r.1) (fun r => zFr W M0 r)) (f_X12_remembers_L13 s) := by
  unfold f_X12_remembers_L13
  refine zFf_ite ?_ ?_
  · exact zFf_some hs
  · refine zFf_chk ?_
    refine zFf_chk ?_
    refine zFf_bnd (fun M_35 e_M_35 => ?_)
    have h_M_35 : zFr W M0 M_35 := by rw [e_M_35]; exact (zFr_I hs (hW _ (by decide)))
    refine zFf_bnd (fun x1_36 _ => ?_)
    exact zFf_some h_M_35
theorem fr_X12_remembers_L54 (W : Nat → Prop) (M0 : ZMem) (s : (ZMem × Int32)) (hW : ∀ a, a ∈ ([10] : List Nat) → W a) (hs : zFr W M0 s.1) : zFf (zlp (fun r => zFr W M0 r.1) (fun r => zFr W M0 r)) (f_X12_remembers_L54 s) := by
  unfold f_X12_remembers_L54
  refine zFf_ite ?_ ?_
  · exact zFf_some hs
  · refine zFf_chk ?_
    refine zFf_chk ?_
    refine zFf_bnd (fun M_81 e_M_81 => ?_)
    have h_M_81 : zFr W M0 M_81 := by rw [e_M_81]; exact (zFr_I hs (hW _ (by decide)))
    refine zFf_bnd (fun x1_82 _ => ?_)
    exact zFf_some h_M_81
theorem fr_X12_remembers_52 (W : Nat → Prop) (M0 : ZMem) (M : ZMem) (hW : ∀ a, a ∈ ([0, 10] : List Nat) → W a) (hM : zFr W M0 M) : zFf (fun r => zFr W M0 r) (f_X12_remembers_52 M) := by
  unfold f_X12_remembers_52
  refine zFf_bind (zFf_loop (QS := (fun r => zFr W M0 r.1)) (QE := (fun r => zFr W M0 r)) (fun z hz => fr_X12_remembers_L54 W M0 z (fun a h => hW a (zsub (by decide) h)) hz) hM) (fun e54 h_e54 => ?_)
  refine zFf_bnd (fun M_95 e_M_95 => ?_)
  have h_M_95 : zFr W M0 M_95 := by rw [e_M_95]; exact (zFr_I h_e54 (hW _ (by decide)))
  refine zFf_bnd (fun M_100 e_M_100 => ?_)
  have h_M_100 : zFr W M0 M_100 := by rw [e_M_100]; exact (zFr_I h_M_95 (hW _ (by decide)))
  exact zFf_some h_M_100
theorem fr_X12_remembers (W : Nat → Prop) (M0 : ZMem) (M : ZMem) (hW : ∀ a, a ∈ ([0, 10] : List Nat) → W a) (hM : zFr W M0 M) : zFf (fun r => zFr W M0 r) (f_X12_remembers M) := by
  unfold f_X12_remembers
  refine zFf_ite ?_ ?_
  · refine zFf_bind (zFf_loop (QS := (fun r => zFr W M0 r.1)) (QE := (fun r => zFr W M0 r)) (fun z hz => fr_X12_remembers_L13 W M0 z (fun a h => hW a (zsub (by decide) h)) hz) hM) (fun e13 h_e13 => ?_)
    refine zFf_bnd (fun M_49 e_M_49 => ?_)
    have h_M_49 : zFr W M0 M_49 := by rw [e_M_49]; exact (zFr_I h_e13 (hW _ (by decide)))
    exact fr_X12_remembers_52 W M0 M_49 (fun a h => hW a (zsub (by decide) h)) h_M_49
  · exact fr_X12_remembers_52 W M0 M (fun a h => hW a (zsub (by decide) h)) hM
theorem fr_X12_undo_L21 (W : Nat → Prop) (M0 : ZMem) (s : (ZMem × Int32)) (hW : ∀ a, a ∈ ([9] : List Nat) → W a) (hs : zFr W M0 s.1) : zFf (zlp (fun r => zFr W M0 r.1) (fun r => zFr W M0 r)) (f_X12_undo_L21 s) := by
  unfold f_X12_undo_L21
  refine zFf_ite ?_ ?_
  · exact zFf_some hs
  · refine zFf_chk ?_
    refine zFf_chk ?_
    refine zFf_bnd (fun M_48 e_M_48 => ?_)
    have h_M_48 : zFr W M0 M_48 := by rw [e_M_48]; exact (zFr_I hs (hW _ (by decide)))
    refine zFf_bnd (fun x1_49 _ => ?_)
    exact zFf_some h_M_48
theorem fr_X12_undo (W : Nat → Prop) (M0 : ZMem) (M : ZMem) (hW : ∀ a, a ∈ ([0, 9] : List Nat) → W a) (hM : zFr W M0 M) : zFf (fun r => zFr W M0 r.1) (f_X12_undo M) := by
  unfold f_X12_undo
  refine zFf_ite ?_ ?_
  · exact zFf_some hM
  · refine zFf_bnd (fun M_16 e_M_16 => ?_)
    have h_M_16 : zFr W M0 M_16 := by rw [e_M_16]; exact (zFr_I hM (hW _ (by decide)))
    refine zFf_bind (zFf_loop (QS := (fun r => zFr W M0 r.1)) (QE := (fun r => zFr W M0 r)) (fun z hz => fr_X12_undo_L21 W M0 z (fun a h => hW a (zsub (by decide) h)) hz) h_M_16) (fun e21 h_e21 => ?_)
    refine zFf_bnd (fun M_57 e_M_57 => ?_)
    have h_M_57 : zFr W M0 M_57 := by rw [e_M_57]; exact (zFr_I h_e21 (hW _ (by decide)))
    exact zFf_some h_M_57
theorem fr_X12_changes (W : Nat → Prop) (M0 : ZMem) (M : ZMem) (x1 : Int32) (x2 : Int32) (x3 : Int32) (x4 : Int32) (hW : ∀ a, a ∈ ([0, 9, 10] : List Nat) → W a) (hM : zFr W M0 M) : zFf (fun r => zFr W M0 r.1) (f_X12_changes M x1 x2 x3 x4) := by
  unfold f_X12_changes
  refine zFf_bindP (fun r_4 => ?_)
  refine zFf_ite ?_ ?_
  · exact zFf_some hM
  · refine zFf_chk ?_
    refine zFf_ite ?_ ?_
    · exact zFf_some hM
    · refine zFf_bind (fr_X12_remembers W M0 M (fun a h => hW a (zsub (by decide) h)) hM) (fun M_23 h_M_23 => ?_)
      refine zFf_chk ?_
      refine zFf_bnd (fun x5_32 _ => ?_)
      refine zFf_chk ?_
      refine zFf_bnd (fun M_40 e_M_40 => ?_)
      have h_M_40 : zFr W M0 M_40 := by rw [e_M_40]; exact (zFr_I h_M_23 (hW _ (by decide)))
      exact zFf_some h_M_40
theorem fr_X12_loose (W : Nat → Prop) (M0 : ZMem) (M : ZMem) (x1 : Int32) (hW : ∀ a, a ∈ ([0, 9, 10] : List Nat) → W a) (hM : zFr W M0 M) : zFf (fun r => zFr W M0 r.1) (f_X12_loose M x1) := by
  unfold f_X12_loose
  refine zFf_bind (fr_X12_changes W M0 M (zI 0) x1 (zI 0) (zI 25) (fun a h => hW a (zsub (by decide) h)) hM) (fun r_6 h_r_6 => ?_)
  exact zFf_some h_r_6
theorem fr_X12_way (W : Nat → Prop) (M0 : ZMem) (M : ZMem) (x1 : Int32) (hW : ∀ a, a ∈ ([0, 9, 10] : List Nat) → W a) (hM : zFr W M0 M) : zFf (fun r => zFr W M0 r.1) (f_X12_way M x1) := by
  unfold f_X12_way
  refine zFf_bind (fr_X12_changes W M0 M (zI 1) x1 (zI 0) (zI 3) (fun a h => hW a (zsub (by decide) h)) hM) (fun r_5 h_r_5 => ?_)
  exact zFf_some h_r_5
theorem fr_X12_rise (W : Nat → Prop) (M0 : ZMem) (M : ZMem) (x1 : Int32) (hW : ∀ a, a ∈ ([0, 9, 10] : List Nat) → W a) (hM : zFr W M0 M) : zFf (fun r => zFr W M0 r.1) (f_X12_rise M x1) := by
  unfold f_X12_rise
  refine zFf_bind (fr_X12_changes W M0 M (zI 2) x1 (zI 1) (zI 9) (fun a h => hW a (zsub (by decide) h)) hM) (fun r_6 h_r_6 => ?_)
  exact zFf_some h_r_6
theorem fr_X12_tellsTwo_70 (W : Nat → Prop) (M0 : ZMem) (M : ZMem) (v1 : Int32) (v2 : Int32) (hW : ∀ a, a ∈ ([9] : List Nat) → W a) (hM : zFr W M0 M) : zFf (fun r => zFr W M0 r.1) (f_X12_tellsTwo_70 M v1 v2) := by
  unfold f_X12_tellsTwo_70
  refine zFf_chk ?_
  refine zFf_bnd (fun M_70 e_M_70 => ?_)
  have h_M_70 : zFr W M0 M_70 := by rw [e_M_70]; exact (zFr_I hM (hW _ (by decide)))
  exact zFf_some h_M_70
theorem fr_X12_tellsTwo_40 (W : Nat → Prop) (M0 : ZMem) (M : ZMem) (x1 : Int32) (x2 : Int32) (x3 : Int32) (x4 : Int32) (v0 : Int32) (hW : ∀ a, a ∈ ([0, 9, 10] : List Nat) → W a) (hM : zFr W M0 M) : zFf (fun r => zFr W M0 r.1) (f_X12_tellsTwo_40 M x1 x2 x3 x4 v0) := by
  unfold f_X12_tellsTwo_40
  refine zFf_ite ?_ ?_
  · exact zFf_some hM
  · refine zFf_bind (fr_X12_remembers W M0 M (fun a h => hW a (zsub (by decide) h)) hM) (fun M_48 h_M_48 => ?_)
    refine zFf_bindP (fun r_57 => ?_)
    refine zFf_ite ?_ ?_
    · exact fr_X12_tellsTwo_70 W M0 M_48 r_57 (zI 0) (fun a h => hW a (zsub (by decide) h)) h_M_48
    · exact fr_X12_tellsTwo_70 W M0 M_48 r_57 x3 (fun a h => hW a (zsub (by decide) h)) h_M_48
theorem fr_X12_tellsTwo (W : Nat → Prop) (M0 : ZMem) (M : ZMem) (x1 : Int32) (x2 : Int32) (x3 : Int32) (x4 : Int32) (hW : ∀ a, a ∈ ([0, 9, 10] : List Nat) → W a) (hM : zFr W M0 M) : zFf (fun r => zFr W M0 r.1) (f_X12_tellsTwo M x1 x2 x3 x4) := by
  unfold f_X12_tellsTwo
  refine zFf_bindP (fun r_2 => ?_)
  refine zFf_ite ?_ ?_
  · exact zFf_some hM
  · refine zFf_bindP (fun r_10 => ?_)
    refine zFf_ite ?_ ?_
    · exact zFf_some hM
    · refine zFf_ite ?_ ?_
      · exact zFf_some hM
      · refine zFf_bindP (fun r_27 => ?_)
        refine zFf_chk ?_
        refine zFf_ite ?_ ?_
        · exact fr_X12_tellsTwo_40 W M0 M x1 x2 x3 x4 (zI 1) (fun a h => hW a (zsub (by decide) h)) hM
        · exact fr_X12_tellsTwo_40 W M0 M x1 x2 x3 x4 (zI 0) (fun a h => hW a (zsub (by decide) h)) hM
theorem fr_X12_alike (W : Nat → Prop) (M0 : ZMem) (M : ZMem) (x1 : Int32) (x2 : Int32) (x3 : Int32) (hW : ∀ a, a ∈ ([0, 9, 10] : List Nat) → W a) (hM : zFr W M0 M) : zFf (fun r => zFr W M0 r.1) (f_X12_alike M x1 x2 x3) := by
  unfold f_X12_alike
  refine zFf_bind (fr_X12_tellsTwo W M0 M x1 x2 (zI 1) x3 (fun a h => hW a (zsub (by decide) h)) hM) (fun r_5 h_r_5 => ?_)
  refine zFf_chk ?_
  exact zFf_some h_r_5
theorem fr_X12_apart (W : Nat → Prop) (M0 : ZMem) (M : ZMem) (x1 : Int32) (x2 : Int32) (x3 : Int32) (hW : ∀ a, a ∈ ([0, 9, 10] : List Nat) → W a) (hM : zFr W M0 M) : zFf (fun r => zFr W M0 r.1) (f_X12_apart M x1 x2 x3) := by
  unfold f_X12_apart
  refine zFf_bind (fr_X12_tellsTwo W M0 M x1 x2 (zI 2) x3 (fun a h => hW a (zsub (by decide) h)) hM) (fun r_5 h_r_5 => ?_)
  refine zFf_chk ?_
  exact zFf_some h_r_5
theorem fr_X12_laysSigns_L2 (W : Nat → Prop) (M0 : ZMem) (s : (ZMem × Int32)) (hW : ∀ a, a ∈ ([11] : List Nat) → W a) (hs : zFr W M0 s.1) : zFf (zlp (fun r => zFr W M0 r.1) (fun r => zFr W M0 r)) (f_X12_laysSigns_L2 s) := by
  unfold f_X12_laysSigns_L2
  refine zFf_ite ?_ ?_
  · exact zFf_some hs
  · refine zFf_chk ?_
    refine zFf_bnd (fun M_16 e_M_16 => ?_)
    have h_M_16 : zFr W M0 M_16 := by rw [e_M_16]; exact (zFr_I hs (hW _ (by decide)))
    refine zFf_bnd (fun x1_17 _ => ?_)
    exact zFf_some h_M_16
theorem fr_X12_laysSigns_L43 (W : Nat → Prop) (M0 : ZMem) (x2 : Int32) (s : (ZMem × Int32 × Int32)) (hW : ∀ a, a ∈ ([11] : List Nat) → W a) (hs : zFr W M0 s.1) : zFf (zlp (fun r => zFr W M0 r.1) (fun r => zFr W M0 r.1)) (f_X12_laysSigns_L43 x2 s) := by
  unfold f_X12_laysSigns_L43
  refine zFf_ite ?_ ?_
  · exact zFf_some hs
  · refine zFf_ite ?_ ?_
    · refine zFf_bnd (fun x3_94 _ => ?_)
      exact zFf_some hs
    · refine zFf_chk ?_
      refine zFf_chk ?_
      refine zFf_ite ?_ ?_
      · refine zFf_bnd (fun x3_94 _ => ?_)
        exact zFf_some hs
      · refine zFf_bindP (fun r_74 => ?_)
        refine zFf_ite ?_ ?_
        · refine zFf_bnd (fun x3_94 _ => ?_)
          exact zFf_some hs
        · refine zFf_chk ?_
          refine zFf_chk ?_
          refine zFf_bnd (fun M_91 e_M_91 => ?_)
          have h_M_91 : zFr W M0 M_91 := by rw [e_M_91]; exact (zFr_I hs (hW _ (by decide)))
          refine zFf_bnd (fun x3_94 _ => ?_)
          exact zFf_some h_M_91
theorem fr_X12_laysSigns_L33 (W : Nat → Prop) (M0 : ZMem) (s : (ZMem × Int32 × Int32)) (hW : ∀ a, a ∈ ([11] : List Nat) → W a) (hs : zFr W M0 s.1) : zFf (zlp (fun r => zFr W M0 r.1) (fun r => zFr W M0 r.1)) (f_X12_laysSigns_L33 s) := by
  unfold f_X12_laysSigns_L33
  refine zFf_ite ?_ ?_
  · exact zFf_some hs
  · refine zFf_bind (zFf_loop (QS := (fun r => zFr W M0 r.1)) (QE := (fun r => zFr W M0 r.1)) (fun z hz => fr_X12_laysSigns_L43 W M0 s.2.2 z (fun a h => hW a (zsub (by decide) h)) hz) hs) (fun e43 h_e43 => ?_)
    refine zFf_bnd (fun x2_100 _ => ?_)
    exact zFf_some h_e43
theorem fr_X12_laysSigns_L25 (W : Nat → Prop) (M0 : ZMem) (s : (ZMem × Int32)) (hW : ∀ a, a ∈ ([11] : List Nat) → W a) (hs : zFr W M0 s.1) : zFf (zlp (fun r => zFr W M0 r.1) (fun r => zFr W M0 r)) (f_X12_laysSigns_L25 s) := by
  unfold f_X12_laysSigns_L25
  refine zFf_ite ?_ ?_
  · exact zFf_some hs
  · refine zFf_bind (zFf_loop (QS := (fun r => zFr W M0 r.1)) (QE := (fun r => zFr W M0 r.1)) (fun z hz => fr_X12_laysSigns_L33 W M0 z (fun a h => hW a (zsub (by decide) h)) hz) hs) (fun e33 h_e33 => ?_)
    exact zFf_some h_e33
theorem fr_X12_laysSigns_144_L116 (W : Nat → Prop) (M0 : ZMem) (M : ZMem) (x2 : Int32) (v1 : Int32) (v2 : Int32) (hW : ∀ a, a ∈ ([0] : List Nat) → W a) (hM : zFr W M0 M) : zFf (zlp (fun r => zFr W M0 r.1) (fun r => zFr W M0 r)) (f_X12_laysSigns_144_L116 M x2 v1 v2) := by
  unfold f_X12_laysSigns_144_L116
  refine zFf_bindP (fun r_144 => ?_)
  refine zFf_bnd (fun M_148 e_M_148 => ?_)
  have h_M_148 : zFr W M0 M_148 := by rw [e_M_148]; exact (zFr_I hM (hW _ (by decide)))
  refine zFf_bnd (fun x2_151 _ => ?_)
  exact zFf_some h_M_148
theorem fr_X12_laysSigns_L116 (W : Nat → Prop) (M0 : ZMem) (s : (ZMem × Int32)) (hW : ∀ a, a ∈ ([0] : List Nat) → W a) (hs : zFr W M0 s.1) : zFf (zlp (fun r => zFr W M0 r.1) (fun r => zFr W M0 r)) (f_X12_laysSigns_L116 s) := by
  unfold f_X12_laysSigns_L116
  refine zFf_ite ?_ ?_
  · exact zFf_some hs
  · refine zFf_chk ?_
    refine zFf_ite ?_ ?_
    · exact fr_X12_laysSigns_144_L116 W M0 s.1 s.2 (s.1.1 0 19) (zI 1) (fun a h => hW a (zsub (by decide) h)) hs
    · exact fr_X12_laysSigns_144_L116 W M0 s.1 s.2 (s.1.1 0 19) (zI 0) (fun a h => hW a (zsub (by decide) h)) hs
theorem fr_X12_laysSigns (W : Nat → Prop) (M0 : ZMem) (M : ZMem) (hW : ∀ a, a ∈ ([0, 11] : List Nat) → W a) (hM : zFr W M0 M) : zFf (fun r => zFr W M0 r) (f_X12_laysSigns M) := by
  unfold f_X12_laysSigns
  refine zFf_bind (zFf_loop (QS := (fun r => zFr W M0 r.1)) (QE := (fun r => zFr W M0 r)) (fun z hz => fr_X12_laysSigns_L2 W M0 z (fun a h => hW a (zsub (by decide) h)) hz) hM) (fun e2 h_e2 => ?_)
  refine zFf_bind (zFf_loop (QS := (fun r => zFr W M0 r.1)) (QE := (fun r => zFr W M0 r)) (fun z hz => fr_X12_laysSigns_L25 W M0 z (fun a h => hW a (zsub (by decide) h)) hz) h_e2) (fun e25 h_e25 => ?_)
  refine zFf_bnd (fun M_111 e_M_111 => ?_)
  have h_M_111 : zFr W M0 M_111 := by rw [e_M_111]; exact (zFr_I h_e25 (hW _ (by decide)))
  refine zFf_bind (zFf_loop (QS := (fun r => zFr W M0 r.1)) (QE := (fun r => zFr W M0 r)) (fun z hz => fr_X12_laysSigns_L116 W M0 z (fun a h => hW a (zsub (by decide) h)) hz) h_M_111) (fun e116 h_e116 => ?_)
  exact zFf_some h_e116
theorem fr_X12_laysRow_52_L13 (W : Nat → Prop) (M0 : ZMem) (M : ZMem) (x1 : Int32) (x2 : Int32) (x3 : Int32) (x4 : Int32) (v1 : Int32) (v2 : Int32) (hW : ∀ a, a ∈ ([14] : List Nat) → W a) (hM : zFr W M0 M) : zFf (zlp (fun r => zFr W M0 r.1) (fun r => zFr W M0 r.1)) (f_X12_laysRow_52_L13 M x1 x2 x3 x4 v1 v2) := by
  unfold f_X12_laysRow_52_L13
  refine zFf_chk ?_
  refine zFf_bnd (fun x5_54 _ => ?_)
  refine zFf_ite ?_ ?_
  · refine zFf_bnd (fun x4_78 _ => ?_)
    exact zFf_some hM
  · refine zFf_chk ?_
    refine zFf_chk ?_
    refine zFf_bnd (fun M_74 e_M_74 => ?_)
    have h_M_74 : zFr W M0 M_74 := by rw [e_M_74]; exact (zFr_I hM (hW _ (by decide)))
    refine zFf_bnd (fun x3_75 _ => ?_)
    refine zFf_bnd (fun x4_78 _ => ?_)
    exact zFf_some h_M_74
theorem fr_X12_laysRow_L13 (W : Nat → Prop) (M0 : ZMem) (x1 : Int32) (x2 : Int32) (s : (ZMem × Int32 × Int32)) (hW : ∀ a, a ∈ ([14] : List Nat) → W a) (hs : zFr W M0 s.1) : zFf (zlp (fun r => zFr W M0 r.1) (fun r => zFr W M0 r.1)) (f_X12_laysRow_L13 x1 x2 s) := by
  unfold f_X12_laysRow_L13
  refine zFf_chk ?_
  refine zFf_ite ?_ ?_
  · exact zFf_some hs
  · refine zFf_ite ?_ ?_
    · exact fr_X12_laysRow_52_L13 W M0 s.1 x1 x2 s.2.1 s.2.2 ((zI 10) * x1) s.2.2 (fun a h => hW a (zsub (by decide) h)) hs
    · refine zFf_chk ?_
      exact fr_X12_laysRow_52_L13 W M0 s.1 x1 x2 s.2.1 s.2.2 ((zI 10) * x1) (((s.1.1 5 (zix x1)) - (zI 1)) - s.2.2) (fun a h => hW a (zsub (by decide) h)) hs
theorem fr_X12_laysRow (W : Nat → Prop) (M0 : ZMem) (M : ZMem) (x1 : Int32) (x2 : Int32) (hW : ∀ a, a ∈ ([0, 13, 14] : List Nat) → W a) (hM : zFr W M0 M) : zFf (fun r => zFr W M0 r) (f_X12_laysRow M x1 x2) := by
  unfold f_X12_laysRow
  refine zFf_chk ?_
  refine zFf_bnd (fun x3_9 _ => ?_)
  refine zFf_bind (zFf_loop (QS := (fun r => zFr W M0 r.1)) (QE := (fun r => zFr W M0 r.1)) (fun z hz => fr_X12_laysRow_L13 W M0 x1 x2 z (fun a h => hW a (zsub (by decide) h)) hz) hM) (fun e13 h_e13 => ?_)
  refine zFf_bnd (fun M_91 e_M_91 => ?_)
  have h_M_91 : zFr W M0 M_91 := by rw [e_M_91]; exact (zFr_I h_e13 (hW _ (by decide)))
  refine zFf_chk ?_
  refine zFf_bnd (fun M_103 e_M_103 => ?_)
  have h_M_103 : zFr W M0 M_103 := by rw [e_M_103]; exact (zFr_I h_M_91 (hW _ (by decide)))
  exact zFf_some h_M_103
theorem fr_X12_laysRows_80_L48 (W : Nat → Prop) (M0 : ZMem) (M : ZMem) (x1 : Int32) (x2 : Int32) (x3 : Int32) (v0 : Int32) (hW : ∀ a, a ∈ ([0, 13, 14] : List Nat) → W a) (hM : zFr W M0 M) : zFf (zlp (fun r => zFr W M0 r.1) (fun r => zFr W M0 r)) (f_X12_laysRows_80_L48 M x1 x2 x3 v0) := by
  unfold f_X12_laysRows_80_L48
  refine zFf_bind (fr_X12_laysRow W M0 M (((zI 4) * x2) + x3) v0 (fun a h => hW a (zsub (by decide) h)) hM) (fun M_90 h_M_90 => ?_)
  refine zFf_bnd (fun x3_93 _ => ?_)
  exact zFf_some h_M_90
theorem fr_X12_laysRows_75_L48 (W : Nat → Prop) (M0 : ZMem) (M : ZMem) (x1 : Int32) (x2 : Int32) (x3 : Int32) (hW : ∀ a, a ∈ ([0, 13, 14] : List Nat) → W a) (hM : zFr W M0 M) : zFf (zlp (fun r => zFr W M0 r.1) (fun r => zFr W M0 r)) (f_X12_laysRows_75_L48 M x1 x2 x3) := by
  unfold f_X12_laysRows_75_L48
  exact fr_X12_laysRows_80_L48 W M0 M x1 x2 x3 (zI 1) (fun a h => hW a (zsub (by decide) h)) hM
theorem fr_X12_laysRows_79_L48 (W : Nat → Prop) (M0 : ZMem) (M : ZMem) (x1 : Int32) (x2 : Int32) (x3 : Int32) (hW : ∀ a, a ∈ ([0, 13, 14] : List Nat) → W a) (hM : zFr W M0 M) : zFf (zlp (fun r => zFr W M0 r.1) (fun r => zFr W M0 r)) (f_X12_laysRows_79_L48 M x1 x2 x3) := by
  unfold f_X12_laysRows_79_L48
  exact fr_X12_laysRows_80_L48 W M0 M x1 x2 x3 (zI 0) (fun a h => hW a (zsub (by decide) h)) hM
theorem fr_X12_laysRows_L48 (W : Nat → Prop) (M0 : ZMem) (x1 : Int32) (x2 : Int32) (s : (ZMem × Int32)) (hW : ∀ a, a ∈ ([0, 13, 14] : List Nat) → W a) (hs : zFr W M0 s.1) : zFf (zlp (fun r => zFr W M0 r.1) (fun r => zFr W M0 r)) (f_X12_laysRows_L48 x1 x2 s) := by
  unfold f_X12_laysRows_L48
  refine zFf_chk ?_
  refine zFf_ite ?_ ?_
  · exact zFf_some hs
  · refine zFf_ite ?_ ?_
    · exact fr_X12_laysRows_75_L48 W M0 s.1 x1 x2 s.2 (fun a h => hW a (zsub (by decide) h)) hs
    · refine zFf_ite ?_ ?_
      · refine zFf_ite ?_ ?_
        · exact fr_X12_laysRows_75_L48 W M0 s.1 x1 x2 s.2 (fun a h => hW a (zsub (by decide) h)) hs
        · exact fr_X12_laysRows_79_L48 W M0 s.1 x1 x2 s.2 (fun a h => hW a (zsub (by decide) h)) hs
      · exact fr_X12_laysRows_79_L48 W M0 s.1 x1 x2 s.2 (fun a h => hW a (zsub (by decide) h)) hs
theorem fr_X12_laysRows_L38 (W : Nat → Prop) (M0 : ZMem) (x1 : Int32) (s : (ZMem × Int32)) (hW : ∀ a, a ∈ ([0, 13, 14] : List Nat) → W a) (hs : zFr W M0 s.1) : zFf (zlp (fun r => zFr W M0 r.1) (fun r => zFr W M0 r)) (f_X12_laysRows_L38 x1 s) := by
  unfold f_X12_laysRows_L38
  refine zFf_ite ?_ ?_
  · exact zFf_some hs
  · refine zFf_bind (zFf_loop (QS := (fun r => zFr W M0 r.1)) (QE := (fun r => zFr W M0 r)) (fun z hz => fr_X12_laysRows_L48 W M0 x1 s.2 z (fun a h => hW a (zsub (by decide) h)) hz) hs) (fun e48 h_e48 => ?_)
    refine zFf_bnd (fun x2_99 _ => ?_)
    exact zFf_some h_e48
theorem fr_X12_laysRows_23 (W : Nat → Prop) (M0 : ZMem) (M : ZMem) (v0 : Int32) (hW : ∀ a, a ∈ ([0, 13, 14] : List Nat) → W a) (hM : zFr W M0 M) : zFf (fun r => zFr W M0 r) (f_X12_laysRows_23 M v0) := by
  unfold f_X12_laysRows_23
  refine zFf_bnd (fun M_26 e_M_26 => ?_)
  have h_M_26 : zFr W M0 M_26 := by rw [e_M_26]; exact (zFr_I hM (hW _ (by decide)))
  refine zFf_bnd (fun M_35 e_M_35 => ?_)
  have h_M_35 : zFr W M0 M_35 := by rw [e_M_35]; exact (zFr_I h_M_26 (hW _ (by decide)))
  refine zFf_bind (zFf_loop (QS := (fun r => zFr W M0 r.1)) (QE := (fun r => zFr W M0 r)) (fun z hz => fr_X12_laysRows_L38 W M0 v0 z (fun a h => hW a (zsub (by decide) h)) hz) h_M_35) (fun e38 h_e38 => ?_)
  exact zFf_some h_e38
theorem fr_X12_laysRows (W : Nat → Prop) (M0 : ZMem) (M : ZMem) (hW : ∀ a, a ∈ ([0, 13, 14] : List Nat) → W a) (hM : zFr W M0 M) : zFf (fun r => zFr W M0 r) (f_X12_laysRows M) := by
  unfold f_X12_laysRows
  refine zFf_ite ?_ ?_
  · refine zFf_bindP (fun r_11 => ?_)
    exact fr_X12_laysRows_23 W M0 M r_11 (fun a h => hW a (zsub (by decide) h)) hM
  · exact fr_X12_laysRows_23 W M0 M (M.1 9 (zix (zI 1))) (fun a h => hW a (zsub (by decide) h)) hM
theorem fr_X12_length_L8 (W : Nat → Prop) (M0 : ZMem) (x1 : Int32) (x2 : Int32) (s : (ZMem × Int32 × Int32 × Int32)) (hW : ∀ a, a ∈ ([15] : List Nat) → W a) (hs : zFr W M0 s.1) : zFf (zlp (fun r => zFr W M0 r.1) (fun r => zFr W M0 r.1)) (f_X12_length_L8 x1 x2 s) := by
  unfold f_X12_length_L8
  refine zFf_ite ?_ ?_
  · exact zFf_some hs
  · refine zFf_chk ?_
    refine zFf_chk ?_
    refine zFf_bnd (fun M_26 e_M_26 => ?_)
    have h_M_26 : zFr W M0 M_26 := by rw [e_M_26]; exact (zFr_I hs (hW _ (by decide)))
    refine zFf_bnd (fun x3_27 _ => ?_)
    refine zFf_bindP (fun r_32 => ?_)
    refine zFf_ite ?_ ?_
    · exact zFf_some h_M_26
    · refine zFf_ite ?_ ?_
      · exact zFf_some h_M_26
      · refine zFf_ite ?_ ?_
        · exact zFf_some h_M_26
        · refine zFf_ite ?_ ?_
          · exact zFf_some h_M_26
          · refine zFf_ite ?_ ?_
            · exact zFf_some h_M_26
            · exact zFf_some h_M_26
theorem fr_X12_length (W : Nat → Prop) (M0 : ZMem) (M : ZMem) (x1 : Int32) (x2 : Int32) (hW : ∀ a, a ∈ ([15] : List Nat) → W a) (hM : zFr W M0 M) : zFf (fun r => zFr W M0 r.1) (f_X12_length M x1 x2) := by
  unfold f_X12_length
  refine zFf_bind (zFf_loop (QS := (fun r => zFr W M0 r.1)) (QE := (fun r => zFr W M0 r.1)) (fun z hz => fr_X12_length_L8 W M0 x1 x2 z (fun a h => hW a (zsub (by decide) h)) hz) hM) (fun e8 h_e8 => ?_)
  exact zFf_some h_e8
theorem fr_X12_copiesWord_L26 (W : Nat → Prop) (M0 : ZMem) (x1 : Int32) (x2 : Int32) (s : (ZMem × Int32)) (hW : ∀ a, a ∈ ([17] : List Nat) → W a) (hs : zFr W M0 s.1) : zFf (zlp (fun r => zFr W M0 r.1) (fun r => zFr W M0 r)) (f_X12_copiesWord_L26 x1 x2 s) := by
  unfold f_X12_copiesWord_L26
  refine zFf_ite ?_ ?_
  · exact zFf_some hs
  · refine zFf_chk ?_
    refine zFf_chk ?_
    refine zFf_bnd (fun M_53 e_M_53 => ?_)
    have h_M_53 : zFr W M0 M_53 := by rw [e_M_53]; exact (zFr_I hs (hW _ (by decide)))
    refine zFf_bnd (fun x3_54 _ => ?_)
    exact zFf_some h_M_53
theorem fr_X12_copiesWord (W : Nat → Prop) (M0 : ZMem) (M : ZMem) (x1 : Int32) (x2 : Int32) (hW : ∀ a, a ∈ ([16, 17, 18] : List Nat) → W a) (hM : zFr W M0 M) : zFf (fun r => zFr W M0 r) (f_X12_copiesWord M x1 x2) := by
  unfold f_X12_copiesWord
  refine zFf_chk ?_
  refine zFf_chk ?_
  refine zFf_bnd (fun M_11 e_M_11 => ?_)
  have h_M_11 : zFr W M0 M_11 := by rw [e_M_11]; exact (zFr_I hM (hW _ (by decide)))
  refine zFf_chk ?_
  refine zFf_chk ?_
  refine zFf_bnd (fun M_23 e_M_23 => ?_)
  have h_M_23 : zFr W M0 M_23 := by rw [e_M_23]; exact (zFr_I h_M_11 (hW _ (by decide)))
  refine zFf_bind (zFf_loop (QS := (fun r => zFr W M0 r.1)) (QE := (fun r => zFr W M0 r)) (fun z hz => fr_X12_copiesWord_L26 W M0 x1 x2 z (fun a h => hW a (zsub (by decide) h)) hz) h_M_23) (fun e26 h_e26 => ?_)
  exact zFf_some h_e26
theorem fr_X12_comesWord_L47 (W : Nat → Prop) (M0 : ZMem) (x1 : Int32) (x2 : Int32) (s : (ZMem × Int32)) (hW : ∀ a, a ∈ ([16, 17, 18] : List Nat) → W a) (hs : zFr W M0 s.1) : zFf (zlp (fun r => zFr W M0 r.1) (fun r => zFr W M0 r)) (f_X12_comesWord_L47 x1 x2 s) := by
  unfold f_X12_comesWord_L47
  refine zFf_ite ?_ ?_
  · exact zFf_some hs
  · refine zFf_bind (fr_X12_copiesWord W M0 s.1 (s.2 - (zI 1)) s.2 (fun a h => hW a (zsub (by decide) h)) hs) (fun M_57 h_M_57 => ?_)
    refine zFf_bnd (fun x3_60 _ => ?_)
    exact zFf_some h_M_57
theorem fr_X12_comesWord_123_L92 (W : Nat → Prop) (M0 : ZMem) (M : ZMem) (x1 : Int32) (x2 : Int32) (x3 : Int32) (v1 : Int32) (v2 : Int32) (hW : ∀ a, a ∈ ([17] : List Nat) → W a) (hM : zFr W M0 M) : zFf (zlp (fun r => zFr W M0 r.1) (fun r => zFr W M0 r)) (f_X12_comesWord_123_L92 M x1 x2 x3 v1 v2) := by
  unfold f_X12_comesWord_123_L92
  refine zFf_chk ?_
  refine zFf_bnd (fun M_123 e_M_123 => ?_)
  have h_M_123 : zFr W M0 M_123 := by rw [e_M_123]; exact (zFr_I hM (hW _ (by decide)))
  refine zFf_bnd (fun x3_124 _ => ?_)
  exact zFf_some h_M_123
theorem fr_X12_comesWord_L92 (W : Nat → Prop) (M0 : ZMem) (x1 : Int32) (x2 : Int32) (s : (ZMem × Int32)) (hW : ∀ a, a ∈ ([17] : List Nat) → W a) (hs : zFr W M0 s.1) : zFf (zlp (fun r => zFr W M0 r.1) (fun r => zFr W M0 r)) (f_X12_comesWord_L92 x1 x2 s) := by
  unfold f_X12_comesWord_L92
  refine zFf_ite ?_ ?_
  · exact zFf_some hs
  · refine zFf_ite ?_ ?_
    · exact fr_X12_comesWord_123_L92 W M0 s.1 x1 x2 s.2 (((zI 7) * x2) + s.2) (zI (-1)) (fun a h => hW a (zsub (by decide) h)) hs
    · refine zFf_chk ?_
      exact fr_X12_comesWord_123_L92 W M0 s.1 x1 x2 s.2 (((zI 7) * x2) + s.2) (s.1.1 15 (zix s.2)) (fun a h => hW a (zsub (by decide) h)) hs
theorem fr_X12_comesWord_130 (W : Nat → Prop) (M0 : ZMem) (M : ZMem) (x2 : Int32) (hW : ∀ a, a ∈ ([18] : List Nat) → W a) (hM : zFr W M0 M) : zFf (fun r => zFr W M0 r) (f_X12_comesWord_130 M x2) := by
  unfold f_X12_comesWord_130
  refine zFf_chk ?_
  refine zFf_chk ?_
  refine zFf_bnd (fun M_139 e_M_139 => ?_)
  have h_M_139 : zFr W M0 M_139 := by rw [e_M_139]; exact (zFr_I hM (hW _ (by decide)))
  exact zFf_some h_M_139
theorem fr_X12_comesWord_42 (W : Nat → Prop) (M0 : ZMem) (M : ZMem) (x1 : Int32) (x2 : Int32) (hW : ∀ a, a ∈ ([0, 16, 17, 18] : List Nat) → W a) (hM : zFr W M0 M) : zFf (fun r => zFr W M0 r) (f_X12_comesWord_42 M x1 x2) := by
  unfold f_X12_comesWord_42
  refine zFf_bnd (fun x3_46 _ => ?_)
  refine zFf_bind (zFf_loop (QS := (fun r => zFr W M0 r.1)) (QE := (fun r => zFr W M0 r)) (fun z hz => fr_X12_comesWord_L47 W M0 x1 x2 z (fun a h => hW a (zsub (by decide) h)) hz) hM) (fun e47 h_e47 => ?_)
  refine zFf_bnd (fun M_73 e_M_73 => ?_)
  have h_M_73 : zFr W M0 M_73 := by rw [e_M_73]; exact (zFr_I h_e47 (hW _ (by decide)))
  refine zFf_chk ?_
  refine zFf_bnd (fun M_82 e_M_82 => ?_)
  have h_M_82 : zFr W M0 M_82 := by rw [e_M_82]; exact (zFr_I h_M_73 (hW _ (by decide)))
  refine zFf_chk ?_
  refine zFf_bnd (fun M_89 e_M_89 => ?_)
  have h_M_89 : zFr W M0 M_89 := by rw [e_M_89]; exact (zFr_I h_M_82 (hW _ (by decide)))
  refine zFf_bind (zFf_loop (QS := (fun r => zFr W M0 r.1)) (QE := (fun r => zFr W M0 r)) (fun z hz => fr_X12_comesWord_L92 W M0 x1 x2 z (fun a h => hW a (zsub (by decide) h)) hz) h_M_89) (fun e92 h_e92 => ?_)
  exact fr_X12_comesWord_130 W M0 e92 x2 (fun a h => hW a (zsub (by decide) h)) h_e92
theorem fr_X12_comesWord (W : Nat → Prop) (M0 : ZMem) (M : ZMem) (x1 : Int32) (hW : ∀ a, a ∈ ([0, 16, 17, 18] : List Nat) → W a) (hM : zFr W M0 M) : zFf (fun r => zFr W M0 r) (f_X12_comesWord M x1) := by
  unfold f_X12_comesWord
  refine zFf_bindP (fun e2 => ?_)
  refine zFf_ite ?_ ?_
  · exact fr_X12_comesWord_42 W M0 M x1 e2 (fun a h => hW a (zsub (by decide) h)) hM
  · refine zFf_bindP (fun r_36 => ?_)
    refine zFf_ite ?_ ?_
    · exact fr_X12_comesWord_130 W M0 M e2 (fun a h => hW a (zsub (by decide) h)) hM
    · exact fr_X12_comesWord_42 W M0 M x1 e2 (fun a h => hW a (zsub (by decide) h)) hM
theorem fr_X12_laysWords_L12 (W : Nat → Prop) (M0 : ZMem) (s : (ZMem × Int32)) (hW : ∀ a, a ∈ ([19, 20] : List Nat) → W a) (hs : zFr W M0 s.1) : zFf (zlp (fun r => zFr W M0 r.1) (fun r => zFr W M0 r)) (f_X12_laysWords_L12 s) := by
  unfold f_X12_laysWords_L12
  refine zFf_ite ?_ ?_
  · exact zFf_some hs
  · refine zFf_chk ?_
    refine zFf_bnd (fun M_24 e_M_24 => ?_)
    have h_M_24 : zFr W M0 M_24 := by rw [e_M_24]; exact (zFr_I hs (hW _ (by decide)))
    refine zFf_chk ?_
    refine zFf_bnd (fun M_31 e_M_31 => ?_)
    have h_M_31 : zFr W M0 M_31 := by rw [e_M_31]; exact (zFr_I h_M_24 (hW _ (by decide)))
    refine zFf_bnd (fun x1_32 _ => ?_)
    exact zFf_some h_M_31
theorem fr_X12_laysWords_L55 (W : Nat → Prop) (M0 : ZMem) (x1 : Int32) (s : (ZMem × Int32)) (hW : ∀ a, a ∈ ([0, 15, 16, 17, 18, 19, 20] : List Nat) → W a) (hs : zFr W M0 s.1) : zFf (zlp (fun r => zFr W M0 r.1) (fun r => zFr W M0 r)) (f_X12_laysWords_L55 x1 s) := by
  unfold f_X12_laysWords_L55
  refine zFf_chk ?_
  refine zFf_ite ?_ ?_
  · exact zFf_some hs
  · refine zFf_chk ?_
    refine zFf_bind (fr_X12_length W M0 s.1 s.2 (s.1.1 13 (zix (x1 + (zI 1)))) (fun a h => hW a (zsub (by decide) h)) hs) (fun r_77 h_r_77 => ?_)
    refine zFf_bind (fr_X12_comesWord W M0 r_77.1 r_77.2 (fun a h => hW a (zsub (by decide) h)) h_r_77) (fun M_83 h_M_83 => ?_)
    refine zFf_chk ?_
    refine zFf_chk ?_
    refine zFf_chk ?_
    refine zFf_bnd (fun M_100 e_M_100 => ?_)
    have h_M_100 : zFr W M0 M_100 := by rw [e_M_100]; exact (zFr_I h_M_83 (hW _ (by decide)))
    refine zFf_chk ?_
    refine zFf_chk ?_
    refine zFf_chk ?_
    refine zFf_bnd (fun M_119 e_M_119 => ?_)
    have h_M_119 : zFr W M0 M_119 := by rw [e_M_119]; exact (zFr_I h_M_100 (hW _ (by decide)))
    refine zFf_bnd (fun M_127 e_M_127 => ?_)
    have h_M_127 : zFr W M0 M_127 := by rw [e_M_127]; exact (zFr_I h_M_119 (hW _ (by decide)))
    refine zFf_bnd (fun x2_133 _ => ?_)
    exact zFf_some h_M_127
theorem fr_X12_laysWords_L40 (W : Nat → Prop) (M0 : ZMem) (s : (ZMem × Int32)) (hW : ∀ a, a ∈ ([0, 15, 16, 17, 18, 19, 20] : List Nat) → W a) (hs : zFr W M0 s.1) : zFf (zlp (fun r => zFr W M0 r.1) (fun r => zFr W M0 r)) (f_X12_laysWords_L40 s) := by
  unfold f_X12_laysWords_L40
  refine zFf_ite ?_ ?_
  · exact zFf_some hs
  · refine zFf_chk ?_
    refine zFf_bnd (fun x2_54 _ => ?_)
    refine zFf_bind (zFf_loop (QS := (fun r => zFr W M0 r.1)) (QE := (fun r => zFr W M0 r)) (fun z hz => fr_X12_laysWords_L55 W M0 s.2 z (fun a h => hW a (zsub (by decide) h)) hz) hs) (fun e55 h_e55 => ?_)
    refine zFf_bnd (fun x1_137 _ => ?_)
    exact zFf_some h_e55
theorem fr_X12_laysWords (W : Nat → Prop) (M0 : ZMem) (M : ZMem) (hW : ∀ a, a ∈ ([0, 15, 16, 17, 18, 19, 20] : List Nat) → W a) (hM : zFr W M0 M) : zFf (fun r => zFr W M0 r) (f_X12_laysWords M) := by
  unfold f_X12_laysWords
  refine zFf_bnd (fun M_2 e_M_2 => ?_)
  have h_M_2 : zFr W M0 M_2 := by rw [e_M_2]; exact (zFr_I hM (hW _ (by decide)))
  refine zFf_bnd (fun M_7 e_M_7 => ?_)
  have h_M_7 : zFr W M0 M_7 := by rw [e_M_7]; exact (zFr_I h_M_2 (hW _ (by decide)))
  refine zFf_bind (zFf_loop (QS := (fun r => zFr W M0 r.1)) (QE := (fun r => zFr W M0 r)) (fun z hz => fr_X12_laysWords_L12 W M0 z (fun a h => hW a (zsub (by decide) h)) hz) h_M_7) (fun e12 h_e12 => ?_)
  refine zFf_bind (zFf_loop (QS := (fun r => zFr W M0 r.1)) (QE := (fun r => zFr W M0 r)) (fun z hz => fr_X12_laysWords_L40 W M0 z (fun a h => hW a (zsub (by decide) h)) hz) h_e12) (fun e40 h_e40 => ?_)
  exact zFf_some h_e40
theorem fr_X12_tellsClue (W : Nat → Prop) (M0 : ZMem) (M : ZMem) (x1 : Int32) (x2 : Int32) (x3 : Int32) (hW : ∀ a, a ∈ ([22] : List Nat) → W a) (hM : zFr W M0 M) : zFf (fun r => zFr W M0 r) (f_X12_tellsClue M x1 x2 x3) := by
  unfold f_X12_tellsClue
  refine zFf_ite ?_ ?_
  · exact zFf_some hM
  · refine zFf_bindP (fun r_12 => ?_)
    refine zFf_chk ?_
    refine zFf_bnd (fun M_16 e_M_16 => ?_)
    have h_M_16 : zFr W M0 M_16 := by rw [e_M_16]; exact (zFr_I hM (hW _ (by decide)))
    refine zFf_bindP (fun r_24 => ?_)
    refine zFf_chk ?_
    refine zFf_bnd (fun M_28 e_M_28 => ?_)
    have h_M_28 : zFr W M0 M_28 := by rw [e_M_28]; exact (zFr_I h_M_16 (hW _ (by decide)))
    exact zFf_some h_M_28
theorem fr_X12_cluesOf_91 (W : Nat → Prop) (M0 : ZMem) (M : ZMem) (x1 : Int32) (x2 : Int32) (hW : ∀ a, a ∈ ([22] : List Nat) → W a) (hM : zFr W M0 M) : zFf (fun r => zFr W M0 r) (f_X12_cluesOf_91 M x1 x2) := by
  unfold f_X12_cluesOf_91
  refine zFf_chk ?_
  refine zFf_chk ?_
  refine zFf_ite ?_ ?_
  · exact zFf_some hM
  · refine zFf_chk ?_
    refine zFf_chk ?_
    refine zFf_bind (fr_X12_tellsClue W M0 M (zI 1) (M.1 17 (zix ((zI 7) * x1))) (M.1 17 (zix ((zI 7) * x2))) (fun a h => hW a (zsub (by decide) h)) hM) (fun M_132 h_M_132 => ?_)
    exact zFf_some h_M_132
theorem fr_X12_cluesOf (W : Nat → Prop) (M0 : ZMem) (M : ZMem) (x1 : Int32) (x2 : Int32) (hW : ∀ a, a ∈ ([22] : List Nat) → W a) (hM : zFr W M0 M) : zFf (fun r => zFr W M0 r) (f_X12_cluesOf M x1 x2) := by
  unfold f_X12_cluesOf
  refine zFf_chk ?_
  refine zFf_bnd (fun x3_6 _ => ?_)
  refine zFf_ite ?_ ?_
  · exact zFf_some hM
  · refine zFf_chk ?_
    refine zFf_ite ?_ ?_
    · refine zFf_bindP (fun r_25 => ?_)
      refine zFf_ite ?_ ?_
      · refine zFf_bnd (fun x4_41 _ => ?_)
        refine zFf_chk ?_
        refine zFf_chk ?_
        refine zFf_ite ?_ ?_
        · exact fr_X12_cluesOf_91 W M0 M x1 x2 (fun a h => hW a (zsub (by decide) h)) hM
        · refine zFf_chk ?_
          refine zFf_chk ?_
          refine zFf_bind (fr_X12_tellsClue W M0 M (zI 0) (M.1 17 (zix x4_41)) (M.1 17 (zix ((((zI 7) * x2) + x3_6) - (zI 1)))) (fun a h => hW a (zsub (by decide) h)) hM) (fun M_88 h_M_88 => ?_)
          exact fr_X12_cluesOf_91 W M0 M_88 x1 x2 (fun a h => hW a (zsub (by decide) h)) h_M_88
      · exact zFf_some hM
    · exact zFf_some hM
theorem fr_X12_laysGroups_L2 (W : Nat → Prop) (M0 : ZMem) (x1 : Int32) (s : (ZMem × Int32)) (hW : ∀ a, a ∈ ([23] : List Nat) → W a) (hs : zFr W M0 s.1) : zFf (zlp (fun r => zFr W M0 r.1) (fun r => zFr W M0 r)) (f_X12_laysGroups_L2 x1 s) := by
  unfold f_X12_laysGroups_L2
  refine zFf_ite ?_ ?_
  · exact zFf_some hs
  · refine zFf_chk ?_
    refine zFf_chk ?_
    refine zFf_bnd (fun M_26 e_M_26 => ?_)
    have h_M_26 : zFr W M0 M_26 := by rw [e_M_26]; exact (zFr_I hs (hW _ (by decide)))
    refine zFf_bnd (fun x2_27 _ => ?_)
    exact zFf_some h_M_26
theorem fr_X12_laysGroups_109_L54 (W : Nat → Prop) (M0 : ZMem) (M : ZMem) (x1 : Int32) (x2 : Int32) (x3 : Int32) (x4 : Int32) (v0 : Int32) (hW : ∀ a, a ∈ ([23] : List Nat) → W a) (hM : zFr W M0 M) : zFf (zlp (fun r => zFr W M0 r.1) (fun r => zFr W M0 r.1)) (f_X12_laysGroups_109_L54 M x1 x2 x3 x4 v0) := by
  unfold f_X12_laysGroups_109_L54
  refine zFf_ite ?_ ?_
  · refine zFf_bnd (fun x4_167 _ => ?_)
    exact zFf_some hM
  · refine zFf_chk ?_
    refine zFf_chk ?_
    refine zFf_ite ?_ ?_
    · refine zFf_bnd (fun x4_167 _ => ?_)
      exact zFf_some hM
    · refine zFf_chk ?_
      refine zFf_chk ?_
      refine zFf_bnd (fun M_164 e_M_164 => ?_)
      have h_M_164 : zFr W M0 M_164 := by rw [e_M_164]; exact (zFr_I hM (hW _ (by decide)))
      refine zFf_bnd (fun x4_167 _ => ?_)
      exact zFf_some h_M_164
theorem fr_X12_laysGroups_104_L54 (W : Nat → Prop) (M0 : ZMem) (M : ZMem) (x1 : Int32) (x2 : Int32) (x3 : Int32) (x4 : Int32) (hW : ∀ a, a ∈ ([23] : List Nat) → W a) (hM : zFr W M0 M) : zFf (zlp (fun r => zFr W M0 r.1) (fun r => zFr W M0 r.1)) (f_X12_laysGroups_104_L54 M x1 x2 x3 x4) := by
  unfold f_X12_laysGroups_104_L54
  exact fr_X12_laysGroups_109_L54 W M0 M x1 x2 x3 x4 (zI 1) (fun a h => hW a (zsub (by decide) h)) hM
theorem fr_X12_laysGroups_L54 (W : Nat → Prop) (M0 : ZMem) (x1 : Int32) (x3 : Int32) (s : (ZMem × Int32 × Int32)) (hW : ∀ a, a ∈ ([23] : List Nat) → W a) (hs : zFr W M0 s.1) : zFf (zlp (fun r => zFr W M0 r.1) (fun r => zFr W M0 r.1)) (f_X12_laysGroups_L54 x1 x3 s) := by
  unfold f_X12_laysGroups_L54
  refine zFf_ite ?_ ?_
  · exact zFf_some hs
  · refine zFf_chk ?_
    refine zFf_chk ?_
    refine zFf_ite ?_ ?_
    · exact fr_X12_laysGroups_104_L54 W M0 s.1 x1 s.2.1 x3 s.2.2 (fun a h => hW a (zsub (by decide) h)) hs
    · refine zFf_chk ?_
      refine zFf_chk ?_
      refine zFf_bindP (fun r_97 => ?_)
      refine zFf_chk ?_
      refine zFf_ite ?_ ?_
      · exact fr_X12_laysGroups_109_L54 W M0 s.1 x1 s.2.1 x3 s.2.2 (zI 0) (fun a h => hW a (zsub (by decide) h)) hs
      · exact fr_X12_laysGroups_104_L54 W M0 s.1 x1 s.2.1 x3 s.2.2 (fun a h => hW a (zsub (by decide) h)) hs
theorem fr_X12_laysGroups_L43 (W : Nat → Prop) (M0 : ZMem) (x1 : Int32) (s : (ZMem × Int32 × Int32)) (hW : ∀ a, a ∈ ([23] : List Nat) → W a) (hs : zFr W M0 s.1) : zFf (zlp (fun r => zFr W M0 r.1) (fun r => zFr W M0 r.1)) (f_X12_laysGroups_L43 x1 s) := by
  unfold f_X12_laysGroups_L43
  refine zFf_ite ?_ ?_
  · exact zFf_some hs
  · refine zFf_bind (zFf_loop (QS := (fun r => zFr W M0 r.1)) (QE := (fun r => zFr W M0 r.1)) (fun z hz => fr_X12_laysGroups_L54 W M0 x1 s.2.2 z (fun a h => hW a (zsub (by decide) h)) hz) hs) (fun e54 h_e54 => ?_)
    refine zFf_bnd (fun x3_173 _ => ?_)
    exact zFf_some h_e54
theorem fr_X12_laysGroups_L35 (W : Nat → Prop) (M0 : ZMem) (x1 : Int32) (s : (ZMem × Int32)) (hW : ∀ a, a ∈ ([23] : List Nat) → W a) (hs : zFr W M0 s.1) : zFf (zlp (fun r => zFr W M0 r.1) (fun r => zFr W M0 r)) (f_X12_laysGroups_L35 x1 s) := by
  unfold f_X12_laysGroups_L35
  refine zFf_ite ?_ ?_
  · exact zFf_some hs
  · refine zFf_bind (zFf_loop (QS := (fun r => zFr W M0 r.1)) (QE := (fun r => zFr W M0 r.1)) (fun z hz => fr_X12_laysGroups_L43 W M0 x1 z (fun a h => hW a (zsub (by decide) h)) hz) hs) (fun e43 h_e43 => ?_)
    exact zFf_some h_e43
theorem fr_X12_laysGroups (W : Nat → Prop) (M0 : ZMem) (M : ZMem) (x1 : Int32) (hW : ∀ a, a ∈ ([23] : List Nat) → W a) (hM : zFr W M0 M) : zFf (fun r => zFr W M0 r) (f_X12_laysGroups M x1) := by
  unfold f_X12_laysGroups
  refine zFf_bind (zFf_loop (QS := (fun r => zFr W M0 r.1)) (QE := (fun r => zFr W M0 r)) (fun z hz => fr_X12_laysGroups_L2 W M0 x1 z (fun a h => hW a (zsub (by decide) h)) hz) hM) (fun e2 h_e2 => ?_)
  refine zFf_bind (zFf_loop (QS := (fun r => zFr W M0 r.1)) (QE := (fun r => zFr W M0 r)) (fun z hz => fr_X12_laysGroups_L35 W M0 x1 z (fun a h => hW a (zsub (by decide) h)) hz) h_e2) (fun e35 h_e35 => ?_)
  exact zFf_some h_e35
theorem fr_X12_laysGrid_L2 (W : Nat → Prop) (M0 : ZMem) (s : (ZMem × Int32)) (hW : ∀ a, a ∈ ([22] : List Nat) → W a) (hs : zFr W M0 s.1) : zFf (zlp (fun r => zFr W M0 r.1) (fun r => zFr W M0 r)) (f_X12_laysGrid_L2 s) := by
  unfold f_X12_laysGrid_L2
  refine zFf_ite ?_ ?_
  · exact zFf_some hs
  · refine zFf_chk ?_
    refine zFf_bnd (fun M_15 e_M_15 => ?_)
    have h_M_15 : zFr W M0 M_15 := by rw [e_M_15]; exact (zFr_I hs (hW _ (by decide)))
    refine zFf_bnd (fun x1_16 _ => ?_)
    exact zFf_some h_M_15
theorem fr_X12_laysGrid_L36 (W : Nat → Prop) (M0 : ZMem) (x1 : Int32) (s : (ZMem × Int32)) (hW : ∀ a, a ∈ ([22] : List Nat) → W a) (hs : zFr W M0 s.1) : zFf (zlp (fun r => zFr W M0 r.1) (fun r => zFr W M0 r)) (f_X12_laysGrid_L36 x1 s) := by
  unfold f_X12_laysGrid_L36
  refine zFf_ite ?_ ?_
  · exact zFf_some hs
  · refine zFf_bind (fr_X12_cluesOf W M0 s.1 x1 s.2 (fun a h => hW a (zsub (by decide) h)) hs) (fun M_47 h_M_47 => ?_)
    refine zFf_bnd (fun x2_50 _ => ?_)
    exact zFf_some h_M_47
theorem fr_X12_laysGrid_L24 (W : Nat → Prop) (M0 : ZMem) (s : (ZMem × Int32)) (hW : ∀ a, a ∈ ([22] : List Nat) → W a) (hs : zFr W M0 s.1) : zFf (zlp (fun r => zFr W M0 r.1) (fun r => zFr W M0 r)) (f_X12_laysGrid_L24 s) := by
  unfold f_X12_laysGrid_L24
  refine zFf_ite ?_ ?_
  · exact zFf_some hs
  · refine zFf_bnd (fun x2_35 _ => ?_)
    refine zFf_bind (zFf_loop (QS := (fun r => zFr W M0 r.1)) (QE := (fun r => zFr W M0 r)) (fun z hz => fr_X12_laysGrid_L36 W M0 s.2 z (fun a h => hW a (zsub (by decide) h)) hz) hs) (fun e36 h_e36 => ?_)
    refine zFf_bnd (fun x1_56 _ => ?_)
    exact zFf_some h_e36
theorem fr_X12_laysGrid_L64 (W : Nat → Prop) (M0 : ZMem) (s : (ZMem × Int32)) (hW : ∀ a, a ∈ ([22] : List Nat) → W a) (hs : zFr W M0 s.1) : zFf (zlp (fun r => zFr W M0 r.1) (fun r => zFr W M0 r)) (f_X12_laysGrid_L64 s) := by
  unfold f_X12_laysGrid_L64
  refine zFf_ite ?_ ?_
  · exact zFf_some hs
  · refine zFf_bnd (fun x2_81 _ => ?_)
    refine zFf_chk ?_
    refine zFf_chk ?_
    refine zFf_chk ?_
    refine zFf_chk ?_
    refine zFf_chk ?_
    refine zFf_bind (fr_X12_tellsClue W M0 s.1 (s.1.1 9 (zix (x2_81 + (zI 2)))) (s.1.1 11 (zix (s.1.1 9 (zix x2_81)))) (s.1.1 11 (zix (s.1.1 9 (zix (x2_81 + (zI 1)))))) (fun a h => hW a (zsub (by decide) h)) hs) (fun M_115 h_M_115 => ?_)
    refine zFf_bnd (fun x1_118 _ => ?_)
    exact zFf_some h_M_115
theorem fr_X12_laysGrid (W : Nat → Prop) (M0 : ZMem) (M : ZMem) (hW : ∀ a, a ∈ ([22, 23] : List Nat) → W a) (hM : zFr W M0 M) : zFf (fun r => zFr W M0 r) (f_X12_laysGrid M) := by
  unfold f_X12_laysGrid
  refine zFf_bind (zFf_loop (QS := (fun r => zFr W M0 r.1)) (QE := (fun r => zFr W M0 r)) (fun z hz => fr_X12_laysGrid_L2 W M0 z (fun a h => hW a (zsub (by decide) h)) hz) hM) (fun e2 h_e2 => ?_)
  refine zFf_bind (zFf_loop (QS := (fun r => zFr W M0 r.1)) (QE := (fun r => zFr W M0 r)) (fun z hz => fr_X12_laysGrid_L24 W M0 z (fun a h => hW a (zsub (by decide) h)) hz) h_e2) (fun e24 h_e24 => ?_)
  refine zFf_bind (zFf_loop (QS := (fun r => zFr W M0 r.1)) (QE := (fun r => zFr W M0 r)) (fun z hz => fr_X12_laysGrid_L64 W M0 z (fun a h => hW a (zsub (by decide) h)) hz) h_e24) (fun e64 h_e64 => ?_)
  refine zFf_bind (fr_X12_laysGroups W M0 e64 (zI 0) (fun a h => hW a (zsub (by decide) h)) h_e64) (fun M_126 h_M_126 => ?_)
  refine zFf_bind (fr_X12_laysGroups W M0 M_126 (zI 1) (fun a h => hW a (zsub (by decide) h)) h_M_126) (fun M_131 h_M_131 => ?_)
  exact zFf_some h_M_131
theorem fr_X12_laysKnown_L36 (W : Nat → Prop) (M0 : ZMem) (x1 : Int32) (x2 : Int32) (s : (ZMem × Int32)) (hW : ∀ a, a ∈ ([25] : List Nat) → W a) (hs : zFr W M0 s.1) : zFf (zlp (fun r => zFr W M0 r.1) (fun r => zFr W M0 r)) (f_X12_laysKnown_L36 x1 x2 s) := by
  unfold f_X12_laysKnown_L36
  refine zFf_ite ?_ ?_
  · exact zFf_some hs
  · refine zFf_chk ?_
    refine zFf_ite ?_ ?_
    · refine zFf_bnd (fun x3_100 _ => ?_)
      exact zFf_some hs
    · refine zFf_chk ?_
      refine zFf_chk ?_
      refine zFf_ite ?_ ?_
      · refine zFf_chk ?_
        refine zFf_bindP (fun r_96 => ?_)
        refine zFf_chk ?_
        refine zFf_bnd (fun M_99 e_M_99 => ?_)
        have h_M_99 : zFr W M0 M_99 := by rw [e_M_99]; exact (zFr_I hs (hW _ (by decide)))
        refine zFf_bnd (fun x3_100 _ => ?_)
        exact zFf_some h_M_99
      · refine zFf_bnd (fun x3_100 _ => ?_)
        exact zFf_some hs
theorem fr_X12_laysKnown_L9 (W : Nat → Prop) (M0 : ZMem) (x1 : Int32) (s : (ZMem × Int32)) (hW : ∀ a, a ∈ ([25] : List Nat) → W a) (hs : zFr W M0 s.1) : zFf (zlp (fun r => zFr W M0 r.1) (fun r => zFr W M0 r)) (f_X12_laysKnown_L9 x1 s) := by
  unfold f_X12_laysKnown_L9
  refine zFf_ite ?_ ?_
  · exact zFf_some hs
  · refine zFf_chk ?_
    refine zFf_bnd (fun M_28 e_M_28 => ?_)
    have h_M_28 : zFr W M0 M_28 := by rw [e_M_28]; exact (zFr_I hs (hW _ (by decide)))
    refine zFf_bnd (fun x3_35 _ => ?_)
    refine zFf_bind (zFf_loop (QS := (fun r => zFr W M0 r.1)) (QE := (fun r => zFr W M0 r)) (fun z hz => fr_X12_laysKnown_L36 W M0 x1 s.2 z (fun a h => hW a (zsub (by decide) h)) hz) h_M_28) (fun e36 h_e36 => ?_)
    refine zFf_bnd (fun x2_106 _ => ?_)
    exact zFf_some h_e36
theorem fr_X12_laysKnown_L2 (W : Nat → Prop) (M0 : ZMem) (s : (ZMem × Int32)) (hW : ∀ a, a ∈ ([25] : List Nat) → W a) (hs : zFr W M0 s.1) : zFf (zlp (fun r => zFr W M0 r.1) (fun r => zFr W M0 r)) (f_X12_laysKnown_L2 s) := by
  unfold f_X12_laysKnown_L2
  refine zFf_ite ?_ ?_
  · exact zFf_some hs
  · refine zFf_bind (zFf_loop (QS := (fun r => zFr W M0 r.1)) (QE := (fun r => zFr W M0 r)) (fun z hz => fr_X12_laysKnown_L9 W M0 s.2 z (fun a h => hW a (zsub (by decide) h)) hz) hs) (fun e9 h_e9 => ?_)
    refine zFf_bnd (fun x1_112 _ => ?_)
    exact zFf_some h_e9
theorem fr_X12_laysKnown (W : Nat → Prop) (M0 : ZMem) (M : ZMem) (hW : ∀ a, a ∈ ([25] : List Nat) → W a) (hM : zFr W M0 M) : zFf (fun r => zFr W M0 r) (f_X12_laysKnown M) := by
  unfold f_X12_laysKnown
  refine zFf_bind (zFf_loop (QS := (fun r => zFr W M0 r.1)) (QE := (fun r => zFr W M0 r)) (fun z hz => fr_X12_laysKnown_L2 W M0 z (fun a h => hW a (zsub (by decide) h)) hz) hM) (fun e2 h_e2 => ?_)
  exact zFf_some h_e2
theorem fr_X12_lays (W : Nat → Prop) (M0 : ZMem) (M : ZMem) (hW : ∀ a, a ∈ ([0, 11, 13, 14, 15, 16, 17, 18, 19, 20, 22, 23, 25] : List Nat) → W a) (hM : zFr W M0 M) : zFf (fun r => zFr W M0 r) (f_X12_lays M) := by
  unfold f_X12_lays
  refine zFf_ite ?_ ?_
  · refine zFf_bind (fr_X12_laysSigns W M0 M (fun a h => hW a (zsub (by decide) h)) hM) (fun M_9 h_M_9 => ?_)
    refine zFf_bind (fr_X12_laysRows W M0 M_9 (fun a h => hW a (zsub (by decide) h)) h_M_9) (fun M_13 h_M_13 => ?_)
    refine zFf_bind (fr_X12_laysWords W M0 M_13 (fun a h => hW a (zsub (by decide) h)) h_M_13) (fun M_17 h_M_17 => ?_)
    refine zFf_bind (fr_X12_laysGrid W M0 M_17 (fun a h => hW a (zsub (by decide) h)) h_M_17) (fun M_21 h_M_21 => ?_)
    refine zFf_bind (fr_X12_laysKnown W M0 M_21 (fun a h => hW a (zsub (by decide) h)) h_M_21) (fun M_25 h_M_25 => ?_)
    refine zFf_bnd (fun M_30 e_M_30 => ?_)
    have h_M_30 : zFr W M0 M_30 := by rw [e_M_30]; exact (zFr_I h_M_25 (hW _ (by decide)))
    exact zFf_some h_M_30
  · exact zFf_some hM
theorem fr_X12_clue (W : Nat → Prop) (M0 : ZMem) (M : ZMem) (x1 : Int32) (x2 : Int32) (x3 : Int32) (hW : ∀ a, a ∈ ([0, 9, 10, 11, 13, 14, 15, 16, 17, 18, 19, 20, 22, 23, 25] : List Nat) → W a) (hM : zFr W M0 M) : zFf (fun r => zFr W M0 r.1) (f_X12_clue M x1 x2 x3) := by
  unfold f_X12_clue
  refine zFf_bindP (fun r_2 => ?_)
  refine zFf_ite ?_ ?_
  · exact zFf_some hM
  · refine zFf_bindP (fun r_10 => ?_)
    refine zFf_ite ?_ ?_
    · exact zFf_some hM
    · refine zFf_bind (fr_X12_lays W M0 M (fun a h => hW a (zsub (by decide) h)) hM) (fun M_19 h_M_19 => ?_)
      refine zFf_chk ?_
      refine zFf_chk ?_
      refine zFf_ite ?_ ?_
      · exact zFf_some h_M_19
      · refine zFf_bindP (fun r_41 => ?_)
        refine zFf_ite ?_ ?_
        · refine zFf_ite ?_ ?_
          · exact zFf_some h_M_19
          · refine zFf_bind (fr_X12_remembers W M0 M_19 (fun a h => hW a (zsub (by decide) h)) h_M_19) (fun M_61 h_M_61 => ?_)
            refine zFf_bnd (fun x4_76 _ => ?_)
            refine zFf_chk ?_
            refine zFf_bnd (fun M_85 e_M_85 => ?_)
            have h_M_85 : zFr W M0 M_85 := by rw [e_M_85]; exact (zFr_I h_M_61 (hW _ (by decide)))
            refine zFf_chk ?_
            refine zFf_bnd (fun M_95 e_M_95 => ?_)
            have h_M_95 : zFr W M0 M_95 := by rw [e_M_95]; exact (zFr_I h_M_85 (hW _ (by decide)))
            refine zFf_bindP (fun r_105 => ?_)
            refine zFf_chk ?_
            refine zFf_bnd (fun M_108 e_M_108 => ?_)
            have h_M_108 : zFr W M0 M_108 := by rw [e_M_108]; exact (zFr_I h_M_95 (hW _ (by decide)))
            refine zFf_bnd (fun M_118 e_M_118 => ?_)
            have h_M_118 : zFr W M0 M_118 := by rw [e_M_118]; exact (zFr_I h_M_108 (hW _ (by decide)))
            exact zFf_some h_M_118
        · exact zFf_some h_M_19
theorem fr_X12_guess_65 (W : Nat → Prop) (M0 : ZMem) (M : ZMem) (x1 : Int32) (v0 : Int32) (hW : ∀ a, a ∈ ([0, 9, 10, 11, 13, 14, 15, 16, 17, 18, 19, 20, 22, 23, 25] : List Nat) → W a) (hM : zFr W M0 M) : zFf (fun r => zFr W M0 r.1) (f_X12_guess_65 M x1 v0) := by
  unfold f_X12_guess_65
  refine zFf_chk ?_
  refine zFf_ite ?_ ?_
  · exact zFf_some hM
  · refine zFf_bind (fr_X12_remembers W M0 M (fun a h => hW a (zsub (by decide) h)) hM) (fun M_83 h_M_83 => ?_)
    refine zFf_chk ?_
    refine zFf_bnd (fun M_95 e_M_95 => ?_)
    have h_M_95 : zFr W M0 M_95 := by rw [e_M_95]; exact (zFr_I h_M_83 (hW _ (by decide)))
    refine zFf_bind (fr_X12_lays W M0 M_95 (fun a h => hW a (zsub (by decide) h)) h_M_95) (fun M_97 h_M_97 => ?_)
    refine zFf_bindP (fun r_101 => ?_)
    exact zFf_some h_M_97
theorem fr_X12_guess_51 (W : Nat → Prop) (M0 : ZMem) (M : ZMem) (x1 : Int32) (x2 : Int32) (x3 : Int32) (x4 : Int32) (hW : ∀ a, a ∈ ([0, 9, 10, 11, 13, 14, 15, 16, 17, 18, 19, 20, 22, 23, 25] : List Nat) → W a) (hM : zFr W M0 M) : zFf (fun r => zFr W M0 r.1) (f_X12_guess_51 M x1 x2 x3 x4) := by
  unfold f_X12_guess_51
  refine zFf_ite ?_ ?_
  · exact fr_X12_guess_65 W M0 M x1 (((zI 5) * x2) + x3) (fun a h => hW a (zsub (by decide) h)) hM
  · exact fr_X12_guess_65 W M0 M x1 (zI (-1)) (fun a h => hW a (zsub (by decide) h)) hM
theorem fr_X12_guess_15 (W : Nat → Prop) (M0 : ZMem) (M : ZMem) (x1 : Int32) (x2 : Int32) (x3 : Int32) (v0 : Int32) (hW : ∀ a, a ∈ ([0, 9, 10, 11, 13, 14, 15, 16, 17, 18, 19, 20, 22, 23, 25] : List Nat) → W a) (hM : zFr W M0 M) : zFf (fun r => zFr W M0 r.1) (f_X12_guess_15 M x1 x2 x3 v0) := by
  unfold f_X12_guess_15
  refine zFf_bindP (fun r_19 => ?_)
  refine zFf_ite ?_ ?_
  · exact zFf_some hM
  · refine zFf_ite ?_ ?_
    · refine zFf_bindP (fun r_34 => ?_)
      refine zFf_ite ?_ ?_
      · exact zFf_some hM
      · refine zFf_bindP (fun r_43 => ?_)
        refine zFf_ite ?_ ?_
        · exact zFf_some hM
        · exact fr_X12_guess_51 W M0 M x1 x2 x3 v0 (fun a h => hW a (zsub (by decide) h)) hM
    · exact fr_X12_guess_51 W M0 M x1 x2 x3 v0 (fun a h => hW a (zsub (by decide) h)) hM
theorem fr_X12_guess_14 (W : Nat → Prop) (M0 : ZMem) (M : ZMem) (x1 : Int32) (x2 : Int32) (x3 : Int32) (hW : ∀ a, a ∈ ([0, 9, 10, 11, 13, 14, 15, 16, 17, 18, 19, 20, 22, 23, 25] : List Nat) → W a) (hM : zFr W M0 M) : zFf (fun r => zFr W M0 r.1) (f_X12_guess_14 M x1 x2 x3) := by
  unfold f_X12_guess_14
  exact fr_X12_guess_15 W M0 M x1 x2 x3 (zI 0) (fun a h => hW a (zsub (by decide) h)) hM
theorem fr_X12_guess (W : Nat → Prop) (M0 : ZMem) (M : ZMem) (x1 : Int32) (x2 : Int32) (x3 : Int32) (hW : ∀ a, a ∈ ([0, 9, 10, 11, 13, 14, 15, 16, 17, 18, 19, 20, 22, 23, 25] : List Nat) → W a) (hM : zFr W M0 M) : zFf (fun r => zFr W M0 r.1) (f_X12_guess M x1 x2 x3) := by
  unfold f_X12_guess
  refine zFf_ite ?_ ?_
  · refine zFf_ite ?_ ?_
    · exact fr_X12_guess_15 W M0 M x1 x2 x3 (zI 1) (fun a h => hW a (zsub (by decide) h)) hM
    · exact fr_X12_guess_14 W M0 M x1 x2 x3 (fun a h => hW a (zsub (by decide) h)) hM
  · exact fr_X12_guess_14 W M0 M x1 x2 x3 (fun a h => hW a (zsub (by decide) h)) hM
theorem fr_X12_sign_ (W : Nat → Prop) (M0 : ZMem) (M : ZMem) (x1 : Int32) (hW : ∀ a, a ∈ ([0, 11, 13, 14, 15, 16, 17, 18, 19, 20, 22, 23, 25] : List Nat) → W a) (hM : zFr W M0 M) : zFf (fun r => zFr W M0 r.1) (f_X12_sign_ M x1) := by
  unfold f_X12_sign_
  refine zFf_bindP (fun r_2 => ?_)
  refine zFf_ite ?_ ?_
  · exact zFf_some hM
  · refine zFf_bind (fr_X12_lays W M0 M (fun a h => hW a (zsub (by decide) h)) hM) (fun M_11 h_M_11 => ?_)
    refine zFf_chk ?_
    exact zFf_some h_M_11
theorem fr_X12_size (W : Nat → Prop) (M0 : ZMem) (M : ZMem) (x1 : Int32) (hW : ∀ a, a ∈ ([0, 11, 13, 14, 15, 16, 17, 18, 19, 20, 22, 23, 25] : List Nat) → W a) (hM : zFr W M0 M) : zFf (fun r => zFr W M0 r.1) (f_X12_size M x1) := by
  unfold f_X12_size
  refine zFf_bindP (fun r_2 => ?_)
  refine zFf_ite ?_ ?_
  · exact zFf_some hM
  · refine zFf_bind (fr_X12_lays W M0 M (fun a h => hW a (zsub (by decide) h)) hM) (fun M_11 h_M_11 => ?_)
    refine zFf_bindP (fun e18 => ?_)
    exact zFf_some h_M_11
theorem fr_X12_joins_35_L2 (W : Nat → Prop) (M0 : ZMem) (M : ZMem) (x1 : Int32) (x2 : Int32) (x3 : Int32) (v1 : Int32) (v2 : Int32) (hW : ∀ a, a ∈ ([12] : List Nat) → W a) (hM : zFr W M0 M) : zFf (zlp (fun r => zFr W M0 r.1) (fun r => zFr W M0 r)) (f_X12_joins_35_L2 M x1 x2 x3 v1 v2) := by
  unfold f_X12_joins_35_L2
  refine zFf_chk ?_
  refine zFf_bnd (fun M_35 e_M_35 => ?_)
  have h_M_35 : zFr W M0 M_35 := by rw [e_M_35]; exact (zFr_I hM (hW _ (by decide)))
  refine zFf_bnd (fun x3_36 _ => ?_)
  exact zFf_some h_M_35
theorem fr_X12_joins_L2 (W : Nat → Prop) (M0 : ZMem) (x1 : Int32) (x2 : Int32) (s : (ZMem × Int32)) (hW : ∀ a, a ∈ ([12] : List Nat) → W a) (hs : zFr W M0 s.1) : zFf (zlp (fun r => zFr W M0 r.1) (fun r => zFr W M0 r)) (f_X12_joins_L2 x1 x2 s) := by
  unfold f_X12_joins_L2
  refine zFf_ite ?_ ?_
  · exact zFf_some hs
  · refine zFf_chk ?_
    refine zFf_ite ?_ ?_
    · exact fr_X12_joins_35_L2 W M0 s.1 x1 x2 s.2 s.2 x1 (fun a h => hW a (zsub (by decide) h)) hs
    · refine zFf_chk ?_
      exact fr_X12_joins_35_L2 W M0 s.1 x1 x2 s.2 s.2 (s.1.1 12 (zix s.2)) (fun a h => hW a (zsub (by decide) h)) hs
theorem fr_X12_joins (W : Nat → Prop) (M0 : ZMem) (M : ZMem) (x1 : Int32) (x2 : Int32) (hW : ∀ a, a ∈ ([12] : List Nat) → W a) (hM : zFr W M0 M) : zFf (fun r => zFr W M0 r) (f_X12_joins M x1 x2) := by
  unfold f_X12_joins
  refine zFf_bind (zFf_loop (QS := (fun r => zFr W M0 r.1)) (QE := (fun r => zFr W M0 r)) (fun z hz => fr_X12_joins_L2 W M0 x1 x2 z (fun a h => hW a (zsub (by decide) h)) hz) hM) (fun e2 h_e2 => ?_)
  exact zFf_some h_e2
theorem fr_X12_tree_L27 (W : Nat → Prop) (M0 : ZMem) (x1 : Int32) (x2 : Int32) (s : (ZMem × Int32)) (hW : ∀ a, a ∈ ([12] : List Nat) → W a) (hs : zFr W M0 s.1) : zFf (zlp (fun r => zFr W M0 r.1) (fun r => zFr W M0 r)) (f_X12_tree_L27 x1 x2 s) := by
  unfold f_X12_tree_L27
  refine zFf_ite ?_ ?_
  · exact zFf_some hs
  · refine zFf_chk ?_
    refine zFf_bnd (fun M_41 e_M_41 => ?_)
    have h_M_41 : zFr W M0 M_41 := by rw [e_M_41]; exact (zFr_I hs (hW _ (by decide)))
    refine zFf_bnd (fun x3_42 _ => ?_)
    exact zFf_some h_M_41
theorem fr_X12_tree_L78 (W : Nat → Prop) (M0 : ZMem) (x1 : Int32) (x2 : Int32) (x4 : Int32) (x5 : Int32) (s : (ZMem × Int32 × Int32)) (hW : ∀ a, a ∈ ([12] : List Nat) → W a) (hs : zFr W M0 s.1) : zFf (zlp (fun r => zFr W M0 r.1) (fun r => zsel r (fun e => zFr W M0 e.1) (fun e => zFr W M0 e.1))) (f_X12_tree_L78 x1 x2 x4 x5 s) := by
  unfold f_X12_tree_L78
  refine zFf_ite ?_ ?_
  · exact zFf_some hs
  · refine zFf_chk ?_
    refine zFf_chk ?_
    refine zFf_ite ?_ ?_
    · refine zFf_bnd (fun x6_168 _ => ?_)
      exact zFf_some hs
    · refine zFf_bindP (fun r_109 => ?_)
      refine zFf_ite ?_ ?_
      · refine zFf_ite ?_ ?_
        · refine zFf_ite ?_ ?_
          · exact zFf_some hs
          · refine zFf_ite ?_ ?_
            · exact zFf_some hs
            · exact zFf_some hs
        · refine zFf_bnd (fun x3_147 _ => ?_)
          refine zFf_chk ?_
          refine zFf_chk ?_
          refine zFf_bind (fr_X12_joins W M0 s.1 (s.1.1 12 (zix x5)) (s.1.1 12 (zix s.2.2)) (fun a h => hW a (zsub (by decide) h)) hs) (fun M_165 h_M_165 => ?_)
          refine zFf_bnd (fun x6_168 _ => ?_)
          exact zFf_some h_M_165
      · refine zFf_bnd (fun x6_168 _ => ?_)
        exact zFf_some hs
theorem fr_X12_tree_L63 (W : Nat → Prop) (M0 : ZMem) (x1 : Int32) (x2 : Int32) (x4 : Int32) (s : (ZMem × Int32 × Int32)) (hW : ∀ a, a ∈ ([12] : List Nat) → W a) (hs : zFr W M0 s.1) : zFf (zlp (fun r => zFr W M0 r.1) (fun r => zsel r (fun e => zFr W M0 e.1) (fun e => zFr W M0 e.1))) (f_X12_tree_L63 x1 x2 x4 s) := by
  unfold f_X12_tree_L63
  refine zFf_ite ?_ ?_
  · exact zFf_some hs
  · refine zFf_bnd (fun x6_76 _ => ?_)
    refine zFf_bind (zFf_loop (QS := (fun r => zFr W M0 r.1)) (QE := (fun r => zsel r (fun e => zFr W M0 e.1) (fun e => zFr W M0 e.1))) (fun z hz => fr_X12_tree_L78 W M0 x1 x2 x4 s.2.2 z (fun a h => hW a (zsub (by decide) h)) hz) hs) (fun e78 h_e78 => ?_)
    cases e78 with
    | inl e78a =>
      refine zFf_selL ?_
      refine zFf_bnd (fun x5_174 _ => ?_)
      exact zFf_some h_e78
    | inr e78b =>
      refine zFf_selR ?_
      exact zFf_some h_e78
theorem fr_X12_tree_L53 (W : Nat → Prop) (M0 : ZMem) (x1 : Int32) (x2 : Int32) (s : (ZMem × Int32 × Int32)) (hW : ∀ a, a ∈ ([12] : List Nat) → W a) (hs : zFr W M0 s.1) : zFf (zlp (fun r => zFr W M0 r.1) (fun r => zsel r (fun e => zFr W M0 e) (fun e => zFr W M0 e.1))) (f_X12_tree_L53 x1 x2 s) := by
  unfold f_X12_tree_L53
  refine zFf_ite ?_ ?_
  · exact zFf_some hs
  · refine zFf_bind (zFf_loop (QS := (fun r => zFr W M0 r.1)) (QE := (fun r => zsel r (fun e => zFr W M0 e.1) (fun e => zFr W M0 e.1))) (fun z hz => fr_X12_tree_L63 W M0 x1 x2 s.2.2 z (fun a h => hW a (zsub (by decide) h)) hz) hs) (fun e63 h_e63 => ?_)
    cases e63 with
    | inl e63a =>
      refine zFf_selL ?_
      refine zFf_bnd (fun x4_180 _ => ?_)
      exact zFf_some h_e63
    | inr e63b =>
      refine zFf_selR ?_
      exact zFf_some h_e63
theorem fr_X12_tree (W : Nat → Prop) (M0 : ZMem) (M : ZMem) (x1 : Int32) (x2 : Int32) (hW : ∀ a, a ∈ ([12] : List Nat) → W a) (hM : zFr W M0 M) : zFf (fun r => zFr W M0 r.1) (f_X12_tree M x1 x2) := by
  unfold f_X12_tree
  refine zFf_bindP (fun r_8 => ?_)
  refine zFf_ite ?_ ?_
  · exact zFf_some hM
  · refine zFf_bindP (fun r_17 => ?_)
    refine zFf_ite ?_ ?_
    · exact zFf_some hM
    · refine zFf_bind (zFf_loop (QS := (fun r => zFr W M0 r.1)) (QE := (fun r => zFr W M0 r)) (fun z hz => fr_X12_tree_L27 W M0 x1 x2 z (fun a h => hW a (zsub (by decide) h)) hz) hM) (fun e27 h_e27 => ?_)
      refine zFf_bind (zFf_loop (QS := (fun r => zFr W M0 r.1)) (QE := (fun r => zsel r (fun e => zFr W M0 e) (fun e => zFr W M0 e.1))) (fun z hz => fr_X12_tree_L53 W M0 x1 x2 z (fun a h => hW a (zsub (by decide) h)) hz) h_e27) (fun e53 h_e53 => ?_)
      cases e53 with
      | inl e53a =>
        refine zFf_selL ?_
        exact zFf_some h_e53
      | inr e53b =>
        refine zFf_selR ?_
        exact zFf_some h_e53
theorem fr_X12_judged (W : Nat → Prop) (M0 : ZMem) (M : ZMem) (x1 : Int32) (hW : ∀ a, a ∈ ([0, 11, 13, 14, 15, 16, 17, 18, 19, 20, 22, 23, 25] : List Nat) → W a) (hM : zFr W M0 M) : zFf (fun r => zFr W M0 r.1) (f_X12_judged M x1) := by
  unfold f_X12_judged
  refine zFf_bind (fr_X12_lays W M0 M (fun a h => hW a (zsub (by decide) h)) hM) (fun M_1 h_M_1 => ?_)
  refine zFf_ite ?_ ?_
  · refine zFf_bindP (fun r_41 => ?_)
    exact zFf_some h_M_1
  · refine zFf_ite ?_ ?_
    · refine zFf_bindP (fun r_47 => ?_)
      exact zFf_some h_M_1
    · refine zFf_ite ?_ ?_
      · refine zFf_bindP (fun r_53 => ?_)
        exact zFf_some h_M_1
      · refine zFf_ite ?_ ?_
        · refine zFf_bindP (fun r_59 => ?_)
          exact zFf_some h_M_1
        · refine zFf_ite ?_ ?_
          · refine zFf_bindP (fun r_65 => ?_)
            exact zFf_some h_M_1
          · exact zFf_some h_M_1
theorem fr_X12_read (W : Nat → Prop) (M0 : ZMem) (M : ZMem) (x1 : Int32) (x2 : Int32) (x3 : Int32) (hW : ∀ a, a ∈ ([0, 11, 13, 14, 15, 16, 17, 18, 19, 20, 22, 23, 25] : List Nat) → W a) (hM : zFr W M0 M) : zFf (fun r => zFr W M0 r.1) (f_X12_read M x1 x2 x3) := by
  unfold f_X12_read
  refine zFf_bindP (fun r_8 => ?_)
  refine zFf_ite ?_ ?_
  · exact zFf_some hM
  · refine zFf_chk ?_
    refine zFf_bindP (fun r_24 => ?_)
    refine zFf_ite ?_ ?_
    · exact zFf_some hM
    · refine zFf_bind (fr_X12_lays W M0 M (fun a h => hW a (zsub (by decide) h)) hM) (fun M_33 h_M_33 => ?_)
      refine zFf_bindP (fun e42 => ?_)
      refine zFf_chk ?_
      refine zFf_chk ?_
      refine zFf_bnd (fun x5_83 _ => ?_)
      refine zFf_ite ?_ ?_
      · exact zFf_some h_M_33
      · refine zFf_bindP (fun r_99 => ?_)
        refine zFf_ite ?_ ?_
        · exact zFf_some h_M_33
        · refine zFf_chk ?_
          refine zFf_chk ?_
          exact zFf_some h_M_33
theorem fr_X12_pieceTold_85_L21 (W : Nat → Prop) (M0 : ZMem) (M : ZMem) (x1 : Int32) (x2 : Int32) (hW : ∀ a, a ∈ ([0] : List Nat) → W a) (hM : zFr W M0 M) : zFf (zlp (fun r => zFr W M0 r.1) (fun r => zFr W M0 r.1)) (f_X12_pieceTold_85_L21 M x1 x2) := by
  unfold f_X12_pieceTold_85_L21
  refine zFf_bnd (fun M_92 e_M_92 => ?_)
  have h_M_92 : zFr W M0 M_92 := by rw [e_M_92]; exact (zFr_I hM (hW _ (by decide)))
  exact zFf_some h_M_92
theorem fr_X12_pieceTold_59_L21 (W : Nat → Prop) (M0 : ZMem) (M : ZMem) (x1 : Int32) (v0 : Int32) (hW : ∀ a, a ∈ ([0, 15] : List Nat) → W a) (hM : zFr W M0 M) : zFf (zlp (fun r => zFr W M0 r.1) (fun r => zFr W M0 r.1)) (f_X12_pieceTold_59_L21 M x1 v0) := by
  unfold f_X12_pieceTold_59_L21
  refine zFf_ite ?_ ?_
  · exact fr_X12_pieceTold_85_L21 W M0 M x1 v0 (fun a h => hW a (zsub (by decide) h)) hM
  · refine zFf_bindP (fun r_77 => ?_)
    refine zFf_chk ?_
    refine zFf_chk ?_
    refine zFf_bnd (fun M_84 e_M_84 => ?_)
    have h_M_84 : zFr W M0 M_84 := by rw [e_M_84]; exact (zFr_I hM (hW _ (by decide)))
    exact fr_X12_pieceTold_85_L21 W M0 M_84 x1 v0 (fun a h => hW a (zsub (by decide) h)) h_M_84
theorem fr_X12_pieceTold_58_L21 (W : Nat → Prop) (M0 : ZMem) (M : ZMem) (x1 : Int32) (hW : ∀ a, a ∈ ([0, 15] : List Nat) → W a) (hM : zFr W M0 M) : zFf (zlp (fun r => zFr W M0 r.1) (fun r => zFr W M0 r.1)) (f_X12_pieceTold_58_L21 M x1) := by
  unfold f_X12_pieceTold_58_L21
  exact fr_X12_pieceTold_59_L21 W M0 M x1 (zI 0) (fun a h => hW a (zsub (by decide) h)) hM
theorem fr_X12_pieceTold_L21 (W : Nat → Prop) (M0 : ZMem) (x1 : Int32) (s : (ZMem × Int32)) (hW : ∀ a, a ∈ ([0, 15] : List Nat) → W a) (hs : zFr W M0 s.1) : zFf (zlp (fun r => zFr W M0 r.1) (fun r => zFr W M0 r.1)) (f_X12_pieceTold_L21 x1 s) := by
  unfold f_X12_pieceTold_L21
  refine zFf_ite ?_ ?_
  · exact zFf_some hs
  · refine zFf_ite ?_ ?_
    · exact zFf_some hs
    · refine zFf_bindP (fun r_34 => ?_)
      refine zFf_ite ?_ ?_
      · exact fr_X12_pieceTold_58_L21 W M0 s.1 x1 (fun a h => hW a (zsub (by decide) h)) hs
      · refine zFf_bindP (fun r_41 => ?_)
        refine zFf_ite ?_ ?_
        · exact fr_X12_pieceTold_58_L21 W M0 s.1 x1 (fun a h => hW a (zsub (by decide) h)) hs
        · exact fr_X12_pieceTold_59_L21 W M0 s.1 x1 (zI 1) (fun a h => hW a (zsub (by decide) h)) hs
theorem fr_X12_pieceTold (W : Nat → Prop) (M0 : ZMem) (M : ZMem) (hW : ∀ a, a ∈ ([0, 11, 13, 14, 15, 16, 17, 18, 19, 20, 22, 23, 25] : List Nat) → W a) (hM : zFr W M0 M) : zFf (fun r => zFr W M0 r.1) (f_X12_pieceTold M) := by
  unfold f_X12_pieceTold
  refine zFf_bind (fr_X12_lays W M0 M (fun a h => hW a (zsub (by decide) h)) hM) (fun M_1 h_M_1 => ?_)
  refine zFf_bind (fr_X12_starts W M0 M_1 (fun a h => hW a (zsub (by decide) h)) h_M_1) (fun M_5 h_M_5 => ?_)
  refine zFf_bnd (fun x1_12 _ => ?_)
  refine zFf_bindP (fun r_17 => ?_)
  refine zFf_bind (zFf_loop (QS := (fun r => zFr W M0 r.1)) (QE := (fun r => zFr W M0 r.1)) (fun z hz => fr_X12_pieceTold_L21 W M0 x1_12 z (fun a h => hW a (zsub (by decide) h)) hz) h_M_5) (fun e21 h_e21 => ?_)
  refine zFf_bnd (fun M_100 e_M_100 => ?_)
  have h_M_100 : zFr W M0 M_100 := by rw [e_M_100]; exact (zFr_I h_e21 (hW _ (by decide)))
  refine zFf_ite ?_ ?_
  · exact zFf_some h_M_100
  · exact zFf_some h_M_100
theorem fr_X12_comes (W : Nat → Prop) (M0 : ZMem) (M : ZMem) (hW : ∀ a, a ∈ ([0, 11, 13, 14, 15, 16, 17, 18, 19, 20, 22, 23, 25] : List Nat) → W a) (hM : zFr W M0 M) : zFf (fun r => zFr W M0 r.1) (f_X12_comes M) := by
  unfold f_X12_comes
  refine zFf_bind (fr_X12_pieceTold W M0 M (fun a h => hW a (zsub (by decide) h)) hM) (fun r_1 h_r_1 => ?_)
  refine zFf_ite ?_ ?_
  · exact zFf_some h_r_1
  · refine zFf_bindP (fun r_15 => ?_)
    exact zFf_some h_r_1
theorem fr_X12_next (W : Nat → Prop) (M0 : ZMem) (M : ZMem) (hW : ∀ a, a ∈ ([0, 11, 13, 14, 15, 16, 17, 18, 19, 20, 22, 23, 25] : List Nat) → W a) (hM : zFr W M0 M) : zFf (fun r => zFr W M0 r.1) (f_X12_next M) := by
  unfold f_X12_next
  refine zFf_bind (fr_X12_pieceTold W M0 M (fun a h => hW a (zsub (by decide) h)) hM) (fun r_1 h_r_1 => ?_)
  refine zFf_ite ?_ ?_
  · exact zFf_some h_r_1
  · refine zFf_bindP (fun r_15 => ?_)
    exact zFf_some h_r_1
theorem fr_X12_words (W : Nat → Prop) (M0 : ZMem) (M : ZMem) (hW : ∀ a, a ∈ ([0, 11, 13, 14, 15, 16, 17, 18, 19, 20, 22, 23, 25] : List Nat) → W a) (hM : zFr W M0 M) : zFf (fun r => zFr W M0 r.1) (f_X12_words M) := by
  unfold f_X12_words
  refine zFf_bind (fr_X12_lays W M0 M (fun a h => hW a (zsub (by decide) h)) hM) (fun M_1 h_M_1 => ?_)
  exact zFf_some h_M_1
theorem fr_X12_word (W : Nat → Prop) (M0 : ZMem) (M : ZMem) (x1 : Int32) (x2 : Int32) (hW : ∀ a, a ∈ ([0, 11, 13, 14, 15, 16, 17, 18, 19, 20, 22, 23, 25] : List Nat) → W a) (hM : zFr W M0 M) : zFf (fun r => zFr W M0 r.1) (f_X12_word M x1 x2) := by
  unfold f_X12_word
  refine zFf_bind (fr_X12_lays W M0 M (fun a h => hW a (zsub (by decide) h)) hM) (fun M_1 h_M_1 => ?_)
  refine zFf_bindP (fun r_12 => ?_)
  refine zFf_ite ?_ ?_
  · exact zFf_some h_M_1
  · refine zFf_bindP (fun r_22 => ?_)
    refine zFf_ite ?_ ?_
    · exact zFf_some h_M_1
    · refine zFf_ite ?_ ?_
      · refine zFf_chk ?_
        exact zFf_some h_M_1
      · refine zFf_ite ?_ ?_
        · refine zFf_chk ?_
          exact zFf_some h_M_1
        · refine zFf_chk ?_
          exact zFf_some h_M_1
theorem fr_X12_rank_L6 (W : Nat → Prop) (M0 : ZMem) (M : ZMem) (x1 : Int32) (s : (Int32)) (hW : ∀ a, a ∈ ([] : List Nat) → W a) (hM : zFr W M0 M) : zFf (zlp (fun r => True) (fun r => zsel r (fun e => True) (fun e => zFr W M0 e.1))) (f_X12_rank_L6 M x1 s) := by
  unfold f_X12_rank_L6
  refine zFf_ite ?_ ?_
  · exact zFf_some trivial
  · refine zFf_bindP (fun e19 => ?_)
    refine zFf_ite ?_ ?_
    · exact zFf_some hM
    · refine zFf_bnd (fun x2_90 _ => ?_)
      exact zFf_some trivial
theorem fr_X12_rank (W : Nat → Prop) (M0 : ZMem) (M : ZMem) (x1 : Int32) (hW : ∀ a, a ∈ ([0, 11, 13, 14, 15, 16, 17, 18, 19, 20, 22, 23, 25] : List Nat) → W a) (hM : zFr W M0 M) : zFf (fun r => zFr W M0 r.1) (f_X12_rank M x1) := by
  unfold f_X12_rank
  refine zFf_bind (fr_X12_lays W M0 M (fun a h => hW a (zsub (by decide) h)) hM) (fun M_1 h_M_1 => ?_)
  refine zFf_bind (zFf_loop (QS := (fun r => True)) (QE := (fun r => zsel r (fun e => True) (fun e => zFr W M0 e.1))) (fun z _ => fr_X12_rank_L6 W M0 M_1 x1 z (fun a h => hW a (zsub (by decide) h)) h_M_1) trivial) (fun e6 h_e6 => ?_)
  cases e6 with
  | inl e6a =>
    refine zFf_selL ?_
    exact zFf_some h_M_1
  | inr e6b =>
    refine zFf_selR ?_
    exact zFf_some h_e6
theorem fr_X12_stands_ (W : Nat → Prop) (M0 : ZMem) (M : ZMem) (x1 : Int32) (x2 : Int32) (hW : ∀ a, a ∈ ([0, 11, 13, 14, 15, 16, 17, 18, 19, 20, 22, 23, 25] : List Nat) → W a) (hM : zFr W M0 M) : zFf (fun r => zFr W M0 r.1) (f_X12_stands_ M x1 x2) := by
  unfold f_X12_stands_
  refine zFf_bindP (fun r_2 => ?_)
  refine zFf_ite ?_ ?_
  · exact zFf_some hM
  · refine zFf_bindP (fun r_11 => ?_)
    refine zFf_ite ?_ ?_
    · exact zFf_some hM
    · refine zFf_bind (fr_X12_lays W M0 M (fun a h => hW a (zsub (by decide) h)) hM) (fun M_20 h_M_20 => ?_)
      refine zFf_chk ?_
      refine zFf_bnd (fun x3_29 _ => ?_)
      refine zFf_ite ?_ ?_
      · refine zFf_bindP (fun e62 => ?_)
        exact zFf_some h_M_20
      · refine zFf_ite ?_ ?_
        · refine zFf_chk ?_
          exact zFf_some h_M_20
        · refine zFf_ite ?_ ?_
          · refine zFf_chk ?_
            exact zFf_some h_M_20
          · refine zFf_bindP (fun r_125 => ?_)
            exact zFf_some h_M_20
theorem fr_X12_ahead (W : Nat → Prop) (M0 : ZMem) (M : ZMem) (x1 : Int32) (x2 : Int32) (hW : ∀ a, a ∈ ([0, 11, 13, 14, 15, 16, 17, 18, 19, 20, 22, 23, 25] : List Nat) → W a) (hM : zFr W M0 M) : zFf (fun r => zFr W M0 r.1) (f_X12_ahead M x1 x2) := by
  unfold f_X12_ahead
  refine zFf_bindP (fun r_2 => ?_)
  refine zFf_ite ?_ ?_
  · exact zFf_some hM
  · refine zFf_bindP (fun r_10 => ?_)
    refine zFf_ite ?_ ?_
    · exact zFf_some hM
    · refine zFf_bind (fr_X12_lays W M0 M (fun a h => hW a (zsub (by decide) h)) hM) (fun M_19 h_M_19 => ?_)
      refine zFf_bindP (fun e27 => ?_)
      exact zFf_some h_M_19
theorem fr_X12_laysPiece_L2 (W : Nat → Prop) (M0 : ZMem) (x1 : Int32) (x2 : Int32) (s : (ZMem × Int32)) (hW : ∀ a, a ∈ ([15] : List Nat) → W a) (hs : zFr W M0 s.1) : zFf (zlp (fun r => zFr W M0 r.1) (fun r => zFr W M0 r)) (f_X12_laysPiece_L2 x1 x2 s) := by
  unfold f_X12_laysPiece_L2
  refine zFf_ite ?_ ?_
  · exact zFf_some hs
  · refine zFf_chk ?_
    refine zFf_chk ?_
    refine zFf_bnd (fun M_23 e_M_23 => ?_)
    have h_M_23 : zFr W M0 M_23 := by rw [e_M_23]; exact (zFr_I hs (hW _ (by decide)))
    refine zFf_bnd (fun x3_24 _ => ?_)
    exact zFf_some h_M_23
theorem fr_X12_laysPiece (W : Nat → Prop) (M0 : ZMem) (M : ZMem) (x1 : Int32) (x2 : Int32) (hW : ∀ a, a ∈ ([15] : List Nat) → W a) (hM : zFr W M0 M) : zFf (fun r => zFr W M0 r) (f_X12_laysPiece M x1 x2) := by
  unfold f_X12_laysPiece
  refine zFf_bind (zFf_loop (QS := (fun r => zFr W M0 r.1)) (QE := (fun r => zFr W M0 r)) (fun z hz => fr_X12_laysPiece_L2 W M0 x1 x2 z (fun a h => hW a (zsub (by decide) h)) hz) hM) (fun e2 h_e2 => ?_)
  exact zFf_some h_e2
theorem fr_X12_laysStems_L80 (W : Nat → Prop) (M0 : ZMem) (x1 : Int32) (s : (ZMem × Int32)) (hW : ∀ a, a ∈ ([21] : List Nat) → W a) (hs : zFr W M0 s.1) : zFf (zlp (fun r => zFr W M0 r.1) (fun r => zFr W M0 r.1)) (f_X12_laysStems_L80 x1 s) := by
  unfold f_X12_laysStems_L80
  refine zFf_ite ?_ ?_
  · exact zFf_some hs
  · refine zFf_chk ?_
    refine zFf_bindP (fun r_96 => ?_)
    refine zFf_ite ?_ ?_
    · exact zFf_some hs
    · refine zFf_chk ?_
      refine zFf_chk ?_
      refine zFf_bnd (fun M_117 e_M_117 => ?_)
      have h_M_117 : zFr W M0 M_117 := by rw [e_M_117]; exact (zFr_I hs (hW _ (by decide)))
      refine zFf_bnd (fun x4_118 _ => ?_)
      exact zFf_some h_M_117
theorem fr_X12_laysStems_44_L7 (W : Nat → Prop) (M0 : ZMem) (M : ZMem) (x1 : Int32) (x2 : Int32) (v0 : Int32) (hW : ∀ a, a ∈ ([0, 21] : List Nat) → W a) (hM : zFr W M0 M) : zFf (zlp (fun r => zFr W M0 r.1) (fun r => zFr W M0 r)) (f_X12_laysStems_44_L7 M x1 x2 v0) := by
  unfold f_X12_laysStems_44_L7
  refine zFf_bindP (fun r_46 => ?_)
  refine zFf_ite ?_ ?_
  · refine zFf_bnd (fun x1_142 _ => ?_)
    exact zFf_some hM
  · refine zFf_bindP (fun r_54 => ?_)
    refine zFf_chk ?_
    refine zFf_ite ?_ ?_
    · refine zFf_bnd (fun x4_78 _ => ?_)
      refine zFf_bind (zFf_loop (QS := (fun r => zFr W M0 r.1)) (QE := (fun r => zFr W M0 r.1)) (fun z hz => fr_X12_laysStems_L80 W M0 x1 z (fun a h => hW a (zsub (by decide) h)) hz) hM) (fun e80 h_e80 => ?_)
      refine zFf_chk ?_
      refine zFf_bnd (fun M_131 e_M_131 => ?_)
      have h_M_131 : zFr W M0 M_131 := by rw [e_M_131]; exact (zFr_I h_e80 (hW _ (by decide)))
      refine zFf_bnd (fun M_139 e_M_139 => ?_)
      have h_M_139 : zFr W M0 M_139 := by rw [e_M_139]; exact (zFr_I h_M_131 (hW _ (by decide)))
      refine zFf_bnd (fun x1_142 _ => ?_)
      exact zFf_some h_M_139
    · refine zFf_bnd (fun x1_142 _ => ?_)
      exact zFf_some hM
theorem fr_X12_laysStems_L7 (W : Nat → Prop) (M0 : ZMem) (s : (ZMem × Int32)) (hW : ∀ a, a ∈ ([0, 15, 21] : List Nat) → W a) (hs : zFr W M0 s.1) : zFf (zlp (fun r => zFr W M0 r.1) (fun r => zFr W M0 r)) (f_X12_laysStems_L7 s) := by
  unfold f_X12_laysStems_L7
  refine zFf_ite ?_ ?_
  · exact zFf_some hs
  · refine zFf_chk ?_
    refine zFf_bnd (fun x2_23 _ => ?_)
    refine zFf_bind (fr_X12_laysPiece W M0 s.1 s.2 x2_23 (fun a h => hW a (zsub (by decide) h)) hs) (fun M_27 h_M_27 => ?_)
    refine zFf_ite ?_ ?_
    · refine zFf_bindP (fun r_41 => ?_)
      exact fr_X12_laysStems_44_L7 W M0 M_27 s.2 x2_23 r_41 (fun a h => hW a (zsub (by decide) h)) h_M_27
    · exact fr_X12_laysStems_44_L7 W M0 M_27 s.2 x2_23 (zI 0) (fun a h => hW a (zsub (by decide) h)) h_M_27
theorem fr_X12_laysStems (W : Nat → Prop) (M0 : ZMem) (M : ZMem) (hW : ∀ a, a ∈ ([0, 15, 21] : List Nat) → W a) (hM : zFr W M0 M) : zFf (fun r => zFr W M0 r) (f_X12_laysStems M) := by
  unfold f_X12_laysStems
  refine zFf_bnd (fun M_2 e_M_2 => ?_)
  have h_M_2 : zFr W M0 M_2 := by rw [e_M_2]; exact (zFr_I hM (hW _ (by decide)))
  refine zFf_bind (zFf_loop (QS := (fun r => zFr W M0 r.1)) (QE := (fun r => zFr W M0 r)) (fun z hz => fr_X12_laysStems_L7 W M0 z (fun a h => hW a (zsub (by decide) h)) hz) h_M_2) (fun e7 h_e7 => ?_)
  exact zFf_some h_e7
theorem fr_X12_stem (W : Nat → Prop) (M0 : ZMem) (M : ZMem) (x1 : Int32) (x2 : Int32) (hW : ∀ a, a ∈ ([0, 11, 13, 14, 15, 16, 17, 18, 19, 20, 21, 22, 23, 25] : List Nat) → W a) (hM : zFr W M0 M) : zFf (fun r => zFr W M0 r.1) (f_X12_stem M x1 x2) := by
  unfold f_X12_stem
  refine zFf_bind (fr_X12_lays W M0 M (fun a h => hW a (zsub (by decide) h)) hM) (fun M_1 h_M_1 => ?_)
  refine zFf_bind (fr_X12_laysStems W M0 M_1 (fun a h => hW a (zsub (by decide) h)) h_M_1) (fun M_5 h_M_5 => ?_)
  refine zFf_ite ?_ ?_
  · exact zFf_some h_M_5
  · refine zFf_bindP (fun r_26 => ?_)
    refine zFf_ite ?_ ?_
    · exact zFf_some h_M_5
    · refine zFf_bindP (fun r_36 => ?_)
      refine zFf_ite ?_ ?_
      · exact zFf_some h_M_5
      · refine zFf_chk ?_
        refine zFf_bnd (fun x3_50 _ => ?_)
        refine zFf_chk ?_
        refine zFf_bnd (fun x4_59 _ => ?_)
        refine zFf_bind (fr_X12_laysPiece W M0 M_5 x3_50 x4_59 (fun a h => hW a (zsub (by decide) h)) h_M_5) (fun M_65 h_M_65 => ?_)
        refine zFf_ite ?_ ?_
        · refine zFf_ite ?_ ?_
          · exact zFf_some h_M_65
          · refine zFf_ite ?_ ?_
            · exact zFf_some h_M_65
            · refine zFf_chk ?_
              exact zFf_some h_M_65
        · refine zFf_ite ?_ ?_
          · refine zFf_bindP (fun r_80 => ?_)
            refine zFf_bindP (fun r_83 => ?_)
            exact zFf_some h_M_65
          · refine zFf_bindP (fun r_92 => ?_)
            exact zFf_some h_M_65
theorem fr_X12_clues (W : Nat → Prop) (M0 : ZMem) (M : ZMem) (x1 : Int32) (hW : ∀ a, a ∈ ([0, 11, 13, 14, 15, 16, 17, 18, 19, 20, 22, 23, 25] : List Nat) → W a) (hM : zFr W M0 M) : zFf (fun r => zFr W M0 r.1) (f_X12_clues M x1) := by
  unfold f_X12_clues
  refine zFf_bind (fr_X12_lays W M0 M (fun a h => hW a (zsub (by decide) h)) hM) (fun M_1 h_M_1 => ?_)
  refine zFf_bindP (fun e8 => ?_)
  exact zFf_some h_M_1
theorem fr_X12_place (W : Nat → Prop) (M0 : ZMem) (M : ZMem) (x1 : Int32) (x2 : Int32) (hW : ∀ a, a ∈ ([0, 11, 13, 14, 15, 16, 17, 18, 19, 20, 22, 23, 25] : List Nat) → W a) (hM : zFr W M0 M) : zFf (fun r => zFr W M0 r.1) (f_X12_place M x1 x2) := by
  unfold f_X12_place
  refine zFf_bindP (fun r_2 => ?_)
  refine zFf_ite ?_ ?_
  · exact zFf_some hM
  · refine zFf_bind (fr_X12_lays W M0 M (fun a h => hW a (zsub (by decide) h)) hM) (fun M_11 h_M_11 => ?_)
    refine zFf_bindP (fun r_21 => ?_)
    refine zFf_chk ?_
    exact zFf_some h_M_11
theorem fr_X12_fewest_29_L3 (W : Nat → Prop) (M0 : ZMem) (M : ZMem) (x1 : Int32) (x2 : Int32) (x3 : Int32) (x4 : Int32) (v1 : Int32) (v2 : Int32) (hW : ∀ a, a ∈ ([24] : List Nat) → W a) (hM : zFr W M0 M) : zFf (zlp (fun r => zFr W M0 r.1) (fun r => zFr W M0 r)) (f_X12_fewest_29_L3 M x1 x2 x3 x4 v1 v2) := by
  unfold f_X12_fewest_29_L3
  refine zFf_chk ?_
  refine zFf_bnd (fun M_29 e_M_29 => ?_)
  have h_M_29 : zFr W M0 M_29 := by rw [e_M_29]; exact (zFr_I hM (hW _ (by decide)))
  refine zFf_bnd (fun x4_30 _ => ?_)
  exact zFf_some h_M_29
theorem fr_X12_fewest_L3 (W : Nat → Prop) (M0 : ZMem) (x1 : Int32) (x2 : Int32) (x3 : Int32) (s : (ZMem × Int32)) (hW : ∀ a, a ∈ ([24] : List Nat) → W a) (hs : zFr W M0 s.1) : zFf (zlp (fun r => zFr W M0 r.1) (fun r => zFr W M0 r)) (f_X12_fewest_L3 x1 x2 x3 s) := by
  unfold f_X12_fewest_L3
  refine zFf_ite ?_ ?_
  · exact zFf_some hs
  · refine zFf_ite ?_ ?_
    · exact fr_X12_fewest_29_L3 W M0 s.1 x1 x2 x3 s.2 s.2 (zI 0) (fun a h => hW a (zsub (by decide) h)) hs
    · exact fr_X12_fewest_29_L3 W M0 s.1 x1 x2 x3 s.2 s.2 (zI (-1)) (fun a h => hW a (zsub (by decide) h)) hs
theorem fr_X12_fewest_L64 (W : Nat → Prop) (M0 : ZMem) (x1 : Int32) (x3 : Int32) (x4 : Int32) (x5 : Int32) (s : (ZMem × Int32)) (hW : ∀ a, a ∈ ([24] : List Nat) → W a) (hs : zFr W M0 s.1) : zFf (zlp (fun r => zFr W M0 r.1) (fun r => zFr W M0 r)) (f_X12_fewest_L64 x1 x3 x4 x5 s) := by
  unfold f_X12_fewest_L64
  refine zFf_ite ?_ ?_
  · exact zFf_some hs
  · refine zFf_chk ?_
    refine zFf_ite ?_ ?_
    · refine zFf_chk ?_
      refine zFf_ite ?_ ?_
      · refine zFf_bindP (fun r_105 => ?_)
        refine zFf_chk ?_
        refine zFf_ite ?_ ?_
        · refine zFf_bnd (fun x6_123 _ => ?_)
          exact zFf_some hs
        · refine zFf_chk ?_
          refine zFf_bnd (fun M_122 e_M_122 => ?_)
          have h_M_122 : zFr W M0 M_122 := by rw [e_M_122]; exact (zFr_I hs (hW _ (by decide)))
          refine zFf_bnd (fun x6_123 _ => ?_)
          exact zFf_some h_M_122
      · refine zFf_bnd (fun x6_123 _ => ?_)
        exact zFf_some hs
    · refine zFf_bnd (fun x6_123 _ => ?_)
      exact zFf_some hs
theorem fr_X12_fewest_L52 (W : Nat → Prop) (M0 : ZMem) (x1 : Int32) (x3 : Int32) (x4 : Int32) (s : (ZMem × Int32)) (hW : ∀ a, a ∈ ([24] : List Nat) → W a) (hs : zFr W M0 s.1) : zFf (zlp (fun r => zFr W M0 r.1) (fun r => zFr W M0 r)) (f_X12_fewest_L52 x1 x3 x4 s) := by
  unfold f_X12_fewest_L52
  refine zFf_ite ?_ ?_
  · exact zFf_some hs
  · refine zFf_bind (zFf_loop (QS := (fun r => zFr W M0 r.1)) (QE := (fun r => zFr W M0 r)) (fun z hz => fr_X12_fewest_L64 W M0 x1 x3 x4 s.2 z (fun a h => hW a (zsub (by decide) h)) hz) hs) (fun e64 h_e64 => ?_)
    refine zFf_bnd (fun x5_129 _ => ?_)
    exact zFf_some h_e64
theorem fr_X12_fewest_L39 (W : Nat → Prop) (M0 : ZMem) (x1 : Int32) (x3 : Int32) (s : (ZMem × Int32)) (hW : ∀ a, a ∈ ([24] : List Nat) → W a) (hs : zFr W M0 s.1) : zFf (zlp (fun r => zFr W M0 r.1) (fun r => zFr W M0 r)) (f_X12_fewest_L39 x1 x3 s) := by
  unfold f_X12_fewest_L39
  refine zFf_chk ?_
  refine zFf_ite ?_ ?_
  · refine zFf_bind (zFf_loop (QS := (fun r => zFr W M0 r.1)) (QE := (fun r => zFr W M0 r)) (fun z hz => fr_X12_fewest_L52 W M0 x1 x3 s.2 z (fun a h => hW a (zsub (by decide) h)) hz) hs) (fun e52 h_e52 => ?_)
    refine zFf_bnd (fun x4_135 _ => ?_)
    exact zFf_some h_e52
  · exact zFf_some hs
theorem fr_X12_fewest (W : Nat → Prop) (M0 : ZMem) (M : ZMem) (x1 : Int32) (x2 : Int32) (x3 : Int32) (hW : ∀ a, a ∈ ([24] : List Nat) → W a) (hM : zFr W M0 M) : zFf (fun r => zFr W M0 r.1) (f_X12_fewest M x1 x2 x3) := by
  unfold f_X12_fewest
  refine zFf_bind (zFf_loop (QS := (fun r => zFr W M0 r.1)) (QE := (fun r => zFr W M0 r)) (fun z hz => fr_X12_fewest_L3 W M0 x1 x2 x3 z (fun a h => hW a (zsub (by decide) h)) hz) hM) (fun e3 h_e3 => ?_)
  refine zFf_bind (zFf_loop (QS := (fun r => zFr W M0 r.1)) (QE := (fun r => zFr W M0 r)) (fun z hz => fr_X12_fewest_L39 W M0 x1 x3 z (fun a h => hW a (zsub (by decide) h)) hz) h_e3) (fun e39 h_e39 => ?_)
  refine zFf_chk ?_
  exact zFf_some h_e39
theorem fr_X12_clash_L29 (W : Nat → Prop) (M0 : ZMem) (x1 : Int32) (x2 : Int32) (s : (ZMem × Int32)) (hW : ∀ a, a ∈ ([24] : List Nat) → W a) (hs : zFr W M0 s.1) : zFf (zlp (fun r => zFr W M0 r.1) (fun r => zsel r (fun e => zFr W M0 e) (fun e => zFr W M0 e.1))) (f_X12_clash_L29 x1 x2 s) := by
  unfold f_X12_clash_L29
  refine zFf_ite ?_ ?_
  · exact zFf_some hs
  · refine zFf_bindP (fun r_40 => ?_)
    refine zFf_ite ?_ ?_
    · refine zFf_bnd (fun x3_79 _ => ?_)
      exact zFf_some hs
    · refine zFf_ite ?_ ?_
      · exact zFf_some hs
      · refine zFf_ite ?_ ?_
        · exact zFf_some hs
        · refine zFf_bind (fr_X12_fewest W M0 s.1 (zI 0) x2 s.2 (fun a h => hW a (zsub (by decide) h)) hs) (fun r_67 h_r_67 => ?_)
          refine zFf_bind (fr_X12_fewest W M0 r_67.1 (zI 1) x2 s.2 (fun a h => hW a (zsub (by decide) h)) h_r_67) (fun r_74 h_r_74 => ?_)
          exact zFf_some h_r_74
theorem fr_X12_clash_L17 (W : Nat → Prop) (M0 : ZMem) (x1 : Int32) (s : (ZMem × Int32)) (hW : ∀ a, a ∈ ([24] : List Nat) → W a) (hs : zFr W M0 s.1) : zFf (zlp (fun r => zFr W M0 r.1) (fun r => zsel r (fun e => zFr W M0 e) (fun e => zFr W M0 e.1))) (f_X12_clash_L17 x1 s) := by
  unfold f_X12_clash_L17
  refine zFf_ite ?_ ?_
  · exact zFf_some hs
  · refine zFf_bnd (fun x3_28 _ => ?_)
    refine zFf_bind (zFf_loop (QS := (fun r => zFr W M0 r.1)) (QE := (fun r => zsel r (fun e => zFr W M0 e) (fun e => zFr W M0 e.1))) (fun z hz => fr_X12_clash_L29 W M0 x1 s.2 z (fun a h => hW a (zsub (by decide) h)) hz) hs) (fun e29 h_e29 => ?_)
    cases e29 with
    | inl e29a =>
      refine zFf_selL ?_
      refine zFf_bnd (fun x2_85 _ => ?_)
      exact zFf_some h_e29
    | inr e29b =>
      refine zFf_selR ?_
      exact zFf_some h_e29
theorem fr_X12_clash (W : Nat → Prop) (M0 : ZMem) (M : ZMem) (x1 : Int32) (hW : ∀ a, a ∈ ([0, 11, 13, 14, 15, 16, 17, 18, 19, 20, 22, 23, 24, 25] : List Nat) → W a) (hM : zFr W M0 M) : zFf (fun r => zFr W M0 r.1) (f_X12_clash M x1) := by
  unfold f_X12_clash
  refine zFf_bindP (fun r_3 => ?_)
  refine zFf_ite ?_ ?_
  · exact zFf_some hM
  · refine zFf_bind (fr_X12_lays W M0 M (fun a h => hW a (zsub (by decide) h)) hM) (fun M_12 h_M_12 => ?_)
    refine zFf_bind (zFf_loop (QS := (fun r => zFr W M0 r.1)) (QE := (fun r => zsel r (fun e => zFr W M0 e) (fun e => zFr W M0 e.1))) (fun z hz => fr_X12_clash_L17 W M0 x1 z (fun a h => hW a (zsub (by decide) h)) hz) h_M_12) (fun e17 h_e17 => ?_)
    cases e17 with
    | inl e17a =>
      refine zFf_selL ?_
      exact zFf_some h_e17
    | inr e17b =>
      refine zFf_selR ?_
      exact zFf_some h_e17
theorem fr_X12_clashes (W : Nat → Prop) (M0 : ZMem) (M : ZMem) (hW : ∀ a, a ∈ ([0, 11, 13, 14, 15, 16, 17, 18, 19, 20, 22, 23, 25] : List Nat) → W a) (hM : zFr W M0 M) : zFf (fun r => zFr W M0 r.1) (f_X12_clashes M) := by
  unfold f_X12_clashes
  refine zFf_bind (fr_X12_lays W M0 M (fun a h => hW a (zsub (by decide) h)) hM) (fun M_1 h_M_1 => ?_)
  refine zFf_bindP (fun e8 => ?_)
  exact zFf_some h_M_1
theorem fr_X12_known (W : Nat → Prop) (M0 : ZMem) (M : ZMem) (x1 : Int32) (x2 : Int32) (hW : ∀ a, a ∈ ([0, 11, 13, 14, 15, 16, 17, 18, 19, 20, 22, 23, 25] : List Nat) → W a) (hM : zFr W M0 M) : zFf (fun r => zFr W M0 r.1) (f_X12_known M x1 x2) := by
  unfold f_X12_known
  refine zFf_bindP (fun r_2 => ?_)
  refine zFf_ite ?_ ?_
  · exact zFf_some hM
  · refine zFf_bindP (fun r_11 => ?_)
    refine zFf_ite ?_ ?_
    · exact zFf_some hM
    · refine zFf_bind (fr_X12_lays W M0 M (fun a h => hW a (zsub (by decide) h)) hM) (fun M_20 h_M_20 => ?_)
      refine zFf_ite ?_ ?_
      · refine zFf_bindP (fun r_30 => ?_)
        refine zFf_bindP (fun r_33 => ?_)
        exact zFf_some h_M_20
      · refine zFf_chk ?_
        exact zFf_some h_M_20
theorem fr_X12_fits_L30 (W : Nat → Prop) (M0 : ZMem) (M : ZMem) (x1 : Int32) (x2 : Int32) (s : (Int32 × Int32)) (hW : ∀ a, a ∈ ([] : List Nat) → W a) (hM : zFr W M0 M) : zFf (zlp (fun r => True) (fun r => zsel r (fun e => True) (fun e => zFr W M0 e.1))) (f_X12_fits_L30 M x1 x2 s) := by
  unfold f_X12_fits_L30
  refine zFf_ite ?_ ?_
  · exact zFf_some trivial
  · refine zFf_bindP (fun r_43 => ?_)
    refine zFf_ite ?_ ?_
    · refine zFf_bnd (fun x4_60 _ => ?_)
      exact zFf_some trivial
    · refine zFf_ite ?_ ?_
      · exact zFf_some hM
      · refine zFf_bnd (fun x3_57 _ => ?_)
        refine zFf_bnd (fun x4_60 _ => ?_)
        exact zFf_some trivial
theorem fr_X12_fits (W : Nat → Prop) (M0 : ZMem) (M : ZMem) (x1 : Int32) (x2 : Int32) (hW : ∀ a, a ∈ ([0, 11, 13, 14, 15, 16, 17, 18, 19, 20, 22, 23, 25] : List Nat) → W a) (hM : zFr W M0 M) : zFf (fun r => zFr W M0 r.1) (f_X12_fits M x1 x2) := by
  unfold f_X12_fits
  refine zFf_bindP (fun r_8 => ?_)
  refine zFf_ite ?_ ?_
  · exact zFf_some hM
  · refine zFf_ite ?_ ?_
    · refine zFf_bind (fr_X12_lays W M0 M (fun a h => hW a (zsub (by decide) h)) hM) (fun M_22 h_M_22 => ?_)
      refine zFf_bind (zFf_loop (QS := (fun r => True)) (QE := (fun r => zsel r (fun e => True) (fun e => zFr W M0 e.1))) (fun z _ => fr_X12_fits_L30 W M0 M_22 x1 x2 z (fun a h => hW a (zsub (by decide) h)) h_M_22) trivial) (fun e30 h_e30 => ?_)
      cases e30 with
      | inl e30a =>
        refine zFf_selL ?_
        refine zFf_ite ?_ ?_
        · exact zFf_some h_M_22
        · exact zFf_some h_M_22
      | inr e30b =>
        refine zFf_selR ?_
        exact zFf_some h_e30
    · exact zFf_some hM
theorem fr_X12_hits (W : Nat → Prop) (M0 : ZMem) (M : ZMem) (hW : ∀ a, a ∈ ([0, 11, 13, 14, 15, 16, 17, 18, 19, 20, 22, 23, 25] : List Nat) → W a) (hM : zFr W M0 M) : zFf (fun r => zFr W M0 r.1) (f_X12_hits M) := by
  unfold f_X12_hits
  refine zFf_bind (fr_X12_lays W M0 M (fun a h => hW a (zsub (by decide) h)) hM) (fun M_1 h_M_1 => ?_)
  refine zFf_bindP (fun r_5 => ?_)
  exact zFf_some h_M_1
theorem fr_X12_takesWay_L2 (W : Nat → Prop) (M0 : ZMem) (s : (ZMem × Int32)) (hW : ∀ a, a ∈ ([27] : List Nat) → W a) (hs : zFr W M0 s.1) : zFf (zlp (fun r => zFr W M0 r.1) (fun r => zFr W M0 r)) (f_X12_takesWay_L2 s) := by
  unfold f_X12_takesWay_L2
  refine zFf_ite ?_ ?_
  · exact zFf_some hs
  · refine zFf_ite ?_ ?_
    · refine zFf_chk ?_
      refine zFf_chk ?_
      refine zFf_bnd (fun M_28 e_M_28 => ?_)
      have h_M_28 : zFr W M0 M_28 := by rw [e_M_28]; exact (zFr_I hs (hW _ (by decide)))
      refine zFf_bnd (fun x1_29 _ => ?_)
      exact zFf_some h_M_28
    · exact zFf_some hs
theorem fr_X12_takesWay (W : Nat → Prop) (M0 : ZMem) (M : ZMem) (hW : ∀ a, a ∈ ([0, 27] : List Nat) → W a) (hM : zFr W M0 M) : zFf (fun r => zFr W M0 r) (f_X12_takesWay M) := by
  unfold f_X12_takesWay
  refine zFf_bind (zFf_loop (QS := (fun r => zFr W M0 r.1)) (QE := (fun r => zFr W M0 r)) (fun z hz => fr_X12_takesWay_L2 W M0 z (fun a h => hW a (zsub (by decide) h)) hz) hM) (fun e2 h_e2 => ?_)
  refine zFf_bnd (fun M_42 e_M_42 => ?_)
  have h_M_42 : zFr W M0 M_42 := by rw [e_M_42]; exact (zFr_I h_e2 (hW _ (by decide)))
  exact zFf_some h_M_42
theorem fr_X12_laysWays_L27 (W : Nat → Prop) (M0 : ZMem) (s : (ZMem × Int32)) (hW : ∀ a, a ∈ ([0, 26, 27] : List Nat) → W a) (hs : zFr W M0 s.1) : zFf (zlp (fun r => zFr W M0 r.1) (fun r => zFr W M0 r)) (f_X12_laysWays_L27 s) := by
  unfold f_X12_laysWays_L27
  refine zFf_ite ?_ ?_
  · exact zFf_some hs
  · refine zFf_ite ?_ ?_
    · exact zFf_some hs
    · refine zFf_chk ?_
      refine zFf_chk ?_
      refine zFf_bnd (fun M_50 e_M_50 => ?_)
      have h_M_50 : zFr W M0 M_50 := by rw [e_M_50]; exact (zFr_I hs (hW _ (by decide)))
      refine zFf_chk ?_
      refine zFf_ite ?_ ?_
      · refine zFf_bindP (fun r_72 => ?_)
        refine zFf_ite ?_ ?_
        · exact zFf_some h_M_50
        · refine zFf_ite ?_ ?_
          · refine zFf_bind (fr_X12_takesWay W M0 M_50 (fun a h => hW a (zsub (by decide) h)) h_M_50) (fun M_89 h_M_89 => ?_)
            exact zFf_some h_M_89
          · refine zFf_bnd (fun x1_95 _ => ?_)
            refine zFf_chk ?_
            refine zFf_bnd (fun M_104 e_M_104 => ?_)
            have h_M_104 : zFr W M0 M_104 := by rw [e_M_104]; exact (zFr_I h_M_50 (hW _ (by decide)))
            exact zFf_some h_M_104
      · refine zFf_bnd (fun x1_64 _ => ?_)
        exact zFf_some h_M_50
theorem fr_X12_laysWays (W : Nat → Prop) (M0 : ZMem) (M : ZMem) (hW : ∀ a, a ∈ ([0, 26, 27] : List Nat) → W a) (hM : zFr W M0 M) : zFf (fun r => zFr W M0 r) (f_X12_laysWays M) := by
  unfold f_X12_laysWays
  refine zFf_bnd (fun M_2 e_M_2 => ?_)
  have h_M_2 : zFr W M0 M_2 := by rw [e_M_2]; exact (zFr_I hM (hW _ (by decide)))
  refine zFf_ite ?_ ?_
  · refine zFf_bnd (fun M_14 e_M_14 => ?_)
    have h_M_14 : zFr W M0 M_14 := by rw [e_M_14]; exact (zFr_I h_M_2 (hW _ (by decide)))
    exact zFf_some h_M_14
  · refine zFf_bnd (fun M_26 e_M_26 => ?_)
    have h_M_26 : zFr W M0 M_26 := by rw [e_M_26]; exact (zFr_I h_M_2 (hW _ (by decide)))
    refine zFf_bind (zFf_loop (QS := (fun r => zFr W M0 r.1)) (QE := (fun r => zFr W M0 r)) (fun z hz => fr_X12_laysWays_L27 W M0 z (fun a h => hW a (zsub (by decide) h)) hz) h_M_26) (fun e27 h_e27 => ?_)
    exact zFf_some h_e27
theorem fr_X12_ways (W : Nat → Prop) (M0 : ZMem) (M : ZMem) (x1 : Int32) (hW : ∀ a, a ∈ ([0, 11, 13, 14, 15, 16, 17, 18, 19, 20, 22, 23, 25, 26, 27] : List Nat) → W a) (hM : zFr W M0 M) : zFf (fun r => zFr W M0 r.1) (f_X12_ways M x1) := by
  unfold f_X12_ways
  refine zFf_bindP (fun r_8 => ?_)
  refine zFf_ite ?_ ?_
  · exact zFf_some hM
  · refine zFf_bind (fr_X12_lays W M0 M (fun a h => hW a (zsub (by decide) h)) hM) (fun M_17 h_M_17 => ?_)
    refine zFf_bind (fr_X12_laysWays W M0 M_17 (fun a h => hW a (zsub (by decide) h)) h_M_17) (fun M_21 h_M_21 => ?_)
    refine zFf_ite ?_ ?_
    · exact zFf_some h_M_21
    · refine zFf_ite ?_ ?_
      · exact zFf_some h_M_21
      · refine zFf_chk ?_
        exact zFf_some h_M_21
theorem fr_X12_draws (W : Nat → Prop) (M0 : ZMem) (M : ZMem) (x1 : Int32) (hW : ∀ a, a ∈ ([0] : List Nat) → W a) (hM : zFr W M0 M) : zFf (fun r => zFr W M0 r.1) (f_X12_draws M x1) := by
  unfold f_X12_draws
  refine zFf_ite ?_ ?_
  · refine zFf_bnd (fun x2_10 _ => ?_)
    refine zFf_bnd (fun M_13 e_M_13 => ?_)
    have h_M_13 : zFr W M0 M_13 := by rw [e_M_13]; exact (zFr_I hM (hW _ (by decide)))
    exact zFf_some h_M_13
  · exact zFf_some hM
theorem fr_X12_drawn (W : Nat → Prop) (M0 : ZMem) (M : ZMem) (x1 : Int32) (hW : ∀ a, a ∈ ([0] : List Nat) → W a) (hM : zFr W M0 M) : zFf (fun r => zFr W M0 r.1) (f_X12_drawn M x1) := by
  unfold f_X12_drawn
  refine zFf_bnd (fun M_19 e_M_19 => ?_)
  have h_M_19 : zFr W M0 M_19 := by rw [e_M_19]; exact (zFr_I hM (hW _ (by decide)))
  refine zFf_chk ?_
  exact zFf_some h_M_19
theorem fr_X12_laysWhole_L4 (W : Nat → Prop) (M0 : ZMem) (s : (ZMem × Int32 × Int32)) (hW : ∀ a, a ∈ ([28, 29] : List Nat) → W a) (hs : zFr W M0 s.1) : zFf (zlp (fun r => zFr W M0 r.1) (fun r => zFr W M0 r.1)) (f_X12_laysWhole_L4 s) := by
  unfold f_X12_laysWhole_L4
  refine zFf_ite ?_ ?_
  · exact zFf_some hs
  · refine zFf_bindP (fun r_14 => ?_)
    refine zFf_ite ?_ ?_
    · refine zFf_bnd (fun x2_62 _ => ?_)
      exact zFf_some hs
    · refine zFf_bindP (fun r_22 => ?_)
      refine zFf_ite ?_ ?_
      · refine zFf_bnd (fun x2_62 _ => ?_)
        exact zFf_some hs
      · refine zFf_chk ?_
        refine zFf_bnd (fun M_34 e_M_34 => ?_)
        have h_M_34 : zFr W M0 M_34 := by rw [e_M_34]; exact (zFr_I hs (hW _ (by decide)))
        refine zFf_chk ?_
        refine zFf_chk ?_
        refine zFf_chk ?_
        refine zFf_bnd (fun M_58 e_M_58 => ?_)
        have h_M_58 : zFr W M0 M_58 := by rw [e_M_58]; exact (zFr_I h_M_34 (hW _ (by decide)))
        refine zFf_bnd (fun x1_59 _ => ?_)
        refine zFf_bnd (fun x2_62 _ => ?_)
        exact zFf_some h_M_58
theorem fr_X12_laysWhole (W : Nat → Prop) (M0 : ZMem) (M : ZMem) (hW : ∀ a, a ∈ ([28, 29] : List Nat) → W a) (hM : zFr W M0 M) : zFf (fun r => zFr W M0 r.1) (f_X12_laysWhole M) := by
  unfold f_X12_laysWhole
  refine zFf_bind (zFf_loop (QS := (fun r => zFr W M0 r.1)) (QE := (fun r => zFr W M0 r.1)) (fun z hz => fr_X12_laysWhole_L4 W M0 z (fun a h => hW a (zsub (by decide) h)) hz) hM) (fun e4 h_e4 => ?_)
  exact zFf_some h_e4
theorem fr_X12_mixes_L2 (W : Nat → Prop) (M0 : ZMem) (x1 : Int32) (s : (ZMem × Int32)) (hW : ∀ a, a ∈ ([30] : List Nat) → W a) (hs : zFr W M0 s.1) : zFf (zlp (fun r => zFr W M0 r.1) (fun r => zFr W M0 r)) (f_X12_mixes_L2 x1 s) := by
  unfold f_X12_mixes_L2
  refine zFf_ite ?_ ?_
  · exact zFf_some hs
  · refine zFf_chk ?_
    refine zFf_chk ?_
    refine zFf_bnd (fun M_18 e_M_18 => ?_)
    have h_M_18 : zFr W M0 M_18 := by rw [e_M_18]; exact (zFr_I hs (hW _ (by decide)))
    refine zFf_bnd (fun x2_19 _ => ?_)
    exact zFf_some h_M_18
theorem fr_X12_mixes_L29 (W : Nat → Prop) (M0 : ZMem) (x1 : Int32) (s : (ZMem × Int32)) (hW : ∀ a, a ∈ ([0, 30] : List Nat) → W a) (hs : zFr W M0 s.1) : zFf (zlp (fun r => zFr W M0 r.1) (fun r => zFr W M0 r)) (f_X12_mixes_L29 x1 s) := by
  unfold f_X12_mixes_L29
  refine zFf_ite ?_ ?_
  · exact zFf_some hs
  · refine zFf_bind (fr_X12_drawn W M0 s.1 (s.2 + (zI 1)) (fun a h => hW a (zsub (by decide) h)) hs) (fun r_37 h_r_37 => ?_)
    refine zFf_chk ?_
    refine zFf_bnd (fun x4_47 _ => ?_)
    refine zFf_chk ?_
    refine zFf_chk ?_
    refine zFf_bnd (fun M_60 e_M_60 => ?_)
    have h_M_60 : zFr W M0 M_60 := by rw [e_M_60]; exact (zFr_I h_r_37 (hW _ (by decide)))
    refine zFf_chk ?_
    refine zFf_bnd (fun M_68 e_M_68 => ?_)
    have h_M_68 : zFr W M0 M_68 := by rw [e_M_68]; exact (zFr_I h_M_60 (hW _ (by decide)))
    refine zFf_bnd (fun x2_69 _ => ?_)
    exact zFf_some h_M_68
theorem fr_X12_mixes_L77 (W : Nat → Prop) (M0 : ZMem) (x1 : Int32) (s : (ZMem × Int32)) (hW : ∀ a, a ∈ ([25] : List Nat) → W a) (hs : zFr W M0 s.1) : zFf (zlp (fun r => zFr W M0 r.1) (fun r => zFr W M0 r)) (f_X12_mixes_L77 x1 s) := by
  unfold f_X12_mixes_L77
  refine zFf_ite ?_ ?_
  · exact zFf_some hs
  · refine zFf_chk ?_
    refine zFf_bnd (fun M_89 e_M_89 => ?_)
    have h_M_89 : zFr W M0 M_89 := by rw [e_M_89]; exact (zFr_I hs (hW _ (by decide)))
    refine zFf_bnd (fun x2_90 _ => ?_)
    exact zFf_some h_M_89
theorem fr_X12_mixes_L98 (W : Nat → Prop) (M0 : ZMem) (x1 : Int32) (s : (ZMem × Int32)) (hW : ∀ a, a ∈ ([25] : List Nat) → W a) (hs : zFr W M0 s.1) : zFf (zlp (fun r => zFr W M0 r.1) (fun r => zFr W M0 r)) (f_X12_mixes_L98 x1 s) := by
  unfold f_X12_mixes_L98
  refine zFf_ite ?_ ?_
  · exact zFf_some hs
  · refine zFf_chk ?_
    refine zFf_chk ?_
    refine zFf_chk ?_
    refine zFf_bnd (fun M_121 e_M_121 => ?_)
    have h_M_121 : zFr W M0 M_121 := by rw [e_M_121]; exact (zFr_I hs (hW _ (by decide)))
    refine zFf_chk ?_
    refine zFf_chk ?_
    refine zFf_chk ?_
    refine zFf_bnd (fun M_143 e_M_143 => ?_)
    have h_M_143 : zFr W M0 M_143 := by rw [e_M_143]; exact (zFr_I h_M_121 (hW _ (by decide)))
    refine zFf_bnd (fun x2_144 _ => ?_)
    exact zFf_some h_M_143
theorem fr_X12_mixes (W : Nat → Prop) (M0 : ZMem) (M : ZMem) (x1 : Int32) (hW : ∀ a, a ∈ ([0, 25, 30] : List Nat) → W a) (hM : zFr W M0 M) : zFf (fun r => zFr W M0 r) (f_X12_mixes M x1) := by
  unfold f_X12_mixes
  refine zFf_bind (zFf_loop (QS := (fun r => zFr W M0 r.1)) (QE := (fun r => zFr W M0 r)) (fun z hz => fr_X12_mixes_L2 W M0 x1 z (fun a h => hW a (zsub (by decide) h)) hz) hM) (fun e2 h_e2 => ?_)
  refine zFf_bnd (fun x2_28 _ => ?_)
  refine zFf_bind (zFf_loop (QS := (fun r => zFr W M0 r.1)) (QE := (fun r => zFr W M0 r)) (fun z hz => fr_X12_mixes_L29 W M0 x1 z (fun a h => hW a (zsub (by decide) h)) hz) h_e2) (fun e29 h_e29 => ?_)
  refine zFf_bind (zFf_loop (QS := (fun r => zFr W M0 r.1)) (QE := (fun r => zFr W M0 r)) (fun z hz => fr_X12_mixes_L77 W M0 x1 z (fun a h => hW a (zsub (by decide) h)) hz) h_e29) (fun e77 h_e77 => ?_)
  refine zFf_bind (zFf_loop (QS := (fun r => zFr W M0 r.1)) (QE := (fun r => zFr W M0 r)) (fun z hz => fr_X12_mixes_L98 W M0 x1 z (fun a h => hW a (zsub (by decide) h)) hz) h_e77) (fun e98 h_e98 => ?_)
  exact zFf_some h_e98
theorem fr_X12_test_64_L38 (W : Nat → Prop) (M0 : ZMem) (M : ZMem) (x1 : Int32) (x2 : Int32) (x3 : Int32) (x4 : Int32) (x6 : Int32) (v0 : Int32) (v1 : Int32) (hW : ∀ a, a ∈ ([] : List Nat) → W a) (hM : zFr W M0 M) : zFf (zlp (fun r => zFr W M0 r.1) (fun r => zFr W M0 r.1)) (f_X12_test_64_L38 M x1 x2 x3 x4 x6 v0 v1) := by
  unfold f_X12_test_64_L38
  refine zFf_bindP (fun r_64 => ?_)
  refine zFf_bnd (fun x5_68 _ => ?_)
  refine zFf_bnd (fun x6_70 _ => ?_)
  exact zFf_some hM
theorem fr_X12_test_L38 (W : Nat → Prop) (M0 : ZMem) (x1 : Int32) (x2 : Int32) (x3 : Int32) (x4 : Int32) (s : (ZMem × Int32 × Int32)) (hW : ∀ a, a ∈ ([0, 25, 30] : List Nat) → W a) (hs : zFr W M0 s.1) : zFf (zlp (fun r => zFr W M0 r.1) (fun r => zFr W M0 r.1)) (f_X12_test_L38 x1 x2 x3 x4 s) := by
  unfold f_X12_test_L38
  refine zFf_ite ?_ ?_
  · exact zFf_some hs
  · refine zFf_bind (fr_X12_mixes W M0 s.1 x3 (fun a h => hW a (zsub (by decide) h)) hs) (fun M_46 h_M_46 => ?_)
    refine zFf_bindP (fun r_52 => ?_)
    refine zFf_ite ?_ ?_
    · exact fr_X12_test_64_L38 W M0 M_46 x1 x2 x3 x4 s.2.2 s.2.1 (zI 0) (fun a h => hW a (zsub (by decide) h)) h_M_46
    · exact fr_X12_test_64_L38 W M0 M_46 x1 x2 x3 x4 s.2.2 s.2.1 (zI 1) (fun a h => hW a (zsub (by decide) h)) h_M_46
theorem fr_X12_test (W : Nat → Prop) (M0 : ZMem) (M : ZMem) (x1 : Int32) (hW : ∀ a, a ∈ ([0, 11, 13, 14, 15, 16, 17, 18, 19, 20, 22, 23, 25, 28, 29, 30] : List Nat) → W a) (hM : zFr W M0 M) : zFf (fun r => zFr W M0 r.1) (f_X12_test M x1) := by
  unfold f_X12_test
  refine zFf_bindP (fun r_4 => ?_)
  refine zFf_ite ?_ ?_
  · exact zFf_some hM
  · refine zFf_bind (fr_X12_lays W M0 M (fun a h => hW a (zsub (by decide) h)) hM) (fun M_13 h_M_13 => ?_)
    refine zFf_bindP (fun r_17 => ?_)
    refine zFf_bind (fr_X12_laysWhole W M0 M_13 (fun a h => hW a (zsub (by decide) h)) h_M_13) (fun r_22 h_r_22 => ?_)
    refine zFf_bnd (fun x4_30 _ => ?_)
    refine zFf_bind (zFf_loop (QS := (fun r => zFr W M0 r.1)) (QE := (fun r => zFr W M0 r.1)) (fun z hz => fr_X12_test_L38 W M0 x1 r_17 r_22.2 x4_30 z (fun a h => hW a (zsub (by decide) h)) hz) h_r_22) (fun e38 h_e38 => ?_)
    refine zFf_bnd (fun M_79 e_M_79 => ?_)
    have h_M_79 : zFr W M0 M_79 := by rw [e_M_79]; exact (zFr_I h_e38 (hW _ (by decide)))
    refine zFf_bind (fr_X12_laysKnown W M0 M_79 (fun a h => hW a (zsub (by decide) h)) h_M_79) (fun M_83 h_M_83 => ?_)
    exact zFf_some h_M_83
theorem fr_X12_count (W : Nat → Prop) (M0 : ZMem) (M : ZMem) (x1 : Int32) (hW : ∀ a, a ∈ ([0, 11, 13, 14, 15, 16, 17, 18, 19, 20, 22, 23, 25] : List Nat) → W a) (hM : zFr W M0 M) : zFf (fun r => zFr W M0 r.1) (f_X12_count M x1) := by
  unfold f_X12_count
  refine zFf_bind (fr_X12_lays W M0 M (fun a h => hW a (zsub (by decide) h)) hM) (fun M_1 h_M_1 => ?_)
  refine zFf_ite ?_ ?_
  · exact zFf_some h_M_1
  · refine zFf_ite ?_ ?_
    · exact zFf_some h_M_1
    · refine zFf_ite ?_ ?_
      · exact zFf_some h_M_1
      · refine zFf_ite ?_ ?_
        · exact zFf_some h_M_1
        · refine zFf_ite ?_ ?_
          · refine zFf_chk ?_
            exact zFf_some h_M_1
          · refine zFf_ite ?_ ?_
            · exact zFf_some h_M_1
            · refine zFf_ite ?_ ?_
              · exact zFf_some h_M_1
              · refine zFf_ite ?_ ?_
                · exact zFf_some h_M_1
                · refine zFf_ite ?_ ?_
                  · exact zFf_some h_M_1
                  · refine zFf_ite ?_ ?_
                    · exact zFf_some h_M_1
                    · refine zFf_ite ?_ ?_
                      · refine zFf_bindP (fun r_155 => ?_)
                        exact zFf_some h_M_1
                      · refine zFf_ite ?_ ?_
                        · refine zFf_bindP (fun r_161 => ?_)
                          exact zFf_some h_M_1
                        · refine zFf_ite ?_ ?_
                          · refine zFf_bindP (fun r_166 => ?_)
                            exact zFf_some h_M_1
                          · refine zFf_ite ?_ ?_
                            · refine zFf_bindP (fun r_171 => ?_)
                              exact zFf_some h_M_1
                            · refine zFf_ite ?_ ?_
                              · exact zFf_some h_M_1
                              · refine zFf_ite ?_ ?_
                                · exact zFf_some h_M_1
                                · refine zFf_ite ?_ ?_
                                  · exact zFf_some h_M_1
                                  · refine zFf_ite ?_ ?_
                                    · exact zFf_some h_M_1
                                    · exact zFf_some h_M_1
