/-! ===== the frame of work: a memory of two functions (cell, slot), layouts, one judgement, a rule an instruction ===== -/
/-- a program that may fail: it answers, and K holds of the answer -/
def zOk {α : Type} (f : Option α) (K : α → Prop) : Prop := ∃ a, f = some a ∧ K a
theorem zOk_none {α : Type} {K : α → Prop} : ¬ zOk none K := fun h => by obtain ⟨_, h1, _⟩ := h; cases h1
def zbind {α β : Type} (f : Option α) (g : α → Option β) : Option β := match f with | none => none | some a => g a
def zchk {α : Type} (b : Bool) (k : Option α) : Option α := if b = true then k else none
def zbnd {α β : Type} (a : α) (f : α → β) : β := f a
def zsel {α β γ : Type} (x : α ⊕ β) (f : α → γ) (g : β → γ) : γ := match x with | .inl a => f a | .inr b => g b
theorem zOk_some {α : Type} {a : α} {K : α → Prop} (h : zOk (some a) K) : K a := by
  obtain ⟨b, h1, h2⟩ := h
  cases h1
  exact h2
theorem zOk_intro {α : Type} {a : α} {K : α → Prop} (h : K a) : zOk (some a) K := ⟨a, rfl, h⟩
theorem zOk_bind {α β : Type} {f : Option α} {g : α → Option β} {K : β → Prop} (h : zOk (zbind f g) K) : zOk f (fun a => zOk (g a) K) := by
  obtain ⟨b, h1, h2⟩ := h
  cases f with
  | none => cases h1
  | some a => exact ⟨a, rfl, b, h1, h2⟩
theorem zOk_bindI {α β : Type} {f : Option α} {g : α → Option β} {K : β → Prop} (h : zOk f (fun a => zOk (g a) K)) : zOk (zbind f g) K := by
  obtain ⟨a, h1, b, h2, h3⟩ := h
  subst h1
  exact ⟨b, h2, h3⟩
theorem zOk_mono {α : Type} {f : Option α} {K K' : α → Prop} (h : zOk f K) (hk : ∀ a, K a → K' a) : zOk f K' := by
  obtain ⟨a, h1, h2⟩ := h
  exact ⟨a, h1, hk a h2⟩
theorem zOk_t {α : Type} {c : Prop} {inst : Decidable c} {f g : Option α} {K : α → Prop} (hc : c) (h : zOk (@ite _ c inst f g) K) : zOk f K := by rwa [if_pos hc] at h
theorem zOk_f {α : Type} {c : Prop} {inst : Decidable c} {f g : Option α} {K : α → Prop} (hc : ¬ c) (h : zOk (@ite _ c inst f g) K) : zOk g K := by rwa [if_neg hc] at h
theorem zOk_chk {α : Type} {b : Bool} {f : Option α} {K : α → Prop} (h : zOk (zchk b f) K) : b = true ∧ zOk f K := by
  cases b with
  | true => exact ⟨rfl, h⟩
  | false =>
    obtain ⟨a, h1, h2⟩ := h
    cases h1
theorem zOk_chkI {α : Type} {b : Bool} {f : Option α} {K : α → Prop} (hb : b = true) (h : zOk f K) : zOk (zchk b f) K := by subst hb; exact h
theorem zOk_bnd {α β : Type} {a : α} {f : α → Option β} {K : β → Prop} {x : α} (hx : x = a) (h : zOk (zbnd a f) K) : zOk (f x) K := by subst hx; exact h
theorem zOk_selL {α β γ : Type} {a : α} {f : α → Option γ} {g : β → Option γ} {K : γ → Prop} (h : zOk (zsel (.inl a) f g) K) : zOk (f a) K := h
theorem zOk_selR {α β γ : Type} {b : β} {f : α → Option γ} {g : β → Option γ} {K : γ → Prop} (h : zOk (zsel (.inr b) f g) K) : zOk (g b) K := h
def ziter {S E : Type} (step : S → Option (S ⊕ E)) : Nat → S → Option E
  | 0, _ => none
  | n + 1, s => match step s with
    | none => none
    | some (.inl s') => ziter step n s'
    | some (.inr e) => some e
noncomputable def zloop {S E : Type} (step : S → Option (S ⊕ E)) (s : S) : Option E := @dite _ (∃ e n, ziter step n s = some e) (Classical.propDecidable _) (fun h => some (Classical.choose h)) (fun _ => none)
def zlp {S E : Type} (P : S → Prop) (K : E → Prop) : S ⊕ E → Prop := fun x => match x with | .inl s => P s | .inr e => K e
theorem zloop_iter {S E : Type} {step : S → Option (S ⊕ E)} {s : S} {e : E} (h : zloop step s = some e) : ∃ n, ziter step n s = some e := by
  unfold zloop at h
  split at h
  · next h1 =>
    cases h
    exact Classical.choose_spec h1
  · cases h
theorem ziter_one {S E : Type} {step : S → Option (S ⊕ E)} : ∀ (n m : Nat) (s : S) (e e' : E), ziter step n s = some e → ziter step m s = some e' → e = e'
  | 0, _, _, _, _, h, _ => by cases h
  | _ + 1, 0, _, _, _, _, h => by cases h
  | n + 1, m + 1, s, e, e', h, h' => by
    unfold ziter at h h'
    split at h
    · cases h
    · next s' hs =>
      rw [hs] at h'
      exact ziter_one n m s' e e' h h'
    · next x hs =>
      rw [hs] at h'
      cases h
      cases h'
      rfl
theorem zloop_of {S E : Type} {step : S → Option (S ⊕ E)} {n : Nat} {s : S} {e : E} (h : ziter step n s = some e) : zloop step s = some e := by
  have h1 : ∃ e n, ziter step n s = some e := ⟨e, n, h⟩
  unfold zloop
  rw [dif_pos h1]
  obtain ⟨m, hm⟩ := Classical.choose_spec h1
  exact congrArg some (ziter_one m n s _ _ hm h)
/-- one round of a loop -/
theorem zloop_in {S E : Type} {step : S → Option (S ⊕ E)} {s s' : S} {e : E} (hs : step s = some (.inl s')) (h : zloop step s' = some e) : zloop step s = some e := by
  obtain ⟨n, hn⟩ := zloop_iter h
  refine zloop_of (n := n + 1) ?_
  unfold ziter
  rw [hs]
  exact hn
theorem zloop_out {S E : Type} {step : S → Option (S ⊕ E)} {s : S} {e : E} (hs : step s = some (.inr e)) : zloop step s = some e := by
  refine zloop_of (n := 1) ?_
  unfold ziter
  rw [hs]
/-- a loop by an invariant and a measure -/
theorem zOk_loop {S E : Type} {step : S → Option (S ⊕ E)} {K : E → Prop} (I : S → Prop) (μ : S → Nat) (hs : ∀ s, I s → zOk (step s) (zlp (fun s' => I s' ∧ μ s' < μ s) K)) : ∀ (n : Nat) (s : S), μ s ≤ n → I s → zOk (zloop step s) K := by
  intro n
  induction n with
  | zero =>
    intro s hn hI
    obtain ⟨x, h1, h2⟩ := hs s hI
    cases x with
    | inl s' =>
      have := h2.2
      omega
    | inr e => exact ⟨e, zloop_out h1, h2⟩
  | succ n ih =>
    intro s hn hI
    obtain ⟨x, h1, h2⟩ := hs s hI
    cases x with
    | inl s' =>
      have h3 : zOk (zloop step s') K := ih s' (by have := h2.2; omega) h2.1
      obtain ⟨e, h4, h5⟩ := h3
      exact ⟨e, zloop_in h1 h4, h5⟩
    | inr e => exact ⟨e, zloop_out h1, h2⟩
/-- what holds of the end comes back to the start -/
theorem zloop_walk {S E : Type} {step : S → Option (S ⊕ E)} {K : E → Prop} {s0 : S} (hk : zOk (zloop step s0) K) {P : S → Prop} (hs : ∀ s, zOk (step s) (zlp P K) → P s) : P s0 := by
  obtain ⟨e, h1, h2⟩ := hk
  obtain ⟨n, hn⟩ := zloop_iter h1
  clear h1
  induction n generalizing s0 with
  | zero => cases hn
  | succ n ih =>
    unfold ziter at hn
    split at hn
    · cases hn
    · next s' hs' => exact hs s0 ⟨_, hs', ih hn⟩
    · next x hs' =>
      cases hn
      exact hs s0 ⟨_, hs', h2⟩
def zI (a : Int) : Int32 := Int32.ofInt a
abbrev ZMem : Type := (Nat → Nat → Int32) × (Nat → Nat → Int64)
abbrev ZEnt : Type := (Nat × Nat) ⊕ (Nat × List (Option Nat))
abbrev ZEv : Type := Launch × va_G × (Nat → Nat) × (Nat → ClassId)
abbrev zrf (E : ZEv) (q : Nat) : Value := .ref (E.2.2.1 q)
abbrev zix (i : Int32) : Nat := i.toNatClampNeg
def zin (i : Int32) (n : Nat) : Bool := decide (0 ≤ i) && decide (i.toNatClampNeg < n)
def zisC (v : Int32) : Bool := decide (narrow .char (.int v) = .int v)
theorem zisC_of {v : Int32} (h : zisC v = true) : narrow .char (.int v) = .int v := of_decide_eq_true h
def zisB (v : Int32) : Bool := decide (v = 0) || decide (v = 1)
def zstI (M : ZMem) (q i : Nat) (v : Int32) : ZMem := (fun a => if a = q then upd (M.1 q) i v else M.1 a, M.2)
def zstL (M : ZMem) (q i : Nat) (v : Int64) : ZMem := (M.1, fun a => if a = q then vp_updL (M.2 q) i v else M.2 a)
def zstF (M : ZMem) (q : Nat) (f : Nat → Int32) : ZMem := (fun a => if a = q then f else M.1 a, M.2)
def zstG (M : ZMem) (q : Nat) (f : Nat → Int64) : ZMem := (M.1, fun a => if a = q then f else M.2 a)
theorem zin_in {i : Int32} {n : Nat} (h : zin i n = true) : vp_in i n := by
  unfold zin at h
  simp only [Bool.and_eq_true, decide_eq_true_eq] at h
  rintro (h1 | h1)
  · exact absurd h1 (Int32.not_lt.mpr h.1)
  · omega
theorem zisB_or {v : Int32} (h : zisB v = true) : v = 0 ∨ v = 1 := by
  unfold zisB at h
  simpa only [Bool.or_eq_true, decide_eq_true_eq] using h
abbrev ztys (E : ZEv) : List (ClassId × FieldType) := [(E.2.2.2 0, .int), (E.2.2.2 1, .boolean), (E.2.2.2 2, .byte), (E.2.2.2 3, .long)]
def zfv (E : ZEv) (f : Nat → Int32) (k : Nat) (o : Option Nat) : Value := match o with | some j => zrf E j | none => .int (f k)
def zrnF (E : ZEv) (f : Nat → Int32) (fl : List (Option Nat)) : List Value := fl.mapIdx (fun k o => zfv E f k o)
def zrnE (E : ZEv) (M : ZMem) (q : Nat) (t : ZEnt) : va_E := match t with
  | .inl x => .inl (E.2.2.2 x.1, x.2, if x.1 = 3 then .inr (.inl (M.2 q)) else .inl (M.1 q))
  | .inr x => .inr (x.1, zrnF E (M.1 q) x.2)
def zcls (ly : List ZEnt) (E : ZEv) (M : ZMem) : va_W := ly.mapIdx (fun q t => (E.2.2.1 q, zrnE E M q t))
theorem zcls_get {ly : List ZEnt} {E : ZEv} {M : ZMem} {q : Nat} {t : ZEnt} (h : ly[q]? = some t) : (zcls ly E M)[q]? = some (E.2.2.1 q, zrnE E M q t) := by
  unfold zcls
  rw [List.getElem?_mapIdx, h]
  rfl
theorem zcls_set {ly : List ZEnt} {E : ZEv} {M M' : ZMem} {q : Nat} {t : ZEnt} {x : va_E} (h : ly[q]? = some t) (h1 : ∀ a, a ≠ q → M'.1 a = M.1 a) (h2 : ∀ a, a ≠ q → M'.2 a = M.2 a) (hx : zrnE E M' q t = x) : (zcls ly E M).set q (E.2.2.1 q, x) = zcls ly E M' := by
  apply List.ext_getElem?
  intro i
  rw [List.getElem?_set]
  have hlen : q < (zcls ly E M).length := by
    unfold zcls
    rw [List.length_mapIdx]
    exact (List.getElem?_eq_some_iff.mp h).1
  by_cases hi : q = i
  · subst hi
    rw [if_pos rfl, if_pos hlen, zcls_get h, hx]
  · rw [if_neg hi]
    unfold zcls
    rw [List.getElem?_mapIdx, List.getElem?_mapIdx]
    cases ly[i]? with
    | none => rfl
    | some t' =>
      have e : zrnE E M i t' = zrnE E M' i t' := by
        cases t' with
        | inl x => simp only [zrnE, h1 i (fun z => hi z.symm), h2 i (fun z => hi z.symm)]
        | inr x => simp only [zrnE, h1 i (fun z => hi z.symm)]
      simp only [Option.map_some, e]
theorem zcls_len (ly : List ZEnt) (E : ZEv) (M : ZMem) : (zcls ly E M).length = ly.length := by unfold zcls; rw [List.length_mapIdx]
def zAW (ly : List ZEnt) (E : ZEv) : Nat → Prop := fun a => ∃ k, k < ly.length ∧ a = E.2.2.1 k
def zInj (ly : List ZEnt) (E : ZEv) : Prop := ∀ i j, i < ly.length → j < ly.length → E.2.2.1 i = E.2.2.1 j → i = j
theorem zD {ly : List ZEnt} {E : ZEv} (h : zInj ly E) (M : ZMem) : va_D (zAW ly E) (zcls ly E M) := by
  have key : ∀ (k : Nat) (q : Nat × va_E), (zcls ly E M)[k]? = some q → k < ly.length ∧ q.1 = E.2.2.1 k := by
    intro k q hq
    have hk : k < ly.length := by
      have := (List.getElem?_eq_some_iff.mp hq).1
      rwa [zcls_len] at this
    rw [zcls_get (List.getElem?_eq_getElem hk)] at hq
    cases hq
    exact ⟨hk, rfl⟩
  refine ⟨fun i j p q hp hq e => ?_, fun k q hq => ⟨k, key k q hq⟩⟩
  obtain ⟨a1, a2⟩ := key i p hp
  obtain ⟨b1, b2⟩ := key j q hq
  exact h i j a1 b1 (by rw [← a2, ← b2]; exact e)
def znest : List Cond := [.methodLinkNest RX0 101 yX11_startLabels "UnreadSigns", .methodLinkNest RX0 105 yX11_joinLabels "UnreadSigns", .methodLinkNest RX0 63 yX11_faultAt "UnreadSigns", .methodLinkNest RX4 37 yX11_faultAt "UnreadSigns", .methodLinkNest RX5 67 yX11_startLabels "UnreadSigns", .methodLinkNest RX5 71 yX11_joinLabels "UnreadSigns", .methodLinkNest RX7 47 yX11_faultAt "UnreadSigns", .methodLinkNest RX7 66 yX11_letterOf "UnreadSigns", .methodLinkNest RX11 9 yX8_init "UnreadSigns", .methodLinkNest RX11 18 yX0_init "UnreadSigns", .methodLinkNest RX11 25 yX7_init "UnreadSigns", .methodLinkNest RX11 32 yX4_init "UnreadSigns", .methodLinkNest RX11 46 yX6_init "UnreadSigns", .methodLinkNest RX11 53 yX2_init "UnreadSigns", .methodLinkNest RX11 72 yX9_init "UnreadSigns"]
/-- the two texts (their addresses are E's from 1000 on), two statics -/
def zLen : List Nat := [10, 5]
def zByt : List (List Int32) := [[112, 116, 107, 109, 110, 114, 108, 115, 119, 106], [97, 101, 105, 111, 117]]
def zfm (E : ZEv) : Value := if E.2.2.1 1004 = 0 then .null else .ref (E.2.2.1 1004 - 1)
def zTx (A : Nat → Prop) (E : ZEv) (U : State) : Prop := vk_S 2 zLen zByt (fun i => E.2.2.1 (1000 + i)) (fun i => E.2.2.1 (1002 + i)) A U U.heap ∧ vk_R RX4 31 "ptkmn\x72lswj" (E.2.2.1 1000) U ∧ vk_R RX4 41 "aeiou" (E.2.2.1 1001) U ∧ vk_R RX12 197 "ptkmn\x72lswj" (E.2.2.1 1000) U ∧ vk_R RX12 206 "aeiou" (E.2.2.1 1001) U ∧ va_Z "java/lang/String" "COMPACT_STRINGS" "Z" (.int 1) A U U.heap ∧ va_Z "jdk/internal/util/Preconditions" "SIOOBE_FORMATTER" "Ljava/util/function/BiFunction;" (zfm E) A U U.heap
def zNW (A : Nat → Prop) (E : ZEv) (U : State) : Prop := (∀ w ∈ znest, va_Nw w U) ∧ zTx A E U
theorem zNW_step {A : Nat → Prop} {E : ZEv} {s U : State} {locs : List Loc} (hW : s.WarmedH U.vm) (hS : va_S A s.heap U.heap locs) (h : zNW A E s) : zNW A E U := by
  refine ⟨?_, ?_⟩
  · intro w hw
    have h1 := h.1 w hw
    simp only [znest, List.mem_cons, List.not_mem_nil, or_false] at hw
    rcases hw with rfl | rfl | rfl | rfl | rfl | rfl | rfl | rfl | rfl | rfl | rfl | rfl | rfl | rfl | rfl <;> exact va_Nw.warmM hW h1
  · obtain ⟨h1, h2, h3, h4, h5, h6, h7⟩ := h.2
    exact ⟨(h1.moved hW.alike).kept hS.2.1, h2.warm hW, h3.warm hW, h4.warm hW, h5.warm hW, (h6.moved hW.alike).kept hS.2.1, (h7.moved hW.alike).kept hS.2.1⟩
theorem zNW_same {A : Nat → Prop} {E : ZEv} {s U : State} (hv : U.vm = s.vm) (hh : U.heap = s.heap) (h : zNW A E s) : zNW A E U := by
  refine ⟨?_, ?_⟩
  · intro w hw
    have h1 := h.1 w hw
    simp only [znest, List.mem_cons, List.not_mem_nil, or_false] at hw
    rcases hw with rfl | rfl | rfl | rfl | rfl | rfl | rfl | rfl | rfl | rfl | rfl | rfl | rfl | rfl | rfl <;> exact va_Nw.same rfl hv.symm h1
  · obtain ⟨h1, h2, h3, h4, h5, h6, h7⟩ := h.2
    have ha : s.vm.Alike U.vm := by rw [hv]; exact Vm.Alike.refl _
    exact ⟨by rw [hh]; exact h1.moved ha, h2.same hv, h3.same hv, h4.same hv, h5.same hv, by rw [hh]; exact h6.moved ha, by rw [hh]; exact h7.moved ha⟩
theorem zNW_narrow {A B : Nat → Prop} {E : ZEv} {s : State} (hAB : ∀ q, B q → A q) (h : zNW A E s) : zNW B E s := by
  obtain ⟨h0, h1, h2, h3, h4, h5, h6, h7⟩ := h
  exact ⟨h0, h1.narrow hAB, h2, h3, h4, h5, h6.narrow hAB, h7.narrow hAB⟩
theorem zNW_ad {A : Nat → Prop} {E E' : ZEv} {s : State} (he : ∀ k, 1000 ≤ k → E'.2.2.1 k = E.2.2.1 k) (h : zNW A E s) : zNW A E' s := by
  obtain ⟨h0, h1, h2, h3, h4, h5, h6, h7⟩ := h
  have e0 : (fun i => E'.2.2.1 (1000 + i)) = fun i => E.2.2.1 (1000 + i) := funext fun i => he _ (by omega)
  have e1 : (fun i => E'.2.2.1 (1002 + i)) = fun i => E.2.2.1 (1002 + i) := funext fun i => he _ (by omega)
  have e2 := he 1000 (by omega)
  have e3 := he 1001 (by omega)
  have e4 : zfm E' = zfm E := by unfold zfm; rw [he 1004 (by omega)]
  refine ⟨h0, ?_⟩
  unfold zTx
  rw [e0, e1, e2, e3, e4]
  exact ⟨h1, h2, h3, h4, h5, h6, h7⟩
def zWA (ly : List ZEnt) (E : ZEv) (M : ZMem) (U : State) : Prop := va_P E.2.1 vwCl (zcls ly E M) U.heap ∧ va_K E.2.1 vwCl (ztys E) U ∧ zInj ly E ∧ zNW (zAW ly E) E U
abbrev ZG : Type := ZMem → Nat → List (Nat × Value) → List Value → Prop
abbrev ZR : Type := ZMem → Option Value → Prop
def zQR (ly : List ZEnt) (E : ZEv) (Ret : ZR) : Array Value → State → Outcome → State → Prop := fun _ st oc t => ∃ (M : ZMem) (v : Option Value), oc = .returned v ∧ Ret M v ∧ va_P E.2.1 vwCl (zcls ly E M) t.heap ∧ va_F (zAW ly E) st t
def zrm (lev : Nat) : Room := { frames := lev + 1, cells := 0, slots := 0, locals := 48 * lev + 48 }
def zCon (ly : List ZEnt) (E : ZEv) (y : MethodName) (cc : ByteArray) (nL : Nat) (rt : Option FieldType) (lev : Nat) (as : List Value) (M : ZMem) (Ret : ZR) : Prop := Met E.1 y (Cond.code y cc nL rt :: wsL_law) (zrm lev) (va_Pc as (zWA ly E M)) (zQR ly E Ret) 0 0 (zAW ly E)
def zGW (ly : List ZEnt) (E : ZEv) (Ret : ZR) (nL lev : Nat) (p : Program) (e : Env) (s : State) (m : MethodId) (args : Array Value) (below : List Frame) (meth : Method) (c : Code) : ZG := fun M pc L st => ∀ (H : Heap) (locs : List Loc) (ls : Array Slot), va_P E.2.1 vwCl (zcls ly E M) H → va_S (zAW ly E) s.heap H locs → lv_has ls nL L → W p E.1 e (zrm lev) s m args below meth c H locs 0 0 (MQ below (zQR ly E Ret) args s 0 0 (zAW ly E)) (F0 m pc ls st)
def zRu (ly : List ZEnt) (E : ZEv) (G : ZG) (Ret : ZR) (cc : ByteArray) (own : String) (nL : Nat) (rt : Option FieldType) (lev : Nat) : Prop :=
  ∃ (p : Program) (e : Env) (s : State) (m : MethodId) (args : Array Value) (below : List Frame) (meth : Method) (c : Code), G = zGW ly E Ret nL lev p e s m args below meth c ∧ p.tables.exec = Jvm.exec ∧ c.code = cc ∧ c.maxLocals = nL ∧ s.vm.findClass own = some m.cls ∧ (∀ w ∈ wsL_law, w.before args s = true) ∧ va_K E.2.1 vwCl (ztys E) s ∧ zInj ly E ∧ zNW (zAW ly E) E s ∧ meth.sig.returnType = rt ∧ meth.locks = false
theorem zcon_of {ly : List ZEnt} {E : ZEv} {y : MethodName} {cc : ByteArray} {nL : Nat} {rt : Option FieldType} {lev : Nat} {as : List Value} {M : ZMem} {Ret : ZR} (hy : plainName y.cls = true) {L0 : List (Nat × Value)} (hL0 : lv_args 0 as = L0) (hsz : (lg_sl as).length ≤ nL) (hw : ∀ G : ZG, zRu ly E G Ret cc y.cls nL rt lev → G M 0 L0 []) : zCon ly E y cc nL rt lev as M Ret := by
  refine Met.ofW (cc := cc) (maxL := nL) (ret := rt) hy rfl ?_
  intro p e s m args below meth c s₁ B hml hv
  obtain ⟨rfl, hP, hK, hI, hN⟩ := hv
  have hts := atoms_spec (ws := Cond.code y cc nL rt :: wsL_law) B.pre
  have h := hw _ ⟨p, e, s, m, _, below, meth, c, rfl, B.exec, B.bytes, hml, findClass_of_methodNamed B.named, fun w h => hts w (List.mem_cons_of_mem _ h), hK, hI, hN, B.returns, B.notSynchronized⟩
  rw [lg_entry_eq]
  exact h s.heap [] _ hP va_S.rf (by rw [← hL0]; exact lv_entry as hsz)
section ZRULES
variable {ly : List ZEnt} {E : ZEv} {G : ZG} {Ret : ZR} {cc : ByteArray} {own : String} {nL : Nat} {rt : Option FieldType} {lev : Nat} {M : ZMem} {pc : Nat} {L : List (Nat × Value)} {st : List Value}
theorem zr_iconst (h : zRu ly E G Ret cc own nL rt lev) {n : Int} {v : Int32} (d : decode cc pc = .ok (.iconst n, 1)) (hv : Int32.ofInt n = v) (k : G M (pc + 1) L (.int v :: st)) : G M pc L (st) := by
  obtain ⟨p, e, s, m, args, below, meth, c, rfl, hx, hb, hml, hown, hts, hK, hI, hN, hr, hlk⟩ := h
  intro H locs ls hP hS hL
  exact lv_iconst hx hb d hv (k H locs ls hP hS hL)
theorem zr_bipush (h : zRu ly E G Ret cc own nL rt lev) {n : Int} {v : Int32} (d : decode cc pc = .ok (.bipush n, 2)) (hv : (Int8.ofInt n).toInt32 = v) (k : G M (pc + 2) L (.int v :: st)) : G M pc L (st) := by
  obtain ⟨p, e, s, m, args, below, meth, c, rfl, hx, hb, hml, hown, hts, hK, hI, hN, hr, hlk⟩ := h
  intro H locs ls hP hS hL
  exact lv_bipush hx hb d hv (k H locs ls hP hS hL)
theorem zr_sipush (h : zRu ly E G Ret cc own nL rt lev) {n : Int} {v : Int32} (d : decode cc pc = .ok (.sipush n, 3)) (hv : (Int16.ofInt n).toInt32 = v) (k : G M (pc + 3) L (.int v :: st)) : G M pc L (st) := by
  obtain ⟨p, e, s, m, args, below, meth, c, rfl, hx, hb, hml, hown, hts, hK, hI, hN, hr, hlk⟩ := h
  intro H locs ls hP hS hL
  exact lv_sipush hx hb d hv (k H locs ls hP hS hL)
theorem zr_lconst (h : zRu ly E G Ret cc own nL rt lev) {n : Fin 2} {v : Int64} (d : decode cc pc = .ok (.lconst n, 1)) (hv : Int64.ofNat (n : Nat) = v) (k : G M (pc + 1) L (.long v :: st)) : G M pc L (st) := by
  obtain ⟨p, e, s, m, args, below, meth, c, rfl, hx, hb, hml, hown, hts, hK, hI, hN, hr, hlk⟩ := h
  intro H locs ls hP hS hL
  exact lv_lconst hx hb d hv (k H locs ls hP hS hL)
theorem zr_ldc (h : zRu ly E G Ret cc own nL rt lev) {i : Nat} {v : Int32} (d : decode cc pc = .ok (.ldc i, 2)) (hw : Cond.constant own i v ∈ wsL_law) (k : G M (pc + 2) L (.int v :: st)) : G M pc L (st) := by
  obtain ⟨p, e, s, m, args, below, meth, c, rfl, hx, hb, hml, hown, hts, hK, hI, hN, hr, hlk⟩ := h
  intro H locs ls hP hS hL
  exact lv_ldc hx hb hown (hts _ hw) d (k H locs ls hP hS hL)
theorem zr_ldcw (h : zRu ly E G Ret cc own nL rt lev) {i : Nat} {v : Int32} (d : decode cc pc = .ok (.ldc_w i, 3)) (hw : Cond.constant own i v ∈ wsL_law) (k : G M (pc + 3) L (.int v :: st)) : G M pc L (st) := by
  obtain ⟨p, e, s, m, args, below, meth, c, rfl, hx, hb, hml, hown, hts, hK, hI, hN, hr, hlk⟩ := h
  intro H locs ls hP hS hL
  exact lv_ldcw hx hb hown (hts _ hw) d (k H locs ls hP hS hL)
theorem zr_ldc2 (h : zRu ly E G Ret cc own nL rt lev) {i : Nat} {v : Int64} (d : decode cc pc = .ok (.ldc2_w i, 3)) (hw : Cond.constantLong own i v ∈ wsL_law) (k : G M (pc + 3) L (.long v :: st)) : G M pc L (st) := by
  obtain ⟨p, e, s, m, args, below, meth, c, rfl, hx, hb, hml, hown, hts, hK, hI, hN, hr, hlk⟩ := h
  intro H locs ls hP hS hL
  exact lv_ldc2 hx hb hown (hts _ hw) d (k H locs ls hP hS hL)
theorem zr_iload_n (h : zRu ly E G Ret cc own nL rt lev) {j : Fin 4} {x : Int32} (d : decode cc pc = .ok (.iload_n j, 1)) (k0 : Nat) {i : Nat} (hi : (j : Nat) = i) (hl : L[k0]? = some (i, .int x)) (k : G M (pc + 1) L (.int x :: st)) : G M pc L (st) := by
  obtain ⟨p, e, s, m, args, below, meth, c, rfl, hx, hb, hml, hown, hts, hK, hI, hN, hr, hlk⟩ := h
  intro H locs ls hP hS hL
  exact lv_iload_n hx hb d hi (lv_at hL k0 hl) (k H locs ls hP hS hL)
theorem zr_iload (h : zRu ly E G Ret cc own nL rt lev) {i : Nat} {x : Int32} (d : decode cc pc = .ok (.iload i, 2)) (k0 : Nat) (hl : L[k0]? = some (i, .int x)) (k : G M (pc + 2) L (.int x :: st)) : G M pc L (st) := by
  obtain ⟨p, e, s, m, args, below, meth, c, rfl, hx, hb, hml, hown, hts, hK, hI, hN, hr, hlk⟩ := h
  intro H locs ls hP hS hL
  exact lv_iload hx hb d (lv_at hL k0 hl) (k H locs ls hP hS hL)
theorem zr_lload_n (h : zRu ly E G Ret cc own nL rt lev) {j : Fin 4} {x : Int64} (d : decode cc pc = .ok (.lload_n j, 1)) (k0 : Nat) {i : Nat} (hi : (j : Nat) = i) (hl : L[k0]? = some (i, .long x)) (k : G M (pc + 1) L (.long x :: st)) : G M pc L (st) := by
  obtain ⟨p, e, s, m, args, below, meth, c, rfl, hx, hb, hml, hown, hts, hK, hI, hN, hr, hlk⟩ := h
  intro H locs ls hP hS hL
  exact lv_lload_n hx hb d hi (lv_at hL k0 hl) (k H locs ls hP hS hL)
theorem zr_lload (h : zRu ly E G Ret cc own nL rt lev) {i : Nat} {x : Int64} (d : decode cc pc = .ok (.lload i, 2)) (k0 : Nat) (hl : L[k0]? = some (i, .long x)) (k : G M (pc + 2) L (.long x :: st)) : G M pc L (st) := by
  obtain ⟨p, e, s, m, args, below, meth, c, rfl, hx, hb, hml, hown, hts, hK, hI, hN, hr, hlk⟩ := h
  intro H locs ls hP hS hL
  exact lv_lload hx hb d (lv_at hL k0 hl) (k H locs ls hP hS hL)
theorem zr_aload_n (h : zRu ly E G Ret cc own nL rt lev) {j : Fin 4} {x : Nat} (d : decode cc pc = .ok (.aload_n j, 1)) (k0 : Nat) {i : Nat} (hi : (j : Nat) = i) (hl : L[k0]? = some (i, .ref x)) (k : G M (pc + 1) L (.ref x :: st)) : G M pc L (st) := by
  obtain ⟨p, e, s, m, args, below, meth, c, rfl, hx, hb, hml, hown, hts, hK, hI, hN, hr, hlk⟩ := h
  intro H locs ls hP hS hL
  exact lv_aload_n hx hb d hi (lv_at hL k0 hl) (k H locs ls hP hS hL)
theorem zr_aload (h : zRu ly E G Ret cc own nL rt lev) {i : Nat} {x : Nat} (d : decode cc pc = .ok (.aload i, 2)) (k0 : Nat) (hl : L[k0]? = some (i, .ref x)) (k : G M (pc + 2) L (.ref x :: st)) : G M pc L (st) := by
  obtain ⟨p, e, s, m, args, below, meth, c, rfl, hx, hb, hml, hown, hts, hK, hI, hN, hr, hlk⟩ := h
  intro H locs ls hP hS hL
  exact lv_aload hx hb d (lv_at hL k0 hl) (k H locs ls hP hS hL)
theorem zr_istore_n (h : zRu ly E G Ret cc own nL rt lev) {j : Fin 4} {i : Nat} {x : Int32} {L' : List (Nat × Value)} (ks : List Nat) (d : decode cc pc = .ok (.istore_n j, 1)) (hi : (j : Nat) = i) (hn : i < nL) (hl : lv_pick ((i, Value.int x) :: L.filter (fun q => !(q.1 == i) && !(q.1 + 1 == i && q.2.category == 2))) ks = L') (k : G M (pc + 1) L' st) : G M pc L (.int x :: st) := by
  obtain ⟨p, e, s, m, args, below, meth, c, rfl, hx, hb, hml, hown, hts, hK, hI, hN, hr, hlk⟩ := h
  intro H locs ls hP hS hL
  exact lv_istore_n hx hb d hi hL hn rfl (fun ls' hl' => k H locs ls' hP hS (lv_sub hl' ks hl))
theorem zr_istore (h : zRu ly E G Ret cc own nL rt lev) {i : Nat} {x : Int32} {L' : List (Nat × Value)} (ks : List Nat) (d : decode cc pc = .ok (.istore i, 2)) (hn : i < nL) (hl : lv_pick ((i, Value.int x) :: L.filter (fun q => !(q.1 == i) && !(q.1 + 1 == i && q.2.category == 2))) ks = L') (k : G M (pc + 2) L' st) : G M pc L (.int x :: st) := by
  obtain ⟨p, e, s, m, args, below, meth, c, rfl, hx, hb, hml, hown, hts, hK, hI, hN, hr, hlk⟩ := h
  intro H locs ls hP hS hL
  exact lv_istore hx hb d hL hn rfl (fun ls' hl' => k H locs ls' hP hS (lv_sub hl' ks hl))
theorem zr_lstore_n (h : zRu ly E G Ret cc own nL rt lev) {j : Fin 4} {i : Nat} {x : Int64} {L' : List (Nat × Value)} (ks : List Nat) (d : decode cc pc = .ok (.lstore_n j, 1)) (hi : (j : Nat) = i) (hn : i + 1 < nL) (hl : lv_pick ((i, Value.long x) :: L.filter (fun q => !(q.1 == i) && (!(q.1 == i + 1) && !(q.1 + 1 == i && q.2.category == 2)))) ks = L') (k : G M (pc + 1) L' st) : G M pc L (.long x :: st) := by
  obtain ⟨p, e, s, m, args, below, meth, c, rfl, hx, hb, hml, hown, hts, hK, hI, hN, hr, hlk⟩ := h
  intro H locs ls hP hS hL
  exact lv_lstore_n hx hb d hi hL hn rfl (fun ls' hl' => k H locs ls' hP hS (lv_sub hl' ks hl))
theorem zr_lstore (h : zRu ly E G Ret cc own nL rt lev) {i : Nat} {x : Int64} {L' : List (Nat × Value)} (ks : List Nat) (d : decode cc pc = .ok (.lstore i, 2)) (hn : i + 1 < nL) (hl : lv_pick ((i, Value.long x) :: L.filter (fun q => !(q.1 == i) && (!(q.1 == i + 1) && !(q.1 + 1 == i && q.2.category == 2)))) ks = L') (k : G M (pc + 2) L' st) : G M pc L (.long x :: st) := by
  obtain ⟨p, e, s, m, args, below, meth, c, rfl, hx, hb, hml, hown, hts, hK, hI, hN, hr, hlk⟩ := h
  intro H locs ls hP hS hL
  exact lv_lstore hx hb d hL hn rfl (fun ls' hl' => k H locs ls' hP hS (lv_sub hl' ks hl))
theorem zr_astore_n (h : zRu ly E G Ret cc own nL rt lev) {j : Fin 4} {i : Nat} {x : Nat} {L' : List (Nat × Value)} (ks : List Nat) (d : decode cc pc = .ok (.astore_n j, 1)) (hi : (j : Nat) = i) (hn : i < nL) (hl : lv_pick ((i, Value.ref x) :: L.filter (fun q => !(q.1 == i) && !(q.1 + 1 == i && q.2.category == 2))) ks = L') (k : G M (pc + 1) L' st) : G M pc L (.ref x :: st) := by
  obtain ⟨p, e, s, m, args, below, meth, c, rfl, hx, hb, hml, hown, hts, hK, hI, hN, hr, hlk⟩ := h
  intro H locs ls hP hS hL
  exact lv_astore_n hx hb d hi hL hn rfl (fun ls' hl' => k H locs ls' hP hS (lv_sub hl' ks hl))
theorem zr_astore (h : zRu ly E G Ret cc own nL rt lev) {i : Nat} {x : Nat} {L' : List (Nat × Value)} (ks : List Nat) (d : decode cc pc = .ok (.astore i, 2)) (hn : i < nL) (hl : lv_pick ((i, Value.ref x) :: L.filter (fun q => !(q.1 == i) && !(q.1 + 1 == i && q.2.category == 2))) ks = L') (k : G M (pc + 2) L' st) : G M pc L (.ref x :: st) := by
  obtain ⟨p, e, s, m, args, below, meth, c, rfl, hx, hb, hml, hown, hts, hK, hI, hN, hr, hlk⟩ := h
  intro H locs ls hP hS hL
  exact lv_astore hx hb d hL hn rfl (fun ls' hl' => k H locs ls' hP hS (lv_sub hl' ks hl))
theorem zr_iinc (h : zRu ly E G Ret cc own nL rt lev) {i : Nat} {n : Int} {x v : Int32} {L' : List (Nat × Value)} (k0 : Nat) (ks : List Nat) (d : decode cc pc = .ok (.iinc i n, 3)) (hk : L[k0]? = some (i, .int x)) (hv : x + Int32.ofInt n = v) (hn : i < nL) (hl : lv_pick ((i, Value.int v) :: L.filter (fun q => !(q.1 == i) && !(q.1 + 1 == i && q.2.category == 2))) ks = L') (k : G M (pc + 3) L' st) : G M pc L st := by
  obtain ⟨p, e, s, m, args, below, meth, c, rfl, hx, hb, hml, hown, hts, hK, hI, hN, hr, hlk⟩ := h
  intro H locs ls hP hS hL
  exact lv_iinc hx hb d hL hk hv hn rfl (fun ls' hl' => k H locs ls' hP hS (lv_sub hl' ks hl))
theorem zr_iadd (h : zRu ly E G Ret cc own nL rt lev) {x y : Int32} (d : decode cc pc = .ok (.iadd, 1))  (k : G M (pc + 1) L (.int (x + y) :: st)) : G M pc L (.int y :: .int x :: st) := by
  obtain ⟨p, e, s, m, args, below, meth, c, rfl, hx, hb, hml, hown, hts, hK, hI, hN, hr, hlk⟩ := h
  intro H locs ls hP hS hL
  exact lv_iadd hx hb d (k H locs ls hP hS hL)
theorem zr_isub (h : zRu ly E G Ret cc own nL rt lev) {x y : Int32} (d : decode cc pc = .ok (.isub, 1))  (k : G M (pc + 1) L (.int (x - y) :: st)) : G M pc L (.int y :: .int x :: st) := by
  obtain ⟨p, e, s, m, args, below, meth, c, rfl, hx, hb, hml, hown, hts, hK, hI, hN, hr, hlk⟩ := h
  intro H locs ls hP hS hL
  exact lv_isub hx hb d (k H locs ls hP hS hL)
theorem zr_imul (h : zRu ly E G Ret cc own nL rt lev) {x y : Int32} (d : decode cc pc = .ok (.imul, 1))  (k : G M (pc + 1) L (.int (x * y) :: st)) : G M pc L (.int y :: .int x :: st) := by
  obtain ⟨p, e, s, m, args, below, meth, c, rfl, hx, hb, hml, hown, hts, hK, hI, hN, hr, hlk⟩ := h
  intro H locs ls hP hS hL
  exact lv_imul hx hb d (k H locs ls hP hS hL)
theorem zr_iand (h : zRu ly E G Ret cc own nL rt lev) {x y : Int32} (d : decode cc pc = .ok (.iand, 1))  (k : G M (pc + 1) L (.int (x &&& y) :: st)) : G M pc L (.int y :: .int x :: st) := by
  obtain ⟨p, e, s, m, args, below, meth, c, rfl, hx, hb, hml, hown, hts, hK, hI, hN, hr, hlk⟩ := h
  intro H locs ls hP hS hL
  exact lv_iand hx hb d (k H locs ls hP hS hL)
theorem zr_ior (h : zRu ly E G Ret cc own nL rt lev) {x y : Int32} (d : decode cc pc = .ok (.ior, 1))  (k : G M (pc + 1) L (.int (x ||| y) :: st)) : G M pc L (.int y :: .int x :: st) := by
  obtain ⟨p, e, s, m, args, below, meth, c, rfl, hx, hb, hml, hown, hts, hK, hI, hN, hr, hlk⟩ := h
  intro H locs ls hP hS hL
  exact lv_ior hx hb d (k H locs ls hP hS hL)
theorem zr_ixor (h : zRu ly E G Ret cc own nL rt lev) {x y : Int32} (d : decode cc pc = .ok (.ixor, 1))  (k : G M (pc + 1) L (.int (x ^^^ y) :: st)) : G M pc L (.int y :: .int x :: st) := by
  obtain ⟨p, e, s, m, args, below, meth, c, rfl, hx, hb, hml, hown, hts, hK, hI, hN, hr, hlk⟩ := h
  intro H locs ls hP hS hL
  exact lv_ixor hx hb d (k H locs ls hP hS hL)
theorem zr_ishl (h : zRu ly E G Ret cc own nL rt lev) {x y : Int32} (d : decode cc pc = .ok (.ishl, 1))  (k : G M (pc + 1) L (.int (x <<< (y &&& 31)) :: st)) : G M pc L (.int y :: .int x :: st) := by
  obtain ⟨p, e, s, m, args, below, meth, c, rfl, hx, hb, hml, hown, hts, hK, hI, hN, hr, hlk⟩ := h
  intro H locs ls hP hS hL
  exact lv_ishl hx hb d (k H locs ls hP hS hL)
theorem zr_ishr (h : zRu ly E G Ret cc own nL rt lev) {x y : Int32} (d : decode cc pc = .ok (.ishr, 1))  (k : G M (pc + 1) L (.int (x >>> (y &&& 31)) :: st)) : G M pc L (.int y :: .int x :: st) := by
  obtain ⟨p, e, s, m, args, below, meth, c, rfl, hx, hb, hml, hown, hts, hK, hI, hN, hr, hlk⟩ := h
  intro H locs ls hP hS hL
  exact lv_ishr hx hb d (k H locs ls hP hS hL)
theorem zr_idiv (h : zRu ly E G Ret cc own nL rt lev) {x y : Int32} (d : decode cc pc = .ok (.idiv, 1)) (hy : ¬ y = 0) (k : G M (pc + 1) L (.int (x / y) :: st)) : G M pc L (.int y :: .int x :: st) := by
  obtain ⟨p, e, s, m, args, below, meth, c, rfl, hx, hb, hml, hown, hts, hK, hI, hN, hr, hlk⟩ := h
  intro H locs ls hP hS hL
  exact lv_idiv hx hb d hy (k H locs ls hP hS hL)
theorem zr_irem (h : zRu ly E G Ret cc own nL rt lev) {x y : Int32} (d : decode cc pc = .ok (.irem, 1)) (hy : ¬ y = 0) (k : G M (pc + 1) L (.int (x - x / y * y) :: st)) : G M pc L (.int y :: .int x :: st) := by
  obtain ⟨p, e, s, m, args, below, meth, c, rfl, hx, hb, hml, hown, hts, hK, hI, hN, hr, hlk⟩ := h
  intro H locs ls hP hS hL
  exact lv_irem hx hb d hy (k H locs ls hP hS hL)
/-- the shifts to the right that fill with 0 -/
def zushr (x y : Int32) : Int32 := (x.toUInt32 >>> (y.toUInt32 &&& Int32.toUInt32 31)).toInt32
def zlushr (x : Int64) (y : Int32) : Int64 := (x.toUInt64 >>> (y.toInt64.toUInt64 &&& Int64.toUInt64 63)).toInt64
theorem zr_iushr (h : zRu ly E G Ret cc own nL rt lev) {x y : Int32} (d : decode cc pc = .ok (.iushr, 1))  (k : G M (pc + 1) L (.int (zushr x y) :: st)) : G M pc L (.int y :: .int x :: st) := by
  obtain ⟨p, e, s, m, args, below, meth, c, rfl, hx, hb, hml, hown, hts, hK, hI, hN, hr, hlk⟩ := h
  intro H locs ls hP hS hL
  exact lv_iushr hx hb d rfl (k H locs ls hP hS hL)
theorem zr_ladd (h : zRu ly E G Ret cc own nL rt lev) {x y : Int64} (d : decode cc pc = .ok (.ladd, 1))  (k : G M (pc + 1) L (.long (x + y) :: st)) : G M pc L (.long y :: .long x :: st) := by
  obtain ⟨p, e, s, m, args, below, meth, c, rfl, hx, hb, hml, hown, hts, hK, hI, hN, hr, hlk⟩ := h
  intro H locs ls hP hS hL
  exact lv_ladd hx hb d (k H locs ls hP hS hL)
theorem zr_lsub (h : zRu ly E G Ret cc own nL rt lev) {x y : Int64} (d : decode cc pc = .ok (.lsub, 1))  (k : G M (pc + 1) L (.long (x - y) :: st)) : G M pc L (.long y :: .long x :: st) := by
  obtain ⟨p, e, s, m, args, below, meth, c, rfl, hx, hb, hml, hown, hts, hK, hI, hN, hr, hlk⟩ := h
  intro H locs ls hP hS hL
  exact lv_lsub hx hb d (k H locs ls hP hS hL)
theorem zr_lmul (h : zRu ly E G Ret cc own nL rt lev) {x y : Int64} (d : decode cc pc = .ok (.lmul, 1))  (k : G M (pc + 1) L (.long (x * y) :: st)) : G M pc L (.long y :: .long x :: st) := by
  obtain ⟨p, e, s, m, args, below, meth, c, rfl, hx, hb, hml, hown, hts, hK, hI, hN, hr, hlk⟩ := h
  intro H locs ls hP hS hL
  exact lv_lmul hx hb d (k H locs ls hP hS hL)
theorem zr_land (h : zRu ly E G Ret cc own nL rt lev) {x y : Int64} (d : decode cc pc = .ok (.land, 1))  (k : G M (pc + 1) L (.long (x &&& y) :: st)) : G M pc L (.long y :: .long x :: st) := by
  obtain ⟨p, e, s, m, args, below, meth, c, rfl, hx, hb, hml, hown, hts, hK, hI, hN, hr, hlk⟩ := h
  intro H locs ls hP hS hL
  exact lv_land hx hb d (k H locs ls hP hS hL)
theorem zr_lor (h : zRu ly E G Ret cc own nL rt lev) {x y : Int64} (d : decode cc pc = .ok (.lor, 1))  (k : G M (pc + 1) L (.long (x ||| y) :: st)) : G M pc L (.long y :: .long x :: st) := by
  obtain ⟨p, e, s, m, args, below, meth, c, rfl, hx, hb, hml, hown, hts, hK, hI, hN, hr, hlk⟩ := h
  intro H locs ls hP hS hL
  exact lv_lor hx hb d (k H locs ls hP hS hL)
theorem zr_lxor (h : zRu ly E G Ret cc own nL rt lev) {x y : Int64} (d : decode cc pc = .ok (.lxor, 1))  (k : G M (pc + 1) L (.long (x ^^^ y) :: st)) : G M pc L (.long y :: .long x :: st) := by
  obtain ⟨p, e, s, m, args, below, meth, c, rfl, hx, hb, hml, hown, hts, hK, hI, hN, hr, hlk⟩ := h
  intro H locs ls hP hS hL
  exact lv_lxor hx hb d (k H locs ls hP hS hL)
theorem zr_lrem (h : zRu ly E G Ret cc own nL rt lev) {x y : Int64} (d : decode cc pc = .ok (.lrem, 1)) (hy : ¬ y = 0) (k : G M (pc + 1) L (.long (x - x / y * y) :: st)) : G M pc L (.long y :: .long x :: st) := by
  obtain ⟨p, e, s, m, args, below, meth, c, rfl, hx, hb, hml, hown, hts, hK, hI, hN, hr, hlk⟩ := h
  intro H locs ls hP hS hL
  exact lv_lrem hx hb d hy (k H locs ls hP hS hL)
theorem zr_lshl (h : zRu ly E G Ret cc own nL rt lev) {x : Int64} {y : Int32} (d : decode cc pc = .ok (.lshl, 1))  (k : G M (pc + 1) L (.long (x <<< (y.toInt64 &&& 63)) :: st)) : G M pc L (.int y :: .long x :: st) := by
  obtain ⟨p, e, s, m, args, below, meth, c, rfl, hx, hb, hml, hown, hts, hK, hI, hN, hr, hlk⟩ := h
  intro H locs ls hP hS hL
  exact lv_lshl hx hb d rfl (k H locs ls hP hS hL)
theorem zr_lushr (h : zRu ly E G Ret cc own nL rt lev) {x : Int64} {y : Int32} (d : decode cc pc = .ok (.lushr, 1))  (k : G M (pc + 1) L (.long (zlushr x y) :: st)) : G M pc L (.int y :: .long x :: st) := by
  obtain ⟨p, e, s, m, args, below, meth, c, rfl, hx, hb, hml, hown, hts, hK, hI, hN, hr, hlk⟩ := h
  intro H locs ls hP hS hL
  exact lv_lushr hx hb d rfl (k H locs ls hP hS hL)
theorem zr_lcmp (h : zRu ly E G Ret cc own nL rt lev) {x y : Int64} (d : decode cc pc = .ok (.lcmp, 1))  (k : G M (pc + 1) L (.int (lg_cmp x y) :: st)) : G M pc L (.long y :: .long x :: st) := by
  obtain ⟨p, e, s, m, args, below, meth, c, rfl, hx, hb, hml, hown, hts, hK, hI, hN, hr, hlk⟩ := h
  intro H locs ls hP hS hL
  exact W.lcmp hx hb d (k H locs ls hP hS hL)
theorem zr_i2l (h : zRu ly E G Ret cc own nL rt lev) {x : Int32} (d : decode cc pc = .ok (.i2l, 1))  (k : G M (pc + 1) L (.long x.toInt64 :: st)) : G M pc L (.int x :: st) := by
  obtain ⟨p, e, s, m, args, below, meth, c, rfl, hx, hb, hml, hown, hts, hK, hI, hN, hr, hlk⟩ := h
  intro H locs ls hP hS hL
  exact lv_i2l hx hb d rfl (k H locs ls hP hS hL)
theorem zr_l2i (h : zRu ly E G Ret cc own nL rt lev) {x : Int64} (d : decode cc pc = .ok (.l2i, 1))  (k : G M (pc + 1) L (.int x.toInt32 :: st)) : G M pc L (.long x :: st) := by
  obtain ⟨p, e, s, m, args, below, meth, c, rfl, hx, hb, hml, hown, hts, hK, hI, hN, hr, hlk⟩ := h
  intro H locs ls hP hS hL
  exact lv_l2i hx hb d rfl (k H locs ls hP hS hL)
theorem zr_i2b (h : zRu ly E G Ret cc own nL rt lev) {x : Int32} (d : decode cc pc = .ok (.i2b, 1))  (k : G M (pc + 1) L (.int x.toInt8.toInt32 :: st)) : G M pc L (.int x :: st) := by
  obtain ⟨p, e, s, m, args, below, meth, c, rfl, hx, hb, hml, hown, hts, hK, hI, hN, hr, hlk⟩ := h
  intro H locs ls hP hS hL
  exact lv_i2b hx hb d rfl (k H locs ls hP hS hL)
theorem zr_i2c (h : zRu ly E G Ret cc own nL rt lev) {x : Int32} (d : decode cc pc = .ok (.i2c, 1))  (k : G M (pc + 1) L (.int (x.toUInt32 % 65536).toInt32 :: st)) : G M pc L (.int x :: st) := by
  obtain ⟨p, e, s, m, args, below, meth, c, rfl, hx, hb, hml, hown, hts, hK, hI, hN, hr, hlk⟩ := h
  intro H locs ls hP hS hL
  exact lv_i2c hx hb d rfl (k H locs ls hP hS hL)
theorem zr_dup (h : zRu ly E G Ret cc own nL rt lev) {a : Value} (d : decode cc pc = .ok (.dup, 1)) (ha : a.category = 1) (k : G M (pc + 1) L (a :: a :: st)) : G M pc L (a :: st) := by
  obtain ⟨p, e, s, m, args, below, meth, c, rfl, hx, hb, hml, hown, hts, hK, hI, hN, hr, hlk⟩ := h
  intro H locs ls hP hS hL
  exact lv_dup hx hb d ha (k H locs ls hP hS hL)
theorem zr_pop (h : zRu ly E G Ret cc own nL rt lev) {a : Value} (d : decode cc pc = .ok (.pop, 1)) (ha : a.category = 1) (k : G M (pc + 1) L (st)) : G M pc L (a :: st) := by
  obtain ⟨p, e, s, m, args, below, meth, c, rfl, hx, hb, hml, hown, hts, hK, hI, hN, hr, hlk⟩ := h
  intro H locs ls hP hS hL
  exact lv_pop hx hb d ha (k H locs ls hP hS hL)
theorem zr_dup2_11 (h : zRu ly E G Ret cc own nL rt lev) {a b : Value} (d : decode cc pc = .ok (.dup2, 1)) (ha : a.category = 1) (hb2 : b.category = 1) (k : G M (pc + 1) L (a :: b :: a :: b :: st)) : G M pc L (a :: b :: st) := by
  obtain ⟨p, e, s, m, args, below, meth, c, rfl, hx, hb, hml, hown, hts, hK, hI, hN, hr, hlk⟩ := h
  intro H locs ls hP hS hL
  exact lv_dup2_11 hx hb d ha hb2 (k H locs ls hP hS hL)
theorem zr_dup2_2 (h : zRu ly E G Ret cc own nL rt lev) {a : Value} (d : decode cc pc = .ok (.dup2, 1)) (ha : a.category = 2) (k : G M (pc + 1) L (a :: a :: st)) : G M pc L (a :: st) := by
  obtain ⟨p, e, s, m, args, below, meth, c, rfl, hx, hb, hml, hown, hts, hK, hI, hN, hr, hlk⟩ := h
  intro H locs ls hP hS hL
  exact lv_dup2_2 hx hb d ha (k H locs ls hP hS hL)
theorem zr_dup_x1 (h : zRu ly E G Ret cc own nL rt lev) {a b : Value} (d : decode cc pc = .ok (.dup_x1, 1)) (ha : a.category = 1) (hb2 : b.category = 1) (k : G M (pc + 1) L (a :: b :: a :: st)) : G M pc L (a :: b :: st) := by
  obtain ⟨p, e, s, m, args, below, meth, c, rfl, hx, hb, hml, hown, hts, hK, hI, hN, hr, hlk⟩ := h
  intro H locs ls hP hS hL
  exact lv_dup_x1 hx hb d ha hb2 (k H locs ls hP hS hL)
theorem zr_icmp_eq (h : zRu ly E G Ret cc own nL rt lev) {x y : Int32} {off : Int} {tgt : Nat} (d : decode cc pc = .ok (.if_icmp .eq off, 3)) (ht : (pc : Int) + off = (tgt : Int)) (kt : x = y → G M tgt L st) (kf : ¬ (x = y) → G M (pc + 3) L st) : G M pc L (.int y :: .int x :: st) := by
  obtain ⟨p, e, s, m, args, below, meth, c, rfl, hx, hb, hml, hown, hts, hK, hI, hN, hr, hlk⟩ := h
  intro H locs ls hP hS hL
  exact lv_icmp_eq hx hb d ht (fun z => kt z H locs ls hP hS hL) (fun z => kf z H locs ls hP hS hL)
theorem zr_icmp_lt (h : zRu ly E G Ret cc own nL rt lev) {x y : Int32} {off : Int} {tgt : Nat} (d : decode cc pc = .ok (.if_icmp .lt off, 3)) (ht : (pc : Int) + off = (tgt : Int)) (kt : x < y → G M tgt L st) (kf : ¬ (x < y) → G M (pc + 3) L st) : G M pc L (.int y :: .int x :: st) := by
  obtain ⟨p, e, s, m, args, below, meth, c, rfl, hx, hb, hml, hown, hts, hK, hI, hN, hr, hlk⟩ := h
  intro H locs ls hP hS hL
  exact lv_icmp_lt hx hb d ht (fun z => kt z H locs ls hP hS hL) (fun z => kf z H locs ls hP hS hL)
theorem zr_icmp_ge (h : zRu ly E G Ret cc own nL rt lev) {x y : Int32} {off : Int} {tgt : Nat} (d : decode cc pc = .ok (.if_icmp .ge off, 3)) (ht : (pc : Int) + off = (tgt : Int)) (kt : y ≤ x → G M tgt L st) (kf : ¬ (y ≤ x) → G M (pc + 3) L st) : G M pc L (.int y :: .int x :: st) := by
  obtain ⟨p, e, s, m, args, below, meth, c, rfl, hx, hb, hml, hown, hts, hK, hI, hN, hr, hlk⟩ := h
  intro H locs ls hP hS hL
  exact lv_icmp_ge hx hb d ht (fun z => kt z H locs ls hP hS hL) (fun z => kf z H locs ls hP hS hL)
theorem zr_icmp_gt (h : zRu ly E G Ret cc own nL rt lev) {x y : Int32} {off : Int} {tgt : Nat} (d : decode cc pc = .ok (.if_icmp .gt off, 3)) (ht : (pc : Int) + off = (tgt : Int)) (kt : y < x → G M tgt L st) (kf : ¬ (y < x) → G M (pc + 3) L st) : G M pc L (.int y :: .int x :: st) := by
  obtain ⟨p, e, s, m, args, below, meth, c, rfl, hx, hb, hml, hown, hts, hK, hI, hN, hr, hlk⟩ := h
  intro H locs ls hP hS hL
  exact lv_icmp_gt hx hb d ht (fun z => kt z H locs ls hP hS hL) (fun z => kf z H locs ls hP hS hL)
theorem zr_icmp_le (h : zRu ly E G Ret cc own nL rt lev) {x y : Int32} {off : Int} {tgt : Nat} (d : decode cc pc = .ok (.if_icmp .le off, 3)) (ht : (pc : Int) + off = (tgt : Int)) (kt : x ≤ y → G M tgt L st) (kf : ¬ (x ≤ y) → G M (pc + 3) L st) : G M pc L (.int y :: .int x :: st) := by
  obtain ⟨p, e, s, m, args, below, meth, c, rfl, hx, hb, hml, hown, hts, hK, hI, hN, hr, hlk⟩ := h
  intro H locs ls hP hS hL
  exact lv_icmp_le hx hb d ht (fun z => kt z H locs ls hP hS hL) (fun z => kf z H locs ls hP hS hL)
theorem zr_icmp_ne (h : zRu ly E G Ret cc own nL rt lev) {x y : Int32} {off : Int} {tgt : Nat} (d : decode cc pc = .ok (.if_icmp .ne off, 3)) (ht : (pc : Int) + off = (tgt : Int)) (kf : x = y → G M (pc + 3) L st) (kt : ¬ x = y → G M tgt L st) : G M pc L (.int y :: .int x :: st) := by
  obtain ⟨p, e, s, m, args, below, meth, c, rfl, hx, hb, hml, hown, hts, hK, hI, hN, hr, hlk⟩ := h
  intro H locs ls hP hS hL
  exact lv_icmp_ne hx hb d ht (fun z => kt z H locs ls hP hS hL) (fun z => kf z H locs ls hP hS hL)
theorem zr_if_ne (h : zRu ly E G Ret cc own nL rt lev) {x : Int32} {off : Int} {tgt : Nat} (d : decode cc pc = .ok (.ifCond .ne off, 3)) (ht : (pc : Int) + off = (tgt : Int)) (kf : x = zI 0 → G M (pc + 3) L st) (kt : ¬ x = zI 0 → G M tgt L st) : G M pc L (.int x :: st) := by
  obtain ⟨p, e, s, m, args, below, meth, c, rfl, hx, hb, hml, hown, hts, hK, hI, hN, hr, hlk⟩ := h
  intro H locs ls hP hS hL
  exact lv_if_ne hx hb d ht (fun z => kt z H locs ls hP hS hL) (fun z => kf z H locs ls hP hS hL)
theorem zr_if_eq (h : zRu ly E G Ret cc own nL rt lev) {x : Int32} {off : Int} {tgt : Nat} (d : decode cc pc = .ok (.ifCond .eq off, 3)) (ht : (pc : Int) + off = (tgt : Int)) (kt : x = zI 0 → G M tgt L st) (kf : ¬ (x = zI 0) → G M (pc + 3) L st) : G M pc L (.int x :: st) := by
  obtain ⟨p, e, s, m, args, below, meth, c, rfl, hx, hb, hml, hown, hts, hK, hI, hN, hr, hlk⟩ := h
  intro H locs ls hP hS hL
  exact lv_if_eq hx hb d ht (fun z => kt z H locs ls hP hS hL) (fun z => kf z H locs ls hP hS hL)
theorem zr_if_lt (h : zRu ly E G Ret cc own nL rt lev) {x : Int32} {off : Int} {tgt : Nat} (d : decode cc pc = .ok (.ifCond .lt off, 3)) (ht : (pc : Int) + off = (tgt : Int)) (kt : x < zI 0 → G M tgt L st) (kf : ¬ (x < zI 0) → G M (pc + 3) L st) : G M pc L (.int x :: st) := by
  obtain ⟨p, e, s, m, args, below, meth, c, rfl, hx, hb, hml, hown, hts, hK, hI, hN, hr, hlk⟩ := h
  intro H locs ls hP hS hL
  exact lv_if_lt hx hb d ht (fun z => kt z H locs ls hP hS hL) (fun z => kf z H locs ls hP hS hL)
theorem zr_if_ge (h : zRu ly E G Ret cc own nL rt lev) {x : Int32} {off : Int} {tgt : Nat} (d : decode cc pc = .ok (.ifCond .ge off, 3)) (ht : (pc : Int) + off = (tgt : Int)) (kt : zI 0 ≤ x → G M tgt L st) (kf : ¬ (zI 0 ≤ x) → G M (pc + 3) L st) : G M pc L (.int x :: st) := by
  obtain ⟨p, e, s, m, args, below, meth, c, rfl, hx, hb, hml, hown, hts, hK, hI, hN, hr, hlk⟩ := h
  intro H locs ls hP hS hL
  exact lv_if_ge hx hb d ht (fun z => kt z H locs ls hP hS hL) (fun z => kf z H locs ls hP hS hL)
theorem zr_if_gt (h : zRu ly E G Ret cc own nL rt lev) {x : Int32} {off : Int} {tgt : Nat} (d : decode cc pc = .ok (.ifCond .gt off, 3)) (ht : (pc : Int) + off = (tgt : Int)) (kt : zI 0 < x → G M tgt L st) (kf : ¬ (zI 0 < x) → G M (pc + 3) L st) : G M pc L (.int x :: st) := by
  obtain ⟨p, e, s, m, args, below, meth, c, rfl, hx, hb, hml, hown, hts, hK, hI, hN, hr, hlk⟩ := h
  intro H locs ls hP hS hL
  exact lv_if_gt hx hb d ht (fun z => kt z H locs ls hP hS hL) (fun z => kf z H locs ls hP hS hL)
theorem zr_if_le (h : zRu ly E G Ret cc own nL rt lev) {x : Int32} {off : Int} {tgt : Nat} (d : decode cc pc = .ok (.ifCond .le off, 3)) (ht : (pc : Int) + off = (tgt : Int)) (kt : x ≤ zI 0 → G M tgt L st) (kf : ¬ (x ≤ zI 0) → G M (pc + 3) L st) : G M pc L (.int x :: st) := by
  obtain ⟨p, e, s, m, args, below, meth, c, rfl, hx, hb, hml, hown, hts, hK, hI, hN, hr, hlk⟩ := h
  intro H locs ls hP hS hL
  exact lv_if_le hx hb d ht (fun z => kt z H locs ls hP hS hL) (fun z => kf z H locs ls hP hS hL)
theorem zr_goto (h : zRu ly E G Ret cc own nL rt lev) {off : Int} {tgt : Nat} (d : decode cc pc = .ok (.goto off, 3)) (ht : (pc : Int) + off = (tgt : Int)) (k : G M tgt L st) : G M pc L st := by
  obtain ⟨p, e, s, m, args, below, meth, c, rfl, hx, hb, hml, hown, hts, hK, hI, hN, hr, hlk⟩ := h
  intro H locs ls hP hS hL
  exact lv_goto hx hb d ht (k H locs ls hP hS hL)
theorem zr_tabIn (h : zRu ly E G Ret cc own nL rt lev) {dflt lo hi : Int} {offs : Array Int} {len : Nat} {x : Int32} {off : Int} {tgt : Nat} (d : decode cc pc = .ok (.tableswitch dflt lo hi offs, len)) (h1 : ¬ x.toInt < lo) (h2 : ¬ hi < x.toInt) (ho : offs[(x.toInt - lo).toNat]? = some off) (ht : (pc : Int) + off = (tgt : Int)) (k : G M tgt L st) : G M pc L (.int x :: st) := by
  obtain ⟨p, e, s, m, args, below, meth, c, rfl, hx, hb, hml, hown, hts, hK, hI, hN, hr, hlk⟩ := h
  intro H locs ls hP hS hL
  exact lv_tableIn hx hb d h1 h2 ho ht (k H locs ls hP hS hL)
theorem zr_tabOut (h : zRu ly E G Ret cc own nL rt lev) {dflt lo hi : Int} {offs : Array Int} {len : Nat} {x : Int32} {tgt : Nat} (d : decode cc pc = .ok (.tableswitch dflt lo hi offs, len)) (h1 : x.toInt < lo ∨ hi < x.toInt) (ht : (pc : Int) + dflt = (tgt : Int)) (k : G M tgt L st) : G M pc L (.int x :: st) := by
  obtain ⟨p, e, s, m, args, below, meth, c, rfl, hx, hb, hml, hown, hts, hK, hI, hN, hr, hlk⟩ := h
  intro H locs ls hP hS hL
  exact lv_tableOut hx hb d h1 ht (k H locs ls hP hS hL)
theorem zr_weak (h : zRu ly E G Ret cc own nL rt lev) {L' : List (Nat × Value)} (ks : List Nat) (hl : lv_pick L ks = L') (k : G M pc L' st) : G M pc L st := by
  obtain ⟨p, e, s, m, args, below, meth, c, rfl, hx, hb, hml, hown, hts, hK, hI, hN, hr, hlk⟩ := h
  intro H locs ls hP hS hL
  exact k H locs ls hP hS (lv_sub hL ks hl)
theorem zr_topi {x : Int32} (k : ∀ y : Int32, y = x → G M pc L (.int y :: st)) : G M pc L (.int x :: st) := k x rfl
theorem zr_topl {x : Int64} (k : ∀ y : Int64, y = x → G M pc L (.long y :: st)) : G M pc L (.long x :: st) := k x rfl
theorem zr_mem {M : ZMem} (k : ∀ M' : ZMem, M' = M → G M' pc L st) : G M pc L st := k M rfl
theorem zr_iret (h : zRu ly E G Ret cc own nL (some .int) lev) {v : Int32} (d : decode cc pc = .ok (.ireturn, 1)) (hret : Ret M (some (.int v))) : G M pc L [.int v] := by
  obtain ⟨p, e, s, m, args, below, meth, c, rfl, hx, hb, hml, hown, hts, hK, hI, hN, hr, hlk⟩ := h
  intro H locs ls hP hS hL
  exact W.iret hx hb hr (fun t ht _ => ⟨M, _, rfl, hret, by rw [ht]; exact hP, hS.F ht⟩) (fun q hq => hS.2.2 q hq) d hlk
theorem zr_zret (h : zRu ly E G Ret cc own nL (some .boolean) lev) {v : Int32} (d : decode cc pc = .ok (.ireturn, 1)) (hv : zisB v = true) (hret : Ret M (some (.int v))) : G M pc L [.int v] := by
  obtain ⟨p, e, s, m, args, below, meth, c, rfl, hx, hb, hml, hown, hts, hK, hI, hN, hr, hlk⟩ := h
  intro H locs ls hP hS hL
  exact W.zret hx hb hr (by rcases zisB_or hv with rfl | rfl <;> rfl) (fun t ht _ => ⟨M, _, rfl, hret, by rw [ht]; exact hP, hS.F ht⟩) (fun q hq => hS.2.2 q hq) d hlk
theorem zr_vret (h : zRu ly E G Ret cc own nL none lev) (d : decode cc pc = .ok (.return_, 1)) (hret : Ret M none) : G M pc L [] := by
  obtain ⟨p, e, s, m, args, below, meth, c, rfl, hx, hb, hml, hown, hts, hK, hI, hN, hr, hlk⟩ := h
  intro H locs ls hP hS hL
  exact W.vret hx hb hr (fun t ht _ => ⟨M, _, rfl, hret, by rw [ht]; exact hP, hS.F ht⟩) (fun q hq => hS.2.2 q hq) d hlk
theorem zr_aret {C : String} (h : zRu ly E G Ret cc own nL (some (.object C)) lev) {q : Nat} (d : decode cc pc = .ok (.areturn, 1)) (hret : Ret M (some (zrf E q))) : G M pc L [zrf E q] := by
  obtain ⟨p, e, s, m, args, below, meth, c, rfl, hx, hb, hml, hown, hts, hK, hI, hN, hr, hlk⟩ := h
  intro H locs ls hP hS hL
  exact W.aret hx hb hr (Or.inl ⟨_, rfl⟩) (Or.inr ⟨_, rfl⟩) (fun t ht _ => ⟨M, _, rfl, hret, by rw [ht]; exact hP, hS.F ht⟩) (fun q hq => hS.2.2 q hq) d hlk
/-- a field by its link: class number, slot -/
def zFO (own : String) (index ci k : Nat) : Prop := ∃ (C : String) (T : u_T) (N : Nat), vwCl[ci]? = some (C, T, N) ∧ k < N ∧ (∀ w ∈ u_ws C T N, w ∈ wsL_law) ∧ Cond.fieldLink own index C (T k).2.1 (T k).2.2.1 ∈ wsL_law ∧ (T k).1 = C
def zFP (own : String) (index ci k : Nat) (ty : FieldType) : Prop := ∃ (C : String) (T : u_T) (N : Nat) (ty0 : Nat → FieldType), vwCl[ci]? = some (C, T, N) ∧ k < N ∧ (∀ w ∈ u_ws C T N, w ∈ wsL_law) ∧ Cond.fieldLink own index C (T k).2.1 (T k).2.2.1 ∈ wsL_law ∧ (T k).1 = C ∧ (∀ k, k < N → parseFieldDescriptor (T k).2.2.1 = some (ty0 k)) ∧ (∀ a, a < N → ∀ b, b < N → a ≠ b → (T a).2.1 ≠ (T b).2.1) ∧ (T k).2.2.2 = false ∧ parseFieldDescriptor (T k).2.2.1 = some ty
theorem zrnF_get {E : ZEv} {f : Nat → Int32} {fl : List (Option Nat)} {k : Nat} {o : Option Nat} (h : fl[k]? = some o) : (zrnF E f fl)[k]? = some (zfv E f k o) := by
  unfold zrnF
  rw [List.getElem?_mapIdx, h]
  rfl
theorem zrnF_set {E : ZEv} {f : Nat → Int32} {fl : List (Option Nat)} {k : Nat} {v : Int32} (h : fl[k]? = some none) : (zrnF E f fl).set k (.int v) = zrnF E (upd f k v) fl := by
  apply List.ext_getElem?
  intro i
  rw [List.getElem?_set]
  have hlen : k < (zrnF E f fl).length := by
    unfold zrnF
    rw [List.length_mapIdx]
    exact (List.getElem?_eq_some_iff.mp h).1
  by_cases hi : k = i
  · subst hi
    rw [if_pos rfl, if_pos hlen, zrnF_get h]
    simp [zfv, upd]
  · rw [if_neg hi]
    unfold zrnF
    rw [List.getElem?_mapIdx, List.getElem?_mapIdx]
    cases fl[i]? with
    | none => rfl
    | some o =>
      cases o with
      | some j => rfl
      | none =>
        have e : upd f k v i = f i := if_neg (fun z => hi z.symm)
        simp only [Option.map_some, zfv, e]
theorem zr_getI (h : zRu ly E G Ret cc own nL rt lev) {index ci k q : Nat} {fl : List (Option Nat)} (hf : zFO own index ci k) (hq : ly[q]? = some (.inr (ci, fl))) (hk : fl[k]? = some none) (d : decode cc pc = .ok (.getfield index, 3)) (kk : G M (pc + 3) L (.int (M.1 q k) :: st)) : G M pc L (zrf E q :: st) := by
  obtain ⟨p, e, s, m, args, below, meth, c, rfl, hx, hb, hml, hown, hts, hK, hI, hN, hr, hlk⟩ := h
  intro H locs ls hP hS hL
  obtain ⟨C, T, N, hc, hkN, hin, hlink, hC⟩ := hf
  exact va_get hx hb hts hin hown hK hP q (zcls_get hq) hc k hkN (hts _ hlink) (fun x z => by rw [hC] at z; exact z) (zrnF_get hk) d (kk H locs ls hP hS hL)
theorem zr_getR (h : zRu ly E G Ret cc own nL rt lev) {index ci k q j : Nat} {fl : List (Option Nat)} (hf : zFO own index ci k) (hq : ly[q]? = some (.inr (ci, fl))) (hk : fl[k]? = some (some j)) (d : decode cc pc = .ok (.getfield index, 3)) (kk : G M (pc + 3) L (zrf E j :: st)) : G M pc L (zrf E q :: st) := by
  obtain ⟨p, e, s, m, args, below, meth, c, rfl, hx, hb, hml, hown, hts, hK, hI, hN, hr, hlk⟩ := h
  intro H locs ls hP hS hL
  obtain ⟨C, T, N, hc, hkN, hin, hlink, hC⟩ := hf
  exact va_get hx hb hts hin hown hK hP q (zcls_get hq) hc k hkN (hts _ hlink) (fun x z => by rw [hC] at z; exact z) (zrnF_get hk) d (kk H locs ls hP hS hL)
theorem zstI_set {q k : Nat} {v : Int32} {t : ZEnt} {x : va_E} (hq : ly[q]? = some t) (hx : zrnE E (zstI M q k v) q t = x) : (zcls ly E M).set q (E.2.2.1 q, x) = zcls ly E (zstI M q k v) := zcls_set hq (fun a ha => by simp [zstI, ha]) (fun a ha => rfl) hx
theorem zr_putV (h : zRu ly E G Ret cc own nL rt lev) {index ci k q : Nat} {fl : List (Option Nat)} {v : Int32} {ty : FieldType} (hn : narrow ty (.int v) = .int v) (hfit : fits ty (.int v) = true) (hf : zFP own index ci k ty) (hq : ly[q]? = some (.inr (ci, fl))) (hk : fl[k]? = some none) (d : decode cc pc = .ok (.putfield index, 3)) (kk : G (zstI M q k v) (pc + 3) L st) : G M pc L (.int v :: zrf E q :: st) := by
  obtain ⟨p, e, s, m, args, below, meth, c, rfl, hx, hb, hml, hown, hts, hK, hI, hN, hr, hlk⟩ := h
  intro H locs ls hP hS hL
  obtain ⟨C, T, N, ty0, hc, hkN, hin, hlink, hC, hty, hnm, hfin, hd⟩ := hf
  have hlen : k < (zrnF E (M.1 q) fl).length := by
    have := (List.getElem?_eq_some_iff.mp hk).1
    unfold zrnF
    rwa [List.length_mapIdx]
  have e : (zcls ly E M).set q (E.2.2.1 q, .inr (ci, (zrnF E (M.1 q) fl).set k (.int v))) = zcls ly E (zstI M q k v) := zstI_set hq (by
    simp only [zrnE, zrnF_set hk]
    simp [zstI])
  refine va_put hx hb hts hin ty0 hty hnm hown hK hP (zD hI M) hS q (zcls_get hq) hc k hkN (hts _ hlink) (fun x z => by rw [hC] at z; exact z) hfin hd hn hfit hlen d (fun H1 locs1 hP1 _ hS1 => kk H1 locs1 ls ?_ hS1 hL)
  rw [← e]
  exact hP1
theorem zr_putI (h : zRu ly E G Ret cc own nL rt lev) {index ci k q : Nat} {fl : List (Option Nat)} {v : Int32} (hf : zFP own index ci k .int) (hq : ly[q]? = some (.inr (ci, fl))) (hk : fl[k]? = some none) (d : decode cc pc = .ok (.putfield index, 3)) (kk : G (zstI M q k v) (pc + 3) L st) : G M pc L (.int v :: zrf E q :: st) := zr_putV h rfl rfl hf hq hk d kk
theorem zr_putZ (h : zRu ly E G Ret cc own nL rt lev) {index ci k q : Nat} {fl : List (Option Nat)} {v : Int32} (hf : zFP own index ci k .boolean) (hq : ly[q]? = some (.inr (ci, fl))) (hk : fl[k]? = some none) (hv : zisB v = true) (d : decode cc pc = .ok (.putfield index, 3)) (kk : G (zstI M q k v) (pc + 3) L st) : G M pc L (.int v :: zrf E q :: st) := zr_putV h (by rcases zisB_or hv with rfl | rfl <;> rfl) (by rcases zisB_or hv with rfl | rfl <;> rfl) hf hq hk d kk
theorem zr_iald (h : zRu ly E G Ret cc own nL rt lev) {q n : Nat} {i : Int32} (hq : ly[q]? = some (.inl (0, n))) (hi : zin i n = true) (d : decode cc pc = .ok (.iaload, 1)) (kk : G M (pc + 1) L (.int (M.1 q (zix i)) :: st)) : G M pc L (.int i :: zrf E q :: st) := by
  obtain ⟨p, e, s, m, args, below, meth, c, rfl, hx, hb, hml, hown, hts, hK, hI, hN, hr, hlk⟩ := h
  intro H locs ls hP hS hL
  exact va_iald hx hb hK hP q 0 (zcls_get hq) rfl (zin_in hi) d (kk H locs ls hP hS hL)
theorem zr_zald (h : zRu ly E G Ret cc own nL rt lev) {q n : Nat} {i : Int32} (hq : ly[q]? = some (.inl (1, n))) (hi : zin i n = true) (d : decode cc pc = .ok (.baload, 1)) (kk : G M (pc + 1) L (.int (M.1 q (zix i)) :: st)) : G M pc L (.int i :: zrf E q :: st) := by
  obtain ⟨p, e, s, m, args, below, meth, c, rfl, hx, hb, hml, hown, hts, hK, hI, hN, hr, hlk⟩ := h
  intro H locs ls hP hS hL
  exact va_zald hx hb hK hP q 1 (zcls_get hq) rfl (zin_in hi) d (kk H locs ls hP hS hL)
theorem zr_bald (h : zRu ly E G Ret cc own nL rt lev) {q n : Nat} {i : Int32} (hq : ly[q]? = some (.inl (2, n))) (hi : zin i n = true) (d : decode cc pc = .ok (.baload, 1)) (kk : G M (pc + 1) L (.int (M.1 q (zix i)) :: st)) : G M pc L (.int i :: zrf E q :: st) := by
  obtain ⟨p, e, s, m, args, below, meth, c, rfl, hx, hb, hml, hown, hts, hK, hI, hN, hr, hlk⟩ := h
  intro H locs ls hP hS hL
  exact va_bald hx hb hK hP q 2 (zcls_get hq) rfl (zin_in hi) d (kk H locs ls hP hS hL)
theorem zr_lald (h : zRu ly E G Ret cc own nL rt lev) {q n : Nat} {i : Int32} (hq : ly[q]? = some (.inl (3, n))) (hi : zin i n = true) (d : decode cc pc = .ok (.laload, 1)) (kk : G M (pc + 1) L (.long (M.2 q (zix i)) :: st)) : G M pc L (.int i :: zrf E q :: st) := by
  obtain ⟨p, e, s, m, args, below, meth, c, rfl, hx, hb, hml, hown, hts, hK, hI, hN, hr, hlk⟩ := h
  intro H locs ls hP hS hL
  exact va_lald hx hb hK hP q 3 (zcls_get hq) rfl (zin_in hi) d (kk H locs ls hP hS hL)
theorem zr_iast (h : zRu ly E G Ret cc own nL rt lev) {q n : Nat} {i x : Int32} (hq : ly[q]? = some (.inl (0, n))) (hi : zin i n = true) (d : decode cc pc = .ok (.iastore, 1)) (kk : G (zstI M q (zix i) x) (pc + 1) L st) : G M pc L (.int x :: .int i :: zrf E q :: st) := by
  obtain ⟨p, e, s, m, args, below, meth, c, rfl, hx, hb, hml, hown, hts, hK, hI, hN, hr, hlk⟩ := h
  intro H locs ls hP hS hL
  refine va_iast hx hb hK hP (zD hI M) hS q 0 (zcls_get hq) rfl (zin_in hi) d (fun H1 locs1 hP1 _ hS1 => kk H1 locs1 ls ?_ hS1 hL)
  rw [← zstI_set hq (E := E) (M := M) (k := zix i) (v := x) (by simp [zrnE, zstI]; rfl)]
  exact hP1
theorem zr_zast (h : zRu ly E G Ret cc own nL rt lev) {q n : Nat} {i x : Int32} (hq : ly[q]? = some (.inl (1, n))) (hi : zin i n = true) (d : decode cc pc = .ok (.bastore, 1)) (kk : G (zstI M q (zix i) (vp_nar .boolean x)) (pc + 1) L st) : G M pc L (.int x :: .int i :: zrf E q :: st) := by
  obtain ⟨p, e, s, m, args, below, meth, c, rfl, hx, hb, hml, hown, hts, hK, hI, hN, hr, hlk⟩ := h
  intro H locs ls hP hS hL
  refine va_zast hx hb hK hP (zD hI M) hS q 1 (zcls_get hq) rfl (zin_in hi) d (fun H1 locs1 hP1 _ hS1 => kk H1 locs1 ls ?_ hS1 hL)
  rw [← zstI_set hq (E := E) (M := M) (k := zix i) (v := (vp_nar .boolean x)) (by simp [zrnE, zstI]; rfl)]
  exact hP1
theorem zr_bast (h : zRu ly E G Ret cc own nL rt lev) {q n : Nat} {i x : Int32} (hq : ly[q]? = some (.inl (2, n))) (hi : zin i n = true) (d : decode cc pc = .ok (.bastore, 1)) (kk : G (zstI M q (zix i) (vp_nar .byte x)) (pc + 1) L st) : G M pc L (.int x :: .int i :: zrf E q :: st) := by
  obtain ⟨p, e, s, m, args, below, meth, c, rfl, hx, hb, hml, hown, hts, hK, hI, hN, hr, hlk⟩ := h
  intro H locs ls hP hS hL
  refine va_bast hx hb hK hP (zD hI M) hS q 2 (zcls_get hq) rfl (zin_in hi) d (fun H1 locs1 hP1 _ hS1 => kk H1 locs1 ls ?_ hS1 hL)
  rw [← zstI_set hq (E := E) (M := M) (k := zix i) (v := (vp_nar .byte x)) (by simp [zrnE, zstI]; rfl)]
  exact hP1
theorem zr_last (h : zRu ly E G Ret cc own nL rt lev) {q n : Nat} {i : Int32} {x : Int64} (hq : ly[q]? = some (.inl (3, n))) (hi : zin i n = true) (d : decode cc pc = .ok (.lastore, 1)) (kk : G (zstL M q (zix i) x) (pc + 1) L st) : G M pc L (.long x :: .int i :: zrf E q :: st) := by
  obtain ⟨p, e, s, m, args, below, meth, c, rfl, hx, hb, hml, hown, hts, hK, hI, hN, hr, hlk⟩ := h
  intro H locs ls hP hS hL
  refine va_last hx hb hK hP (zD hI M) hS q 3 (zcls_get hq) rfl (zin_in hi) d (fun H1 locs1 hP1 _ hS1 => kk H1 locs1 ls ?_ hS1 hL)
  rw [← zcls_set (E := E) (M := M) (M' := zstL M q (zix i) x) hq (fun a ha => rfl) (fun a ha => by simp [zstL, ha]) (by simp [zrnE, zstL]; rfl)]
  exact hP1
theorem zr_alen (h : zRu ly E G Ret cc own nL rt lev) {q n t : Nat} (ht : t < 4) (hq : ly[q]? = some (.inl (t, n))) (d : decode cc pc = .ok (.arraylength, 1)) (kk : G M (pc + 1) L (.int (zI n) :: st)) : G M pc L (zrf E q :: st) := by
  obtain ⟨p, e, s, m, args, below, meth, c, rfl, hx, hb, hml, hown, hts, hK, hI, hN, hr, hlk⟩ := h
  intro H locs ls hP hS hL
  obtain ⟨ty, hty⟩ : ∃ ty, (ztys E)[t]? = some (E.2.2.2 t, ty) := by
    match t, ht with
    | 0, _ => exact ⟨_, rfl⟩
    | 1, _ => exact ⟨_, rfl⟩
    | 2, _ => exact ⟨_, rfl⟩
    | 3, _ => exact ⟨_, rfl⟩
  exact va_alen hx hb hK hP q t (zcls_get hq) hty (Int32.ofInt_eq_ofNat).symm d (kk H locs ls hP hS hL)
theorem zr_mmin (h : zRu ly E G Ret cc own nL rt lev) {index : Nat} {x y : Int32} (h1 : Cond.methodLink own index Lib.Math.min.name ∈ wsL_law) (h2 : Cond.static Lib.Math.min.name ∈ wsL_law) (h3 : Cond.initialized "java/lang/Math" ∈ wsL_law) (h4 : Cond.code Lib.Math.min.name Lib.Math.min.code 2 (some .int) ∈ wsL_law) (hw : (st.map fun v => v.category).sum ≤ 8) (d : decode cc pc = .ok (.invokestatic index, 3)) (kk : G M (pc + 3) L (.int (if y < x then y else x) :: st)) : G M pc L (.int y :: .int x :: st) := by
  obtain ⟨p, e, s, m, args, below, meth, c, rfl, hx, hb, hml, hown, hts, hK, hI, hN, hr, hlk⟩ := h
  intro H locs ls hP hS hL
  have e1 : (zrm lev).locals = 48 * lev + 48 := rfl
  have e2 : (zrm lev).frames = lev + 1 := rfl
  exact va_mmin hx hb (hml.trans hL.1.symm) hown (hts _ h1) (hts _ h2) (hts _ h3) (hts _ h4) (by rw [e2]; omega) (by rw [e1]; omega) (Nat.zero_le _) (Nat.zero_le _) d (kk H locs ls hP hS hL)
theorem zr_mmax (h : zRu ly E G Ret cc own nL rt lev) {index : Nat} {x y : Int32} (h1 : Cond.methodLink own index Lib.Math.max.name ∈ wsL_law) (h2 : Cond.static Lib.Math.max.name ∈ wsL_law) (h3 : Cond.initialized "java/lang/Math" ∈ wsL_law) (h4 : Cond.code Lib.Math.max.name Lib.Math.max.code 2 (some .int) ∈ wsL_law) (hw : (st.map fun v => v.category).sum ≤ 8) (d : decode cc pc = .ok (.invokestatic index, 3)) (kk : G M (pc + 3) L (.int (if x < y then y else x) :: st)) : G M pc L (.int y :: .int x :: st) := by
  obtain ⟨p, e, s, m, args, below, meth, c, rfl, hx, hb, hml, hown, hts, hK, hI, hN, hr, hlk⟩ := h
  intro H locs ls hP hS hL
  have e1 : (zrm lev).locals = 48 * lev + 48 := rfl
  have e2 : (zrm lev).frames = lev + 1 := rfl
  exact va_mmax hx hb (hml.trans hL.1.symm) hown (hts _ h1) (hts _ h2) (hts _ h3) (hts _ h4) (by rw [e2]; omega) (by rw [e1]; omega) (Nat.zero_le _) (Nat.zero_le _) d (kk H locs ls hP hS hL)
end ZRULES
theorem zgood : wsL_law.all goodWord = true := by decide +kernel
theorem zGood_of {ws : List Cond} (h : ∀ w ∈ ws, w ∈ wsL_law) : GoodIn wsL_law ws := fun w hw => ⟨h w hw, good_of_word (List.all_eq_true.mp zgood w (h w hw))⟩
theorem zblind {ly : List ZEnt} {E : ZEv} {M : ZMem} {as : List Value} : FrameBlind (va_Pc as (zWA ly E M)) := by
  intro a U g mk q
  obtain ⟨q0, qP, qK, qI, qN⟩ := q
  exact ⟨q0, qP, va_K.moved (u := U) (U := U.calling g mk a) (Vm.Alike.refl U.vm) qK, qI, zNW_same (s := U) rfl rfl qN⟩
section ZRUN
variable {p : Program} {e : Env} {R : Room} {s : State} {m : MethodId} {args : Array Value} {below : List Frame} {meth : Method} {c : Code} {H : Heap} {locs : List Loc} {Q : State → Prop}
variable {ly : List ZEnt} {E : ZEv} {pc : Nat} {ls : Array Slot} {rest st0 : List Value} {a : Array Value} {A0 : Nat → Prop} {H0 : Heap} {cells slots : Nat}
theorem zrun_W {Ret : ZR} (hr : va_Run p E.1 e R s m args below meth c H locs cells slots 0 0 (F0 m pc ls st0) rest (zQR ly E Ret a) (zAW ly E)) (hS : va_S A0 H0 H locs) (hA : ∀ q, zAW ly E q → A0 q)
    (kk : ∀ (M' : ZMem) (v : Option Value) (t : State) (H1 : Heap) (locs1 : List Loc), t.heap = H1 → s.vm.Alike t.vm → Ret M' v → va_P E.2.1 vwCl (zcls ly E M') H1 → H.size ≤ H1.size → (∀ q : Nat, q < H.size → ¬ zAW ly E q → H1[q]? = H[q]?) → va_S A0 H0 H1 locs1 → W p E.1 e R s m args below meth c H1 locs1 cells slots Q (F0 m (pc + 3) ls (v.toList ++ rest))) : W p E.1 e R s m args below meth c H locs cells slots Q (F0 m pc ls st0) := by
  intro T hT X
  obtain ⟨v, st₀, t, T', L, h0, X', hL, e1, e2, ⟨M', v', hv, hret, hP', hz, hk⟩, st⟩ := hr T hT X
  cases hv
  rw [h0] at hz hk
  obtain ⟨t2, a1, b1⟩ := kk M' v t T'.heap (locs ++ L) e1.symm (by rw [← e2]; exact X'.warmed.alike) hret (by rw [e1]; exact hP') (by rw [e1]; exact hz) (fun q h1 h2 => by rw [e1]; exact hk q h1 h2)
    ⟨Nat.le_trans hS.1 (by rw [e1]; exact hz), fun q h1 h2 => by rw [e1, hk q (Nat.lt_of_lt_of_le h1 hS.1) (fun z => h2 (hA q z))]; exact hS.2.1 q h1 h2, fun q hq => by
      rcases List.mem_append.mp hq with h | h
      · exact hS.2.2 q h
      · exact hA _ (hL q h)⟩ T' rfl X'
  exact ⟨t2, st t2 a1, b1⟩
end ZRUN
/-- a method of an object of class ci, linked in own at index: the words of the call -/
def zCV (own : String) (index ci : Nat) (y : MethodName) (bytes : ByteArray) (maxL : Nat) (ret : Option FieldType) (n : Nat) : Prop := ∃ (C : String) (T : u_T) (N : Nat), vwCl[ci]? = some (C, T, N) ∧ (∀ w ∈ [Cond.methodLink own index y, .instanceMethod y, .selects C y y, .initialized C, .code y bytes maxL ret], w ∈ wsL_law) ∧ (y.cls = C ∧ y.cls ≠ "java/lang/invoke/MethodHandle" ∧ y.cls ≠ "java/lang/invoke/VarHandle" ∧ (parseMethodDescriptor y.desc).map (fun d => d.parameters.length) = some n) ∧ maxL ≤ 29
def zCS (own : String) (index : Nat) (y : MethodName) (bytes : ByteArray) (maxL : Nat) (ret : Option FieldType) (n : Nat) : Prop := (∀ w ∈ [Cond.methodLink own index y, .static y, .initialized y.cls, .code y bytes maxL ret], w ∈ wsL_law) ∧ (y.cls ≠ "java/lang/invoke/MethodHandle" ∧ y.cls ≠ "java/lang/invoke/VarHandle" ∧ (parseMethodDescriptor y.desc).map (fun d => d.parameters.length) = some n) ∧ maxL ≤ 29
def zCN (own : String) (index : Nat) (y : MethodName) (bytes : ByteArray) (maxL : Nat) (ret : Option FieldType) (n : Nat) : Prop := Cond.methodLinkNest own index y "UnreadSigns" ∈ znest ∧ (∀ w ∈ [Cond.static y, .initialized y.cls, .code y bytes maxL ret], w ∈ wsL_law) ∧ (y.cls ≠ "java/lang/invoke/MethodHandle" ∧ y.cls ≠ "java/lang/invoke/VarHandle" ∧ (parseMethodDescriptor y.desc).map (fun d => d.parameters.length) = some n) ∧ maxL ≤ 29
section ZCALLS
variable {ly : List ZEnt} {E : ZEv} {G : ZG} {Ret : ZR} {cc : ByteArray} {own : String} {nL : Nat} {rt : Option FieldType} {lev : Nat} {M : ZMem} {pc : Nat} {L : List (Nat × Value)} {st stk : List Value}
variable {index n maxL lev' : Nat} {y : MethodName} {bytes : ByteArray} {ret : Option FieldType} {As : List Value} {Ret' : ZR}
theorem zroom {lev lev' maxL : Nat} (hlev : lev' < lev) (hm : maxL ≤ 29) : (zrm lev').frames + 1 ≤ (zrm lev).frames ∧ 8 + (maxL + 11) + (zrm lev').locals ≤ (zrm lev).locals := by
  show lev' + 1 + 1 ≤ lev + 1 ∧ 8 + (maxL + 11) + (48 * lev' + 48) ≤ 48 * lev + 48
  omega
theorem zr_callV (h : zRu ly E G Ret cc own nL rt lev) {q ci : Nat} {fl : List (Option Nat)} (hq : ly[q]? = some (.inr (ci, fl))) (hw : zCV own index ci y bytes maxL ret n) (hlev : lev' < lev) (hM : zCon ly E y bytes maxL ret lev' (zrf E q :: As) M Ret') (hn : As.length = n) (hst : As.reverse ++ zrf E q :: st = stk) (hc : (st.map fun v => v.category).sum ≤ 8) (d : decode cc pc = .ok (.invokevirtual index, 3)) (kk : ∀ (M' : ZMem) (v : Option Value), Ret' M' v → G M' (pc + 3) L (v.toList ++ st)) : G M pc L stk := by
  subst hst
  obtain ⟨p, e, s, m, args, below, meth, c, rfl, hx, hb, hml, hown, hts, hK, hI, hN, hr, hlk⟩ := h
  intro H locs ls hP hS hL
  obtain ⟨C, T, N, hvC, hws, hd, hmx⟩ := hw
  have hT : GoodIn wsL_law (wsV own index C y (Cond.code y bytes maxL ret :: wsL_law)) := zGood_of (fun w hw => by
    unfold wsV at hw
    rcases List.mem_append.mp hw with h1 | h1
    · exact hws w (by simp only [List.mem_cons, List.not_mem_nil, or_false] at h1 ⊢; rcases h1 with h1 | h1 | h1 | h1 <;> simp [h1])
    · rcases List.mem_cons.mp h1 with h1 | h1
      · exact hws w (by simp [h1])
      · exact h1)
  exact zrun_W (va_runV (As := As) (rest := st) (C := C) (b := E.2.2.1 q) ⟨hx, hb, hml, hown, hts⟩ hM (cwV n hts hT rfl rfl rfl hd (zroom hlev hmx)) ⟨zblind, va_recv hK hP hvC (zcls_get hq), fun U hU hW => ⟨rfl, by rw [hU]; exact hP, va_K.moved hW.alike hK, hI, zNW_step hW (by rw [hU]; exact hS) hN⟩⟩ rfl hn hL.1 rfl (lv_room hc) d ⟨Nat.zero_le _, Nat.zero_le _⟩) hS (fun _ z => z) (fun M' v t H1 locs1 _ _ h1 h2 _ _ h3 => kk M' v h1 H1 locs1 ls h2 h3 hL)
theorem zr_callS (h : zRu ly E G Ret cc own nL rt lev) (hw : zCS own index y bytes maxL ret n) (hlev : lev' < lev) (hM : zCon ly E y bytes maxL ret lev' As M Ret') (hn : As.length = n) (hst : As.reverse ++ st = stk) (hc : (st.map fun v => v.category).sum ≤ 8) (d : decode cc pc = .ok (.invokestatic index, 3)) (kk : ∀ (M' : ZMem) (v : Option Value), Ret' M' v → G M' (pc + 3) L (v.toList ++ st)) : G M pc L stk := by
  subst hst
  obtain ⟨p, e, s, m, args, below, meth, c, rfl, hx, hb, hml, hown, hts, hK, hI, hN, hr, hlk⟩ := h
  intro H locs ls hP hS hL
  obtain ⟨hws, hd, hmx⟩ := hw
  have hT : GoodIn wsL_law (va_wsS own index y (Cond.code y bytes maxL ret :: wsL_law)) := zGood_of (fun w hw => by
    unfold va_wsS at hw
    rcases List.mem_append.mp hw with h1 | h1
    · exact hws w (by simp only [List.mem_cons, List.not_mem_nil, or_false] at h1 ⊢; rcases h1 with h1 | h1 | h1 <;> simp [h1])
    · rcases List.mem_cons.mp h1 with h1 | h1
      · exact hws w (by simp [h1])
      · exact h1)
  exact zrun_W (va_runS (As := As) (rest := st) ⟨hx, hb, hml, hown, hts⟩ hM (va_cwS n hts hT rfl rfl rfl hd (zroom hlev hmx)) ⟨zblind, fun U hU hW => ⟨rfl, by rw [hU]; exact hP, va_K.moved hW.alike hK, hI, zNW_step hW (by rw [hU]; exact hS) hN⟩⟩ rfl hn hL.1 rfl (lv_room hc) d ⟨Nat.zero_le _, Nat.zero_le _⟩) hS (fun _ z => z) (fun M' v t H1 locs1 _ _ h1 h2 _ _ h3 => kk M' v h1 H1 locs1 ls h2 h3 hL)
theorem zr_callN (h : zRu ly E G Ret cc own nL rt lev) (hw : zCN own index y bytes maxL ret n) (hlev : lev' < lev) (hM : zCon ly E y bytes maxL ret lev' As M Ret') (hn : As.length = n) (hst : As.reverse ++ st = stk) (hc : (st.map fun v => v.category).sum ≤ 8) (d : decode cc pc = .ok (.invokestatic index, 3)) (kk : ∀ (M' : ZMem) (v : Option Value), Ret' M' v → G M' (pc + 3) L (v.toList ++ st)) : G M pc L stk := by
  subst hst
  obtain ⟨p, e, s, m, args, below, meth, c, rfl, hx, hb, hml, hown, hts, hK, hI, hN, hr, hlk⟩ := h
  intro H locs ls hP hS hL
  obtain ⟨hnw, hws, hd, hmx⟩ := hw
  have hT : GoodIn wsL_law (Cond.code y bytes maxL ret :: wsL_law) := zGood_of (fun w hw => by
    rcases List.mem_cons.mp hw with h1 | h1
    · exact hws w (by simp [h1])
    · exact h1)
  exact zrun_W (va_runSN (As := As) (rest := st) ⟨hx, hb, hml, hown, hts⟩ hM ⟨va_cnB n hts hT rfl rfl rfl (hN.1 _ hnw) (hts _ (hws _ (by simp))) hd (zroom hlev hmx), hts _ (hws _ (by simp)), trivial⟩ ⟨zblind, fun U hU hW => ⟨rfl, by rw [hU]; exact hP, va_K.moved hW.alike hK, hI, zNW_step hW (by rw [hU]; exact hS) hN⟩⟩ rfl hn hL.1 rfl (lv_room hc) d ⟨Nat.zero_le _, Nat.zero_le _⟩) hS (fun _ z => z) (fun M' v t H1 locs1 _ _ h1 h2 _ _ h3 => kk M' v h1 H1 locs1 ls h2 h3 hL)
/-- what a method answers, by its kind: a number and no change; a number and a change; a change alone -/
def zRp (M : ZMem) (K : Int32 → Prop) : ZR := fun M' v => M' = M ∧ ∃ r, v = some (.int r) ∧ K r
def zRm (K : ZMem × Int32 → Prop) : ZR := fun M' v => ∃ r, v = some (.int r) ∧ K (M', r)
def zRv (K : ZMem → Prop) : ZR := fun M' v => v = none ∧ K M'
def zRw (M : ZMem) (K : Unit → Prop) : ZR := fun M' v => M' = M ∧ v = none ∧ K ()
theorem zfm_len (E : ZEv) (x0 x1 : Int32) : (lg_sl [.int x0, .int x1, zfm E]).length ≤ 3 := by
  unfold zfm
  split <;> exact Nat.le_of_ble_eq_true rfl
end ZCALLS
section ZCALLS2
variable {ly : List ZEnt} {E : ZEv} {G : ZG} {Ret : ZR} {cc : ByteArray} {own : String} {nL : Nat} {rt : Option FieldType} {lev : Nat} {M : ZMem} {pc : Nat} {L : List (Nat × Value)} {st stk : List Value}
variable {index n maxL lev' : Nat} {y : MethodName} {bytes : ByteArray} {ret : Option FieldType} {As : List Value} {Ret' : ZR}
theorem zr_callVp (h : zRu ly E G Ret cc own nL rt lev) {q ci : Nat} {fl : List (Option Nat)} (hq : ly[q]? = some (.inr (ci, fl))) (hw : zCV own index ci y bytes maxL ret n) (hlev : lev' < lev) {K : Int32 → Prop} (hM : zCon ly E y bytes maxL ret lev' (zrf E q :: As) M (zRp M K)) (hn : As.length = n) (hst : As.reverse ++ zrf E q :: st = stk) (hc : (st.map fun v => v.category).sum ≤ 8) (d : decode cc pc = .ok (.invokevirtual index, 3)) (kk : ∀ r : Int32, K r → G M (pc + 3) L (.int r :: st)) : G M pc L stk := zr_callV h hq hw hlev hM hn hst hc d (fun M' v hr => by obtain ⟨rfl, r, rfl, hr⟩ := hr; exact kk r hr)
theorem zr_callVm (h : zRu ly E G Ret cc own nL rt lev) {q ci : Nat} {fl : List (Option Nat)} (hq : ly[q]? = some (.inr (ci, fl))) (hw : zCV own index ci y bytes maxL ret n) (hlev : lev' < lev) {K : ZMem × Int32 → Prop} (hM : zCon ly E y bytes maxL ret lev' (zrf E q :: As) M (zRm K)) (hn : As.length = n) (hst : As.reverse ++ zrf E q :: st = stk) (hc : (st.map fun v => v.category).sum ≤ 8) (d : decode cc pc = .ok (.invokevirtual index, 3)) (kk : ∀ r : ZMem × Int32, K r → G r.1 (pc + 3) L (.int r.2 :: st)) : G M pc L stk := zr_callV h hq hw hlev hM hn hst hc d (fun M' v hr => by obtain ⟨r, rfl, hr⟩ := hr; exact kk (M', r) hr)
theorem zr_callVv (h : zRu ly E G Ret cc own nL rt lev) {q ci : Nat} {fl : List (Option Nat)} (hq : ly[q]? = some (.inr (ci, fl))) (hw : zCV own index ci y bytes maxL ret n) (hlev : lev' < lev) {K : ZMem → Prop} (hM : zCon ly E y bytes maxL ret lev' (zrf E q :: As) M (zRv K)) (hn : As.length = n) (hst : As.reverse ++ zrf E q :: st = stk) (hc : (st.map fun v => v.category).sum ≤ 8) (d : decode cc pc = .ok (.invokevirtual index, 3)) (kk : ∀ M1 : ZMem, K M1 → G M1 (pc + 3) L st) : G M pc L stk := zr_callV h hq hw hlev hM hn hst hc d (fun M' v hr => by obtain ⟨rfl, hr⟩ := hr; exact kk M' hr)
theorem zr_callVu (h : zRu ly E G Ret cc own nL rt lev) {q ci : Nat} {fl : List (Option Nat)} (hq : ly[q]? = some (.inr (ci, fl))) (hw : zCV own index ci y bytes maxL ret n) (hlev : lev' < lev) {K : Unit → Prop} (hM : zCon ly E y bytes maxL ret lev' (zrf E q :: As) M (zRw M K)) (hn : As.length = n) (hst : As.reverse ++ zrf E q :: st = stk) (hc : (st.map fun v => v.category).sum ≤ 8) (d : decode cc pc = .ok (.invokevirtual index, 3)) (kk : ∀ z : Unit, K z → G M (pc + 3) L st) : G M pc L stk := zr_callV h hq hw hlev hM hn hst hc d (fun M' v hr => by obtain ⟨rfl, rfl, hr⟩ := hr; exact kk () hr)
theorem zr_callSp (h : zRu ly E G Ret cc own nL rt lev) (hw : zCS own index y bytes maxL ret n) (hlev : lev' < lev) {K : Int32 → Prop} (hM : zCon ly E y bytes maxL ret lev' As M (zRp M K)) (hn : As.length = n) (hst : As.reverse ++ st = stk) (hc : (st.map fun v => v.category).sum ≤ 8) (d : decode cc pc = .ok (.invokestatic index, 3)) (kk : ∀ r : Int32, K r → G M (pc + 3) L (.int r :: st)) : G M pc L stk := zr_callS h hw hlev hM hn hst hc d (fun M' v hr => by obtain ⟨rfl, r, rfl, hr⟩ := hr; exact kk r hr)
theorem zr_callSm (h : zRu ly E G Ret cc own nL rt lev) (hw : zCS own index y bytes maxL ret n) (hlev : lev' < lev) {K : ZMem × Int32 → Prop} (hM : zCon ly E y bytes maxL ret lev' As M (zRm K)) (hn : As.length = n) (hst : As.reverse ++ st = stk) (hc : (st.map fun v => v.category).sum ≤ 8) (d : decode cc pc = .ok (.invokestatic index, 3)) (kk : ∀ r : ZMem × Int32, K r → G r.1 (pc + 3) L (.int r.2 :: st)) : G M pc L stk := zr_callS h hw hlev hM hn hst hc d (fun M' v hr => by obtain ⟨r, rfl, hr⟩ := hr; exact kk (M', r) hr)
theorem zr_callSv (h : zRu ly E G Ret cc own nL rt lev) (hw : zCS own index y bytes maxL ret n) (hlev : lev' < lev) {K : ZMem → Prop} (hM : zCon ly E y bytes maxL ret lev' As M (zRv K)) (hn : As.length = n) (hst : As.reverse ++ st = stk) (hc : (st.map fun v => v.category).sum ≤ 8) (d : decode cc pc = .ok (.invokestatic index, 3)) (kk : ∀ M1 : ZMem, K M1 → G M1 (pc + 3) L st) : G M pc L stk := zr_callS h hw hlev hM hn hst hc d (fun M' v hr => by obtain ⟨rfl, hr⟩ := hr; exact kk M' hr)
theorem zr_callSu (h : zRu ly E G Ret cc own nL rt lev) (hw : zCS own index y bytes maxL ret n) (hlev : lev' < lev) {K : Unit → Prop} (hM : zCon ly E y bytes maxL ret lev' As M (zRw M K)) (hn : As.length = n) (hst : As.reverse ++ st = stk) (hc : (st.map fun v => v.category).sum ≤ 8) (d : decode cc pc = .ok (.invokestatic index, 3)) (kk : ∀ z : Unit, K z → G M (pc + 3) L st) : G M pc L stk := zr_callS h hw hlev hM hn hst hc d (fun M' v hr => by obtain ⟨rfl, rfl, hr⟩ := hr; exact kk () hr)
theorem zr_callNp (h : zRu ly E G Ret cc own nL rt lev) (hw : zCN own index y bytes maxL ret n) (hlev : lev' < lev) {K : Int32 → Prop} (hM : zCon ly E y bytes maxL ret lev' As M (zRp M K)) (hn : As.length = n) (hst : As.reverse ++ st = stk) (hc : (st.map fun v => v.category).sum ≤ 8) (d : decode cc pc = .ok (.invokestatic index, 3)) (kk : ∀ r : Int32, K r → G M (pc + 3) L (.int r :: st)) : G M pc L stk := zr_callN h hw hlev hM hn hst hc d (fun M' v hr => by obtain ⟨rfl, r, rfl, hr⟩ := hr; exact kk r hr)
theorem zr_callNm (h : zRu ly E G Ret cc own nL rt lev) (hw : zCN own index y bytes maxL ret n) (hlev : lev' < lev) {K : ZMem × Int32 → Prop} (hM : zCon ly E y bytes maxL ret lev' As M (zRm K)) (hn : As.length = n) (hst : As.reverse ++ st = stk) (hc : (st.map fun v => v.category).sum ≤ 8) (d : decode cc pc = .ok (.invokestatic index, 3)) (kk : ∀ r : ZMem × Int32, K r → G r.1 (pc + 3) L (.int r.2 :: st)) : G M pc L stk := zr_callN h hw hlev hM hn hst hc d (fun M' v hr => by obtain ⟨r, rfl, hr⟩ := hr; exact kk (M', r) hr)
theorem zr_callNv (h : zRu ly E G Ret cc own nL rt lev) (hw : zCN own index y bytes maxL ret n) (hlev : lev' < lev) {K : ZMem → Prop} (hM : zCon ly E y bytes maxL ret lev' As M (zRv K)) (hn : As.length = n) (hst : As.reverse ++ st = stk) (hc : (st.map fun v => v.category).sum ≤ 8) (d : decode cc pc = .ok (.invokestatic index, 3)) (kk : ∀ M1 : ZMem, K M1 → G M1 (pc + 3) L st) : G M pc L stk := zr_callN h hw hlev hM hn hst hc d (fun M' v hr => by obtain ⟨rfl, hr⟩ := hr; exact kk M' hr)
theorem zr_callNu (h : zRu ly E G Ret cc own nL rt lev) (hw : zCN own index y bytes maxL ret n) (hlev : lev' < lev) {K : Unit → Prop} (hM : zCon ly E y bytes maxL ret lev' As M (zRw M K)) (hn : As.length = n) (hst : As.reverse ++ st = stk) (hc : (st.map fun v => v.category).sum ≤ 8) (d : decode cc pc = .ok (.invokestatic index, 3)) (kk : ∀ z : Unit, K z → G M (pc + 3) L st) : G M pc L stk := zr_callN h hw hlev hM hn hst hc d (fun M' v hr => by obtain ⟨rfl, rfl, hr⟩ := hr; exact kk () hr)
def zcp (sp dp n : Int32) (n0 n1 : Nat) : Bool := decide (0 ≤ sp) && decide (0 ≤ dp) && decide (0 ≤ n) && decide (zix sp + zix n ≤ n0) && decide (zix dp + zix n ≤ n1)
theorem zcp_of {sp dp n : Int32} {n0 n1 : Nat} (h : zcp sp dp n n0 n1 = true) : ¬ sp < 0 ∧ ¬ dp < 0 ∧ ¬ n < 0 ∧ zix sp + zix n ≤ n0 ∧ zix dp + zix n ≤ n1 := by
  unfold zcp at h
  simp only [Bool.and_eq_true, decide_eq_true_eq] at h
  exact ⟨Int32.not_lt.mpr h.1.1.1.1, Int32.not_lt.mpr h.1.1.1.2, Int32.not_lt.mpr h.1.1.2, h.1.2, h.2⟩
def zAC (own : String) (index : Nat) : Prop := ∀ w ∈ [Cond.methodLink own index arraycopyName, .native arraycopyName, .static arraycopyName, .initialized "java/lang/System"], w ∈ wsL_law
theorem znfw : nativeFrameWords "java/lang/System" "arraycopy" 5 ≤ 20 := by decide +kernel
theorem zr_copyi (h : zRu ly E G Ret cc own nL rt lev) (hw : zAC own index) {q0 q1 n0 n1 : Nat} {sp dp n : Int32} (hq0 : ly[q0]? = some (.inl (0, n0))) (hq1 : ly[q1]? = some (.inl (0, n1))) (hcp : zcp sp dp n n0 n1 = true) (hc : (st.map fun v => v.category).sum ≤ 8) (d : decode cc pc = .ok (.invokestatic index, 3)) (kk : G (zstF M q1 (va_cpy (M.1 q0) (M.1 q1) (zix sp) (zix dp) (zix n))) (pc + 3) L st) : G M pc L (.int n :: .int dp :: zrf E q1 :: .int sp :: zrf E q0 :: st) := by
  obtain ⟨p, e, s, m, args, below, meth, c, rfl, hx, hb, hml, hown, hts, hK, hI, hN, hr, hlk⟩ := h
  intro H locs ls hP hS hL
  have e1 : (zrm lev).locals = 48 * lev + 48 := rfl
  have e2 : (zrm lev).frames = lev + 1 := rfl
  have e3 := znfw
  obtain ⟨h1, h2, h3, h4, h5⟩ := zcp_of hcp
  refine va_copyi hx hb (hml.trans hL.1.symm) hown (hts _ (hw _ (by simp))) (hts _ (hw _ (by simp))) (hts _ (hw _ (by simp))) (hts _ (hw _ (by simp))) hK hP (zD hI M) hS q0 q1 0 0 (zcls_get hq0) (zcls_get hq1) rfl rfl rfl h1 h2 h3 h4 h5 (fun _ _ => rfl) (by rw [e2]; omega) (by rw [e1]; omega) d (fun H1 locs1 hP1 _ hS1 => kk H1 locs1 ls ?_ hS1 hL)
  rw [← zcls_set (E := E) (M := M) (M' := zstF M q1 (va_cpy (M.1 q0) (M.1 q1) (zix sp) (zix dp) (zix n))) hq1 (fun a ha => by simp [zstF, ha]) (fun a ha => rfl) (by simp [zrnE, zstF]; rfl)]
  exact hP1
theorem zr_copyl (h : zRu ly E G Ret cc own nL rt lev) (hw : zAC own index) {q0 q1 n0 n1 : Nat} {sp dp n : Int32} (hq0 : ly[q0]? = some (.inl (3, n0))) (hq1 : ly[q1]? = some (.inl (3, n1))) (hcp : zcp sp dp n n0 n1 = true) (hc : (st.map fun v => v.category).sum ≤ 8) (d : decode cc pc = .ok (.invokestatic index, 3)) (kk : G (zstG M q1 (va_cpy (M.2 q0) (M.2 q1) (zix sp) (zix dp) (zix n))) (pc + 3) L st) : G M pc L (.int n :: .int dp :: zrf E q1 :: .int sp :: zrf E q0 :: st) := by
  obtain ⟨p, e, s, m, args, below, meth, c, rfl, hx, hb, hml, hown, hts, hK, hI, hN, hr, hlk⟩ := h
  intro H locs ls hP hS hL
  have e1 : (zrm lev).locals = 48 * lev + 48 := rfl
  have e2 : (zrm lev).frames = lev + 1 := rfl
  have e3 := znfw
  obtain ⟨h1, h2, h3, h4, h5⟩ := zcp_of hcp
  refine va_copyl hx hb (hml.trans hL.1.symm) hown (hts _ (hw _ (by simp))) (hts _ (hw _ (by simp))) (hts _ (hw _ (by simp))) (hts _ (hw _ (by simp))) hK hP (zD hI M) hS q0 q1 3 3 (zcls_get hq0) (zcls_get hq1) rfl rfl rfl h1 h2 h3 h4 h5 (fun _ _ => rfl) (by rw [e2]; omega) (by rw [e1]; omega) d (fun H1 locs1 hP1 _ hS1 => kk H1 locs1 ls ?_ hS1 hL)
  rw [← zcls_set (E := E) (M := M) (M' := zstG M q1 (va_cpy (M.2 q0) (M.2 q1) (zix sp) (zix dp) (zix n))) hq1 (fun a ha => rfl) (fun a ha => by simp [zstG, ha]) (by simp [zrnE, zstG]; rfl)]
  exact hP1
end ZCALLS2
def zne (y : Int32) : Bool := decide (¬ y = 0)
theorem zne_of {y : Int32} (h : zne y = true) : ¬ y = 0 := of_decide_eq_true h
theorem zInt_ne {x k : Int32} (h : ¬ x = k) : x.toInt ≠ k.toInt := fun e => h (Int32.toInt_inj.mp e)
section ZTEXT
variable {ly : List ZEnt} {E : ZEv} {G : ZG} {Ret : ZR} {cc : ByteArray} {own : String} {nL : Nat} {rt : Option FieldType} {lev : Nat} {M : ZMem} {pc : Nat} {L : List (Nat × Value)} {st stk : List Value}
theorem zr_ldcS_RX4_31 (h : zRu ly E G Ret cc RX4 nL rt lev) (d : decode cc pc = .ok (.ldc 31, 2)) (k : G M (pc + 2) L (zrf E 1000 :: st)) : G M pc L st := by
  obtain ⟨p, e, s, m, args, below, meth, c, rfl, hx, hb, hml, hown, hts, hK, hI, hN, hr, hlk⟩ := h
  intro H locs ls hP hS hL
  obtain ⟨h0, h1, h2, h3, h4, h5, h6, h7⟩ := hN
  exact va_ldcS hx hb hown h2 d (k H locs ls hP hS hL)
theorem zr_ldcS_RX4_41 (h : zRu ly E G Ret cc RX4 nL rt lev) (d : decode cc pc = .ok (.ldc 41, 2)) (k : G M (pc + 2) L (zrf E 1001 :: st)) : G M pc L st := by
  obtain ⟨p, e, s, m, args, below, meth, c, rfl, hx, hb, hml, hown, hts, hK, hI, hN, hr, hlk⟩ := h
  intro H locs ls hP hS hL
  obtain ⟨h0, h1, h2, h3, h4, h5, h6, h7⟩ := hN
  exact va_ldcS hx hb hown h3 d (k H locs ls hP hS hL)
theorem zr_ldcS_RX12_197 (h : zRu ly E G Ret cc RX12 nL rt lev) (d : decode cc pc = .ok (.ldc 197, 2)) (k : G M (pc + 2) L (zrf E 1000 :: st)) : G M pc L st := by
  obtain ⟨p, e, s, m, args, below, meth, c, rfl, hx, hb, hml, hown, hts, hK, hI, hN, hr, hlk⟩ := h
  intro H locs ls hP hS hL
  obtain ⟨h0, h1, h2, h3, h4, h5, h6, h7⟩ := hN
  exact va_ldcS hx hb hown h4 d (k H locs ls hP hS hL)
theorem zr_ldcS_RX12_206 (h : zRu ly E G Ret cc RX12 nL rt lev) (d : decode cc pc = .ok (.ldc 206, 2)) (k : G M (pc + 2) L (zrf E 1001 :: st)) : G M pc L st := by
  obtain ⟨p, e, s, m, args, below, meth, c, rfl, hx, hb, hml, hown, hts, hK, hI, hN, hr, hlk⟩ := h
  intro H locs ls hP hS hL
  obtain ⟨h0, h1, h2, h3, h4, h5, h6, h7⟩ := hN
  exact va_ldcS hx hb hown h5 d (k H locs ls hP hS hL)
theorem zr_tval (h : zRu ly E G Ret cc own nL rt lev) {index w : Nat} (hw : w < 2) (hl : Cond.fieldLink own index "java/lang/String" "value" "[B" ∈ wsL_law) (d : decode cc pc = .ok (.getfield index, 3)) (k : G M (pc + 3) L (zrf E (1002 + w) :: st)) : G M pc L (zrf E (1000 + w) :: st) := by
  obtain ⟨p, e, s, m, args, below, meth, c, rfl, hx, hb, hml, hown, hts, hK, hI, hN, hr, hlk⟩ := h
  intro H locs ls hP hS hL
  obtain ⟨h0, h1, -⟩ := hN
  exact vk_getf hx hb (h1.1 w hw).2.2.1 hS hown (hts _ hl) (fun _ z => z) d (k H locs ls hP hS hL)
theorem zr_tcod (h : zRu ly E G Ret cc own nL rt lev) {index w : Nat} (hw : w < 2) (hl : Cond.fieldLink own index "java/lang/String" "coder" "B" ∈ wsL_law) (d : decode cc pc = .ok (.getfield index, 3)) (k : G M (pc + 3) L (.int (zI 0) :: st)) : G M pc L (zrf E (1000 + w) :: st) := by
  obtain ⟨p, e, s, m, args, below, meth, c, rfl, hx, hb, hml, hown, hts, hK, hI, hN, hr, hlk⟩ := h
  intro H locs ls hP hS hL
  obtain ⟨h0, h1, -⟩ := hN
  exact vk_getf hx hb (h1.1 w hw).2.1 hS hown (hts _ hl) (fun _ z => z) d (k H locs ls hP hS hL)
theorem zr_tlen (h : zRu ly E G Ret cc own nL rt lev) {w : Nat} (hw : w < 2) (d : decode cc pc = .ok (.arraylength, 1)) (k : G M (pc + 1) L (.int (zI (zLen.getD w 0)) :: st)) : G M pc L (zrf E (1002 + w) :: st) := by
  obtain ⟨p, e, s, m, args, below, meth, c, rfl, hx, hb, hml, hown, hts, hK, hI, hN, hr, hlk⟩ := h
  intro H locs ls hP hS hL
  obtain ⟨h0, h1, -⟩ := hN
  exact va_tlen hx hb (h1.1 w hw).2.2.2 hS (Int32.ofInt_eq_ofNat).symm d (k H locs ls hP hS hL)
theorem zr_tb (h : zRu ly E G Ret cc own nL rt lev) {w : Nat} {i : Int32} (hw : w < 2) (hi : zin i (zLen.getD w 0) = true) (d : decode cc pc = .ok (.baload, 1)) (k : G M (pc + 1) L (.int ((zByt.getD w []).getD (zix i) 0) :: st)) : G M pc L (.int i :: zrf E (1002 + w) :: st) := by
  obtain ⟨p, e, s, m, args, below, meth, c, rfl, hx, hb, hml, hown, hts, hK, hI, hN, hr, hlk⟩ := h
  intro H locs ls hP hS hL
  obtain ⟨h0, h1, -⟩ := hN
  exact va_tb hx hb (h1.1 w hw).2.2.2 hS (zin_in hi) rfl d (k H locs ls hP hS hL)
theorem zr_compact (h : zRu ly E G Ret cc own nL rt lev) {index : Nat} (hl : Cond.fieldLink own index "java/lang/String" "COMPACT_STRINGS" "Z" ∈ wsL_law) (d : decode cc pc = .ok (.getstatic index, 3)) (k : G M (pc + 3) L (.int (zI 1) :: st)) : G M pc L st := by
  obtain ⟨p, e, s, m, args, below, meth, c, rfl, hx, hb, hml, hown, hts, hK, hI, hN, hr, hlk⟩ := h
  intro H locs ls hP hS hL
  obtain ⟨h0, h1, h2, h3, h4, h5, h6, h7⟩ := hN
  exact va_gets hx hb h6 hS hown (hts _ hl) (fun _ z => z) d (k H locs ls hP hS hL)
theorem zr_fmt (h : zRu ly E G Ret cc own nL rt lev) {index : Nat} (hl : Cond.fieldLink own index "jdk/internal/util/Preconditions" "SIOOBE_FORMATTER" "Ljava/util/function/BiFunction;" ∈ wsL_law) (d : decode cc pc = .ok (.getstatic index, 3)) (k : G M (pc + 3) L (zfm E :: st)) : G M pc L st := by
  obtain ⟨p, e, s, m, args, below, meth, c, rfl, hx, hb, hml, hown, hts, hK, hI, hN, hr, hlk⟩ := h
  intro H locs ls hP hS hL
  obtain ⟨h0, h1, h2, h3, h4, h5, h6, h7⟩ := hN
  exact va_gets hx hb h7 hS hown (hts _ hl) (fun _ z => z) d (k H locs ls hP hS hL)
theorem zr_nret {ty : FieldType} (h : zRu ly E G Ret cc own nL (some ty) lev) {v : Int32} (d : decode cc pc = .ok (.ireturn, 1)) (hv : narrow ty (.int v) = .int v) (hret : Ret M (some (.int v))) : G M pc L [.int v] := by
  obtain ⟨p, e, s, m, args, below, meth, c, rfl, hx, hb, hml, hown, hts, hK, hI, hN, hr, hlk⟩ := h
  intro H locs ls hP hS hL
  exact W.zret hx hb hr hv (fun t ht _ => ⟨M, _, rfl, hret, by rw [ht]; exact hP, hS.F ht⟩) (fun q hq => hS.2.2 q hq) d hlk
theorem zr_callT (h : zRu ly E G Ret cc own nL rt lev) {index n maxL lev' w : Nat} {y : MethodName} {bytes : ByteArray} {ret : Option FieldType} {As : List Value} {K : Int32 → Prop} (hw2 : w < 2) (hws : ∀ w ∈ [Cond.methodLink own index y, .instanceMethod y, .selects "java/lang/String" y y, .initialized "java/lang/String", .code y bytes maxL ret], w ∈ wsL_law) (hd : y.cls = "java/lang/String" ∧ y.cls ≠ "java/lang/invoke/MethodHandle" ∧ y.cls ≠ "java/lang/invoke/VarHandle" ∧ (parseMethodDescriptor y.desc).map (fun d => d.parameters.length) = some n) (hmx : maxL ≤ 29) (hlev : lev' < lev) (hM : zCon ly E y bytes maxL ret lev' (zrf E (1000 + w) :: As) M (zRp M K)) (hn : As.length = n) (hst : As.reverse ++ zrf E (1000 + w) :: st = stk) (hc : (st.map fun v => v.category).sum ≤ 8) (d : decode cc pc = .ok (.invokevirtual index, 3)) (kk : ∀ r : Int32, K r → G M (pc + 3) L (.int r :: st)) : G M pc L stk := by
  subst hst
  obtain ⟨p, e, s, m, args, below, meth, c, rfl, hx, hb, hml, hown, hts, hK, hI, hN, hr, hlk⟩ := h
  intro H locs ls hP hS hL
  have hT : GoodIn wsL_law (wsV own index "java/lang/String" y (Cond.code y bytes maxL ret :: wsL_law)) := zGood_of (fun w hw => by
    unfold wsV at hw
    rcases List.mem_append.mp hw with h1 | h1
    · exact hws w (by simp only [List.mem_cons, List.not_mem_nil, or_false] at h1 ⊢; rcases h1 with h1 | h1 | h1 | h1 <;> simp [h1])
    · rcases List.mem_cons.mp h1 with h1 | h1
      · exact hws w (by simp [h1])
      · exact h1)
  exact zrun_W (va_runV (As := As) (rest := st) (C := "java/lang/String") (b := E.2.2.1 (1000 + w)) ⟨hx, hb, hml, hown, hts⟩ hM (cwV n hts hT rfl rfl rfl hd (zroom hlev hmx)) ⟨zblind, vk_recv (adK := fun i => E.2.2.1 (1000 + i)) (i := w) hN.2.1 hw2 hS, fun U hU hW => ⟨rfl, by rw [hU]; exact hP, va_K.moved hW.alike hK, hI, zNW_step hW (by rw [hU]; exact hS) hN⟩⟩ rfl hn hL.1 rfl (lv_room hc) d ⟨Nat.zero_le _, Nat.zero_le _⟩) hS (fun _ z => z) (fun M' v t H1 locs1 _ _ h1 h2 _ _ h3 => by
    obtain ⟨rfl, r, rfl, hr⟩ := h1
    exact kk r hr H1 locs1 ls h2 h3 hL)
end ZTEXT
