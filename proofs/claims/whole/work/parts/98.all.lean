/-! ===== all calls; the fresh memories ===== -/
theorem treeC_0 {fr : Nat → Nat} {C : ZMem} (h : C.1 3 10 = zI 0) : treeC 0 fr 10400 C := by
  have e : zfil (zted 0 fr) 10400 = [] := by
    rw [zfil_ext (Nat.zero_le 10400) (fun x _ _ hh => absurd hh.1.2.1 (Nat.not_lt_zero _))]
    exact zfil_0 _
  refine ⟨by rw [e]; exact h, fun k hk => ?_⟩
  rw [e] at hk
  exact absurd hk (Nat.not_lt_zero k)
theorem zh0_24 {k : Nat} (h : 24 ≤ k) : zh0 k = 0 := by
  unfold zh0
  rw [if_neg (by omega), if_neg (by omega), if_neg (by omega), if_neg (by omega)]
theorem zh0_4 {f : Nat} (h : f < 20) : zh0 (4 + f) = -1 := by
  unfold zh0
  rw [if_neg (by omega), if_neg (by omega), if_neg (by omega), if_pos (by omega)]
abbrev zT0 : ZT := ([], (0, fun _ => 0), zs0, (0, fun _ => 0, fun _ => 0), (0, fun _ => zh0), 0)
theorem okT_z : okT zT0 := ⟨⟨Nat.zero_le 300, fun i hi => absurd hi (Nat.not_lt_zero i)⟩, Nat.zero_le 20, okS_0 0, ⟨Nat.zero_le 4, fun n hn => absurd hn (Nat.not_lt_zero n)⟩, Nat.zero_le 20, fun _ _ => okH_0 0, (by decide : 0 < 2147483648)⟩
theorem relC_z {MH : ZMem} (h : zKH MH) : relC zT0 (zM0C MH) := by
  obtain ⟨h0, h1, h2, h3, h4, h5, h6, h7, _⟩ := h
  have c20 : ∀ k, (zM0C MH).1 20 k = MH.1 0 k := fun _ => rfl
  have c21 : ∀ k, (zM0C MH).1 21 k = MH.1 1 k := fun _ => rfl
  have c22 : ∀ k, (zM0C MH).1 22 k = MH.1 2 k := fun _ => rfl
  have c26 : ∀ k, (zM0C MH).1 26 k = MH.1 6 k := fun _ => rfl
  have o13 : (zM0C MH).1 0 13 = zI 1 := rfl
  refine ⟨⟨rfl, fun i hi => absurd hi (Nat.not_lt_zero i)⟩, ⟨⟨Nat.zero_le 20, rfl, fun k hk => absurd hk (Nat.not_lt_zero k), fun i hi => absurd hi (Nat.not_lt_zero i), fun i j hi => absurd hi (Nat.not_lt_zero i)⟩, stonesC_0 rfl, ⟨?_, ?_, ?_, fun k hk => ?_⟩, ⟨?_, fun k hk => ?_, fun f hf => ?_, ?_⟩, ⟨rfl, fun n hn => absurd hn (Nat.not_lt_zero n)⟩, rfl, rfl⟩, treeC_0 rfl, ⟨?_, fun p hp => absurd hp (Nat.not_lt_zero p)⟩, rfl, ⟨Or.inr o13, Or.inl rfl, Or.inl rfl⟩, fun hh => absurd (o13.symm.trans hh) (by decide), fun hh => absurd (o13.symm.trans hh) (by decide), fun hh => absurd (o13.symm.trans hh) (by decide)⟩
  · rw [c21, h0]; rfl
  · rw [c21, h1]; rfl
  · rw [c21, h2]; rfl
  · show (zM0C MH).1 22 k = zI (zh0 (24 + k))
    rw [c22, h3 k hk, zh0_24 (by omega)]; rfl
  · rw [c20, h5]; rfl
  · have hk' : (k : Int) < 0 := hk
    omega
  · show (zM0C MH).1 26 f = zI (zh0 (4 + f))
    rw [c26, h4 f hf, zh0_4 hf]; rfl
  · show (zM0C MH).1 20 10 = zI (zguess zh0)
    rw [c20, h6, zguess_0]; rfl
  · rw [c20, h7]; rfl
theorem relR_z {R : ZMem} (h : zKR R) : relR zT0 R := by
  obtain ⟨_, h0, g0, g1, g2, g3, g4, g5⟩ := h
  have z : ∀ k, R.1 0 k = zI 0 := fun k => (h0 k).trans rfl
  refine ⟨⟨z 1, fun i hi => absurd hi (Nat.not_lt_zero i)⟩, ⟨Nat.zero_le 20, z 4, fun k hk => absurd hk (Nat.not_lt_zero k), fun k hk => absurd hk (Nat.not_lt_zero k)⟩, stonesR_0 (z 8), ⟨z 12, fun n hn => absurd hn (Nat.not_lt_zero n)⟩, fun k hk => ?_, ⟨z 17, fun p k hp => absurd hp (Nat.not_lt_zero p)⟩, z 41, Or.inl (z 45), fun hh => absurd ((z 45).symm.trans hh) (by decide)⟩
  show R.1 9 k = zI (zh0 k)
  by_cases c0 : k = 0
  · rw [c0, g0]; rfl
  · by_cases c1 : k = 1
    · rw [c1, g1]; rfl
    · by_cases c2 : k = 2
      · rw [c2, g2]; rfl
      · by_cases c3 : k = 3
        · rw [c3, g3]; rfl
        · by_cases c4 : k < 24
          · have := g4 (k - 4) (by omega)
            rw [show 4 + (k - 4) = k by omega] at this
            have e := zh0_4 (f := k - 4) (by omega)
            rw [show 4 + (k - 4) = k by omega] at e
            rw [this, e]; rfl
          · rw [g5 k (by omega) hk, zh0_24 (by omega)]; rfl
theorem zall : ∃ Rel : ZMem → ZMem → Prop, zPairs Rel ∧ ∀ MH M2 : ZMem, zKH MH → zKR M2 → Rel (zM0C MH) M2 := by
  refine ⟨zRel, ⟨zp_feed, zp_end, zp_forms, zp_stone, zp_name, zp_unlike, zp_sign, zp_size, zp_tree, zp_loose, zp_alike, zp_apart, zp_way, zp_judged, zp_read, zp_comes, zp_next, zp_rise, zp_words, zp_word, zp_rank, zp_stands, zp_ahead, zp_stem, zp_clue, zp_clues, zp_place, zp_clash, zp_clashes, zp_guess, zp_known, zp_fits, zp_hits, zp_ways, zp_draws, zp_test, zp_undo, zp_count⟩, fun MH M2 h1 h2 => ⟨zT0, okT_z, relC_z h1, relR_z h2⟩⟩
