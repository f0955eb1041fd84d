theorem zall : ∃ Rel : ZMem → ZMem → Prop, zPairs Rel ∧ ∀ MH M2 : ZMem, zKH MH → zKR M2 → Rel (zM0C MH) M2 := by
  sorry
