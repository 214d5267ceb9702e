/-! reference: sixteens -/
theorem six_I : ∀ l, l < 5 → (1 : Int32) <<< ((4 * nI l) &&& 31) = nI (16 ^ l) := by decide +kernel
theorem sp_sixteens {Q : Int32 → mg_H → Prop} {h : mg_H} {l : Nat} (hl : l ≤ 4) (q : Q (nI (16 ^ l)) h) : wp_sixteens Q (nI l) h := by
  unfold wp_sixteens
  rw [six_I l (by omega)]; exact q
