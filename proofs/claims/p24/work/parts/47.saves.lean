/-! ===== to save, to take back ===== -/
theorem snoc_of {l : List SG} (h : l ≠ []) : ∃ a x, l = a ++ [x] := ⟨l.dropLast, l.getLast h, (List.dropLast_concat_getLast h).symm⟩
