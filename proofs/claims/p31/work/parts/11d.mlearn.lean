theorem getD_mem {pth : List (Nat × Nat)} {i : Nat} (hi : i < pth.length) : pth.getD i (0, 0) ∈ pth := by
  rw [List.getD_eq_getElem?_getD, List.getElem?_eq_getElem hi]
  exact List.getElem_mem hi
