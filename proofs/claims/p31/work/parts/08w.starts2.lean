/-- what a thought thinks: from the start, with these decisions, these tries, without a rule -/
def qth (E : qE) (b : Option Nat) (dec : Nat → Nat × Int32) (mk : Nat → Bool) (d : Nat) (tr : Nat → Nat × Nat) (mk2 : Nat → Bool) : qP :=
  qiter (Ebt E b) 2024 (qwake (Ebt E b) (qdcs (Ebt E b) (fun i => ((tr i).1, 1 <<< (nI (tr i).2 &&& 31))) mk2 (fun _ => nI 100) 0 16 (qdcs (Ebt E b) dec mk (fun i => nI (100 + i)) 0 d qP0)))
theorem qdcs_s (E : qE) (dec : Nat → Nat × Int32) (mk : Nat → Bool) (rsf : Nat → Int32) (k m : Nat) (P : qP) : qdcs E dec mk rsf k (m + 1) P = if P.2.2.1 then P else qdcs E dec mk rsf (k + 1) m (if mk k then qnw E (dec k).1 (dec k).2 (rsf k) P else P) := rfl
