/-! the law: both stand alike -/
def Inv (h : gH) : Prop := ∃ S, AX h S ∧ BM h S ∧ WI S ∧ h 64 8 = 0
theorem case_go {α : Type} {fx fm : gH → Option (α × gH)} {sv : qW → α} {sS : qW → qW} (hX : ∀ h S, AX h S → WI S → h 64 8 = 0 → Sp (fx h) (fun p => p.1 = sv S ∧ AX p.2 (sS S) ∧ p.2 64 8 = 0)) (hM : ∀ h S, BM h S → WI S → Sp (fm h) (fun p => p.1 = sv S ∧ BM p.2 (sS S))) (hW : ∀ S, WI S → WI (sS S)) (fX : ∀ h p, fx h = some p → ∀ b, 65 ≤ b → p.2 b = h b) (fM : ∀ h p, fm h = some p → ∀ b, b < 65 → p.2 b = h b) {h : gH} (I : Inv h) : ∃ p q, fx h = some p ∧ fm p.2 = some q ∧ q.1 = p.1 ∧ Inv q.2 := by
  obtain ⟨S, a, b, w, z⟩ := I
  obtain ⟨p, e1, x1, x2, x3⟩ := hX h S a w z
  obtain ⟨q, e2, y1, y2⟩ := hM p.2 S (BM_x b (fX h p e1)) w
  exact ⟨p, q, e1, e2, y1.trans x1.symm, sS S, AX_m x2 (fM _ _ e2), y2, hW S w, by rw [fM _ _ e2 64 (by decide)]; exact x3⟩
theorem Sp8 {α : Type} {fx : Option (α × gH)} {Q : α × gH → Prop} {h : gH} (H : Sp fx Q) (f : ∀ p, fx = some p → p.2 64 8 = h 64 8) (z : h 64 8 = 0) : Sp fx (fun p => Q p ∧ p.2 64 8 = 0) := by
  obtain ⟨p, e, q⟩ := H
  exact ⟨p, e, q, (f p e).trans z⟩
theorem go_feed (v1 : Int32) {h : gH} (I : Inv h) : ∃ p q, fX_feed v1 h = some p ∧ fM_feed v1 p.2 = some q ∧ q.1 = p.1 ∧ Inv q.2 :=
  case_go (fx := fX_feed v1) (fm := fM_feed v1) (sv := fun S => (s_feed S v1).1) (sS := fun S => (s_feed S v1).2)
    (fun h S H W z => Sp_mono (Sp8 (h := h) (Q := fun p => p.1 = (fun S => (s_feed S v1).1) S ∧ AX p.2 ((fun S => (s_feed S v1).2) S)) (X_feed H W v1) (fun p e => fX_feed_fr e 64 8 (by simp) (by simp)) z) (fun p q => ⟨q.1.1, q.1.2, q.2⟩))
    (fun h S H W => M_feed H W v1) (fun S w => W_feed w v1) (fun h p e b hb => funext fun k => fX_feed_fr e b k (by first | (simp; done) | (simp; omega)) (by first | (simp; done) | (simp; omega))) (fun h p e b hb => funext fun k => fM_feed_fr e b k (by first | (simp; done) | (simp; omega)) (by first | (simp; done) | (simp; omega))) I
theorem go_rule {h : gH} (I : Inv h) : ∃ p q, fX_rule h = some p ∧ fM_rule p.2 = some q ∧ q.1 = p.1 ∧ Inv q.2 := by
  obtain ⟨S, a, b, w, z⟩ := I
  obtain ⟨p, e1, -, -⟩ := X_rule a w (fun _ _ _ => true)
  have fX : ∀ b, 65 ≤ b → p.2 b = h b := fun c hc => funext fun k => fX_rule_fr e1 c k (by simp; omega) (by simp; omega)
  obtain ⟨q, e2, Ts, y1, y2⟩ := M_rule (BM_x b fX) w
  have fM : ∀ b, b < 65 → q.2 b = p.2 b := fun c hc => funext fun k => fM_rule_fr e2 c k (by simp; omega) (by simp; omega)
  obtain ⟨p', e3, x1, x2⟩ := X_rule a w Ts
  rw [e1] at e3
  cases e3
  refine ⟨p, q, e1, e2, y1.trans x1.symm, (s_rule S Ts).2, AX_m x2 fM, y2, W_rule w, ?_⟩
  rw [fM 64 (by decide), fX_rule_fr e1 64 8 (by simp) (by simp)]
  exact z
theorem go_told (v1 v2 : Int32) {h : gH} (I : Inv h) : ∃ p q, fX_told v1 v2 h = some p ∧ fM_told v1 v2 p.2 = some q ∧ q.1 = p.1 ∧ Inv q.2 :=
  case_go (fx := fX_told v1 v2) (fm := fM_told v1 v2) (sv := fun S => s_told S v1 v2) (sS := fun S => S)
    (fun h S H W z => Sp_mono (Sp8 (h := h) (Q := fun p => p.1 = (fun S => s_told S v1 v2) S ∧ AX p.2 ((fun S => S) S)) (X_told H W v1 v2) (fun p e => fX_told_fr e 64 8 (by simp) (by simp)) z) (fun p q => ⟨q.1.1, q.1.2, q.2⟩))
    (fun h S H W => M_told H W v1 v2) (fun S w => w) (fun h p e b hb => funext fun k => fX_told_fr e b k (by first | (simp; done) | (simp; omega)) (by first | (simp; done) | (simp; omega))) (fun h p e b hb => funext fun k => fM_told_fr e b k (by first | (simp; done) | (simp; omega)) (by first | (simp; done) | (simp; omega))) I
theorem go_holds (v1 v2 v3 v4 : Int32) {h : gH} (I : Inv h) : ∃ p q, fX_holds v1 v2 v3 v4 h = some p ∧ fM_holds v1 v2 v3 v4 p.2 = some q ∧ q.1 = p.1 ∧ Inv q.2 :=
  case_go (fx := fX_holds v1 v2 v3 v4) (fm := fM_holds v1 v2 v3 v4) (sv := fun S => s_holds S v1 v2 v3 v4) (sS := fun S => S)
    (fun h S H W z => Sp_mono (Sp8 (h := h) (Q := fun p => p.1 = (fun S => s_holds S v1 v2 v3 v4) S ∧ AX p.2 ((fun S => S) S)) (⟨_, X_holds H W v1 v2 v3 v4, rfl, H⟩) (fun p e => fX_holds_fr e 64 8 (by simp) (by simp)) z) (fun p q => ⟨q.1.1, q.1.2, q.2⟩))
    (fun h S H W => ⟨_, M_holds H W v1 v2 v3 v4, rfl, H⟩) (fun S w => w) (fun h p e b hb => funext fun k => fX_holds_fr e b k (by first | (simp; done) | (simp; omega)) (by first | (simp; done) | (simp; omega))) (fun h p e b hb => funext fun k => fM_holds_fr e b k (by first | (simp; done) | (simp; omega)) (by first | (simp; done) | (simp; omega))) I
theorem go_taken (v1 v2 : Int32) {h : gH} (I : Inv h) : ∃ p q, fX_taken v1 v2 h = some p ∧ fM_taken v1 v2 p.2 = some q ∧ q.1 = p.1 ∧ Inv q.2 :=
  case_go (fx := fX_taken v1 v2) (fm := fM_taken v1 v2) (sv := fun S => s_taken S v1 v2) (sS := fun S => S)
    (fun h S H W z => Sp_mono (Sp8 (h := h) (Q := fun p => p.1 = (fun S => s_taken S v1 v2) S ∧ AX p.2 ((fun S => S) S)) (⟨_, X_taken H W v1 v2, rfl, H⟩) (fun p e => fX_taken_fr e 64 8 (by simp) (by simp)) z) (fun p q => ⟨q.1.1, q.1.2, q.2⟩))
    (fun h S H W => ⟨_, M_taken H W v1 v2, rfl, H⟩) (fun S w => w) (fun h p e b hb => funext fun k => fX_taken_fr e b k (by first | (simp; done) | (simp; omega)) (by first | (simp; done) | (simp; omega))) (fun h p e b hb => funext fun k => fM_taken_fr e b k (by first | (simp; done) | (simp; omega)) (by first | (simp; done) | (simp; omega))) I
theorem go_tell (v1 v2 : Int32) {h : gH} (I : Inv h) : ∃ p q, fX_tell v1 v2 h = some p ∧ fM_tell v1 v2 p.2 = some q ∧ q.1 = p.1 ∧ Inv q.2 :=
  case_go (fx := fX_tell v1 v2) (fm := fM_tell v1 v2) (sv := fun S => (s_tell S v1 v2).1) (sS := fun S => (s_tell S v1 v2).2)
    (fun h S H W z => Sp_mono (Sp8 (h := h) (Q := fun p => p.1 = (fun S => (s_tell S v1 v2).1) S ∧ AX p.2 ((fun S => (s_tell S v1 v2).2) S)) (X_tell H W v1 v2) (fun p e => fX_tell_fr e 64 8 (by simp) (by simp)) z) (fun p q => ⟨q.1.1, q.1.2, q.2⟩))
    (fun h S H W => M_tell H W v1 v2) (fun S w => W_tell w v1 v2) (fun h p e b hb => funext fun k => fX_tell_fr e b k (by first | (simp; done) | (simp; omega)) (by first | (simp; done) | (simp; omega))) (fun h p e b hb => funext fun k => fM_tell_fr e b k (by first | (simp; done) | (simp; omega)) (by first | (simp; done) | (simp; omega))) I
theorem go_step {h : gH} (I : Inv h) : ∃ p q, fX_step h = some p ∧ fM_step p.2 = some q ∧ q.1 = p.1 ∧ Inv q.2 :=
  case_go (fx := fX_step) (fm := fM_step) (sv := fun S => (s_step S).1) (sS := fun S => (s_step S).2)
    (fun h S H W z => Sp_mono (Sp8 (h := h) (Q := fun p => p.1 = (fun S => (s_step S).1) S ∧ AX p.2 ((fun S => (s_step S).2) S)) (X_step H W) (fun p e => fX_step_fr e 64 8 (by simp) (by simp)) z) (fun p q => ⟨q.1.1, q.1.2, q.2⟩))
    (fun h S H W => M_step H W) (fun S w => W_step w) (fun h p e b hb => funext fun k => fX_step_fr e b k (by first | (simp; done) | (simp; omega)) (by first | (simp; done) | (simp; omega))) (fun h p e b hb => funext fun k => fM_step_fr e b k (by first | (simp; done) | (simp; omega)) (by first | (simp; done) | (simp; omega))) I
theorem go_run {h : gH} (I : Inv h) : ∃ p q, fX_run h = some p ∧ fM_run p.2 = some q ∧ q.1 = p.1 ∧ Inv q.2 :=
  case_go (fx := fX_run) (fm := fM_run) (sv := fun S => (s_run S).1) (sS := fun S => (s_run S).2)
    (fun h S H W z => Sp_mono (Sp8 (h := h) (Q := fun p => p.1 = (fun S => (s_run S).1) S ∧ AX p.2 ((fun S => (s_run S).2) S)) (X_run H W) (fun p e => fX_run_fr e 64 8 (by simp) (by simp)) z) (fun p q => ⟨q.1.1, q.1.2, q.2⟩))
    (fun h S H W => M_run H W) (fun S w => W_run w) (fun h p e b hb => funext fun k => fX_run_fr e b k (by first | (simp; done) | (simp; omega)) (by first | (simp; done) | (simp; omega))) (fun h p e b hb => funext fun k => fM_run_fr e b k (by first | (simp; done) | (simp; omega)) (by first | (simp; done) | (simp; omega))) I
theorem go_level {h : gH} (I : Inv h) : ∃ p q, fX_level h = some p ∧ fM_level p.2 = some q ∧ q.1 = p.1 ∧ Inv q.2 :=
  case_go (fx := fX_level) (fm := fM_level) (sv := fun S => (s_level S).1) (sS := fun S => (s_level S).2)
    (fun h S H W z => Sp_mono (Sp8 (h := h) (Q := fun p => p.1 = (fun S => (s_level S).1) S ∧ AX p.2 ((fun S => (s_level S).2) S)) (X_level H W) (fun p e => fX_level_fr e 64 8 (by simp) (by simp)) z) (fun p q => ⟨q.1.1, q.1.2, q.2⟩))
    (fun h S H W => M_level H W) (fun S w => W_level w) (fun h p e b hb => funext fun k => fX_level_fr e b k (by first | (simp; done) | (simp; omega)) (by first | (simp; done) | (simp; omega))) (fun h p e b hb => funext fun k => fM_level_fr e b k (by first | (simp; done) | (simp; omega)) (by first | (simp; done) | (simp; omega))) I
theorem go_undo {h : gH} (I : Inv h) : ∃ p q, fX_undo h = some p ∧ fM_undo p.2 = some q ∧ q.1 = p.1 ∧ Inv q.2 :=
  case_go (fx := fX_undo) (fm := fM_undo) (sv := fun S => (s_undo S).1) (sS := fun S => (s_undo S).2)
    (fun h S H W z => Sp_mono (Sp8 (h := h) (Q := fun p => p.1 = (fun S => (s_undo S).1) S ∧ AX p.2 ((fun S => (s_undo S).2) S)) (X_undo H W) (fun p e => fX_undo_fr e 64 8 (by simp) (by simp)) z) (fun p q => ⟨q.1.1, q.1.2, q.2⟩))
    (fun h S H W => M_undo H W) (fun S w => W_undo w) (fun h p e b hb => funext fun k => fX_undo_fr e b k (by first | (simp; done) | (simp; omega)) (by first | (simp; done) | (simp; omega))) (fun h p e b hb => funext fun k => fM_undo_fr e b k (by first | (simp; done) | (simp; omega)) (by first | (simp; done) | (simp; omega))) I
theorem go_domain (v1 : Int32) {h : gH} (I : Inv h) : ∃ p q, fX_domain v1 h = some p ∧ fM_domain v1 p.2 = some q ∧ q.1 = p.1 ∧ Inv q.2 :=
  case_go (fx := fX_domain v1) (fm := fM_domain v1) (sv := fun S => s_domain S v1) (sS := fun S => S)
    (fun h S H W z => Sp_mono (Sp8 (h := h) (Q := fun p => p.1 = (fun S => s_domain S v1) S ∧ AX p.2 ((fun S => S) S)) (⟨_, X_domain H v1, rfl, H⟩) (fun p e => fX_domain_fr e 64 8 (by simp) (by simp)) z) (fun p q => ⟨q.1.1, q.1.2, q.2⟩))
    (fun h S H W => ⟨_, M_domain H v1, rfl, H⟩) (fun S w => w) (fun h p e b hb => funext fun k => fX_domain_fr e b k (by first | (simp; done) | (simp; omega)) (by first | (simp; done) | (simp; omega))) (fun h p e b hb => funext fun k => fM_domain_fr e b k (by first | (simp; done) | (simp; omega)) (by first | (simp; done) | (simp; omega))) I
theorem go_trail (v1 v2 : Int32) {h : gH} (I : Inv h) : ∃ p q, fX_trail v1 v2 h = some p ∧ fM_trail v1 v2 p.2 = some q ∧ q.1 = p.1 ∧ Inv q.2 :=
  case_go (fx := fX_trail v1 v2) (fm := fM_trail v1 v2) (sv := fun S => s_trail S v1 v2) (sS := fun S => S)
    (fun h S H W z => Sp_mono (Sp8 (h := h) (Q := fun p => p.1 = (fun S => s_trail S v1 v2) S ∧ AX p.2 ((fun S => S) S)) (⟨_, X_trail H W v1 v2, rfl, H⟩) (fun p e => fX_trail_fr e 64 8 (by simp) (by simp)) z) (fun p q => ⟨q.1.1, q.1.2, q.2⟩))
    (fun h S H W => ⟨_, M_trail H W v1 v2, rfl, H⟩) (fun S w => w) (fun h p e b hb => funext fun k => fX_trail_fr e b k (by first | (simp; done) | (simp; omega)) (by first | (simp; done) | (simp; omega))) (fun h p e b hb => funext fun k => fM_trail_fr e b k (by first | (simp; done) | (simp; omega)) (by first | (simp; done) | (simp; omega))) I
theorem go_decision (v1 v2 : Int32) {h : gH} (I : Inv h) : ∃ p q, fX_decision v1 v2 h = some p ∧ fM_decision v1 v2 p.2 = some q ∧ q.1 = p.1 ∧ Inv q.2 :=
  case_go (fx := fX_decision v1 v2) (fm := fM_decision v1 v2) (sv := fun S => s_decision S v1 v2) (sS := fun S => S)
    (fun h S H W z => Sp_mono (Sp8 (h := h) (Q := fun p => p.1 = (fun S => s_decision S v1 v2) S ∧ AX p.2 ((fun S => S) S)) (⟨_, X_decision H v1 v2, rfl, H⟩) (fun p e => fX_decision_fr e 64 8 (by simp) (by simp)) z) (fun p q => ⟨q.1.1, q.1.2, q.2⟩))
    (fun h S H W => ⟨_, M_decision H v1 v2, rfl, H⟩) (fun S w => w) (fun h p e b hb => funext fun k => fX_decision_fr e b k (by first | (simp; done) | (simp; omega)) (by first | (simp; done) | (simp; omega))) (fun h p e b hb => funext fun k => fM_decision_fr e b k (by first | (simp; done) | (simp; omega)) (by first | (simp; done) | (simp; omega))) I
theorem go_why (v1 v2 : Int32) {h : gH} (I : Inv h) : ∃ p q, fX_why v1 v2 h = some p ∧ fM_why v1 v2 p.2 = some q ∧ q.1 = p.1 ∧ Inv q.2 :=
  case_go (fx := fX_why v1 v2) (fm := fM_why v1 v2) (sv := fun S => s_why S v1 v2) (sS := fun S => S)
    (fun h S H W z => Sp_mono (Sp8 (h := h) (Q := fun p => p.1 = (fun S => s_why S v1 v2) S ∧ AX p.2 ((fun S => S) S)) (X_why H W v1 v2) (fun p e => fX_why_fr e 64 8 (by simp) (by simp)) z) (fun p q => ⟨q.1.1, q.1.2, q.2⟩))
    (fun h S H W => M_why H W v1 v2) (fun S w => w) (fun h p e b hb => funext fun k => fX_why_fr e b k (by first | (simp; done) | (simp; omega)) (by first | (simp; done) | (simp; omega))) (fun h p e b hb => funext fun k => fM_why_fr e b k (by first | (simp; done) | (simp; omega)) (by first | (simp; done) | (simp; omega))) I
theorem go_mixed (v1 v2 : Int32) {h : gH} (I : Inv h) : ∃ p q, fX_mixed v1 v2 h = some p ∧ fM_mixed v1 v2 p.2 = some q ∧ q.1 = p.1 ∧ Inv q.2 :=
  case_go (fx := fX_mixed v1 v2) (fm := fM_mixed v1 v2) (sv := fun S => s_mixed S v2) (sS := fun S => S)
    (fun h S H W z => Sp_mono (Sp8 (h := h) (Q := fun p => p.1 = (fun S => s_mixed S v2) S ∧ AX p.2 ((fun S => S) S)) (X_mixed H W v1 v2) (fun p e => fX_mixed_fr e 64 8 (by simp) (by simp)) z) (fun p q => ⟨q.1.1, q.1.2, q.2⟩))
    (fun h S H W => M_mixed H W v1 v2) (fun S w => w) (fun h p e b hb => funext fun k => fX_mixed_fr e b k (by first | (simp; done) | (simp; omega)) (by first | (simp; done) | (simp; omega))) (fun h p e b hb => funext fun k => fM_mixed_fr e b k (by first | (simp; done) | (simp; omega)) (by first | (simp; done) | (simp; omega))) I
theorem go_search (v1 v2 v3 v4 : Int32) {h : gH} (I : Inv h) : ∃ p q, fX_search v1 v2 v3 v4 h = some p ∧ fM_search v1 v2 v3 v4 p.2 = some q ∧ q.1 = p.1 ∧ Inv q.2 :=
  case_go (fx := fX_search v1 v2 v3 v4) (fm := fM_search v1 v2 v3 v4) (sv := fun S => s_search S v1 v2 v3 v4) (sS := fun S => S)
    (fun h S H W z => Sp_mono (Sp8 (h := h) (Q := fun p => p.1 = (fun S => s_search S v1 v2 v3 v4) S ∧ AX p.2 ((fun S => S) S)) (X_search H W v1 v2 v3 v4) (fun p e => fX_search_fr e 64 8 (by simp) (by simp)) z) (fun p q => ⟨q.1.1, q.1.2, q.2⟩))
    (fun h S H W => M_search H W v1 v2 v3 v4) (fun S w => w) (fun h p e b hb => funext fun k => fX_search_fr e b k (by first | (simp; done) | (simp; omega)) (by first | (simp; done) | (simp; omega))) (fun h p e b hb => funext fun k => fM_search_fr e b k (by first | (simp; done) | (simp; omega)) (by first | (simp; done) | (simp; omega))) I
theorem go_solutions {h : gH} (I : Inv h) : ∃ p q, fX_solutions h = some p ∧ fM_solutions p.2 = some q ∧ q.1 = p.1 ∧ Inv q.2 :=
  case_go (fx := fX_solutions) (fm := fM_solutions) (sv := fun S => s_solutions S) (sS := fun S => S)
    (fun h S H W z => Sp_mono (Sp8 (h := h) (Q := fun p => p.1 = (fun S => s_solutions S) S ∧ AX p.2 ((fun S => S) S)) (X_solutions H W) (fun p e => fX_solutions_fr e 64 8 (by simp) (by simp)) z) (fun p q => ⟨q.1.1, q.1.2, q.2⟩))
    (fun h S H W => M_solutions H W) (fun S w => w) (fun h p e b hb => funext fun k => fX_solutions_fr e b k (by first | (simp; done) | (simp; omega)) (by first | (simp; done) | (simp; omega))) (fun h p e b hb => funext fun k => fM_solutions_fr e b k (by first | (simp; done) | (simp; omega)) (by first | (simp; done) | (simp; omega))) I
theorem go_reach (v1 v2 : Int32) {h : gH} (I : Inv h) : ∃ p q, fX_reach v1 v2 h = some p ∧ fM_reach v1 v2 p.2 = some q ∧ q.1 = p.1 ∧ Inv q.2 :=
  case_go (fx := fX_reach v1 v2) (fm := fM_reach v1 v2) (sv := fun S => s_reach S v1 v2) (sS := fun S => S)
    (fun h S H W z => Sp_mono (Sp8 (h := h) (Q := fun p => p.1 = (fun S => s_reach S v1 v2) S ∧ AX p.2 ((fun S => S) S)) (X_reach H W v1 v2) (fun p e => fX_reach_fr e 64 8 (by simp) (by simp)) z) (fun p q => ⟨q.1.1, q.1.2, q.2⟩))
    (fun h S H W => M_reach H W v1 v2) (fun S w => w) (fun h p e b hb => funext fun k => fX_reach_fr e b k (by first | (simp; done) | (simp; omega)) (by first | (simp; done) | (simp; omega))) (fun h p e b hb => funext fun k => fM_reach_fr e b k (by first | (simp; done) | (simp; omega)) (by first | (simp; done) | (simp; omega))) I
theorem go_tells (v1 v2 : Int32) {h : gH} (I : Inv h) : ∃ p q, fX_tells v1 v2 h = some p ∧ fM_tells v1 v2 p.2 = some q ∧ q.1 = p.1 ∧ Inv q.2 :=
  case_go (fx := fX_tells v1 v2) (fm := fM_tells v1 v2) (sv := fun S => s_tells S v1 v2) (sS := fun S => S)
    (fun h S H W z => X_tells H W z v1 v2)
    (fun h S H W => M_tells H W v1 v2) (fun S w => w) (fun h p e b hb => funext fun k => fX_tells_fr e b k (by first | (simp; done) | (simp; omega)) (by first | (simp; done) | (simp; omega))) (fun h p e b hb => funext fun k => fM_tells_fr e b k (by first | (simp; done) | (simp; omega)) (by first | (simp; done) | (simp; omega))) I
theorem go_film (v1 v2 v3 : Int32) {h : gH} (I : Inv h) : ∃ p q, fX_film v1 v2 v3 h = some p ∧ fM_film v1 v2 v3 p.2 = some q ∧ q.1 = p.1 ∧ Inv q.2 :=
  case_go (fx := fX_film v1 v2 v3) (fm := fM_film v1 v2 v3) (sv := fun S => (s_film S v1 v2 v3).1) (sS := fun S => (s_film S v1 v2 v3).2)
    (fun h S H W z => Sp_mono (Sp8 (h := h) (Q := fun p => p.1 = (fun S => (s_film S v1 v2 v3).1) S ∧ AX p.2 ((fun S => (s_film S v1 v2 v3).2) S)) (X_film H W v1 v2 v3) (fun p e => fX_film_fr e 64 8 (by simp) (by simp)) z) (fun p q => ⟨q.1.1, q.1.2, q.2⟩))
    (fun h S H W => M_film H W v1 v2 v3) (fun S w => W_film w v1 v2 v3) (fun h p e b hb => funext fun k => fX_film_fr e b k (by first | (simp; done) | (simp; omega)) (by first | (simp; done) | (simp; omega))) (fun h p e b hb => funext fun k => fM_film_fr e b k (by first | (simp; done) | (simp; omega)) (by first | (simp; done) | (simp; omega))) I
theorem go_image {h : gH} (I : Inv h) : ∃ p q, fX_image h = some p ∧ fM_image p.2 = some q ∧ q.1 = p.1 ∧ Inv q.2 :=
  case_go (fx := fX_image) (fm := fM_image) (sv := fun S => (s_image S).1) (sS := fun S => (s_image S).2)
    (fun h S H W z => Sp_mono (Sp8 (h := h) (Q := fun p => p.1 = (fun S => (s_image S).1) S ∧ AX p.2 ((fun S => (s_image S).2) S)) (X_image H W) (fun p e => fX_image_fr e 64 8 (by simp) (by simp)) z) (fun p q => ⟨q.1.1, q.1.2, q.2⟩))
    (fun h S H W => M_image H W) (fun S w => W_image w) (fun h p e b hb => funext fun k => fX_image_fr e b k (by first | (simp; done) | (simp; omega)) (by first | (simp; done) | (simp; omega))) (fun h p e b hb => funext fun k => fM_image_fr e b k (by first | (simp; done) | (simp; omega)) (by first | (simp; done) | (simp; omega))) I
theorem go_back {h : gH} (I : Inv h) : ∃ p q, fX_back h = some p ∧ fM_back p.2 = some q ∧ q.1 = p.1 ∧ Inv q.2 :=
  case_go (fx := fX_back) (fm := fM_back) (sv := fun S => (s_back S).1) (sS := fun S => (s_back S).2)
    (fun h S H W z => Sp_mono (Sp8 (h := h) (Q := fun p => p.1 = (fun S => (s_back S).1) S ∧ AX p.2 ((fun S => (s_back S).2) S)) (X_back H W) (fun p e => fX_back_fr e 64 8 (by simp) (by simp)) z) (fun p q => ⟨q.1.1, q.1.2, q.2⟩))
    (fun h S H W => M_back H W) (fun S w => W_back w) (fun h p e b hb => funext fun k => fX_back_fr e b k (by first | (simp; done) | (simp; omega)) (by first | (simp; done) | (simp; omega))) (fun h p e b hb => funext fun k => fM_back_fr e b k (by first | (simp; done) | (simp; omega)) (by first | (simp; done) | (simp; omega))) I
theorem go_count (v1 : Int32) {h : gH} (I : Inv h) : ∃ p q, fX_count v1 h = some p ∧ fM_count v1 p.2 = some q ∧ q.1 = p.1 ∧ Inv q.2 :=
  case_go (fx := fX_count v1) (fm := fM_count v1) (sv := fun S => s_count S v1) (sS := fun S => S)
    (fun h S H W z => Sp_mono (Sp8 (h := h) (Q := fun p => p.1 = (fun S => s_count S v1) S ∧ AX p.2 ((fun S => S) S)) (⟨_, X_count H W v1, rfl, H⟩) (fun p e => fX_count_fr e 64 8 (by simp) (by simp)) z) (fun p q => ⟨q.1.1, q.1.2, q.2⟩))
    (fun h S H W => ⟨_, M_count H W v1, rfl, H⟩) (fun S w => w) (fun h p e b hb => funext fun k => fX_count_fr e b k (by first | (simp; done) | (simp; omega)) (by first | (simp; done) | (simp; omega))) (fun h p e b hb => funext fun k => fM_count_fr e b k (by first | (simp; done) | (simp; omega)) (by first | (simp; done) | (simp; omega))) I
theorem go_sheet (v1 v2 v3 : Int32) {h : gH} (I : Inv h) : ∃ p q, fX_sheet v1 v2 v3 h = some p ∧ fM_sheet v1 v2 v3 p.2 = some q ∧ q.1 = p.1 ∧ Inv q.2 :=
  case_go (fx := fX_sheet v1 v2 v3) (fm := fM_sheet v1 v2 v3) (sv := fun S => (s_sheet S v1 v2 v3).1) (sS := fun S => (s_sheet S v1 v2 v3).2)
    (fun h S H W z => Sp_mono (Sp8 (h := h) (Q := fun p => p.1 = (fun S => (s_sheet S v1 v2 v3).1) S ∧ AX p.2 ((fun S => (s_sheet S v1 v2 v3).2) S)) (X_sheet H W v1 v2 v3) (fun p e => fX_sheet_fr e 64 8 (by simp) (by simp)) z) (fun p q => ⟨q.1.1, q.1.2, q.2⟩))
    (fun h S H W => M_sheet H W v1 v2 v3) (fun S w => W_sheet w v1 v2 v3) (fun h p e b hb => funext fun k => fX_sheet_fr e b k (by first | (simp; done) | (simp; omega)) (by first | (simp; done) | (simp; omega))) (fun h p e b hb => funext fun k => fM_sheet_fr e b k (by first | (simp; done) | (simp; omega)) (by first | (simp; done) | (simp; omega))) I
theorem go_put (v1 v2 v3 : Int32) {h : gH} (I : Inv h) : ∃ p q, fX_put v1 v2 v3 h = some p ∧ fM_put v1 v2 v3 p.2 = some q ∧ q.1 = p.1 ∧ Inv q.2 :=
  case_go (fx := fX_put v1 v2 v3) (fm := fM_put v1 v2 v3) (sv := fun S => (s_put S v1 v2 v3).1) (sS := fun S => (s_put S v1 v2 v3).2)
    (fun h S H W z => Sp_mono (Sp8 (h := h) (Q := fun p => p.1 = (fun S => (s_put S v1 v2 v3).1) S ∧ AX p.2 ((fun S => (s_put S v1 v2 v3).2) S)) (X_put H W v1 v2 v3) (fun p e => fX_put_fr e 64 8 (by simp) (by simp)) z) (fun p q => ⟨q.1.1, q.1.2, q.2⟩))
    (fun h S H W => M_put H W v1 v2 v3) (fun S w => W_put w v1 v2 v3) (fun h p e b hb => funext fun k => fX_put_fr e b k (by first | (simp; done) | (simp; omega)) (by first | (simp; done) | (simp; omega))) (fun h p e b hb => funext fun k => fM_put_fr e b k (by first | (simp; done) | (simp; omega)) (by first | (simp; done) | (simp; omega))) I
theorem go_item (v1 v2 : Int32) {h : gH} (I : Inv h) : ∃ p q, fX_item v1 v2 h = some p ∧ fM_item v1 v2 p.2 = some q ∧ q.1 = p.1 ∧ Inv q.2 :=
  case_go (fx := fX_item v1 v2) (fm := fM_item v1 v2) (sv := fun S => s_item S v1 v2) (sS := fun S => S)
    (fun h S H W z => Sp_mono (Sp8 (h := h) (Q := fun p => p.1 = (fun S => s_item S v1 v2) S ∧ AX p.2 ((fun S => S) S)) (⟨_, X_item H W v1 v2, rfl, H⟩) (fun p e => fX_item_fr e 64 8 (by simp) (by simp)) z) (fun p q => ⟨q.1.1, q.1.2, q.2⟩))
    (fun h S H W => ⟨_, M_item H W v1 v2, rfl, H⟩) (fun S w => w) (fun h p e b hb => funext fun k => fX_item_fr e b k (by first | (simp; done) | (simp; omega)) (by first | (simp; done) | (simp; omega))) (fun h p e b hb => funext fun k => fM_item_fr e b k (by first | (simp; done) | (simp; omega)) (by first | (simp; done) | (simp; omega))) I
theorem go_copy (v1 v2 v3 v4 v5 : Int32) {h : gH} (I : Inv h) : ∃ p q, fX_copy v1 v2 v3 v4 v5 h = some p ∧ fM_copy v1 v2 v3 v4 v5 p.2 = some q ∧ q.1 = p.1 ∧ Inv q.2 :=
  case_go (fx := fX_copy v1 v2 v3 v4 v5) (fm := fM_copy v1 v2 v3 v4 v5) (sv := fun S => (s_copy S v1 v2 v3 v4 v5).1) (sS := fun S => (s_copy S v1 v2 v3 v4 v5).2)
    (fun h S H W z => Sp_mono (Sp8 (h := h) (Q := fun p => p.1 = (fun S => (s_copy S v1 v2 v3 v4 v5).1) S ∧ AX p.2 ((fun S => (s_copy S v1 v2 v3 v4 v5).2) S)) (X_copy H W v1 v2 v3 v4 v5) (fun p e => fX_copy_fr e 64 8 (by simp) (by simp)) z) (fun p q => ⟨q.1.1, q.1.2, q.2⟩))
    (fun h S H W => M_copy H W v1 v2 v3 v4 v5) (fun S w => W_copy w v1 v2 v3 v4 v5) (fun h p e b hb => funext fun k => fX_copy_fr e b k (by first | (simp; done) | (simp; omega)) (by first | (simp; done) | (simp; omega))) (fun h p e b hb => funext fun k => fM_copy_fr e b k (by first | (simp; done) | (simp; omega)) (by first | (simp; done) | (simp; omega))) I
theorem go_load (v1 v2 v3 v4 : Int32) {h : gH} (I : Inv h) : ∃ p q, fX_load v1 v2 v3 v4 h = some p ∧ fM_load v1 v2 v3 v4 p.2 = some q ∧ q.1 = p.1 ∧ Inv q.2 :=
  case_go (fx := fX_load v1 v2 v3 v4) (fm := fM_load v1 v2 v3 v4) (sv := fun S => (s_load S v1 v2 v3 v4).1) (sS := fun S => (s_load S v1 v2 v3 v4).2)
    (fun h S H W z => Sp_mono (Sp8 (h := h) (Q := fun p => p.1 = (fun S => (s_load S v1 v2 v3 v4).1) S ∧ AX p.2 ((fun S => (s_load S v1 v2 v3 v4).2) S)) (X_load H W v1 v2 v3 v4) (fun p e => fX_load_fr e 64 8 (by simp) (by simp)) z) (fun p q => ⟨q.1.1, q.1.2, q.2⟩))
    (fun h S H W => M_load H W v1 v2 v3 v4) (fun S w => W_load w v1 v2 v3 v4) (fun h p e b hb => funext fun k => fX_load_fr e b k (by first | (simp; done) | (simp; omega)) (by first | (simp; done) | (simp; omega))) (fun h p e b hb => funext fun k => fM_load_fr e b k (by first | (simp; done) | (simp; omega)) (by first | (simp; done) | (simp; omega))) I
