/-! Stands and places go on alike. -/
theorem plc_itr {z : Row} (hz : OkZ z) (tm bl : Nat) {s : Nat} (h : OkS z s) : ∀ i, itr (fun p => pas z tm p bl) (plc s) i = plc (itr (fun s => nxt z tm s bl) s i) ∧ OkS z (itr (fun s => nxt z tm s bl) s i)
  | 0 => ⟨rfl, h⟩
  | i + 1 => by
    have ih := plc_itr hz tm bl h i
    refine ⟨?_, nxt_ok hz tm ih.2 bl⟩
    show pas z tm (itr (fun p => pas z tm p bl) (plc s) i) bl = _
    rw [ih.1, pas_plc hz tm _ bl (ih.2.lt hz).2.2 ih.2.2]
    rfl
theorem plc_inj {s s' : Nat} (h1 : s / 5 < 512) (h2 : s' / 5 < 512) (h : plc s = plc s') : s = s' := by
  unfold plc at h; omega
theorem plc_wall {s : Nat} (h : s / 5 < 512) : plc s % 512 = s / 5 := by unfold plc; omega
theorem plc_who {s : Nat} (h : s / 5 < 512) : plc s / 512 = s % 5 := by unfold plc; omega
/-- the first place that comes again: one n and one t only -/
theorem round_uniq {g : Nat → Nat} {n t n' t' : Nat} (h1 : t < n) (h2 : g n = g t) (h3 : ∀ i, i < n → ∀ j, j < n → g i = g j → i = j) (k1 : t' < n') (k2 : g n' = g t') (k3 : ∀ i, i < n' → ∀ j, j < n' → g i = g j → i = j) : n' = n ∧ t' = t := by
  have hn : n' = n := by
    rcases Nat.lt_trichotomy n' n with q | q | q
    · have := h3 n' q t' (by omega) k2; omega
    · exact q
    · have := k3 n q t (by omega) h2; omega
  subst hn
  exact ⟨rfl, h3 t' k1 t h1 (k2.symm.trans h2)⟩
