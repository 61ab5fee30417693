/-! THE REFERENCE: how far it is. -/
def sm (g : Nat → Nat) : Nat → Nat
  | 0 => 0
  | n + 1 => sm g n + g n
theorem sm_congr {g h : Nat → Nat} : ∀ n, (∀ k, k < n → g k = h k) → sm g n = sm h n
  | 0, _ => rfl
  | n + 1, hk => by rw [sm, sm, sm_congr n (fun k h => hk k (by omega)), hk n (by omega)]
theorem sm_upd {g : Nat → Nat} {a v : Nat} : ∀ n, a < n → v < g a → sm (upn g a v) n < sm g n
  | 0, h, _ => absurd h (Nat.not_lt_zero a)
  | n + 1, h, hv => by
    rw [sm, sm]
    by_cases e : a = n
    · subst e
      rw [upn_eq, sm_congr (h := g) a (fun k hk => upn_lt hk)]
      omega
    · have := sm_upd n (by omega) hv
      have e2 : upn g a v n = g n := if_neg (fun q => e q.symm)
      rw [e2]
      omega
def FAR : Nat := 268435456
def soB (wl : Int) (s : Nat) : Bool := if wl = -1 then decide (s % 5 = 4) else decide (((s / 5 : Nat) : Int) = wl)
theorem c_Mo_isSought (d : Nat) {M : Mem} {wl : Int} {s : Nat} (h : gI M 197 28 = iI wl) (h1 : -1 ≤ wl) (h2 : wl ≤ 511) (hs : s < 2560) : c2 (d + 2) m_Mo_isSought [.ref 197, .int (iI s)] M = some (.int (iI (b2i (soB wl s))), M) := by
  show X2 (d + 1) m_Mo_isSought 0 [.ref 197, .int (iI s)] [] M = _
  rw [e_Mo_isSought_0, h, soB]
  by_cases q : wl = -1
  · rw [if_pos (by rw [q]), if_pos q, c_Mo_isGone _ _ (by omega), bI_some, f_b2i]
  · rw [if_neg (by rw [iI_eq (by omega) (by omega) (by omega) (by omega)]; exact q), if_neg q, show iI 5 = iI ((5 : Nat) : Int) from rfl, iI_div (by omega) (by decide)]
    by_cases e : ((s / 5 : Nat) : Int) = wl
    · rw [if_pos (by rw [e]), decide_eq_true e]; rfl
    · rw [if_neg (by rw [iI_eq (by omega) (by omega) (by omega) (by omega)]; exact e), decide_eq_false e]; rfl
theorem thn_lt {z : Row} (hz : OkZ z) (tm bl : Nat) {s : Nat} (h : s < 5 * 2 ^ nz z) : thn z tm s bl < 5 * 2 ^ nz z := by
  rw [thn]
  split
  · rename_i q
    exact ((nxt_ok hz tm (show OkS z s from ⟨by omega, q⟩) bl).lt hz).1
  · exact h
/-- the least of what is behind, and one night -/
def lb (f : Nat → Nat → Nat) (F : Nat → Nat) (s : Nat) : Nat := if F (f s 0) < F (f s 1) then (if F (f s 0) = FAR then FAR else F (f s 0) + 1) else (if F (f s 1) = FAR then FAR else F (f s 1) + 1)
def FarM (M : Mem) (F : Nat → Nat) : Prop := ∀ s, s < 2560 → gI M 208 s = iI (F s)
theorem two_mul_iI (s : Nat) : iI 2 * iI s = iI ((2 * s : Nat) : Int) := by rw [iI_mul]; rfl
theorem two_mul_iI1 (s : Nat) : iI ((2 * s : Nat) : Int) + iI 1 = iI ((2 * s + 1 : Nat) : Int) := by rw [iI_add]; rfl
theorem c_Mo_leastBy (d : Nat) {M : Mem} {z : Row} {tm s : Nat} {F : Nat → Nat} (hz : OkZ z) (hT : ThenM M z tm (5 * 2 ^ nz z)) (hF : FarM M F) (hb : ∀ s, F s ≤ FAR) (hs : s < 5 * 2 ^ nz z) :
    c2 (d + 1) m_Mo_leastBy [.ref 197, .int (iI s)] M = some (.int (iI (lb (thn z tm) F s)), M) := by
  have h9 := nz_le hz
  have hp := pow9 h9
  have t0 := thn_lt hz tm 0 hs
  have t1 := thn_lt hz tm 1 hs
  have b0 := hb (thn z tm s 0)
  have b1 := hb (thn z tm s 1)
  show X2 d m_Mo_leastBy 0 [.ref 197, .int (iI s), uns, uns, uns] [] M = _
  unfold FAR at b0 b1
  rw [e_Mo_leastBy_0, two_mul_iI, two_mul_iI1, inb_ok (by omega) (by omega) (by omega), gb_T, ix_nat (by omega), show gI M 207 (2 * s) = iI (thn z tm s 0) from hT s hs 0 (by decide), inb_ok (by omega) (by omega) (by omega), gb_T, inb_ok (by omega) (by omega) (by omega), gb_T, ix_nat (n := 2 * s + 1) (by omega), hT s hs 1 (by decide), inb_ok (by omega) (by omega) (by omega), gb_T, ix_nat (by omega), ix_nat (by omega), hF _ (by omega), hF _ (by omega), lb, iI_add, iI_add]
  unfold FAR
  by_cases q : F (thn z tm s 0) < F (thn z tm s 1)
  · rw [if_pos (by rw [iI_lt (by omega) (by omega) (by omega) (by omega)]; omega), if_pos q]
    by_cases e : F (thn z tm s 0) = 268435456
    · rw [if_pos (by rw [e]; rfl), if_pos e]; rfl
    · rw [if_neg (by rw [iI_eq (by omega) (by omega) (by omega) (by omega)]; omega), if_neg e]; rfl
  · rw [if_neg (by rw [iI_lt (by omega) (by omega) (by omega) (by omega)]; omega), if_neg q]
    by_cases e : F (thn z tm s 1) = 268435456
    · rw [if_pos (by rw [e]; rfl), if_pos e]; rfl
    · rw [if_neg (by rw [iI_eq (by omega) (by omega) (by omega) (by omega)]; omega), if_neg e]; rfl
/-- what is laid is so: a way of that length -/
def FarS (f : Nat → Nat → Nat) (wl : Int) (F : Nat → Nat) : Prop := (∀ s, F s ≤ FAR) ∧ (∀ s, s < 2560 → soB wl s = true → F s = 0) ∧ (∀ s, F s < FAR → ∃ t, soB wl t = true ∧ Rm f (F s) s t)
theorem lb_lt {f : Nat → Nat → Nat} {F : Nat → Nat} {s : Nat} (hb : ∀ s, F s ≤ FAR) (h : lb f F s < FAR) : ∃ b, b < 2 ∧ lb f F s = F (f s b) + 1 ∧ F (f s b) < FAR := by
  unfold lb at *
  have b0 := hb (f s 0)
  have b1 := hb (f s 1)
  split at h
  · rename_i q
    rw [if_pos q]
    split at h
    · exact absurd h (Nat.lt_irrefl _)
    · rename_i e
      rw [if_neg e]; exact ⟨0, by decide, rfl, by omega⟩
  · rename_i q
    rw [if_neg q]
    split at h
    · exact absurd h (Nat.lt_irrefl _)
    · rename_i e
      rw [if_neg e]; exact ⟨1, by decide, rfl, by omega⟩
theorem lb_le {f : Nat → Nat → Nat} {F : Nat → Nat} {s b : Nat} (hb : b < 2) (h : F (f s b) < FAR) : lb f F s ≤ F (f s b) + 1 := by
  unfold lb
  rcases (show b = 0 ∨ b = 1 by omega) with q | q <;> subst q
  · split
    · rw [if_neg (by omega)]; exact Nat.le_refl _
    · rw [if_neg (by omega)]; omega
  · split
    · rw [if_neg (by omega)]; omega
    · rw [if_neg (by omega)]; exact Nat.le_refl _
theorem FarS.upd {f : Nat → Nat → Nat} {wl : Int} {F : Nat → Nat} (h : FarS f wl F) {s : Nat} (hs : s < 2560) (hl : lb f F s < F s) : FarS f wl (upn F s (lb f F s)) := by
  obtain ⟨h1, h2, h3⟩ := h
  have hf := h1 s
  obtain ⟨b, hb, e1, e2⟩ := lb_lt h1 (show lb f F s < FAR by omega)
  refine ⟨?_, ?_, ?_⟩
  · intro k
    by_cases q : k = s
    · subst q; rw [upn_eq]; omega
    · rw [upn, if_neg q]; exact h1 k
  · intro k hk hk2
    by_cases q : k = s
    · subst q; have := h2 k hk hk2; omega
    · rw [upn, if_neg q]; exact h2 k hk hk2
  · intro k hk
    by_cases q : k = s
    · subst q
      rw [upn_eq] at *
      obtain ⟨t, t1, t2⟩ := h3 _ e2
      refine ⟨t, t1, ?_⟩
      rw [e1]; exact ⟨b, hb, t2⟩
    · rw [upn, if_neg q] at *; exact h3 k hk
theorem FarS.low {f : Nat → Nat → Nat} {wl : Int} {F : Nat → Nat} {n : Nat} (h : FarS f wl F) (hn : n ≤ 2560) (hf : ∀ s b, s < n → f s b < n) (hl : ∀ s, s < n → F s ≤ lb f F s) : ∀ m s t, s < n → Rm f m s t → soB wl t = true → m < FAR → F s ≤ m := by
  intro m
  induction m with
  | zero =>
    intro s t hs hR ht _
    have e : s = t := hR
    subst e
    rw [h.2.1 s (by omega) ht]; exact Nat.le_refl 0
  | succ m ih =>
    intro s t hs hR ht hm
    obtain ⟨b, hb, hR⟩ := hR
    have h1 := ih (f s b) t (hf s b hs) hR ht (by omega)
    have h2 := lb_le (f := f) (F := F) (s := s) hb (by omega)
    have h3 := hl s hs
    omega
theorem ThenM.fr {M M' : Mem} {z : Row} {tm n : Nat} (h : ThenM M z tm n) (hf : M'.1 207 = M.1 207) : ThenM M' z tm n := by
  unfold ThenM gI at *; rw [hf]; exact h
def farL : List Nat := [202, 203, 207, 208]
theorem c_Mo_laysFar (d : Nat) {M0 : Mem} {tm s0 : Nat} {wl : Int} (hz : OkZ (M0.1 198)) (ht : gI M0 198 27 = iI tm) (hs0 : OkS (M0.1 198) s0) (hst : StandM M0 s0) (h1 : -1 ≤ wl) (h2 : wl ≤ 511) :
    ∃ M' F, c2 (d + 7) m_Mo_laysFar [.ref 197, .int (iI wl)] M0 = some (.int (iI (F s0)), M') ∧ FarM M' F ∧ ThenM M' (M0.1 198) tm (5 * 2 ^ nz (M0.1 198)) ∧ FarS (thn (M0.1 198) tm) wl F ∧ (∀ s, s < 5 * 2 ^ nz (M0.1 198) → F s ≤ lb (thn (M0.1 198) tm) F s) ∧ ResM M0 M' := by
  have h9 := nz_le hz
  have hp := pow9 h9
  generalize hzz : M0.1 198 = z at *
  obtain ⟨M1, e1, hE1, hT1⟩ := c_Mo_laysThen d (M0 := M0) (tm := tm) (by rw [hzz]; exact hz) ht
  rw [hzz] at hT1
  have hR1 : ResM M0 (wI M1 197 28 (iI wl)) := (ResM.of hE1 (by intro a ha; simp only [List.mem_cons, List.not_mem_nil, or_false] at ha; omega)).put (by decide)
  have hlt : ∀ s b, s < 5 * 2 ^ nz z → thn z tm s b < 5 * 2 ^ nz z := fun s b h => thn_lt hz tm b h
  -- begin
  have ini : ∀ j k M, j + k = 2560 → ResM M0 M → ThenM M z tm (5 * 2 ^ nz z) → gI M 197 28 = iI wl → (∀ s, s < k → gI M 208 s = iI ((if soB wl s then 0 else FAR : Nat) : Int)) → ∃ M', X2 (d + 6) m_Mo_laysFar 11 [.ref 197, .int (iI wl), .int (iI k), uns] [] M = X2 (d + 6) m_Mo_laysFar 47 [.ref 197, .int (iI wl), .int (iI ((1 : Nat) : Int)), uns] [] M' ∧ ResM M0 M' ∧ ThenM M' z tm (5 * 2 ^ nz z) ∧ FarM M' (fun s => if soB wl s then 0 else FAR) := by
    intro j
    induction j with
    | zero =>
      intro k M hk hM hT h28 hv
      rw [e_Mo_laysFar_11, if_neg (by rw [iI_lt (by omega) (by omega) (by omega) (by omega)]; omega)]
      exact ⟨M, rfl, hM, hT, fun s hs => hv s (by omega)⟩
    | succ j ih =>
      intro k M hk hM hT h28 hv
      have key : ∀ v : Int32, v = iI ((if soB wl k then 0 else FAR : Nat) : Int) → ∃ M', X2 (d + 6) m_Mo_laysFar 11 [.ref 197, .int (iI wl), .int (iI ((k + 1 : Nat) : Int)), uns] [] (wI M 208 k v) = X2 (d + 6) m_Mo_laysFar 47 [.ref 197, .int (iI wl), .int (iI ((1 : Nat) : Int)), uns] [] M' ∧ ResM M0 M' ∧ ThenM M' z tm (5 * 2 ^ nz z) ∧ FarM M' (fun s => if soB wl s then 0 else FAR) := by
        intro v hvv
        refine ih (k + 1) (wI M 208 k v) (by omega) (hM.tr (ResM.of (eqx_wI Eqx.rf (by simp) : Eqx [208] M _) (by intro a ha; simp only [List.mem_cons, List.not_mem_nil, or_false] at ha; omega))) (hT.fr (wI_na (by decide))) (by rw [gI_na (by decide)]; exact h28) ?_
        intro s hs
        by_cases q : s = k
        · subst q; rw [gI_eq]; exact hvv
        · rw [gI_nk q]; exact hv s (by omega)
      rw [e_Mo_laysFar_11, if_pos (by rw [iI_lt (by omega) (by omega) (by omega) (by omega)]; omega), c_Mo_isSought _ h28 h1 h2 (by omega), bI_some, inb_ok (by omega) (by omega) (by omega), gb_T, gb_T, ix_nat (by omega), iI_add]
      cases hb : soB wl k
      · rw [b2i_f, if_pos (by decide)]
        exact key _ (by rw [hb]; rfl)
      · rw [b2i_t, if_neg (by decide)]
        exact key _ (by rw [hb]; rfl)
  -- one pass
  have pass : ∀ (S j k : Nat) (F : Nat → Nat) (M : Mem) (fl : Nat), j + k = 5 * 2 ^ nz z → ResM M0 M → ThenM M z tm (5 * 2 ^ nz z) → FarM M F → FarS (thn z tm) wl F → ((fl = 0 ∧ (∀ s, s < k → F s ≤ lb (thn z tm) F s) ∧ sm F 2560 ≤ S) ∨ (fl = 1 ∧ sm F 2560 < S)) →
      ∃ M' F' fl' v3, X2 (d + 6) m_Mo_laysFar 55 [.ref 197, .int (iI wl), .int (iI fl), .int (iI k)] [] M = X2 (d + 6) m_Mo_laysFar 47 [.ref 197, .int (iI wl), .int (iI (fl' : Nat)), v3] [] M' ∧ ResM M0 M' ∧ ThenM M' z tm (5 * 2 ^ nz z) ∧ FarM M' F' ∧ FarS (thn z tm) wl F' ∧ ((fl' = 0 ∧ (∀ s, s < 5 * 2 ^ nz z → F' s ≤ lb (thn z tm) F' s)) ∨ (fl' = 1 ∧ sm F' 2560 < S)) := by
    intro S j
    induction j with
    | zero =>
      intro k F M fl hk hM hT hF hS hfl
      have hx : M.1 198 = z := hM.2.1.trans hzz
      have hk' : k = 5 * 2 ^ nz z := by omega
      rw [e_Mo_laysFar_55, c_Mo_rosesz _ (by rw [hx]; exact hz), bI_some, hx, five_shl h9, if_neg (by rw [iI_lt (by omega) (by omega) (by omega) (by omega)]; omega)]
      refine ⟨M, F, fl, _, rfl, hM, hT, hF, hS, ?_⟩
      rcases hfl with ⟨a, b, _⟩ | q
      · exact Or.inl ⟨a, fun s hs => b s (by omega)⟩
      · exact Or.inr q
    | succ j ih =>
      intro k F M fl hk hM hT hF hS hfl
      have hx : M.1 198 = z := hM.2.1.trans hzz
      have hlk := hS.1 k
      have hlb : lb (thn z tm) F k ≤ FAR + 1 := by
        have b0 := hS.1 (thn z tm k 0)
        have b1 := hS.1 (thn z tm k 1)
        unfold lb; split <;> split <;> omega
      rw [e_Mo_laysFar_55, c_Mo_rosesz _ (by rw [hx]; exact hz), bI_some, hx, five_shl h9, if_pos (by rw [iI_lt (by omega) (by omega) (by omega) (by omega)]; omega), c_Mo_leastBy _ hz hT hF hS.1 (by omega), bI_some, inb_ok (by omega) (by omega) (by omega), gb_T, ix_nat (by omega), hF k (by omega), c_Mo_leastBy _ hz hT hF hS.1 (by omega), bI_some, gb_T, iI_add]
      unfold FAR at hlk hlb
      by_cases q : lb (thn z tm) F k < F k
      · rw [if_pos (by rw [iI_lt (by omega) (by omega) (by omega) (by omega)]; omega)]
        refine ih (k + 1) (upn F k (lb (thn z tm) F k)) _ 1 (by omega) (hM.tr (ResM.of (eqx_wI Eqx.rf (by simp) : Eqx [208] M _) (by intro a ha; simp only [List.mem_cons, List.not_mem_nil, or_false] at ha; omega))) (hT.fr (wI_na (by decide))) ?_ (hS.upd (by omega) q) (Or.inr ⟨rfl, ?_⟩)
        · intro s hs
          by_cases e : s = k
          · subst e; rw [gI_eq, upn_eq]
          · rw [gI_nk e, upn, if_neg e]; exact hF s hs
        · have := sm_upd (g := F) (a := k) 2560 (by omega) q
          rcases hfl with a | a <;> omega
      · rw [if_neg (by rw [iI_lt (by omega) (by omega) (by omega) (by omega)]; omega)]
        refine ih (k + 1) F M fl (by omega) hM hT hF hS ?_
        rcases hfl with ⟨a, b, c⟩ | a
        · refine Or.inl ⟨a, fun s hs => ?_, c⟩
          by_cases e : s = k
          · subst e; omega
          · exact b s (by omega)
        · exact Or.inr a
  -- all passes
  have all : ∀ (S : Nat) (F : Nat → Nat) (M : Mem) (v3 : Value), sm F 2560 < S → ResM M0 M → ThenM M z tm (5 * 2 ^ nz z) → FarM M F → FarS (thn z tm) wl F → ∃ M' F, X2 (d + 6) m_Mo_laysFar 47 [.ref 197, .int (iI wl), .int (iI ((1 : Nat) : Int)), v3] [] M = some (.int (iI (F s0)), M') ∧ FarM M' F ∧ ThenM M' z tm (5 * 2 ^ nz z) ∧ FarS (thn z tm) wl F ∧ (∀ s, s < 5 * 2 ^ nz z → F s ≤ lb (thn z tm) F s) ∧ ResM M0 M' := by
    intro S
    induction S with
    | zero => intro F M v3 h; exact absurd h (Nat.not_lt_zero _)
    | succ S ih =>
      intro F M v3 hS hM hT hF hFS
      rw [e_Mo_laysFar_47, if_neg (by decide)]
      obtain ⟨M', F', fl', v3', e, a1, a2, a3, a4, a5⟩ := pass (sm F 2560) (5 * 2 ^ nz z) 0 F M 0 (by omega) hM hT hF hFS (Or.inl ⟨rfl, fun s hs => absurd hs (Nat.not_lt_zero s), Nat.le_refl _⟩)
      have e' : X2 (d + 6) m_Mo_laysFar 55 [.ref 197, .int (iI wl), .int (iI 0), .int (iI 0)] [] M = _ := e
      rw [e']
      rcases a5 with ⟨q, b⟩ | ⟨q, b⟩
      · subst q
        have hstM : StandM M' s0 := by
          have hx : M'.1 198 = M0.1 198 := a1.2.1
          unfold StandM gI at *; rw [hx]; exact hst
        have hl := (hs0.lt hz).2.1
        rw [e_Mo_laysFar_47, if_pos (by decide), c_Mo_standNow, bI_some, show iI 5 * gI M' 198 25 + gI M' 198 26 = iI s0 from hstM, inb_ok (by omega) (by omega) (by omega), gb_T, ix_nat (by omega), a3 s0 hl]
        exact ⟨M', F', rfl, a3, a2, a4, b, a1⟩
      · subst q
        exact ih F' M' v3' (by omega) a1 a2 a3 a4
  show ∃ M' F, X2 (d + 6) m_Mo_laysFar 0 [.ref 197, .int (iI wl), uns, uns] [] M0 = _ ∧ _
  rw [e_Mo_laysFar_0, e1, bV_some]
  obtain ⟨M2, e2, hM2, hT2, hF2⟩ := ini 2560 0 (wI M1 197 28 (iI wl)) (by omega) hR1 (hT1.fr (wI_na (by decide))) (gI_eq _ _ _ _) (fun s hs => absurd hs (Nat.not_lt_zero s))
  have e2' : X2 (d + 6) m_Mo_laysFar 11 [.ref 197, .int (iI wl), .int (iI 0), uns] [] (wI M1 197 28 (iI wl)) = _ := e2
  rw [e2']
  refine all (sm (fun s => if soB wl s then 0 else FAR) 2560 + 1) (fun s => if soB wl s then 0 else FAR) M2 uns (by omega) hM2 hT2 hF2 ⟨?_, ?_, ?_⟩
  · intro s; show (if soB wl s = true then 0 else FAR) ≤ FAR; split <;> omega
  · intro s _ hs; show (if soB wl s = true then 0 else FAR) = 0; rw [if_pos hs]
  · intro s hs
    replace hs : (if soB wl s = true then 0 else FAR) < FAR := hs
    split at hs
    · rename_i q
      refine ⟨s, q, ?_⟩
      show Rm _ (if soB wl s = true then 0 else FAR) s s
      rw [if_pos q]; exact rfl
    · exact absurd hs (Nat.lt_irrefl _)
