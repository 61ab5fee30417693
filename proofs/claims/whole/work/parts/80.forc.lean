/-! THE REFERENCE: what one can force. -/
def mb (f : Nat → Nat → Nat) (F : Nat → Nat) (s : Nat) : Nat := if F (f s 1) < F (f s 0) then (if F (f s 0) = FAR then FAR else F (f s 0) + 1) else (if F (f s 1) = FAR then FAR else F (f s 1) + 1)
def OthM (M : Mem) (F : Nat → Nat) : Prop := ∀ s, s < 2560 → gI M 209 s = iI (F s)
theorem c_Mo_herBy (d : Nat) {M : Mem} {z : Row} {tm s : Nat} {F : Nat → Nat} (hz : OkZ z) (hT : ThenM M z tm (5 * 2 ^ nz z)) (hF : OthM M F) (hb : ∀ s, F s ≤ FAR) (hs : s < 5 * 2 ^ nz z) :
    c2 (d + 1) m_Mo_herBy [.ref 197, .int (iI s)] M = some (.int (iI (lb (thn z tm) F s)), M) := by
  have h9 := nz_le hz
  have hp := pow9 h9
  have t0 := thn_lt hz tm 0 hs
  have t1 := thn_lt hz tm 1 hs
  have b0 := hb (thn z tm s 0)
  have b1 := hb (thn z tm s 1)
  show X2 d m_Mo_herBy 0 [.ref 197, .int (iI s), uns, uns, uns] [] M = _
  unfold FAR at b0 b1
  rw [e_Mo_herBy_0, two_mul_iI, two_mul_iI1, inb_ok (by omega) (by omega) (by omega), gb_T, ix_nat (by omega), show gI M 207 (2 * s) = iI (thn z tm s 0) from hT s hs 0 (by decide), inb_ok (by omega) (by omega) (by omega), gb_T, inb_ok (by omega) (by omega) (by omega), gb_T, ix_nat (n := 2 * s + 1) (by omega), hT s hs 1 (by decide), inb_ok (by omega) (by omega) (by omega), gb_T, ix_nat (by omega), ix_nat (by omega), hF _ (by omega), hF _ (by omega), lb, iI_add, iI_add]
  unfold FAR
  by_cases q : F (thn z tm s 0) < F (thn z tm s 1)
  · rw [if_pos (by rw [iI_lt (by omega) (by omega) (by omega) (by omega)]; omega), if_pos q]
    by_cases e : F (thn z tm s 0) = 268435456
    · rw [if_pos (by rw [e]; rfl), if_pos e]; rfl
    · rw [if_neg (by rw [iI_eq (by omega) (by omega) (by omega) (by omega)]; omega), if_neg e]; rfl
  · rw [if_neg (by rw [iI_lt (by omega) (by omega) (by omega) (by omega)]; omega), if_neg q]
    by_cases e : F (thn z tm s 1) = 268435456
    · rw [if_pos (by rw [e]; rfl), if_pos e]; rfl
    · rw [if_neg (by rw [iI_eq (by omega) (by omega) (by omega) (by omega)]; omega), if_neg e]; rfl
theorem c_Mo_mostBy (d : Nat) {M : Mem} {z : Row} {tm s : Nat} {F : Nat → Nat} (hz : OkZ z) (hT : ThenM M z tm (5 * 2 ^ nz z)) (hF : FarM M F) (hb : ∀ s, F s ≤ FAR) (hs : s < 5 * 2 ^ nz z) :
    c2 (d + 1) m_Mo_mostBy [.ref 197, .int (iI s)] M = some (.int (iI (mb (thn z tm) F s)), M) := by
  have h9 := nz_le hz
  have hp := pow9 h9
  have t0 := thn_lt hz tm 0 hs
  have t1 := thn_lt hz tm 1 hs
  have b0 := hb (thn z tm s 0)
  have b1 := hb (thn z tm s 1)
  show X2 d m_Mo_mostBy 0 [.ref 197, .int (iI s), uns, uns, uns] [] M = _
  unfold FAR at b0 b1
  rw [e_Mo_mostBy_0, two_mul_iI, two_mul_iI1, inb_ok (by omega) (by omega) (by omega), gb_T, ix_nat (by omega), show gI M 207 (2 * s) = iI (thn z tm s 0) from hT s hs 0 (by decide), inb_ok (by omega) (by omega) (by omega), gb_T, inb_ok (by omega) (by omega) (by omega), gb_T, ix_nat (n := 2 * s + 1) (by omega), hT s hs 1 (by decide), inb_ok (by omega) (by omega) (by omega), gb_T, ix_nat (by omega), ix_nat (by omega), hF _ (by omega), hF _ (by omega), mb, iI_add, iI_add]
  unfold FAR
  by_cases q : F (thn z tm s 1) < F (thn z tm s 0)
  · rw [if_pos (by rw [iI_lt (by omega) (by omega) (by omega) (by omega)]; omega), if_pos q]
    by_cases e : F (thn z tm s 0) = 268435456
    · rw [if_pos (by rw [e]; rfl), if_pos e]; rfl
    · rw [if_neg (by rw [iI_eq (by omega) (by omega) (by omega) (by omega)]; omega), if_neg e]; rfl
  · rw [if_neg (by rw [iI_lt (by omega) (by omega) (by omega) (by omega)]; omega), if_neg q]
    by_cases e : F (thn z tm s 1) = 268435456
    · rw [if_pos (by rw [e]; rfl), if_pos e]; rfl
    · rw [if_neg (by rw [iI_eq (by omega) (by omega) (by omega) (by omega)]; omega), if_neg e]; rfl
theorem lb_b {f : Nat → Nat → Nat} {F : Nat → Nat} (h : ∀ s, F s ≤ FAR) (s : Nat) : lb f F s ≤ FAR := by
  have a := h (f s 0)
  have b := h (f s 1)
  unfold lb; split <;> split <;> omega
theorem mb_b {f : Nat → Nat → Nat} {F : Nat → Nat} (h : ∀ s, F s ≤ FAR) (s : Nat) : mb f F s ≤ FAR := by
  have a := h (f s 0)
  have b := h (f s 1)
  unfold mb; split <;> split <;> omega
theorem lb_mono {f : Nat → Nat → Nat} {F G : Nat → Nat} (hF : ∀ s, F s ≤ FAR) (h : ∀ s, G s ≤ F s) (s : Nat) : lb f G s ≤ lb f F s := by
  have a := hF (f s 0)
  have b := hF (f s 1)
  have c := h (f s 0)
  have e := h (f s 1)
  unfold lb; split <;> split <;> split <;> split <;> omega
theorem mb_mono {f : Nat → Nat → Nat} {F G : Nat → Nat} (hF : ∀ s, F s ≤ FAR) (h : ∀ s, G s ≤ F s) (s : Nat) : mb f G s ≤ mb f F s := by
  have a := hF (f s 0)
  have b := hF (f s 1)
  have c := h (f s 0)
  have e := h (f s 1)
  unfold mb; split <;> split <;> split <;> split <;> omega
/-- what is so of the nights that can be forced, all the while -/
def FrI (f : Nat → Nat → Nat) (n : Nat) (H T : Nat → Nat) : Prop := (∀ s, H s ≤ FAR ∧ T s ≤ FAR) ∧ (∀ s, s < n → s % 5 = 4 → H s = 0 ∧ T s = 0) ∧ (∀ s, s < n → s % 5 ≠ 4 → lb f T s ≤ H s ∧ mb f H s ≤ T s)
def mnN (a b : Nat) : Nat := if a < b then a else b
theorem mnN_le (a b : Nat) : mnN a b ≤ a ∧ mnN a b ≤ b ∧ (mnN a b = a ∨ mnN a b = b) := by unfold mnN; split <;> omega
theorem upn_le {F : Nat → Nat} {s v : Nat} (h : v ≤ F s) : ∀ t, upn F s v t ≤ F t := fun t => by
  unfold upn; split
  · rename_i e; rw [e]; exact h
  · exact Nat.le_refl _
theorem sm_upd_le {g : Nat → Nat} {a v : Nat} : ∀ n, v ≤ g a → sm (upn g a v) n ≤ sm g n
  | 0, _ => Nat.le_refl 0
  | n + 1, h => by
    have := sm_upd_le n h
    have := upn_le h n
    rw [sm, sm]; omega
theorem FrI.up {f : Nat → Nat → Nat} {n : Nat} {H T : Nat → Nat} (h : FrI f n H T) {s : Nat} (h4 : s % 5 ≠ 4) : FrI f n (upn H s (mnN (lb f T s) (H s))) (upn T s (mnN (mb f H s) (T s))) := by
  obtain ⟨a, b, c⟩ := h
  have hH := upn_le (F := H) (s := s) (mnN_le (lb f T s) (H s)).2.1
  have hT := upn_le (F := T) (s := s) (mnN_le (mb f H s) (T s)).2.1
  have ml := lb_mono (f := f) (fun s => (a s).2) hT
  have mm := mb_mono (f := f) (fun s => (a s).1) hH
  refine ⟨fun t => ⟨Nat.le_trans (hH t) (a t).1, Nat.le_trans (hT t) (a t).2⟩, ?_, ?_⟩
  · intro t ht h
    have e : t ≠ s := fun e => by rw [e] at h; exact h4 h
    rw [show upn H s (mnN (lb f T s) (H s)) t = H t from if_neg e, show upn T s (mnN (mb f H s) (T s)) t = T t from if_neg e]
    exact b t ht h
  · intro t ht h
    have := c t ht h
    have l1 := ml t
    have l2 := mm t
    by_cases e : t = s
    · subst e
      rw [upn_eq, upn_eq]
      have q1 := mnN_le (lb f T t) (H t)
      have q2 := mnN_le (mb f H t) (T t)
      omega
    · rw [show upn H s (mnN (lb f T s) (H s)) t = H t from if_neg e, show upn T s (mnN (mb f H s) (T s)) t = T t from if_neg e]
      omega
theorem c_Mo_laysForced (d : Nat) {M0 : Mem} {z : Row} {w who tm : Nat} (hQ : QM M0 z w who tm) :
    ∃ (M' : Mem) (H T : Nat → Nat), c2 (d + 7) m_Mo_laysForced [.ref 197] M0 = some (.int (iI (H (5 * w + who))), M') ∧ FarM M' H ∧ OthM M' T ∧ ThenM M' z tm (5 * 2 ^ nz z) ∧ FrI (thn z tm) (5 * 2 ^ nz z) H T ∧ (∀ s, s < 5 * 2 ^ nz z → s % 5 ≠ 4 → H s = lb (thn z tm) T s ∧ T s = mb (thn z tm) H s) ∧ ResM M0 M' := by
  have hz := hQ.2.1
  have h9 := nz_le hz
  have hp := pow9 h9
  have hl := hQ.ok.lt hQ.okz
  rw [hQ.1] at hl
  obtain ⟨M1, e1, hE1, hT1⟩ := c_Mo_laysThen d (M0 := M0) (tm := tm) hQ.okz hQ.tm
  rw [hQ.1] at hT1
  have hR1 : ResM M0 M1 := ResM.of hE1 (by intro a ha; simp only [List.mem_cons, List.not_mem_nil, or_false] at ha; omega)
  obtain ⟨F0, hF0⟩ : ∃ F0 : Nat → Nat, F0 = fun s => if s % 5 = 4 then 0 else FAR := ⟨_, rfl⟩
  have ini : ∀ (j k : Nat) (M : Mem) (v2 v3 v4 : Value), j + k = 2560 → ResM M0 M → ThenM M z tm (5 * 2 ^ nz z) → (∀ s, s < k → gI M 208 s = iI (F0 s) ∧ gI M 209 s = iI (F0 s)) → ∃ M', X2 (d + 6) m_Mo_laysForced 6 [.ref 197, .int (iI k), v2, v3, v4] [] M = X2 (d + 6) m_Mo_laysForced 53 [.ref 197, .int (iI ((1 : Nat) : Int)), v2, v3, v4] [] M' ∧ ResM M0 M' ∧ ThenM M' z tm (5 * 2 ^ nz z) ∧ FarM M' F0 ∧ OthM M' F0 := by
    intro j
    induction j with
    | zero =>
      intro k M v2 v3 v4 hk hM hT hv
      rw [e_Mo_laysForced_6, if_neg (by rw [iI_lt (by omega) (by omega) (by omega) (by omega)]; omega)]
      exact ⟨M, rfl, hM, hT, fun s hs => (hv s (by omega)).1, fun s hs => (hv s (by omega)).2⟩
    | succ j ih =>
      intro k M v2 v3 v4 hk hM hT hv
      have key : ∀ v : Int32, v = iI (F0 k) → ∃ M', X2 (d + 6) m_Mo_laysForced 6 [.ref 197, .int (iI ((k + 1 : Nat) : Int)), v2, v3, v4] [] (wI (wI M 208 k v) 209 k v) = X2 (d + 6) m_Mo_laysForced 53 [.ref 197, .int (iI ((1 : Nat) : Int)), v2, v3, v4] [] M' ∧ ResM M0 M' ∧ ThenM M' z tm (5 * 2 ^ nz z) ∧ FarM M' F0 ∧ OthM M' F0 := by
        intro v hvv
        refine ih (k + 1) _ v2 v3 v4 (by omega) (hM.tr (ResM.of (eqx_wI (eqx_wI Eqx.rf (by simp)) (by simp) : Eqx [208, 209] M _) (by intro a ha; simp only [List.mem_cons, List.not_mem_nil, or_false] at ha; omega))) (hT.fr (by rw [wI_na (by decide), wI_na (by decide)])) ?_
        intro s hs
        by_cases q : s = k
        · subst q; exact ⟨by rw [gI_na (by decide), gI_eq]; exact hvv, by rw [gI_eq]; exact hvv⟩
        · have := hv s (by omega)
          exact ⟨by rw [gI_na (by decide), gI_nk q]; exact this.1, by rw [gI_nk q, gI_na (by decide)]; exact this.2⟩
      rw [e_Mo_laysForced_6, if_pos (by rw [iI_lt (by omega) (by omega) (by omega) (by omega)]; omega), c_Mo_isGoneB _ (by omega), bI_some, inb_ok (by omega) (by omega) (by omega), gb_T, gb_T, gb_T, gb_T, gb_T, gb_T, ix_nat (by omega), iI_add, gI_eq, gI_eq]
      by_cases q : k % 5 = 4
      · rw [decide_eq_true q, b2i_t, if_neg (by decide)]
        exact key _ (by rw [hF0]; show _ = iI ((if k % 5 = 4 then 0 else FAR : Nat) : Int); rw [if_pos q]; rfl)
      · rw [decide_eq_false q, b2i_f, if_pos (by decide)]
        exact key _ (by rw [hF0]; show _ = iI ((if k % 5 = 4 then 0 else FAR : Nat) : Int); rw [if_neg q]; rfl)
  have pass : ∀ (S j k : Nat) (H T : Nat → Nat) (M : Mem) (fl : Nat) (v3 v4 : Value), j + k = 5 * 2 ^ nz z → ResM M0 M → ThenM M z tm (5 * 2 ^ nz z) → FarM M H → OthM M T → FrI (thn z tm) (5 * 2 ^ nz z) H T → ((fl = 0 ∧ (∀ s, s < k → s % 5 ≠ 4 → H s ≤ lb (thn z tm) T s ∧ T s ≤ mb (thn z tm) H s) ∧ sm H 2560 + sm T 2560 ≤ S) ∨ (fl = 1 ∧ sm H 2560 + sm T 2560 < S)) →
      ∃ (M' : Mem) (H' T' : Nat → Nat) (fl' : Nat) (u2 u3 u4 : Value), X2 (d + 6) m_Mo_laysForced 61 [.ref 197, .int (iI fl), .int (iI k), v3, v4] [] M = X2 (d + 6) m_Mo_laysForced 53 [.ref 197, .int (iI fl'), u2, u3, u4] [] M' ∧ ResM M0 M' ∧ ThenM M' z tm (5 * 2 ^ nz z) ∧ FarM M' H' ∧ OthM M' T' ∧ FrI (thn z tm) (5 * 2 ^ nz z) H' T' ∧ ((fl' = 0 ∧ (∀ s, s < 5 * 2 ^ nz z → s % 5 ≠ 4 → H' s ≤ lb (thn z tm) T' s ∧ T' s ≤ mb (thn z tm) H' s)) ∨ (fl' = 1 ∧ sm H' 2560 + sm T' 2560 < S)) := by
    intro S j
    induction j with
    | zero =>
      intro k H T M fl v3 v4 hk hM hT hF hO hS hfl
      have hx : M.1 198 = z := (hQ.res hM).1
      have hk' : k = 5 * 2 ^ nz z := by omega
      rw [e_Mo_laysForced_61, c_Mo_rosesz _ (by rw [hx]; exact hz), bI_some, hx, five_shl h9, if_neg (by rw [iI_lt (by omega) (by omega) (by omega) (by omega)]; omega)]
      refine ⟨M, H, T, fl, _, v3, v4, rfl, hM, hT, hF, hO, hS, ?_⟩
      rcases hfl with ⟨a, b, _⟩ | q
      · exact Or.inl ⟨a, fun s hs => b s (by omega)⟩
      · exact Or.inr q
    | succ j ih =>
      intro k H T M fl v3 v4 hk hM hT hF hO hS hfl
      have hx : M.1 198 = z := (hQ.res hM).1
      have fl1 : fl ≤ 1 := by rcases hfl with q | q <;> omega
      rw [e_Mo_laysForced_61, c_Mo_rosesz _ (by rw [hx]; exact hz), bI_some, hx, five_shl h9, if_pos (by rw [iI_lt (by omega) (by omega) (by omega) (by omega)]; omega), c_Mo_isGoneB _ (by omega), bI_some]
      by_cases q : k % 5 = 4
      · rw [decide_eq_true q, b2i_t, if_neg (by decide), iI_add]
        refine ih (k + 1) H T M fl _ _ (by omega) hM hT hF hO hS ?_
        rcases hfl with ⟨a, b, c⟩ | x
        · refine Or.inl ⟨a, fun s hs h => ?_, c⟩
          by_cases e : s = k
          · subst e; exact absurd q h
          · exact b s (by omega) h
        · exact Or.inr x
      · have bl := lb_b (f := thn z tm) (fun s => (hS.1 s).2) k
        have bm := mb_b (f := thn z tm) (fun s => (hS.1 s).1) k
        have bH := (hS.1 k).1
        have bT := (hS.1 k).2
        have hS2 := hS.up (s := k) q
        have q1 := mnN_le (lb (thn z tm) T k) (H k)
        have q2 := mnN_le (mb (thn z tm) H k) (T k)
        have s1 := sm_upd_le (g := H) (a := k) 2560 q1.2.1
        have s2 := sm_upd_le (g := T) (a := k) 2560 q2.2.1
        rw [decide_eq_false q, b2i_f, if_pos (by decide), c_Mo_herBy _ hz hT hO (fun s => (hS.1 s).2) (by omega), bI_some, c_Mo_mostBy _ hz hT hF (fun s => (hS.1 s).1) (by omega), bI_some, inb_ok (by omega) (by omega) (by omega)]
        simp only [gb_T]
        rw [ix_nat (by omega), hF k (by omega), hO k (by omega), (or01 fl1).1, (or01 fl1).2]
        unfold FAR at bl bm bH bT
        -- the last step, by what is laid there
        have fin : ∀ (fl2 : Nat) (y : Int32) (u3 : Value), y = iI (mnN (lb (thn z tm) T k) (H k)) → ((fl2 = 0 ∧ fl = 0 ∧ H k ≤ lb (thn z tm) T k ∧ T k ≤ mb (thn z tm) H k) ∨ (fl2 = 1 ∧ (fl = 1 ∨ lb (thn z tm) T k < H k ∨ mb (thn z tm) H k < T k))) → ∃ (M' : Mem) (H' T' : Nat → Nat) (fl' : Nat) (w2 w3 w4 : Value), X2 (d + 6) m_Mo_laysForced 148 [.ref 197, .int (iI fl2), .int (iI k), u3, .int (iI (mb (thn z tm) H k))] [.int y, .int (iI k), .ref 208] M = X2 (d + 6) m_Mo_laysForced 53 [.ref 197, .int (iI fl'), w2, w3, w4] [] M' ∧ ResM M0 M' ∧ ThenM M' z tm (5 * 2 ^ nz z) ∧ FarM M' H' ∧ OthM M' T' ∧ FrI (thn z tm) (5 * 2 ^ nz z) H' T' ∧ ((fl' = 0 ∧ (∀ s, s < 5 * 2 ^ nz z → s % 5 ≠ 4 → H' s ≤ lb (thn z tm) T' s ∧ T' s ≤ mb (thn z tm) H' s)) ∨ (fl' = 1 ∧ sm H' 2560 + sm T' 2560 < S)) := by
          intro fl2 y u3 hy hc
          have v2 : (if iI (mb (thn z tm) H k) < iI (T k) then wI (wI M 208 k y) 209 k (iI (mb (thn z tm) H k)) else wI (wI M 208 k y) 209 k (iI (T k))) = wI (wI M 208 k y) 209 k (iI (mnN (mb (thn z tm) H k) (T k))) := by
            unfold mnN
            by_cases x : mb (thn z tm) H k < T k
            · rw [if_pos (by rw [iI_lt (by omega) (by omega) (by omega) (by omega)]; omega), if_pos x]
            · rw [if_neg (by rw [iI_lt (by omega) (by omega) (by omega) (by omega)]; omega), if_neg x]
          have nx : X2 (d + 6) m_Mo_laysForced 148 [.ref 197, .int (iI fl2), .int (iI k), u3, .int (iI (mb (thn z tm) H k))] [.int y, .int (iI k), .ref 208] M = X2 (d + 6) m_Mo_laysForced 61 [.ref 197, .int (iI fl2), .int (iI ((k + 1 : Nat) : Int)), u3, .int (iI (mb (thn z tm) H k))] [] (wI (wI M 208 k y) 209 k (iI (mnN (mb (thn z tm) H k) (T k)))) := by
            rw [← v2, e_Mo_laysForced_148, inb_ok (by omega) (by omega) (by omega), gb_T, gb_T, gb_T, gb_T, gb_T, ix_nat (by omega), hO k (by omega), iI_add]
            split <;> rfl
          rw [nx]
          refine ih (k + 1) (upn H k (mnN (lb (thn z tm) T k) (H k))) (upn T k (mnN (mb (thn z tm) H k) (T k))) _ fl2 _ _ (by omega) (hM.tr (ResM.of (eqx_wI (eqx_wI Eqx.rf (by simp)) (by simp) : Eqx [208, 209] M _) (by intro a ha; simp only [List.mem_cons, List.not_mem_nil, or_false] at ha; omega))) (hT.fr (by rw [wI_na (by decide), wI_na (by decide)])) ?_ ?_ hS2 ?_
          · intro s hs
            rw [gI_na (by decide)]
            by_cases e : s = k
            · subst e; rw [gI_eq, upn_eq]; exact hy
            · rw [gI_nk e, show upn H k (mnN (lb (thn z tm) T k) (H k)) s = H s from if_neg e]; exact hF s hs
          · intro s hs
            by_cases e : s = k
            · subst e; rw [gI_eq, upn_eq]
            · rw [gI_nk e, gI_na (by decide), show upn T k (mnN (mb (thn z tm) H k) (T k)) s = T s from if_neg e]; exact hO s hs
          · rcases hc with ⟨c1, c2, c3, c4⟩ | ⟨c1, c2⟩
            · have eH : upn H k (mnN (lb (thn z tm) T k) (H k)) = H := by
                funext s; unfold upn; split
                · rename_i e; rw [e]; omega
                · rfl
              have eT : upn T k (mnN (mb (thn z tm) H k) (T k)) = T := by
                funext s; unfold upn; split
                · rename_i e; rw [e]; omega
                · rfl
              rw [eH, eT]
              rcases hfl with ⟨a, b, c⟩ | x
              · refine Or.inl ⟨c1, fun s hs h => ?_, c⟩
                by_cases e : s = k
                · subst e; exact ⟨c3, c4⟩
                · exact b s (by omega) h
              · omega
            · refine Or.inr ⟨c1, ?_⟩
              rcases hfl with ⟨a, b, c⟩ | x
              · rcases c2 with c2 | c2 | c2
                · omega
                · have := sm_upd (g := H) (a := k) (v := mnN (lb (thn z tm) T k) (H k)) 2560 (by omega) (by omega)
                  omega
                · have := sm_upd (g := T) (a := k) (v := mnN (mb (thn z tm) H k) (T k)) 2560 (by omega) (by omega)
                  omega
              · omega
        by_cases x1 : lb (thn z tm) T k < H k
        · have c1 : iI (lb (thn z tm) T k) < iI (H k) := by rw [iI_lt (by omega) (by omega) (by omega) (by omega)]; omega
          simp only [if_pos c1]
          exact fin 1 _ _ (by unfold mnN; rw [if_pos x1]) (Or.inr ⟨rfl, Or.inr (Or.inl x1)⟩)
        · have c1 : ¬ (iI (lb (thn z tm) T k) < iI (H k)) := by rw [iI_lt (by omega) (by omega) (by omega) (by omega)]; omega
          simp only [if_neg c1]
          by_cases x2 : mb (thn z tm) H k < T k
          · rw [if_pos (by rw [iI_lt (by omega) (by omega) (by omega) (by omega)]; omega)]
            exact fin 1 _ _ (by unfold mnN; rw [if_neg x1]) (Or.inr ⟨rfl, Or.inr (Or.inr x2)⟩)
          · rw [if_neg (by rw [iI_lt (by omega) (by omega) (by omega) (by omega)]; omega)]
            refine fin fl _ _ (by unfold mnN; rw [if_neg x1]) ?_
            rcases hfl with ⟨a, _⟩ | ⟨a, _⟩
            · exact Or.inl ⟨a, a, by omega, by omega⟩
            · exact Or.inr ⟨a, Or.inl a⟩
  have all : ∀ (S : Nat) (H T : Nat → Nat) (M : Mem) (v2 v3 v4 : Value), sm H 2560 + sm T 2560 < S → ResM M0 M → ThenM M z tm (5 * 2 ^ nz z) → FarM M H → OthM M T → FrI (thn z tm) (5 * 2 ^ nz z) H T → ∃ (M' : Mem) (H T : Nat → Nat), X2 (d + 6) m_Mo_laysForced 53 [.ref 197, .int (iI ((1 : Nat) : Int)), v2, v3, v4] [] M = some (.int (iI (H (5 * w + who))), M') ∧ FarM M' H ∧ OthM M' T ∧ ThenM M' z tm (5 * 2 ^ nz z) ∧ FrI (thn z tm) (5 * 2 ^ nz z) H T ∧ (∀ s, s < 5 * 2 ^ nz z → s % 5 ≠ 4 → H s = lb (thn z tm) T s ∧ T s = mb (thn z tm) H s) ∧ ResM M0 M' := by
    intro S
    induction S with
    | zero => intro H T M v2 v3 v4 h; exact absurd h (Nat.not_lt_zero _)
    | succ S ih =>
      intro H T M v2 v3 v4 hS hM hT hF hO hI
      rw [e_Mo_laysForced_53, if_neg (by decide)]
      obtain ⟨M', H', T', fl', u2, u3, u4, e, a1, a2, a3, a3', a4, a5⟩ := pass (sm H 2560 + sm T 2560) (5 * 2 ^ nz z) 0 H T M 0 v3 v4 (by omega) hM hT hF hO hI (Or.inl ⟨rfl, fun s hs => absurd hs (Nat.not_lt_zero s), Nat.le_refl _⟩)
      have e' : X2 (d + 6) m_Mo_laysForced 61 [.ref 197, .int (iI 0), .int (iI 0), v3, v4] [] M = _ := e
      rw [e']
      rcases a5 with ⟨q, b⟩ | ⟨q, b⟩
      · subst q
        rw [e_Mo_laysForced_53, if_pos (by decide), c_Mo_standNow, bI_some, show iI 5 * gI M' 198 25 + gI M' 198 26 = iI ((5 * w + who : Nat) : Int) from (hQ.res a1).stand, inb_ok (by omega) (by omega) (by omega), gb_T, ix_nat (by omega), a3 _ hl.2.1]
        refine ⟨M', H', T', rfl, a3, a3', a2, a4, fun s hs h => ?_, a1⟩
        have x := b s hs h
        have y := a4.2.2 s hs h
        omega
      · subst q
        exact ih H' T' M' u2 u3 u4 (by omega) a1 a2 a3 a3' a4
  show ∃ (M' : Mem) (H T : Nat → Nat), X2 (d + 6) m_Mo_laysForced 0 [.ref 197, uns, uns, uns, uns] [] M0 = _ ∧ _
  rw [e_Mo_laysForced_0, e1, bV_some]
  obtain ⟨M2, e2, hM2, hT2, hF2, hO2⟩ := ini 2560 0 M1 uns uns uns (by omega) hR1 hT1 (fun s hs => absurd hs (Nat.not_lt_zero s))
  have e2' : X2 (d + 6) m_Mo_laysForced 6 [.ref 197, .int (iI 0), uns, uns, uns] [] M1 = _ := e2
  rw [e2']
  have hFb : ∀ s, F0 s ≤ FAR := fun s => by
    rw [hF0]; show (if s % 5 = 4 then 0 else FAR) ≤ FAR; split <;> omega
  refine all (sm F0 2560 + sm F0 2560 + 1) F0 F0 M2 uns uns uns (by omega) hM2 hT2 hF2 hO2 ⟨fun s => ⟨hFb s, hFb s⟩, ?_, ?_⟩
  · intro s _ h
    have : F0 s = 0 := by rw [hF0]; show (if s % 5 = 4 then 0 else FAR) = 0; rw [if_pos h]
    exact ⟨this, this⟩
  · intro s _ h
    have : F0 s = FAR := by rw [hF0]; show (if s % 5 = 4 then 0 else FAR) = FAR; rw [if_neg h]
    rw [this]
    exact ⟨lb_b hFb s, mb_b hFb s⟩
