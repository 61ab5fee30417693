/-! SUMS over stands: a row of nights goes forwards as it is asked backwards. -/
theorem sm_add (g h : Nat → Nat) : ∀ n, sm (fun t => g t + h t) n = sm g n + sm h n
  | 0 => rfl
  | n + 1 => by rw [sm, sm, sm, sm_add g h n]; omega
theorem sm_mul (c : Nat) (g : Nat → Nat) : ∀ n, sm (fun t => c * g t) n = c * sm g n
  | 0 => rfl
  | n + 1 => by rw [sm, sm, sm_mul c g n, Nat.mul_add]
theorem sm_zero {g : Nat → Nat} : ∀ n, (∀ k, k < n → g k = 0) → sm g n = 0
  | 0, _ => rfl
  | n + 1, h => by rw [sm, sm_zero n (fun k hk => h k (by omega)), h n (by omega)]
theorem sm_delta (g : Nat → Nat) {x : Nat} : ∀ n, sm (fun t => (if x = t then 1 else 0) * g t) n = if x < n then g x else 0
  | 0 => by rw [if_neg (Nat.not_lt_zero x)]; rfl
  | n + 1 => by
    rw [sm, sm_delta g n]
    by_cases h : x = n
    · rw [if_neg (by omega), if_pos h, if_pos (by omega), Nat.one_mul, Nat.zero_add, h]
    · rw [if_neg h, Nat.zero_mul, Nat.add_zero]
      by_cases q : x < n
      · rw [if_pos q, if_pos (by omega)]
      · rw [if_neg q, if_neg (by omega)]
theorem sm_ext {g : Nat → Nat} {n : Nat} : ∀ k, (∀ s, n ≤ s → g s = 0) → sm g (n + k) = sm g n
  | 0, _ => rfl
  | k + 1, h => by rw [← Nat.add_assoc, sm, sm_ext k h, h _ (by omega), Nat.add_zero]
/-- what the stand s gives to t -/
def cg (f : Nat → Nat → Nat) (a b : Nat) (m : Nat → Nat) (t s : Nat) : Nat := a * (m s * (if f s 0 = t then 1 else 0)) + b * (m s * (if f s 1 = t then 1 else 0))
def gm (f : Nat → Nat → Nat) (a b : Nat) (m : Nat → Nat) (n t : Nat) : Nat := sm (cg f a b m t) n
def stA (f : Nat → Nat → Nat) (a b : Nat) (φ : Nat → Nat) (s : Nat) : Nat := a * φ (f s 0) + b * φ (f s 1)
def rN (f : Nat → Nat → Nat) (a b : Nat) : Nat → (Nat → Nat) → Nat → Nat
  | 0, φ => φ
  | n + 1, φ => rN f a b n (stA f a b φ)
theorem rN_s (f : Nat → Nat → Nat) (a b : Nat) : ∀ n φ, rN f a b (n + 1) φ = stA f a b (rN f a b n φ)
  | 0, _ => rfl
  | n + 1, φ => by rw [rN, rN_s f a b n (stA f a b φ)]; rfl
theorem gm_adj (f : Nat → Nat → Nat) (a b : Nat) (m φ : Nat → Nat) {N : Nat} : ∀ n, (∀ s, s < n → f s 0 < N ∧ f s 1 < N) → sm (fun t => gm f a b m n t * φ t) N = sm (fun s => m s * stA f a b φ s) n
  | 0, _ => sm_zero N (fun k _ => Nat.zero_mul _)
  | n + 1, h => by
    have ih := gm_adj f a b m φ n (fun s hs => h s (by omega))
    have e : (fun t => gm f a b m (n + 1) t * φ t) = (fun t => gm f a b m n t * φ t + ((a * m n) * ((if f n 0 = t then 1 else 0) * φ t) + (b * m n) * ((if f n 1 = t then 1 else 0) * φ t))) := by
      funext t
      show (gm f a b m n t + cg f a b m t n) * φ t = _
      rw [cg, Nat.add_mul, Nat.add_mul]
      congr 2 <;> rw [Nat.mul_assoc, Nat.mul_assoc, Nat.mul_assoc]
    rw [e, sm_add, sm_add, sm_mul, sm_mul, sm_delta, sm_delta, if_pos (h n (by omega)).1, if_pos (h n (by omega)).2, ih, sm, stA, Nat.mul_add]
    congr 2 <;> rw [← Nat.mul_assoc, Nat.mul_comm (m n)]
/-- the k-th of the multitudes -/
def mK (f : Nat → Nat → Nat) (a b n : Nat) (m0 : Nat → Nat) : Nat → Nat → Nat
  | 0 => m0
  | k + 1 => gm f a b (mK f a b n m0 k) n
theorem gm_out {f : Nat → Nat → Nat} {a b n : Nat} {m : Nat → Nat} (hf : ∀ s c, s < n → f s c < n) {t : Nat} (ht : n ≤ t) : gm f a b m n t = 0 := by
  apply sm_zero
  intro s hs
  have h0 := hf s 0 hs
  have h1 := hf s 1 hs
  rw [cg, if_neg (by omega), if_neg (by omega)]; simp
theorem mK_out {f : Nat → Nat → Nat} {a b n : Nat} {m0 : Nat → Nat} (hf : ∀ s c, s < n → f s c < n) (h0 : ∀ s, n ≤ s → m0 s = 0) : ∀ k s, n ≤ s → mK f a b n m0 k s = 0
  | 0, s, h => h0 s h
  | _ + 1, _, h => gm_out hf h
theorem mK_rN {f : Nat → Nat → Nat} {a b n N : Nat} {m0 : Nat → Nat} (hf : ∀ s c, s < n → f s c < n) (h0 : ∀ s, n ≤ s → m0 s = 0) (hN : n ≤ N) : ∀ k φ, sm (fun t => mK f a b n m0 k t * φ t) N = sm (fun t => m0 t * rN f a b k φ t) N
  | 0, _ => rfl
  | k + 1, φ => by
    have e := gm_adj f a b (mK f a b n m0 k) φ (N := N) n (fun s hs => ⟨by have := hf s 0 hs; omega, by have := hf s 1 hs; omega⟩)
    have e2 := sm_ext (g := fun s => mK f a b n m0 k s * stA f a b φ s) (n := n) (N - n) (fun s hs => by
      show mK f a b n m0 k s * _ = 0
      rw [mK_out hf h0 k s hs, Nat.zero_mul])
    rw [show n + (N - n) = N by omega] at e2
    rw [show (fun t => mK f a b n m0 (k + 1) t * φ t) = (fun t => gm f a b (mK f a b n m0 k) n t * φ t) from rfl, e, ← e2, mK_rN hf h0 hN k (stA f a b φ)]
    rfl
/-- from one stand -/
theorem mK_one {f : Nat → Nat → Nat} {a b n N s0 : Nat} (hf : ∀ s c, s < n → f s c < n) (hs : s0 < n) (hN : n ≤ N) (k : Nat) (φ : Nat → Nat) : sm (fun t => mK f a b n (fun t => if s0 = t then 1 else 0) k t * φ t) N = rN f a b k φ s0 := by
  rw [mK_rN hf (fun s h => if_neg (by omega)) hN, sm_delta, if_pos (by omega)]
/-! THE REFERENCE: multitudes. -/
def ManyM (M : Mem) (m : Nat → Nat) : Prop := ∀ s, s < 2560 → gI M 210 s = iI (m s) ∧ gI M 211 s = iI 0
theorem c_Mo_beginsMany (d : Nat) {M0 : Mem} {z : Row} {w who tm : Nat} (hQ : QM M0 z w who tm) :
    ∃ M', c2 (d + 7) m_Mo_beginsMany [.ref 197] M0 = some (.null, M') ∧ ManyM M' (fun t => if 5 * w + who = t then 1 else 0) ∧ ThenM M' z tm (5 * 2 ^ nz z) ∧ ResM M0 M' := by
  have hz := hQ.2.1
  have hl := (hQ.ok.lt hQ.okz).2.1
  obtain ⟨M1, e1, hE1, hT1⟩ := c_Mo_laysThen d (M0 := M0) (tm := tm) hQ.okz hQ.tm
  rw [hQ.1] at hT1
  have go : ∀ j k M, j + k = 2560 → ResM M0 M → ThenM M z tm (5 * 2 ^ nz z) → (∀ s, s < k → gI M 210 s = iI ((if 5 * w + who = s then 1 else 0 : Nat) : Int) ∧ gI M 211 s = iI 0) → ∃ M', X2 (d + 6) m_Mo_beginsMany 6 [.ref 197, .int (iI k)] [] M = some (.null, M') ∧ ManyM M' (fun t => if 5 * w + who = t then 1 else 0) ∧ ThenM M' z tm (5 * 2 ^ nz z) ∧ ResM M0 M' := by
    intro j
    induction j with
    | zero =>
      intro k M hk hM hT hv
      rw [e_Mo_beginsMany_6, if_neg (by rw [iI_lt (by omega) (by omega) (by omega) (by omega)]; omega)]
      exact ⟨M, rfl, fun s hs => hv s (by omega), hT, hM⟩
    | succ j ih =>
      intro k M hk hM hT hv
      have key : ∀ v : Int32, v = iI ((if 5 * w + who = k then 1 else 0 : Nat) : Int) → ∃ M', X2 (d + 6) m_Mo_beginsMany 6 [.ref 197, .int (iI ((k + 1 : Nat) : Int))] [] (wI (wI M 210 k v) 211 k (iI 0)) = some (.null, M') ∧ ManyM M' (fun t => if 5 * w + who = t then 1 else 0) ∧ ThenM M' z tm (5 * 2 ^ nz z) ∧ ResM M0 M' := by
        intro v hvv
        refine ih (k + 1) _ (by omega) (hM.tr (ResM.of (eqx_wI (eqx_wI Eqx.rf (by simp)) (by simp) : Eqx [210, 211] M _) (by intro a ha; simp only [List.mem_cons, List.not_mem_nil, or_false] at ha; omega))) (hT.fr (by rw [wI_na (by decide), wI_na (by decide)])) ?_
        intro s hs
        by_cases q : s = k
        · subst q; exact ⟨by rw [gI_na (by decide), gI_eq]; exact hvv, by rw [gI_eq]⟩
        · have := hv s (by omega)
          exact ⟨by rw [gI_na (by decide), gI_nk q]; exact this.1, by rw [gI_nk q, gI_na (by decide)]; exact this.2⟩
      rw [e_Mo_beginsMany_6, if_pos (by rw [iI_lt (by omega) (by omega) (by omega) (by omega)]; omega), c_Mo_standNow, bI_some, show iI 5 * gI M 198 25 + gI M 198 26 = iI ((5 * w + who : Nat) : Int) from (hQ.res hM).stand, inb_ok (by omega) (by omega) (by omega), gb_T, gb_T, gb_T, gb_T, ix_nat (by omega), iI_add]
      by_cases q : 5 * w + who = k
      · rw [if_pos (by rw [q])]; exact key _ (by rw [if_pos q]; rfl)
      · rw [if_neg (by rw [iI_eq (by omega) (by omega) (by omega) (by omega)]; omega)]; exact key _ (by rw [if_neg q]; rfl)
  show ∃ M', X2 (d + 6) m_Mo_beginsMany 0 [.ref 197, uns] [] M0 = _ ∧ _
  rw [e_Mo_beginsMany_0, e1, bV_some]
  exact go 2560 0 M1 (by omega) (ResM.of hE1 (by intro a ha; simp only [List.mem_cons, List.not_mem_nil, or_false] at ha; omega)) hT1 (fun s hs => absurd hs (Nat.not_lt_zero s))
theorem iI_c0 {a b m x y : Nat} (h : iI (m : Int) = iI 0) : iI ((a * (m * x) + b * (m * y) : Nat) : Int) = iI 0 := by
  have e : ∀ c u : Nat, iI ((c * (m * u) : Nat) : Int) = iI 0 := fun c u => by
    rw [Int.natCast_mul, Int.natCast_mul, ← iI_mul, ← iI_mul, h, iI_mul, Int.zero_mul, iI_mul, Int.mul_zero]
  rw [Int.natCast_add, ← iI_add, e, e]; rfl
theorem c_Mo_goesMany (d : Nat) {M0 : Mem} {z : Row} {tm a b : Nat} {m : Nat → Nat} (hz : OkZ z) (hT : ThenM M0 z tm (5 * 2 ^ nz z)) (hm : ManyM M0 m) (h0 : ∀ s, 5 * 2 ^ nz z ≤ s → m s = 0) :
    ∃ M', c2 (d + 1) m_Mo_goesMany [.ref 197, .int (iI a), .int (iI b)] M0 = some (.null, M') ∧ ManyM M' (gm (thn z tm) a b m (5 * 2 ^ nz z)) ∧ ThenM M' z tm (5 * 2 ^ nz z) ∧ ResM M0 M' := by
  have h9 := nz_le hz
  have hp := pow9 h9
  have fin : ∀ j k M, j + k = 2560 → ResM M0 M → ThenM M z tm (5 * 2 ^ nz z) → (∀ s, s < 2560 → (s < k → gI M 210 s = iI (gm (thn z tm) a b m (5 * 2 ^ nz z) s) ∧ gI M 211 s = iI 0) ∧ (k ≤ s → gI M 211 s = iI (gm (thn z tm) a b m (5 * 2 ^ nz z) s))) → ∃ M', X2 d m_Mo_goesMany 79 [.ref 197, .int (iI a), .int (iI b), .int (iI k)] [] M = some (.null, M') ∧ ManyM M' (gm (thn z tm) a b m (5 * 2 ^ nz z)) ∧ ThenM M' z tm (5 * 2 ^ nz z) ∧ ResM M0 M' := by
    intro j
    induction j with
    | zero =>
      intro k M hk hM hT hv
      rw [e_Mo_goesMany_79, if_neg (by rw [iI_lt (by omega) (by omega) (by omega) (by omega)]; omega)]
      exact ⟨M, rfl, fun s hs => (hv s hs).1 (by omega), hT, hM⟩
    | succ j ih =>
      intro k M hk hM hT hv
      rw [e_Mo_goesMany_79, if_pos (by rw [iI_lt (by omega) (by omega) (by omega) (by omega)]; omega), inb_ok (by omega) (by omega) (by omega), gb_T, gb_T, gb_T, ix_nat (by omega), iI_add]
      refine ih (k + 1) _ (by omega) (hM.tr (ResM.of (eqx_wI (eqx_wI Eqx.rf (by simp)) (by simp) : Eqx [210, 211] M _) (by intro a ha; simp only [List.mem_cons, List.not_mem_nil, or_false] at ha; omega))) (hT.fr (by rw [wI_na (by decide), wI_na (by decide)])) ?_
      intro s hs
      by_cases q : s = k
      · subst q
        exact ⟨fun _ => ⟨by rw [gI_na (by decide), gI_eq]; exact (hv s hs).2 (Nat.le_refl _), by rw [gI_eq]⟩, fun h => by omega⟩
      · rw [gI_na (by decide), gI_nk q, gI_nk q, gI_na (by decide)]
        exact ⟨fun h => (hv s hs).1 (by omega), fun h => (hv s hs).2 (by omega)⟩
  have go : ∀ j k M, j + k = 2560 → ResM M0 M → ThenM M z tm (5 * 2 ^ nz z) → (∀ s, s < 2560 → gI M 210 s = iI (m s)) → (∀ t, t < 2560 → gI M 211 t = iI (gm (thn z tm) a b m (min k (5 * 2 ^ nz z)) t)) → ∃ M', X2 d m_Mo_goesMany 2 [.ref 197, .int (iI a), .int (iI b), .int (iI k)] [] M = some (.null, M') ∧ ManyM M' (gm (thn z tm) a b m (5 * 2 ^ nz z)) ∧ ThenM M' z tm (5 * 2 ^ nz z) ∧ ResM M0 M' := by
    intro j
    induction j with
    | zero =>
      intro k M hk hM hT hv ha
      rw [e_Mo_goesMany_2, if_neg (by rw [iI_lt (by omega) (by omega) (by omega) (by omega)]; omega)]
      rw [Nat.min_eq_right (by omega)] at ha
      exact fin 2560 0 M (by omega) hM hT (fun s hs => ⟨fun h => absurd h (Nat.not_lt_zero s), fun _ => ha s hs⟩)
    | succ j ih =>
      intro k M hk hM hT hv ha
      rw [e_Mo_goesMany_2, if_pos (by rw [iI_lt (by omega) (by omega) (by omega) (by omega)]; omega), inb_ok (by omega) (by omega) (by omega), gb_T, ix_nat (by omega), hv k (by omega), iI_add]
      by_cases q0 : iI (m k) = iI 0
      · rw [if_pos (show iI (m k) = 0 from q0)]
        refine ih (k + 1) M (by omega) hM hT hv ?_
        intro t ht
        by_cases hkn : k < 5 * 2 ^ nz z
        · rw [ha t ht, Nat.min_eq_left (by omega), Nat.min_eq_left (by omega)]
          show _ = iI ((gm (thn z tm) a b m k t + cg (thn z tm) a b m t k : Nat) : Int)
          rw [Int.natCast_add, ← iI_add, cg, iI_c0 q0, iI_add, Int.add_zero]
        · rw [ha t ht, Nat.min_eq_right (by omega), Nat.min_eq_right (by omega)]
      · have hkn : k < 5 * 2 ^ nz z := by
          rcases Nat.lt_or_ge k (5 * 2 ^ nz z) with h | h
          · exact h
          · exact absurd (by rw [h0 k h]; rfl) q0
        have t0 := thn_lt hz tm 0 hkn
        have t1 := thn_lt hz tm 1 hkn
        rw [if_neg (show ¬ (iI (m k) = 0) from q0), two_mul_iI, two_mul_iI1, inb_ok (z := ((2 * k : Nat) : Int)) (by omega) (by omega) (by omega), gb_T, ix_nat (n := 2 * k) (by omega), show gI M 207 (2 * k) = iI (thn z tm k 0) from hT k hkn 0 (by decide), inb_ok (z := (thn z tm k 0 : Int)) (by omega) (by omega) (by omega), gb_T, gb_T, gb_T, inb_ok (z := ((2 * k + 1 : Nat) : Int)) (by omega) (by omega) (by omega), gb_T, ix_nat (n := 2 * k + 1) (by omega), hT k hkn 1 (by decide), inb_ok (z := (thn z tm k 1 : Int)) (by omega) (by omega) (by omega), gb_T, gb_T, gb_T, ix_nat (n := thn z tm k 0) (by omega), ix_nat (n := thn z tm k 1) (by omega)]
        refine ih (k + 1) _ (by omega) (hM.tr (ResM.of (eqx_wI (eqx_wI Eqx.rf (by simp)) (by simp) : Eqx [211] M _) (by intro a ha; simp only [List.mem_cons, List.not_mem_nil, or_false] at ha; omega))) (hT.fr (by rw [wI_na (by decide), wI_na (by decide)])) (fun s hs => by rw [gI_na (by decide), gI_na (by decide)]; exact hv s hs) ?_
        intro t ht
        have o : ∀ t, t < 2560 → gI M 211 t = iI (gm (thn z tm) a b m k t) := fun t ht => by rw [ha t ht, Nat.min_eq_left (by omega)]
        rw [Nat.min_eq_left (by omega)]
        show _ = iI ((gm (thn z tm) a b m k t + (a * (m k * (if thn z tm k 0 = t then 1 else 0)) + b * (m k * (if thn z tm k 1 = t then 1 else 0))) : Nat) : Int)
        rw [iI_mul, iI_mul]
        by_cases q1 : t = thn z tm k 1
        · rw [← q1, gI_eq]
          by_cases q2 : t = thn z tm k 0
          · rw [← q2, gI_eq, o t ht, iI_add, iI_add, if_pos rfl]
            congr 1
            simp only [Int.natCast_add, Int.natCast_mul, Nat.mul_one]
            omega
          · rw [gI_nk q2, o t ht, iI_add, if_neg (fun h => q2 h.symm), if_pos rfl]
            congr 1
            simp only [Int.natCast_add, Int.natCast_mul, Nat.mul_one, Nat.mul_zero]
            omega
        · rw [gI_nk q1, if_neg (show ¬ (thn z tm k 1 = t) from fun h => q1 h.symm)]
          by_cases q2 : t = thn z tm k 0
          · rw [← q2, gI_eq, o t ht, iI_add, if_pos rfl]
            congr 1
            simp only [Int.natCast_add, Int.natCast_mul, Nat.mul_one, Nat.mul_zero]
            omega
          · rw [gI_nk q2, o t ht, if_neg (fun h => q2 h.symm)]
            simp
  show ∃ M', X2 d m_Mo_goesMany 0 [.ref 197, .int (iI a), .int (iI b), uns] [] M0 = _ ∧ _
  rw [e_Mo_goesMany_0]
  refine go 2560 0 M0 (by omega) ResM.rf hT (fun s hs => (hm s hs).1) ?_
  intro t ht
  rw [Nat.zero_min]
  exact (hm t ht).2
