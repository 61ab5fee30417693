/-! THE REFERENCE: a night passed. -/
def upr (z : Row) (k : Nat) (v : Int32) : Row := fun j => if j = k then v else z j
theorem upr_eq (z : Row) (k : Nat) (v : Int32) : upr z k v k = v := if_pos rfl
theorem upr_ne {z : Row} {k j : Nat} {v : Int32} (h : j ≠ k) : upr z k v j = z j := if_neg h
theorem wI_row (M : Mem) (k : Nat) (v : Int32) : (wI M 198 k v).1 198 = upr (M.1 198) k v := wI_at M 198 k v
theorem c_Mo_goesNight (d : Nat) {M : Mem} {tm w who bl : Nat} (hz : OkZ (M.1 198)) (ht : gI M 198 27 = iI tm) (h1 : gI M 198 25 = iI w) (h2 : gI M 198 26 = iI who) (hw : w < 512) (hwho : WhoOk (M.1 198) who) :
    ∃ M', c2 (d + 6) m_Mo_goesNight [.ref 197, .int (iI bl)] M = some (.null, M') ∧ Eqx [198, 202, 203] M M' ∧ M'.1 198 = upr (upr (upr (M.1 198) 25 (iI ((nxt (M.1 198) tm (5 * w + who) bl / 5 : Nat) : Int))) 26 (iI ((nxt (M.1 198) tm (5 * w + who) bl % 5 : Nat) : Int))) 28 (gI M 198 28 + iI 1) := by
  show ∃ M', X2 (d + 5) m_Mo_goesNight 0 [.ref 197, .int (iI bl), uns] [] M = _ ∧ _
  have h4 := hwho.le hz
  have e0 : iI 5 * iI w + iI who = iI ((5 * w + who : Nat) : Int) := by rw [iI_mul, iI_add]; rfl
  have hmod : WhoOk (M.1 198) ((5 * w + who) % 5) := by rw [show (5 * w + who) % 5 = who by omega]; exact hwho
  obtain ⟨M1, e1, hE⟩ := c_Mo_standThen d (M := M) (tm := tm) (s := 5 * w + who) (bl := bl) hz ht (by omega) hmod
  have hx : M1.1 198 = M.1 198 := (hE 198 (by decide)).1
  have hwl := wallT_lt hz tm ((5 * w + who) / 5) ((5 * w + who) % 5) bl
  have hlt : nxt (M.1 198) tm (5 * w + who) bl ≤ 2147483647 := by
    unfold nxt whoT; split <;> omega
  rw [e_Mo_goesNight_0, c_Mo_standNow, bI_some, h1, h2, e0, e1, bI_some, show iI 5 = iI ((5 : Nat) : Int) from rfl, iI_div hlt (by decide), iI_rem hlt (by decide)]
  refine ⟨_, rfl, eqx_wI (eqx_wI (eqx_wI (hE.mono (by simp)) (by simp)) (by simp)) (by simp), ?_⟩
  rw [wI_row, wI_row, wI_row, hx, eqx_I hE (by decide)]
