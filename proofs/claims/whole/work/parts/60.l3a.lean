/-! BOTH SIDES: what questions read, and what they leave. -/
def scr (r : Nat) : List Nat := [112, 113, 127, 128, 129, 130, 131, 132, 133, 134, 135, 136, 137, 138, 139, 140, 141, 142, 143, 144, 145, 146, r + 6, r + 9]
theorem scr_mem {r a : Nat} : a ∈ scr r ↔ (a = 112 ∨ a = 113 ∨ (127 ≤ a ∧ a ≤ 146) ∨ a = r + 6 ∨ a = r + 9) := by
  simp only [scr, List.mem_cons, List.not_mem_nil, or_false]; omega
theorem scr_sub {r : Nat} {S : List Nat} (h : ∀ a, a ∈ S → (127 ≤ a ∧ a ≤ 146) ∨ a = 112 ∨ a = 113 ∨ a = r + 6 ∨ a = r + 9) : ∀ a, a ∈ S → a ∈ scr r := fun a ha => scr_mem.mpr (by have := h a ha; omega)
theorem scr_n {r a : Nat} (hr : 147 ≤ r) (h : a < 112 ∨ (113 < a ∧ a < 127) ∨ (146 < a ∧ a < r) ∨ (r ≤ a ∧ a ≠ r + 6 ∧ a ≠ r + 9)) : a ∉ scr r := fun q => by
  have := scr_mem.mp q; omega
/-- what a question reads of the class -/
def QC (M : Mem) (r : Nat) (z : Row) (w who tm : Nat) (ni : Int32) (st : Nat) : Prop := (∃ tm0, StepsC M r z tm0 st) ∧ gR M 100 5 = r ∧ MomR M 111 w who tm ni ∧ OkS z (5 * w + who) ∧ tm < 10 ∧ who < 5 ∧ w < 512
theorem QC.rm {M : Mem} {r : Nat} {z : Row} {w who tm st : Nat} {ni : Int32} (h : QC M r z w who tm ni st) : r ∈ rooms := by
  obtain ⟨⟨tm0, hS⟩, _⟩ := h; exact hS.1
theorem QC.rl {M : Mem} {r : Nat} {z : Row} {w who tm st : Nat} {ni : Int32} (h : QC M r z w who tm ni st) : 147 ≤ r ∧ r ≤ 177 := rm_lt r h.rm
theorem QC.okz {M : Mem} {r : Nat} {z : Row} {w who tm st : Nat} {ni : Int32} (h : QC M r z w who tm ni st) : OkZ z := by
  obtain ⟨⟨tm0, hS⟩, _⟩ := h; exact hS.2.2.2.1
theorem QC.room {M : Mem} {r : Nat} {z : Row} {w who tm st : Nat} {ni : Int32} (h : QC M r z w who tm ni st) : RoomR M r z := by
  obtain ⟨⟨tm0, hS⟩, _⟩ := h; exact hS.2.2.1
theorem QC.fr {M M' : Mem} {r : Nat} {z : Row} {w who tm st tm' st' : Nat} {ni : Int32} (h : QC M r z w who tm ni st) (hE : Eqx (scr r) M M') (hS : StepsC M' r z tm' st') : QC M' r z w who tm ni st' := by
  have hr := h.rl
  obtain ⟨_, h2, h3, h4⟩ := h
  exact ⟨⟨tm', hS⟩, (eqx_R hE (scr_n hr.1 (by omega)) 5).trans h2, h3.fr (hE 111 (scr_n hr.1 (by omega))).1, h4⟩
theorem StepsC.fq {M M' : Mem} {r : Nat} {z : Row} {tm st : Nat} {S : List Nat} (h : StepsC M r z tm st) (hE : Eqx S M M') (hS : ∀ a, a ∈ S → (131 < a ∧ a < 147) ∨ (99 < a ∧ a < 127) ∨ 186 < a ∨ a = r + 6 ∨ a = r + 9 ∨ a = 130) : StepsC M' r z tm st := by
  have hr := rm_lt r h.1
  have n : ∀ b, (b = 127 ∨ b = 128 ∨ b = 129 ∨ b = 131) → b ∉ S := fun b hb q => by have := hS b q; omega
  refine h.fr hE (n _ (by omega)) (n _ (by omega)) (n _ (by omega)) (n _ (by omega)) ?_
  intro a ha q
  have h1 := roomS_ge ha
  have h2 := hS a q
  omega
theorem QC.hre (d : Nat) {M : Mem} {r : Nat} {z : Row} {w who tm st : Nat} {ni : Int32} (h : QC M r z w who tm ni st) (hst : st < 100000) :
    ∃ M' st', c2 (d + 3) m_RW_here [.ref 100] M = some (.int (iI ((w + 512 * who : Nat) : Int)), M') ∧ Eqx (scr r) M M' ∧ StepsC M' r z tm st' ∧ st' ≤ st + 1 ∧ QC M' r z w who tm ni st' := by
  obtain ⟨⟨tm0, hS⟩, h2, h3, h4, h5, h6, h7⟩ := id h
  obtain ⟨M', st', e, hE, hS', hle, hm⟩ := c_RW_here d hS h3 h7 h6 h5 hst
  have hE' : Eqx (scr r) M M' := hE.mono (scr_sub (by simp))
  exact ⟨M', st', e, hE', hS', hle, h.fr hE' hS'⟩
theorem c_Stp_passS (d : Nat) {M : Mem} {r : Nat} {z : Row} {tm0 st tm p bl : Nat} (hS : StepsC M r z tm0 st) (htm : tm < 10) (hp : p < 2560) (hbl : bl < 2) :
    ∃ M', c2 (d + 4) m_Stp_pass [.ref 127, .int (iI p), .int (iI bl), .int (iI tm)] M = some (.int (iI (pas z tm p bl)), M') ∧ Eqx [128, 129, 130, r + 6, r + 9] M M' ∧ StepsC M' r z tm0 st := by
  obtain ⟨hr, h0, hR, hz, hT, hG, htm1, htm9, hst, hst2, hC⟩ := hS
  have hrl := rm_lt r hr
  obtain ⟨M1, e1, hE1, hT1, hG1⟩ := c_Stp_pass d (tm := tm) (p := p) (bl := bl) hr h0 hR hz hT hG htm hp hbl
  refine ⟨M1, e1, hE1, hr, (eqx_R hE1 (by simp <;> omega) 0).trans h0, hR.fr (fun b hb => (hE1 b (by have := roomS_ge hb; simp <;> omega)).1), hz, hT1, hG1, (eqx_I hE1 (by simp <;> omega) 1).trans htm1, htm9, (eqx_I hE1 (by simp <;> omega) 6).trans hst, hst2, ?_⟩
  intro p' bl' hp' hbl'
  obtain ⟨e', s', g1, g2⟩ := hC p' bl' hp' hbl'
  exact ⟨e', s', (eqx_I hE1 (by simp <;> omega) _).trans g1, g2⟩
theorem c_Stp_isGoingS (d : Nat) {M : Mem} {r : Nat} {z : Row} {tm0 st t w bl : Nat} (hS : StepsC M r z tm0 st) (ht : t < 5) (hw : w < 512) (hbl : bl < 2) :
    ∃ M', c2 (d + 3) m_Stp_isGoing [.ref 127, .int (iI w), .int (iI t), .int (iI bl)] M = some (.int (iI (b2i (goT z t w bl))), M') ∧ Eqx [129, 130, r + 9] M M' ∧ StepsC M' r z tm0 st := by
  obtain ⟨hr, h0, hR, hz, hT, hG, htm1, htm9, hst, hst2, hC⟩ := hS
  have hrl := rm_lt r hr
  obtain ⟨M1, e1, hE1, hG1⟩ := c_Stp_isGoing d (t := t) (w := w) (bl := bl) hr h0 hR hz ht hw hbl hG
  refine ⟨M1, e1, hE1, hr, (eqx_R hE1 (by simp <;> omega) 0).trans h0, hR.fr (fun b hb => (hE1 b (by have := roomS_ge hb; simp <;> omega)).1), hz, hT.fr (hE1 128 (by simp <;> omega)).2.1, hG1, (eqx_I hE1 (by simp <;> omega) 1).trans htm1, htm9, (eqx_I hE1 (by simp <;> omega) 6).trans hst, hst2, ?_⟩
  intro p' bl' hp' hbl'
  obtain ⟨e', s', g1, g2⟩ := hC p' bl' hp' hbl'
  exact ⟨e', s', (eqx_I hE1 (by simp <;> omega) _).trans g1, g2⟩
/-- what a question reads of the reference -/
def QM (M : Mem) (z : Row) (w who tm : Nat) : Prop := M.1 198 = z ∧ OkZ z ∧ z 25 = iI w ∧ z 26 = iI who ∧ z 27 = iI tm ∧ OkS z (5 * w + who) ∧ tm < 10 ∧ who < 5 ∧ w < 512
theorem QM.fr {M M' : Mem} {z : Row} {w who tm : Nat} (h : QM M z w who tm) (hf : M'.1 198 = M.1 198) : QM M' z w who tm := ⟨hf.trans h.1, h.2⟩
theorem QM.okz {M : Mem} {z : Row} {w who tm : Nat} (h : QM M z w who tm) : OkZ (M.1 198) := by rw [h.1]; exact h.2.1
theorem QM.g {M : Mem} {z : Row} {w who tm : Nat} (h : QM M z w who tm) (k : Nat) : gI M 198 k = z k := by rw [gI, h.1]
theorem QM.tm {M : Mem} {z : Row} {w who tm : Nat} (h : QM M z w who tm) : gI M 198 27 = iI tm := (h.g 27).trans h.2.2.2.2.1
theorem QM.w {M : Mem} {z : Row} {w who tm : Nat} (h : QM M z w who tm) : gI M 198 25 = iI w := (h.g 25).trans h.2.2.1
theorem QM.who {M : Mem} {z : Row} {w who tm : Nat} (h : QM M z w who tm) : gI M 198 26 = iI who := (h.g 26).trans h.2.2.2.1
theorem QM.ok {M : Mem} {z : Row} {w who tm : Nat} (h : QM M z w who tm) : OkS (M.1 198) (5 * w + who) := by rw [h.1]; exact h.2.2.2.2.2.1
theorem QM.whoOk {M : Mem} {z : Row} {w who tm : Nat} (h : QM M z w who tm) : WhoOk (M.1 198) who := by
  have a := h.ok.2
  have b := h.2.2.2.2.2.2.2.1
  rw [show (5 * w + who) % 5 = who by omega] at a
  exact a
theorem QM.stand {M : Mem} {z : Row} {w who tm : Nat} (h : QM M z w who tm) : StandM M (5 * w + who) := by
  unfold StandM
  rw [h.w, h.who, iI_mul, iI_add]; rfl
def Eq7 (M M' : Mem) : Prop := ∀ k, k = 5 ∨ k = 13 ∨ k = 14 → gI M' 197 k = gI M 197 k
def refQ : List Nat := [202, 203, 204, 205, 206, 207, 208, 209, 210, 211, 212]
def ResM (M M' : Mem) : Prop := Eqx (197 :: 198 :: refQ) M M' ∧ M'.1 198 = M.1 198 ∧ Eq7 M M'
theorem refQ_mem {a : Nat} : a ∈ refQ ↔ (202 ≤ a ∧ a ≤ 212) := by
  simp only [refQ, List.mem_cons, List.not_mem_nil, or_false]; omega
theorem ResM.rf {M : Mem} : ResM M M := ⟨Eqx.rf, rfl, fun _ _ => rfl⟩
theorem ResM.tr {M M1 M2 : Mem} (h1 : ResM M M1) (h2 : ResM M1 M2) : ResM M M2 := ⟨h1.1.tr h2.1, h2.2.1.trans h1.2.1, fun k hk => (h2.2.2 k hk).trans (h1.2.2 k hk)⟩
theorem ResM.of {S : List Nat} {M M' : Mem} (hE : Eqx S M M') (hS : ∀ a, a ∈ S → 202 ≤ a ∧ a ≤ 212) : ResM M M' := by
  have n : ∀ b, b < 202 → b ∉ S := fun b hb q => by have := hS b q; omega
  refine ⟨hE.mono (fun a ha => ?_), (hE 198 (n _ (by decide))).1, fun k _ => eqx_I hE (n _ (by decide)) k⟩
  exact List.mem_cons_of_mem _ (List.mem_cons_of_mem _ (refQ_mem.mpr (hS a ha)))
theorem ResM.put {M M' : Mem} (h : ResM M M') {k : Nat} {v : Int32} (hk : k ≠ 5 ∧ k ≠ 13 ∧ k ≠ 14) : ResM M (wI M' 197 k v) := by
  refine ⟨eqx_wI h.1 (by simp), ?_, ?_⟩
  · rw [wI_na (by decide)]; exact h.2.1
  · intro j hj
    rw [gI_nk (by omega)]; exact h.2.2 j hj
theorem ResM.thr (M : Mem) : ResM M (wI M 197 0 (iI 0)) := ResM.rf.put (by decide)
theorem QM.res {M M' : Mem} {z : Row} {w who tm : Nat} (h : QM M z w who tm) (hf : ResM M M') : QM M' z w who tm := h.fr hf.2.1
/-- one question: both sides answer alike -/
def Pair (mc mm : MD) (as : List Value) (z : Row) (w who tm : Nat) : Prop := ∃ v : Int32,
  (∀ d M r ni st, QC M r z w who tm ni st → st < 99999 → ∃ M' st', c2 (d + 80) mc (.ref 100 :: as) M = some (.int v, M') ∧ Eqx (scr r) M M' ∧ QC M' r z w who tm ni st' ∧ st' ≤ st + 1) ∧
  (∀ d M, QM M z w who tm → ∃ M', c2 (d + 80) mm (.ref 197 :: as) M = some (.int v, M') ∧ ResM M M')
theorem RoomR.g3 {M : Mem} {r : Nat} {z : Row} (h : RoomR M r z) (hz : OkZ z) : gI M r 3 = iI (zn z 3) := h.1.2.2.2.1.trans (zn_eq hz.1.2.2.1 (by decide))
theorem zn3_le {z : Row} (hz : OkZ z) : zn z 3 ≤ 4 := by have := zn_rng hz.1.2.2.1 (by decide); omega
