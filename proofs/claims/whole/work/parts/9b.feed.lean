/-! feed. -/
theorem ImgR.fr2 {M M' : Mem} {z z' : Row} {S : List Nat} (h : ImgR M z) (hE : Eqx S M M') (hS : ∀ a, a ∈ S → a < 109 ∨ (109 < a ∧ a < 147) ∨ (188 < a ∧ a ≠ 199)) (hz : ∀ k, 971 ≤ k → z' k = z k) : ImgR M' z' := by
  have e : ∀ i, zim z' i = zim z i := fun i => by funext k; exact hz _ (by omega)
  have n : ∀ b, ¬ (b < 109 ∨ (109 < b ∧ b < 147) ∨ (188 < b ∧ b ≠ 199)) → b ∉ S := fun b hb q => hb (hS b q)
  intro i hi
  have n199 : 199 ∉ S := n _ (by omega)
  have n109 : 109 ∉ S := n _ (by omega)
  rw [e i, eqx_I hE n199, eqx_R hE n109]
  rcases h i hi with q | ⟨q1, ri, m, q2, q3, q4, q5, q6, q7, q8⟩
  · exact Or.inl q
  · refine Or.inr ⟨q1, ri, m, q2, q3, q4.fr (fun a ha => (hE a (n _ ?_)).1), q5, q6.fr (hE (187 + i) (n _ (by omega))).1, q7, q8⟩
    have h1 := roomS_ge ha
    have h2 := rm_mod q2
    omega
theorem toInt_cond (w : Int32) : w.toInt = if 2 * w.toUInt32.toNat < 4294967296 then (w.toUInt32.toNat : Int) else (w.toUInt32.toNat : Int) - 4294967296 := BitVec.toInt_eq_toNat_cond w.toBitVec
theorem byte_and (w : Int32) : w &&& iI 255 = iI ((w.toUInt32.toNat % 256 : Nat) : Int) := by
  apply Int32.toBitVec_inj.mp
  show w.toBitVec &&& BitVec.ofInt 32 255 = BitVec.ofInt 32 ((w.toUInt32.toNat % 256 : Nat) : Int)
  rw [BitVec.ofInt_natCast]
  apply BitVec.eq_of_toNat_eq
  rw [BitVec.toNat_and, BitVec.toNat_ofNat]
  have h := Nat.and_two_pow_sub_one_eq_mod w.toBitVec.toNat 8
  have e : (BitVec.ofInt 32 255).toNat = 2 ^ 8 - 1 := by decide
  rw [e, h]
  have : w.toUInt32.toNat % 256 < 2 ^ 32 := by omega
  rw [Nat.mod_eq_of_lt this]
  rfl
theorem bm8 (x : Int) : Int.bmod x (2 ^ 8) = if x % 256 < 128 then x % 256 else x % 256 - 256 := rfl
theorem byte_sg (w : Int32) : (w.toInt8.toInt32).toInt8.toInt32 = iI (sg8 (w.toUInt32.toNat % 256)) := by
  have h1 : w.toInt8.toInt32.toInt = Int.bmod w.toInt (2 ^ 8) := by rw [Int8.toInt_toInt32, Int32.toInt_toInt8]
  have h2 : ((w.toInt8.toInt32).toInt8.toInt32).toInt = Int.bmod (Int.bmod w.toInt (2 ^ 8)) (2 ^ 8) := by rw [Int8.toInt_toInt32, Int32.toInt_toInt8, h1]
  have h3 := iI_self ((w.toInt8.toInt32).toInt8.toInt32)
  rw [← h3, h2, bm8, bm8, toInt_cond]
  congr 1
  have hu := w.toUInt32.toNat_lt
  unfold sg8
  generalize w.toUInt32.toNat = u at *
  split <;> split <;> (try split) <;> (try split) <;> omega
theorem byte_both (w : Int32) : ∃ v : Nat, v ≤ 255 ∧ w &&& iI 255 = iI v ∧ (w.toInt8.toInt32).toInt8.toInt32 = iI (sg8 v) := ⟨w.toUInt32.toNat % 256, by omega, byte_and w, byte_sg w⟩
def byW (x : Int32) (i : Nat) : Int32 := x >>> (iI (24 - 8 * (i : Int)) &&& 31)
def fd5 (x1 x2 x3 x4 x5 : Int32) (i : Nat) : Int32 := if i < 4 then x1 else if i < 8 then x2 else if i < 12 then x3 else if i < 16 then x4 else x5
def ClsT (M : Mem) (n : Nat) (g : Nat → Int32) (i : Nat) (M' : Mem) : Prop := gI M' 100 1 = iI ((n + i : Nat) : Int) ∧ M'.2 = M.2 ∧ Eqx [100, 101] M M' ∧ ∀ k, gI M' 101 k = if n ≤ k ∧ k < n + i then ((byW (g (k - n)) ((k - n) % 4)).toInt8.toInt32).toInt8.toInt32 else gI M 101 k
theorem c_tapeFour (d : Nat) {M : Mem} {n : Nat} {g : Nat → Int32} {i : Nat} {x : Int32} (h4 : i % 4 = 0) (hg : ∀ j, j < 4 → g (i + j) = x) (hn : n + i + 4 ≤ 900) {M' : Mem} (h : ClsT M n g i M') : ∃ M'', c2 (d + 1) m_RW_tapeFour [.ref 100, .int x] M' = some (.null, M'') ∧ ClsT M n g (i + 4) M'' := by
  have st : ∀ (j : Nat) (M' : Mem), j < 4 → ClsT M n g (i + j) M' → ∃ M'', X2 d m_RW_tapeFour 3 [.ref 100, .int x, .int (iI (24 - 8 * (j : Int)))] [] M' = X2 d m_RW_tapeFour 3 [.ref 100, .int x, .int (iI (24 - 8 * ((j + 1 : Nat) : Int)))] [] M'' ∧ ClsT M n g (i + (j + 1)) M'' := by
    intro j M' hj ⟨a1, a2, a3, a4⟩
    refine ⟨wI (wI M' 100 1 (iI ((n + (i + j) + 1 : Nat) : Int))) 101 (n + (i + j)) ((byW x j).toInt8.toInt32).toInt8.toInt32, ?_, ?_, a2, eqx_wI (eqx_wI a3 (by simp)) (by simp), ?_⟩
    · rw [e_RW_tapeFour_3, if_neg (by rw [iI_lt0 (by omega) (by omega)]; omega), a1, if_pos (by rw [iI_lt (by omega) (by omega) (by omega) (by omega)]; omega), inb_ok (by omega) (by omega) (by omega), gb_T, ix_nat (by omega), iI_add, iI_add, show 24 - 8 * (j : Int) + -8 = 24 - 8 * ((j + 1 : Nat) : Int) by omega]
      rfl
    · rw [gI_na (by decide), gI_eq]; rfl
    · intro k
      rw [gI_wI, if_pos rfl, gI_na (by decide), a4]
      by_cases q : k = n + (i + j)
      · rw [if_pos q, if_pos (by omega), show k - n = i + j by omega, hg j hj, show (i + j) % 4 = j by omega]
      · rw [if_neg q]
        by_cases q2 : n ≤ k ∧ k < n + (i + j)
        · rw [if_pos q2, if_pos (by omega)]
        · rw [if_neg q2, if_neg (by omega)]
  obtain ⟨A1, e1, h1⟩ := st 0 M' (by decide) h
  obtain ⟨A2, e2, h2⟩ := st 1 A1 (by decide) h1
  obtain ⟨A3, e3, h3⟩ := st 2 A2 (by decide) h2
  obtain ⟨A4, e4, h4'⟩ := st 3 A3 (by decide) h3
  refine ⟨A4, ?_, h4'⟩
  show X2 d m_RW_tapeFour 0 [.ref 100, .int x, uns] [] M' = _
  have e1' : X2 d m_RW_tapeFour 3 [.ref 100, .int x, .int (iI 24)] [] M' = _ := e1
  rw [e_RW_tapeFour_0, e1', e2, e3, e4, e_RW_tapeFour_3, if_pos (by decide)]
def MoT (M : Mem) (n : Nat) (g : Nat → Int32) (i : Nat) (M' : Mem) : Prop := gI M' 197 5 = iI ((n + i : Nat) : Int) ∧ gI M' 197 13 = gI M 197 13 ∧ gI M' 197 14 = gI M 197 14 ∧ Eqx [197, 200] M M' ∧ ∀ k, gI M' 200 k = if n ≤ k ∧ k < n + i then byW (g (k - n)) ((k - n) % 4) &&& iI 255 else gI M 200 k
theorem c_feedM (d : Nat) {M : Mem} {n : Nat} (x1 x2 x3 x4 x5 : Int32) (hn : n + 20 ≤ 900) : ∀ (j i : Nat) (v7 : Value) (M' : Mem), j + i = 20 → MoT M n (fd5 x1 x2 x3 x4 x5) i M' → ∃ M'', X2 d m_Mo_feed 24 [.ref 197, .int x1, .int x2, .int x3, .int x4, .int x5, .int (iI i), v7] [] M' = some (.int (iI ((n + 20 : Nat) : Int)), M'') ∧ MoT M n (fd5 x1 x2 x3 x4 x5) 20 M'' := by
  intro j
  induction j with
  | zero =>
    intro i v7 M' hi h
    have hi' : i = 20 := by omega
    subst hi'
    have h1 := h.1
    refine ⟨M', ?_, h⟩
    rw [e_Mo_feed_24, if_neg (by decide), h1]
  | succ j ih =>
    intro i v7 M' hi h
    obtain ⟨a1, a2, a3, a4, a5⟩ := id h
    let A := wI (wI M' 200 (n + i) (byW (fd5 x1 x2 x3 x4 x5 i) (i % 4) &&& iI 255)) 197 5 (iI ((n + i + 1 : Nat) : Int))
    have hA : MoT M n (fd5 x1 x2 x3 x4 x5) (i + 1) A := by
      refine ⟨gI_eq _ _ _ _, ?_, ?_, eqx_wI (eqx_wI a4 (by simp)) (by simp), ?_⟩
      · show gI (wI (wI M' 200 _ _) 197 5 _) 197 13 = _
        rw [gI_nk (by decide), gI_na (by decide)]; exact a2
      · show gI (wI (wI M' 200 _ _) 197 5 _) 197 14 = _
        rw [gI_nk (by decide), gI_na (by decide)]; exact a3
      · intro k
        show gI (wI (wI M' 200 _ _) 197 5 _) 200 k = _
        rw [gI_na (by decide), gI_wI, if_pos rfl, a5]
        by_cases q : k = n + i
        · rw [if_pos q, if_pos (by omega), show k - n = i by omega]
        · rw [if_neg q]
          by_cases q2 : n ≤ k ∧ k < n + i
          · rw [if_pos q2, if_pos (by omega)]
          · rw [if_neg q2, if_neg (by omega)]
    have rm4 : irm (iI i) (iI 4) = iI ((i % 4 : Nat) : Int) := iI_rem (b := 4) (by omega) (by decide)
    have st : ∀ y0, fd5 x1 x2 x3 x4 x5 i = y0 → X2 d m_Mo_feed 77 [.ref 197, .int x1, .int x2, .int x3, .int x4, .int x5, .int (iI i), v7] [.int y0] M' = X2 d m_Mo_feed 24 [.ref 197, .int x1, .int x2, .int x3, .int x4, .int x5, .int (iI ((i + 1 : Nat) : Int)), .int y0] [] A := by
      intro y0 hy
      rw [e_Mo_feed_77, a1, inb_ok (by omega) (by omega) (by omega), gb_T, ix_nat (by omega), rm4, iI_mul, iI_sub, iI_add, iI_add, ← hy]
      rfl
    rw [e_Mo_feed_24, if_pos (by rw [iI_lt (by omega) (by omega) (by omega) (by omega)]; omega)]
    by_cases q4 : i < 4
    · rw [if_pos (by rw [iI_lt (by omega) (by omega) (by omega) (by omega)]; omega), st _ (if_pos q4)]
      exact ih (i + 1) _ A (by omega) hA
    rw [if_neg (by rw [iI_lt (by omega) (by omega) (by omega) (by omega)]; omega)]
    by_cases q8 : i < 8
    · rw [if_pos (by rw [iI_lt (by omega) (by omega) (by omega) (by omega)]; omega), st _ ((if_neg q4).trans (if_pos q8))]
      exact ih (i + 1) _ A (by omega) hA
    rw [if_neg (by rw [iI_lt (by omega) (by omega) (by omega) (by omega)]; omega)]
    by_cases q12 : i < 12
    · rw [if_pos (by rw [iI_lt (by omega) (by omega) (by omega) (by omega)]; omega), st _ ((if_neg q4).trans ((if_neg q8).trans (if_pos q12)))]
      exact ih (i + 1) _ A (by omega) hA
    rw [if_neg (by rw [iI_lt (by omega) (by omega) (by omega) (by omega)]; omega)]
    by_cases q16 : i < 16
    · rw [if_pos (by rw [iI_lt (by omega) (by omega) (by omega) (by omega)]; omega), st _ ((if_neg q4).trans ((if_neg q8).trans ((if_neg q12).trans (if_pos q16))))]
      exact ih (i + 1) _ A (by omega) hA
    · rw [if_neg (by rw [iI_lt (by omega) (by omega) (by omega) (by omega)]; omega), st _ ((if_neg q4).trans ((if_neg q8).trans ((if_neg q12).trans (if_neg q16))))]
      exact ih (i + 1) _ A (by omega) hA
theorem s_feed (x1 x2 x3 x4 x5 : Int32) : Step m_RW_feed m_Mo_feed [.int x1, .int x2, .int x3, .int x4, .int x5] := by
  intro d M b hRel hb
  have hRel0 := hRel
  obtain ⟨r, tm0, st, nx, nd, m, f, so, tn, tv, z, hS, hst, h5, hm, okm, rq, hmo, hpc, hpm, hof, hrest⟩ := hRel
  obtain ⟨hTC, hTM, hI, ⟨n, t1, t2, t3, t4⟩, hF1, hF2⟩ := hrest
  have ec : c2 (d + 80) m_RW_feed [.ref 100, .int x1, .int x2, .int x3, .int x4, .int x5] M = _ := e_RW_feed_0 (d + 79) x1 x2 x3 x4 x5 M
  rw [t1, iI_add] at ec
  by_cases hn : n + 20 ≤ 900
  · rw [if_neg (by rw [iI_lt (by omega) (by omega) (by omega) (by omega)]; omega)] at ec
    let g := fd5 x1 x2 x3 x4 x5
    have h0 : ClsT M n g 0 M := ⟨t1, rfl, Eqx.rf, fun k => (if_neg (by omega)).symm⟩
    obtain ⟨A1, e1, h1⟩ := c_tapeFour (d + 78) (x := x1) (by decide) (fun j hj => if_pos (show 0 + j < 4 by omega)) (by omega) h0
    obtain ⟨A2, e2, h2⟩ := c_tapeFour (d + 78) (x := x2) (by decide) (fun j hj => (if_neg (show ¬ (0 + 4 + j < 4) by omega)).trans (if_pos (by omega))) (by omega) h1
    obtain ⟨A3, e3, h3⟩ := c_tapeFour (d + 78) (x := x3) (by decide) (fun j hj => (if_neg (show ¬ (0 + 4 + 4 + j < 4) by omega)).trans ((if_neg (by omega)).trans (if_pos (by omega)))) (by omega) h2
    obtain ⟨A4, e4, h4⟩ := c_tapeFour (d + 78) (x := x4) (by decide) (fun j hj => (if_neg (show ¬ (0 + 4 + 4 + 4 + j < 4) by omega)).trans ((if_neg (by omega)).trans ((if_neg (by omega)).trans (if_pos (by omega))))) (by omega) h3
    obtain ⟨A5, e5, h5'⟩ := c_tapeFour (d + 78) (x := x5) (by decide) (fun j hj => (if_neg (show ¬ (0 + 4 + 4 + 4 + 4 + j < 4) by omega)).trans ((if_neg (by omega)).trans ((if_neg (by omega)).trans (if_neg (by omega))))) (by omega) h4
    obtain ⟨a1, a2, a3, a4⟩ := (show ClsT M n g 20 A5 from h5')
    rw [e1, bV_some, e2, bV_some, e3, bV_some, e4, bV_some, e5, bV_some, a1] at ec
    have p5 : gI A5 197 5 = iI n := (eqx_I a3 (by decide) 5).trans t2
    have m0 : MoT A5 n g 0 (wI A5 197 0 (iI 0)) := ⟨by rw [gI_nk (by decide)]; exact p5, gI_nk (by decide), gI_nk (by decide), eqx_wI Eqx.rf (by simp), fun k => by rw [if_neg (by omega), gI_na (by decide)]⟩
    obtain ⟨M2, em, b1, b2, b3, b4, b5⟩ := c_feedM (d + 79) x1 x2 x3 x4 x5 hn 20 0 uns _ (by omega) m0
    have em' : c2 (d + 80) m_Mo_feed [.ref 197, .int x1, .int x2, .int x3, .int x4, .int x5] A5 = some (.int (iI ((n + 20 : Nat) : Int)), M2) := by
      show X2 (d + 79) m_Mo_feed 0 [.ref 197, .int x1, .int x2, .int x3, .int x4, .int x5, uns, uns] [] A5 = _
      rw [e_Mo_feed_0, p5, iI_add, if_neg (by rw [iI_lt (by omega) (by omega) (by omega) (by omega)]; omega)]
      exact em
    have hE : Eqx [100, 101, 197, 200] M M2 := (a3.mono (by simp)).tr (b4.mono (by simp))
    have x198 : M2.1 198 = M.1 198 := (hE 198 (by decide)).1
    refine ⟨_, A5, M2, ec, em', ⟨r, tm0, st, nx, nd, m, f, so, tn, tv, z, hS.fq hE (by intro a ha; simp only [List.mem_cons, List.not_mem_nil, or_false] at ha; omega), by omega, ?_, hm.fr (hE 111 (by decide)).1, okm, ?_, ?_, hpc.fr hE (by intro a ha; simp only [List.mem_cons, List.not_mem_nil, or_false] at ha; omega), ?_, hof, ?_, ?_, ?_, ?_, ?_⟩, (hE 0 (by decide)).1, (hE 1 (by decide)).1⟩
    · rw [eqx_R b4 (by decide)]
      show A5.2.2 100 5 = r
      rw [a2]; exact h5
    · rw [x198]; exact rq
    · rw [x198]; exact hmo
    · rw [x198]; exact hpm
    · exact hTC.fr hE (by intro a ha; simp only [List.mem_cons, List.not_mem_nil, or_false] at ha; omega)
    · exact hTM.fr (hE 213 (by decide)).1 (hE 214 (by decide)).1 (hE 215 (by decide)).2.1
    · rw [x198]; exact hI.fr2 hE (by intro a ha; simp only [List.mem_cons, List.not_mem_nil, or_false] at ha; omega) (fun _ _ => rfl)
    · refine ⟨n + 20, (eqx_I b4 (by decide) 1).trans a1, b1, by omega, fun k hk => ?_⟩
      have a4k := a4 k
      have b5k := b5 k
      rw [show gI M2 101 k = gI A5 101 k from eqx_I b4 (by decide) k, a4k, b5k]
      by_cases q : n ≤ k ∧ k < n + 20
      · rw [if_pos q, if_pos q]
        exact byte_both _
      · rw [if_neg q, if_neg q, eqx_I a3 (by decide)]
        exact t4 k hk
    · exact ⟨((eqx_I hE (by decide) 11).trans hF1).trans ((b2.trans (eqx_I a3 (by decide) 13)).symm), ((eqx_I hE (by decide) 12).trans hF2).trans ((b3.trans (eqx_I a3 (by decide) 14)).symm)⟩
  · rw [if_pos (by rw [iI_lt (by omega) (by omega) (by omega) (by omega)]; omega)] at ec
    refine ⟨iI (-5), M, wI M 197 0 (iI 0), ec, ?_, fin_same hRel0 (Eqx.rf : Eqx [] M M) (fun a ha => absurd ha (List.not_mem_nil)) (eqx_wI Eqx.rf (by simp) : Eqx [197] M _) (by intro a ha; simp only [List.mem_cons, List.not_mem_nil, or_false] at ha; omega) (fun k hk => by rw [gI_nk (by omega)]) (wI_na (by decide))⟩
    show X2 (d + 79) m_Mo_feed 0 [.ref 197, .int x1, .int x2, .int x3, .int x4, .int x5, uns, uns] [] M = _
    rw [e_Mo_feed_0, t2, iI_add, if_pos (by rw [iI_lt (by omega) (by omega) (by omega) (by omega)]; omega)]
