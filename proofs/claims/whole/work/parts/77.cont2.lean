/-! THE CONTEST: the class's cells. -/
def ConM (M : Mem) (S K : Nat) (q : Nat → Nat) (lv lf : Nat → Int) : Prop := gI M 140 3 = iI S ∧ (∀ j, j < S → gI M 143 j = iI (q j)) ∧ (∀ s, s < 2048 → gI M 141 s = iI (lv s)) ∧ (∀ s, s < 2 * K → gI M 142 s = iI (lf s))
def conL : List Nat := [140, 141, 142, 143]
theorem c_Con_hit (d : Nat) {M : Mem} {S K s : Nat} {q : Nat → Nat} {lv lf : Nat → Int} (h : ConM M S K q lv lf) (hK : K ≤ 1024) (hs : s < 2 * K) (hS : S < 2048) (hl : lf s = 1) (l : Int) :
    ∃ M', c2 (d + 1) m_Con_leadOut [.ref 140, .int (iI s), .int (iI l)] M = some (.null, M') ∧ ConM M' (S + 1) K (upn q S s) (upI lv s l) (upI lf s (lf s - 1)) ∧ Eqx [140, 141, 142, 143] M M' := by
  obtain ⟨h1, h2, h3, h4⟩ := h
  show ∃ M', X2 d m_Con_leadOut 0 [.ref 140, .int (iI s), .int (iI l)] [] M = _ ∧ _
  have e1 : iI 1 - iI 1 = iI 0 := by decide
  rw [e_Con_leadOut_0, if_neg (by rw [iI_lt0 (by omega) (by omega)]; omega), if_pos (by rw [iI_lt (by omega) (by omega) (by omega) (by omega)]; omega), inb_ok (by omega) (by omega) (by omega), gb_T, gb_T, gb_T, gb_T, ix_nat (by omega), h4 s hs, hl, e1, gI_eq, if_pos (show iI 0 = 0 from rfl), h1, if_pos (by rw [iI_lt (by omega) (by omega) (by omega) (by omega)]; omega), inb_ok (by omega) (by omega) (by omega), gb_T, ix_nat (by omega), iI_add]
  refine ⟨_, rfl, ⟨?_, ?_, ?_, ?_⟩, eqx_wI (eqx_wI (eqx_wI (eqx_wI Eqx.rf (by simp)) (by simp)) (by simp)) (by simp)⟩
  · rw [gI_na (by decide), gI_eq]; rfl
  · intro j hj
    by_cases w : j = S
    · subst w; rw [gI_eq, upn_eq]
    · rw [gI_nk w, gI_na (by decide), gI_na (by decide), gI_na (by decide), upn_lt (by omega)]; exact h2 j (by omega)
  · intro t ht
    rw [gI_na (by decide), gI_na (by decide)]
    by_cases w : t = s
    · subst w; rw [gI_eq, upI_eq]
    · rw [gI_nk w, gI_na (by decide), upI_ne w]; exact h3 t ht
  · intro t ht
    rw [gI_na (by decide), gI_na (by decide), gI_na (by decide)]
    by_cases w : t = s
    · subst w; rw [gI_eq, upI_eq]; rfl
    · rw [gI_nk w, upI_ne w]; exact h4 t ht
theorem c_Con_no (d : Nat) {M : Mem} {S K s : Nat} {q : Nat → Nat} {lv lf : Nat → Int} (h : ConM M S K q lv lf) (hK : K ≤ 1024) (hs : s < 2 * K) (hl : lf s ≠ 1) (hl2 : -10 ≤ lf s ∧ lf s ≤ 10) (l : Int) :
    ∃ M', c2 (d + 1) m_Con_leadOut [.ref 140, .int (iI s), .int (iI l)] M = some (.null, M') ∧ ConM M' S K q lv (upI lf s (lf s - 1)) ∧ Eqx [140, 141, 142, 143] M M' := by
  obtain ⟨h1, h2, h3, h4⟩ := h
  show ∃ M', X2 d m_Con_leadOut 0 [.ref 140, .int (iI s), .int (iI l)] [] M = _ ∧ _
  rw [e_Con_leadOut_0, if_neg (by rw [iI_lt0 (by omega) (by omega)]; omega), if_pos (by rw [iI_lt (by omega) (by omega) (by omega) (by omega)]; omega), inb_ok (by omega) (by omega) (by omega), gb_T, gb_T, gb_T, ix_nat (by omega), h4 s hs, iI_sub, gI_eq, if_neg (by rw [iI_eq0 (by omega) (by omega)]; omega)]
  refine ⟨_, rfl, ⟨?_, ?_, ?_, ?_⟩, eqx_wI Eqx.rf (by simp)⟩
  · rw [gI_na (by decide)]; exact h1
  · intro j hj
    rw [gI_na (by decide)]; exact h2 j hj
  · intro t ht
    rw [gI_na (by decide)]; exact h3 t ht
  · intro t ht
    by_cases w : t = s
    · subst w; rw [gI_eq, upI_eq]
    · rw [gI_nk w, upI_ne w]; exact h4 t ht
/-- the latest edge below k that leads to n -/
def pv (em : Nat → Bool) (to : Nat → Nat) (n : Nat) : Nat → Int
  | 0 => -1
  | k + 1 => if em (k / 2) = false ∧ to k = n then (k : Int) else pv em to n k
theorem pv_rng (em : Nat → Bool) (to : Nat → Nat) (n : Nat) : ∀ k, -1 ≤ pv em to n k ∧ pv em to n k < k
  | 0 => ⟨by show (-1 : Int) ≤ -1; omega, by show (-1 : Int) < _; omega⟩
  | k + 1 => by
    have := pv_rng em to n k
    rw [pv]; split <;> omega
theorem pv_none {em : Nat → Bool} {to : Nat → Nat} {n : Nat} : ∀ k, pv em to n k < 0 → ∀ e, e < k → em (e / 2) = false → to e ≠ n
  | 0, _, e, h, _ => absurd h (Nat.not_lt_zero e)
  | k + 1, hk, e, h, h2 => by
    rw [pv] at hk
    split at hk
    · omega
    · rename_i w
      by_cases x : e = k
      · subst x; exact fun y => w ⟨h2, y⟩
      · exact pv_none k hk e (by omega) h2
theorem pv_some {em : Nat → Bool} {to : Nat → Nat} {n : Nat} : ∀ (k e : Nat), pv em to n k = (e : Int) → e < k ∧ em (e / 2) = false ∧ to e = n ∧ ∀ e', e < e' → e' < k → em (e' / 2) = false → to e' ≠ n
  | 0, e, h => by
    have : (-1 : Int) = e := h
    omega
  | k + 1, e, h => by
    rw [pv] at h
    split at h
    · rename_i w
      have : k = e := by omega
      subst this
      exact ⟨by omega, w.1, w.2, fun e' h1 h2 => by omega⟩
    · rename_i w
      obtain ⟨a, b, c, d⟩ := pv_some k e h
      refine ⟨by omega, b, c, fun e' h1 h2 h3 => ?_⟩
      by_cases x : e' = k
      · subst x; exact fun y => w ⟨h3, y⟩
      · exact d e' h1 (by omega) h3
/-- the graph that the contest is on -/
def GrM (M : Mem) (N : Nat) (em : Nat → Bool) (to : Nat → Nat) : Prop := gI M 133 1 = iI N ∧ N ≤ 1024 ∧ (∀ n, n < N → ∃ p : Nat, gI M 134 n = iI p ∧ p < 2560 ∧ em n = decide (p / 512 = 4)) ∧ (∀ n b, n < N → em n = false → b < 2 → gI M 135 (2 * n + b) = iI (to (2 * n + b)) ∧ to (2 * n + b) < N)
theorem GrM.fr {M M' : Mem} {N : Nat} {em : Nat → Bool} {to : Nat → Nat} (h : GrM M N em to) (h1 : M'.1 133 = M.1 133) (h2 : M'.1 134 = M.1 134) (h3 : M'.1 135 = M.1 135) : GrM M' N em to := by
  unfold GrM gI at *; rw [h1, h2, h3]; exact h
def EdgM (M : Mem) (em : Nat → Bool) (to : Nat → Nat) (k : Nat) : Prop := (∀ n, n < 1024 → gI M 144 n = iI (pv em to n k)) ∧ (∀ e, e < k → em (e / 2) = false → gI M 145 e = iI (pv em to (to e) e))
theorem EdgM.fr {M M' : Mem} {em : Nat → Bool} {to : Nat → Nat} {k : Nat} (h : EdgM M em to k) (h1 : M'.1 144 = M.1 144) (h2 : M'.1 145 = M.1 145) : EdgM M' em to k := by
  unfold EdgM gI at *; rw [h1, h2]; exact h
theorem c_Con_addEdge (d : Nat) {M : Mem} {em : Nat → Bool} {to : Nat → Nat} {k : Nat} (h : EdgM M em to k) (hk : k < 2048) (he : em (k / 2) = false) (ht : to k < 1024) :
    ∃ M', c2 (d + 1) m_Con_addEdge [.ref 140, .int (iI k), .int (iI (to k))] M = some (.null, M') ∧ EdgM M' em to (k + 1) ∧ Eqx [144, 145] M M' := by
  show ∃ M', X2 d m_Con_addEdge 0 [.ref 140, .int (iI k), .int (iI (to k))] [] M = _ ∧ _
  rw [e_Con_addEdge_0, if_neg (by rw [iI_lt0 (by omega) (by omega)]; omega), if_pos (by rw [iI_lt (by omega) (by omega) (by omega) (by omega)]; omega), if_neg (by rw [iI_lt0 (by omega) (by omega)]; omega), if_pos (by rw [iI_lt (by omega) (by omega) (by omega) (by omega)]; omega), inb_ok (by omega) (by omega) (by omega), gb_T, inb_ok (by omega) (by omega) (by omega), gb_T, gb_T, ix_nat (by omega), ix_nat (by omega), h.1 _ ht]
  refine ⟨_, rfl, ⟨?_, ?_⟩, eqx_wI (eqx_wI Eqx.rf (by simp)) (by simp)⟩
  · intro n hn
    rw [pv]
    by_cases w : n = to k
    · subst w; rw [gI_eq, if_pos ⟨he, rfl⟩]
    · rw [gI_nk w, gI_na (by decide), if_neg (fun x => w x.2.symm)]; exact h.1 n hn
  · intro e he1 he2
    rw [gI_na (by decide)]
    by_cases w : e = k
    · subst w; rw [gI_eq]
    · rw [gI_nk w]; exact h.2 e (by omega) he2
theorem EdgM.skip {M : Mem} {em : Nat → Bool} {to : Nat → Nat} {k : Nat} (h : EdgM M em to k) (he : em (k / 2) = true) : EdgM M em to (k + 1) := by
  refine ⟨fun n hn => ?_, fun e h1 h2 => ?_⟩
  · rw [pv, if_neg (fun x => by rw [he] at x; exact absurd x.1 (by decide))]; exact h.1 n hn
  · by_cases w : e = k
    · subst w; rw [he] at h2; exact absurd h2 (by decide)
    · exact h.2 e (by omega) h2
/-- behind the beginning of k nodes -/
def BInv (em : Nat → Bool) (bt k S : Nat) (q : Nat → Nat) (lv lf : Nat → Int) : Prop :=
  (∀ j, j < S → q j < 2 * k ∧ lv (q j) = 0 ∧ em (q j / 2) = true) ∧ (∀ s, (0 ≤ lv s → ∃ j, j < S ∧ q j = s) ∧ -1 ≤ lv s) ∧ (∀ j j', j < S → j' < S → q j = q j' → j = j') ∧
  (∀ n, n < k → (em n = true → lv (2 * n + 1) = 0 ∧ lv (2 * n) = (bt : Int) - 1) ∧ (em n = false → lf (2 * n + 1) = 2 ∧ lf (2 * n) = (bt : Int)))
theorem BInv.push {em : Nat → Bool} {bt k S s : Nat} {q : Nat → Nat} {lv lf lf' : Nat → Int} (h : BInv em bt k S q lv lf) (hs : 2 * k ≤ s) (hl : ∀ t, t < 2 * k → lf' t = lf t) :
    (∀ j, j < S → upn q S s j = q j) ∧ (∀ t, t < 2 * k → upI lv s 0 t = lv t) := ⟨fun j hj => upn_lt hj, fun t ht => upI_ne (by omega)⟩
theorem BInv.cinv {em : Nat → Bool} {to : Nat → Nat} {bt N S : Nat} {q : Nat → Nat} {lv lf : Nat → Int} (h : BInv em bt N S q lv lf) (hb : bt ≤ 1) : CInv N em to bt S 0 (2 * N) q lv lf := by
  obtain ⟨h1, h2, h3, h4⟩ := h
  have hd : ∀ e u, e < 2 * N → dv q to bt 0 (2 * N) e u = 0 := fun e u he => by
    unfold dv
    have : doneB q to bt 0 (2 * N) e u = false := Bool.eq_false_iff.mpr (fun x => by
      rcases doneB_iff.mp x with ⟨j, j1, _⟩ | ⟨_, j2⟩ <;> omega)
    rw [this]; rfl
  have hem : ∀ n, n < N → em n = false → ∀ u, u < 2 → ¬ (0 ≤ lv (2 * n + u)) := fun n hn he u hu x => by
    obtain ⟨j, j1, j2⟩ := (h2 _).1 x
    have := (h1 j j1).2.2
    rw [j2, show (2 * n + u) / 2 = n by omega, he] at this
    exact absurd this (by decide)
  refine ⟨fun j hj => ⟨(h1 j hj).1, by rw [(h1 j hj).2.1]; exact Int.le_refl 0⟩, h2, h3, ?_, ?_, ?_, ?_, fun n hn he => (h4 n hn).1 he, ?_⟩
  · intro j j' hjj hj'
    rw [(h1 j (by omega)).2.1, (h1 j' hj').2.1]; exact Int.le_refl 0
  · intro hi j hj
    rw [(h1 j hj).2.1, (h1 0 hi).2.1]; omega
  · intro n u hn he hu
    rw [hd _ _ (by omega), hd _ _ (by omega)]
    have := (h4 n hn).2 he
    have i1 : iniL bt 1 = 2 := rfl
    have i0 : iniL bt 0 = bt := rfl
    rcases (show u = 0 ∨ u = 1 by omega) with w | w <;> subst w
    · show lf (2 * n) = _; omega
    · omega
  · intro n hn he
    rw [hd _ _ (by omega), hd _ _ (by omega), hd _ _ (by omega), hd _ _ (by omega)]
    refine ⟨⟨fun x => absurd x (hem n hn he 1 (by decide)), fun x => by omega⟩, ⟨fun x => absurd x (hem n hn he 0 (by decide)), fun x => by omega⟩⟩
  · intro n hn he
    exact ⟨fun x => absurd x (hem n hn he 1 (by decide)), fun x => absurd x (hem n hn he 0 (by decide))⟩
def conS : List Nat := [140, 141, 142, 143, 144, 145]
theorem conS_mem {a : Nat} : a ∈ conS ↔ (140 ≤ a ∧ a ≤ 145) := by
  simp only [conS, List.mem_cons, List.not_mem_nil, or_false]; omega
theorem c_Con_begin (d : Nat) {M0 : Mem} {N bt : Nat} {em : Nat → Bool} {to : Nat → Nat} (hG : GrM M0 N em to) (hb : bt ≤ 1) :
    ∃ M' S q lv lf, c2 (d + 2) m_Con_begin [.ref 140, .ref 133, .int (iI bt)] M0 = some (.null, M') ∧ ConM M' S N q lv lf ∧ EdgM M' em to (2 * N) ∧ CInv N em to bt S 0 (2 * N) q lv lf ∧ Eqx conS M0 M' ∧ (∀ j, j < S → lv (q j) = 0) := by
  have hN := hG.2.1
  have go : ∀ (j k S : Nat) (q : Nat → Nat) (lv lf : Nat → Int) (M : Mem) (v4 : Value), j + k = N → Eqx conS M0 M → ConM M S k q lv lf → EdgM M em to (2 * k) → BInv em bt k S q lv lf → ∃ M' S q lv lf, X2 (d + 1) m_Con_begin 23 [.ref 140, .ref 133, .int (iI bt), .int (iI k), v4] [] M = some (.null, M') ∧ ConM M' S N q lv lf ∧ EdgM M' em to (2 * N) ∧ CInv N em to bt S 0 (2 * N) q lv lf ∧ Eqx conS M0 M' ∧ (∀ j, j < S → lv (q j) = 0) := by
    intro j
    induction j with
    | zero =>
      intro k S q lv lf M v4 hk hM hC hE hB
      have hk' : k = N := by omega
      subst hk'
      rw [e_Con_begin_23, eqx_I hM (by decide), hG.1, if_neg (by rw [iI_lt (by omega) (by omega) (by omega) (by omega)]; omega)]
      exact ⟨M, S, q, lv, lf, rfl, hC, hE, hB.cinv hb, hM, fun j hj => (hB.1 j hj).2.1⟩
    | succ j ih =>
      intro k S q lv lf M v4 hk hM hC hE hB
      have hGM : GrM M N em to := hG.fr (hM 133 (by decide)).1 (hM 134 (by decide)).1 (hM 135 (by decide)).1
      obtain ⟨p, hp1, hp2, hp3⟩ := hGM.2.2.1 k (by omega)
      obtain ⟨b1, b2, b3, b4⟩ := id hB
      have hSb : S ≤ 2 * k := pigeon (2 * k) S q (fun j hj => (b1 j hj).1) (fun i hi j hj => b3 i j hi hj)
      have e20 : iI k * iI 2 + iI 0 = iI ((2 * k : Nat) : Int) := by rw [iI_mul, iI_add]; congr 1; omega
      have e2 : iI k * iI 2 = iI ((2 * k : Nat) : Int) := by rw [iI_mul]; congr 1; omega
      have e21 : iI ((2 * k : Nat) : Int) + iI 1 = iI ((2 * k + 1 : Nat) : Int) := by rw [iI_add]; rfl
      -- the cells of the two counters
      have ctr : ∀ (c : Int), ConM (wI (wI M 142 (2 * k) (iI bt)) 142 (2 * k + 1) (iI c)) S (k + 1) q lv (upI (upI lf (2 * k) bt) (2 * k + 1) c) := by
        intro c
        obtain ⟨c1, c2, c3, c4⟩ := hC
        refine ⟨by rw [gI_na (by decide), gI_na (by decide)]; exact c1, fun j hj => by rw [gI_na (by decide), gI_na (by decide)]; exact c2 j hj, fun s hs => by rw [gI_na (by decide), gI_na (by decide)]; exact c3 s hs, ?_⟩
        intro s hs
        by_cases w : s = 2 * k + 1
        · subst w; rw [gI_eq, upI_eq]
        · rw [gI_nk w, upI_ne w]
          by_cases x : s = 2 * k
          · subst x; rw [gI_eq, upI_eq]
          · rw [gI_nk x, upI_ne x]; exact c4 s (by omega)
      have hE2 : ∀ c : Int, EdgM (wI (wI M 142 (2 * k) (iI bt)) 142 (2 * k + 1) (iI c)) em to (2 * k) := fun c => hE.fr (by rw [wI_na (by decide), wI_na (by decide)]) (by rw [wI_na (by decide), wI_na (by decide)])
      have hM2 : ∀ c : Int, Eqx conS M0 (wI (wI M 142 (2 * k) (iI bt)) 142 (2 * k + 1) (iI c)) := fun c => eqx_wI (eqx_wI hM (by decide)) (by decide)
      rw [e_Con_begin_23, hGM.1, if_pos (by rw [iI_lt (by omega) (by omega) (by omega) (by omega)]; omega), if_pos (by rw [iI_lt (by omega) (by omega) (by omega) (by omega)]; omega), inb_ok (by omega) (by omega) (by omega), gb_T, ix_nat (by omega), hp1, shr9 (by omega)]
      have wbt : (if iI bt = 0 then wI M 142 (2 * k) (iI 0) else wI M 142 (2 * k) (iI 1)) = wI M 142 (2 * k) (iI bt) := by
        rcases (show bt = 0 ∨ bt = 1 by omega) with w | w <;> subst w <;> rfl
      by_cases h4 : p / 512 = 4
      · rw [if_pos (by rw [h4]; rfl)]
        have hem : em k = true := by rw [hp3]; exact decide_eq_true h4
        have to96 : X2 (d + 1) m_Con_begin 56 [.ref 140, .ref 133, .int (iI bt), .int (iI k), v4] [.int (iI 1)] M = X2 (d + 1) m_Con_begin 96 [.ref 140, .ref 133, .int (iI bt), .int (iI k), .int (iI 1)] [.int (iI 1), .int (iI ((2 * k + 1 : Nat) : Int)), .ref 142] (wI M 142 (2 * k) (iI bt)) := by
          rw [e_Con_begin_56, e20, e2, e21, inb_ok (by omega) (by omega) (by omega), gb_T, gb_T, ix_nat (by omega), if_neg (show ¬ (iI 1 = 0) by decide), if_neg (show ¬ (iI 1 = 0) by decide)]
          rcases (show bt = 0 ∨ bt = 1 by omega) with w | w <;> subst w <;> rfl
        rw [to96, e_Con_begin_96, inb_ok (by omega) (by omega) (by omega), gb_T, if_neg (show ¬ (iI 1 = 0) by decide), ix_nat (by omega), e20, e2, e21]
        have hC2 := ctr 1
        have hls : upI (upI lf (2 * k) bt) (2 * k + 1) 1 (2 * k) = bt := by rw [upI_ne (by omega), upI_eq]
        have hls1 : upI (upI lf (2 * k) bt) (2 * k + 1) 1 (2 * k + 1) = 1 := upI_eq _ _ _
        rcases (show bt = 0 ∨ bt = 1 by omega) with w | w
        · -- the landlady's is not settled
          obtain ⟨M3, a1, a2, a3⟩ := c_Con_no d hC2 (by omega) (s := 2 * k) (by omega) (by rw [hls]; omega) (by rw [hls]; omega) 0
          obtain ⟨M4, x1, x2, x3⟩ := c_Con_hit d a2 (by omega) (s := 2 * k + 1) (by omega) (by omega) (by rw [upI_ne (by omega)]; exact hls1) 0
          rw [a1, bV_some, x1, bV_some, iI_add]
          refine ih (k + 1) (S + 1) _ _ _ M4 _ (by omega) (((hM2 1).tr (a3.mono (by decide))).tr (x3.mono (by decide))) x2 ?_ ?_
          · have := ((((hE2 1).fr (a3 144 (by decide)).1 (a3 145 (by decide)).1).fr (x3 144 (by decide)).1 (x3 145 (by decide)).1).skip (by rw [show 2 * k / 2 = k by omega]; exact hem)).skip (by rw [show (2 * k + 1) / 2 = k by omega]; exact hem)
            exact this
          · refine ⟨?_, ?_, ?_, ?_⟩
            · intro j hj
              by_cases y : j = S
              · subst y; rw [upn_eq, upI_eq, show (2 * k + 1) / 2 = k by omega]; exact ⟨by omega, rfl, hem⟩
              · have := b1 j (by omega)
                rw [upn_lt (by omega), upI_ne (by omega)]; exact ⟨by omega, this.2⟩
            · intro s
              refine ⟨fun y => ?_, ?_⟩
              · by_cases z : s = 2 * k + 1
                · subst z; exact ⟨S, by omega, upn_eq _ _ _⟩
                · rw [upI_ne z] at y
                  obtain ⟨j, j1, j2⟩ := (b2 s).1 y
                  exact ⟨j, by omega, by rw [upn_lt j1]; exact j2⟩
              · unfold upI; split
                · omega
                · exact (b2 s).2
            · intro j j' hj hj' he
              by_cases y : j = S
              · by_cases y' : j' = S
                · omega
                · subst y; rw [upn_eq, upn_lt (by omega)] at he; have := (b1 j' (by omega)).1; omega
              · by_cases y' : j' = S
                · subst y'; rw [upn_eq, upn_lt (by omega)] at he; have := (b1 j (by omega)).1; omega
                · rw [upn_lt (by omega), upn_lt (by omega)] at he; exact b3 j j' (by omega) (by omega) he
            · intro n hn
              by_cases y : n = k
              · subst y
                refine ⟨fun _ => ⟨upI_eq _ _ _, ?_⟩, fun z => by rw [hem] at z; exact absurd z (by decide)⟩
                rw [upI_ne (by omega)]
                have hne : ¬ (0 ≤ lv (2 * n)) := fun z => by
                  obtain ⟨j, j1, j2⟩ := (b2 _).1 z
                  have := (b1 j j1).1; omega
                have := (b2 (2 * n)).2
                omega
              · have := b4 n (by omega)
                rw [upI_ne (by omega), upI_ne (by omega), upI_ne (by omega), upI_ne (by omega), upI_ne (by omega), upI_ne (by omega), upI_ne (by omega), upI_ne (by omega), upI_ne (by omega), upI_ne (by omega)]
                exact this
        · obtain ⟨M3, a1, a2, a3⟩ := c_Con_hit d hC2 (by omega) (s := 2 * k) (by omega) (by omega) (by rw [hls]; omega) 0
          obtain ⟨M4, x1, x2, x3⟩ := c_Con_hit d a2 (by omega) (s := 2 * k + 1) (by omega) (by omega) (by rw [upI_ne (by omega)]; exact hls1) 0
          rw [a1, bV_some, x1, bV_some, iI_add]
          refine ih (k + 1) (S + 1 + 1) _ _ _ M4 _ (by omega) (((hM2 1).tr (a3.mono (by decide))).tr (x3.mono (by decide))) x2 ?_ ?_
          · have := ((((hE2 1).fr (a3 144 (by decide)).1 (a3 145 (by decide)).1).fr (x3 144 (by decide)).1 (x3 145 (by decide)).1).skip (by rw [show 2 * k / 2 = k by omega]; exact hem)).skip (by rw [show (2 * k + 1) / 2 = k by omega]; exact hem)
            exact this
          · have hq : ∀ j, j < S + 1 + 1 → upn (upn q S (2 * k)) (S + 1) (2 * k + 1) j = if j = S + 1 then 2 * k + 1 else if j = S then 2 * k else q j := fun j hj => rfl
            refine ⟨?_, ?_, ?_, ?_⟩
            · intro j hj
              rw [hq j hj]
              by_cases y : j = S + 1
              · rw [if_pos y, upI_eq, show (2 * k + 1) / 2 = k by omega]; exact ⟨by omega, rfl, hem⟩
              · rw [if_neg y]
                by_cases y' : j = S
                · rw [if_pos y', upI_ne (by omega), upI_eq, show 2 * k / 2 = k by omega]; exact ⟨by omega, rfl, hem⟩
                · have := b1 j (by omega)
                  rw [if_neg y', upI_ne (by omega), upI_ne (by omega)]; exact ⟨by omega, this.2⟩
            · intro s
              refine ⟨fun y => ?_, ?_⟩
              · by_cases z : s = 2 * k + 1
                · subst z; exact ⟨S + 1, by omega, upn_eq _ _ _⟩
                · rw [upI_ne z] at y
                  by_cases z' : s = 2 * k
                  · subst z'; exact ⟨S, by omega, by rw [upn_lt (by omega), upn_eq]⟩
                  · rw [upI_ne z'] at y
                    obtain ⟨j, j1, j2⟩ := (b2 s).1 y
                    exact ⟨j, by omega, by rw [upn_lt (by omega), upn_lt j1]; exact j2⟩
              · unfold upI; split
                · omega
                · split
                  · omega
                  · exact (b2 s).2
            · intro j j' hj hj' he
              rw [hq j hj, hq j' hj'] at he
              have r1 : j < S → q j < 2 * k := fun y => (b1 j y).1
              have r2 : j' < S → q j' < 2 * k := fun y => (b1 j' y).1
              have r3 : j < S → j' < S → q j = q j' → j = j' := b3 j j'
              by_cases y : j = S + 1
              · rw [if_pos y] at he
                by_cases y' : j' = S + 1
                · omega
                · rw [if_neg y'] at he
                  by_cases y2 : j' = S
                  · rw [if_pos y2] at he; omega
                  · rw [if_neg y2] at he; have := r2 (by omega); omega
              · rw [if_neg y] at he
                by_cases y1 : j = S
                · rw [if_pos y1] at he
                  by_cases y' : j' = S + 1
                  · rw [if_pos y'] at he; omega
                  · rw [if_neg y'] at he
                    by_cases y2 : j' = S
                    · omega
                    · rw [if_neg y2] at he; have := r2 (by omega); omega
                · rw [if_neg y1] at he
                  have := r1 (by omega)
                  by_cases y' : j' = S + 1
                  · rw [if_pos y'] at he; omega
                  · rw [if_neg y'] at he
                    by_cases y2 : j' = S
                    · rw [if_pos y2] at he; omega
                    · rw [if_neg y2] at he; exact r3 (by omega) (by omega) he
            · intro n hn
              by_cases y : n = k
              · subst y
                refine ⟨fun _ => ⟨upI_eq _ _ _, ?_⟩, fun z => by rw [hem] at z; exact absurd z (by decide)⟩
                rw [upI_ne (by omega), upI_eq]; omega
              · have := b4 n (by omega)
                rw [upI_ne (by omega), upI_ne (by omega), upI_ne (by omega), upI_ne (by omega), upI_ne (by omega), upI_ne (by omega), upI_ne (by omega), upI_ne (by omega), upI_ne (by omega), upI_ne (by omega), upI_ne (by omega), upI_ne (by omega)]
                exact this
      · rw [if_neg (by rw [iI_eq (by omega) (by omega) (by omega) (by omega)]; omega)]
        have hem : em k = false := by rw [hp3]; exact decide_eq_false h4
        have to96 : X2 (d + 1) m_Con_begin 56 [.ref 140, .ref 133, .int (iI bt), .int (iI k), v4] [.int (iI 0)] M = X2 (d + 1) m_Con_begin 96 [.ref 140, .ref 133, .int (iI bt), .int (iI k), .int (iI 0)] [.int (iI 2), .int (iI ((2 * k + 1 : Nat) : Int)), .ref 142] (wI M 142 (2 * k) (iI bt)) := by
          rw [e_Con_begin_56, e20, e2, e21, inb_ok (by omega) (by omega) (by omega), gb_T, gb_T, ix_nat (by omega), if_pos (show iI 0 = 0 from rfl), if_pos (show iI 0 = 0 from rfl)]
          rcases (show bt = 0 ∨ bt = 1 by omega) with w | w <;> subst w <;> rfl
        obtain ⟨t0, t0l⟩ := hGM.2.2.2 k 0 (by omega) hem (by decide)
        obtain ⟨t1, t1l⟩ := hGM.2.2.2 k 1 (by omega) hem (by decide)
        rw [show 2 * k + 0 = 2 * k from rfl] at t0 t0l
        obtain ⟨M3, a1, a2, a3⟩ := c_Con_addEdge d (hE2 2) (k := 2 * k) (by omega) (by rw [show 2 * k / 2 = k by omega]; exact hem) (by omega)
        obtain ⟨M4, x1, x2, x3⟩ := c_Con_addEdge d a2 (k := 2 * k + 1) (by omega) (by rw [show (2 * k + 1) / 2 = k by omega]; exact hem) (by omega)
        have t1' : gI M3 135 (2 * k + 1) = iI (to (2 * k + 1)) := by rw [eqx_I a3 (by decide), gI_na (by decide), gI_na (by decide)]; exact t1
        rw [to96, e_Con_begin_96, inb_ok (by omega) (by omega) (by omega), gb_T, if_pos (show iI 0 = 0 from rfl), ix_nat (by omega), e2, inb_ok (by omega) (by omega) (by omega), gb_T, e21, ix_nat (by omega), gI_na (by decide), t0, a1, bV_some, inb_ok (by omega) (by omega) (by omega), gb_T, ix_nat (by omega), t1', x1, bV_some, iI_add]
        have hC4 : ConM M4 S (k + 1) q lv (upI (upI lf (2 * k) bt) (2 * k + 1) 2) := by
          have := ctr 2
          unfold ConM gI at *
          rw [(x3 140 (by decide)).1, (x3 141 (by decide)).1, (x3 142 (by decide)).1, (x3 143 (by decide)).1, (a3 140 (by decide)).1, (a3 141 (by decide)).1, (a3 142 (by decide)).1, (a3 143 (by decide)).1]
          exact this
        refine ih (k + 1) S q lv _ M4 _ (by omega) (((hM2 2).tr (a3.mono (by decide))).tr (x3.mono (by decide))) hC4 x2 ⟨fun j hj => ⟨by have := (b1 j hj).1; omega, (b1 j hj).2⟩, b2, b3, ?_⟩
        intro n hn
        by_cases y : n = k
        · subst y
          refine ⟨fun z => by rw [hem] at z; exact absurd z (by decide), fun _ => ⟨upI_eq _ _ _, by rw [upI_ne (by omega), upI_eq]⟩⟩
        · have := b4 n (by omega)
          rw [upI_ne (by omega), upI_ne (by omega), upI_ne (by omega), upI_ne (by omega)]
          exact this
  obtain ⟨M1, e1, hE1, v1⟩ := c_Arr_fillI d (M0 := wI M0 140 3 (iI 0)) (a := 141) (n := 2048) rfl (by decide) (iI (-1))
  obtain ⟨M2, e2, hE2, v2⟩ := c_Arr_fillI d (M0 := M1) (a := 144) (n := 1024) rfl (by decide) (iI (-1))
  show ∃ M' S q lv lf, X2 (d + 1) m_Con_begin 0 [.ref 140, .ref 133, .int (iI bt), uns, uns] [] M0 = _ ∧ _
  rw [e_Con_begin_0, e1, bV_some, e2, bV_some]
  refine go N 0 0 (fun _ => 0) (fun _ => -1) (fun _ => 0) M2 uns (by omega) (((eqx_wI Eqx.rf (by decide) : Eqx conS M0 _).tr (hE1.mono (by decide))).tr (hE2.mono (by decide))) ⟨?_, fun j hj => absurd hj (Nat.not_lt_zero j), ?_, fun s hs => by omega⟩ ⟨fun n hn => v2 n hn, fun e he => absurd he (Nat.not_lt_zero e)⟩ ⟨fun j hj => absurd hj (Nat.not_lt_zero j), fun s => ⟨fun x => absurd (show (0 : Int) ≤ -1 from x) (by decide), Int.le_refl _⟩, fun j j' hj => absurd hj (Nat.not_lt_zero j), fun n hn => absurd hn (Nat.not_lt_zero n)⟩
  · rw [eqx_I hE2 (by decide), eqx_I hE1 (by decide), gI_eq]; rfl
  · intro s hs
    rw [eqx_I hE2 (by decide)]; exact v1 s hs
