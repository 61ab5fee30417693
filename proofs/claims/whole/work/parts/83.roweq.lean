/-! ROWS that tell the same room. -/
def RowEq (z z' : Row) : Prop := ∀ k, k ≤ 24 ∨ (70 ≤ k ∧ k < 971) → z' k = z k
theorem RowEq.rf (z : Row) : RowEq z z := fun _ _ => rfl
theorem RowEq.tr {a b c : Row} (h : RowEq a b) (h2 : RowEq b c) : RowEq a c := fun k hk => (h2 k hk).trans (h k hk)
theorem RowEq.sy {a b : Row} (h : RowEq a b) : RowEq b a := fun k hk => (h k hk).symm
theorem rq_zn {z z' : Row} (h : RowEq z z') {k : Nat} (hk : k ≤ 24 ∨ (70 ≤ k ∧ k < 971)) : zn z' k = zn z k := by
  unfold zn; rw [h k hk]
theorem rq_nz {z z' : Row} (h : RowEq z z') : nz z' = nz z := by
  unfold nz; rw [rq_zn h (by omega), rq_zn h (by omega)]
theorem rq_code {z z' : Row} (h : RowEq z z') : ∀ n b, 70 ≤ b → b + n ≤ 971 → codeOf z' b n = codeOf z b n
  | 0, _, _, _ => rfl
  | n + 1, b, h1, h2 => by
    rw [codeOf, codeOf, rq_zn h (by omega), rq_code h n (b + 1) (by omega) (by omega)]
theorem rq_law {z z' : Row} (h : RowEq z z') {law : Nat} (hl : law ≤ 1) (hb : zn z (8 + law) + zn z (10 + law) ≤ 900) : lawC z' law = lawC z law := by
  unfold lawC
  rw [rq_zn h (by omega), rq_zn h (by omega), rq_code h _ _ (by omega) (by omega)]
theorem rq_cells {z z' : Row} (h : RowEq z z') : ∀ (L : List Nat) (b : Nat), 70 ≤ b → b + L.length ≤ 971 → Cells z b L → Cells z' b L
  | [], _, _, _, _ => trivial
  | c :: L, b, h1, h2, hc => ⟨(h b (by simp at h2; omega)).trans hc.1, rq_cells h L (b + 1) (by omega) (by simp at h2; omega) hc.2⟩
theorem rq_holds {z z' : Row} (h : RowEq z z') {law : Nat} (hl : law ≤ 1) (hb : zn z (8 + law) + zn z (10 + law) ≤ 900) (wd : Nat → Int32) : holdsB z' law wd = holdsB z law wd := by
  unfold holdsB; rw [rq_law h hl hb]
theorem rq_okl {z z' : Row} (h : RowEq z z') {law : Nat} (hl : law ≤ 1) {al : Nat → Bool} (hO : OkLaw z law al) : OkLaw z' law al := by
  obtain ⟨a, b, c, e, f, g, i⟩ := hO
  unfold OkLaw
  rw [h (8 + law) (by omega), h (10 + law) (by omega), rq_zn h (by omega), rq_zn h (by omega), rq_law h hl c]
  refine ⟨a, b, c, rq_cells h _ _ (by omega) (by rw [lawC, codeOf_len]; omega) e, f, g, i⟩
theorem rq_bd {z z' : Row} (h : RowEq z z') {k : Nat} (hk : k ≤ 24) {lo hi : Int} (hb : Bd z k lo hi) : Bd z' k lo hi := by
  unfold Bd; rw [h k (Or.inl hk)]; exact hb
theorem rq_ok {z z' : Row} (h : RowEq z z') (hz : OkZ z) : OkZ z' := by
  have h34 := zn3_le hz
  obtain ⟨⟨a1, a2, a3, a4, a5, a6, a7⟩, b, c, e, f⟩ := hz
  refine ⟨⟨rq_bd h (by decide) a1, rq_bd h (by decide) a2, rq_bd h (by decide) a3, rq_bd h (by decide) a4, rq_bd h (by decide) a5, rq_bd h (by decide) a6, rq_bd h (by decide) a7⟩, fun k hk => rq_bd h (by omega) (b k hk), fun t ht => ?_, fun q => ?_, fun q => ?_⟩
  · rw [rq_zn h (by omega)] at ht
    exact rq_bd h (by omega) (c t ht)
  · rw [h 6 (by omega)] at q
    exact rq_okl h (by decide) (e q)
  · rw [h 7 (by omega)] at q
    exact rq_okl h (by decide) (f q)
theorem maskOf_congr {p q : Nat → Bool} : ∀ n, (∀ k, k < n → p k = q k) → maskOf p n = maskOf q n
  | 0, _ => rfl
  | n + 1, h => by rw [maskOf, maskOf, maskOf_congr n (fun k hk => h k (by omega)), h n (by omega)]
theorem rq_turn {z z' : Row} (h : RowEq z z') (hz : OkZ z) (tm w who bl : Nat) {c : Nat} (hc : c < 9) : turnB z' tm c w who bl = turnB z tm c w who bl := by
  unfold turnB
  rw [h 6 (by omega), rq_nz h, rq_zn h (k := 2) (by omega)]
  by_cases q : z 6 = 0
  · rw [if_pos q, if_pos q]
  · rw [if_neg q, if_neg q, rq_holds h (by decide) (hz.2.2.2.1 q).2.2.1]
    congr 1
    funext j
    unfold wT
    rw [h (12 + c) (by omega), rq_nz h, rq_zn h (k := 2) (by omega)]
theorem rq_go {z z' : Row} (h : RowEq z z') (hz : OkZ z) (w bl : Nat) {t : Nat} (ht : t < 4) : goB z' t w bl = goB z t w bl := by
  unfold goB
  rw [h 7 (by omega), rq_zn h (k := 21 + t) (by omega)]
  by_cases q : z 7 = 0
  · rw [if_pos q, if_pos q]
  · rw [if_neg q, if_neg q, rq_holds h (by decide) (hz.2.2.2.2 q).2.2.1]
    congr 1
    funext j
    unfold wG
    rw [h (21 + t) (by omega), rq_zn h (k := 4) (by omega)]
theorem rq_wall {z z' : Row} (h : RowEq z z') (hz : OkZ z) (tm w who bl : Nat) : wallT z' tm w who bl = wallT z tm w who bl := by
  have h9 := nz_le hz
  unfold wallT
  rw [rq_nz h]
  exact maskOf_congr _ (fun c hc => rq_turn h hz tm w who bl (by omega))
theorem rq_nxt {z z' : Row} (h : RowEq z z') (hz : OkZ z) (tm s bl : Nat) : nxt z' tm s bl = nxt z tm s bl := by
  unfold nxt
  rw [rq_wall h hz]
  congr 1
  unfold whoT
  by_cases q : s % 5 = 4
  · rw [if_neg (fun x => x.1 q), if_neg (fun x => x.1 q)]
  · rw [rq_go h hz _ _ (by omega)]
theorem rq_pas {z z' : Row} (h : RowEq z z') (hz : OkZ z) (tm p bl : Nat) : pas z' tm p bl = pas z tm p bl := by
  have h34 := zn3_le hz
  unfold pas
  rw [rq_wall h hz, rq_zn h (k := 3) (by omega)]
  congr 2
  by_cases q : p / 512 < zn z 3
  · rw [rq_go h hz _ _ (by omega)]
  · rw [if_neg (fun x => q x.1), if_neg (fun x => q x.1)]
theorem rq_oks {z z' : Row} (h : RowEq z z') {s : Nat} (ok : OkS z s) : OkS z' s := by
  unfold OkS WhoOk
  rw [rq_nz h, rq_zn h (k := 3) (by omega)]; exact ok
theorem rq_nm {z z' : Row} (h : RowEq z z') (c : Nat) : nmask z' c = nmask z c := by
  unfold nmask; rw [rq_nz h, rq_zn h (k := 2) (by omega)]
theorem rq_lawR {z z' : Row} (h : RowEq z z') {law : Nat} (hl : law ≤ 1) {M : Mem} {a : Nat} {al : Nat → Bool} (hO : z (6 + law) ≠ 0 → OkLaw z law al) (hR : LawR M a z law) : LawR M a z' law := by
  rcases hR with ⟨q1, q2⟩ | ⟨q1, q2, q3⟩
  · exact Or.inl ⟨by rw [h (6 + law) (by omega)]; exact q1, q2⟩
  · refine Or.inr ⟨by rw [h (6 + law) (by omega)]; exact q1, by rw [h (10 + law) (by omega)]; exact q2, ?_⟩
    rw [rq_law h hl (hO q1).2.2.1]; exact q3
theorem rq_room {z z' : Row} (h : RowEq z z') (hz : OkZ z) {M : Mem} {r : Nat} (hR : RoomR M r z) : RoomR M r z' := by
  have h34 := zn3_le hz
  obtain ⟨⟨a1, a2, a3, a4, a5, a6, a7⟩, b, c, e, f, g⟩ := hR
  refine ⟨⟨a1.trans (h 1 (by omega)).symm, a2.trans (h 2 (by omega)).symm, by rw [rq_nz h]; exact a3, a4.trans (h 3 (by omega)).symm, a5.trans (h 4 (by omega)).symm, a6.trans (h 5 (by omega)).symm, a7.trans (h 0 (by omega)).symm⟩, fun c' hc => (b c' hc).trans (h (12 + c') (by omega)).symm, fun c' hc => ?_, fun t ht => ?_, rq_lawR h (by decide) hz.2.2.2.1 f, rq_lawR h (by decide) hz.2.2.2.2 g⟩
  · rw [rq_nz h] at hc
    rw [rq_nm h]; exact c c' hc
  · rw [rq_zn h (k := 3) (by omega)] at ht
    exact (e t ht).trans (h (21 + t) (by omega)).symm
theorem rq_turnV {z z' : Row} (h : RowEq z z') (hz : OkZ z) (tm nr tu who bl : Nat) {c : Nat} (hc : c < 9) : turnV z' tm c nr tu who bl = turnV z tm c nr tu who bl := by
  unfold turnV
  rw [h 6 (by omega)]
  by_cases q : z 6 = 0
  · rw [if_pos q, if_pos q]
  · rw [if_neg q, if_neg q, rq_holds h (by decide) (hz.2.2.2.1 q).2.2.1]
    congr 1
    funext j
    unfold wV
    rw [h (12 + c) (by omega)]
theorem rq_goV {z z' : Row} (h : RowEq z z') (hz : OkZ z) (all fc bl : Nat) {t : Nat} (ht : t < 4) : goV z' t all fc bl = goV z t all fc bl := by
  unfold goV
  rw [h 7 (by omega), rq_zn h (k := 21 + t) (by omega)]
  by_cases q : z 7 = 0
  · rw [if_pos q, if_pos q]
  · rw [if_neg q, if_neg q, rq_holds h (by decide) (hz.2.2.2.2 q).2.2.1]
    congr 1
    funext j
    unfold uG
    rw [h (21 + t) (by omega)]
theorem rq_steps {z z' : Row} (h : RowEq z z') {M : Mem} {r tm st : Nat} (hS : StepsC M r z tm st) : StepsC M r z' tm st := by
  obtain ⟨hr, h0, hR, hz, hT, hG, htm, htm9, hst, hst2, hC⟩ := hS
  have h9 := nz_le hz
  have h34 := zn3_le hz
  refine ⟨hr, h0, rq_room h hz hR, rq_ok h hz, ?_, ?_, htm, htm9, hst, hst2, ?_⟩
  · intro tm' who bl c h1 h2 h3 h4
    rw [rq_nz h] at h4
    obtain ⟨n, n1, n2, n3⟩ := hT tm' who bl c h1 h2 h3 h4
    exact ⟨n, n1, n2, fun nr tu a b => by rw [rq_turnV h hz _ _ _ _ _ (by omega)]; exact n3 nr tu a b⟩
  · intro t bl h1 h2
    rw [rq_zn h (k := 3) (by omega)] at h1
    obtain ⟨n, n1, n2, n3⟩ := hG t bl h1 h2
    exact ⟨n, n1, n2, fun a f x y => by rw [rq_goV h hz _ _ _ (by omega)]; exact n3 a f x y⟩
  · intro p bl hp hbl
    obtain ⟨e, s, a, b, c, f⟩ := hC p bl hp hbl
    exact ⟨e, s, a, b, c, fun q => by rw [rq_pas h hz]; exact f q⟩
