/-! A ROOM OF THE CLASS AND A ROW OF THE REFERENCE. -/
def LawR (M : Mem) (a : Nat) (z : Row) (law : Nat) : Prop := (z (6 + law) = 0 ∧ gI M a 2 = iI 0) ∨ (z (6 + law) ≠ 0 ∧ gI M a 2 = z (10 + law) ∧ CellsE (M.1 (a + 1)) 0 (lawC z law))
def nmask (z : Row) (c : Nat) : Nat := maskOf (fun k => nbr (zn z 2) c k) (nz z)
def RoomR (M : Mem) (r : Nat) (z : Row) : Prop :=
  (gI M r 0 = z 1 ∧ gI M r 1 = z 2 ∧ gI M r 2 = iI (nz z) ∧ gI M r 3 = z 3 ∧ gI M r 6 = z 4 ∧ gI M r 7 = z 5 ∧ gI M r 9 = z 0) ∧
  (∀ c, c < 9 → gI M (r + 1) c = z (12 + c)) ∧ (∀ c, c < nz z → gI M (r + 2) c = iI (nmask z c)) ∧ (∀ t, t < zn z 3 → gI M (r + 3) t = z (21 + t)) ∧ LawR M (r + 4) z 0 ∧ LawR M (r + 7) z 1
/-- a room's cells, all that its relation reads -/
def roomS (r : Nat) : List Nat := [r, r + 1, r + 2, r + 3, r + 4, r + 5, r + 7, r + 8]
theorem CellsE.fr {f g : Nat → Int32} (h : g = f) {b : Nat} {L : List Nat} (hc : CellsE f b L) : CellsE g b L := by rw [h]; exact hc
theorem LawR.fr {M M' : Mem} {a : Nat} {z : Row} {law : Nat} (h : LawR M a z law) (h1 : M'.1 a = M.1 a) (h2 : M'.1 (a + 1) = M.1 (a + 1)) : LawR M' a z law := by
  unfold LawR gI at *
  rw [h1, h2]
  exact h
theorem RoomR.fr {M M' : Mem} {r : Nat} {z : Row} (h : RoomR M r z) (hf : ∀ a, a ∈ roomS r → M'.1 a = M.1 a) : RoomR M' r z := by
  have f0 := hf r (by simp [roomS])
  have f1 := hf (r + 1) (by simp [roomS])
  have f2 := hf (r + 2) (by simp [roomS])
  have f3 := hf (r + 3) (by simp [roomS])
  have f4 := hf (r + 4) (by simp [roomS])
  have f5 := hf (r + 5) (by simp [roomS])
  have f7 := hf (r + 7) (by simp [roomS])
  have f8 := hf (r + 8) (by simp [roomS])
  obtain ⟨h1, h2, h3, h4, h5, h6⟩ := h
  refine ⟨?_, ?_, ?_, ?_, h5.fr f4 f5, h6.fr f7 f8⟩
  · unfold gI at *; rw [f0]; exact h1
  · unfold gI at *; rw [f1]; exact h2
  · unfold gI at *; rw [f2]; exact h3
  · unfold gI at *; rw [f3]; exact h4
theorem cnt_cut (q : Nat → Bool) (n : Nat) : ∀ m, cnt (fun k => decide (k < n) && q k) m = cnt q (min m n)
  | 0 => by rw [Nat.zero_min]; rfl
  | m + 1 => by
    rw [cnt, cnt_cut q n m]
    by_cases h : m < n
    · rw [decide_eq_true h, Bool.true_and, Nat.min_eq_left (by omega), Nat.min_eq_left (by omega)]; rfl
    · rw [decide_eq_false h, Bool.false_and, Nat.min_eq_right (by omega), Nat.min_eq_right (by omega)]; rfl
theorem cnt_congr {p q : Nat → Bool} : ∀ n, (∀ k, k < n → p k = q k) → cnt p n = cnt q n
  | 0, _ => rfl
  | n + 1, h => by rw [cnt, cnt, cnt_congr n (fun k hk => h k (by omega)), h n (by omega)]
theorem bits_near {z : Row} (hz : nz z ≤ 9) (c w : Nat) : bits (w &&& nmask z c) = near (nz z) (zn z 2) c w := by
  have h : bits (w &&& nmask z c) = cnt (fun k => decide (k < nz z) && (w.testBit k && nbr (zn z 2) c k)) 10 := by
    apply cnt_congr
    intro k _
    rw [Nat.testBit_and, nmask, maskOf_bit, ← Bool.and_assoc, ← Bool.and_assoc, Bool.and_comm (w.testBit k)]
  rw [h, cnt_cut, Nat.min_eq_right (by omega)]
  rfl
/-- what turns, by how many are near and whether it is turned -/
def wV (z : Row) (tm c nr tu who bl : Nat) (j : Nat) : Int32 :=
  if j = 0 then iI bl else if j = 1 then iI ((if who = 4 then 9 else who : Nat) : Int) else if j = 2 then iI c else if j = 3 then z (12 + c) else if j = 4 then iI nr else if j = 5 then iI tu else iI tm
def turnV (z : Row) (tm c nr tu who bl : Nat) : Bool := if z 6 = 0 then decide (1 ≤ nr ∧ nr ≤ 3) else holdsB z 0 (wV z tm c nr tu who bl)
theorem turnB_V (z : Row) (tm c w who bl : Nat) : turnB z tm c w who bl = turnV z tm c (near (nz z) (zn z 2) c w) (if w.testBit c then 1 else 0) who bl := rfl
def uG (z : Row) (t all fc bl : Nat) (j : Nat) : Int32 :=
  if j = 0 then iI bl else if j = 1 then iI t else if j = 7 then iI all else if j = 8 then iI fc else z (21 + t)
def goV (z : Row) (t all fc bl : Nat) : Bool := if z 7 = 0 then decide (zn z (21 + t) < all) else holdsB z 1 (uG z t all fc bl)
theorem goB_V (z : Row) (t w bl : Nat) : goB z t w bl = goV z t (bits w) (if w ≠ 0 ∧ w = zn z 4 then 1 else 0) bl := rfl
/-- the place behind a night, as the class numbers places -/
def pas (z : Row) (tm p bl : Nat) : Nat := wallT z tm (p % 512) (p / 512) bl + 512 * (if p / 512 < zn z 3 ∧ goB z (p / 512) (wallT z tm (p % 512) (p / 512) bl) bl = true then 4 else p / 512)
def plc (s : Nat) : Nat := s / 5 + 512 * (s % 5)
theorem pas_plc {z : Row} (hz : OkZ z) (tm s bl : Nat) (hs : s / 5 < 512) (hw : WhoOk z (s % 5)) : pas z tm (plc s) bl = plc (nxt z tm s bl) := by
  have h1 : plc s % 512 = s / 5 := by unfold plc; omega
  have h2 : plc s / 512 = s % 5 := by unfold plc; omega
  have h3 := zn_rng hz.1.2.2.1 (by decide)
  have h4 : whoT z (wallT z tm (s / 5) (s % 5) bl) (s % 5) bl < 5 := by
    unfold whoT; split <;> omega
  have h5 : nxt z tm s bl / 5 = wallT z tm (s / 5) (s % 5) bl := by unfold nxt; omega
  have h6 : nxt z tm s bl % 5 = whoT z (wallT z tm (s / 5) (s % 5) bl) (s % 5) bl := by unfold nxt; omega
  rw [pas, h1, h2, plc, h5, h6, whoT]
  congr 2
  by_cases h : s % 5 = 4
  · rw [if_neg (fun q => by omega), if_neg (fun q => q.1 h)]
  · have hlt : s % 5 < zn z 3 := by rcases hw with q | q; exact absurd q h; exact q
    by_cases hg : goB z (s % 5) (wallT z tm (s / 5) (s % 5) bl) bl = true
    · rw [if_pos ⟨hlt, hg⟩, if_pos ⟨h, hg⟩]
    · rw [if_neg (fun q => hg q.2), if_neg (fun q => hg q.2)]
/-- what is remembered of turning and going -/
def TurnC (M : Mem) (z : Row) : Prop := ∀ tm who bl c, tm < 10 → who < 5 → bl < 2 → c < nz z → ∃ n : Nat, gL M 128 (((tm * 5 + who) * 2 + bl) * 9 + c) = lI n ∧ n < 2 ^ 52 ∧ ∀ nr tu, nr ≤ 9 → tu ≤ 1 → n.testBit (nr * 2 + tu + 32) = (n.testBit (nr * 2 + tu) && turnV z tm c nr tu who bl)
def GoC (M : Mem) (z : Row) : Prop := ∀ t bl, t < zn z 3 → bl < 2 → ∃ n : Nat, gL M 129 (t * 2 + bl) = lI n ∧ n < 2 ^ 54 ∧ ∀ all fc, all ≤ 10 → fc ≤ 1 → n.testBit (all * 2 + fc + 32) = (n.testBit (all * 2 + fc) && goV z t all fc bl)
/-- the steps' table: no stamp is later than the stamp, and what bears it is right -/
def ThenC (M : Mem) (z : Row) (tm st : Nat) : Prop := ∀ p bl, p < 2560 → bl < 2 → ∃ e s : Nat, gI M 131 (bl * 2560 + p) = iI ((s * 4096 + e : Nat) : Int) ∧ e < 4096 ∧ s ≤ st ∧ (s = st → e = pas z tm p bl)
def StepsC (M : Mem) (r : Nat) (z : Row) (tm st : Nat) : Prop := r ∈ rooms ∧ gR M 127 0 = r ∧ RoomR M r z ∧ OkZ z ∧ TurnC M z ∧ GoC M z ∧ gI M 127 1 = iI tm ∧ tm < 10 ∧ gI M 127 6 = iI st ∧ st ≤ 100000 ∧ ThenC M z tm st
