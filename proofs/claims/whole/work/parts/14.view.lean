/-! WHAT AN OBJECT HOLDS: text, barn, rats, walls, corn, amounts, night, kept; and the answers as numbers of it -/
abbrev LV : Type := Int × (Int → Int) × BB × Int × Int × Int × (Int → Int) × (Int → Int) × (Int → Int) × Int × Int × (Int → Int) × (Int → Int) × Int × Int
abbrev qlen (l : LV) : Int := l.1
abbrev qtx (l : LV) : Int → Int := l.2.1
abbrev qb (l : LV) : BB := l.2.2.1
abbrev qr (l : LV) : Int := l.2.2.2.1
abbrev qw (l : LV) : Int := l.2.2.2.2.1
abbrev qc (l : LV) : Int := l.2.2.2.2.2.1
abbrev qcN (l : LV) : Int → Int := l.2.2.2.2.2.2.1
abbrev qcP (l : LV) : Int → Int := l.2.2.2.2.2.2.2.1
abbrev qp (l : LV) : Int → Int := l.2.2.2.2.2.2.2.2.1
abbrev qt (l : LV) : Int := l.2.2.2.2.2.2.2.2.2.1
abbrev qk (l : LV) : Int := l.2.2.2.2.2.2.2.2.2.2.1
abbrev qk0 (l : LV) : Int → Int := l.2.2.2.2.2.2.2.2.2.2.2.1
abbrev qk1 (l : LV) : Int → Int := l.2.2.2.2.2.2.2.2.2.2.2.2.1
abbrev qt0 (l : LV) : Int := l.2.2.2.2.2.2.2.2.2.2.2.2.2.1
abbrev qt1 (l : LV) : Int := l.2.2.2.2.2.2.2.2.2.2.2.2.2.2
abbrev vx (h : HP) : LV := (h 0 1, h 1, bx h, h 14 4, h 14 8, h 14 11, h 19, h 20, h 28, h 0 7, h 0 11, h 31, h 32, h 33 0, h 33 1)
abbrev vm (g : HP) : LV := (g 0 0, g 1, bm g, g 5 1, g 6 0, g 8 0, (fun c => g 9 (2 * c)), (fun c => g 9 (2 * c + 1)), g 13, g 0 17, g 0 18, (fun x => g 14 x), (fun x => g 14 (8 + x)), g 15 0, g 15 1)
def r199 (n : Int) (p : Int → Int) : Prop := ∀ x, 0 ≤ x → x < n → 0 ≤ p x ∧ p x ≤ 199
theorem r199_ok {n : Int} {p : Int → Int} (h : r199 n p) : rowOK n p := fun x h0 h1 => by have := h x h0 h1; omega
def WV (N : Int) (l : LV) : Prop := (0 ≤ qlen l ∧ qlen l ≤ 300) ∧ (∀ i, 0 ≤ i → i < 300 → -128 ≤ qtx l i ∧ qtx l i ≤ 127) ∧ wfB (qb l) ∧ (0 ≤ qr l ∧ qr l ≤ 3) ∧ (0 ≤ qw l ∧ qw l ≤ 8) ∧
  ((0 ≤ qc l ∧ qc l ≤ 4) ∧ ∀ c, 0 ≤ c → c < qc l → (0 ≤ qcN l c ∧ qcN l c ≤ 30) ∧ (1 ≤ qcP l c ∧ qcP l c ≤ 60) ∧ ∀ c', c ≤ c' → c' < qc l → qcN l c ≤ qcN l c') ∧
  r199 (bn (qb l)) (qp l) ∧ (0 ≤ qt l ∧ qt l ≤ N) ∧ (0 ≤ qk l ∧ qk l ≤ 2) ∧ (0 < qk l → r199 (bn (qb l)) (qk0 l) ∧ 0 ≤ qt0 l ∧ qt0 l ≤ N) ∧ (1 < qk l → r199 (bn (qb l)) (qk1 l) ∧ 0 ≤ qt1 l ∧ qt1 l ≤ N)
def AgV (l l' : LV) : Prop := qlen l = qlen l' ∧ (∀ i, 0 ≤ i → i < 300 → qtx l i = qtx l' i) ∧ agB (qb l) (qb l') ∧ qr l = qr l' ∧ qw l = qw l' ∧ qc l = qc l' ∧ (∀ c, 0 ≤ c → c < qc l → qcN l c = qcN l' c ∧ qcP l c = qcP l' c) ∧
  eqN (bn (qb l)) (qp l) (qp l') ∧ qt l = qt l' ∧ qk l = qk l' ∧ (0 < qk l → eqN (bn (qb l)) (qk0 l) (qk0 l') ∧ qt0 l = qt0 l') ∧ (1 < qk l → eqN (bn (qb l)) (qk1 l) (qk1 l') ∧ qt1 l = qt1 l')
theorem agB_wf {b b' : BB} (ha : agB b b') (hb : wfB b') : wfB b := by
  obtain ⟨a1, a2, a3, a4, a5⟩ := ha
  obtain ⟨b1, b2, b3, b4, b5⟩ := hb
  refine ⟨by rw [a1]; exact b1, by rw [a2]; exact b2, by rw [a3]; exact b3, fun k h0 h1 => ?_, fun x h0 h1 => ?_⟩
  · obtain ⟨q1, q2, q3⟩ := a4 k h0 h1
    have := b4 k h0 (by rw [← a2]; exact h1)
    rw [q1, q2, q3, a1]
    exact this
  · rw [a5 x h0 h1]
    exact b5 x h0 (by rw [← a1]; exact h1)
theorem AgV_W {N : Int} {l l' : LV} (ha : AgV l l') (hw : WV N l') : WV N l := by
  obtain ⟨a1, a2, a3, a4, a5, a6, a7, a8, a9, a10, a11, a12⟩ := ha
  obtain ⟨b1, b2, b3, b4, b5, ⟨b6, b7⟩, b8, b9, b10, b11, b12⟩ := hw
  have en := a3.1
  refine ⟨by rw [a1]; exact b1, fun i h0 h1 => by rw [a2 i h0 h1]; exact b2 i h0 h1, agB_wf a3 b3, by rw [a4]; exact b4, by rw [a5]; exact b5, ⟨by rw [a6]; exact b6, fun c h0 h1 => ?_⟩, fun x h0 h1 => by rw [a8 x h0 h1]; exact b8 x h0 (by rw [← en]; exact h1), by rw [a9]; exact b9, by rw [a10]; exact b10, fun h => ?_, fun h => ?_⟩
  · obtain ⟨q1, q2⟩ := a7 c h0 h1
    obtain ⟨p1, p2, p3⟩ := b7 c h0 (by rw [← a6]; exact h1)
    rw [q1, q2]
    refine ⟨p1, p2, fun c' g0 g1 => ?_⟩
    rw [(a7 c' (by omega) g1).1]
    exact p3 c' g0 (by rw [← a6]; exact g1)
  · obtain ⟨q1, q2⟩ := a11 h
    obtain ⟨p1, p2⟩ := b11 (by rw [← a10]; exact h)
    exact ⟨fun x h0 h1 => by rw [q1 x h0 h1]; exact p1 x h0 (by rw [← en]; exact h1), by rw [q2]; exact p2⟩
  · obtain ⟨q1, q2⟩ := a12 h
    obtain ⟨p1, p2⟩ := b12 (by rw [← a10]; exact h)
    exact ⟨fun x h0 h1 => by rw [q1 x h0 h1]; exact p1 x h0 (by rw [← en]; exact h1), by rw [q2]; exact p2⟩
theorem WV_mono {N N' : Int} {l : LV} (h : WV N l) (hN : N ≤ N') : WV N' l := by
  obtain ⟨b1, b2, b3, b4, b5, b6, b8, b9, b10, b11, b12⟩ := h
  exact ⟨b1, b2, b3, b4, b5, b6, b8, ⟨b9.1, by omega⟩, b10, fun q => ⟨(b11 q).1, (b11 q).2.1, by have := (b11 q).2.2; omega⟩, fun q => ⟨(b12 q).1, (b12 q).2.1, by have := (b12 q).2.2; omega⟩⟩
abbrev z0 : Int → Int := fun _ => 0
def sp_left (l : LV) (i k : Int) : Int := if (0 ≤ i ∧ i < bn (qb l)) ∧ 0 ≤ k ∧ k ≤ 60 then NN (qb l) (qr l) z0 (qp l) (qt l) k.toNat i else -1
def sp_lost (l : LV) (k o : Int) : Int := if (0 ≤ k ∧ k ≤ 60) ∧ -1 ≤ o ∧ o ≤ 1 then (if o < 0 then lossN (qb l) (qr l) z0 (qp l) (qt l) k.toNat else lossO (qb l) o (qr l) z0 (qp l) (qt l) k.toNat) else -1
def sp_others (l : LV) (a k : Int) : Int := if (0 ≤ a ∧ a ≤ 3) ∧ 0 ≤ k ∧ k ≤ 60 then lossN (qb l) a z0 (qp l) (qt l) k.toNat else -1
def sp_bin (l : LV) (i w : Int) : Int := if (0 ≤ i ∧ i < bn (qb l)) ∧ 0 ≤ w ∧ w ≤ 1 then (if w = 0 then qp l i else bow (qb l) i) else -1
def sp_gap (l : LV) (k w : Int) : Int := if (0 ≤ k ∧ k < bG (qb l)) ∧ 0 ≤ w ∧ w ≤ 2 then (if w = 0 then blo (qb l) k else if w = 1 then bhi (qb l) k else bwl (qb l) k) else -1
def drw (z x : Int) : Int := ((((7919 * z) + (6151 * x)) + 1) * (((7919 * z) + (6151 * x)) + 1)) % 65521 % 100
def sp_drawn (l : LV) (z k : Int) : Int := if (0 ≤ z ∧ z ≤ 9999) ∧ 0 ≤ k ∧ k ≤ 60 then lossN (qb l) (qr l) z0 (drw z) (qt l) k.toNat else -1
def tenS (l : LV) (z k : Int) : Nat → Int
  | 0 => 0
  | m + 1 => tenS l z k m + (if tot (qb l) (drw ((z + m) % 10000)) < 2 * lossN (qb l) (qr l) z0 (drw ((z + m) % 10000)) (qt l) k.toNat then 1 else 0)
def sp_ten (l : LV) (z k : Int) : Int := if (0 ≤ z ∧ z ≤ 9999) ∧ 0 ≤ k ∧ k ≤ 60 then tenS l z k 10 else -1
def sp_count (l : LV) (w : Int) : Int := if w = 0 then bn (qb l) else if w = 1 then bG (qb l) else if w = 2 then qw l else if w = 3 then qc l else if w = 4 then qt l else if w = 5 then tot (qb l) (qp l) else if w = 6 then qlen l else if w = 7 then qk l else -1
theorem drw_ok (z : Int) {n : Int} : rowOK n (drw z) := fun x _ _ => by unfold drw; omega
theorem lossN_ag {b b' : BB} {r t : Int} {ct ct' p p' : Int → Int} (hb : wfB b) (ha : agB b b') (hp : eqN (bn b) p p') (hc : eqN (bG b) ct ct') (k : Nat) : lossN b r ct p t k = lossN b' r ct' p' t k := by
  unfold lossN
  rw [tot_ag ha hp, tot_ag ha (NN_ag hb ha hp hc k)]
theorem lossO_ag {b b' : BB} {o r t : Int} {ct ct' p p' : Int → Int} (hb : wfB b) (ha : agB b b') (hp : eqN (bn b) p p') (hc : eqN (bG b) ct ct') (k : Nat) : lossO b o r ct p t k = lossO b' o r ct' p' t k := by
  unfold lossO
  rw [totO_ag ha hp, totO_ag ha (NN_ag hb ha hp hc k)]
/-! the same answers of like objects -/
theorem sp_left_ag {N : Int} {l l' : LV} (ha : AgV l l') (hw : WV N l') (i k : Int) : sp_left l i k = sp_left l' i k := by
  have hb := (AgV_W ha hw).2.2.1
  obtain ⟨a1, a2, a3, a4, a5, a6, a7, a8, a9, a10, a11, a12⟩ := ha
  unfold sp_left
  rw [← a3.1, ← a4, ← a9]
  split
  · rename_i h
    exact NN_ag hb a3 a8 (eqN_rf _ _) _ i h.1.1 h.1.2
  · rfl
theorem sp_lost_ag {N : Int} {l l' : LV} (ha : AgV l l') (hw : WV N l') (k o : Int) : sp_lost l k o = sp_lost l' k o := by
  have hb := (AgV_W ha hw).2.2.1
  obtain ⟨a1, a2, a3, a4, a5, a6, a7, a8, a9, a10, a11, a12⟩ := ha
  unfold sp_lost
  rw [lossN_ag (ct' := z0) hb a3 a8 (eqN_rf _ _), lossO_ag (ct' := z0) hb a3 a8 (eqN_rf _ _), a4, a9]
theorem sp_others_ag {N : Int} {l l' : LV} (ha : AgV l l') (hw : WV N l') (a k : Int) : sp_others l a k = sp_others l' a k := by
  have hb := (AgV_W ha hw).2.2.1
  obtain ⟨a1, a2, a3, a4, a5, a6, a7, a8, a9, a10, a11, a12⟩ := ha
  unfold sp_others
  rw [lossN_ag (ct' := z0) hb a3 a8 (eqN_rf _ _), a9]
theorem sp_bin_ag {l l' : LV} (ha : AgV l l') (i w : Int) : sp_bin l i w = sp_bin l' i w := by
  obtain ⟨a1, a2, a3, a4, a5, a6, a7, a8, a9, a10, a11, a12⟩ := ha
  unfold sp_bin
  rw [← a3.1]
  split
  · rename_i h
    rw [a8 i h.1.1 h.1.2, a3.2.2.2.2 i h.1.1 h.1.2]
  · rfl
theorem sp_gap_ag {l l' : LV} (ha : AgV l l') (k w : Int) : sp_gap l k w = sp_gap l' k w := by
  obtain ⟨a1, a2, a3, a4, a5, a6, a7, a8, a9, a10, a11, a12⟩ := ha
  unfold sp_gap
  rw [← a3.2.1]
  split
  · rename_i h
    obtain ⟨q1, q2, q3⟩ := a3.2.2.2.1 k h.1.1 h.1.2
    rw [q1, q2, q3]
  · rfl
theorem sp_drawn_ag {N : Int} {l l' : LV} (ha : AgV l l') (hw : WV N l') (z k : Int) : sp_drawn l z k = sp_drawn l' z k := by
  have hb := (AgV_W ha hw).2.2.1
  obtain ⟨a1, a2, a3, a4, a5, a6, a7, a8, a9, a10, a11, a12⟩ := ha
  unfold sp_drawn
  rw [lossN_ag (ct' := z0) hb a3 (eqN_rf _ _) (eqN_rf _ _), a4, a9]
theorem tenS_ag {N : Int} {l l' : LV} (ha : AgV l l') (hw : WV N l') (z k : Int) : ∀ m : Nat, tenS l z k m = tenS l' z k m
  | 0 => rfl
  | m + 1 => by
    have hb := (AgV_W ha hw).2.2.1
    have h1 := tenS_ag ha hw z k m
    obtain ⟨a1, a2, a3, a4, a5, a6, a7, a8, a9, a10, a11, a12⟩ := ha
    rw [tenS, tenS, h1, lossN_ag (ct' := z0) hb a3 (eqN_rf _ _) (eqN_rf _ _), tot_ag a3 (eqN_rf _ _), a4, a9]
theorem sp_ten_ag {N : Int} {l l' : LV} (ha : AgV l l') (hw : WV N l') (z k : Int) : sp_ten l z k = sp_ten l' z k := by
  unfold sp_ten
  rw [tenS_ag ha hw]
theorem sp_count_ag {l l' : LV} (ha : AgV l l') (w : Int) : sp_count l w = sp_count l' w := by
  obtain ⟨a1, a2, a3, a4, a5, a6, a7, a8, a9, a10, a11, a12⟩ := ha
  unfold sp_count
  rw [a1, a5, a6, a9, a10, tot_ag a3 a8, a3.1, a3.2.1]
