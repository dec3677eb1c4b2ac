/-! CORN: rows by codes, what is lost by a row; pure -/
def LCv (b : BB) (r : Int) (cN cP : Int → Int) (en : Int) : Nat → Int → Int → Int → (Int → Int) → (Int → Int) → Option Int
  | 0, _, t, lost, p, _ => some (lost + lossN b r z0 p t (en - t).toNat)
  | m + 1, c, t, lost, p, ρ => if NN b r z0 p t (cN c - t).toNat (ρ c) + cP c ≤ 199 then LCv b r cN cP en m (c + 1) (cN c) (lost + lossN b r z0 p t (cN c - t).toNat) (udf (NN b r z0 p t (cN c - t).toNat) (ρ c) (NN b r z0 p t (cN c - t).toNat (ρ c) + cP c)) ρ else none
def stL (lv : (Int → Int) → Option Int) (ρ : Int → Int) (s : SC) : SC := match lv ρ with
  | none => s
  | some v => if v < s.1 then (v, ρ) else s
def MFr (lv : (Int → Int) → Option Int) (n : Nat) : Nat → Int → (Int → Int) → SC → SC
  | 0, _, row, s => stL lv row s
  | j + 1, c, row, s => fbin (fun x s => MFr lv n j (c + 1) (udf row c x) s) n 0 s
theorem udf_lo {row : Int → Int} {c v x : Int} (h : x < c) : udf row c v x = row x := by unfold udf; rw [if_neg (by omega)]
theorem udf_at {row : Int → Int} {c v : Int} : udf row c v c = v := by unfold udf; rw [if_pos rfl]
theorem udf_ne {row : Int → Int} {c v x : Int} (h : x ≠ c) : udf row c v x = row x := by unfold udf; rw [if_neg h]
theorem MF_none {lv : (Int → Int) → Option Int} {n : Nat} : ∀ (j : Nat) (c : Int) (row : Int → Int) (s : SC), (∀ ρ, (∀ x, x < c → ρ x = row x) → lv ρ = none) → MFr lv n j c row s = s
  | 0, c, row, s, h => by
    rw [MFr]
    unfold stL
    rw [h row (fun _ _ => rfl)]
  | j + 1, c, row, s, h => by
    rw [MFr]
    exact fbin_fix (n := n) (fun x _ _ => MF_none j (c + 1) (udf row c x) s (fun ρ hρ => h ρ (fun y hy => by rw [hρ y (by omega), udf_lo hy]))) n 0 (by omega) (by omega)
theorem MF_keep {lv : (Int → Int) → Option Int} {n : Nat} {v : Int} : ∀ (j : Nat) (c : Int) (row : Int → Int) (s : SC), (∀ ρ, (∀ x, x < c → ρ x = row x) → lv ρ = some v) → s.1 ≤ v → MFr lv n j c row s = s
  | 0, c, row, s, h, hs => by
    rw [MFr]
    unfold stL
    rw [h row (fun _ _ => rfl)]
    dsimp only
    rw [if_neg (by omega)]
  | j + 1, c, row, s, h, hs => by
    rw [MFr]
    exact fbin_fix (n := n) (fun x _ _ => MF_keep j (c + 1) (udf row c x) s (fun ρ hρ => h ρ (fun y hy => by rw [hρ y (by omega), udf_lo hy])) hs) n 0 (by omega) (by omega)
theorem MF_const {lv : (Int → Int) → Option Int} {n : Nat} {v : Int} (hn : 1 ≤ n) : ∀ (j : Nat) (c : Int) (row : Int → Int) (s : SC), (∀ ρ, (∀ x, x < c → ρ x = row x) → lv ρ = some v) → (∀ x, c ≤ x → row x = 0) → MFr lv n j c row s = if v < s.1 then (v, row) else s
  | 0, c, row, s, h, hz => by
    rw [MFr]
    unfold stL
    rw [h row (fun _ _ => rfl)]
  | j + 1, c, row, s, h, hz => by
    rw [MFr]
    obtain ⟨m, rfl⟩ : ∃ m, n = m + 1 := ⟨n - 1, by omega⟩
    have e0 : udf row c 0 = row := by
      funext x
      by_cases e : x = c
      · rw [e, udf_at, hz c (by omega)]
      · rw [udf_ne e]
    rw [fbin, e0, MF_const hn j (c + 1) row s (fun ρ hρ => h ρ (fun y hy => hρ y (by omega))) (fun x hx => hz x (by omega))]
    have hs : (if v < s.1 then ((v, row) : SC) else s).1 ≤ v := by
      split
      · exact Int.le_refl _
      · omega
    exact fbin_fix (n := (m : Int) + 1) (fun x _ _ => MF_keep j (c + 1) (udf row c x) _ (fun ρ hρ => h ρ (fun y hy => by rw [hρ y (by omega), udf_lo hy])) hs) m (0 + 1) (by omega) (by omega)
theorem MF_KO {lv : (Int → Int) → Option Int} {b : BB} {r en : Int} {cN cP : Int → Int} (hb : wfB b) : ∀ (k j : Nat) (c t lost : Int) (p row : Int → Int) (s : SC), (∀ ρ, (∀ x, x < c → ρ x = row x) → lv ρ = LCv b r cN cP en k c t lost p ρ) → (∀ x, c ≤ x → row x = 0) → MFr lv (bn b).toNat (k + j) c row s = KO b r cN cP en k c t lost p row s
  | 0, j, c, t, lost, p, row, s, h, hz => by
    have hn := hb.1
    rw [KO, Nat.zero_add]
    exact MF_const (by omega) j c row s (fun ρ hρ => by rw [h ρ hρ, LCv]) hz
  | k + 1, j, c, t, lost, p, row, s, h, hz => by
    have hn := hb.1
    rw [show k + 1 + j = (k + j) + 1 by omega, MFr, KO]
    refine fbin_ag (n := bn b) (fun x s q0 q1 => ?_) _ _ _ (by omega) (by omega)
    by_cases fit : NN b r z0 p t (cN c - t).toNat x + cP c ≤ 199
    · rw [if_pos fit]
      refine MF_KO hb k j (c + 1) _ _ _ (udf row c x) s (fun ρ hρ => ?_) (fun y hy => by rw [udf_ne (by omega)]; exact hz y (by omega))
      have hc : ρ c = x := by rw [hρ c (by omega), udf_at]
      rw [h ρ (fun y hy => by rw [hρ y (by omega), udf_lo hy]), LCv, hc, if_pos fit]
    · rw [if_neg fit]
      refine MF_none (k + j) (c + 1) (udf row c x) s (fun ρ hρ => ?_)
      have hc : ρ c = x := by rw [hρ c (by omega), udf_at]
      rw [h ρ (fun y hy => by rw [hρ y (by omega), udf_lo hy]), LCv, hc, if_neg fit]
/-! folds by codes -/
def RGf (f : Nat → SC → SC) : Nat → SC → SC
  | 0, s => s
  | k + 1, s => f k (RGf f k s)
theorem RG_congr {f g : Nat → SC → SC} {s : SC} : ∀ k : Nat, (∀ i, i < k → ∀ s, f i s = g i s) → RGf f k s = RGf g k s
  | 0, _ => rfl
  | k + 1, h => by rw [RGf, RGf, RG_congr k (fun i hi => h i (by omega)), h k (by omega)]
theorem RG_add {f : Nat → SC → SC} {s : SC} (a : Nat) : ∀ k : Nat, RGf f (a + k) s = RGf (fun i => f (a + i)) k (RGf f a s)
  | 0 => rfl
  | k + 1 => by
    rw [show a + (k + 1) = (a + k) + 1 by omega, RGf, RGf, RG_add a k]
theorem fbin_RG {f : Int → SC → SC} : ∀ (j : Nat) (x : Int) (s : SC), fbin f j x s = RGf (fun i => f (x + (i : Nat))) j s
  | 0, _, _ => rfl
  | j + 1, x, s => by
    rw [fbin, fbin_RG j (x + 1) (f x s), Nat.add_comm j 1, RG_add 1 j]
    have e : RGf (fun i => f (x + (i : Nat))) 1 s = f x s := by
      rw [RGf, RGf]
      rw [show x + ((0 : Nat) : Int) = x by omega]
    rw [e]
    refine RG_congr j (fun i _ s => ?_)
    rw [show x + ((1 + i : Nat) : Int) = x + 1 + (i : Nat) by omega]
theorem RG_blocks {F : Nat → Nat → SC → SC} {B : Nat} (hB : 0 < B) {s : SC} : ∀ k : Nat, RGf (fun i s => RGf (fun a s => F i a s) B s) k s = RGf (fun a s => F (a / B) (a % B) s) (k * B) s
  | 0 => by rw [Nat.zero_mul]; rfl
  | k + 1 => by
    rw [Nat.succ_mul, RG_add (k * B) B, RGf, RG_blocks hB k]
    refine RG_congr B (fun i hi s => ?_)
    rw [show (k * B + i) / B = k by rw [Nat.add_comm, Nat.add_mul_div_right _ _ hB, Nat.div_eq_of_lt hi]; omega, show (k * B + i) % B = i by rw [Nat.add_comm, Nat.add_mul_mod_self_right, Nat.mod_eq_of_lt hi]]
def rwc (n : Nat) : Nat → Int → (Int → Int) → Nat → (Int → Int)
  | 0, _, row, _ => row
  | j + 1, c, row, a => rwc n j (c + 1) (udf row c ((a / n ^ j : Nat) : Int)) (a % n ^ j)
theorem MF_code {lv : (Int → Int) → Option Int} {n : Nat} (hn : 0 < n) : ∀ (j : Nat) (c : Int) (row : Int → Int) (s : SC), MFr lv n j c row s = RGf (fun a s => stL lv (rwc n j c row a) s) (n ^ j) s
  | 0, c, row, s => by
    rw [MFr, Nat.pow_zero, RGf, RGf]
    rfl
  | j + 1, c, row, s => by
    have hB : 0 < n ^ j := Nat.pow_pos hn
    rw [MFr, fbin_RG]
    have e1 : RGf (fun i => (fun x s => MFr lv n j (c + 1) (udf row c x) s) (0 + (i : Nat))) n s = RGf (fun i s => RGf (fun a s => stL lv (rwc n j (c + 1) (udf row c ((i : Nat) : Int)) a) s) (n ^ j) s) n s := by
      refine RG_congr n (fun i _ s => ?_)
      dsimp only
      rw [MF_code hn j (c + 1), show (0 : Int) + ((i : Nat) : Int) = i by omega]
    rw [e1, RG_blocks (F := fun i a s => stL lv (rwc n j (c + 1) (udf row c ((i : Nat) : Int)) a) s) hB n, Nat.pow_succ, Nat.mul_comm n (n ^ j)]
    rfl
theorem rwc_lo {n : Nat} {x : Int} : ∀ (j : Nat) (c : Int) (row : Int → Int) (a : Nat), x < c → rwc n j c row a x = row x
  | 0, _, _, _, _ => rfl
  | j + 1, c, row, a, h => by rw [rwc, rwc_lo j (c + 1) _ _ (by omega), udf_lo h]
theorem rwc_at {n : Nat} (hn : 0 < n) : ∀ (j : Nat) (c : Int) (row : Int → Int) (a i : Nat), i < j → a < n ^ j → rwc n j c row a (c + i) = ((a / n ^ (j - 1 - i) % n : Nat) : Int)
  | 0, _, _, _, _, h, _ => absurd h (by omega)
  | j + 1, c, row, a, i, h, ha => by
    rw [rwc]
    cases i with
    | zero =>
      rw [rwc_lo j (c + 1) _ _ (by omega), show c + ((0 : Nat) : Int) = c by omega, udf_at, show j + 1 - 1 - 0 = j by omega]
      have : a / n ^ j < n := by
        rw [Nat.div_lt_iff_lt_mul (Nat.pow_pos hn), Nat.mul_comm, ← Nat.pow_succ]
        exact ha
      rw [Nat.mod_eq_of_lt this]
    | succ i =>
      have := rwc_at hn j (c + 1) (udf row c ((a / n ^ j : Nat) : Int)) (a % n ^ j) i (by omega) (Nat.mod_lt _ (Nat.pow_pos hn))
      rw [show c + ((i + 1 : Nat) : Int) = c + 1 + (i : Nat) by omega, this, show j + 1 - 1 - (i + 1) = j - 1 - i by omega]
      have e1 : n ^ j = n ^ (j - 1 - i) * n ^ (i + 1) := by rw [← Nat.pow_add]; congr 1; omega
      rw [e1, Nat.mod_mul_right_div_self, Nat.mod_mod_of_dvd _ (show n ∣ n ^ (i + 1) from ⟨n ^ i, by rw [Nat.pow_succ, Nat.mul_comm]⟩)]
/-! what is lost by a row: night by night -/
theorem NN_sh {b : BB} {r : Int} {ct p : Int → Int} {t : Int} : ∀ k : Nat, NN b r ct p t (k + 1) = NN b r ct (ngt b r t ct p) (t + 1) k
  | 0 => by
    rw [NN_1]
    show ngt b r (t + ((0 : Nat) : Int)) ct p = ngt b r t ct p
    rw [show t + ((0 : Nat) : Int) = t by omega]
  | k + 1 => by
    rw [NN_1, NN_sh k, NN_1, show t + 1 + (k : Int) = t + ((k + 1 : Nat) : Int) by omega]
theorem lossN_sh {b : BB} {r : Int} {ct p : Int → Int} {t : Int} (k : Nat) : lossN b r ct p t (k + 1) = (tot b p - tot b (ngt b r t ct p)) + lossN b r ct (ngt b r t ct p) (t + 1) k := by
  unfold lossN
  rw [NN_sh]
  omega
theorem LC_night {b : BB} {r en : Int} {cN cP : Int → Int} {m : Nat} {c t lost : Int} {p ρ : Int → Int} (h1 : 0 < m → t + 1 ≤ cN c) (h0 : m = 0 → t + 1 ≤ en) : LCv b r cN cP en m c t lost p ρ = LCv b r cN cP en m c (t + 1) (lost + (tot b p - tot b (ngt b r t z0 p))) (ngt b r t z0 p) ρ := by
  cases m with
  | zero =>
    have := h0 rfl
    rw [LCv, LCv, show (en - t).toNat = (en - (t + 1)).toNat + 1 by omega, lossN_sh]
    congr 1
    omega
  | succ m =>
    have := h1 (by omega)
    rw [LCv, LCv, show (cN c - t).toNat = (cN c - (t + 1)).toNat + 1 by omega, NN_sh, lossN_sh]
    rw [show lost + (tot b p - tot b (ngt b r t z0 p) + lossN b r z0 (ngt b r t z0 p) (t + 1) (cN c - (t + 1)).toNat) = lost + (tot b p - tot b (ngt b r t z0 p)) + lossN b r z0 (ngt b r t z0 p) (t + 1) (cN c - (t + 1)).toNat by omega]
theorem LC_add {b : BB} {r en : Int} {cN cP : Int → Int} {m : Nat} {c t lost : Int} {p ρ : Int → Int} (h : cN c = t) : LCv b r cN cP en (m + 1) c t lost p ρ = if p (ρ c) + cP c ≤ 199 then LCv b r cN cP en m (c + 1) t lost (udf p (ρ c) (p (ρ c) + cP c)) ρ else none := by
  have e : lossN b r z0 p t 0 = 0 := by unfold lossN; show tot b p - tot b p = 0; omega
  rw [LCv, h, show (t - t).toNat = 0 by omega, e, show NN b r z0 p t 0 = p from rfl, show lost + 0 = lost by omega]
theorem LC_ag {b : BB} {r en : Int} {cN cP : Int → Int} (hb : wfB b) : ∀ (m : Nat) (c t lost : Int) (p p' ρ ρ' : Int → Int), eqN (bn b) p p' → (∀ x, c ≤ x → x < c + m → (0 ≤ ρ x ∧ ρ x < bn b) ∧ ρ x = ρ' x) → LCv b r cN cP en m c t lost p ρ = LCv b r cN cP en m c t lost p' ρ'
  | 0, c, t, lost, p, p', ρ, ρ', hp, _ => by
    rw [LCv, LCv, lossN_ag (ct := z0) (ct' := z0) hb (agB_rf b) hp (eqN_rf _ _)]
  | m + 1, c, t, lost, p, p', ρ, ρ', hp, hρ => by
    obtain ⟨h1, h2⟩ := hρ c (by omega) (by omega)
    have hN := NN_ag (rats := r) (t := t) (ct := z0) (ct' := z0) hb (agB_rf b) hp (eqN_rf _ _) (cN c - t).toNat
    rw [LCv, LCv, ← h2, hN (ρ c) h1.1 h1.2, lossN_ag (ct := z0) (ct' := z0) hb (agB_rf b) hp (eqN_rf _ _), LC_ag hb m (c + 1) (cN c) _ _ _ ρ ρ' (udf_ag hN rfl) (fun x q0 q1 => hρ x (by omega) (by omega))]
theorem LC_in {b : BB} {r en : Int} {cN cP : Int → Int} (hb : wfB b) : ∀ (m : Nat) (c t lost : Int) (p ρ : Int → Int) (v : Int), rowOK (bn b) p → (∀ x, c ≤ x → x < c + m → (0 ≤ ρ x ∧ ρ x < bn b) ∧ 0 ≤ cP x) → LCv b r cN cP en m c t lost p ρ = some v → lost ≤ v ∧ v ≤ lost + 2400 * (m + 1)
  | 0, c, t, lost, p, ρ, v, hp, _, h => by
    rw [LCv] at h
    have := lossN_in (r := r) (ct := z0) (t := t) hb hp (en - t).toNat
    have := Option.some.inj h
    omega
  | m + 1, c, t, lost, p, ρ, v, hp, hρ, h => by
    rw [LCv] at h
    have hl := lossN_in (r := r) (ct := z0) (t := t) hb hp (cN c - t).toNat
    have hN := NN_ok (rats := r) (t := t) (ct := z0) hb hp (cN c - t).toNat
    obtain ⟨h1, h2⟩ := hρ c (by omega) (by omega)
    have h3 := hN (ρ c) h1.1 h1.2
    split at h
    · have := LC_in hb m (c + 1) (cN c) _ _ ρ v (udf_ok hN ⟨by omega, by omega⟩) (fun x q0 q1 => hρ x (by omega) (by omega)) h
      omega
    · cases h
