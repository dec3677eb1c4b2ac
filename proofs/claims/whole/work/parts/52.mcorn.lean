/-! the model: corn -/
theorem m_lostByCorn {d : Nat} {P : Int → HP → Prop} {en : Int} {h : HP} (hb : wfB (bm h)) (hz : cm h) (hr : 0 ≤ h 5 1 ∧ h 5 1 ≤ 3) (hp : r199 (h 2 0) (h 13)) (hen : 1 ≤ en ∧ en ≤ 31) (hC : 0 ≤ h 8 0 ∧ h 8 0 ≤ 4)
    (hc : ∀ c, 0 ≤ c → c < h 8 0 → (0 ≤ h 9 (2 * c) ∧ h 9 (2 * c) ≤ 30) ∧ (1 ≤ h 9 (2 * c + 1) ∧ h 9 (2 * c + 1) ≤ 60) ∧ ∀ c', c ≤ c' → c' < h 8 0 → h 9 (2 * c) ≤ h 9 (2 * c'))
    (hrow : ∀ c, 0 ≤ c → c < h 8 0 → 0 ≤ h 19 c ∧ h 19 c < h 2 0)
    (hP : ∀ g, (∀ a, a ≠ 16 → a ≠ 17 → a ≠ 18 → g a = h a) → P ((LCv (bm h) (h 5 1) (fun c => h 9 (2 * c)) (fun c => h 9 (2 * c + 1)) en (cmg (fun c => h 9 (2 * c)) en (h 8 0).toNat) 0 0 0 (h 13) (h 19)).getD (-1)) g) :
    Ct KM (d + 2) mX11_lostByCorn [aR 0, aI en] h (rI P) := by
  have hn : 1 ≤ h 2 0 ∧ h 2 0 ≤ 8 := hb.1
  have hcm := cmg_le (cN := fun c => h 9 (2 * c)) (n := en) (h 8 0).toNat
  have hpre := cmg_pre (cN := fun c => h 9 (2 * c)) (n := en) (h 8 0).toNat (fun x y q0 q1 => (hc x (by omega) (by omega)).2.2 y (by omega) (by omega))
  generalize hmE : cmg (fun c => h 9 (2 * c)) en (h 8 0).toNat = m at hcm hpre hP
  have hlt : ∀ c : Nat, (c : Int) < h 8 0 → (c < m ↔ h 9 (2 * (c : Int)) < en) := fun c hcc => by
    constructor
    · exact fun z => hpre.1 c z
    · intro z
      by_cases e : c < m
      · exact e
      · have h1 : en ≤ h 9 (2 * (m : Int)) := hpre.2 (by omega)
        have h2 := (hc m (by omega) (by omega)).2.2 c (by omega) hcc
        omega
  generalize hvE : LCv (bm h) (h 5 1) (fun c => h 9 (2 * c)) (fun c => h 9 (2 * c + 1)) en m 0 0 0 (h 13) (h 19) = val at hP
  -- a night
  have night : ∀ (f : Nat) (t sum : Int) (c : Nat) (g : HP), t + f = en → 0 ≤ t → (∀ a, a ≠ 16 → a ≠ 17 → a ≠ 18 → g a = h a) → rowOK (h 2 0) (g 16) → (c : Int) ≤ h 8 0 → (∀ y : Nat, y < c → h 9 (2 * (y : Int)) < t) → ((c : Int) < h 8 0 → t ≤ h 9 (2 * (c : Int))) → LCv (bm h) (h 5 1) (fun c => h 9 (2 * c)) (fun c => h 9 (2 * c + 1)) en (m - c) c t sum (g 16) (h 19) = val → V KM (d + 2) mX11_lostByCorn 8 [some (aR 0), some (aI en), some (aI sum), some (aI t), none] [] g (rI P) := by
    intro f
    induction f with
    | zero =>
      intro t sum c g hf ht hg hro hcc hdone hnext hV
      have hmc : m - c = 0 := by
        by_cases e : c < m
        · have h1 := hnext (by omega)
          have h2 := (hlt c (by omega)).mp e
          omega
        · omega
      refine v_X11_lostByCorn_8 en sum t g ⟨⟨⟨by omega, by omega⟩, ⟨by omega, by omega⟩⟩, fun _ => ?_, fun z => absurd z (by omega)⟩
      rw [hmc, LCv, show (en - t).toNat = 0 by omega] at hV
      have e0 : lossN (bm h) (h 5 1) z0 (g 16) t 0 = 0 := by unfold lossN; show tot (bm h) (g 16) - tot (bm h) (g 16) = 0; omega
      rw [e0, show sum + 0 = sum by omega] at hV
      have := hP g hg
      rw [← hV] at this
      exact this
    | succ f ih =>
      intro t sum c g hf ht hg hro hcc hdone hnext hV
      -- the corn of this night
      have inner : ∀ (u : Nat) (x : Int) (c : Nat) (g : HP), x + u = h 8 0 → 0 ≤ x → (∀ a, a ≠ 16 → a ≠ 17 → a ≠ 18 → g a = h a) → rowOK (h 2 0) (g 16) → (c : Int) ≤ h 8 0 → (∀ y : Nat, y < c → h 9 (2 * (y : Int)) ≤ t) → ((x ≤ c ∧ (∀ y : Nat, x ≤ y → y < c → h 9 (2 * (y : Int)) < t) ∧ ((c : Int) < h 8 0 → t ≤ h 9 (2 * (c : Int)))) ∨ (c < x ∧ (c : Int) < h 8 0 ∧ t < h 9 (2 * (c : Int)))) → LCv (bm h) (h 5 1) (fun c => h 9 (2 * c)) (fun c => h 9 (2 * c + 1)) en (m - c) c t sum (g 16) (h 19) = val → V KM (d + 2) mX11_lostByCorn 16 [some (aR 0), some (aI en), some (aI sum), some (aI t), some (aI x)] [] g (rI P) := by
        intro u
        induction u with
        | zero =>
          intro x c g hx hx0 hg hro hcc hle hph hV
          have g8 : g 8 = h 8 := hg 8 (by decide) (by decide) (by decide)
          have g5 : g 5 = h 5 := hg 5 (by decide) (by decide) (by decide)
          have g2 : g 2 = h 2 := hg 2 (by decide) (by decide) (by decide)
          have g0 : g 0 = h 0 := hg 0 (by decide) (by decide) (by decide)
          have eb : bm g = bm h := by
            dsimp only [bm]
            rw [g0, g2, g5, hg 10 (by decide) (by decide) (by decide), hg 11 (by decide) (by decide) (by decide), hg 12 (by decide) (by decide) (by decide), hg 4 (by decide) (by decide) (by decide)]
          have ec : ctm g = z0 := ctm0 (by show g 0 15 = 0; rw [g0]; exact hz)
          have hfut : (c : Int) < h 8 0 → t < h 9 (2 * (c : Int)) := fun z => by
            rcases hph with ⟨q1, _⟩ | ⟨_, _, q⟩
            · omega
            · exact q
          refine v_X11_lostByCorn_16 en sum t x g ?_
          rw [g8, g5]
          refine ⟨by omega, ⟨⟨by omega, by omega⟩, ⟨by omega, by omega⟩⟩, fun _ => ⟨by omega, ?_⟩, fun z => absurd z (by omega)⟩
          refine c_goes (by rw [eb]; exact hb) hr ⟨ht, by omega⟩ (by rw [g2]; exact hro) (fun h' a1 a2 a3 => ?_)
          rw [eb, ec, g2] at a2
          rw [eb]
          have hok := ngt_ok (rats := h 5 1) (t := t) (ct := z0) (b := bm h) hb hro
          rw [tot_ag (b := bm h) (b' := bm h) (agB_rf _) a2]
          refine ih (t + 1) _ c h' (by omega) (by omega) (fun a q1 q2 q3 => (a1 a q1 q2 q3).trans (hg a q1 q2 q3)) (fun y q0 q1 => by rw [a2 y q0 q1]; exact hok y q0 q1) hcc (fun y hy => by have := hle y hy; omega) (fun z => by have := hfut z; omega) ?_
          rw [LC_night (fun z => by have := hfut (by omega); show t + 1 ≤ h 9 (2 * (c : Int)); omega) (fun _ => by omega)] at hV
          rw [← hV]
          refine LC_ag hb (m - c) c (t + 1) _ _ _ _ _ a2 (fun y q0 q1 => ⟨hrow y (by omega) (by omega), rfl⟩)
        | succ u ihu =>
          intro x c g hx hx0 hg hro hcc hle hph hV
          have g8 : g 8 = h 8 := hg 8 (by decide) (by decide) (by decide)
          have g9 : g 9 = h 9 := hg 9 (by decide) (by decide) (by decide)
          have g19 : g 19 = h 19 := hg 19 (by decide) (by decide) (by decide)
          obtain ⟨⟨n0, n1⟩, ⟨p0, p1⟩, hsrt⟩ := hc x hx0 (by omega)
          have hrx := hrow x hx0 (by omega)
          have hhx := hro (h 19 x) hrx.1 hrx.2
          refine v_X11_lostByCorn_16 en sum t x g ?_
          rw [g8, g9, g19]
          rw [hset_s]
          refine ⟨by omega, ⟨⟨by omega, by omega⟩, ⟨by omega, by omega⟩⟩, fun z => absurd z (by omega), fun _ => ⟨by omega, ⟨⟨by omega, by omega⟩, ⟨by omega, by omega⟩⟩, fun z => ?_, fun z => ⟨by omega, by omega, by omega, by omega, by omega, by omega, ⟨⟨by omega, by omega⟩, by decide⟩, fun z2 => ?_, fun z2 => ?_⟩⟩⟩
          · refine v_X11_lostByCorn_86 en sum t x g (ihu (x + 1) c g (by omega) (by omega) hg hro hcc hle ?_ hV)
            rcases hph with ⟨q1, q2, q3⟩ | ⟨q1, q2, q3⟩
            · by_cases e : x = c
              · right
                have h3 := q3 (by omega)
                rw [← e] at h3 ⊢
                exact ⟨by omega, by omega, by omega⟩
              · left
                exact ⟨by omega, fun y z1 z2 => q2 y (by omega) z2, q3⟩
            · right
              exact ⟨by omega, q2, q3⟩
          · have hxc : x = c := by
              rcases hph with ⟨q1, q2, q3⟩ | ⟨q1, q2, q3⟩
              · by_cases e : x = c
                · exact e
                · have h3 := q2 x.toNat (by omega) (by omega)
                  rw [show ((x.toNat : Nat) : Int) = x by omega] at h3
                  omega
              · have h3 := (hc c (by omega) (by omega)).2.2 x (by omega) (by omega)
                omega
            subst hxc
            have hcm2 : c < m := (hlt c (by omega)).mpr (by omega)
            refine v_X11_lostByCorn_86 en sum t c _ (ihu ((c : Int) + 1) (c + 1) _ (by omega) (by omega) (fun a q1 q2 q3 => by rw [hset_n q1]; exact hg a q1 q2 q3) (fun y q0 q1 => ?_) (by omega) (fun y hy => ?_) (Or.inl ⟨by omega, fun y z1 z2 => absurd z2 (by omega), fun z3 => ?_⟩) ?_)
            · by_cases e : y = h 19 c
              · rw [e, hset_s]; omega
              · rw [hset_m e]; exact hro y q0 q1
            · by_cases e : y = c
              · rw [e]; omega
              · exact hle y (by omega)
            · have := hsrt ((c + 1 : Nat) : Int) (by omega) z3
              omega
            · rw [show m - c = (m - (c + 1)) + 1 by omega, LC_add (by exact z), if_pos (by exact z2)] at hV
              rw [show ((c : Nat) : Int) + 1 = ((c + 1 : Nat) : Int) by omega] at hV
              rw [← hV]
              congr 1
              funext y
              unfold hset udf
              by_cases e : y = h 19 c
              · rw [if_pos ⟨rfl, e⟩, if_pos e]
              · rw [if_neg (fun q => e q.2), if_neg e]
          · have hxc : x = c := by
              rcases hph with ⟨q1, q2, q3⟩ | ⟨q1, q2, q3⟩
              · by_cases e : x = c
                · exact e
                · have h3 := q2 x.toNat (by omega) (by omega)
                  rw [show ((x.toNat : Nat) : Int) = x by omega] at h3
                  omega
              · have h3 := (hc c (by omega) (by omega)).2.2 x (by omega) (by omega)
                omega
            subst hxc
            have hcm2 : c < m := (hlt c (by omega)).mpr (by omega)
            rw [show m - c = (m - (c + 1)) + 1 by omega, LC_add (by exact z), if_neg (by show ¬ g 16 (h 19 c) + h 9 (2 * (c : Int) + 1) ≤ 199; omega)] at hV
            have := hP _ (fun a q1 q2 q3 => (hset_n (h := g) (k := 16) (i := h 19 c) (v := g 16 (h 19 c) + h 9 (2 * (c : Int) + 1)) q1).trans (hg a q1 q2 q3))
            rw [← hV] at this
            exact this
      refine v_X11_lostByCorn_8 en sum t g ⟨⟨⟨by omega, by omega⟩, ⟨by omega, by omega⟩⟩, fun z => absurd z (by omega), fun _ => inner (h 8 0).toNat 0 c g (by omega) (by omega) hg hro hcc (fun y hy => by have := hdone y hy; omega) (Or.inl ⟨by omega, fun y _ hy => hdone y hy, hnext⟩) hV⟩
  refine e_X11_lostByCorn en h (c_tries (fun g c1 c2 c3 c4 => ?_))
  refine night en.toNat 0 0 0 g (by omega) (by omega) (fun a q1 q2 q3 => c1 a q1 q3) (fun x q0 q1 => by rw [c2 x q0 (by omega)]; exact r199_ok hp x q0 q1) (by omega) (fun y hy => absurd hy (by omega)) (fun z => (hc 0 (by omega) (by omega)).1.1) ?_
  rw [← hvE, Nat.sub_zero]
  exact LC_ag hb m 0 0 0 _ _ _ _ (fun x q0 q1 => c2 x q0 (by have q1 : x < h 2 0 := q1; omega)) (fun y q0 q1 => ⟨by rw [show h 19 y = h 19 y from rfl]; exact hrow y (by omega) (by omega), rfl⟩)
