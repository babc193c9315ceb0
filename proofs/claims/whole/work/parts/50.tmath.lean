/-! BASES, LETTERS, TEXTS, WHAT IS MISSING -/
def nm (t : List Int) (p : Nat) : List Int := jn (pa t p ++ fa t p)
def fsg (t : List Int) : Nat → List Int
  | 0 => []
  | p + 1 => fsg t p ++ (jn (fa t p)).take 1
def shB (D : Db) (e : Nat) : List Int :=
  (if np (val D e 0) = 0 then (dY D e).take 3 else if np (val D e 0) = 1 then (jn (fa (val D e 0) 0)).take 3 else fsg (val D e 0) (min (np (val D e 0)) 4)) ++ (if 4 < np (val D e 0) then [43] else []) ++ (val D e 2).drop ((val D e 2).length - 2)
def lgB (D : Db) (al : Bool) (e : Nat) : List Int :=
  (if np (val D e 0) = 0 then dY D e else (if al = true ∧ ¬ gv (val D e 0) 0 = [] then inits (gv (val D e 0) 0) ++ [32] else []) ++ nm (val D e 0) 0) ++ (if np (val D e 0) = 2 then tx 1 ++ nm (val D e 0) 1 else if 2 < np (val D e 0) then tx 2 else []) ++ (if val D e 2 = [] then [] else 32 :: val D e 2)
def base (D : Db) (lb : Int) (L : List Nat) (e : Nat) : List Int := if lb = 1 then shB D e else if lb = 2 then lgB D (alk D L e) e else []
def basesOf (D : Db) (lb : Int) (L : List Nat) : List (List Int) := L.map (base D lb L)
/-- letters -/
def ltr (Bs : List (List Int)) (k : Nat) : Nat := if Bs.getD k [] = [] then 0 else if Bs.count (Bs.getD k []) ≤ 1 then 0 else (Bs.take (k + 1)).count (Bs.getD k [])
/-- a person with initials; all persons -/
def ful (t : List Int) (p : Nat) : List Int := nm t p ++ if gv t p = [] then [] else tx 5 ++ inits (gv t p)
def pn3 (t : List Int) : Nat → List Int
  | 0 => []
  | p + 1 => pn3 t p ++ (if p = 0 then [] else if p + 1 = np t then tx 1 else tx 5) ++ ful t p
def psn (t : List Int) : List Int := if 3 < np t then ful t 0 ++ tx 2 else pn3 t (np t)
/-- a piece behind others -/
def pce (X P : List Int) : List Int := X ++ (if X = [] then [32] else [46, 32]) ++ P
def pcV (X P : List Int) : List Int := if P = [] then X else pce X P
def thd (D : Db) (e : Nat) (X : List Int) : List Int :=
  if dK D e = 0 then (if val D e 3 = [] then X else pce X (val D e 3) ++ if val D e 5 = [] then [] else tx 5 ++ val D e 5)
  else if dK D e = 2 then (if val D e 6 = [] then X else pce X (tx 7 ++ val D e 6) ++ if val D e 5 = [] then [] else tx 8 ++ val D e 5)
  else pcV X (val D e (if dK D e = 4 then 7 else 4))
def pcs (D : Db) (e : Nat) : List Int := pcV (thd D e (pcV (if np (val D e 0) = 0 then [] else pce [] (psn (val D e 0))) (val D e 1))) (val D e 2)
def lbl (lb : Int) (k : Nat) (b : List Int) (l : Nat) : List Int := [if lb = 2 then 40 else 91] ++ (if lb = 0 then nmb ((k : Int) + 1) else []) ++ b ++ (if l = 0 then [] else [96 + (l : Int)]) ++ [if lb = 2 then 41 else 93]
def txt (D : Db) (lb : Int) (k : Nat) (b : List Int) (l e : Nat) : List Int := lbl lb k b l ++ pcs D e ++ if pcs D e = [] then [] else [46]
def textsOf (D : Db) (lb : Int) (L : List Nat) : List (List Int) := (List.range L.length).map (fun k => txt D lb k ((basesOf D lb L).getD k []) (ltr (basesOf D lb L) k) (L.getD k 0))
def lettersOf (D : Db) (lb : Int) (L : List Nat) : List Nat := (List.range L.length).map (ltr (basesOf D lb L))
/-- what a kind needs -/
def ned (k : Int) : List Nat := if k = 0 then [0, 1, 2, 3] else if k = 1 then [0, 1, 2, 4] else if k = 2 then [0, 1, 2, 6] else if k = 3 then [1, 2] else [1]
def wnt (D : Db) (e f : Nat) : List (Nat × Nat) := if val D e f = [] then [(e, f)] else []
def lck (D : Db) (e : Nat) : List (Nat × Nat) := (ned (dK D e)).flatMap (wnt D e)
def lacksOf (D : Db) (L : List Nat) : List (Nat × Nat) := L.flatMap (lck D)
/-! how long they are -/
def w3 (t : List Int) (p : Nat) : Nat := wl (gv t p) + wl (pa t p) + wl (fa t p)
theorem w3_sum (t : List Int) (n : Nat) : sumN (w3 t) n ≤ t.length + 1 := by
  have key : ∀ (T : List TWd) (n : Nat), sumN (fun p => wl (sel T p 0) + wl (sel T p 1) + wl (sel T p 2)) n ≤ wl (T.map (fun x => x.2.2)) := by
    intro T
    induction T with
    | nil =>
      intro n
      induction n with
      | zero => exact Nat.le_refl _
      | succ n ih => exact ih
    | cons x T ih =>
      intro n
      have hc : ∀ p q : Int, wl (sel (x :: T) p q) = (if x.1 = p ∧ x.2.1 = q then x.2.2.length + 1 else 0) + wl (sel T p q) := fun p q => by
        rw [show x :: T = [x] ++ T from rfl, sel_app, wl_app]
        congr 1
        unfold sel
        by_cases h : x.1 = p ∧ x.2.1 = q
        · rw [if_pos h]
          simp [h, wl_one]
        · rw [if_neg h]
          simp [h, wl]
      have hs : ∀ n, sumN (fun p => wl (sel (x :: T) p 0) + wl (sel (x :: T) p 1) + wl (sel (x :: T) p 2)) n ≤ sumN (fun p => wl (sel T p 0) + wl (sel T p 1) + wl (sel T p 2)) n + (if 0 ≤ x.1 ∧ x.1 < n then x.2.2.length + 1 else 0) := by
        intro n
        induction n with
        | zero => exact Nat.zero_le _
        | succ n ih =>
          show sumN _ n + (wl (sel (x :: T) n 0) + wl (sel (x :: T) n 1) + wl (sel (x :: T) n 2)) ≤ (sumN _ n + (wl (sel T n 0) + wl (sel T n 1) + wl (sel T n 2))) + _
          rw [hc, hc, hc]
          by_cases h : x.1 = (n : Int)
          · rw [if_neg (show ¬ (0 ≤ x.1 ∧ x.1 < (n : Int)) by omega)] at ih
            rw [if_pos (show 0 ≤ x.1 ∧ x.1 < ((n + 1 : Nat) : Int) by omega)]
            by_cases h0 : x.2.1 = 0
            · rw [if_pos ⟨h, h0⟩, if_neg (by omega), if_neg (by omega)]; omega
            · by_cases h1 : x.2.1 = 1
              · rw [if_neg (by omega), if_pos ⟨h, h1⟩, if_neg (by omega)]; omega
              · rw [if_neg (by omega), if_neg (by omega)]
                split <;> omega
          · rw [if_neg (fun q => h q.1), if_neg (fun q => h q.1), if_neg (fun q => h q.1)]
            by_cases h2 : 0 ≤ x.1 ∧ x.1 < (n : Int)
            · rw [if_pos h2] at ih
              rw [if_pos (by omega)]
              omega
            · rw [if_neg h2] at ih
              rw [if_neg (by omega)]
              omega
      have h1 := hs n
      have h2 := ih n
      show _ ≤ wl ([x.2.2] ++ T.map (fun x => x.2.2))
      rw [wl_app, wl_one]
      by_cases q : 0 ≤ x.1 ∧ x.1 < (n : Int)
      · rw [if_pos q] at h1; omega
      · rw [if_neg q] at h1; omega
  have h1 := key (tgs t) n
  have h2 : sumN (fun p => wl (sel (tgs t) p 0) + wl (sel (tgs t) p 1) + wl (sel (tgs t) p 2)) n = sumN (w3 t) n := sumN_congr (fun p _ => by
    obtain ⟨q0, q1, q2⟩ := tgs_sel t p
    unfold w3
    rw [← q0, ← q1, ← q2])
  have h3 : (tgs t).map (fun x => x.2.2) = wcs t (ppl t).1 := by
    have : ∀ l : List Wd, (tgA t l).2.map (fun x => x.2.2) = wcs t (tgA t l).1.1 := fun l => by
      refine fold_inv (P := fun S : PT => S.2.map (fun x => x.2.2) = wcs t S.1.1) (fun S r h => ?_) l _ rfl
      unfold adT adR
      by_cases hW : rgW t r.1 r.2 = []
      · rw [if_pos hW, if_pos hW]; exact h
      · rw [if_neg hW, if_neg hW]
        dsimp only
        have h : S.2.map (fun x => x.2.2) = wcs t S.1.1 := h
        rw [List.map_append, h]
        unfold wcs tgR
        rw [List.map_append, List.map_map]
        congr 1
        exact wcs_rng
    have := this (regs t)
    rw [tgA_fst] at this
    exact this
  rw [h2, h3] at h1
  have h4 := wcs_wl (ppl_len t).2
  have h5 := (ppl_len t).1
  omega
theorem nm_len (t : List Int) (p : Nat) : (nm t p).length ≤ wl (pa t p) + wl (fa t p) := by
  unfold nm
  have := jn_le (pa t p ++ fa t p)
  rw [wl_app] at this
  exact this
theorem ini_len (t : List Int) (p : Nat) : 2 * (inits (gv t p)).length ≤ 3 * wl (gv t p) := by
  have h1 := inits_len (ws := gv t p)
  have h2 : ∀ ws : List (List Int), (∀ w, w ∈ ws → ¬ w = []) → 2 * ws.length ≤ wl ws := fun ws => by
    induction ws with
    | nil => intro _; exact Nat.le_refl _
    | cons w ws ih =>
      intro hw
      have h2 := ih (fun x hx => hw x (List.mem_cons_of_mem _ hx))
      have h3 : 0 < w.length := List.length_pos_iff.mpr (hw w List.mem_cons_self)
      rw [show w :: ws = [w] ++ ws from rfl, wl_app, wl_one, List.length_append]
      show 2 * (1 + ws.length) ≤ _
      omega
  have h3 := h2 (gv t p) (fun w hw => ((gv_K t p).2 w hw).1)
  omega
theorem tx_l : (tx 1).length = 5 ∧ (tx 2).length = 7 ∧ (tx 5).length = 2 ∧ (tx 7).length = 4 ∧ (tx 8).length = 6 ∧ (tx 9).length = 12 := by decide
theorem ful_len (t : List Int) (p : Nat) : 2 * (ful t p).length ≤ 3 * w3 t p + 4 := by
  have h1 := nm_len t p
  have h2 := ini_len t p
  have h3 := tx_l.2.2.1
  unfold ful w3
  rw [List.length_append]
  split
  · show 2 * (_ + 0) ≤ _; omega
  · rw [List.length_append]; omega
theorem pn3_len (t : List Int) : ∀ n, 2 * (pn3 t n).length ≤ 3 * sumN (w3 t) n + 14 * n
  | 0 => Nat.le_refl _
  | p + 1 => by
    have h1 := pn3_len t p
    have h2 := ful_len t p
    have h3 := tx_l
    unfold pn3
    show 2 * _ ≤ 3 * (sumN (w3 t) p + w3 t p) + 14 * (p + 1)
    rw [List.length_append, List.length_append]
    split
    · show 2 * (_ + 0 + _) ≤ _; omega
    · split <;> omega
theorem psn_len {t : List Int} (ht : t.length ≤ 80) : (psn t).length ≤ 160 := by
  have h3 := tx_l
  unfold psn
  split
  · have h1 := ful_len t 0
    have h2 := w3_sum t 1
    have h2 : 0 + w3 t 0 ≤ t.length + 1 := h2
    rw [List.length_append]
    omega
  · have h1 := pn3_len t (np t)
    have h2 := w3_sum t (np t)
    omega
theorem nmb_len {x : Int} : (nmb x).length ≤ 2 := by
  unfold nmb
  split
  · exact Nat.le_succ 1
  · exact Nat.le_refl 2
theorem fsg_len (t : List Int) : ∀ n, (fsg t n).length ≤ n
  | 0 => Nat.le_refl _
  | p + 1 => by
    have := fsg_len t p
    unfold fsg
    rw [List.length_append, List.length_take]
    omega
theorem base_len {D : Db} (hD : DOK D) (lb : Int) (L : List Nat) (e : Nat) : (base D lb L e).length ≤ 300 := by
  have hy := (val_ok hD e 2).1
  have hk := (hD.2.2.1 e).1
  have ht := (val_ok hD e 0).1
  have h3 := tx_l
  unfold base
  split
  · unfold shB
    rw [List.length_append, List.length_append, List.length_drop]
    have h1 : (if np (val D e 0) = 0 then (dY D e).take 3 else if np (val D e 0) = 1 then (jn (fa (val D e 0) 0)).take 3 else fsg (val D e 0) (min (np (val D e 0)) 4)).length ≤ 4 := by
      split
      · rw [List.length_take]; omega
      · split
        · rw [List.length_take]; omega
        · have := fsg_len (val D e 0) (min (np (val D e 0)) 4)
          omega
    have h2 : (if 4 < np (val D e 0) then [(43 : Int)] else []).length ≤ 1 := by split <;> decide
    omega
  · split
    · have h1 := nm_len (val D e 0) 0
      have h1' := nm_len (val D e 0) 1
      have h2 := ini_len (val D e 0) 0
      have h4 := w3_sum (val D e 0) 2
      have h4 : 0 + w3 (val D e 0) 0 + w3 (val D e 0) 1 ≤ (val D e 0).length + 1 := h4
      unfold w3 at h4
      unfold lgB
      rw [List.length_append, List.length_append]
      have c1 : (if np (val D e 0) = 0 then dY D e else (if alk D L e = true ∧ ¬ gv (val D e 0) 0 = [] then inits (gv (val D e 0) 0) ++ [32] else []) ++ nm (val D e 0) 0).length ≤ 16 + (inits (gv (val D e 0) 0)).length + 1 + (nm (val D e 0) 0).length := by
        split
        · omega
        · rw [List.length_append]
          split
          · rw [List.length_append]; show _ + 1 + _ ≤ _; omega
          · show 0 + _ ≤ _; omega
      have c2 : (if np (val D e 0) = 2 then tx 1 ++ nm (val D e 0) 1 else if 2 < np (val D e 0) then tx 2 else []).length ≤ 7 + (nm (val D e 0) 1).length := by
        split
        · rw [List.length_append]; omega
        · split
          · omega
          · show 0 ≤ _; omega
      have c3 : (if val D e 2 = [] then [] else (32 : Int) :: val D e 2).length ≤ 81 := by
        split
        · show 0 ≤ 81; omega
        · show _ + 1 ≤ 81; omega
      omega
    · show 0 ≤ 300; omega
theorem pce_len {X P : List Int} : (pce X P).length ≤ X.length + 2 + P.length := by
  unfold pce
  rw [List.length_append, List.length_append]
  split
  · show _ + 1 + _ ≤ _; omega
  · show _ + 2 + _ ≤ _; omega
theorem pcV_len {X P : List Int} : (pcV X P).length ≤ X.length + 2 + P.length := by
  unfold pcV
  split
  · omega
  · exact pce_len
theorem thd_len {D : Db} (hD : DOK D) (e : Nat) (X : List Int) : (thd D e X).length ≤ X.length + 180 := by
  have v3 := (val_ok hD e 3).1
  have v5 := (val_ok hD e 5).1
  have v6 := (val_ok hD e 6).1
  have h3 := tx_l
  have pg : ∀ x : List Int, x.length ≤ 6 → (if val D e 5 = [] then [] else x ++ val D e 5).length ≤ 86 := fun x hx => by
    split
    · show 0 ≤ 86; omega
    · rw [List.length_append]; omega
  unfold thd
  split
  · split
    · omega
    · have := pce_len (X := X) (P := val D e 3)
      have := pg (tx 5) (by omega)
      rw [List.length_append]
      omega
  · split
    · split
      · omega
      · have := pce_len (X := X) (P := tx 7 ++ val D e 6)
        have := pg (tx 8) (by omega)
        rw [List.length_append] at *
        omega
    · have := pcV_len (X := X) (P := val D e (if dK D e = 4 then 7 else 4))
      have := (val_ok hD e (if dK D e = 4 then 7 else 4)).1
      omega
theorem pcs_len {D : Db} (hD : DOK D) (e : Nat) : (pcs D e).length ≤ 520 := by
  have ht := (val_ok hD e 0).1
  have v1 := (val_ok hD e 1).1
  have v2 := (val_ok hD e 2).1
  have h0 := psn_len ht
  have h1 : (if np (val D e 0) = 0 then [] else pce [] (psn (val D e 0))).length ≤ 162 := by
    split
    · show 0 ≤ 162; omega
    · have := pce_len (X := []) (P := psn (val D e 0))
      have : (pce [] (psn (val D e 0))).length ≤ 0 + 2 + (psn (val D e 0)).length := this
      omega
  unfold pcs
  generalize (if np (val D e 0) = 0 then [] else pce [] (psn (val D e 0))) = X0 at *
  have h2 := pcV_len (X := X0) (P := val D e 1)
  have h3 := thd_len hD e (pcV X0 (val D e 1))
  have h4 := pcV_len (X := thd D e (pcV X0 (val D e 1))) (P := val D e 2)
  omega
theorem lbl_len (lb : Int) (k : Nat) (b : List Int) (l : Nat) : (lbl lb k b l).length ≤ b.length + 5 := by
  unfold lbl
  rw [List.length_append, List.length_append, List.length_append, List.length_append]
  have h1 : (if lb = 0 then nmb ((k : Int) + 1) else []).length ≤ 2 := by
    split
    · exact nmb_len
    · show 0 ≤ 2; omega
  have h2 : (if l = 0 then [] else [96 + (l : Int)]).length ≤ 1 := by split <;> simp
  show 1 + _ + _ + _ + 1 ≤ _
  omega
