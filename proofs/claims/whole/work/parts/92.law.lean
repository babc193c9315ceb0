/-! THE LAW, from its entry -/
section New
variable {p : Program} {l : Launch} {e : Env} {R : Room} {s : State} {m : MethodId} {args : Array Value} {below : List Frame} {meth : Method} {c : Code} {H : Heap} {locs : List Loc} {cells slots : Nat} {Q : State → Prop}
variable {D : va_G} {g : Nat → Nat} {A : Nat → Prop} {cc : ByteArray} {nL k2 i b pc : Nat} {As rest : List Value} {σ τ : PS} {ls : Array Slot}
theorem Pl_new {H1 : Heap} (h5 : Pl D g A σ H) (h3 : H.size = zN σ) (hA : A (zN σ)) (ho : ∀ b, b ≠ zN σ → zK τ b = zK σ b ∧ zL τ b = zL σ b ∧ zI τ b = zI σ b ∧ zP τ b = zP σ b) (hlv : live (zK τ (zN σ))) (o1 : ∀ q, q < zN σ → H1[q]? = H[q]?) (hat : va_at D vwCl (zN σ, cel g τ (zN σ)) H1) : Pl D g A τ H1 := by
  obtain ⟨Ls, hL, hP, hD⟩ := h5
  have hfr : zN σ ∉ Ls := va_pl_fresh (X := []) hP (Nat.le_of_eq h3)
  have hkp : ∀ (k : Nat) (x : Nat × va_E), (va_pl Ls (cel g σ))[k]? = some x → H1[x.1]? = H[x.1]? := fun k x hx => o1 x.1 (by rw [← h3]; exact (hP k x hx).lt)
  have hP1 : va_P D vwCl (va_pl Ls (cel g σ) ++ [(zN σ, cel g τ (zN σ))]) H1 := (hP.kept hkp).app (fun k x hx => by
    have hz : k < 1 := (List.getElem?_eq_some_iff.mp hx).1
    rw [show k = 0 by omega] at hx
    cases hx
    exact hat)
  have hD1 : va_D A (va_pl Ls (cel g σ) ++ [(zN σ, cel g τ (zN σ))]) := hD.push hP h3.symm hA
  rw [va_pl_push hfr, va_pl_congr (cel_up rfl ho)] at hP1 hD1
  exact ⟨Ls ++ [zN σ], fun b => by
    rw [List.mem_append, List.mem_singleton]
    by_cases hb : b = zN σ
    · subst hb
      exact ⟨fun _ => hlv, fun _ => Or.inr rfl⟩
    · rw [(ho b hb).1, ← hL b]
      exact ⟨fun q => q.resolve_right hb, Or.inl⟩, hP1, hD1⟩
theorem L_new {cI : Nat} (X : CallFix p m c cc nL s args gW RL) (hE : EnvT D g s) (hc : cI ≤ 8) (hlink : Cond.classLink RL i (clN cI) ∈ gW) (hd : decode cc pc = .ok (.new i, 3)) (hroom : cells + 1 ≤ R.cells ∧ slots + fN cI ≤ R.slots) (hA : ∀ q, s.heap.size ≤ q → A q) (h3 : H.size = zN σ) (h5 : Pl D g A σ H) (h6 : va_S A s.heap H locs) (h7 : cOK g σ)
    (kk : ∀ H1 : Heap, H1.size = zN σ + 1 → (∀ q, q < zN σ → H1[q]? = H[q]?) → Pl D g A (alO σ (cI + 1) (fN cI)) H1 → va_S A s.heap H1 locs → cOK g (alO σ (cI + 1) (fN cI)) → W p l e R s m args below meth c H1 locs (cells + 1) (slots + fN cI) Q (F0 m (pc + 3) ls (.ref (zN σ) :: rest))) : W p l e R s m args below meth c H locs cells slots Q (F0 m pc ls rest) := by
  obtain ⟨hx, hb, hml, hown, hts⟩ := X
  obtain ⟨c1, c2, c3, c4, c5, -, c7, -⟩ := cl_ok cI hc
  have hKn := hE.1.1 cI _ c1
  have hle := h6.1
  refine W.newcK hx hb hown (hts _ hlink) (hts _ c3) (hts _ c4) rfl hd hroom.1 hroom.2 hKn.2.1 h3 fun H1 kC hkC e1 z1 o1 => ?_
  have kz : zK (alO σ (cI + 1) (fN cI)) (zN σ) = cI + 1 := by simp [zK, alO]
  refine kk H1 z1 o1 (Pl_new h5 h3 (hA _ (by omega)) o_alO (by rw [kz]; exact live_8 hc rfl) o1 ?_) ⟨by omega, fun q g1 g2 => (o1 q (by omega)).trans (h6.2.1 q g1 g2), h6.2.2⟩ (c_alO h7 (by omega))
  rw [cel_obj hc kz]
  refine ⟨_, c1, (u_born (clY cI) hts c2 hKn hkC e1 c5).to (fun j hj => ?_)⟩
  unfold vp_V
  rw [List.getD_eq_getElem?_getD, flds_get _ _ hj]
  have ez : zI (alO σ (cI + 1) (fN cI)) (zN σ) j = 0 := by simp [zI, alO]
  have ep : zP (alO σ (cI + 1) (fN cI)) (zN σ) j = none := by simp [zP, alO]
  rcases (c7 j hj).1 with ⟨q1, q2⟩ | ⟨q1, -, q2⟩ | ⟨q1, -, q2⟩
  · rw [q1, ep]
    cases ht : clY cI j <;> simp [ht, FieldType.isReference] at q2 <;> rfl
  · rw [q1, q2, ez]
    rfl
  · rw [q1, q2, ez]
    rfl
theorem L_goI {C S mc ms : Nat} {st0 : List Value} {v : Option Value} {as : Array Value}
    (hr : va_Run p l e R s m args below meth c H locs cells slots mc ms (F0 m pc ls st0) rest (QcK D g C S σ (Sum.inl v) τ as) (Ar σ)) (hS : va_S A s.heap H locs) (hA : ∀ q, Ar σ q → A q)
    (kk : ∀ (H1 : Heap) (locs1 : List Loc), H1.size = zN τ → hsl H1 + zS σ ≤ hsl H + zS τ → Pl D g A τ H1 → cOK g τ → va_S A s.heap H1 locs1 → W p l e R s m args below meth c H1 locs1 (cells + mc) (slots + ms) Q (F0 m (pc + 3) ls (v.toList ++ rest))) :
    W p l e R s m args below meth c H locs cells slots Q (F0 m pc ls st0) := by
  intro T hT X
  obtain ⟨v', st₀, t, T', L, h0, X', hL, e1, e2, ⟨⟨v1, r1, r2, z1, z2, z3, z4, z5, z6, z7⟩, hF⟩, st⟩ := hr T hT X
  cases r1
  cases r2
  obtain ⟨k1, k2, k3⟩ := vx_keep h0 e1 hS (fun q _ h => hA q h) hA hL hF
  rw [h0] at z2
  obtain ⟨t2, a1, b1⟩ := kk T'.heap (locs ++ L) (by rw [e1]; exact z1) (by rw [e1]; exact z2) (by rw [e1]; exact z3.weak hA) z4 k3 T' rfl X'
  exact ⟨t2, st t2 a1, b1⟩
end New
set_option maxHeartbeats 4000000 in
theorem whole_start {p : Program} {e : Env} {s : State} {m : MethodId} {below : List Frame} {meth : Method} {c : Code} (l : Launch) (hl : l.stackTraces = false) {b L : Nat} {xs : Nat → Int32} (hL : L ≤ 192) (hf : heapFits s = true) (C0 : lw_At p s m meth c b L xs) : W p l e room_1 s m #[Value.ref b] below meth c s.heap [] 0 0 (lw_Z below #[Value.ref b] s) (entryFrame m ([Value.ref b] : List Value).toArray 7) := by
  obtain ⟨hx, hb, hr, hml, hown, hts, hX, hbl, hlocks, hgv⟩ := id C0
  have X : CallFix p m c code 7 s #[Value.ref b] gW RL := ⟨hx, hb, hml, hown, fun w hw => hts w (gW_in w hw)⟩
  obtain ⟨D, g, gL, hC, hG⟩ := env_start hts hgv hf
  obtain ⟨hz0, hc0, hk0, -⟩ := sig_start hG
  have hA : ∀ q, s.heap.size ≤ q → A0 s q := fun _ h => h
  have hS0 : va_S (A0 s) s.heap s.heap [] := va_S.rf
  have hP0 : Pl D g (A0 s) (sig0 g s.heap.size) s.heap := by
    refine ⟨[], fun a => ⟨fun h => (by cases h), fun h => ?_⟩, fun k q h => by simp [va_pl] at h, fun i j p q h => by simp [va_pl] at h, fun k q h => by simp [va_pl] at h⟩
    have := hk0 a
    unfold live at h
    omega
  obtain ⟨r1, r2, r3, r4⟩ := rs0
  rw [lg_entry_eq]
  have hls := lsR_entry ([.ref b]) (n := 7) (Nat.le_of_ble_eq_true rfl)
  generalize (lg_sl ([.ref b]) ++ List.replicate (7 - (lg_sl ([.ref b])).length) Slot.unset).toArray = ls at hls ⊢
  have hls : lsR ls [some (.ref b), none, none, none, none, none, none] := hls
  refine L_new (cI := 7) (σ := sig0 g s.heap.size) (A := A0 s) X hC.1 (by decide) gC_8 dL_law_0 ⟨by show 0 + 1 ≤ 600096; omega, by show 0 + fN 7 ≤ 7301385; omega⟩ hA rfl hP0 hS0 hc0 (fun H1 z1 o1 hP1 hS1 hc1 => ?_)
  refine lv_dup hx hb dL_law_3 rfl ?_
  obtain ⟨N, τ, hrun, hzτ, ⟨d, A, hCI, hXE⟩, hn1, hs1⟩ := mk_cls hG
  have hrm1 : zN τ ≤ s.heap.size + 257700 ∧ zS τ ≤ 8 * s.heap.size + 2061600 := by
    have h1 := hXE.bd (B := 8 * s.heap.size + 2000000) (Nat.le_refl _)
    have h2 := hCI.1
    omega
  have hn1 : s.heap.size + 1 ≤ zN τ := hn1
  have hs1 : 8 * s.heap.size + fN 7 ≤ zS τ := hs1
  have hAr1 := Ar_L hA (show H1.size = zN (alO (sig0 g s.heap.size) 8 (fN 7)) from z1) hP1 hS1
  refine W_look fun y1 y2 => ?_
  refine L_goI (A := A0 s) (L_runI (As := []) (rest := [.ref s.heap.size]) (b := s.heap.size) X hC.1 hC.2.1 hA (by decide) rfl rfl gK_66 rfl dL_law_4 (Nat.le_of_ble_eq_true rfl) (by decide) ⟨by show 0 + 1 + (zN τ + 1 - (s.heap.size + 1)) ≤ 600096; omega, by show 0 + fN 7 + (zS τ + 6 - (8 * s.heap.size + fN 7)) ≤ 7301385; omega⟩ (sound hl D g _ _ N 66 [.ref s.heap.size] _ _ τ (by decide) (Nat.le_of_ble_eq_true rfl) hrun) ⟨by show s.heap.size + 1 ≤ _; omega, by show 8 * s.heap.size + fN 7 ≤ _; omega⟩ z1 hP1 hS1 hc1 hls.1) hS1 hAr1 (fun H2 locs2 z2 w2 hP2 hc2 hS2 => ?_)
  have w2 : hsl H2 + (8 * s.heap.size + fN 7) ≤ hsl H1 + zS τ := w2
  refine W_tight (cells' := zN τ - s.heap.size) (slots' := zS τ - 8 * s.heap.size) (by omega) (by omega) ?_
  refine z_asn hx hb hls dL_law_7 (Nat.le_of_ble_eq_true rfl) (fun ls hls => ?_)
  have hls : lsR ls [some (.ref b), some (.ref s.heap.size), none, none, none, none, none] := hls
  refine L_new (cI := 8) (σ := τ) (A := A0 s) X hC.1 (by decide) gC_62 dL_law_8 ⟨by show zN τ - s.heap.size + 1 ≤ 600096; omega, by show zS τ - 8 * s.heap.size + fN 8 ≤ 7301385; omega⟩ hA z2 hP2 hS2 hc2 (fun H3 z3 o3 hP3 hS3 hc3 => ?_)
  refine lv_dup hx hb dL_law_11 rfl ?_
  obtain ⟨N2, υ, hrun2, hJ, eN, eS⟩ := mk_ref hzτ hCI hXE (by omega) (by omega)
  have hAr3 := Ar_L hA (show H3.size = zN (alO τ 9 (fN 8)) from z3) hP3 hS3
  refine W_look fun y3 y4 => ?_
  refine L_goI (A := A0 s) (L_runI (As := []) (rest := [.ref (zN τ)]) (b := zN τ) X hC.1 hC.2.1 hA (by decide) rfl rfl gK_91 rfl dL_law_12 (Nat.le_of_ble_eq_true rfl) (by decide) ⟨by show zN τ - s.heap.size + 1 + (zN υ + 1 - (zN τ + 1)) ≤ 600096; omega, by show zS τ - 8 * s.heap.size + fN 8 + (zS υ + 6 - (zS τ + fN 8)) ≤ 7301385; omega⟩ (sound hl D g _ _ N2 91 [.ref (zN τ)] _ _ υ (by decide) (Nat.le_of_ble_eq_true rfl) hrun2) ⟨by show zN τ + 1 ≤ _; omega, by show zS τ + fN 8 ≤ _; omega⟩ z3 hP3 hS3 hc3 hls.1) hS3 hAr3 (fun H4 locs4 z4 w4 hP4 hc4 hS4 => ?_)
  have w4 : hsl H4 + (zS τ + fN 8) ≤ hsl H3 + zS υ := w4
  refine W_tight (cells' := zN υ - s.heap.size) (slots' := zS υ - 8 * s.heap.size) (by omega) (by omega) ?_
  refine z_asn hx hb hls dL_law_15 (Nat.le_of_ble_eq_true rfl) (fun ls hls => ?_)
  have hls : lsR ls [some (.ref b), some (.ref s.heap.size), some (.ref (zN τ)), none, none, none, none] := hls
  refine lv_iconst (v := 1) hx hb dL_law_16 (by decide) ?_
  refine va_newaK hx hb (atype := .long) (X.2.2.2.2 _ gA_long) rfl dL_law_17 rfl (by decide) rfl (by decide) (by show zN υ - s.heap.size + 1 ≤ 600096; omega) (by show zS υ - 8 * s.heap.size + 1 ≤ 7301385; omega) z4 fun H5 cA e5 z5 o5 hAr hNm => ?_
  have hcA : cA = gL := Option.some.inj (hNm.symm.trans ((hC.2.2.1.2 0 _ rfl).2))
  refine z_asn hx hb hls dL_law_19 (Nat.le_of_ble_eq_true rfl) (fun ls hls => ?_)
  have hls : lsR ls [some (.ref b), some (.ref s.heap.size), some (.ref (zN τ)), some (.ref (zN υ)), none, none, none] := hls
  refine lv_iconst (v := 0) hx hb dL_law_20 (by decide) ?_
  refine z_is hx hb hls dL_law_21 (Nat.le_of_ble_eq_true rfl) (fun ls hls => ?_)
  rw [eN] at hls
  have hls : lsR ls [some (.ref b), some (.ref s.heap.size), some (.ref (zN τ)), some (.ref (zN τ + 26)), some (.int (nI (4 * 0))), none, none] := hls
  have hle4 := hS4.1
  have hPl : Pl D g (A0 s) (zN υ + 1, zS υ + 1, υ.2.2) H5 := hP4.kept (fun a ha => o5 a (by
    rw [← z4]
    obtain ⟨Ls, hLs, hPP, hDD⟩ := hP4
    obtain ⟨q0, hq⟩ := pl_at (g := g) hLs ha rfl
    exact (hPP q0 _ hq).lt))
  have hLH : LH D g gL s (zN υ + 1, zS υ + 1, υ.2.2) (zN τ + 26) 0 H5 locs4 := by
    refine ⟨z5, hPl, ⟨by omega, fun q g1 g2 => (o5 q (by omega)).trans (hS4.2.1 q g1 g2), hS4.2.2⟩, hc4, fun _ => 0, rfl, fun k q hk => ?_⟩
    match k, hk with
    | 0, hk =>
      cases hk
      show H5[zN τ + 26]? = some (vp_cell gL _)
      rw [← eN, e5, hcA, vp_cell_l]
      rfl
    | k + 1, hk => simp at hk
  have hW := law_loop (p := p) (e := e) (below := below) hl C0 hL hC (L + 1) 0 (Nat.zero_le _) (by omega) H5 locs4 _ st0 0 0 ls none none hJ hLH hls
  have hW : W p l e room_1 s m #[Value.ref b] below meth c H5 locs4 (zN υ + 1 - s.heap.size) (zS υ + 1 - 8 * s.heap.size) (lw_Z below #[Value.ref b] s) (F0 m 23 ls []) := hW
  rw [show zN υ + 1 - s.heap.size = zN υ - s.heap.size + 1 by omega, show zS υ + 1 - 8 * s.heap.size = zS υ - 8 * s.heap.size + 1 by omega] at hW
  exact hW
