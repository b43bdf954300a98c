section AmS7
variable {p : Program} {l : Launch} {e : Env} {R : Room} {s : State} {m : MethodId} {args : Array Value} {below : List Frame} {meth : Method} {c : Code} {cells slots : Nat} {Q : State → Prop}
variable {cc : ByteArray} {Z : AmZ} {nL : Nat} {lg : List Nat} {L st : List AmV} {M : AmM} {ls : Array Slot} {H : Heap} {locs : List Loc} {pc : Nat}
variable {ConT ConL : List (Nat × Nat × Int)} {StrT : List (Nat × Nat × Nat)} {FldT MthT : List (Nat × Nat × Nat × Nat)} {Npar : Nat → Nat} {o : Nat} {ret : Option FieldType} {cal : Nat → List AmV → AmM → Option (AmV × AmM)} {nx a b q : Nat} {z : Int} {ts : List Nat} {c' : AmC}
theorem amKnd_90 : amKndL.getD 90 99 = 20 ∧ amKndL.getD 98 99 = 29 ∧ amKndL.getD 99 99 = 29 := by decide +kernel
theorem amLen_sm : ∀ c, c < 200 → amLenL.getD c 0 < 10000 := by decide +kernel
theorem amLen_lt (c : Nat) : amLenL.getD c 0 < 10000 := by
  by_cases h : c < 200
  · exact amLen_sm c h
  · have hl : amLenL.length = 171 := by decide +kernel
    rw [List.getD_eq_getElem?_getD, List.getElem?_eq_none (by omega)]
    decide
theorem amLd_n {M : AmM} {C : Nat} (h : C ≠ 90) : amLd M C = amLenL.getD C 0 := by
  unfold amLd
  rw [show (C == 90) = false from beq_false_of_ne h]
  rfl
theorem amLd_s {M : AmM} (hX : amX Z M) : amLd M 90 = zL Z := by
  have : amLd M 90 = (M 90 1 0).toNat := rfl
  rw [this, hX.1]
  omega
/-- an array's cell -/
theorem am_arr (hr : amRel Z s.heap nL lg L st M ls H locs) (hfx : amFx Z) {k C s' : Nat} (hok : amOk (zAl Z) (vR k C s')) (hk : 20 ≤ k ∧ k ≤ 25) (h90 : C ≠ 90) : (C, s') ∈ zAl Z ∧ ¬ C < 13 ∧ amKndL.getD C 99 = k ∧ ∃ pp : Nat, (zAl Z)[pp]? = some (C, s') ∧ (amW Z M)[pp]? = some (zAd Z C s', .inl (zC Z k, amArr (zAd Z) C (M C s') (zG Z C s'))) := by
  have hkn : amKndL.getD C 99 = k := hok.1
  have h98 : C ≠ 98 := by rintro rfl; rw [amKnd_90.2.1] at hkn; omega
  have h99 : C ≠ 99 := by rintro rfl; rw [amKnd_90.2.2] at hkn; omega
  have hmem := am_okR hok h90 h98 h99
  have h13 : ¬ C < 13 := by intro h; rw [amKnd_lo C h] at hkn; omega
  obtain ⟨pp, hp1, hp2⟩ := amW_at (M := M) hmem
  refine ⟨hmem, h13, hkn, pp, hp1, ?_⟩
  rw [hp2]
  unfold amCell
  rw [if_neg h13, hkn]
theorem amArr_i {ad : Nat → Nat → Nat} {C k : Nat} {f : Nat → Int} {g : Nat → AmV} (hk : amKndL.getD C 99 = k) (h : k = 20 ∨ k = 22 ∨ k = 23) : amArr ad C f g = (amLenL.getD C 0, .inl fun j => Int32.ofInt (f j)) := by
  unfold amArr
  rw [hk]
  rcases h with rfl | rfl | rfl <;> rfl
theorem amArr_l {ad : Nat → Nat → Nat} {C : Nat} {f : Nat → Int} {g : Nat → AmV} (hk : amKndL.getD C 99 = 21) : amArr ad C f g = (amLenL.getD C 0, .inr (.inl fun j => Int64.ofInt (f j))) := by
  unfold amArr
  rw [hk]
  rfl
theorem amArr_q {ad : Nat → Nat → Nat} {C k : Nat} {f : Nat → Int} {g : Nat → AmV} (hk : amKndL.getD C 99 = k) (h : k = 24 ∨ k = 25) : amArr ad C f g = (amLenL.getD C 0, .inr (.inr (.inr (.inr fun j => amRf ad (g j))))) := by
  unfold amArr
  rw [hk]
  rcases h with rfl | rfl <;> rfl
theorem amTy_at {cA : Nat → ClassId} {k : Nat} (h : 20 ≤ k ∧ k ≤ 25) : ∃ ty, (amTys cA)[k - 20]? = some (cA k, ty) := by
  obtain ⟨h1, h2⟩ := h
  have : k = 20 ∨ k = 21 ∨ k = 22 ∨ k = 23 ∨ k = 24 ∨ k = 25 := by omega
  rcases this with rfl | rfl | rfl | rfl | rfl | rfl <;> exact ⟨_, rfl⟩
theorem am_alen (S : CallFix p m c cc nL s args amT0 (amR o)) (hK : amKS Z s) (hX : amXS Z s s.heap) (hfx : amFx Z) (hd : decode cc pc = .ok (.arraylength, 1))
    (h : amEx (zG Z) cal .arraylength (pc + 1) a b q z ts L st M = .inl c')
    (hr : amRel Z s.heap nL lg L st M ls H locs) (kk : amGo p l e R s m args below meth c cells slots Q Z nL lg c') : W p l e R s m args below meth c H locs cells slots Q (F0 m pc ls (st.map (amV (zAd Z)))) := by
  obtain ⟨hx, hb, hml, hown, hts⟩ := S
  have h2 : (match st with
    | .inl (some (k, c, _)) :: st' => (bif Nat.ble 20 k && Nat.ble k 25 then .inl (pc + 1, L, vI (amLd M c : Int) :: st', M) else amNo : AmR)
    | _ => amNo) = .inl c' := h
  split at h2
  · rename_i k C s' st'
    cases hb2 : (Nat.ble 20 k && Nat.ble k 25) with
    | false => rw [hb2] at h2; cases h2
    | true =>
      rw [hb2] at h2
      cases h2
      simp only [Bool.and_eq_true] at hb2
      have hk : 20 ≤ k ∧ k ≤ 25 := ⟨Nat.le_of_ble_eq_true hb2.1, Nat.le_of_ble_eq_true hb2.2⟩
      have hs : ∀ v ∈ st', amOk (zAl Z) v ∧ amSet v := fun v hv => hr.2.2.2.2.1 v (by simp [hv])
      have hok := hr.top (v := vR k C s') (by simp)
      by_cases h90 : C = 90
      · subst h90
        have hs0 : s' = 0 := by
          rcases hok.2 with h | h
          · exact absurd rfl h.2.1
          · exact h.2
        subst hs0
        refine va_slen (A := zA Z) (H0 := s.heap) hx hb hX.1 hX.2.1 hX.2.2.1 hr.2.2.2.2.2.2.2.1 hd ?_
        have e1 : (.int (Int32.ofNat (zL Z)) : Value) = amV (zAd Z) (vI (amLd M 90 : Int)) := by
          rw [amLd_s hr.2.2.2.2.2.2.2.2.2]
          show _ = Value.int (Int32.ofInt _)
          rw [Int32.ofInt_eq_ofNat]
        rw [e1]
        refine kk ls H locs (hr.st fun v hv => ?_)
        rcases List.mem_cons.mp hv with rfl | hv
        · refine ⟨?_, trivial⟩
          show i32 _
          rw [amLd_s hr.2.2.2.2.2.2.2.2.2]
          have := hfx.2.1
          unfold i32
          omega
        · exact hs v hv
      · obtain ⟨hmem, h13, hkn, pp, hp1, hp2⟩ := am_arr hr hfx hok hk h90
        obtain ⟨ty, hty⟩ := amTy_at (cA := zC Z) hk
        refine va_alen (D := zD Z) hx hb hK.1 hr.2.2.2.2.2.1 pp (k - 20) hp2 hty (v := Int32.ofInt (amLd M C : Int)) (by rw [amLd_n h90, Int32.ofInt_eq_ofNat]; rfl) hd (kk ls H locs (hr.st fun v hv => ?_))
        rcases List.mem_cons.mp hv with rfl | hv
        · refine ⟨?_, trivial⟩
          show i32 _
          rw [amLd_n h90]
          have := amLen_lt C
          unfold i32
          omega
        · exact hs v hv
  · cases h2
theorem am_iald (S : CallFix p m c cc nL s args amT0 (amR o)) (hK : amKS Z s) (hX : amXS Z s s.heap) (hfx : amFx Z) (hd : decode cc pc = .ok (.iaload, 1))
    (h : amEx (zG Z) cal .iaload (pc + 1) a b q z ts L st M = .inl c')
    (hr : amRel Z s.heap nL lg L st M ls H locs) (kk : amGo p l e R s m args below meth c cells slots Q Z nL lg c') : W p l e R s m args below meth c H locs cells slots Q (F0 m pc ls (st.map (amV (zAd Z)))) := by
  obtain ⟨hx, hb, hml, hown, hts⟩ := S
  have h2 : (match st with
    | .inr (.inl j) :: .inl (some (k, c, s)) :: st' => (bif k == 20 then (if 0 ≤ j ∧ j < (amLd M c : Int) then .inl (pc + 1, L, vI (M c s j.toNat) :: st', M) else amNo) else amNo : AmR)
    | _ => amNo) = .inl c' := h
  split at h2
  · rename_i j k C s' st'
    cases hb2 : (k == 20) with
    | false => rw [hb2] at h2; cases h2
    | true =>
      rw [hb2] at h2
      have hk : k = 20 := eq_of_beq hb2
      subst hk
      have hj : i32 j := hr.top (v := vI j) (by simp)
      have hs : ∀ v ∈ st', amOk (zAl Z) v ∧ amSet v := fun v hv => hr.2.2.2.2.1 v (by simp [hv])
      have hok := hr.top (v := vR 20 C s') (by simp)
      by_cases hin : 0 ≤ j ∧ j < (amLd M C : Int)
      · have h3 : (.inl (pc + 1, L, vI (M C s' j.toNat) :: st', M) : AmR) = .inl c' := by rw [← h2]; exact (if_pos hin).symm
        cases h3
        have hgo : W p l e R s m args below meth c H locs cells slots Q (F0 m (pc + 1) ls (.int (Int32.ofInt (M C s' j.toNat)) :: st'.map (amV (zAd Z)))) := by
          refine kk ls H locs (hr.st fun v hv => ?_)
          rcases List.mem_cons.mp hv with rfl | hv
          · exact ⟨(hr.2.2.2.2.2.2.2.2.1 C s' j.toNat).1 (by rw [hok.1]; omega), trivial⟩
          · exact hs v hv
        by_cases h90 : C = 90
        · subst h90
          have hs0 : s' = 0 := by
            rcases hok.2 with h | h
            · exact absurd rfl h.2.1
            · exact h.2
          subst hs0
          rw [amLd_s hr.2.2.2.2.2.2.2.2.2] at hin
          refine va_sld (A := zA Z) (H0 := s.heap) hx hb hX.1 hX.2.1 hX.2.2.1 hr.2.2.2.2.2.2.2.1 ((of_in hj).mpr hin) hd ?_
          rw [of_cl hj, show zX Z j.toNat = Int32.ofInt (M 90 0 j.toNat) by rw [hr.2.2.2.2.2.2.2.2.2.2 j.toNat (by omega), Int32.ofInt_toInt]]
          exact hgo
        · obtain ⟨hmem, h13, hkn, pp, hp1, hp2⟩ := am_arr hr hfx hok (by omega) h90
          rw [amArr_i hkn (Or.inl rfl)] at hp2
          rw [amLd_n h90] at hin
          refine va_iald (D := zD Z) hx hb hK.1 hr.2.2.2.2.2.1 pp 0 hp2 rfl ((of_in hj).mpr hin) hd ?_
          rw [of_cl hj]
          exact hgo
      · have h3 : amNo = .inl c' := by rw [← h2]; exact (if_neg hin).symm
        cases h3
  · cases h2
theorem am_bald (S : CallFix p m c cc nL s args amT0 (amR o)) (hK : amKS Z s) (hfx : amFx Z) (hd : decode cc pc = .ok (.baload, 1))
    (h : amEx (zG Z) cal .baload (pc + 1) a b q z ts L st M = .inl c')
    (hr : amRel Z s.heap nL lg L st M ls H locs) (kk : amGo p l e R s m args below meth c cells slots Q Z nL lg c') : W p l e R s m args below meth c H locs cells slots Q (F0 m pc ls (st.map (amV (zAd Z)))) := by
  obtain ⟨hx, hb, hml, hown, hts⟩ := S
  have h2 : (match st with
    | .inr (.inl j) :: .inl (some (k, c, s)) :: st' => (bif k == 22 || k == 23 then (if 0 ≤ j ∧ j < (amLd M c : Int) then .inl (pc + 1, L, vI (M c s j.toNat) :: st', M) else amNo) else amNo : AmR)
    | _ => amNo) = .inl c' := h
  split at h2
  · rename_i j k C s' st'
    cases hb2 : (k == 22 || k == 23) with
    | false => rw [hb2] at h2; cases h2
    | true =>
      rw [hb2] at h2
      have hk : k = 22 ∨ k = 23 := by simpa using hb2
      have hj : i32 j := hr.top (v := vI j) (by simp)
      have hs : ∀ v ∈ st', amOk (zAl Z) v ∧ amSet v := fun v hv => hr.2.2.2.2.1 v (by simp [hv])
      have hok := hr.top (v := vR k C s') (by simp)
      have h90 : C ≠ 90 := by rintro rfl; have h9 : amKndL.getD 90 99 = k := hok.1; rw [amKnd_90.1] at h9; omega
      by_cases hin : 0 ≤ j ∧ j < (amLd M C : Int)
      · have h3 : (.inl (pc + 1, L, vI (M C s' j.toNat) :: st', M) : AmR) = .inl c' := by rw [← h2]; exact (if_pos hin).symm
        cases h3
        have hgo : W p l e R s m args below meth c H locs cells slots Q (F0 m (pc + 1) ls (.int (Int32.ofInt (M C s' j.toNat)) :: st'.map (amV (zAd Z)))) := by
          refine kk ls H locs (hr.st fun v hv => ?_)
          rcases List.mem_cons.mp hv with rfl | hv
          · exact ⟨(hr.2.2.2.2.2.2.2.2.1 C s' j.toNat).1 (by rw [hok.1]; omega), trivial⟩
          · exact hs v hv
        obtain ⟨hmem, h13, hkn, pp, hp1, hp2⟩ := am_arr hr hfx hok (by omega) h90
        rw [amArr_i hkn (by omega)] at hp2
        rw [amLd_n h90] at hin
        rcases hk with rfl | rfl
        · refine va_bald (D := zD Z) hx hb hK.1 hr.2.2.2.2.2.1 pp 2 hp2 rfl ((of_in hj).mpr hin) hd ?_
          rw [of_cl hj]
          exact hgo
        · refine va_zald (D := zD Z) hx hb hK.1 hr.2.2.2.2.2.1 pp 3 hp2 rfl ((of_in hj).mpr hin) hd ?_
          rw [of_cl hj]
          exact hgo
      · have h3 : amNo = .inl c' := by rw [← h2]; exact (if_neg hin).symm
        cases h3
  · cases h2
theorem am_lald (S : CallFix p m c cc nL s args amT0 (amR o)) (hK : amKS Z s) (hfx : amFx Z) (hd : decode cc pc = .ok (.laload, 1))
    (h : amEx (zG Z) cal .laload (pc + 1) a b q z ts L st M = .inl c')
    (hr : amRel Z s.heap nL lg L st M ls H locs) (kk : amGo p l e R s m args below meth c cells slots Q Z nL lg c') : W p l e R s m args below meth c H locs cells slots Q (F0 m pc ls (st.map (amV (zAd Z)))) := by
  obtain ⟨hx, hb, hml, hown, hts⟩ := S
  have h2 : (match st with
    | .inr (.inl j) :: .inl (some (k, c, s)) :: st' => (bif k == 21 then (if 0 ≤ j ∧ j < (amLd M c : Int) then .inl (pc + 1, L, vL (M c s j.toNat) :: st', M) else amNo) else amNo : AmR)
    | _ => amNo) = .inl c' := h
  split at h2
  · rename_i j k C s' st'
    cases hb2 : (k == 21) with
    | false => rw [hb2] at h2; cases h2
    | true =>
      rw [hb2] at h2
      have hk : k = 21 := eq_of_beq hb2
      subst hk
      have hj : i32 j := hr.top (v := vI j) (by simp)
      have hs : ∀ v ∈ st', amOk (zAl Z) v ∧ amSet v := fun v hv => hr.2.2.2.2.1 v (by simp [hv])
      have hok := hr.top (v := vR 21 C s') (by simp)
      have h90 : C ≠ 90 := by rintro rfl; have h9 : amKndL.getD 90 99 = 21 := hok.1; rw [amKnd_90.1] at h9; omega
      by_cases hin : 0 ≤ j ∧ j < (amLd M C : Int)
      · have h3 : (.inl (pc + 1, L, vL (M C s' j.toNat) :: st', M) : AmR) = .inl c' := by rw [← h2]; exact (if_pos hin).symm
        cases h3
        obtain ⟨hmem, h13, hkn, pp, hp1, hp2⟩ := am_arr hr hfx hok (by omega) h90
        rw [amArr_l hkn] at hp2
        rw [amLd_n h90] at hin
        refine va_lald (D := zD Z) hx hb hK.1 hr.2.2.2.2.2.1 pp 1 hp2 rfl ((of_in hj).mpr hin) hd ?_
        rw [of_cl hj]
        refine kk ls H locs (hr.st fun v hv => ?_)
        rcases List.mem_cons.mp hv with rfl | hv
        · exact ⟨(hr.2.2.2.2.2.2.2.2.1 C s' j.toNat).2, trivial⟩
        · exact hs v hv
      · have h3 : amNo = .inl c' := by rw [← h2]; exact (if_neg hin).symm
        cases h3
  · cases h2
theorem am_aald (S : CallFix p m c cc nL s args amT0 (amR o)) (hK : amKS Z s) (hfx : amFx Z) (hd : decode cc pc = .ok (.aaload, 1))
    (h : amEx (zG Z) cal .aaload (pc + 1) a b q z ts L st M = .inl c')
    (hr : amRel Z s.heap nL lg L st M ls H locs) (kk : amGo p l e R s m args below meth c cells slots Q Z nL lg c') : W p l e R s m args below meth c H locs cells slots Q (F0 m pc ls (st.map (amV (zAd Z)))) := by
  obtain ⟨hx, hb, hml, hown, hts⟩ := S
  have h2 : (match st with
    | .inr (.inl j) :: .inl (some (k, c, s)) :: st' => (bif k == 24 || k == 25 then (if 0 ≤ j ∧ j < (amLd M c : Int) then .inl (pc + 1, L, zG Z c s j.toNat :: st', M) else amNo) else amNo : AmR)
    | _ => amNo) = .inl c' := h
  split at h2
  · rename_i j k C s' st'
    cases hb2 : (k == 24 || k == 25) with
    | false => rw [hb2] at h2; cases h2
    | true =>
      rw [hb2] at h2
      have hk : k = 24 ∨ k = 25 := by simpa using hb2
      have hj : i32 j := hr.top (v := vI j) (by simp)
      have hs : ∀ v ∈ st', amOk (zAl Z) v ∧ amSet v := fun v hv => hr.2.2.2.2.1 v (by simp [hv])
      have hok := hr.top (v := vR k C s') (by simp)
      have h90 : C ≠ 90 := by rintro rfl; have h9 : amKndL.getD 90 99 = k := hok.1; rw [amKnd_90.1] at h9; omega
      by_cases hin : 0 ≤ j ∧ j < (amLd M C : Int)
      · have h3 : (.inl (pc + 1, L, zG Z C s' j.toNat :: st', M) : AmR) = .inl c' := by rw [← h2]; exact (if_pos hin).symm
        cases h3
        obtain ⟨hmem, h13, hkn, pp, hp1, hp2⟩ := am_arr hr hfx hok (by omega) h90
        rw [amArr_q hkn hk] at hp2
        rw [amLd_n h90] at hin
        obtain ⟨g1, r, g2⟩ := (hfx.2.2.2 (C, s') hmem j.toNat).2 (show j.toNat < amLenL.getD C 0 by omega) (show amKndL.getD C 99 = 24 ∨ amKndL.getD C 99 = 25 by rw [hkn]; exact hk)
        have hgo : W p l e R s m args below meth c H locs cells slots Q (F0 m (pc + 1) ls (va_rf (amRf (zAd Z) (zG Z C s' j.toNat)) :: st'.map (amV (zAd Z)))) := by
          have ev : va_rf (amRf (zAd Z) (zG Z C s' j.toNat)) = amV (zAd Z) (zG Z C s' j.toNat) := by
            rw [g2]
            rcases r with _ | ⟨k1, c1, s1⟩ <;> rfl
          rw [ev]
          refine kk ls H locs (hr.st fun v hv => ?_)
          rcases List.mem_cons.mp hv with rfl | hv
          · exact ⟨g1, by rw [g2]; trivial⟩
          · exact hs v hv
        rcases hk with rfl | rfl
        · refine va_aldq (D := zD Z) hx hb hK.1 hr.2.2.2.2.2.1 pp 4 hp2 rfl ((of_in hj).mpr hin) hd ?_
          rw [of_cl hj]
          exact hgo
        · refine va_aldq (D := zD Z) hx hb hK.1 hr.2.2.2.2.2.1 pp 5 hp2 rfl ((of_in hj).mpr hin) hd ?_
          rw [of_cl hj]
          exact hgo
      · have h3 : amNo = .inl c' := by rw [← h2]; exact (if_neg hin).symm
        cases h3
  · cases h2
/-- the world behind an array store -/
theorem am_arrSet (hr : amRel Z s.heap nL lg L st M ls H locs) (hfx : amFx Z) {C s' j pp : Nat} {v : Int} (hp1 : (zAl Z)[pp]? = some (C, s')) (h13 : ¬ C < 13) {k : Nat} (hkn : amKndL.getD C 99 = k) {x : vp_A} (hx : x = amArr (zAd Z) C (amUp M C s' j v C s') (zG Z C s')) : (amW Z M).set pp (zAd Z C s', .inl (zC Z k, x)) = amW Z (amUp M C s' j v) :=
  amW_set hfx.1 hp1 (fun c' s2 h => amUp_off h) (by rw [hx]; unfold amCell; rw [if_neg h13, hkn])
theorem am_updI {f : Nat → Int} {C s' j : Nat} {v : Int} {M : AmM} (hf : f = M C s') : upd (fun i => Int32.ofInt (f i)) j (Int32.ofInt v) = fun i => Int32.ofInt (amUp M C s' j v C s' i) := by
  funext i
  rw [amUp_on, hf]
  unfold upd
  by_cases h : i = j <;> simp [h]
theorem am_iast (S : CallFix p m c cc nL s args amT0 (amR o)) (hK : amKS Z s) (hfx : amFx Z) (hd : decode cc pc = .ok (.iastore, 1))
    (h : amEx (zG Z) cal .iastore (pc + 1) a b q z ts L st M = .inl c')
    (hr : amRel Z s.heap nL lg L st M ls H locs) (kk : amGo p l e R s m args below meth c cells slots Q Z nL lg c') : W p l e R s m args below meth c H locs cells slots Q (F0 m pc ls (st.map (amV (zAd Z)))) := by
  obtain ⟨hx, hb, hml, hown, hts⟩ := S
  have h2 : (match st with
    | .inr (.inl x) :: .inr (.inl j) :: .inl (some (k, c, s)) :: st' => (bif k == 20 && !(c == 90) then (if 0 ≤ j ∧ j < (amLd M c : Int) then .inl (pc + 1, L, st', amUp M c s j.toNat x) else amNo) else amNo : AmR)
    | _ => amNo) = .inl c' := h
  split at h2
  · rename_i x j k C s' st'
    cases hb2 : (k == 20 && !(C == 90)) with
    | false => rw [hb2] at h2; cases h2
    | true =>
      rw [hb2] at h2
      have hk : k = 20 ∧ C ≠ 90 := by simpa using hb2
      obtain ⟨rfl, h90⟩ := hk
      have hj : i32 j := hr.top (v := vI j) (by simp)
      have hxx : i32 x := hr.top (v := vI x) (by simp)
      have hok := hr.top (v := vR 20 C s') (by simp)
      by_cases hin : 0 ≤ j ∧ j < (amLd M C : Int)
      · have h3 : (.inl (pc + 1, L, st', amUp M C s' j.toNat x) : AmR) = .inl c' := by rw [← h2]; exact (if_pos hin).symm
        cases h3
        obtain ⟨hmem, h13, hkn, pp, hp1, hp2⟩ := am_arr hr hfx hok (by omega) h90
        rw [amArr_i hkn (Or.inl rfl)] at hp2
        rw [amLd_n h90] at hin
        refine va_iast (D := zD Z) hx hb hK.1 hr.2.2.2.2.2.1 hr.2.2.2.2.2.2.1 hr.2.2.2.2.2.2.2.1 pp 0 hp2 rfl ((of_in hj).mpr hin) hd fun H1 locs1 g1 g2 g3 => ?_
        rw [of_cl hj, am_updI rfl, am_arrSet hr hfx hp1 h13 hkn (by rw [amArr_i hkn (Or.inl rfl)])] at g1 g2
        exact kk ls H1 locs1 (hr.put (fun v hv => by simp [hv]) g1 g2 g3 (fun _ => hxx) (i32_64 hxx) h90)
      · have h3 : amNo = .inl c' := by rw [← h2]; exact (if_neg hin).symm
        cases h3
  · cases h2
theorem am_narB {x : Int} (h : i32 x) : vp_nar .byte (Int32.ofInt x) = Int32.ofInt (w8 x) := by rw [vp_nar_byte, of_8 h]
theorem am_bast (S : CallFix p m c cc nL s args amT0 (amR o)) (hK : amKS Z s) (hfx : amFx Z) (hd : decode cc pc = .ok (.bastore, 1))
    (h : amEx (zG Z) cal .bastore (pc + 1) a b q z ts L st M = .inl c')
    (hr : amRel Z s.heap nL lg L st M ls H locs) (kk : amGo p l e R s m args below meth c cells slots Q Z nL lg c') : W p l e R s m args below meth c H locs cells slots Q (F0 m pc ls (st.map (amV (zAd Z)))) := by
  obtain ⟨hx, hb, hml, hown, hts⟩ := S
  have h2 : (match st with
    | .inr (.inl x) :: .inr (.inl j) :: .inl (some (k, c, s)) :: st' => (if 0 ≤ j ∧ j < (amLd M c : Int) then (match k with
      | 22 => .inl (pc + 1, L, st', amUp M c s j.toNat (w8 x))
      | 23 => bif amZ x then .inl (pc + 1, L, st', amUp M c s j.toNat x) else amNo
      | _ => amNo) else amNo : AmR)
    | _ => amNo) = .inl c' := h
  split at h2
  · rename_i x j k C s' st'
    by_cases hin : 0 ≤ j ∧ j < (amLd M C : Int)
    · rw [if_pos hin] at h2
      have hj : i32 j := hr.top (v := vI j) (by simp)
      have hxx : i32 x := hr.top (v := vI x) (by simp)
      have hok := hr.top (v := vR k C s') (by simp)
      split at h2
      · cases h2
        have h90 : C ≠ 90 := by rintro rfl; have h9 : amKndL.getD 90 99 = 22 := hok.1; rw [amKnd_90.1] at h9; omega
        obtain ⟨hmem, h13, hkn, pp, hp1, hp2⟩ := am_arr hr hfx hok (by omega) h90
        rw [amArr_i hkn (by omega)] at hp2
        rw [amLd_n h90] at hin
        refine va_bast (D := zD Z) hx hb hK.1 hr.2.2.2.2.2.1 hr.2.2.2.2.2.2.1 hr.2.2.2.2.2.2.2.1 pp 2 hp2 rfl ((of_in hj).mpr hin) hd fun H1 locs1 g1 g2 g3 => ?_
        rw [of_cl hj, am_narB hxx, am_updI rfl, am_arrSet hr hfx hp1 h13 hkn (by rw [amArr_i hkn (by omega)])] at g1 g2
        exact kk ls H1 locs1 (hr.put (fun v hv => by simp [hv]) g1 g2 g3 (fun _ => w8_i x) (i32_64 (w8_i x)) h90)
      · cases hz : amZ x with
        | false => rw [hz] at h2; cases h2
        | true =>
          rw [hz] at h2
          cases h2
          have h01 : x = 0 ∨ x = 1 := by simpa [amZ] using hz
          have hnz : vp_nar .boolean (Int32.ofInt x) = Int32.ofInt x := by rcases h01 with rfl | rfl <;> decide
          have h90 : C ≠ 90 := by rintro rfl; have h9 : amKndL.getD 90 99 = 23 := hok.1; rw [amKnd_90.1] at h9; omega
          obtain ⟨hmem, h13, hkn, pp, hp1, hp2⟩ := am_arr hr hfx hok (by omega) h90
          rw [amArr_i hkn (by omega)] at hp2
          rw [amLd_n h90] at hin
          refine va_zast (D := zD Z) hx hb hK.1 hr.2.2.2.2.2.1 hr.2.2.2.2.2.2.1 hr.2.2.2.2.2.2.2.1 pp 3 hp2 rfl ((of_in hj).mpr hin) hd fun H1 locs1 g1 g2 g3 => ?_
          rw [of_cl hj, hnz, am_updI rfl, am_arrSet hr hfx hp1 h13 hkn (by rw [amArr_i hkn (by omega)])] at g1 g2
          exact kk ls H1 locs1 (hr.put (fun v hv => by simp [hv]) g1 g2 g3 (fun _ => hxx) (i32_64 hxx) h90)
      · cases h2
    · rw [if_neg hin] at h2; cases h2
  · cases h2
theorem am_last (S : CallFix p m c cc nL s args amT0 (amR o)) (hK : amKS Z s) (hfx : amFx Z) (hd : decode cc pc = .ok (.lastore, 1))
    (h : amEx (zG Z) cal .lastore (pc + 1) a b q z ts L st M = .inl c')
    (hr : amRel Z s.heap nL lg L st M ls H locs) (kk : amGo p l e R s m args below meth c cells slots Q Z nL lg c') : W p l e R s m args below meth c H locs cells slots Q (F0 m pc ls (st.map (amV (zAd Z)))) := by
  obtain ⟨hx, hb, hml, hown, hts⟩ := S
  have h2 : (match st with
    | .inr (.inr (.inl x)) :: .inr (.inl j) :: .inl (some (k, c, s)) :: st' => (bif k == 21 then (if 0 ≤ j ∧ j < (amLd M c : Int) then .inl (pc + 1, L, st', amUp M c s j.toNat x) else amNo) else amNo : AmR)
    | _ => amNo) = .inl c' := h
  split at h2
  · rename_i x j k C s' st'
    cases hb2 : (k == 21) with
    | false => rw [hb2] at h2; cases h2
    | true =>
      rw [hb2] at h2
      have hk : k = 21 := eq_of_beq hb2
      subst hk
      have hj : i32 j := hr.top (v := vI j) (by simp)
      have hxx : i64 x := hr.top (v := vL x) (by simp)
      have hok := hr.top (v := vR 21 C s') (by simp)
      have h90 : C ≠ 90 := by rintro rfl; have h9 : amKndL.getD 90 99 = 21 := hok.1; rw [amKnd_90.1] at h9; omega
      by_cases hin : 0 ≤ j ∧ j < (amLd M C : Int)
      · have h3 : (.inl (pc + 1, L, st', amUp M C s' j.toNat x) : AmR) = .inl c' := by rw [← h2]; exact (if_pos hin).symm
        cases h3
        obtain ⟨hmem, h13, hkn, pp, hp1, hp2⟩ := am_arr hr hfx hok (by omega) h90
        rw [amArr_l hkn] at hp2
        rw [amLd_n h90] at hin
        refine va_last (D := zD Z) hx hb hK.1 hr.2.2.2.2.2.1 hr.2.2.2.2.2.2.1 hr.2.2.2.2.2.2.2.1 pp 1 hp2 rfl ((of_in hj).mpr hin) hd fun H1 locs1 g1 g2 g3 => ?_
        have eu : vp_updL (fun i => Int64.ofInt (M C s' i)) j.toNat (Int64.ofInt x) = fun i => Int64.ofInt (amUp M C s' j.toNat x C s' i) := by
          funext i
          rw [amUp_on]
          unfold vp_updL
          by_cases h : i = j.toNat <;> simp [h]
        rw [of_cl hj, eu, am_arrSet hr hfx hp1 h13 hkn (by rw [amArr_l hkn])] at g1 g2
        exact kk ls H1 locs1 (hr.put (fun v hv => by simp [hv]) g1 g2 g3 (fun hh => absurd hkn hh) hxx h90)
      · have h3 : amNo = .inl c' := by rw [← h2]; exact (if_neg hin).symm
        cases h3
  · cases h2
end AmS7
