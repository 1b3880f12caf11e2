/-! the checks that a program makes of each method's table -/
def ab_at (k : Nat) (w : Cond) : Bool := (match lw_tbl[k]? with
  | some x => decide (x = w)
  | none => false) && goodWord w
theorem ab_at_in {k : Nat} {w : Cond} (h : ab_at k w = true) : w ∈ lw_good := by
  unfold ab_at at h
  rw [Bool.and_eq_true] at h
  cases hk : lw_tbl[k]? with
  | none => rw [hk] at h; exact absurd h.1 (by simp)
  | some x =>
    rw [hk] at h
    have e : x = w := of_decide_eq_true h.1
    subst e
    exact List.mem_filter.mpr ⟨List.mem_of_getElem? hk, h.2⟩
def ab_ksb (o : Nat) (q : Nat × AV × Nat) : Bool := match q.2.1 with
  | .inl x => ab_at q.2.2 (.constant (ab_on o) q.1 x)
  | .inr (.inl x) => ab_at q.2.2 (.constantLong (ab_on o) q.1 x)
  | .inr (.inr (.inl r)) => o == 5 && r.1 == 60 && decide (r.2 < 12) && q.1 == ab_wi r.2
  | _ => false
theorem ab_ks_ok : ∀ o, o < 11 → (ab_ks o).all (ab_ksb o) = true := by decide +kernel
def ab_fkind (t : FieldType) : Nat := match t with
  | .int => 0
  | .boolean => 0
  | .long => 1
  | _ => 2
def ab_flb (o : Nat) (q : Nat × Nat × Nat × Nat) : Bool := match ab_cl[ab_ci q.2.1]? with
  | some (_, T, N) => decide (q.2.2.1 < N) && ab_kd q.2.1 == 0 && (ab_fds q.2.1).length == N && ab_at q.2.2.2 (.fieldLink (ab_on o) q.1 (T q.2.2.1).1 (T q.2.2.1).2.1 (T q.2.2.1).2.2.1) && (match (ab_fds q.2.1)[q.2.2.1]? with
    | some f => f.1 == ab_fkind (ab_ty (ab_ci q.2.1) q.2.2.1)
    | none => false)
  | none => false
theorem ab_fl_ok : ∀ o, o < 11 → (ab_fl o).all (ab_flb o) = true := by decide +kernel
def ab_nest (o ix : Nat) (y : MethodName) : Bool := (o == 6 && ix == 52 && decide (y = ⟨"CoatsFitTheMood", "bounded", "(I)I"⟩)) || (o == 0 && ix == 42 && decide (y = ⟨"CoatsFitTheMood", "bounded", "(I)I"⟩)) || (o == 1 && ix == 28 && decide (y = ⟨"CoatsFitTheMood", "isHour", "(I)Z"⟩))
set_option maxRecDepth 100000 in
theorem cw_0 : lw_tbl[(ab_mk 0).1]? = some (.code (ab_my 0) (ab_mb 0) (ab_ml 0) (ab_mr 0)) := by rfl
set_option maxRecDepth 100000 in
theorem cw_1 : lw_tbl[(ab_mk 1).1]? = some (.code (ab_my 1) (ab_mb 1) (ab_ml 1) (ab_mr 1)) := by rfl
set_option maxRecDepth 100000 in
theorem cw_2 : lw_tbl[(ab_mk 2).1]? = some (.code (ab_my 2) (ab_mb 2) (ab_ml 2) (ab_mr 2)) := by rfl
set_option maxRecDepth 100000 in
theorem cw_3 : lw_tbl[(ab_mk 3).1]? = some (.code (ab_my 3) (ab_mb 3) (ab_ml 3) (ab_mr 3)) := by rfl
set_option maxRecDepth 100000 in
theorem cw_4 : lw_tbl[(ab_mk 4).1]? = some (.code (ab_my 4) (ab_mb 4) (ab_ml 4) (ab_mr 4)) := by rfl
set_option maxRecDepth 100000 in
theorem cw_5 : lw_tbl[(ab_mk 5).1]? = some (.code (ab_my 5) (ab_mb 5) (ab_ml 5) (ab_mr 5)) := by rfl
set_option maxRecDepth 100000 in
theorem cw_6 : lw_tbl[(ab_mk 6).1]? = some (.code (ab_my 6) (ab_mb 6) (ab_ml 6) (ab_mr 6)) := by rfl
set_option maxRecDepth 100000 in
theorem cw_7 : lw_tbl[(ab_mk 7).1]? = some (.code (ab_my 7) (ab_mb 7) (ab_ml 7) (ab_mr 7)) := by rfl
set_option maxRecDepth 100000 in
theorem cw_8 : lw_tbl[(ab_mk 8).1]? = some (.code (ab_my 8) (ab_mb 8) (ab_ml 8) (ab_mr 8)) := by rfl
set_option maxRecDepth 100000 in
theorem cw_9 : lw_tbl[(ab_mk 9).1]? = some (.code (ab_my 9) (ab_mb 9) (ab_ml 9) (ab_mr 9)) := by rfl
set_option maxRecDepth 100000 in
theorem cw_10 : lw_tbl[(ab_mk 10).1]? = some (.code (ab_my 10) (ab_mb 10) (ab_ml 10) (ab_mr 10)) := by rfl
set_option maxRecDepth 100000 in
theorem cw_11 : lw_tbl[(ab_mk 11).1]? = some (.code (ab_my 11) (ab_mb 11) (ab_ml 11) (ab_mr 11)) := by rfl
set_option maxRecDepth 100000 in
theorem cw_12 : lw_tbl[(ab_mk 12).1]? = some (.code (ab_my 12) (ab_mb 12) (ab_ml 12) (ab_mr 12)) := by rfl
set_option maxRecDepth 100000 in
theorem cw_13 : lw_tbl[(ab_mk 13).1]? = some (.code (ab_my 13) (ab_mb 13) (ab_ml 13) (ab_mr 13)) := by rfl
set_option maxRecDepth 100000 in
theorem cw_14 : lw_tbl[(ab_mk 14).1]? = some (.code (ab_my 14) (ab_mb 14) (ab_ml 14) (ab_mr 14)) := by rfl
set_option maxRecDepth 100000 in
theorem cw_15 : lw_tbl[(ab_mk 15).1]? = some (.code (ab_my 15) (ab_mb 15) (ab_ml 15) (ab_mr 15)) := by rfl
set_option maxRecDepth 100000 in
theorem cw_16 : lw_tbl[(ab_mk 16).1]? = some (.code (ab_my 16) (ab_mb 16) (ab_ml 16) (ab_mr 16)) := by rfl
set_option maxRecDepth 100000 in
theorem cw_17 : lw_tbl[(ab_mk 17).1]? = some (.code (ab_my 17) (ab_mb 17) (ab_ml 17) (ab_mr 17)) := by rfl
set_option maxRecDepth 100000 in
theorem cw_18 : lw_tbl[(ab_mk 18).1]? = some (.code (ab_my 18) (ab_mb 18) (ab_ml 18) (ab_mr 18)) := by rfl
set_option maxRecDepth 100000 in
theorem cw_19 : lw_tbl[(ab_mk 19).1]? = some (.code (ab_my 19) (ab_mb 19) (ab_ml 19) (ab_mr 19)) := by rfl
set_option maxRecDepth 100000 in
theorem cw_20 : lw_tbl[(ab_mk 20).1]? = some (.code (ab_my 20) (ab_mb 20) (ab_ml 20) (ab_mr 20)) := by rfl
set_option maxRecDepth 100000 in
theorem cw_21 : lw_tbl[(ab_mk 21).1]? = some (.code (ab_my 21) (ab_mb 21) (ab_ml 21) (ab_mr 21)) := by rfl
set_option maxRecDepth 100000 in
theorem cw_22 : lw_tbl[(ab_mk 22).1]? = some (.code (ab_my 22) (ab_mb 22) (ab_ml 22) (ab_mr 22)) := by rfl
set_option maxRecDepth 100000 in
theorem cw_23 : lw_tbl[(ab_mk 23).1]? = some (.code (ab_my 23) (ab_mb 23) (ab_ml 23) (ab_mr 23)) := by rfl
set_option maxRecDepth 100000 in
theorem cw_24 : lw_tbl[(ab_mk 24).1]? = some (.code (ab_my 24) (ab_mb 24) (ab_ml 24) (ab_mr 24)) := by rfl
set_option maxRecDepth 100000 in
theorem cw_25 : lw_tbl[(ab_mk 25).1]? = some (.code (ab_my 25) (ab_mb 25) (ab_ml 25) (ab_mr 25)) := by rfl
set_option maxRecDepth 100000 in
theorem cw_26 : lw_tbl[(ab_mk 26).1]? = some (.code (ab_my 26) (ab_mb 26) (ab_ml 26) (ab_mr 26)) := by rfl
set_option maxRecDepth 100000 in
theorem cw_27 : lw_tbl[(ab_mk 27).1]? = some (.code (ab_my 27) (ab_mb 27) (ab_ml 27) (ab_mr 27)) := by rfl
set_option maxRecDepth 100000 in
theorem cw_28 : lw_tbl[(ab_mk 28).1]? = some (.code (ab_my 28) (ab_mb 28) (ab_ml 28) (ab_mr 28)) := by rfl
set_option maxRecDepth 100000 in
theorem cw_29 : lw_tbl[(ab_mk 29).1]? = some (.code (ab_my 29) (ab_mb 29) (ab_ml 29) (ab_mr 29)) := by rfl
set_option maxRecDepth 100000 in
theorem cw_30 : lw_tbl[(ab_mk 30).1]? = some (.code (ab_my 30) (ab_mb 30) (ab_ml 30) (ab_mr 30)) := by rfl
set_option maxRecDepth 100000 in
theorem cw_31 : lw_tbl[(ab_mk 31).1]? = some (.code (ab_my 31) (ab_mb 31) (ab_ml 31) (ab_mr 31)) := by rfl
set_option maxRecDepth 100000 in
theorem cw_32 : lw_tbl[(ab_mk 32).1]? = some (.code (ab_my 32) (ab_mb 32) (ab_ml 32) (ab_mr 32)) := by rfl
set_option maxRecDepth 100000 in
theorem cw_33 : lw_tbl[(ab_mk 33).1]? = some (.code (ab_my 33) (ab_mb 33) (ab_ml 33) (ab_mr 33)) := by rfl
set_option maxRecDepth 100000 in
theorem cw_34 : lw_tbl[(ab_mk 34).1]? = some (.code (ab_my 34) (ab_mb 34) (ab_ml 34) (ab_mr 34)) := by rfl
set_option maxRecDepth 100000 in
theorem cw_35 : lw_tbl[(ab_mk 35).1]? = some (.code (ab_my 35) (ab_mb 35) (ab_ml 35) (ab_mr 35)) := by rfl
set_option maxRecDepth 100000 in
theorem cw_36 : lw_tbl[(ab_mk 36).1]? = some (.code (ab_my 36) (ab_mb 36) (ab_ml 36) (ab_mr 36)) := by rfl
set_option maxRecDepth 100000 in
theorem cw_37 : lw_tbl[(ab_mk 37).1]? = some (.code (ab_my 37) (ab_mb 37) (ab_ml 37) (ab_mr 37)) := by rfl
set_option maxRecDepth 100000 in
theorem cw_38 : lw_tbl[(ab_mk 38).1]? = some (.code (ab_my 38) (ab_mb 38) (ab_ml 38) (ab_mr 38)) := by rfl
set_option maxRecDepth 100000 in
theorem cw_39 : lw_tbl[(ab_mk 39).1]? = some (.code (ab_my 39) (ab_mb 39) (ab_ml 39) (ab_mr 39)) := by rfl
set_option maxRecDepth 100000 in
theorem cw_40 : lw_tbl[(ab_mk 40).1]? = some (.code (ab_my 40) (ab_mb 40) (ab_ml 40) (ab_mr 40)) := by rfl
set_option maxRecDepth 100000 in
theorem cw_41 : lw_tbl[(ab_mk 41).1]? = some (.code (ab_my 41) (ab_mb 41) (ab_ml 41) (ab_mr 41)) := by rfl
set_option maxRecDepth 100000 in
theorem cw_42 : lw_tbl[(ab_mk 42).1]? = some (.code (ab_my 42) (ab_mb 42) (ab_ml 42) (ab_mr 42)) := by rfl
set_option maxRecDepth 100000 in
theorem cw_43 : lw_tbl[(ab_mk 43).1]? = some (.code (ab_my 43) (ab_mb 43) (ab_ml 43) (ab_mr 43)) := by rfl
set_option maxRecDepth 100000 in
theorem cw_44 : lw_tbl[(ab_mk 44).1]? = some (.code (ab_my 44) (ab_mb 44) (ab_ml 44) (ab_mr 44)) := by rfl
set_option maxRecDepth 100000 in
theorem cw_45 : lw_tbl[(ab_mk 45).1]? = some (.code (ab_my 45) (ab_mb 45) (ab_ml 45) (ab_mr 45)) := by rfl
set_option maxRecDepth 100000 in
theorem cw_46 : lw_tbl[(ab_mk 46).1]? = some (.code (ab_my 46) (ab_mb 46) (ab_ml 46) (ab_mr 46)) := by rfl
set_option maxRecDepth 100000 in
theorem cw_47 : lw_tbl[(ab_mk 47).1]? = some (.code (ab_my 47) (ab_mb 47) (ab_ml 47) (ab_mr 47)) := by rfl
set_option maxRecDepth 100000 in
theorem cw_48 : lw_tbl[(ab_mk 48).1]? = some (.code (ab_my 48) (ab_mb 48) (ab_ml 48) (ab_mr 48)) := by rfl
set_option maxRecDepth 100000 in
theorem cw_49 : lw_tbl[(ab_mk 49).1]? = some (.code (ab_my 49) (ab_mb 49) (ab_ml 49) (ab_mr 49)) := by rfl
set_option maxRecDepth 100000 in
theorem cw_50 : lw_tbl[(ab_mk 50).1]? = some (.code (ab_my 50) (ab_mb 50) (ab_ml 50) (ab_mr 50)) := by rfl
set_option maxRecDepth 100000 in
theorem cw_51 : lw_tbl[(ab_mk 51).1]? = some (.code (ab_my 51) (ab_mb 51) (ab_ml 51) (ab_mr 51)) := by rfl
set_option maxRecDepth 100000 in
theorem cw_52 : lw_tbl[(ab_mk 52).1]? = some (.code (ab_my 52) (ab_mb 52) (ab_ml 52) (ab_mr 52)) := by rfl
set_option maxRecDepth 100000 in
theorem cw_53 : lw_tbl[(ab_mk 53).1]? = some (.code (ab_my 53) (ab_mb 53) (ab_ml 53) (ab_mr 53)) := by rfl
set_option maxRecDepth 100000 in
theorem cw_54 : lw_tbl[(ab_mk 54).1]? = some (.code (ab_my 54) (ab_mb 54) (ab_ml 54) (ab_mr 54)) := by rfl
set_option maxRecDepth 100000 in
theorem cw_55 : lw_tbl[(ab_mk 55).1]? = some (.code (ab_my 55) (ab_mb 55) (ab_ml 55) (ab_mr 55)) := by rfl
set_option maxRecDepth 100000 in
theorem cw_56 : lw_tbl[(ab_mk 56).1]? = some (.code (ab_my 56) (ab_mb 56) (ab_ml 56) (ab_mr 56)) := by rfl
set_option maxRecDepth 100000 in
theorem cw_57 : lw_tbl[(ab_mk 57).1]? = some (.code (ab_my 57) (ab_mb 57) (ab_ml 57) (ab_mr 57)) := by rfl
set_option maxRecDepth 100000 in
theorem cw_58 : lw_tbl[(ab_mk 58).1]? = some (.code (ab_my 58) (ab_mb 58) (ab_ml 58) (ab_mr 58)) := by rfl
set_option maxRecDepth 100000 in
theorem cw_59 : lw_tbl[(ab_mk 59).1]? = some (.code (ab_my 59) (ab_mb 59) (ab_ml 59) (ab_mr 59)) := by rfl
set_option maxRecDepth 100000 in
theorem cw_60 : lw_tbl[(ab_mk 60).1]? = some (.code (ab_my 60) (ab_mb 60) (ab_ml 60) (ab_mr 60)) := by rfl
set_option maxRecDepth 100000 in
theorem cw_61 : lw_tbl[(ab_mk 61).1]? = some (.code (ab_my 61) (ab_mb 61) (ab_ml 61) (ab_mr 61)) := by rfl
set_option maxRecDepth 100000 in
theorem cw_62 : lw_tbl[(ab_mk 62).1]? = some (.code (ab_my 62) (ab_mb 62) (ab_ml 62) (ab_mr 62)) := by rfl
set_option maxRecDepth 100000 in
theorem cw_63 : lw_tbl[(ab_mk 63).1]? = some (.code (ab_my 63) (ab_mb 63) (ab_ml 63) (ab_mr 63)) := by rfl
set_option maxRecDepth 100000 in
theorem cw_64 : lw_tbl[(ab_mk 64).1]? = some (.code (ab_my 64) (ab_mb 64) (ab_ml 64) (ab_mr 64)) := by rfl
set_option maxRecDepth 100000 in
theorem cw_65 : lw_tbl[(ab_mk 65).1]? = some (.code (ab_my 65) (ab_mb 65) (ab_ml 65) (ab_mr 65)) := by rfl
set_option maxRecDepth 100000 in
theorem cw_66 : lw_tbl[(ab_mk 66).1]? = some (.code (ab_my 66) (ab_mb 66) (ab_ml 66) (ab_mr 66)) := by rfl
set_option maxRecDepth 100000 in
theorem cw_67 : lw_tbl[(ab_mk 67).1]? = some (.code (ab_my 67) (ab_mb 67) (ab_ml 67) (ab_mr 67)) := by rfl
set_option maxRecDepth 100000 in
theorem cw_68 : lw_tbl[(ab_mk 68).1]? = some (.code (ab_my 68) (ab_mb 68) (ab_ml 68) (ab_mr 68)) := by rfl
set_option maxRecDepth 100000 in
theorem cw_69 : lw_tbl[(ab_mk 69).1]? = some (.code (ab_my 69) (ab_mb 69) (ab_ml 69) (ab_mr 69)) := by rfl
set_option maxRecDepth 100000 in
theorem cw_70 : lw_tbl[(ab_mk 70).1]? = some (.code (ab_my 70) (ab_mb 70) (ab_ml 70) (ab_mr 70)) := by rfl
set_option maxRecDepth 100000 in
theorem cw_71 : lw_tbl[(ab_mk 71).1]? = some (.code (ab_my 71) (ab_mb 71) (ab_ml 71) (ab_mr 71)) := by rfl
set_option maxRecDepth 100000 in
theorem cw_72 : lw_tbl[(ab_mk 72).1]? = some (.code (ab_my 72) (ab_mb 72) (ab_ml 72) (ab_mr 72)) := by rfl
set_option maxRecDepth 100000 in
theorem cw_73 : lw_tbl[(ab_mk 73).1]? = some (.code (ab_my 73) (ab_mb 73) (ab_ml 73) (ab_mr 73)) := by rfl
set_option maxRecDepth 100000 in
theorem cw_74 : lw_tbl[(ab_mk 74).1]? = some (.code (ab_my 74) (ab_mb 74) (ab_ml 74) (ab_mr 74)) := by rfl
set_option maxRecDepth 100000 in
theorem cw_75 : lw_tbl[(ab_mk 75).1]? = some (.code (ab_my 75) (ab_mb 75) (ab_ml 75) (ab_mr 75)) := by rfl
set_option maxRecDepth 100000 in
theorem cw_76 : lw_tbl[(ab_mk 76).1]? = some (.code (ab_my 76) (ab_mb 76) (ab_ml 76) (ab_mr 76)) := by rfl
set_option maxRecDepth 100000 in
theorem cw_77 : lw_tbl[(ab_mk 77).1]? = some (.code (ab_my 77) (ab_mb 77) (ab_ml 77) (ab_mr 77)) := by rfl
set_option maxRecDepth 100000 in
theorem cw_78 : lw_tbl[(ab_mk 78).1]? = some (.code (ab_my 78) (ab_mb 78) (ab_ml 78) (ab_mr 78)) := by rfl
set_option maxRecDepth 100000 in
theorem cw_79 : lw_tbl[(ab_mk 79).1]? = some (.code (ab_my 79) (ab_mb 79) (ab_ml 79) (ab_mr 79)) := by rfl
set_option maxRecDepth 100000 in
theorem cw_80 : lw_tbl[(ab_mk 80).1]? = some (.code (ab_my 80) (ab_mb 80) (ab_ml 80) (ab_mr 80)) := by rfl
set_option maxRecDepth 100000 in
theorem cw_81 : lw_tbl[(ab_mk 81).1]? = some (.code (ab_my 81) (ab_mb 81) (ab_ml 81) (ab_mr 81)) := by rfl
set_option maxRecDepth 100000 in
theorem cw_82 : lw_tbl[(ab_mk 82).1]? = some (.code (ab_my 82) (ab_mb 82) (ab_ml 82) (ab_mr 82)) := by rfl
set_option maxRecDepth 100000 in
theorem cw_83 : lw_tbl[(ab_mk 83).1]? = some (.code (ab_my 83) (ab_mb 83) (ab_ml 83) (ab_mr 83)) := by rfl
set_option maxRecDepth 100000 in
theorem cw_84 : lw_tbl[(ab_mk 84).1]? = some (.code (ab_my 84) (ab_mb 84) (ab_ml 84) (ab_mr 84)) := by rfl
set_option maxRecDepth 100000 in
theorem cw_85 : lw_tbl[(ab_mk 85).1]? = some (.code (ab_my 85) (ab_mb 85) (ab_ml 85) (ab_mr 85)) := by rfl
set_option maxRecDepth 100000 in
theorem cw_86 : lw_tbl[(ab_mk 86).1]? = some (.code (ab_my 86) (ab_mb 86) (ab_ml 86) (ab_mr 86)) := by rfl
set_option maxRecDepth 100000 in
theorem cw_87 : lw_tbl[(ab_mk 87).1]? = some (.code (ab_my 87) (ab_mb 87) (ab_ml 87) (ab_mr 87)) := by rfl
set_option maxRecDepth 100000 in
theorem cw_88 : lw_tbl[(ab_mk 88).1]? = some (.code (ab_my 88) (ab_mb 88) (ab_ml 88) (ab_mr 88)) := by rfl
set_option maxRecDepth 100000 in
theorem cw_89 : lw_tbl[(ab_mk 89).1]? = some (.code (ab_my 89) (ab_mb 89) (ab_ml 89) (ab_mr 89)) := by rfl
set_option maxRecDepth 100000 in
theorem cw_90 : lw_tbl[(ab_mk 90).1]? = some (.code (ab_my 90) (ab_mb 90) (ab_ml 90) (ab_mr 90)) := by rfl
set_option maxRecDepth 100000 in
theorem cw_91 : lw_tbl[(ab_mk 91).1]? = some (.code (ab_my 91) (ab_mb 91) (ab_ml 91) (ab_mr 91)) := by rfl
set_option maxRecDepth 100000 in
theorem cw_92 : lw_tbl[(ab_mk 92).1]? = some (.code (ab_my 92) (ab_mb 92) (ab_ml 92) (ab_mr 92)) := by rfl
set_option maxRecDepth 100000 in
theorem cw_93 : lw_tbl[(ab_mk 93).1]? = some (.code (ab_my 93) (ab_mb 93) (ab_ml 93) (ab_mr 93)) := by rfl
set_option maxRecDepth 100000 in
theorem cw_94 : lw_tbl[(ab_mk 94).1]? = some (.code (ab_my 94) (ab_mb 94) (ab_ml 94) (ab_mr 94)) := by rfl
set_option maxRecDepth 100000 in
theorem cw_95 : lw_tbl[(ab_mk 95).1]? = some (.code (ab_my 95) (ab_mb 95) (ab_ml 95) (ab_mr 95)) := by rfl
set_option maxRecDepth 100000 in
theorem cw_96 : lw_tbl[(ab_mk 96).1]? = some (.code (ab_my 96) (ab_mb 96) (ab_ml 96) (ab_mr 96)) := by rfl
set_option maxRecDepth 100000 in
theorem cw_97 : lw_tbl[(ab_mk 97).1]? = some (.code (ab_my 97) (ab_mb 97) (ab_ml 97) (ab_mr 97)) := by rfl
set_option maxRecDepth 100000 in
theorem cw_98 : lw_tbl[(ab_mk 98).1]? = some (.code (ab_my 98) (ab_mb 98) (ab_ml 98) (ab_mr 98)) := by rfl
set_option maxRecDepth 100000 in
theorem cw_99 : lw_tbl[(ab_mk 99).1]? = some (.code (ab_my 99) (ab_mb 99) (ab_ml 99) (ab_mr 99)) := by rfl
set_option maxRecDepth 100000 in
theorem cw_100 : lw_tbl[(ab_mk 100).1]? = some (.code (ab_my 100) (ab_mb 100) (ab_ml 100) (ab_mr 100)) := by rfl
set_option maxRecDepth 100000 in
theorem cw_101 : lw_tbl[(ab_mk 101).1]? = some (.code (ab_my 101) (ab_mb 101) (ab_ml 101) (ab_mr 101)) := by rfl
set_option maxRecDepth 100000 in
theorem cw_102 : lw_tbl[(ab_mk 102).1]? = some (.code (ab_my 102) (ab_mb 102) (ab_ml 102) (ab_mr 102)) := by rfl
set_option maxRecDepth 100000 in
theorem cw_103 : lw_tbl[(ab_mk 103).1]? = some (.code (ab_my 103) (ab_mb 103) (ab_ml 103) (ab_mr 103)) := by rfl
set_option maxRecDepth 100000 in
theorem cw_104 : lw_tbl[(ab_mk 104).1]? = some (.code (ab_my 104) (ab_mb 104) (ab_ml 104) (ab_mr 104)) := by rfl
set_option maxRecDepth 100000 in
theorem cw_105 : lw_tbl[(ab_mk 105).1]? = some (.code (ab_my 105) (ab_mb 105) (ab_ml 105) (ab_mr 105)) := by rfl
set_option maxRecDepth 100000 in
theorem cw_106 : lw_tbl[(ab_mk 106).1]? = some (.code (ab_my 106) (ab_mb 106) (ab_ml 106) (ab_mr 106)) := by rfl
set_option maxRecDepth 100000 in
theorem cw_107 : lw_tbl[(ab_mk 107).1]? = some (.code (ab_my 107) (ab_mb 107) (ab_ml 107) (ab_mr 107)) := by rfl
set_option maxRecDepth 100000 in
theorem cw_108 : lw_tbl[(ab_mk 108).1]? = some (.code (ab_my 108) (ab_mb 108) (ab_ml 108) (ab_mr 108)) := by rfl
set_option maxRecDepth 100000 in
theorem cw_109 : lw_tbl[(ab_mk 109).1]? = some (.code (ab_my 109) (ab_mb 109) (ab_ml 109) (ab_mr 109)) := by rfl
set_option maxRecDepth 100000 in
theorem cw_110 : lw_tbl[(ab_mk 110).1]? = some (.code (ab_my 110) (ab_mb 110) (ab_ml 110) (ab_mr 110)) := by rfl
set_option maxRecDepth 100000 in
theorem cw_111 : lw_tbl[(ab_mk 111).1]? = some (.code (ab_my 111) (ab_mb 111) (ab_ml 111) (ab_mr 111)) := by rfl
set_option maxRecDepth 100000 in
theorem cw_112 : lw_tbl[(ab_mk 112).1]? = some (.code (ab_my 112) (ab_mb 112) (ab_ml 112) (ab_mr 112)) := by rfl
set_option maxRecDepth 100000 in
theorem cw_113 : lw_tbl[(ab_mk 113).1]? = some (.code (ab_my 113) (ab_mb 113) (ab_ml 113) (ab_mr 113)) := by rfl
set_option maxRecDepth 100000 in
theorem cw_114 : lw_tbl[(ab_mk 114).1]? = some (.code (ab_my 114) (ab_mb 114) (ab_ml 114) (ab_mr 114)) := by rfl
set_option maxRecDepth 100000 in
theorem cw_115 : lw_tbl[(ab_mk 115).1]? = some (.code (ab_my 115) (ab_mb 115) (ab_ml 115) (ab_mr 115)) := by rfl
set_option maxRecDepth 100000 in
theorem cw_116 : lw_tbl[(ab_mk 116).1]? = some (.code (ab_my 116) (ab_mb 116) (ab_ml 116) (ab_mr 116)) := by rfl
set_option maxRecDepth 100000 in
theorem cw_117 : lw_tbl[(ab_mk 117).1]? = some (.code (ab_my 117) (ab_mb 117) (ab_ml 117) (ab_mr 117)) := by rfl
set_option maxRecDepth 100000 in
theorem cw_118 : lw_tbl[(ab_mk 118).1]? = some (.code (ab_my 118) (ab_mb 118) (ab_ml 118) (ab_mr 118)) := by rfl
set_option maxRecDepth 100000 in
theorem cw_119 : lw_tbl[(ab_mk 119).1]? = some (.code (ab_my 119) (ab_mb 119) (ab_ml 119) (ab_mr 119)) := by rfl
set_option maxRecDepth 100000 in
theorem cw_120 : lw_tbl[(ab_mk 120).1]? = some (.code (ab_my 120) (ab_mb 120) (ab_ml 120) (ab_mr 120)) := by rfl
set_option maxRecDepth 100000 in
theorem cw_121 : lw_tbl[(ab_mk 121).1]? = some (.code (ab_my 121) (ab_mb 121) (ab_ml 121) (ab_mr 121)) := by rfl
set_option maxRecDepth 100000 in
theorem cw_122 : lw_tbl[(ab_mk 122).1]? = some (.code (ab_my 122) (ab_mb 122) (ab_ml 122) (ab_mr 122)) := by rfl
set_option maxRecDepth 100000 in
theorem cw_123 : lw_tbl[(ab_mk 123).1]? = some (.code (ab_my 123) (ab_mb 123) (ab_ml 123) (ab_mr 123)) := by rfl
set_option maxRecDepth 100000 in
theorem cw_124 : lw_tbl[(ab_mk 124).1]? = some (.code (ab_my 124) (ab_mb 124) (ab_ml 124) (ab_mr 124)) := by rfl
set_option maxRecDepth 100000 in
theorem cw_125 : lw_tbl[(ab_mk 125).1]? = some (.code (ab_my 125) (ab_mb 125) (ab_ml 125) (ab_mr 125)) := by rfl
set_option maxRecDepth 100000 in
theorem cw_126 : lw_tbl[(ab_mk 126).1]? = some (.code (ab_my 126) (ab_mb 126) (ab_ml 126) (ab_mr 126)) := by rfl
set_option maxRecDepth 100000 in
theorem cw_127 : lw_tbl[(ab_mk 127).1]? = some (.code (ab_my 127) (ab_mb 127) (ab_ml 127) (ab_mr 127)) := by rfl
set_option maxRecDepth 100000 in
theorem cw_128 : lw_tbl[(ab_mk 128).1]? = some (.code (ab_my 128) (ab_mb 128) (ab_ml 128) (ab_mr 128)) := by rfl
set_option maxRecDepth 100000 in
theorem cw_129 : lw_tbl[(ab_mk 129).1]? = some (.code (ab_my 129) (ab_mb 129) (ab_ml 129) (ab_mr 129)) := by rfl
set_option maxRecDepth 100000 in
theorem cw_130 : lw_tbl[(ab_mk 130).1]? = some (.code (ab_my 130) (ab_mb 130) (ab_ml 130) (ab_mr 130)) := by rfl
set_option maxRecDepth 100000 in
theorem cw_131 : lw_tbl[(ab_mk 131).1]? = some (.code (ab_my 131) (ab_mb 131) (ab_ml 131) (ab_mr 131)) := by rfl
set_option maxRecDepth 100000 in
theorem cw_132 : lw_tbl[(ab_mk 132).1]? = some (.code (ab_my 132) (ab_mb 132) (ab_ml 132) (ab_mr 132)) := by rfl
set_option maxRecDepth 100000 in
theorem cw_133 : lw_tbl[(ab_mk 133).1]? = some (.code (ab_my 133) (ab_mb 133) (ab_ml 133) (ab_mr 133)) := by rfl
set_option maxRecDepth 100000 in
theorem cw_134 : lw_tbl[(ab_mk 134).1]? = some (.code (ab_my 134) (ab_mb 134) (ab_ml 134) (ab_mr 134)) := by rfl
set_option maxRecDepth 100000 in
theorem cw_135 : lw_tbl[(ab_mk 135).1]? = some (.code (ab_my 135) (ab_mb 135) (ab_ml 135) (ab_mr 135)) := by rfl
set_option maxRecDepth 100000 in
theorem cw_136 : lw_tbl[(ab_mk 136).1]? = some (.code (ab_my 136) (ab_mb 136) (ab_ml 136) (ab_mr 136)) := by rfl
set_option maxRecDepth 100000 in
theorem cw_137 : lw_tbl[(ab_mk 137).1]? = some (.code (ab_my 137) (ab_mb 137) (ab_ml 137) (ab_mr 137)) := by rfl
set_option maxRecDepth 100000 in
theorem cw_138 : lw_tbl[(ab_mk 138).1]? = some (.code (ab_my 138) (ab_mb 138) (ab_ml 138) (ab_mr 138)) := by rfl
set_option maxRecDepth 100000 in
theorem cw_139 : lw_tbl[(ab_mk 139).1]? = some (.code (ab_my 139) (ab_mb 139) (ab_ml 139) (ab_mr 139)) := by rfl
set_option maxRecDepth 100000 in
theorem cw_140 : lw_tbl[(ab_mk 140).1]? = some (.code (ab_my 140) (ab_mb 140) (ab_ml 140) (ab_mr 140)) := by rfl
set_option maxRecDepth 100000 in
theorem cw_141 : lw_tbl[(ab_mk 141).1]? = some (.code (ab_my 141) (ab_mb 141) (ab_ml 141) (ab_mr 141)) := by rfl
set_option maxRecDepth 100000 in
theorem cw_142 : lw_tbl[(ab_mk 142).1]? = some (.code (ab_my 142) (ab_mb 142) (ab_ml 142) (ab_mr 142)) := by rfl
set_option maxRecDepth 100000 in
theorem cw_143 : lw_tbl[(ab_mk 143).1]? = some (.code (ab_my 143) (ab_mb 143) (ab_ml 143) (ab_mr 143)) := by rfl
set_option maxRecDepth 100000 in
theorem cw_144 : lw_tbl[(ab_mk 144).1]? = some (.code (ab_my 144) (ab_mb 144) (ab_ml 144) (ab_mr 144)) := by rfl
set_option maxRecDepth 100000 in
theorem cw_145 : lw_tbl[(ab_mk 145).1]? = some (.code (ab_my 145) (ab_mb 145) (ab_ml 145) (ab_mr 145)) := by rfl
set_option maxRecDepth 100000 in
theorem cw_146 : lw_tbl[(ab_mk 146).1]? = some (.code (ab_my 146) (ab_mb 146) (ab_ml 146) (ab_mr 146)) := by rfl
set_option maxRecDepth 100000 in
theorem cw_147 : lw_tbl[(ab_mk 147).1]? = some (.code (ab_my 147) (ab_mb 147) (ab_ml 147) (ab_mr 147)) := by rfl
set_option maxRecDepth 100000 in
theorem cw_148 : lw_tbl[(ab_mk 148).1]? = some (.code (ab_my 148) (ab_mb 148) (ab_ml 148) (ab_mr 148)) := by rfl
set_option maxRecDepth 100000 in
theorem cw_149 : lw_tbl[(ab_mk 149).1]? = some (.code (ab_my 149) (ab_mb 149) (ab_ml 149) (ab_mr 149)) := by rfl
set_option maxRecDepth 100000 in
theorem cw_150 : lw_tbl[(ab_mk 150).1]? = some (.code (ab_my 150) (ab_mb 150) (ab_ml 150) (ab_mr 150)) := by rfl
set_option maxRecDepth 100000 in
theorem cw_151 : lw_tbl[(ab_mk 151).1]? = some (.code (ab_my 151) (ab_mb 151) (ab_ml 151) (ab_mr 151)) := by rfl
set_option maxRecDepth 100000 in
theorem cw_152 : lw_tbl[(ab_mk 152).1]? = some (.code (ab_my 152) (ab_mb 152) (ab_ml 152) (ab_mr 152)) := by rfl
set_option maxRecDepth 100000 in
theorem cw_153 : lw_tbl[(ab_mk 153).1]? = some (.code (ab_my 153) (ab_mb 153) (ab_ml 153) (ab_mr 153)) := by rfl
set_option maxRecDepth 100000 in
theorem cw_154 : lw_tbl[(ab_mk 154).1]? = some (.code (ab_my 154) (ab_mb 154) (ab_ml 154) (ab_mr 154)) := by rfl
set_option maxRecDepth 100000 in
theorem cw_155 : lw_tbl[(ab_mk 155).1]? = some (.code (ab_my 155) (ab_mb 155) (ab_ml 155) (ab_mr 155)) := by rfl
set_option maxRecDepth 100000 in
theorem cw_156 : lw_tbl[(ab_mk 156).1]? = some (.code (ab_my 156) (ab_mb 156) (ab_ml 156) (ab_mr 156)) := by rfl
set_option maxRecDepth 100000 in
theorem cw_157 : lw_tbl[(ab_mk 157).1]? = some (.code (ab_my 157) (ab_mb 157) (ab_ml 157) (ab_mr 157)) := by rfl
set_option maxRecDepth 100000 in
theorem cw_158 : lw_tbl[(ab_mk 158).1]? = some (.code (ab_my 158) (ab_mb 158) (ab_ml 158) (ab_mr 158)) := by rfl
set_option maxRecDepth 100000 in
theorem cw_159 : lw_tbl[(ab_mk 159).1]? = some (.code (ab_my 159) (ab_mb 159) (ab_ml 159) (ab_mr 159)) := by rfl
set_option maxRecDepth 100000 in
theorem cw_160 : lw_tbl[(ab_mk 160).1]? = some (.code (ab_my 160) (ab_mb 160) (ab_ml 160) (ab_mr 160)) := by rfl
set_option maxRecDepth 100000 in
theorem cw_161 : lw_tbl[(ab_mk 161).1]? = some (.code (ab_my 161) (ab_mb 161) (ab_ml 161) (ab_mr 161)) := by rfl
set_option maxRecDepth 100000 in
theorem cw_162 : lw_tbl[(ab_mk 162).1]? = some (.code (ab_my 162) (ab_mb 162) (ab_ml 162) (ab_mr 162)) := by rfl
set_option maxRecDepth 100000 in
theorem cw_163 : lw_tbl[(ab_mk 163).1]? = some (.code (ab_my 163) (ab_mb 163) (ab_ml 163) (ab_mr 163)) := by rfl
set_option maxRecDepth 100000 in
theorem cw_164 : lw_tbl[(ab_mk 164).1]? = some (.code (ab_my 164) (ab_mb 164) (ab_ml 164) (ab_mr 164)) := by rfl
set_option maxRecDepth 100000 in
theorem cw_165 : lw_tbl[(ab_mk 165).1]? = some (.code (ab_my 165) (ab_mb 165) (ab_ml 165) (ab_mr 165)) := by rfl
set_option maxRecDepth 100000 in
theorem cw_166 : lw_tbl[(ab_mk 166).1]? = some (.code (ab_my 166) (ab_mb 166) (ab_ml 166) (ab_mr 166)) := by rfl
set_option maxRecDepth 100000 in
theorem cw_167 : lw_tbl[(ab_mk 167).1]? = some (.code (ab_my 167) (ab_mb 167) (ab_ml 167) (ab_mr 167)) := by rfl
set_option maxRecDepth 100000 in
theorem cw_168 : lw_tbl[(ab_mk 168).1]? = some (.code (ab_my 168) (ab_mb 168) (ab_ml 168) (ab_mr 168)) := by rfl
set_option maxRecDepth 100000 in
theorem cw_169 : lw_tbl[(ab_mk 169).1]? = some (.code (ab_my 169) (ab_mb 169) (ab_ml 169) (ab_mr 169)) := by rfl
set_option maxRecDepth 100000 in
theorem cw_170 : lw_tbl[(ab_mk 170).1]? = some (.code (ab_my 170) (ab_mb 170) (ab_ml 170) (ab_mr 170)) := by rfl
set_option maxRecDepth 100000 in
theorem cw_171 : lw_tbl[(ab_mk 171).1]? = some (.code (ab_my 171) (ab_mb 171) (ab_ml 171) (ab_mr 171)) := by rfl
set_option maxRecDepth 100000 in
theorem cw_172 : lw_tbl[(ab_mk 172).1]? = some (.code (ab_my 172) (ab_mb 172) (ab_ml 172) (ab_mr 172)) := by rfl
set_option maxRecDepth 100000 in
theorem cw_173 : lw_tbl[(ab_mk 173).1]? = some (.code (ab_my 173) (ab_mb 173) (ab_ml 173) (ab_mr 173)) := by rfl
set_option maxRecDepth 100000 in
theorem cw_174 : lw_tbl[(ab_mk 174).1]? = some (.code (ab_my 174) (ab_mb 174) (ab_ml 174) (ab_mr 174)) := by rfl
set_option maxRecDepth 100000 in
theorem cw_175 : lw_tbl[(ab_mk 175).1]? = some (.code (ab_my 175) (ab_mb 175) (ab_ml 175) (ab_mr 175)) := by rfl
set_option maxRecDepth 100000 in
theorem cw_176 : lw_tbl[(ab_mk 176).1]? = some (.code (ab_my 176) (ab_mb 176) (ab_ml 176) (ab_mr 176)) := by rfl
set_option maxRecDepth 100000 in
theorem cw_177 : lw_tbl[(ab_mk 177).1]? = some (.code (ab_my 177) (ab_mb 177) (ab_ml 177) (ab_mr 177)) := by rfl
set_option maxRecDepth 100000 in
theorem cw_178 : lw_tbl[(ab_mk 178).1]? = some (.code (ab_my 178) (ab_mb 178) (ab_ml 178) (ab_mr 178)) := by rfl
set_option maxRecDepth 100000 in
theorem cw_179 : lw_tbl[(ab_mk 179).1]? = some (.code (ab_my 179) (ab_mb 179) (ab_ml 179) (ab_mr 179)) := by rfl
set_option maxRecDepth 100000 in
theorem cw_180 : lw_tbl[(ab_mk 180).1]? = some (.code (ab_my 180) (ab_mb 180) (ab_ml 180) (ab_mr 180)) := by rfl
set_option maxRecDepth 100000 in
theorem cw_181 : lw_tbl[(ab_mk 181).1]? = some (.code (ab_my 181) (ab_mb 181) (ab_ml 181) (ab_mr 181)) := by rfl
set_option maxRecDepth 100000 in
theorem cw_182 : lw_tbl[(ab_mk 182).1]? = some (.code (ab_my 182) (ab_mb 182) (ab_ml 182) (ab_mr 182)) := by rfl
set_option maxRecDepth 100000 in
theorem cw_183 : lw_tbl[(ab_mk 183).1]? = some (.code (ab_my 183) (ab_mb 183) (ab_ml 183) (ab_mr 183)) := by rfl
set_option maxRecDepth 100000 in
theorem cw_184 : lw_tbl[(ab_mk 184).1]? = some (.code (ab_my 184) (ab_mb 184) (ab_ml 184) (ab_mr 184)) := by rfl
set_option maxRecDepth 100000 in
theorem cw_185 : lw_tbl[(ab_mk 185).1]? = some (.code (ab_my 185) (ab_mb 185) (ab_ml 185) (ab_mr 185)) := by rfl
set_option maxRecDepth 100000 in
theorem cw_186 : lw_tbl[(ab_mk 186).1]? = some (.code (ab_my 186) (ab_mb 186) (ab_ml 186) (ab_mr 186)) := by rfl
set_option maxRecDepth 100000 in
theorem cw_187 : lw_tbl[(ab_mk 187).1]? = some (.code (ab_my 187) (ab_mb 187) (ab_ml 187) (ab_mr 187)) := by rfl
set_option maxRecDepth 100000 in
theorem cw_188 : lw_tbl[(ab_mk 188).1]? = some (.code (ab_my 188) (ab_mb 188) (ab_ml 188) (ab_mr 188)) := by rfl
set_option maxRecDepth 100000 in
theorem cw_189 : lw_tbl[(ab_mk 189).1]? = some (.code (ab_my 189) (ab_mb 189) (ab_ml 189) (ab_mr 189)) := by rfl
set_option maxRecDepth 100000 in
theorem cw_190 : lw_tbl[(ab_mk 190).1]? = some (.code (ab_my 190) (ab_mb 190) (ab_ml 190) (ab_mr 190)) := by rfl
set_option maxRecDepth 100000 in
theorem cw_191 : lw_tbl[(ab_mk 191).1]? = some (.code (ab_my 191) (ab_mb 191) (ab_ml 191) (ab_mr 191)) := by rfl
set_option maxRecDepth 100000 in
theorem cw_192 : lw_tbl[(ab_mk 192).1]? = some (.code (ab_my 192) (ab_mb 192) (ab_ml 192) (ab_mr 192)) := by rfl
set_option maxRecDepth 100000 in
theorem cw_193 : lw_tbl[(ab_mk 193).1]? = some (.code (ab_my 193) (ab_mb 193) (ab_ml 193) (ab_mr 193)) := by rfl
set_option maxRecDepth 100000 in
theorem cw_194 : lw_tbl[(ab_mk 194).1]? = some (.code (ab_my 194) (ab_mb 194) (ab_ml 194) (ab_mr 194)) := by rfl
set_option maxRecDepth 100000 in
theorem cw_195 : lw_tbl[(ab_mk 195).1]? = some (.code (ab_my 195) (ab_mb 195) (ab_ml 195) (ab_mr 195)) := by rfl
set_option maxRecDepth 100000 in
theorem cw_196 : lw_tbl[(ab_mk 196).1]? = some (.code (ab_my 196) (ab_mb 196) (ab_ml 196) (ab_mr 196)) := by rfl
set_option maxRecDepth 100000 in
theorem cw_197 : lw_tbl[(ab_mk 197).1]? = some (.code (ab_my 197) (ab_mb 197) (ab_ml 197) (ab_mr 197)) := by rfl
set_option maxRecDepth 100000 in
theorem cw_198 : lw_tbl[(ab_mk 198).1]? = some (.code (ab_my 198) (ab_mb 198) (ab_ml 198) (ab_mr 198)) := by rfl
set_option maxRecDepth 100000 in
theorem cw_199 : lw_tbl[(ab_mk 199).1]? = some (.code (ab_my 199) (ab_mb 199) (ab_ml 199) (ab_mr 199)) := by rfl
set_option maxRecDepth 100000 in
theorem cw_200 : lw_tbl[(ab_mk 200).1]? = some (.code (ab_my 200) (ab_mb 200) (ab_ml 200) (ab_mr 200)) := by rfl
set_option maxRecDepth 100000 in
theorem cw_201 : lw_tbl[(ab_mk 201).1]? = some (.code (ab_my 201) (ab_mb 201) (ab_ml 201) (ab_mr 201)) := by rfl
set_option maxRecDepth 100000 in
theorem cw_202 : lw_tbl[(ab_mk 202).1]? = some (.code (ab_my 202) (ab_mb 202) (ab_ml 202) (ab_mr 202)) := by rfl
set_option maxRecDepth 100000 in
theorem cw_203 : lw_tbl[(ab_mk 203).1]? = some (.code (ab_my 203) (ab_mb 203) (ab_ml 203) (ab_mr 203)) := by rfl
set_option maxRecDepth 100000 in
theorem cw_204 : lw_tbl[(ab_mk 204).1]? = some (.code (ab_my 204) (ab_mb 204) (ab_ml 204) (ab_mr 204)) := by rfl
set_option maxRecDepth 100000 in
theorem cw_205 : lw_tbl[(ab_mk 205).1]? = some (.code (ab_my 205) (ab_mb 205) (ab_ml 205) (ab_mr 205)) := by rfl
set_option maxRecDepth 100000 in
theorem cw_206 : lw_tbl[(ab_mk 206).1]? = some (.code (ab_my 206) (ab_mb 206) (ab_ml 206) (ab_mr 206)) := by rfl
set_option maxRecDepth 100000 in
theorem cw_207 : lw_tbl[(ab_mk 207).1]? = some (.code (ab_my 207) (ab_mb 207) (ab_ml 207) (ab_mr 207)) := by rfl
set_option maxRecDepth 100000 in
theorem cw_208 : lw_tbl[(ab_mk 208).1]? = some (.code (ab_my 208) (ab_mb 208) (ab_ml 208) (ab_mr 208)) := by rfl
set_option maxRecDepth 100000 in
theorem cw_209 : lw_tbl[(ab_mk 209).1]? = some (.code (ab_my 209) (ab_mb 209) (ab_ml 209) (ab_mr 209)) := by rfl
set_option maxRecDepth 100000 in
theorem cw_210 : lw_tbl[(ab_mk 210).1]? = some (.code (ab_my 210) (ab_mb 210) (ab_ml 210) (ab_mr 210)) := by rfl
set_option maxRecDepth 100000 in
theorem cw_211 : lw_tbl[(ab_mk 211).1]? = some (.code (ab_my 211) (ab_mb 211) (ab_ml 211) (ab_mr 211)) := by rfl
set_option maxRecDepth 100000 in
theorem cw_212 : lw_tbl[(ab_mk 212).1]? = some (.code (ab_my 212) (ab_mb 212) (ab_ml 212) (ab_mr 212)) := by rfl
set_option maxRecDepth 100000 in
theorem cw_213 : lw_tbl[(ab_mk 213).1]? = some (.code (ab_my 213) (ab_mb 213) (ab_ml 213) (ab_mr 213)) := by rfl
set_option maxRecDepth 100000 in
theorem cw_214 : lw_tbl[(ab_mk 214).1]? = some (.code (ab_my 214) (ab_mb 214) (ab_ml 214) (ab_mr 214)) := by rfl
set_option maxRecDepth 100000 in
theorem cw_215 : lw_tbl[(ab_mk 215).1]? = some (.code (ab_my 215) (ab_mb 215) (ab_ml 215) (ab_mr 215)) := by rfl
set_option maxRecDepth 100000 in
theorem cw_216 : lw_tbl[(ab_mk 216).1]? = some (.code (ab_my 216) (ab_mb 216) (ab_ml 216) (ab_mr 216)) := by rfl
set_option maxRecDepth 100000 in
theorem cw_217 : lw_tbl[(ab_mk 217).1]? = some (.code (ab_my 217) (ab_mb 217) (ab_ml 217) (ab_mr 217)) := by rfl
set_option maxRecDepth 100000 in
theorem cw_218 : lw_tbl[(ab_mk 218).1]? = some (.code (ab_my 218) (ab_mb 218) (ab_ml 218) (ab_mr 218)) := by rfl
set_option maxRecDepth 100000 in
theorem cw_219 : lw_tbl[(ab_mk 219).1]? = some (.code (ab_my 219) (ab_mb 219) (ab_ml 219) (ab_mr 219)) := by rfl
set_option maxRecDepth 100000 in
theorem cw_220 : lw_tbl[(ab_mk 220).1]? = some (.code (ab_my 220) (ab_mb 220) (ab_ml 220) (ab_mr 220)) := by rfl
set_option maxRecDepth 100000 in
theorem cw_221 : lw_tbl[(ab_mk 221).1]? = some (.code (ab_my 221) (ab_mb 221) (ab_ml 221) (ab_mr 221)) := by rfl
set_option maxRecDepth 100000 in
theorem cw_222 : lw_tbl[(ab_mk 222).1]? = some (.code (ab_my 222) (ab_mb 222) (ab_ml 222) (ab_mr 222)) := by rfl
set_option maxRecDepth 100000 in
theorem cw_223 : lw_tbl[(ab_mk 223).1]? = some (.code (ab_my 223) (ab_mb 223) (ab_ml 223) (ab_mr 223)) := by rfl
set_option maxRecDepth 100000 in
theorem cw_224 : lw_tbl[(ab_mk 224).1]? = some (.code (ab_my 224) (ab_mb 224) (ab_ml 224) (ab_mr 224)) := by rfl
set_option maxRecDepth 100000 in
theorem cw_225 : lw_tbl[(ab_mk 225).1]? = some (.code (ab_my 225) (ab_mb 225) (ab_ml 225) (ab_mr 225)) := by rfl
set_option maxRecDepth 100000 in
theorem cw_226 : lw_tbl[(ab_mk 226).1]? = some (.code (ab_my 226) (ab_mb 226) (ab_ml 226) (ab_mr 226)) := by rfl
set_option maxRecDepth 100000 in
theorem cw_227 : lw_tbl[(ab_mk 227).1]? = some (.code (ab_my 227) (ab_mb 227) (ab_ml 227) (ab_mr 227)) := by rfl
set_option maxRecDepth 100000 in
theorem cw_228 : lw_tbl[(ab_mk 228).1]? = some (.code (ab_my 228) (ab_mb 228) (ab_ml 228) (ab_mr 228)) := by rfl
set_option maxRecDepth 100000 in
theorem cw_229 : lw_tbl[(ab_mk 229).1]? = some (.code (ab_my 229) (ab_mb 229) (ab_ml 229) (ab_mr 229)) := by rfl
theorem ab_cw : ∀ id, id < 230 → lw_tbl[(ab_mk id).1]? = some (.code (ab_my id) (ab_mb id) (ab_ml id) (ab_mr id))
  | 0, _ => cw_0
  | 1, _ => cw_1
  | 2, _ => cw_2
  | 3, _ => cw_3
  | 4, _ => cw_4
  | 5, _ => cw_5
  | 6, _ => cw_6
  | 7, _ => cw_7
  | 8, _ => cw_8
  | 9, _ => cw_9
  | 10, _ => cw_10
  | 11, _ => cw_11
  | 12, _ => cw_12
  | 13, _ => cw_13
  | 14, _ => cw_14
  | 15, _ => cw_15
  | 16, _ => cw_16
  | 17, _ => cw_17
  | 18, _ => cw_18
  | 19, _ => cw_19
  | 20, _ => cw_20
  | 21, _ => cw_21
  | 22, _ => cw_22
  | 23, _ => cw_23
  | 24, _ => cw_24
  | 25, _ => cw_25
  | 26, _ => cw_26
  | 27, _ => cw_27
  | 28, _ => cw_28
  | 29, _ => cw_29
  | 30, _ => cw_30
  | 31, _ => cw_31
  | 32, _ => cw_32
  | 33, _ => cw_33
  | 34, _ => cw_34
  | 35, _ => cw_35
  | 36, _ => cw_36
  | 37, _ => cw_37
  | 38, _ => cw_38
  | 39, _ => cw_39
  | 40, _ => cw_40
  | 41, _ => cw_41
  | 42, _ => cw_42
  | 43, _ => cw_43
  | 44, _ => cw_44
  | 45, _ => cw_45
  | 46, _ => cw_46
  | 47, _ => cw_47
  | 48, _ => cw_48
  | 49, _ => cw_49
  | 50, _ => cw_50
  | 51, _ => cw_51
  | 52, _ => cw_52
  | 53, _ => cw_53
  | 54, _ => cw_54
  | 55, _ => cw_55
  | 56, _ => cw_56
  | 57, _ => cw_57
  | 58, _ => cw_58
  | 59, _ => cw_59
  | 60, _ => cw_60
  | 61, _ => cw_61
  | 62, _ => cw_62
  | 63, _ => cw_63
  | 64, _ => cw_64
  | 65, _ => cw_65
  | 66, _ => cw_66
  | 67, _ => cw_67
  | 68, _ => cw_68
  | 69, _ => cw_69
  | 70, _ => cw_70
  | 71, _ => cw_71
  | 72, _ => cw_72
  | 73, _ => cw_73
  | 74, _ => cw_74
  | 75, _ => cw_75
  | 76, _ => cw_76
  | 77, _ => cw_77
  | 78, _ => cw_78
  | 79, _ => cw_79
  | 80, _ => cw_80
  | 81, _ => cw_81
  | 82, _ => cw_82
  | 83, _ => cw_83
  | 84, _ => cw_84
  | 85, _ => cw_85
  | 86, _ => cw_86
  | 87, _ => cw_87
  | 88, _ => cw_88
  | 89, _ => cw_89
  | 90, _ => cw_90
  | 91, _ => cw_91
  | 92, _ => cw_92
  | 93, _ => cw_93
  | 94, _ => cw_94
  | 95, _ => cw_95
  | 96, _ => cw_96
  | 97, _ => cw_97
  | 98, _ => cw_98
  | 99, _ => cw_99
  | 100, _ => cw_100
  | 101, _ => cw_101
  | 102, _ => cw_102
  | 103, _ => cw_103
  | 104, _ => cw_104
  | 105, _ => cw_105
  | 106, _ => cw_106
  | 107, _ => cw_107
  | 108, _ => cw_108
  | 109, _ => cw_109
  | 110, _ => cw_110
  | 111, _ => cw_111
  | 112, _ => cw_112
  | 113, _ => cw_113
  | 114, _ => cw_114
  | 115, _ => cw_115
  | 116, _ => cw_116
  | 117, _ => cw_117
  | 118, _ => cw_118
  | 119, _ => cw_119
  | 120, _ => cw_120
  | 121, _ => cw_121
  | 122, _ => cw_122
  | 123, _ => cw_123
  | 124, _ => cw_124
  | 125, _ => cw_125
  | 126, _ => cw_126
  | 127, _ => cw_127
  | 128, _ => cw_128
  | 129, _ => cw_129
  | 130, _ => cw_130
  | 131, _ => cw_131
  | 132, _ => cw_132
  | 133, _ => cw_133
  | 134, _ => cw_134
  | 135, _ => cw_135
  | 136, _ => cw_136
  | 137, _ => cw_137
  | 138, _ => cw_138
  | 139, _ => cw_139
  | 140, _ => cw_140
  | 141, _ => cw_141
  | 142, _ => cw_142
  | 143, _ => cw_143
  | 144, _ => cw_144
  | 145, _ => cw_145
  | 146, _ => cw_146
  | 147, _ => cw_147
  | 148, _ => cw_148
  | 149, _ => cw_149
  | 150, _ => cw_150
  | 151, _ => cw_151
  | 152, _ => cw_152
  | 153, _ => cw_153
  | 154, _ => cw_154
  | 155, _ => cw_155
  | 156, _ => cw_156
  | 157, _ => cw_157
  | 158, _ => cw_158
  | 159, _ => cw_159
  | 160, _ => cw_160
  | 161, _ => cw_161
  | 162, _ => cw_162
  | 163, _ => cw_163
  | 164, _ => cw_164
  | 165, _ => cw_165
  | 166, _ => cw_166
  | 167, _ => cw_167
  | 168, _ => cw_168
  | 169, _ => cw_169
  | 170, _ => cw_170
  | 171, _ => cw_171
  | 172, _ => cw_172
  | 173, _ => cw_173
  | 174, _ => cw_174
  | 175, _ => cw_175
  | 176, _ => cw_176
  | 177, _ => cw_177
  | 178, _ => cw_178
  | 179, _ => cw_179
  | 180, _ => cw_180
  | 181, _ => cw_181
  | 182, _ => cw_182
  | 183, _ => cw_183
  | 184, _ => cw_184
  | 185, _ => cw_185
  | 186, _ => cw_186
  | 187, _ => cw_187
  | 188, _ => cw_188
  | 189, _ => cw_189
  | 190, _ => cw_190
  | 191, _ => cw_191
  | 192, _ => cw_192
  | 193, _ => cw_193
  | 194, _ => cw_194
  | 195, _ => cw_195
  | 196, _ => cw_196
  | 197, _ => cw_197
  | 198, _ => cw_198
  | 199, _ => cw_199
  | 200, _ => cw_200
  | 201, _ => cw_201
  | 202, _ => cw_202
  | 203, _ => cw_203
  | 204, _ => cw_204
  | 205, _ => cw_205
  | 206, _ => cw_206
  | 207, _ => cw_207
  | 208, _ => cw_208
  | 209, _ => cw_209
  | 210, _ => cw_210
  | 211, _ => cw_211
  | 212, _ => cw_212
  | 213, _ => cw_213
  | 214, _ => cw_214
  | 215, _ => cw_215
  | 216, _ => cw_216
  | 217, _ => cw_217
  | 218, _ => cw_218
  | 219, _ => cw_219
  | 220, _ => cw_220
  | 221, _ => cw_221
  | 222, _ => cw_222
  | 223, _ => cw_223
  | 224, _ => cw_224
  | 225, _ => cw_225
  | 226, _ => cw_226
  | 227, _ => cw_227
  | 228, _ => cw_228
  | 229, _ => cw_229
  | n + 230, h => absurd h (by omega)
/-- a method's own words, but for its code -/
def ab_mkb (id : Nat) : Bool :=
  goodWord (.code (ab_my id) ⟨#[]⟩ (ab_ml id) (ab_mr id)) && decide (ab_ml id ≤ 40) && ab_at (ab_mk id).2.2.2 (.initialized (ab_my id).cls) && !((ab_my id).cls == "java/lang/invoke/MethodHandle") && !((ab_my id).cls == "java/lang/invoke/VarHandle") && plainName (ab_my id).cls && (match ab_mt id with
  | 0 => ab_at (ab_mk id).2.1 (.instanceMethod (ab_my id)) && ab_at (ab_mk id).2.2.1 (.selects (ab_my id).cls (ab_my id) (ab_my id))
  | _ => ab_at (ab_mk id).2.1 (.static (ab_my id)))
theorem ab_mk_ok : (List.range 230).all ab_mkb = true := by decide +kernel
theorem ab_code_in {id : Nat} (h : id < 230) : Cond.code (ab_my id) (ab_mb id) (ab_ml id) (ab_mr id) ∈ lw_good := List.mem_filter.mpr ⟨List.mem_of_getElem? (ab_cw id h), rfl⟩
def ab_csb (o : Nat) (q : Nat × Nat × Nat × Nat × Nat) : Bool :=
  decide (q.2.1 < 230) && decide ((parseMethodDescriptor (ab_my q.2.1).desc).map (fun d => d.parameters.length) = some q.2.2.1) &&
  (match q.2.2.2.1 with
  | 0 => ab_at q.2.2.2.2 (.methodLink (ab_on o) q.1 (ab_my q.2.1)) && ab_mt q.2.1 == 0
  | 1 => ab_at q.2.2.2.2 (.methodLink (ab_on o) q.1 (ab_my q.2.1)) && ab_mt q.2.1 == 1
  | _ => ab_nest o q.1 (ab_my q.2.1) && ab_mt q.2.1 == 1)
theorem ab_cs_ok : ∀ o, o < 11 → (ab_cs o).all (ab_csb o) = true := by decide +kernel
def ab_jn (j : Nat) : MethodName := match j with
  | 0 => Lib.Math.max.name
  | 1 => Lib.Math.min.name
  | 2 => Lib.Math.abs.name
  | _ => arraycopyName
def ab_jsb (o : Nat) (q : Nat × Nat × Nat) : Bool := ab_at q.2.2 (.methodLink (ab_on o) q.1 (ab_jn q.2.1))
theorem ab_js_ok : ∀ o, o < 11 → (ab_js o).all (ab_jsb o) = true := by decide +kernel
theorem ab_jm0 : Cond.static Lib.Math.max.name ∈ lw_good ∧ Cond.code Lib.Math.max.name Lib.Math.max.code 2 (some .int) ∈ lw_good ∧ Cond.initialized "java/lang/Math" ∈ lw_good := ⟨ab_at_in (k := (ab_jk 0).1) (by decide +kernel), ab_at_in (k := (ab_jk 0).2.1) (by decide +kernel), ab_at_in (k := (ab_jk 0).2.2) (by decide +kernel)⟩
theorem ab_jm1 : Cond.static Lib.Math.min.name ∈ lw_good ∧ Cond.code Lib.Math.min.name Lib.Math.min.code 2 (some .int) ∈ lw_good := ⟨ab_at_in (k := (ab_jk 1).1) (by decide +kernel), ab_at_in (k := (ab_jk 1).2.1) (by decide +kernel)⟩
theorem ab_jm2 : Cond.static Lib.Math.abs.name ∈ lw_good ∧ Cond.code Lib.Math.abs.name Lib.Math.abs.code 1 (some .int) ∈ lw_good := ⟨ab_at_in (k := (ab_jk 2).1) (by decide +kernel), ab_at_in (k := (ab_jk 2).2.1) (by decide +kernel)⟩
theorem ab_jm3 : Cond.static arraycopyName ∈ lw_good ∧ Cond.native arraycopyName ∈ lw_good ∧ Cond.initialized "java/lang/System" ∈ lw_good := ⟨ab_at_in (k := (ab_jk 3).1) (by decide +kernel), ab_at_in (k := (ab_jk 3).2.1) (by decide +kernel), ab_at_in (k := (ab_jk 3).2.2) (by decide +kernel)⟩
def ab_c0 (o : Nat) (i : Instr) (n : Nat) (v : AV) : Bool := match i with
  | .iconst z => n == 1 && decide (vI (Int32.ofInt z) = v)
  | .bipush z => n == 2 && decide (vI (Int8.ofInt z).toInt32 = v)
  | .sipush z => n == 3 && decide (vI (Int16.ofInt z).toInt32 = v)
  | .lconst z => n == 1 && decide (vL (Int64.ofNat z.val) = v)
  | .ldc ix => n == 2 && (ab_ks o).any (fun q => q.1 == ix && decide (q.2.1 = v)) && !(ab_isL v)
  | .ldc_w ix => n == 3 && (ab_ks o).any (fun q => q.1 == ix && decide (q.2.1 = v)) && !(ab_isL v) && !(ab_isR v)
  | .ldc2_w ix => n == 3 && (ab_ks o).any (fun q => q.1 == ix && decide (q.2.1 = v)) && ab_isL v
  | .getstatic ix => n == 3 && o == 0 && ix == 34 && decide (v = vR 61 0)
  | _ => false
def ab_c1 (i : Instr) (n a nL : Nat) : Bool := match i with
  | .iload k => n == 2 && k == a && decide (a < nL)
  | .iload_n k => n == 1 && k.val == a && decide (a < nL)
  | _ => false
def ab_c2 (i : Instr) (n a nL : Nat) : Bool := match i with
  | .lload k => n == 2 && k == a && decide (a < nL)
  | .lload_n k => n == 1 && k.val == a && decide (a < nL)
  | _ => false
def ab_c3 (i : Instr) (n a nL : Nat) : Bool := match i with
  | .aload k => n == 2 && k == a && decide (a < nL)
  | .aload_n k => n == 1 && k.val == a && decide (a < nL)
  | _ => false
def ab_c4 (i : Instr) (n a nL : Nat) : Bool := match i with
  | .istore k => n == 2 && k == a && decide (a < nL)
  | .istore_n k => n == 1 && k.val == a && decide (a < nL)
  | _ => false
def ab_c5 (i : Instr) (n a nL : Nat) : Bool := match i with
  | .lstore k => n == 2 && k == a && decide (a + 1 < nL)
  | .lstore_n k => n == 1 && k.val == a && decide (a + 1 < nL)
  | _ => false
def ab_c6 (i : Instr) (n a nL : Nat) : Bool := match i with
  | .astore k => n == 2 && k == a && decide (a < nL)
  | .astore_n k => n == 1 && k.val == a && decide (a < nL)
  | _ => false
def ab_c7 (i : Instr) (n a nL : Nat) (v : AV) : Bool := match i with
  | .iinc k z => n == 3 && k == a && decide (a < nL) && decide (vI (Int32.ofInt z) = v)
  | _ => false
def ab_c8 (i : Instr) (n a : Nat) : Bool := n == 1 && match i with
  | .iadd => a == 0
  | .isub => a == 1
  | .imul => a == 2
  | .iand => a == 3
  | .ior => a == 4
  | .ishl => a == 5
  | .ishr => a == 6
  | .iushr => a == 7
  | _ => false
def ab_c9 (i : Instr) (n a : Nat) : Bool := n == 1 && match i with
  | .idiv => a == 0
  | .irem => a == 1
  | _ => false
def ab_c10 (i : Instr) (n a : Nat) : Bool := n == 1 && match i with
  | .ineg => a == 0
  | .i2b => a == 1
  | .i2s => a == 2
  | _ => false
def ab_c13 (i : Instr) (n a : Nat) : Bool := n == 1 && match i with
  | .ladd => a == 0
  | .lsub => a == 1
  | .lmul => a == 2
  | _ => false
def ab_c14 (i : Instr) (n a : Nat) : Bool := n == 1 && match i with
  | .ldiv => a == 0
  | .lrem => a == 1
  | _ => false
/-- the plain ones -/
def ab_cp (i : Instr) (n k : Nat) : Bool := n == 1 && match i with
  | .i2l => k == 11
  | .l2i => k == 12
  | .lcmp => k == 15
  | .dup => k == 16
  | .pop => k == 17
  | _ => false
def ab_fk (a b : Nat) : Nat × Nat × Nat := ab_nth (9, 0, 0) (ab_fds a) b
def ab_c18 (o : Nat) (i : Instr) (n a b t : Nat) : Bool := match i with
  | .getfield ix => n == 3 && (ab_fl o).any (fun q => q.1 == ix && q.2.1 == a && q.2.2.1 == b) && (ab_fk a b).1 == t
  | _ => false
def ab_c21 (o : Nat) (i : Instr) (n a b : Nat) (ty : FieldType) : Bool := match i with
  | .putfield ix => n == 3 && (ab_fl o).any (fun q => q.1 == ix && q.2.1 == a && q.2.2.1 == b) && decide (ab_ty (ab_ci a) b = ty) && (match ab_cl[ab_ci a]? with
    | some (_, T, _) => !(T b).2.2.2
    | none => false)
  | _ => false
def ab_ca (i : Instr) (n k a : Nat) : Bool := n == 1 && match i with
  | .iaload => (k == 24 && ab_kd a == 1) || k == 34
  | .iastore => k == 25 && ab_kd a == 1
  | .baload => k == 26 && ab_kd a == 2
  | .bastore => k == 27 && ab_kd a == 2
  | .aaload => k == 28 && ab_kd a == 3
  | _ => false
def ab_cj (o : Nat) (i : Instr) (n j : Nat) : Bool := match i with
  | .invokestatic ix => n == 3 && (ab_js o).any (fun q => q.1 == ix && q.2.1 == j)
  | _ => false
def ab_cc (c : ClassFile.Cond) : Nat := match c with
  | .eq => 0
  | .ne => 1
  | .lt => 2
  | .ge => 3
  | .gt => 4
  | .le => 5
def ab_swT (pc : Nat) : List Int → Int → List (Int × Nat) → Bool
  | [], _, [] => true
  | f :: fs, lo, (c, t) :: r => c == lo && ((pc : Int) + f == (t : Int)) && ab_swT pc fs (lo + 1) r
  | _, _, _ => false
def ab_swL (pc : Nat) : List (Int × Int) → List (Int × Nat) → Bool
  | [], [] => true
  | (z, f) :: fs, (c, t) :: r => c == z && decide (-1000 < z) && decide (z < 1000) && ((pc : Int) + f == (t : Int)) && ab_swL pc fs r
  | _, _ => false
def ab_kop (o : Nat) (nL pc : Nat) (i : Instr) (n : Nat) (op : AOp) : Bool := match op with
  | (0, _, _, v, _) => ab_c0 o i n v
  | (1, a, _, _, _) => ab_c1 i n a nL
  | (2, a, _, _, _) => ab_c2 i n a nL
  | (3, a, _, _, _) => ab_c3 i n a nL
  | (4, a, _, _, _) => ab_c4 i n a nL
  | (5, a, _, _, _) => ab_c5 i n a nL
  | (6, a, _, _, _) => ab_c6 i n a nL
  | (7, a, _, v, _) => ab_c7 i n a nL v
  | (8, a, _, _, _) => ab_c8 i n a
  | (9, a, _, _, _) => ab_c9 i n a
  | (10, a, _, _, _) => ab_c10 i n a
  | (13, a, _, _, _) => ab_c13 i n a
  | (14, a, _, _, _) => ab_c14 i n a
  | (18, a, b, _, _) => ab_c18 o i n a b 0
  | (19, a, b, _, _) => ab_c18 o i n a b 1
  | (20, a, b, v, _) => ab_c18 o i n a b 2 && decide (v = vR (ab_fk a b).2.1 (ab_fk a b).2.2)
  | (21, a, b, _, _) => ab_c21 o i n a b .int
  | (22, a, b, _, _) => ab_c21 o i n a b .boolean
  | (23, a, b, _, _) => ab_c21 o i n a b .long
  | (24, a, _, _, _) => ab_ca i n 24 a
  | (25, a, _, _, _) => ab_ca i n 25 a
  | (26, a, _, _, _) => ab_ca i n 26 a
  | (27, a, _, _, _) => ab_ca i n 27 a
  | (28, a, _, _, _) => ab_ca i n 28 a
  | (29, a, _, _, _) => ab_cj o i n a && decide (a < 2)
  | (30, _, _, _, _) => ab_cj o i n 2
  | (31, a, b, _, _) => ab_cj o i n 3 && ab_kd a == 1 && ab_kd b == 1
  | (34, _, _, _, _) => ab_ca i n 34 61
  | (40, t, _, _, _) => match i with
    | .goto f => n == 3 && ((pc : Int) + f == (t : Int))
    | _ => false
  | (41, c, t, _, _) => match i with
    | .ifCond z f => n == 3 && ab_cc z == c && ((pc : Int) + f == (t : Int))
    | _ => false
  | (42, c, t, _, _) => match i with
    | .if_icmp z f => n == 3 && ab_cc z == c && ((pc : Int) + f == (t : Int))
    | _ => false
  | (43, d, _, _, ts) => match i with
    | .tableswitch f lo hi fs => ((pc : Int) + f == (d : Int)) && decide (-1000 < lo) && decide (hi < 1000) && hi + 1 == lo + (fs.toList.length : Int) && ab_swT pc fs.toList lo ts
    | .lookupswitch f ps => ((pc : Int) + f == (d : Int)) && (ps.toList.zip (ps.toList.drop 1)).all (fun (a, next) => decide (a.1 < next.1)) && ab_swL pc ps.toList ts
    | _ => false
  | (44, id, b, _, _) => match i with
    | .invokevirtual ix => n == 3 && (ab_cs o).any (fun q => q.1 == ix && q.2.1 == id && q.2.2.1 + 1 == b && q.2.2.2.1 == 0)
    | .invokestatic ix => n == 3 && (ab_cs o).any (fun q => q.1 == ix && q.2.1 == id && q.2.2.1 == b && !(q.2.2.2.1 == 0))
    | _ => false
  | (45, t, _, _, _) => n == 1 && match i with
    | .ireturn => t == 1 || t == 3
    | .lreturn => t == 2
    | .return_ => t == 0
    | _ => false
  | (k, _, _, _, _) => ab_cp i n k
def ab_chk (o : Nat) (cc : ByteArray) (nL pc : Nat) (op : AOp) : Bool := match decode cc pc with
  | .ok (i, n) => ab_kop o nL pc i n op
  | .error _ => false
def ab_ln (cc : ByteArray) (pc : Nat) : Nat := match decode cc pc with
  | .ok (_, n) => n
  | .error _ => 0
theorem ab_chk_inv {o : Nat} {cc : ByteArray} {nL pc : Nat} {op : AOp} (h : ab_chk o cc nL pc op = true) : ∃ i n, decode cc pc = .ok (i, n) ∧ ab_ln cc pc = n ∧ ab_kop o nL pc i n op = true := by
  unfold ab_chk at h
  cases hd : decode cc pc with
  | error e => rw [hd] at h; cases h
  | ok q =>
    obtain ⟨i, n⟩ := q
    rw [hd] at h
    exact ⟨i, n, rfl, by simp [ab_ln, hd], h⟩
/-- a run of steps in the bytes: each is what its byte says; the last may go on elsewhere without a step -/
def ab_bk (o : Nat) (cc : ByteArray) (nL ty : Nat) : Nat → List AOp → Bool
  | _, [] => true
  | pc, op :: ops => match op with
    | (40, t, 1, _, _) => t == pc
    | (45, t, _, _, _) => t == ty && ab_chk o cc nL pc op
    | op => ab_chk o cc nL pc op && ab_bk o cc nL ty (pc + ab_ln cc pc) ops
