/-! ===== printed by program: the cells, fields, methods ===== -/
def K0 : Nat → Option Kd
  | 0 => some (.inr (.char, 4))
  | 1 => some (.inr (.int, 5))
  | 2 => some (.inr (.int, 16))
  | 3 => some (.inr (.int, 16))
  | 4 => some (.inr (.int, 16))
  | 5 => some (.inr (.int, 16))
  | 7 => some (.inl 11)
  | 8 => some (.inl 9)
  | 9 => some (.inr (.int, 240))
  | 10 => some (.inl 5)
  | 11 => some (.inr (.int, 116))
  | 12 => some (.inr (.int, 4))
  | 13 => some (.inr (.int, 40))
  | 14 => some (.inl 5)
  | 15 => some (.inr (.int, 116))
  | 16 => some (.inr (.int, 4))
  | 17 => some (.inr (.int, 40))
  | 18 => some (.inl 6)
  | 19 => some (.inr (.int, 4))
  | 20 => some (.inl 3)
  | 21 => some (.inr (.int, 1200))
  | 22 => some (.inr (.int, 5))
  | 23 => some (.inr (.int, 64))
  | 24 => some (.inl 2)
  | 25 => some (.inl 4)
  | 26 => some (.inr (.int, 56))
  | 27 => some (.inr (.int, 40))
  | 28 => some (.inr (.int, 8))
  | 29 => some (.inr (.int, 60))
  | 30 => some (.inl 0)
  | 31 => some (.inr (.object "DarkLamps$Moment", 40))
  | 32 => some (.inl 4)
  | 33 => some (.inr (.int, 56))
  | 34 => some (.inr (.int, 40))
  | 35 => some (.inr (.int, 8))
  | 36 => some (.inr (.int, 60))
  | 37 => some (.inl 10)
  | 38 => some (.inr (.int, 8))
  | 39 => some (.inr (.int, 8))
  | 40 => some (.inl 1)
  | 41 => some (.inr (.int, 8))
  | 42 => some (.inl 8)
  | 43 => some (.inr (.int, 40))
  | 44 => some (.inr (.int, 4))
  | 45 => some (.inr (.int, 40))
  | 46 => some (.inr (.int, 32))
  | 47 => some (.inl 7)
  | 48 => some (.inr (.int, 6))
  | 49 => some (.inr (.int, 18))
  | 50 => some (.inr (.int, 18))
  | 51 => some (.inr (.int, 36))
  | 52 => some (.inr (.int, 6))
  | 53 => some (.inl 12)
  | 54 => some (.inr (.int, 240))
  | 55 => some (.inr (.int, 2600))
  | 56 => some (.inr (.int, 2600))
  | 57 => some (.inr (.int, 5))
  | 58 => some (.inr (.int, 5))
  | 59 => some (.inr (.int, 700))
  | 60 => some (.inr (.int, 700))
  | 61 => some (.inr (.int, 700))
  | 62 => some (.inr (.int, 5))
  | 63 => some (.inr (.int, 80))
  | 64 => some (.inr (.int, 4))
  | 65 => some (.inr (.int, 72))
  | 66 => some (.inr (.int, 24))
  | 67 => some (.inr (.int, 4))
  | 68 => some (.inr (.int, 4))
  | 69 => some (.inr (.int, 24))
  | 70 => some (.inr (.int, 320))
  | 71 => some (.inr (.int, 4))
  | 72 => some (.inr (.int, 4))
  | 73 => some (.inr (.int, 12800))
  | 74 => some (.inr (.int, 8))
  | 75 => some (.inr (.int, 40))
  | 76 => some (.inr (.int, 8))
  | 77 => some (.inr (.int, 90))
  | 78 => some (.inr (.int, 90))
  | 79 => some (.inr (.int, 90))
  | 80 => some (.inr (.int, 6))
  | 81 => some (.inr (.int, 10))
  | 82 => some (.inr (.int, 10))
  | 83 => some (.inr (.int, 10))
  | 84 => some (.inr (.int, 10))
  | 85 => some (.inr (.int, 4))
  | 86 => some (.inr (.int, 32))
  | 87 => some (.inr (.boolean, 64))
  | 88 => some (.inr (.boolean, 64))
  | 89 => some (.inr (.int, 320))
  | 90 => some (.inr (.long, 1))
  | _ => none
def R0 : Nat → Nat → Option Nat
  | 7, 0 => some 8
  | 7, 1 => some 10
  | 7, 2 => some 14
  | 7, 3 => some 18
  | 7, 4 => some 20
  | 7, 5 => some 24
  | 7, 6 => some 25
  | 7, 7 => some 30
  | 7, 8 => some 37
  | 7, 9 => some 40
  | 7, 10 => some 42
  | 7, 11 => some 47
  | 8, 0 => some 9
  | 10, 0 => some 11
  | 10, 1 => some 12
  | 10, 2 => some 13
  | 14, 0 => some 15
  | 14, 1 => some 16
  | 14, 2 => some 17
  | 18, 0 => some 8
  | 18, 1 => some 14
  | 18, 2 => some 19
  | 20, 0 => some 21
  | 20, 1 => some 22
  | 20, 2 => some 23
  | 24, 0 => some 8
  | 24, 1 => some 20
  | 25, 0 => some 26
  | 25, 1 => some 27
  | 25, 2 => some 28
  | 25, 3 => some 29
  | 30, 0 => some 25
  | 30, 1 => some 31
  | 30, 2 => some 32
  | 32, 0 => some 33
  | 32, 1 => some 34
  | 32, 2 => some 35
  | 32, 3 => some 36
  | 37, 0 => some 10
  | 37, 1 => some 20
  | 37, 2 => some 25
  | 37, 3 => some 38
  | 37, 4 => some 39
  | 40, 0 => some 10
  | 40, 1 => some 25
  | 40, 2 => some 30
  | 40, 3 => some 37
  | 40, 4 => some 41
  | 42, 0 => some 10
  | 42, 1 => some 25
  | 42, 2 => some 43
  | 42, 3 => some 44
  | 42, 4 => some 45
  | 42, 5 => some 46
  | 47, 0 => some 10
  | 47, 1 => some 37
  | 47, 2 => some 48
  | 47, 3 => some 49
  | 47, 4 => some 50
  | 47, 5 => some 51
  | 47, 6 => some 52
  | 53, 1 => some 54
  | 53, 6 => some 55
  | 53, 7 => some 56
  | 53, 8 => some 57
  | 53, 9 => some 58
  | 53, 10 => some 59
  | 53, 11 => some 60
  | 53, 12 => some 61
  | 53, 15 => some 62
  | 53, 16 => some 63
  | 53, 17 => some 64
  | 53, 18 => some 65
  | 53, 19 => some 66
  | 53, 20 => some 67
  | 53, 24 => some 68
  | 53, 25 => some 69
  | 53, 27 => some 70
  | 53, 28 => some 71
  | 53, 29 => some 72
  | 53, 33 => some 73
  | 53, 36 => some 74
  | 53, 37 => some 75
  | 53, 38 => some 76
  | 53, 39 => some 77
  | 53, 40 => some 78
  | 53, 41 => some 79
  | 53, 42 => some 80
  | 53, 45 => some 81
  | 53, 46 => some 82
  | 53, 47 => some 83
  | 53, 48 => some 84
  | 53, 50 => some 85
  | 53, 51 => some 86
  | 53, 54 => some 87
  | 53, 55 => some 88
  | 53, 56 => some 89
  | _, _ => none
def ownC (i : Nat) : Bool := Nat.ble 7 i && Nat.blt i 53 && !(Nat.beq i 31)
def ownT (i : Nat) : Bool := Nat.ble 53 i && Nat.blt i 90
abbrev VwC (V : Sm → Wd) : Prop := Vw ownC K0 R0 V
abbrev VwT (V : Sm → Wd) : Prop := Vw ownT K0 R0 V
theorem k0_0 : K0 0 = some (.inr (.char, 4)) := rfl
theorem k0_1 : K0 1 = some (.inr (.int, 5)) := rfl
theorem k0_2 : K0 2 = some (.inr (.int, 16)) := rfl
theorem k0_3 : K0 3 = some (.inr (.int, 16)) := rfl
theorem k0_4 : K0 4 = some (.inr (.int, 16)) := rfl
theorem k0_5 : K0 5 = some (.inr (.int, 16)) := rfl
theorem k0_7 : K0 7 = some (.inl 11) := rfl
theorem own_7 : ownC 7 = true := rfl
theorem k0_8 : K0 8 = some (.inl 9) := rfl
theorem own_8 : ownC 8 = true := rfl
theorem k0_9 : K0 9 = some (.inr (.int, 240)) := rfl
theorem own_9 : ownC 9 = true := rfl
theorem k0_10 : K0 10 = some (.inl 5) := rfl
theorem own_10 : ownC 10 = true := rfl
theorem k0_11 : K0 11 = some (.inr (.int, 116)) := rfl
theorem own_11 : ownC 11 = true := rfl
theorem k0_12 : K0 12 = some (.inr (.int, 4)) := rfl
theorem own_12 : ownC 12 = true := rfl
theorem k0_13 : K0 13 = some (.inr (.int, 40)) := rfl
theorem own_13 : ownC 13 = true := rfl
theorem k0_14 : K0 14 = some (.inl 5) := rfl
theorem own_14 : ownC 14 = true := rfl
theorem k0_15 : K0 15 = some (.inr (.int, 116)) := rfl
theorem own_15 : ownC 15 = true := rfl
theorem k0_16 : K0 16 = some (.inr (.int, 4)) := rfl
theorem own_16 : ownC 16 = true := rfl
theorem k0_17 : K0 17 = some (.inr (.int, 40)) := rfl
theorem own_17 : ownC 17 = true := rfl
theorem k0_18 : K0 18 = some (.inl 6) := rfl
theorem own_18 : ownC 18 = true := rfl
theorem k0_19 : K0 19 = some (.inr (.int, 4)) := rfl
theorem own_19 : ownC 19 = true := rfl
theorem k0_20 : K0 20 = some (.inl 3) := rfl
theorem own_20 : ownC 20 = true := rfl
theorem k0_21 : K0 21 = some (.inr (.int, 1200)) := rfl
theorem own_21 : ownC 21 = true := rfl
theorem k0_22 : K0 22 = some (.inr (.int, 5)) := rfl
theorem own_22 : ownC 22 = true := rfl
theorem k0_23 : K0 23 = some (.inr (.int, 64)) := rfl
theorem own_23 : ownC 23 = true := rfl
theorem k0_24 : K0 24 = some (.inl 2) := rfl
theorem own_24 : ownC 24 = true := rfl
theorem k0_25 : K0 25 = some (.inl 4) := rfl
theorem own_25 : ownC 25 = true := rfl
theorem k0_26 : K0 26 = some (.inr (.int, 56)) := rfl
theorem own_26 : ownC 26 = true := rfl
theorem k0_27 : K0 27 = some (.inr (.int, 40)) := rfl
theorem own_27 : ownC 27 = true := rfl
theorem k0_28 : K0 28 = some (.inr (.int, 8)) := rfl
theorem own_28 : ownC 28 = true := rfl
theorem k0_29 : K0 29 = some (.inr (.int, 60)) := rfl
theorem own_29 : ownC 29 = true := rfl
theorem k0_30 : K0 30 = some (.inl 0) := rfl
theorem own_30 : ownC 30 = true := rfl
theorem k0_31 : K0 31 = some (.inr (.object "DarkLamps$Moment", 40)) := rfl
theorem k0_32 : K0 32 = some (.inl 4) := rfl
theorem own_32 : ownC 32 = true := rfl
theorem k0_33 : K0 33 = some (.inr (.int, 56)) := rfl
theorem own_33 : ownC 33 = true := rfl
theorem k0_34 : K0 34 = some (.inr (.int, 40)) := rfl
theorem own_34 : ownC 34 = true := rfl
theorem k0_35 : K0 35 = some (.inr (.int, 8)) := rfl
theorem own_35 : ownC 35 = true := rfl
theorem k0_36 : K0 36 = some (.inr (.int, 60)) := rfl
theorem own_36 : ownC 36 = true := rfl
theorem k0_37 : K0 37 = some (.inl 10) := rfl
theorem own_37 : ownC 37 = true := rfl
theorem k0_38 : K0 38 = some (.inr (.int, 8)) := rfl
theorem own_38 : ownC 38 = true := rfl
theorem k0_39 : K0 39 = some (.inr (.int, 8)) := rfl
theorem own_39 : ownC 39 = true := rfl
theorem k0_40 : K0 40 = some (.inl 1) := rfl
theorem own_40 : ownC 40 = true := rfl
theorem k0_41 : K0 41 = some (.inr (.int, 8)) := rfl
theorem own_41 : ownC 41 = true := rfl
theorem k0_42 : K0 42 = some (.inl 8) := rfl
theorem own_42 : ownC 42 = true := rfl
theorem k0_43 : K0 43 = some (.inr (.int, 40)) := rfl
theorem own_43 : ownC 43 = true := rfl
theorem k0_44 : K0 44 = some (.inr (.int, 4)) := rfl
theorem own_44 : ownC 44 = true := rfl
theorem k0_45 : K0 45 = some (.inr (.int, 40)) := rfl
theorem own_45 : ownC 45 = true := rfl
theorem k0_46 : K0 46 = some (.inr (.int, 32)) := rfl
theorem own_46 : ownC 46 = true := rfl
theorem k0_47 : K0 47 = some (.inl 7) := rfl
theorem own_47 : ownC 47 = true := rfl
theorem k0_48 : K0 48 = some (.inr (.int, 6)) := rfl
theorem own_48 : ownC 48 = true := rfl
theorem k0_49 : K0 49 = some (.inr (.int, 18)) := rfl
theorem own_49 : ownC 49 = true := rfl
theorem k0_50 : K0 50 = some (.inr (.int, 18)) := rfl
theorem own_50 : ownC 50 = true := rfl
theorem k0_51 : K0 51 = some (.inr (.int, 36)) := rfl
theorem own_51 : ownC 51 = true := rfl
theorem k0_52 : K0 52 = some (.inr (.int, 6)) := rfl
theorem own_52 : ownC 52 = true := rfl
theorem k0_53 : K0 53 = some (.inl 12) := rfl
theorem own_53 : ownT 53 = true := rfl
theorem k0_54 : K0 54 = some (.inr (.int, 240)) := rfl
theorem own_54 : ownT 54 = true := rfl
theorem k0_55 : K0 55 = some (.inr (.int, 2600)) := rfl
theorem own_55 : ownT 55 = true := rfl
theorem k0_56 : K0 56 = some (.inr (.int, 2600)) := rfl
theorem own_56 : ownT 56 = true := rfl
theorem k0_57 : K0 57 = some (.inr (.int, 5)) := rfl
theorem own_57 : ownT 57 = true := rfl
theorem k0_58 : K0 58 = some (.inr (.int, 5)) := rfl
theorem own_58 : ownT 58 = true := rfl
theorem k0_59 : K0 59 = some (.inr (.int, 700)) := rfl
theorem own_59 : ownT 59 = true := rfl
theorem k0_60 : K0 60 = some (.inr (.int, 700)) := rfl
theorem own_60 : ownT 60 = true := rfl
theorem k0_61 : K0 61 = some (.inr (.int, 700)) := rfl
theorem own_61 : ownT 61 = true := rfl
theorem k0_62 : K0 62 = some (.inr (.int, 5)) := rfl
theorem own_62 : ownT 62 = true := rfl
theorem k0_63 : K0 63 = some (.inr (.int, 80)) := rfl
theorem own_63 : ownT 63 = true := rfl
theorem k0_64 : K0 64 = some (.inr (.int, 4)) := rfl
theorem own_64 : ownT 64 = true := rfl
theorem k0_65 : K0 65 = some (.inr (.int, 72)) := rfl
theorem own_65 : ownT 65 = true := rfl
theorem k0_66 : K0 66 = some (.inr (.int, 24)) := rfl
theorem own_66 : ownT 66 = true := rfl
theorem k0_67 : K0 67 = some (.inr (.int, 4)) := rfl
theorem own_67 : ownT 67 = true := rfl
theorem k0_68 : K0 68 = some (.inr (.int, 4)) := rfl
theorem own_68 : ownT 68 = true := rfl
theorem k0_69 : K0 69 = some (.inr (.int, 24)) := rfl
theorem own_69 : ownT 69 = true := rfl
theorem k0_70 : K0 70 = some (.inr (.int, 320)) := rfl
theorem own_70 : ownT 70 = true := rfl
theorem k0_71 : K0 71 = some (.inr (.int, 4)) := rfl
theorem own_71 : ownT 71 = true := rfl
theorem k0_72 : K0 72 = some (.inr (.int, 4)) := rfl
theorem own_72 : ownT 72 = true := rfl
theorem k0_73 : K0 73 = some (.inr (.int, 12800)) := rfl
theorem own_73 : ownT 73 = true := rfl
theorem k0_74 : K0 74 = some (.inr (.int, 8)) := rfl
theorem own_74 : ownT 74 = true := rfl
theorem k0_75 : K0 75 = some (.inr (.int, 40)) := rfl
theorem own_75 : ownT 75 = true := rfl
theorem k0_76 : K0 76 = some (.inr (.int, 8)) := rfl
theorem own_76 : ownT 76 = true := rfl
theorem k0_77 : K0 77 = some (.inr (.int, 90)) := rfl
theorem own_77 : ownT 77 = true := rfl
theorem k0_78 : K0 78 = some (.inr (.int, 90)) := rfl
theorem own_78 : ownT 78 = true := rfl
theorem k0_79 : K0 79 = some (.inr (.int, 90)) := rfl
theorem own_79 : ownT 79 = true := rfl
theorem k0_80 : K0 80 = some (.inr (.int, 6)) := rfl
theorem own_80 : ownT 80 = true := rfl
theorem k0_81 : K0 81 = some (.inr (.int, 10)) := rfl
theorem own_81 : ownT 81 = true := rfl
theorem k0_82 : K0 82 = some (.inr (.int, 10)) := rfl
theorem own_82 : ownT 82 = true := rfl
theorem k0_83 : K0 83 = some (.inr (.int, 10)) := rfl
theorem own_83 : ownT 83 = true := rfl
theorem k0_84 : K0 84 = some (.inr (.int, 10)) := rfl
theorem own_84 : ownT 84 = true := rfl
theorem k0_85 : K0 85 = some (.inr (.int, 4)) := rfl
theorem own_85 : ownT 85 = true := rfl
theorem k0_86 : K0 86 = some (.inr (.int, 32)) := rfl
theorem own_86 : ownT 86 = true := rfl
theorem k0_87 : K0 87 = some (.inr (.boolean, 64)) := rfl
theorem own_87 : ownT 87 = true := rfl
theorem k0_88 : K0 88 = some (.inr (.boolean, 64)) := rfl
theorem own_88 : ownT 88 = true := rfl
theorem k0_89 : K0 89 = some (.inr (.int, 320)) := rfl
theorem own_89 : ownT 89 = true := rfl
theorem k0_90 : K0 90 = some (.inr (.long, 1)) := rfl
theorem r0_7_0 : R0 7 0 = some 8 := rfl
theorem r0_7_1 : R0 7 1 = some 10 := rfl
theorem r0_7_2 : R0 7 2 = some 14 := rfl
theorem r0_7_3 : R0 7 3 = some 18 := rfl
theorem r0_7_4 : R0 7 4 = some 20 := rfl
theorem r0_7_5 : R0 7 5 = some 24 := rfl
theorem r0_7_6 : R0 7 6 = some 25 := rfl
theorem r0_7_7 : R0 7 7 = some 30 := rfl
theorem r0_7_8 : R0 7 8 = some 37 := rfl
theorem r0_7_9 : R0 7 9 = some 40 := rfl
theorem r0_7_10 : R0 7 10 = some 42 := rfl
theorem r0_7_11 : R0 7 11 = some 47 := rfl
theorem r0_8_0 : R0 8 0 = some 9 := rfl
theorem r0_10_0 : R0 10 0 = some 11 := rfl
theorem r0_10_1 : R0 10 1 = some 12 := rfl
theorem r0_10_2 : R0 10 2 = some 13 := rfl
theorem r0_14_0 : R0 14 0 = some 15 := rfl
theorem r0_14_1 : R0 14 1 = some 16 := rfl
theorem r0_14_2 : R0 14 2 = some 17 := rfl
theorem r0_18_0 : R0 18 0 = some 8 := rfl
theorem r0_18_1 : R0 18 1 = some 14 := rfl
theorem r0_18_2 : R0 18 2 = some 19 := rfl
theorem r0_20_0 : R0 20 0 = some 21 := rfl
theorem r0_20_1 : R0 20 1 = some 22 := rfl
theorem r0_20_2 : R0 20 2 = some 23 := rfl
theorem r0_24_0 : R0 24 0 = some 8 := rfl
theorem r0_24_1 : R0 24 1 = some 20 := rfl
theorem r0_25_0 : R0 25 0 = some 26 := rfl
theorem r0_25_1 : R0 25 1 = some 27 := rfl
theorem r0_25_2 : R0 25 2 = some 28 := rfl
theorem r0_25_3 : R0 25 3 = some 29 := rfl
theorem r0_30_0 : R0 30 0 = some 25 := rfl
theorem r0_30_1 : R0 30 1 = some 31 := rfl
theorem r0_30_2 : R0 30 2 = some 32 := rfl
theorem r0_32_0 : R0 32 0 = some 33 := rfl
theorem r0_32_1 : R0 32 1 = some 34 := rfl
theorem r0_32_2 : R0 32 2 = some 35 := rfl
theorem r0_32_3 : R0 32 3 = some 36 := rfl
theorem r0_37_0 : R0 37 0 = some 10 := rfl
theorem r0_37_1 : R0 37 1 = some 20 := rfl
theorem r0_37_2 : R0 37 2 = some 25 := rfl
theorem r0_37_3 : R0 37 3 = some 38 := rfl
theorem r0_37_4 : R0 37 4 = some 39 := rfl
theorem r0_40_0 : R0 40 0 = some 10 := rfl
theorem r0_40_1 : R0 40 1 = some 25 := rfl
theorem r0_40_2 : R0 40 2 = some 30 := rfl
theorem r0_40_3 : R0 40 3 = some 37 := rfl
theorem r0_40_4 : R0 40 4 = some 41 := rfl
theorem r0_42_0 : R0 42 0 = some 10 := rfl
theorem r0_42_1 : R0 42 1 = some 25 := rfl
theorem r0_42_2 : R0 42 2 = some 43 := rfl
theorem r0_42_3 : R0 42 3 = some 44 := rfl
theorem r0_42_4 : R0 42 4 = some 45 := rfl
theorem r0_42_5 : R0 42 5 = some 46 := rfl
theorem r0_47_0 : R0 47 0 = some 10 := rfl
theorem r0_47_1 : R0 47 1 = some 37 := rfl
theorem r0_47_2 : R0 47 2 = some 48 := rfl
theorem r0_47_3 : R0 47 3 = some 49 := rfl
theorem r0_47_4 : R0 47 4 = some 50 := rfl
theorem r0_47_5 : R0 47 5 = some 51 := rfl
theorem r0_47_6 : R0 47 6 = some 52 := rfl
theorem r0_53_1 : R0 53 1 = some 54 := rfl
theorem r0_53_6 : R0 53 6 = some 55 := rfl
theorem r0_53_7 : R0 53 7 = some 56 := rfl
theorem r0_53_8 : R0 53 8 = some 57 := rfl
theorem r0_53_9 : R0 53 9 = some 58 := rfl
theorem r0_53_10 : R0 53 10 = some 59 := rfl
theorem r0_53_11 : R0 53 11 = some 60 := rfl
theorem r0_53_12 : R0 53 12 = some 61 := rfl
theorem r0_53_15 : R0 53 15 = some 62 := rfl
theorem r0_53_16 : R0 53 16 = some 63 := rfl
theorem r0_53_17 : R0 53 17 = some 64 := rfl
theorem r0_53_18 : R0 53 18 = some 65 := rfl
theorem r0_53_19 : R0 53 19 = some 66 := rfl
theorem r0_53_20 : R0 53 20 = some 67 := rfl
theorem r0_53_24 : R0 53 24 = some 68 := rfl
theorem r0_53_25 : R0 53 25 = some 69 := rfl
theorem r0_53_27 : R0 53 27 = some 70 := rfl
theorem r0_53_28 : R0 53 28 = some 71 := rfl
theorem r0_53_29 : R0 53 29 = some 72 := rfl
theorem r0_53_33 : R0 53 33 = some 73 := rfl
theorem r0_53_36 : R0 53 36 = some 74 := rfl
theorem r0_53_37 : R0 53 37 = some 75 := rfl
theorem r0_53_38 : R0 53 38 = some 76 := rfl
theorem r0_53_39 : R0 53 39 = some 77 := rfl
theorem r0_53_40 : R0 53 40 = some 78 := rfl
theorem r0_53_41 : R0 53 41 = some 79 := rfl
theorem r0_53_42 : R0 53 42 = some 80 := rfl
theorem r0_53_45 : R0 53 45 = some 81 := rfl
theorem r0_53_46 : R0 53 46 = some 82 := rfl
theorem r0_53_47 : R0 53 47 = some 83 := rfl
theorem r0_53_48 : R0 53 48 = some 84 := rfl
theorem r0_53_50 : R0 53 50 = some 85 := rfl
theorem r0_53_51 : R0 53 51 = some 86 := rfl
theorem r0_53_54 : R0 53 54 = some 87 := rfl
theorem r0_53_55 : R0 53 55 = some 88 := rfl
theorem r0_53_56 : R0 53 56 = some 89 := rfl
theorem fo_11_0 : FOK RX11 TX11 12 10 11 0 := ⟨rfl, by decide, inX11, fK_X11_10, tyX11_ok, nmX11, rfl⟩
theorem fo_11_1 : FOK RX11 TX11 12 19 11 1 := ⟨rfl, by decide, inX11, fK_X11_19, tyX11_ok, nmX11, rfl⟩
theorem fo_11_2 : FOK RX11 TX11 12 23 11 2 := ⟨rfl, by decide, inX11, fK_X11_23, tyX11_ok, nmX11, rfl⟩
theorem fo_11_3 : FOK RX11 TX11 12 31 11 3 := ⟨rfl, by decide, inX11, fK_X11_31, tyX11_ok, nmX11, rfl⟩
theorem fo_11_4 : FOK RX11 TX11 12 38 11 4 := ⟨rfl, by decide, inX11, fK_X11_38, tyX11_ok, nmX11, rfl⟩
theorem fo_11_5 : FOK RX11 TX11 12 47 11 5 := ⟨rfl, by decide, inX11, fK_X11_47, tyX11_ok, nmX11, rfl⟩
theorem fo_11_6 : FOK RX11 TX11 12 54 11 6 := ⟨rfl, by decide, inX11, fK_X11_54, tyX11_ok, nmX11, rfl⟩
theorem fo_11_7 : FOK RX11 TX11 12 63 11 7 := ⟨rfl, by decide, inX11, fK_X11_63, tyX11_ok, nmX11, rfl⟩
theorem fo_11_8 : FOK RX11 TX11 12 72 11 8 := ⟨rfl, by decide, inX11, fK_X11_72, tyX11_ok, nmX11, rfl⟩
theorem fo_11_9 : FOK RX11 TX11 12 81 11 9 := ⟨rfl, by decide, inX11, fK_X11_81, tyX11_ok, nmX11, rfl⟩
theorem fo_11_10 : FOK RX11 TX11 12 90 11 10 := ⟨rfl, by decide, inX11, fK_X11_90, tyX11_ok, nmX11, rfl⟩
theorem fo_11_11 : FOK RX11 TX11 12 99 11 11 := ⟨rfl, by decide, inX11, fK_X11_99, tyX11_ok, nmX11, rfl⟩
theorem fo_9_0 : FOK RX9 TX9 4 11 9 0 := ⟨rfl, by decide, inX9, fK_X9_11, tyX9_ok, nmX9, rfl⟩
theorem fo_9_1 : FOK RX9 TX9 4 15 9 1 := ⟨rfl, by decide, inX9, fK_X9_15, tyX9_ok, nmX9, rfl⟩
theorem fo_9_2 : FOK RX9 TX9 4 19 9 2 := ⟨rfl, by decide, inX9, fK_X9_19, tyX9_ok, nmX9, rfl⟩
theorem fo_9_3 : FOK RX9 TX9 4 22 9 3 := ⟨rfl, by decide, inX9, fK_X9_22, tyX9_ok, nmX9, rfl⟩
theorem fo_5_0 : FOK RX5 TX5 3 11 5 0 := ⟨rfl, by decide, inX5, fK_X5_11, tyX5_ok, nmX5, rfl⟩
theorem fo_5_1 : FOK RX5 TX5 3 15 5 1 := ⟨rfl, by decide, inX5, fK_X5_15, tyX5_ok, nmX5, rfl⟩
theorem fo_5_2 : FOK RX5 TX5 3 18 5 2 := ⟨rfl, by decide, inX5, fK_X5_18, tyX5_ok, nmX5, rfl⟩
theorem fo_6_0 : FOK RX6 TX6 3 17 6 0 := ⟨rfl, by decide, inX6, fK_X6_17, tyX6_ok, nmX6, rfl⟩
theorem fo_6_1 : FOK RX6 TX6 3 21 6 1 := ⟨rfl, by decide, inX6, fK_X6_21, tyX6_ok, nmX6, rfl⟩
theorem fo_6_2 : FOK RX6 TX6 3 11 6 2 := ⟨rfl, by decide, inX6, fK_X6_11, tyX6_ok, nmX6, rfl⟩
theorem fo_3_0 : FOK RX3 TX3 6 13 3 0 := ⟨rfl, by decide, inX3, fK_X3_13, tyX3_ok, nmX3, rfl⟩
theorem fo_3_1 : FOK RX3 TX3 6 17 3 1 := ⟨rfl, by decide, inX3, fK_X3_17, tyX3_ok, nmX3, rfl⟩
theorem fo_3_2 : FOK RX3 TX3 6 20 3 2 := ⟨rfl, by decide, inX3, fK_X3_20, tyX3_ok, nmX3, rfl⟩
theorem fo_3_3 : FOK RX3 TX3 6 23 3 3 := ⟨rfl, by decide, inX3, fK_X3_23, tyX3_ok, nmX3, rfl⟩
theorem fo_3_4 : FOK RX3 TX3 6 27 3 4 := ⟨rfl, by decide, inX3, fK_X3_27, tyX3_ok, nmX3, rfl⟩
theorem fo_3_5 : FOK RX3 TX3 6 30 3 5 := ⟨rfl, by decide, inX3, fK_X3_30, tyX3_ok, nmX3, rfl⟩
theorem fo_2_0 : FOK RX2 TX2 2 7 2 0 := ⟨rfl, by decide, inX2, fK_X2_7, tyX2_ok, nmX2, rfl⟩
theorem fo_2_1 : FOK RX2 TX2 2 13 2 1 := ⟨rfl, by decide, inX2, fK_X2_13, tyX2_ok, nmX2, rfl⟩
theorem fo_4_0 : FOK RX4 TX4 8 11 4 0 := ⟨rfl, by decide, inX4, fK_X4_11, tyX4_ok, nmX4, rfl⟩
theorem fo_4_1 : FOK RX4 TX4 8 15 4 1 := ⟨rfl, by decide, inX4, fK_X4_15, tyX4_ok, nmX4, rfl⟩
theorem fo_4_2 : FOK RX4 TX4 8 18 4 2 := ⟨rfl, by decide, inX4, fK_X4_18, tyX4_ok, nmX4, rfl⟩
theorem fo_4_3 : FOK RX4 TX4 8 21 4 3 := ⟨rfl, by decide, inX4, fK_X4_21, tyX4_ok, nmX4, rfl⟩
theorem fo_4_4 : FOK RX4 TX4 8 24 4 4 := ⟨rfl, by decide, inX4, fK_X4_24, tyX4_ok, nmX4, rfl⟩
theorem fo_4_5 : FOK RX4 TX4 8 28 4 5 := ⟨rfl, by decide, inX4, fK_X4_28, tyX4_ok, nmX4, rfl⟩
theorem fo_4_6 : FOK RX4 TX4 8 31 4 6 := ⟨rfl, by decide, inX4, fK_X4_31, tyX4_ok, nmX4, rfl⟩
theorem fo_4_7 : FOK RX4 TX4 8 34 4 7 := ⟨rfl, by decide, inX4, fK_X4_34, tyX4_ok, nmX4, rfl⟩
theorem fo_0_0 : FOK RX0 TX0 6 33 0 0 := ⟨rfl, by decide, inX0, fK_X0_33, tyX0_ok, nmX0, rfl⟩
theorem fo_0_1 : FOK RX0 TX0 6 13 0 1 := ⟨rfl, by decide, inX0, fK_X0_13, tyX0_ok, nmX0, rfl⟩
theorem fo_0_2 : FOK RX0 TX0 6 18 0 2 := ⟨rfl, by decide, inX0, fK_X0_18, tyX0_ok, nmX0, rfl⟩
theorem fo_0_3 : FOK RX0 TX0 6 22 0 3 := ⟨rfl, by decide, inX0, fK_X0_22, tyX0_ok, nmX0, rfl⟩
theorem fo_0_4 : FOK RX0 TX0 6 26 0 4 := ⟨rfl, by decide, inX0, fK_X0_26, tyX0_ok, nmX0, rfl⟩
theorem fo_0_5 : FOK RX0 TX0 6 30 0 5 := ⟨rfl, by decide, inX0, fK_X0_30, tyX0_ok, nmX0, rfl⟩
theorem fo_10_0 : FOK RX10 TX10 5 18 10 0 := ⟨rfl, by decide, inX10, fK_X10_18, tyX10_ok, nmX10, rfl⟩
theorem fo_10_1 : FOK RX10 TX10 5 22 10 1 := ⟨rfl, by decide, inX10, fK_X10_22, tyX10_ok, nmX10, rfl⟩
theorem fo_10_2 : FOK RX10 TX10 5 26 10 2 := ⟨rfl, by decide, inX10, fK_X10_26, tyX10_ok, nmX10, rfl⟩
theorem fo_10_3 : FOK RX10 TX10 5 9 10 3 := ⟨rfl, by decide, inX10, fK_X10_9, tyX10_ok, nmX10, rfl⟩
theorem fo_10_4 : FOK RX10 TX10 5 15 10 4 := ⟨rfl, by decide, inX10, fK_X10_15, tyX10_ok, nmX10, rfl⟩
theorem fo_1_0 : FOK RX1 TX1 7 23 1 0 := ⟨rfl, by decide, inX1, fK_X1_23, tyX1_ok, nmX1, rfl⟩
theorem fo_1_1 : FOK RX1 TX1 7 27 1 1 := ⟨rfl, by decide, inX1, fK_X1_27, tyX1_ok, nmX1, rfl⟩
theorem fo_1_2 : FOK RX1 TX1 7 31 1 2 := ⟨rfl, by decide, inX1, fK_X1_31, tyX1_ok, nmX1, rfl⟩
theorem fo_1_3 : FOK RX1 TX1 7 35 1 3 := ⟨rfl, by decide, inX1, fK_X1_35, tyX1_ok, nmX1, rfl⟩
theorem fo_1_4 : FOK RX1 TX1 7 9 1 4 := ⟨rfl, by decide, inX1, fK_X1_9, tyX1_ok, nmX1, rfl⟩
theorem fo_1_5 : FOK RX1 TX1 7 15 1 5 := ⟨rfl, by decide, inX1, fK_X1_15, tyX1_ok, nmX1, rfl⟩
theorem fo_1_6 : FOK RX1 TX1 7 19 1 6 := ⟨rfl, by decide, inX1, fK_X1_19, tyX1_ok, nmX1, rfl⟩
theorem fo_8_0 : FOK RX8 TX8 8 31 8 0 := ⟨rfl, by decide, inX8, fK_X8_31, tyX8_ok, nmX8, rfl⟩
theorem fo_8_1 : FOK RX8 TX8 8 35 8 1 := ⟨rfl, by decide, inX8, fK_X8_35, tyX8_ok, nmX8, rfl⟩
theorem fo_8_2 : FOK RX8 TX8 8 11 8 2 := ⟨rfl, by decide, inX8, fK_X8_11, tyX8_ok, nmX8, rfl⟩
theorem fo_8_3 : FOK RX8 TX8 8 15 8 3 := ⟨rfl, by decide, inX8, fK_X8_15, tyX8_ok, nmX8, rfl⟩
theorem fo_8_4 : FOK RX8 TX8 8 18 8 4 := ⟨rfl, by decide, inX8, fK_X8_18, tyX8_ok, nmX8, rfl⟩
theorem fo_8_5 : FOK RX8 TX8 8 21 8 5 := ⟨rfl, by decide, inX8, fK_X8_21, tyX8_ok, nmX8, rfl⟩
theorem fo_8_6 : FOK RX8 TX8 8 24 8 6 := ⟨rfl, by decide, inX8, fK_X8_24, tyX8_ok, nmX8, rfl⟩
theorem fo_8_7 : FOK RX8 TX8 8 28 8 7 := ⟨rfl, by decide, inX8, fK_X8_28, tyX8_ok, nmX8, rfl⟩
theorem fo_7_0 : FOK RX7 TX7 9 34 7 0 := ⟨rfl, by decide, inX7, fK_X7_34, tyX7_ok, nmX7, rfl⟩
theorem fo_7_1 : FOK RX7 TX7 9 38 7 1 := ⟨rfl, by decide, inX7, fK_X7_38, tyX7_ok, nmX7, rfl⟩
theorem fo_7_2 : FOK RX7 TX7 9 11 7 2 := ⟨rfl, by decide, inX7, fK_X7_11, tyX7_ok, nmX7, rfl⟩
theorem fo_7_3 : FOK RX7 TX7 9 15 7 3 := ⟨rfl, by decide, inX7, fK_X7_15, tyX7_ok, nmX7, rfl⟩
theorem fo_7_4 : FOK RX7 TX7 9 18 7 4 := ⟨rfl, by decide, inX7, fK_X7_18, tyX7_ok, nmX7, rfl⟩
theorem fo_7_5 : FOK RX7 TX7 9 21 7 5 := ⟨rfl, by decide, inX7, fK_X7_21, tyX7_ok, nmX7, rfl⟩
theorem fo_7_6 : FOK RX7 TX7 9 24 7 6 := ⟨rfl, by decide, inX7, fK_X7_24, tyX7_ok, nmX7, rfl⟩
theorem fo_7_7 : FOK RX7 TX7 9 27 7 7 := ⟨rfl, by decide, inX7, fK_X7_27, tyX7_ok, nmX7, rfl⟩
theorem fo_7_8 : FOK RX7 TX7 9 31 7 8 := ⟨rfl, by decide, inX7, fK_X7_31, tyX7_ok, nmX7, rfl⟩
theorem fo_12_0 : FOK RX12 TX12 58 123 12 0 := ⟨rfl, by decide, inX12, fK_X12_123, tyX12_ok, nmX12, rfl⟩
theorem fo_12_1 : FOK RX12 TX12 58 9 12 1 := ⟨rfl, by decide, inX12, fK_X12_9, tyX12_ok, nmX12, rfl⟩
theorem fo_12_2 : FOK RX12 TX12 58 130 12 2 := ⟨rfl, by decide, inX12, fK_X12_130, tyX12_ok, nmX12, rfl⟩
theorem fo_12_3 : FOK RX12 TX12 58 133 12 3 := ⟨rfl, by decide, inX12, fK_X12_133, tyX12_ok, nmX12, rfl⟩
theorem fo_12_4 : FOK RX12 TX12 58 140 12 4 := ⟨rfl, by decide, inX12, fK_X12_140, tyX12_ok, nmX12, rfl⟩
theorem fo_12_5 : FOK RX12 TX12 58 146 12 5 := ⟨rfl, by decide, inX12, fK_X12_146, tyX12_ok, nmX12, rfl⟩
theorem fo_12_6 : FOK RX12 TX12 58 13 12 6 := ⟨rfl, by decide, inX12, fK_X12_13, tyX12_ok, nmX12, rfl⟩
theorem fo_12_7 : FOK RX12 TX12 58 16 12 7 := ⟨rfl, by decide, inX12, fK_X12_16, tyX12_ok, nmX12, rfl⟩
theorem fo_12_8 : FOK RX12 TX12 58 19 12 8 := ⟨rfl, by decide, inX12, fK_X12_19, tyX12_ok, nmX12, rfl⟩
theorem fo_12_9 : FOK RX12 TX12 58 22 12 9 := ⟨rfl, by decide, inX12, fK_X12_22, tyX12_ok, nmX12, rfl⟩
theorem fo_12_10 : FOK RX12 TX12 58 25 12 10 := ⟨rfl, by decide, inX12, fK_X12_25, tyX12_ok, nmX12, rfl⟩
theorem fo_12_11 : FOK RX12 TX12 58 28 12 11 := ⟨rfl, by decide, inX12, fK_X12_28, tyX12_ok, nmX12, rfl⟩
theorem fo_12_12 : FOK RX12 TX12 58 31 12 12 := ⟨rfl, by decide, inX12, fK_X12_31, tyX12_ok, nmX12, rfl⟩
theorem fo_12_13 : FOK RX12 TX12 58 314 12 13 := ⟨rfl, by decide, inX12, fK_X12_314, tyX12_ok, nmX12, rfl⟩
theorem fo_12_14 : FOK RX12 TX12 58 143 12 14 := ⟨rfl, by decide, inX12, fK_X12_143, tyX12_ok, nmX12, rfl⟩
theorem fo_12_15 : FOK RX12 TX12 58 34 12 15 := ⟨rfl, by decide, inX12, fK_X12_34, tyX12_ok, nmX12, rfl⟩
theorem fo_12_16 : FOK RX12 TX12 58 37 12 16 := ⟨rfl, by decide, inX12, fK_X12_37, tyX12_ok, nmX12, rfl⟩
theorem fo_12_17 : FOK RX12 TX12 58 40 12 17 := ⟨rfl, by decide, inX12, fK_X12_40, tyX12_ok, nmX12, rfl⟩
theorem fo_12_18 : FOK RX12 TX12 58 43 12 18 := ⟨rfl, by decide, inX12, fK_X12_43, tyX12_ok, nmX12, rfl⟩
theorem fo_12_19 : FOK RX12 TX12 58 46 12 19 := ⟨rfl, by decide, inX12, fK_X12_46, tyX12_ok, nmX12, rfl⟩
theorem fo_12_20 : FOK RX12 TX12 58 49 12 20 := ⟨rfl, by decide, inX12, fK_X12_49, tyX12_ok, nmX12, rfl⟩
theorem fo_12_21 : FOK RX12 TX12 58 262 12 21 := ⟨rfl, by decide, inX12, fK_X12_262, tyX12_ok, nmX12, rfl⟩
theorem fo_12_22 : FOK RX12 TX12 58 265 12 22 := ⟨rfl, by decide, inX12, fK_X12_265, tyX12_ok, nmX12, rfl⟩
theorem fo_12_23 : FOK RX12 TX12 58 268 12 23 := ⟨rfl, by decide, inX12, fK_X12_268, tyX12_ok, nmX12, rfl⟩
theorem fo_12_24 : FOK RX12 TX12 58 52 12 24 := ⟨rfl, by decide, inX12, fK_X12_52, tyX12_ok, nmX12, rfl⟩
theorem fo_12_25 : FOK RX12 TX12 58 55 12 25 := ⟨rfl, by decide, inX12, fK_X12_55, tyX12_ok, nmX12, rfl⟩
theorem fo_12_26 : FOK RX12 TX12 58 294 12 26 := ⟨rfl, by decide, inX12, fK_X12_294, tyX12_ok, nmX12, rfl⟩
theorem fo_12_27 : FOK RX12 TX12 58 58 12 27 := ⟨rfl, by decide, inX12, fK_X12_58, tyX12_ok, nmX12, rfl⟩
theorem fo_12_28 : FOK RX12 TX12 58 61 12 28 := ⟨rfl, by decide, inX12, fK_X12_61, tyX12_ok, nmX12, rfl⟩
theorem fo_12_29 : FOK RX12 TX12 58 64 12 29 := ⟨rfl, by decide, inX12, fK_X12_64, tyX12_ok, nmX12, rfl⟩
theorem fo_12_30 : FOK RX12 TX12 58 285 12 30 := ⟨rfl, by decide, inX12, fK_X12_285, tyX12_ok, nmX12, rfl⟩
theorem fo_12_31 : FOK RX12 TX12 58 67 12 31 := ⟨rfl, by decide, inX12, fK_X12_67, tyX12_ok, nmX12, rfl⟩
theorem fo_12_32 : FOK RX12 TX12 58 379 12 32 := ⟨rfl, by decide, inX12, fK_X12_379, tyX12_ok, nmX12, rfl⟩
theorem fo_12_33 : FOK RX12 TX12 58 71 12 33 := ⟨rfl, by decide, inX12, fK_X12_71, tyX12_ok, nmX12, rfl⟩
theorem fo_12_34 : FOK RX12 TX12 58 304 12 34 := ⟨rfl, by decide, inX12, fK_X12_304, tyX12_ok, nmX12, rfl⟩
theorem fo_12_35 : FOK RX12 TX12 58 358 12 35 := ⟨rfl, by decide, inX12, fK_X12_358, tyX12_ok, nmX12, rfl⟩
theorem fo_12_36 : FOK RX12 TX12 58 74 12 36 := ⟨rfl, by decide, inX12, fK_X12_74, tyX12_ok, nmX12, rfl⟩
theorem fo_12_37 : FOK RX12 TX12 58 77 12 37 := ⟨rfl, by decide, inX12, fK_X12_77, tyX12_ok, nmX12, rfl⟩
theorem fo_12_38 : FOK RX12 TX12 58 80 12 38 := ⟨rfl, by decide, inX12, fK_X12_80, tyX12_ok, nmX12, rfl⟩
theorem fo_12_39 : FOK RX12 TX12 58 83 12 39 := ⟨rfl, by decide, inX12, fK_X12_83, tyX12_ok, nmX12, rfl⟩
theorem fo_12_40 : FOK RX12 TX12 58 86 12 40 := ⟨rfl, by decide, inX12, fK_X12_86, tyX12_ok, nmX12, rfl⟩
theorem fo_12_41 : FOK RX12 TX12 58 89 12 41 := ⟨rfl, by decide, inX12, fK_X12_89, tyX12_ok, nmX12, rfl⟩
theorem fo_12_42 : FOK RX12 TX12 58 92 12 42 := ⟨rfl, by decide, inX12, fK_X12_92, tyX12_ok, nmX12, rfl⟩
theorem fo_12_43 : FOK RX12 TX12 58 423 12 43 := ⟨rfl, by decide, inX12, fK_X12_423, tyX12_ok, nmX12, rfl⟩
theorem fo_12_44 : FOK RX12 TX12 58 426 12 44 := ⟨rfl, by decide, inX12, fK_X12_426, tyX12_ok, nmX12, rfl⟩
theorem fo_12_45 : FOK RX12 TX12 58 95 12 45 := ⟨rfl, by decide, inX12, fK_X12_95, tyX12_ok, nmX12, rfl⟩
theorem fo_12_46 : FOK RX12 TX12 58 98 12 46 := ⟨rfl, by decide, inX12, fK_X12_98, tyX12_ok, nmX12, rfl⟩
theorem fo_12_47 : FOK RX12 TX12 58 101 12 47 := ⟨rfl, by decide, inX12, fK_X12_101, tyX12_ok, nmX12, rfl⟩
theorem fo_12_48 : FOK RX12 TX12 58 104 12 48 := ⟨rfl, by decide, inX12, fK_X12_104, tyX12_ok, nmX12, rfl⟩
theorem fo_12_49 : FOK RX12 TX12 58 301 12 49 := ⟨rfl, by decide, inX12, fK_X12_301, tyX12_ok, nmX12, rfl⟩
theorem fo_12_50 : FOK RX12 TX12 58 107 12 50 := ⟨rfl, by decide, inX12, fK_X12_107, tyX12_ok, nmX12, rfl⟩
theorem fo_12_51 : FOK RX12 TX12 58 110 12 51 := ⟨rfl, by decide, inX12, fK_X12_110, tyX12_ok, nmX12, rfl⟩
theorem fo_12_52 : FOK RX12 TX12 58 445 12 52 := ⟨rfl, by decide, inX12, fK_X12_445, tyX12_ok, nmX12, rfl⟩
theorem fo_12_53 : FOK RX12 TX12 58 448 12 53 := ⟨rfl, by decide, inX12, fK_X12_448, tyX12_ok, nmX12, rfl⟩
theorem fo_12_54 : FOK RX12 TX12 58 113 12 54 := ⟨rfl, by decide, inX12, fK_X12_113, tyX12_ok, nmX12, rfl⟩
theorem fo_12_55 : FOK RX12 TX12 58 117 12 55 := ⟨rfl, by decide, inX12, fK_X12_117, tyX12_ok, nmX12, rfl⟩
theorem fo_12_56 : FOK RX12 TX12 58 120 12 56 := ⟨rfl, by decide, inX12, fK_X12_120, tyX12_ok, nmX12, rfl⟩
theorem fo_12_57 : FOK RX12 TX12 58 307 12 57 := ⟨rfl, by decide, inX12, fK_X12_307, tyX12_ok, nmX12, rfl⟩
abbrev mX11_init : Mt := (yX11_init, cX11_init, 1, (none : Option Jvm.ClassFile.FieldType))
theorem mf_X11_init : MfS mX11_init 0 := ⟨cO_X11_init, iN_X11, ⟨by decide +kernel, by decide +kernel⟩, by decide +kernel⟩
abbrev mX9_init : Mt := (yX9_init, cX9_init, 1, (none : Option Jvm.ClassFile.FieldType))
theorem mf_X9_init : MfS mX9_init 0 := ⟨cO_X9_init, iN_X9, ⟨by decide +kernel, by decide +kernel⟩, by decide +kernel⟩
abbrev mX5_init : Mt := (yX5_init, cX5_init, 1, (none : Option Jvm.ClassFile.FieldType))
theorem mf_X5_init : MfS mX5_init 0 := ⟨cO_X5_init, iN_X5, ⟨by decide +kernel, by decide +kernel⟩, by decide +kernel⟩
abbrev mX6_init : Mt := (yX6_init, cX6_init, 3, (none : Option Jvm.ClassFile.FieldType))
theorem mf_X6_init : MfS mX6_init 2 := ⟨cO_X6_init, iN_X6, ⟨by decide +kernel, by decide +kernel⟩, by decide +kernel⟩
abbrev mX3_init : Mt := (yX3_init, cX3_init, 1, (none : Option Jvm.ClassFile.FieldType))
theorem mf_X3_init : MfS mX3_init 0 := ⟨cO_X3_init, iN_X3, ⟨by decide +kernel, by decide +kernel⟩, by decide +kernel⟩
abbrev mX2_init : Mt := (yX2_init, cX2_init, 3, (none : Option Jvm.ClassFile.FieldType))
theorem mf_X2_init : MfS mX2_init 2 := ⟨cO_X2_init, iN_X2, ⟨by decide +kernel, by decide +kernel⟩, by decide +kernel⟩
abbrev mX4_init : Mt := (yX4_init, cX4_init, 1, (none : Option Jvm.ClassFile.FieldType))
theorem mf_X4_init : MfS mX4_init 0 := ⟨cO_X4_init, iN_X4, ⟨by decide +kernel, by decide +kernel⟩, by decide +kernel⟩
abbrev mX0_init : Mt := (yX0_init, cX0_init, 2, (none : Option Jvm.ClassFile.FieldType))
theorem mf_X0_init : MfS mX0_init 1 := ⟨cO_X0_init, iN_X0, ⟨by decide +kernel, by decide +kernel⟩, by decide +kernel⟩
abbrev mX10_init : Mt := (yX10_init, cX10_init, 4, (none : Option Jvm.ClassFile.FieldType))
theorem mf_X10_init : MfS mX10_init 3 := ⟨cO_X10_init, iN_X10, ⟨by decide +kernel, by decide +kernel⟩, by decide +kernel⟩
abbrev mX1_init : Mt := (yX1_init, cX1_init, 5, (none : Option Jvm.ClassFile.FieldType))
theorem mf_X1_init : MfS mX1_init 4 := ⟨cO_X1_init, iN_X1, ⟨by decide +kernel, by decide +kernel⟩, by decide +kernel⟩
abbrev mX8_init : Mt := (yX8_init, cX8_init, 3, (none : Option Jvm.ClassFile.FieldType))
theorem mf_X8_init : MfS mX8_init 2 := ⟨cO_X8_init, iN_X8, ⟨by decide +kernel, by decide +kernel⟩, by decide +kernel⟩
abbrev mX7_init : Mt := (yX7_init, cX7_init, 3, (none : Option Jvm.ClassFile.FieldType))
theorem mf_X7_init : MfS mX7_init 2 := ⟨cO_X7_init, iN_X7, ⟨by decide +kernel, by decide +kernel⟩, by decide +kernel⟩
abbrev mX11_feed : Mt := (yX11_feed, cX11_feed, 6, (some .int))
theorem mf_X11_feed : MfV mX11_feed 5 := ⟨⟨cO_X11_feed, iN_X11, ⟨by decide +kernel, by decide +kernel⟩, by decide +kernel⟩, iM_X11_feed, sE_X11_feed⟩
abbrev mX9_add : Mt := (yX9_add, cX9_add, 7, (some .boolean))
theorem mf_X9_add : MfV mX9_add 5 := ⟨⟨cO_X9_add, iN_X9, ⟨by decide +kernel, by decide +kernel⟩, by decide +kernel⟩, iM_X9_add, sE_X9_add⟩
abbrev mX9_bytesIn : Mt := (yX9_bytesIn, cX9_bytesIn, 3, (some .int))
theorem mf_X9_bytesIn : MfT mX9_bytesIn 1 := ⟨⟨cO_X9_bytesIn, iN_X9, ⟨by decide +kernel, by decide +kernel⟩, by decide +kernel⟩, sT_X9_bytesIn⟩
abbrev mX9_append : Mt := (yX9_append, cX9_append, 4, (none : Option Jvm.ClassFile.FieldType))
theorem mf_X9_append : MfV mX9_append 1 := ⟨⟨cO_X9_append, iN_X9, ⟨by decide +kernel, by decide +kernel⟩, by decide +kernel⟩, iM_X9_append, sE_X9_append⟩
abbrev mX11_put : Mt := (yX11_put, cX11_put, 3, (none : Option Jvm.ClassFile.FieldType))
theorem mf_X11_put : MfT mX11_put 3 := ⟨⟨cO_X11_put, iN_X11, ⟨by decide +kernel, by decide +kernel⟩, by decide +kernel⟩, sT_X11_put⟩
abbrev mX9_size : Mt := (yX9_size, cX9_size, 1, (some .int))
theorem mf_X9_size : MfV mX9_size 0 := ⟨⟨cO_X9_size, iN_X9, ⟨by decide +kernel, by decide +kernel⟩, by decide +kernel⟩, iM_X9_size, sE_X9_size⟩
abbrev mX11_end : Mt := (yX11_end, cX11_end, 2, (some .boolean))
theorem mf_X11_end : MfV mX11_end 1 := ⟨⟨cO_X11_end, iN_X11, ⟨by decide +kernel, by decide +kernel⟩, by decide +kernel⟩, iM_X11_end, sE_X11_end⟩
abbrev mX9_cut : Mt := (yX9_cut, cX9_cut, 2, (some .boolean))
theorem mf_X9_cut : MfV mX9_cut 1 := ⟨⟨cO_X9_cut, iN_X9, ⟨by decide +kernel, by decide +kernel⟩, by decide +kernel⟩, iM_X9_cut, sE_X9_cut⟩
abbrev mX11_fault : Mt := (yX11_fault, cX11_fault, 2, (some .int))
theorem mf_X11_fault : MfV mX11_fault 1 := ⟨⟨cO_X11_fault, iN_X11, ⟨by decide +kernel, by decide +kernel⟩, by decide +kernel⟩, iM_X11_fault, sE_X11_fault⟩
abbrev mX6_firstFault : Mt := (yX6_firstFault, cX6_firstFault, 3, (some .int))
theorem mf_X6_firstFault : MfV mX6_firstFault 0 := ⟨⟨cO_X6_firstFault, iN_X6, ⟨by decide +kernel, by decide +kernel⟩, by decide +kernel⟩, iM_X6_firstFault, sE_X6_firstFault⟩
abbrev mX9_rewind : Mt := (yX9_rewind, cX9_rewind, 1, (none : Option Jvm.ClassFile.FieldType))
theorem mf_X9_rewind : MfV mX9_rewind 0 := ⟨⟨cO_X9_rewind, iN_X9, ⟨by decide +kernel, by decide +kernel⟩, by decide +kernel⟩, iM_X9_rewind, sE_X9_rewind⟩
abbrev mX5_empty : Mt := (yX5_empty, cX5_empty, 2, (none : Option Jvm.ClassFile.FieldType))
theorem mf_X5_empty : MfV mX5_empty 0 := ⟨⟨cO_X5_empty, iN_X5, ⟨by decide +kernel, by decide +kernel⟩, by decide +kernel⟩, iM_X5_empty, sE_X5_empty⟩
abbrev mX6_readClause : Mt := (yX6_readClause, cX6_readClause, 3, (none : Option Jvm.ClassFile.FieldType))
theorem mf_X6_readClause : MfV mX6_readClause 0 := ⟨⟨cO_X6_readClause, iN_X6, ⟨by decide +kernel, by decide +kernel⟩, by decide +kernel⟩, iM_X6_readClause, sE_X6_readClause⟩
abbrev mX9_sign : Mt := (yX9_sign, cX9_sign, 2, (some .int))
theorem mf_X9_sign : MfV mX9_sign 0 := ⟨⟨cO_X9_sign, iN_X9, ⟨by decide +kernel, by decide +kernel⟩, by decide +kernel⟩, iM_X9_sign, sE_X9_sign⟩
abbrev mJ9_min_7cf53 : Mt := (yJ9_min_7cf53, cJ9_min_7cf53, 2, (some .int))
theorem mf_J9_min_7cf53 : MfT mJ9_min_7cf53 2 := ⟨⟨cO_J9_min_7cf53, iN_J9, ⟨by decide +kernel, by decide +kernel⟩, by decide +kernel⟩, sT_J9_min_7cf53⟩
abbrev mX6_kindOf : Mt := (yX6_kindOf, cX6_kindOf, 2, (some .int))
theorem mf_X6_kindOf : MfT mX6_kindOf 1 := ⟨⟨cO_X6_kindOf, iN_X6, ⟨by decide +kernel, by decide +kernel⟩, by decide +kernel⟩, sT_X6_kindOf⟩
abbrev mX5_isFull : Mt := (yX5_isFull, cX5_isFull, 2, (some .boolean))
theorem mf_X5_isFull : MfV mX5_isFull 1 := ⟨⟨cO_X5_isFull, iN_X5, ⟨by decide +kernel, by decide +kernel⟩, by decide +kernel⟩, iM_X5_isFull, sE_X5_isFull⟩
abbrev mX5_many : Mt := (yX5_many, cX5_many, 2, (some .int))
theorem mf_X5_many : MfV mX5_many 1 := ⟨⟨cO_X5_many, iN_X5, ⟨by decide +kernel, by decide +kernel⟩, by decide +kernel⟩, iM_X5_many, sE_X5_many⟩
abbrev mX11_at : Mt := (yX11_at, cX11_at, 2, (some .int))
theorem mf_X11_at : MfT mX11_at 2 := ⟨⟨cO_X11_at, iN_X11, ⟨by decide +kernel, by decide +kernel⟩, by decide +kernel⟩, sT_X11_at⟩
abbrev mX9_fail : Mt := (yX9_fail, cX9_fail, 1, (none : Option Jvm.ClassFile.FieldType))
theorem mf_X9_fail : MfV mX9_fail 0 := ⟨⟨cO_X9_fail, iN_X9, ⟨by decide +kernel, by decide +kernel⟩, by decide +kernel⟩, iM_X9_fail, sE_X9_fail⟩
abbrev mX9_take : Mt := (yX9_take, cX9_take, 3, (some .boolean))
theorem mf_X9_take : MfV mX9_take 1 := ⟨⟨cO_X9_take, iN_X9, ⟨by decide +kernel, by decide +kernel⟩, by decide +kernel⟩, iM_X9_take, sE_X9_take⟩
abbrev mX6_setUsual : Mt := (yX6_setUsual, cX6_setUsual, 3, (none : Option Jvm.ClassFile.FieldType))
theorem mf_X6_setUsual : MfV mX6_setUsual 1 := ⟨⟨cO_X6_setUsual, iN_X6, ⟨by decide +kernel, by decide +kernel⟩, by decide +kernel⟩, iM_X6_setUsual, sE_X6_setUsual⟩
abbrev mX6_readItems : Mt := (yX6_readItems, cX6_readItems, 7, (none : Option Jvm.ClassFile.FieldType))
theorem mf_X6_readItems : MfV mX6_readItems 1 := ⟨⟨cO_X6_readItems, iN_X6, ⟨by decide +kernel, by decide +kernel⟩, by decide +kernel⟩, iM_X6_readItems, sE_X6_readItems⟩
abbrev mX6_slotOf : Mt := (yX6_slotOf, cX6_slotOf, 4, (some .int))
theorem mf_X6_slotOf : MfT mX6_slotOf 2 := ⟨⟨cO_X6_slotOf, iN_X6, ⟨by decide +kernel, by decide +kernel⟩, by decide +kernel⟩, sT_X6_slotOf⟩
abbrev mX11_holds : Mt := (yX11_holds, cX11_holds, 2, (some .boolean))
theorem mf_X11_holds : MfT mX11_holds 2 := ⟨⟨cO_X11_holds, iN_X11, ⟨by decide +kernel, by decide +kernel⟩, by decide +kernel⟩, sT_X11_holds⟩
abbrev mX9_numberWithin : Mt := (yX9_numberWithin, cX9_numberWithin, 5, (some .int))
theorem mf_X9_numberWithin : MfV mX9_numberWithin 3 := ⟨⟨cO_X9_numberWithin, iN_X9, ⟨by decide +kernel, by decide +kernel⟩, by decide +kernel⟩, iM_X9_numberWithin, sE_X9_numberWithin⟩
abbrev mX9_number : Mt := (yX9_number, cX9_number, 4, (some .int))
theorem mf_X9_number : MfV mX9_number 1 := ⟨⟨cO_X9_number, iN_X9, ⟨by decide +kernel, by decide +kernel⟩, by decide +kernel⟩, iM_X9_number, sE_X9_number⟩
abbrev mX9_isDigitHere : Mt := (yX9_isDigitHere, cX9_isDigitHere, 1, (some .boolean))
theorem mf_X9_isDigitHere : MfV mX9_isDigitHere 0 := ⟨⟨cO_X9_isDigitHere, iN_X9, ⟨by decide +kernel, by decide +kernel⟩, by decide +kernel⟩, iM_X9_isDigitHere, sE_X9_isDigitHere⟩
abbrev mX9_isFaulty : Mt := (yX9_isFaulty, cX9_isFaulty, 1, (some .boolean))
theorem mf_X9_isFaulty : MfV mX9_isFaulty 0 := ⟨⟨cO_X9_isFaulty, iN_X9, ⟨by decide +kernel, by decide +kernel⟩, by decide +kernel⟩, iM_X9_isFaulty, sE_X9_isFaulty⟩
abbrev mX5_store : Mt := (yX5_store, cX5_store, 5, (none : Option Jvm.ClassFile.FieldType))
theorem mf_X5_store : MfV mX5_store 2 := ⟨⟨cO_X5_store, iN_X5, ⟨by decide +kernel, by decide +kernel⟩, by decide +kernel⟩, iM_X5_store, sE_X5_store⟩
abbrev mX9_goesOn : Mt := (yX9_goesOn, cX9_goesOn, 1, (some .boolean))
theorem mf_X9_goesOn : MfV mX9_goesOn 0 := ⟨⟨cO_X9_goesOn, iN_X9, ⟨by decide +kernel, by decide +kernel⟩, by decide +kernel⟩, iM_X9_goesOn, sE_X9_goesOn⟩
abbrev mX9_need : Mt := (yX9_need, cX9_need, 2, (none : Option Jvm.ClassFile.FieldType))
theorem mf_X9_need : MfV mX9_need 1 := ⟨⟨cO_X9_need, iN_X9, ⟨by decide +kernel, by decide +kernel⟩, by decide +kernel⟩, iM_X9_need, sE_X9_need⟩
abbrev mX6_sizeIfUntold : Mt := (yX6_sizeIfUntold, cX6_sizeIfUntold, 1, (none : Option Jvm.ClassFile.FieldType))
theorem mf_X6_sizeIfUntold : MfV mX6_sizeIfUntold 0 := ⟨⟨cO_X6_sizeIfUntold, iN_X6, ⟨by decide +kernel, by decide +kernel⟩, by decide +kernel⟩, iM_X6_sizeIfUntold, sE_X6_sizeIfUntold⟩
abbrev mX5_isSound : Mt := (yX5_isSound, cX5_isSound, 1, (some .boolean))
theorem mf_X5_isSound : MfV mX5_isSound 0 := ⟨⟨cO_X5_isSound, iN_X5, ⟨by decide +kernel, by decide +kernel⟩, by decide +kernel⟩, iM_X5_isSound, sE_X5_isSound⟩
abbrev mX5_areTunnelsSound : Mt := (yX5_areTunnelsSound, cX5_areTunnelsSound, 8, (some .boolean))
theorem mf_X5_areTunnelsSound : MfV mX5_areTunnelsSound 0 := ⟨⟨cO_X5_areTunnelsSound, iN_X5, ⟨by decide +kernel, by decide +kernel⟩, by decide +kernel⟩, iM_X5_areTunnelsSound, sE_X5_areTunnelsSound⟩
abbrev mX5_item : Mt := (yX5_item, cX5_item, 4, (some .int))
theorem mf_X5_item : MfV mX5_item 3 := ⟨⟨cO_X5_item, iN_X5, ⟨by decide +kernel, by decide +kernel⟩, by decide +kernel⟩, iM_X5_item, sE_X5_item⟩
abbrev mX5_darkOfTunnel : Mt := (yX5_darkOfTunnel, cX5_darkOfTunnel, 2, (some .int))
theorem mf_X5_darkOfTunnel : MfV mX5_darkOfTunnel 1 := ⟨⟨cO_X5_darkOfTunnel, iN_X5, ⟨by decide +kernel, by decide +kernel⟩, by decide +kernel⟩, iM_X5_darkOfTunnel, sE_X5_darkOfTunnel⟩
abbrev mX11_darkOf : Mt := (yX11_darkOf, cX11_darkOf, 2, (some .int))
theorem mf_X11_darkOf : MfT mX11_darkOf 2 := ⟨⟨cO_X11_darkOf, iN_X11, ⟨by decide +kernel, by decide +kernel⟩, by decide +kernel⟩, sT_X11_darkOf⟩
abbrev mX5_hasMouth : Mt := (yX5_hasMouth, cX5_hasMouth, 2, (some .boolean))
theorem mf_X5_hasMouth : MfV mX5_hasMouth 1 := ⟨⟨cO_X5_hasMouth, iN_X5, ⟨by decide +kernel, by decide +kernel⟩, by decide +kernel⟩, iM_X5_hasMouth, sE_X5_hasMouth⟩
abbrev mX5_mouths : Mt := (yX5_mouths, cX5_mouths, 1, (some .int))
theorem mf_X5_mouths : MfV mX5_mouths 0 := ⟨⟨cO_X5_mouths, iN_X5, ⟨by decide +kernel, by decide +kernel⟩, by decide +kernel⟩, iM_X5_mouths, sE_X5_mouths⟩
abbrev mX5_hasColour : Mt := (yX5_hasColour, cX5_hasColour, 2, (some .boolean))
theorem mf_X5_hasColour : MfV mX5_hasColour 1 := ⟨⟨cO_X5_hasColour, iN_X5, ⟨by decide +kernel, by decide +kernel⟩, by decide +kernel⟩, iM_X5_hasColour, sE_X5_hasColour⟩
abbrev mX5_colours : Mt := (yX5_colours, cX5_colours, 1, (some .int))
theorem mf_X5_colours : MfV mX5_colours 0 := ⟨⟨cO_X5_colours, iN_X5, ⟨by decide +kernel, by decide +kernel⟩, by decide +kernel⟩, iM_X5_colours, sE_X5_colours⟩
abbrev mX5_areTrainsSound : Mt := (yX5_areTrainsSound, cX5_areTrainsSound, 2, (some .boolean))
theorem mf_X5_areTrainsSound : MfV mX5_areTrainsSound 0 := ⟨⟨cO_X5_areTrainsSound, iN_X5, ⟨by decide +kernel, by decide +kernel⟩, by decide +kernel⟩, iM_X5_areTrainsSound, sE_X5_areTrainsSound⟩
abbrev mX5_hasLamp : Mt := (yX5_hasLamp, cX5_hasLamp, 2, (some .boolean))
theorem mf_X5_hasLamp : MfV mX5_hasLamp 1 := ⟨⟨cO_X5_hasLamp, iN_X5, ⟨by decide +kernel, by decide +kernel⟩, by decide +kernel⟩, iM_X5_hasLamp, sE_X5_hasLamp⟩
abbrev mX5_areGuardsSound : Mt := (yX5_areGuardsSound, cX5_areGuardsSound, 2, (some .boolean))
theorem mf_X5_areGuardsSound : MfV mX5_areGuardsSound 0 := ⟨⟨cO_X5_areGuardsSound, iN_X5, ⟨by decide +kernel, by decide +kernel⟩, by decide +kernel⟩, iM_X5_areGuardsSound, sE_X5_areGuardsSound⟩
abbrev mX9_failAtEnd : Mt := (yX9_failAtEnd, cX9_failAtEnd, 1, (none : Option Jvm.ClassFile.FieldType))
theorem mf_X9_failAtEnd : MfV mX9_failAtEnd 0 := ⟨⟨cO_X9_failAtEnd, iN_X9, ⟨by decide +kernel, by decide +kernel⟩, by decide +kernel⟩, iM_X9_failAtEnd, sE_X9_failAtEnd⟩
abbrev mX9_firstFault : Mt := (yX9_firstFault, cX9_firstFault, 1, (some .int))
theorem mf_X9_firstFault : MfV mX9_firstFault 0 := ⟨⟨cO_X9_firstFault, iN_X9, ⟨by decide +kernel, by decide +kernel⟩, by decide +kernel⟩, iM_X9_firstFault, sE_X9_firstFault⟩
abbrev mX2_firstFault : Mt := (yX2_firstFault, cX2_firstFault, 3, (some .int))
theorem mf_X2_firstFault : MfV mX2_firstFault 0 := ⟨⟨cO_X2_firstFault, iN_X2, ⟨by decide +kernel, by decide +kernel⟩, by decide +kernel⟩, iM_X2_firstFault, sE_X2_firstFault⟩
abbrev mX3_beginDraft : Mt := (yX3_beginDraft, cX3_beginDraft, 1, (none : Option Jvm.ClassFile.FieldType))
theorem mf_X3_beginDraft : MfV mX3_beginDraft 0 := ⟨⟨cO_X3_beginDraft, iN_X3, ⟨by decide +kernel, by decide +kernel⟩, by decide +kernel⟩, iM_X3_beginDraft, sE_X3_beginDraft⟩
abbrev mX2_readClause : Mt := (yX2_readClause, cX2_readClause, 3, (none : Option Jvm.ClassFile.FieldType))
theorem mf_X2_readClause : MfV mX2_readClause 0 := ⟨⟨cO_X2_readClause, iN_X2, ⟨by decide +kernel, by decide +kernel⟩, by decide +kernel⟩, iM_X2_readClause, sE_X2_readClause⟩
abbrev mX2_readCondition : Mt := (yX2_readCondition, cX2_readCondition, 2, (none : Option Jvm.ClassFile.FieldType))
theorem mf_X2_readCondition : MfV mX2_readCondition 1 := ⟨⟨cO_X2_readCondition, iN_X2, ⟨by decide +kernel, by decide +kernel⟩, by decide +kernel⟩, iM_X2_readCondition, sE_X2_readCondition⟩
abbrev mX2_readUnit : Mt := (yX2_readUnit, cX2_readUnit, 3, (none : Option Jvm.ClassFile.FieldType))
theorem mf_X2_readUnit : MfV mX2_readUnit 1 := ⟨⟨cO_X2_readUnit, iN_X2, ⟨by decide +kernel, by decide +kernel⟩, by decide +kernel⟩, iM_X2_readUnit, sE_X2_readUnit⟩
abbrev mX2_opens : Mt := (yX2_opens, cX2_opens, 3, (some .boolean))
theorem mf_X2_opens : MfV mX2_opens 2 := ⟨⟨cO_X2_opens, iN_X2, ⟨by decide +kernel, by decide +kernel⟩, by decide +kernel⟩, iM_X2_opens, sE_X2_opens⟩
abbrev mX3_write : Mt := (yX3_write, cX3_write, 3, (none : Option Jvm.ClassFile.FieldType))
theorem mf_X3_write : MfV mX3_write 1 := ⟨⟨cO_X3_write, iN_X3, ⟨by decide +kernel, by decide +kernel⟩, by decide +kernel⟩, iM_X3_write, sE_X3_write⟩
abbrev mX2_readSum : Mt := (yX2_readSum, cX2_readSum, 4, (none : Option Jvm.ClassFile.FieldType))
theorem mf_X2_readSum : MfV mX2_readSum 1 := ⟨⟨cO_X2_readSum, iN_X2, ⟨by decide +kernel, by decide +kernel⟩, by decide +kernel⟩, iM_X2_readSum, sE_X2_readSum⟩
abbrev mX2_readTerm : Mt := (yX2_readTerm, cX2_readTerm, 4, (none : Option Jvm.ClassFile.FieldType))
theorem mf_X2_readTerm : MfV mX2_readTerm 1 := ⟨⟨cO_X2_readTerm, iN_X2, ⟨by decide +kernel, by decide +kernel⟩, by decide +kernel⟩, iM_X2_readTerm, sE_X2_readTerm⟩
abbrev mX2_readAtom : Mt := (yX2_readAtom, cX2_readAtom, 3, (none : Option Jvm.ClassFile.FieldType))
theorem mf_X2_readAtom : MfV mX2_readAtom 1 := ⟨⟨cO_X2_readAtom, iN_X2, ⟨by decide +kernel, by decide +kernel⟩, by decide +kernel⟩, iM_X2_readAtom, sE_X2_readAtom⟩
abbrev mX2_isLetter : Mt := (yX2_isLetter, cX2_isLetter, 1, (some .boolean))
theorem mf_X2_isLetter : MfT mX2_isLetter 1 := ⟨⟨cO_X2_isLetter, iN_X2, ⟨by decide +kernel, by decide +kernel⟩, by decide +kernel⟩, sT_X2_isLetter⟩
abbrev mX2_readComparison : Mt := (yX2_readComparison, cX2_readComparison, 3, (none : Option Jvm.ClassFile.FieldType))
theorem mf_X2_readComparison : MfV mX2_readComparison 1 := ⟨⟨cO_X2_readComparison, iN_X2, ⟨by decide +kernel, by decide +kernel⟩, by decide +kernel⟩, iM_X2_readComparison, sE_X2_readComparison⟩
abbrev mX2_isComparing : Mt := (yX2_isComparing, cX2_isComparing, 1, (some .boolean))
theorem mf_X2_isComparing : MfT mX2_isComparing 1 := ⟨⟨cO_X2_isComparing, iN_X2, ⟨by decide +kernel, by decide +kernel⟩, by decide +kernel⟩, sT_X2_isComparing⟩
abbrev mX2_readMoreUnits : Mt := (yX2_readMoreUnits, cX2_readMoreUnits, 3, (none : Option Jvm.ClassFile.FieldType))
theorem mf_X2_readMoreUnits : MfV mX2_readMoreUnits 1 := ⟨⟨cO_X2_readMoreUnits, iN_X2, ⟨by decide +kernel, by decide +kernel⟩, by decide +kernel⟩, iM_X2_readMoreUnits, sE_X2_readMoreUnits⟩
abbrev mX2_readMoreTruths : Mt := (yX2_readMoreTruths, cX2_readMoreTruths, 3, (none : Option Jvm.ClassFile.FieldType))
theorem mf_X2_readMoreTruths : MfV mX2_readMoreTruths 1 := ⟨⟨cO_X2_readMoreTruths, iN_X2, ⟨by decide +kernel, by decide +kernel⟩, by decide +kernel⟩, iM_X2_readMoreTruths, sE_X2_readMoreTruths⟩
abbrev mX11_text : Mt := (yX11_text, cX11_text, 2, (some .int))
theorem mf_X11_text : MfV mX11_text 1 := ⟨⟨cO_X11_text, iN_X11, ⟨by decide +kernel, by decide +kernel⟩, by decide +kernel⟩, iM_X11_text, sE_X11_text⟩
abbrev mX5_become : Mt := (yX5_become, cX5_become, 3, (none : Option Jvm.ClassFile.FieldType))
theorem mf_X5_become : MfV mX5_become 1 := ⟨⟨cO_X5_become, iN_X5, ⟨by decide +kernel, by decide +kernel⟩, by decide +kernel⟩, iM_X5_become, sE_X5_become⟩
abbrev mX11_copy : Mt := (yX11_copy, cX11_copy, 2, (none : Option Jvm.ClassFile.FieldType))
theorem mf_X11_copy : MfT mX11_copy 2 := ⟨⟨cO_X11_copy, iN_X11, ⟨by decide +kernel, by decide +kernel⟩, by decide +kernel⟩, sT_X11_copy⟩
abbrev mX4_begin : Mt := (yX4_begin, cX4_begin, 4, (none : Option Jvm.ClassFile.FieldType))
theorem mf_X4_begin : MfV mX4_begin 1 := ⟨⟨cO_X4_begin, iN_X4, ⟨by decide +kernel, by decide +kernel⟩, by decide +kernel⟩, iM_X4_begin, sE_X4_begin⟩
abbrev mX5_hour : Mt := (yX5_hour, cX5_hour, 1, (some .int))
theorem mf_X5_hour : MfV mX5_hour 0 := ⟨⟨cO_X5_hour, iN_X5, ⟨by decide +kernel, by decide +kernel⟩, by decide +kernel⟩, iM_X5_hour, sE_X5_hour⟩
abbrev mX4_beginDarks : Mt := (yX4_beginDarks, cX4_beginDarks, 4, (none : Option Jvm.ClassFile.FieldType))
theorem mf_X4_beginDarks : MfV mX4_beginDarks 1 := ⟨⟨cO_X4_beginDarks, iN_X4, ⟨by decide +kernel, by decide +kernel⟩, by decide +kernel⟩, iM_X4_beginDarks, sE_X4_beginDarks⟩
abbrev mX4_lead : Mt := (yX4_lead, cX4_lead, 4, (none : Option Jvm.ClassFile.FieldType))
theorem mf_X4_lead : MfV mX4_lead 3 := ⟨⟨cO_X4_lead, iN_X4, ⟨by decide +kernel, by decide +kernel⟩, by decide +kernel⟩, iM_X4_lead, sE_X4_lead⟩
abbrev mX4_addTrain : Mt := (yX4_addTrain, cX4_addTrain, 6, (some .int))
theorem mf_X4_addTrain : MfV mX4_addTrain 4 := ⟨⟨cO_X4_addTrain, iN_X4, ⟨by decide +kernel, by decide +kernel⟩, by decide +kernel⟩, iM_X4_addTrain, sE_X4_addTrain⟩
abbrev mX4_setTrain : Mt := (yX4_setTrain, cX4_setTrain, 4, (none : Option Jvm.ClassFile.FieldType))
theorem mf_X4_setTrain : MfV mX4_setTrain 3 := ⟨⟨cO_X4_setTrain, iN_X4, ⟨by decide +kernel, by decide +kernel⟩, by decide +kernel⟩, iM_X4_setTrain, sE_X4_setTrain⟩
abbrev mX4_guardsAt : Mt := (yX4_guardsAt, cX4_guardsAt, 2, (some .int))
theorem mf_X4_guardsAt : MfV mX4_guardsAt 1 := ⟨⟨cO_X4_guardsAt, iN_X4, ⟨by decide +kernel, by decide +kernel⟩, by decide +kernel⟩, iM_X4_guardsAt, sE_X4_guardsAt⟩
abbrev mX0_forget : Mt := (yX0_forget, cX0_forget, 1, (none : Option Jvm.ClassFile.FieldType))
theorem mf_X0_forget : MfV mX0_forget 0 := ⟨⟨cO_X0_forget, iN_X0, ⟨by decide +kernel, by decide +kernel⟩, by decide +kernel⟩, iM_X0_forget, sE_X0_forget⟩
abbrev mX8_forget : Mt := (yX8_forget, cX8_forget, 1, (none : Option Jvm.ClassFile.FieldType))
theorem mf_X8_forget : MfV mX8_forget 0 := ⟨⟨cO_X8_forget, iN_X8, ⟨by decide +kernel, by decide +kernel⟩, by decide +kernel⟩, iM_X8_forget, sE_X8_forget⟩
abbrev mX3_areFull : Mt := (yX3_areFull, cX3_areFull, 1, (some .boolean))
theorem mf_X3_areFull : MfV mX3_areFull 0 := ⟨⟨cO_X3_areFull, iN_X3, ⟨by decide +kernel, by decide +kernel⟩, by decide +kernel⟩, iM_X3_areFull, sE_X3_areFull⟩
abbrev mX3_keepDraft : Mt := (yX3_keepDraft, cX3_keepDraft, 1, (some .int))
theorem mf_X3_keepDraft : MfV mX3_keepDraft 0 := ⟨⟨cO_X3_keepDraft, iN_X3, ⟨by decide +kernel, by decide +kernel⟩, by decide +kernel⟩, iM_X3_keepDraft, sE_X3_keepDraft⟩
abbrev mX11_dark : Mt := (yX11_dark, cX11_dark, 4, (some .int))
theorem mf_X11_dark : MfV mX11_dark 3 := ⟨⟨cO_X11_dark, iN_X11, ⟨by decide +kernel, by decide +kernel⟩, by decide +kernel⟩, iM_X11_dark, sE_X11_dark⟩
abbrev mX10_isUnknown : Mt := (yX10_isUnknown, cX10_isUnknown, 3, (some .boolean))
theorem mf_X10_isUnknown : MfV mX10_isUnknown 2 := ⟨⟨cO_X10_isUnknown, iN_X10, ⟨by decide +kernel, by decide +kernel⟩, by decide +kernel⟩, iM_X10_isUnknown, sE_X10_isUnknown⟩
abbrev mX4_leads : Mt := (yX4_leads, cX4_leads, 3, (some .int))
theorem mf_X4_leads : MfV mX4_leads 2 := ⟨⟨cO_X4_leads, iN_X4, ⟨by decide +kernel, by decide +kernel⟩, by decide +kernel⟩, iM_X4_leads, sE_X4_leads⟩
abbrev mX10_leadsTo : Mt := (yX10_leadsTo, cX10_leadsTo, 4, (some .int))
theorem mf_X10_leadsTo : MfV mX10_leadsTo 2 := ⟨⟨cO_X10_leadsTo, iN_X10, ⟨by decide +kernel, by decide +kernel⟩, by decide +kernel⟩, iM_X10_leadsTo, sE_X10_leadsTo⟩
abbrev mX10_takes : Mt := (yX10_takes, cX10_takes, 4, (some .int))
theorem mf_X10_takes : MfV mX10_takes 2 := ⟨⟨cO_X10_takes, iN_X10, ⟨by decide +kernel, by decide +kernel⟩, by decide +kernel⟩, iM_X10_takes, sE_X10_takes⟩
abbrev mX5_lengthOf : Mt := (yX5_lengthOf, cX5_lengthOf, 3, (some .int))
theorem mf_X5_lengthOf : MfV mX5_lengthOf 2 := ⟨⟨cO_X5_lengthOf, iN_X5, ⟨by decide +kernel, by decide +kernel⟩, by decide +kernel⟩, iM_X5_lengthOf, sE_X5_lengthOf⟩
abbrev mX10_priceOf : Mt := (yX10_priceOf, cX10_priceOf, 6, (some .int))
theorem mf_X10_priceOf : MfV mX10_priceOf 2 := ⟨⟨cO_X10_priceOf, iN_X10, ⟨by decide +kernel, by decide +kernel⟩, by decide +kernel⟩, iM_X10_priceOf, sE_X10_priceOf⟩
abbrev mX3_holding : Mt := (yX3_holding, cX3_holding, 1, (some .int))
theorem mf_X3_holding : MfV mX3_holding 0 := ⟨⟨cO_X3_holding, iN_X3, ⟨by decide +kernel, by decide +kernel⟩, by decide +kernel⟩, iM_X3_holding, sE_X3_holding⟩
abbrev mX3_worth : Mt := (yX3_worth, cX3_worth, 11, (some .int))
theorem mf_X3_worth : MfV mX3_worth 5 := ⟨⟨cO_X3_worth, iN_X3, ⟨by decide +kernel, by decide +kernel⟩, by decide +kernel⟩, iM_X3_worth, sE_X3_worth⟩
abbrev mX3_push : Mt := (yX3_push, cX3_push, 2, (none : Option Jvm.ClassFile.FieldType))
theorem mf_X3_push : MfV mX3_push 1 := ⟨⟨cO_X3_push, iN_X3, ⟨by decide +kernel, by decide +kernel⟩, by decide +kernel⟩, iM_X3_push, sE_X3_push⟩
abbrev mX3_pop : Mt := (yX3_pop, cX3_pop, 1, (some .int))
theorem mf_X3_pop : MfV mX3_pop 0 := ⟨⟨cO_X3_pop, iN_X3, ⟨by decide +kernel, by decide +kernel⟩, by decide +kernel⟩, iM_X3_pop, sE_X3_pop⟩
abbrev mX3_joined : Mt := (yX3_joined, cX3_joined, 3, (some .int))
theorem mf_X3_joined : MfT mX3_joined 3 := ⟨⟨cO_X3_joined, iN_X3, ⟨by decide +kernel, by decide +kernel⟩, by decide +kernel⟩, sT_X3_joined⟩
abbrev mX3_bounded : Mt := (yX3_bounded, cX3_bounded, 2, (some .int))
theorem mf_X3_bounded : MfT mX3_bounded 1 := ⟨⟨cO_X3_bounded, iN_X3, ⟨by decide +kernel, by decide +kernel⟩, by decide +kernel⟩, sT_X3_bounded⟩
abbrev mJ9_min_f86c9 : Mt := (yJ9_min_f86c9, cJ9_min_f86c9, 4, (some .long))
theorem mf_J9_min_f86c9 : MfT mJ9_min_f86c9 2 := ⟨⟨cO_J9_min_f86c9, iN_J9, ⟨by decide +kernel, by decide +kernel⟩, by decide +kernel⟩, sT_J9_min_f86c9⟩
abbrev mJ9_max_f86c9 : Mt := (yJ9_max_f86c9, cJ9_max_f86c9, 4, (some .long))
theorem mf_J9_max_f86c9 : MfT mJ9_max_f86c9 2 := ⟨⟨cO_J9_max_f86c9, iN_J9, ⟨by decide +kernel, by decide +kernel⟩, by decide +kernel⟩, sT_J9_max_f86c9⟩
abbrev mJ9_max_7cf53 : Mt := (yJ9_max_7cf53, cJ9_max_7cf53, 2, (some .int))
theorem mf_J9_max_7cf53 : MfT mJ9_max_7cf53 2 := ⟨⟨cO_J9_max_7cf53, iN_J9, ⟨by decide +kernel, by decide +kernel⟩, by decide +kernel⟩, sT_J9_max_7cf53⟩
abbrev mX11_guards : Mt := (yX11_guards, cX11_guards, 2, (some .int))
theorem mf_X11_guards : MfV mX11_guards 1 := ⟨⟨cO_X11_guards, iN_X11, ⟨by decide +kernel, by decide +kernel⟩, by decide +kernel⟩, iM_X11_guards, sE_X11_guards⟩
abbrev mX11_law : Mt := (yX11_law, cX11_law, 2, (some .boolean))
theorem mf_X11_law : MfV mX11_law 1 := ⟨⟨cO_X11_law, iN_X11, ⟨by decide +kernel, by decide +kernel⟩, by decide +kernel⟩, iM_X11_law, sE_X11_law⟩
abbrev mX3_choose : Mt := (yX3_choose, cX3_choose, 2, (some .boolean))
theorem mf_X3_choose : MfV mX3_choose 1 := ⟨⟨cO_X3_choose, iN_X3, ⟨by decide +kernel, by decide +kernel⟩, by decide +kernel⟩, iM_X3_choose, sE_X3_choose⟩
abbrev mX11_sent : Mt := (yX11_sent, cX11_sent, 4, (some .int))
theorem mf_X11_sent : MfV mX11_sent 3 := ⟨⟨cO_X11_sent, iN_X11, ⟨by decide +kernel, by decide +kernel⟩, by decide +kernel⟩, iM_X11_sent, sE_X11_sent⟩
abbrev mX4_isFull : Mt := (yX4_isFull, cX4_isFull, 1, (some .boolean))
theorem mf_X4_isFull : MfV mX4_isFull 0 := ⟨⟨cO_X4_isFull, iN_X4, ⟨by decide +kernel, by decide +kernel⟩, by decide +kernel⟩, iM_X4_isFull, sE_X4_isFull⟩
abbrev mX0_keep : Mt := (yX0_keep, cX0_keep, 1, (none : Option Jvm.ClassFile.FieldType))
theorem mf_X0_keep : MfV mX0_keep 0 := ⟨⟨cO_X0_keep, iN_X0, ⟨by decide +kernel, by decide +kernel⟩, by decide +kernel⟩, iM_X0_keep, sE_X0_keep⟩
abbrev mX0_aheadAt : Mt := (yX0_aheadAt, cX0_aheadAt, 4, (some (.object "DarkLamps$Moment")))
theorem mf_X0_aheadAt : MfV mX0_aheadAt 1 := ⟨⟨cO_X0_aheadAt, iN_X0, ⟨by decide +kernel, by decide +kernel⟩, by decide +kernel⟩, iM_X0_aheadAt, sE_X0_aheadAt⟩
abbrev mX4_become : Mt := (yX4_become, cX4_become, 2, (none : Option Jvm.ClassFile.FieldType))
theorem mf_X4_become : MfV mX4_become 1 := ⟨⟨cO_X4_become, iN_X4, ⟨by decide +kernel, by decide +kernel⟩, by decide +kernel⟩, iM_X4_become, sE_X4_become⟩
abbrev mX11_lamp : Mt := (yX11_lamp, cX11_lamp, 4, (some .int))
theorem mf_X11_lamp : MfV mX11_lamp 2 := ⟨⟨cO_X11_lamp, iN_X11, ⟨by decide +kernel, by decide +kernel⟩, by decide +kernel⟩, iM_X11_lamp, sE_X11_lamp⟩
abbrev mX4_hasTrain : Mt := (yX4_hasTrain, cX4_hasTrain, 2, (some .boolean))
theorem mf_X4_hasTrain : MfV mX4_hasTrain 1 := ⟨⟨cO_X4_hasTrain, iN_X4, ⟨by decide +kernel, by decide +kernel⟩, by decide +kernel⟩, iM_X4_hasTrain, sE_X4_hasTrain⟩
abbrev mX4_ofTrain : Mt := (yX4_ofTrain, cX4_ofTrain, 3, (some .int))
theorem mf_X4_ofTrain : MfV mX4_ofTrain 2 := ⟨⟨cO_X4_ofTrain, iN_X4, ⟨by decide +kernel, by decide +kernel⟩, by decide +kernel⟩, iM_X4_ofTrain, sE_X4_ofTrain⟩
abbrev mX1_lampOf : Mt := (yX1_lampOf, cX1_lampOf, 3, (some .int))
theorem mf_X1_lampOf : MfV mX1_lampOf 1 := ⟨⟨cO_X1_lampOf, iN_X1, ⟨by decide +kernel, by decide +kernel⟩, by decide +kernel⟩, iM_X1_lampOf, sE_X1_lampOf⟩
abbrev mX4_hour : Mt := (yX4_hour, cX4_hour, 1, (some .int))
theorem mf_X4_hour : MfV mX4_hour 0 := ⟨⟨cO_X4_hour, iN_X4, ⟨by decide +kernel, by decide +kernel⟩, by decide +kernel⟩, iM_X4_hour, sE_X4_hour⟩
abbrev mX5_fade : Mt := (yX5_fade, cX5_fade, 1, (some .int))
theorem mf_X5_fade : MfV mX5_fade 0 := ⟨⟨cO_X5_fade, iN_X5, ⟨by decide +kernel, by decide +kernel⟩, by decide +kernel⟩, iM_X5_fade, sE_X5_fade⟩
abbrev mX11_faded : Mt := (yX11_faded, cX11_faded, 4, (some .int))
theorem mf_X11_faded : MfT mX11_faded 3 := ⟨⟨cO_X11_faded, iN_X11, ⟨by decide +kernel, by decide +kernel⟩, by decide +kernel⟩, sT_X11_faded⟩
abbrev mX4_relight : Mt := (yX4_relight, cX4_relight, 3, (none : Option Jvm.ClassFile.FieldType))
theorem mf_X4_relight : MfV mX4_relight 2 := ⟨⟨cO_X4_relight, iN_X4, ⟨by decide +kernel, by decide +kernel⟩, by decide +kernel⟩, iM_X4_relight, sE_X4_relight⟩
abbrev mX11_show : Mt := (yX11_show, cX11_show, 5, (some .int))
theorem mf_X11_show : MfV mX11_show 3 := ⟨⟨cO_X11_show, iN_X11, ⟨by decide +kernel, by decide +kernel⟩, by decide +kernel⟩, iM_X11_show, sE_X11_show⟩
abbrev mX11_guard : Mt := (yX11_guard, cX11_guard, 4, (some .int))
theorem mf_X11_guard : MfV mX11_guard 2 := ⟨⟨cO_X11_guard, iN_X11, ⟨by decide +kernel, by decide +kernel⟩, by decide +kernel⟩, iM_X11_guard, sE_X11_guard⟩
abbrev mX4_setGuards : Mt := (yX4_setGuards, cX4_setGuards, 3, (none : Option Jvm.ClassFile.FieldType))
theorem mf_X4_setGuards : MfV mX4_setGuards 2 := ⟨⟨cO_X4_setGuards, iN_X4, ⟨by decide +kernel, by decide +kernel⟩, by decide +kernel⟩, iM_X4_setGuards, sE_X4_setGuards⟩
abbrev mX11_go : Mt := (yX11_go, cX11_go, 2, (some .int))
theorem mf_X11_go : MfV mX11_go 1 := ⟨⟨cO_X11_go, iN_X11, ⟨by decide +kernel, by decide +kernel⟩, by decide +kernel⟩, iM_X11_go, sE_X11_go⟩
abbrev mX1_canPass : Mt := (yX1_canPass, cX1_canPass, 2, (some .boolean))
theorem mf_X1_canPass : MfV mX1_canPass 1 := ⟨⟨cO_X1_canPass, iN_X1, ⟨by decide +kernel, by decide +kernel⟩, by decide +kernel⟩, iM_X1_canPass, sE_X1_canPass⟩
abbrev mX5_isTold : Mt := (yX5_isTold, cX5_isTold, 1, (some .boolean))
theorem mf_X5_isTold : MfV mX5_isTold 0 := ⟨⟨cO_X5_isTold, iN_X5, ⟨by decide +kernel, by decide +kernel⟩, by decide +kernel⟩, iM_X5_isTold, sE_X5_isTold⟩
abbrev mX1_passByHand : Mt := (yX1_passByHand, cX1_passByHand, 3, (some .int))
theorem mf_X1_passByHand : MfV mX1_passByHand 1 := ⟨⟨cO_X1_passByHand, iN_X1, ⟨by decide +kernel, by decide +kernel⟩, by decide +kernel⟩, iM_X1_passByHand, sE_X1_passByHand⟩
abbrev mX1_passHour : Mt := (yX1_passHour, cX1_passHour, 3, (none : Option Jvm.ClassFile.FieldType))
theorem mf_X1_passHour : MfV mX1_passHour 2 := ⟨⟨cO_X1_passHour, iN_X1, ⟨by decide +kernel, by decide +kernel⟩, by decide +kernel⟩, iM_X1_passHour, sE_X1_passHour⟩
abbrev mX1_comeOut : Mt := (yX1_comeOut, cX1_comeOut, 4, (none : Option Jvm.ClassFile.FieldType))
theorem mf_X1_comeOut : MfV mX1_comeOut 1 := ⟨⟨cO_X1_comeOut, iN_X1, ⟨by decide +kernel, by decide +kernel⟩, by decide +kernel⟩, iM_X1_comeOut, sE_X1_comeOut⟩
abbrev mX4_trains : Mt := (yX4_trains, cX4_trains, 1, (some .int))
theorem mf_X4_trains : MfV mX4_trains 0 := ⟨⟨cO_X4_trains, iN_X4, ⟨by decide +kernel, by decide +kernel⟩, by decide +kernel⟩, iM_X4_trains, sE_X4_trains⟩
abbrev mX4_comesOutNow : Mt := (yX4_comesOutNow, cX4_comesOutNow, 2, (some .boolean))
theorem mf_X4_comesOutNow : MfV mX4_comesOutNow 1 := ⟨⟨cO_X4_comesOutNow, iN_X4, ⟨by decide +kernel, by decide +kernel⟩, by decide +kernel⟩, iM_X4_comesOutNow, sE_X4_comesOutNow⟩
abbrev mX1_draw : Mt := (yX1_draw, cX1_draw, 2, (some .int))
theorem mf_X1_draw : MfV mX1_draw 1 := ⟨⟨cO_X1_draw, iN_X1, ⟨by decide +kernel, by decide +kernel⟩, by decide +kernel⟩, iM_X1_draw, sE_X1_draw⟩
abbrev mX4_comeOut : Mt := (yX4_comeOut, cX4_comeOut, 3, (none : Option Jvm.ClassFile.FieldType))
theorem mf_X4_comeOut : MfV mX4_comeOut 2 := ⟨⟨cO_X4_comeOut, iN_X4, ⟨by decide +kernel, by decide +kernel⟩, by decide +kernel⟩, iM_X4_comeOut, sE_X4_comeOut⟩
abbrev mX1_goIn : Mt := (yX1_goIn, cX1_goIn, 4, (none : Option Jvm.ClassFile.FieldType))
theorem mf_X1_goIn : MfV mX1_goIn 0 := ⟨⟨cO_X1_goIn, iN_X1, ⟨by decide +kernel, by decide +kernel⟩, by decide +kernel⟩, iM_X1_goIn, sE_X1_goIn⟩
abbrev mX4_isReady : Mt := (yX4_isReady, cX4_isReady, 2, (some .boolean))
theorem mf_X4_isReady : MfV mX4_isReady 1 := ⟨⟨cO_X4_isReady, iN_X4, ⟨by decide +kernel, by decide +kernel⟩, by decide +kernel⟩, iM_X4_isReady, sE_X4_isReady⟩
abbrev mX4_enter : Mt := (yX4_enter, cX4_enter, 4, (none : Option Jvm.ClassFile.FieldType))
theorem mf_X4_enter : MfV mX4_enter 3 := ⟨⟨cO_X4_enter, iN_X4, ⟨by decide +kernel, by decide +kernel⟩, by decide +kernel⟩, iM_X4_enter, sE_X4_enter⟩
abbrev mX1_meet : Mt := (yX1_meet, cX1_meet, 3, (none : Option Jvm.ClassFile.FieldType))
theorem mf_X1_meet : MfV mX1_meet 0 := ⟨⟨cO_X1_meet, iN_X1, ⟨by decide +kernel, by decide +kernel⟩, by decide +kernel⟩, iM_X1_meet, sE_X1_meet⟩
abbrev mX4_addMeetings : Mt := (yX4_addMeetings, cX4_addMeetings, 2, (none : Option Jvm.ClassFile.FieldType))
theorem mf_X4_addMeetings : MfV mX4_addMeetings 1 := ⟨⟨cO_X4_addMeetings, iN_X4, ⟨by decide +kernel, by decide +kernel⟩, by decide +kernel⟩, iM_X4_addMeetings, sE_X4_addMeetings⟩
abbrev mX4_passHour : Mt := (yX4_passHour, cX4_passHour, 1, (none : Option Jvm.ClassFile.FieldType))
theorem mf_X4_passHour : MfV mX4_passHour 0 := ⟨⟨cO_X4_passHour, iN_X4, ⟨by decide +kernel, by decide +kernel⟩, by decide +kernel⟩, iM_X4_passHour, sE_X4_passHour⟩
abbrev mX11_fogs : Mt := (yX11_fogs, cX11_fogs, 2, (some .boolean))
theorem mf_X11_fogs : MfV mX11_fogs 1 := ⟨⟨cO_X11_fogs, iN_X11, ⟨by decide +kernel, by decide +kernel⟩, by decide +kernel⟩, iM_X11_fogs, sE_X11_fogs⟩
abbrev mX1_setFogs : Mt := (yX1_setFogs, cX1_setFogs, 2, (some .boolean))
theorem mf_X1_setFogs : MfV mX1_setFogs 1 := ⟨⟨cO_X1_setFogs, iN_X1, ⟨by decide +kernel, by decide +kernel⟩, by decide +kernel⟩, iM_X1_setFogs, sE_X1_setFogs⟩
abbrev mX11_years : Mt := (yX11_years, cX11_years, 4, (some .int))
theorem mf_X11_years : MfV mX11_years 2 := ⟨⟨cO_X11_years, iN_X11, ⟨by decide +kernel, by decide +kernel⟩, by decide +kernel⟩, iM_X11_years, sE_X11_years⟩
abbrev mX1_passByDraws : Mt := (yX1_passByDraws, cX1_passByDraws, 6, (some .int))
theorem mf_X1_passByDraws : MfV mX1_passByDraws 2 := ⟨⟨cO_X1_passByDraws, iN_X1, ⟨by decide +kernel, by decide +kernel⟩, by decide +kernel⟩, iM_X1_passByDraws, sE_X1_passByDraws⟩
abbrev mX11_undo : Mt := (yX11_undo, cX11_undo, 1, (some .int))
theorem mf_X11_undo : MfV mX11_undo 0 := ⟨⟨cO_X11_undo, iN_X11, ⟨by decide +kernel, by decide +kernel⟩, by decide +kernel⟩, iM_X11_undo, sE_X11_undo⟩
abbrev mX0_takeBack : Mt := (yX0_takeBack, cX0_takeBack, 1, (some .int))
theorem mf_X0_takeBack : MfV mX0_takeBack 0 := ⟨⟨cO_X0_takeBack, iN_X0, ⟨by decide +kernel, by decide +kernel⟩, by decide +kernel⟩, iM_X0_takeBack, sE_X0_takeBack⟩
abbrev mX11_log : Mt := (yX11_log, cX11_log, 3, (some .int))
theorem mf_X11_log : MfV mX11_log 2 := ⟨⟨cO_X11_log, iN_X11, ⟨by decide +kernel, by decide +kernel⟩, by decide +kernel⟩, iM_X11_log, sE_X11_log⟩
abbrev mX4_logged : Mt := (yX4_logged, cX4_logged, 5, (some .int))
theorem mf_X4_logged : MfV mX4_logged 2 := ⟨⟨cO_X4_logged, iN_X4, ⟨by decide +kernel, by decide +kernel⟩, by decide +kernel⟩, iM_X4_logged, sE_X4_logged⟩
abbrev mX4_logLength : Mt := (yX4_logLength, cX4_logLength, 1, (some .int))
theorem mf_X4_logLength : MfV mX4_logLength 0 := ⟨⟨cO_X4_logLength, iN_X4, ⟨by decide +kernel, by decide +kernel⟩, by decide +kernel⟩, iM_X4_logLength, sE_X4_logLength⟩
abbrev mX11_comes : Mt := (yX11_comes, cX11_comes, 4, (some .int))
theorem mf_X11_comes : MfV mX11_comes 3 := ⟨⟨cO_X11_comes, iN_X11, ⟨by decide +kernel, by decide +kernel⟩, by decide +kernel⟩, iM_X11_comes, sE_X11_comes⟩
abbrev mX10_behind : Mt := (yX10_behind, cX10_behind, 6, (some .int))
theorem mf_X10_behind : MfV mX10_behind 3 := ⟨⟨cO_X10_behind, iN_X10, ⟨by decide +kernel, by decide +kernel⟩, by decide +kernel⟩, iM_X10_behind, sE_X10_behind⟩
abbrev mX11_round : Mt := (yX11_round, cX11_round, 5, (some .int))
theorem mf_X11_round : MfV mX11_round 3 := ⟨⟨cO_X11_round, iN_X11, ⟨by decide +kernel, by decide +kernel⟩, by decide +kernel⟩, iM_X11_round, sE_X11_round⟩
abbrev mX10_circleLength : Mt := (yX10_circleLength, cX10_circleLength, 6, (some .int))
theorem mf_X10_circleLength : MfV mX10_circleLength 2 := ⟨⟨cO_X10_circleLength, iN_X10, ⟨by decide +kernel, by decide +kernel⟩, by decide +kernel⟩, iM_X10_circleLength, sE_X10_circleLength⟩
abbrev mX10_stepsToCircle : Mt := (yX10_stepsToCircle, cX10_stepsToCircle, 7, (some .int))
theorem mf_X10_stepsToCircle : MfV mX10_stepsToCircle 3 := ⟨⟨cO_X10_stepsToCircle, iN_X10, ⟨by decide +kernel, by decide +kernel⟩, by decide +kernel⟩, iM_X10_stepsToCircle, sE_X10_stepsToCircle⟩
abbrev mX11_changes : Mt := (yX11_changes, cX11_changes, 4, (some .int))
theorem mf_X11_changes : MfV mX11_changes 3 := ⟨⟨cO_X11_changes, iN_X11, ⟨by decide +kernel, by decide +kernel⟩, by decide +kernel⟩, iM_X11_changes, sE_X11_changes⟩
abbrev mX11_areAsked : Mt := (yX11_areAsked, cX11_areAsked, 4, (some .boolean))
theorem mf_X11_areAsked : MfV mX11_areAsked 3 := ⟨⟨cO_X11_areAsked, iN_X11, ⟨by decide +kernel, by decide +kernel⟩, by decide +kernel⟩, iM_X11_areAsked, sE_X11_areAsked⟩
abbrev mX5_hasSet : Mt := (yX5_hasSet, cX5_hasSet, 2, (some .boolean))
theorem mf_X5_hasSet : MfV mX5_hasSet 1 := ⟨⟨cO_X5_hasSet, iN_X5, ⟨by decide +kernel, by decide +kernel⟩, by decide +kernel⟩, iM_X5_hasSet, sE_X5_hasSet⟩
abbrev mX5_allColours : Mt := (yX5_allColours, cX5_allColours, 1, (some .int))
theorem mf_X5_allColours : MfV mX5_allColours 0 := ⟨⟨cO_X5_allColours, iN_X5, ⟨by decide +kernel, by decide +kernel⟩, by decide +kernel⟩, iM_X5_allColours, sE_X5_allColours⟩
abbrev mX10_fewestChanges : Mt := (yX10_fewestChanges, cX10_fewestChanges, 7, (some .int))
theorem mf_X10_fewestChanges : MfV mX10_fewestChanges 3 := ⟨⟨cO_X10_fewestChanges, iN_X10, ⟨by decide +kernel, by decide +kernel⟩, by decide +kernel⟩, iM_X10_fewestChanges, sE_X10_fewestChanges⟩
abbrev mX10_reachedByOneLamp : Mt := (yX10_reachedByOneLamp, cX10_reachedByOneLamp, 5, (some .int))
theorem mf_X10_reachedByOneLamp : MfV mX10_reachedByOneLamp 2 := ⟨⟨cO_X10_reachedByOneLamp, iN_X10, ⟨by decide +kernel, by decide +kernel⟩, by decide +kernel⟩, iM_X10_reachedByOneLamp, sE_X10_reachedByOneLamp⟩
abbrev mX10_trailOf : Mt := (yX10_trailOf, cX10_trailOf, 5, (some .int))
theorem mf_X10_trailOf : MfV mX10_trailOf 2 := ⟨⟨cO_X10_trailOf, iN_X10, ⟨by decide +kernel, by decide +kernel⟩, by decide +kernel⟩, iM_X10_trailOf, sE_X10_trailOf⟩
abbrev mX10_behindOne : Mt := (yX10_behindOne, cX10_behindOne, 6, (some .int))
theorem mf_X10_behindOne : MfV mX10_behindOne 2 := ⟨⟨cO_X10_behindOne, iN_X10, ⟨by decide +kernel, by decide +kernel⟩, by decide +kernel⟩, iM_X10_behindOne, sE_X10_behindOne⟩
abbrev mX11_soonest : Mt := (yX11_soonest, cX11_soonest, 5, (some .int))
theorem mf_X11_soonest : MfV mX11_soonest 4 := ⟨⟨cO_X11_soonest, iN_X11, ⟨by decide +kernel, by decide +kernel⟩, by decide +kernel⟩, iM_X11_soonest, sE_X11_soonest⟩
abbrev mX10_fewestHours : Mt := (yX10_fewestHours, cX10_fewestHours, 4, (some .int))
theorem mf_X10_fewestHours : MfV mX10_fewestHours 3 := ⟨⟨cO_X10_fewestHours, iN_X10, ⟨by decide +kernel, by decide +kernel⟩, by decide +kernel⟩, iM_X10_fewestHours, sE_X10_fewestHours⟩
abbrev mX10_measure : Mt := (yX10_measure, cX10_measure, 10, (none : Option Jvm.ClassFile.FieldType))
theorem mf_X10_measure : MfV mX10_measure 4 := ⟨⟨cO_X10_measure, iN_X10, ⟨by decide +kernel, by decide +kernel⟩, by decide +kernel⟩, iM_X10_measure, sE_X10_measure⟩
abbrev mX10_leastBehind : Mt := (yX10_leastBehind, cX10_leastBehind, 9, (some .int))
theorem mf_X10_leastBehind : MfV mX10_leastBehind 4 := ⟨⟨cO_X10_leastBehind, iN_X10, ⟨by decide +kernel, by decide +kernel⟩, by decide +kernel⟩, iM_X10_leastBehind, sE_X10_leastBehind⟩
abbrev mX10_farFrom : Mt := (yX10_farFrom, cX10_farFrom, 2, (some .int))
theorem mf_X10_farFrom : MfV mX10_farFrom 1 := ⟨⟨cO_X10_farFrom, iN_X10, ⟨by decide +kernel, by decide +kernel⟩, by decide +kernel⟩, iM_X10_farFrom, sE_X10_farFrom⟩
abbrev mX10_firstOfSoonest : Mt := (yX10_firstOfSoonest, cX10_firstOfSoonest, 6, (some .int))
theorem mf_X10_firstOfSoonest : MfV mX10_firstOfSoonest 3 := ⟨⟨cO_X10_firstOfSoonest, iN_X10, ⟨by decide +kernel, by decide +kernel⟩, by decide +kernel⟩, iM_X10_firstOfSoonest, sE_X10_firstOfSoonest⟩
abbrev mX11_cheapest : Mt := (yX11_cheapest, cX11_cheapest, 4, (some .int))
theorem mf_X11_cheapest : MfV mX11_cheapest 3 := ⟨⟨cO_X11_cheapest, iN_X11, ⟨by decide +kernel, by decide +kernel⟩, by decide +kernel⟩, iM_X11_cheapest, sE_X11_cheapest⟩
abbrev mX10_leastPrices : Mt := (yX10_leastPrices, cX10_leastPrices, 4, (some .int))
theorem mf_X10_leastPrices : MfV mX10_leastPrices 3 := ⟨⟨cO_X10_leastPrices, iN_X10, ⟨by decide +kernel, by decide +kernel⟩, by decide +kernel⟩, iM_X10_leastPrices, sE_X10_leastPrices⟩
abbrev mX11_reached : Mt := (yX11_reached, cX11_reached, 3, (some .int))
theorem mf_X11_reached : MfV mX11_reached 2 := ⟨⟨cO_X11_reached, iN_X11, ⟨by decide +kernel, by decide +kernel⟩, by decide +kernel⟩, iM_X11_reached, sE_X11_reached⟩
abbrev mX10_reachedFrom : Mt := (yX10_reachedFrom, cX10_reachedFrom, 5, (some .int))
theorem mf_X10_reachedFrom : MfV mX10_reachedFrom 2 := ⟨⟨cO_X10_reachedFrom, iN_X10, ⟨by decide +kernel, by decide +kernel⟩, by decide +kernel⟩, iM_X10_reachedFrom, sE_X10_reachedFrom⟩
abbrev mX11_lamps : Mt := (yX11_lamps, cX11_lamps, 1, (some .int))
theorem mf_X11_lamps : MfV mX11_lamps 0 := ⟨⟨cO_X11_lamps, iN_X11, ⟨by decide +kernel, by decide +kernel⟩, by decide +kernel⟩, iM_X11_lamps, sE_X11_lamps⟩
abbrev mX10_fewestLamps : Mt := (yX10_fewestLamps, cX10_fewestLamps, 3, (some .int))
theorem mf_X10_fewestLamps : MfV mX10_fewestLamps 0 := ⟨⟨cO_X10_fewestLamps, iN_X10, ⟨by decide +kernel, by decide +kernel⟩, by decide +kernel⟩, iM_X10_fewestLamps, sE_X10_fewestLamps⟩
abbrev mJ6_bitCount_0f7a4 : Mt := (yJ6_bitCount_0f7a4, cJ6_bitCount_0f7a4, 1, (some .int))
theorem mf_J6_bitCount_0f7a4 : MfT mJ6_bitCount_0f7a4 1 := ⟨⟨cO_J6_bitCount_0f7a4, iN_J6, ⟨by decide +kernel, by decide +kernel⟩, by decide +kernel⟩, sT_J6_bitCount_0f7a4⟩
abbrev mX10_joinsAll : Mt := (yX10_joinsAll, cX10_joinsAll, 4, (some .boolean))
theorem mf_X10_joinsAll : MfV mX10_joinsAll 1 := ⟨⟨cO_X10_joinsAll, iN_X10, ⟨by decide +kernel, by decide +kernel⟩, by decide +kernel⟩, iM_X10_joinsAll, sE_X10_joinsAll⟩
abbrev mX11_timetable : Mt := (yX11_timetable, cX11_timetable, 2, (some .int))
theorem mf_X11_timetable : MfV mX11_timetable 1 := ⟨⟨cO_X11_timetable, iN_X11, ⟨by decide +kernel, by decide +kernel⟩, by decide +kernel⟩, iM_X11_timetable, sE_X11_timetable⟩
abbrev mX7_leastDelay : Mt := (yX7_leastDelay, cX7_leastDelay, 1, (some .int))
theorem mf_X7_leastDelay : MfV mX7_leastDelay 0 := ⟨⟨cO_X7_leastDelay, iN_X7, ⟨by decide +kernel, by decide +kernel⟩, by decide +kernel⟩, iM_X7_leastDelay, sE_X7_leastDelay⟩
abbrev mX7_plan : Mt := (yX7_plan, cX7_plan, 1, (none : Option Jvm.ClassFile.FieldType))
theorem mf_X7_plan : MfV mX7_plan 0 := ⟨⟨cO_X7_plan, iN_X7, ⟨by decide +kernel, by decide +kernel⟩, by decide +kernel⟩, iM_X7_plan, sE_X7_plan⟩
abbrev mX7_followTrains : Mt := (yX7_followTrains, cX7_followTrains, 2, (none : Option Jvm.ClassFile.FieldType))
theorem mf_X7_followTrains : MfV mX7_followTrains 0 := ⟨⟨cO_X7_followTrains, iN_X7, ⟨by decide +kernel, by decide +kernel⟩, by decide +kernel⟩, iM_X7_followTrains, sE_X7_followTrains⟩
abbrev mX7_trains : Mt := (yX7_trains, cX7_trains, 1, (some .int))
theorem mf_X7_trains : MfV mX7_trains 0 := ⟨⟨cO_X7_trains, iN_X7, ⟨by decide +kernel, by decide +kernel⟩, by decide +kernel⟩, iM_X7_trains, sE_X7_trains⟩
abbrev mX7_followTrain : Mt := (yX7_followTrain, cX7_followTrain, 10, (none : Option Jvm.ClassFile.FieldType))
theorem mf_X7_followTrain : MfV mX7_followTrain 1 := ⟨⟨cO_X7_followTrain, iN_X7, ⟨by decide +kernel, by decide +kernel⟩, by decide +kernel⟩, iM_X7_followTrain, sE_X7_followTrain⟩
abbrev mX7_fillClashing : Mt := (yX7_fillClashing, cX7_fillClashing, 5, (none : Option Jvm.ClassFile.FieldType))
theorem mf_X7_fillClashing : MfV mX7_fillClashing 0 := ⟨⟨cO_X7_fillClashing, iN_X7, ⟨by decide +kernel, by decide +kernel⟩, by decide +kernel⟩, iM_X7_fillClashing, sE_X7_fillClashing⟩
abbrev mX7_clashesOf : Mt := (yX7_clashesOf, cX7_clashesOf, 10, (some .int))
theorem mf_X7_clashesOf : MfV mX7_clashesOf 3 := ⟨⟨cO_X7_clashesOf, iN_X7, ⟨by decide +kernel, by decide +kernel⟩, by decide +kernel⟩, iM_X7_clashesOf, sE_X7_clashesOf⟩
abbrev mX7_place : Mt := (yX7_place, cX7_place, 5, (none : Option Jvm.ClassFile.FieldType))
theorem mf_X7_place : MfV mX7_place 3 := ⟨⟨cO_X7_place, iN_X7, ⟨by decide +kernel, by decide +kernel⟩, by decide +kernel⟩, iM_X7_place, sE_X7_place⟩
abbrev mX7_fits : Mt := (yX7_fits, cX7_fits, 5, (some .boolean))
theorem mf_X7_fits : MfV mX7_fits 2 := ⟨⟨cO_X7_fits, iN_X7, ⟨by decide +kernel, by decide +kernel⟩, by decide +kernel⟩, iM_X7_fits, sE_X7_fits⟩
abbrev mX7_delayDigits : Mt := (yX7_delayDigits, cX7_delayDigits, 1, (some .int))
theorem mf_X7_delayDigits : MfV mX7_delayDigits 0 := ⟨⟨cO_X7_delayDigits, iN_X7, ⟨by decide +kernel, by decide +kernel⟩, by decide +kernel⟩, iM_X7_delayDigits, sE_X7_delayDigits⟩
abbrev mX11_clashes : Mt := (yX11_clashes, cX11_clashes, 1, (some .int))
theorem mf_X11_clashes : MfV mX11_clashes 0 := ⟨⟨cO_X11_clashes, iN_X11, ⟨by decide +kernel, by decide +kernel⟩, by decide +kernel⟩, iM_X11_clashes, sE_X11_clashes⟩
abbrev mX7_clashesAsTold : Mt := (yX7_clashesAsTold, cX7_clashesAsTold, 4, (some .int))
theorem mf_X7_clashesAsTold : MfV mX7_clashesAsTold 0 := ⟨⟨cO_X7_clashesAsTold, iN_X7, ⟨by decide +kernel, by decide +kernel⟩, by decide +kernel⟩, iM_X7_clashesAsTold, sE_X7_clashesAsTold⟩
abbrev mX11_lay : Mt := (yX11_lay, cX11_lay, 5, (some .int))
theorem mf_X11_lay : MfV mX11_lay 4 := ⟨⟨cO_X11_lay, iN_X11, ⟨by decide +kernel, by decide +kernel⟩, by decide +kernel⟩, iM_X11_lay, sE_X11_lay⟩
abbrev mX8_add : Mt := (yX8_add, cX8_add, 6, (some .int))
theorem mf_X8_add : MfV mX8_add 4 := ⟨⟨cO_X8_add, iN_X8, ⟨by decide +kernel, by decide +kernel⟩, by decide +kernel⟩, iM_X8_add, sE_X8_add⟩
abbrev mX11_nets : Mt := (yX11_nets, cX11_nets, 2, (some .int))
theorem mf_X11_nets : MfV mX11_nets 1 := ⟨⟨cO_X11_nets, iN_X11, ⟨by decide +kernel, by decide +kernel⟩, by decide +kernel⟩, iM_X11_nets, sE_X11_nets⟩
abbrev mX8_countNets : Mt := (yX8_countNets, cX8_countNets, 4, (some .int))
theorem mf_X8_countNets : MfV mX8_countNets 0 := ⟨⟨cO_X8_countNets, iN_X8, ⟨by decide +kernel, by decide +kernel⟩, by decide +kernel⟩, iM_X8_countNets, sE_X8_countNets⟩
abbrev mX8_beginAssumptions : Mt := (yX8_beginAssumptions, cX8_beginAssumptions, 4, (some .int))
theorem mf_X8_beginAssumptions : MfV mX8_beginAssumptions 0 := ⟨⟨cO_X8_beginAssumptions, iN_X8, ⟨by decide +kernel, by decide +kernel⟩, by decide +kernel⟩, iM_X8_beginAssumptions, sE_X8_beginAssumptions⟩
abbrev mX4_leadsOfDark : Mt := (yX4_leadsOfDark, cX4_leadsOfDark, 2, (some .int))
theorem mf_X4_leadsOfDark : MfV mX4_leadsOfDark 1 := ⟨⟨cO_X4_leadsOfDark, iN_X4, ⟨by decide +kernel, by decide +kernel⟩, by decide +kernel⟩, iM_X4_leadsOfDark, sE_X4_leadsOfDark⟩
abbrev mX8_unknownNow : Mt := (yX8_unknownNow, cX8_unknownNow, 3, (some .int))
theorem mf_X8_unknownNow : MfV mX8_unknownNow 0 := ⟨⟨cO_X8_unknownNow, iN_X8, ⟨by decide +kernel, by decide +kernel⟩, by decide +kernel⟩, iM_X8_unknownNow, sE_X8_unknownNow⟩
abbrev mX8_isNet : Mt := (yX8_isNet, cX8_isNet, 5, (some .boolean))
theorem mf_X8_isNet : MfV mX8_isNet 1 := ⟨⟨cO_X8_isNet, iN_X8, ⟨by decide +kernel, by decide +kernel⟩, by decide +kernel⟩, iM_X8_isNet, sE_X8_isNet⟩
abbrev mX8_fits : Mt := (yX8_fits, cX8_fits, 4, (some .boolean))
theorem mf_X8_fits : MfV mX8_fits 1 := ⟨⟨cO_X8_fits, iN_X8, ⟨by decide +kernel, by decide +kernel⟩, by decide +kernel⟩, iM_X8_fits, sE_X8_fits⟩
abbrev mX8_netAt : Mt := (yX8_netAt, cX8_netAt, 5, (some .int))
theorem mf_X8_netAt : MfV mX8_netAt 1 := ⟨⟨cO_X8_netAt, iN_X8, ⟨by decide +kernel, by decide +kernel⟩, by decide +kernel⟩, iM_X8_netAt, sE_X8_netAt⟩
abbrev mX8_assumedDigits : Mt := (yX8_assumedDigits, cX8_assumedDigits, 3, (some .int))
theorem mf_X8_assumedDigits : MfV mX8_assumedDigits 0 := ⟨⟨cO_X8_assumedDigits, iN_X8, ⟨by decide +kernel, by decide +kernel⟩, by decide +kernel⟩, iM_X8_assumedDigits, sE_X8_assumedDigits⟩
abbrev mX8_assumedMouth : Mt := (yX8_assumedMouth, cX8_assumedMouth, 2, (some .int))
theorem mf_X8_assumedMouth : MfV mX8_assumedMouth 1 := ⟨⟨cO_X8_assumedMouth, iN_X8, ⟨by decide +kernel, by decide +kernel⟩, by decide +kernel⟩, iM_X8_assumedMouth, sE_X8_assumedMouth⟩
abbrev mX11_could : Mt := (yX11_could, cX11_could, 2, (some .int))
theorem mf_X11_could : MfV mX11_could 1 := ⟨⟨cO_X11_could, iN_X11, ⟨by decide +kernel, by decide +kernel⟩, by decide +kernel⟩, iM_X11_could, sE_X11_could⟩
abbrev mX8_couldLead : Mt := (yX8_couldLead, cX8_couldLead, 5, (some .int))
theorem mf_X8_couldLead : MfV mX8_couldLead 1 := ⟨⟨cO_X8_couldLead, iN_X8, ⟨by decide +kernel, by decide +kernel⟩, by decide +kernel⟩, iM_X8_couldLead, sE_X8_couldLead⟩
abbrev mX11_tells : Mt := (yX11_tells, cX11_tells, 3, (some .int))
theorem mf_X11_tells : MfV mX11_tells 1 := ⟨⟨cO_X11_tells, iN_X11, ⟨by decide +kernel, by decide +kernel⟩, by decide +kernel⟩, iM_X11_tells, sE_X11_tells⟩
abbrev mX8_mostTelling : Mt := (yX8_mostTelling, cX8_mostTelling, 3, (some .int))
theorem mf_X8_mostTelling : MfV mX8_mostTelling 0 := ⟨⟨cO_X8_mostTelling, iN_X8, ⟨by decide +kernel, by decide +kernel⟩, by decide +kernel⟩, iM_X8_mostTelling, sE_X8_mostTelling⟩
abbrev mX8_countOften : Mt := (yX8_countOften, cX8_countOften, 3, (none : Option Jvm.ClassFile.FieldType))
theorem mf_X8_countOften : MfV mX8_countOften 0 := ⟨⟨cO_X8_countOften, iN_X8, ⟨by decide +kernel, by decide +kernel⟩, by decide +kernel⟩, iM_X8_countOften, sE_X8_countOften⟩
abbrev mX8_countAssumed : Mt := (yX8_countAssumed, cX8_countAssumed, 3, (none : Option Jvm.ClassFile.FieldType))
theorem mf_X8_countAssumed : MfV mX8_countAssumed 0 := ⟨⟨cO_X8_countAssumed, iN_X8, ⟨by decide +kernel, by decide +kernel⟩, by decide +kernel⟩, iM_X8_countAssumed, sE_X8_countAssumed⟩
abbrev mX8_mostOften : Mt := (yX8_mostOften, cX8_mostOften, 4, (some .int))
theorem mf_X8_mostOften : MfV mX8_mostOften 1 := ⟨⟨cO_X8_mostOften, iN_X8, ⟨by decide +kernel, by decide +kernel⟩, by decide +kernel⟩, iM_X8_mostOften, sE_X8_mostOften⟩
abbrev mX11_yards : Mt := (yX11_yards, cX11_yards, 4, (some .int))
theorem mf_X11_yards : MfV mX11_yards 3 := ⟨⟨cO_X11_yards, iN_X11, ⟨by decide +kernel, by decide +kernel⟩, by decide +kernel⟩, iM_X11_yards, sE_X11_yards⟩
abbrev mX1_yardsOf : Mt := (yX1_yardsOf, cX1_yardsOf, 6, (some .int))
theorem mf_X1_yardsOf : MfV mX1_yardsOf 3 := ⟨⟨cO_X1_yardsOf, iN_X1, ⟨by decide +kernel, by decide +kernel⟩, by decide +kernel⟩, iM_X1_yardsOf, sE_X1_yardsOf⟩
abbrev mX1_mouthOutAfter : Mt := (yX1_mouthOutAfter, cX1_mouthOutAfter, 8, (some .int))
theorem mf_X1_mouthOutAfter : MfV mX1_mouthOutAfter 3 := ⟨⟨cO_X1_mouthOutAfter, iN_X1, ⟨by decide +kernel, by decide +kernel⟩, by decide +kernel⟩, iM_X1_mouthOutAfter, sE_X1_mouthOutAfter⟩
abbrev mX11_unseen : Mt := (yX11_unseen, cX11_unseen, 3, (some .int))
theorem mf_X11_unseen : MfV mX11_unseen 2 := ⟨⟨cO_X11_unseen, iN_X11, ⟨by decide +kernel, by decide +kernel⟩, by decide +kernel⟩, iM_X11_unseen, sE_X11_unseen⟩
abbrev mX10_fewestHoursUnseen : Mt := (yX10_fewestHoursUnseen, cX10_fewestHoursUnseen, 3, (some .int))
theorem mf_X10_fewestHoursUnseen : MfV mX10_fewestHoursUnseen 2 := ⟨⟨cO_X10_fewestHoursUnseen, iN_X10, ⟨by decide +kernel, by decide +kernel⟩, by decide +kernel⟩, iM_X10_fewestHoursUnseen, sE_X10_fewestHoursUnseen⟩
abbrev mX10_guarded : Mt := (yX10_guarded, cX10_guarded, 3, (some .int))
theorem mf_X10_guarded : MfV mX10_guarded 0 := ⟨⟨cO_X10_guarded, iN_X10, ⟨by decide +kernel, by decide +kernel⟩, by decide +kernel⟩, iM_X10_guarded, sE_X10_guarded⟩
abbrev mX11_posts : Mt := (yX11_posts, cX11_posts, 3, (some .int))
theorem mf_X11_posts : MfV mX11_posts 2 := ⟨⟨cO_X11_posts, iN_X11, ⟨by decide +kernel, by decide +kernel⟩, by decide +kernel⟩, iM_X11_posts, sE_X11_posts⟩
abbrev mX10_fewestPosts : Mt := (yX10_fewestPosts, cX10_fewestPosts, 7, (some .int))
theorem mf_X10_fewestPosts : MfV mX10_fewestPosts 2 := ⟨⟨cO_X10_fewestPosts, iN_X10, ⟨by decide +kernel, by decide +kernel⟩, by decide +kernel⟩, iM_X10_fewestPosts, sE_X10_fewestPosts⟩
abbrev mX10_fillNexts : Mt := (yX10_fillNexts, cX10_fillNexts, 2, (none : Option Jvm.ClassFile.FieldType))
theorem mf_X10_fillNexts : MfV mX10_fillNexts 0 := ⟨⟨cO_X10_fillNexts, iN_X10, ⟨by decide +kernel, by decide +kernel⟩, by decide +kernel⟩, iM_X10_fillNexts, sE_X10_fillNexts⟩
abbrev mX10_sneaks : Mt := (yX10_sneaks, cX10_sneaks, 7, (some .boolean))
theorem mf_X10_sneaks : MfV mX10_sneaks 3 := ⟨⟨cO_X10_sneaks, iN_X10, ⟨by decide +kernel, by decide +kernel⟩, by decide +kernel⟩, iM_X10_sneaks, sE_X10_sneaks⟩
abbrev mX11_halves : Mt := (yX11_halves, cX11_halves, 4, (some .int))
theorem mf_X11_halves : MfV mX11_halves 3 := ⟨⟨cO_X11_halves, iN_X11, ⟨by decide +kernel, by decide +kernel⟩, by decide +kernel⟩, iM_X11_halves, sE_X11_halves⟩
abbrev mX10_fewestTogether : Mt := (yX10_fewestTogether, cX10_fewestTogether, 9, (some .int))
theorem mf_X10_fewestTogether : MfV mX10_fewestTogether 3 := ⟨⟨cO_X10_fewestTogether, iN_X10, ⟨by decide +kernel, by decide +kernel⟩, by decide +kernel⟩, iM_X10_fewestTogether, sE_X10_fewestTogether⟩
abbrev mX10_pairsBehind : Mt := (yX10_pairsBehind, cX10_pairsBehind, 9, (some .long))
theorem mf_X10_pairsBehind : MfV mX10_pairsBehind 2 := ⟨⟨cO_X10_pairsBehind, iN_X10, ⟨by decide +kernel, by decide +kernel⟩, by decide +kernel⟩, iM_X10_pairsBehind, sE_X10_pairsBehind⟩
abbrev mX11_smuggles : Mt := (yX11_smuggles, cX11_smuggles, 5, (some .int))
theorem mf_X11_smuggles : MfV mX11_smuggles 4 := ⟨⟨cO_X11_smuggles, iN_X11, ⟨by decide +kernel, by decide +kernel⟩, by decide +kernel⟩, iM_X11_smuggles, sE_X11_smuggles⟩
abbrev mX7_notMet : Mt := (yX7_notMet, cX7_notMet, 8, (some .int))
theorem mf_X7_notMet : MfV mX7_notMet 4 := ⟨⟨cO_X7_notMet, iN_X7, ⟨by decide +kernel, by decide +kernel⟩, by decide +kernel⟩, iM_X7_notMet, sE_X7_notMet⟩
abbrev mX11_rests : Mt := (yX11_rests, cX11_rests, 4, (some .int))
theorem mf_X11_rests : MfV mX11_rests 3 := ⟨⟨cO_X11_rests, iN_X11, ⟨by decide +kernel, by decide +kernel⟩, by decide +kernel⟩, iM_X11_rests, sE_X11_rests⟩
abbrev mX7_countRests : Mt := (yX7_countRests, cX7_countRests, 6, (some .int))
theorem mf_X7_countRests : MfV mX7_countRests 2 := ⟨⟨cO_X7_countRests, iN_X7, ⟨by decide +kernel, by decide +kernel⟩, by decide +kernel⟩, iM_X7_countRests, sE_X7_countRests⟩
abbrev mX7_isRest : Mt := (yX7_isRest, cX7_isRest, 7, (some .boolean))
theorem mf_X7_isRest : MfV mX7_isRest 4 := ⟨⟨cO_X7_isRest, iN_X7, ⟨by decide +kernel, by decide +kernel⟩, by decide +kernel⟩, iM_X7_isRest, sE_X7_isRest⟩
abbrev mX7_restAt : Mt := (yX7_restAt, cX7_restAt, 7, (some .int))
theorem mf_X7_restAt : MfV mX7_restAt 3 := ⟨⟨cO_X7_restAt, iN_X7, ⟨by decide +kernel, by decide +kernel⟩, by decide +kernel⟩, iM_X7_restAt, sE_X7_restAt⟩
abbrev mX11_astray : Mt := (yX11_astray, cX11_astray, 1, (some .int))
theorem mf_X11_astray : MfV mX11_astray 0 := ⟨⟨cO_X11_astray, iN_X11, ⟨by decide +kernel, by decide +kernel⟩, by decide +kernel⟩, iM_X11_astray, sE_X11_astray⟩
abbrev mX4_trainsInside : Mt := (yX4_trainsInside, cX4_trainsInside, 3, (some .int))
theorem mf_X4_trainsInside : MfV mX4_trainsInside 0 := ⟨⟨cO_X4_trainsInside, iN_X4, ⟨by decide +kernel, by decide +kernel⟩, by decide +kernel⟩, iM_X4_trainsInside, sE_X4_trainsInside⟩
abbrev mX11_due : Mt := (yX11_due, cX11_due, 2, (some .int))
theorem mf_X11_due : MfV mX11_due 1 := ⟨⟨cO_X11_due, iN_X11, ⟨by decide +kernel, by decide +kernel⟩, by decide +kernel⟩, iM_X11_due, sE_X11_due⟩
abbrev mX4_hoursTillOut : Mt := (yX4_hoursTillOut, cX4_hoursTillOut, 2, (some .int))
theorem mf_X4_hoursTillOut : MfV mX4_hoursTillOut 1 := ⟨⟨cO_X4_hoursTillOut, iN_X4, ⟨by decide +kernel, by decide +kernel⟩, by decide +kernel⟩, iM_X4_hoursTillOut, sE_X4_hoursTillOut⟩
abbrev mX11_loops : Mt := (yX11_loops, cX11_loops, 2, (some .int))
theorem mf_X11_loops : MfV mX11_loops 1 := ⟨⟨cO_X11_loops, iN_X11, ⟨by decide +kernel, by decide +kernel⟩, by decide +kernel⟩, iM_X11_loops, sE_X11_loops⟩
abbrev mX10_loopsAt : Mt := (yX10_loopsAt, cX10_loopsAt, 4, (some .int))
theorem mf_X10_loopsAt : MfV mX10_loopsAt 1 := ⟨⟨cO_X10_loopsAt, iN_X10, ⟨by decide +kernel, by decide +kernel⟩, by decide +kernel⟩, iM_X10_loopsAt, sE_X10_loopsAt⟩
abbrev mX11_safe : Mt := (yX11_safe, cX11_safe, 1, (some .int))
theorem mf_X11_safe : MfV mX11_safe 0 := ⟨⟨cO_X11_safe, iN_X11, ⟨by decide +kernel, by decide +kernel⟩, by decide +kernel⟩, iM_X11_safe, sE_X11_safe⟩
abbrev mX10_sameByAll : Mt := (yX10_sameByAll, cX10_sameByAll, 4, (some .int))
theorem mf_X10_sameByAll : MfV mX10_sameByAll 0 := ⟨⟨cO_X10_sameByAll, iN_X10, ⟨by decide +kernel, by decide +kernel⟩, by decide +kernel⟩, iM_X10_sameByAll, sE_X10_sameByAll⟩
abbrev mX11_visits : Mt := (yX11_visits, cX11_visits, 2, (some .int))
theorem mf_X11_visits : MfV mX11_visits 1 := ⟨⟨cO_X11_visits, iN_X11, ⟨by decide +kernel, by decide +kernel⟩, by decide +kernel⟩, iM_X11_visits, sE_X11_visits⟩
abbrev mX4_timesOut : Mt := (yX4_timesOut, cX4_timesOut, 4, (some .int))
theorem mf_X4_timesOut : MfV mX4_timesOut 1 := ⟨⟨cO_X4_timesOut, iN_X4, ⟨by decide +kernel, by decide +kernel⟩, by decide +kernel⟩, iM_X4_timesOut, sE_X4_timesOut⟩
abbrev mX11_image : Mt := (yX11_image, cX11_image, 1, (some .int))
theorem mf_X11_image : MfV mX11_image 0 := ⟨⟨cO_X11_image, iN_X11, ⟨by decide +kernel, by decide +kernel⟩, by decide +kernel⟩, iM_X11_image, sE_X11_image⟩
abbrev mX0_keepImage : Mt := (yX0_keepImage, cX0_keepImage, 1, (none : Option Jvm.ClassFile.FieldType))
theorem mf_X0_keepImage : MfV mX0_keepImage 0 := ⟨⟨cO_X0_keepImage, iN_X0, ⟨by decide +kernel, by decide +kernel⟩, by decide +kernel⟩, iM_X0_keepImage, sE_X0_keepImage⟩
abbrev mX11_back : Mt := (yX11_back, cX11_back, 1, (some .int))
theorem mf_X11_back : MfV mX11_back 0 := ⟨⟨cO_X11_back, iN_X11, ⟨by decide +kernel, by decide +kernel⟩, by decide +kernel⟩, iM_X11_back, sE_X11_back⟩
abbrev mX0_bringBack : Mt := (yX0_bringBack, cX0_bringBack, 1, (some .boolean))
theorem mf_X0_bringBack : MfV mX0_bringBack 0 := ⟨⟨cO_X0_bringBack, iN_X0, ⟨by decide +kernel, by decide +kernel⟩, by decide +kernel⟩, iM_X0_bringBack, sE_X0_bringBack⟩
abbrev mX11_count : Mt := (yX11_count, cX11_count, 2, (some .int))
theorem mf_X11_count : MfV mX11_count 1 := ⟨⟨cO_X11_count, iN_X11, ⟨by decide +kernel, by decide +kernel⟩, by decide +kernel⟩, iM_X11_count, sE_X11_count⟩
abbrev mX4_guardsInAll : Mt := (yX4_guardsInAll, cX4_guardsInAll, 3, (some .int))
theorem mf_X4_guardsInAll : MfV mX4_guardsInAll 0 := ⟨⟨cO_X4_guardsInAll, iN_X4, ⟨by decide +kernel, by decide +kernel⟩, by decide +kernel⟩, iM_X4_guardsInAll, sE_X4_guardsInAll⟩
abbrev mX3_many : Mt := (yX3_many, cX3_many, 1, (some .int))
theorem mf_X3_many : MfV mX3_many 0 := ⟨⟨cO_X3_many, iN_X3, ⟨by decide +kernel, by decide +kernel⟩, by decide +kernel⟩, iM_X3_many, sE_X3_many⟩
abbrev mX11_countMore : Mt := (yX11_countMore, cX11_countMore, 2, (some .int))
theorem mf_X11_countMore : MfV mX11_countMore 1 := ⟨⟨cO_X11_countMore, iN_X11, ⟨by decide +kernel, by decide +kernel⟩, by decide +kernel⟩, iM_X11_countMore, sE_X11_countMore⟩
abbrev mX4_meetings : Mt := (yX4_meetings, cX4_meetings, 1, (some .int))
theorem mf_X4_meetings : MfV mX4_meetings 0 := ⟨⟨cO_X4_meetings, iN_X4, ⟨by decide +kernel, by decide +kernel⟩, by decide +kernel⟩, iM_X4_meetings, sE_X4_meetings⟩
abbrev mX1_fogLevel : Mt := (yX1_fogLevel, cX1_fogLevel, 1, (some .int))
theorem mf_X1_fogLevel : MfV mX1_fogLevel 0 := ⟨⟨cO_X1_fogLevel, iN_X1, ⟨by decide +kernel, by decide +kernel⟩, by decide +kernel⟩, iM_X1_fogLevel, sE_X1_fogLevel⟩
abbrev mX8_many : Mt := (yX8_many, cX8_many, 1, (some .int))
theorem mf_X8_many : MfV mX8_many 0 := ⟨⟨cO_X8_many, iN_X8, ⟨by decide +kernel, by decide +kernel⟩, by decide +kernel⟩, iM_X8_many, sE_X8_many⟩
abbrev mX0_many : Mt := (yX0_many, cX0_many, 1, (some .int))
theorem mf_X0_many : MfV mX0_many 0 := ⟨⟨cO_X0_many, iN_X0, ⟨by decide +kernel, by decide +kernel⟩, by decide +kernel⟩, iM_X0_many, sE_X0_many⟩
abbrev mX11_train : Mt := (yX11_train, cX11_train, 3, (some .int))
theorem mf_X11_train : MfV mX11_train 2 := ⟨⟨cO_X11_train, iN_X11, ⟨by decide +kernel, by decide +kernel⟩, by decide +kernel⟩, iM_X11_train, sE_X11_train⟩
abbrev mX12_init : Mt := (yX12_init, cX12_init, 1, (none : Option Jvm.ClassFile.FieldType))
theorem mf_X12_init : MfS mX12_init 0 := ⟨cO_X12_init, iN_X12, ⟨by decide +kernel, by decide +kernel⟩, by decide +kernel⟩
abbrev mX12_thrown : Mt := (yX12_thrown, cX12_thrown, 1, (some .int))
theorem mf_X12_thrown : MfV mX12_thrown 0 := ⟨⟨cO_X12_thrown, iN_X12, ⟨by decide +kernel, by decide +kernel⟩, by decide +kernel⟩, iM_X12_thrown, sE_X12_thrown⟩
abbrev mX12_feed : Mt := (yX12_feed, cX12_feed, 9, (some .int))
theorem mf_X12_feed : MfV mX12_feed 5 := ⟨⟨cO_X12_feed, iN_X12, ⟨by decide +kernel, by decide +kernel⟩, by decide +kernel⟩, iM_X12_feed, sE_X12_feed⟩
abbrev mX12_byteOf : Mt := (yX12_byteOf, cX12_byteOf, 7, (some .int))
theorem mf_X12_byteOf : MfT mX12_byteOf 6 := ⟨⟨cO_X12_byteOf, iN_X12, ⟨by decide +kernel, by decide +kernel⟩, by decide +kernel⟩, sT_X12_byteOf⟩
abbrev mX12_end : Mt := (yX12_end, cX12_end, 2, (some .boolean))
theorem mf_X12_end : MfV mX12_end 1 := ⟨⟨cO_X12_end, iN_X12, ⟨by decide +kernel, by decide +kernel⟩, by decide +kernel⟩, iM_X12_end, sE_X12_end⟩
abbrev mX12_fault : Mt := (yX12_fault, cX12_fault, 2, (some .int))
theorem mf_X12_fault : MfV mX12_fault 1 := ⟨⟨cO_X12_fault, iN_X12, ⟨by decide +kernel, by decide +kernel⟩, by decide +kernel⟩, iM_X12_fault, sE_X12_fault⟩
abbrev mX12_readAll : Mt := (yX12_readAll, cX12_readAll, 4, (some .int))
theorem mf_X12_readAll : MfV mX12_readAll 0 := ⟨⟨cO_X12_readAll, iN_X12, ⟨by decide +kernel, by decide +kernel⟩, by decide +kernel⟩, iM_X12_readAll, sE_X12_readAll⟩
abbrev mX12_usual : Mt := (yX12_usual, cX12_usual, 2, (some .int))
theorem mf_X12_usual : MfT mX12_usual 2 := ⟨⟨cO_X12_usual, iN_X12, ⟨by decide +kernel, by decide +kernel⟩, by decide +kernel⟩, sT_X12_usual⟩
abbrev mX12_look : Mt := (yX12_look, cX12_look, 1, (some .int))
theorem mf_X12_look : MfV mX12_look 0 := ⟨⟨cO_X12_look, iN_X12, ⟨by decide +kernel, by decide +kernel⟩, by decide +kernel⟩, iM_X12_look, sE_X12_look⟩
abbrev mX12_here : Mt := (yX12_here, cX12_here, 1, (some .int))
theorem mf_X12_here : MfV mX12_here 0 := ⟨⟨cO_X12_here, iN_X12, ⟨by decide +kernel, by decide +kernel⟩, by decide +kernel⟩, iM_X12_here, sE_X12_here⟩
abbrev mX12_items : Mt := (yX12_items, cX12_items, 7, (none : Option Jvm.ClassFile.FieldType))
theorem mf_X12_items : MfV mX12_items 4 := ⟨⟨cO_X12_items, iN_X12, ⟨by decide +kernel, by decide +kernel⟩, by decide +kernel⟩, iM_X12_items, sE_X12_items⟩
abbrev mX12_itemOf : Mt := (yX12_itemOf, cX12_itemOf, 2, (some .int))
theorem mf_X12_itemOf : MfT mX12_itemOf 2 := ⟨⟨cO_X12_itemOf, iN_X12, ⟨by decide +kernel, by decide +kernel⟩, by decide +kernel⟩, sT_X12_itemOf⟩
abbrev mX12_has : Mt := (yX12_has, cX12_has, 2, (some .boolean))
theorem mf_X12_has : MfT mX12_has 2 := ⟨⟨cO_X12_has, iN_X12, ⟨by decide +kernel, by decide +kernel⟩, by decide +kernel⟩, sT_X12_has⟩
abbrev mX12_lowest : Mt := (yX12_lowest, cX12_lowest, 2, (some .int))
theorem mf_X12_lowest : MfT mX12_lowest 2 := ⟨⟨cO_X12_lowest, iN_X12, ⟨by decide +kernel, by decide +kernel⟩, by decide +kernel⟩, sT_X12_lowest⟩
abbrev mX12_highest : Mt := (yX12_highest, cX12_highest, 2, (some .int))
theorem mf_X12_highest : MfT mX12_highest 2 := ⟨⟨cO_X12_highest, iN_X12, ⟨by decide +kernel, by decide +kernel⟩, by decide +kernel⟩, sT_X12_highest⟩
abbrev mX12_number : Mt := (yX12_number, cX12_number, 4, (some .int))
theorem mf_X12_number : MfV mX12_number 2 := ⟨⟨cO_X12_number, iN_X12, ⟨by decide +kernel, by decide +kernel⟩, by decide +kernel⟩, iM_X12_number, sE_X12_number⟩
abbrev mX12_isDigit : Mt := (yX12_isDigit, cX12_isDigit, 1, (some .boolean))
theorem mf_X12_isDigit : MfT mX12_isDigit 1 := ⟨⟨cO_X12_isDigit, iN_X12, ⟨by decide +kernel, by decide +kernel⟩, by decide +kernel⟩, sT_X12_isDigit⟩
abbrev mX12_bad : Mt := (yX12_bad, cX12_bad, 1, (none : Option Jvm.ClassFile.FieldType))
theorem mf_X12_bad : MfV mX12_bad 0 := ⟨⟨cO_X12_bad, iN_X12, ⟨by decide +kernel, by decide +kernel⟩, by decide +kernel⟩, iM_X12_bad, sE_X12_bad⟩
abbrev mX12_in : Mt := (yX12_in, cX12_in, 3, (some .boolean))
theorem mf_X12_in : MfT mX12_in 3 := ⟨⟨cO_X12_in, iN_X12, ⟨by decide +kernel, by decide +kernel⟩, by decide +kernel⟩, sT_X12_in⟩
abbrev mX12_isWhole : Mt := (yX12_isWhole, cX12_isWhole, 7, (some .boolean))
theorem mf_X12_isWhole : MfV mX12_isWhole 0 := ⟨⟨cO_X12_isWhole, iN_X12, ⟨by decide +kernel, by decide +kernel⟩, by decide +kernel⟩, iM_X12_isWhole, sE_X12_isWhole⟩
abbrev mX12_readLaw : Mt := (yX12_readLaw, cX12_readLaw, 2, (some .int))
theorem mf_X12_readLaw : MfV mX12_readLaw 1 := ⟨⟨cO_X12_readLaw, iN_X12, ⟨by decide +kernel, by decide +kernel⟩, by decide +kernel⟩, iM_X12_readLaw, sE_X12_readLaw⟩
abbrev mX12_open : Mt := (yX12_open, cX12_open, 2, (none : Option Jvm.ClassFile.FieldType))
theorem mf_X12_open : MfV mX12_open 1 := ⟨⟨cO_X12_open, iN_X12, ⟨by decide +kernel, by decide +kernel⟩, by decide +kernel⟩, iM_X12_open, sE_X12_open⟩
abbrev mX12_clause : Mt := (yX12_clause, cX12_clause, 3, (none : Option Jvm.ClassFile.FieldType))
theorem mf_X12_clause : MfV mX12_clause 0 := ⟨⟨cO_X12_clause, iN_X12, ⟨by decide +kernel, by decide +kernel⟩, by decide +kernel⟩, iM_X12_clause, sE_X12_clause⟩
abbrev mX12_condition : Mt := (yX12_condition, cX12_condition, 1, (none : Option Jvm.ClassFile.FieldType))
theorem mf_X12_condition : MfV mX12_condition 0 := ⟨⟨cO_X12_condition, iN_X12, ⟨by decide +kernel, by decide +kernel⟩, by decide +kernel⟩, iM_X12_condition, sE_X12_condition⟩
abbrev mX12_unit : Mt := (yX12_unit, cX12_unit, 2, (none : Option Jvm.ClassFile.FieldType))
theorem mf_X12_unit : MfV mX12_unit 0 := ⟨⟨cO_X12_unit, iN_X12, ⟨by decide +kernel, by decide +kernel⟩, by decide +kernel⟩, iM_X12_unit, sE_X12_unit⟩
abbrev mX12_opens : Mt := (yX12_opens, cX12_opens, 1, (none : Option Jvm.ClassFile.FieldType))
theorem mf_X12_opens : MfV mX12_opens 0 := ⟨⟨cO_X12_opens, iN_X12, ⟨by decide +kernel, by decide +kernel⟩, by decide +kernel⟩, iM_X12_opens, sE_X12_opens⟩
abbrev mX12_put : Mt := (yX12_put, cX12_put, 3, (none : Option Jvm.ClassFile.FieldType))
theorem mf_X12_put : MfV mX12_put 2 := ⟨⟨cO_X12_put, iN_X12, ⟨by decide +kernel, by decide +kernel⟩, by decide +kernel⟩, iM_X12_put, sE_X12_put⟩
abbrev mX12_closes : Mt := (yX12_closes, cX12_closes, 2, (none : Option Jvm.ClassFile.FieldType))
theorem mf_X12_closes : MfV mX12_closes 1 := ⟨⟨cO_X12_closes, iN_X12, ⟨by decide +kernel, by decide +kernel⟩, by decide +kernel⟩, iM_X12_closes, sE_X12_closes⟩
abbrev mX12_sum : Mt := (yX12_sum, cX12_sum, 2, (none : Option Jvm.ClassFile.FieldType))
theorem mf_X12_sum : MfV mX12_sum 0 := ⟨⟨cO_X12_sum, iN_X12, ⟨by decide +kernel, by decide +kernel⟩, by decide +kernel⟩, iM_X12_sum, sE_X12_sum⟩
abbrev mX12_term : Mt := (yX12_term, cX12_term, 2, (none : Option Jvm.ClassFile.FieldType))
theorem mf_X12_term : MfV mX12_term 0 := ⟨⟨cO_X12_term, iN_X12, ⟨by decide +kernel, by decide +kernel⟩, by decide +kernel⟩, iM_X12_term, sE_X12_term⟩
abbrev mX12_atom : Mt := (yX12_atom, cX12_atom, 2, (none : Option Jvm.ClassFile.FieldType))
theorem mf_X12_atom : MfV mX12_atom 0 := ⟨⟨cO_X12_atom, iN_X12, ⟨by decide +kernel, by decide +kernel⟩, by decide +kernel⟩, iM_X12_atom, sE_X12_atom⟩
abbrev mX12_plainNumber : Mt := (yX12_plainNumber, cX12_plainNumber, 3, (some .int))
theorem mf_X12_plainNumber : MfV mX12_plainNumber 0 := ⟨⟨cO_X12_plainNumber, iN_X12, ⟨by decide +kernel, by decide +kernel⟩, by decide +kernel⟩, iM_X12_plainNumber, sE_X12_plainNumber⟩
abbrev mX12_letterOf : Mt := (yX12_letterOf, cX12_letterOf, 1, (some .int))
theorem mf_X12_letterOf : MfT mX12_letterOf 1 := ⟨⟨cO_X12_letterOf, iN_X12, ⟨by decide +kernel, by decide +kernel⟩, by decide +kernel⟩, sT_X12_letterOf⟩
abbrev mX12_compare : Mt := (yX12_compare, cX12_compare, 2, (none : Option Jvm.ClassFile.FieldType))
theorem mf_X12_compare : MfV mX12_compare 0 := ⟨⟨cO_X12_compare, iN_X12, ⟨by decide +kernel, by decide +kernel⟩, by decide +kernel⟩, iM_X12_compare, sE_X12_compare⟩
abbrev mX12_isSign : Mt := (yX12_isSign, cX12_isSign, 1, (some .boolean))
theorem mf_X12_isSign : MfT mX12_isSign 1 := ⟨⟨cO_X12_isSign, iN_X12, ⟨by decide +kernel, by decide +kernel⟩, by decide +kernel⟩, sT_X12_isSign⟩
abbrev mX12_goOnAnd : Mt := (yX12_goOnAnd, cX12_goOnAnd, 1, (none : Option Jvm.ClassFile.FieldType))
theorem mf_X12_goOnAnd : MfV mX12_goOnAnd 0 := ⟨⟨cO_X12_goOnAnd, iN_X12, ⟨by decide +kernel, by decide +kernel⟩, by decide +kernel⟩, iM_X12_goOnAnd, sE_X12_goOnAnd⟩
abbrev mX12_goOnOr : Mt := (yX12_goOnOr, cX12_goOnOr, 1, (none : Option Jvm.ClassFile.FieldType))
theorem mf_X12_goOnOr : MfV mX12_goOnOr 0 := ⟨⟨cO_X12_goOnOr, iN_X12, ⟨by decide +kernel, by decide +kernel⟩, by decide +kernel⟩, iM_X12_goOnOr, sE_X12_goOnOr⟩
abbrev mX12_atEnd : Mt := (yX12_atEnd, cX12_atEnd, 1, (some .int))
theorem mf_X12_atEnd : MfV mX12_atEnd 0 := ⟨⟨cO_X12_atEnd, iN_X12, ⟨by decide +kernel, by decide +kernel⟩, by decide +kernel⟩, iM_X12_atEnd, sE_X12_atEnd⟩
abbrev mX12_text : Mt := (yX12_text, cX12_text, 2, (some .int))
theorem mf_X12_text : MfV mX12_text 1 := ⟨⟨cO_X12_text, iN_X12, ⟨by decide +kernel, by decide +kernel⟩, by decide +kernel⟩, iM_X12_text, sE_X12_text⟩
abbrev mX12_takeAll : Mt := (yX12_takeAll, cX12_takeAll, 2, (some .int))
theorem mf_X12_takeAll : MfV mX12_takeAll 0 := ⟨⟨cO_X12_takeAll, iN_X12, ⟨by decide +kernel, by decide +kernel⟩, by decide +kernel⟩, iM_X12_takeAll, sE_X12_takeAll⟩
abbrev mX12_takeTunnels : Mt := (yX12_takeTunnels, cX12_takeTunnels, 4, (none : Option Jvm.ClassFile.FieldType))
theorem mf_X12_takeTunnels : MfV mX12_takeTunnels 0 := ⟨⟨cO_X12_takeTunnels, iN_X12, ⟨by decide +kernel, by decide +kernel⟩, by decide +kernel⟩, iM_X12_takeTunnels, sE_X12_takeTunnels⟩
abbrev mX12_begin : Mt := (yX12_begin, cX12_begin, 6, (none : Option Jvm.ClassFile.FieldType))
theorem mf_X12_begin : MfV mX12_begin 5 := ⟨⟨cO_X12_begin, iN_X12, ⟨by decide +kernel, by decide +kernel⟩, by decide +kernel⟩, iM_X12_begin, sE_X12_begin⟩
abbrev mX12_put_ : Mt := (yX12_put_, cX12_put_, 4, (none : Option Jvm.ClassFile.FieldType))
theorem mf_X12_put_ : MfV mX12_put_ 3 := ⟨⟨cO_X12_put_, iN_X12, ⟨by decide +kernel, by decide +kernel⟩, by decide +kernel⟩, iM_X12_put_, sE_X12_put_⟩
abbrev mX12_dark : Mt := (yX12_dark, cX12_dark, 5, (some .int))
theorem mf_X12_dark : MfV mX12_dark 3 := ⟨⟨cO_X12_dark, iN_X12, ⟨by decide +kernel, by decide +kernel⟩, by decide +kernel⟩, iM_X12_dark, sE_X12_dark⟩
abbrev mX12_isMouth : Mt := (yX12_isMouth, cX12_isMouth, 2, (some .boolean))
theorem mf_X12_isMouth : MfV mX12_isMouth 1 := ⟨⟨cO_X12_isMouth, iN_X12, ⟨by decide +kernel, by decide +kernel⟩, by decide +kernel⟩, iM_X12_isMouth, sE_X12_isMouth⟩
abbrev mX12_isLamp : Mt := (yX12_isLamp, cX12_isLamp, 2, (some .boolean))
theorem mf_X12_isLamp : MfV mX12_isLamp 1 := ⟨⟨cO_X12_isLamp, iN_X12, ⟨by decide +kernel, by decide +kernel⟩, by decide +kernel⟩, iM_X12_isLamp, sE_X12_isLamp⟩
abbrev mX12_isColour : Mt := (yX12_isColour, cX12_isColour, 2, (some .boolean))
theorem mf_X12_isColour : MfV mX12_isColour 1 := ⟨⟨cO_X12_isColour, iN_X12, ⟨by decide +kernel, by decide +kernel⟩, by decide +kernel⟩, iM_X12_isColour, sE_X12_isColour⟩
abbrev mX12_leads : Mt := (yX12_leads, cX12_leads, 4, (some .int))
theorem mf_X12_leads : MfV mX12_leads 2 := ⟨⟨cO_X12_leads, iN_X12, ⟨by decide +kernel, by decide +kernel⟩, by decide +kernel⟩, iM_X12_leads, sE_X12_leads⟩
abbrev mX12_lasts : Mt := (yX12_lasts, cX12_lasts, 3, (some .int))
theorem mf_X12_lasts : MfV mX12_lasts 2 := ⟨⟨cO_X12_lasts, iN_X12, ⟨by decide +kernel, by decide +kernel⟩, by decide +kernel⟩, iM_X12_lasts, sE_X12_lasts⟩
abbrev mX12_price : Mt := (yX12_price, cX12_price, 4, (some .int))
theorem mf_X12_price : MfV mX12_price 2 := ⟨⟨cO_X12_price, iN_X12, ⟨by decide +kernel, by decide +kernel⟩, by decide +kernel⟩, iM_X12_price, sE_X12_price⟩
abbrev mX12_worthOf : Mt := (yX12_worthOf, cX12_worthOf, 3, (some .int))
theorem mf_X12_worthOf : MfV mX12_worthOf 1 := ⟨⟨cO_X12_worthOf, iN_X12, ⟨by decide +kernel, by decide +kernel⟩, by decide +kernel⟩, iM_X12_worthOf, sE_X12_worthOf⟩
abbrev mX12_workOut : Mt := (yX12_workOut, cX12_workOut, 6, (some .int))
theorem mf_X12_workOut : MfV mX12_workOut 3 := ⟨⟨cO_X12_workOut, iN_X12, ⟨by decide +kernel, by decide +kernel⟩, by decide +kernel⟩, iM_X12_workOut, sE_X12_workOut⟩
abbrev mX12_worked : Mt := (yX12_worked, cX12_worked, 5, (some .int))
theorem mf_X12_worked : MfT mX12_worked 3 := ⟨⟨cO_X12_worked, iN_X12, ⟨by decide +kernel, by decide +kernel⟩, by decide +kernel⟩, sT_X12_worked⟩
abbrev mX12_bounded : Mt := (yX12_bounded, cX12_bounded, 2, (some .int))
theorem mf_X12_bounded : MfT mX12_bounded 1 := ⟨⟨cO_X12_bounded, iN_X12, ⟨by decide +kernel, by decide +kernel⟩, by decide +kernel⟩, sT_X12_bounded⟩
abbrev mX12_train : Mt := (yX12_train, cX12_train, 3, (some .int))
theorem mf_X12_train : MfV mX12_train 2 := ⟨⟨cO_X12_train, iN_X12, ⟨by decide +kernel, by decide +kernel⟩, by decide +kernel⟩, iM_X12_train, sE_X12_train⟩
abbrev mX12_isTrain : Mt := (yX12_isTrain, cX12_isTrain, 2, (some .boolean))
theorem mf_X12_isTrain : MfV mX12_isTrain 1 := ⟨⟨cO_X12_isTrain, iN_X12, ⟨by decide +kernel, by decide +kernel⟩, by decide +kernel⟩, iM_X12_isTrain, sE_X12_isTrain⟩
abbrev mX12_of : Mt := (yX12_of, cX12_of, 3, (some .int))
theorem mf_X12_of : MfV mX12_of 2 := ⟨⟨cO_X12_of, iN_X12, ⟨by decide +kernel, by decide +kernel⟩, by decide +kernel⟩, iM_X12_of, sE_X12_of⟩
abbrev mX12_lampOf : Mt := (yX12_lampOf, cX12_lampOf, 2, (some .int))
theorem mf_X12_lampOf : MfV mX12_lampOf 1 := ⟨⟨cO_X12_lampOf, iN_X12, ⟨by decide +kernel, by decide +kernel⟩, by decide +kernel⟩, iM_X12_lampOf, sE_X12_lampOf⟩
abbrev mX12_faded : Mt := (yX12_faded, cX12_faded, 4, (some .int))
theorem mf_X12_faded : MfV mX12_faded 2 := ⟨⟨cO_X12_faded, iN_X12, ⟨by decide +kernel, by decide +kernel⟩, by decide +kernel⟩, iM_X12_faded, sE_X12_faded⟩
abbrev mX12_guards : Mt := (yX12_guards, cX12_guards, 2, (some .int))
theorem mf_X12_guards : MfV mX12_guards 1 := ⟨⟨cO_X12_guards, iN_X12, ⟨by decide +kernel, by decide +kernel⟩, by decide +kernel⟩, iM_X12_guards, sE_X12_guards⟩
abbrev mX12_law : Mt := (yX12_law, cX12_law, 2, (some .boolean))
theorem mf_X12_law : MfV mX12_law 1 := ⟨⟨cO_X12_law, iN_X12, ⟨by decide +kernel, by decide +kernel⟩, by decide +kernel⟩, iM_X12_law, sE_X12_law⟩
abbrev mX12_sent : Mt := (yX12_sent, cX12_sent, 4, (some .int))
theorem mf_X12_sent : MfV mX12_sent 3 := ⟨⟨cO_X12_sent, iN_X12, ⟨by decide +kernel, by decide +kernel⟩, by decide +kernel⟩, iM_X12_sent, sE_X12_sent⟩
abbrev mX12_keep : Mt := (yX12_keep, cX12_keep, 2, (none : Option Jvm.ClassFile.FieldType))
theorem mf_X12_keep : MfV mX12_keep 0 := ⟨⟨cO_X12_keep, iN_X12, ⟨by decide +kernel, by decide +kernel⟩, by decide +kernel⟩, iM_X12_keep, sE_X12_keep⟩
abbrev mX12_lamp : Mt := (yX12_lamp, cX12_lamp, 4, (some .int))
theorem mf_X12_lamp : MfV mX12_lamp 2 := ⟨⟨cO_X12_lamp, iN_X12, ⟨by decide +kernel, by decide +kernel⟩, by decide +kernel⟩, iM_X12_lamp, sE_X12_lamp⟩
abbrev mX12_show : Mt := (yX12_show, cX12_show, 7, (some .int))
theorem mf_X12_show : MfV mX12_show 3 := ⟨⟨cO_X12_show, iN_X12, ⟨by decide +kernel, by decide +kernel⟩, by decide +kernel⟩, iM_X12_show, sE_X12_show⟩
abbrev mX12_guard : Mt := (yX12_guard, cX12_guard, 3, (some .int))
theorem mf_X12_guard : MfV mX12_guard 2 := ⟨⟨cO_X12_guard, iN_X12, ⟨by decide +kernel, by decide +kernel⟩, by decide +kernel⟩, iM_X12_guard, sE_X12_guard⟩
abbrev mX12_go : Mt := (yX12_go, cX12_go, 3, (some .int))
theorem mf_X12_go : MfV mX12_go 1 := ⟨⟨cO_X12_go, iN_X12, ⟨by decide +kernel, by decide +kernel⟩, by decide +kernel⟩, iM_X12_go, sE_X12_go⟩
abbrev mX12_areHours : Mt := (yX12_areHours, cX12_areHours, 2, (some .boolean))
theorem mf_X12_areHours : MfV mX12_areHours 1 := ⟨⟨cO_X12_areHours, iN_X12, ⟨by decide +kernel, by decide +kernel⟩, by decide +kernel⟩, iM_X12_areHours, sE_X12_areHours⟩
abbrev mX12_pass : Mt := (yX12_pass, cX12_pass, 6, (none : Option Jvm.ClassFile.FieldType))
theorem mf_X12_pass : MfV mX12_pass 2 := ⟨⟨cO_X12_pass, iN_X12, ⟨by decide +kernel, by decide +kernel⟩, by decide +kernel⟩, iM_X12_pass, sE_X12_pass⟩
abbrev mX12_draw : Mt := (yX12_draw, cX12_draw, 2, (some .int))
theorem mf_X12_draw : MfV mX12_draw 1 := ⟨⟨cO_X12_draw, iN_X12, ⟨by decide +kernel, by decide +kernel⟩, by decide +kernel⟩, iM_X12_draw, sE_X12_draw⟩
abbrev mX12_note : Mt := (yX12_note, cX12_note, 3, (none : Option Jvm.ClassFile.FieldType))
theorem mf_X12_note : MfV mX12_note 1 := ⟨⟨cO_X12_note, iN_X12, ⟨by decide +kernel, by decide +kernel⟩, by decide +kernel⟩, iM_X12_note, sE_X12_note⟩
abbrev mX12_fogs : Mt := (yX12_fogs, cX12_fogs, 2, (some .boolean))
theorem mf_X12_fogs : MfV mX12_fogs 1 := ⟨⟨cO_X12_fogs, iN_X12, ⟨by decide +kernel, by decide +kernel⟩, by decide +kernel⟩, iM_X12_fogs, sE_X12_fogs⟩
abbrev mX12_years : Mt := (yX12_years, cX12_years, 6, (some .int))
theorem mf_X12_years : MfV mX12_years 2 := ⟨⟨cO_X12_years, iN_X12, ⟨by decide +kernel, by decide +kernel⟩, by decide +kernel⟩, iM_X12_years, sE_X12_years⟩
abbrev mX12_undo : Mt := (yX12_undo, cX12_undo, 2, (some .int))
theorem mf_X12_undo : MfV mX12_undo 0 := ⟨⟨cO_X12_undo, iN_X12, ⟨by decide +kernel, by decide +kernel⟩, by decide +kernel⟩, iM_X12_undo, sE_X12_undo⟩
abbrev mX12_log : Mt := (yX12_log, cX12_log, 3, (some .int))
theorem mf_X12_log : MfV mX12_log 2 := ⟨⟨cO_X12_log, iN_X12, ⟨by decide +kernel, by decide +kernel⟩, by decide +kernel⟩, iM_X12_log, sE_X12_log⟩
abbrev mX12_comes : Mt := (yX12_comes, cX12_comes, 4, (some .int))
theorem mf_X12_comes : MfV mX12_comes 3 := ⟨⟨cO_X12_comes, iN_X12, ⟨by decide +kernel, by decide +kernel⟩, by decide +kernel⟩, iM_X12_comes, sE_X12_comes⟩
abbrev mX12_through : Mt := (yX12_through, cX12_through, 6, (some .int))
theorem mf_X12_through : MfV mX12_through 3 := ⟨⟨cO_X12_through, iN_X12, ⟨by decide +kernel, by decide +kernel⟩, by decide +kernel⟩, iM_X12_through, sE_X12_through⟩
abbrev mX12_round : Mt := (yX12_round, cX12_round, 8, (some .int))
theorem mf_X12_round : MfV mX12_round 3 := ⟨⟨cO_X12_round, iN_X12, ⟨by decide +kernel, by decide +kernel⟩, by decide +kernel⟩, iM_X12_round, sE_X12_round⟩
abbrev mX12_changes : Mt := (yX12_changes, cX12_changes, 6, (some .int))
theorem mf_X12_changes : MfV mX12_changes 3 := ⟨⟨cO_X12_changes, iN_X12, ⟨by decide +kernel, by decide +kernel⟩, by decide +kernel⟩, iM_X12_changes, sE_X12_changes⟩
abbrev mX12_areMouths : Mt := (yX12_areMouths, cX12_areMouths, 3, (some .boolean))
theorem mf_X12_areMouths : MfV mX12_areMouths 2 := ⟨⟨cO_X12_areMouths, iN_X12, ⟨by decide +kernel, by decide +kernel⟩, by decide +kernel⟩, iM_X12_areMouths, sE_X12_areMouths⟩
abbrev mX12_isSet : Mt := (yX12_isSet, cX12_isSet, 2, (some .boolean))
theorem mf_X12_isSet : MfV mX12_isSet 1 := ⟨⟨cO_X12_isSet, iN_X12, ⟨by decide +kernel, by decide +kernel⟩, by decide +kernel⟩, iM_X12_isSet, sE_X12_isSet⟩
abbrev mX12_everyColour : Mt := (yX12_everyColour, cX12_everyColour, 1, (some .int))
theorem mf_X12_everyColour : MfV mX12_everyColour 0 := ⟨⟨cO_X12_everyColour, iN_X12, ⟨by decide +kernel, by decide +kernel⟩, by decide +kernel⟩, iM_X12_everyColour, sE_X12_everyColour⟩
abbrev mX12_layChanges : Mt := (yX12_layChanges, cX12_layChanges, 6, (none : Option Jvm.ClassFile.FieldType))
theorem mf_X12_layChanges : MfV mX12_layChanges 2 := ⟨⟨cO_X12_layChanges, iN_X12, ⟨by decide +kernel, by decide +kernel⟩, by decide +kernel⟩, iM_X12_layChanges, sE_X12_layChanges⟩
abbrev mX12_spreadChanges : Mt := (yX12_spreadChanges, cX12_spreadChanges, 9, (some .boolean))
theorem mf_X12_spreadChanges : MfV mX12_spreadChanges 3 := ⟨⟨cO_X12_spreadChanges, iN_X12, ⟨by decide +kernel, by decide +kernel⟩, by decide +kernel⟩, iM_X12_spreadChanges, sE_X12_spreadChanges⟩
abbrev mX12_soonest : Mt := (yX12_soonest, cX12_soonest, 6, (some .int))
theorem mf_X12_soonest : MfV mX12_soonest 4 := ⟨⟨cO_X12_soonest, iN_X12, ⟨by decide +kernel, by decide +kernel⟩, by decide +kernel⟩, iM_X12_soonest, sE_X12_soonest⟩
abbrev mX12_layAway : Mt := (yX12_layAway, cX12_layAway, 10, (none : Option Jvm.ClassFile.FieldType))
theorem mf_X12_layAway : MfV mX12_layAway 4 := ⟨⟨cO_X12_layAway, iN_X12, ⟨by decide +kernel, by decide +kernel⟩, by decide +kernel⟩, iM_X12_layAway, sE_X12_layAway⟩
abbrev mX12_costOf : Mt := (yX12_costOf, cX12_costOf, 4, (some .int))
theorem mf_X12_costOf : MfV mX12_costOf 3 := ⟨⟨cO_X12_costOf, iN_X12, ⟨by decide +kernel, by decide +kernel⟩, by decide +kernel⟩, iM_X12_costOf, sE_X12_costOf⟩
abbrev mX12_cheapest : Mt := (yX12_cheapest, cX12_cheapest, 4, (some .int))
theorem mf_X12_cheapest : MfV mX12_cheapest 3 := ⟨⟨cO_X12_cheapest, iN_X12, ⟨by decide +kernel, by decide +kernel⟩, by decide +kernel⟩, iM_X12_cheapest, sE_X12_cheapest⟩
abbrev mX12_reached : Mt := (yX12_reached, cX12_reached, 3, (some .int))
theorem mf_X12_reached : MfV mX12_reached 2 := ⟨⟨cO_X12_reached, iN_X12, ⟨by decide +kernel, by decide +kernel⟩, by decide +kernel⟩, iM_X12_reached, sE_X12_reached⟩
abbrev mX12_reachedFrom : Mt := (yX12_reachedFrom, cX12_reachedFrom, 7, (some .int))
theorem mf_X12_reachedFrom : MfV mX12_reachedFrom 2 := ⟨⟨cO_X12_reachedFrom, iN_X12, ⟨by decide +kernel, by decide +kernel⟩, by decide +kernel⟩, iM_X12_reachedFrom, sE_X12_reachedFrom⟩
abbrev mX12_lamps : Mt := (yX12_lamps, cX12_lamps, 5, (some .int))
theorem mf_X12_lamps : MfV mX12_lamps 0 := ⟨⟨cO_X12_lamps, iN_X12, ⟨by decide +kernel, by decide +kernel⟩, by decide +kernel⟩, iM_X12_lamps, sE_X12_lamps⟩
abbrev mX12_isFewer : Mt := (yX12_isFewer, cX12_isFewer, 2, (some .boolean))
theorem mf_X12_isFewer : MfT mX12_isFewer 2 := ⟨⟨cO_X12_isFewer, iN_X12, ⟨by decide +kernel, by decide +kernel⟩, by decide +kernel⟩, sT_X12_isFewer⟩
abbrev mX12_timetable : Mt := (yX12_timetable, cX12_timetable, 2, (some .int))
theorem mf_X12_timetable : MfV mX12_timetable 1 := ⟨⟨cO_X12_timetable, iN_X12, ⟨by decide +kernel, by decide +kernel⟩, by decide +kernel⟩, iM_X12_timetable, sE_X12_timetable⟩
abbrev mX12_layOuts : Mt := (yX12_layOuts, cX12_layOuts, 3, (none : Option Jvm.ClassFile.FieldType))
theorem mf_X12_layOuts : MfV mX12_layOuts 0 := ⟨⟨cO_X12_layOuts, iN_X12, ⟨by decide +kernel, by decide +kernel⟩, by decide +kernel⟩, iM_X12_layOuts, sE_X12_layOuts⟩
abbrev mX12_layOut : Mt := (yX12_layOut, cX12_layOut, 9, (none : Option Jvm.ClassFile.FieldType))
theorem mf_X12_layOut : MfV mX12_layOut 2 := ⟨⟨cO_X12_layOut, iN_X12, ⟨by decide +kernel, by decide +kernel⟩, by decide +kernel⟩, iM_X12_layOut, sE_X12_layOut⟩
abbrev mX12_tryTable : Mt := (yX12_tryTable, cX12_tryTable, 7, (none : Option Jvm.ClassFile.FieldType))
theorem mf_X12_tryTable : MfV mX12_tryTable 3 := ⟨⟨cO_X12_tryTable, iN_X12, ⟨by decide +kernel, by decide +kernel⟩, by decide +kernel⟩, iM_X12_tryTable, sE_X12_tryTable⟩
abbrev mX12_clashesOf : Mt := (yX12_clashesOf, cX12_clashesOf, 10, (some .int))
theorem mf_X12_clashesOf : MfV mX12_clashesOf 4 := ⟨⟨cO_X12_clashesOf, iN_X12, ⟨by decide +kernel, by decide +kernel⟩, by decide +kernel⟩, iM_X12_clashesOf, sE_X12_clashesOf⟩
abbrev mX12_clashes : Mt := (yX12_clashes, cX12_clashes, 4, (some .int))
theorem mf_X12_clashes : MfV mX12_clashes 0 := ⟨⟨cO_X12_clashes, iN_X12, ⟨by decide +kernel, by decide +kernel⟩, by decide +kernel⟩, iM_X12_clashes, sE_X12_clashes⟩
abbrev mX12_lay : Mt := (yX12_lay, cX12_lay, 5, (some .int))
theorem mf_X12_lay : MfV mX12_lay 4 := ⟨⟨cO_X12_lay, iN_X12, ⟨by decide +kernel, by decide +kernel⟩, by decide +kernel⟩, iM_X12_lay, sE_X12_lay⟩
abbrev mX12_nets : Mt := (yX12_nets, cX12_nets, 2, (some .int))
theorem mf_X12_nets : MfV mX12_nets 1 := ⟨⟨cO_X12_nets, iN_X12, ⟨by decide +kernel, by decide +kernel⟩, by decide +kernel⟩, iM_X12_nets, sE_X12_nets⟩
abbrev mX12_layNets : Mt := (yX12_layNets, cX12_layNets, 4, (some .int))
theorem mf_X12_layNets : MfV mX12_layNets 1 := ⟨⟨cO_X12_layNets, iN_X12, ⟨by decide +kernel, by decide +kernel⟩, by decide +kernel⟩, iM_X12_layNets, sE_X12_layNets⟩
abbrev mX12_unknownNow : Mt := (yX12_unknownNow, cX12_unknownNow, 2, (some .int))
theorem mf_X12_unknownNow : MfV mX12_unknownNow 0 := ⟨⟨cO_X12_unknownNow, iN_X12, ⟨by decide +kernel, by decide +kernel⟩, by decide +kernel⟩, iM_X12_unknownNow, sE_X12_unknownNow⟩
abbrev mX12_unknownAt : Mt := (yX12_unknownAt, cX12_unknownAt, 5, (some .int))
theorem mf_X12_unknownAt : MfV mX12_unknownAt 1 := ⟨⟨cO_X12_unknownAt, iN_X12, ⟨by decide +kernel, by decide +kernel⟩, by decide +kernel⟩, iM_X12_unknownAt, sE_X12_unknownAt⟩
abbrev mX12_tryNets : Mt := (yX12_tryNets, cX12_tryNets, 6, (none : Option Jvm.ClassFile.FieldType))
theorem mf_X12_tryNets : MfV mX12_tryNets 4 := ⟨⟨cO_X12_tryNets, iN_X12, ⟨by decide +kernel, by decide +kernel⟩, by decide +kernel⟩, iM_X12_tryNets, sE_X12_tryNets⟩
abbrev mX12_areLaidSo : Mt := (yX12_areLaidSo, cX12_areLaidSo, 2, (some .boolean))
theorem mf_X12_areLaidSo : MfV mX12_areLaidSo 0 := ⟨⟨cO_X12_areLaidSo, iN_X12, ⟨by decide +kernel, by decide +kernel⟩, by decide +kernel⟩, iM_X12_areLaidSo, sE_X12_areLaidSo⟩
abbrev mX12_ten : Mt := (yX12_ten, cX12_ten, 3, (some .int))
theorem mf_X12_ten : MfT mX12_ten 1 := ⟨⟨cO_X12_ten, iN_X12, ⟨by decide +kernel, by decide +kernel⟩, by decide +kernel⟩, sT_X12_ten⟩
abbrev mX12_could : Mt := (yX12_could, cX12_could, 5, (some .int))
theorem mf_X12_could : MfV mX12_could 1 := ⟨⟨cO_X12_could, iN_X12, ⟨by decide +kernel, by decide +kernel⟩, by decide +kernel⟩, iM_X12_could, sE_X12_could⟩
abbrev mX12_tells : Mt := (yX12_tells, cX12_tells, 8, (some .int))
theorem mf_X12_tells : MfV mX12_tells 1 := ⟨⟨cO_X12_tells, iN_X12, ⟨by decide +kernel, by decide +kernel⟩, by decide +kernel⟩, iM_X12_tells, sE_X12_tells⟩
abbrev mX12_yards : Mt := (yX12_yards, cX12_yards, 6, (some .int))
theorem mf_X12_yards : MfV mX12_yards 3 := ⟨⟨cO_X12_yards, iN_X12, ⟨by decide +kernel, by decide +kernel⟩, by decide +kernel⟩, iM_X12_yards, sE_X12_yards⟩
abbrev mX12_comesOut : Mt := (yX12_comesOut, cX12_comesOut, 8, (some .boolean))
theorem mf_X12_comesOut : MfV mX12_comesOut 4 := ⟨⟨cO_X12_comesOut, iN_X12, ⟨by decide +kernel, by decide +kernel⟩, by decide +kernel⟩, iM_X12_comesOut, sE_X12_comesOut⟩
abbrev mX12_unseen : Mt := (yX12_unseen, cX12_unseen, 3, (some .int))
theorem mf_X12_unseen : MfV mX12_unseen 2 := ⟨⟨cO_X12_unseen, iN_X12, ⟨by decide +kernel, by decide +kernel⟩, by decide +kernel⟩, iM_X12_unseen, sE_X12_unseen⟩
abbrev mX12_guarded : Mt := (yX12_guarded, cX12_guarded, 3, (some .int))
theorem mf_X12_guarded : MfV mX12_guarded 0 := ⟨⟨cO_X12_guarded, iN_X12, ⟨by decide +kernel, by decide +kernel⟩, by decide +kernel⟩, iM_X12_guarded, sE_X12_guarded⟩
abbrev mX12_posts : Mt := (yX12_posts, cX12_posts, 5, (some .int))
theorem mf_X12_posts : MfV mX12_posts 2 := ⟨⟨cO_X12_posts, iN_X12, ⟨by decide +kernel, by decide +kernel⟩, by decide +kernel⟩, iM_X12_posts, sE_X12_posts⟩
abbrev mX12_halves : Mt := (yX12_halves, cX12_halves, 5, (some .int))
theorem mf_X12_halves : MfV mX12_halves 3 := ⟨⟨cO_X12_halves, iN_X12, ⟨by decide +kernel, by decide +kernel⟩, by decide +kernel⟩, iM_X12_halves, sE_X12_halves⟩
abbrev mX12_areTogether : Mt := (yX12_areTogether, cX12_areTogether, 2, (some .boolean))
theorem mf_X12_areTogether : MfV mX12_areTogether 0 := ⟨⟨cO_X12_areTogether, iN_X12, ⟨by decide +kernel, by decide +kernel⟩, by decide +kernel⟩, iM_X12_areTogether, sE_X12_areTogether⟩
abbrev mX12_goTogether : Mt := (yX12_goTogether, cX12_goTogether, 4, (none : Option Jvm.ClassFile.FieldType))
theorem mf_X12_goTogether : MfV mX12_goTogether 1 := ⟨⟨cO_X12_goTogether, iN_X12, ⟨by decide +kernel, by decide +kernel⟩, by decide +kernel⟩, iM_X12_goTogether, sE_X12_goTogether⟩
abbrev mX12_smuggles : Mt := (yX12_smuggles, cX12_smuggles, 5, (some .int))
theorem mf_X12_smuggles : MfV mX12_smuggles 4 := ⟨⟨cO_X12_smuggles, iN_X12, ⟨by decide +kernel, by decide +kernel⟩, by decide +kernel⟩, iM_X12_smuggles, sE_X12_smuggles⟩
abbrev mX12_smugglesOf : Mt := (yX12_smugglesOf, cX12_smugglesOf, 7, (some .int))
theorem mf_X12_smugglesOf : MfV mX12_smugglesOf 4 := ⟨⟨cO_X12_smugglesOf, iN_X12, ⟨by decide +kernel, by decide +kernel⟩, by decide +kernel⟩, iM_X12_smugglesOf, sE_X12_smugglesOf⟩
abbrev mX12_rests : Mt := (yX12_rests, cX12_rests, 7, (some .int))
theorem mf_X12_rests : MfV mX12_rests 3 := ⟨⟨cO_X12_rests, iN_X12, ⟨by decide +kernel, by decide +kernel⟩, by decide +kernel⟩, iM_X12_rests, sE_X12_rests⟩
abbrev mX12_isRest : Mt := (yX12_isRest, cX12_isRest, 7, (some .boolean))
theorem mf_X12_isRest : MfV mX12_isRest 4 := ⟨⟨cO_X12_isRest, iN_X12, ⟨by decide +kernel, by decide +kernel⟩, by decide +kernel⟩, iM_X12_isRest, sE_X12_isRest⟩
abbrev mX12_astray : Mt := (yX12_astray, cX12_astray, 3, (some .int))
theorem mf_X12_astray : MfV mX12_astray 0 := ⟨⟨cO_X12_astray, iN_X12, ⟨by decide +kernel, by decide +kernel⟩, by decide +kernel⟩, iM_X12_astray, sE_X12_astray⟩
abbrev mX12_due : Mt := (yX12_due, cX12_due, 2, (some .int))
theorem mf_X12_due : MfV mX12_due 1 := ⟨⟨cO_X12_due, iN_X12, ⟨by decide +kernel, by decide +kernel⟩, by decide +kernel⟩, iM_X12_due, sE_X12_due⟩
abbrev mX12_loops : Mt := (yX12_loops, cX12_loops, 4, (some .int))
theorem mf_X12_loops : MfV mX12_loops 1 := ⟨⟨cO_X12_loops, iN_X12, ⟨by decide +kernel, by decide +kernel⟩, by decide +kernel⟩, iM_X12_loops, sE_X12_loops⟩
abbrev mX12_safe : Mt := (yX12_safe, cX12_safe, 5, (some .int))
theorem mf_X12_safe : MfV mX12_safe 0 := ⟨⟨cO_X12_safe, iN_X12, ⟨by decide +kernel, by decide +kernel⟩, by decide +kernel⟩, iM_X12_safe, sE_X12_safe⟩
abbrev mX12_visits : Mt := (yX12_visits, cX12_visits, 4, (some .int))
theorem mf_X12_visits : MfV mX12_visits 1 := ⟨⟨cO_X12_visits, iN_X12, ⟨by decide +kernel, by decide +kernel⟩, by decide +kernel⟩, iM_X12_visits, sE_X12_visits⟩
abbrev mX12_image : Mt := (yX12_image, cX12_image, 2, (some .int))
theorem mf_X12_image : MfV mX12_image 0 := ⟨⟨cO_X12_image, iN_X12, ⟨by decide +kernel, by decide +kernel⟩, by decide +kernel⟩, iM_X12_image, sE_X12_image⟩
abbrev mX12_back : Mt := (yX12_back, cX12_back, 2, (some .int))
theorem mf_X12_back : MfV mX12_back 0 := ⟨⟨cO_X12_back, iN_X12, ⟨by decide +kernel, by decide +kernel⟩, by decide +kernel⟩, iM_X12_back, sE_X12_back⟩
abbrev mX12_count : Mt := (yX12_count, cX12_count, 2, (some .int))
theorem mf_X12_count : MfV mX12_count 1 := ⟨⟨cO_X12_count, iN_X12, ⟨by decide +kernel, by decide +kernel⟩, by decide +kernel⟩, iM_X12_count, sE_X12_count⟩
abbrev mX12_guardsInAll : Mt := (yX12_guardsInAll, cX12_guardsInAll, 3, (some .int))
theorem mf_X12_guardsInAll : MfV mX12_guardsInAll 0 := ⟨⟨cO_X12_guardsInAll, iN_X12, ⟨by decide +kernel, by decide +kernel⟩, by decide +kernel⟩, iM_X12_guardsInAll, sE_X12_guardsInAll⟩
theorem nl_X11_9 : (RX11, 9, yX9_init, RX11) ∈ nestL := List.mem_of_getElem? (i := 0) rfl
theorem nl_X11_18 : (RX11, 18, yX5_init, RX11) ∈ nestL := List.mem_of_getElem? (i := 1) rfl
theorem nl_X11_37 : (RX11, 37, yX3_init, RX11) ∈ nestL := List.mem_of_getElem? (i := 2) rfl
theorem nl_X11_53 : (RX11, 53, yX4_init, RX11) ∈ nestL := List.mem_of_getElem? (i := 3) rfl
theorem nl_X0_17 : (RX0, 17, yX4_init, RX11) ∈ nestL := List.mem_of_getElem? (i := 4) rfl
theorem nl_X9_33 : (RX9, 33, yX11_put, RX11) ∈ nestL := List.mem_of_getElem? (i := 5) rfl
theorem nl_X5_31 : (RX5, 31, yX11_put, RX11) ∈ nestL := List.mem_of_getElem? (i := 6) rfl
theorem nl_X5_24 : (RX5, 24, yX11_at, RX11) ∈ nestL := List.mem_of_getElem? (i := 7) rfl
theorem nl_X6_68 : (RX6, 68, yX11_at, RX11) ∈ nestL := List.mem_of_getElem? (i := 8) rfl
theorem nl_X6_72 : (RX6, 72, yX11_put, RX11) ∈ nestL := List.mem_of_getElem? (i := 9) rfl
theorem nl_X6_106 : (RX6, 106, yX11_holds, RX11) ∈ nestL := List.mem_of_getElem? (i := 10) rfl
theorem nl_X9_57 : (RX9, 57, yX11_at, RX11) ∈ nestL := List.mem_of_getElem? (i := 11) rfl
theorem nl_X5_60 : (RX5, 60, yX11_darkOf, RX11) ∈ nestL := List.mem_of_getElem? (i := 12) rfl
theorem nl_X3_33 : (RX3, 33, yX11_put, RX11) ∈ nestL := List.mem_of_getElem? (i := 13) rfl
theorem nl_X3_37 : (RX3, 37, yX11_at, RX11) ∈ nestL := List.mem_of_getElem? (i := 14) rfl
theorem nl_X5_35 : (RX5, 35, yX11_copy, RX11) ∈ nestL := List.mem_of_getElem? (i := 15) rfl
theorem nl_X4_87 : (RX4, 87, yX11_darkOf, RX11) ∈ nestL := List.mem_of_getElem? (i := 16) rfl
theorem nl_X4_62 : (RX4, 62, yX11_put, RX11) ∈ nestL := List.mem_of_getElem? (i := 17) rfl
theorem nl_X4_76 : (RX4, 76, yX11_at, RX11) ∈ nestL := List.mem_of_getElem? (i := 18) rfl
theorem nl_X4_37 : (RX4, 37, yX11_copy, RX11) ∈ nestL := List.mem_of_getElem? (i := 19) rfl
theorem nl_X1_54 : (RX1, 54, yX11_faded, RX11) ∈ nestL := List.mem_of_getElem? (i := 20) rfl
theorem nl_X1_91 : (RX1, 91, yX11_put, RX11) ∈ nestL := List.mem_of_getElem? (i := 21) rfl
theorem nl_X1_108 : (RX1, 108, yX11_at, RX11) ∈ nestL := List.mem_of_getElem? (i := 22) rfl
theorem nl_X10_76 : (RX10, 76, yX11_holds, RX11) ∈ nestL := List.mem_of_getElem? (i := 23) rfl
theorem nl_X10_108 : (RX10, 108, yX11_put, RX11) ∈ nestL := List.mem_of_getElem? (i := 24) rfl
theorem nl_X10_116 : (RX10, 116, yX11_at, RX11) ∈ nestL := List.mem_of_getElem? (i := 25) rfl
theorem nl_X7_69 : (RX7, 69, yX11_faded, RX11) ∈ nestL := List.mem_of_getElem? (i := 26) rfl
theorem nl_X7_80 : (RX7, 80, yX11_put, RX11) ∈ nestL := List.mem_of_getElem? (i := 27) rfl
theorem nl_X7_84 : (RX7, 84, yX11_at, RX11) ∈ nestL := List.mem_of_getElem? (i := 28) rfl
theorem nl_X7_108 : (RX7, 108, yX11_holds, RX11) ∈ nestL := List.mem_of_getElem? (i := 29) rfl
theorem nl_X8_39 : (RX8, 39, yX11_put, RX11) ∈ nestL := List.mem_of_getElem? (i := 30) rfl
theorem nl_X8_69 : (RX8, 69, yX11_at, RX11) ∈ nestL := List.mem_of_getElem? (i := 31) rfl
theorem nl_X8_77 : (RX8, 77, yX11_darkOf, RX11) ∈ nestL := List.mem_of_getElem? (i := 32) rfl
